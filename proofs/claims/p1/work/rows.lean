section
-- ===== PART A: goes FIRST, ahead of the names: the tables' words, and 'selects' of the private methods out of them =====
/-- a private method of a class that the tables say can be made, by its rows of tables_1 -/
def lw_okq (q : MethodName × Nat) : Prop := (q.1.cls ≠ "java/lang/invoke/MethodHandle" ∧ q.1.cls ≠ "java/lang/invoke/VarHandle") ∧ Cond.instantiable q.1.cls q.2 ∈ tables_1 ∧ Cond.privateMethod q.1 ∈ tables_1 ∧ Cond.instanceMethod q.1 ∈ tables_1
theorem lw_p0 : lw_okq (⟨"PromiseTailor", "textOf", "(I)LPromiseTailor$Text;"⟩, 13) := ⟨⟨by decide +kernel, by decide +kernel⟩, List.mem_of_getElem? (i := 14) (by decide +kernel), List.mem_of_getElem? (i := 271) (by decide +kernel), List.mem_of_getElem? (i := 272) (by decide +kernel)⟩
theorem lw_p1 : lw_okq (⟨"PromiseTailor", "takeTexts", "()V"⟩, 13) := ⟨⟨by decide +kernel, by decide +kernel⟩, List.mem_of_getElem? (i := 14) (by decide +kernel), List.mem_of_getElem? (i := 279) (by decide +kernel), List.mem_of_getElem? (i := 280) (by decide +kernel)⟩
theorem lw_p2 : lw_okq (⟨"PromiseTailor", "found", "(I)I"⟩, 13) := ⟨⟨by decide +kernel, by decide +kernel⟩, List.mem_of_getElem? (i := 14) (by decide +kernel), List.mem_of_getElem? (i := 389) (by decide +kernel), List.mem_of_getElem? (i := 390) (by decide +kernel)⟩
theorem lw_p3 : lw_okq (⟨"PromiseTailor", "liveUntil", "(I)V"⟩, 13) := ⟨⟨by decide +kernel, by decide +kernel⟩, List.mem_of_getElem? (i := 14) (by decide +kernel), List.mem_of_getElem? (i := 397) (by decide +kernel), List.mem_of_getElem? (i := 398) (by decide +kernel)⟩
theorem lw_p4 : lw_okq (⟨"PromiseTailor$Course", "enter", "(III)V"⟩, 15) := ⟨⟨by decide +kernel, by decide +kernel⟩, List.mem_of_getElem? (i := 50) (by decide +kernel), List.mem_of_getElem? (i := 406) (by decide +kernel), List.mem_of_getElem? (i := 407) (by decide +kernel)⟩
theorem lw_p5 : lw_okq (⟨"PromiseTailor$Course", "enterAll", "(LPromiseTailor$Told;I)V"⟩, 15) := ⟨⟨by decide +kernel, by decide +kernel⟩, List.mem_of_getElem? (i := 50) (by decide +kernel), List.mem_of_getElem? (i := 411) (by decide +kernel), List.mem_of_getElem? (i := 412) (by decide +kernel)⟩
theorem lw_p6 : lw_okq (⟨"PromiseTailor$Course", "gain", "(I)I"⟩, 15) := ⟨⟨by decide +kernel, by decide +kernel⟩, List.mem_of_getElem? (i := 50) (by decide +kernel), List.mem_of_getElem? (i := 427) (by decide +kernel), List.mem_of_getElem? (i := 428) (by decide +kernel)⟩
theorem lw_p7 : lw_okq (⟨"PromiseTailor$Course", "lengthen", "(II)V"⟩, 15) := ⟨⟨by decide +kernel, by decide +kernel⟩, List.mem_of_getElem? (i := 50) (by decide +kernel), List.mem_of_getElem? (i := 431) (by decide +kernel), List.mem_of_getElem? (i := 432) (by decide +kernel)⟩
theorem lw_p8 : lw_okq (⟨"PromiseTailor$Course", "fulfil", "(I)V"⟩, 15) := ⟨⟨by decide +kernel, by decide +kernel⟩, List.mem_of_getElem? (i := 50) (by decide +kernel), List.mem_of_getElem? (i := 435) (by decide +kernel), List.mem_of_getElem? (i := 436) (by decide +kernel)⟩
theorem lw_p9 : lw_okq (⟨"PromiseTailor$Course", "fail", "(I)V"⟩, 15) := ⟨⟨by decide +kernel, by decide +kernel⟩, List.mem_of_getElem? (i := 50) (by decide +kernel), List.mem_of_getElem? (i := 443) (by decide +kernel), List.mem_of_getElem? (i := 444) (by decide +kernel)⟩
theorem lw_p10 : lw_okq (⟨"PromiseTailor$Course", "shorten", "(II)V"⟩, 15) := ⟨⟨by decide +kernel, by decide +kernel⟩, List.mem_of_getElem? (i := 50) (by decide +kernel), List.mem_of_getElem? (i := 447) (by decide +kernel), List.mem_of_getElem? (i := 448) (by decide +kernel)⟩
theorem lw_p11 : lw_okq (⟨"PromiseTailor", "liesToHush", "()I"⟩, 13) := ⟨⟨by decide +kernel, by decide +kernel⟩, List.mem_of_getElem? (i := 14) (by decide +kernel), List.mem_of_getElem? (i := 519) (by decide +kernel), List.mem_of_getElem? (i := 520) (by decide +kernel)⟩
theorem lw_p12 : lw_okq (⟨"PromiseTailor", "leavesNobodyNaked", "(I)Z"⟩, 13) := ⟨⟨by decide +kernel, by decide +kernel⟩, List.mem_of_getElem? (i := 14) (by decide +kernel), List.mem_of_getElem? (i := 523) (by decide +kernel), List.mem_of_getElem? (i := 524) (by decide +kernel)⟩
theorem lw_p13 : lw_okq (⟨"PromiseTailor$Course", "showsBehind", "(ILPromiseTailor$Told;)Z"⟩, 15) := ⟨⟨by decide +kernel, by decide +kernel⟩, List.mem_of_getElem? (i := 50) (by decide +kernel), List.mem_of_getElem? (i := 549) (by decide +kernel), List.mem_of_getElem? (i := 550) (by decide +kernel)⟩
theorem lw_p14 : lw_okq (⟨"PromiseTailor", "fittingValues", "([III)I"⟩, 13) := ⟨⟨by decide +kernel, by decide +kernel⟩, List.mem_of_getElem? (i := 14) (by decide +kernel), List.mem_of_getElem? (i := 557) (by decide +kernel), List.mem_of_getElem? (i := 558) (by decide +kernel)⟩
theorem lw_p15 : lw_okq (⟨"PromiseTailor", "noteCoatsBySize", "(I)V"⟩, 13) := ⟨⟨by decide +kernel, by decide +kernel⟩, List.mem_of_getElem? (i := 14) (by decide +kernel), List.mem_of_getElem? (i := 565) (by decide +kernel), List.mem_of_getElem? (i := 566) (by decide +kernel)⟩
def lw_privs_1 : List (MethodName × Nat) := [(⟨"PromiseTailor", "textOf", "(I)LPromiseTailor$Text;"⟩, 13), (⟨"PromiseTailor", "takeTexts", "()V"⟩, 13), (⟨"PromiseTailor", "found", "(I)I"⟩, 13), (⟨"PromiseTailor", "liveUntil", "(I)V"⟩, 13), (⟨"PromiseTailor$Course", "enter", "(III)V"⟩, 15), (⟨"PromiseTailor$Course", "enterAll", "(LPromiseTailor$Told;I)V"⟩, 15), (⟨"PromiseTailor$Course", "gain", "(I)I"⟩, 15), (⟨"PromiseTailor$Course", "lengthen", "(II)V"⟩, 15), (⟨"PromiseTailor$Course", "fulfil", "(I)V"⟩, 15), (⟨"PromiseTailor$Course", "fail", "(I)V"⟩, 15), (⟨"PromiseTailor$Course", "shorten", "(II)V"⟩, 15), (⟨"PromiseTailor", "liesToHush", "()I"⟩, 13), (⟨"PromiseTailor", "leavesNobodyNaked", "(I)Z"⟩, 13), (⟨"PromiseTailor$Course", "showsBehind", "(ILPromiseTailor$Told;)Z"⟩, 15), (⟨"PromiseTailor", "fittingValues", "([III)I"⟩, 13), (⟨"PromiseTailor", "noteCoatsBySize", "(I)V"⟩, 13)]
theorem lw_r1 : ∀ q ∈ lw_privs_1, lw_okq q := List.forall_mem_cons.mpr ⟨lw_p0, List.forall_mem_cons.mpr ⟨lw_p1, List.forall_mem_cons.mpr ⟨lw_p2, List.forall_mem_cons.mpr ⟨lw_p3, List.forall_mem_cons.mpr ⟨lw_p4, List.forall_mem_cons.mpr ⟨lw_p5, List.forall_mem_cons.mpr ⟨lw_p6, List.forall_mem_cons.mpr ⟨lw_p7, List.forall_mem_cons.mpr ⟨lw_p8, List.forall_mem_cons.mpr ⟨lw_p9, List.forall_mem_cons.mpr ⟨lw_p10, List.forall_mem_cons.mpr ⟨lw_p11, List.forall_mem_cons.mpr ⟨lw_p12, List.forall_mem_cons.mpr ⟨lw_p13, List.forall_mem_cons.mpr ⟨lw_p14, List.forall_mem_cons.mpr ⟨lw_p15, fun _ h => absurd h List.not_mem_nil⟩⟩⟩⟩⟩⟩⟩⟩⟩⟩⟩⟩⟩⟩⟩⟩
theorem lw_p16 : lw_okq (⟨"PromiseTailor", "mostAlike", "(II)I"⟩, 13) := ⟨⟨by decide +kernel, by decide +kernel⟩, List.mem_of_getElem? (i := 14) (by decide +kernel), List.mem_of_getElem? (i := 569) (by decide +kernel), List.mem_of_getElem? (i := 570) (by decide +kernel)⟩
theorem lw_p17 : lw_okq (⟨"PromiseTailor", "keepingsOf", "(I)I"⟩, 13) := ⟨⟨by decide +kernel, by decide +kernel⟩, List.mem_of_getElem? (i := 14) (by decide +kernel), List.mem_of_getElem? (i := 579) (by decide +kernel), List.mem_of_getElem? (i := 580) (by decide +kernel)⟩
theorem lw_p18 : lw_okq (⟨"PromiseTailor", "drawKeepings", "(II)V"⟩, 13) := ⟨⟨by decide +kernel, by decide +kernel⟩, List.mem_of_getElem? (i := 14) (by decide +kernel), List.mem_of_getElem? (i := 590) (by decide +kernel), List.mem_of_getElem? (i := 591) (by decide +kernel)⟩
theorem lw_p19 : lw_okq (⟨"PromiseTailor", "withPromise", "(JI)J"⟩, 13) := ⟨⟨by decide +kernel, by decide +kernel⟩, List.mem_of_getElem? (i := 14) (by decide +kernel), List.mem_of_getElem? (i := 661) (by decide +kernel), List.mem_of_getElem? (i := 662) (by decide +kernel)⟩
theorem lw_p20 : lw_okq (⟨"PromiseTailor", "withPerson", "(JI)J"⟩, 13) := ⟨⟨by decide +kernel, by decide +kernel⟩, List.mem_of_getElem? (i := 14) (by decide +kernel), List.mem_of_getElem? (i := 668) (by decide +kernel), List.mem_of_getElem? (i := 669) (by decide +kernel)⟩
theorem lw_p21 : lw_okq (⟨"PromiseTailor", "withCoat", "(JII)J"⟩, 13) := ⟨⟨by decide +kernel, by decide +kernel⟩, List.mem_of_getElem? (i := 14) (by decide +kernel), List.mem_of_getElem? (i := 673) (by decide +kernel), List.mem_of_getElem? (i := 674) (by decide +kernel)⟩
theorem lw_p22 : lw_okq (⟨"PromiseTailorModel", "faultOf", "(I)I"⟩, 45) := ⟨⟨by decide +kernel, by decide +kernel⟩, List.mem_of_getElem? (i := 691) (by decide +kernel), List.mem_of_getElem? (i := 856) (by decide +kernel), List.mem_of_getElem? (i := 857) (by decide +kernel)⟩
theorem lw_p23 : lw_okq (⟨"PromiseTailorModel", "readsParts", "(I)I"⟩, 45) := ⟨⟨by decide +kernel, by decide +kernel⟩, List.mem_of_getElem? (i := 691) (by decide +kernel), List.mem_of_getElem? (i := 860) (by decide +kernel), List.mem_of_getElem? (i := 861) (by decide +kernel)⟩
theorem lw_p24 : lw_okq (⟨"PromiseTailorModel", "readsPerson", "(II)I"⟩, 45) := ⟨⟨by decide +kernel, by decide +kernel⟩, List.mem_of_getElem? (i := 691) (by decide +kernel), List.mem_of_getElem? (i := 864) (by decide +kernel), List.mem_of_getElem? (i := 865) (by decide +kernel)⟩
theorem lw_p25 : lw_okq (⟨"PromiseTailorModel", "byteAt", "(II)I"⟩, 45) := ⟨⟨by decide +kernel, by decide +kernel⟩, List.mem_of_getElem? (i := 691) (by decide +kernel), List.mem_of_getElem? (i := 868) (by decide +kernel), List.mem_of_getElem? (i := 869) (by decide +kernel)⟩
theorem lw_p26 : lw_okq (⟨"PromiseTailorModel", "readsPromise", "(II)I"⟩, 45) := ⟨⟨by decide +kernel, by decide +kernel⟩, List.mem_of_getElem? (i := 691) (by decide +kernel), List.mem_of_getElem? (i := 872) (by decide +kernel), List.mem_of_getElem? (i := 873) (by decide +kernel)⟩
theorem lw_p27 : lw_okq (⟨"PromiseTailorModel", "isPerson", "(I)Z"⟩, 45) := ⟨⟨by decide +kernel, by decide +kernel⟩, List.mem_of_getElem? (i := 691) (by decide +kernel), List.mem_of_getElem? (i := 880) (by decide +kernel), List.mem_of_getElem? (i := 881) (by decide +kernel)⟩
theorem lw_p28 : lw_okq (⟨"PromiseTailorModel", "reads", "()V"⟩, 45) := ⟨⟨by decide +kernel, by decide +kernel⟩, List.mem_of_getElem? (i := 691) (by decide +kernel), List.mem_of_getElem? (i := 884) (by decide +kernel), List.mem_of_getElem? (i := 885) (by decide +kernel)⟩
theorem lw_p29 : lw_okq (⟨"PromiseTailorModel", "personOf", "(II)I"⟩, 45) := ⟨⟨by decide +kernel, by decide +kernel⟩, List.mem_of_getElem? (i := 691) (by decide +kernel), List.mem_of_getElem? (i := 888) (by decide +kernel), List.mem_of_getElem? (i := 889) (by decide +kernel)⟩
theorem lw_p30 : lw_okq (⟨"PromiseTailorModel", "isPromise", "(I)Z"⟩, 45) := ⟨⟨by decide +kernel, by decide +kernel⟩, List.mem_of_getElem? (i := 691) (by decide +kernel), List.mem_of_getElem? (i := 896) (by decide +kernel), List.mem_of_getElem? (i := 897) (by decide +kernel)⟩
theorem lw_p31 : lw_okq (⟨"PromiseTailorModel", "promiseOf", "(II)I"⟩, 45) := ⟨⟨by decide +kernel, by decide +kernel⟩, List.mem_of_getElem? (i := 691) (by decide +kernel), List.mem_of_getElem? (i := 900) (by decide +kernel), List.mem_of_getElem? (i := 901) (by decide +kernel)⟩
def lw_privs_2 : List (MethodName × Nat) := [(⟨"PromiseTailor", "mostAlike", "(II)I"⟩, 13), (⟨"PromiseTailor", "keepingsOf", "(I)I"⟩, 13), (⟨"PromiseTailor", "drawKeepings", "(II)V"⟩, 13), (⟨"PromiseTailor", "withPromise", "(JI)J"⟩, 13), (⟨"PromiseTailor", "withPerson", "(JI)J"⟩, 13), (⟨"PromiseTailor", "withCoat", "(JII)J"⟩, 13), (⟨"PromiseTailorModel", "faultOf", "(I)I"⟩, 45), (⟨"PromiseTailorModel", "readsParts", "(I)I"⟩, 45), (⟨"PromiseTailorModel", "readsPerson", "(II)I"⟩, 45), (⟨"PromiseTailorModel", "byteAt", "(II)I"⟩, 45), (⟨"PromiseTailorModel", "readsPromise", "(II)I"⟩, 45), (⟨"PromiseTailorModel", "isPerson", "(I)Z"⟩, 45), (⟨"PromiseTailorModel", "reads", "()V"⟩, 45), (⟨"PromiseTailorModel", "personOf", "(II)I"⟩, 45), (⟨"PromiseTailorModel", "isPromise", "(I)Z"⟩, 45), (⟨"PromiseTailorModel", "promiseOf", "(II)I"⟩, 45)]
theorem lw_r2 : ∀ q ∈ lw_privs_2, lw_okq q := List.forall_mem_cons.mpr ⟨lw_p16, List.forall_mem_cons.mpr ⟨lw_p17, List.forall_mem_cons.mpr ⟨lw_p18, List.forall_mem_cons.mpr ⟨lw_p19, List.forall_mem_cons.mpr ⟨lw_p20, List.forall_mem_cons.mpr ⟨lw_p21, List.forall_mem_cons.mpr ⟨lw_p22, List.forall_mem_cons.mpr ⟨lw_p23, List.forall_mem_cons.mpr ⟨lw_p24, List.forall_mem_cons.mpr ⟨lw_p25, List.forall_mem_cons.mpr ⟨lw_p26, List.forall_mem_cons.mpr ⟨lw_p27, List.forall_mem_cons.mpr ⟨lw_p28, List.forall_mem_cons.mpr ⟨lw_p29, List.forall_mem_cons.mpr ⟨lw_p30, List.forall_mem_cons.mpr ⟨lw_p31, fun _ h => absurd h List.not_mem_nil⟩⟩⟩⟩⟩⟩⟩⟩⟩⟩⟩⟩⟩⟩⟩⟩
theorem lw_p32 : lw_okq (⟨"PromiseTailorModel", "meets", "(I)I"⟩, 45) := ⟨⟨by decide +kernel, by decide +kernel⟩, List.mem_of_getElem? (i := 691) (by decide +kernel), List.mem_of_getElem? (i := 933) (by decide +kernel), List.mem_of_getElem? (i := 934) (by decide +kernel)⟩
theorem lw_p33 : lw_okq (⟨"PromiseTailorModel", "coatOf", "(III)I"⟩, 45) := ⟨⟨by decide +kernel, by decide +kernel⟩, List.mem_of_getElem? (i := 691) (by decide +kernel), List.mem_of_getElem? (i := 942) (by decide +kernel), List.mem_of_getElem? (i := 943) (by decide +kernel)⟩
theorem lw_p34 : lw_okq (⟨"PromiseTailorModel", "runsTold", "()V"⟩, 45) := ⟨⟨by decide +kernel, by decide +kernel⟩, List.mem_of_getElem? (i := 691) (by decide +kernel), List.mem_of_getElem? (i := 946) (by decide +kernel), List.mem_of_getElem? (i := 947) (by decide +kernel)⟩
theorem lw_p35 : lw_okq (⟨"PromiseTailorModel", "asTold", "()V"⟩, 45) := ⟨⟨by decide +kernel, by decide +kernel⟩, List.mem_of_getElem? (i := 691) (by decide +kernel), List.mem_of_getElem? (i := 950) (by decide +kernel), List.mem_of_getElem? (i := 951) (by decide +kernel)⟩
theorem lw_p36 : lw_okq (⟨"PromiseTailorModel", "runs", "()V"⟩, 45) := ⟨⟨by decide +kernel, by decide +kernel⟩, List.mem_of_getElem? (i := 691) (by decide +kernel), List.mem_of_getElem? (i := 954) (by decide +kernel), List.mem_of_getElem? (i := 955) (by decide +kernel)⟩
theorem lw_p37 : lw_okq (⟨"PromiseTailorModel", "goesBy", "(I)V"⟩, 45) := ⟨⟨by decide +kernel, by decide +kernel⟩, List.mem_of_getElem? (i := 691) (by decide +kernel), List.mem_of_getElem? (i := 958) (by decide +kernel), List.mem_of_getElem? (i := 959) (by decide +kernel)⟩
theorem lw_p38 : lw_okq (⟨"PromiseTailorModel", "makes", "(I)V"⟩, 45) := ⟨⟨by decide +kernel, by decide +kernel⟩, List.mem_of_getElem? (i := 691) (by decide +kernel), List.mem_of_getElem? (i := 962) (by decide +kernel), List.mem_of_getElem? (i := 963) (by decide +kernel)⟩
theorem lw_p39 : lw_okq (⟨"PromiseTailorModel", "lengthOf", "(I)I"⟩, 45) := ⟨⟨by decide +kernel, by decide +kernel⟩, List.mem_of_getElem? (i := 691) (by decide +kernel), List.mem_of_getElem? (i := 966) (by decide +kernel), List.mem_of_getElem? (i := 967) (by decide +kernel)⟩
theorem lw_p40 : lw_okq (⟨"PromiseTailorModel", "changes", "(II)V"⟩, 45) := ⟨⟨by decide +kernel, by decide +kernel⟩, List.mem_of_getElem? (i := 691) (by decide +kernel), List.mem_of_getElem? (i := 970) (by decide +kernel), List.mem_of_getElem? (i := 971) (by decide +kernel)⟩
theorem lw_p41 : lw_okq (⟨"PromiseTailorModel", "keepsOn", "(I)V"⟩, 45) := ⟨⟨by decide +kernel, by decide +kernel⟩, List.mem_of_getElem? (i := 691) (by decide +kernel), List.mem_of_getElem? (i := 974) (by decide +kernel), List.mem_of_getElem? (i := 975) (by decide +kernel)⟩
theorem lw_p42 : lw_okq (⟨"PromiseTailorModel", "isKept", "(I)V"⟩, 45) := ⟨⟨by decide +kernel, by decide +kernel⟩, List.mem_of_getElem? (i := 691) (by decide +kernel), List.mem_of_getElem? (i := 981) (by decide +kernel), List.mem_of_getElem? (i := 982) (by decide +kernel)⟩
theorem lw_p43 : lw_okq (⟨"PromiseTailorModel", "breaks", "(I)V"⟩, 45) := ⟨⟨by decide +kernel, by decide +kernel⟩, List.mem_of_getElem? (i := 691) (by decide +kernel), List.mem_of_getElem? (i := 985) (by decide +kernel), List.mem_of_getElem? (i := 986) (by decide +kernel)⟩
theorem lw_p44 : lw_okq (⟨"PromiseTailorModel", "fitsOn", "(II)Z"⟩, 45) := ⟨⟨by decide +kernel, by decide +kernel⟩, List.mem_of_getElem? (i := 691) (by decide +kernel), List.mem_of_getElem? (i := 989) (by decide +kernel), List.mem_of_getElem? (i := 990) (by decide +kernel)⟩
theorem lw_p45 : lw_okq (⟨"PromiseTailorModel", "standsOf", "(II)I"⟩, 45) := ⟨⟨by decide +kernel, by decide +kernel⟩, List.mem_of_getElem? (i := 691) (by decide +kernel), List.mem_of_getElem? (i := 997) (by decide +kernel), List.mem_of_getElem? (i := 998) (by decide +kernel)⟩
theorem lw_p46 : lw_okq (⟨"PromiseTailorModel", "neatOf", "(I)I"⟩, 45) := ⟨⟨by decide +kernel, by decide +kernel⟩, List.mem_of_getElem? (i := 691) (by decide +kernel), List.mem_of_getElem? (i := 1005) (by decide +kernel), List.mem_of_getElem? (i := 1006) (by decide +kernel)⟩
theorem lw_p47 : lw_okq (⟨"PromiseTailorModel", "nakedOf", "(I)I"⟩, 45) := ⟨⟨by decide +kernel, by decide +kernel⟩, List.mem_of_getElem? (i := 691) (by decide +kernel), List.mem_of_getElem? (i := 1013) (by decide +kernel), List.mem_of_getElem? (i := 1014) (by decide +kernel)⟩
def lw_privs_3 : List (MethodName × Nat) := [(⟨"PromiseTailorModel", "meets", "(I)I"⟩, 45), (⟨"PromiseTailorModel", "coatOf", "(III)I"⟩, 45), (⟨"PromiseTailorModel", "runsTold", "()V"⟩, 45), (⟨"PromiseTailorModel", "asTold", "()V"⟩, 45), (⟨"PromiseTailorModel", "runs", "()V"⟩, 45), (⟨"PromiseTailorModel", "goesBy", "(I)V"⟩, 45), (⟨"PromiseTailorModel", "makes", "(I)V"⟩, 45), (⟨"PromiseTailorModel", "lengthOf", "(I)I"⟩, 45), (⟨"PromiseTailorModel", "changes", "(II)V"⟩, 45), (⟨"PromiseTailorModel", "keepsOn", "(I)V"⟩, 45), (⟨"PromiseTailorModel", "isKept", "(I)V"⟩, 45), (⟨"PromiseTailorModel", "breaks", "(I)V"⟩, 45), (⟨"PromiseTailorModel", "fitsOn", "(II)Z"⟩, 45), (⟨"PromiseTailorModel", "standsOf", "(II)I"⟩, 45), (⟨"PromiseTailorModel", "neatOf", "(I)I"⟩, 45), (⟨"PromiseTailorModel", "nakedOf", "(I)I"⟩, 45)]
theorem lw_r3 : ∀ q ∈ lw_privs_3, lw_okq q := List.forall_mem_cons.mpr ⟨lw_p32, List.forall_mem_cons.mpr ⟨lw_p33, List.forall_mem_cons.mpr ⟨lw_p34, List.forall_mem_cons.mpr ⟨lw_p35, List.forall_mem_cons.mpr ⟨lw_p36, List.forall_mem_cons.mpr ⟨lw_p37, List.forall_mem_cons.mpr ⟨lw_p38, List.forall_mem_cons.mpr ⟨lw_p39, List.forall_mem_cons.mpr ⟨lw_p40, List.forall_mem_cons.mpr ⟨lw_p41, List.forall_mem_cons.mpr ⟨lw_p42, List.forall_mem_cons.mpr ⟨lw_p43, List.forall_mem_cons.mpr ⟨lw_p44, List.forall_mem_cons.mpr ⟨lw_p45, List.forall_mem_cons.mpr ⟨lw_p46, List.forall_mem_cons.mpr ⟨lw_p47, fun _ h => absurd h List.not_mem_nil⟩⟩⟩⟩⟩⟩⟩⟩⟩⟩⟩⟩⟩⟩⟩⟩
theorem lw_p48 : lw_okq (⟨"PromiseTailorModel", "nakedNow", "(I)I"⟩, 45) := ⟨⟨by decide +kernel, by decide +kernel⟩, List.mem_of_getElem? (i := 691) (by decide +kernel), List.mem_of_getElem? (i := 1017) (by decide +kernel), List.mem_of_getElem? (i := 1018) (by decide +kernel)⟩
theorem lw_p49 : lw_okq (⟨"PromiseTailorModel", "longestOf", "(I)I"⟩, 45) := ⟨⟨by decide +kernel, by decide +kernel⟩, List.mem_of_getElem? (i := 691) (by decide +kernel), List.mem_of_getElem? (i := 1025) (by decide +kernel), List.mem_of_getElem? (i := 1026) (by decide +kernel)⟩
theorem lw_p50 : lw_okq (⟨"PromiseTailorModel", "splitsOf", "()I"⟩, 45) := ⟨⟨by decide +kernel, by decide +kernel⟩, List.mem_of_getElem? (i := 691) (by decide +kernel), List.mem_of_getElem? (i := 1033) (by decide +kernel), List.mem_of_getElem? (i := 1034) (by decide +kernel)⟩
theorem lw_p51 : lw_okq (⟨"PromiseTailorModel", "tearsAll", "()I"⟩, 45) := ⟨⟨by decide +kernel, by decide +kernel⟩, List.mem_of_getElem? (i := 691) (by decide +kernel), List.mem_of_getElem? (i := 1037) (by decide +kernel), List.mem_of_getElem? (i := 1038) (by decide +kernel)⟩
theorem lw_p52 : lw_okq (⟨"PromiseTailorModel", "bestNow", "()I"⟩, 45) := ⟨⟨by decide +kernel, by decide +kernel⟩, List.mem_of_getElem? (i := 691) (by decide +kernel), List.mem_of_getElem? (i := 1045) (by decide +kernel), List.mem_of_getElem? (i := 1046) (by decide +kernel)⟩
theorem lw_p53 : lw_okq (⟨"PromiseTailorModel", "fitMany", "(I)I"⟩, 45) := ⟨⟨by decide +kernel, by decide +kernel⟩, List.mem_of_getElem? (i := 691) (by decide +kernel), List.mem_of_getElem? (i := 1049) (by decide +kernel), List.mem_of_getElem? (i := 1050) (by decide +kernel)⟩
theorem lw_p54 : lw_okq (⟨"PromiseTailorModel", "swearOf", "(II)I"⟩, 45) := ⟨⟨by decide +kernel, by decide +kernel⟩, List.mem_of_getElem? (i := 691) (by decide +kernel), List.mem_of_getElem? (i := 1057) (by decide +kernel), List.mem_of_getElem? (i := 1058) (by decide +kernel)⟩
theorem lw_p55 : lw_okq (⟨"PromiseTailorModel", "keepBest", "(II)I"⟩, 45) := ⟨⟨by decide +kernel, by decide +kernel⟩, List.mem_of_getElem? (i := 691) (by decide +kernel), List.mem_of_getElem? (i := 1065) (by decide +kernel), List.mem_of_getElem? (i := 1066) (by decide +kernel)⟩
theorem lw_p56 : lw_okq (⟨"PromiseTailorModel", "dueOf", "(II)I"⟩, 45) := ⟨⟨by decide +kernel, by decide +kernel⟩, List.mem_of_getElem? (i := 691) (by decide +kernel), List.mem_of_getElem? (i := 1073) (by decide +kernel), List.mem_of_getElem? (i := 1074) (by decide +kernel)⟩
theorem lw_p57 : lw_okq (⟨"PromiseTailorModel", "hushBy", "()I"⟩, 45) := ⟨⟨by decide +kernel, by decide +kernel⟩, List.mem_of_getElem? (i := 691) (by decide +kernel), List.mem_of_getElem? (i := 1081) (by decide +kernel), List.mem_of_getElem? (i := 1082) (by decide +kernel)⟩
theorem lw_p58 : lw_okq (⟨"PromiseTailorModel", "isHushed", "(I)Z"⟩, 45) := ⟨⟨by decide +kernel, by decide +kernel⟩, List.mem_of_getElem? (i := 691) (by decide +kernel), List.mem_of_getElem? (i := 1085) (by decide +kernel), List.mem_of_getElem? (i := 1086) (by decide +kernel)⟩
theorem lw_p59 : lw_okq (⟨"PromiseTailorModel", "ofRow", "(II)I"⟩, 45) := ⟨⟨by decide +kernel, by decide +kernel⟩, List.mem_of_getElem? (i := 691) (by decide +kernel), List.mem_of_getElem? (i := 1089) (by decide +kernel), List.mem_of_getElem? (i := 1090) (by decide +kernel)⟩
theorem lw_p60 : lw_okq (⟨"PromiseTailorModel", "neverNow", "()I"⟩, 45) := ⟨⟨by decide +kernel, by decide +kernel⟩, List.mem_of_getElem? (i := 691) (by decide +kernel), List.mem_of_getElem? (i := 1105) (by decide +kernel), List.mem_of_getElem? (i := 1106) (by decide +kernel)⟩
theorem lw_p61 : lw_okq (⟨"PromiseTailorModel", "isSeen", "()Z"⟩, 45) := ⟨⟨by decide +kernel, by decide +kernel⟩, List.mem_of_getElem? (i := 691) (by decide +kernel), List.mem_of_getElem? (i := 1109) (by decide +kernel), List.mem_of_getElem? (i := 1110) (by decide +kernel)⟩
theorem lw_p62 : lw_okq (⟨"PromiseTailorModel", "sizesBy", "(I)I"⟩, 45) := ⟨⟨by decide +kernel, by decide +kernel⟩, List.mem_of_getElem? (i := 691) (by decide +kernel), List.mem_of_getElem? (i := 1117) (by decide +kernel), List.mem_of_getElem? (i := 1118) (by decide +kernel)⟩
theorem lw_p63 : lw_okq (⟨"PromiseTailorModel", "sortsBy", "(I)I"⟩, 45) := ⟨⟨by decide +kernel, by decide +kernel⟩, List.mem_of_getElem? (i := 691) (by decide +kernel), List.mem_of_getElem? (i := 1121) (by decide +kernel), List.mem_of_getElem? (i := 1122) (by decide +kernel)⟩
def lw_privs_4 : List (MethodName × Nat) := [(⟨"PromiseTailorModel", "nakedNow", "(I)I"⟩, 45), (⟨"PromiseTailorModel", "longestOf", "(I)I"⟩, 45), (⟨"PromiseTailorModel", "splitsOf", "()I"⟩, 45), (⟨"PromiseTailorModel", "tearsAll", "()I"⟩, 45), (⟨"PromiseTailorModel", "bestNow", "()I"⟩, 45), (⟨"PromiseTailorModel", "fitMany", "(I)I"⟩, 45), (⟨"PromiseTailorModel", "swearOf", "(II)I"⟩, 45), (⟨"PromiseTailorModel", "keepBest", "(II)I"⟩, 45), (⟨"PromiseTailorModel", "dueOf", "(II)I"⟩, 45), (⟨"PromiseTailorModel", "hushBy", "()I"⟩, 45), (⟨"PromiseTailorModel", "isHushed", "(I)Z"⟩, 45), (⟨"PromiseTailorModel", "ofRow", "(II)I"⟩, 45), (⟨"PromiseTailorModel", "neverNow", "()I"⟩, 45), (⟨"PromiseTailorModel", "isSeen", "()Z"⟩, 45), (⟨"PromiseTailorModel", "sizesBy", "(I)I"⟩, 45), (⟨"PromiseTailorModel", "sortsBy", "(I)I"⟩, 45)]
theorem lw_r4 : ∀ q ∈ lw_privs_4, lw_okq q := List.forall_mem_cons.mpr ⟨lw_p48, List.forall_mem_cons.mpr ⟨lw_p49, List.forall_mem_cons.mpr ⟨lw_p50, List.forall_mem_cons.mpr ⟨lw_p51, List.forall_mem_cons.mpr ⟨lw_p52, List.forall_mem_cons.mpr ⟨lw_p53, List.forall_mem_cons.mpr ⟨lw_p54, List.forall_mem_cons.mpr ⟨lw_p55, List.forall_mem_cons.mpr ⟨lw_p56, List.forall_mem_cons.mpr ⟨lw_p57, List.forall_mem_cons.mpr ⟨lw_p58, List.forall_mem_cons.mpr ⟨lw_p59, List.forall_mem_cons.mpr ⟨lw_p60, List.forall_mem_cons.mpr ⟨lw_p61, List.forall_mem_cons.mpr ⟨lw_p62, List.forall_mem_cons.mpr ⟨lw_p63, fun _ h => absurd h List.not_mem_nil⟩⟩⟩⟩⟩⟩⟩⟩⟩⟩⟩⟩⟩⟩⟩⟩
theorem lw_p64 : lw_okq (⟨"PromiseTailorModel", "askOf", "(I)I"⟩, 45) := ⟨⟨by decide +kernel, by decide +kernel⟩, List.mem_of_getElem? (i := 691) (by decide +kernel), List.mem_of_getElem? (i := 1129) (by decide +kernel), List.mem_of_getElem? (i := 1130) (by decide +kernel)⟩
theorem lw_p65 : lw_okq (⟨"PromiseTailorModel", "wordOf", "(IIII)J"⟩, 45) := ⟨⟨by decide +kernel, by decide +kernel⟩, List.mem_of_getElem? (i := 691) (by decide +kernel), List.mem_of_getElem? (i := 1137) (by decide +kernel), List.mem_of_getElem? (i := 1138) (by decide +kernel)⟩
theorem lw_p66 : lw_okq (⟨"PromiseTailorModel", "yearOf", "(III)I"⟩, 45) := ⟨⟨by decide +kernel, by decide +kernel⟩, List.mem_of_getElem? (i := 691) (by decide +kernel), List.mem_of_getElem? (i := 1152) (by decide +kernel), List.mem_of_getElem? (i := 1153) (by decide +kernel)⟩
theorem lw_p67 : lw_okq (⟨"PromiseTailorModel", "lacks", "(III)I"⟩, 45) := ⟨⟨by decide +kernel, by decide +kernel⟩, List.mem_of_getElem? (i := 691) (by decide +kernel), List.mem_of_getElem? (i := 1169) (by decide +kernel), List.mem_of_getElem? (i := 1170) (by decide +kernel)⟩
theorem lw_p68 : lw_okq (⟨"PromiseTailorModel", "lays", "(III)V"⟩, 45) := ⟨⟨by decide +kernel, by decide +kernel⟩, List.mem_of_getElem? (i := 691) (by decide +kernel), List.mem_of_getElem? (i := 1173) (by decide +kernel), List.mem_of_getElem? (i := 1174) (by decide +kernel)⟩
theorem lw_p69 : lw_okq (⟨"PromiseTailorModel", "sumOf", "(I)I"⟩, 45) := ⟨⟨by decide +kernel, by decide +kernel⟩, List.mem_of_getElem? (i := 691) (by decide +kernel), List.mem_of_getElem? (i := 1194) (by decide +kernel), List.mem_of_getElem? (i := 1195) (by decide +kernel)⟩
theorem lw_p70 : lw_okq (⟨"PromiseTailorModel", "promiseDigest", "(JI)J"⟩, 45) := ⟨⟨by decide +kernel, by decide +kernel⟩, List.mem_of_getElem? (i := 691) (by decide +kernel), List.mem_of_getElem? (i := 1205) (by decide +kernel), List.mem_of_getElem? (i := 1206) (by decide +kernel)⟩
theorem lw_p71 : lw_okq (⟨"PromiseTailorModel", "personDigest", "(JI)J"⟩, 45) := ⟨⟨by decide +kernel, by decide +kernel⟩, List.mem_of_getElem? (i := 691) (by decide +kernel), List.mem_of_getElem? (i := 1209) (by decide +kernel), List.mem_of_getElem? (i := 1210) (by decide +kernel)⟩
theorem lw_p72 : lw_okq (⟨"PromiseTailorModel", "coatDigest", "(JII)J"⟩, 45) := ⟨⟨by decide +kernel, by decide +kernel⟩, List.mem_of_getElem? (i := 691) (by decide +kernel), List.mem_of_getElem? (i := 1213) (by decide +kernel), List.mem_of_getElem? (i := 1214) (by decide +kernel)⟩
def lw_privs_5 : List (MethodName × Nat) := [(⟨"PromiseTailorModel", "askOf", "(I)I"⟩, 45), (⟨"PromiseTailorModel", "wordOf", "(IIII)J"⟩, 45), (⟨"PromiseTailorModel", "yearOf", "(III)I"⟩, 45), (⟨"PromiseTailorModel", "lacks", "(III)I"⟩, 45), (⟨"PromiseTailorModel", "lays", "(III)V"⟩, 45), (⟨"PromiseTailorModel", "sumOf", "(I)I"⟩, 45), (⟨"PromiseTailorModel", "promiseDigest", "(JI)J"⟩, 45), (⟨"PromiseTailorModel", "personDigest", "(JI)J"⟩, 45), (⟨"PromiseTailorModel", "coatDigest", "(JII)J"⟩, 45)]
theorem lw_r5 : ∀ q ∈ lw_privs_5, lw_okq q := List.forall_mem_cons.mpr ⟨lw_p64, List.forall_mem_cons.mpr ⟨lw_p65, List.forall_mem_cons.mpr ⟨lw_p66, List.forall_mem_cons.mpr ⟨lw_p67, List.forall_mem_cons.mpr ⟨lw_p68, List.forall_mem_cons.mpr ⟨lw_p69, List.forall_mem_cons.mpr ⟨lw_p70, List.forall_mem_cons.mpr ⟨lw_p71, List.forall_mem_cons.mpr ⟨lw_p72, fun _ h => absurd h List.not_mem_nil⟩⟩⟩⟩⟩⟩⟩⟩⟩
def lw_privs : List (MethodName × Nat) := lw_privs_1 ++ (lw_privs_2 ++ (lw_privs_3 ++ (lw_privs_4 ++ (lw_privs_5))))
def lw_tbl : List Cond := k2_sels lw_privs ++ tables_1
theorem lw_privs_ok : ∀ q ∈ lw_privs, lw_okq q := by
  show ∀ q ∈ lw_privs_1 ++ (lw_privs_2 ++ (lw_privs_3 ++ (lw_privs_4 ++ (lw_privs_5)))), lw_okq q
  exact List.forall_mem_append.mpr ⟨lw_r1, List.forall_mem_append.mpr ⟨lw_r2, List.forall_mem_append.mpr ⟨lw_r3, List.forall_mem_append.mpr ⟨lw_r4, lw_r5⟩⟩⟩⟩
end
section
/-! ===== BEGIN new T[n][m]: the outer array a place, the inner ones among the pooled ===== -/
/-- f, but v at every address of l -/
def vr_up {α : Type} (f : Nat → α) (l : List Nat) (v : α) : Nat → α := fun a => if a ∈ l then v else f a
theorem vr_up_in {α : Type} {f : Nat → α} {l : List Nat} {v : α} {a : Nat} (h : a ∈ l) : vr_up f l v a = v := if_pos h
theorem vr_up_ne {α : Type} {f : Nat → α} {l : List Nat} {v : α} {a : Nat} (h : a ∉ l) : vr_up f l v a = f a := if_neg h
theorem vr_rows {L l : List Nat} {f : Nat → va_E} {e : va_E} (h : ∀ a, a ∈ l → a ∉ L) : va_pl L f ++ l.map (fun a => (a, e)) = va_pl (L ++ l) (vr_up f l e) := by
  unfold va_pl
  rw [List.map_append]
  congr 1
  · apply List.map_congr_left
    intro a ha
    rw [vr_up_ne (fun q => h a q ha)]
  · apply List.map_congr_left
    intro a ha
    rw [vr_up_in ha]
theorem vr_lay {X rows : va_W} {x : Nat × va_E} {pl : va_W} {D : va_G} {cl : List vw_C} {H : Heap} (hP : va_P D cl (((X ++ pl) ++ [x]) ++ rows) H) : va_P D cl ((X ++ [x]) ++ (pl ++ rows)) H := by
  rw [List.append_assoc (X ++ pl)] at hP
  have h := va_P.swap hP
  rw [← List.append_assoc X] at h
  have h2 := va_P.swap h
  rw [List.append_assoc (X ++ [x])] at h2
  exact h2
theorem vr_layD {X rows : va_W} {x : Nat × va_E} {pl : va_W} {A : Nat → Prop} (hD : va_D A (((X ++ pl) ++ [x]) ++ rows)) : va_D A ((X ++ [x]) ++ (pl ++ rows)) := by
  rw [List.append_assoc (X ++ pl)] at hD
  have h := va_D.swap hD
  rw [← List.append_assoc X] at h
  have h2 := va_D.swap h
  rw [List.append_assoc (X ++ [x])] at h2
  exact h2
theorem vr_outer (c : ClassId) (N h0 : Nat) : ∀ i : Nat, Jvm.Free.Multi.outerC c N h0 i = arrV c N (fun j => va_rf (if j < i then some (h0 + 1 + j) else none))
  | 0 => by
    show ({ cls := c, slots := Array.replicate N .null, vm := .none } : Cell) = _
    rw [arrV_new]
    refine congrArg (arrV c N) (funext fun j => ?_)
    simp [va_rf]
  | i + 1 => by
    show (Jvm.Free.Multi.outerC c N h0 i).setSlot i (.ref (h0 + 1 + i)) = _
    rw [vr_outer c N h0 i, arrV_store]
    refine congrArg (arrV c N) (funext fun j => ?_)
    by_cases e : j = i
    · subst e
      simp [updV, va_rf]
    · by_cases h : j < i
      · simp [updV, e, h, Nat.lt_succ_of_lt h]
      · simp [updV, e, h, show ¬ j < i + 1 by omega]
section VGM
variable {p : Program} {l : Launch} {e : Env} {R : Room} {s : State} {m : MethodId} {args : Array Value} {below : List Frame} {meth : Method} {c : Code} {H : Heap} {locs : List Loc} {cells slots : Nat} {Q : State → Prop}
variable {cc : ByteArray} {pc : Nat} {ls : Array Slot} {rest : List Value} {D : va_G} {cl : List vw_C} {A : Nat → Prop} {a : Nat} {tys : List (ClassId × FieldType)} {ws : va_W} {H0 : Heap}
theorem va_mna {X : va_W} {L : List Nat} {f : Nat → va_E} {cc : ByteArray} (hexec : p.tables.exec = Jvm.exec) (hb : c.code = cc) {own : String} {index : Nat} {ty : FieldType} {cy : ClassId} (hown : s.vm.findClass own = some m.cls) (hclink : (Cond.classLink own index ("[" ++ (FieldType.array ty).toString)).before args s = true) (hover : (Cond.arrayOver (.array ty)).before args s = true) (harr : (Cond.arrayClass ty).before args s = true) (hcy : s.vm.findClass (FieldType.array ty).toString = some cy)
    (hK : va_K D cl tys s) (hP : va_P D cl (X ++ va_pl L f) H) (hD : va_D A (X ++ va_pl L f)) (hS : va_S A H0 H locs) (hA : ∀ q, H0.size ≤ q → A q) {n k : Int32} {N' K' : Nat} {z : vp_A} (hn : ¬ n < 0) (hk : ¬ k < 0) (hN : n.toNatClampNeg = N') (hM : k.toNatClampNeg = K')
    (hb1 : N' * 4 ≤ 536870912) (hb2 : K' * componentBytes ty ≤ 536870912) (hb3 : K' ≤ 536870912) (hdf : fits ty (defaultValue ty) = true) (hdd : (defaultValue ty).isDefault = true) (hcells : cells + (1 + N') ≤ R.cells) (hslots : slots + (N' + N' * K') ≤ R.slots) (hz : ∀ c : ClassId, Jvm.Free.Multi.innerC c K' (defaultValue ty) = vp_cell c z) (hdg : decode cc pc = .ok (.multianewarray index 2, 4))
    (kk : ∀ (q : Nat) (r : Nat → Nat) (cA : ClassId) (H1 : Heap), (∀ i j : Nat, i < N' → j < N' → r i = r j → i = j) → (∀ i : Nat, i < N' → r i ∉ L) → va_K D cl (tys ++ [(cA, .array ty)]) s →
      va_P D cl ((X ++ [(q, .inl (cA, N', .inr (.inr (.inr (.inr (fun i => if i < N' then some (r i) else none))))))]) ++ va_pl (L ++ (List.range N').map r) (vr_up f ((List.range N').map r) (.inl (cy, z)))) H1 → va_D A ((X ++ [(q, .inl (cA, N', .inr (.inr (.inr (.inr (fun i => if i < N' then some (r i) else none))))))]) ++ va_pl (L ++ (List.range N').map r) (vr_up f ((List.range N').map r) (.inl (cy, z)))) → va_S A H0 H1 locs →
      W p l e R s m args below meth c H1 locs (cells + 1 + N') (slots + N' + N' * K') Q (F0 m (pc + 4) ls (.ref q :: rest))) : W p l e R s m args below meth c H locs cells slots Q (F0 m pc ls (.int k :: .int n :: rest)) := by
  subst hN
  subst hM
  intro T hT Xs
  obtain ⟨vm₁, cA, comp, -, fA, fC, hO, -, X', step⟩ := Xs.multianewarray2F hexec hown hclink hover harr (g := F0 m pc ls (.int k :: .int n :: rest)) rfl (by rw [hb]; exact hdg) rfl hn hk hb1 hb2 hb3 hdf hdd hcells hslots
  have ec : some cy = some comp := hcy.symm.trans fC
  cases ec
  generalize hF : Jvm.Free.Multi.fill (T.setVm vm₁) cA cy n.toNatClampNeg k.toNatClampNeg (defaultValue ty) n.toNatClampNeg = F at X' step
  have hTh : (T.setVm vm₁).heap = H := hT
  obtain ⟨f1, f2, -, -⟩ := Jvm.Free.Multi.fill_facts (T.setVm vm₁) cA cy n.toNatClampNeg k.toNatClampNeg (defaultValue ty) n.toNatClampNeg
  rw [hF, hTh] at f1 f2
  have hold : ∀ x : Nat, x < H.size → F.heap[x]? = H[x]? := fun x hx => by
    have := Jvm.Free.Multi.fill_old (T.setVm vm₁) cA cy n.toNatClampNeg k.toNatClampNeg (defaultValue ty) (a := x) (by rw [hTh]; exact hx) n.toNatClampNeg
    rw [hF, hTh] at this
    exact this
  have hrow : ∀ j : Nat, j < n.toNatClampNeg → F.heap[H.size + 1 + j]? = some (vp_cell cy z) := fun j hj => by
    have := Jvm.Free.Multi.fill_inner (T.setVm vm₁) cA cy n.toNatClampNeg k.toNatClampNeg (defaultValue ty) n.toNatClampNeg j hj
    rw [hF, hTh, hz] at this
    exact this
  have hout : Jvm.Free.Multi.outerC cA n.toNatClampNeg H.size n.toNatClampNeg = vp_cell cA (n.toNatClampNeg, .inr (.inr (.inr (.inr (fun i => if i < n.toNatClampNeg then some (H.size + 1 + i) else none))))) := by
    rw [vp_cell_q]
    exact vr_outer cA n.toNatClampNeg H.size n.toNatClampNeg
  rw [hout] at f2
  have hlt : ∀ a, a ∈ L → a < H.size := fun a ha => by
    obtain ⟨k9, hk9⟩ := va_pl_get (X := X) (f := f) ha
    exact (hP k9 _ hk9).lt
  have hnl : ∀ i : Nat, i < n.toNatClampNeg → H.size + 1 + i ∉ L := fun i _ h => by
    have := hlt _ h
    omega
  have hnm : ∀ a, a ∈ (List.range n.toNatClampNeg).map (fun i => H.size + 1 + i) → a ∉ L := fun a ha h => by
    obtain ⟨i, -, rfl⟩ := List.mem_map.mp ha
    have := hlt _ h
    omega
  have hP0 : va_P D cl (X ++ va_pl L f) F.heap := hP.kept (fun k9 x hx => hold x.1 ((hP k9 x hx).lt))
  have hP1 : va_P D cl ((X ++ va_pl L f) ++ [(H.size, .inl (cA, n.toNatClampNeg, .inr (.inr (.inr (.inr (fun i => if i < n.toNatClampNeg then some (H.size + 1 + i) else none))))))]) F.heap := hP0.app (fun k9 x hx => by
    have h0 : k9 < 1 := (List.getElem?_eq_some_iff.mp hx).1
    rw [show k9 = 0 by omega] at hx
    cases hx
    exact f2)
  have hP2 : va_P D cl (((X ++ va_pl L f) ++ [(H.size, .inl (cA, n.toNatClampNeg, .inr (.inr (.inr (.inr (fun i => if i < n.toNatClampNeg then some (H.size + 1 + i) else none))))))]) ++ ((List.range n.toNatClampNeg).map (fun i => H.size + 1 + i)).map (fun a => (a, .inl (cy, z)))) F.heap := hP1.app (fun k9 x hx => by
    obtain ⟨a, ha, rfl⟩ := List.mem_map.mp (List.mem_of_getElem? hx)
    obtain ⟨i, hi, rfl⟩ := List.mem_map.mp ha
    exact hrow i (List.mem_range.mp hi))
  have hD2 : va_D A (((X ++ va_pl L f) ++ [(H.size, .inl (cA, n.toNatClampNeg, .inr (.inr (.inr (.inr (fun i => if i < n.toNatClampNeg then some (H.size + 1 + i) else none))))))]) ++ ((List.range n.toNatClampNeg).map (fun i => H.size + 1 + i)).map (fun a => (a, .inl (cy, z)))) := by
    have hD1 := hD.push (e := .inl (cA, n.toNatClampNeg, .inr (.inr (.inr (.inr (fun i => if i < n.toNatClampNeg then some (H.size + 1 + i) else none)))))) hP rfl (hA _ hS.1)
    generalize hW1 : (X ++ va_pl L f) ++ [(H.size, .inl (cA, n.toNatClampNeg, .inr (.inr (.inr (.inr (fun i => if i < n.toNatClampNeg then some (H.size + 1 + i) else none))))))] = W1 at hD1 hP1 ⊢
    have hle : ∀ (k9 : Nat) (x : Nat × va_E), W1[k9]? = some x → x.1 ≤ H.size := fun k9 x hx => by
      rw [← hW1] at hx
      by_cases hl : k9 < (X ++ va_pl L f).length
      · rw [List.getElem?_append_left hl] at hx
        exact Nat.le_of_lt ((hP k9 x hx).lt)
      · rw [List.getElem?_append_right (by omega)] at hx
        have h0 : k9 - (X ++ va_pl L f).length < 1 := (List.getElem?_eq_some_iff.mp hx).1
        rw [show k9 - (X ++ va_pl L f).length = 0 by omega] at hx
        cases hx
        exact Nat.le_refl _
    have hr : ∀ (k9 : Nat) (x : Nat × va_E), (((List.range n.toNatClampNeg).map (fun i => H.size + 1 + i)).map (fun a => ((a, .inl (cy, z)) : Nat × va_E)))[k9]? = some x → x.1 = H.size + 1 + k9 := fun k9 x hx => by
      rw [List.getElem?_map, List.getElem?_map] at hx
      by_cases h9 : k9 < n.toNatClampNeg
      · rw [List.getElem?_range h9] at hx
        cases hx
        rfl
      · have hn0 : (List.range n.toNatClampNeg)[k9]? = none := List.getElem?_eq_none (by rw [List.length_range]; omega)
        rw [hn0] at hx
        cases hx
    refine ⟨fun i j x y hi hj hxy => ?_, fun k9 x hx => ?_⟩
    · by_cases h1 : i < W1.length <;> by_cases h2 : j < W1.length
      · rw [List.getElem?_append_left h1] at hi
        rw [List.getElem?_append_left h2] at hj
        exact hD1.1 i j x y hi hj hxy
      · rw [List.getElem?_append_left h1] at hi
        rw [List.getElem?_append_right (by omega)] at hj
        have := hle _ _ hi
        have := hr _ _ hj
        omega
      · rw [List.getElem?_append_right (by omega)] at hi
        rw [List.getElem?_append_left h2] at hj
        have := hle _ _ hj
        have := hr _ _ hi
        omega
      · rw [List.getElem?_append_right (by omega)] at hi hj
        have := hr _ _ hi
        have := hr _ _ hj
        omega
    · by_cases h1 : k9 < W1.length
      · rw [List.getElem?_append_left h1] at hx
        exact hD1.2 k9 x hx
      · rw [List.getElem?_append_right (by omega)] at hx
        have := hr _ _ hx
        exact hA _ (by have := hS.1; omega)
  have hAr : ArrOfT s cA (.array ty) := fun N9 z9 => by
    obtain ⟨-, k9, hk9, cm9, hkk9⟩ := (hO 0 0 0).1
    exact ⟨(fun q hq => by cases hq), k9, hk9, cm9, hkk9⟩
  have hK2 : va_K D cl (tys ++ [(cA, .array ty)]) s := ⟨hK.1, fun k9 x hx => by
    by_cases hl : k9 < tys.length
    · rw [List.getElem?_append_left hl] at hx
      exact hK.2 k9 x hx
    · rw [List.getElem?_append_right (by omega)] at hx
      have h0 : k9 - tys.length < 1 := (List.getElem?_eq_some_iff.mp hx).1
      rw [show k9 - tys.length = 0 by omega] at hx
      cases hx
      exact ⟨hAr, fA⟩⟩
  obtain ⟨t, a1, b1⟩ := kk H.size (fun i => H.size + 1 + i) cA F.heap (fun i j _ _ h => by have h9 : H.size + 1 + i = H.size + 1 + j := h; omega) hnl hK2 (by rw [← vr_rows hnm]; exact vr_lay hP2) (by rw [← vr_rows hnm]; exact vr_layD hD2) ⟨by rw [f1]; have := hS.1; omega, fun x h1 h2 => (hold x (Nat.lt_of_lt_of_le h1 hS.1)).trans (hS.2.1 x h1 h2), hS.2.2⟩ F rfl X'
  refine ⟨t, step t ?_, b1⟩
  have e : T.heap.size = H.size := by rw [hT]
  rw [e]
  exact a1
end VGM
/-! ===== END ===== -/
def RX0 : String := "PromiseTailor$Course"
def TX0 : u_T := fun k => match k with
  | 0 => ("PromiseTailor$Course", "folk", "LPromiseTailor$Folk;", true)
  | 1 => ("PromiseTailor$Course", "vows", "LPromiseTailor$Vows;", true)
  | 2 => ("PromiseTailor$Course", "keepings", "LPromiseTailor$Told;", true)
  | 3 => ("PromiseTailor$Course", "lies", "LPromiseTailor$Told;", true)
  | 4 => ("PromiseTailor$Course", "lettings", "LPromiseTailor$Told;", true)
  | 5 => ("PromiseTailor$Course", "keys", "[I", true)
  | 6 => ("PromiseTailor$Course", "subjects", "[I", true)
  | 7 => ("PromiseTailor$Course", "lengths", "[I", true)
  | 8 => ("PromiseTailor$Course", "rips", "[I", true)
  | 9 => ("PromiseTailor$Course", "standing", "[I", true)
  | 10 => ("PromiseTailor$Course", "acts", "I", false)
  | 11 => ("PromiseTailor$Course", "next", "I", false)
  | 12 => ("PromiseTailor$Course", "unkept", "I", false)
  | 13 => ("PromiseTailor$Course", "hushed", "I", false)
  | _ => ("PromiseTailor$Course", "chosen", "LPromiseTailor$Told;", false)
def tyX0 : Nat → FieldType := fun k => match k with
  | 0 => .object "PromiseTailor$Folk"
  | 1 => .object "PromiseTailor$Vows"
  | 2 => .object "PromiseTailor$Told"
  | 3 => .object "PromiseTailor$Told"
  | 4 => .object "PromiseTailor$Told"
  | 5 => .array .int
  | 6 => .array .int
  | 7 => .array .int
  | 8 => .array .int
  | 9 => .array .int
  | 10 => .int
  | 11 => .int
  | 12 => .int
  | 13 => .int
  | _ => .object "PromiseTailor$Told"
theorem nmX0 : ∀ a, a < 15 → ∀ b, b < 15 → a ≠ b → (TX0 a).2.1 ≠ (TX0 b).2.1 := by decide +kernel
theorem tyX0_ok : ∀ k, k < 15 → parseFieldDescriptor (TX0 k).2.2.1 = some (tyX0 k) := by decide +kernel
abbrev cX0_init : ByteArray := prog_2_method_1_code
def yX0_init : MethodName := ⟨RX0, "<init>", "()V"⟩
abbrev cX0_arrange : ByteArray := prog_2_method_2_code
def yX0_arrange : MethodName := ⟨RX0, "arrange", "(LPromiseTailor$Told;)V"⟩
abbrev cX0_enterAll : ByteArray := prog_2_method_3_code
def yX0_enterAll : MethodName := ⟨RX0, "enterAll", "(LPromiseTailor$Told;I)V"⟩
abbrev cX0_enter : ByteArray := prog_2_method_4_code
def yX0_enter : MethodName := ⟨RX0, "enter", "(III)V"⟩
abbrev cX0_begin : ByteArray := prog_2_method_5_code
def yX0_begin : MethodName := ⟨RX0, "begin", "()V"⟩
abbrev cX0_advance : ByteArray := prog_2_method_6_code
def yX0_advance : MethodName := ⟨RX0, "advance", "(I)V"⟩
abbrev cX0_gain : ByteArray := prog_2_method_7_code
def yX0_gain : MethodName := ⟨RX0, "gain", "(I)I"⟩
abbrev cX0_fulfil : ByteArray := prog_2_method_8_code
def yX0_fulfil : MethodName := ⟨RX0, "fulfil", "(I)V"⟩
abbrev cX0_fail : ByteArray := prog_2_method_9_code
def yX0_fail : MethodName := ⟨RX0, "fail", "(I)V"⟩
abbrev cX0_lengthen : ByteArray := prog_2_method_10_code
def yX0_lengthen : MethodName := ⟨RX0, "lengthen", "(II)V"⟩
abbrev cX0_shorten : ByteArray := prog_2_method_11_code
def yX0_shorten : MethodName := ⟨RX0, "shorten", "(II)V"⟩
abbrev cX0_fits : ByteArray := prog_2_method_12_code
def yX0_fits : MethodName := ⟨RX0, "fits", "(I)Z"⟩
abbrev cX0_fittingBits : ByteArray := prog_2_method_13_code
def yX0_fittingBits : MethodName := ⟨RX0, "fittingBits", "()I"⟩
abbrev cX0_nakedBits : ByteArray := prog_2_method_14_code
def yX0_nakedBits : MethodName := ⟨RX0, "nakedBits", "()I"⟩
abbrev cX0_allRips : ByteArray := prog_2_method_15_code
def yX0_allRips : MethodName := ⟨RX0, "allRips", "()I"⟩
abbrev cX0_showsAll : ByteArray := prog_2_method_16_code
def yX0_showsAll : MethodName := ⟨RX0, "showsAll", "(LPromiseTailor$Told;)Z"⟩
abbrev cX0_showsBehind : ByteArray := prog_2_method_17_code
def yX0_showsBehind : MethodName := ⟨RX0, "showsBehind", "(ILPromiseTailor$Told;)Z"⟩
def RX1 : String := "PromiseTailor$Folk"
def TX1 : u_T := fun k => match k with
  | 0 => ("PromiseTailor$Folk", "sorts", "[I", true)
  | 1 => ("PromiseTailor$Folk", "sizes", "[I", true)
  | _ => ("PromiseTailor$Folk", "size", "I", false)
def tyX1 : Nat → FieldType := fun k => match k with
  | 0 => .array .int
  | 1 => .array .int
  | _ => .int
theorem nmX1 : ∀ a, a < 3 → ∀ b, b < 3 → a ≠ b → (TX1 a).2.1 ≠ (TX1 b).2.1 := by decide +kernel
theorem tyX1_ok : ∀ k, k < 3 → parseFieldDescriptor (TX1 k).2.2.1 = some (tyX1 k) := by decide +kernel
abbrev cX1_init : ByteArray := prog_3_method_1_code
def yX1_init : MethodName := ⟨RX1, "<init>", "()V"⟩
abbrev cX1_has : ByteArray := prog_3_method_2_code
def yX1_has : MethodName := ⟨RX1, "has", "(I)Z"⟩
abbrev cX1_take : ByteArray := prog_3_method_3_code
def yX1_take : MethodName := ⟨RX1, "take", "(LPromiseTailor$Text;)V"⟩
def RX2 : String := "PromiseTailor$Sheets"
def TX2 : u_T := fun k => match k with
  | 0 => ("PromiseTailor$Sheets", "rows", "[[I", true)
  | 1 => ("PromiseTailor$Sheets", "lengths", "[I", true)
  | _ => ("PromiseTailor$Sheets", "forms", "[I", true)
def tyX2 : Nat → FieldType := fun k => match k with
  | 0 => .array (.array .int)
  | 1 => .array .int
  | _ => .array .int
theorem nmX2 : ∀ a, a < 3 → ∀ b, b < 3 → a ≠ b → (TX2 a).2.1 ≠ (TX2 b).2.1 := by decide +kernel
theorem tyX2_ok : ∀ k, k < 3 → parseFieldDescriptor (TX2 k).2.2.1 = some (tyX2 k) := by decide +kernel
abbrev cX2_init : ByteArray := prog_4_method_1_code
def yX2_init : MethodName := ⟨RX2, "<init>", "()V"⟩
abbrev cX2_isSheet : ByteArray := prog_4_method_2_code
def yX2_isSheet : MethodName := ⟨RX2, "isSheet", "(I)Z"⟩
abbrev cX2_isForm : ByteArray := prog_4_method_3_code
def yX2_isForm : MethodName := ⟨RX2, "isForm", "(I)Z"⟩
abbrev cX2_isLost : ByteArray := prog_4_method_4_code
def yX2_isLost : MethodName := ⟨RX2, "isLost", "(I)Z"⟩
abbrev cX2_lay : ByteArray := prog_4_method_5_code
def yX2_lay : MethodName := ⟨RX2, "lay", "(III)V"⟩
abbrev cX2_findingAt : ByteArray := prog_4_method_6_code
def yX2_findingAt : MethodName := ⟨RX2, "findingAt", "(III)I"⟩
abbrev cX2_hasItems : ByteArray := prog_4_method_7_code
def yX2_hasItems : MethodName := ⟨RX2, "hasItems", "(III)Z"⟩
abbrev cX2_store : ByteArray := prog_4_method_8_code
def yX2_store : MethodName := ⟨RX2, "store", "(III)V"⟩
def RX3 : String := "PromiseTailor$Text"
def TX3 : u_T := fun k => match k with
  | 0 => ("PromiseTailor$Text", "bytes", "[I", true)
  | 1 => ("PromiseTailor$Text", "room", "I", true)
  | 2 => ("PromiseTailor$Text", "ofPromises", "Z", true)
  | _ => ("PromiseTailor$Text", "length", "I", false)
def tyX3 : Nat → FieldType := fun k => match k with
  | 0 => .array .int
  | 1 => .int
  | 2 => .boolean
  | _ => .int
theorem nmX3 : ∀ a, a < 4 → ∀ b, b < 4 → a ≠ b → (TX3 a).2.1 ≠ (TX3 b).2.1 := by decide +kernel
theorem tyX3_ok : ∀ k, k < 4 → parseFieldDescriptor (TX3 k).2.2.1 = some (tyX3 k) := by decide +kernel
abbrev cX3_init : ByteArray := prog_5_method_1_code
def yX3_init : MethodName := ⟨RX3, "<init>", "(IZ)V"⟩
abbrev cX3_append : ByteArray := prog_5_method_2_code
def yX3_append : MethodName := ⟨RX3, "append", "(I)Z"⟩
abbrev cX3_firstFault : ByteArray := prog_5_method_3_code
def yX3_firstFault : MethodName := ⟨RX3, "firstFault", "()I"⟩
abbrev cX3_goesOnInPeople : ByteArray := prog_5_method_4_code
def yX3_goesOnInPeople : MethodName := ⟨RX3, "goesOnInPeople", "(II)Z"⟩
abbrev cX3_goesOnInPromises : ByteArray := prog_5_method_5_code
def yX3_goesOnInPromises : MethodName := ⟨RX3, "goesOnInPromises", "(II)Z"⟩
def RX4 : String := "PromiseTailor$Told"
def TX4 : u_T := fun k => match k with
  | 0 => ("PromiseTailor$Told", "days", "[I", true)
  | 1 => ("PromiseTailor$Told", "subjects", "[I", true)
  | 2 => ("PromiseTailor$Told", "much", "[I", true)
  | 3 => ("PromiseTailor$Told", "room", "I", true)
  | _ => ("PromiseTailor$Told", "size", "I", false)
def tyX4 : Nat → FieldType := fun k => match k with
  | 0 => .array .int
  | 1 => .array .int
  | 2 => .array .int
  | 3 => .int
  | _ => .int
theorem nmX4 : ∀ a, a < 5 → ∀ b, b < 5 → a ≠ b → (TX4 a).2.1 ≠ (TX4 b).2.1 := by decide +kernel
theorem tyX4_ok : ∀ k, k < 5 → parseFieldDescriptor (TX4 k).2.2.1 = some (tyX4 k) := by decide +kernel
abbrev cX4_init : ByteArray := prog_6_method_1_code
def yX4_init : MethodName := ⟨RX4, "<init>", "(I)V"⟩
abbrev cX4_isFull : ByteArray := prog_6_method_2_code
def yX4_isFull : MethodName := ⟨RX4, "isFull", "()Z"⟩
abbrev cX4_add : ByteArray := prog_6_method_3_code
def yX4_add : MethodName := ⟨RX4, "add", "(III)I"⟩
abbrev cX4_dropLast : ByteArray := prog_6_method_4_code
def yX4_dropLast : MethodName := ⟨RX4, "dropLast", "()I"⟩
def RX5 : String := "PromiseTailor$Vows"
def TX5 : u_T := fun k => match k with
  | 0 => ("PromiseTailor$Vows", "whose", "[I", true)
  | 1 => ("PromiseTailor$Vows", "great", "[I", true)
  | 2 => ("PromiseTailor$Vows", "made", "[I", true)
  | 3 => ("PromiseTailor$Vows", "dues", "[I", true)
  | _ => ("PromiseTailor$Vows", "size", "I", false)
def tyX5 : Nat → FieldType := fun k => match k with
  | 0 => .array .int
  | 1 => .array .int
  | 2 => .array .int
  | 3 => .array .int
  | _ => .int
theorem nmX5 : ∀ a, a < 5 → ∀ b, b < 5 → a ≠ b → (TX5 a).2.1 ≠ (TX5 b).2.1 := by decide +kernel
theorem tyX5_ok : ∀ k, k < 5 → parseFieldDescriptor (TX5 k).2.2.1 = some (tyX5 k) := by decide +kernel
abbrev cX5_init : ByteArray := prog_7_method_1_code
def yX5_init : MethodName := ⟨RX5, "<init>", "()V"⟩
abbrev cX5_has : ByteArray := prog_7_method_2_code
def yX5_has : MethodName := ⟨RX5, "has", "(I)Z"⟩
abbrev cX5_take : ByteArray := prog_7_method_3_code
def yX5_take : MethodName := ⟨RX5, "take", "(LPromiseTailor$Text;)V"⟩
abbrev cX5_add : ByteArray := prog_7_method_4_code
def yX5_add : MethodName := ⟨RX5, "add", "(IIII)V"⟩
abbrev cX5_dropLast : ByteArray := prog_7_method_5_code
def yX5_dropLast : MethodName := ⟨RX5, "dropLast", "()V"⟩
def RX6 : String := "PromiseTailor"
def TX6 : u_T := fun k => match k with
  | 0 => ("PromiseTailor", "peopleText", "LPromiseTailor$Text;", true)
  | 1 => ("PromiseTailor", "promisesText", "LPromiseTailor$Text;", true)
  | 2 => ("PromiseTailor", "course", "LPromiseTailor$Course;", true)
  | 3 => ("PromiseTailor", "folk", "LPromiseTailor$Folk;", true)
  | 4 => ("PromiseTailor", "vows", "LPromiseTailor$Vows;", true)
  | 5 => ("PromiseTailor", "keepings", "LPromiseTailor$Told;", true)
  | 6 => ("PromiseTailor", "lies", "LPromiseTailor$Told;", true)
  | 7 => ("PromiseTailor", "lettings", "LPromiseTailor$Told;", true)
  | 8 => ("PromiseTailor", "sightings", "LPromiseTailor$Told;", true)
  | 9 => ("PromiseTailor", "drawn", "LPromiseTailor$Told;", true)
  | 10 => ("PromiseTailor", "sheets", "LPromiseTailor$Sheets;", true)
  | 11 => ("PromiseTailor", "coatBySize", "[[I", true)
  | _ => ("PromiseTailor", "latestFinding", "I", false)
def tyX6 : Nat → FieldType := fun k => match k with
  | 0 => .object "PromiseTailor$Text"
  | 1 => .object "PromiseTailor$Text"
  | 2 => .object "PromiseTailor$Course"
  | 3 => .object "PromiseTailor$Folk"
  | 4 => .object "PromiseTailor$Vows"
  | 5 => .object "PromiseTailor$Told"
  | 6 => .object "PromiseTailor$Told"
  | 7 => .object "PromiseTailor$Told"
  | 8 => .object "PromiseTailor$Told"
  | 9 => .object "PromiseTailor$Told"
  | 10 => .object "PromiseTailor$Sheets"
  | 11 => .array (.array .int)
  | _ => .int
theorem nmX6 : ∀ a, a < 13 → ∀ b, b < 13 → a ≠ b → (TX6 a).2.1 ≠ (TX6 b).2.1 := by decide +kernel
theorem tyX6_ok : ∀ k, k < 13 → parseFieldDescriptor (TX6 k).2.2.1 = some (tyX6 k) := by decide +kernel
abbrev cX6_init : ByteArray := prog_1_method_1_code
def yX6_init : MethodName := ⟨RX6, "<init>", "()V"⟩
abbrev cX6_type : ByteArray := prog_1_method_2_code
def yX6_type : MethodName := ⟨RX6, "type", "(II)I"⟩
abbrev cX6_wipe : ByteArray := prog_1_method_3_code
def yX6_wipe : MethodName := ⟨RX6, "wipe", "(I)I"⟩
abbrev cX6_undo : ByteArray := prog_1_method_4_code
def yX6_undo : MethodName := ⟨RX6, "undo", "(I)I"⟩
abbrev cX6_fault : ByteArray := prog_1_method_5_code
def yX6_fault : MethodName := ⟨RX6, "fault", "(I)I"⟩
abbrev cX6_person : ByteArray := prog_1_method_6_code
def yX6_person : MethodName := ⟨RX6, "person", "(II)I"⟩
abbrev cX6_promise : ByteArray := prog_1_method_7_code
def yX6_promise : MethodName := ⟨RX6, "promise", "(II)I"⟩
abbrev cX6_keeping : ByteArray := prog_1_method_8_code
def yX6_keeping : MethodName := ⟨RX6, "keeping", "(II)I"⟩
abbrev cX6_lie : ByteArray := prog_1_method_9_code
def yX6_lie : MethodName := ⟨RX6, "lie", "(III)I"⟩
abbrev cX6_letting : ByteArray := prog_1_method_10_code
def yX6_letting : MethodName := ⟨RX6, "letting", "(III)I"⟩
abbrev cX6_back : ByteArray := prog_1_method_11_code
def yX6_back : MethodName := ⟨RX6, "back", "(I)I"⟩
abbrev cX6_read : ByteArray := prog_1_method_12_code
def yX6_read : MethodName := ⟨RX6, "read", "(I)I"⟩
abbrev cX6_coat : ByteArray := prog_1_method_13_code
def yX6_coat : MethodName := ⟨RX6, "coat", "(III)I"⟩
abbrev cX6_stands : ByteArray := prog_1_method_14_code
def yX6_stands : MethodName := ⟨RX6, "stands", "(II)I"⟩
abbrev cX6_neat : ByteArray := prog_1_method_15_code
def yX6_neat : MethodName := ⟨RX6, "neat", "(I)I"⟩
abbrev cX6_naked : ByteArray := prog_1_method_16_code
def yX6_naked : MethodName := ⟨RX6, "naked", "(I)I"⟩
abbrev cX6_longest : ByteArray := prog_1_method_17_code
def yX6_longest : MethodName := ⟨RX6, "longest", "(I)I"⟩
abbrev cX6_splits : ByteArray := prog_1_method_18_code
def yX6_splits : MethodName := ⟨RX6, "splits", "()I"⟩
abbrev cX6_best : ByteArray := prog_1_method_19_code
def yX6_best : MethodName := ⟨RX6, "best", "()I"⟩
abbrev cX6_swear : ByteArray := prog_1_method_20_code
def yX6_swear : MethodName := ⟨RX6, "swear", "(II)I"⟩
abbrev cX6_keep : ByteArray := prog_1_method_21_code
def yX6_keep : MethodName := ⟨RX6, "keep", "(II)I"⟩
abbrev cX6_due : ByteArray := prog_1_method_22_code
def yX6_due : MethodName := ⟨RX6, "due", "(II)I"⟩
abbrev cX6_hush : ByteArray := prog_1_method_23_code
def yX6_hush : MethodName := ⟨RX6, "hush", "(I)I"⟩
abbrev cX6_seen : ByteArray := prog_1_method_24_code
def yX6_seen : MethodName := ⟨RX6, "seen", "(III)I"⟩
abbrev cX6_forget : ByteArray := prog_1_method_25_code
def yX6_forget : MethodName := ⟨RX6, "forget", "()I"⟩
abbrev cX6_never : ByteArray := prog_1_method_26_code
def yX6_never : MethodName := ⟨RX6, "never", "()I"⟩
abbrev cX6_was : ByteArray := prog_1_method_27_code
def yX6_was : MethodName := ⟨RX6, "was", "(II)I"⟩
abbrev cX6_ask : ByteArray := prog_1_method_28_code
def yX6_ask : MethodName := ⟨RX6, "ask", "(I)I"⟩
abbrev cX6_word : ByteArray := prog_1_method_29_code
def yX6_word : MethodName := ⟨RX6, "word", "(IIII)J"⟩
abbrev cX6_year : ByteArray := prog_1_method_30_code
def yX6_year : MethodName := ⟨RX6, "year", "(III)I"⟩
abbrev cX6_sheet : ByteArray := prog_1_method_31_code
def yX6_sheet : MethodName := ⟨RX6, "sheet", "(III)I"⟩
abbrev cX6_lose : ByteArray := prog_1_method_32_code
def yX6_lose : MethodName := ⟨RX6, "lose", "(I)I"⟩
abbrev cX6_put : ByteArray := prog_1_method_33_code
def yX6_put : MethodName := ⟨RX6, "put", "(IIII)I"⟩
abbrev cX6_get : ByteArray := prog_1_method_34_code
def yX6_get : MethodName := ⟨RX6, "get", "(III)I"⟩
abbrev cX6_copy : ByteArray := prog_1_method_35_code
def yX6_copy : MethodName := ⟨RX6, "copy", "(IIIII)I"⟩
abbrev cX6_write : ByteArray := prog_1_method_36_code
def yX6_write : MethodName := ⟨RX6, "write", "(II)I"⟩
abbrev cX6_count : ByteArray := prog_1_method_37_code
def yX6_count : MethodName := ⟨RX6, "count", "(I)I"⟩
abbrev cX6_digest : ByteArray := prog_1_method_38_code
def yX6_digest : MethodName := ⟨RX6, "digest", "()J"⟩
abbrev cX6_isUpTo : ByteArray := prog_1_method_39_code
def yX6_isUpTo : MethodName := ⟨RX6, "isUpTo", "(II)Z"⟩
abbrev cX6_isText : ByteArray := prog_1_method_40_code
def yX6_isText : MethodName := ⟨RX6, "isText", "(I)Z"⟩
abbrev cX6_isDay : ByteArray := prog_1_method_41_code
def yX6_isDay : MethodName := ⟨RX6, "isDay", "(I)Z"⟩
abbrev cX6_isGreat : ByteArray := prog_1_method_42_code
def yX6_isGreat : MethodName := ⟨RX6, "isGreat", "(I)Z"⟩
abbrev cX6_mayBePerson : ByteArray := prog_1_method_43_code
def yX6_mayBePerson : MethodName := ⟨RX6, "mayBePerson", "(I)Z"⟩
abbrev cX6_mayBeKeeping : ByteArray := prog_1_method_44_code
def yX6_mayBeKeeping : MethodName := ⟨RX6, "mayBeKeeping", "(II)Z"⟩
abbrev cX6_textOf : ByteArray := prog_1_method_45_code
def yX6_textOf : MethodName := ⟨RX6, "textOf", "(I)LPromiseTailor$Text;"⟩
abbrev cX6_takeTexts : ByteArray := prog_1_method_46_code
def yX6_takeTexts : MethodName := ⟨RX6, "takeTexts", "()V"⟩
abbrev cX6_found : ByteArray := prog_1_method_47_code
def yX6_found : MethodName := ⟨RX6, "found", "(I)I"⟩
abbrev cX6_liveUntil : ByteArray := prog_1_method_48_code
def yX6_liveUntil : MethodName := ⟨RX6, "liveUntil", "(I)V"⟩
abbrev cX6_liesToHush : ByteArray := prog_1_method_49_code
def yX6_liesToHush : MethodName := ⟨RX6, "liesToHush", "()I"⟩
abbrev cX6_leavesNobodyNaked : ByteArray := prog_1_method_50_code
def yX6_leavesNobodyNaked : MethodName := ⟨RX6, "leavesNobodyNaked", "(I)Z"⟩
abbrev cX6_fittingValues : ByteArray := prog_1_method_51_code
def yX6_fittingValues : MethodName := ⟨RX6, "fittingValues", "([III)I"⟩
abbrev cX6_noteCoatsBySize : ByteArray := prog_1_method_52_code
def yX6_noteCoatsBySize : MethodName := ⟨RX6, "noteCoatsBySize", "(I)V"⟩
abbrev cX6_mostAlike : ByteArray := prog_1_method_53_code
def yX6_mostAlike : MethodName := ⟨RX6, "mostAlike", "(II)I"⟩
abbrev cX6_keepingsOf : ByteArray := prog_1_method_54_code
def yX6_keepingsOf : MethodName := ⟨RX6, "keepingsOf", "(I)I"⟩
abbrev cX6_weight : ByteArray := prog_1_method_55_code
def yX6_weight : MethodName := ⟨RX6, "weight", "(III)J"⟩
abbrev cX6_drawKeepings : ByteArray := prog_1_method_56_code
def yX6_drawKeepings : MethodName := ⟨RX6, "drawKeepings", "(II)V"⟩
abbrev cX6_nextSeed : ByteArray := prog_1_method_57_code
def yX6_nextSeed : MethodName := ⟨RX6, "nextSeed", "(I)I"⟩
abbrev cX6_mixed : ByteArray := prog_1_method_58_code
def yX6_mixed : MethodName := ⟨RX6, "mixed", "(JJ)J"⟩
abbrev cX6_withPromise : ByteArray := prog_1_method_59_code
def yX6_withPromise : MethodName := ⟨RX6, "withPromise", "(JI)J"⟩
abbrev cX6_withPerson : ByteArray := prog_1_method_60_code
def yX6_withPerson : MethodName := ⟨RX6, "withPerson", "(JI)J"⟩
abbrev cX6_withCoat : ByteArray := prog_1_method_61_code
def yX6_withCoat : MethodName := ⟨RX6, "withCoat", "(JII)J"⟩
def RX7 : String := "PromiseTailorModel"
def TX7 : u_T := fun k => match k with
  | 0 => ("PromiseTailorModel", "typed", "[I", true)
  | 1 => ("PromiseTailorModel", "texts", "[I", true)
  | 2 => ("PromiseTailorModel", "people", "I", false)
  | 3 => ("PromiseTailorModel", "sorts", "[I", true)
  | 4 => ("PromiseTailorModel", "measures", "[I", true)
  | 5 => ("PromiseTailorModel", "promises", "I", false)
  | 6 => ("PromiseTailorModel", "whose", "[I", true)
  | 7 => ("PromiseTailorModel", "greats", "[I", true)
  | 8 => ("PromiseTailorModel", "mades", "[I", true)
  | 9 => ("PromiseTailorModel", "dues", "[I", true)
  | 10 => ("PromiseTailorModel", "keepings", "I", false)
  | 11 => ("PromiseTailorModel", "keepDay", "[I", true)
  | 12 => ("PromiseTailorModel", "keepOf", "[I", true)
  | 13 => ("PromiseTailorModel", "lies", "I", false)
  | 14 => ("PromiseTailorModel", "lieDay", "[I", true)
  | 15 => ("PromiseTailorModel", "lieWho", "[I", true)
  | 16 => ("PromiseTailorModel", "lieMuch", "[I", true)
  | 17 => ("PromiseTailorModel", "lettings", "I", false)
  | 18 => ("PromiseTailorModel", "letDay", "[I", true)
  | 19 => ("PromiseTailorModel", "letWho", "[I", true)
  | 20 => ("PromiseTailorModel", "letMuch", "[I", true)
  | 21 => ("PromiseTailorModel", "promisesNow", "I", false)
  | 22 => ("PromiseTailorModel", "keepsNow", "I", false)
  | 23 => ("PromiseTailorModel", "dayNow", "[I", true)
  | 24 => ("PromiseTailorModel", "ofNow", "[I", true)
  | 25 => ("PromiseTailorModel", "notKeeps", "I", false)
  | 26 => ("PromiseTailorModel", "notLies", "I", false)
  | 27 => ("PromiseTailorModel", "coats", "[I", true)
  | 28 => ("PromiseTailorModel", "tears", "[I", true)
  | 29 => ("PromiseTailorModel", "states", "[I", true)
  | 30 => ("PromiseTailorModel", "coatAt", "[I", true)
  | 31 => ("PromiseTailorModel", "tearAt", "[I", true)
  | 32 => ("PromiseTailorModel", "stateAt", "[I", true)
  | 33 => ("PromiseTailorModel", "planRow", "[I", true)
  | 34 => ("PromiseTailorModel", "seens", "I", false)
  | 35 => ("PromiseTailorModel", "seenDay", "[I", true)
  | 36 => ("PromiseTailorModel", "seenWho", "[I", true)
  | 37 => ("PromiseTailorModel", "seenMuch", "[I", true)
  | 38 => ("PromiseTailorModel", "coatBy", "[I", true)
  | 39 => ("PromiseTailorModel", "isThere", "[Z", true)
  | 40 => ("PromiseTailorModel", "forms", "[I", true)
  | 41 => ("PromiseTailorModel", "sizes", "[I", true)
  | 42 => ("PromiseTailorModel", "items", "[I", true)
  | 43 => ("PromiseTailorModel", "moved", "[I", true)
  | _ => ("PromiseTailorModel", "finding", "I", false)
def tyX7 : Nat → FieldType := fun k => match k with
  | 0 => .array .int
  | 1 => .array .int
  | 2 => .int
  | 3 => .array .int
  | 4 => .array .int
  | 5 => .int
  | 6 => .array .int
  | 7 => .array .int
  | 8 => .array .int
  | 9 => .array .int
  | 10 => .int
  | 11 => .array .int
  | 12 => .array .int
  | 13 => .int
  | 14 => .array .int
  | 15 => .array .int
  | 16 => .array .int
  | 17 => .int
  | 18 => .array .int
  | 19 => .array .int
  | 20 => .array .int
  | 21 => .int
  | 22 => .int
  | 23 => .array .int
  | 24 => .array .int
  | 25 => .int
  | 26 => .int
  | 27 => .array .int
  | 28 => .array .int
  | 29 => .array .int
  | 30 => .array .int
  | 31 => .array .int
  | 32 => .array .int
  | 33 => .array .int
  | 34 => .int
  | 35 => .array .int
  | 36 => .array .int
  | 37 => .array .int
  | 38 => .array .int
  | 39 => .array .boolean
  | 40 => .array .int
  | 41 => .array .int
  | 42 => .array .int
  | 43 => .array .int
  | _ => .int
theorem nmX7 : ∀ a, a < 45 → ∀ b, b < 45 → a ≠ b → (TX7 a).2.1 ≠ (TX7 b).2.1 := by decide +kernel
theorem tyX7_ok : ∀ k, k < 45 → parseFieldDescriptor (TX7 k).2.2.1 = some (tyX7 k) := by decide +kernel
abbrev cX7_init : ByteArray := prog_9_method_1_code
def yX7_init : MethodName := ⟨RX7, "<init>", "()V"⟩
abbrev cX7_in : ByteArray := prog_9_method_3_code
def yX7_in : MethodName := ⟨RX7, "in", "(III)Z"⟩
abbrev cX7_isIn : ByteArray := prog_9_method_4_code
def yX7_isIn : MethodName := ⟨RX7, "isIn", "(II)Z"⟩
abbrev cX7_no : ByteArray := prog_9_method_5_code
def yX7_no : MethodName := ⟨RX7, "no", "(I)J"⟩
abbrev cX7_lowest : ByteArray := prog_9_method_6_code
def yX7_lowest : MethodName := ⟨RX7, "lowest", "(JJI)J"⟩
abbrev cX7_isText : ByteArray := prog_9_method_7_code
def yX7_isText : MethodName := ⟨RX7, "isText", "(I)Z"⟩
abbrev cX7_isDay : ByteArray := prog_9_method_8_code
def yX7_isDay : MethodName := ⟨RX7, "isDay", "(I)Z"⟩
abbrev cX7_isEight : ByteArray := prog_9_method_9_code
def yX7_isEight : MethodName := ⟨RX7, "isEight", "(I)Z"⟩
abbrev cX7_type : ByteArray := prog_9_method_10_code
def yX7_type : MethodName := ⟨RX7, "type", "(II)I"⟩
abbrev cX7_wipe : ByteArray := prog_9_method_11_code
def yX7_wipe : MethodName := ⟨RX7, "wipe", "(I)I"⟩
abbrev cX7_undo : ByteArray := prog_9_method_12_code
def yX7_undo : MethodName := ⟨RX7, "undo", "(I)I"⟩
abbrev cX7_byteAt : ByteArray := prog_9_method_13_code
def yX7_byteAt : MethodName := ⟨RX7, "byteAt", "(II)I"⟩
abbrev cX7_readsPerson : ByteArray := prog_9_method_14_code
def yX7_readsPerson : MethodName := ⟨RX7, "readsPerson", "(II)I"⟩
abbrev cX7_readsPromise : ByteArray := prog_9_method_15_code
def yX7_readsPromise : MethodName := ⟨RX7, "readsPromise", "(II)I"⟩
abbrev cX7_readsParts : ByteArray := prog_9_method_16_code
def yX7_readsParts : MethodName := ⟨RX7, "readsParts", "(I)I"⟩
abbrev cX7_faultOf : ByteArray := prog_9_method_17_code
def yX7_faultOf : MethodName := ⟨RX7, "faultOf", "(I)I"⟩
abbrev cX7_reads : ByteArray := prog_9_method_18_code
def yX7_reads : MethodName := ⟨RX7, "reads", "()V"⟩
abbrev cX7_fault : ByteArray := prog_9_method_19_code
def yX7_fault : MethodName := ⟨RX7, "fault", "(I)I"⟩
abbrev cX7_isPerson : ByteArray := prog_9_method_20_code
def yX7_isPerson : MethodName := ⟨RX7, "isPerson", "(I)Z"⟩
abbrev cX7_isPromise : ByteArray := prog_9_method_21_code
def yX7_isPromise : MethodName := ⟨RX7, "isPromise", "(I)Z"⟩
abbrev cX7_personOf : ByteArray := prog_9_method_22_code
def yX7_personOf : MethodName := ⟨RX7, "personOf", "(II)I"⟩
abbrev cX7_person : ByteArray := prog_9_method_23_code
def yX7_person : MethodName := ⟨RX7, "person", "(II)I"⟩
abbrev cX7_promiseOf : ByteArray := prog_9_method_24_code
def yX7_promiseOf : MethodName := ⟨RX7, "promiseOf", "(II)I"⟩
abbrev cX7_promise : ByteArray := prog_9_method_25_code
def yX7_promise : MethodName := ⟨RX7, "promise", "(II)I"⟩
abbrev cX7_keeping : ByteArray := prog_9_method_26_code
def yX7_keeping : MethodName := ⟨RX7, "keeping", "(II)I"⟩
abbrev cX7_lie : ByteArray := prog_9_method_27_code
def yX7_lie : MethodName := ⟨RX7, "lie", "(III)I"⟩
abbrev cX7_letting : ByteArray := prog_9_method_28_code
def yX7_letting : MethodName := ⟨RX7, "letting", "(III)I"⟩
abbrev cX7_back : ByteArray := prog_9_method_29_code
def yX7_back : MethodName := ⟨RX7, "back", "(I)I"⟩
abbrev cX7_read : ByteArray := prog_9_method_30_code
def yX7_read : MethodName := ⟨RX7, "read", "(I)I"⟩
abbrev cX7_asTold : ByteArray := prog_9_method_31_code
def yX7_asTold : MethodName := ⟨RX7, "asTold", "()V"⟩
abbrev cX7_changes : ByteArray := prog_9_method_32_code
def yX7_changes : MethodName := ⟨RX7, "changes", "(II)V"⟩
abbrev cX7_lengthOf : ByteArray := prog_9_method_33_code
def yX7_lengthOf : MethodName := ⟨RX7, "lengthOf", "(I)I"⟩
abbrev cX7_makes : ByteArray := prog_9_method_34_code
def yX7_makes : MethodName := ⟨RX7, "makes", "(I)V"⟩
abbrev cX7_isKept : ByteArray := prog_9_method_35_code
def yX7_isKept : MethodName := ⟨RX7, "isKept", "(I)V"⟩
abbrev cX7_keepsOn : ByteArray := prog_9_method_36_code
def yX7_keepsOn : MethodName := ⟨RX7, "keepsOn", "(I)V"⟩
abbrev cX7_breaks : ByteArray := prog_9_method_37_code
def yX7_breaks : MethodName := ⟨RX7, "breaks", "(I)V"⟩
abbrev cX7_goesBy : ByteArray := prog_9_method_38_code
def yX7_goesBy : MethodName := ⟨RX7, "goesBy", "(I)V"⟩
abbrev cX7_runs : ByteArray := prog_9_method_39_code
def yX7_runs : MethodName := ⟨RX7, "runs", "()V"⟩
abbrev cX7_runsTold : ByteArray := prog_9_method_40_code
def yX7_runsTold : MethodName := ⟨RX7, "runsTold", "()V"⟩
abbrev cX7_fitsOn : ByteArray := prog_9_method_41_code
def yX7_fitsOn : MethodName := ⟨RX7, "fitsOn", "(II)Z"⟩
abbrev cX7_fitMany : ByteArray := prog_9_method_42_code
def yX7_fitMany : MethodName := ⟨RX7, "fitMany", "(I)I"⟩
abbrev cX7_coatOf : ByteArray := prog_9_method_43_code
def yX7_coatOf : MethodName := ⟨RX7, "coatOf", "(III)I"⟩
abbrev cX7_coat : ByteArray := prog_9_method_44_code
def yX7_coat : MethodName := ⟨RX7, "coat", "(III)I"⟩
abbrev cX7_standsOf : ByteArray := prog_9_method_45_code
def yX7_standsOf : MethodName := ⟨RX7, "standsOf", "(II)I"⟩
abbrev cX7_stands : ByteArray := prog_9_method_46_code
def yX7_stands : MethodName := ⟨RX7, "stands", "(II)I"⟩
abbrev cX7_neatOf : ByteArray := prog_9_method_47_code
def yX7_neatOf : MethodName := ⟨RX7, "neatOf", "(I)I"⟩
abbrev cX7_neat : ByteArray := prog_9_method_48_code
def yX7_neat : MethodName := ⟨RX7, "neat", "(I)I"⟩
abbrev cX7_nakedNow : ByteArray := prog_9_method_49_code
def yX7_nakedNow : MethodName := ⟨RX7, "nakedNow", "(I)I"⟩
abbrev cX7_nakedOf : ByteArray := prog_9_method_50_code
def yX7_nakedOf : MethodName := ⟨RX7, "nakedOf", "(I)I"⟩
abbrev cX7_naked : ByteArray := prog_9_method_51_code
def yX7_naked : MethodName := ⟨RX7, "naked", "(I)I"⟩
abbrev cX7_longestOf : ByteArray := prog_9_method_52_code
def yX7_longestOf : MethodName := ⟨RX7, "longestOf", "(I)I"⟩
abbrev cX7_longest : ByteArray := prog_9_method_53_code
def yX7_longest : MethodName := ⟨RX7, "longest", "(I)I"⟩
abbrev cX7_tearsAll : ByteArray := prog_9_method_54_code
def yX7_tearsAll : MethodName := ⟨RX7, "tearsAll", "()I"⟩
abbrev cX7_splitsOf : ByteArray := prog_9_method_55_code
def yX7_splitsOf : MethodName := ⟨RX7, "splitsOf", "()I"⟩
abbrev cX7_splits : ByteArray := prog_9_method_56_code
def yX7_splits : MethodName := ⟨RX7, "splits", "()I"⟩
abbrev cX7_bestNow : ByteArray := prog_9_method_57_code
def yX7_bestNow : MethodName := ⟨RX7, "bestNow", "()I"⟩
abbrev cX7_best : ByteArray := prog_9_method_58_code
def yX7_best : MethodName := ⟨RX7, "best", "()I"⟩
abbrev cX7_swearOf : ByteArray := prog_9_method_59_code
def yX7_swearOf : MethodName := ⟨RX7, "swearOf", "(II)I"⟩
abbrev cX7_swear : ByteArray := prog_9_method_60_code
def yX7_swear : MethodName := ⟨RX7, "swear", "(II)I"⟩
abbrev cX7_keepBest : ByteArray := prog_9_method_61_code
def yX7_keepBest : MethodName := ⟨RX7, "keepBest", "(II)I"⟩
abbrev cX7_keep : ByteArray := prog_9_method_62_code
def yX7_keep : MethodName := ⟨RX7, "keep", "(II)I"⟩
abbrev cX7_dueOf : ByteArray := prog_9_method_63_code
def yX7_dueOf : MethodName := ⟨RX7, "dueOf", "(II)I"⟩
abbrev cX7_due : ByteArray := prog_9_method_64_code
def yX7_due : MethodName := ⟨RX7, "due", "(II)I"⟩
abbrev cX7_isHushed : ByteArray := prog_9_method_65_code
def yX7_isHushed : MethodName := ⟨RX7, "isHushed", "(I)Z"⟩
abbrev cX7_hushBy : ByteArray := prog_9_method_66_code
def yX7_hushBy : MethodName := ⟨RX7, "hushBy", "()I"⟩
abbrev cX7_ofRow : ByteArray := prog_9_method_67_code
def yX7_ofRow : MethodName := ⟨RX7, "ofRow", "(II)I"⟩
abbrev cX7_hush : ByteArray := prog_9_method_68_code
def yX7_hush : MethodName := ⟨RX7, "hush", "(I)I"⟩
abbrev cX7_seen : ByteArray := prog_9_method_69_code
def yX7_seen : MethodName := ⟨RX7, "seen", "(III)I"⟩
abbrev cX7_forget : ByteArray := prog_9_method_70_code
def yX7_forget : MethodName := ⟨RX7, "forget", "()I"⟩
abbrev cX7_isSeen : ByteArray := prog_9_method_71_code
def yX7_isSeen : MethodName := ⟨RX7, "isSeen", "()Z"⟩
abbrev cX7_neverNow : ByteArray := prog_9_method_72_code
def yX7_neverNow : MethodName := ⟨RX7, "neverNow", "()I"⟩
abbrev cX7_never : ByteArray := prog_9_method_73_code
def yX7_never : MethodName := ⟨RX7, "never", "()I"⟩
abbrev cX7_sizesBy : ByteArray := prog_9_method_74_code
def yX7_sizesBy : MethodName := ⟨RX7, "sizesBy", "(I)I"⟩
abbrev cX7_sortsBy : ByteArray := prog_9_method_75_code
def yX7_sortsBy : MethodName := ⟨RX7, "sortsBy", "(I)I"⟩
abbrev cX7_was : ByteArray := prog_9_method_76_code
def yX7_was : MethodName := ⟨RX7, "was", "(II)I"⟩
abbrev cX7_askOf : ByteArray := prog_9_method_77_code
def yX7_askOf : MethodName := ⟨RX7, "askOf", "(I)I"⟩
abbrev cX7_ask : ByteArray := prog_9_method_78_code
def yX7_ask : MethodName := ⟨RX7, "ask", "(I)I"⟩
abbrev cX7_wordOf : ByteArray := prog_9_method_79_code
def yX7_wordOf : MethodName := ⟨RX7, "wordOf", "(IIII)J"⟩
abbrev cX7_word : ByteArray := prog_9_method_80_code
def yX7_word : MethodName := ⟨RX7, "word", "(IIII)J"⟩
abbrev cX7_yearOf : ByteArray := prog_9_method_81_code
def yX7_yearOf : MethodName := ⟨RX7, "yearOf", "(III)I"⟩
abbrev cX7_year : ByteArray := prog_9_method_82_code
def yX7_year : MethodName := ⟨RX7, "year", "(III)I"⟩
abbrev cX7_meets : ByteArray := prog_9_method_83_code
def yX7_meets : MethodName := ⟨RX7, "meets", "(I)I"⟩
abbrev cX7_isSheet : ByteArray := prog_9_method_84_code
def yX7_isSheet : MethodName := ⟨RX7, "isSheet", "(I)Z"⟩
abbrev cX7_sheet : ByteArray := prog_9_method_85_code
def yX7_sheet : MethodName := ⟨RX7, "sheet", "(III)I"⟩
abbrev cX7_lose : ByteArray := prog_9_method_86_code
def yX7_lose : MethodName := ⟨RX7, "lose", "(I)I"⟩
abbrev cX7_lacks : ByteArray := prog_9_method_87_code
def yX7_lacks : MethodName := ⟨RX7, "lacks", "(III)I"⟩
abbrev cX7_lays : ByteArray := prog_9_method_88_code
def yX7_lays : MethodName := ⟨RX7, "lays", "(III)V"⟩
abbrev cX7_put : ByteArray := prog_9_method_89_code
def yX7_put : MethodName := ⟨RX7, "put", "(IIII)I"⟩
abbrev cX7_get : ByteArray := prog_9_method_90_code
def yX7_get : MethodName := ⟨RX7, "get", "(III)I"⟩
abbrev cX7_copy : ByteArray := prog_9_method_91_code
def yX7_copy : MethodName := ⟨RX7, "copy", "(IIIII)I"⟩
abbrev cX7_write : ByteArray := prog_9_method_92_code
def yX7_write : MethodName := ⟨RX7, "write", "(II)I"⟩
abbrev cX7_sumOf : ByteArray := prog_9_method_93_code
def yX7_sumOf : MethodName := ⟨RX7, "sumOf", "(I)I"⟩
abbrev cX7_count : ByteArray := prog_9_method_94_code
def yX7_count : MethodName := ⟨RX7, "count", "(I)I"⟩
abbrev cX7_promiseDigest : ByteArray := prog_9_method_95_code
def yX7_promiseDigest : MethodName := ⟨RX7, "promiseDigest", "(JI)J"⟩
abbrev cX7_coatDigest : ByteArray := prog_9_method_96_code
def yX7_coatDigest : MethodName := ⟨RX7, "coatDigest", "(JII)J"⟩
abbrev cX7_personDigest : ByteArray := prog_9_method_97_code
def yX7_personDigest : MethodName := ⟨RX7, "personDigest", "(JI)J"⟩
abbrev cX7_digest : ByteArray := prog_9_method_98_code
def yX7_digest : MethodName := ⟨RX7, "digest", "()J"⟩
def RJ6 : String := "java/lang/Integer"
def TJ6 : u_T := fun k => match k with
  | _ => ("", "", "", false)
def tyJ6 : Nat → FieldType := fun k => match k with
  | _ => .int
abbrev cJ6_numberOfTrailingZeros_0f7a4 : ByteArray := prog_10_method_48_code
def yJ6_numberOfTrailingZeros_0f7a4 : MethodName := ⟨RJ6, "numberOfTrailingZeros", "(I)I"⟩
abbrev cJ6_bitCount_0f7a4 : ByteArray := prog_10_method_49_code
def yJ6_bitCount_0f7a4 : MethodName := ⟨RJ6, "bitCount", "(I)I"⟩
def RJ9 : String := "java/lang/Math"
def TJ9 : u_T := fun k => match k with
  | _ => ("", "", "", false)
def tyJ9 : Nat → FieldType := fun k => match k with
  | _ => .int
abbrev cJ9_max_7cf53 : ByteArray := prog_11_method_65_code
def yJ9_max_7cf53 : MethodName := ⟨RJ9, "max", "(II)I"⟩
abbrev cJ9_min_7cf53 : ByteArray := prog_11_method_69_code
def yJ9_min_7cf53 : MethodName := ⟨RJ9, "min", "(II)I"⟩
def RJ10 : String := "java/lang/System"
def TJ10 : u_T := fun k => match k with
  | _ => ("", "", "", false)
def tyJ10 : Nat → FieldType := fun k => match k with
  | _ => .int
def RJ7 : String := "java/util/Arrays"
def TJ7 : u_T := fun k => match k with
  | _ => ("", "", "", false)
def tyJ7 : Nat → FieldType := fun k => match k with
  | _ => .int
abbrev cJ7_fill_53178 : ByteArray := prog_13_method_103_code
def yJ7_fill_53178 : MethodName := ⟨RJ7, "fill", "([II)V"⟩
def RL : String := "PromiseTailorLaw"
abbrev cL_law : ByteArray := code
end
section
/-! ===== the abstract heap: cells by number, their addresses in a list ===== -/
abbrev AC : Type := (FieldType × List Int32) ⊕ (List Nat ⊕ (Nat × List Value))
abbrev AH : Type := List AC
def cv (ad : List Nat) (v : Value) : Value := match v with
  | .ref k => .ref (ad.getD k 0)
  | w => w
def jC (cA : FieldType → ClassId) (ad : List Nat) (x : AC) : va_E := match x with
  | .inl (ty, xs) => .inl (cA ty, xs.length, .inl (fun j => xs.getD j 0))
  | .inr (.inl rs) => .inl (cA (.array .int), rs.length, .inr (.inr (.inr (.inr (fun j => (rs[j]?).map (fun r => ad.getD r 0))))))
  | .inr (.inr (ci, fs)) => .inr (ci, fs.map (cv ad))
def conc (cA : FieldType → ClassId) (ad : List Nat) (hp : AH) : va_W := List.zipWith (fun a x => (a, jC cA ad x)) ad hp
theorem conc_get {cA : FieldType → ClassId} {ad : List Nat} {hp : AH} (hl : ad.length = hp.length) {k : Nat} {x : AC} (h : hp[k]? = some x) : (conc cA ad hp)[k]? = some (ad.getD k 0, jC cA ad x) := by
  have hk : k < hp.length := (List.getElem?_eq_some_iff.mp h).1
  have ha : ad[k]? = some (ad.getD k 0) := by
    rw [List.getD_eq_getElem?_getD, List.getElem?_eq_getElem (by omega)]; rfl
  unfold conc
  rw [List.getElem?_zipWith, ha, h]
theorem conc_set {cA : FieldType → ClassId} {ad : List Nat} {hp : AH} (hl : ad.length = hp.length) {k : Nat} {x : AC} (h : hp[k]? = some x) (y : AC) : (conc cA ad hp).set k (ad.getD k 0, jC cA ad y) = conc cA ad (hp.set k y) := by
  have hk : k < hp.length := (List.getElem?_eq_some_iff.mp h).1
  apply List.ext_getElem?
  intro j
  by_cases hj : j = k
  · subst hj
    rw [List.getElem?_set_self (by unfold conc; rw [List.length_zipWith]; omega)]
    rw [conc_get (by rw [List.length_set]; exact hl) (List.getElem?_set_self hk)]
  · rw [List.getElem?_set_ne (Ne.symm hj)]
    unfold conc
    rw [List.getElem?_zipWith, List.getElem?_zipWith, List.getElem?_set_ne (Ne.symm hj)]
theorem conc_length {cA : FieldType → ClassId} {ad : List Nat} {hp : AH} (hl : ad.length = hp.length) : (conc cA ad hp).length = hp.length := by
  unfold conc; rw [List.length_zipWith]; omega
theorem conc_addr {cA : FieldType → ClassId} {ad : List Nat} {hp : AH} (hl : ad.length = hp.length) {k : Nat} {q : Nat × va_E} (h : (conc cA ad hp)[k]? = some q) : ∃ x, hp[k]? = some x ∧ q = (ad.getD k 0, jC cA ad x) := by
  have hk : k < (conc cA ad hp).length := (List.getElem?_eq_some_iff.mp h).1
  rw [conc_length hl] at hk
  have hx : hp[k]? = some hp[k] := List.getElem?_eq_getElem hk
  rw [conc_get hl hx] at h
  exact ⟨_, hx, (Option.some.inj h).symm⟩
/-! references that are there -/
def okV (n : Nat) (v : Value) : Bool := match v with
  | .ref k => decide (k < n)
  | _ => true
def okC (n : Nat) (x : AC) : Bool := match x with
  | .inl _ => true
  | .inr (.inl rs) => rs.all (fun r => decide (r < n))
  | .inr (.inr (_, fs)) => fs.all (okV n)
def okH (hp : AH) : Bool := hp.all (okC hp.length)
def okL (n : Nat) (lv : List (Option Value)) : Bool := lv.all (fun o => match o with
  | some v => okV n v
  | none => true)
theorem getD_app {ad x : List Nat} {k : Nat} (h : k < ad.length) : (ad ++ x).getD k 0 = ad.getD k 0 := by
  rw [List.getD_eq_getElem?_getD, List.getD_eq_getElem?_getD, List.getElem?_append_left h]
theorem cv_app {ad x : List Nat} {v : Value} (h : okV ad.length v = true) : cv (ad ++ x) v = cv ad v := by
  cases v with
  | ref k => simp only [okV, decide_eq_true_eq] at h; simp only [cv]; rw [getD_app h]
  | _ => rfl
theorem map_cv_app {ad x : List Nat} {st : List Value} (h : st.all (okV ad.length) = true) : st.map (cv (ad ++ x)) = st.map (cv ad) := by
  apply List.map_congr_left
  intro v hv
  exact cv_app (List.all_eq_true.mp h v hv)
theorem jC_app {cA : FieldType → ClassId} {ad x : List Nat} {c : AC} (h : okC ad.length c = true) : jC cA (ad ++ x) c = jC cA ad c := by
  match c, h with
  | .inl _, _ => rfl
  | .inr (.inl rs), h =>
    simp only [okC] at h
    simp only [jC]
    have : (fun j : Nat => (rs[j]?).map (fun r => (ad ++ x).getD r 0)) = (fun j : Nat => (rs[j]?).map (fun r => ad.getD r 0)) := by
      funext j
      cases hj : rs[j]? with
      | none => rfl
      | some r =>
        have h1 := List.all_eq_true.mp h r (List.mem_of_getElem? hj)
        simp only [decide_eq_true_eq] at h1
        simp only [Option.map_some]
        rw [getD_app h1]
    rw [this]
  | .inr (.inr (ci, fs)), h =>
    simp only [okC] at h
    simp only [jC]
    rw [map_cv_app h]
theorem conc_app {cA : FieldType → ClassId} {ad x : List Nat} {hp y : AH} (hl : ad.length = hp.length) (h : okH hp = true) : conc cA (ad ++ x) (hp ++ y) = conc cA ad hp ++ List.zipWith (fun a c => (a, jC cA (ad ++ x) c)) x y := by
  unfold conc
  rw [List.zipWith_append hl]
  congr 1
  apply List.ext_getElem?
  intro j
  rw [List.getElem?_zipWith, List.getElem?_zipWith]
  cases h1 : ad[j]? with
  | none => rfl
  | some a =>
    cases h2 : hp[j]? with
    | none => rfl
    | some c =>
      have h3 := List.all_eq_true.mp h c (List.mem_of_getElem? h2)
      rw [← hl] at h3
      show some (a, jC cA (ad ++ x) c) = some (a, jC cA ad c)
      rw [jC_app h3]
/-! ===== classes, words, rooms ===== -/
def clsL : List vw_C := [(RX0, TX0, 15), (RX1, TX1, 3), (RX2, TX2, 3), (RX3, TX3, 4), (RX4, TX4, 5), (RX5, TX5, 5), (RX6, TX6, 13), (RX7, TX7, 45)]
def cnmL : List String := [RX0, RX1, RX2, RX3, RX4, RX5, RX6, RX7, RJ6, RJ9, RJ7]
def cnm (k : Nat) : String := cnmL.getD k ""
def tb : List Cond := lw_tbl.filter goodWord
theorem tb_at {w : Cond} (i : Nat) (h : lw_tbl[i]? = some w) (hg : goodWord w = true) : w ∈ tb := List.mem_filter.mpr ⟨List.mem_of_getElem? h, hg⟩
abbrev MT : Type := Nat × MethodName × ByteArray × Nat × Option FieldType
def MT.cn (M : MT) : Nat := M.1
def MT.y (M : MT) : MethodName := M.2.1
def MT.by (M : MT) : ByteArray := M.2.2.1
def MT.ml (M : MT) : Nat := M.2.2.2.1
def MT.rt (M : MT) : Option FieldType := M.2.2.2.2
def mw (M : MT) : List Cond := .code M.y M.by M.ml M.rt :: tb
def rmm (d mc ms : Nat) : Room := { frames := d, cells := mc, slots := ms, locals := 39 * d }
def tysL (cA : FieldType → ClassId) : List (ClassId × FieldType) := [(cA .int, .int), (cA .boolean, .boolean), (cA (.array .int), .array .int)]
/-- the frame's own facts -/
def jE (M : MT) (p : Program) (s : State) (m : MethodId) (args : Array Value) (meth : Method) (c : Code) (D : va_G) (cA : FieldType → ClassId) (A : Nat → Prop) : Prop :=
  p.tables.exec = Jvm.exec ∧ c.code = M.by ∧ c.maxLocals = M.ml ∧ meth.sig.returnType = M.rt ∧ meth.locks = false ∧ s.vm.findClass (cnm M.cn) = some m.cls ∧ (∀ w ∈ tb, w.before args s = true) ∧ va_K D clsL (tysL cA) s ∧ (∀ q, s.heap.size ≤ q → A q) ∧ meth.name = M.y.name
def jL (nL : Nat) (ad : List Nat) (lv : List (Option Value)) (ls : Array Slot) : Prop := lv.length = nL ∧ ls.size = nL ∧ lv_wf ls ∧ ∀ (i : Nat) (v : Value), lv[i]? = some (some v) → ls[i]? = some (.val (cv ad v))
def jQ (D : va_G) (cA : FieldType → ClassId) (A : Nat → Prop) (ad0 : List Nat) (Q : Option Value → AH → Prop) : Array Value → State → Outcome → State → Prop := fun _ st o t =>
  (∃ (v : Option Value) (hp : AH) (x : List Nat), o = .returned (v.map (cv (ad0 ++ x))) ∧ Q v hp ∧ (ad0 ++ x).length = hp.length ∧ va_P D clsL (conc cA (ad0 ++ x) hp) t.heap ∧ va_D A (conc cA (ad0 ++ x) hp) ∧ va_K D clsL (tysL cA) t) ∧ va_F A st t
/-- the machine at pc of method M, with locals lv, operands st and heap hp, comes to the method's end with Q -/
def J (M : MT) (d mc ms : Nat) (Q : Option Value → AH → Prop) (pc : Nat) (lv : List (Option Value)) (st : List Value) (hp : AH) (cs ss : Nat) : Prop :=
  ∀ (p : Program) (l : Launch) (e : Env) (s : State) (m : MethodId) (args : Array Value) (below : List Frame) (meth : Method) (c : Code) (D : va_G) (cA : FieldType → ClassId) (A : Nat → Prop) (ad0 x : List Nat) (H : Heap) (locs : List Loc) (ls : Array Slot),
    jE M p s m args meth c D cA A → (ad0 ++ x).length = hp.length → va_P D clsL (conc cA (ad0 ++ x) hp) H → va_D A (conc cA (ad0 ++ x) hp) → va_S A s.heap H locs → jL M.ml (ad0 ++ x) lv ls →
    W p l e (rmm d mc ms) s m args below meth c H locs cs ss (MQ below (jQ D cA A ad0 Q) args s mc ms A) (F0 m pc ls (st.map (cv (ad0 ++ x))))
/-- a method's contract at given arguments and heap -/
def Ct (M : MT) (d mc ms : Nat) (as : List Value) (hp : AH) (Q : Option Value → AH → Prop) : Prop :=
  ∀ (l : Launch) (D : va_G) (cA : FieldType → ClassId) (ad : List Nat) (sz : Nat), ad.length = hp.length →
    Met l M.y (mw M) (rmm d mc ms) (va_Pc (as.map (cv ad)) (fun U => U.heap.size = sz ∧ va_P D clsL (conc cA ad hp) U.heap ∧ va_K D clsL (tysL cA) U ∧ va_D (fun _ => True) (conc cA ad hp))) (jQ D cA (va_A (conc cA ad hp) sz) ad Q) mc ms (va_A (conc cA ad hp) sz)
/-! ===== locals ===== -/
def clr1 (lv : List (Option Value)) (i : Nat) : List (Option Value) := match i with
  | 0 => lv
  | j + 1 => match lv[j]? with
    | some (some w) => if w.category == 2 then lv.set j none else lv
    | _ => lv
def st1 (lv : List (Option Value)) (i : Nat) (v : Value) : List (Option Value) := (clr1 lv i).set i (some v)
def st2 (lv : List (Option Value)) (i : Nat) (v : Value) : List (Option Value) := ((clr1 lv i).set i (some v)).set (i + 1) none
def kl (ad : List Nat) (lv : List (Option Value)) : List (Nat × Value) := (List.range lv.length).filterMap (fun j => match lv[j]? with
  | some (some w) => some (j, cv ad w)
  | _ => none)
theorem kl_mem {ad : List Nat} {lv : List (Option Value)} {j : Nat} {w : Value} (h : lv[j]? = some (some w)) : (j, cv ad w) ∈ kl ad lv := by
  unfold kl
  refine List.mem_filterMap.mpr ⟨j, List.mem_range.mpr (List.getElem?_eq_some_iff.mp h).1, ?_⟩
  rw [h]
theorem kl_has {nL : Nat} {ad : List Nat} {lv : List (Option Value)} {ls : Array Slot} (h : jL nL ad lv ls) : lv_has ls nL (kl ad lv) := by
  refine ⟨h.2.1, h.2.2.1, fun q hq => ?_⟩
  unfold kl at hq
  obtain ⟨j, -, hj⟩ := List.mem_filterMap.mp hq
  cases h1 : lv[j]? with
  | none => rw [h1] at hj; cases hj
  | some o =>
    cases o with
    | none => rw [h1] at hj; cases hj
    | some w => rw [h1] at hj; cases hj; exact h.2.2.2 j w h1
theorem cv_cat (ad : List Nat) (v : Value) : (cv ad v).category = v.category := by cases v <;> rfl
theorem clr1_length (lv : List (Option Value)) (i : Nat) : (clr1 lv i).length = lv.length := by
  unfold clr1
  cases i with
  | zero => rfl
  | succ j =>
    simp only
    split
    · split
      · rw [List.length_set]
      · rfl
    · rfl
theorem clr1_get {lv : List (Option Value)} {i j : Nat} {w : Value} (h : (clr1 lv i)[j]? = some (some w)) : lv[j]? = some (some w) ∧ ¬ (j + 1 = i ∧ w.category = 2) := by
  unfold clr1 at h
  cases i with
  | zero => exact ⟨h, fun q => by omega⟩
  | succ k =>
    simp only at h
    split at h
    · rename_i w0 hw
      split at h
      · rename_i hc
        by_cases hjk : j = k
        · subst hjk
          rw [List.getElem?_set_self (List.getElem?_eq_some_iff.mp hw).1] at h
          cases h
        · rw [List.getElem?_set_ne (Ne.symm hjk)] at h
          exact ⟨h, fun q => by omega⟩
      · rename_i hc
        refine ⟨h, fun q => ?_⟩
        have : j = k := by omega
        subst this
        rw [hw] at h
        cases h
        exact hc (by rw [q.2]; rfl)
    · rename_i hw
      refine ⟨h, fun q => ?_⟩
      have : j = k := by omega
      subst this
      exact hw w h
theorem jL_st1 {nL : Nat} {ad : List Nat} {lv : List (Option Value)} {ls ls' : Array Slot} (h : jL nL ad lv ls) {i : Nat} {v : Value} (h' : lv_has ls' nL ((i, cv ad v) :: (kl ad lv).filter (fun q => !(q.1 == i) && !(q.1 + 1 == i && q.2.category == 2)))) : jL nL ad (st1 lv i v) ls' := by
  refine ⟨by unfold st1; rw [List.length_set, clr1_length]; exact h.1, h'.1, h'.2.1, fun j w hj => ?_⟩
  unfold st1 at hj
  by_cases hji : j = i
  · subst hji
    by_cases hl : j < (clr1 lv j).length
    · rw [List.getElem?_set_self hl] at hj
      cases hj
      exact h'.2.2 (j, cv ad v) List.mem_cons_self
    · rw [List.getElem?_eq_none (by rw [List.length_set]; omega)] at hj
      cases hj
  · rw [List.getElem?_set_ne (Ne.symm hji)] at hj
    obtain ⟨h1, h2⟩ := clr1_get hj
    refine h'.2.2 (j, cv ad w) (List.mem_cons_of_mem _ (List.mem_filter.mpr ⟨kl_mem h1, ?_⟩))
    simp only [cv_cat, Bool.and_eq_true, Bool.not_eq_true', beq_eq_false_iff_ne, ne_eq, hji, not_false_eq_true, true_and]
    rw [Bool.and_eq_false_iff]
    by_cases h3 : j + 1 = i
    · right; simp only [beq_eq_false_iff_ne, ne_eq]; exact fun q => h2 ⟨h3, q⟩
    · left; simp only [beq_eq_false_iff_ne, ne_eq]; exact h3
theorem jL_st2 {nL : Nat} {ad : List Nat} {lv : List (Option Value)} {ls ls' : Array Slot} (h : jL nL ad lv ls) {i : Nat} {v : Value} (h' : lv_has ls' nL ((i, cv ad v) :: (kl ad lv).filter (fun q => !(q.1 == i) && (!(q.1 == i + 1) && !(q.1 + 1 == i && q.2.category == 2))))) : jL nL ad (st2 lv i v) ls' := by
  refine ⟨by unfold st2; rw [List.length_set, List.length_set, clr1_length]; exact h.1, h'.1, h'.2.1, fun j w hj => ?_⟩
  unfold st2 at hj
  by_cases hj1 : j = i + 1
  · subst hj1
    by_cases hl : i + 1 < ((clr1 lv i).set i (some v)).length
    · rw [List.getElem?_set_self hl] at hj
      cases hj
    · rw [List.getElem?_eq_none (by rw [List.length_set]; omega)] at hj
      cases hj
  · rw [List.getElem?_set_ne (Ne.symm hj1)] at hj
    by_cases hji : j = i
    · subst hji
      by_cases hl : j < (clr1 lv j).length
      · rw [List.getElem?_set_self hl] at hj
        cases hj
        exact h'.2.2 (j, cv ad v) List.mem_cons_self
      · rw [List.getElem?_eq_none (by rw [List.length_set]; omega)] at hj
        cases hj
    · rw [List.getElem?_set_ne (Ne.symm hji)] at hj
      obtain ⟨h1, h2⟩ := clr1_get hj
      refine h'.2.2 (j, cv ad w) (List.mem_cons_of_mem _ (List.mem_filter.mpr ⟨kl_mem h1, ?_⟩))
      simp only [cv_cat, Bool.and_eq_true, Bool.not_eq_true', beq_eq_false_iff_ne, ne_eq, hji, hj1, not_false_eq_true, true_and]
      rw [Bool.and_eq_false_iff]
      by_cases h3 : j + 1 = i
      · right; simp only [beq_eq_false_iff_ne, ne_eq]; exact fun q => h2 ⟨h3, q⟩
      · left; simp only [beq_eq_false_iff_ne, ne_eq]; exact h3
def entL (as : List Value) (n : Nat) : List (Option Value) := (List.range n).map (fun i => (lv_args 0 as).lookup i)
theorem lookup_mem {l : List (Nat × Value)} {i : Nat} {v : Value} (h : l.lookup i = some v) : (i, v) ∈ l := by
  induction l with
  | nil => cases h
  | cons q l ih =>
    obtain ⟨a, b⟩ := q
    rw [List.lookup_cons] at h
    split at h
    · rename_i hb
      have : i = a := by simpa using hb
      subst this
      cases h
      exact List.mem_cons_self
    · exact List.mem_cons_of_mem _ (ih h)
theorem lv_args_map (ad : List Nat) : ∀ (as : List Value) (i : Nat), lv_args i (as.map (cv ad)) = (lv_args i as).map (fun q => (q.1, cv ad q.2))
  | [], _ => rfl
  | v :: as, i => by
    simp only [List.map_cons, lv_args, cv_cat]
    rw [lv_args_map ad as]
theorem jL_ent {ad : List Nat} {as : List Value} {n : Nat} (h : (lg_sl (as.map (cv ad))).length ≤ n) : jL n ad (entL as n) ((lg_sl (as.map (cv ad)) ++ List.replicate (n - (lg_sl (as.map (cv ad))).length) Slot.unset).toArray) := by
  have h0 := lv_entry (as.map (cv ad)) h
  refine ⟨by unfold entL; simp, h0.1, h0.2.1, fun i v hi => ?_⟩
  unfold entL at hi
  rw [List.getElem?_map] at hi
  cases hr : (List.range n)[i]? with
  | none => rw [hr] at hi; cases hi
  | some j =>
    rw [hr] at hi
    have hij : j = i := by
      have := List.getElem?_eq_some_iff.mp hr
      obtain ⟨h1, h2⟩ := this
      rw [List.getElem_range] at h2
      exact h2.symm
    subst hij
    simp only [Option.map_some, Option.some.injEq] at hi
    refine h0.2.2 (j, cv ad v) ?_
    rw [lv_args_map]
    exact List.mem_map.mpr ⟨(j, v), lookup_mem hi, rfl⟩
end
section
/-! ===== steps that touch neither heap nor calls ===== -/
def sto1 (lv : List (Option Value)) (i : Nat) (v : Value) : Option (List (Option Value)) := if i < lv.length then some (st1 lv i v) else none
def sto2 (lv : List (Option Value)) (i : Nat) (v : Value) : Option (List (Option Value)) := if i + 1 < lv.length then some (st2 lv i v) else none
def ldI (lv : List (Option Value)) (i : Nat) : Option Value := match lv[i]? with
  | some (some (.int x)) => some (.int x)
  | _ => none
def ldL (lv : List (Option Value)) (i : Nat) : Option Value := match lv[i]? with
  | some (some (.long x)) => some (.long x)
  | _ => none
def ldA (lv : List (Option Value)) (i : Nat) : Option Value := match lv[i]? with
  | some (some (.ref x)) => some (.ref x)
  | _ => none
def tgt (pc : Nat) (off : Int) : Option Nat := if 0 ≤ (pc : Int) + off then some ((pc : Int) + off).toNat else none
theorem tgt_spec {pc t : Nat} {off : Int} (h : tgt pc off = some t) : (pc : Int) + off = (t : Int) := by
  unfold tgt at h
  split at h
  · cases h; rename_i h1; exact (Int.toNat_of_nonneg h1).symm
  · cases h
def sA (i : Instr) (pc : Nat) (lv : List (Option Value)) (st : List Value) : Option (Nat × List (Option Value) × List Value) := match i with
  | .iconst n => some (pc + 1, lv, .int (Int32.ofInt n) :: st)
  | .bipush n => some (pc + 2, lv, .int (Int8.ofInt n).toInt32 :: st)
  | .sipush n => some (pc + 3, lv, .int (Int16.ofInt n).toInt32 :: st)
  | .lconst n => some (pc + 1, lv, .long (Int64.ofNat (n : Nat)) :: st)
  | .iload_n k => (ldI lv k).map (fun v => (pc + 1, lv, v :: st))
  | .iload k => (ldI lv k).map (fun v => (pc + 2, lv, v :: st))
  | .lload_n k => (ldL lv k).map (fun v => (pc + 1, lv, v :: st))
  | .lload k => (ldL lv k).map (fun v => (pc + 2, lv, v :: st))
  | .aload_n k => (ldA lv k).map (fun v => (pc + 1, lv, v :: st))
  | .aload k => (ldA lv k).map (fun v => (pc + 2, lv, v :: st))
  | .istore_n k => match st with
    | .int x :: r => (sto1 lv k (.int x)).map (fun lv' => (pc + 1, lv', r))
    | _ => none
  | .istore k => match st with
    | .int x :: r => (sto1 lv k (.int x)).map (fun lv' => (pc + 2, lv', r))
    | _ => none
  | .lstore_n k => match st with
    | .long x :: r => (sto2 lv k (.long x)).map (fun lv' => (pc + 1, lv', r))
    | _ => none
  | .lstore k => match st with
    | .long x :: r => (sto2 lv k (.long x)).map (fun lv' => (pc + 2, lv', r))
    | _ => none
  | .astore_n k => match st with
    | .ref x :: r => (sto1 lv k (.ref x)).map (fun lv' => (pc + 1, lv', r))
    | _ => none
  | .astore k => match st with
    | .ref x :: r => (sto1 lv k (.ref x)).map (fun lv' => (pc + 2, lv', r))
    | _ => none
  | .iinc k n => match lv[k]? with
    | some (some (.int x)) => (sto1 lv k (.int (x + Int32.ofInt n))).map (fun lv' => (pc + 3, lv', st))
    | _ => none
  | .iadd => match st with
    | .int y :: .int x :: r => some (pc + 1, lv, .int (x + y) :: r)
    | _ => none
  | .isub => match st with
    | .int y :: .int x :: r => some (pc + 1, lv, .int (x - y) :: r)
    | _ => none
  | .imul => match st with
    | .int y :: .int x :: r => some (pc + 1, lv, .int (x * y) :: r)
    | _ => none
  | .iand => match st with
    | .int y :: .int x :: r => some (pc + 1, lv, .int (x &&& y) :: r)
    | _ => none
  | .ior => match st with
    | .int y :: .int x :: r => some (pc + 1, lv, .int (x ||| y) :: r)
    | _ => none
  | .ixor => match st with
    | .int y :: .int x :: r => some (pc + 1, lv, .int (x ^^^ y) :: r)
    | _ => none
  | .ishl => match st with
    | .int y :: .int x :: r => some (pc + 1, lv, .int (x <<< (y &&& 31)) :: r)
    | _ => none
  | .ishr => match st with
    | .int y :: .int x :: r => some (pc + 1, lv, .int (x >>> (y &&& 31)) :: r)
    | _ => none
  | .iushr => match st with
    | .int y :: .int x :: r => some (pc + 1, lv, .int (x.toUInt32 >>> (y.toUInt32 &&& Int32.toUInt32 31)).toInt32 :: r)
    | _ => none
  | .ineg => match st with
    | .int x :: r => some (pc + 1, lv, .int (-x) :: r)
    | _ => none
  | .ladd => match st with
    | .long y :: .long x :: r => some (pc + 1, lv, .long (x + y) :: r)
    | _ => none
  | .lsub => match st with
    | .long y :: .long x :: r => some (pc + 1, lv, .long (x - y) :: r)
    | _ => none
  | .lmul => match st with
    | .long y :: .long x :: r => some (pc + 1, lv, .long (x * y) :: r)
    | _ => none
  | .land => match st with
    | .long y :: .long x :: r => some (pc + 1, lv, .long (x &&& y) :: r)
    | _ => none
  | .lshl => match st with
    | .int y :: .long x :: r => some (pc + 1, lv, .long (x <<< (y.toInt64 &&& 63)) :: r)
    | _ => none
  | .lshr => match st with
    | .int y :: .long x :: r => some (pc + 1, lv, .long (x >>> (y.toInt64 &&& 63)) :: r)
    | _ => none
  | .lcmp => match st with
    | .long y :: .long x :: r => some (pc + 1, lv, .int (lg_cmp x y) :: r)
    | _ => none
  | .i2l => match st with
    | .int x :: r => some (pc + 1, lv, .long x.toInt64 :: r)
    | _ => none
  | .i2b => match st with
    | .int x :: r => some (pc + 1, lv, .int x.toInt8.toInt32 :: r)
    | _ => none
  | .i2s => match st with
    | .int x :: r => some (pc + 1, lv, .int x.toInt16.toInt32 :: r)
    | _ => none
  | .dup => match st with
    | v :: r => if v.category == 1 then some (pc + 1, lv, v :: v :: r) else none
    | _ => none
  | .dup2 => match st with
    | v :: w :: r => if v.category == 1 && w.category == 1 then some (pc + 1, lv, v :: w :: v :: w :: r) else none
    | _ => none
  | .pop => match st with
    | v :: r => if v.category == 1 then some (pc + 1, lv, r) else none
    | _ => none
  | .goto off => (tgt pc off).map (fun t => (t, lv, st))
  | _ => none
def sN (i : Instr) : Nat := match i with
  | .bipush _ => 2
  | .iload _ => 2
  | .lload _ => 2
  | .aload _ => 2
  | .istore _ => 2
  | .lstore _ => 2
  | .astore _ => 2
  | .sipush _ => 3
  | .iinc _ _ => 3
  | .goto _ => 3
  | _ => 1
theorem ldI_spec {lv : List (Option Value)} {i : Nat} {v : Value} (h : ldI lv i = some v) : ∃ x, v = .int x ∧ lv[i]? = some (some (.int x)) := by
  unfold ldI at h
  split at h
  · cases h; rename_i x hx; exact ⟨x, rfl, hx⟩
  · cases h
theorem ldL_spec {lv : List (Option Value)} {i : Nat} {v : Value} (h : ldL lv i = some v) : ∃ x, v = .long x ∧ lv[i]? = some (some (.long x)) := by
  unfold ldL at h
  split at h
  · cases h; rename_i x hx; exact ⟨x, rfl, hx⟩
  · cases h
theorem ldA_spec {lv : List (Option Value)} {i : Nat} {v : Value} (h : ldA lv i = some v) : ∃ x, v = .ref x ∧ lv[i]? = some (some (.ref x)) := by
  unfold ldA at h
  split at h
  · cases h; rename_i x hx; exact ⟨x, rfl, hx⟩
  · cases h
theorem sto1_spec {lv lv' : List (Option Value)} {i : Nat} {v : Value} (h : sto1 lv i v = some lv') : i < lv.length ∧ lv' = st1 lv i v := by
  unfold sto1 at h
  split at h
  · cases h; rename_i h1; exact ⟨h1, rfl⟩
  · cases h
theorem sto2_spec {lv lv' : List (Option Value)} {i : Nat} {v : Value} (h : sto2 lv i v = some lv') : i + 1 < lv.length ∧ lv' = st2 lv i v := by
  unfold sto2 at h
  split at h
  · cases h; rename_i h1; exact ⟨h1, rfl⟩
  · cases h
section JS
variable {M : MT} {d mc ms : Nat} {Q : Option Value → AH → Prop} {pc pc' : Nat} {lv lv' : List (Option Value)} {st st' : List Value} {hp : AH} {cs ss : Nat} {i : Instr}
theorem J_s (hd : decode M.by pc = .ok (i, sN i)) (hs : sA i pc lv st = some (pc', lv', st')) (k : J M d mc ms Q pc' lv' st' hp cs ss) : J M d mc ms Q pc lv st hp cs ss := by
  intro p l e s m args below meth c D cA A ad0 x H locs ls hE hl hP hD hS hL
  have hx := hE.1
  have hb := hE.2.1
  have K := fun ls' (hL' : jL M.ml (ad0 ++ x) lv' ls') => k p l e s m args below meth c D cA A ad0 x H locs ls' hE hl hP hD hS hL'
  cases i with
  | iconst n => cases hs; exact lv_iconst hx hb hd rfl (K ls hL)
  | bipush n => cases hs; exact lv_bipush hx hb hd rfl (K ls hL)
  | sipush n => cases hs; exact lv_sipush hx hb hd rfl (K ls hL)
  | lconst n => cases hs; exact lv_lconst hx hb hd rfl (K ls hL)
  | iload_n k =>
    obtain ⟨v, hv, he⟩ := Option.map_eq_some_iff.mp hs
    cases he
    obtain ⟨y, rfl, hy⟩ := ldI_spec hv
    exact lv_iload_n hx hb hd rfl (hL.2.2.2 _ _ hy) (K ls hL)
  | iload k =>
    obtain ⟨v, hv, he⟩ := Option.map_eq_some_iff.mp hs
    cases he
    obtain ⟨y, rfl, hy⟩ := ldI_spec hv
    exact lv_iload hx hb hd (hL.2.2.2 _ _ hy) (K ls hL)
  | lload_n k =>
    obtain ⟨v, hv, he⟩ := Option.map_eq_some_iff.mp hs
    cases he
    obtain ⟨y, rfl, hy⟩ := ldL_spec hv
    exact lv_lload_n hx hb hd rfl (hL.2.2.2 _ _ hy) (K ls hL)
  | lload k =>
    obtain ⟨v, hv, he⟩ := Option.map_eq_some_iff.mp hs
    cases he
    obtain ⟨y, rfl, hy⟩ := ldL_spec hv
    exact lv_lload hx hb hd (hL.2.2.2 _ _ hy) (K ls hL)
  | aload_n k =>
    obtain ⟨v, hv, he⟩ := Option.map_eq_some_iff.mp hs
    cases he
    obtain ⟨y, rfl, hy⟩ := ldA_spec hv
    exact lv_aload_n hx hb hd rfl (hL.2.2.2 _ _ hy) (K ls hL)
  | aload k =>
    obtain ⟨v, hv, he⟩ := Option.map_eq_some_iff.mp hs
    cases he
    obtain ⟨y, rfl, hy⟩ := ldA_spec hv
    exact lv_aload hx hb hd (hL.2.2.2 _ _ hy) (K ls hL)
  | istore_n k =>
    simp only [sA] at hs
    split at hs
    · obtain ⟨lv1, hv, he⟩ := Option.map_eq_some_iff.mp hs
      cases he
      obtain ⟨h1, rfl⟩ := sto1_spec hv
      exact lv_istore_n hx hb hd rfl (kl_has hL) (by rw [← hL.1]; exact h1) rfl (fun ls' h' => K ls' (jL_st1 hL h'))
    · cases hs
  | istore k =>
    simp only [sA] at hs
    split at hs
    · obtain ⟨lv1, hv, he⟩ := Option.map_eq_some_iff.mp hs
      cases he
      obtain ⟨h1, rfl⟩ := sto1_spec hv
      exact lv_istore hx hb hd (kl_has hL) (by rw [← hL.1]; exact h1) rfl (fun ls' h' => K ls' (jL_st1 hL h'))
    · cases hs
  | astore_n k =>
    simp only [sA] at hs
    split at hs
    · obtain ⟨lv1, hv, he⟩ := Option.map_eq_some_iff.mp hs
      cases he
      obtain ⟨h1, rfl⟩ := sto1_spec hv
      exact lv_astore_n hx hb hd rfl (kl_has hL) (by rw [← hL.1]; exact h1) rfl (fun ls' h' => K ls' (jL_st1 hL h'))
    · cases hs
  | astore k =>
    simp only [sA] at hs
    split at hs
    · obtain ⟨lv1, hv, he⟩ := Option.map_eq_some_iff.mp hs
      cases he
      obtain ⟨h1, rfl⟩ := sto1_spec hv
      exact lv_astore hx hb hd (kl_has hL) (by rw [← hL.1]; exact h1) rfl (fun ls' h' => K ls' (jL_st1 hL h'))
    · cases hs
  | lstore_n k =>
    simp only [sA] at hs
    split at hs
    · obtain ⟨lv1, hv, he⟩ := Option.map_eq_some_iff.mp hs
      cases he
      obtain ⟨h1, rfl⟩ := sto2_spec hv
      exact lv_lstore_n hx hb hd rfl (kl_has hL) (by rw [← hL.1]; exact h1) rfl (fun ls' h' => K ls' (jL_st2 hL h'))
    · cases hs
  | lstore k =>
    simp only [sA] at hs
    split at hs
    · obtain ⟨lv1, hv, he⟩ := Option.map_eq_some_iff.mp hs
      cases he
      obtain ⟨h1, rfl⟩ := sto2_spec hv
      exact lv_lstore hx hb hd (kl_has hL) (by rw [← hL.1]; exact h1) rfl (fun ls' h' => K ls' (jL_st2 hL h'))
    · cases hs
  | iinc k n =>
    simp only [sA] at hs
    split at hs
    · rename_i y hy
      obtain ⟨lv1, hv, he⟩ := Option.map_eq_some_iff.mp hs
      cases he
      obtain ⟨h1, rfl⟩ := sto1_spec hv
      obtain ⟨q, hq⟩ := List.getElem?_of_mem (kl_mem (ad := ad0 ++ x) hy)
      exact lv_iinc hx hb hd (kl_has hL) hq rfl (by rw [← hL.1]; exact h1) rfl (fun ls' h' => K ls' (jL_st1 hL h'))
    · cases hs
  | iadd => simp only [sA] at hs; split at hs <;> cases hs; exact lv_iadd hx hb hd (K ls hL)
  | isub => simp only [sA] at hs; split at hs <;> cases hs; exact lv_isub hx hb hd (K ls hL)
  | imul => simp only [sA] at hs; split at hs <;> cases hs; exact lv_imul hx hb hd (K ls hL)
  | iand => simp only [sA] at hs; split at hs <;> cases hs; exact lv_iand hx hb hd (K ls hL)
  | ior => simp only [sA] at hs; split at hs <;> cases hs; exact lv_ior hx hb hd (K ls hL)
  | ixor => simp only [sA] at hs; split at hs <;> cases hs; exact lv_ixor hx hb hd (K ls hL)
  | ishl => simp only [sA] at hs; split at hs <;> cases hs; exact lv_ishl hx hb hd (K ls hL)
  | ishr => simp only [sA] at hs; split at hs <;> cases hs; exact lv_ishr hx hb hd (K ls hL)
  | iushr => simp only [sA] at hs; split at hs <;> cases hs; exact lv_iushr hx hb hd rfl (K ls hL)
  | ineg => simp only [sA] at hs; split at hs <;> cases hs; exact lv_ineg hx hb hd (K ls hL)
  | ladd => simp only [sA] at hs; split at hs <;> cases hs; exact lv_ladd hx hb hd (K ls hL)
  | lsub => simp only [sA] at hs; split at hs <;> cases hs; exact lv_lsub hx hb hd (K ls hL)
  | lmul => simp only [sA] at hs; split at hs <;> cases hs; exact lv_lmul hx hb hd (K ls hL)
  | land => simp only [sA] at hs; split at hs <;> cases hs; exact lv_land hx hb hd (K ls hL)
  | lshl => simp only [sA] at hs; split at hs <;> cases hs; exact lv_lshl hx hb hd rfl (K ls hL)
  | lshr => simp only [sA] at hs; split at hs <;> cases hs; exact lv_lshr hx hb hd rfl (K ls hL)
  | lcmp => simp only [sA] at hs; split at hs <;> cases hs; exact W.lcmp hx hb hd (K ls hL)
  | i2l => simp only [sA] at hs; split at hs <;> cases hs; exact lv_i2l hx hb hd rfl (K ls hL)
  | i2b => simp only [sA] at hs; split at hs <;> cases hs; exact lv_i2b hx hb hd rfl (K ls hL)
  | i2s => simp only [sA] at hs; split at hs <;> cases hs; exact lv_i2s hx hb hd rfl (K ls hL)
  | dup =>
    simp only [sA] at hs
    split at hs
    · split at hs
      · cases hs; rename_i hc; exact lv_dup hx hb hd (by rw [cv_cat]; simpa using hc) (K ls hL)
      · cases hs
    · cases hs
  | dup2 =>
    simp only [sA] at hs
    split at hs
    · split at hs
      · cases hs; rename_i hc
        rw [Bool.and_eq_true] at hc
        exact lv_dup2_11 hx hb hd (by rw [cv_cat]; simpa using hc.1) (by rw [cv_cat]; simpa using hc.2) (K ls hL)
      · cases hs
    · cases hs
  | pop =>
    simp only [sA] at hs
    split at hs
    · split at hs
      · cases hs; rename_i v hc; exact lv_pop (va := cv (ad0 ++ x) v) hx hb hd (by rw [cv_cat]; simpa using hc) (K ls hL)
      · cases hs
    · cases hs
  | goto off =>
    obtain ⟨t, ht, he⟩ := Option.map_eq_some_iff.mp hs
    cases he
    exact lv_goto hx hb hd (tgt_spec ht) (K ls hL)
  | _ => cases hs
/-! branches -/
def cmpB (c : Jvm.ClassFile.Cond) (x y : Int32) : Bool := match c with
  | .eq => decide (x = y)
  | .ne => decide (¬ x = y)
  | .lt => decide (x < y)
  | .ge => decide (y ≤ x)
  | .gt => decide (y < x)
  | .le => decide (x ≤ y)
def bA (i : Instr) (pc : Nat) (st : List Value) : Option (Bool × Nat × List Value) := match i with
  | .ifCond c off => match st with
    | .int x :: r => (tgt pc off).map (fun t => (cmpB c x 0, t, r))
    | _ => none
  | .if_icmp c off => match st with
    | .int y :: .int x :: r => (tgt pc off).map (fun t => (cmpB c x y, t, r))
    | _ => none
  | _ => none
theorem J_b {b : Bool} {t : Nat} (hd : decode M.by pc = .ok (i, 3)) (hs : bA i pc st = some (b, t, st')) (kt : b = true → J M d mc ms Q t lv st' hp cs ss) (kf : b = false → J M d mc ms Q (pc + 3) lv st' hp cs ss) : J M d mc ms Q pc lv st hp cs ss := by
  intro p l e s m args below meth c D cA A ad0 x H locs ls hE hl hP hD hS hL
  have hx := hE.1
  have hb := hE.2.1
  have Kt := fun h => kt h p l e s m args below meth c D cA A ad0 x H locs ls hE hl hP hD hS hL
  have Kf := fun h => kf h p l e s m args below meth c D cA A ad0 x H locs ls hE hl hP hD hS hL
  cases i with
  | ifCond cd off =>
    simp only [bA] at hs
    split at hs
    · obtain ⟨t1, ht, he⟩ := Option.map_eq_some_iff.mp hs
      cases he
      have ht := tgt_spec ht
      cases cd
      · exact lv_if_eq hx hb hd ht (fun h => Kt (decide_eq_true h)) (fun h => Kf (decide_eq_false h))
      · exact lv_if_ne hx hb hd ht (fun h => Kt (decide_eq_true h)) (fun h => Kf (decide_eq_false (fun q => q h)))
      · exact lv_if_lt hx hb hd ht (fun h => Kt (decide_eq_true h)) (fun h => Kf (decide_eq_false h))
      · exact lv_if_ge hx hb hd ht (fun h => Kt (decide_eq_true h)) (fun h => Kf (decide_eq_false h))
      · exact lv_if_gt hx hb hd ht (fun h => Kt (decide_eq_true h)) (fun h => Kf (decide_eq_false h))
      · exact lv_if_le hx hb hd ht (fun h => Kt (decide_eq_true h)) (fun h => Kf (decide_eq_false h))
    · cases hs
  | if_icmp cd off =>
    simp only [bA] at hs
    split at hs
    · obtain ⟨t1, ht, he⟩ := Option.map_eq_some_iff.mp hs
      cases he
      have ht := tgt_spec ht
      cases cd
      · exact lv_icmp_eq hx hb hd ht (fun h => Kt (decide_eq_true h)) (fun h => Kf (decide_eq_false h))
      · exact lv_icmp_ne hx hb hd ht (fun h => Kt (decide_eq_true h)) (fun h => Kf (decide_eq_false (fun q => q h)))
      · exact lv_icmp_lt hx hb hd ht (fun h => Kt (decide_eq_true h)) (fun h => Kf (decide_eq_false h))
      · exact lv_icmp_ge hx hb hd ht (fun h => Kt (decide_eq_true h)) (fun h => Kf (decide_eq_false h))
      · exact lv_icmp_gt hx hb hd ht (fun h => Kt (decide_eq_true h)) (fun h => Kf (decide_eq_false h))
      · exact lv_icmp_le hx hb hd ht (fun h => Kt (decide_eq_true h)) (fun h => Kf (decide_eq_false h))
    · cases hs
  | _ => cases hs
end JS
end
section
/-! ===== steps over the heap ===== -/
/-- classes as the tables have them -/
theorem in_tbX (C : String) (T : u_T) (N : Nat) (h : (u_ws C T N).all (fun w => decide (w ∈ lw_tbl) && goodWord w) = true) : ∀ w ∈ u_ws C T N, w ∈ tb := fun w hw => by
  have := List.all_eq_true.mp h w hw
  rw [Bool.and_eq_true, decide_eq_true_eq] at this
  exact List.mem_filter.mpr this
set_option maxRecDepth 20000 in
theorem inT0 : ∀ w ∈ u_ws RX0 TX0 15, w ∈ tb := in_tbX _ _ _ (by decide +kernel)
set_option maxRecDepth 20000 in
theorem inT1 : ∀ w ∈ u_ws RX1 TX1 3, w ∈ tb := in_tbX _ _ _ (by decide +kernel)
set_option maxRecDepth 20000 in
theorem inT2 : ∀ w ∈ u_ws RX2 TX2 3, w ∈ tb := in_tbX _ _ _ (by decide +kernel)
set_option maxRecDepth 20000 in
theorem inT3 : ∀ w ∈ u_ws RX3 TX3 4, w ∈ tb := in_tbX _ _ _ (by decide +kernel)
set_option maxRecDepth 20000 in
theorem inT4 : ∀ w ∈ u_ws RX4 TX4 5, w ∈ tb := in_tbX _ _ _ (by decide +kernel)
set_option maxRecDepth 20000 in
theorem inT5 : ∀ w ∈ u_ws RX5 TX5 5, w ∈ tb := in_tbX _ _ _ (by decide +kernel)
set_option maxRecDepth 20000 in
theorem inT6 : ∀ w ∈ u_ws RX6 TX6 13, w ∈ tb := in_tbX _ _ _ (by decide +kernel)
set_option maxRecDepth 20000 in
theorem inT7 : ∀ w ∈ u_ws RX7 TX7 45, w ∈ tb := in_tbX _ _ _ (by decide +kernel)
def tyL : List (Nat → FieldType) := [tyX0, tyX1, tyX2, tyX3, tyX4, tyX5, tyX6, tyX7]
theorem clsL_ok {ci : Nat} {C : String} {T : u_T} {N : Nat} (h : clsL[ci]? = some (C, T, N)) : (∀ w ∈ u_ws C T N, w ∈ tb) ∧ (∀ a, a < N → ∀ b, b < N → a ≠ b → (T a).2.1 ≠ (T b).2.1) ∧ ∃ ty : Nat → FieldType, tyL[ci]? = some ty ∧ ∀ k, k < N → parseFieldDescriptor (T k).2.2.1 = some (ty k) := by
  match ci, h with
  | 0, h => cases h; exact ⟨inT0, nmX0, _, rfl, tyX0_ok⟩
  | 1, h => cases h; exact ⟨inT1, nmX1, _, rfl, tyX1_ok⟩
  | 2, h => cases h; exact ⟨inT2, nmX2, _, rfl, tyX2_ok⟩
  | 3, h => cases h; exact ⟨inT3, nmX3, _, rfl, tyX3_ok⟩
  | 4, h => cases h; exact ⟨inT4, nmX4, _, rfl, tyX4_ok⟩
  | 5, h => cases h; exact ⟨inT5, nmX5, _, rfl, tyX5_ok⟩
  | 6, h => cases h; exact ⟨inT6, nmX6, _, rfl, tyX6_ok⟩
  | 7, h => cases h; exact ⟨inT7, nmX7, _, rfl, tyX7_ok⟩
  | n + 8, h => simp [clsL] at h
/-- field sl of class ci, as class cn's entry idx names it -/
def fW (cn idx ci sl : Nat) : Option Cond := match clsL[ci]? with
  | some (_, T, N) => if sl < N then some (.fieldLink (cnm cn) idx (T sl).1 (T sl).2.1 (T sl).2.2.1) else none
  | none => none
def fOk (cn idx ci sl : Nat) : Prop := ∃ w, fW cn idx ci sl = some w ∧ w ∈ tb
theorem fOk_spec {cn idx ci sl : Nat} (h : fOk cn idx ci sl) : ∃ C T N, clsL[ci]? = some (C, T, N) ∧ sl < N ∧ Cond.fieldLink (cnm cn) idx (T sl).1 (T sl).2.1 (T sl).2.2.1 ∈ tb := by
  obtain ⟨w, h1, h2⟩ := h
  unfold fW at h1
  split at h1
  · rename_i C T N hc
    split at h1
    · cases h1; rename_i hs; exact ⟨C, T, N, hc, hs, h2⟩
    · cases h1
  · cases h1
def fTy (ci sl : Nat) : FieldType := match tyL[ci]? with
  | some t => t sl
  | none => .int
def fFin (ci sl : Nat) : Bool := match clsL[ci]? with
  | some (_, T, _) => (T sl).2.2.2
  | none => false
/-- what a field may hold: an int as it is, a boolean 0 or 1, a reference -/
def fHold (ty : FieldType) (v : Value) : Bool := match ty, v with
  | .int, .int _ => true
  | .boolean, .int x => decide (vp_nar .boolean x = x) && fits .boolean (.int x)
  | .object _, .ref _ => true
  | .array _, .ref _ => true
  | _, _ => false
theorem fHold_cv {ty : FieldType} {v : Value} (h : fHold ty v = true) (ad : List Nat) : narrow ty (cv ad v) = cv ad v ∧ fits ty (cv ad v) = true := by
  match ty, v, h with
  | .int, .int x, _ => exact ⟨rfl, rfl⟩
  | .boolean, .int x, h =>
    simp only [fHold, Bool.and_eq_true, decide_eq_true_eq] at h
    refine ⟨?_, h.2⟩
    have h1 := h.1
    simp only [vp_nar] at h1
    show narrow .boolean (.int x) = .int x
    cases hn : narrow .boolean (.int x) with
    | int y => rw [hn] at h1; simp only at h1; rw [h1]
    | _ => simp [narrow] at hn
  | .object _, .ref _, _ => exact ⟨rfl, rfl⟩
  | .array _, .ref _, _ => exact ⟨rfl, rfl⟩
section JH
variable {M : MT} {d mc ms : Nat} {Q : Option Value → AH → Prop} {pc : Nat} {lv : List (Option Value)} {st : List Value} {hp : AH} {cs ss : Nat}
theorem J_get {idx ci sl k : Nat} {fs : List Value} {v : Value} (hd : decode M.by pc = .ok (.getfield idx, 3)) (hf : fOk M.cn idx ci sl) (hc : hp[k]? = some (.inr (.inr (ci, fs)))) (hv : fs[sl]? = some v) (kk : J M d mc ms Q (pc + 3) lv (v :: st) hp cs ss) : J M d mc ms Q pc lv (.ref k :: st) hp cs ss := by
  intro p l e s m args below meth c D cA A ad0 x H locs ls hE hl hP hD hS hL
  have K := kk p l e s m args below meth c D cA A ad0 x H locs ls hE hl hP hD hS hL
  obtain ⟨hx, hb, hml, hr, hlk, hown, hts, hK, hA, hnm⟩ := hE
  obtain ⟨C, T, N, h1, h2, h3⟩ := fOk_spec hf
  obtain ⟨hin, -, -⟩ := clsL_ok h1
  exact va_get hx hb hts hin hown hK hP k (conc_get hl hc) h1 sl h2 (hts _ h3) (fun _ h9 => h9) (by rw [List.getElem?_map, hv]; rfl) hd K
theorem J_put {idx ci sl k : Nat} {fs : List Value} {v : Value} (hd : decode M.by pc = .ok (.putfield idx, 3)) (hf : fOk M.cn idx ci sl) (hc : hp[k]? = some (.inr (.inr (ci, fs)))) (hsl : sl < fs.length) (hfin : fFin ci sl = false) (hh : fHold (fTy ci sl) v = true) (kk : J M d mc ms Q (pc + 3) lv st (hp.set k (.inr (.inr (ci, fs.set sl v)))) cs ss) : J M d mc ms Q pc lv (v :: .ref k :: st) hp cs ss := by
  intro p l e s m args below meth c D cA A ad0 x H locs ls hE hl hP hD hS hL
  have hE0 := hE
  obtain ⟨hx, hb, hml, hr, hlk, hown, hts, hK, hA, hnm⟩ := hE
  obtain ⟨C, T, N, h1, h2, h3⟩ := fOk_spec hf
  obtain ⟨hin, hne, ty, ht1, hty⟩ := clsL_ok h1
  have hT : fTy ci sl = ty sl := by unfold fTy; rw [ht1]
  have hF : (T sl).2.2.2 = false := by unfold fFin at hfin; rw [h1] at hfin; exact hfin
  rw [hT] at hh
  obtain ⟨hn, hfit⟩ := fHold_cv hh (ad0 ++ x)
  refine va_put hx hb hts hin ty hty hne hown hK hP hD hS k (conc_get hl hc) h1 sl h2 (hts _ h3) (fun _ h9 => h9) hF (hty sl h2) hn hfit (by rw [List.length_map]; exact hsl) hd (fun H1 locs1 hP1 hD1 hS1 => ?_)
  have e : (conc cA (ad0 ++ x) hp).set k ((ad0 ++ x).getD k 0, .inr (ci, (fs.map (cv (ad0 ++ x))).set sl (cv (ad0 ++ x) v))) = conc cA (ad0 ++ x) (hp.set k (.inr (.inr (ci, fs.set sl v)))) := by
    rw [← conc_set hl hc]
    simp only [jC, List.map_set]
  rw [e] at hP1 hD1
  exact kk p l _ s m args below meth c D cA A ad0 x H1 locs1 ls hE0 (by rw [List.length_set]; exact hl) hP1 hD1 hS1 hL
theorem J_putF {idx ci sl k : Nat} {fs : List Value} {v : Value} (hd : decode M.by pc = .ok (.putfield idx, 3)) (hf : fOk M.cn idx ci sl) (hc : hp[k]? = some (.inr (.inr (ci, fs)))) (hsl : sl < fs.length) (hfin : fFin ci sl = true) (hin2 : M.y.name = "<init>") (hdecl : ∀ C T N, clsL[ci]? = some (C, T, N) → (T sl).1 = cnm M.cn) (hh : fHold (fTy ci sl) v = true) (kk : J M d mc ms Q (pc + 3) lv st (hp.set k (.inr (.inr (ci, fs.set sl v)))) cs ss) : J M d mc ms Q pc lv (v :: .ref k :: st) hp cs ss := by
  intro p l e s m args below meth c D cA A ad0 x H locs ls hE hl hP hD hS hL
  have hE0 := hE
  obtain ⟨hx, hb, hml, hr, hlk, hown, hts, hK, hA, hnm⟩ := hE
  obtain ⟨C, T, N, h1, h2, h3⟩ := fOk_spec hf
  obtain ⟨hin, hne, ty, ht1, hty⟩ := clsL_ok h1
  have hT : fTy ci sl = ty sl := by unfold fTy; rw [ht1]
  have hF : (T sl).2.2.2 = true := by unfold fFin at hfin; rw [h1] at hfin; exact hfin
  rw [hT] at hh
  obtain ⟨hn, hfit⟩ := fHold_cv hh (ad0 ++ x)
  refine va_putF hx hb hts hin ty hty hne hown hK hP hD hS k (conc_get hl hc) h1 sl h2 (hts _ h3) (fun _ h9 => h9) hF (hnm.trans hin2) (hdecl C T N h1) (hty sl h2) hn hfit (by rw [List.length_map]; exact hsl) hd (fun H1 locs1 hP1 hD1 hS1 => ?_)
  have e : (conc cA (ad0 ++ x) hp).set k ((ad0 ++ x).getD k 0, .inr (ci, (fs.map (cv (ad0 ++ x))).set sl (cv (ad0 ++ x) v))) = conc cA (ad0 ++ x) (hp.set k (.inr (.inr (ci, fs.set sl v)))) := by
    rw [← conc_set hl hc]
    simp only [jC, List.map_set]
  rw [e] at hP1 hD1
  exact kk p l _ s m args below meth c D cA A ad0 x H1 locs1 ls hE0 (by rw [List.length_set]; exact hl) hP1 hD1 hS1 hL
theorem upd_getD {xs : List Int32} {n : Nat} {y : Int32} (h : n < xs.length) : (upd (fun j => xs.getD j 0) n y) = (fun j => (xs.set n y).getD j 0) := by
  funext j
  rw [List.getD_eq_getElem?_getD]
  by_cases hj : j = n
  · subst hj
    rw [List.getElem?_set_self h]
    simp [upd]
  · rw [List.getElem?_set_ne (Ne.symm hj), ← List.getD_eq_getElem?_getD]
    simp [upd, hj]
theorem J_ald {k : Nat} {xs : List Int32} {i : Int32} (hd : decode M.by pc = .ok (.iaload, 1)) (hc : hp[k]? = some (.inl (.int, xs))) (hi : vp_in i xs.length) (kk : J M d mc ms Q (pc + 1) lv (.int (xs.getD i.toNatClampNeg 0) :: st) hp cs ss) : J M d mc ms Q pc lv (.int i :: .ref k :: st) hp cs ss := by
  intro p l e s m args below meth c D cA A ad0 x H locs ls hE hl hP hD hS hL
  have K := kk p l e s m args below meth c D cA A ad0 x H locs ls hE hl hP hD hS hL
  obtain ⟨hx, hb, hml, hr, hlk, hown, hts, hK, hA, hnm⟩ := hE
  exact va_iald hx hb hK hP k 0 (conc_get hl hc) rfl hi hd K
theorem J_ast {k : Nat} {xs : List Int32} {i y : Int32} (hd : decode M.by pc = .ok (.iastore, 1)) (hc : hp[k]? = some (.inl (.int, xs))) (hi : vp_in i xs.length) (kk : J M d mc ms Q (pc + 1) lv st (hp.set k (.inl (.int, xs.set i.toNatClampNeg y))) cs ss) : J M d mc ms Q pc lv (.int y :: .int i :: .ref k :: st) hp cs ss := by
  intro p l e s m args below meth c D cA A ad0 x H locs ls hE hl hP hD hS hL
  have hE0 := hE
  obtain ⟨hx, hb, hml, hr, hlk, hown, hts, hK, hA, hnm⟩ := hE
  have hlt : i.toNatClampNeg < xs.length := Nat.not_le.mp fun q => hi (Or.inr q)
  refine va_iast hx hb hK hP hD hS k 0 (conc_get hl hc) rfl hi hd (fun H1 locs1 hP1 hD1 hS1 => ?_)
  have e : (conc cA (ad0 ++ x) hp).set k ((ad0 ++ x).getD k 0, .inl (cA .int, xs.length, .inl (upd (fun j => xs.getD j 0) i.toNatClampNeg y))) = conc cA (ad0 ++ x) (hp.set k (.inl (.int, xs.set i.toNatClampNeg y))) := by
    rw [← conc_set hl hc]
    simp only [jC, List.length_set]
    rw [upd_getD hlt]
  rw [e] at hP1 hD1
  exact kk p l _ s m args below meth c D cA A ad0 x H1 locs1 ls hE0 (by rw [List.length_set]; exact hl) hP1 hD1 hS1 hL
theorem J_zald {k : Nat} {xs : List Int32} {i : Int32} (hd : decode M.by pc = .ok (.baload, 1)) (hc : hp[k]? = some (.inl (.boolean, xs))) (hi : vp_in i xs.length) (kk : J M d mc ms Q (pc + 1) lv (.int (xs.getD i.toNatClampNeg 0) :: st) hp cs ss) : J M d mc ms Q pc lv (.int i :: .ref k :: st) hp cs ss := by
  intro p l e s m args below meth c D cA A ad0 x H locs ls hE hl hP hD hS hL
  have K := kk p l e s m args below meth c D cA A ad0 x H locs ls hE hl hP hD hS hL
  obtain ⟨hx, hb, hml, hr, hlk, hown, hts, hK, hA, hnm⟩ := hE
  exact va_zald hx hb hK hP k 1 (conc_get hl hc) rfl hi hd K
theorem J_zast {k : Nat} {xs : List Int32} {i y : Int32} (hd : decode M.by pc = .ok (.bastore, 1)) (hc : hp[k]? = some (.inl (.boolean, xs))) (hi : vp_in i xs.length) (kk : J M d mc ms Q (pc + 1) lv st (hp.set k (.inl (.boolean, xs.set i.toNatClampNeg (vp_nar .boolean y)))) cs ss) : J M d mc ms Q pc lv (.int y :: .int i :: .ref k :: st) hp cs ss := by
  intro p l e s m args below meth c D cA A ad0 x H locs ls hE hl hP hD hS hL
  have hE0 := hE
  obtain ⟨hx, hb, hml, hr, hlk, hown, hts, hK, hA, hnm⟩ := hE
  have hlt : i.toNatClampNeg < xs.length := Nat.not_le.mp fun q => hi (Or.inr q)
  refine va_zast hx hb hK hP hD hS k 1 (conc_get hl hc) rfl hi hd (fun H1 locs1 hP1 hD1 hS1 => ?_)
  have e : (conc cA (ad0 ++ x) hp).set k ((ad0 ++ x).getD k 0, .inl (cA .boolean, xs.length, .inl (upd (fun j => xs.getD j 0) i.toNatClampNeg (vp_nar .boolean y)))) = conc cA (ad0 ++ x) (hp.set k (.inl (.boolean, xs.set i.toNatClampNeg (vp_nar .boolean y)))) := by
    rw [← conc_set hl hc]
    simp only [jC, List.length_set]
    rw [upd_getD hlt]
  rw [e] at hP1 hD1
  exact kk p l _ s m args below meth c D cA A ad0 x H1 locs1 ls hE0 (by rw [List.length_set]; exact hl) hP1 hD1 hS1 hL
theorem J_aald {k r : Nat} {rs : List Nat} {i : Int32} (hd : decode M.by pc = .ok (.aaload, 1)) (hc : hp[k]? = some (.inr (.inl rs))) (hi : vp_in i rs.length) (hr : rs[i.toNatClampNeg]? = some r) (kk : J M d mc ms Q (pc + 1) lv (.ref r :: st) hp cs ss) : J M d mc ms Q pc lv (.int i :: .ref k :: st) hp cs ss := by
  intro p l e s m args below meth c D cA A ad0 x H locs ls hE hl hP hD hS hL
  have K := kk p l e s m args below meth c D cA A ad0 x H locs ls hE hl hP hD hS hL
  obtain ⟨hx, hb, hml, hret, hlk, hown, hts, hK, hA, hnm⟩ := hE
  have hlt : i.toNatClampNeg < rs.length := Nat.not_le.mp fun q => hi (Or.inr q)
  have ha := conc_get (cA := cA) (ad := ad0 ++ x) hl hc
  refine W.aald (v := va_rf ((rs[i.toNatClampNeg]?).map (fun r => (ad0 ++ x).getD r 0))) (ty := .array .int) hx hb (hP k _ ha) ((hK.2 2 _ rfl).1 rs.length (fun j => va_rf ((rs[j]?).map (fun r => (ad0 ++ x).getD r 0)))) rfl (fun q => by cases q) (by show ¬ (i < 0 ∨ (arrV _ _ _).slots.size ≤ _); rw [arrV_size]; exact hi) (by show (arrV _ _ _).slots[_]? = _; rw [arrV_read _ _ hlt]) rfl rfl hd ?_
  rw [hr]
  exact K
theorem J_alen {k : Nat} {xs : List Int32} {v : Int32} (hd : decode M.by pc = .ok (.arraylength, 1)) (hc : hp[k]? = some (.inl (.int, xs))) (hv : Int32.ofNat xs.length = v) (kk : J M d mc ms Q (pc + 1) lv (.int v :: st) hp cs ss) : J M d mc ms Q pc lv (.ref k :: st) hp cs ss := by
  intro p l e s m args below meth c D cA A ad0 x H locs ls hE hl hP hD hS hL
  have K := kk p l e s m args below meth c D cA A ad0 x H locs ls hE hl hP hD hS hL
  obtain ⟨hx, hb, hml, hr, hlk, hown, hts, hK, hA, hnm⟩ := hE
  exact va_alen (x := (xs.length, .inl (fun j => xs.getD j 0))) (ty := .int) hx hb hK hP k 0 (conc_get hl hc) rfl hv hd K
/-! division -/
theorem J_idiv {y z : Int32} (hd : decode M.by pc = .ok (.idiv, 1)) (hy : ¬ y = 0) (kk : J M d mc ms Q (pc + 1) lv (.int (z / y) :: st) hp cs ss) : J M d mc ms Q pc lv (.int y :: .int z :: st) hp cs ss := by
  intro p l e s m args below meth c D cA A ad0 x H locs ls hE hl hP hD hS hL
  exact lv_idiv hE.1 hE.2.1 hd hy (kk p l e s m args below meth c D cA A ad0 x H locs ls hE hl hP hD hS hL)
theorem J_irem {y z : Int32} (hd : decode M.by pc = .ok (.irem, 1)) (hy : ¬ y = 0) (kk : J M d mc ms Q (pc + 1) lv (.int (z - z / y * y) :: st) hp cs ss) : J M d mc ms Q pc lv (.int y :: .int z :: st) hp cs ss := by
  intro p l e s m args below meth c D cA A ad0 x H locs ls hE hl hP hD hS hL
  exact lv_irem hE.1 hE.2.1 hd hy (kk p l e s m args below meth c D cA A ad0 x H locs ls hE hl hP hD hS hL)
theorem J_ldiv {y z : Int64} (hd : decode M.by pc = .ok (.ldiv, 1)) (hy : ¬ y = 0) (kk : J M d mc ms Q (pc + 1) lv (.long (z / y) :: st) hp cs ss) : J M d mc ms Q pc lv (.long y :: .long z :: st) hp cs ss := by
  intro p l e s m args below meth c D cA A ad0 x H locs ls hE hl hP hD hS hL
  exact lv_ldiv hE.1 hE.2.1 hd hy (kk p l e s m args below meth c D cA A ad0 x H locs ls hE hl hP hD hS hL)
theorem J_lrem {y z : Int64} (hd : decode M.by pc = .ok (.lrem, 1)) (hy : ¬ y = 0) (kk : J M d mc ms Q (pc + 1) lv (.long (z - z / y * y) :: st) hp cs ss) : J M d mc ms Q pc lv (.long y :: .long z :: st) hp cs ss := by
  intro p l e s m args below meth c D cA A ad0 x H locs ls hE hl hP hD hS hL
  exact lv_lrem hE.1 hE.2.1 hd hy (kk p l e s m args below meth c D cA A ad0 x H locs ls hE hl hP hD hS hL)
/-! switches -/
def swT (dflt lo hi : Int) (offs : Array Int) (pc : Nat) (x : Int32) : Option Nat := if x.toInt < lo ∨ hi < x.toInt then tgt pc dflt else match offs[(x.toInt - lo).toNat]? with
  | some off => tgt pc off
  | none => none
theorem J_tsw {dflt lo hi : Int} {offs : Array Int} {len t : Nat} {z : Int32} (hd : decode M.by pc = .ok (.tableswitch dflt lo hi offs, len)) (hs : swT dflt lo hi offs pc z = some t) (kk : J M d mc ms Q t lv st hp cs ss) : J M d mc ms Q pc lv (.int z :: st) hp cs ss := by
  intro p l e s m args below meth c D cA A ad0 x H locs ls hE hl hP hD hS hL
  have K := kk p l e s m args below meth c D cA A ad0 x H locs ls hE hl hP hD hS hL
  unfold swT at hs
  split at hs
  · rename_i h
    exact lv_tableOut hE.1 hE.2.1 hd h (tgt_spec hs) K
  · rename_i h
    split at hs
    · rename_i off ho
      exact lv_tableIn hE.1 hE.2.1 hd (fun q => h (Or.inl q)) (fun q => h (Or.inr q)) ho (tgt_spec hs) K
    · cases hs
theorem J_lsw {dflt : Int} {ps : Array (Int × Int)} {len t : Nat} {z : Int32} (hd : decode M.by pc = .ok (.lookupswitch dflt ps, len)) (hp0 : (ps.toList.zip (ps.toList.drop 1)).all (fun (a, next) => a.1 < next.1) = true) (hs : tgt pc (Op.lookupswitch.offset ps.toList dflt z.toInt) = some t) (kk : J M d mc ms Q t lv st hp cs ss) : J M d mc ms Q pc lv (.int z :: st) hp cs ss := by
  intro p l e s m args below meth c D cA A ad0 x H locs ls hE hl hP hD hS hL
  exact lv_lookup hE.1 hE.2.1 hd hp0 rfl (tgt_spec hs) (kk p l e s m args below meth c D cA A ad0 x H locs ls hE hl hP hD hS hL)
/-! constants -/
theorem J_ldc {idx : Nat} {v : Int32} (hd : decode M.by pc = .ok (.ldc idx, 2)) (hw : Jvm.Cond.constant (cnm M.cn) idx v ∈ tb) (kk : J M d mc ms Q (pc + 2) lv (.int v :: st) hp cs ss) : J M d mc ms Q pc lv st hp cs ss := by
  intro p l e s m args below meth c D cA A ad0 x H locs ls hE hl hP hD hS hL
  exact lv_ldc hE.1 hE.2.1 hE.2.2.2.2.2.1 (hE.2.2.2.2.2.2.1 _ hw) hd (kk p l e s m args below meth c D cA A ad0 x H locs ls hE hl hP hD hS hL)
theorem J_ldcw {idx : Nat} {v : Int32} (hd : decode M.by pc = .ok (.ldc_w idx, 3)) (hw : Jvm.Cond.constant (cnm M.cn) idx v ∈ tb) (kk : J M d mc ms Q (pc + 3) lv (.int v :: st) hp cs ss) : J M d mc ms Q pc lv st hp cs ss := by
  intro p l e s m args below meth c D cA A ad0 x H locs ls hE hl hP hD hS hL
  exact lv_ldcw hE.1 hE.2.1 hE.2.2.2.2.2.1 (hE.2.2.2.2.2.2.1 _ hw) hd (kk p l e s m args below meth c D cA A ad0 x H locs ls hE hl hP hD hS hL)
theorem J_ldc2 {idx : Nat} {v : Int64} (hd : decode M.by pc = .ok (.ldc2_w idx, 3)) (hw : Jvm.Cond.constantLong (cnm M.cn) idx v ∈ tb) (kk : J M d mc ms Q (pc + 3) lv (.long v :: st) hp cs ss) : J M d mc ms Q pc lv st hp cs ss := by
  intro p l e s m args below meth c D cA A ad0 x H locs ls hE hl hP hD hS hL
  exact lv_ldc2 hE.1 hE.2.1 hE.2.2.2.2.2.1 (hE.2.2.2.2.2.2.1 _ hw) hd (kk p l e s m args below meth c D cA A ad0 x H locs ls hE hl hP hD hS hL)
/-! the end of a method -/
theorem J_iret {z : Int32} {ty : FieldType} (hd : decode M.by pc = .ok (.ireturn, 1)) (hrt : M.rt = some ty) (hn : narrow ty (.int z) = .int z) (h1 : cs ≤ mc) (h2 : ss ≤ ms) (hQ : Q (some (.int z)) hp) : J M d mc ms Q pc lv [.int z] hp cs ss := by
  intro p l e s m args below meth c D cA A ad0 x H locs ls hE hl hP hD hS hL
  obtain ⟨hx, hb, hml, hr, hlk, hown, hts, hK, hA, hnm⟩ := hE
  refine W.widen h1 h2 ?_
  exact W.zret (ty := ty) hx hb (hr.trans hrt) hn (fun t ht hW => ⟨⟨some (.int z), hp, x, rfl, hQ, hl, by rw [ht]; exact hP, hD, va_K.moved hW.alike hK⟩, hS.F ht⟩) hS.2.2 hd hlk
theorem J_lret {z : Int64} (hd : decode M.by pc = .ok (.lreturn, 1)) (hrt : M.rt = some .long) (h1 : cs ≤ mc) (h2 : ss ≤ ms) (hQ : Q (some (.long z)) hp) : J M d mc ms Q pc lv [.long z] hp cs ss := by
  intro p l e s m args below meth c D cA A ad0 x H locs ls hE hl hP hD hS hL
  obtain ⟨hx, hb, hml, hr, hlk, hown, hts, hK, hA, hnm⟩ := hE
  refine W.widen h1 h2 ?_
  exact W.lret hx hb (hr.trans hrt) (fun t ht hW => ⟨⟨some (.long z), hp, x, rfl, hQ, hl, by rw [ht]; exact hP, hD, va_K.moved hW.alike hK⟩, hS.F ht⟩) hS.2.2 hd hlk
theorem J_aret {k : Nat} {rt : FieldType} (hd : decode M.by pc = .ok (.areturn, 1)) (hrt : M.rt = some rt) (hty : (∃ n, rt = .object n) ∨ ∃ t, rt = .array t) (h1 : cs ≤ mc) (h2 : ss ≤ ms) (hQ : Q (some (.ref k)) hp) : J M d mc ms Q pc lv [.ref k] hp cs ss := by
  intro p l e s m args below meth c D cA A ad0 x H locs ls hE hl hP hD hS hL
  obtain ⟨hx, hb, hml, hr, hlk, hown, hts, hK, hA, hnm⟩ := hE
  refine W.widen h1 h2 ?_
  exact W.aret (rt := rt) hx hb (hr.trans hrt) hty (Or.inr ⟨_, rfl⟩) (fun t ht hW => ⟨⟨some (.ref k), hp, x, rfl, hQ, hl, by rw [ht]; exact hP, hD, va_K.moved hW.alike hK⟩, hS.F ht⟩) hS.2.2 hd hlk
theorem J_vret (hd : decode M.by pc = .ok (.return_, 1)) (hrt : M.rt = none) (h1 : cs ≤ mc) (h2 : ss ≤ ms) (hQ : Q none hp) : J M d mc ms Q pc lv [] hp cs ss := by
  intro p l e s m args below meth c D cA A ad0 x H locs ls hE hl hP hD hS hL
  obtain ⟨hx, hb, hml, hr, hlk, hown, hts, hK, hA, hnm⟩ := hE
  refine W.widen h1 h2 ?_
  exact W.vret hx hb (hr.trans hrt) (fun t ht hW => ⟨⟨none, hp, x, rfl, hQ, hl, by rw [ht]; exact hP, hD, va_K.moved hW.alike hK⟩, hS.F ht⟩) hS.2.2 hd hlk
end JH
end
section
/-! ===== calls ===== -/
theorem tb_good : ∀ w ∈ tb, (w.onTables && w.keeps) = true ∨ ∃ ty, w = .arrayClass ty := fun _ h => good_of_word (List.mem_filter.mp h).2
def np (N : MT) : Option Nat := (parseMethodDescriptor N.y.desc).map (fun d => d.parameters.length)
def nOk (N : MT) : Prop := Cond.code N.y N.by N.ml N.rt ∈ tb ∧ Cond.initialized N.y.cls ∈ tb ∧ (N.y.cls ≠ "java/lang/invoke/MethodHandle" ∧ N.y.cls ≠ "java/lang/invoke/VarHandle") ∧ N.ml ≤ 20 ∧ plainName N.y.cls = true ∧ N.y.cls = cnm N.cn
theorem mw_good {N : MT} (h : nOk N) : GoodIn tb (mw N) := by
  intro w hw
  have : w ∈ tb := by
    rcases List.mem_cons.mp hw with q | q
    · rw [q]; exact h.1
    · exact q
  exact ⟨this, tb_good w this⟩
section VAJ
variable {p : Program} {l : Launch} {e : Env} {R : Room} {s : State} {m : MethodId} {args : Array Value} {below : List Frame} {meth : Method} {c : Code} {H : Heap} {locs : List Loc} {cells slots : Nat} {Q : State → Prop}
variable {pc : Nat} {ls : Array Slot} {rest st0 : List Value} {a : Array Value} {A0 A1 : Nat → Prop} {H0 : Heap} {mc ms : Nat} {free : Addr → Prop}
theorem va_callJ {D : va_G} {cA : FieldType → ClassId} {ad : List Nat} {Q' : Option Value → AH → Prop} (hr : va_Run p l e R s m args below meth c H locs cells slots mc ms (F0 m pc ls st0) rest (jQ D cA A1 ad Q' a) free) (hS : va_S A0 H0 H locs) (hA : ∀ q, q < H.size → A1 q → A0 q) (hf : ∀ q, free q → A0 q)
    (kk : ∀ (v : Option Value) (hp' : AH) (x' : List Nat) (H1 : Heap) (locs1 : List Loc), Q' v hp' → (ad ++ x').length = hp'.length → va_P D clsL (conc cA (ad ++ x') hp') H1 → va_D A1 (conc cA (ad ++ x') hp') → va_S A0 H0 H1 locs1 → W p l e R s m args below meth c H1 locs1 (cells + mc) (slots + ms) Q (F0 m (pc + 3) ls ((v.map (cv (ad ++ x'))).toList ++ rest))) : W p l e R s m args below meth c H locs cells slots Q (F0 m pc ls st0) := by
  intro T hT X
  obtain ⟨v, st₀, t, T', L, h0, X', hL, e1, e2, ⟨⟨w, hp', x', hv, hq, hl, hP, hD, hK⟩, hz, hk⟩, st⟩ := hr T hT X
  rw [Outcome.returned.injEq] at hv
  subst hv
  rw [h0] at hz hk
  obtain ⟨t2, a1, b1⟩ := kk w hp' x' T'.heap (locs ++ L) hq hl (by rw [e1]; exact hP) hD
    ⟨Nat.le_trans hS.1 (by rw [e1]; exact hz), fun q h1 h2 => by rw [e1, hk q (Nat.lt_of_lt_of_le h1 hS.1) (fun z => h2 (hA q (Nat.lt_of_lt_of_le h1 hS.1) z))]; exact hS.2.1 q h1 h2, fun q hq => by
      rcases List.mem_append.mp hq with h | h
      · exact hS.2.2 q h
      · exact hf _ (hL q h)⟩ T' rfl X'
  exact ⟨t2, st t2 a1, b1⟩
end VAJ
theorem jL_app {nL : Nat} {ad x : List Nat} {lv : List (Option Value)} {ls : Array Slot} (h : jL nL ad lv ls) (hok : okL ad.length lv = true) : jL nL (ad ++ x) lv ls := by
  refine ⟨h.1, h.2.1, h.2.2.1, fun i v hi => ?_⟩
  have := List.all_eq_true.mp hok (some v) (List.mem_of_getElem? hi)
  rw [cv_app this]
  exact h.2.2.2 i v hi
theorem ct_room {N : MT} {d mc ms mc' ms' : Nat} (hN : nOk N) : (rmm d mc' ms').frames + 1 ≤ (rmm (d + 1) mc ms).frames ∧ 8 + (N.ml + 11) + (rmm d mc' ms').locals ≤ (rmm (d + 1) mc ms).locals := by
  refine ⟨Nat.le_refl _, ?_⟩
  have := hN.2.2.2.1
  show 8 + (N.ml + 11) + 39 * d ≤ 39 * (d + 1)
  omega
def cOk (hp : AH) (lv : List (Option Value)) (st : List Value) (Q' : Option Value → AH → Prop) : Prop := (∀ v hp', Q' v hp' → hp'.length = hp.length) ∨ (okL hp.length lv = true ∧ st.all (okV hp.length) = true)
theorem ct_free {cA : FieldType → ClassId} {ad : List Nat} {hp : AH} {A : Nat → Prop} {H0 H : Heap} {locs : List Loc} (hD : va_D A (conc cA ad hp)) (hS : va_S A H0 H locs) (hA : ∀ q, H0.size ≤ q → A q) : ∀ q, va_A (conc cA ad hp) H.size q → A q := by
  intro q h
  rcases h with ⟨k, e, h⟩ | h
  · exact hD.2 k _ h
  · exact hA q (Nat.le_trans hS.1 h)
section JC
variable {M : MT} {d mc ms : Nat} {Q Q' : Option Value → AH → Prop} {pc : Nat} {lv : List (Option Value)} {st : List Value} {hp : AH} {cs ss : Nat} {idx mc' ms' : Nat} {N : MT} {as : List Value}
/-- what is common to the calls: behind the callee the caller goes on -/
theorem J_after {p : Program} {l : Launch} {e : Env} {s : State} {m : MethodId} {args : Array Value} {below : List Frame} {meth : Method} {c : Code} {D : va_G} {cA : FieldType → ClassId} {A : Nat → Prop} {ad0 x : List Nat} {H : Heap} {locs : List Loc} {ls : Array Slot} {a : Array Value} {st0 : List Value}
    (hE : jE M p s m args meth c D cA A) (hl : (ad0 ++ x).length = hp.length) (hD : va_D A (conc cA (ad0 ++ x) hp)) (hS : va_S A s.heap H locs) (hL : jL M.ml (ad0 ++ x) lv ls) (hok : cOk hp lv st Q')
    (hr : va_Run p l e (rmm (d + 1) mc ms) s m args below meth c H locs cs ss mc' ms' (F0 m pc ls st0) (st.map (cv (ad0 ++ x))) (jQ D cA (va_A (conc cA (ad0 ++ x) hp) H.size) (ad0 ++ x) Q' a) (va_A (conc cA (ad0 ++ x) hp) H.size))
    (kk : ∀ v hp', Q' v hp' → J M (d + 1) mc ms Q (pc + 3) lv (v.toList ++ st) hp' (cs + mc') (ss + ms')) : W p l e (rmm (d + 1) mc ms) s m args below meth c H locs cs ss (MQ below (jQ D cA A ad0 Q) args s mc ms A) (F0 m pc ls st0) := by
  have hF := ct_free hD hS hE.2.2.2.2.2.2.2.2.1
  refine va_callJ hr hS (fun q _ h => hF q h) hF (fun v hp' x' H1 locs1 hq hl' hP1 hD1 hS1 => ?_)
  have hlv : jL M.ml ((ad0 ++ x) ++ x') lv ls ∧ (st.map (cv ((ad0 ++ x) ++ x'))) = st.map (cv (ad0 ++ x)) := by
    rcases hok with h | ⟨h1, h2⟩
    · have h3 := h v hp' hq
      have : x' = [] := by
        rw [List.length_append, hl, h3] at hl'
        exact List.eq_nil_of_length_eq_zero (by omega)
      subst this
      rw [List.append_nil]
      exact ⟨hL, rfl⟩
    · rw [← hl] at h1 h2
      exact ⟨jL_app hL h1, map_cv_app h2⟩
  have K := kk v hp' hq p l e s m args below meth c D cA A ad0 (x ++ x') H1 locs1 ls hE (by rw [← List.append_assoc]; exact hl') (by rw [← List.append_assoc]; exact hP1) (by rw [← List.append_assoc]; exact hD1.weaken (fun _ q _ h => hF _ h)) hS1 (by rw [← List.append_assoc]; exact hlv.1)
  rw [← List.append_assoc, List.map_append, hlv.2] at K
  have e2 : (v.map (cv ((ad0 ++ x) ++ x'))).toList = v.toList.map (cv ((ad0 ++ x) ++ x')) := by cases v <;> rfl
  rw [e2]
  exact K
theorem ct_pre {s : State} {H : Heap} {D : va_G} {cA : FieldType → ClassId} {ad : List Nat} {A : Nat → Prop} (hP : va_P D clsL (conc cA ad hp) H) (hD : va_D A (conc cA ad hp)) (hK : va_K D clsL (tysL cA) s) : PreS s H (va_Pc (as.map (cv ad)) (fun U => U.heap.size = H.size ∧ va_P D clsL (conc cA ad hp) U.heap ∧ va_K D clsL (tysL cA) U ∧ va_D (fun _ => True) (conc cA ad hp))) (as.map (cv ad)) := by
  refine ⟨fun a U g mk q => ?_, fun U hU hW => ⟨rfl, by rw [hU], by rw [hU]; exact hP, va_K.moved hW.alike hK, hD.weaken (fun _ _ _ _ => trivial)⟩⟩
  obtain ⟨q0, q1, qP, qK, qD⟩ := q
  exact ⟨q0, q1, qP, va_K.moved (u := U) (U := U.calling g mk a) (Vm.Alike.refl U.vm) qK, qD⟩
theorem st_room {ls : Array Slot} {m : MethodId} {ad : List Nat} {st0 : List Value} (h : (st.map (fun v => v.category)).sum ≤ 8) : 2 * (F0 m pc ls st0).monitorRoom + ((st.map (cv ad)).map fun v => v.category).sum ≤ 8 := by
  refine lv_room ?_
  have e : (st.map (cv ad)).map (fun v => v.category) = st.map (fun v => v.category) := by
    rw [List.map_map]; exact List.map_congr_left (fun v _ => cv_cat ad v)
  rw [e]; exact h
theorem J_callS (hd : decode M.by pc = .ok (.invokestatic idx, 3)) (hN : nOk N) (hlk : Cond.methodLink (cnm M.cn) idx N.y ∈ tb) (hst : Cond.static N.y ∈ tb) (hnp : np N = some as.length) (hcat : (st.map (fun v => v.category)).sum ≤ 8) (hr1 : cs + mc' ≤ mc) (hr2 : ss + ms' ≤ ms) (hok : cOk hp lv st Q') (C : Ct N d mc' ms' as hp Q')
    (kk : ∀ v hp', Q' v hp' → J M (d + 1) mc ms Q (pc + 3) lv (v.toList ++ st) hp' (cs + mc') (ss + ms')) : J M (d + 1) mc ms Q pc lv (as.reverse ++ st) hp cs ss := by
  intro p l e s m args below meth c D cA A ad0 x H locs ls hE hl hP hD hS hL
  refine J_after (a := (as.map (cv (ad0 ++ x))).toArray) hE hl hD hS hL hok ?_ kk
  obtain ⟨hx, hb, hml, hr, hlo, hown, hts, hK, hA, hnm⟩ := hE
  exact va_runS (Ts := tb) (n := as.length) ⟨hx, hb, hml, hown, hts⟩ (C l D cA (ad0 ++ x) H.size hl) ⟨callB_of as.length hts (mw_good hN) rfl rfl rfl (hts _ hN.2.1) (hts _ hlk) ⟨hN.2.2.1.1, hN.2.2.1.2, hnp⟩ (ct_room hN), hts _ hst⟩ (ct_pre hP hD hK) rfl (by simp) hL.2.1 (by simp) (st_room hcat) hd ⟨hr1, hr2⟩
theorem J_callSN {host : String} (hd : decode M.by pc = .ok (.invokestatic idx, 3)) (hN : nOk N) (hlk : Cond.methodLinkNest (cnm M.cn) idx N.y host ∈ tb) (hst : Cond.static N.y ∈ tb) (hnp : np N = some as.length) (hcat : (st.map (fun v => v.category)).sum ≤ 8) (hr1 : cs + mc' ≤ mc) (hr2 : ss + ms' ≤ ms) (hok : cOk hp lv st Q') (C : Ct N d mc' ms' as hp Q')
    (kk : ∀ v hp', Q' v hp' → J M (d + 1) mc ms Q (pc + 3) lv (v.toList ++ st) hp' (cs + mc') (ss + ms')) : J M (d + 1) mc ms Q pc lv (as.reverse ++ st) hp cs ss := by
  intro p l e s m args below meth c D cA A ad0 x H locs ls hE hl hP hD hS hL
  refine J_after (a := (as.map (cv (ad0 ++ x))).toArray) hE hl hD hS hL hok ?_ kk
  obtain ⟨hx, hb, hml, hr, hlo, hown, hts, hK, hA, hnm⟩ := hE
  have hc : Cond.code N.y N.by N.ml N.rt ∈ mw N := List.mem_cons_self
  refine va_runSN (Ts := tb) (n := as.length) (host := host) ⟨hx, hb, hml, hown, hts⟩ (C l D cA (ad0 ++ x) H.size hl) ⟨⟨⟨rfl, rfl, (ct_room (mc := mc) (ms := ms) (mc' := mc') (ms' := ms') hN).1, (ct_room (mc := mc) (ms := ms) (mc' := mc') (ms' := ms') hN).2, pay_in hts (mw_good hN), hc⟩, hts _ (mw_good hN _ hc).1, hts _ hN.2.1, ⟨hN.2.2.1.1, hN.2.2.1.2⟩, fun sig h => ?_, hts _ hlk⟩, hts _ hst, trivial⟩ (ct_pre hP hD hK) rfl (by simp) hL.2.1 (by simp) (st_room hcat) hd ⟨hr1, hr2⟩
  unfold np at hnp
  rw [h] at hnp
  exact (Option.some.inj hnp).symm
theorem J_callV {k ci : Nat} {fs : List Value} (hd : decode M.by pc = .ok (.invokevirtual idx, 3)) (hN : nOk N) (hlk : Cond.methodLink (cnm M.cn) idx N.y ∈ tb) (hin : Cond.instanceMethod N.y ∈ tb) (hse : Cond.selects N.y.cls N.y N.y ∈ tb) (hnp : np N = some as.length) (hc : hp[k]? = some (.inr (.inr (ci, fs)))) (hci : (clsL[ci]?).map (fun q => q.1) = some N.y.cls) (hcat : (st.map (fun v => v.category)).sum ≤ 8) (hr1 : cs + mc' ≤ mc) (hr2 : ss + ms' ≤ ms) (hok : cOk hp lv st Q') (C : Ct N d mc' ms' (.ref k :: as) hp Q')
    (kk : ∀ v hp', Q' v hp' → J M (d + 1) mc ms Q (pc + 3) lv (v.toList ++ st) hp' (cs + mc') (ss + ms')) : J M (d + 1) mc ms Q pc lv (as.reverse ++ .ref k :: st) hp cs ss := by
  intro p l e s m args below meth c D cA A ad0 x H locs ls hE hl hP hD hS hL
  refine J_after (a := (Value.ref ((ad0 ++ x).getD k 0) :: as.map (cv (ad0 ++ x))).toArray) hE hl hD hS hL hok ?_ kk
  obtain ⟨hx, hb, hml, hr, hlo, hown, hts, hK, hA, hnm⟩ := hE
  obtain ⟨q, hq, hq1⟩ := Option.map_eq_some_iff.mp hci
  have hrecv := va_recv hK hP hq (conc_get hl hc)
  rw [hq1] at hrecv
  have hpre := ct_pre (as := .ref k :: as) hP hD hK
  exact va_runV (Ts := tb) (n := as.length) (C := N.y.cls) (b := (ad0 ++ x).getD k 0) (As := as.map (cv (ad0 ++ x))) ⟨hx, hb, hml, hown, hts⟩ (C l D cA (ad0 ++ x) H.size hl) ⟨callB_of as.length hts (mw_good hN) rfl rfl rfl (hts _ hN.2.1) (hts _ hlk) ⟨hN.2.2.1.1, hN.2.2.1.2, hnp⟩ (ct_room hN), hts _ hin, hts _ hse⟩ ⟨hpre.1, hrecv, hpre.2⟩ rfl (by simp) hL.2.1 (by simp [cv]) (st_room hcat) hd ⟨hr1, hr2⟩
theorem J_callI {k : Nat} (hd : decode M.by pc = .ok (.invokespecial idx, 3)) (hN : nOk N) (hrt : N.rt = none) (hlk : Cond.methodLink (cnm M.cn) idx N.y ∈ tb) (hin : Cond.instanceMethod N.y ∈ tb) (hy1 : N.y.name = "<init>") (hnp : np N = some as.length) (hcat : (st.map (fun v => v.category)).sum ≤ 8) (hr1 : cs + mc' ≤ mc) (hr2 : ss + ms' ≤ ms) (hok : cOk hp lv st Q') (C : Ct N d mc' ms' (.ref k :: as) hp Q')
    (kk : ∀ v hp', Q' v hp' → J M (d + 1) mc ms Q (pc + 3) lv (v.toList ++ st) hp' (cs + mc') (ss + ms')) : J M (d + 1) mc ms Q pc lv (as.reverse ++ .ref k :: st) hp cs ss := by
  intro p l e s m args below meth c D cA A ad0 x H locs ls hE hl hP hD hS hL
  refine J_after (a := (Value.ref ((ad0 ++ x).getD k 0) :: as.map (cv (ad0 ++ x))).toArray) hE hl hD hS hL hok ?_ kk
  obtain ⟨hx, hb, hml, hr, hlo, hown, hts, hK, hA, hnm⟩ := hE
  have hpre := ct_pre (as := .ref k :: as) hP hD hK
  have hB := callB_of (R := rmm (d + 1) mc ms) (rm := rmm d mc' ms') (own := cnm M.cn) (index := idx) as.length hts (mw_good hN) rfl rfl rfl (hts _ hN.2.1) (hts _ hlk) ⟨hN.2.2.1.1, hN.2.2.1.2, hnp⟩ (ct_room hN)
  rw [hrt] at hB
  exact va_runI (Ts := tb) (n := as.length) (b := (ad0 ++ x).getD k 0) (As := as.map (cv (ad0 ++ x))) ⟨hx, hb, hml, hown, hts⟩ (C l D cA (ad0 ++ x) H.size hl) ⟨hB, hy1, hts _ hin⟩ hpre rfl (by simp) hL.2.1 (by simp [cv]) (st_room hcat) hd ⟨hr1, hr2⟩
theorem J_callIN {k : Nat} {host : String} (hd : decode M.by pc = .ok (.invokespecial idx, 3)) (hN : nOk N) (hrt : N.rt = none) (hlk : Cond.methodLinkNest (cnm M.cn) idx N.y host ∈ tb) (hin : Cond.instanceMethod N.y ∈ tb) (hy1 : N.y.name = "<init>") (hnp : np N = some as.length) (hcat : (st.map (fun v => v.category)).sum ≤ 8) (hr1 : cs + mc' ≤ mc) (hr2 : ss + ms' ≤ ms) (hok : cOk hp lv st Q') (C : Ct N d mc' ms' (.ref k :: as) hp Q')
    (kk : ∀ v hp', Q' v hp' → J M (d + 1) mc ms Q (pc + 3) lv (v.toList ++ st) hp' (cs + mc') (ss + ms')) : J M (d + 1) mc ms Q pc lv (as.reverse ++ .ref k :: st) hp cs ss := by
  intro p l e s m args below meth c D cA A ad0 x H locs ls hE hl hP hD hS hL
  refine J_after (a := (Value.ref ((ad0 ++ x).getD k 0) :: as.map (cv (ad0 ++ x))).toArray) hE hl hD hS hL hok ?_ kk
  obtain ⟨hx, hb, hml, hr, hlo, hown, hts, hK, hA, hnm⟩ := hE
  have hpre := ct_pre (as := .ref k :: as) hP hD hK
  have hc : Cond.code N.y N.by N.ml none ∈ mw N := by rw [← hrt]; exact List.mem_cons_self
  refine va_runIN (Ts := tb) (n := as.length) (host := host) (b := (ad0 ++ x).getD k 0) (As := as.map (cv (ad0 ++ x))) ⟨hx, hb, hml, hown, hts⟩ (C l D cA (ad0 ++ x) H.size hl) ⟨⟨⟨rfl, rfl, (ct_room (mc := mc) (ms := ms) (mc' := mc') (ms' := ms') hN).1, (ct_room (mc := mc) (ms := ms) (mc' := mc') (ms' := ms') hN).2, pay_in hts (mw_good hN), hc⟩, hts _ (mw_good hN _ hc).1, hts _ hN.2.1, ⟨hN.2.2.1.1, hN.2.2.1.2⟩, fun sig h => ?_, hts _ hlk⟩, hy1, hts _ hin⟩ hpre rfl (by simp) hL.2.1 (by simp [cv]) (st_room hcat) hd ⟨hr1, hr2⟩
  unfold np at hnp
  rw [h] at hnp
  exact (Option.some.inj hnp).symm
theorem J_objI {k : Nat} (hd : decode M.by pc = .ok (.invokespecial idx, 3)) (hlk : Cond.methodLink (cnm M.cn) idx Lib.objectInit ∈ tb) (hin : Cond.instanceMethod Lib.objectInit ∈ tb) (hco : Cond.code Lib.objectInit ⟨#[0xb1]⟩ 1 none ∈ tb) (hcat : (st.map (fun v => v.category)).sum ≤ 8) (kk : J M (d + 1) mc ms Q (pc + 3) lv st hp cs ss) : J M (d + 1) mc ms Q pc lv (.ref k :: st) hp cs ss := by
  intro p l e s m args below meth c D cA A ad0 x H locs ls hE hl hP hD hS hL
  have K := kk p l e s m args below meth c D cA A ad0 x H locs ls hE hl hP hD hS hL
  obtain ⟨hx, hb, hml, hr, hlo, hown, hts, hK, hA, hnm⟩ := hE
  refine W.objInit hx hb hown (hts _ hlk) (hts _ hin) (hts _ hco) rfl (by rw [hml]; exact hL.2.1) (a := (ad0 ++ x).getD k 0) (rest := st.map (cv (ad0 ++ x))) rfl hd (show 1 ≤ d + 1 by omega) ?_ K
  have := st_room (m := m) (ls := ls) (pc := pc) (ad := ad0 ++ x) (st0 := (Value.ref k :: st).map (cv (ad0 ++ x))) hcat
  show _ ≤ 39 * (d + 1)
  omega
/-! arraycopy of ints -/
def cpyL (xs ys : List Int32) (sp dp n : Nat) : List Int32 := (List.range ys.length).map (fun k => if dp ≤ k ∧ k < dp + n then xs.getD (sp + (k - dp)) 0 else ys.getD k 0)
theorem cpyL_length (xs ys : List Int32) (sp dp n : Nat) : (cpyL xs ys sp dp n).length = ys.length := by unfold cpyL; simp
theorem cpyL_fun {xs ys : List Int32} {sp dp n : Nat} (h : dp + n ≤ ys.length) : va_cpy (fun j => xs.getD j 0) (fun j => ys.getD j 0) sp dp n = (fun j => (cpyL xs ys sp dp n).getD j 0) := by
  funext j
  unfold va_cpy cpyL
  rw [List.getD_eq_getElem?_getD (l := List.map _ _), List.getElem?_map]
  by_cases hj : j < ys.length
  · rw [List.getElem?_range hj]; rfl
  · rw [List.getElem?_eq_none (by simp; omega)]
    have h1 : ¬ (dp ≤ j ∧ j < dp + n) := by omega
    rw [if_neg h1]
    show ys.getD j 0 = _
    rw [List.getD_eq_getElem?_getD, List.getElem?_eq_none (by omega)]
    rfl
theorem J_acopy {k0 k1 : Nat} {xs ys : List Int32} {sp dp n : Int32} (hd : decode M.by pc = .ok (.invokestatic idx, 3)) (hlk : Cond.methodLink (cnm M.cn) idx arraycopyName ∈ tb) (hnat : Cond.native arraycopyName ∈ tb) (hst : Cond.static arraycopyName ∈ tb) (hini : Cond.initialized "java/lang/System" ∈ tb) (hc0 : hp[k0]? = some (.inl (.int, xs))) (hc1 : hp[k1]? = some (.inl (.int, ys))) (h1 : ¬ sp < 0) (h2 : ¬ dp < 0) (h3 : ¬ n < 0) (h4 : sp.toNatClampNeg + n.toNatClampNeg ≤ xs.length) (h5 : dp.toNatClampNeg + n.toNatClampNeg ≤ ys.length) (hcat : (st.map (fun v => v.category)).sum ≤ 8)
    (kk : J M (d + 1) mc ms Q (pc + 3) lv st (hp.set k1 (.inl (.int, cpyL xs ys sp.toNatClampNeg dp.toNatClampNeg n.toNatClampNeg))) cs ss) : J M (d + 1) mc ms Q pc lv (.int n :: .int dp :: .ref k1 :: .int sp :: .ref k0 :: st) hp cs ss := by
  intro p l e s m args below meth c D cA A ad0 x H locs ls hE hl hP hD hS hL
  have hE0 := hE
  obtain ⟨hx, hb, hml, hr, hlo, hown, hts, hK, hA, hnm⟩ := hE
  have hcat2 : ((st.map (cv (ad0 ++ x))).map fun v => v.category).sum ≤ 8 := by
    have e : (st.map (cv (ad0 ++ x))).map (fun v => v.category) = st.map (fun v => v.category) := by
      rw [List.map_map]; exact List.map_congr_left (fun v _ => cv_cat _ v)
    rw [e]; exact hcat
  refine va_copyi (ty := .int) hx hb (by rw [hml]; exact hL.2.1.symm) hown (hts _ hlk) (hts _ hnat) (hts _ hst) (hts _ hini) hK hP hD hS k0 k1 0 0 (conc_get hl hc0) (conc_get hl hc1) rfl rfl rfl h1 h2 h3 h4 h5 (fun _ _ => rfl) (show 1 ≤ d + 1 by omega) ?_ hd (fun H1 locs1 hP1 hD1 hS1 => ?_)
  · have hw : nativeFrameWords "java/lang/System" "arraycopy" 5 = 7 := by decide
    rw [hw]
    show _ ≤ 39 * (d + 1)
    omega
  · have e : (conc cA (ad0 ++ x) hp).set k1 ((ad0 ++ x).getD k1 0, .inl (cA .int, ys.length, .inl (va_cpy (fun j => xs.getD j 0) (fun j => ys.getD j 0) sp.toNatClampNeg dp.toNatClampNeg n.toNatClampNeg))) = conc cA (ad0 ++ x) (hp.set k1 (.inl (.int, cpyL xs ys sp.toNatClampNeg dp.toNatClampNeg n.toNatClampNeg))) := by
      rw [← conc_set hl hc1]
      simp only [jC, cpyL_length]
      rw [cpyL_fun h5]
    rw [e] at hP1 hD1
    exact kk p l _ s m args below meth c D cA A ad0 x H1 locs1 ls hE0 (by rw [List.length_set]; exact hl) hP1 hD1 hS1 hL
/-! a contract out of a walk -/
theorem Ct_of_J (hN : nOk N) (hsl : ∀ ad, (lg_sl (as.map (cv ad))).length ≤ N.ml) (h : J N d mc ms Q 0 (entL as N.ml) [] hp 0 0) : Ct N d mc ms as hp Q := by
  intro l D cA ad sz hl
  refine Met.ofW (cc := N.by) (maxL := N.ml) (ret := N.rt) hN.2.2.2.2.1 rfl ?_
  intro p e s m args below meth c s₁ B hml hv
  obtain ⟨rfl, hsz, hP, hK, hD0⟩ := hv
  have hts := atoms_spec (ws := mw N) B.pre
  have hown : s.vm.findClass N.y.cls = some m.cls := findClass_of_methodNamed B.named
  have hnm : meth.name = N.y.name := (name_of_methodNamed B.named B.method).1
  subst hsz
  have hD := hD0.self (sz := s.heap.size)
  rw [lg_entry_eq]
  have K := h p l e s m ((as.map (cv ad)).toArray) below meth c D cA (va_A (conc cA ad hp) s.heap.size) ad [] s.heap [] ((lg_sl (as.map (cv ad)) ++ List.replicate (N.ml - (lg_sl (as.map (cv ad))).length) Slot.unset).toArray)
    ⟨B.exec, B.bytes, hml, B.returns, B.notSynchronized, by rw [← hN.2.2.2.2.2]; exact hown, fun w hw => hts w (List.mem_cons_of_mem _ hw), hK, fun q h => Or.inr h, hnm⟩ (by rw [List.append_nil]; exact hl) (by rw [List.append_nil]; exact hP) (by rw [List.append_nil]; exact hD) va_S.rf (by rw [List.append_nil]; exact jL_ent (hsl ad))
  exact K
end JC
end
section
/-! ===== what is made ===== -/
def dfs (ci : Nat) : List Value := match clsL[ci]?, tyL[ci]? with
  | some (_, _, N), some ty => (List.range N).map (fun j => defaultValue (ty j))
  | _, _ => []
theorem cv_dflt (ad : List Nat) (t : FieldType) : cv ad (defaultValue t) = defaultValue t := by cases t <;> rfl
theorem cA_int {D : va_G} {cA : FieldType → ClassId} {s : State} {c' : ClassId} (hK : va_K D clsL (tysL cA) s) (hK' : va_K D clsL (tysL cA ++ [(c', .int)]) s) : c' = cA .int := by
  have h1 := (hK.2 0 _ rfl).2
  have h2 := (hK'.2 3 _ rfl).2
  exact Option.some.inj (h2.symm.trans h1)
theorem cA_bool {D : va_G} {cA : FieldType → ClassId} {s : State} {c' : ClassId} (hK : va_K D clsL (tysL cA) s) (hK' : va_K D clsL (tysL cA ++ [(c', .boolean)]) s) : c' = cA .boolean := by
  have h1 := (hK.2 1 _ rfl).2
  have h2 := (hK'.2 3 _ rfl).2
  exact Option.some.inj (h2.symm.trans h1)
theorem cA_rows {D : va_G} {cA : FieldType → ClassId} {s : State} {c' : ClassId} (hK : va_K D clsL (tysL cA) s) (hK' : va_K D clsL (tysL cA ++ [(c', .array .int)]) s) : c' = cA (.array .int) := by
  have h1 := (hK.2 2 _ rfl).2
  have h2 := (hK'.2 3 _ rfl).2
  exact Option.some.inj (h2.symm.trans h1)
theorem rep_getD (n j : Nat) : (List.replicate n (0 : Int32)).getD j 0 = 0 := by
  rw [List.getD_eq_getElem?_getD, List.getElem?_replicate]
  split <;> rfl
section JM
variable {M : MT} {d mc ms : Nat} {Q : Option Value → AH → Prop} {pc : Nat} {lv : List (Option Value)} {st : List Value} {hp : AH} {cs ss : Nat} {idx : Nat}
theorem J_new {ci N : Nat} {C : String} {T : u_T} (hd : decode M.by pc = .ok (.new idx, 3)) (hcl : Cond.classLink (cnm M.cn) idx C ∈ tb) (hinst : Cond.instantiable C N ∈ tb) (hini : Cond.initialized C ∈ tb) (hc : clsL[ci]? = some (C, T, N)) (hr1 : cs + 1 ≤ mc) (hr2 : ss + N ≤ ms) (hk1 : okH hp = true) (hk2 : okL hp.length lv = true) (hk3 : st.all (okV hp.length) = true)
    (kk : J M d mc ms Q (pc + 3) lv (.ref hp.length :: st) (hp ++ [.inr (.inr (ci, dfs ci))]) (cs + 1) (ss + N)) : J M d mc ms Q pc lv st hp cs ss := by
  intro p l e s m args below meth c D cA A ad0 x H locs ls hE hl hP hD hS hL
  have hE0 := hE
  obtain ⟨hx, hb, hml, hr, hlo, hown, hts, hK, hA, hnm⟩ := hE
  obtain ⟨hin, hne, ty, ht1, hty⟩ := clsL_ok hc
  have hdf : dfs ci = (List.range N).map (fun j => defaultValue (ty j)) := by unfold dfs; rw [hc, ht1]
  refine va_new (fs := dfs ci) hx hb hts hin ty hty hown (hts _ hcl) (hts _ hinst) (hts _ hini) hK hP hD hS hA hc (fun j hj => ?_) hr1 hr2 hd (fun q H1 hP1 hD1 hS1 => ?_)
  · rw [hdf]; unfold vp_V
    rw [List.getD_eq_getElem?_getD, List.getElem?_map, List.getElem?_range hj]; rfl
  · have hq : (ad0 ++ (x ++ [q])) = (ad0 ++ x) ++ [q] := (List.append_assoc _ _ _).symm
    have hfs : ∀ ad, (dfs ci).map (cv ad) = dfs ci := fun ad => by
      rw [hdf, List.map_map]; exact List.map_congr_left (fun j _ => cv_dflt ad _)
    have e9 : conc cA (ad0 ++ (x ++ [q])) (hp ++ [.inr (.inr (ci, dfs ci))]) = conc cA (ad0 ++ x) hp ++ [(q, .inr (ci, dfs ci))] := by
      rw [hq, conc_app hl hk1]
      simp only [List.zipWith_cons_cons, List.zipWith_nil_left, jC, hfs]
    rw [← e9] at hP1 hD1
    have hg : (ad0 ++ (x ++ [q])).getD hp.length 0 = q := by
      rw [hq, ← hl, List.getD_eq_getElem?_getD, List.getElem?_append_right (Nat.le_refl _), Nat.sub_self]; rfl
    have K := kk p l e s m args below meth c D cA A ad0 (x ++ [q]) H1 locs ls hE0 (by rw [hq, List.length_append, hl, List.length_append]; rfl) hP1 hD1 hS1 (by rw [hq]; exact jL_app hL (by rw [hl]; exact hk2))
    rw [List.map_cons] at K
    have e8 : st.map (cv (ad0 ++ (x ++ [q]))) = st.map (cv (ad0 ++ x)) := by rw [hq]; exact map_cv_app (by rw [hl]; exact hk3)
    rw [e8] at K
    have e7 : cv (ad0 ++ (x ++ [q])) (.ref hp.length) = .ref q := by show Value.ref _ = _; rw [hg]
    rw [e7] at K
    exact K
theorem J_newa {at_ : ArrayType} {ty : FieldType} {n : Int32} {k : Nat} (hd : decode M.by pc = .ok (.newarray at_, 2)) (hat : newarray.typeOf at_ = ty) (hty : ty = .int ∨ ty = .boolean) (hw : Cond.arrayClass ty ∈ tb) (hn : ¬ n < 0) (hk : n.toNatClampNeg = k) (hbig : k ≤ 100000) (hr1 : cs + 1 ≤ mc) (hr2 : ss + k ≤ ms) (hk1 : okH hp = true) (hk2 : okL hp.length lv = true) (hk3 : st.all (okV hp.length) = true)
    (kk : J M d mc ms Q (pc + 2) lv (.ref hp.length :: st) (hp ++ [.inl (ty, List.replicate k 0)]) (cs + 1) (ss + k)) : J M d mc ms Q pc lv (.int n :: st) hp cs ss := by
  intro p l e s m args below meth c D cA A ad0 x H locs ls hE hl hP hD hS hL
  have hE0 := hE
  obtain ⟨hx, hb, hml, hr, hlo, hown, hts, hK, hA, hnm⟩ := hE
  have hd0 : defaultValue ty = .int 0 := by rcases hty with h | h <;> rw [h] <;> rfl
  have hcb : componentBytes ty ≤ 4 := by rcases hty with h | h <;> rw [h] <;> decide
  refine va_newa (ty := ty) (a0 := (k, .inl (fun j => (List.replicate k 0).getD j 0))) hx hb (by rw [hat]; exact hts _ hw) hat hK hP hD hS hA (fun c9 => ?_) hn hk (Nat.le_trans (Nat.mul_le_mul_left k hcb) (by omega)) hr1 hr2 hd (fun q c9 H1 hK1 hP1 hD1 hS1 => ?_)
  · rw [vp_cell_i, hd0]
    congr 1
    funext j
    rw [rep_getD]
  · have hc9 : c9 = cA ty := by
      rcases hty with h | h
      · subst h; exact cA_int hK hK1
      · subst h; exact cA_bool hK hK1
    subst hc9
    have hq : (ad0 ++ (x ++ [q])) = (ad0 ++ x) ++ [q] := (List.append_assoc _ _ _).symm
    have e9 : conc cA (ad0 ++ (x ++ [q])) (hp ++ [.inl (ty, List.replicate k 0)]) = conc cA (ad0 ++ x) hp ++ [(q, .inl (cA ty, (k, .inl (fun j => (List.replicate k 0).getD j 0))))] := by
      rw [hq, conc_app hl hk1]
      simp only [List.zipWith_cons_cons, List.zipWith_nil_left, jC, List.length_replicate]
    rw [← e9] at hP1 hD1
    have hg : (ad0 ++ (x ++ [q])).getD hp.length 0 = q := by
      rw [hq, ← hl, List.getD_eq_getElem?_getD, List.getElem?_append_right (Nat.le_refl _), Nat.sub_self]; rfl
    have K := kk p l e s m args below meth c D cA A ad0 (x ++ [q]) H1 locs ls hE0 (by rw [hq, List.length_append, hl, List.length_append]; rfl) hP1 hD1 hS1 (by rw [hq]; exact jL_app hL (by rw [hl]; exact hk2))
    rw [List.map_cons] at K
    have e8 : st.map (cv (ad0 ++ (x ++ [q]))) = st.map (cv (ad0 ++ x)) := by rw [hq]; exact map_cv_app (by rw [hl]; exact hk3)
    rw [e8] at K
    have e7 : cv (ad0 ++ (x ++ [q])) (.ref hp.length) = .ref q := by show Value.ref _ = _; rw [hg]
    rw [e7] at K
    exact K
theorem J_mna {n k : Int32} {n' k' : Nat} (hd : decode M.by pc = .ok (.multianewarray idx 2, 4)) (hcl : Cond.classLink (cnm M.cn) idx "[[I" ∈ tb) (hov : Cond.arrayOver (.array .int) ∈ tb) (hw : Cond.arrayClass .int ∈ tb) (hn : ¬ n < 0) (hk : ¬ k < 0) (hN : n.toNatClampNeg = n') (hK' : k.toNatClampNeg = k') (hb1 : n' ≤ 1000) (hb2 : k' ≤ 1000) (hr1 : cs + (1 + n') ≤ mc) (hr2 : ss + (n' + n' * k') ≤ ms) (hk1 : okH hp = true) (hk2 : okL hp.length lv = true) (hk3 : st.all (okV hp.length) = true)
    (kk : J M d mc ms Q (pc + 4) lv (.ref hp.length :: st) (hp ++ (.inr (.inl ((List.range n').map (fun i => hp.length + 1 + i))) :: List.replicate n' (.inl (.int, List.replicate k' 0)))) (cs + 1 + n') (ss + n' + n' * k')) : J M d mc ms Q pc lv (.int k :: .int n :: st) hp cs ss := by
  intro p l e s m args below meth c D cA A ad0 x H locs ls hE hl hP hD hS hL
  have hE0 := hE
  obtain ⟨hx, hb, hml, hr, hlo, hown, hts, hK, hA, hnm⟩ := hE
  refine va_mna (X := conc cA (ad0 ++ x) hp) (L := []) (f := fun _ => .inr (0, [])) (ty := .int) (cy := cA .int) (z := (k', .inl (fun j => (List.replicate k' 0).getD j 0))) hx hb hown (hts _ hcl) (hts _ hov) (hts _ hw) (hK.2 0 _ rfl).2 hK (by simpa [va_pl] using hP) (by simpa [va_pl] using hD) hS hA hn hk hN hK' (by omega) (by show k' * 4 ≤ _; omega) (by omega) rfl rfl hr1 hr2 (fun c9 => ?_) hd (fun q r c9 H1 hinj hnot hK1 hP1 hD1 hS1 => ?_)
  · rw [vp_cell_i]
    have : (fun j => Value.int ((List.replicate k' (0 : Int32)).getD j 0)) = (fun _ => Value.int 0) := by funext j; rw [rep_getD]
    rw [this, ← arrV_new]; rfl
  · have hc9 : c9 = cA (.array .int) := cA_rows hK hK1
    subst hc9
    have hq : (ad0 ++ (x ++ (q :: (List.range n').map r))) = (ad0 ++ x) ++ (q :: (List.range n').map r) := (List.append_assoc _ _ _).symm
    have hrow : ∀ i, i < n' → ((ad0 ++ x) ++ (q :: (List.range n').map r)).getD (hp.length + 1 + i) 0 = r i := fun i hi => by
      rw [List.getD_eq_getElem?_getD, List.getElem?_append_right (by omega), ← hl]
      have : (ad0 ++ x).length + 1 + i - (ad0 ++ x).length = i + 1 := by omega
      rw [this, List.getElem?_cons_succ, List.getElem?_map, List.getElem?_range hi]; rfl
    have e9 : conc cA (ad0 ++ (x ++ (q :: (List.range n').map r))) (hp ++ (.inr (.inl ((List.range n').map (fun i => hp.length + 1 + i))) :: List.replicate n' (.inl (.int, List.replicate k' 0)))) = (conc cA (ad0 ++ x) hp ++ [(q, .inl (cA (.array .int), n', .inr (.inr (.inr (.inr (fun i => if i < n' then some (r i) else none))))))]) ++ va_pl ([] ++ (List.range n').map r) (vr_up (fun _ => .inr (0, [])) ((List.range n').map r) (.inl (cA .int, (k', .inl (fun j => (List.replicate k' 0).getD j 0))))) := by
      rw [hq, conc_app hl hk1, List.append_assoc (conc cA (ad0 ++ x) hp) [_]]
      congr 1
      rw [List.zipWith_cons_cons]
      show _ :: _ = _ :: _
      congr 1
      · simp only [jC, List.length_map, List.length_range]
        have : (fun j : Nat => (((List.range n').map (fun i => hp.length + 1 + i))[j]?).map (fun r' => ((ad0 ++ x) ++ (q :: (List.range n').map r)).getD r' 0)) = (fun i => if i < n' then some (r i) else none) := by
          funext j
          by_cases hj : j < n'
          · rw [List.getElem?_map, List.getElem?_range hj, if_pos hj]
            simp only [Option.map_some]
            rw [hrow j hj]
          · rw [List.getElem?_eq_none (by simp; omega), if_neg hj]; rfl
        rw [this]
      · show List.zipWith _ ((List.range n').map r) _ = List.map (fun a : Nat => ((a, vr_up (fun _ => (.inr (0, []) : va_E)) ((List.range n').map r) (.inl (cA .int, (k', .inl (fun j => (List.replicate k' 0).getD j 0))) : va_E) a) : Nat × va_E)) ((List.range n').map r)
        apply List.ext_getElem?
        intro j
        rw [List.getElem?_zipWith]
        generalize hF : (fun a : Nat => ((a, vr_up (fun _ => (.inr (0, []) : va_E)) ((List.range n').map r) (.inl (cA .int, (k', .inl (fun j => (List.replicate k' 0).getD j 0))) : va_E) a) : Nat × va_E)) = F
        have h2 : (List.map F ((List.range n').map r))[j]? = (((List.range n').map r)[j]?).map F := List.getElem?_map
        rw [h2]
        by_cases hj : j < n'
        · have h1 : ((List.range n').map r)[j]? = some (r j) := by rw [List.getElem?_map, List.getElem?_range hj]; rfl
          rw [h1, List.getElem?_replicate, if_pos hj]
          simp only [jC, List.length_replicate, Option.map_some]
          rw [← hF]
          simp only
          rw [vr_up_in (List.mem_of_getElem? h1)]
        · have h1 : ((List.range n').map r)[j]? = none := List.getElem?_eq_none (by simp; omega)
          rw [h1]; rfl
    rw [← e9] at hP1 hD1
    have hg : (ad0 ++ (x ++ (q :: (List.range n').map r))).getD hp.length 0 = q := by
      rw [hq, ← hl, List.getD_eq_getElem?_getD, List.getElem?_append_right (Nat.le_refl _), Nat.sub_self]; rfl
    have K := kk p l e s m args below meth c D cA A ad0 (x ++ (q :: (List.range n').map r)) H1 locs ls hE0 (by rw [hq, List.length_append, hl, List.length_append]; simp) hP1 hD1 hS1 (by rw [hq]; exact jL_app hL (by rw [hl]; exact hk2))
    rw [List.map_cons] at K
    have e8 : st.map (cv (ad0 ++ (x ++ (q :: (List.range n').map r)))) = st.map (cv (ad0 ++ x)) := by rw [hq]; exact map_cv_app (by rw [hl]; exact hk3)
    rw [e8] at K
    have e7 : cv (ad0 ++ (x ++ (q :: (List.range n').map r))) (.ref hp.length) = .ref q := by show Value.ref _ = _; rw [hg]
    rw [e7] at K
    exact K
end JM
end
