section
-- ===== PART A: goes FIRST, ahead of the names: the tables' words, and 'selects' of the private methods out of them =====
/-- a private method of a class that the tables say can be made, by its rows of tables_1 -/
def lw_okq (q : MethodName × Nat) : Prop := (q.1.cls ≠ "java/lang/invoke/MethodHandle" ∧ q.1.cls ≠ "java/lang/invoke/VarHandle") ∧ Cond.instantiable q.1.cls q.2 ∈ tables_1 ∧ Cond.privateMethod q.1 ∈ tables_1 ∧ Cond.instanceMethod q.1 ∈ tables_1
theorem lw_p0 : lw_okq (⟨"PromiseTailor", "textOf", "(I)LPromiseTailor$Text;"⟩, 13) := ⟨⟨by decide +kernel, by decide +kernel⟩, List.mem_of_getElem? (i := 14) (by decide +kernel), List.mem_of_getElem? (i := 271) (by decide +kernel), List.mem_of_getElem? (i := 272) (by decide +kernel)⟩
theorem lw_p1 : lw_okq (⟨"PromiseTailor", "takeTexts", "()V"⟩, 13) := ⟨⟨by decide +kernel, by decide +kernel⟩, List.mem_of_getElem? (i := 14) (by decide +kernel), List.mem_of_getElem? (i := 279) (by decide +kernel), List.mem_of_getElem? (i := 280) (by decide +kernel)⟩
theorem lw_p2 : lw_okq (⟨"PromiseTailor", "found", "(I)I"⟩, 13) := ⟨⟨by decide +kernel, by decide +kernel⟩, List.mem_of_getElem? (i := 14) (by decide +kernel), List.mem_of_getElem? (i := 389) (by decide +kernel), List.mem_of_getElem? (i := 390) (by decide +kernel)⟩
theorem lw_p3 : lw_okq (⟨"PromiseTailor", "liveUntil", "(I)V"⟩, 13) := ⟨⟨by decide +kernel, by decide +kernel⟩, List.mem_of_getElem? (i := 14) (by decide +kernel), List.mem_of_getElem? (i := 397) (by decide +kernel), List.mem_of_getElem? (i := 398) (by decide +kernel)⟩
theorem lw_p4 : lw_okq (⟨"PromiseTailor$Course", "enter", "(III)V"⟩, 15) := ⟨⟨by decide +kernel, by decide +kernel⟩, List.mem_of_getElem? (i := 50) (by decide +kernel), List.mem_of_getElem? (i := 406) (by decide +kernel), List.mem_of_getElem? (i := 407) (by decide +kernel)⟩
theorem lw_p5 : lw_okq (⟨"PromiseTailor$Course", "enterAll", "(LPromiseTailor$Told;I)V"⟩, 15) := ⟨⟨by decide +kernel, by decide +kernel⟩, List.mem_of_getElem? (i := 50) (by decide +kernel), List.mem_of_getElem? (i := 411) (by decide +kernel), List.mem_of_getElem? (i := 412) (by decide +kernel)⟩
theorem lw_p6 : lw_okq (⟨"PromiseTailor$Course", "gain", "(I)I"⟩, 15) := ⟨⟨by decide +kernel, by decide +kernel⟩, List.mem_of_getElem? (i := 50) (by decide +kernel), List.mem_of_getElem? (i := 427) (by decide +kernel), List.mem_of_getElem? (i := 428) (by decide +kernel)⟩
theorem lw_p7 : lw_okq (⟨"PromiseTailor$Course", "lengthen", "(II)V"⟩, 15) := ⟨⟨by decide +kernel, by decide +kernel⟩, List.mem_of_getElem? (i := 50) (by decide +kernel), List.mem_of_getElem? (i := 431) (by decide +kernel), List.mem_of_getElem? (i := 432) (by decide +kernel)⟩
theorem lw_p8 : lw_okq (⟨"PromiseTailor$Course", "fulfil", "(I)V"⟩, 15) := ⟨⟨by decide +kernel, by decide +kernel⟩, List.mem_of_getElem? (i := 50) (by decide +kernel), List.mem_of_getElem? (i := 435) (by decide +kernel), List.mem_of_getElem? (i := 436) (by decide +kernel)⟩
theorem lw_p9 : lw_okq (⟨"PromiseTailor$Course", "fail", "(I)V"⟩, 15) := ⟨⟨by decide +kernel, by decide +kernel⟩, List.mem_of_getElem? (i := 50) (by decide +kernel), List.mem_of_getElem? (i := 443) (by decide +kernel), List.mem_of_getElem? (i := 444) (by decide +kernel)⟩
theorem lw_p10 : lw_okq (⟨"PromiseTailor$Course", "shorten", "(II)V"⟩, 15) := ⟨⟨by decide +kernel, by decide +kernel⟩, List.mem_of_getElem? (i := 50) (by decide +kernel), List.mem_of_getElem? (i := 447) (by decide +kernel), List.mem_of_getElem? (i := 448) (by decide +kernel)⟩
theorem lw_p11 : lw_okq (⟨"PromiseTailor", "liesToHush", "()I"⟩, 13) := ⟨⟨by decide +kernel, by decide +kernel⟩, List.mem_of_getElem? (i := 14) (by decide +kernel), List.mem_of_getElem? (i := 519) (by decide +kernel), List.mem_of_getElem? (i := 520) (by decide +kernel)⟩
theorem lw_p12 : lw_okq (⟨"PromiseTailor", "leavesNobodyNaked", "(I)Z"⟩, 13) := ⟨⟨by decide +kernel, by decide +kernel⟩, List.mem_of_getElem? (i := 14) (by decide +kernel), List.mem_of_getElem? (i := 523) (by decide +kernel), List.mem_of_getElem? (i := 524) (by decide +kernel)⟩
theorem lw_p13 : lw_okq (⟨"PromiseTailor$Course", "showsBehind", "(ILPromiseTailor$Told;)Z"⟩, 15) := ⟨⟨by decide +kernel, by decide +kernel⟩, List.mem_of_getElem? (i := 50) (by decide +kernel), List.mem_of_getElem? (i := 549) (by decide +kernel), List.mem_of_getElem? (i := 550) (by decide +kernel)⟩
theorem lw_p14 : lw_okq (⟨"PromiseTailor", "fittingValues", "([III)I"⟩, 13) := ⟨⟨by decide +kernel, by decide +kernel⟩, List.mem_of_getElem? (i := 14) (by decide +kernel), List.mem_of_getElem? (i := 557) (by decide +kernel), List.mem_of_getElem? (i := 558) (by decide +kernel)⟩
theorem lw_p15 : lw_okq (⟨"PromiseTailor", "noteCoatsBySize", "(I)V"⟩, 13) := ⟨⟨by decide +kernel, by decide +kernel⟩, List.mem_of_getElem? (i := 14) (by decide +kernel), List.mem_of_getElem? (i := 565) (by decide +kernel), List.mem_of_getElem? (i := 566) (by decide +kernel)⟩
def lw_privs_1 : List (MethodName × Nat) := [(⟨"PromiseTailor", "textOf", "(I)LPromiseTailor$Text;"⟩, 13), (⟨"PromiseTailor", "takeTexts", "()V"⟩, 13), (⟨"PromiseTailor", "found", "(I)I"⟩, 13), (⟨"PromiseTailor", "liveUntil", "(I)V"⟩, 13), (⟨"PromiseTailor$Course", "enter", "(III)V"⟩, 15), (⟨"PromiseTailor$Course", "enterAll", "(LPromiseTailor$Told;I)V"⟩, 15), (⟨"PromiseTailor$Course", "gain", "(I)I"⟩, 15), (⟨"PromiseTailor$Course", "lengthen", "(II)V"⟩, 15), (⟨"PromiseTailor$Course", "fulfil", "(I)V"⟩, 15), (⟨"PromiseTailor$Course", "fail", "(I)V"⟩, 15), (⟨"PromiseTailor$Course", "shorten", "(II)V"⟩, 15), (⟨"PromiseTailor", "liesToHush", "()I"⟩, 13), (⟨"PromiseTailor", "leavesNobodyNaked", "(I)Z"⟩, 13), (⟨"PromiseTailor$Course", "showsBehind", "(ILPromiseTailor$Told;)Z"⟩, 15), (⟨"PromiseTailor", "fittingValues", "([III)I"⟩, 13), (⟨"PromiseTailor", "noteCoatsBySize", "(I)V"⟩, 13)]
theorem lw_r1 : ∀ q ∈ lw_privs_1, lw_okq q := List.forall_mem_cons.mpr ⟨lw_p0, List.forall_mem_cons.mpr ⟨lw_p1, List.forall_mem_cons.mpr ⟨lw_p2, List.forall_mem_cons.mpr ⟨lw_p3, List.forall_mem_cons.mpr ⟨lw_p4, List.forall_mem_cons.mpr ⟨lw_p5, List.forall_mem_cons.mpr ⟨lw_p6, List.forall_mem_cons.mpr ⟨lw_p7, List.forall_mem_cons.mpr ⟨lw_p8, List.forall_mem_cons.mpr ⟨lw_p9, List.forall_mem_cons.mpr ⟨lw_p10, List.forall_mem_cons.mpr ⟨lw_p11, List.forall_mem_cons.mpr ⟨lw_p12, List.forall_mem_cons.mpr ⟨lw_p13, List.forall_mem_cons.mpr ⟨lw_p14, List.forall_mem_cons.mpr ⟨lw_p15, fun _ h => absurd h List.not_mem_nil⟩⟩⟩⟩⟩⟩⟩⟩⟩⟩⟩⟩⟩⟩⟩⟩
theorem lw_p16 : lw_okq (⟨"PromiseTailor", "mostAlike", "(II)I"⟩, 13) := ⟨⟨by decide +kernel, by decide +kernel⟩, List.mem_of_getElem? (i := 14) (by decide +kernel), List.mem_of_getElem? (i := 569) (by decide +kernel), List.mem_of_getElem? (i := 570) (by decide +kernel)⟩
theorem lw_p17 : lw_okq (⟨"PromiseTailor", "keepingsOf", "(I)I"⟩, 13) := ⟨⟨by decide +kernel, by decide +kernel⟩, List.mem_of_getElem? (i := 14) (by decide +kernel), List.mem_of_getElem? (i := 579) (by decide +kernel), List.mem_of_getElem? (i := 580) (by decide +kernel)⟩
theorem lw_p18 : lw_okq (⟨"PromiseTailor", "drawKeepings", "(II)V"⟩, 13) := ⟨⟨by decide +kernel, by decide +kernel⟩, List.mem_of_getElem? (i := 14) (by decide +kernel), List.mem_of_getElem? (i := 590) (by decide +kernel), List.mem_of_getElem? (i := 591) (by decide +kernel)⟩
theorem lw_p19 : lw_okq (⟨"PromiseTailor", "withPromise", "(JI)J"⟩, 13) := ⟨⟨by decide +kernel, by decide +kernel⟩, List.mem_of_getElem? (i := 14) (by decide +kernel), List.mem_of_getElem? (i := 661) (by decide +kernel), List.mem_of_getElem? (i := 662) (by decide +kernel)⟩
theorem lw_p20 : lw_okq (⟨"PromiseTailor", "withPerson", "(JI)J"⟩, 13) := ⟨⟨by decide +kernel, by decide +kernel⟩, List.mem_of_getElem? (i := 14) (by decide +kernel), List.mem_of_getElem? (i := 668) (by decide +kernel), List.mem_of_getElem? (i := 669) (by decide +kernel)⟩
theorem lw_p21 : lw_okq (⟨"PromiseTailor", "withCoat", "(JII)J"⟩, 13) := ⟨⟨by decide +kernel, by decide +kernel⟩, List.mem_of_getElem? (i := 14) (by decide +kernel), List.mem_of_getElem? (i := 673) (by decide +kernel), List.mem_of_getElem? (i := 674) (by decide +kernel)⟩
theorem lw_p22 : lw_okq (⟨"PromiseTailorModel", "faultOf", "(I)I"⟩, 45) := ⟨⟨by decide +kernel, by decide +kernel⟩, List.mem_of_getElem? (i := 691) (by decide +kernel), List.mem_of_getElem? (i := 856) (by decide +kernel), List.mem_of_getElem? (i := 857) (by decide +kernel)⟩
theorem lw_p23 : lw_okq (⟨"PromiseTailorModel", "readsParts", "(I)I"⟩, 45) := ⟨⟨by decide +kernel, by decide +kernel⟩, List.mem_of_getElem? (i := 691) (by decide +kernel), List.mem_of_getElem? (i := 860) (by decide +kernel), List.mem_of_getElem? (i := 861) (by decide +kernel)⟩
theorem lw_p24 : lw_okq (⟨"PromiseTailorModel", "readsPerson", "(II)I"⟩, 45) := ⟨⟨by decide +kernel, by decide +kernel⟩, List.mem_of_getElem? (i := 691) (by decide +kernel), List.mem_of_getElem? (i := 864) (by decide +kernel), List.mem_of_getElem? (i := 865) (by decide +kernel)⟩
theorem lw_p25 : lw_okq (⟨"PromiseTailorModel", "byteAt", "(II)I"⟩, 45) := ⟨⟨by decide +kernel, by decide +kernel⟩, List.mem_of_getElem? (i := 691) (by decide +kernel), List.mem_of_getElem? (i := 868) (by decide +kernel), List.mem_of_getElem? (i := 869) (by decide +kernel)⟩
theorem lw_p26 : lw_okq (⟨"PromiseTailorModel", "readsPromise", "(II)I"⟩, 45) := ⟨⟨by decide +kernel, by decide +kernel⟩, List.mem_of_getElem? (i := 691) (by decide +kernel), List.mem_of_getElem? (i := 872) (by decide +kernel), List.mem_of_getElem? (i := 873) (by decide +kernel)⟩
theorem lw_p27 : lw_okq (⟨"PromiseTailorModel", "isPerson", "(I)Z"⟩, 45) := ⟨⟨by decide +kernel, by decide +kernel⟩, List.mem_of_getElem? (i := 691) (by decide +kernel), List.mem_of_getElem? (i := 880) (by decide +kernel), List.mem_of_getElem? (i := 881) (by decide +kernel)⟩
theorem lw_p28 : lw_okq (⟨"PromiseTailorModel", "reads", "()V"⟩, 45) := ⟨⟨by decide +kernel, by decide +kernel⟩, List.mem_of_getElem? (i := 691) (by decide +kernel), List.mem_of_getElem? (i := 884) (by decide +kernel), List.mem_of_getElem? (i := 885) (by decide +kernel)⟩
theorem lw_p29 : lw_okq (⟨"PromiseTailorModel", "personOf", "(II)I"⟩, 45) := ⟨⟨by decide +kernel, by decide +kernel⟩, List.mem_of_getElem? (i := 691) (by decide +kernel), List.mem_of_getElem? (i := 888) (by decide +kernel), List.mem_of_getElem? (i := 889) (by decide +kernel)⟩
theorem lw_p30 : lw_okq (⟨"PromiseTailorModel", "isPromise", "(I)Z"⟩, 45) := ⟨⟨by decide +kernel, by decide +kernel⟩, List.mem_of_getElem? (i := 691) (by decide +kernel), List.mem_of_getElem? (i := 896) (by decide +kernel), List.mem_of_getElem? (i := 897) (by decide +kernel)⟩
theorem lw_p31 : lw_okq (⟨"PromiseTailorModel", "promiseOf", "(II)I"⟩, 45) := ⟨⟨by decide +kernel, by decide +kernel⟩, List.mem_of_getElem? (i := 691) (by decide +kernel), List.mem_of_getElem? (i := 900) (by decide +kernel), List.mem_of_getElem? (i := 901) (by decide +kernel)⟩
def lw_privs_2 : List (MethodName × Nat) := [(⟨"PromiseTailor", "mostAlike", "(II)I"⟩, 13), (⟨"PromiseTailor", "keepingsOf", "(I)I"⟩, 13), (⟨"PromiseTailor", "drawKeepings", "(II)V"⟩, 13), (⟨"PromiseTailor", "withPromise", "(JI)J"⟩, 13), (⟨"PromiseTailor", "withPerson", "(JI)J"⟩, 13), (⟨"PromiseTailor", "withCoat", "(JII)J"⟩, 13), (⟨"PromiseTailorModel", "faultOf", "(I)I"⟩, 45), (⟨"PromiseTailorModel", "readsParts", "(I)I"⟩, 45), (⟨"PromiseTailorModel", "readsPerson", "(II)I"⟩, 45), (⟨"PromiseTailorModel", "byteAt", "(II)I"⟩, 45), (⟨"PromiseTailorModel", "readsPromise", "(II)I"⟩, 45), (⟨"PromiseTailorModel", "isPerson", "(I)Z"⟩, 45), (⟨"PromiseTailorModel", "reads", "()V"⟩, 45), (⟨"PromiseTailorModel", "personOf", "(II)I"⟩, 45), (⟨"PromiseTailorModel", "isPromise", "(I)Z"⟩, 45), (⟨"PromiseTailorModel", "promiseOf", "(II)I"⟩, 45)]
theorem lw_r2 : ∀ q ∈ lw_privs_2, lw_okq q := List.forall_mem_cons.mpr ⟨lw_p16, List.forall_mem_cons.mpr ⟨lw_p17, List.forall_mem_cons.mpr ⟨lw_p18, List.forall_mem_cons.mpr ⟨lw_p19, List.forall_mem_cons.mpr ⟨lw_p20, List.forall_mem_cons.mpr ⟨lw_p21, List.forall_mem_cons.mpr ⟨lw_p22, List.forall_mem_cons.mpr ⟨lw_p23, List.forall_mem_cons.mpr ⟨lw_p24, List.forall_mem_cons.mpr ⟨lw_p25, List.forall_mem_cons.mpr ⟨lw_p26, List.forall_mem_cons.mpr ⟨lw_p27, List.forall_mem_cons.mpr ⟨lw_p28, List.forall_mem_cons.mpr ⟨lw_p29, List.forall_mem_cons.mpr ⟨lw_p30, List.forall_mem_cons.mpr ⟨lw_p31, fun _ h => absurd h List.not_mem_nil⟩⟩⟩⟩⟩⟩⟩⟩⟩⟩⟩⟩⟩⟩⟩⟩
theorem lw_p32 : lw_okq (⟨"PromiseTailorModel", "meets", "(I)I"⟩, 45) := ⟨⟨by decide +kernel, by decide +kernel⟩, List.mem_of_getElem? (i := 691) (by decide +kernel), List.mem_of_getElem? (i := 933) (by decide +kernel), List.mem_of_getElem? (i := 934) (by decide +kernel)⟩
theorem lw_p33 : lw_okq (⟨"PromiseTailorModel", "coatOf", "(III)I"⟩, 45) := ⟨⟨by decide +kernel, by decide +kernel⟩, List.mem_of_getElem? (i := 691) (by decide +kernel), List.mem_of_getElem? (i := 942) (by decide +kernel), List.mem_of_getElem? (i := 943) (by decide +kernel)⟩
theorem lw_p34 : lw_okq (⟨"PromiseTailorModel", "runsTold", "()V"⟩, 45) := ⟨⟨by decide +kernel, by decide +kernel⟩, List.mem_of_getElem? (i := 691) (by decide +kernel), List.mem_of_getElem? (i := 946) (by decide +kernel), List.mem_of_getElem? (i := 947) (by decide +kernel)⟩
theorem lw_p35 : lw_okq (⟨"PromiseTailorModel", "asTold", "()V"⟩, 45) := ⟨⟨by decide +kernel, by decide +kernel⟩, List.mem_of_getElem? (i := 691) (by decide +kernel), List.mem_of_getElem? (i := 950) (by decide +kernel), List.mem_of_getElem? (i := 951) (by decide +kernel)⟩
theorem lw_p36 : lw_okq (⟨"PromiseTailorModel", "runs", "()V"⟩, 45) := ⟨⟨by decide +kernel, by decide +kernel⟩, List.mem_of_getElem? (i := 691) (by decide +kernel), List.mem_of_getElem? (i := 954) (by decide +kernel), List.mem_of_getElem? (i := 955) (by decide +kernel)⟩
theorem lw_p37 : lw_okq (⟨"PromiseTailorModel", "goesBy", "(I)V"⟩, 45) := ⟨⟨by decide +kernel, by decide +kernel⟩, List.mem_of_getElem? (i := 691) (by decide +kernel), List.mem_of_getElem? (i := 958) (by decide +kernel), List.mem_of_getElem? (i := 959) (by decide +kernel)⟩
theorem lw_p38 : lw_okq (⟨"PromiseTailorModel", "makes", "(I)V"⟩, 45) := ⟨⟨by decide +kernel, by decide +kernel⟩, List.mem_of_getElem? (i := 691) (by decide +kernel), List.mem_of_getElem? (i := 962) (by decide +kernel), List.mem_of_getElem? (i := 963) (by decide +kernel)⟩
theorem lw_p39 : lw_okq (⟨"PromiseTailorModel", "lengthOf", "(I)I"⟩, 45) := ⟨⟨by decide +kernel, by decide +kernel⟩, List.mem_of_getElem? (i := 691) (by decide +kernel), List.mem_of_getElem? (i := 966) (by decide +kernel), List.mem_of_getElem? (i := 967) (by decide +kernel)⟩
theorem lw_p40 : lw_okq (⟨"PromiseTailorModel", "changes", "(II)V"⟩, 45) := ⟨⟨by decide +kernel, by decide +kernel⟩, List.mem_of_getElem? (i := 691) (by decide +kernel), List.mem_of_getElem? (i := 970) (by decide +kernel), List.mem_of_getElem? (i := 971) (by decide +kernel)⟩
theorem lw_p41 : lw_okq (⟨"PromiseTailorModel", "keepsOn", "(I)V"⟩, 45) := ⟨⟨by decide +kernel, by decide +kernel⟩, List.mem_of_getElem? (i := 691) (by decide +kernel), List.mem_of_getElem? (i := 974) (by decide +kernel), List.mem_of_getElem? (i := 975) (by decide +kernel)⟩
theorem lw_p42 : lw_okq (⟨"PromiseTailorModel", "isKept", "(I)V"⟩, 45) := ⟨⟨by decide +kernel, by decide +kernel⟩, List.mem_of_getElem? (i := 691) (by decide +kernel), List.mem_of_getElem? (i := 981) (by decide +kernel), List.mem_of_getElem? (i := 982) (by decide +kernel)⟩
theorem lw_p43 : lw_okq (⟨"PromiseTailorModel", "breaks", "(I)V"⟩, 45) := ⟨⟨by decide +kernel, by decide +kernel⟩, List.mem_of_getElem? (i := 691) (by decide +kernel), List.mem_of_getElem? (i := 985) (by decide +kernel), List.mem_of_getElem? (i := 986) (by decide +kernel)⟩
theorem lw_p44 : lw_okq (⟨"PromiseTailorModel", "fitsOn", "(II)Z"⟩, 45) := ⟨⟨by decide +kernel, by decide +kernel⟩, List.mem_of_getElem? (i := 691) (by decide +kernel), List.mem_of_getElem? (i := 989) (by decide +kernel), List.mem_of_getElem? (i := 990) (by decide +kernel)⟩
theorem lw_p45 : lw_okq (⟨"PromiseTailorModel", "standsOf", "(II)I"⟩, 45) := ⟨⟨by decide +kernel, by decide +kernel⟩, List.mem_of_getElem? (i := 691) (by decide +kernel), List.mem_of_getElem? (i := 997) (by decide +kernel), List.mem_of_getElem? (i := 998) (by decide +kernel)⟩
theorem lw_p46 : lw_okq (⟨"PromiseTailorModel", "neatOf", "(I)I"⟩, 45) := ⟨⟨by decide +kernel, by decide +kernel⟩, List.mem_of_getElem? (i := 691) (by decide +kernel), List.mem_of_getElem? (i := 1005) (by decide +kernel), List.mem_of_getElem? (i := 1006) (by decide +kernel)⟩
theorem lw_p47 : lw_okq (⟨"PromiseTailorModel", "nakedOf", "(I)I"⟩, 45) := ⟨⟨by decide +kernel, by decide +kernel⟩, List.mem_of_getElem? (i := 691) (by decide +kernel), List.mem_of_getElem? (i := 1013) (by decide +kernel), List.mem_of_getElem? (i := 1014) (by decide +kernel)⟩
def lw_privs_3 : List (MethodName × Nat) := [(⟨"PromiseTailorModel", "meets", "(I)I"⟩, 45), (⟨"PromiseTailorModel", "coatOf", "(III)I"⟩, 45), (⟨"PromiseTailorModel", "runsTold", "()V"⟩, 45), (⟨"PromiseTailorModel", "asTold", "()V"⟩, 45), (⟨"PromiseTailorModel", "runs", "()V"⟩, 45), (⟨"PromiseTailorModel", "goesBy", "(I)V"⟩, 45), (⟨"PromiseTailorModel", "makes", "(I)V"⟩, 45), (⟨"PromiseTailorModel", "lengthOf", "(I)I"⟩, 45), (⟨"PromiseTailorModel", "changes", "(II)V"⟩, 45), (⟨"PromiseTailorModel", "keepsOn", "(I)V"⟩, 45), (⟨"PromiseTailorModel", "isKept", "(I)V"⟩, 45), (⟨"PromiseTailorModel", "breaks", "(I)V"⟩, 45), (⟨"PromiseTailorModel", "fitsOn", "(II)Z"⟩, 45), (⟨"PromiseTailorModel", "standsOf", "(II)I"⟩, 45), (⟨"PromiseTailorModel", "neatOf", "(I)I"⟩, 45), (⟨"PromiseTailorModel", "nakedOf", "(I)I"⟩, 45)]
theorem lw_r3 : ∀ q ∈ lw_privs_3, lw_okq q := List.forall_mem_cons.mpr ⟨lw_p32, List.forall_mem_cons.mpr ⟨lw_p33, List.forall_mem_cons.mpr ⟨lw_p34, List.forall_mem_cons.mpr ⟨lw_p35, List.forall_mem_cons.mpr ⟨lw_p36, List.forall_mem_cons.mpr ⟨lw_p37, List.forall_mem_cons.mpr ⟨lw_p38, List.forall_mem_cons.mpr ⟨lw_p39, List.forall_mem_cons.mpr ⟨lw_p40, List.forall_mem_cons.mpr ⟨lw_p41, List.forall_mem_cons.mpr ⟨lw_p42, List.forall_mem_cons.mpr ⟨lw_p43, List.forall_mem_cons.mpr ⟨lw_p44, List.forall_mem_cons.mpr ⟨lw_p45, List.forall_mem_cons.mpr ⟨lw_p46, List.forall_mem_cons.mpr ⟨lw_p47, fun _ h => absurd h List.not_mem_nil⟩⟩⟩⟩⟩⟩⟩⟩⟩⟩⟩⟩⟩⟩⟩⟩
theorem lw_p48 : lw_okq (⟨"PromiseTailorModel", "nakedNow", "(I)I"⟩, 45) := ⟨⟨by decide +kernel, by decide +kernel⟩, List.mem_of_getElem? (i := 691) (by decide +kernel), List.mem_of_getElem? (i := 1017) (by decide +kernel), List.mem_of_getElem? (i := 1018) (by decide +kernel)⟩
theorem lw_p49 : lw_okq (⟨"PromiseTailorModel", "longestOf", "(I)I"⟩, 45) := ⟨⟨by decide +kernel, by decide +kernel⟩, List.mem_of_getElem? (i := 691) (by decide +kernel), List.mem_of_getElem? (i := 1025) (by decide +kernel), List.mem_of_getElem? (i := 1026) (by decide +kernel)⟩
theorem lw_p50 : lw_okq (⟨"PromiseTailorModel", "splitsOf", "()I"⟩, 45) := ⟨⟨by decide +kernel, by decide +kernel⟩, List.mem_of_getElem? (i := 691) (by decide +kernel), List.mem_of_getElem? (i := 1033) (by decide +kernel), List.mem_of_getElem? (i := 1034) (by decide +kernel)⟩
theorem lw_p51 : lw_okq (⟨"PromiseTailorModel", "tearsAll", "()I"⟩, 45) := ⟨⟨by decide +kernel, by decide +kernel⟩, List.mem_of_getElem? (i := 691) (by decide +kernel), List.mem_of_getElem? (i := 1037) (by decide +kernel), List.mem_of_getElem? (i := 1038) (by decide +kernel)⟩
theorem lw_p52 : lw_okq (⟨"PromiseTailorModel", "bestNow", "()I"⟩, 45) := ⟨⟨by decide +kernel, by decide +kernel⟩, List.mem_of_getElem? (i := 691) (by decide +kernel), List.mem_of_getElem? (i := 1045) (by decide +kernel), List.mem_of_getElem? (i := 1046) (by decide +kernel)⟩
theorem lw_p53 : lw_okq (⟨"PromiseTailorModel", "fitMany", "(I)I"⟩, 45) := ⟨⟨by decide +kernel, by decide +kernel⟩, List.mem_of_getElem? (i := 691) (by decide +kernel), List.mem_of_getElem? (i := 1049) (by decide +kernel), List.mem_of_getElem? (i := 1050) (by decide +kernel)⟩
theorem lw_p54 : lw_okq (⟨"PromiseTailorModel", "swearOf", "(II)I"⟩, 45) := ⟨⟨by decide +kernel, by decide +kernel⟩, List.mem_of_getElem? (i := 691) (by decide +kernel), List.mem_of_getElem? (i := 1057) (by decide +kernel), List.mem_of_getElem? (i := 1058) (by decide +kernel)⟩
theorem lw_p55 : lw_okq (⟨"PromiseTailorModel", "keepBest", "(II)I"⟩, 45) := ⟨⟨by decide +kernel, by decide +kernel⟩, List.mem_of_getElem? (i := 691) (by decide +kernel), List.mem_of_getElem? (i := 1065) (by decide +kernel), List.mem_of_getElem? (i := 1066) (by decide +kernel)⟩
theorem lw_p56 : lw_okq (⟨"PromiseTailorModel", "dueOf", "(II)I"⟩, 45) := ⟨⟨by decide +kernel, by decide +kernel⟩, List.mem_of_getElem? (i := 691) (by decide +kernel), List.mem_of_getElem? (i := 1073) (by decide +kernel), List.mem_of_getElem? (i := 1074) (by decide +kernel)⟩
theorem lw_p57 : lw_okq (⟨"PromiseTailorModel", "hushBy", "()I"⟩, 45) := ⟨⟨by decide +kernel, by decide +kernel⟩, List.mem_of_getElem? (i := 691) (by decide +kernel), List.mem_of_getElem? (i := 1081) (by decide +kernel), List.mem_of_getElem? (i := 1082) (by decide +kernel)⟩
theorem lw_p58 : lw_okq (⟨"PromiseTailorModel", "isHushed", "(I)Z"⟩, 45) := ⟨⟨by decide +kernel, by decide +kernel⟩, List.mem_of_getElem? (i := 691) (by decide +kernel), List.mem_of_getElem? (i := 1085) (by decide +kernel), List.mem_of_getElem? (i := 1086) (by decide +kernel)⟩
theorem lw_p59 : lw_okq (⟨"PromiseTailorModel", "ofRow", "(II)I"⟩, 45) := ⟨⟨by decide +kernel, by decide +kernel⟩, List.mem_of_getElem? (i := 691) (by decide +kernel), List.mem_of_getElem? (i := 1089) (by decide +kernel), List.mem_of_getElem? (i := 1090) (by decide +kernel)⟩
theorem lw_p60 : lw_okq (⟨"PromiseTailorModel", "neverNow", "()I"⟩, 45) := ⟨⟨by decide +kernel, by decide +kernel⟩, List.mem_of_getElem? (i := 691) (by decide +kernel), List.mem_of_getElem? (i := 1105) (by decide +kernel), List.mem_of_getElem? (i := 1106) (by decide +kernel)⟩
theorem lw_p61 : lw_okq (⟨"PromiseTailorModel", "isSeen", "()Z"⟩, 45) := ⟨⟨by decide +kernel, by decide +kernel⟩, List.mem_of_getElem? (i := 691) (by decide +kernel), List.mem_of_getElem? (i := 1109) (by decide +kernel), List.mem_of_getElem? (i := 1110) (by decide +kernel)⟩
theorem lw_p62 : lw_okq (⟨"PromiseTailorModel", "sizesBy", "(I)I"⟩, 45) := ⟨⟨by decide +kernel, by decide +kernel⟩, List.mem_of_getElem? (i := 691) (by decide +kernel), List.mem_of_getElem? (i := 1117) (by decide +kernel), List.mem_of_getElem? (i := 1118) (by decide +kernel)⟩
theorem lw_p63 : lw_okq (⟨"PromiseTailorModel", "sortsBy", "(I)I"⟩, 45) := ⟨⟨by decide +kernel, by decide +kernel⟩, List.mem_of_getElem? (i := 691) (by decide +kernel), List.mem_of_getElem? (i := 1121) (by decide +kernel), List.mem_of_getElem? (i := 1122) (by decide +kernel)⟩
def lw_privs_4 : List (MethodName × Nat) := [(⟨"PromiseTailorModel", "nakedNow", "(I)I"⟩, 45), (⟨"PromiseTailorModel", "longestOf", "(I)I"⟩, 45), (⟨"PromiseTailorModel", "splitsOf", "()I"⟩, 45), (⟨"PromiseTailorModel", "tearsAll", "()I"⟩, 45), (⟨"PromiseTailorModel", "bestNow", "()I"⟩, 45), (⟨"PromiseTailorModel", "fitMany", "(I)I"⟩, 45), (⟨"PromiseTailorModel", "swearOf", "(II)I"⟩, 45), (⟨"PromiseTailorModel", "keepBest", "(II)I"⟩, 45), (⟨"PromiseTailorModel", "dueOf", "(II)I"⟩, 45), (⟨"PromiseTailorModel", "hushBy", "()I"⟩, 45), (⟨"PromiseTailorModel", "isHushed", "(I)Z"⟩, 45), (⟨"PromiseTailorModel", "ofRow", "(II)I"⟩, 45), (⟨"PromiseTailorModel", "neverNow", "()I"⟩, 45), (⟨"PromiseTailorModel", "isSeen", "()Z"⟩, 45), (⟨"PromiseTailorModel", "sizesBy", "(I)I"⟩, 45), (⟨"PromiseTailorModel", "sortsBy", "(I)I"⟩, 45)]
theorem lw_r4 : ∀ q ∈ lw_privs_4, lw_okq q := List.forall_mem_cons.mpr ⟨lw_p48, List.forall_mem_cons.mpr ⟨lw_p49, List.forall_mem_cons.mpr ⟨lw_p50, List.forall_mem_cons.mpr ⟨lw_p51, List.forall_mem_cons.mpr ⟨lw_p52, List.forall_mem_cons.mpr ⟨lw_p53, List.forall_mem_cons.mpr ⟨lw_p54, List.forall_mem_cons.mpr ⟨lw_p55, List.forall_mem_cons.mpr ⟨lw_p56, List.forall_mem_cons.mpr ⟨lw_p57, List.forall_mem_cons.mpr ⟨lw_p58, List.forall_mem_cons.mpr ⟨lw_p59, List.forall_mem_cons.mpr ⟨lw_p60, List.forall_mem_cons.mpr ⟨lw_p61, List.forall_mem_cons.mpr ⟨lw_p62, List.forall_mem_cons.mpr ⟨lw_p63, fun _ h => absurd h List.not_mem_nil⟩⟩⟩⟩⟩⟩⟩⟩⟩⟩⟩⟩⟩⟩⟩⟩
theorem lw_p64 : lw_okq (⟨"PromiseTailorModel", "askOf", "(I)I"⟩, 45) := ⟨⟨by decide +kernel, by decide +kernel⟩, List.mem_of_getElem? (i := 691) (by decide +kernel), List.mem_of_getElem? (i := 1129) (by decide +kernel), List.mem_of_getElem? (i := 1130) (by decide +kernel)⟩
theorem lw_p65 : lw_okq (⟨"PromiseTailorModel", "wordOf", "(IIII)J"⟩, 45) := ⟨⟨by decide +kernel, by decide +kernel⟩, List.mem_of_getElem? (i := 691) (by decide +kernel), List.mem_of_getElem? (i := 1137) (by decide +kernel), List.mem_of_getElem? (i := 1138) (by decide +kernel)⟩
theorem lw_p66 : lw_okq (⟨"PromiseTailorModel", "yearOf", "(III)I"⟩, 45) := ⟨⟨by decide +kernel, by decide +kernel⟩, List.mem_of_getElem? (i := 691) (by decide +kernel), List.mem_of_getElem? (i := 1152) (by decide +kernel), List.mem_of_getElem? (i := 1153) (by decide +kernel)⟩
theorem lw_p67 : lw_okq (⟨"PromiseTailorModel", "lacks", "(III)I"⟩, 45) := ⟨⟨by decide +kernel, by decide +kernel⟩, List.mem_of_getElem? (i := 691) (by decide +kernel), List.mem_of_getElem? (i := 1169) (by decide +kernel), List.mem_of_getElem? (i := 1170) (by decide +kernel)⟩
theorem lw_p68 : lw_okq (⟨"PromiseTailorModel", "lays", "(III)V"⟩, 45) := ⟨⟨by decide +kernel, by decide +kernel⟩, List.mem_of_getElem? (i := 691) (by decide +kernel), List.mem_of_getElem? (i := 1173) (by decide +kernel), List.mem_of_getElem? (i := 1174) (by decide +kernel)⟩
theorem lw_p69 : lw_okq (⟨"PromiseTailorModel", "sumOf", "(I)I"⟩, 45) := ⟨⟨by decide +kernel, by decide +kernel⟩, List.mem_of_getElem? (i := 691) (by decide +kernel), List.mem_of_getElem? (i := 1194) (by decide +kernel), List.mem_of_getElem? (i := 1195) (by decide +kernel)⟩
theorem lw_p70 : lw_okq (⟨"PromiseTailorModel", "promiseDigest", "(JI)J"⟩, 45) := ⟨⟨by decide +kernel, by decide +kernel⟩, List.mem_of_getElem? (i := 691) (by decide +kernel), List.mem_of_getElem? (i := 1205) (by decide +kernel), List.mem_of_getElem? (i := 1206) (by decide +kernel)⟩
theorem lw_p71 : lw_okq (⟨"PromiseTailorModel", "personDigest", "(JI)J"⟩, 45) := ⟨⟨by decide +kernel, by decide +kernel⟩, List.mem_of_getElem? (i := 691) (by decide +kernel), List.mem_of_getElem? (i := 1209) (by decide +kernel), List.mem_of_getElem? (i := 1210) (by decide +kernel)⟩
theorem lw_p72 : lw_okq (⟨"PromiseTailorModel", "coatDigest", "(JII)J"⟩, 45) := ⟨⟨by decide +kernel, by decide +kernel⟩, List.mem_of_getElem? (i := 691) (by decide +kernel), List.mem_of_getElem? (i := 1213) (by decide +kernel), List.mem_of_getElem? (i := 1214) (by decide +kernel)⟩
def lw_privs_5 : List (MethodName × Nat) := [(⟨"PromiseTailorModel", "askOf", "(I)I"⟩, 45), (⟨"PromiseTailorModel", "wordOf", "(IIII)J"⟩, 45), (⟨"PromiseTailorModel", "yearOf", "(III)I"⟩, 45), (⟨"PromiseTailorModel", "lacks", "(III)I"⟩, 45), (⟨"PromiseTailorModel", "lays", "(III)V"⟩, 45), (⟨"PromiseTailorModel", "sumOf", "(I)I"⟩, 45), (⟨"PromiseTailorModel", "promiseDigest", "(JI)J"⟩, 45), (⟨"PromiseTailorModel", "personDigest", "(JI)J"⟩, 45), (⟨"PromiseTailorModel", "coatDigest", "(JII)J"⟩, 45)]
theorem lw_r5 : ∀ q ∈ lw_privs_5, lw_okq q := List.forall_mem_cons.mpr ⟨lw_p64, List.forall_mem_cons.mpr ⟨lw_p65, List.forall_mem_cons.mpr ⟨lw_p66, List.forall_mem_cons.mpr ⟨lw_p67, List.forall_mem_cons.mpr ⟨lw_p68, List.forall_mem_cons.mpr ⟨lw_p69, List.forall_mem_cons.mpr ⟨lw_p70, List.forall_mem_cons.mpr ⟨lw_p71, List.forall_mem_cons.mpr ⟨lw_p72, fun _ h => absurd h List.not_mem_nil⟩⟩⟩⟩⟩⟩⟩⟩⟩
def lw_privs : List (MethodName × Nat) := lw_privs_1 ++ (lw_privs_2 ++ (lw_privs_3 ++ (lw_privs_4 ++ (lw_privs_5))))
def lw_tbl : List Cond := k2_sels lw_privs ++ tables_1
theorem lw_privs_ok : ∀ q ∈ lw_privs, lw_okq q := by
  show ∀ q ∈ lw_privs_1 ++ (lw_privs_2 ++ (lw_privs_3 ++ (lw_privs_4 ++ (lw_privs_5)))), lw_okq q
  exact List.forall_mem_append.mpr ⟨lw_r1, List.forall_mem_append.mpr ⟨lw_r2, List.forall_mem_append.mpr ⟨lw_r3, List.forall_mem_append.mpr ⟨lw_r4, lw_r5⟩⟩⟩⟩
end
section
/-! ===== BEGIN new T[n][m]: the outer array a place, the inner ones among the pooled ===== -/
/-- f, but v at every address of l -/
def vr_up {α : Type} (f : Nat → α) (l : List Nat) (v : α) : Nat → α := fun a => if a ∈ l then v else f a
theorem vr_up_in {α : Type} {f : Nat → α} {l : List Nat} {v : α} {a : Nat} (h : a ∈ l) : vr_up f l v a = v := if_pos h
theorem vr_up_ne {α : Type} {f : Nat → α} {l : List Nat} {v : α} {a : Nat} (h : a ∉ l) : vr_up f l v a = f a := if_neg h
theorem vr_rows {L l : List Nat} {f : Nat → va_E} {e : va_E} (h : ∀ a, a ∈ l → a ∉ L) : va_pl L f ++ l.map (fun a => (a, e)) = va_pl (L ++ l) (vr_up f l e) := by
  unfold va_pl
  rw [List.map_append]
  congr 1
  · apply List.map_congr_left
    intro a ha
    rw [vr_up_ne (fun q => h a q ha)]
  · apply List.map_congr_left
    intro a ha
    rw [vr_up_in ha]
theorem vr_lay {X rows : va_W} {x : Nat × va_E} {pl : va_W} {D : va_G} {cl : List vw_C} {H : Heap} (hP : va_P D cl (((X ++ pl) ++ [x]) ++ rows) H) : va_P D cl ((X ++ [x]) ++ (pl ++ rows)) H := by
  rw [List.append_assoc (X ++ pl)] at hP
  have h := va_P.swap hP
  rw [← List.append_assoc X] at h
  have h2 := va_P.swap h
  rw [List.append_assoc (X ++ [x])] at h2
  exact h2
theorem vr_layD {X rows : va_W} {x : Nat × va_E} {pl : va_W} {A : Nat → Prop} (hD : va_D A (((X ++ pl) ++ [x]) ++ rows)) : va_D A ((X ++ [x]) ++ (pl ++ rows)) := by
  rw [List.append_assoc (X ++ pl)] at hD
  have h := va_D.swap hD
  rw [← List.append_assoc X] at h
  have h2 := va_D.swap h
  rw [List.append_assoc (X ++ [x])] at h2
  exact h2
theorem vr_outer (c : ClassId) (N h0 : Nat) : ∀ i : Nat, Jvm.Free.Multi.outerC c N h0 i = arrV c N (fun j => va_rf (if j < i then some (h0 + 1 + j) else none))
  | 0 => by
    show ({ cls := c, slots := Array.replicate N .null, vm := .none } : Cell) = _
    rw [arrV_new]
    refine congrArg (arrV c N) (funext fun j => ?_)
    simp [va_rf]
  | i + 1 => by
    show (Jvm.Free.Multi.outerC c N h0 i).setSlot i (.ref (h0 + 1 + i)) = _
    rw [vr_outer c N h0 i, arrV_store]
    refine congrArg (arrV c N) (funext fun j => ?_)
    by_cases e : j = i
    · subst e
      simp [updV, va_rf]
    · by_cases h : j < i
      · simp [updV, e, h, Nat.lt_succ_of_lt h]
      · simp [updV, e, h, show ¬ j < i + 1 by omega]
section VGM
variable {p : Program} {l : Launch} {e : Env} {R : Room} {s : State} {m : MethodId} {args : Array Value} {below : List Frame} {meth : Method} {c : Code} {H : Heap} {locs : List Loc} {cells slots : Nat} {Q : State → Prop}
variable {cc : ByteArray} {pc : Nat} {ls : Array Slot} {rest : List Value} {D : va_G} {cl : List vw_C} {A : Nat → Prop} {a : Nat} {tys : List (ClassId × FieldType)} {ws : va_W} {H0 : Heap}
theorem va_mna {X : va_W} {L : List Nat} {f : Nat → va_E} {cc : ByteArray} (hexec : p.tables.exec = Jvm.exec) (hb : c.code = cc) {own : String} {index : Nat} {ty : FieldType} {cy : ClassId} (hown : s.vm.findClass own = some m.cls) (hclink : (Cond.classLink own index ("[" ++ (FieldType.array ty).toString)).before args s = true) (hover : (Cond.arrayOver (.array ty)).before args s = true) (harr : (Cond.arrayClass ty).before args s = true) (hcy : s.vm.findClass (FieldType.array ty).toString = some cy)
    (hK : va_K D cl tys s) (hP : va_P D cl (X ++ va_pl L f) H) (hD : va_D A (X ++ va_pl L f)) (hS : va_S A H0 H locs) (hA : ∀ q, H0.size ≤ q → A q) {n k : Int32} {N' K' : Nat} {z : vp_A} (hn : ¬ n < 0) (hk : ¬ k < 0) (hN : n.toNatClampNeg = N') (hM : k.toNatClampNeg = K')
    (hb1 : N' * 4 ≤ 536870912) (hb2 : K' * componentBytes ty ≤ 536870912) (hb3 : K' ≤ 536870912) (hdf : fits ty (defaultValue ty) = true) (hdd : (defaultValue ty).isDefault = true) (hcells : cells + (1 + N') ≤ R.cells) (hslots : slots + (N' + N' * K') ≤ R.slots) (hz : ∀ c : ClassId, Jvm.Free.Multi.innerC c K' (defaultValue ty) = vp_cell c z) (hdg : decode cc pc = .ok (.multianewarray index 2, 4))
    (kk : ∀ (q : Nat) (r : Nat → Nat) (cA : ClassId) (H1 : Heap), (∀ i j : Nat, i < N' → j < N' → r i = r j → i = j) → (∀ i : Nat, i < N' → r i ∉ L) → va_K D cl (tys ++ [(cA, .array ty)]) s →
      va_P D cl ((X ++ [(q, .inl (cA, N', .inr (.inr (.inr (.inr (fun i => if i < N' then some (r i) else none))))))]) ++ va_pl (L ++ (List.range N').map r) (vr_up f ((List.range N').map r) (.inl (cy, z)))) H1 → va_D A ((X ++ [(q, .inl (cA, N', .inr (.inr (.inr (.inr (fun i => if i < N' then some (r i) else none))))))]) ++ va_pl (L ++ (List.range N').map r) (vr_up f ((List.range N').map r) (.inl (cy, z)))) → va_S A H0 H1 locs →
      W p l e R s m args below meth c H1 locs (cells + 1 + N') (slots + N' + N' * K') Q (F0 m (pc + 4) ls (.ref q :: rest))) : W p l e R s m args below meth c H locs cells slots Q (F0 m pc ls (.int k :: .int n :: rest)) := by
  subst hN
  subst hM
  intro T hT Xs
  obtain ⟨vm₁, cA, comp, -, fA, fC, hO, -, X', step⟩ := Xs.multianewarray2F hexec hown hclink hover harr (g := F0 m pc ls (.int k :: .int n :: rest)) rfl (by rw [hb]; exact hdg) rfl hn hk hb1 hb2 hb3 hdf hdd hcells hslots
  have ec : some cy = some comp := hcy.symm.trans fC
  cases ec
  generalize hF : Jvm.Free.Multi.fill (T.setVm vm₁) cA cy n.toNatClampNeg k.toNatClampNeg (defaultValue ty) n.toNatClampNeg = F at X' step
  have hTh : (T.setVm vm₁).heap = H := hT
  obtain ⟨f1, f2, -, -⟩ := Jvm.Free.Multi.fill_facts (T.setVm vm₁) cA cy n.toNatClampNeg k.toNatClampNeg (defaultValue ty) n.toNatClampNeg
  rw [hF, hTh] at f1 f2
  have hold : ∀ x : Nat, x < H.size → F.heap[x]? = H[x]? := fun x hx => by
    have := Jvm.Free.Multi.fill_old (T.setVm vm₁) cA cy n.toNatClampNeg k.toNatClampNeg (defaultValue ty) (a := x) (by rw [hTh]; exact hx) n.toNatClampNeg
    rw [hF, hTh] at this
    exact this
  have hrow : ∀ j : Nat, j < n.toNatClampNeg → F.heap[H.size + 1 + j]? = some (vp_cell cy z) := fun j hj => by
    have := Jvm.Free.Multi.fill_inner (T.setVm vm₁) cA cy n.toNatClampNeg k.toNatClampNeg (defaultValue ty) n.toNatClampNeg j hj
    rw [hF, hTh, hz] at this
    exact this
  have hout : Jvm.Free.Multi.outerC cA n.toNatClampNeg H.size n.toNatClampNeg = vp_cell cA (n.toNatClampNeg, .inr (.inr (.inr (.inr (fun i => if i < n.toNatClampNeg then some (H.size + 1 + i) else none))))) := by
    rw [vp_cell_q]
    exact vr_outer cA n.toNatClampNeg H.size n.toNatClampNeg
  rw [hout] at f2
  have hlt : ∀ a, a ∈ L → a < H.size := fun a ha => by
    obtain ⟨k9, hk9⟩ := va_pl_get (X := X) (f := f) ha
    exact (hP k9 _ hk9).lt
  have hnl : ∀ i : Nat, i < n.toNatClampNeg → H.size + 1 + i ∉ L := fun i _ h => by
    have := hlt _ h
    omega
  have hnm : ∀ a, a ∈ (List.range n.toNatClampNeg).map (fun i => H.size + 1 + i) → a ∉ L := fun a ha h => by
    obtain ⟨i, -, rfl⟩ := List.mem_map.mp ha
    have := hlt _ h
    omega
  have hP0 : va_P D cl (X ++ va_pl L f) F.heap := hP.kept (fun k9 x hx => hold x.1 ((hP k9 x hx).lt))
  have hP1 : va_P D cl ((X ++ va_pl L f) ++ [(H.size, .inl (cA, n.toNatClampNeg, .inr (.inr (.inr (.inr (fun i => if i < n.toNatClampNeg then some (H.size + 1 + i) else none))))))]) F.heap := hP0.app (fun k9 x hx => by
    have h0 : k9 < 1 := (List.getElem?_eq_some_iff.mp hx).1
    rw [show k9 = 0 by omega] at hx
    cases hx
    exact f2)
  have hP2 : va_P D cl (((X ++ va_pl L f) ++ [(H.size, .inl (cA, n.toNatClampNeg, .inr (.inr (.inr (.inr (fun i => if i < n.toNatClampNeg then some (H.size + 1 + i) else none))))))]) ++ ((List.range n.toNatClampNeg).map (fun i => H.size + 1 + i)).map (fun a => (a, .inl (cy, z)))) F.heap := hP1.app (fun k9 x hx => by
    obtain ⟨a, ha, rfl⟩ := List.mem_map.mp (List.mem_of_getElem? hx)
    obtain ⟨i, hi, rfl⟩ := List.mem_map.mp ha
    exact hrow i (List.mem_range.mp hi))
  have hD2 : va_D A (((X ++ va_pl L f) ++ [(H.size, .inl (cA, n.toNatClampNeg, .inr (.inr (.inr (.inr (fun i => if i < n.toNatClampNeg then some (H.size + 1 + i) else none))))))]) ++ ((List.range n.toNatClampNeg).map (fun i => H.size + 1 + i)).map (fun a => (a, .inl (cy, z)))) := by
    have hD1 := hD.push (e := .inl (cA, n.toNatClampNeg, .inr (.inr (.inr (.inr (fun i => if i < n.toNatClampNeg then some (H.size + 1 + i) else none)))))) hP rfl (hA _ hS.1)
    generalize hW1 : (X ++ va_pl L f) ++ [(H.size, .inl (cA, n.toNatClampNeg, .inr (.inr (.inr (.inr (fun i => if i < n.toNatClampNeg then some (H.size + 1 + i) else none))))))] = W1 at hD1 hP1 ⊢
    have hle : ∀ (k9 : Nat) (x : Nat × va_E), W1[k9]? = some x → x.1 ≤ H.size := fun k9 x hx => by
      rw [← hW1] at hx
      by_cases hl : k9 < (X ++ va_pl L f).length
      · rw [List.getElem?_append_left hl] at hx
        exact Nat.le_of_lt ((hP k9 x hx).lt)
      · rw [List.getElem?_append_right (by omega)] at hx
        have h0 : k9 - (X ++ va_pl L f).length < 1 := (List.getElem?_eq_some_iff.mp hx).1
        rw [show k9 - (X ++ va_pl L f).length = 0 by omega] at hx
        cases hx
        exact Nat.le_refl _
    have hr : ∀ (k9 : Nat) (x : Nat × va_E), (((List.range n.toNatClampNeg).map (fun i => H.size + 1 + i)).map (fun a => ((a, .inl (cy, z)) : Nat × va_E)))[k9]? = some x → x.1 = H.size + 1 + k9 := fun k9 x hx => by
      rw [List.getElem?_map, List.getElem?_map] at hx
      by_cases h9 : k9 < n.toNatClampNeg
      · rw [List.getElem?_range h9] at hx
        cases hx
        rfl
      · have hn0 : (List.range n.toNatClampNeg)[k9]? = none := List.getElem?_eq_none (by rw [List.length_range]; omega)
        rw [hn0] at hx
        cases hx
    refine ⟨fun i j x y hi hj hxy => ?_, fun k9 x hx => ?_⟩
    · by_cases h1 : i < W1.length <;> by_cases h2 : j < W1.length
      · rw [List.getElem?_append_left h1] at hi
        rw [List.getElem?_append_left h2] at hj
        exact hD1.1 i j x y hi hj hxy
      · rw [List.getElem?_append_left h1] at hi
        rw [List.getElem?_append_right (by omega)] at hj
        have := hle _ _ hi
        have := hr _ _ hj
        omega
      · rw [List.getElem?_append_right (by omega)] at hi
        rw [List.getElem?_append_left h2] at hj
        have := hle _ _ hj
        have := hr _ _ hi
        omega
      · rw [List.getElem?_append_right (by omega)] at hi hj
        have := hr _ _ hi
        have := hr _ _ hj
        omega
    · by_cases h1 : k9 < W1.length
      · rw [List.getElem?_append_left h1] at hx
        exact hD1.2 k9 x hx
      · rw [List.getElem?_append_right (by omega)] at hx
        have := hr _ _ hx
        exact hA _ (by have := hS.1; omega)
  have hAr : ArrOfT s cA (.array ty) := fun N9 z9 => by
    obtain ⟨-, k9, hk9, cm9, hkk9⟩ := (hO 0 0 0).1
    exact ⟨(fun q hq => by cases hq), k9, hk9, cm9, hkk9⟩
  have hK2 : va_K D cl (tys ++ [(cA, .array ty)]) s := ⟨hK.1, fun k9 x hx => by
    by_cases hl : k9 < tys.length
    · rw [List.getElem?_append_left hl] at hx
      exact hK.2 k9 x hx
    · rw [List.getElem?_append_right (by omega)] at hx
      have h0 : k9 - tys.length < 1 := (List.getElem?_eq_some_iff.mp hx).1
      rw [show k9 - tys.length = 0 by omega] at hx
      cases hx
      exact ⟨hAr, fA⟩⟩
  obtain ⟨t, a1, b1⟩ := kk H.size (fun i => H.size + 1 + i) cA F.heap (fun i j _ _ h => by have h9 : H.size + 1 + i = H.size + 1 + j := h; omega) hnl hK2 (by rw [← vr_rows hnm]; exact vr_lay hP2) (by rw [← vr_rows hnm]; exact vr_layD hD2) ⟨by rw [f1]; have := hS.1; omega, fun x h1 h2 => (hold x (Nat.lt_of_lt_of_le h1 hS.1)).trans (hS.2.1 x h1 h2), hS.2.2⟩ F rfl X'
  refine ⟨t, step t ?_, b1⟩
  have e : T.heap.size = H.size := by rw [hT]
  rw [e]
  exact a1
end VGM
/-! ===== END ===== -/
def RX0 : String := "PromiseTailor$Course"
def TX0 : u_T := fun k => match k with
  | 0 => ("PromiseTailor$Course", "folk", "LPromiseTailor$Folk;", true)
  | 1 => ("PromiseTailor$Course", "vows", "LPromiseTailor$Vows;", true)
  | 2 => ("PromiseTailor$Course", "keepings", "LPromiseTailor$Told;", true)
  | 3 => ("PromiseTailor$Course", "lies", "LPromiseTailor$Told;", true)
  | 4 => ("PromiseTailor$Course", "lettings", "LPromiseTailor$Told;", true)
  | 5 => ("PromiseTailor$Course", "keys", "[I", true)
  | 6 => ("PromiseTailor$Course", "subjects", "[I", true)
  | 7 => ("PromiseTailor$Course", "lengths", "[I", true)
  | 8 => ("PromiseTailor$Course", "rips", "[I", true)
  | 9 => ("PromiseTailor$Course", "standing", "[I", true)
  | 10 => ("PromiseTailor$Course", "acts", "I", false)
  | 11 => ("PromiseTailor$Course", "next", "I", false)
  | 12 => ("PromiseTailor$Course", "unkept", "I", false)
  | 13 => ("PromiseTailor$Course", "hushed", "I", false)
  | _ => ("PromiseTailor$Course", "chosen", "LPromiseTailor$Told;", false)
def tyX0 : Nat → FieldType := fun k => match k with
  | 0 => .object "PromiseTailor$Folk"
  | 1 => .object "PromiseTailor$Vows"
  | 2 => .object "PromiseTailor$Told"
  | 3 => .object "PromiseTailor$Told"
  | 4 => .object "PromiseTailor$Told"
  | 5 => .array .int
  | 6 => .array .int
  | 7 => .array .int
  | 8 => .array .int
  | 9 => .array .int
  | 10 => .int
  | 11 => .int
  | 12 => .int
  | 13 => .int
  | _ => .object "PromiseTailor$Told"
theorem nmX0 : ∀ a, a < 15 → ∀ b, b < 15 → a ≠ b → (TX0 a).2.1 ≠ (TX0 b).2.1 := by decide +kernel
theorem tyX0_ok : ∀ k, k < 15 → parseFieldDescriptor (TX0 k).2.2.1 = some (tyX0 k) := by decide +kernel
abbrev cX0_init : ByteArray := prog_2_method_1_code
def yX0_init : MethodName := ⟨RX0, "<init>", "()V"⟩
abbrev cX0_arrange : ByteArray := prog_2_method_2_code
def yX0_arrange : MethodName := ⟨RX0, "arrange", "(LPromiseTailor$Told;)V"⟩
abbrev cX0_enterAll : ByteArray := prog_2_method_3_code
def yX0_enterAll : MethodName := ⟨RX0, "enterAll", "(LPromiseTailor$Told;I)V"⟩
abbrev cX0_enter : ByteArray := prog_2_method_4_code
def yX0_enter : MethodName := ⟨RX0, "enter", "(III)V"⟩
abbrev cX0_begin : ByteArray := prog_2_method_5_code
def yX0_begin : MethodName := ⟨RX0, "begin", "()V"⟩
abbrev cX0_advance : ByteArray := prog_2_method_6_code
def yX0_advance : MethodName := ⟨RX0, "advance", "(I)V"⟩
abbrev cX0_gain : ByteArray := prog_2_method_7_code
def yX0_gain : MethodName := ⟨RX0, "gain", "(I)I"⟩
abbrev cX0_fulfil : ByteArray := prog_2_method_8_code
def yX0_fulfil : MethodName := ⟨RX0, "fulfil", "(I)V"⟩
abbrev cX0_fail : ByteArray := prog_2_method_9_code
def yX0_fail : MethodName := ⟨RX0, "fail", "(I)V"⟩
abbrev cX0_lengthen : ByteArray := prog_2_method_10_code
def yX0_lengthen : MethodName := ⟨RX0, "lengthen", "(II)V"⟩
abbrev cX0_shorten : ByteArray := prog_2_method_11_code
def yX0_shorten : MethodName := ⟨RX0, "shorten", "(II)V"⟩
abbrev cX0_fits : ByteArray := prog_2_method_12_code
def yX0_fits : MethodName := ⟨RX0, "fits", "(I)Z"⟩
abbrev cX0_fittingBits : ByteArray := prog_2_method_13_code
def yX0_fittingBits : MethodName := ⟨RX0, "fittingBits", "()I"⟩
abbrev cX0_nakedBits : ByteArray := prog_2_method_14_code
def yX0_nakedBits : MethodName := ⟨RX0, "nakedBits", "()I"⟩
abbrev cX0_allRips : ByteArray := prog_2_method_15_code
def yX0_allRips : MethodName := ⟨RX0, "allRips", "()I"⟩
abbrev cX0_showsAll : ByteArray := prog_2_method_16_code
def yX0_showsAll : MethodName := ⟨RX0, "showsAll", "(LPromiseTailor$Told;)Z"⟩
abbrev cX0_showsBehind : ByteArray := prog_2_method_17_code
def yX0_showsBehind : MethodName := ⟨RX0, "showsBehind", "(ILPromiseTailor$Told;)Z"⟩
def RX1 : String := "PromiseTailor$Folk"
def TX1 : u_T := fun k => match k with
  | 0 => ("PromiseTailor$Folk", "sorts", "[I", true)
  | 1 => ("PromiseTailor$Folk", "sizes", "[I", true)
  | _ => ("PromiseTailor$Folk", "size", "I", false)
def tyX1 : Nat → FieldType := fun k => match k with
  | 0 => .array .int
  | 1 => .array .int
  | _ => .int
theorem nmX1 : ∀ a, a < 3 → ∀ b, b < 3 → a ≠ b → (TX1 a).2.1 ≠ (TX1 b).2.1 := by decide +kernel
theorem tyX1_ok : ∀ k, k < 3 → parseFieldDescriptor (TX1 k).2.2.1 = some (tyX1 k) := by decide +kernel
abbrev cX1_init : ByteArray := prog_3_method_1_code
def yX1_init : MethodName := ⟨RX1, "<init>", "()V"⟩
abbrev cX1_has : ByteArray := prog_3_method_2_code
def yX1_has : MethodName := ⟨RX1, "has", "(I)Z"⟩
abbrev cX1_take : ByteArray := prog_3_method_3_code
def yX1_take : MethodName := ⟨RX1, "take", "(LPromiseTailor$Text;)V"⟩
def RX2 : String := "PromiseTailor$Sheets"
def TX2 : u_T := fun k => match k with
  | 0 => ("PromiseTailor$Sheets", "rows", "[[I", true)
  | 1 => ("PromiseTailor$Sheets", "lengths", "[I", true)
  | _ => ("PromiseTailor$Sheets", "forms", "[I", true)
def tyX2 : Nat → FieldType := fun k => match k with
  | 0 => .array (.array .int)
  | 1 => .array .int
  | _ => .array .int
theorem nmX2 : ∀ a, a < 3 → ∀ b, b < 3 → a ≠ b → (TX2 a).2.1 ≠ (TX2 b).2.1 := by decide +kernel
theorem tyX2_ok : ∀ k, k < 3 → parseFieldDescriptor (TX2 k).2.2.1 = some (tyX2 k) := by decide +kernel
abbrev cX2_init : ByteArray := prog_4_method_1_code
def yX2_init : MethodName := ⟨RX2, "<init>", "()V"⟩
abbrev cX2_isSheet : ByteArray := prog_4_method_2_code
def yX2_isSheet : MethodName := ⟨RX2, "isSheet", "(I)Z"⟩
abbrev cX2_isForm : ByteArray := prog_4_method_3_code
def yX2_isForm : MethodName := ⟨RX2, "isForm", "(I)Z"⟩
abbrev cX2_isLost : ByteArray := prog_4_method_4_code
def yX2_isLost : MethodName := ⟨RX2, "isLost", "(I)Z"⟩
abbrev cX2_lay : ByteArray := prog_4_method_5_code
def yX2_lay : MethodName := ⟨RX2, "lay", "(III)V"⟩
abbrev cX2_findingAt : ByteArray := prog_4_method_6_code
def yX2_findingAt : MethodName := ⟨RX2, "findingAt", "(III)I"⟩
abbrev cX2_hasItems : ByteArray := prog_4_method_7_code
def yX2_hasItems : MethodName := ⟨RX2, "hasItems", "(III)Z"⟩
abbrev cX2_store : ByteArray := prog_4_method_8_code
def yX2_store : MethodName := ⟨RX2, "store", "(III)V"⟩
def RX3 : String := "PromiseTailor$Text"
def TX3 : u_T := fun k => match k with
  | 0 => ("PromiseTailor$Text", "bytes", "[I", true)
  | 1 => ("PromiseTailor$Text", "room", "I", true)
  | 2 => ("PromiseTailor$Text", "ofPromises", "Z", true)
  | _ => ("PromiseTailor$Text", "length", "I", false)
def tyX3 : Nat → FieldType := fun k => match k with
  | 0 => .array .int
  | 1 => .int
  | 2 => .boolean
  | _ => .int
theorem nmX3 : ∀ a, a < 4 → ∀ b, b < 4 → a ≠ b → (TX3 a).2.1 ≠ (TX3 b).2.1 := by decide +kernel
theorem tyX3_ok : ∀ k, k < 4 → parseFieldDescriptor (TX3 k).2.2.1 = some (tyX3 k) := by decide +kernel
abbrev cX3_init : ByteArray := prog_5_method_1_code
def yX3_init : MethodName := ⟨RX3, "<init>", "(IZ)V"⟩
abbrev cX3_append : ByteArray := prog_5_method_2_code
def yX3_append : MethodName := ⟨RX3, "append", "(I)Z"⟩
abbrev cX3_firstFault : ByteArray := prog_5_method_3_code
def yX3_firstFault : MethodName := ⟨RX3, "firstFault", "()I"⟩
abbrev cX3_goesOnInPeople : ByteArray := prog_5_method_4_code
def yX3_goesOnInPeople : MethodName := ⟨RX3, "goesOnInPeople", "(II)Z"⟩
abbrev cX3_goesOnInPromises : ByteArray := prog_5_method_5_code
def yX3_goesOnInPromises : MethodName := ⟨RX3, "goesOnInPromises", "(II)Z"⟩
def RX4 : String := "PromiseTailor$Told"
def TX4 : u_T := fun k => match k with
  | 0 => ("PromiseTailor$Told", "days", "[I", true)
  | 1 => ("PromiseTailor$Told", "subjects", "[I", true)
  | 2 => ("PromiseTailor$Told", "much", "[I", true)
  | 3 => ("PromiseTailor$Told", "room", "I", true)
  | _ => ("PromiseTailor$Told", "size", "I", false)
def tyX4 : Nat → FieldType := fun k => match k with
  | 0 => .array .int
  | 1 => .array .int
  | 2 => .array .int
  | 3 => .int
  | _ => .int
theorem nmX4 : ∀ a, a < 5 → ∀ b, b < 5 → a ≠ b → (TX4 a).2.1 ≠ (TX4 b).2.1 := by decide +kernel
theorem tyX4_ok : ∀ k, k < 5 → parseFieldDescriptor (TX4 k).2.2.1 = some (tyX4 k) := by decide +kernel
abbrev cX4_init : ByteArray := prog_6_method_1_code
def yX4_init : MethodName := ⟨RX4, "<init>", "(I)V"⟩
abbrev cX4_isFull : ByteArray := prog_6_method_2_code
def yX4_isFull : MethodName := ⟨RX4, "isFull", "()Z"⟩
abbrev cX4_add : ByteArray := prog_6_method_3_code
def yX4_add : MethodName := ⟨RX4, "add", "(III)I"⟩
abbrev cX4_dropLast : ByteArray := prog_6_method_4_code
def yX4_dropLast : MethodName := ⟨RX4, "dropLast", "()I"⟩
def RX5 : String := "PromiseTailor$Vows"
def TX5 : u_T := fun k => match k with
  | 0 => ("PromiseTailor$Vows", "whose", "[I", true)
  | 1 => ("PromiseTailor$Vows", "great", "[I", true)
  | 2 => ("PromiseTailor$Vows", "made", "[I", true)
  | 3 => ("PromiseTailor$Vows", "dues", "[I", true)
  | _ => ("PromiseTailor$Vows", "size", "I", false)
def tyX5 : Nat → FieldType := fun k => match k with
  | 0 => .array .int
  | 1 => .array .int
  | 2 => .array .int
  | 3 => .array .int
  | _ => .int
theorem nmX5 : ∀ a, a < 5 → ∀ b, b < 5 → a ≠ b → (TX5 a).2.1 ≠ (TX5 b).2.1 := by decide +kernel
theorem tyX5_ok : ∀ k, k < 5 → parseFieldDescriptor (TX5 k).2.2.1 = some (tyX5 k) := by decide +kernel
abbrev cX5_init : ByteArray := prog_7_method_1_code
def yX5_init : MethodName := ⟨RX5, "<init>", "()V"⟩
abbrev cX5_has : ByteArray := prog_7_method_2_code
def yX5_has : MethodName := ⟨RX5, "has", "(I)Z"⟩
abbrev cX5_take : ByteArray := prog_7_method_3_code
def yX5_take : MethodName := ⟨RX5, "take", "(LPromiseTailor$Text;)V"⟩
abbrev cX5_add : ByteArray := prog_7_method_4_code
def yX5_add : MethodName := ⟨RX5, "add", "(IIII)V"⟩
abbrev cX5_dropLast : ByteArray := prog_7_method_5_code
def yX5_dropLast : MethodName := ⟨RX5, "dropLast", "()V"⟩
def RX6 : String := "PromiseTailor"
def TX6 : u_T := fun k => match k with
  | 0 => ("PromiseTailor", "peopleText", "LPromiseTailor$Text;", true)
  | 1 => ("PromiseTailor", "promisesText", "LPromiseTailor$Text;", true)
  | 2 => ("PromiseTailor", "course", "LPromiseTailor$Course;", true)
  | 3 => ("PromiseTailor", "folk", "LPromiseTailor$Folk;", true)
  | 4 => ("PromiseTailor", "vows", "LPromiseTailor$Vows;", true)
  | 5 => ("PromiseTailor", "keepings", "LPromiseTailor$Told;", true)
  | 6 => ("PromiseTailor", "lies", "LPromiseTailor$Told;", true)
  | 7 => ("PromiseTailor", "lettings", "LPromiseTailor$Told;", true)
  | 8 => ("PromiseTailor", "sightings", "LPromiseTailor$Told;", true)
  | 9 => ("PromiseTailor", "drawn", "LPromiseTailor$Told;", true)
  | 10 => ("PromiseTailor", "sheets", "LPromiseTailor$Sheets;", true)
  | 11 => ("PromiseTailor", "coatBySize", "[[I", true)
  | _ => ("PromiseTailor", "latestFinding", "I", false)
def tyX6 : Nat → FieldType := fun k => match k with
  | 0 => .object "PromiseTailor$Text"
  | 1 => .object "PromiseTailor$Text"
  | 2 => .object "PromiseTailor$Course"
  | 3 => .object "PromiseTailor$Folk"
  | 4 => .object "PromiseTailor$Vows"
  | 5 => .object "PromiseTailor$Told"
  | 6 => .object "PromiseTailor$Told"
  | 7 => .object "PromiseTailor$Told"
  | 8 => .object "PromiseTailor$Told"
  | 9 => .object "PromiseTailor$Told"
  | 10 => .object "PromiseTailor$Sheets"
  | 11 => .array (.array .int)
  | _ => .int
theorem nmX6 : ∀ a, a < 13 → ∀ b, b < 13 → a ≠ b → (TX6 a).2.1 ≠ (TX6 b).2.1 := by decide +kernel
theorem tyX6_ok : ∀ k, k < 13 → parseFieldDescriptor (TX6 k).2.2.1 = some (tyX6 k) := by decide +kernel
abbrev cX6_init : ByteArray := prog_1_method_1_code
def yX6_init : MethodName := ⟨RX6, "<init>", "()V"⟩
abbrev cX6_type : ByteArray := prog_1_method_2_code
def yX6_type : MethodName := ⟨RX6, "type", "(II)I"⟩
abbrev cX6_wipe : ByteArray := prog_1_method_3_code
def yX6_wipe : MethodName := ⟨RX6, "wipe", "(I)I"⟩
abbrev cX6_undo : ByteArray := prog_1_method_4_code
def yX6_undo : MethodName := ⟨RX6, "undo", "(I)I"⟩
abbrev cX6_fault : ByteArray := prog_1_method_5_code
def yX6_fault : MethodName := ⟨RX6, "fault", "(I)I"⟩
abbrev cX6_person : ByteArray := prog_1_method_6_code
def yX6_person : MethodName := ⟨RX6, "person", "(II)I"⟩
abbrev cX6_promise : ByteArray := prog_1_method_7_code
def yX6_promise : MethodName := ⟨RX6, "promise", "(II)I"⟩
abbrev cX6_keeping : ByteArray := prog_1_method_8_code
def yX6_keeping : MethodName := ⟨RX6, "keeping", "(II)I"⟩
abbrev cX6_lie : ByteArray := prog_1_method_9_code
def yX6_lie : MethodName := ⟨RX6, "lie", "(III)I"⟩
abbrev cX6_letting : ByteArray := prog_1_method_10_code
def yX6_letting : MethodName := ⟨RX6, "letting", "(III)I"⟩
abbrev cX6_back : ByteArray := prog_1_method_11_code
def yX6_back : MethodName := ⟨RX6, "back", "(I)I"⟩
abbrev cX6_read : ByteArray := prog_1_method_12_code
def yX6_read : MethodName := ⟨RX6, "read", "(I)I"⟩
abbrev cX6_coat : ByteArray := prog_1_method_13_code
def yX6_coat : MethodName := ⟨RX6, "coat", "(III)I"⟩
abbrev cX6_stands : ByteArray := prog_1_method_14_code
def yX6_stands : MethodName := ⟨RX6, "stands", "(II)I"⟩
abbrev cX6_neat : ByteArray := prog_1_method_15_code
def yX6_neat : MethodName := ⟨RX6, "neat", "(I)I"⟩
abbrev cX6_naked : ByteArray := prog_1_method_16_code
def yX6_naked : MethodName := ⟨RX6, "naked", "(I)I"⟩
abbrev cX6_longest : ByteArray := prog_1_method_17_code
def yX6_longest : MethodName := ⟨RX6, "longest", "(I)I"⟩
abbrev cX6_splits : ByteArray := prog_1_method_18_code
def yX6_splits : MethodName := ⟨RX6, "splits", "()I"⟩
abbrev cX6_best : ByteArray := prog_1_method_19_code
def yX6_best : MethodName := ⟨RX6, "best", "()I"⟩
abbrev cX6_swear : ByteArray := prog_1_method_20_code
def yX6_swear : MethodName := ⟨RX6, "swear", "(II)I"⟩
abbrev cX6_keep : ByteArray := prog_1_method_21_code
def yX6_keep : MethodName := ⟨RX6, "keep", "(II)I"⟩
abbrev cX6_due : ByteArray := prog_1_method_22_code
def yX6_due : MethodName := ⟨RX6, "due", "(II)I"⟩
abbrev cX6_hush : ByteArray := prog_1_method_23_code
def yX6_hush : MethodName := ⟨RX6, "hush", "(I)I"⟩
abbrev cX6_seen : ByteArray := prog_1_method_24_code
def yX6_seen : MethodName := ⟨RX6, "seen", "(III)I"⟩
abbrev cX6_forget : ByteArray := prog_1_method_25_code
def yX6_forget : MethodName := ⟨RX6, "forget", "()I"⟩
abbrev cX6_never : ByteArray := prog_1_method_26_code
def yX6_never : MethodName := ⟨RX6, "never", "()I"⟩
abbrev cX6_was : ByteArray := prog_1_method_27_code
def yX6_was : MethodName := ⟨RX6, "was", "(II)I"⟩
abbrev cX6_ask : ByteArray := prog_1_method_28_code
def yX6_ask : MethodName := ⟨RX6, "ask", "(I)I"⟩
abbrev cX6_word : ByteArray := prog_1_method_29_code
def yX6_word : MethodName := ⟨RX6, "word", "(IIII)J"⟩
abbrev cX6_year : ByteArray := prog_1_method_30_code
def yX6_year : MethodName := ⟨RX6, "year", "(III)I"⟩
abbrev cX6_sheet : ByteArray := prog_1_method_31_code
def yX6_sheet : MethodName := ⟨RX6, "sheet", "(III)I"⟩
abbrev cX6_lose : ByteArray := prog_1_method_32_code
def yX6_lose : MethodName := ⟨RX6, "lose", "(I)I"⟩
abbrev cX6_put : ByteArray := prog_1_method_33_code
def yX6_put : MethodName := ⟨RX6, "put", "(IIII)I"⟩
abbrev cX6_get : ByteArray := prog_1_method_34_code
def yX6_get : MethodName := ⟨RX6, "get", "(III)I"⟩
abbrev cX6_copy : ByteArray := prog_1_method_35_code
def yX6_copy : MethodName := ⟨RX6, "copy", "(IIIII)I"⟩
abbrev cX6_write : ByteArray := prog_1_method_36_code
def yX6_write : MethodName := ⟨RX6, "write", "(II)I"⟩
abbrev cX6_count : ByteArray := prog_1_method_37_code
def yX6_count : MethodName := ⟨RX6, "count", "(I)I"⟩
abbrev cX6_digest : ByteArray := prog_1_method_38_code
def yX6_digest : MethodName := ⟨RX6, "digest", "()J"⟩
abbrev cX6_isUpTo : ByteArray := prog_1_method_39_code
def yX6_isUpTo : MethodName := ⟨RX6, "isUpTo", "(II)Z"⟩
abbrev cX6_isText : ByteArray := prog_1_method_40_code
def yX6_isText : MethodName := ⟨RX6, "isText", "(I)Z"⟩
abbrev cX6_isDay : ByteArray := prog_1_method_41_code
def yX6_isDay : MethodName := ⟨RX6, "isDay", "(I)Z"⟩
abbrev cX6_isGreat : ByteArray := prog_1_method_42_code
def yX6_isGreat : MethodName := ⟨RX6, "isGreat", "(I)Z"⟩
abbrev cX6_mayBePerson : ByteArray := prog_1_method_43_code
def yX6_mayBePerson : MethodName := ⟨RX6, "mayBePerson", "(I)Z"⟩
abbrev cX6_mayBeKeeping : ByteArray := prog_1_method_44_code
def yX6_mayBeKeeping : MethodName := ⟨RX6, "mayBeKeeping", "(II)Z"⟩
abbrev cX6_textOf : ByteArray := prog_1_method_45_code
def yX6_textOf : MethodName := ⟨RX6, "textOf", "(I)LPromiseTailor$Text;"⟩
abbrev cX6_takeTexts : ByteArray := prog_1_method_46_code
def yX6_takeTexts : MethodName := ⟨RX6, "takeTexts", "()V"⟩
abbrev cX6_found : ByteArray := prog_1_method_47_code
def yX6_found : MethodName := ⟨RX6, "found", "(I)I"⟩
abbrev cX6_liveUntil : ByteArray := prog_1_method_48_code
def yX6_liveUntil : MethodName := ⟨RX6, "liveUntil", "(I)V"⟩
abbrev cX6_liesToHush : ByteArray := prog_1_method_49_code
def yX6_liesToHush : MethodName := ⟨RX6, "liesToHush", "()I"⟩
abbrev cX6_leavesNobodyNaked : ByteArray := prog_1_method_50_code
def yX6_leavesNobodyNaked : MethodName := ⟨RX6, "leavesNobodyNaked", "(I)Z"⟩
abbrev cX6_fittingValues : ByteArray := prog_1_method_51_code
def yX6_fittingValues : MethodName := ⟨RX6, "fittingValues", "([III)I"⟩
abbrev cX6_noteCoatsBySize : ByteArray := prog_1_method_52_code
def yX6_noteCoatsBySize : MethodName := ⟨RX6, "noteCoatsBySize", "(I)V"⟩
abbrev cX6_mostAlike : ByteArray := prog_1_method_53_code
def yX6_mostAlike : MethodName := ⟨RX6, "mostAlike", "(II)I"⟩
abbrev cX6_keepingsOf : ByteArray := prog_1_method_54_code
def yX6_keepingsOf : MethodName := ⟨RX6, "keepingsOf", "(I)I"⟩
abbrev cX6_weight : ByteArray := prog_1_method_55_code
def yX6_weight : MethodName := ⟨RX6, "weight", "(III)J"⟩
abbrev cX6_drawKeepings : ByteArray := prog_1_method_56_code
def yX6_drawKeepings : MethodName := ⟨RX6, "drawKeepings", "(II)V"⟩
abbrev cX6_nextSeed : ByteArray := prog_1_method_57_code
def yX6_nextSeed : MethodName := ⟨RX6, "nextSeed", "(I)I"⟩
abbrev cX6_mixed : ByteArray := prog_1_method_58_code
def yX6_mixed : MethodName := ⟨RX6, "mixed", "(JJ)J"⟩
abbrev cX6_withPromise : ByteArray := prog_1_method_59_code
def yX6_withPromise : MethodName := ⟨RX6, "withPromise", "(JI)J"⟩
abbrev cX6_withPerson : ByteArray := prog_1_method_60_code
def yX6_withPerson : MethodName := ⟨RX6, "withPerson", "(JI)J"⟩
abbrev cX6_withCoat : ByteArray := prog_1_method_61_code
def yX6_withCoat : MethodName := ⟨RX6, "withCoat", "(JII)J"⟩
def RX7 : String := "PromiseTailorModel"
def TX7 : u_T := fun k => match k with
  | 0 => ("PromiseTailorModel", "typed", "[I", true)
  | 1 => ("PromiseTailorModel", "texts", "[I", true)
  | 2 => ("PromiseTailorModel", "people", "I", false)
  | 3 => ("PromiseTailorModel", "sorts", "[I", true)
  | 4 => ("PromiseTailorModel", "measures", "[I", true)
  | 5 => ("PromiseTailorModel", "promises", "I", false)
  | 6 => ("PromiseTailorModel", "whose", "[I", true)
  | 7 => ("PromiseTailorModel", "greats", "[I", true)
  | 8 => ("PromiseTailorModel", "mades", "[I", true)
  | 9 => ("PromiseTailorModel", "dues", "[I", true)
  | 10 => ("PromiseTailorModel", "keepings", "I", false)
  | 11 => ("PromiseTailorModel", "keepDay", "[I", true)
  | 12 => ("PromiseTailorModel", "keepOf", "[I", true)
  | 13 => ("PromiseTailorModel", "lies", "I", false)
  | 14 => ("PromiseTailorModel", "lieDay", "[I", true)
  | 15 => ("PromiseTailorModel", "lieWho", "[I", true)
  | 16 => ("PromiseTailorModel", "lieMuch", "[I", true)
  | 17 => ("PromiseTailorModel", "lettings", "I", false)
  | 18 => ("PromiseTailorModel", "letDay", "[I", true)
  | 19 => ("PromiseTailorModel", "letWho", "[I", true)
  | 20 => ("PromiseTailorModel", "letMuch", "[I", true)
  | 21 => ("PromiseTailorModel", "promisesNow", "I", false)
  | 22 => ("PromiseTailorModel", "keepsNow", "I", false)
  | 23 => ("PromiseTailorModel", "dayNow", "[I", true)
  | 24 => ("PromiseTailorModel", "ofNow", "[I", true)
  | 25 => ("PromiseTailorModel", "notKeeps", "I", false)
  | 26 => ("PromiseTailorModel", "notLies", "I", false)
  | 27 => ("PromiseTailorModel", "coats", "[I", true)
  | 28 => ("PromiseTailorModel", "tears", "[I", true)
  | 29 => ("PromiseTailorModel", "states", "[I", true)
  | 30 => ("PromiseTailorModel", "coatAt", "[I", true)
  | 31 => ("PromiseTailorModel", "tearAt", "[I", true)
  | 32 => ("PromiseTailorModel", "stateAt", "[I", true)
  | 33 => ("PromiseTailorModel", "planRow", "[I", true)
  | 34 => ("PromiseTailorModel", "seens", "I", false)
  | 35 => ("PromiseTailorModel", "seenDay", "[I", true)
  | 36 => ("PromiseTailorModel", "seenWho", "[I", true)
  | 37 => ("PromiseTailorModel", "seenMuch", "[I", true)
  | 38 => ("PromiseTailorModel", "coatBy", "[I", true)
  | 39 => ("PromiseTailorModel", "isThere", "[Z", true)
  | 40 => ("PromiseTailorModel", "forms", "[I", true)
  | 41 => ("PromiseTailorModel", "sizes", "[I", true)
  | 42 => ("PromiseTailorModel", "items", "[I", true)
  | 43 => ("PromiseTailorModel", "moved", "[I", true)
  | _ => ("PromiseTailorModel", "finding", "I", false)
def tyX7 : Nat → FieldType := fun k => match k with
  | 0 => .array .int
  | 1 => .array .int
  | 2 => .int
  | 3 => .array .int
  | 4 => .array .int
  | 5 => .int
  | 6 => .array .int
  | 7 => .array .int
  | 8 => .array .int
  | 9 => .array .int
  | 10 => .int
  | 11 => .array .int
  | 12 => .array .int
  | 13 => .int
  | 14 => .array .int
  | 15 => .array .int
  | 16 => .array .int
  | 17 => .int
  | 18 => .array .int
  | 19 => .array .int
  | 20 => .array .int
  | 21 => .int
  | 22 => .int
  | 23 => .array .int
  | 24 => .array .int
  | 25 => .int
  | 26 => .int
  | 27 => .array .int
  | 28 => .array .int
  | 29 => .array .int
  | 30 => .array .int
  | 31 => .array .int
  | 32 => .array .int
  | 33 => .array .int
  | 34 => .int
  | 35 => .array .int
  | 36 => .array .int
  | 37 => .array .int
  | 38 => .array .int
  | 39 => .array .boolean
  | 40 => .array .int
  | 41 => .array .int
  | 42 => .array .int
  | 43 => .array .int
  | _ => .int
theorem nmX7 : ∀ a, a < 45 → ∀ b, b < 45 → a ≠ b → (TX7 a).2.1 ≠ (TX7 b).2.1 := by decide +kernel
theorem tyX7_ok : ∀ k, k < 45 → parseFieldDescriptor (TX7 k).2.2.1 = some (tyX7 k) := by decide +kernel
abbrev cX7_init : ByteArray := prog_9_method_1_code
def yX7_init : MethodName := ⟨RX7, "<init>", "()V"⟩
abbrev cX7_in : ByteArray := prog_9_method_3_code
def yX7_in : MethodName := ⟨RX7, "in", "(III)Z"⟩
abbrev cX7_isIn : ByteArray := prog_9_method_4_code
def yX7_isIn : MethodName := ⟨RX7, "isIn", "(II)Z"⟩
abbrev cX7_no : ByteArray := prog_9_method_5_code
def yX7_no : MethodName := ⟨RX7, "no", "(I)J"⟩
abbrev cX7_lowest : ByteArray := prog_9_method_6_code
def yX7_lowest : MethodName := ⟨RX7, "lowest", "(JJI)J"⟩
abbrev cX7_isText : ByteArray := prog_9_method_7_code
def yX7_isText : MethodName := ⟨RX7, "isText", "(I)Z"⟩
abbrev cX7_isDay : ByteArray := prog_9_method_8_code
def yX7_isDay : MethodName := ⟨RX7, "isDay", "(I)Z"⟩
abbrev cX7_isEight : ByteArray := prog_9_method_9_code
def yX7_isEight : MethodName := ⟨RX7, "isEight", "(I)Z"⟩
abbrev cX7_type : ByteArray := prog_9_method_10_code
def yX7_type : MethodName := ⟨RX7, "type", "(II)I"⟩
abbrev cX7_wipe : ByteArray := prog_9_method_11_code
def yX7_wipe : MethodName := ⟨RX7, "wipe", "(I)I"⟩
abbrev cX7_undo : ByteArray := prog_9_method_12_code
def yX7_undo : MethodName := ⟨RX7, "undo", "(I)I"⟩
abbrev cX7_byteAt : ByteArray := prog_9_method_13_code
def yX7_byteAt : MethodName := ⟨RX7, "byteAt", "(II)I"⟩
abbrev cX7_readsPerson : ByteArray := prog_9_method_14_code
def yX7_readsPerson : MethodName := ⟨RX7, "readsPerson", "(II)I"⟩
abbrev cX7_readsPromise : ByteArray := prog_9_method_15_code
def yX7_readsPromise : MethodName := ⟨RX7, "readsPromise", "(II)I"⟩
abbrev cX7_readsParts : ByteArray := prog_9_method_16_code
def yX7_readsParts : MethodName := ⟨RX7, "readsParts", "(I)I"⟩
abbrev cX7_faultOf : ByteArray := prog_9_method_17_code
def yX7_faultOf : MethodName := ⟨RX7, "faultOf", "(I)I"⟩
abbrev cX7_reads : ByteArray := prog_9_method_18_code
def yX7_reads : MethodName := ⟨RX7, "reads", "()V"⟩
abbrev cX7_fault : ByteArray := prog_9_method_19_code
def yX7_fault : MethodName := ⟨RX7, "fault", "(I)I"⟩
abbrev cX7_isPerson : ByteArray := prog_9_method_20_code
def yX7_isPerson : MethodName := ⟨RX7, "isPerson", "(I)Z"⟩
abbrev cX7_isPromise : ByteArray := prog_9_method_21_code
def yX7_isPromise : MethodName := ⟨RX7, "isPromise", "(I)Z"⟩
abbrev cX7_personOf : ByteArray := prog_9_method_22_code
def yX7_personOf : MethodName := ⟨RX7, "personOf", "(II)I"⟩
abbrev cX7_person : ByteArray := prog_9_method_23_code
def yX7_person : MethodName := ⟨RX7, "person", "(II)I"⟩
abbrev cX7_promiseOf : ByteArray := prog_9_method_24_code
def yX7_promiseOf : MethodName := ⟨RX7, "promiseOf", "(II)I"⟩
abbrev cX7_promise : ByteArray := prog_9_method_25_code
def yX7_promise : MethodName := ⟨RX7, "promise", "(II)I"⟩
abbrev cX7_keeping : ByteArray := prog_9_method_26_code
def yX7_keeping : MethodName := ⟨RX7, "keeping", "(II)I"⟩
abbrev cX7_lie : ByteArray := prog_9_method_27_code
def yX7_lie : MethodName := ⟨RX7, "lie", "(III)I"⟩
abbrev cX7_letting : ByteArray := prog_9_method_28_code
def yX7_letting : MethodName := ⟨RX7, "letting", "(III)I"⟩
abbrev cX7_back : ByteArray := prog_9_method_29_code
def yX7_back : MethodName := ⟨RX7, "back", "(I)I"⟩
abbrev cX7_read : ByteArray := prog_9_method_30_code
def yX7_read : MethodName := ⟨RX7, "read", "(I)I"⟩
abbrev cX7_asTold : ByteArray := prog_9_method_31_code
def yX7_asTold : MethodName := ⟨RX7, "asTold", "()V"⟩
abbrev cX7_changes : ByteArray := prog_9_method_32_code
def yX7_changes : MethodName := ⟨RX7, "changes", "(II)V"⟩
abbrev cX7_lengthOf : ByteArray := prog_9_method_33_code
def yX7_lengthOf : MethodName := ⟨RX7, "lengthOf", "(I)I"⟩
abbrev cX7_makes : ByteArray := prog_9_method_34_code
def yX7_makes : MethodName := ⟨RX7, "makes", "(I)V"⟩
abbrev cX7_isKept : ByteArray := prog_9_method_35_code
def yX7_isKept : MethodName := ⟨RX7, "isKept", "(I)V"⟩
abbrev cX7_keepsOn : ByteArray := prog_9_method_36_code
def yX7_keepsOn : MethodName := ⟨RX7, "keepsOn", "(I)V"⟩
abbrev cX7_breaks : ByteArray := prog_9_method_37_code
def yX7_breaks : MethodName := ⟨RX7, "breaks", "(I)V"⟩
abbrev cX7_goesBy : ByteArray := prog_9_method_38_code
def yX7_goesBy : MethodName := ⟨RX7, "goesBy", "(I)V"⟩
abbrev cX7_runs : ByteArray := prog_9_method_39_code
def yX7_runs : MethodName := ⟨RX7, "runs", "()V"⟩
abbrev cX7_runsTold : ByteArray := prog_9_method_40_code
def yX7_runsTold : MethodName := ⟨RX7, "runsTold", "()V"⟩
abbrev cX7_fitsOn : ByteArray := prog_9_method_41_code
def yX7_fitsOn : MethodName := ⟨RX7, "fitsOn", "(II)Z"⟩
abbrev cX7_fitMany : ByteArray := prog_9_method_42_code
def yX7_fitMany : MethodName := ⟨RX7, "fitMany", "(I)I"⟩
abbrev cX7_coatOf : ByteArray := prog_9_method_43_code
def yX7_coatOf : MethodName := ⟨RX7, "coatOf", "(III)I"⟩
abbrev cX7_coat : ByteArray := prog_9_method_44_code
def yX7_coat : MethodName := ⟨RX7, "coat", "(III)I"⟩
abbrev cX7_standsOf : ByteArray := prog_9_method_45_code
def yX7_standsOf : MethodName := ⟨RX7, "standsOf", "(II)I"⟩
abbrev cX7_stands : ByteArray := prog_9_method_46_code
def yX7_stands : MethodName := ⟨RX7, "stands", "(II)I"⟩
abbrev cX7_neatOf : ByteArray := prog_9_method_47_code
def yX7_neatOf : MethodName := ⟨RX7, "neatOf", "(I)I"⟩
abbrev cX7_neat : ByteArray := prog_9_method_48_code
def yX7_neat : MethodName := ⟨RX7, "neat", "(I)I"⟩
abbrev cX7_nakedNow : ByteArray := prog_9_method_49_code
def yX7_nakedNow : MethodName := ⟨RX7, "nakedNow", "(I)I"⟩
abbrev cX7_nakedOf : ByteArray := prog_9_method_50_code
def yX7_nakedOf : MethodName := ⟨RX7, "nakedOf", "(I)I"⟩
abbrev cX7_naked : ByteArray := prog_9_method_51_code
def yX7_naked : MethodName := ⟨RX7, "naked", "(I)I"⟩
abbrev cX7_longestOf : ByteArray := prog_9_method_52_code
def yX7_longestOf : MethodName := ⟨RX7, "longestOf", "(I)I"⟩
abbrev cX7_longest : ByteArray := prog_9_method_53_code
def yX7_longest : MethodName := ⟨RX7, "longest", "(I)I"⟩
abbrev cX7_tearsAll : ByteArray := prog_9_method_54_code
def yX7_tearsAll : MethodName := ⟨RX7, "tearsAll", "()I"⟩
abbrev cX7_splitsOf : ByteArray := prog_9_method_55_code
def yX7_splitsOf : MethodName := ⟨RX7, "splitsOf", "()I"⟩
abbrev cX7_splits : ByteArray := prog_9_method_56_code
def yX7_splits : MethodName := ⟨RX7, "splits", "()I"⟩
abbrev cX7_bestNow : ByteArray := prog_9_method_57_code
def yX7_bestNow : MethodName := ⟨RX7, "bestNow", "()I"⟩
abbrev cX7_best : ByteArray := prog_9_method_58_code
def yX7_best : MethodName := ⟨RX7, "best", "()I"⟩
abbrev cX7_swearOf : ByteArray := prog_9_method_59_code
def yX7_swearOf : MethodName := ⟨RX7, "swearOf", "(II)I"⟩
abbrev cX7_swear : ByteArray := prog_9_method_60_code
def yX7_swear : MethodName := ⟨RX7, "swear", "(II)I"⟩
abbrev cX7_keepBest : ByteArray := prog_9_method_61_code
def yX7_keepBest : MethodName := ⟨RX7, "keepBest", "(II)I"⟩
abbrev cX7_keep : ByteArray := prog_9_method_62_code
def yX7_keep : MethodName := ⟨RX7, "keep", "(II)I"⟩
abbrev cX7_dueOf : ByteArray := prog_9_method_63_code
def yX7_dueOf : MethodName := ⟨RX7, "dueOf", "(II)I"⟩
abbrev cX7_due : ByteArray := prog_9_method_64_code
def yX7_due : MethodName := ⟨RX7, "due", "(II)I"⟩
abbrev cX7_isHushed : ByteArray := prog_9_method_65_code
def yX7_isHushed : MethodName := ⟨RX7, "isHushed", "(I)Z"⟩
abbrev cX7_hushBy : ByteArray := prog_9_method_66_code
def yX7_hushBy : MethodName := ⟨RX7, "hushBy", "()I"⟩
abbrev cX7_ofRow : ByteArray := prog_9_method_67_code
def yX7_ofRow : MethodName := ⟨RX7, "ofRow", "(II)I"⟩
abbrev cX7_hush : ByteArray := prog_9_method_68_code
def yX7_hush : MethodName := ⟨RX7, "hush", "(I)I"⟩
abbrev cX7_seen : ByteArray := prog_9_method_69_code
def yX7_seen : MethodName := ⟨RX7, "seen", "(III)I"⟩
abbrev cX7_forget : ByteArray := prog_9_method_70_code
def yX7_forget : MethodName := ⟨RX7, "forget", "()I"⟩
abbrev cX7_isSeen : ByteArray := prog_9_method_71_code
def yX7_isSeen : MethodName := ⟨RX7, "isSeen", "()Z"⟩
abbrev cX7_neverNow : ByteArray := prog_9_method_72_code
def yX7_neverNow : MethodName := ⟨RX7, "neverNow", "()I"⟩
abbrev cX7_never : ByteArray := prog_9_method_73_code
def yX7_never : MethodName := ⟨RX7, "never", "()I"⟩
abbrev cX7_sizesBy : ByteArray := prog_9_method_74_code
def yX7_sizesBy : MethodName := ⟨RX7, "sizesBy", "(I)I"⟩
abbrev cX7_sortsBy : ByteArray := prog_9_method_75_code
def yX7_sortsBy : MethodName := ⟨RX7, "sortsBy", "(I)I"⟩
abbrev cX7_was : ByteArray := prog_9_method_76_code
def yX7_was : MethodName := ⟨RX7, "was", "(II)I"⟩
abbrev cX7_askOf : ByteArray := prog_9_method_77_code
def yX7_askOf : MethodName := ⟨RX7, "askOf", "(I)I"⟩
abbrev cX7_ask : ByteArray := prog_9_method_78_code
def yX7_ask : MethodName := ⟨RX7, "ask", "(I)I"⟩
abbrev cX7_wordOf : ByteArray := prog_9_method_79_code
def yX7_wordOf : MethodName := ⟨RX7, "wordOf", "(IIII)J"⟩
abbrev cX7_word : ByteArray := prog_9_method_80_code
def yX7_word : MethodName := ⟨RX7, "word", "(IIII)J"⟩
abbrev cX7_yearOf : ByteArray := prog_9_method_81_code
def yX7_yearOf : MethodName := ⟨RX7, "yearOf", "(III)I"⟩
abbrev cX7_year : ByteArray := prog_9_method_82_code
def yX7_year : MethodName := ⟨RX7, "year", "(III)I"⟩
abbrev cX7_meets : ByteArray := prog_9_method_83_code
def yX7_meets : MethodName := ⟨RX7, "meets", "(I)I"⟩
abbrev cX7_isSheet : ByteArray := prog_9_method_84_code
def yX7_isSheet : MethodName := ⟨RX7, "isSheet", "(I)Z"⟩
abbrev cX7_sheet : ByteArray := prog_9_method_85_code
def yX7_sheet : MethodName := ⟨RX7, "sheet", "(III)I"⟩
abbrev cX7_lose : ByteArray := prog_9_method_86_code
def yX7_lose : MethodName := ⟨RX7, "lose", "(I)I"⟩
abbrev cX7_lacks : ByteArray := prog_9_method_87_code
def yX7_lacks : MethodName := ⟨RX7, "lacks", "(III)I"⟩
abbrev cX7_lays : ByteArray := prog_9_method_88_code
def yX7_lays : MethodName := ⟨RX7, "lays", "(III)V"⟩
abbrev cX7_put : ByteArray := prog_9_method_89_code
def yX7_put : MethodName := ⟨RX7, "put", "(IIII)I"⟩
abbrev cX7_get : ByteArray := prog_9_method_90_code
def yX7_get : MethodName := ⟨RX7, "get", "(III)I"⟩
abbrev cX7_copy : ByteArray := prog_9_method_91_code
def yX7_copy : MethodName := ⟨RX7, "copy", "(IIIII)I"⟩
abbrev cX7_write : ByteArray := prog_9_method_92_code
def yX7_write : MethodName := ⟨RX7, "write", "(II)I"⟩
abbrev cX7_sumOf : ByteArray := prog_9_method_93_code
def yX7_sumOf : MethodName := ⟨RX7, "sumOf", "(I)I"⟩
abbrev cX7_count : ByteArray := prog_9_method_94_code
def yX7_count : MethodName := ⟨RX7, "count", "(I)I"⟩
abbrev cX7_promiseDigest : ByteArray := prog_9_method_95_code
def yX7_promiseDigest : MethodName := ⟨RX7, "promiseDigest", "(JI)J"⟩
abbrev cX7_coatDigest : ByteArray := prog_9_method_96_code
def yX7_coatDigest : MethodName := ⟨RX7, "coatDigest", "(JII)J"⟩
abbrev cX7_personDigest : ByteArray := prog_9_method_97_code
def yX7_personDigest : MethodName := ⟨RX7, "personDigest", "(JI)J"⟩
abbrev cX7_digest : ByteArray := prog_9_method_98_code
def yX7_digest : MethodName := ⟨RX7, "digest", "()J"⟩
def RJ6 : String := "java/lang/Integer"
def TJ6 : u_T := fun k => match k with
  | _ => ("", "", "", false)
def tyJ6 : Nat → FieldType := fun k => match k with
  | _ => .int
abbrev cJ6_numberOfTrailingZeros_0f7a4 : ByteArray := prog_10_method_48_code
def yJ6_numberOfTrailingZeros_0f7a4 : MethodName := ⟨RJ6, "numberOfTrailingZeros", "(I)I"⟩
abbrev cJ6_bitCount_0f7a4 : ByteArray := prog_10_method_49_code
def yJ6_bitCount_0f7a4 : MethodName := ⟨RJ6, "bitCount", "(I)I"⟩
def RJ9 : String := "java/lang/Math"
def TJ9 : u_T := fun k => match k with
  | _ => ("", "", "", false)
def tyJ9 : Nat → FieldType := fun k => match k with
  | _ => .int
abbrev cJ9_max_7cf53 : ByteArray := prog_11_method_65_code
def yJ9_max_7cf53 : MethodName := ⟨RJ9, "max", "(II)I"⟩
abbrev cJ9_min_7cf53 : ByteArray := prog_11_method_69_code
def yJ9_min_7cf53 : MethodName := ⟨RJ9, "min", "(II)I"⟩
def RJ10 : String := "java/lang/System"
def TJ10 : u_T := fun k => match k with
  | _ => ("", "", "", false)
def tyJ10 : Nat → FieldType := fun k => match k with
  | _ => .int
def RJ7 : String := "java/util/Arrays"
def TJ7 : u_T := fun k => match k with
  | _ => ("", "", "", false)
def tyJ7 : Nat → FieldType := fun k => match k with
  | _ => .int
abbrev cJ7_fill_53178 : ByteArray := prog_13_method_103_code
def yJ7_fill_53178 : MethodName := ⟨RJ7, "fill", "([II)V"⟩
def RL : String := "PromiseTailorLaw"
abbrev cL_law : ByteArray := code
end
section
/-! ===== classes, words, rooms ===== -/
def clsL : List vw_C := [(RX0, TX0, 15), (RX1, TX1, 3), (RX2, TX2, 3), (RX3, TX3, 4), (RX4, TX4, 5), (RX5, TX5, 5), (RX6, TX6, 13), (RX7, TX7, 45)]
def cnmL : List String := [RX0, RX1, RX2, RX3, RX4, RX5, RX6, RX7, RJ6, RJ9, RJ7]
def cnm (k : Nat) : String := cnmL.getD k ""
def tb : List Cond := lw_tbl.filter goodWord
theorem tb_at {w : Cond} (i : Nat) (h : lw_tbl[i]? = some w) (hg : goodWord w = true) : w ∈ tb := List.mem_filter.mpr ⟨List.mem_of_getElem? h, hg⟩
abbrev MT : Type := Nat × MethodName × ByteArray × Nat × Option FieldType
def MT.cn (M : MT) : Nat := M.1
def MT.y (M : MT) : MethodName := M.2.1
def MT.by (M : MT) : ByteArray := M.2.2.1
def MT.ml (M : MT) : Nat := M.2.2.2.1
def MT.rt (M : MT) : Option FieldType := M.2.2.2.2
def mw (M : MT) : List Cond := .code M.y M.by M.ml M.rt :: tb
def np (N : MT) : Option Nat := (parseMethodDescriptor N.y.desc).map (fun d => d.parameters.length)
/-- field sl of class ci, as class cn's entry idx names it -/
def fW (cn idx ci sl : Nat) : Option Cond := match clsL[ci]? with
  | some (_, T, N) => if sl < N then some (.fieldLink (cnm cn) idx (T sl).1 (T sl).2.1 (T sl).2.2.1) else none
  | none => none
/-! ===== the tables hold ===== -/
def chkW (i : Nat) (w : Cond) : Bool := decide (lw_tbl[i]? = some w) && goodWord w
theorem chkW_in {i : Nat} {w : Cond} (h : chkW i w = true) : w ∈ tb := by
  unfold chkW at h
  rw [Bool.and_eq_true, decide_eq_true_eq] at h
  exact tb_at i h.1 h.2
def cdOk (b : ByteArray) : Nat → List (Option (Instr × Nat)) → Bool
  | _, [] => true
  | pc, none :: t => cdOk b (pc + 1) t
  | pc, some x :: t => decide (decode b pc = .ok x) && cdOk b (pc + 1) t
theorem cdOk_spec {b : ByteArray} : ∀ {t : List (Option (Instr × Nat))} {pc0 : Nat}, cdOk b pc0 t = true → ∀ (j : Nat) (x : Instr × Nat), t[j]? = some (some x) → decode b (pc0 + j) = .ok x
  | [], _, _, j, x, h => by simp at h
  | none :: t, pc0, hc, j, x, h => by
    cases j with
    | zero => simp at h
    | succ j =>
      rw [List.getElem?_cons_succ] at h
      have := cdOk_spec (pc0 := pc0 + 1) hc j x h
      rw [show pc0 + (j + 1) = pc0 + 1 + j by omega]; exact this
  | some y :: t, pc0, hc, j, x, h => by
    simp only [cdOk, Bool.and_eq_true, decide_eq_true_eq] at hc
    cases j with
    | zero => simp at h; rw [← h]; exact hc.1
    | succ j =>
      rw [List.getElem?_cons_succ] at h
      have := cdOk_spec (pc0 := pc0 + 1) hc.2 j x h
      rw [show pc0 + (j + 1) = pc0 + 1 + j by omega]; exact this
def rng (a n : Nat) : List Nat := (List.range n).map (fun i => a + i)
theorem rng_mem {a n k : Nat} (h1 : a ≤ k) (h2 : k < a + n) : k ∈ rng a n := List.mem_map.mpr ⟨k - a, List.mem_range.mpr (by omega), by omega⟩
def chkN (i : Nat) (w : Cond) : Bool := decide (lw_tbl[i]? = some w)
theorem chkN_in {i : Nat} {w : Cond} (h : chkN i w = true) : w ∈ lw_tbl := List.mem_of_getElem? (of_decide_eq_true h)
/-- classes as the tables have them -/
theorem in_tbX (C : String) (T : u_T) (N : Nat) (h : (u_ws C T N).all (fun w => decide (w ∈ lw_tbl) && goodWord w) = true) : ∀ w ∈ u_ws C T N, w ∈ tb := fun w hw => by
  have := List.all_eq_true.mp h w hw
  rw [Bool.and_eq_true, decide_eq_true_eq] at this
  exact List.mem_filter.mpr this
set_option maxRecDepth 20000 in
theorem inT0 : ∀ w ∈ u_ws RX0 TX0 15, w ∈ tb := in_tbX _ _ _ (by decide +kernel)
set_option maxRecDepth 20000 in
theorem inT1 : ∀ w ∈ u_ws RX1 TX1 3, w ∈ tb := in_tbX _ _ _ (by decide +kernel)
set_option maxRecDepth 20000 in
theorem inT2 : ∀ w ∈ u_ws RX2 TX2 3, w ∈ tb := in_tbX _ _ _ (by decide +kernel)
set_option maxRecDepth 20000 in
theorem inT3 : ∀ w ∈ u_ws RX3 TX3 4, w ∈ tb := in_tbX _ _ _ (by decide +kernel)
set_option maxRecDepth 20000 in
theorem inT4 : ∀ w ∈ u_ws RX4 TX4 5, w ∈ tb := in_tbX _ _ _ (by decide +kernel)
set_option maxRecDepth 20000 in
theorem inT5 : ∀ w ∈ u_ws RX5 TX5 5, w ∈ tb := in_tbX _ _ _ (by decide +kernel)
set_option maxRecDepth 20000 in
theorem inT6 : ∀ w ∈ u_ws RX6 TX6 13, w ∈ tb := in_tbX _ _ _ (by decide +kernel)
set_option maxRecDepth 20000 in
theorem inT7 : ∀ w ∈ u_ws RX7 TX7 45, w ∈ tb := in_tbX _ _ _ (by decide +kernel)
end
section
/-! ===== printed by wip/gen/tabs.py: methods, their code, what their entries name ===== -/
def mX0_init : MT := (0, yX0_init, cX0_init, 1, none)
def mX0_arrange : MT := (0, yX0_arrange, cX0_arrange, 3, none)
def mX0_enterAll : MT := (0, yX0_enterAll, cX0_enterAll, 4, none)
def mX0_enter : MT := (0, yX0_enter, cX0_enter, 6, none)
def mX0_begin : MT := (0, yX0_begin, cX0_begin, 1, none)
def mX0_advance : MT := (0, yX0_advance, cX0_advance, 3, none)
def mX0_gain : MT := (0, yX0_gain, cX0_gain, 4, (some (FieldType.int)))
def mX0_fulfil : MT := (0, yX0_fulfil, cX0_fulfil, 5, none)
def mX0_fail : MT := (0, yX0_fail, cX0_fail, 3, none)
def mX0_lengthen : MT := (0, yX0_lengthen, cX0_lengthen, 4, none)
def mX0_shorten : MT := (0, yX0_shorten, cX0_shorten, 4, none)
def mX0_fits : MT := (0, yX0_fits, cX0_fits, 3, (some (FieldType.boolean)))
def mX0_fittingBits : MT := (0, yX0_fittingBits, cX0_fittingBits, 3, (some (FieldType.int)))
def mX0_nakedBits : MT := (0, yX0_nakedBits, cX0_nakedBits, 3, (some (FieldType.int)))
def mX0_allRips : MT := (0, yX0_allRips, cX0_allRips, 3, (some (FieldType.int)))
def mX0_showsAll : MT := (0, yX0_showsAll, cX0_showsAll, 3, (some (FieldType.boolean)))
def mX0_showsBehind : MT := (0, yX0_showsBehind, cX0_showsBehind, 5, (some (FieldType.boolean)))
def mX1_init : MT := (1, yX1_init, cX1_init, 1, none)
def mX1_has : MT := (1, yX1_has, cX1_has, 2, (some (FieldType.boolean)))
def mX1_take : MT := (1, yX1_take, cX1_take, 4, none)
def mX2_init : MT := (2, yX2_init, cX2_init, 1, none)
def mX2_isSheet : MT := (2, yX2_isSheet, cX2_isSheet, 1, (some (FieldType.boolean)))
def mX2_isForm : MT := (2, yX2_isForm, cX2_isForm, 1, (some (FieldType.boolean)))
def mX2_isLost : MT := (2, yX2_isLost, cX2_isLost, 2, (some (FieldType.boolean)))
def mX2_lay : MT := (2, yX2_lay, cX2_lay, 4, none)
def mX2_findingAt : MT := (2, yX2_findingAt, cX2_findingAt, 4, (some (FieldType.int)))
def mX2_hasItems : MT := (2, yX2_hasItems, cX2_hasItems, 4, (some (FieldType.boolean)))
def mX2_store : MT := (2, yX2_store, cX2_store, 4, none)
def mX3_init : MT := (3, yX3_init, cX3_init, 3, none)
def mX3_append : MT := (3, yX3_append, cX3_append, 2, (some (FieldType.boolean)))
def mX3_firstFault : MT := (3, yX3_firstFault, cX3_firstFault, 3, (some (FieldType.int)))
def mX3_goesOnInPeople : MT := (3, yX3_goesOnInPeople, cX3_goesOnInPeople, 2, (some (FieldType.boolean)))
def mX3_goesOnInPromises : MT := (3, yX3_goesOnInPromises, cX3_goesOnInPromises, 2, (some (FieldType.boolean)))
def mX4_init : MT := (4, yX4_init, cX4_init, 2, none)
def mX4_isFull : MT := (4, yX4_isFull, cX4_isFull, 1, (some (FieldType.boolean)))
def mX4_add : MT := (4, yX4_add, cX4_add, 4, (some (FieldType.int)))
def mX4_dropLast : MT := (4, yX4_dropLast, cX4_dropLast, 1, (some (FieldType.int)))
def mX5_init : MT := (5, yX5_init, cX5_init, 1, none)
def mX5_has : MT := (5, yX5_has, cX5_has, 2, (some (FieldType.boolean)))
def mX5_take : MT := (5, yX5_take, cX5_take, 5, none)
def mX5_add : MT := (5, yX5_add, cX5_add, 5, none)
def mX5_dropLast : MT := (5, yX5_dropLast, cX5_dropLast, 1, none)
def mX6_init : MT := (6, yX6_init, cX6_init, 1, none)
def mX6_type : MT := (6, yX6_type, cX6_type, 3, (some (FieldType.int)))
def mX6_wipe : MT := (6, yX6_wipe, cX6_wipe, 3, (some (FieldType.int)))
def mX6_undo : MT := (6, yX6_undo, cX6_undo, 2, (some (FieldType.int)))
def mX6_fault : MT := (6, yX6_fault, cX6_fault, 2, (some (FieldType.int)))
def mX6_person : MT := (6, yX6_person, cX6_person, 3, (some (FieldType.int)))
def mX6_promise : MT := (6, yX6_promise, cX6_promise, 3, (some (FieldType.int)))
def mX6_keeping : MT := (6, yX6_keeping, cX6_keeping, 3, (some (FieldType.int)))
def mX6_lie : MT := (6, yX6_lie, cX6_lie, 4, (some (FieldType.int)))
def mX6_letting : MT := (6, yX6_letting, cX6_letting, 4, (some (FieldType.int)))
def mX6_back : MT := (6, yX6_back, cX6_back, 3, (some (FieldType.int)))
def mX6_read : MT := (6, yX6_read, cX6_read, 6, (some (FieldType.int)))
def mX6_coat : MT := (6, yX6_coat, cX6_coat, 4, (some (FieldType.int)))
def mX6_stands : MT := (6, yX6_stands, cX6_stands, 3, (some (FieldType.int)))
def mX6_neat : MT := (6, yX6_neat, cX6_neat, 2, (some (FieldType.int)))
def mX6_naked : MT := (6, yX6_naked, cX6_naked, 2, (some (FieldType.int)))
def mX6_longest : MT := (6, yX6_longest, cX6_longest, 5, (some (FieldType.int)))
def mX6_splits : MT := (6, yX6_splits, cX6_splits, 1, (some (FieldType.int)))
def mX6_best : MT := (6, yX6_best, cX6_best, 5, (some (FieldType.int)))
def mX6_swear : MT := (6, yX6_swear, cX6_swear, 5, (some (FieldType.int)))
def mX6_keep : MT := (6, yX6_keep, cX6_keep, 7, (some (FieldType.int)))
def mX6_due : MT := (6, yX6_due, cX6_due, 7, (some (FieldType.int)))
def mX6_hush : MT := (6, yX6_hush, cX6_hush, 5, (some (FieldType.int)))
def mX6_seen : MT := (6, yX6_seen, cX6_seen, 4, (some (FieldType.int)))
def mX6_forget : MT := (6, yX6_forget, cX6_forget, 2, (some (FieldType.int)))
def mX6_never : MT := (6, yX6_never, cX6_never, 3, (some (FieldType.int)))
def mX6_was : MT := (6, yX6_was, cX6_was, 3, (some (FieldType.int)))
def mX6_ask : MT := (6, yX6_ask, cX6_ask, 7, (some (FieldType.int)))
def mX6_word : MT := (6, yX6_word, cX6_word, 11, (some (FieldType.long)))
def mX6_year : MT := (6, yX6_year, cX6_year, 4, (some (FieldType.int)))
def mX6_sheet : MT := (6, yX6_sheet, cX6_sheet, 4, (some (FieldType.int)))
def mX6_lose : MT := (6, yX6_lose, cX6_lose, 2, (some (FieldType.int)))
def mX6_put : MT := (6, yX6_put, cX6_put, 6, (some (FieldType.int)))
def mX6_get : MT := (6, yX6_get, cX6_get, 5, (some (FieldType.int)))
def mX6_copy : MT := (6, yX6_copy, cX6_copy, 6, (some (FieldType.int)))
def mX6_write : MT := (6, yX6_write, cX6_write, 5, (some (FieldType.int)))
def mX6_count : MT := (6, yX6_count, cX6_count, 2, (some (FieldType.int)))
def mX6_digest : MT := (6, yX6_digest, cX6_digest, 4, (some (FieldType.long)))
def mX6_isUpTo : MT := (6, yX6_isUpTo, cX6_isUpTo, 2, (some (FieldType.boolean)))
def mX6_isText : MT := (6, yX6_isText, cX6_isText, 1, (some (FieldType.boolean)))
def mX6_isDay : MT := (6, yX6_isDay, cX6_isDay, 1, (some (FieldType.boolean)))
def mX6_isGreat : MT := (6, yX6_isGreat, cX6_isGreat, 1, (some (FieldType.boolean)))
def mX6_mayBePerson : MT := (6, yX6_mayBePerson, cX6_mayBePerson, 1, (some (FieldType.boolean)))
def mX6_mayBeKeeping : MT := (6, yX6_mayBeKeeping, cX6_mayBeKeeping, 2, (some (FieldType.boolean)))
def mX6_textOf : MT := (6, yX6_textOf, cX6_textOf, 2, (some (FieldType.object "PromiseTailor$Text")))
def mX6_takeTexts : MT := (6, yX6_takeTexts, cX6_takeTexts, 1, none)
def mX6_found : MT := (6, yX6_found, cX6_found, 2, (some (FieldType.int)))
def mX6_liveUntil : MT := (6, yX6_liveUntil, cX6_liveUntil, 2, none)
def mX6_liesToHush : MT := (6, yX6_liesToHush, cX6_liesToHush, 3, (some (FieldType.int)))
def mX6_leavesNobodyNaked : MT := (6, yX6_leavesNobodyNaked, cX6_leavesNobodyNaked, 2, (some (FieldType.boolean)))
def mX6_fittingValues : MT := (6, yX6_fittingValues, cX6_fittingValues, 7, (some (FieldType.int)))
def mX6_noteCoatsBySize : MT := (6, yX6_noteCoatsBySize, cX6_noteCoatsBySize, 5, none)
def mX6_mostAlike : MT := (6, yX6_mostAlike, cX6_mostAlike, 8, (some (FieldType.int)))
def mX6_keepingsOf : MT := (6, yX6_keepingsOf, cX6_keepingsOf, 5, (some (FieldType.int)))
def mX6_weight : MT := (6, yX6_weight, cX6_weight, 6, (some (FieldType.long)))
def mX6_drawKeepings : MT := (6, yX6_drawKeepings, cX6_drawKeepings, 6, none)
def mX6_nextSeed : MT := (6, yX6_nextSeed, cX6_nextSeed, 1, (some (FieldType.int)))
def mX6_mixed : MT := (6, yX6_mixed, cX6_mixed, 4, (some (FieldType.long)))
def mX6_withPromise : MT := (6, yX6_withPromise, cX6_withPromise, 7, (some (FieldType.long)))
def mX6_withPerson : MT := (6, yX6_withPerson, cX6_withPerson, 6, (some (FieldType.long)))
def mX6_withCoat : MT := (6, yX6_withCoat, cX6_withCoat, 7, (some (FieldType.long)))
def mX7_init : MT := (7, yX7_init, cX7_init, 1, none)
def mX7_in : MT := (7, yX7_in, cX7_in, 3, (some (FieldType.boolean)))
def mX7_isIn : MT := (7, yX7_isIn, cX7_isIn, 2, (some (FieldType.boolean)))
def mX7_no : MT := (7, yX7_no, cX7_no, 1, (some (FieldType.long)))
def mX7_lowest : MT := (7, yX7_lowest, cX7_lowest, 11, (some (FieldType.long)))
def mX7_isText : MT := (7, yX7_isText, cX7_isText, 1, (some (FieldType.boolean)))
def mX7_isDay : MT := (7, yX7_isDay, cX7_isDay, 1, (some (FieldType.boolean)))
def mX7_isEight : MT := (7, yX7_isEight, cX7_isEight, 1, (some (FieldType.boolean)))
def mX7_type : MT := (7, yX7_type, cX7_type, 3, (some (FieldType.int)))
def mX7_wipe : MT := (7, yX7_wipe, cX7_wipe, 3, (some (FieldType.int)))
def mX7_undo : MT := (7, yX7_undo, cX7_undo, 2, (some (FieldType.int)))
def mX7_byteAt : MT := (7, yX7_byteAt, cX7_byteAt, 3, (some (FieldType.int)))
def mX7_readsPerson : MT := (7, yX7_readsPerson, cX7_readsPerson, 6, (some (FieldType.int)))
def mX7_readsPromise : MT := (7, yX7_readsPromise, cX7_readsPromise, 7, (some (FieldType.int)))
def mX7_readsParts : MT := (7, yX7_readsParts, cX7_readsParts, 6, (some (FieldType.int)))
def mX7_faultOf : MT := (7, yX7_faultOf, cX7_faultOf, 4, (some (FieldType.int)))
def mX7_reads : MT := (7, yX7_reads, cX7_reads, 2, none)
def mX7_fault : MT := (7, yX7_fault, cX7_fault, 2, (some (FieldType.int)))
def mX7_isPerson : MT := (7, yX7_isPerson, cX7_isPerson, 2, (some (FieldType.boolean)))
def mX7_isPromise : MT := (7, yX7_isPromise, cX7_isPromise, 2, (some (FieldType.boolean)))
def mX7_personOf : MT := (7, yX7_personOf, cX7_personOf, 3, (some (FieldType.int)))
def mX7_person : MT := (7, yX7_person, cX7_person, 3, (some (FieldType.int)))
def mX7_promiseOf : MT := (7, yX7_promiseOf, cX7_promiseOf, 3, (some (FieldType.int)))
def mX7_promise : MT := (7, yX7_promise, cX7_promise, 3, (some (FieldType.int)))
def mX7_keeping : MT := (7, yX7_keeping, cX7_keeping, 3, (some (FieldType.int)))
def mX7_lie : MT := (7, yX7_lie, cX7_lie, 4, (some (FieldType.int)))
def mX7_letting : MT := (7, yX7_letting, cX7_letting, 4, (some (FieldType.int)))
def mX7_back : MT := (7, yX7_back, cX7_back, 3, (some (FieldType.int)))
def mX7_read : MT := (7, yX7_read, cX7_read, 3, (some (FieldType.int)))
def mX7_asTold : MT := (7, yX7_asTold, cX7_asTold, 2, none)
def mX7_changes : MT := (7, yX7_changes, cX7_changes, 4, none)
def mX7_lengthOf : MT := (7, yX7_lengthOf, cX7_lengthOf, 3, (some (FieldType.int)))
def mX7_makes : MT := (7, yX7_makes, cX7_makes, 3, none)
def mX7_isKept : MT := (7, yX7_isKept, cX7_isKept, 5, none)
def mX7_keepsOn : MT := (7, yX7_keepsOn, cX7_keepsOn, 4, none)
def mX7_breaks : MT := (7, yX7_breaks, cX7_breaks, 4, none)
def mX7_goesBy : MT := (7, yX7_goesBy, cX7_goesBy, 3, none)
def mX7_runs : MT := (7, yX7_runs, cX7_runs, 2, none)
def mX7_runsTold : MT := (7, yX7_runsTold, cX7_runsTold, 1, none)
def mX7_fitsOn : MT := (7, yX7_fitsOn, cX7_fitsOn, 3, (some (FieldType.boolean)))
def mX7_fitMany : MT := (7, yX7_fitMany, cX7_fitMany, 4, (some (FieldType.int)))
def mX7_coatOf : MT := (7, yX7_coatOf, cX7_coatOf, 4, (some (FieldType.int)))
def mX7_coat : MT := (7, yX7_coat, cX7_coat, 4, (some (FieldType.int)))
def mX7_standsOf : MT := (7, yX7_standsOf, cX7_standsOf, 3, (some (FieldType.int)))
def mX7_stands : MT := (7, yX7_stands, cX7_stands, 3, (some (FieldType.int)))
def mX7_neatOf : MT := (7, yX7_neatOf, cX7_neatOf, 4, (some (FieldType.int)))
def mX7_neat : MT := (7, yX7_neat, cX7_neat, 2, (some (FieldType.int)))
def mX7_nakedNow : MT := (7, yX7_nakedNow, cX7_nakedNow, 4, (some (FieldType.int)))
def mX7_nakedOf : MT := (7, yX7_nakedOf, cX7_nakedOf, 2, (some (FieldType.int)))
def mX7_naked : MT := (7, yX7_naked, cX7_naked, 2, (some (FieldType.int)))
def mX7_longestOf : MT := (7, yX7_longestOf, cX7_longestOf, 4, (some (FieldType.int)))
def mX7_longest : MT := (7, yX7_longest, cX7_longest, 2, (some (FieldType.int)))
def mX7_tearsAll : MT := (7, yX7_tearsAll, cX7_tearsAll, 3, (some (FieldType.int)))
def mX7_splitsOf : MT := (7, yX7_splitsOf, cX7_splitsOf, 1, (some (FieldType.int)))
def mX7_splits : MT := (7, yX7_splits, cX7_splits, 1, (some (FieldType.int)))
def mX7_bestNow : MT := (7, yX7_bestNow, cX7_bestNow, 3, (some (FieldType.int)))
def mX7_best : MT := (7, yX7_best, cX7_best, 1, (some (FieldType.int)))
def mX7_swearOf : MT := (7, yX7_swearOf, cX7_swearOf, 6, (some (FieldType.int)))
def mX7_swear : MT := (7, yX7_swear, cX7_swear, 3, (some (FieldType.int)))
def mX7_keepBest : MT := (7, yX7_keepBest, cX7_keepBest, 7, (some (FieldType.int)))
def mX7_keep : MT := (7, yX7_keep, cX7_keep, 3, (some (FieldType.int)))
def mX7_dueOf : MT := (7, yX7_dueOf, cX7_dueOf, 8, (some (FieldType.int)))
def mX7_due : MT := (7, yX7_due, cX7_due, 3, (some (FieldType.int)))
def mX7_isHushed : MT := (7, yX7_isHushed, cX7_isHushed, 2, (some (FieldType.boolean)))
def mX7_hushBy : MT := (7, yX7_hushBy, cX7_hushBy, 3, (some (FieldType.int)))
def mX7_ofRow : MT := (7, yX7_ofRow, cX7_ofRow, 3, (some (FieldType.int)))
def mX7_hush : MT := (7, yX7_hush, cX7_hush, 2, (some (FieldType.int)))
def mX7_seen : MT := (7, yX7_seen, cX7_seen, 4, (some (FieldType.int)))
def mX7_forget : MT := (7, yX7_forget, cX7_forget, 2, (some (FieldType.int)))
def mX7_isSeen : MT := (7, yX7_isSeen, cX7_isSeen, 3, (some (FieldType.boolean)))
def mX7_neverNow : MT := (7, yX7_neverNow, cX7_neverNow, 3, (some (FieldType.int)))
def mX7_never : MT := (7, yX7_never, cX7_never, 1, (some (FieldType.int)))
def mX7_sizesBy : MT := (7, yX7_sizesBy, cX7_sizesBy, 6, (some (FieldType.int)))
def mX7_sortsBy : MT := (7, yX7_sortsBy, cX7_sortsBy, 5, (some (FieldType.int)))
def mX7_was : MT := (7, yX7_was, cX7_was, 3, (some (FieldType.int)))
def mX7_askOf : MT := (7, yX7_askOf, cX7_askOf, 10, (some (FieldType.int)))
def mX7_ask : MT := (7, yX7_ask, cX7_ask, 2, (some (FieldType.int)))
def mX7_wordOf : MT := (7, yX7_wordOf, cX7_wordOf, 11, (some (FieldType.long)))
def mX7_word : MT := (7, yX7_word, cX7_word, 5, (some (FieldType.long)))
def mX7_yearOf : MT := (7, yX7_yearOf, cX7_yearOf, 7, (some (FieldType.int)))
def mX7_year : MT := (7, yX7_year, cX7_year, 4, (some (FieldType.int)))
def mX7_meets : MT := (7, yX7_meets, cX7_meets, 2, (some (FieldType.int)))
def mX7_isSheet : MT := (7, yX7_isSheet, cX7_isSheet, 1, (some (FieldType.boolean)))
def mX7_sheet : MT := (7, yX7_sheet, cX7_sheet, 5, (some (FieldType.int)))
def mX7_lose : MT := (7, yX7_lose, cX7_lose, 2, (some (FieldType.int)))
def mX7_lacks : MT := (7, yX7_lacks, cX7_lacks, 4, (some (FieldType.int)))
def mX7_lays : MT := (7, yX7_lays, cX7_lays, 4, none)
def mX7_put : MT := (7, yX7_put, cX7_put, 6, (some (FieldType.int)))
def mX7_get : MT := (7, yX7_get, cX7_get, 5, (some (FieldType.int)))
def mX7_copy : MT := (7, yX7_copy, cX7_copy, 7, (some (FieldType.int)))
def mX7_write : MT := (7, yX7_write, cX7_write, 4, (some (FieldType.int)))
def mX7_sumOf : MT := (7, yX7_sumOf, cX7_sumOf, 2, (some (FieldType.int)))
def mX7_count : MT := (7, yX7_count, cX7_count, 2, (some (FieldType.int)))
def mX7_promiseDigest : MT := (7, yX7_promiseDigest, cX7_promiseDigest, 7, (some (FieldType.long)))
def mX7_coatDigest : MT := (7, yX7_coatDigest, cX7_coatDigest, 8, (some (FieldType.long)))
def mX7_personDigest : MT := (7, yX7_personDigest, cX7_personDigest, 6, (some (FieldType.long)))
def mX7_digest : MT := (7, yX7_digest, cX7_digest, 4, (some (FieldType.long)))
def mJ6_numberOfTrailingZeros_0f7a4 : MT := (8, yJ6_numberOfTrailingZeros_0f7a4, cJ6_numberOfTrailingZeros_0f7a4, 2, (some (FieldType.int)))
def mJ6_bitCount_0f7a4 : MT := (8, yJ6_bitCount_0f7a4, cJ6_bitCount_0f7a4, 1, (some (FieldType.int)))
def mJ7_fill_53178 : MT := (10, yJ7_fill_53178, cJ7_fill_53178, 4, none)
def mtL : List MT := [mX0_init, mX0_arrange, mX0_enterAll, mX0_enter, mX0_begin, mX0_advance, mX0_gain, mX0_fulfil, mX0_fail, mX0_lengthen, mX0_shorten, mX0_fits, mX0_fittingBits, mX0_nakedBits, mX0_allRips, mX0_showsAll, mX0_showsBehind, mX1_init, mX1_has, mX1_take, mX2_init, mX2_isSheet, mX2_isForm, mX2_isLost, mX2_lay, mX2_findingAt, mX2_hasItems, mX2_store, mX3_init, mX3_append, mX3_firstFault, mX3_goesOnInPeople, mX3_goesOnInPromises, mX4_init, mX4_isFull, mX4_add, mX4_dropLast, mX5_init, mX5_has, mX5_take, mX5_add, mX5_dropLast, mX6_init, mX6_type, mX6_wipe, mX6_undo, mX6_fault, mX6_person, mX6_promise, mX6_keeping, mX6_lie, mX6_letting, mX6_back, mX6_read, mX6_coat, mX6_stands, mX6_neat, mX6_naked, mX6_longest, mX6_splits, mX6_best, mX6_swear, mX6_keep, mX6_due, mX6_hush, mX6_seen, mX6_forget, mX6_never, mX6_was, mX6_ask, mX6_word, mX6_year, mX6_sheet, mX6_lose, mX6_put, mX6_get, mX6_copy, mX6_write, mX6_count, mX6_digest, mX6_isUpTo, mX6_isText, mX6_isDay, mX6_isGreat, mX6_mayBePerson, mX6_mayBeKeeping, mX6_textOf, mX6_takeTexts, mX6_found, mX6_liveUntil, mX6_liesToHush, mX6_leavesNobodyNaked, mX6_fittingValues, mX6_noteCoatsBySize, mX6_mostAlike, mX6_keepingsOf, mX6_weight, mX6_drawKeepings, mX6_nextSeed, mX6_mixed, mX6_withPromise, mX6_withPerson, mX6_withCoat, mX7_init, mX7_in, mX7_isIn, mX7_no, mX7_lowest, mX7_isText, mX7_isDay, mX7_isEight, mX7_type, mX7_wipe, mX7_undo, mX7_byteAt, mX7_readsPerson, mX7_readsPromise, mX7_readsParts, mX7_faultOf, mX7_reads, mX7_fault, mX7_isPerson, mX7_isPromise, mX7_personOf, mX7_person, mX7_promiseOf, mX7_promise, mX7_keeping, mX7_lie, mX7_letting, mX7_back, mX7_read, mX7_asTold, mX7_changes, mX7_lengthOf, mX7_makes, mX7_isKept, mX7_keepsOn, mX7_breaks, mX7_goesBy, mX7_runs, mX7_runsTold, mX7_fitsOn, mX7_fitMany, mX7_coatOf, mX7_coat, mX7_standsOf, mX7_stands, mX7_neatOf, mX7_neat, mX7_nakedNow, mX7_nakedOf, mX7_naked, mX7_longestOf, mX7_longest, mX7_tearsAll, mX7_splitsOf, mX7_splits, mX7_bestNow, mX7_best, mX7_swearOf, mX7_swear, mX7_keepBest, mX7_keep, mX7_dueOf, mX7_due, mX7_isHushed, mX7_hushBy, mX7_ofRow, mX7_hush, mX7_seen, mX7_forget, mX7_isSeen, mX7_neverNow, mX7_never, mX7_sizesBy, mX7_sortsBy, mX7_was, mX7_askOf, mX7_ask, mX7_wordOf, mX7_word, mX7_yearOf, mX7_year, mX7_meets, mX7_isSheet, mX7_sheet, mX7_lose, mX7_lacks, mX7_lays, mX7_put, mX7_get, mX7_copy, mX7_write, mX7_sumOf, mX7_count, mX7_promiseDigest, mX7_coatDigest, mX7_personDigest, mX7_digest, mJ6_numberOfTrailingZeros_0f7a4, mJ6_bitCount_0f7a4, mJ7_fill_53178]
def tX0_init : List (Option (Instr × Nat)) := [some (.aload_n 0, 1), some (.invokespecial 5, 3), none, none, some (.aload_n 0, 1), some (.new 11, 3), none, none, some (.dup, 1), some (.invokespecial 13, 3), none, none, some (.putfield 14, 3), none, none, some (.aload_n 0, 1), some (.new 20, 3), none, none, some (.dup, 1), some (.invokespecial 22, 3), none, none, some (.putfield 23, 3), none, none, some (.aload_n 0, 1), some (.new 1, 3), none, none, some (.dup, 1), some (.bipush 8, 2), none, some (.invokespecial 27, 3), none, none, some (.putfield 30, 3), none, none, some (.aload_n 0, 1), some (.new 1, 3), none, none, some (.dup, 1), some (.bipush 6, 2), none, some (.invokespecial 27, 3), none, none, some (.putfield 34, 3), none, none, some (.aload_n 0, 1), some (.new 1, 3), none, none, some (.dup, 1), some (.bipush 6, 2), none, some (.invokespecial 27, 3), none, none, some (.putfield 37, 3), none, none, some (.aload_n 0, 1), some (.bipush 49, 2), none, some (.newarray .int, 2), none, some (.putfield 40, 3), none, none, some (.aload_n 0, 1), some (.bipush 49, 2), none, some (.newarray .int, 2), none, some (.putfield 44, 3), none, none, some (.aload_n 0, 1), some (.bipush 8, 2), none, some (.newarray .int, 2), none, some (.putfield 47, 3), none, none, some (.aload_n 0, 1), some (.bipush 8, 2), none, some (.newarray .int, 2), none, some (.putfield 50, 3), none, none, some (.aload_n 0, 1), some (.bipush 11, 2), none, some (.newarray .int, 2), none, some (.putfield 53, 3), none, none, some (.aload_n 0, 1), some (.iconst 0, 1), some (.putfield 56, 3), none, none, some (.aload_n 0, 1), some (.iconst 0, 1), some (.putfield 60, 3), none, none, some (.aload_n 0, 1), some (.iconst 0, 1), some (.putfield 63, 3), none, none, some (.aload_n 0, 1), some (.iconst 0, 1), some (.putfield 66, 3), none, none, some (.aload_n 0, 1), some (.aload_n 0, 1), some (.getfield 30, 3), none, none, some (.putfield 69, 3), none, none, some (.return_, 1)]
def tX0_arrange : List (Option (Instr × Nat)) := [some (.aload_n 0, 1), some (.aload_n 1, 1), some (.putfield 69, 3), none, none, some (.aload_n 0, 1), some (.iconst 0, 1), some (.putfield 56, 3), none, none, some (.aload_n 0, 1), some (.iconst 0, 1), some (.putfield 63, 3), none, none, some (.aload_n 0, 1), some (.iconst 0, 1), some (.putfield 66, 3), none, none, some (.iconst 0, 1), some (.istore_n 2, 1), some (.iload_n 2, 1), some (.aload_n 0, 1), some (.getfield 23, 3), none, none, some (.getfield 72, 3), none, none, some (.if_icmp .ge 71, 3), none, none, some (.aload_n 0, 1), some (.getfield 14, 3), none, none, some (.aload_n 0, 1), some (.getfield 23, 3), none, none, some (.getfield 75, 3), none, none, some (.iload_n 2, 1), some (.iaload, 1), some (.invokevirtual 78, 3), none, none, some (.ifCond .eq 46, 3), none, none, some (.aload_n 0, 1), some (.aload_n 0, 1), some (.getfield 23, 3), none, none, some (.getfield 82, 3), none, none, some (.iload_n 2, 1), some (.iaload, 1), some (.iconst 0, 1), some (.iload_n 2, 1), some (.invokevirtual 85, 3), none, none, some (.aload_n 0, 1), some (.getfield 23, 3), none, none, some (.getfield 89, 3), none, none, some (.iload_n 2, 1), some (.iaload, 1), some (.iconst (-1), 1), some (.if_icmp .eq 18, 3), none, none, some (.aload_n 0, 1), some (.aload_n 0, 1), some (.getfield 23, 3), none, none, some (.getfield 89, 3), none, none, some (.iload_n 2, 1), some (.iaload, 1), some (.iconst 2, 1), some (.iload_n 2, 1), some (.invokevirtual 85, 3), none, none, some (.iinc 2 1, 3), none, none, some (.goto (-76), 3), none, none, some (.iconst 0, 1), some (.istore_n 2, 1), some (.iload_n 2, 1), some (.aload_n 0, 1), some (.getfield 69, 3), none, none, some (.getfield 92, 3), none, none, some (.if_icmp .ge 43, 3), none, none, some (.aload_n 0, 1), some (.getfield 23, 3), none, none, some (.aload_n 0, 1), some (.getfield 69, 3), none, none, some (.getfield 93, 3), none, none, some (.iload_n 2, 1), some (.iaload, 1), some (.invokevirtual 94, 3), none, none, some (.ifCond .eq 18, 3), none, none, some (.aload_n 0, 1), some (.aload_n 0, 1), some (.getfield 69, 3), none, none, some (.getfield 95, 3), none, none, some (.iload_n 2, 1), some (.iaload, 1), some (.iconst 1, 1), some (.iload_n 2, 1), some (.invokevirtual 85, 3), none, none, some (.iinc 2 1, 3), none, none, some (.goto (-48), 3), none, none, some (.aload_n 0, 1), some (.aload_n 0, 1), some (.getfield 34, 3), none, none, some (.iconst 3, 1), some (.invokevirtual 98, 3), none, none, some (.aload_n 0, 1), some (.aload_n 0, 1), some (.getfield 37, 3), none, none, some (.iconst 4, 1), some (.invokevirtual 98, 3), none, none, some (.return_, 1)]
def tX0_enterAll : List (Option (Instr × Nat)) := [some (.iconst 0, 1), some (.istore_n 3, 1), some (.iload_n 3, 1), some (.aload_n 1, 1), some (.getfield 92, 3), none, none, some (.if_icmp .ge 37, 3), none, none, some (.aload_n 0, 1), some (.getfield 14, 3), none, none, some (.aload_n 1, 1), some (.getfield 93, 3), none, none, some (.iload_n 3, 1), some (.iaload, 1), some (.invokevirtual 78, 3), none, none, some (.ifCond .eq 15, 3), none, none, some (.aload_n 0, 1), some (.aload_n 1, 1), some (.getfield 95, 3), none, none, some (.iload_n 3, 1), some (.iaload, 1), some (.iload_n 2, 1), some (.iload_n 3, 1), some (.invokevirtual 85, 3), none, none, some (.iinc 3 1, 3), none, none, some (.goto (-39), 3), none, none, some (.return_, 1)]
def tX0_enter : List (Option (Instr × Nat)) := [some (.aload_n 0, 1), some (.getfield 56, 3), none, none, some (.bipush 49, 2), none, some (.if_icmp .lt 4, 3), none, none, some (.return_, 1), some (.iconst 5, 1), some (.iload_n 1, 1), some (.imul, 1), some (.iload_n 2, 1), some (.iadd, 1), some (.istore 4, 2), none, some (.aload_n 0, 1), some (.getfield 56, 3), none, none, some (.istore 5, 2), none, some (.iload 5, 2), none, some (.ifCond .le 55, 3), none, none, some (.aload_n 0, 1), some (.getfield 40, 3), none, none, some (.iload 5, 2), none, some (.iconst 1, 1), some (.isub, 1), some (.iaload, 1), some (.iload 4, 2), none, some (.if_icmp .le 41, 3), none, none, some (.aload_n 0, 1), some (.getfield 40, 3), none, none, some (.iload 5, 2), none, some (.aload_n 0, 1), some (.getfield 40, 3), none, none, some (.iload 5, 2), none, some (.iconst 1, 1), some (.isub, 1), some (.iaload, 1), some (.iastore, 1), some (.aload_n 0, 1), some (.getfield 44, 3), none, none, some (.iload 5, 2), none, some (.aload_n 0, 1), some (.getfield 44, 3), none, none, some (.iload 5, 2), none, some (.iconst 1, 1), some (.isub, 1), some (.iaload, 1), some (.iastore, 1), some (.iinc 5 (-1), 3), none, none, some (.goto (-54), 3), none, none, some (.aload_n 0, 1), some (.getfield 40, 3), none, none, some (.iload 5, 2), none, some (.iload 4, 2), none, some (.iastore, 1), some (.aload_n 0, 1), some (.getfield 44, 3), none, none, some (.iload 5, 2), none, some (.iload_n 3, 1), some (.iastore, 1), some (.aload_n 0, 1), some (.dup, 1), some (.getfield 56, 3), none, none, some (.iconst 1, 1), some (.iadd, 1), some (.putfield 56, 3), none, none, some (.return_, 1)]
def tX0_begin : List (Option (Instr × Nat)) := [some (.aload_n 0, 1), some (.iconst 0, 1), some (.putfield 60, 3), none, none, some (.aload_n 0, 1), some (.getfield 14, 3), none, none, some (.getfield 102, 3), none, none, some (.iconst 0, 1), some (.aload_n 0, 1), some (.getfield 47, 3), none, none, some (.iconst 0, 1), some (.bipush 8, 2), none, some (.invokestatic 105, 3), none, none, some (.aload_n 0, 1), some (.getfield 50, 3), none, none, some (.iconst 0, 1), some (.invokestatic 111, 3), none, none, some (.aload_n 0, 1), some (.getfield 53, 3), none, none, some (.iconst 0, 1), some (.invokestatic 111, 3), none, none, some (.return_, 1)]
def tX0_advance : List (Option (Instr × Nat)) := [some (.aload_n 0, 1), some (.getfield 60, 3), none, none, some (.aload_n 0, 1), some (.getfield 56, 3), none, none, some (.if_icmp .ge 206, 3), none, none, some (.aload_n 0, 1), some (.getfield 40, 3), none, none, some (.aload_n 0, 1), some (.getfield 60, 3), none, none, some (.iaload, 1), some (.iconst 5, 1), some (.iload_n 1, 1), some (.iconst 1, 1), some (.iadd, 1), some (.imul, 1), some (.if_icmp .ge 189, 3), none, none, some (.aload_n 0, 1), some (.getfield 44, 3), none, none, some (.aload_n 0, 1), some (.getfield 60, 3), none, none, some (.iaload, 1), some (.istore_n 2, 1), some (.aload_n 0, 1), some (.getfield 40, 3), none, none, some (.aload_n 0, 1), some (.getfield 60, 3), none, none, some (.iaload, 1), some (.iconst 5, 1), some (.irem, 1), some (.tableswitch 130 0 3 #[31, 59, 86, 94], 31), none, none, none, none, none, none, none, none, none, none, none, none, none, none, none, none, none, none, none, none, none, none, none, none, none, none, none, none, none, none, some (.aload_n 0, 1), some (.getfield 53, 3), none, none, some (.iload_n 2, 1), some (.iconst 1, 1), some (.iastore, 1), some (.aload_n 0, 1), some (.aload_n 0, 1), some (.getfield 23, 3), none, none, some (.getfield 75, 3), none, none, some (.iload_n 2, 1), some (.iaload, 1), some (.aload_n 0, 1), some (.iload_n 2, 1), some (.invokevirtual 117, 3), none, none, some (.invokevirtual 121, 3), none, none, some (.goto 96, 3), none, none, some (.aload_n 0, 1), some (.getfield 63, 3), none, none, some (.iload_n 2, 1), some (.ishr, 1), some (.iconst 1, 1), some (.iand, 1), some (.ifCond .ne 85, 3), none, none, some (.aload_n 0, 1), some (.aload_n 0, 1), some (.getfield 69, 3), none, none, some (.getfield 93, 3), none, none, some (.iload_n 2, 1), some (.iaload, 1), some (.invokevirtual 125, 3), none, none, some (.goto 69, 3), none, none, some (.aload_n 0, 1), some (.iload_n 2, 1), some (.invokevirtual 128, 3), none, none, some (.goto 61, 3), none, none, some (.aload_n 0, 1), some (.getfield 66, 3), none, none, some (.iload_n 2, 1), some (.ishr, 1), some (.iconst 1, 1), some (.iand, 1), some (.ifCond .ne 50, 3), none, none, some (.aload_n 0, 1), some (.aload_n 0, 1), some (.getfield 34, 3), none, none, some (.getfield 93, 3), none, none, some (.iload_n 2, 1), some (.iaload, 1), some (.aload_n 0, 1), some (.getfield 34, 3), none, none, some (.getfield 131, 3), none, none, some (.iload_n 2, 1), some (.iaload, 1), some (.invokevirtual 134, 3), none, none, some (.goto 25, 3), none, none, some (.aload_n 0, 1), some (.aload_n 0, 1), some (.getfield 37, 3), none, none, some (.getfield 93, 3), none, none, some (.iload_n 2, 1), some (.iaload, 1), some (.aload_n 0, 1), some (.getfield 37, 3), none, none, some (.getfield 131, 3), none, none, some (.iload_n 2, 1), some (.iaload, 1), some (.invokevirtual 121, 3), none, none, some (.aload_n 0, 1), some (.dup, 1), some (.getfield 60, 3), none, none, some (.iconst 1, 1), some (.iadd, 1), some (.putfield 60, 3), none, none, some (.goto (-211), 3), none, none, some (.return_, 1)]
def tX0_gain : List (Option (Instr × Nat)) := [some (.aload_n 0, 1), some (.getfield 14, 3), none, none, some (.getfield 137, 3), none, none, some (.aload_n 0, 1), some (.getfield 23, 3), none, none, some (.getfield 75, 3), none, none, some (.iload_n 1, 1), some (.iaload, 1), some (.iaload, 1), some (.istore_n 2, 1), some (.aload_n 0, 1), some (.getfield 23, 3), none, none, some (.getfield 140, 3), none, none, some (.iload_n 1, 1), some (.iaload, 1), some (.istore_n 3, 1), some (.iload_n 2, 1), some (.iconst 1, 1), some (.if_icmp .ne 9, 3), none, none, some (.iconst 2, 1), some (.iload_n 3, 1), some (.imul, 1), some (.goto 15, 3), none, none, some (.iload_n 2, 1), some (.iconst 2, 1), some (.if_icmp .ne 7, 3), none, none, some (.iload_n 3, 1), some (.goto 6, 3), none, none, some (.iload_n 3, 1), some (.iconst 2, 1), some (.idiv, 1), some (.ireturn, 1)]
def tX0_fulfil : List (Option (Instr × Nat)) := [some (.aload_n 0, 1), some (.getfield 53, 3), none, none, some (.iload_n 1, 1), some (.iaload, 1), some (.iconst 1, 1), some (.if_icmp .eq 4, 3), none, none, some (.return_, 1), some (.aload_n 0, 1), some (.getfield 53, 3), none, none, some (.iload_n 1, 1), some (.iconst 2, 1), some (.iastore, 1), some (.aload_n 0, 1), some (.getfield 23, 3), none, none, some (.getfield 75, 3), none, none, some (.iload_n 1, 1), some (.iaload, 1), some (.istore_n 2, 1), some (.aload_n 0, 1), some (.getfield 14, 3), none, none, some (.getfield 102, 3), none, none, some (.iload_n 2, 1), some (.iaload, 1), some (.istore_n 3, 1), some (.aload_n 0, 1), some (.getfield 23, 3), none, none, some (.getfield 140, 3), none, none, some (.iload_n 1, 1), some (.iaload, 1), some (.istore 4, 2), none, some (.aload_n 0, 1), some (.getfield 47, 3), none, none, some (.iload_n 2, 1), some (.iaload, 1), some (.iload_n 3, 1), some (.if_icmp .le 25, 3), none, none, some (.aload_n 0, 1), some (.getfield 47, 3), none, none, some (.iload_n 2, 1), some (.iload_n 3, 1), some (.aload_n 0, 1), some (.getfield 47, 3), none, none, some (.iload_n 2, 1), some (.iaload, 1), some (.iload 4, 2), none, some (.isub, 1), some (.invokestatic 143, 3), none, none, some (.iastore, 1), some (.goto 22, 3), none, none, some (.aload_n 0, 1), some (.getfield 47, 3), none, none, some (.iload_n 2, 1), some (.iload_n 3, 1), some (.aload_n 0, 1), some (.getfield 47, 3), none, none, some (.iload_n 2, 1), some (.iaload, 1), some (.iload 4, 2), none, some (.iadd, 1), some (.invokestatic 149, 3), none, none, some (.iastore, 1), some (.return_, 1)]
def tX0_fail : List (Option (Instr × Nat)) := [some (.aload_n 0, 1), some (.getfield 53, 3), none, none, some (.iload_n 1, 1), some (.iaload, 1), some (.iconst 1, 1), some (.if_icmp .eq 4, 3), none, none, some (.return_, 1), some (.aload_n 0, 1), some (.getfield 53, 3), none, none, some (.iload_n 1, 1), some (.iconst 3, 1), some (.iastore, 1), some (.aload_n 0, 1), some (.getfield 23, 3), none, none, some (.getfield 75, 3), none, none, some (.iload_n 1, 1), some (.iaload, 1), some (.istore_n 2, 1), some (.aload_n 0, 1), some (.iload_n 2, 1), some (.aload_n 0, 1), some (.getfield 14, 3), none, none, some (.getfield 137, 3), none, none, some (.iload_n 2, 1), some (.iaload, 1), some (.iconst 2, 1), some (.if_icmp .ne 13, 3), none, none, some (.aload_n 0, 1), some (.iload_n 1, 1), some (.invokevirtual 117, 3), none, none, some (.iconst 2, 1), some (.iadd, 1), some (.goto 8, 3), none, none, some (.aload_n 0, 1), some (.iload_n 1, 1), some (.invokevirtual 117, 3), none, none, some (.invokevirtual 134, 3), none, none, some (.aload_n 0, 1), some (.getfield 50, 3), none, none, some (.iload_n 2, 1), some (.dup2, 1), some (.iaload, 1), some (.iconst 1, 1), some (.iadd, 1), some (.iastore, 1), some (.return_, 1)]
def tX0_lengthen : List (Option (Instr × Nat)) := [some (.aload_n 0, 1), some (.getfield 47, 3), none, none, some (.iload_n 1, 1), some (.iaload, 1), some (.iload_n 2, 1), some (.iadd, 1), some (.istore_n 3, 1), some (.aload_n 0, 1), some (.getfield 47, 3), none, none, some (.iload_n 1, 1), some (.iload_n 3, 1), some (.bipush 99, 2), none, some (.if_icmp .le 8, 3), none, none, some (.bipush 99, 2), none, some (.goto 4, 3), none, none, some (.iload_n 3, 1), some (.iastore, 1), some (.return_, 1)]
def tX0_shorten : List (Option (Instr × Nat)) := [some (.aload_n 0, 1), some (.getfield 47, 3), none, none, some (.iload_n 1, 1), some (.iaload, 1), some (.iload_n 2, 1), some (.isub, 1), some (.istore_n 3, 1), some (.aload_n 0, 1), some (.getfield 47, 3), none, none, some (.iload_n 1, 1), some (.iload_n 3, 1), some (.ifCond .ge 7, 3), none, none, some (.iconst 0, 1), some (.goto 4, 3), none, none, some (.iload_n 3, 1), some (.iastore, 1), some (.return_, 1)]
def tX0_fits : List (Option (Instr × Nat)) := [some (.aload_n 0, 1), some (.getfield 47, 3), none, none, some (.iload_n 1, 1), some (.iaload, 1), some (.aload_n 0, 1), some (.getfield 14, 3), none, none, some (.getfield 102, 3), none, none, some (.iload_n 1, 1), some (.iaload, 1), some (.isub, 1), some (.istore_n 2, 1), some (.iload_n 2, 1), some (.ifCond .eq 8, 3), none, none, some (.iload_n 2, 1), some (.iconst 1, 1), some (.if_icmp .ne 7, 3), none, none, some (.iconst 1, 1), some (.goto 4, 3), none, none, some (.iconst 0, 1), some (.ireturn, 1)]
def tX0_fittingBits : List (Option (Instr × Nat)) := [some (.iconst 0, 1), some (.istore_n 1, 1), some (.iconst 0, 1), some (.istore_n 2, 1), some (.iload_n 2, 1), some (.aload_n 0, 1), some (.getfield 14, 3), none, none, some (.getfield 152, 3), none, none, some (.if_icmp .ge 23, 3), none, none, some (.aload_n 0, 1), some (.iload_n 2, 1), some (.invokevirtual 153, 3), none, none, some (.ifCond .eq 9, 3), none, none, some (.iload_n 1, 1), some (.iconst 1, 1), some (.iload_n 2, 1), some (.ishl, 1), some (.ior, 1), some (.istore_n 1, 1), some (.iinc 2 1, 3), none, none, some (.goto (-28), 3), none, none, some (.iload_n 1, 1), some (.ireturn, 1)]
def tX0_nakedBits : List (Option (Instr × Nat)) := [some (.iconst 0, 1), some (.istore_n 1, 1), some (.iconst 0, 1), some (.istore_n 2, 1), some (.iload_n 2, 1), some (.aload_n 0, 1), some (.getfield 14, 3), none, none, some (.getfield 152, 3), none, none, some (.if_icmp .ge 24, 3), none, none, some (.aload_n 0, 1), some (.getfield 47, 3), none, none, some (.iload_n 2, 1), some (.iaload, 1), some (.ifCond .ne 9, 3), none, none, some (.iload_n 1, 1), some (.iconst 1, 1), some (.iload_n 2, 1), some (.ishl, 1), some (.ior, 1), some (.istore_n 1, 1), some (.iinc 2 1, 3), none, none, some (.goto (-29), 3), none, none, some (.iload_n 1, 1), some (.ireturn, 1)]
def tX0_allRips : List (Option (Instr × Nat)) := [some (.iconst 0, 1), some (.istore_n 1, 1), some (.iconst 0, 1), some (.istore_n 2, 1), some (.iload_n 2, 1), some (.aload_n 0, 1), some (.getfield 14, 3), none, none, some (.getfield 152, 3), none, none, some (.if_icmp .ge 18, 3), none, none, some (.iload_n 1, 1), some (.aload_n 0, 1), some (.getfield 50, 3), none, none, some (.iload_n 2, 1), some (.iaload, 1), some (.iadd, 1), some (.istore_n 1, 1), some (.iinc 2 1, 3), none, none, some (.goto (-23), 3), none, none, some (.iload_n 1, 1), some (.ireturn, 1)]
def tX0_showsAll : List (Option (Instr × Nat)) := [some (.aload_n 0, 1), some (.invokevirtual 156, 3), none, none, some (.iconst 0, 1), some (.istore_n 2, 1), some (.iload_n 2, 1), some (.bipush 24, 2), none, some (.if_icmp .ge 25, 3), none, none, some (.aload_n 0, 1), some (.iload_n 2, 1), some (.invokevirtual 159, 3), none, none, some (.aload_n 0, 1), some (.iload_n 2, 1), some (.aload_n 1, 1), some (.invokevirtual 162, 3), none, none, some (.ifCond .ne 5, 3), none, none, some (.iconst 0, 1), some (.ireturn, 1), some (.iinc 2 1, 3), none, none, some (.goto (-25), 3), none, none, some (.iconst 1, 1), some (.ireturn, 1)]
def tX0_showsBehind : List (Option (Instr × Nat)) := [some (.iconst 0, 1), some (.istore_n 3, 1), some (.iload_n 3, 1), some (.aload_n 2, 1), some (.getfield 92, 3), none, none, some (.if_icmp .ge 57, 3), none, none, some (.aload_n 2, 1), some (.getfield 93, 3), none, none, some (.iload_n 3, 1), some (.iaload, 1), some (.istore 4, 2), none, some (.aload_n 2, 1), some (.getfield 95, 3), none, none, some (.iload_n 3, 1), some (.iaload, 1), some (.iload_n 1, 1), some (.if_icmp .ne 33, 3), none, none, some (.aload_n 0, 1), some (.getfield 14, 3), none, none, some (.iload 4, 2), none, some (.invokevirtual 78, 3), none, none, some (.ifCond .eq 19, 3), none, none, some (.aload_n 0, 1), some (.getfield 47, 3), none, none, some (.iload 4, 2), none, some (.iaload, 1), some (.aload_n 2, 1), some (.getfield 131, 3), none, none, some (.iload_n 3, 1), some (.iaload, 1), some (.if_icmp .eq 5, 3), none, none, some (.iconst 0, 1), some (.ireturn, 1), some (.iinc 3 1, 3), none, none, some (.goto (-59), 3), none, none, some (.iconst 1, 1), some (.ireturn, 1)]
def tX1_init : List (Option (Instr × Nat)) := [some (.aload_n 0, 1), some (.invokespecial 3, 3), none, none, some (.aload_n 0, 1), some (.bipush 8, 2), none, some (.newarray .int, 2), none, some (.putfield 9, 3), none, none, some (.aload_n 0, 1), some (.bipush 8, 2), none, some (.newarray .int, 2), none, some (.putfield 15, 3), none, none, some (.aload_n 0, 1), some (.iconst 0, 1), some (.putfield 18, 3), none, none, some (.return_, 1)]
def tX1_has : List (Option (Instr × Nat)) := [some (.iload_n 1, 1), some (.ifCond .lt 15, 3), none, none, some (.iload_n 1, 1), some (.aload_n 0, 1), some (.getfield 18, 3), none, none, some (.if_icmp .ge 7, 3), none, none, some (.iconst 1, 1), some (.goto 4, 3), none, none, some (.iconst 0, 1), some (.ireturn, 1)]
def tX1_take : List (Option (Instr × Nat)) := [some (.aload_n 0, 1), some (.aload_n 1, 1), some (.invokevirtual 22, 3), none, none, some (.iconst (-1), 1), some (.if_icmp .ne 19, 3), none, none, some (.aload_n 1, 1), some (.getfield 28, 3), none, none, some (.iconst 1, 1), some (.iadd, 1), some (.iconst 3, 1), some (.idiv, 1), some (.bipush 8, 2), none, some (.invokestatic 31, 3), none, none, some (.goto 4, 3), none, none, some (.iconst 0, 1), some (.putfield 18, 3), none, none, some (.iconst 0, 1), some (.istore_n 2, 1), some (.iload_n 2, 1), some (.aload_n 0, 1), some (.getfield 18, 3), none, none, some (.if_icmp .ge 64, 3), none, none, some (.aload_n 1, 1), some (.getfield 37, 3), none, none, some (.iconst 3, 1), some (.iload_n 2, 1), some (.imul, 1), some (.iaload, 1), some (.istore_n 3, 1), some (.aload_n 0, 1), some (.getfield 9, 3), none, none, some (.iload_n 2, 1), some (.iload_n 3, 1), some (.bipush 115, 2), none, some (.if_icmp .ne 7, 3), none, none, some (.iconst 1, 1), some (.goto 14, 3), none, none, some (.iload_n 3, 1), some (.bipush 97, 2), none, some (.if_icmp .ne 7, 3), none, none, some (.iconst 2, 1), some (.goto 4, 3), none, none, some (.iconst 0, 1), some (.iastore, 1), some (.aload_n 0, 1), some (.getfield 15, 3), none, none, some (.iload_n 2, 1), some (.aload_n 1, 1), some (.getfield 37, 3), none, none, some (.iconst 3, 1), some (.iload_n 2, 1), some (.imul, 1), some (.iconst 1, 1), some (.iadd, 1), some (.iaload, 1), some (.bipush 48, 2), none, some (.isub, 1), some (.iastore, 1), some (.iinc 2 1, 3), none, none, some (.goto (-66), 3), none, none, some (.return_, 1)]
def tX2_init : List (Option (Instr × Nat)) := [some (.aload_n 0, 1), some (.invokespecial 3, 3), none, none, some (.aload_n 0, 1), some (.iconst 4, 1), some (.bipush 60, 2), none, some (.multianewarray 11 2, 4), none, none, none, some (.putfield 13, 3), none, none, some (.aload_n 0, 1), some (.iconst 4, 1), some (.newarray .int, 2), none, some (.putfield 16, 3), none, none, some (.aload_n 0, 1), some (.iconst 4, 1), some (.newarray .int, 2), none, some (.putfield 20, 3), none, none, some (.aload_n 0, 1), some (.getfield 20, 3), none, none, some (.iconst (-1), 1), some (.invokestatic 23, 3), none, none, some (.return_, 1)]
def tX2_isSheet : List (Option (Instr × Nat)) := [some (.iload_n 0, 1), some (.iconst 3, 1), some (.invokestatic 29, 3), none, none, some (.ireturn, 1)]
def tX2_isForm : List (Option (Instr × Nat)) := [some (.iload_n 0, 1), some (.iconst 2, 1), some (.invokestatic 29, 3), none, none, some (.ireturn, 1)]
def tX2_isLost : List (Option (Instr × Nat)) := [some (.aload_n 0, 1), some (.getfield 20, 3), none, none, some (.iload_n 1, 1), some (.iaload, 1), some (.iconst (-1), 1), some (.if_icmp .ne 7, 3), none, none, some (.iconst 1, 1), some (.goto 4, 3), none, none, some (.iconst 0, 1), some (.ireturn, 1)]
def tX2_lay : List (Option (Instr × Nat)) := [some (.aload_n 0, 1), some (.getfield 20, 3), none, none, some (.iload_n 1, 1), some (.iload_n 2, 1), some (.iastore, 1), some (.aload_n 0, 1), some (.getfield 16, 3), none, none, some (.iload_n 1, 1), some (.iload_n 3, 1), some (.iastore, 1), some (.aload_n 0, 1), some (.getfield 13, 3), none, none, some (.iload_n 1, 1), some (.aaload, 1), some (.iconst 0, 1), some (.invokestatic 23, 3), none, none, some (.return_, 1)]
def tX2_findingAt : List (Option (Instr × Nat)) := [some (.aload_n 0, 1), some (.iload_n 1, 1), some (.invokevirtual 33, 3), none, none, some (.ifCond .eq 5, 3), none, none, some (.iconst 1, 1), some (.ireturn, 1), some (.aload_n 0, 1), some (.getfield 20, 3), none, none, some (.iload_n 1, 1), some (.iaload, 1), some (.iload_n 2, 1), some (.if_icmp .eq 5, 3), none, none, some (.iconst 3, 1), some (.ireturn, 1), some (.aload_n 0, 1), some (.iload_n 1, 1), some (.iload_n 3, 1), some (.iconst 1, 1), some (.invokevirtual 37, 3), none, none, some (.ifCond .eq 7, 3), none, none, some (.iconst 0, 1), some (.goto 4, 3), none, none, some (.iconst 2, 1), some (.ireturn, 1)]
def tX2_hasItems : List (Option (Instr × Nat)) := [some (.iload_n 2, 1), some (.ifCond .lt 33, 3), none, none, some (.iload_n 3, 1), some (.ifCond .lt 29, 3), none, none, some (.iload_n 3, 1), some (.aload_n 0, 1), some (.getfield 16, 3), none, none, some (.iload_n 1, 1), some (.iaload, 1), some (.if_icmp .gt 19, 3), none, none, some (.iload_n 2, 1), some (.aload_n 0, 1), some (.getfield 16, 3), none, none, some (.iload_n 1, 1), some (.iaload, 1), some (.iload_n 3, 1), some (.isub, 1), some (.if_icmp .gt 7, 3), none, none, some (.iconst 1, 1), some (.goto 4, 3), none, none, some (.iconst 0, 1), some (.ireturn, 1)]
def tX2_store : List (Option (Instr × Nat)) := [some (.aload_n 0, 1), some (.getfield 13, 3), none, none, some (.iload_n 1, 1), some (.aaload, 1), some (.iload_n 2, 1), some (.aload_n 0, 1), some (.getfield 20, 3), none, none, some (.iload_n 1, 1), some (.iaload, 1), some (.ifCond .ne 8, 3), none, none, some (.iload_n 3, 1), some (.i2b, 1), some (.goto 19, 3), none, none, some (.aload_n 0, 1), some (.getfield 20, 3), none, none, some (.iload_n 1, 1), some (.iaload, 1), some (.iconst 1, 1), some (.if_icmp .ne 8, 3), none, none, some (.iload_n 3, 1), some (.i2s, 1), some (.goto 4, 3), none, none, some (.iload_n 3, 1), some (.iastore, 1), some (.return_, 1)]
def tX3_init : List (Option (Instr × Nat)) := [some (.aload_n 0, 1), some (.invokespecial 3, 3), none, none, some (.aload_n 0, 1), some (.bipush 49, 2), none, some (.newarray .int, 2), none, some (.putfield 9, 3), none, none, some (.aload_n 0, 1), some (.iconst 0, 1), some (.putfield 15, 3), none, none, some (.aload_n 0, 1), some (.iload_n 1, 1), some (.bipush 49, 2), none, some (.invokestatic 19, 3), none, none, some (.putfield 25, 3), none, none, some (.aload_n 0, 1), some (.iload_n 2, 1), some (.putfield 28, 3), none, none, some (.return_, 1)]
def tX3_append : List (Option (Instr × Nat)) := [some (.aload_n 0, 1), some (.getfield 15, 3), none, none, some (.aload_n 0, 1), some (.getfield 25, 3), none, none, some (.if_icmp .lt 5, 3), none, none, some (.iconst 0, 1), some (.ireturn, 1), some (.aload_n 0, 1), some (.getfield 9, 3), none, none, some (.aload_n 0, 1), some (.getfield 15, 3), none, none, some (.iload_n 1, 1), some (.iastore, 1), some (.aload_n 0, 1), some (.dup, 1), some (.getfield 15, 3), none, none, some (.iconst 1, 1), some (.iadd, 1), some (.putfield 15, 3), none, none, some (.iconst 1, 1), some (.ireturn, 1)]
def tX3_firstFault : List (Option (Instr × Nat)) := [some (.iconst 0, 1), some (.istore_n 1, 1), some (.iload_n 1, 1), some (.aload_n 0, 1), some (.getfield 15, 3), none, none, some (.if_icmp .ge 46, 3), none, none, some (.aload_n 0, 1), some (.getfield 28, 3), none, none, some (.ifCond .eq 16, 3), none, none, some (.iload_n 1, 1), some (.aload_n 0, 1), some (.getfield 9, 3), none, none, some (.iload_n 1, 1), some (.iaload, 1), some (.invokestatic 32, 3), none, none, some (.goto 13, 3), none, none, some (.iload_n 1, 1), some (.aload_n 0, 1), some (.getfield 9, 3), none, none, some (.iload_n 1, 1), some (.iaload, 1), some (.invokestatic 36, 3), none, none, some (.istore_n 2, 1), some (.iload_n 2, 1), some (.ifCond .ne 5, 3), none, none, some (.iload_n 1, 1), some (.ireturn, 1), some (.iinc 1 1, 3), none, none, some (.goto (-48), 3), none, none, some (.aload_n 0, 1), some (.getfield 15, 3), none, none, some (.ifCond .eq 33, 3), none, none, some (.aload_n 0, 1), some (.getfield 28, 3), none, none, some (.ifCond .eq 16, 3), none, none, some (.aload_n 0, 1), some (.getfield 15, 3), none, none, some (.iconst 5, 1), some (.irem, 1), some (.iconst 4, 1), some (.if_icmp .ne 20, 3), none, none, some (.goto 13, 3), none, none, some (.aload_n 0, 1), some (.getfield 15, 3), none, none, some (.iconst 3, 1), some (.irem, 1), some (.iconst 2, 1), some (.if_icmp .ne 7, 3), none, none, some (.iconst 1, 1), some (.goto 4, 3), none, none, some (.iconst 0, 1), some (.istore_n 1, 1), some (.iload_n 1, 1), some (.ifCond .eq 7, 3), none, none, some (.iconst (-1), 1), some (.goto 7, 3), none, none, some (.aload_n 0, 1), some (.getfield 15, 3), none, none, some (.ireturn, 1)]
def tX3_goesOnInPeople : List (Option (Instr × Nat)) := [some (.iload_n 0, 1), some (.iconst 3, 1), some (.irem, 1), some (.lookupswitch 67 #[(0, 25), (1, 49)], 25), none, none, none, none, none, none, none, none, none, none, none, none, none, none, none, none, none, none, none, none, none, none, none, none, some (.iload_n 1, 1), some (.bipush 109, 2), none, some (.if_icmp .eq 15, 3), none, none, some (.iload_n 1, 1), some (.bipush 115, 2), none, some (.if_icmp .eq 9, 3), none, none, some (.iload_n 1, 1), some (.bipush 97, 2), none, some (.if_icmp .ne 7, 3), none, none, some (.iconst 1, 1), some (.goto 4, 3), none, none, some (.iconst 0, 1), some (.ireturn, 1), some (.iload_n 1, 1), some (.bipush 48, 2), none, some (.if_icmp .lt 13, 3), none, none, some (.iload_n 1, 1), some (.bipush 57, 2), none, some (.if_icmp .gt 7, 3), none, none, some (.iconst 1, 1), some (.goto 4, 3), none, none, some (.iconst 0, 1), some (.ireturn, 1), some (.iload_n 1, 1), some (.bipush 59, 2), none, some (.if_icmp .ne 7, 3), none, none, some (.iconst 1, 1), some (.goto 4, 3), none, none, some (.iconst 0, 1), some (.ireturn, 1)]
def tX3_goesOnInPromises : List (Option (Instr × Nat)) := [some (.iload_n 0, 1), some (.iconst 5, 1), some (.irem, 1), some (.tableswitch 81 0 4 #[33, 51, 81, 81, 69], 33), none, none, none, none, none, none, none, none, none, none, none, none, none, none, none, none, none, none, none, none, none, none, none, none, none, none, none, none, none, none, none, none, some (.iload_n 1, 1), some (.bipush 97, 2), none, some (.if_icmp .lt 13, 3), none, none, some (.iload_n 1, 1), some (.bipush 104, 2), none, some (.if_icmp .gt 7, 3), none, none, some (.iconst 1, 1), some (.goto 4, 3), none, none, some (.iconst 0, 1), some (.ireturn, 1), some (.iload_n 1, 1), some (.bipush 49, 2), none, some (.if_icmp .lt 13, 3), none, none, some (.iload_n 1, 1), some (.bipush 57, 2), none, some (.if_icmp .gt 7, 3), none, none, some (.iconst 1, 1), some (.goto 4, 3), none, none, some (.iconst 0, 1), some (.ireturn, 1), some (.iload_n 1, 1), some (.bipush 59, 2), none, some (.if_icmp .ne 7, 3), none, none, some (.iconst 1, 1), some (.goto 4, 3), none, none, some (.iconst 0, 1), some (.ireturn, 1), some (.iload_n 1, 1), some (.bipush 97, 2), none, some (.if_icmp .lt 13, 3), none, none, some (.iload_n 1, 1), some (.bipush 120, 2), none, some (.if_icmp .gt 7, 3), none, none, some (.iconst 1, 1), some (.goto 4, 3), none, none, some (.iconst 0, 1), some (.ireturn, 1)]
def tX4_init : List (Option (Instr × Nat)) := [some (.aload_n 0, 1), some (.invokespecial 1, 3), none, none, some (.aload_n 0, 1), some (.bipush 9, 2), none, some (.newarray .int, 2), none, some (.putfield 9, 3), none, none, some (.aload_n 0, 1), some (.bipush 9, 2), none, some (.newarray .int, 2), none, some (.putfield 13, 3), none, none, some (.aload_n 0, 1), some (.bipush 9, 2), none, some (.newarray .int, 2), none, some (.putfield 16, 3), none, none, some (.aload_n 0, 1), some (.iconst 0, 1), some (.putfield 19, 3), none, none, some (.aload_n 0, 1), some (.iload_n 1, 1), some (.putfield 23, 3), none, none, some (.return_, 1)]
def tX4_isFull : List (Option (Instr × Nat)) := [some (.aload_n 0, 1), some (.getfield 19, 3), none, none, some (.aload_n 0, 1), some (.getfield 23, 3), none, none, some (.if_icmp .lt 7, 3), none, none, some (.iconst 1, 1), some (.goto 4, 3), none, none, some (.iconst 0, 1), some (.ireturn, 1)]
def tX4_add : List (Option (Instr × Nat)) := [some (.aload_n 0, 1), some (.getfield 19, 3), none, none, some (.bipush 9, 2), none, some (.if_icmp .ge 43, 3), none, none, some (.aload_n 0, 1), some (.getfield 9, 3), none, none, some (.aload_n 0, 1), some (.getfield 19, 3), none, none, some (.iload_n 1, 1), some (.iastore, 1), some (.aload_n 0, 1), some (.getfield 13, 3), none, none, some (.aload_n 0, 1), some (.getfield 19, 3), none, none, some (.iload_n 2, 1), some (.iastore, 1), some (.aload_n 0, 1), some (.getfield 16, 3), none, none, some (.aload_n 0, 1), some (.getfield 19, 3), none, none, some (.iload_n 3, 1), some (.iastore, 1), some (.aload_n 0, 1), some (.dup, 1), some (.getfield 19, 3), none, none, some (.iconst 1, 1), some (.iadd, 1), some (.putfield 19, 3), none, none, some (.aload_n 0, 1), some (.getfield 19, 3), none, none, some (.ireturn, 1)]
def tX4_dropLast : List (Option (Instr × Nat)) := [some (.aload_n 0, 1), some (.getfield 19, 3), none, none, some (.ifCond .le 13, 3), none, none, some (.aload_n 0, 1), some (.dup, 1), some (.getfield 19, 3), none, none, some (.iconst 1, 1), some (.isub, 1), some (.putfield 19, 3), none, none, some (.aload_n 0, 1), some (.getfield 19, 3), none, none, some (.ireturn, 1)]
def tX5_init : List (Option (Instr × Nat)) := [some (.aload_n 0, 1), some (.invokespecial 3, 3), none, none, some (.aload_n 0, 1), some (.bipush 11, 2), none, some (.newarray .int, 2), none, some (.putfield 9, 3), none, none, some (.aload_n 0, 1), some (.bipush 11, 2), none, some (.newarray .int, 2), none, some (.putfield 15, 3), none, none, some (.aload_n 0, 1), some (.bipush 11, 2), none, some (.newarray .int, 2), none, some (.putfield 18, 3), none, none, some (.aload_n 0, 1), some (.bipush 11, 2), none, some (.newarray .int, 2), none, some (.putfield 21, 3), none, none, some (.aload_n 0, 1), some (.iconst 0, 1), some (.putfield 24, 3), none, none, some (.return_, 1)]
def tX5_has : List (Option (Instr × Nat)) := [some (.iload_n 1, 1), some (.ifCond .lt 15, 3), none, none, some (.iload_n 1, 1), some (.aload_n 0, 1), some (.getfield 24, 3), none, none, some (.if_icmp .ge 7, 3), none, none, some (.iconst 1, 1), some (.goto 4, 3), none, none, some (.iconst 0, 1), some (.ireturn, 1)]
def tX5_take : List (Option (Instr × Nat)) := [some (.aload_n 1, 1), some (.invokevirtual 28, 3), none, none, some (.iconst (-1), 1), some (.if_icmp .ne 19, 3), none, none, some (.aload_n 1, 1), some (.getfield 34, 3), none, none, some (.iconst 1, 1), some (.iadd, 1), some (.iconst 5, 1), some (.idiv, 1), some (.bipush 10, 2), none, some (.invokestatic 37, 3), none, none, some (.goto 4, 3), none, none, some (.iconst 0, 1), some (.istore_n 2, 1), some (.aload_n 0, 1), some (.iconst 0, 1), some (.putfield 24, 3), none, none, some (.iconst 0, 1), some (.istore_n 3, 1), some (.iload_n 3, 1), some (.iload_n 2, 1), some (.if_icmp .ge 64, 3), none, none, some (.iconst 5, 1), some (.iload_n 3, 1), some (.imul, 1), some (.istore 4, 2), none, some (.aload_n 0, 1), some (.aload_n 1, 1), some (.getfield 43, 3), none, none, some (.iload 4, 2), none, some (.iaload, 1), some (.bipush 97, 2), none, some (.isub, 1), some (.aload_n 1, 1), some (.getfield 43, 3), none, none, some (.iload 4, 2), none, some (.iconst 1, 1), some (.iadd, 1), some (.iaload, 1), some (.bipush 48, 2), none, some (.isub, 1), some (.aload_n 1, 1), some (.getfield 43, 3), none, none, some (.iload 4, 2), none, some (.iconst 2, 1), some (.iadd, 1), some (.iaload, 1), some (.bipush 97, 2), none, some (.isub, 1), some (.aload_n 1, 1), some (.getfield 43, 3), none, none, some (.iload 4, 2), none, some (.iconst 3, 1), some (.iadd, 1), some (.iaload, 1), some (.bipush 97, 2), none, some (.isub, 1), some (.invokevirtual 46, 3), none, none, some (.iinc 3 1, 3), none, none, some (.goto (-63), 3), none, none, some (.return_, 1)]
def tX5_add : List (Option (Instr × Nat)) := [some (.aload_n 0, 1), some (.getfield 24, 3), none, none, some (.bipush 10, 2), none, some (.if_icmp .gt 54, 3), none, none, some (.aload_n 0, 1), some (.getfield 9, 3), none, none, some (.aload_n 0, 1), some (.getfield 24, 3), none, none, some (.iload_n 1, 1), some (.iastore, 1), some (.aload_n 0, 1), some (.getfield 15, 3), none, none, some (.aload_n 0, 1), some (.getfield 24, 3), none, none, some (.iload_n 2, 1), some (.iastore, 1), some (.aload_n 0, 1), some (.getfield 18, 3), none, none, some (.aload_n 0, 1), some (.getfield 24, 3), none, none, some (.iload_n 3, 1), some (.iastore, 1), some (.aload_n 0, 1), some (.getfield 21, 3), none, none, some (.aload_n 0, 1), some (.getfield 24, 3), none, none, some (.iload 4, 2), none, some (.iastore, 1), some (.aload_n 0, 1), some (.dup, 1), some (.getfield 24, 3), none, none, some (.iconst 1, 1), some (.iadd, 1), some (.putfield 24, 3), none, none, some (.return_, 1)]
def tX5_dropLast : List (Option (Instr × Nat)) := [some (.aload_n 0, 1), some (.getfield 24, 3), none, none, some (.ifCond .le 13, 3), none, none, some (.aload_n 0, 1), some (.dup, 1), some (.getfield 24, 3), none, none, some (.iconst 1, 1), some (.isub, 1), some (.putfield 24, 3), none, none, some (.return_, 1)]
def tX6_init : List (Option (Instr × Nat)) := [some (.aload_n 0, 1), some (.invokespecial 1, 3), none, none, some (.aload_n 0, 1), some (.new 7, 3), none, none, some (.dup, 1), some (.bipush 23, 2), none, some (.iconst 0, 1), some (.invokespecial 11, 3), none, none, some (.putfield 14, 3), none, none, some (.aload_n 0, 1), some (.new 7, 3), none, none, some (.dup, 1), some (.bipush 49, 2), none, some (.iconst 1, 1), some (.invokespecial 11, 3), none, none, some (.putfield 18, 3), none, none, some (.aload_n 0, 1), some (.new 21, 3), none, none, some (.dup, 1), some (.invokespecial 23, 3), none, none, some (.putfield 24, 3), none, none, some (.aload_n 0, 1), some (.aload_n 0, 1), some (.getfield 24, 3), none, none, some (.getfield 28, 3), none, none, some (.putfield 32, 3), none, none, some (.aload_n 0, 1), some (.aload_n 0, 1), some (.getfield 24, 3), none, none, some (.getfield 33, 3), none, none, some (.putfield 37, 3), none, none, some (.aload_n 0, 1), some (.aload_n 0, 1), some (.getfield 24, 3), none, none, some (.getfield 38, 3), none, none, some (.putfield 42, 3), none, none, some (.aload_n 0, 1), some (.aload_n 0, 1), some (.getfield 24, 3), none, none, some (.getfield 43, 3), none, none, some (.putfield 46, 3), none, none, some (.aload_n 0, 1), some (.aload_n 0, 1), some (.getfield 24, 3), none, none, some (.getfield 47, 3), none, none, some (.putfield 50, 3), none, none, some (.aload_n 0, 1), some (.new 51, 3), none, none, some (.dup, 1), some (.bipush 8, 2), none, some (.invokespecial 53, 3), none, none, some (.putfield 56, 3), none, none, some (.aload_n 0, 1), some (.new 51, 3), none, none, some (.dup, 1), some (.bipush 8, 2), none, some (.invokespecial 53, 3), none, none, some (.putfield 59, 3), none, none, some (.aload_n 0, 1), some (.new 62, 3), none, none, some (.dup, 1), some (.invokespecial 64, 3), none, none, some (.putfield 65, 3), none, none, some (.aload_n 0, 1), some (.bipush 10, 2), none, some (.bipush 24, 2), none, some (.multianewarray 69 2, 4), none, none, none, some (.putfield 71, 3), none, none, some (.aload_n 0, 1), some (.iconst 0, 1), some (.putfield 74, 3), none, none, some (.return_, 1)]
def tX6_type : List (Option (Instr × Nat)) := [some (.iload_n 1, 1), some (.invokestatic 78, 3), none, none, some (.ifCond .eq 13, 3), none, none, some (.iload_n 2, 1), some (.sipush 255, 3), none, none, some (.invokestatic 82, 3), none, none, some (.ifCond .ne 6, 3), none, none, some (.bipush (-2), 2), none, some (.ireturn, 1), some (.aload_n 0, 1), some (.iload_n 1, 1), some (.invokevirtual 86, 3), none, none, some (.iload_n 2, 1), some (.invokevirtual 90, 3), none, none, some (.ifCond .ne 6, 3), none, none, some (.bipush (-4), 2), none, some (.ireturn, 1), some (.aload_n 0, 1), some (.invokevirtual 93, 3), none, none, some (.aload_n 0, 1), some (.iload_n 1, 1), some (.invokevirtual 86, 3), none, none, some (.getfield 96, 3), none, none, some (.ireturn, 1)]
def tX6_wipe : List (Option (Instr × Nat)) := [some (.iload_n 1, 1), some (.invokestatic 78, 3), none, none, some (.ifCond .ne 6, 3), none, none, some (.bipush (-2), 2), none, some (.ireturn, 1), some (.aload_n 0, 1), some (.iload_n 1, 1), some (.invokevirtual 86, 3), none, none, some (.getfield 96, 3), none, none, some (.istore_n 2, 1), some (.aload_n 0, 1), some (.iload_n 1, 1), some (.invokevirtual 86, 3), none, none, some (.iconst 0, 1), some (.putfield 96, 3), none, none, some (.aload_n 0, 1), some (.invokevirtual 93, 3), none, none, some (.iload_n 2, 1), some (.ireturn, 1)]
def tX6_undo : List (Option (Instr × Nat)) := [some (.iload_n 1, 1), some (.invokestatic 78, 3), none, none, some (.ifCond .ne 6, 3), none, none, some (.bipush (-2), 2), none, some (.ireturn, 1), some (.aload_n 0, 1), some (.iload_n 1, 1), some (.invokevirtual 86, 3), none, none, some (.getfield 96, 3), none, none, some (.ifCond .ne 6, 3), none, none, some (.bipush (-3), 2), none, some (.ireturn, 1), some (.aload_n 0, 1), some (.iload_n 1, 1), some (.invokevirtual 86, 3), none, none, some (.dup, 1), some (.getfield 96, 3), none, none, some (.iconst 1, 1), some (.isub, 1), some (.putfield 96, 3), none, none, some (.aload_n 0, 1), some (.invokevirtual 93, 3), none, none, some (.aload_n 0, 1), some (.iload_n 1, 1), some (.invokevirtual 86, 3), none, none, some (.getfield 96, 3), none, none, some (.ireturn, 1)]
def tX6_fault : List (Option (Instr × Nat)) := [some (.iload_n 1, 1), some (.invokestatic 78, 3), none, none, some (.ifCond .eq 14, 3), none, none, some (.aload_n 0, 1), some (.iload_n 1, 1), some (.invokevirtual 86, 3), none, none, some (.invokevirtual 99, 3), none, none, some (.goto 5, 3), none, none, some (.bipush (-2), 2), none, some (.ireturn, 1)]
def tX6_person : List (Option (Instr × Nat)) := [some (.aload_n 0, 1), some (.getfield 32, 3), none, none, some (.iload_n 1, 1), some (.invokevirtual 103, 3), none, none, some (.ifCond .eq 11, 3), none, none, some (.iload_n 2, 1), some (.iconst 1, 1), some (.invokestatic 82, 3), none, none, some (.ifCond .ne 6, 3), none, none, some (.bipush (-2), 2), none, some (.ireturn, 1), some (.iload_n 2, 1), some (.ifCond .ne 15, 3), none, none, some (.aload_n 0, 1), some (.getfield 32, 3), none, none, some (.getfield 108, 3), none, none, some (.iload_n 1, 1), some (.iaload, 1), some (.goto 12, 3), none, none, some (.aload_n 0, 1), some (.getfield 32, 3), none, none, some (.getfield 112, 3), none, none, some (.iload_n 1, 1), some (.iaload, 1), some (.ireturn, 1)]
def tX6_promise : List (Option (Instr × Nat)) := [some (.aload_n 0, 1), some (.getfield 37, 3), none, none, some (.iload_n 1, 1), some (.invokevirtual 115, 3), none, none, some (.ifCond .eq 11, 3), none, none, some (.iload_n 2, 1), some (.iconst 3, 1), some (.invokestatic 82, 3), none, none, some (.ifCond .ne 6, 3), none, none, some (.bipush (-2), 2), none, some (.ireturn, 1), some (.iload_n 2, 1), some (.tableswitch 55 0 2 #[25, 35, 45], 25), none, none, none, none, none, none, none, none, none, none, none, none, none, none, none, none, none, none, none, none, none, none, none, none, some (.aload_n 0, 1), some (.getfield 37, 3), none, none, some (.getfield 118, 3), none, none, some (.iload_n 1, 1), some (.iaload, 1), some (.ireturn, 1), some (.aload_n 0, 1), some (.getfield 37, 3), none, none, some (.getfield 121, 3), none, none, some (.iload_n 1, 1), some (.iaload, 1), some (.ireturn, 1), some (.aload_n 0, 1), some (.getfield 37, 3), none, none, some (.getfield 124, 3), none, none, some (.iload_n 1, 1), some (.iaload, 1), some (.ireturn, 1), some (.aload_n 0, 1), some (.getfield 37, 3), none, none, some (.getfield 127, 3), none, none, some (.iload_n 1, 1), some (.iaload, 1), some (.ireturn, 1)]
def tX6_keeping : List (Option (Instr × Nat)) := [some (.iload_n 1, 1), some (.iload_n 2, 1), some (.invokestatic 130, 3), none, none, some (.ifCond .ne 6, 3), none, none, some (.bipush (-2), 2), none, some (.ireturn, 1), some (.aload_n 0, 1), some (.getfield 42, 3), none, none, some (.invokevirtual 133, 3), none, none, some (.ifCond .eq 8, 3), none, none, some (.bipush (-4), 2), none, some (.goto 13, 3), none, none, some (.aload_n 0, 1), some (.getfield 42, 3), none, none, some (.iload_n 1, 1), some (.iload_n 2, 1), some (.iconst 0, 1), some (.invokevirtual 137, 3), none, none, some (.ireturn, 1)]
def tX6_lie : List (Option (Instr × Nat)) := [some (.iload_n 1, 1), some (.invokestatic 141, 3), none, none, some (.ifCond .eq 17, 3), none, none, some (.iload_n 2, 1), some (.invokestatic 144, 3), none, none, some (.ifCond .eq 10, 3), none, none, some (.iload_n 3, 1), some (.invokestatic 147, 3), none, none, some (.ifCond .ne 6, 3), none, none, some (.bipush (-2), 2), none, some (.ireturn, 1), some (.aload_n 0, 1), some (.getfield 46, 3), none, none, some (.invokevirtual 133, 3), none, none, some (.ifCond .eq 8, 3), none, none, some (.bipush (-4), 2), none, some (.goto 13, 3), none, none, some (.aload_n 0, 1), some (.getfield 46, 3), none, none, some (.iload_n 1, 1), some (.iload_n 2, 1), some (.iload_n 3, 1), some (.invokevirtual 137, 3), none, none, some (.ireturn, 1)]
def tX6_letting : List (Option (Instr × Nat)) := [some (.iload_n 1, 1), some (.invokestatic 141, 3), none, none, some (.ifCond .eq 17, 3), none, none, some (.iload_n 2, 1), some (.invokestatic 144, 3), none, none, some (.ifCond .eq 10, 3), none, none, some (.iload_n 3, 1), some (.invokestatic 147, 3), none, none, some (.ifCond .ne 6, 3), none, none, some (.bipush (-2), 2), none, some (.ireturn, 1), some (.aload_n 0, 1), some (.getfield 50, 3), none, none, some (.invokevirtual 133, 3), none, none, some (.ifCond .eq 8, 3), none, none, some (.bipush (-4), 2), none, some (.goto 13, 3), none, none, some (.aload_n 0, 1), some (.getfield 50, 3), none, none, some (.iload_n 1, 1), some (.iload_n 2, 1), some (.iload_n 3, 1), some (.invokevirtual 137, 3), none, none, some (.ireturn, 1)]
def tX6_back : List (Option (Instr × Nat)) := [some (.iload_n 1, 1), some (.iconst 2, 1), some (.invokestatic 82, 3), none, none, some (.ifCond .ne 6, 3), none, none, some (.bipush (-2), 2), none, some (.ireturn, 1), some (.iload_n 1, 1), some (.ifCond .ne 10, 3), none, none, some (.aload_n 0, 1), some (.getfield 42, 3), none, none, some (.goto 19, 3), none, none, some (.iload_n 1, 1), some (.iconst 1, 1), some (.if_icmp .ne 10, 3), none, none, some (.aload_n 0, 1), some (.getfield 46, 3), none, none, some (.goto 7, 3), none, none, some (.aload_n 0, 1), some (.getfield 50, 3), none, none, some (.astore_n 2, 1), some (.aload_n 2, 1), some (.getfield 150, 3), none, none, some (.ifCond .ne 8, 3), none, none, some (.bipush (-3), 2), none, some (.goto 7, 3), none, none, some (.aload_n 2, 1), some (.invokevirtual 153, 3), none, none, some (.ireturn, 1)]
def tX6_read : List (Option (Instr × Nat)) := [some (.iload_n 1, 1), some (.invokestatic 156, 3), none, none, some (.ifCond .ne 6, 3), none, none, some (.bipush (-2), 2), none, some (.ireturn, 1), some (.aload_n 0, 1), some (.getfield 65, 3), none, none, some (.iload_n 1, 1), some (.invokevirtual 159, 3), none, none, some (.ifCond .eq 9, 3), none, none, some (.aload_n 0, 1), some (.iconst 1, 1), some (.invokevirtual 162, 3), none, none, some (.ireturn, 1), some (.iconst 0, 1), some (.istore_n 2, 1), some (.iconst 0, 1), some (.istore_n 3, 1), some (.iload_n 3, 1), some (.iconst 1, 1), some (.iadd, 1), some (.aload_n 0, 1), some (.getfield 65, 3), none, none, some (.getfield 166, 3), none, none, some (.iload_n 1, 1), some (.iaload, 1), some (.if_icmp .ge 76, 3), none, none, some (.aload_n 0, 1), some (.getfield 65, 3), none, none, some (.getfield 169, 3), none, none, some (.iload_n 1, 1), some (.aaload, 1), some (.iload_n 3, 1), some (.iaload, 1), some (.istore 4, 2), none, some (.aload_n 0, 1), some (.getfield 65, 3), none, none, some (.getfield 169, 3), none, none, some (.iload_n 1, 1), some (.aaload, 1), some (.iload_n 3, 1), some (.iconst 1, 1), some (.iadd, 1), some (.iaload, 1), some (.istore 5, 2), none, some (.iload 4, 2), none, some (.iload 5, 2), none, some (.invokestatic 130, 3), none, none, some (.ifCond .eq 38, 3), none, none, some (.aload_n 0, 1), some (.getfield 42, 3), none, none, some (.invokevirtual 133, 3), none, none, some (.ifCond .eq 6, 3), none, none, some (.goto 25, 3), none, none, some (.aload_n 0, 1), some (.getfield 42, 3), none, none, some (.iload 4, 2), none, some (.iload 5, 2), none, some (.iconst 0, 1), some (.invokevirtual 137, 3), none, none, some (.pop, 1), some (.iinc 2 1, 3), none, none, some (.iinc 3 2, 3), none, none, some (.goto (-85), 3), none, none, some (.iload_n 2, 1), some (.ireturn, 1)]
def tX6_coat : List (Option (Instr × Nat)) := [some (.iload_n 1, 1), some (.invokestatic 141, 3), none, none, some (.ifCond .eq 22, 3), none, none, some (.aload_n 0, 1), some (.getfield 32, 3), none, none, some (.iload_n 2, 1), some (.invokevirtual 103, 3), none, none, some (.ifCond .eq 11, 3), none, none, some (.iload_n 3, 1), some (.iconst 2, 1), some (.invokestatic 82, 3), none, none, some (.ifCond .ne 6, 3), none, none, some (.bipush (-2), 2), none, some (.ireturn, 1), some (.aload_n 0, 1), some (.iload_n 1, 1), some (.invokevirtual 172, 3), none, none, some (.iload_n 3, 1), some (.lookupswitch 52 #[(0, 25), (1, 35)], 25), none, none, none, none, none, none, none, none, none, none, none, none, none, none, none, none, none, none, none, none, none, none, none, none, some (.aload_n 0, 1), some (.getfield 24, 3), none, none, some (.getfield 175, 3), none, none, some (.iload_n 2, 1), some (.iaload, 1), some (.ireturn, 1), some (.aload_n 0, 1), some (.getfield 24, 3), none, none, some (.iload_n 2, 1), some (.invokevirtual 176, 3), none, none, some (.ifCond .eq 7, 3), none, none, some (.iconst 1, 1), some (.goto 4, 3), none, none, some (.iconst 0, 1), some (.ireturn, 1), some (.aload_n 0, 1), some (.getfield 24, 3), none, none, some (.getfield 179, 3), none, none, some (.iload_n 2, 1), some (.iaload, 1), some (.ireturn, 1)]
def tX6_stands : List (Option (Instr × Nat)) := [some (.iload_n 1, 1), some (.invokestatic 141, 3), none, none, some (.ifCond .eq 14, 3), none, none, some (.aload_n 0, 1), some (.getfield 37, 3), none, none, some (.iload_n 2, 1), some (.invokevirtual 115, 3), none, none, some (.ifCond .ne 6, 3), none, none, some (.bipush (-2), 2), none, some (.ireturn, 1), some (.aload_n 0, 1), some (.iload_n 1, 1), some (.invokevirtual 172, 3), none, none, some (.aload_n 0, 1), some (.getfield 24, 3), none, none, some (.getfield 182, 3), none, none, some (.iload_n 2, 1), some (.iaload, 1), some (.ireturn, 1)]
def tX6_neat : List (Option (Instr × Nat)) := [some (.iload_n 1, 1), some (.invokestatic 141, 3), none, none, some (.ifCond .ne 6, 3), none, none, some (.bipush (-2), 2), none, some (.ireturn, 1), some (.aload_n 0, 1), some (.iload_n 1, 1), some (.invokevirtual 172, 3), none, none, some (.aload_n 0, 1), some (.getfield 24, 3), none, none, some (.invokevirtual 185, 3), none, none, some (.ireturn, 1)]
def tX6_naked : List (Option (Instr × Nat)) := [some (.iload_n 1, 1), some (.invokestatic 141, 3), none, none, some (.ifCond .ne 6, 3), none, none, some (.bipush (-2), 2), none, some (.ireturn, 1), some (.aload_n 0, 1), some (.iload_n 1, 1), some (.invokevirtual 172, 3), none, none, some (.aload_n 0, 1), some (.getfield 24, 3), none, none, some (.invokevirtual 188, 3), none, none, some (.ireturn, 1)]
def tX6_longest : List (Option (Instr × Nat)) := [some (.iload_n 1, 1), some (.invokestatic 141, 3), none, none, some (.ifCond .ne 6, 3), none, none, some (.bipush (-2), 2), none, some (.ireturn, 1), some (.aload_n 0, 1), some (.iload_n 1, 1), some (.invokevirtual 172, 3), none, none, some (.iconst (-1), 1), some (.istore_n 2, 1), some (.iconst (-1), 1), some (.istore_n 3, 1), some (.iconst 0, 1), some (.istore 4, 2), none, some (.iload 4, 2), none, some (.aload_n 0, 1), some (.getfield 32, 3), none, none, some (.getfield 191, 3), none, none, some (.if_icmp .ge 37, 3), none, none, some (.aload_n 0, 1), some (.getfield 24, 3), none, none, some (.getfield 175, 3), none, none, some (.iload 4, 2), none, some (.iaload, 1), some (.iload_n 3, 1), some (.if_icmp .le 17, 3), none, none, some (.iload 4, 2), none, some (.istore_n 2, 1), some (.aload_n 0, 1), some (.getfield 24, 3), none, none, some (.getfield 175, 3), none, none, some (.iload 4, 2), none, some (.iaload, 1), some (.istore_n 3, 1), some (.iinc 4 1, 3), none, none, some (.goto (-43), 3), none, none, some (.iload_n 2, 1), some (.ireturn, 1)]
def tX6_splits : List (Option (Instr × Nat)) := [some (.aload_n 0, 1), some (.bipush 23, 2), none, some (.invokevirtual 172, 3), none, none, some (.aload_n 0, 1), some (.getfield 24, 3), none, none, some (.invokevirtual 192, 3), none, none, some (.ireturn, 1)]
def tX6_best : List (Option (Instr × Nat)) := [some (.aload_n 0, 1), some (.getfield 32, 3), none, none, some (.getfield 191, 3), none, none, some (.ifCond .ne 5, 3), none, none, some (.iconst (-1), 1), some (.ireturn, 1), some (.aload_n 0, 1), some (.getfield 24, 3), none, none, some (.aload_n 0, 1), some (.getfield 42, 3), none, none, some (.invokevirtual 195, 3), none, none, some (.aload_n 0, 1), some (.getfield 24, 3), none, none, some (.invokevirtual 199, 3), none, none, some (.iconst (-1), 1), some (.istore_n 1, 1), some (.iconst (-1), 1), some (.istore_n 2, 1), some (.iconst 0, 1), some (.istore_n 3, 1), some (.iload_n 3, 1), some (.bipush 24, 2), none, some (.if_icmp .ge 40, 3), none, none, some (.aload_n 0, 1), some (.getfield 24, 3), none, none, some (.iload_n 3, 1), some (.invokevirtual 202, 3), none, none, some (.aload_n 0, 1), some (.getfield 24, 3), none, none, some (.invokevirtual 185, 3), none, none, some (.invokestatic 205, 3), none, none, some (.istore 4, 2), none, some (.iload 4, 2), none, some (.iload_n 2, 1), some (.if_icmp .le 8, 3), none, none, some (.iload_n 3, 1), some (.istore_n 1, 1), some (.iload 4, 2), none, some (.istore_n 2, 1), some (.iinc 3 1, 3), none, none, some (.goto (-40), 3), none, none, some (.iload_n 1, 1), some (.ireturn, 1)]
def tX6_swear : List (Option (Instr × Nat)) := [some (.aload_n 0, 1), some (.getfield 32, 3), none, none, some (.iload_n 1, 1), some (.invokevirtual 103, 3), none, none, some (.ifCond .eq 10, 3), none, none, some (.iload_n 2, 1), some (.invokestatic 141, 3), none, none, some (.ifCond .ne 6, 3), none, none, some (.bipush (-2), 2), none, some (.ireturn, 1), some (.iconst (-1), 1), some (.istore_n 3, 1), some (.iconst 1, 1), some (.istore 4, 2), none, some (.iload 4, 2), none, some (.bipush 9, 2), none, some (.if_icmp .gt 52, 3), none, none, some (.iload_n 3, 1), some (.iconst (-1), 1), some (.if_icmp .ne 47, 3), none, none, some (.aload_n 0, 1), some (.getfield 37, 3), none, none, some (.iload_n 1, 1), some (.iload 4, 2), none, some (.iconst 0, 1), some (.iconst (-1), 1), some (.invokevirtual 210, 3), none, none, some (.aload_n 0, 1), some (.iload_n 2, 1), some (.invokevirtual 172, 3), none, none, some (.aload_n 0, 1), some (.getfield 24, 3), none, none, some (.iload_n 1, 1), some (.invokevirtual 176, 3), none, none, some (.ifCond .eq 6, 3), none, none, some (.iload 4, 2), none, some (.istore_n 3, 1), some (.aload_n 0, 1), some (.getfield 37, 3), none, none, some (.invokevirtual 213, 3), none, none, some (.iinc 4 1, 3), none, none, some (.goto (-53), 3), none, none, some (.iload_n 3, 1), some (.ireturn, 1)]
def tX6_keep : List (Option (Instr × Nat)) := [some (.iload_n 1, 1), some (.invokestatic 141, 3), none, none, some (.ifCond .eq 11, 3), none, none, some (.iload_n 2, 1), some (.iconst 1, 1), some (.invokestatic 82, 3), none, none, some (.ifCond .ne 6, 3), none, none, some (.bipush (-2), 2), none, some (.ireturn, 1), some (.iconst (-1), 1), some (.istore_n 3, 1), some (.iconst (-1), 1), some (.istore 4, 2), none, some (.iconst 0, 1), some (.istore 5, 2), none, some (.iload 5, 2), none, some (.aload_n 0, 1), some (.getfield 37, 3), none, none, some (.getfield 215, 3), none, none, some (.if_icmp .ge 61, 3), none, none, some (.aload_n 0, 1), some (.getfield 42, 3), none, none, some (.iload_n 1, 1), some (.iload 5, 2), none, some (.iconst 0, 1), some (.invokevirtual 137, 3), none, none, some (.pop, 1), some (.aload_n 0, 1), some (.bipush 23, 2), none, some (.invokevirtual 172, 3), none, none, some (.aload_n 0, 1), some (.getfield 24, 3), none, none, some (.invokevirtual 185, 3), none, none, some (.invokestatic 205, 3), none, none, some (.istore 6, 2), none, some (.iload 6, 2), none, some (.iload 4, 2), none, some (.if_icmp .le 10, 3), none, none, some (.iload 5, 2), none, some (.istore_n 3, 1), some (.iload 6, 2), none, some (.istore 4, 2), none, some (.aload_n 0, 1), some (.getfield 42, 3), none, none, some (.invokevirtual 153, 3), none, none, some (.pop, 1), some (.iinc 5 1, 3), none, none, some (.goto (-67), 3), none, none, some (.iload_n 2, 1), some (.ifCond .ne 7, 3), none, none, some (.iload_n 3, 1), some (.goto 5, 3), none, none, some (.iload 4, 2), none, some (.ireturn, 1)]
def tX6_due : List (Option (Instr × Nat)) := [some (.aload_n 0, 1), some (.getfield 37, 3), none, none, some (.iload_n 1, 1), some (.invokevirtual 115, 3), none, none, some (.ifCond .eq 11, 3), none, none, some (.iload_n 2, 1), some (.iconst 1, 1), some (.invokestatic 82, 3), none, none, some (.ifCond .ne 6, 3), none, none, some (.bipush (-2), 2), none, some (.ireturn, 1), some (.aload_n 0, 1), some (.getfield 37, 3), none, none, some (.getfield 127, 3), none, none, some (.iload_n 1, 1), some (.iaload, 1), some (.istore_n 3, 1), some (.iconst (-1), 1), some (.istore 4, 2), none, some (.bipush 11, 2), none, some (.istore 5, 2), none, some (.iconst 0, 1), some (.istore 6, 2), none, some (.iload 6, 2), none, some (.bipush 24, 2), none, some (.if_icmp .ge 51, 3), none, none, some (.aload_n 0, 1), some (.getfield 37, 3), none, none, some (.getfield 127, 3), none, none, some (.iload_n 1, 1), some (.iload 6, 2), none, some (.iastore, 1), some (.aload_n 0, 1), some (.bipush 23, 2), none, some (.invokevirtual 172, 3), none, none, some (.aload_n 0, 1), some (.getfield 24, 3), none, none, some (.invokevirtual 192, 3), none, none, some (.iload 5, 2), none, some (.if_icmp .ge 16, 3), none, none, some (.iload 6, 2), none, some (.istore 4, 2), none, some (.aload_n 0, 1), some (.getfield 24, 3), none, none, some (.invokevirtual 192, 3), none, none, some (.istore 5, 2), none, some (.iinc 6 1, 3), none, none, some (.goto (-52), 3), none, none, some (.aload_n 0, 1), some (.getfield 37, 3), none, none, some (.getfield 127, 3), none, none, some (.iload_n 1, 1), some (.iload_n 3, 1), some (.iastore, 1), some (.iload_n 2, 1), some (.ifCond .ne 8, 3), none, none, some (.iload 4, 2), none, some (.goto 5, 3), none, none, some (.iload 5, 2), none, some (.ireturn, 1)]
def tX6_hush : List (Option (Instr × Nat)) := [some (.iload_n 1, 1), some (.iconst (-1), 1), some (.if_icmp .lt 8, 3), none, none, some (.iload_n 1, 1), some (.iconst 1, 1), some (.if_icmp .le 6, 3), none, none, some (.bipush (-2), 2), none, some (.ireturn, 1), some (.aload_n 0, 1), some (.invokevirtual 216, 3), none, none, some (.istore_n 2, 1), some (.iload_n 2, 1), some (.iconst (-1), 1), some (.if_icmp .ne 5, 3), none, none, some (.iconst (-1), 1), some (.ireturn, 1), some (.iload_n 2, 1), some (.invokestatic 205, 3), none, none, some (.istore_n 3, 1), some (.iload_n 1, 1), some (.iconst (-1), 1), some (.if_icmp .ne 5, 3), none, none, some (.iload_n 3, 1), some (.ireturn, 1), some (.iload_n 1, 1), some (.iload_n 3, 1), some (.if_icmp .lt 5, 3), none, none, some (.iconst (-1), 1), some (.ireturn, 1), some (.iload_n 1, 1), some (.ifCond .ne 7, 3), none, none, some (.iload_n 2, 1), some (.goto 8, 3), none, none, some (.iload_n 2, 1), some (.iload_n 2, 1), some (.iconst 1, 1), some (.isub, 1), some (.iand, 1), some (.istore 4, 2), none, some (.iload 4, 2), none, some (.invokestatic 219, 3), none, none, some (.ireturn, 1)]
def tX6_seen : List (Option (Instr × Nat)) := [some (.iload_n 1, 1), some (.invokestatic 141, 3), none, none, some (.ifCond .eq 19, 3), none, none, some (.iload_n 2, 1), some (.invokestatic 144, 3), none, none, some (.ifCond .eq 12, 3), none, none, some (.iload_n 3, 1), some (.bipush 99, 2), none, some (.invokestatic 82, 3), none, none, some (.ifCond .ne 6, 3), none, none, some (.bipush (-2), 2), none, some (.ireturn, 1), some (.aload_n 0, 1), some (.getfield 56, 3), none, none, some (.invokevirtual 133, 3), none, none, some (.ifCond .eq 8, 3), none, none, some (.bipush (-4), 2), none, some (.goto 13, 3), none, none, some (.aload_n 0, 1), some (.getfield 56, 3), none, none, some (.iload_n 1, 1), some (.iload_n 2, 1), some (.iload_n 3, 1), some (.invokevirtual 137, 3), none, none, some (.ireturn, 1)]
def tX6_forget : List (Option (Instr × Nat)) := [some (.aload_n 0, 1), some (.getfield 56, 3), none, none, some (.getfield 150, 3), none, none, some (.istore_n 1, 1), some (.aload_n 0, 1), some (.getfield 56, 3), none, none, some (.iconst 0, 1), some (.putfield 150, 3), none, none, some (.iload_n 1, 1), some (.ireturn, 1)]
def tX6_never : List (Option (Instr × Nat)) := [some (.aload_n 0, 1), some (.getfield 24, 3), none, none, some (.aload_n 0, 1), some (.getfield 42, 3), none, none, some (.invokevirtual 195, 3), none, none, some (.iconst 0, 1), some (.istore_n 1, 1), some (.iconst 0, 1), some (.istore_n 2, 1), some (.iload_n 2, 1), some (.aload_n 0, 1), some (.getfield 42, 3), none, none, some (.getfield 150, 3), none, none, some (.if_icmp .ge 39, 3), none, none, some (.aload_n 0, 1), some (.getfield 24, 3), none, none, some (.iconst 1, 1), some (.iload_n 2, 1), some (.ishl, 1), some (.putfield 222, 3), none, none, some (.aload_n 0, 1), some (.getfield 24, 3), none, none, some (.aload_n 0, 1), some (.getfield 56, 3), none, none, some (.invokevirtual 225, 3), none, none, some (.ifCond .eq 9, 3), none, none, some (.iload_n 1, 1), some (.iconst 1, 1), some (.iload_n 2, 1), some (.ishl, 1), some (.ior, 1), some (.istore_n 1, 1), some (.iinc 2 1, 3), none, none, some (.goto (-44), 3), none, none, some (.iload_n 1, 1), some (.ireturn, 1)]
def tX6_was : List (Option (Instr × Nat)) := [some (.aload_n 0, 1), some (.getfield 32, 3), none, none, some (.iload_n 1, 1), some (.invokevirtual 103, 3), none, none, some (.ifCond .eq 11, 3), none, none, some (.iload_n 2, 1), some (.iconst 1, 1), some (.invokestatic 82, 3), none, none, some (.ifCond .ne 6, 3), none, none, some (.bipush (-2), 2), none, some (.ireturn, 1), some (.aload_n 0, 1), some (.getfield 24, 3), none, none, some (.aload_n 0, 1), some (.getfield 42, 3), none, none, some (.invokevirtual 195, 3), none, none, some (.iload_n 2, 1), some (.ifCond .ne 20, 3), none, none, some (.aload_n 0, 1), some (.aload_n 0, 1), some (.getfield 32, 3), none, none, some (.getfield 112, 3), none, none, some (.iload_n 1, 1), some (.bipush 10, 2), none, some (.invokevirtual 229, 3), none, none, some (.goto 16, 3), none, none, some (.aload_n 0, 1), some (.aload_n 0, 1), some (.getfield 32, 3), none, none, some (.getfield 108, 3), none, none, some (.iload_n 1, 1), some (.iconst 3, 1), some (.invokevirtual 229, 3), none, none, some (.ireturn, 1)]
def tX6_ask : List (Option (Instr × Nat)) := [some (.aload_n 0, 1), some (.getfield 32, 3), none, none, some (.iload_n 1, 1), some (.invokevirtual 103, 3), none, none, some (.ifCond .ne 6, 3), none, none, some (.bipush (-2), 2), none, some (.ireturn, 1), some (.aload_n 0, 1), some (.getfield 24, 3), none, none, some (.aload_n 0, 1), some (.getfield 42, 3), none, none, some (.invokevirtual 195, 3), none, none, some (.aload_n 0, 1), some (.aload_n 0, 1), some (.getfield 32, 3), none, none, some (.getfield 112, 3), none, none, some (.iload_n 1, 1), some (.bipush 10, 2), none, some (.invokevirtual 229, 3), none, none, some (.istore_n 2, 1), some (.aload_n 0, 1), some (.iload_n 1, 1), some (.invokevirtual 233, 3), none, none, some (.iconst (-1), 1), some (.istore_n 3, 1), some (.bipush 11, 2), none, some (.istore 4, 2), none, some (.iconst 0, 1), some (.istore 5, 2), none, some (.iload 5, 2), none, some (.bipush 24, 2), none, some (.if_icmp .ge 32, 3), none, none, some (.aload_n 0, 1), some (.iload_n 2, 1), some (.iload 5, 2), none, some (.invokevirtual 236, 3), none, none, some (.istore 6, 2), none, some (.iload 6, 2), none, some (.iload 4, 2), none, some (.if_icmp .ge 10, 3), none, none, some (.iload 5, 2), none, some (.istore_n 3, 1), some (.iload 6, 2), none, some (.istore 4, 2), none, some (.iinc 5 1, 3), none, none, some (.goto (-33), 3), none, none, some (.iload_n 3, 1), some (.ireturn, 1)]
def tX6_word : List (Option (Instr × Nat)) := [some (.iload_n 1, 1), some (.bipush 16, 2), none, some (.invokestatic 82, 3), none, none, some (.ifCond .eq 30, 3), none, none, some (.aload_n 0, 1), some (.getfield 32, 3), none, none, some (.iload_n 2, 1), some (.invokevirtual 103, 3), none, none, some (.ifCond .eq 19, 3), none, none, some (.iload_n 3, 1), some (.invokestatic 141, 3), none, none, some (.ifCond .eq 12, 3), none, none, some (.iload 4, 2), none, some (.iconst 1, 1), some (.invokestatic 82, 3), none, none, some (.ifCond .ne 7, 3), none, none, some (.ldc2_w 240, 3), none, none, some (.lreturn, 1), some (.aload_n 0, 1), some (.getfield 24, 3), none, none, some (.aload_n 0, 1), some (.getfield 42, 3), none, none, some (.invokevirtual 195, 3), none, none, some (.aload_n 0, 1), some (.iload_n 2, 1), some (.invokevirtual 242, 3), none, none, some (.istore 5, 2), none, some (.lconst 0, 1), some (.lstore 6, 2), none, some (.lconst 1, 1), some (.iconst 4, 1), some (.iload 5, 2), none, some (.invokestatic 205, 3), none, none, some (.imul, 1), some (.lshl, 1), some (.lstore 8, 2), none, some (.iconst 0, 1), some (.istore 10, 2), none, some (.iload 10, 2), none, some (.sipush 256, 3), none, none, some (.if_icmp .ge 67, 3), none, none, some (.iload 10, 2), none, some (.iload 5, 2), none, some (.iconst (-1), 1), some (.ixor, 1), some (.iand, 1), some (.ifCond .ne 51, 3), none, none, some (.aload_n 0, 1), some (.getfield 24, 3), none, none, some (.iload 10, 2), none, some (.putfield 222, 3), none, none, some (.aload_n 0, 1), some (.getfield 24, 3), none, none, some (.invokevirtual 199, 3), none, none, some (.aload_n 0, 1), some (.getfield 24, 3), none, none, some (.iload_n 3, 1), some (.invokevirtual 202, 3), none, none, some (.aload_n 0, 1), some (.getfield 24, 3), none, none, some (.iload_n 2, 1), some (.invokevirtual 176, 3), none, none, some (.ifCond .eq 16, 3), none, none, some (.lload 6, 2), none, some (.iload_n 1, 1), some (.iload 5, 2), none, some (.iload 10, 2), none, some (.invokestatic 245, 3), none, none, some (.ladd, 1), some (.lstore 6, 2), none, some (.iinc 10 1, 3), none, none, some (.goto (-69), 3), none, none, some (.iconst 0, 1), some (.istore 10, 2), none, some (.iload 10, 2), none, some (.bipush 32, 2), none, some (.if_icmp .ge 37, 3), none, none, some (.lload 8, 2), none, some (.lconst 1, 1), some (.lcmp, 1), some (.ifCond .le 30, 3), none, none, some (.lload 6, 2), none, some (.lconst 1, 1), some (.land, 1), some (.lconst 0, 1), some (.lcmp, 1), some (.ifCond .ne 21, 3), none, none, some (.lload 6, 2), none, some (.iconst 1, 1), some (.lshr, 1), some (.lstore 6, 2), none, some (.lload 8, 2), none, some (.iconst 1, 1), some (.lshr, 1), some (.lstore 8, 2), none, some (.iinc 10 1, 3), none, none, some (.goto (-38), 3), none, none, some (.iload 4, 2), none, some (.ifCond .ne 8, 3), none, none, some (.lload 6, 2), none, some (.goto 5, 3), none, none, some (.lload 8, 2), none, some (.lreturn, 1)]
def tX6_year : List (Option (Instr × Nat)) := [some (.iload_n 2, 1), some (.bipush 8, 2), none, some (.invokestatic 82, 3), none, none, some (.ifCond .eq 11, 3), none, none, some (.iload_n 3, 1), some (.iconst 1, 1), some (.invokestatic 82, 3), none, none, some (.ifCond .ne 6, 3), none, none, some (.bipush (-2), 2), none, some (.ireturn, 1), some (.aload_n 0, 1), some (.iload_n 1, 1), some (.iload_n 2, 1), some (.invokevirtual 249, 3), none, none, some (.aload_n 0, 1), some (.getfield 24, 3), none, none, some (.aload_n 0, 1), some (.getfield 59, 3), none, none, some (.invokevirtual 195, 3), none, none, some (.aload_n 0, 1), some (.getfield 24, 3), none, none, some (.invokevirtual 199, 3), none, none, some (.aload_n 0, 1), some (.getfield 24, 3), none, none, some (.bipush 23, 2), none, some (.invokevirtual 202, 3), none, none, some (.iload_n 3, 1), some (.ifCond .ne 13, 3), none, none, some (.aload_n 0, 1), some (.getfield 24, 3), none, none, some (.invokevirtual 192, 3), none, none, some (.goto 13, 3), none, none, some (.aload_n 0, 1), some (.getfield 24, 3), none, none, some (.invokevirtual 185, 3), none, none, some (.invokestatic 205, 3), none, none, some (.ireturn, 1)]
def tX6_sheet : List (Option (Instr × Nat)) := [some (.iload_n 1, 1), some (.invokestatic 156, 3), none, none, some (.ifCond .eq 16, 3), none, none, some (.iload_n 2, 1), some (.invokestatic 253, 3), none, none, some (.ifCond .eq 9, 3), none, none, some (.iload_n 3, 1), some (.bipush 60, 2), none, some (.if_icmp .le 6, 3), none, none, some (.bipush (-2), 2), none, some (.ireturn, 1), some (.iload_n 3, 1), some (.ifCond .ge 9, 3), none, none, some (.aload_n 0, 1), some (.iconst 5, 1), some (.invokevirtual 162, 3), none, none, some (.ireturn, 1), some (.aload_n 0, 1), some (.getfield 65, 3), none, none, some (.iload_n 1, 1), some (.iload_n 2, 1), some (.iload_n 3, 1), some (.invokevirtual 256, 3), none, none, some (.iload_n 3, 1), some (.ireturn, 1)]
def tX6_lose : List (Option (Instr × Nat)) := [some (.iload_n 1, 1), some (.invokestatic 156, 3), none, none, some (.ifCond .ne 6, 3), none, none, some (.bipush (-2), 2), none, some (.ireturn, 1), some (.aload_n 0, 1), some (.getfield 65, 3), none, none, some (.iload_n 1, 1), some (.invokevirtual 159, 3), none, none, some (.ifCond .eq 9, 3), none, none, some (.aload_n 0, 1), some (.iconst 1, 1), some (.invokevirtual 162, 3), none, none, some (.ireturn, 1), some (.aload_n 0, 1), some (.getfield 65, 3), none, none, some (.getfield 260, 3), none, none, some (.iload_n 1, 1), some (.iconst (-1), 1), some (.iastore, 1), some (.aload_n 0, 1), some (.getfield 65, 3), none, none, some (.getfield 166, 3), none, none, some (.iload_n 1, 1), some (.iaload, 1), some (.ireturn, 1)]
def tX6_put : List (Option (Instr × Nat)) := [some (.iload_n 1, 1), some (.invokestatic 156, 3), none, none, some (.ifCond .eq 10, 3), none, none, some (.iload_n 2, 1), some (.invokestatic 253, 3), none, none, some (.ifCond .ne 6, 3), none, none, some (.bipush (-2), 2), none, some (.ireturn, 1), some (.aload_n 0, 1), some (.getfield 65, 3), none, none, some (.iload_n 1, 1), some (.iload_n 2, 1), some (.iload_n 3, 1), some (.invokevirtual 263, 3), none, none, some (.istore 5, 2), none, some (.iload 5, 2), none, some (.ifCond .eq 10, 3), none, none, some (.aload_n 0, 1), some (.iload 5, 2), none, some (.invokevirtual 162, 3), none, none, some (.ireturn, 1), some (.aload_n 0, 1), some (.getfield 65, 3), none, none, some (.iload_n 1, 1), some (.iload_n 3, 1), some (.iload 4, 2), none, some (.invokevirtual 266, 3), none, none, some (.iconst 1, 1), some (.ireturn, 1)]
def tX6_get : List (Option (Instr × Nat)) := [some (.iload_n 1, 1), some (.invokestatic 156, 3), none, none, some (.ifCond .eq 10, 3), none, none, some (.iload_n 2, 1), some (.invokestatic 253, 3), none, none, some (.ifCond .ne 7, 3), none, none, some (.ldc_w 269, 3), none, none, some (.ireturn, 1), some (.aload_n 0, 1), some (.getfield 65, 3), none, none, some (.iload_n 1, 1), some (.iload_n 2, 1), some (.iload_n 3, 1), some (.invokevirtual 263, 3), none, none, some (.istore 4, 2), none, some (.iload 4, 2), none, some (.ifCond .eq 14, 3), none, none, some (.aload_n 0, 1), some (.iload 4, 2), none, some (.invokevirtual 162, 3), none, none, some (.pop, 1), some (.ldc_w 269, 3), none, none, some (.ireturn, 1), some (.aload_n 0, 1), some (.getfield 65, 3), none, none, some (.getfield 169, 3), none, none, some (.iload_n 1, 1), some (.aaload, 1), some (.iload_n 3, 1), some (.iaload, 1), some (.ireturn, 1)]
def tX6_copy : List (Option (Instr × Nat)) := [some (.iload_n 1, 1), some (.invokestatic 156, 3), none, none, some (.ifCond .eq 10, 3), none, none, some (.iload_n 3, 1), some (.invokestatic 156, 3), none, none, some (.ifCond .ne 6, 3), none, none, some (.bipush (-2), 2), none, some (.ireturn, 1), some (.aload_n 0, 1), some (.getfield 65, 3), none, none, some (.iload_n 1, 1), some (.invokevirtual 159, 3), none, none, some (.ifCond .ne 14, 3), none, none, some (.aload_n 0, 1), some (.getfield 65, 3), none, none, some (.iload_n 3, 1), some (.invokevirtual 159, 3), none, none, some (.ifCond .eq 9, 3), none, none, some (.aload_n 0, 1), some (.iconst 1, 1), some (.invokevirtual 162, 3), none, none, some (.ireturn, 1), some (.aload_n 0, 1), some (.getfield 65, 3), none, none, some (.getfield 260, 3), none, none, some (.iload_n 1, 1), some (.iaload, 1), some (.aload_n 0, 1), some (.getfield 65, 3), none, none, some (.getfield 260, 3), none, none, some (.iload_n 3, 1), some (.iaload, 1), some (.if_icmp .eq 9, 3), none, none, some (.aload_n 0, 1), some (.iconst 4, 1), some (.invokevirtual 162, 3), none, none, some (.ireturn, 1), some (.aload_n 0, 1), some (.getfield 65, 3), none, none, some (.iload_n 1, 1), some (.iload_n 2, 1), some (.iload 5, 2), none, some (.invokevirtual 270, 3), none, none, some (.ifCond .eq 18, 3), none, none, some (.aload_n 0, 1), some (.getfield 65, 3), none, none, some (.iload_n 3, 1), some (.iload 4, 2), none, some (.iload 5, 2), none, some (.invokevirtual 270, 3), none, none, some (.ifCond .ne 9, 3), none, none, some (.aload_n 0, 1), some (.iconst 2, 1), some (.invokevirtual 162, 3), none, none, some (.ireturn, 1), some (.aload_n 0, 1), some (.getfield 65, 3), none, none, some (.getfield 169, 3), none, none, some (.iload_n 1, 1), some (.aaload, 1), some (.iload_n 2, 1), some (.aload_n 0, 1), some (.getfield 65, 3), none, none, some (.getfield 169, 3), none, none, some (.iload_n 3, 1), some (.aaload, 1), some (.iload 4, 2), none, some (.iload 5, 2), none, some (.invokestatic 274, 3), none, none, some (.iconst 1, 1), some (.ireturn, 1)]
def tX6_write : List (Option (Instr × Nat)) := [some (.aload_n 0, 1), some (.getfield 32, 3), none, none, some (.iload_n 1, 1), some (.invokevirtual 103, 3), none, none, some (.ifCond .eq 10, 3), none, none, some (.iload_n 2, 1), some (.invokestatic 156, 3), none, none, some (.ifCond .ne 6, 3), none, none, some (.bipush (-2), 2), none, some (.ireturn, 1), some (.aload_n 0, 1), some (.getfield 65, 3), none, none, some (.iload_n 2, 1), some (.invokevirtual 159, 3), none, none, some (.ifCond .eq 9, 3), none, none, some (.aload_n 0, 1), some (.iconst 1, 1), some (.invokevirtual 162, 3), none, none, some (.ireturn, 1), some (.bipush 24, 2), none, some (.aload_n 0, 1), some (.getfield 65, 3), none, none, some (.getfield 166, 3), none, none, some (.iload_n 2, 1), some (.iaload, 1), some (.invokestatic 280, 3), none, none, some (.istore_n 3, 1), some (.aload_n 0, 1), some (.getfield 24, 3), none, none, some (.aload_n 0, 1), some (.getfield 42, 3), none, none, some (.invokevirtual 195, 3), none, none, some (.aload_n 0, 1), some (.getfield 24, 3), none, none, some (.invokevirtual 199, 3), none, none, some (.iconst 0, 1), some (.istore 4, 2), none, some (.iload 4, 2), none, some (.iload_n 3, 1), some (.if_icmp .ge 37, 3), none, none, some (.aload_n 0, 1), some (.getfield 24, 3), none, none, some (.iload 4, 2), none, some (.invokevirtual 202, 3), none, none, some (.aload_n 0, 1), some (.getfield 65, 3), none, none, some (.iload_n 2, 1), some (.iload 4, 2), none, some (.aload_n 0, 1), some (.getfield 24, 3), none, none, some (.getfield 175, 3), none, none, some (.iload_n 1, 1), some (.iaload, 1), some (.invokevirtual 266, 3), none, none, some (.iinc 4 1, 3), none, none, some (.goto (-37), 3), none, none, some (.iload_n 3, 1), some (.ireturn, 1)]
def tX6_count : List (Option (Instr × Nat)) := [some (.iload_n 1, 1), some (.tableswitch 120 0 8 #[51, 59, 67, 75, 83, 91, 99, 107, 115], 51), none, none, none, none, none, none, none, none, none, none, none, none, none, none, none, none, none, none, none, none, none, none, none, none, none, none, none, none, none, none, none, none, none, none, none, none, none, none, none, none, none, none, none, none, none, none, none, none, none, none, some (.aload_n 0, 1), some (.getfield 32, 3), none, none, some (.getfield 191, 3), none, none, some (.ireturn, 1), some (.aload_n 0, 1), some (.getfield 37, 3), none, none, some (.getfield 215, 3), none, none, some (.ireturn, 1), some (.aload_n 0, 1), some (.getfield 14, 3), none, none, some (.getfield 96, 3), none, none, some (.ireturn, 1), some (.aload_n 0, 1), some (.getfield 18, 3), none, none, some (.getfield 96, 3), none, none, some (.ireturn, 1), some (.aload_n 0, 1), some (.getfield 42, 3), none, none, some (.getfield 150, 3), none, none, some (.ireturn, 1), some (.aload_n 0, 1), some (.getfield 46, 3), none, none, some (.getfield 150, 3), none, none, some (.ireturn, 1), some (.aload_n 0, 1), some (.getfield 50, 3), none, none, some (.getfield 150, 3), none, none, some (.ireturn, 1), some (.aload_n 0, 1), some (.getfield 56, 3), none, none, some (.getfield 150, 3), none, none, some (.ireturn, 1), some (.aload_n 0, 1), some (.getfield 74, 3), none, none, some (.ireturn, 1), some (.bipush (-2), 2), none, some (.ireturn, 1)]
def tX6_digest : List (Option (Instr × Nat)) := [some (.ldc2_w 285, 3), none, none, some (.lstore_n 1, 1), some (.iconst 0, 1), some (.istore_n 3, 1), some (.iload_n 3, 1), some (.bipush 7, 2), none, some (.if_icmp .gt 20, 3), none, none, some (.lload_n 1, 1), some (.aload_n 0, 1), some (.iload_n 3, 1), some (.invokevirtual 287, 3), none, none, some (.i2l, 1), some (.invokestatic 290, 3), none, none, some (.lstore_n 1, 1), some (.iinc 3 1, 3), none, none, some (.goto (-20), 3), none, none, some (.lload_n 1, 1), some (.aload_n 0, 1), some (.iconst 0, 1), some (.invokevirtual 294, 3), none, none, some (.i2l, 1), some (.invokestatic 290, 3), none, none, some (.lstore_n 1, 1), some (.lload_n 1, 1), some (.aload_n 0, 1), some (.iconst 1, 1), some (.invokevirtual 294, 3), none, none, some (.i2l, 1), some (.invokestatic 290, 3), none, none, some (.lstore_n 1, 1), some (.iconst 0, 1), some (.istore_n 3, 1), some (.iload_n 3, 1), some (.aload_n 0, 1), some (.getfield 37, 3), none, none, some (.getfield 215, 3), none, none, some (.if_icmp .ge 16, 3), none, none, some (.aload_n 0, 1), some (.lload_n 1, 1), some (.iload_n 3, 1), some (.invokevirtual 297, 3), none, none, some (.lstore_n 1, 1), some (.iinc 3 1, 3), none, none, some (.goto (-21), 3), none, none, some (.iconst 0, 1), some (.istore_n 3, 1), some (.iload_n 3, 1), some (.aload_n 0, 1), some (.getfield 32, 3), none, none, some (.getfield 191, 3), none, none, some (.if_icmp .ge 16, 3), none, none, some (.aload_n 0, 1), some (.lload_n 1, 1), some (.iload_n 3, 1), some (.invokevirtual 301, 3), none, none, some (.lstore_n 1, 1), some (.iinc 3 1, 3), none, none, some (.goto (-21), 3), none, none, some (.iconst 0, 1), some (.istore_n 3, 1), some (.iload_n 3, 1), some (.bipush 24, 2), none, some (.if_icmp .ge 42, 3), none, none, some (.lload_n 1, 1), some (.aload_n 0, 1), some (.iload_n 3, 1), some (.invokevirtual 304, 3), none, none, some (.i2l, 1), some (.invokestatic 290, 3), none, none, some (.lstore_n 1, 1), some (.lload_n 1, 1), some (.aload_n 0, 1), some (.iload_n 3, 1), some (.invokevirtual 307, 3), none, none, some (.i2l, 1), some (.invokestatic 290, 3), none, none, some (.lstore_n 1, 1), some (.lload_n 1, 1), some (.aload_n 0, 1), some (.iload_n 3, 1), some (.invokevirtual 310, 3), none, none, some (.i2l, 1), some (.invokestatic 290, 3), none, none, some (.lstore_n 1, 1), some (.iinc 3 1, 3), none, none, some (.goto (-42), 3), none, none, some (.lload_n 1, 1), some (.aload_n 0, 1), some (.invokevirtual 313, 3), none, none, some (.i2l, 1), some (.invokestatic 290, 3), none, none, some (.lstore_n 1, 1), some (.lload_n 1, 1), some (.aload_n 0, 1), some (.invokevirtual 316, 3), none, none, some (.i2l, 1), some (.invokestatic 290, 3), none, none, some (.lstore_n 1, 1), some (.lload_n 1, 1), some (.aload_n 0, 1), some (.bipush 8, 2), none, some (.iconst 0, 1), some (.invokevirtual 319, 3), none, none, some (.i2l, 1), some (.invokestatic 290, 3), none, none, some (.lstore_n 1, 1), some (.lload_n 1, 1), some (.aload_n 0, 1), some (.bipush 8, 2), none, some (.iconst 1, 1), some (.invokevirtual 319, 3), none, none, some (.i2l, 1), some (.invokestatic 290, 3), none, none, some (.lstore_n 1, 1), some (.lload_n 1, 1), some (.aload_n 0, 1), some (.iconst (-1), 1), some (.invokevirtual 322, 3), none, none, some (.i2l, 1), some (.invokestatic 290, 3), none, none, some (.lstore_n 1, 1), some (.lload_n 1, 1), some (.aload_n 0, 1), some (.iconst 0, 1), some (.invokevirtual 322, 3), none, none, some (.i2l, 1), some (.invokestatic 290, 3), none, none, some (.lstore_n 1, 1), some (.lload_n 1, 1), some (.aload_n 0, 1), some (.invokevirtual 325, 3), none, none, some (.i2l, 1), some (.invokestatic 290, 3), none, none, some (.lstore_n 1, 1), some (.lload_n 1, 1), some (.aload_n 0, 1), some (.bipush 7, 2), none, some (.bipush 6, 2), none, some (.iconst 0, 1), some (.invokevirtual 328, 3), none, none, some (.i2l, 1), some (.invokestatic 290, 3), none, none, some (.lstore_n 1, 1), some (.lload_n 1, 1), some (.aload_n 0, 1), some (.bipush 7, 2), none, some (.bipush 6, 2), none, some (.iconst 1, 1), some (.invokevirtual 328, 3), none, none, some (.i2l, 1), some (.invokestatic 290, 3), none, none, some (.lreturn, 1)]
def tX6_isUpTo : List (Option (Instr × Nat)) := [some (.iload_n 0, 1), some (.ifCond .lt 12, 3), none, none, some (.iload_n 0, 1), some (.iload_n 1, 1), some (.if_icmp .gt 7, 3), none, none, some (.iconst 1, 1), some (.goto 4, 3), none, none, some (.iconst 0, 1), some (.ireturn, 1)]
def tX6_isText : List (Option (Instr × Nat)) := [some (.iload_n 0, 1), some (.iconst 1, 1), some (.invokestatic 82, 3), none, none, some (.ireturn, 1)]
def tX6_isDay : List (Option (Instr × Nat)) := [some (.iload_n 0, 1), some (.bipush 23, 2), none, some (.invokestatic 82, 3), none, none, some (.ireturn, 1)]
def tX6_isGreat : List (Option (Instr × Nat)) := [some (.iload_n 0, 1), some (.iconst 1, 1), some (.if_icmp .lt 13, 3), none, none, some (.iload_n 0, 1), some (.bipush 9, 2), none, some (.if_icmp .gt 7, 3), none, none, some (.iconst 1, 1), some (.goto 4, 3), none, none, some (.iconst 0, 1), some (.ireturn, 1)]
def tX6_mayBePerson : List (Option (Instr × Nat)) := [some (.iload_n 0, 1), some (.bipush 7, 2), none, some (.invokestatic 82, 3), none, none, some (.ireturn, 1)]
def tX6_mayBeKeeping : List (Option (Instr × Nat)) := [some (.iload_n 0, 1), some (.invokestatic 141, 3), none, none, some (.ifCond .eq 16, 3), none, none, some (.iload_n 1, 1), some (.bipush 9, 2), none, some (.invokestatic 82, 3), none, none, some (.ifCond .eq 7, 3), none, none, some (.iconst 1, 1), some (.goto 4, 3), none, none, some (.iconst 0, 1), some (.ireturn, 1)]
def tX6_textOf : List (Option (Instr × Nat)) := [some (.iload_n 1, 1), some (.ifCond .ne 10, 3), none, none, some (.aload_n 0, 1), some (.getfield 14, 3), none, none, some (.goto 7, 3), none, none, some (.aload_n 0, 1), some (.getfield 18, 3), none, none, some (.areturn, 1)]
def tX6_takeTexts : List (Option (Instr × Nat)) := [some (.aload_n 0, 1), some (.getfield 32, 3), none, none, some (.aload_n 0, 1), some (.getfield 14, 3), none, none, some (.invokevirtual 331, 3), none, none, some (.aload_n 0, 1), some (.getfield 37, 3), none, none, some (.aload_n 0, 1), some (.getfield 18, 3), none, none, some (.invokevirtual 335, 3), none, none, some (.return_, 1)]
def tX6_found : List (Option (Instr × Nat)) := [some (.aload_n 0, 1), some (.iload_n 1, 1), some (.putfield 74, 3), none, none, some (.bipush (-10), 2), none, some (.iload_n 1, 1), some (.isub, 1), some (.ireturn, 1)]
def tX6_liveUntil : List (Option (Instr × Nat)) := [some (.aload_n 0, 1), some (.getfield 24, 3), none, none, some (.aload_n 0, 1), some (.getfield 42, 3), none, none, some (.invokevirtual 195, 3), none, none, some (.aload_n 0, 1), some (.getfield 24, 3), none, none, some (.invokevirtual 199, 3), none, none, some (.aload_n 0, 1), some (.getfield 24, 3), none, none, some (.iload_n 1, 1), some (.invokevirtual 202, 3), none, none, some (.return_, 1)]
def tX6_liesToHush : List (Option (Instr × Nat)) := [some (.aload_n 0, 1), some (.getfield 24, 3), none, none, some (.aload_n 0, 1), some (.getfield 42, 3), none, none, some (.invokevirtual 195, 3), none, none, some (.aload_n 0, 1), some (.iconst 0, 1), some (.invokevirtual 336, 3), none, none, some (.ifCond .eq 5, 3), none, none, some (.iconst 0, 1), some (.ireturn, 1), some (.iconst 0, 1), some (.istore_n 1, 1), some (.iload_n 1, 1), some (.aload_n 0, 1), some (.getfield 46, 3), none, none, some (.getfield 150, 3), none, none, some (.if_icmp .ge 23, 3), none, none, some (.aload_n 0, 1), some (.iconst 1, 1), some (.iload_n 1, 1), some (.ishl, 1), some (.invokevirtual 336, 3), none, none, some (.ifCond .eq 7, 3), none, none, some (.iconst 1, 1), some (.iload_n 1, 1), some (.ishl, 1), some (.ireturn, 1), some (.iinc 1 1, 3), none, none, some (.goto (-28), 3), none, none, some (.iconst 0, 1), some (.istore_n 1, 1), some (.iload_n 1, 1), some (.aload_n 0, 1), some (.getfield 46, 3), none, none, some (.getfield 150, 3), none, none, some (.if_icmp .ge 52, 3), none, none, some (.iload_n 1, 1), some (.iconst 1, 1), some (.iadd, 1), some (.istore_n 2, 1), some (.iload_n 2, 1), some (.aload_n 0, 1), some (.getfield 46, 3), none, none, some (.getfield 150, 3), none, none, some (.if_icmp .ge 31, 3), none, none, some (.aload_n 0, 1), some (.iconst 1, 1), some (.iload_n 1, 1), some (.ishl, 1), some (.iconst 1, 1), some (.iload_n 2, 1), some (.ishl, 1), some (.ior, 1), some (.invokevirtual 336, 3), none, none, some (.ifCond .eq 11, 3), none, none, some (.iconst 1, 1), some (.iload_n 1, 1), some (.ishl, 1), some (.iconst 1, 1), some (.iload_n 2, 1), some (.ishl, 1), some (.ior, 1), some (.ireturn, 1), some (.iinc 2 1, 3), none, none, some (.goto (-36), 3), none, none, some (.iinc 1 1, 3), none, none, some (.goto (-57), 3), none, none, some (.iconst (-1), 1), some (.ireturn, 1)]
def tX6_leavesNobodyNaked : List (Option (Instr × Nat)) := [some (.aload_n 0, 1), some (.getfield 24, 3), none, none, some (.iload_n 1, 1), some (.putfield 339, 3), none, none, some (.aload_n 0, 1), some (.getfield 24, 3), none, none, some (.invokevirtual 199, 3), none, none, some (.aload_n 0, 1), some (.getfield 24, 3), none, none, some (.bipush 23, 2), none, some (.invokevirtual 202, 3), none, none, some (.aload_n 0, 1), some (.getfield 24, 3), none, none, some (.invokevirtual 188, 3), none, none, some (.ifCond .ne 7, 3), none, none, some (.iconst 1, 1), some (.goto 4, 3), none, none, some (.iconst 0, 1), some (.ireturn, 1)]
def tX6_fittingValues : List (Option (Instr × Nat)) := [some (.aload_n 1, 1), some (.iload_n 2, 1), some (.iaload, 1), some (.istore 4, 2), none, some (.iconst 0, 1), some (.istore 5, 2), none, some (.iconst 0, 1), some (.istore 6, 2), none, some (.iload 6, 2), none, some (.iload_n 3, 1), some (.if_icmp .ge 37, 3), none, none, some (.aload_n 1, 1), some (.iload_n 2, 1), some (.iload 6, 2), none, some (.iastore, 1), some (.aload_n 0, 1), some (.getfield 24, 3), none, none, some (.aload_n 0, 1), some (.getfield 56, 3), none, none, some (.invokevirtual 225, 3), none, none, some (.ifCond .eq 12, 3), none, none, some (.iload 5, 2), none, some (.iconst 1, 1), some (.iload 6, 2), none, some (.ishl, 1), some (.ior, 1), some (.istore 5, 2), none, some (.iinc 6 1, 3), none, none, some (.goto (-37), 3), none, none, some (.aload_n 1, 1), some (.iload_n 2, 1), some (.iload 4, 2), none, some (.iastore, 1), some (.iload 5, 2), none, some (.ireturn, 1)]
def tX6_noteCoatsBySize : List (Option (Instr × Nat)) := [some (.aload_n 0, 1), some (.getfield 32, 3), none, none, some (.getfield 112, 3), none, none, some (.iload_n 1, 1), some (.iaload, 1), some (.istore_n 2, 1), some (.iconst 0, 1), some (.istore_n 3, 1), some (.iload_n 3, 1), some (.bipush 10, 2), none, some (.if_icmp .ge 69, 3), none, none, some (.aload_n 0, 1), some (.getfield 32, 3), none, none, some (.getfield 112, 3), none, none, some (.iload_n 1, 1), some (.iload_n 3, 1), some (.iastore, 1), some (.aload_n 0, 1), some (.getfield 24, 3), none, none, some (.invokevirtual 199, 3), none, none, some (.iconst 0, 1), some (.istore 4, 2), none, some (.iload 4, 2), none, some (.bipush 24, 2), none, some (.if_icmp .ge 36, 3), none, none, some (.aload_n 0, 1), some (.getfield 24, 3), none, none, some (.iload 4, 2), none, some (.invokevirtual 202, 3), none, none, some (.aload_n 0, 1), some (.getfield 71, 3), none, none, some (.iload_n 3, 1), some (.aaload, 1), some (.iload 4, 2), none, some (.aload_n 0, 1), some (.getfield 24, 3), none, none, some (.getfield 175, 3), none, none, some (.iload_n 1, 1), some (.iaload, 1), some (.iastore, 1), some (.iinc 4 1, 3), none, none, some (.goto (-37), 3), none, none, some (.iinc 3 1, 3), none, none, some (.goto (-69), 3), none, none, some (.aload_n 0, 1), some (.getfield 32, 3), none, none, some (.getfield 112, 3), none, none, some (.iload_n 1, 1), some (.iload_n 2, 1), some (.iastore, 1), some (.return_, 1)]
def tX6_mostAlike : List (Option (Instr × Nat)) := [some (.iconst 0, 1), some (.istore_n 3, 1), some (.iconst 0, 1), some (.istore 4, 2), none, some (.iload 4, 2), none, some (.bipush 10, 2), none, some (.if_icmp .ge 91, 3), none, none, some (.iconst 0, 1), some (.istore 5, 2), none, some (.iconst 0, 1), some (.istore 6, 2), none, some (.iload 6, 2), none, some (.bipush 10, 2), none, some (.if_icmp .ge 65, 3), none, none, some (.iload_n 1, 1), some (.iload 4, 2), none, some (.ishr, 1), some (.iconst 1, 1), some (.iand, 1), some (.iconst 1, 1), some (.if_icmp .ne 17, 3), none, none, some (.iload_n 1, 1), some (.iload 6, 2), none, some (.ishr, 1), some (.iconst 1, 1), some (.iand, 1), some (.iconst 1, 1), some (.if_icmp .ne 7, 3), none, none, some (.iconst 1, 1), some (.goto 4, 3), none, none, some (.iconst 0, 1), some (.istore 7, 2), none, some (.iload 7, 2), none, some (.ifCond .eq 27, 3), none, none, some (.aload_n 0, 1), some (.getfield 71, 3), none, none, some (.iload 4, 2), none, some (.aaload, 1), some (.iload_n 2, 1), some (.iaload, 1), some (.aload_n 0, 1), some (.getfield 71, 3), none, none, some (.iload 6, 2), none, some (.aaload, 1), some (.iload_n 2, 1), some (.iaload, 1), some (.if_icmp .ne 6, 3), none, none, some (.iinc 5 1, 3), none, none, some (.iinc 6 1, 3), none, none, some (.goto (-66), 3), none, none, some (.iload_n 3, 1), some (.iload 5, 2), none, some (.invokestatic 342, 3), none, none, some (.istore_n 3, 1), some (.iinc 4 1, 3), none, none, some (.goto (-92), 3), none, none, some (.iload_n 3, 1), some (.ireturn, 1)]
def tX6_keepingsOf : List (Option (Instr × Nat)) := [some (.iconst 0, 1), some (.istore_n 2, 1), some (.iconst 0, 1), some (.istore_n 3, 1), some (.iload_n 3, 1), some (.aload_n 0, 1), some (.getfield 42, 3), none, none, some (.getfield 150, 3), none, none, some (.if_icmp .ge 52, 3), none, none, some (.aload_n 0, 1), some (.getfield 42, 3), none, none, some (.getfield 345, 3), none, none, some (.iload_n 3, 1), some (.iaload, 1), some (.istore 4, 2), none, some (.aload_n 0, 1), some (.getfield 37, 3), none, none, some (.iload 4, 2), none, some (.invokevirtual 115, 3), none, none, some (.ifCond .eq 23, 3), none, none, some (.aload_n 0, 1), some (.getfield 37, 3), none, none, some (.getfield 118, 3), none, none, some (.iload 4, 2), none, some (.iaload, 1), some (.iload_n 1, 1), some (.if_icmp .ne 9, 3), none, none, some (.iload_n 2, 1), some (.iconst 1, 1), some (.iload_n 3, 1), some (.ishl, 1), some (.ior, 1), some (.istore_n 2, 1), some (.iinc 3 1, 3), none, none, some (.goto (-57), 3), none, none, some (.iload_n 2, 1), some (.ireturn, 1)]
def tX6_weight : List (Option (Instr × Nat)) := [some (.lconst 1, 1), some (.lstore_n 3, 1), some (.iconst 0, 1), some (.istore 5, 2), none, some (.iload 5, 2), none, some (.bipush 8, 2), none, some (.if_icmp .ge 42, 3), none, none, some (.iload_n 1, 1), some (.iload 5, 2), none, some (.ishr, 1), some (.iconst 1, 1), some (.iand, 1), some (.iconst 1, 1), some (.if_icmp .ne 26, 3), none, none, some (.lload_n 3, 1), some (.iload_n 2, 1), some (.iload 5, 2), none, some (.ishr, 1), some (.iconst 1, 1), some (.iand, 1), some (.iconst 1, 1), some (.if_icmp .ne 11, 3), none, none, some (.bipush 16, 2), none, some (.iload_n 0, 1), some (.isub, 1), some (.i2l, 1), some (.goto 5, 3), none, none, some (.iload_n 0, 1), some (.i2l, 1), some (.lmul, 1), some (.lstore_n 3, 1), some (.iinc 5 1, 3), none, none, some (.goto (-43), 3), none, none, some (.lload_n 3, 1), some (.lreturn, 1)]
def tX6_drawKeepings : List (Option (Instr × Nat)) := [some (.aload_n 0, 1), some (.getfield 59, 3), none, none, some (.iconst 0, 1), some (.putfield 150, 3), none, none, some (.aload_n 0, 1), some (.getfield 37, 3), none, none, some (.getfield 215, 3), none, none, some (.ifCond .ne 4, 3), none, none, some (.return_, 1), some (.iload_n 1, 1), some (.istore_n 3, 1), some (.iconst 0, 1), some (.istore 4, 2), none, some (.iload 4, 2), none, some (.iload_n 2, 1), some (.if_icmp .ge 51, 3), none, none, some (.iload_n 3, 1), some (.invokestatic 348, 3), none, none, some (.istore_n 3, 1), some (.iload_n 3, 1), some (.bipush 16, 2), none, some (.iushr, 1), some (.bipush 24, 2), none, some (.irem, 1), some (.istore 5, 2), none, some (.iload_n 3, 1), some (.invokestatic 348, 3), none, none, some (.istore_n 3, 1), some (.aload_n 0, 1), some (.getfield 59, 3), none, none, some (.iload 5, 2), none, some (.iload_n 3, 1), some (.bipush 16, 2), none, some (.iushr, 1), some (.aload_n 0, 1), some (.getfield 37, 3), none, none, some (.getfield 215, 3), none, none, some (.irem, 1), some (.iconst 0, 1), some (.invokevirtual 137, 3), none, none, some (.pop, 1), some (.iinc 4 1, 3), none, none, some (.goto (-51), 3), none, none, some (.return_, 1)]
def tX6_nextSeed : List (Option (Instr × Nat)) := [some (.ldc_w 351, 3), none, none, some (.iload_n 0, 1), some (.imul, 1), some (.sipush 12345, 3), none, none, some (.iadd, 1), some (.ireturn, 1)]
def tX6_mixed : List (Option (Instr × Nat)) := [some (.ldc2_w 352, 3), none, none, some (.lload_n 0, 1), some (.lmul, 1), some (.lload_n 2, 1), some (.ladd, 1), some (.lreturn, 1)]
def tX6_withPromise : List (Option (Instr × Nat)) := [some (.lload_n 1, 1), some (.lstore 4, 2), none, some (.iconst 0, 1), some (.istore 6, 2), none, some (.iload 6, 2), none, some (.iconst 3, 1), some (.if_icmp .gt 24, 3), none, none, some (.lload 4, 2), none, some (.aload_n 0, 1), some (.iload_n 3, 1), some (.iload 6, 2), none, some (.invokevirtual 354, 3), none, none, some (.i2l, 1), some (.invokestatic 290, 3), none, none, some (.lstore 4, 2), none, some (.iinc 6 1, 3), none, none, some (.goto (-24), 3), none, none, some (.lload 4, 2), none, some (.aload_n 0, 1), some (.bipush 8, 2), none, some (.iload_n 3, 1), some (.invokevirtual 357, 3), none, none, some (.i2l, 1), some (.invokestatic 290, 3), none, none, some (.lstore 4, 2), none, some (.lload 4, 2), none, some (.aload_n 0, 1), some (.bipush 23, 2), none, some (.iload_n 3, 1), some (.invokevirtual 357, 3), none, none, some (.i2l, 1), some (.invokestatic 290, 3), none, none, some (.lstore 4, 2), none, some (.lload 4, 2), none, some (.aload_n 0, 1), some (.iload_n 3, 1), some (.iconst 0, 1), some (.invokevirtual 360, 3), none, none, some (.i2l, 1), some (.invokestatic 290, 3), none, none, some (.lstore 4, 2), none, some (.lload 4, 2), none, some (.aload_n 0, 1), some (.iload_n 3, 1), some (.iconst 1, 1), some (.invokevirtual 360, 3), none, none, some (.i2l, 1), some (.invokestatic 290, 3), none, none, some (.lreturn, 1)]
def tX6_withPerson : List (Option (Instr × Nat)) := [some (.lload_n 1, 1), some (.aload_n 0, 1), some (.iload_n 3, 1), some (.iconst 0, 1), some (.invokevirtual 363, 3), none, none, some (.i2l, 1), some (.invokestatic 290, 3), none, none, some (.lstore 4, 2), none, some (.lload 4, 2), none, some (.aload_n 0, 1), some (.iload_n 3, 1), some (.iconst 1, 1), some (.invokevirtual 363, 3), none, none, some (.i2l, 1), some (.invokestatic 290, 3), none, none, some (.lstore 4, 2), none, some (.aload_n 0, 1), some (.lload 4, 2), none, some (.iconst 0, 1), some (.iload_n 3, 1), some (.invokevirtual 366, 3), none, none, some (.lstore 4, 2), none, some (.aload_n 0, 1), some (.lload 4, 2), none, some (.bipush 6, 2), none, some (.iload_n 3, 1), some (.invokevirtual 366, 3), none, none, some (.lstore 4, 2), none, some (.aload_n 0, 1), some (.lload 4, 2), none, some (.bipush 14, 2), none, some (.iload_n 3, 1), some (.invokevirtual 366, 3), none, none, some (.lstore 4, 2), none, some (.aload_n 0, 1), some (.lload 4, 2), none, some (.bipush 23, 2), none, some (.iload_n 3, 1), some (.invokevirtual 366, 3), none, none, some (.lstore 4, 2), none, some (.lload 4, 2), none, some (.aload_n 0, 1), some (.iload_n 3, 1), some (.bipush 14, 2), none, some (.invokevirtual 370, 3), none, none, some (.i2l, 1), some (.invokestatic 290, 3), none, none, some (.lstore 4, 2), none, some (.lload 4, 2), none, some (.aload_n 0, 1), some (.iload_n 3, 1), some (.iconst 0, 1), some (.invokevirtual 373, 3), none, none, some (.i2l, 1), some (.invokestatic 290, 3), none, none, some (.lstore 4, 2), none, some (.lload 4, 2), none, some (.aload_n 0, 1), some (.iload_n 3, 1), some (.iconst 1, 1), some (.invokevirtual 373, 3), none, none, some (.i2l, 1), some (.invokestatic 290, 3), none, none, some (.lstore 4, 2), none, some (.lload 4, 2), none, some (.aload_n 0, 1), some (.iload_n 3, 1), some (.invokevirtual 376, 3), none, none, some (.i2l, 1), some (.invokestatic 290, 3), none, none, some (.lstore 4, 2), none, some (.lload 4, 2), none, some (.aload_n 0, 1), some (.iconst 5, 1), some (.iload_n 3, 1), some (.bipush 14, 2), none, some (.iconst 0, 1), some (.invokevirtual 379, 3), none, none, some (.invokestatic 290, 3), none, none, some (.lstore 4, 2), none, some (.lload 4, 2), none, some (.aload_n 0, 1), some (.iconst 5, 1), some (.iload_n 3, 1), some (.bipush 14, 2), none, some (.iconst 1, 1), some (.invokevirtual 379, 3), none, none, some (.invokestatic 290, 3), none, none, some (.lreturn, 1)]
def tX6_withCoat : List (Option (Instr × Nat)) := [some (.lload_n 1, 1), some (.aload_n 0, 1), some (.iload_n 3, 1), some (.iload 4, 2), none, some (.iconst 0, 1), some (.invokevirtual 383, 3), none, none, some (.i2l, 1), some (.invokestatic 290, 3), none, none, some (.lstore 5, 2), none, some (.lload 5, 2), none, some (.aload_n 0, 1), some (.iload_n 3, 1), some (.iload 4, 2), none, some (.iconst 1, 1), some (.invokevirtual 383, 3), none, none, some (.i2l, 1), some (.invokestatic 290, 3), none, none, some (.lstore 5, 2), none, some (.lload 5, 2), none, some (.aload_n 0, 1), some (.iload_n 3, 1), some (.iload 4, 2), none, some (.iconst 2, 1), some (.invokevirtual 383, 3), none, none, some (.i2l, 1), some (.invokestatic 290, 3), none, none, some (.lreturn, 1)]
def tX7_init : List (Option (Instr × Nat)) := [some (.aload_n 0, 1), some (.invokespecial 1, 3), none, none, some (.aload_n 0, 1), some (.iconst 2, 1), some (.newarray .int, 2), none, some (.putfield 7, 3), none, none, some (.aload_n 0, 1), some (.bipush 98, 2), none, some (.newarray .int, 2), none, some (.putfield 13, 3), none, none, some (.aload_n 0, 1), some (.bipush 9, 2), none, some (.newarray .int, 2), none, some (.putfield 16, 3), none, none, some (.aload_n 0, 1), some (.bipush 9, 2), none, some (.newarray .int, 2), none, some (.putfield 19, 3), none, none, some (.aload_n 0, 1), some (.bipush 12, 2), none, some (.newarray .int, 2), none, some (.putfield 22, 3), none, none, some (.aload_n 0, 1), some (.bipush 12, 2), none, some (.newarray .int, 2), none, some (.putfield 25, 3), none, none, some (.aload_n 0, 1), some (.bipush 12, 2), none, some (.newarray .int, 2), none, some (.putfield 28, 3), none, none, some (.aload_n 0, 1), some (.bipush 12, 2), none, some (.newarray .int, 2), none, some (.putfield 31, 3), none, none, some (.aload_n 0, 1), some (.bipush 9, 2), none, some (.newarray .int, 2), none, some (.putfield 34, 3), none, none, some (.aload_n 0, 1), some (.bipush 9, 2), none, some (.newarray .int, 2), none, some (.putfield 37, 3), none, none, some (.aload_n 0, 1), some (.bipush 6, 2), none, some (.newarray .int, 2), none, some (.putfield 40, 3), none, none, some (.aload_n 0, 1), some (.bipush 6, 2), none, some (.newarray .int, 2), none, some (.putfield 43, 3), none, none, some (.aload_n 0, 1), some (.bipush 6, 2), none, some (.newarray .int, 2), none, some (.putfield 46, 3), none, none, some (.aload_n 0, 1), some (.bipush 6, 2), none, some (.newarray .int, 2), none, some (.putfield 49, 3), none, none, some (.aload_n 0, 1), some (.bipush 6, 2), none, some (.newarray .int, 2), none, some (.putfield 52, 3), none, none, some (.aload_n 0, 1), some (.bipush 6, 2), none, some (.newarray .int, 2), none, some (.putfield 55, 3), none, none, some (.aload_n 0, 1), some (.bipush 9, 2), none, some (.newarray .int, 2), none, some (.putfield 58, 3), none, none, some (.aload_n 0, 1), some (.bipush 9, 2), none, some (.newarray .int, 2), none, some (.putfield 61, 3), none, none, some (.aload_n 0, 1), some (.bipush 8, 2), none, some (.newarray .int, 2), none, some (.putfield 64, 3), none, none, some (.aload_n 0, 1), some (.bipush 8, 2), none, some (.newarray .int, 2), none, some (.putfield 67, 3), none, none, some (.aload_n 0, 1), some (.bipush 12, 2), none, some (.newarray .int, 2), none, some (.putfield 70, 3), none, none, some (.aload_n 0, 1), some (.sipush 192, 3), none, none, some (.newarray .int, 2), none, some (.putfield 73, 3), none, none, some (.aload_n 0, 1), some (.sipush 192, 3), none, none, some (.newarray .int, 2), none, some (.putfield 76, 3), none, none, some (.aload_n 0, 1), some (.sipush 288, 3), none, none, some (.newarray .int, 2), none, some (.putfield 79, 3), none, none, some (.aload_n 0, 1), some (.iconst 2, 1), some (.newarray .int, 2), none, some (.putfield 82, 3), none, none, some (.aload_n 0, 1), some (.bipush 8, 2), none, some (.newarray .int, 2), none, some (.putfield 85, 3), none, none, some (.aload_n 0, 1), some (.bipush 8, 2), none, some (.newarray .int, 2), none, some (.putfield 88, 3), none, none, some (.aload_n 0, 1), some (.bipush 8, 2), none, some (.newarray .int, 2), none, some (.putfield 91, 3), none, none, some (.aload_n 0, 1), some (.sipush 240, 3), none, none, some (.newarray .int, 2), none, some (.putfield 94, 3), none, none, some (.aload_n 0, 1), some (.iconst 4, 1), some (.newarray .boolean, 2), none, some (.putfield 97, 3), none, none, some (.aload_n 0, 1), some (.iconst 4, 1), some (.newarray .int, 2), none, some (.putfield 101, 3), none, none, some (.aload_n 0, 1), some (.iconst 4, 1), some (.newarray .int, 2), none, some (.putfield 104, 3), none, none, some (.aload_n 0, 1), some (.sipush 240, 3), none, none, some (.newarray .int, 2), none, some (.putfield 107, 3), none, none, some (.aload_n 0, 1), some (.bipush 60, 2), none, some (.newarray .int, 2), none, some (.putfield 110, 3), none, none, some (.return_, 1)]
def tX7_in : List (Option (Instr × Nat)) := [some (.iload_n 0, 1), some (.iload_n 1, 1), some (.if_icmp .lt 12, 3), none, none, some (.iload_n 0, 1), some (.iload_n 2, 1), some (.if_icmp .gt 7, 3), none, none, some (.iconst 1, 1), some (.goto 4, 3), none, none, some (.iconst 0, 1), some (.ireturn, 1)]
def tX7_isIn : List (Option (Instr × Nat)) := [some (.iload_n 0, 1), some (.iload_n 1, 1), some (.ishr, 1), some (.iconst 1, 1), some (.iand, 1), some (.iconst 1, 1), some (.if_icmp .ne 7, 3), none, none, some (.iconst 1, 1), some (.goto 4, 3), none, none, some (.iconst 0, 1), some (.ireturn, 1)]
def tX7_no : List (Option (Instr × Nat)) := [some (.ldc2_w 113, 3), none, none, some (.iload_n 0, 1), some (.i2l, 1), some (.lsub, 1), some (.lreturn, 1)]
def tX7_lowest : List (Option (Instr × Nat)) := [some (.lload_n 0, 1), some (.lstore 5, 2), none, some (.lload_n 2, 1), some (.lstore 7, 2), none, some (.lload 7, 2), none, some (.lconst 0, 1), some (.lcmp, 1), some (.ifCond .eq 21, 3), none, none, some (.lload 5, 2), none, some (.lload 7, 2), none, some (.lrem, 1), some (.lstore 9, 2), none, some (.lload 7, 2), none, some (.lstore 5, 2), none, some (.lload 9, 2), none, some (.lstore 7, 2), none, some (.goto (-22), 3), none, none, some (.iload 4, 2), none, some (.ifCond .ne 10, 3), none, none, some (.lload_n 0, 1), some (.lload 5, 2), none, some (.ldiv, 1), some (.goto 7, 3), none, none, some (.lload_n 2, 1), some (.lload 5, 2), none, some (.ldiv, 1), some (.lreturn, 1)]
def tX7_isText : List (Option (Instr × Nat)) := [some (.iload_n 0, 1), some (.iconst 0, 1), some (.iconst 1, 1), some (.invokestatic 115, 3), none, none, some (.ireturn, 1)]
def tX7_isDay : List (Option (Instr × Nat)) := [some (.iload_n 0, 1), some (.iconst 0, 1), some (.bipush 23, 2), none, some (.invokestatic 115, 3), none, none, some (.ireturn, 1)]
def tX7_isEight : List (Option (Instr × Nat)) := [some (.iload_n 0, 1), some (.iconst 0, 1), some (.bipush 7, 2), none, some (.invokestatic 115, 3), none, none, some (.ireturn, 1)]
def tX7_type : List (Option (Instr × Nat)) := [some (.iload_n 1, 1), some (.invokestatic 119, 3), none, none, some (.ifCond .eq 14, 3), none, none, some (.iload_n 2, 1), some (.iconst 0, 1), some (.sipush 255, 3), none, none, some (.invokestatic 115, 3), none, none, some (.ifCond .ne 6, 3), none, none, some (.bipush (-2), 2), none, some (.ireturn, 1), some (.aload_n 0, 1), some (.getfield 7, 3), none, none, some (.iload_n 1, 1), some (.iaload, 1), some (.iload_n 1, 1), some (.ifCond .ne 8, 3), none, none, some (.bipush 23, 2), none, some (.goto 5, 3), none, none, some (.bipush 49, 2), none, some (.if_icmp .ne 6, 3), none, none, some (.bipush (-4), 2), none, some (.ireturn, 1), some (.aload_n 0, 1), some (.getfield 13, 3), none, none, some (.bipush 49, 2), none, some (.iload_n 1, 1), some (.imul, 1), some (.aload_n 0, 1), some (.getfield 7, 3), none, none, some (.iload_n 1, 1), some (.iaload, 1), some (.iadd, 1), some (.iload_n 2, 1), some (.iastore, 1), some (.aload_n 0, 1), some (.getfield 7, 3), none, none, some (.iload_n 1, 1), some (.dup2, 1), some (.iaload, 1), some (.iconst 1, 1), some (.iadd, 1), some (.iastore, 1), some (.aload_n 0, 1), some (.getfield 7, 3), none, none, some (.iload_n 1, 1), some (.iaload, 1), some (.ireturn, 1)]
def tX7_wipe : List (Option (Instr × Nat)) := [some (.iload_n 1, 1), some (.invokestatic 119, 3), none, none, some (.ifCond .ne 6, 3), none, none, some (.bipush (-2), 2), none, some (.ireturn, 1), some (.aload_n 0, 1), some (.getfield 7, 3), none, none, some (.iload_n 1, 1), some (.iaload, 1), some (.istore_n 2, 1), some (.aload_n 0, 1), some (.getfield 7, 3), none, none, some (.iload_n 1, 1), some (.iconst 0, 1), some (.iastore, 1), some (.iload_n 2, 1), some (.ireturn, 1)]
def tX7_undo : List (Option (Instr × Nat)) := [some (.iload_n 1, 1), some (.invokestatic 119, 3), none, none, some (.ifCond .ne 6, 3), none, none, some (.bipush (-2), 2), none, some (.ireturn, 1), some (.aload_n 0, 1), some (.getfield 7, 3), none, none, some (.iload_n 1, 1), some (.iaload, 1), some (.ifCond .ne 6, 3), none, none, some (.bipush (-3), 2), none, some (.ireturn, 1), some (.aload_n 0, 1), some (.getfield 7, 3), none, none, some (.iload_n 1, 1), some (.dup2, 1), some (.iaload, 1), some (.iconst 1, 1), some (.isub, 1), some (.iastore, 1), some (.aload_n 0, 1), some (.getfield 7, 3), none, none, some (.iload_n 1, 1), some (.iaload, 1), some (.ireturn, 1)]
def tX7_byteAt : List (Option (Instr × Nat)) := [some (.iload_n 2, 1), some (.aload_n 0, 1), some (.getfield 7, 3), none, none, some (.iload_n 1, 1), some (.iaload, 1), some (.if_icmp .ge 17, 3), none, none, some (.aload_n 0, 1), some (.getfield 13, 3), none, none, some (.bipush 49, 2), none, some (.iload_n 1, 1), some (.imul, 1), some (.iload_n 2, 1), some (.iadd, 1), some (.iaload, 1), some (.goto 4, 3), none, none, some (.iconst (-1), 1), some (.ireturn, 1)]
def tX7_readsPerson : List (Option (Instr × Nat)) := [some (.aload_n 0, 1), some (.iconst 0, 1), some (.iload_n 2, 1), some (.invokevirtual 123, 3), none, none, some (.istore_n 3, 1), some (.iload_n 3, 1), some (.bipush 109, 2), none, some (.if_icmp .ne 7, 3), none, none, some (.iconst 0, 1), some (.goto 24, 3), none, none, some (.iload_n 3, 1), some (.bipush 115, 2), none, some (.if_icmp .ne 7, 3), none, none, some (.iconst 1, 1), some (.goto 14, 3), none, none, some (.iload_n 3, 1), some (.bipush 97, 2), none, some (.if_icmp .ne 7, 3), none, none, some (.iconst 2, 1), some (.goto 4, 3), none, none, some (.iconst (-1), 1), some (.istore 4, 2), none, some (.aload_n 0, 1), some (.iconst 0, 1), some (.iload_n 2, 1), some (.iconst 1, 1), some (.iadd, 1), some (.invokevirtual 123, 3), none, none, some (.istore 5, 2), none, some (.iload_n 1, 1), some (.bipush 8, 2), none, some (.if_icmp .eq 9, 3), none, none, some (.iload 4, 2), none, some (.iconst (-1), 1), some (.if_icmp .ne 5, 3), none, none, some (.iconst 0, 1), some (.ireturn, 1), some (.iload 5, 2), none, some (.bipush 48, 2), none, some (.bipush 57, 2), none, some (.invokestatic 115, 3), none, none, some (.ifCond .ne 5, 3), none, none, some (.iconst 1, 1), some (.ireturn, 1), some (.aload_n 0, 1), some (.getfield 16, 3), none, none, some (.iload_n 1, 1), some (.iload 4, 2), none, some (.iastore, 1), some (.aload_n 0, 1), some (.getfield 19, 3), none, none, some (.iload_n 1, 1), some (.iload 5, 2), none, some (.bipush 48, 2), none, some (.isub, 1), some (.iastore, 1), some (.iconst 2, 1), some (.ireturn, 1)]
def tX7_readsPromise : List (Option (Instr × Nat)) := [some (.aload_n 0, 1), some (.iconst 1, 1), some (.iload_n 2, 1), some (.invokevirtual 123, 3), none, none, some (.istore_n 3, 1), some (.aload_n 0, 1), some (.iconst 1, 1), some (.iload_n 2, 1), some (.iconst 1, 1), some (.iadd, 1), some (.invokevirtual 123, 3), none, none, some (.istore 4, 2), none, some (.aload_n 0, 1), some (.iconst 1, 1), some (.iload_n 2, 1), some (.iconst 2, 1), some (.iadd, 1), some (.invokevirtual 123, 3), none, none, some (.istore 5, 2), none, some (.aload_n 0, 1), some (.iconst 1, 1), some (.iload_n 2, 1), some (.iconst 3, 1), some (.iadd, 1), some (.invokevirtual 123, 3), none, none, some (.istore 6, 2), none, some (.iload_n 1, 1), some (.bipush 10, 2), none, some (.if_icmp .eq 14, 3), none, none, some (.iload_n 3, 1), some (.bipush 97, 2), none, some (.bipush 104, 2), none, some (.invokestatic 115, 3), none, none, some (.ifCond .ne 5, 3), none, none, some (.iconst 0, 1), some (.ireturn, 1), some (.iload 4, 2), none, some (.bipush 49, 2), none, some (.bipush 57, 2), none, some (.invokestatic 115, 3), none, none, some (.ifCond .ne 5, 3), none, none, some (.iconst 1, 1), some (.ireturn, 1), some (.iload 5, 2), none, some (.bipush 97, 2), none, some (.bipush 120, 2), none, some (.invokestatic 115, 3), none, none, some (.ifCond .ne 5, 3), none, none, some (.iconst 2, 1), some (.ireturn, 1), some (.iload 6, 2), none, some (.bipush 97, 2), none, some (.bipush 120, 2), none, some (.invokestatic 115, 3), none, none, some (.ifCond .ne 5, 3), none, none, some (.iconst 3, 1), some (.ireturn, 1), some (.aload_n 0, 1), some (.getfield 22, 3), none, none, some (.iload_n 1, 1), some (.iload_n 3, 1), some (.bipush 97, 2), none, some (.isub, 1), some (.iastore, 1), some (.aload_n 0, 1), some (.getfield 25, 3), none, none, some (.iload_n 1, 1), some (.iload 4, 2), none, some (.bipush 48, 2), none, some (.isub, 1), some (.iastore, 1), some (.aload_n 0, 1), some (.getfield 28, 3), none, none, some (.iload_n 1, 1), some (.iload 5, 2), none, some (.bipush 97, 2), none, some (.isub, 1), some (.iastore, 1), some (.aload_n 0, 1), some (.getfield 31, 3), none, none, some (.iload_n 1, 1), some (.iload 6, 2), none, some (.bipush 97, 2), none, some (.isub, 1), some (.iastore, 1), some (.iconst 4, 1), some (.ireturn, 1)]
def tX7_readsParts : List (Option (Instr × Nat)) := [some (.iload_n 1, 1), some (.ifCond .ne 7, 3), none, none, some (.iconst 2, 1), some (.goto 4, 3), none, none, some (.iconst 4, 1), some (.istore_n 2, 1), some (.iconst 0, 1), some (.istore_n 3, 1), some (.iconst 0, 1), some (.istore 4, 2), none, some (.aload_n 0, 1), some (.iload_n 1, 1), some (.ifCond .ne 7, 3), none, none, some (.iconst 0, 1), some (.goto 7, 3), none, none, some (.aload_n 0, 1), some (.getfield 127, 3), none, none, some (.putfield 127, 3), none, none, some (.aload_n 0, 1), some (.iload_n 1, 1), some (.iconst 1, 1), some (.if_icmp .ne 7, 3), none, none, some (.iconst 0, 1), some (.goto 7, 3), none, none, some (.aload_n 0, 1), some (.getfield 131, 3), none, none, some (.putfield 131, 3), none, none, some (.iload 4, 2), none, some (.aload_n 0, 1), some (.getfield 7, 3), none, none, some (.iload_n 1, 1), some (.iaload, 1), some (.if_icmp .lt 8, 3), none, none, some (.iload 4, 2), none, some (.ifCond .le 114, 3), none, none, some (.iload_n 1, 1), some (.ifCond .ne 13, 3), none, none, some (.aload_n 0, 1), some (.iload_n 3, 1), some (.iload 4, 2), none, some (.invokevirtual 134, 3), none, none, some (.goto 10, 3), none, none, some (.aload_n 0, 1), some (.iload_n 3, 1), some (.iload 4, 2), none, some (.invokevirtual 137, 3), none, none, some (.istore 5, 2), none, some (.iload 5, 2), none, some (.iload_n 2, 1), some (.if_icmp .ge 9, 3), none, none, some (.iload 4, 2), none, some (.iload 5, 2), none, some (.iadd, 1), some (.ireturn, 1), some (.iinc 3 1, 3), none, none, some (.iload 4, 2), none, some (.iload_n 2, 1), some (.iadd, 1), some (.istore 4, 2), none, some (.iload 4, 2), none, some (.aload_n 0, 1), some (.getfield 7, 3), none, none, some (.iload_n 1, 1), some (.iaload, 1), some (.if_icmp .ne 38, 3), none, none, some (.aload_n 0, 1), some (.iload_n 1, 1), some (.ifCond .ne 7, 3), none, none, some (.iload_n 3, 1), some (.goto 7, 3), none, none, some (.aload_n 0, 1), some (.getfield 127, 3), none, none, some (.putfield 127, 3), none, none, some (.aload_n 0, 1), some (.iload_n 1, 1), some (.iconst 1, 1), some (.if_icmp .ne 7, 3), none, none, some (.iload_n 3, 1), some (.goto 7, 3), none, none, some (.aload_n 0, 1), some (.getfield 131, 3), none, none, some (.putfield 131, 3), none, none, some (.iconst (-1), 1), some (.ireturn, 1), some (.aload_n 0, 1), some (.iload_n 1, 1), some (.iload 4, 2), none, some (.invokevirtual 123, 3), none, none, some (.bipush 59, 2), none, some (.if_icmp .eq 6, 3), none, none, some (.iload 4, 2), none, some (.ireturn, 1), some (.iinc 4 1, 3), none, none, some (.goto (-124), 3), none, none, some (.iconst (-1), 1), some (.ireturn, 1)]
def tX7_faultOf : List (Option (Instr × Nat)) := [some (.aload_n 0, 1), some (.iconst 0, 1), some (.invokevirtual 140, 3), none, none, some (.istore_n 2, 1), some (.aload_n 0, 1), some (.iconst 1, 1), some (.invokevirtual 140, 3), none, none, some (.istore_n 3, 1), some (.iload_n 1, 1), some (.ifCond .ne 7, 3), none, none, some (.iload_n 2, 1), some (.goto 4, 3), none, none, some (.iload_n 3, 1), some (.ireturn, 1)]
def tX7_reads : List (Option (Instr × Nat)) := [some (.aload_n 0, 1), some (.iconst 0, 1), some (.invokevirtual 144, 3), none, none, some (.istore_n 1, 1), some (.return_, 1)]
def tX7_fault : List (Option (Instr × Nat)) := [some (.iload_n 1, 1), some (.invokestatic 119, 3), none, none, some (.ifCond .eq 11, 3), none, none, some (.aload_n 0, 1), some (.iload_n 1, 1), some (.invokevirtual 144, 3), none, none, some (.goto 5, 3), none, none, some (.bipush (-2), 2), none, some (.ireturn, 1)]
def tX7_isPerson : List (Option (Instr × Nat)) := [some (.aload_n 0, 1), some (.invokevirtual 147, 3), none, none, some (.iload_n 1, 1), some (.iconst 0, 1), some (.aload_n 0, 1), some (.getfield 127, 3), none, none, some (.iconst 1, 1), some (.isub, 1), some (.invokestatic 115, 3), none, none, some (.ireturn, 1)]
def tX7_isPromise : List (Option (Instr × Nat)) := [some (.aload_n 0, 1), some (.invokevirtual 147, 3), none, none, some (.iload_n 1, 1), some (.iconst 0, 1), some (.aload_n 0, 1), some (.getfield 131, 3), none, none, some (.iconst 1, 1), some (.isub, 1), some (.invokestatic 115, 3), none, none, some (.ireturn, 1)]
def tX7_personOf : List (Option (Instr × Nat)) := [some (.iload_n 2, 1), some (.ifCond .ne 12, 3), none, none, some (.aload_n 0, 1), some (.getfield 16, 3), none, none, some (.iload_n 1, 1), some (.iaload, 1), some (.goto 9, 3), none, none, some (.aload_n 0, 1), some (.getfield 19, 3), none, none, some (.iload_n 1, 1), some (.iaload, 1), some (.ireturn, 1)]
def tX7_person : List (Option (Instr × Nat)) := [some (.aload_n 0, 1), some (.iload_n 1, 1), some (.invokevirtual 150, 3), none, none, some (.ifCond .eq 21, 3), none, none, some (.iload_n 2, 1), some (.iconst 0, 1), some (.iconst 1, 1), some (.invokestatic 115, 3), none, none, some (.ifCond .eq 12, 3), none, none, some (.aload_n 0, 1), some (.iload_n 1, 1), some (.iload_n 2, 1), some (.invokevirtual 153, 3), none, none, some (.goto 5, 3), none, none, some (.bipush (-2), 2), none, some (.ireturn, 1)]
def tX7_promiseOf : List (Option (Instr × Nat)) := [some (.iload_n 2, 1), some (.ifCond .ne 12, 3), none, none, some (.aload_n 0, 1), some (.getfield 22, 3), none, none, some (.iload_n 1, 1), some (.iaload, 1), some (.goto 37, 3), none, none, some (.iload_n 2, 1), some (.iconst 1, 1), some (.if_icmp .ne 12, 3), none, none, some (.aload_n 0, 1), some (.getfield 25, 3), none, none, some (.iload_n 1, 1), some (.iaload, 1), some (.goto 23, 3), none, none, some (.iload_n 2, 1), some (.iconst 2, 1), some (.if_icmp .ne 12, 3), none, none, some (.aload_n 0, 1), some (.getfield 28, 3), none, none, some (.iload_n 1, 1), some (.iaload, 1), some (.goto 9, 3), none, none, some (.aload_n 0, 1), some (.getfield 31, 3), none, none, some (.iload_n 1, 1), some (.iaload, 1), some (.ireturn, 1)]
def tX7_promise : List (Option (Instr × Nat)) := [some (.aload_n 0, 1), some (.iload_n 1, 1), some (.invokevirtual 156, 3), none, none, some (.ifCond .eq 21, 3), none, none, some (.iload_n 2, 1), some (.iconst 0, 1), some (.iconst 3, 1), some (.invokestatic 115, 3), none, none, some (.ifCond .eq 12, 3), none, none, some (.aload_n 0, 1), some (.iload_n 1, 1), some (.iload_n 2, 1), some (.invokevirtual 159, 3), none, none, some (.goto 5, 3), none, none, some (.bipush (-2), 2), none, some (.ireturn, 1)]
def tX7_keeping : List (Option (Instr × Nat)) := [some (.iload_n 1, 1), some (.invokestatic 162, 3), none, none, some (.ifCond .eq 13, 3), none, none, some (.iload_n 2, 1), some (.iconst 0, 1), some (.bipush 9, 2), none, some (.invokestatic 115, 3), none, none, some (.ifCond .ne 6, 3), none, none, some (.bipush (-2), 2), none, some (.ireturn, 1), some (.aload_n 0, 1), some (.getfield 165, 3), none, none, some (.bipush 8, 2), none, some (.if_icmp .ne 6, 3), none, none, some (.bipush (-4), 2), none, some (.ireturn, 1), some (.aload_n 0, 1), some (.getfield 34, 3), none, none, some (.aload_n 0, 1), some (.getfield 165, 3), none, none, some (.iload_n 1, 1), some (.iastore, 1), some (.aload_n 0, 1), some (.getfield 37, 3), none, none, some (.aload_n 0, 1), some (.getfield 165, 3), none, none, some (.iload_n 2, 1), some (.iastore, 1), some (.aload_n 0, 1), some (.dup, 1), some (.getfield 165, 3), none, none, some (.iconst 1, 1), some (.iadd, 1), some (.putfield 165, 3), none, none, some (.aload_n 0, 1), some (.getfield 165, 3), none, none, some (.ireturn, 1)]
def tX7_lie : List (Option (Instr × Nat)) := [some (.iload_n 1, 1), some (.invokestatic 162, 3), none, none, some (.ifCond .eq 20, 3), none, none, some (.iload_n 2, 1), some (.invokestatic 168, 3), none, none, some (.ifCond .eq 13, 3), none, none, some (.iload_n 3, 1), some (.iconst 1, 1), some (.bipush 9, 2), none, some (.invokestatic 115, 3), none, none, some (.ifCond .ne 6, 3), none, none, some (.bipush (-2), 2), none, some (.ireturn, 1), some (.aload_n 0, 1), some (.getfield 171, 3), none, none, some (.bipush 6, 2), none, some (.if_icmp .ne 6, 3), none, none, some (.bipush (-4), 2), none, some (.ireturn, 1), some (.aload_n 0, 1), some (.getfield 40, 3), none, none, some (.aload_n 0, 1), some (.getfield 171, 3), none, none, some (.iload_n 1, 1), some (.iastore, 1), some (.aload_n 0, 1), some (.getfield 43, 3), none, none, some (.aload_n 0, 1), some (.getfield 171, 3), none, none, some (.iload_n 2, 1), some (.iastore, 1), some (.aload_n 0, 1), some (.getfield 46, 3), none, none, some (.aload_n 0, 1), some (.getfield 171, 3), none, none, some (.iload_n 3, 1), some (.iastore, 1), some (.aload_n 0, 1), some (.dup, 1), some (.getfield 171, 3), none, none, some (.iconst 1, 1), some (.iadd, 1), some (.putfield 171, 3), none, none, some (.aload_n 0, 1), some (.getfield 171, 3), none, none, some (.ireturn, 1)]
def tX7_letting : List (Option (Instr × Nat)) := [some (.iload_n 1, 1), some (.invokestatic 162, 3), none, none, some (.ifCond .eq 20, 3), none, none, some (.iload_n 2, 1), some (.invokestatic 168, 3), none, none, some (.ifCond .eq 13, 3), none, none, some (.iload_n 3, 1), some (.iconst 1, 1), some (.bipush 9, 2), none, some (.invokestatic 115, 3), none, none, some (.ifCond .ne 6, 3), none, none, some (.bipush (-2), 2), none, some (.ireturn, 1), some (.aload_n 0, 1), some (.getfield 174, 3), none, none, some (.bipush 6, 2), none, some (.if_icmp .ne 6, 3), none, none, some (.bipush (-4), 2), none, some (.ireturn, 1), some (.aload_n 0, 1), some (.getfield 49, 3), none, none, some (.aload_n 0, 1), some (.getfield 174, 3), none, none, some (.iload_n 1, 1), some (.iastore, 1), some (.aload_n 0, 1), some (.getfield 52, 3), none, none, some (.aload_n 0, 1), some (.getfield 174, 3), none, none, some (.iload_n 2, 1), some (.iastore, 1), some (.aload_n 0, 1), some (.getfield 55, 3), none, none, some (.aload_n 0, 1), some (.getfield 174, 3), none, none, some (.iload_n 3, 1), some (.iastore, 1), some (.aload_n 0, 1), some (.dup, 1), some (.getfield 174, 3), none, none, some (.iconst 1, 1), some (.iadd, 1), some (.putfield 174, 3), none, none, some (.aload_n 0, 1), some (.getfield 174, 3), none, none, some (.ireturn, 1)]
def tX7_back : List (Option (Instr × Nat)) := [some (.iload_n 1, 1), some (.iconst 0, 1), some (.iconst 2, 1), some (.invokestatic 115, 3), none, none, some (.ifCond .ne 6, 3), none, none, some (.bipush (-2), 2), none, some (.ireturn, 1), some (.iload_n 1, 1), some (.ifCond .ne 10, 3), none, none, some (.aload_n 0, 1), some (.getfield 165, 3), none, none, some (.goto 19, 3), none, none, some (.iload_n 1, 1), some (.iconst 1, 1), some (.if_icmp .ne 10, 3), none, none, some (.aload_n 0, 1), some (.getfield 171, 3), none, none, some (.goto 7, 3), none, none, some (.aload_n 0, 1), some (.getfield 174, 3), none, none, some (.istore_n 2, 1), some (.iload_n 2, 1), some (.ifCond .ne 6, 3), none, none, some (.bipush (-3), 2), none, some (.ireturn, 1), some (.aload_n 0, 1), some (.dup, 1), some (.getfield 165, 3), none, none, some (.iload_n 1, 1), some (.ifCond .ne 7, 3), none, none, some (.iconst 1, 1), some (.goto 4, 3), none, none, some (.iconst 0, 1), some (.isub, 1), some (.putfield 165, 3), none, none, some (.aload_n 0, 1), some (.dup, 1), some (.getfield 171, 3), none, none, some (.iload_n 1, 1), some (.iconst 1, 1), some (.if_icmp .ne 7, 3), none, none, some (.iconst 1, 1), some (.goto 4, 3), none, none, some (.iconst 0, 1), some (.isub, 1), some (.putfield 171, 3), none, none, some (.aload_n 0, 1), some (.dup, 1), some (.getfield 174, 3), none, none, some (.iload_n 1, 1), some (.iconst 2, 1), some (.if_icmp .ne 7, 3), none, none, some (.iconst 1, 1), some (.goto 4, 3), none, none, some (.iconst 0, 1), some (.isub, 1), some (.putfield 174, 3), none, none, some (.iload_n 2, 1), some (.iconst 1, 1), some (.isub, 1), some (.ireturn, 1)]
def tX7_read : List (Option (Instr × Nat)) := [some (.iload_n 1, 1), some (.invokestatic 177, 3), none, none, some (.ifCond .ne 6, 3), none, none, some (.bipush (-2), 2), none, some (.ireturn, 1), some (.aload_n 0, 1), some (.getfield 97, 3), none, none, some (.iload_n 1, 1), some (.baload, 1), some (.ifCond .ne 9, 3), none, none, some (.aload_n 0, 1), some (.iconst 1, 1), some (.invokevirtual 180, 3), none, none, some (.ireturn, 1), some (.iconst 0, 1), some (.istore_n 2, 1), some (.iconst 2, 1), some (.iload_n 2, 1), some (.imul, 1), some (.iconst 1, 1), some (.iadd, 1), some (.aload_n 0, 1), some (.getfield 104, 3), none, none, some (.iload_n 1, 1), some (.iaload, 1), some (.if_icmp .ge 44, 3), none, none, some (.aload_n 0, 1), some (.aload_n 0, 1), some (.getfield 107, 3), none, none, some (.bipush 60, 2), none, some (.iload_n 1, 1), some (.imul, 1), some (.iconst 2, 1), some (.iload_n 2, 1), some (.imul, 1), some (.iadd, 1), some (.iaload, 1), some (.aload_n 0, 1), some (.getfield 107, 3), none, none, some (.bipush 60, 2), none, some (.iload_n 1, 1), some (.imul, 1), some (.iconst 2, 1), some (.iload_n 2, 1), some (.imul, 1), some (.iadd, 1), some (.iconst 1, 1), some (.iadd, 1), some (.iaload, 1), some (.invokevirtual 183, 3), none, none, some (.ifCond .le 9, 3), none, none, some (.iinc 2 1, 3), none, none, some (.goto (-52), 3), none, none, some (.iload_n 2, 1), some (.ireturn, 1)]
def tX7_asTold : List (Option (Instr × Nat)) := [some (.aload_n 0, 1), some (.invokevirtual 147, 3), none, none, some (.aload_n 0, 1), some (.aload_n 0, 1), some (.getfield 131, 3), none, none, some (.putfield 186, 3), none, none, some (.aload_n 0, 1), some (.aload_n 0, 1), some (.getfield 165, 3), none, none, some (.putfield 189, 3), none, none, some (.iconst 0, 1), some (.istore_n 1, 1), some (.iload_n 1, 1), some (.aload_n 0, 1), some (.getfield 165, 3), none, none, some (.if_icmp .ge 33, 3), none, none, some (.aload_n 0, 1), some (.getfield 58, 3), none, none, some (.iload_n 1, 1), some (.aload_n 0, 1), some (.getfield 34, 3), none, none, some (.iload_n 1, 1), some (.iaload, 1), some (.iastore, 1), some (.aload_n 0, 1), some (.getfield 61, 3), none, none, some (.iload_n 1, 1), some (.aload_n 0, 1), some (.getfield 37, 3), none, none, some (.iload_n 1, 1), some (.iaload, 1), some (.iastore, 1), some (.iinc 1 1, 3), none, none, some (.goto (-35), 3), none, none, some (.aload_n 0, 1), some (.iconst 0, 1), some (.putfield 192, 3), none, none, some (.aload_n 0, 1), some (.iconst 0, 1), some (.putfield 195, 3), none, none, some (.return_, 1)]
def tX7_changes : List (Option (Instr × Nat)) := [some (.aload_n 0, 1), some (.getfield 64, 3), none, none, some (.iload_n 1, 1), some (.iaload, 1), some (.iload_n 2, 1), some (.iadd, 1), some (.istore_n 3, 1), some (.aload_n 0, 1), some (.getfield 64, 3), none, none, some (.iload_n 1, 1), some (.iload_n 3, 1), some (.ifCond .ge 7, 3), none, none, some (.iconst 0, 1), some (.goto 15, 3), none, none, some (.iload_n 3, 1), some (.bipush 99, 2), none, some (.if_icmp .le 8, 3), none, none, some (.bipush 99, 2), none, some (.goto 4, 3), none, none, some (.iload_n 3, 1), some (.iastore, 1), some (.return_, 1)]
def tX7_lengthOf : List (Option (Instr × Nat)) := [some (.aload_n 0, 1), some (.getfield 16, 3), none, none, some (.aload_n 0, 1), some (.getfield 22, 3), none, none, some (.iload_n 1, 1), some (.iaload, 1), some (.iaload, 1), some (.istore_n 2, 1), some (.iload_n 2, 1), some (.ifCond .ne 14, 3), none, none, some (.aload_n 0, 1), some (.getfield 25, 3), none, none, some (.iload_n 1, 1), some (.iaload, 1), some (.iconst 2, 1), some (.idiv, 1), some (.goto 25, 3), none, none, some (.iload_n 2, 1), some (.iconst 1, 1), some (.if_icmp .ne 14, 3), none, none, some (.iconst 2, 1), some (.aload_n 0, 1), some (.getfield 25, 3), none, none, some (.iload_n 1, 1), some (.iaload, 1), some (.imul, 1), some (.goto 9, 3), none, none, some (.aload_n 0, 1), some (.getfield 25, 3), none, none, some (.iload_n 1, 1), some (.iaload, 1), some (.ireturn, 1)]
def tX7_makes : List (Option (Instr × Nat)) := [some (.iconst 0, 1), some (.istore_n 2, 1), some (.iload_n 2, 1), some (.aload_n 0, 1), some (.getfield 186, 3), none, none, some (.if_icmp .ge 54, 3), none, none, some (.aload_n 0, 1), some (.getfield 28, 3), none, none, some (.iload_n 2, 1), some (.iaload, 1), some (.iload_n 1, 1), some (.if_icmp .ne 38, 3), none, none, some (.aload_n 0, 1), some (.getfield 22, 3), none, none, some (.iload_n 2, 1), some (.iaload, 1), some (.aload_n 0, 1), some (.getfield 127, 3), none, none, some (.if_icmp .ge 25, 3), none, none, some (.aload_n 0, 1), some (.getfield 70, 3), none, none, some (.iload_n 2, 1), some (.iconst 1, 1), some (.iastore, 1), some (.aload_n 0, 1), some (.aload_n 0, 1), some (.getfield 22, 3), none, none, some (.iload_n 2, 1), some (.iaload, 1), some (.aload_n 0, 1), some (.iload_n 2, 1), some (.invokevirtual 198, 3), none, none, some (.invokevirtual 201, 3), none, none, some (.iinc 2 1, 3), none, none, some (.goto (-56), 3), none, none, some (.return_, 1)]
def tX7_isKept : List (Option (Instr × Nat)) := [some (.aload_n 0, 1), some (.getfield 22, 3), none, none, some (.iload_n 1, 1), some (.iaload, 1), some (.istore_n 2, 1), some (.aload_n 0, 1), some (.getfield 19, 3), none, none, some (.iload_n 2, 1), some (.iaload, 1), some (.aload_n 0, 1), some (.getfield 64, 3), none, none, some (.iload_n 2, 1), some (.iaload, 1), some (.isub, 1), some (.istore_n 3, 1), some (.aload_n 0, 1), some (.getfield 25, 3), none, none, some (.iload_n 1, 1), some (.iaload, 1), some (.istore 4, 2), none, some (.aload_n 0, 1), some (.getfield 70, 3), none, none, some (.iload_n 1, 1), some (.iconst 2, 1), some (.iastore, 1), some (.aload_n 0, 1), some (.iload_n 2, 1), some (.iload_n 3, 1), some (.iload 4, 2), none, some (.if_icmp .le 8, 3), none, none, some (.iload 4, 2), none, some (.goto 17, 3), none, none, some (.iload_n 3, 1), some (.iload 4, 2), none, some (.ineg, 1), some (.if_icmp .ge 9, 3), none, none, some (.iload 4, 2), none, some (.ineg, 1), some (.goto 4, 3), none, none, some (.iload_n 3, 1), some (.invokevirtual 201, 3), none, none, some (.return_, 1)]
def tX7_keepsOn : List (Option (Instr × Nat)) := [some (.iconst 0, 1), some (.istore_n 2, 1), some (.iload_n 2, 1), some (.aload_n 0, 1), some (.getfield 189, 3), none, none, some (.if_icmp .ge 60, 3), none, none, some (.aload_n 0, 1), some (.getfield 61, 3), none, none, some (.iload_n 2, 1), some (.iaload, 1), some (.istore_n 3, 1), some (.aload_n 0, 1), some (.getfield 58, 3), none, none, some (.iload_n 2, 1), some (.iaload, 1), some (.iload_n 1, 1), some (.if_icmp .ne 37, 3), none, none, some (.aload_n 0, 1), some (.getfield 192, 3), none, none, some (.iload_n 2, 1), some (.invokestatic 205, 3), none, none, some (.ifCond .ne 26, 3), none, none, some (.iload_n 3, 1), some (.aload_n 0, 1), some (.getfield 131, 3), none, none, some (.if_icmp .ge 18, 3), none, none, some (.aload_n 0, 1), some (.getfield 70, 3), none, none, some (.iload_n 3, 1), some (.iaload, 1), some (.iconst 1, 1), some (.if_icmp .ne 8, 3), none, none, some (.aload_n 0, 1), some (.iload_n 3, 1), some (.invokevirtual 209, 3), none, none, some (.iinc 2 1, 3), none, none, some (.goto (-62), 3), none, none, some (.return_, 1)]
def tX7_breaks : List (Option (Instr × Nat)) := [some (.iconst 0, 1), some (.istore_n 2, 1), some (.iload_n 2, 1), some (.aload_n 0, 1), some (.getfield 186, 3), none, none, some (.if_icmp .ge 80, 3), none, none, some (.aload_n 0, 1), some (.getfield 31, 3), none, none, some (.iload_n 2, 1), some (.iaload, 1), some (.iload_n 1, 1), some (.if_icmp .ne 64, 3), none, none, some (.aload_n 0, 1), some (.getfield 70, 3), none, none, some (.iload_n 2, 1), some (.iaload, 1), some (.iconst 1, 1), some (.if_icmp .ne 54, 3), none, none, some (.aload_n 0, 1), some (.getfield 22, 3), none, none, some (.iload_n 2, 1), some (.iaload, 1), some (.istore_n 3, 1), some (.aload_n 0, 1), some (.getfield 70, 3), none, none, some (.iload_n 2, 1), some (.iconst 3, 1), some (.iastore, 1), some (.aload_n 0, 1), some (.iload_n 3, 1), some (.aload_n 0, 1), some (.iload_n 2, 1), some (.invokevirtual 198, 3), none, none, some (.ineg, 1), some (.aload_n 0, 1), some (.getfield 16, 3), none, none, some (.iload_n 3, 1), some (.iaload, 1), some (.iconst 2, 1), some (.if_icmp .ne 7, 3), none, none, some (.iconst 2, 1), some (.goto 4, 3), none, none, some (.iconst 0, 1), some (.isub, 1), some (.invokevirtual 201, 3), none, none, some (.aload_n 0, 1), some (.getfield 67, 3), none, none, some (.iload_n 3, 1), some (.dup2, 1), some (.iaload, 1), some (.iconst 1, 1), some (.iadd, 1), some (.iastore, 1), some (.iinc 2 1, 3), none, none, some (.goto (-82), 3), none, none, some (.return_, 1)]
def tX7_goesBy : List (Option (Instr × Nat)) := [some (.aload_n 0, 1), some (.iload_n 1, 1), some (.invokevirtual 213, 3), none, none, some (.aload_n 0, 1), some (.iload_n 1, 1), some (.invokevirtual 216, 3), none, none, some (.aload_n 0, 1), some (.iload_n 1, 1), some (.invokevirtual 219, 3), none, none, some (.iconst 0, 1), some (.istore_n 2, 1), some (.iload_n 2, 1), some (.aload_n 0, 1), some (.getfield 171, 3), none, none, some (.if_icmp .ge 60, 3), none, none, some (.aload_n 0, 1), some (.getfield 40, 3), none, none, some (.iload_n 2, 1), some (.iaload, 1), some (.iload_n 1, 1), some (.if_icmp .ne 44, 3), none, none, some (.aload_n 0, 1), some (.getfield 43, 3), none, none, some (.iload_n 2, 1), some (.iaload, 1), some (.aload_n 0, 1), some (.getfield 127, 3), none, none, some (.if_icmp .ge 31, 3), none, none, some (.aload_n 0, 1), some (.getfield 195, 3), none, none, some (.iload_n 2, 1), some (.invokestatic 205, 3), none, none, some (.ifCond .ne 20, 3), none, none, some (.aload_n 0, 1), some (.aload_n 0, 1), some (.getfield 43, 3), none, none, some (.iload_n 2, 1), some (.iaload, 1), some (.aload_n 0, 1), some (.getfield 46, 3), none, none, some (.iload_n 2, 1), some (.iaload, 1), some (.ineg, 1), some (.invokevirtual 201, 3), none, none, some (.iinc 2 1, 3), none, none, some (.goto (-62), 3), none, none, some (.iconst 0, 1), some (.istore_n 2, 1), some (.iload_n 2, 1), some (.aload_n 0, 1), some (.getfield 174, 3), none, none, some (.if_icmp .ge 48, 3), none, none, some (.aload_n 0, 1), some (.getfield 49, 3), none, none, some (.iload_n 2, 1), some (.iaload, 1), some (.iload_n 1, 1), some (.if_icmp .ne 32, 3), none, none, some (.aload_n 0, 1), some (.getfield 52, 3), none, none, some (.iload_n 2, 1), some (.iaload, 1), some (.aload_n 0, 1), some (.getfield 127, 3), none, none, some (.if_icmp .ge 19, 3), none, none, some (.aload_n 0, 1), some (.aload_n 0, 1), some (.getfield 52, 3), none, none, some (.iload_n 2, 1), some (.iaload, 1), some (.aload_n 0, 1), some (.getfield 55, 3), none, none, some (.iload_n 2, 1), some (.iaload, 1), some (.invokevirtual 201, 3), none, none, some (.iinc 2 1, 3), none, none, some (.goto (-50), 3), none, none, some (.iconst 0, 1), some (.istore_n 2, 1), some (.iload_n 2, 1), some (.aload_n 0, 1), some (.getfield 127, 3), none, none, some (.if_icmp .ge 43, 3), none, none, some (.aload_n 0, 1), some (.getfield 73, 3), none, none, some (.bipush 8, 2), none, some (.iload_n 1, 1), some (.imul, 1), some (.iload_n 2, 1), some (.iadd, 1), some (.aload_n 0, 1), some (.getfield 64, 3), none, none, some (.iload_n 2, 1), some (.iaload, 1), some (.iastore, 1), some (.aload_n 0, 1), some (.getfield 76, 3), none, none, some (.bipush 8, 2), none, some (.iload_n 1, 1), some (.imul, 1), some (.iload_n 2, 1), some (.iadd, 1), some (.aload_n 0, 1), some (.getfield 67, 3), none, none, some (.iload_n 2, 1), some (.iaload, 1), some (.iastore, 1), some (.iinc 2 1, 3), none, none, some (.goto (-45), 3), none, none, some (.iconst 0, 1), some (.istore_n 2, 1), some (.iload_n 2, 1), some (.aload_n 0, 1), some (.getfield 186, 3), none, none, some (.if_icmp .ge 26, 3), none, none, some (.aload_n 0, 1), some (.getfield 79, 3), none, none, some (.bipush 12, 2), none, some (.iload_n 1, 1), some (.imul, 1), some (.iload_n 2, 1), some (.iadd, 1), some (.aload_n 0, 1), some (.getfield 70, 3), none, none, some (.iload_n 2, 1), some (.iaload, 1), some (.iastore, 1), some (.iinc 2 1, 3), none, none, some (.goto (-28), 3), none, none, some (.return_, 1)]
def tX7_runs : List (Option (Instr × Nat)) := [some (.iconst 0, 1), some (.istore_n 1, 1), some (.iload_n 1, 1), some (.aload_n 0, 1), some (.getfield 127, 3), none, none, some (.if_icmp .ge 28, 3), none, none, some (.aload_n 0, 1), some (.getfield 64, 3), none, none, some (.iload_n 1, 1), some (.aload_n 0, 1), some (.getfield 19, 3), none, none, some (.iload_n 1, 1), some (.iaload, 1), some (.iastore, 1), some (.aload_n 0, 1), some (.getfield 67, 3), none, none, some (.iload_n 1, 1), some (.iconst 0, 1), some (.iastore, 1), some (.iinc 1 1, 3), none, none, some (.goto (-30), 3), none, none, some (.iconst 0, 1), some (.istore_n 1, 1), some (.iload_n 1, 1), some (.aload_n 0, 1), some (.getfield 186, 3), none, none, some (.if_icmp .ge 16, 3), none, none, some (.aload_n 0, 1), some (.getfield 70, 3), none, none, some (.iload_n 1, 1), some (.iconst 0, 1), some (.iastore, 1), some (.iinc 1 1, 3), none, none, some (.goto (-18), 3), none, none, some (.iconst 0, 1), some (.istore_n 1, 1), some (.iload_n 1, 1), some (.bipush 24, 2), none, some (.if_icmp .ge 14, 3), none, none, some (.aload_n 0, 1), some (.iload_n 1, 1), some (.invokevirtual 222, 3), none, none, some (.iinc 1 1, 3), none, none, some (.goto (-14), 3), none, none, some (.return_, 1)]
def tX7_runsTold : List (Option (Instr × Nat)) := [some (.aload_n 0, 1), some (.invokevirtual 225, 3), none, none, some (.aload_n 0, 1), some (.invokevirtual 228, 3), none, none, some (.return_, 1)]
def tX7_fitsOn : List (Option (Instr × Nat)) := [some (.aload_n 0, 1), some (.getfield 73, 3), none, none, some (.bipush 8, 2), none, some (.iload_n 1, 1), some (.imul, 1), some (.iload_n 2, 1), some (.iadd, 1), some (.iaload, 1), some (.aload_n 0, 1), some (.getfield 19, 3), none, none, some (.iload_n 2, 1), some (.iaload, 1), some (.isub, 1), some (.iconst 0, 1), some (.iconst 1, 1), some (.invokestatic 115, 3), none, none, some (.ireturn, 1)]
def tX7_fitMany : List (Option (Instr × Nat)) := [some (.iconst 0, 1), some (.istore_n 2, 1), some (.iconst 0, 1), some (.istore_n 3, 1), some (.iload_n 3, 1), some (.aload_n 0, 1), some (.getfield 127, 3), none, none, some (.if_icmp .ge 26, 3), none, none, some (.iload_n 2, 1), some (.aload_n 0, 1), some (.iload_n 1, 1), some (.iload_n 3, 1), some (.invokevirtual 231, 3), none, none, some (.ifCond .eq 7, 3), none, none, some (.iconst 1, 1), some (.goto 4, 3), none, none, some (.iconst 0, 1), some (.iadd, 1), some (.istore_n 2, 1), some (.iinc 3 1, 3), none, none, some (.goto (-28), 3), none, none, some (.iload_n 2, 1), some (.ireturn, 1)]
def tX7_coatOf : List (Option (Instr × Nat)) := [some (.aload_n 0, 1), some (.invokevirtual 234, 3), none, none, some (.iload_n 3, 1), some (.ifCond .ne 17, 3), none, none, some (.aload_n 0, 1), some (.getfield 73, 3), none, none, some (.bipush 8, 2), none, some (.iload_n 1, 1), some (.imul, 1), some (.iload_n 2, 1), some (.iadd, 1), some (.iaload, 1), some (.goto 36, 3), none, none, some (.iload_n 3, 1), some (.iconst 1, 1), some (.if_icmp .ne 20, 3), none, none, some (.aload_n 0, 1), some (.iload_n 1, 1), some (.iload_n 2, 1), some (.invokevirtual 231, 3), none, none, some (.ifCond .eq 7, 3), none, none, some (.iconst 1, 1), some (.goto 18, 3), none, none, some (.iconst 0, 1), some (.goto 14, 3), none, none, some (.aload_n 0, 1), some (.getfield 76, 3), none, none, some (.bipush 8, 2), none, some (.iload_n 1, 1), some (.imul, 1), some (.iload_n 2, 1), some (.iadd, 1), some (.iaload, 1), some (.ireturn, 1)]
def tX7_coat : List (Option (Instr × Nat)) := [some (.iload_n 1, 1), some (.invokestatic 162, 3), none, none, some (.ifCond .eq 30, 3), none, none, some (.aload_n 0, 1), some (.iload_n 2, 1), some (.invokevirtual 150, 3), none, none, some (.ifCond .eq 22, 3), none, none, some (.iload_n 3, 1), some (.iconst 0, 1), some (.iconst 2, 1), some (.invokestatic 115, 3), none, none, some (.ifCond .eq 13, 3), none, none, some (.aload_n 0, 1), some (.iload_n 1, 1), some (.iload_n 2, 1), some (.iload_n 3, 1), some (.invokevirtual 237, 3), none, none, some (.goto 5, 3), none, none, some (.bipush (-2), 2), none, some (.ireturn, 1)]
def tX7_standsOf : List (Option (Instr × Nat)) := [some (.aload_n 0, 1), some (.invokevirtual 234, 3), none, none, some (.aload_n 0, 1), some (.getfield 79, 3), none, none, some (.bipush 12, 2), none, some (.iload_n 1, 1), some (.imul, 1), some (.iload_n 2, 1), some (.iadd, 1), some (.iaload, 1), some (.ireturn, 1)]
def tX7_stands : List (Option (Instr × Nat)) := [some (.iload_n 1, 1), some (.invokestatic 162, 3), none, none, some (.ifCond .eq 20, 3), none, none, some (.aload_n 0, 1), some (.iload_n 2, 1), some (.invokevirtual 156, 3), none, none, some (.ifCond .eq 12, 3), none, none, some (.aload_n 0, 1), some (.iload_n 1, 1), some (.iload_n 2, 1), some (.invokevirtual 241, 3), none, none, some (.goto 5, 3), none, none, some (.bipush (-2), 2), none, some (.ireturn, 1)]
def tX7_neatOf : List (Option (Instr × Nat)) := [some (.aload_n 0, 1), some (.invokevirtual 234, 3), none, none, some (.iconst 0, 1), some (.istore_n 2, 1), some (.iconst 0, 1), some (.istore_n 3, 1), some (.iload_n 3, 1), some (.aload_n 0, 1), some (.getfield 127, 3), none, none, some (.if_icmp .ge 28, 3), none, none, some (.iload_n 2, 1), some (.aload_n 0, 1), some (.iload_n 1, 1), some (.iload_n 3, 1), some (.invokevirtual 231, 3), none, none, some (.ifCond .eq 9, 3), none, none, some (.iconst 1, 1), some (.iload_n 3, 1), some (.ishl, 1), some (.goto 4, 3), none, none, some (.iconst 0, 1), some (.ior, 1), some (.istore_n 2, 1), some (.iinc 3 1, 3), none, none, some (.goto (-30), 3), none, none, some (.iload_n 2, 1), some (.ireturn, 1)]
def tX7_neat : List (Option (Instr × Nat)) := [some (.iload_n 1, 1), some (.invokestatic 162, 3), none, none, some (.ifCond .eq 11, 3), none, none, some (.aload_n 0, 1), some (.iload_n 1, 1), some (.invokevirtual 244, 3), none, none, some (.goto 5, 3), none, none, some (.bipush (-2), 2), none, some (.ireturn, 1)]
def tX7_nakedNow : List (Option (Instr × Nat)) := [some (.iconst 0, 1), some (.istore_n 2, 1), some (.iconst 0, 1), some (.istore_n 3, 1), some (.iload_n 3, 1), some (.aload_n 0, 1), some (.getfield 127, 3), none, none, some (.if_icmp .ge 33, 3), none, none, some (.iload_n 2, 1), some (.aload_n 0, 1), some (.getfield 73, 3), none, none, some (.bipush 8, 2), none, some (.iload_n 1, 1), some (.imul, 1), some (.iload_n 3, 1), some (.iadd, 1), some (.iaload, 1), some (.ifCond .ne 9, 3), none, none, some (.iconst 1, 1), some (.iload_n 3, 1), some (.ishl, 1), some (.goto 4, 3), none, none, some (.iconst 0, 1), some (.ior, 1), some (.istore_n 2, 1), some (.iinc 3 1, 3), none, none, some (.goto (-35), 3), none, none, some (.iload_n 2, 1), some (.ireturn, 1)]
def tX7_nakedOf : List (Option (Instr × Nat)) := [some (.aload_n 0, 1), some (.invokevirtual 234, 3), none, none, some (.aload_n 0, 1), some (.iload_n 1, 1), some (.invokevirtual 247, 3), none, none, some (.ireturn, 1)]
def tX7_naked : List (Option (Instr × Nat)) := [some (.iload_n 1, 1), some (.invokestatic 162, 3), none, none, some (.ifCond .eq 11, 3), none, none, some (.aload_n 0, 1), some (.iload_n 1, 1), some (.invokevirtual 250, 3), none, none, some (.goto 5, 3), none, none, some (.bipush (-2), 2), none, some (.ireturn, 1)]
def tX7_longestOf : List (Option (Instr × Nat)) := [some (.aload_n 0, 1), some (.invokevirtual 234, 3), none, none, some (.iconst (-1), 1), some (.istore_n 2, 1), some (.iconst 0, 1), some (.istore_n 3, 1), some (.iload_n 3, 1), some (.aload_n 0, 1), some (.getfield 127, 3), none, none, some (.if_icmp .ge 45, 3), none, none, some (.iload_n 2, 1), some (.iconst (-1), 1), some (.if_icmp .eq 28, 3), none, none, some (.aload_n 0, 1), some (.getfield 73, 3), none, none, some (.bipush 8, 2), none, some (.iload_n 1, 1), some (.imul, 1), some (.iload_n 3, 1), some (.iadd, 1), some (.iaload, 1), some (.aload_n 0, 1), some (.getfield 73, 3), none, none, some (.bipush 8, 2), none, some (.iload_n 1, 1), some (.imul, 1), some (.iload_n 2, 1), some (.iadd, 1), some (.iaload, 1), some (.if_icmp .le 7, 3), none, none, some (.iload_n 3, 1), some (.goto 4, 3), none, none, some (.iload_n 2, 1), some (.istore_n 2, 1), some (.iinc 3 1, 3), none, none, some (.goto (-47), 3), none, none, some (.iload_n 2, 1), some (.ireturn, 1)]
def tX7_longest : List (Option (Instr × Nat)) := [some (.iload_n 1, 1), some (.invokestatic 162, 3), none, none, some (.ifCond .eq 11, 3), none, none, some (.aload_n 0, 1), some (.iload_n 1, 1), some (.invokevirtual 253, 3), none, none, some (.goto 5, 3), none, none, some (.bipush (-2), 2), none, some (.ireturn, 1)]
def tX7_tearsAll : List (Option (Instr × Nat)) := [some (.iconst 0, 1), some (.istore_n 1, 1), some (.iconst 0, 1), some (.istore_n 2, 1), some (.iload_n 2, 1), some (.aload_n 0, 1), some (.getfield 127, 3), none, none, some (.if_icmp .ge 18, 3), none, none, some (.iload_n 1, 1), some (.aload_n 0, 1), some (.getfield 67, 3), none, none, some (.iload_n 2, 1), some (.iaload, 1), some (.iadd, 1), some (.istore_n 1, 1), some (.iinc 2 1, 3), none, none, some (.goto (-20), 3), none, none, some (.iload_n 1, 1), some (.ireturn, 1)]
def tX7_splitsOf : List (Option (Instr × Nat)) := [some (.aload_n 0, 1), some (.invokevirtual 234, 3), none, none, some (.aload_n 0, 1), some (.invokevirtual 256, 3), none, none, some (.ireturn, 1)]
def tX7_splits : List (Option (Instr × Nat)) := [some (.aload_n 0, 1), some (.invokevirtual 260, 3), none, none, some (.ireturn, 1)]
def tX7_bestNow : List (Option (Instr × Nat)) := [some (.aload_n 0, 1), some (.invokevirtual 234, 3), none, none, some (.iconst 0, 1), some (.istore_n 1, 1), some (.iconst 1, 1), some (.istore_n 2, 1), some (.iload_n 2, 1), some (.bipush 24, 2), none, some (.if_icmp .ge 28, 3), none, none, some (.aload_n 0, 1), some (.iload_n 2, 1), some (.invokevirtual 263, 3), none, none, some (.aload_n 0, 1), some (.iload_n 1, 1), some (.invokevirtual 263, 3), none, none, some (.if_icmp .le 7, 3), none, none, some (.iload_n 2, 1), some (.goto 4, 3), none, none, some (.iload_n 1, 1), some (.istore_n 1, 1), some (.iinc 2 1, 3), none, none, some (.goto (-28), 3), none, none, some (.aload_n 0, 1), some (.getfield 127, 3), none, none, some (.ifCond .ne 7, 3), none, none, some (.iconst (-1), 1), some (.goto 4, 3), none, none, some (.iload_n 1, 1), some (.ireturn, 1)]
def tX7_best : List (Option (Instr × Nat)) := [some (.aload_n 0, 1), some (.invokevirtual 266, 3), none, none, some (.ireturn, 1)]
def tX7_swearOf : List (Option (Instr × Nat)) := [some (.aload_n 0, 1), some (.invokevirtual 225, 3), none, none, some (.aload_n 0, 1), some (.getfield 131, 3), none, none, some (.istore_n 3, 1), some (.iconst (-1), 1), some (.istore 4, 2), none, some (.aload_n 0, 1), some (.aload_n 0, 1), some (.getfield 131, 3), none, none, some (.iconst 1, 1), some (.iadd, 1), some (.putfield 186, 3), none, none, some (.aload_n 0, 1), some (.getfield 22, 3), none, none, some (.iload_n 3, 1), some (.iload_n 1, 1), some (.iastore, 1), some (.aload_n 0, 1), some (.getfield 28, 3), none, none, some (.iload_n 3, 1), some (.iconst 0, 1), some (.iastore, 1), some (.aload_n 0, 1), some (.getfield 31, 3), none, none, some (.iload_n 3, 1), some (.iconst (-1), 1), some (.iastore, 1), some (.iconst 1, 1), some (.istore 5, 2), none, some (.iload 5, 2), none, some (.bipush 10, 2), none, some (.if_icmp .ge 44, 3), none, none, some (.iload 4, 2), none, some (.iconst (-1), 1), some (.if_icmp .ne 38, 3), none, none, some (.aload_n 0, 1), some (.getfield 25, 3), none, none, some (.iload_n 3, 1), some (.iload 5, 2), none, some (.iastore, 1), some (.aload_n 0, 1), some (.invokevirtual 228, 3), none, none, some (.aload_n 0, 1), some (.iload_n 2, 1), some (.iload_n 1, 1), some (.invokevirtual 231, 3), none, none, some (.ifCond .eq 8, 3), none, none, some (.iload 5, 2), none, some (.goto 4, 3), none, none, some (.iconst (-1), 1), some (.istore 4, 2), none, some (.iinc 5 1, 3), none, none, some (.goto (-45), 3), none, none, some (.iload 4, 2), none, some (.ireturn, 1)]
def tX7_swear : List (Option (Instr × Nat)) := [some (.aload_n 0, 1), some (.iload_n 1, 1), some (.invokevirtual 150, 3), none, none, some (.ifCond .eq 19, 3), none, none, some (.iload_n 2, 1), some (.invokestatic 162, 3), none, none, some (.ifCond .eq 12, 3), none, none, some (.aload_n 0, 1), some (.iload_n 1, 1), some (.iload_n 2, 1), some (.invokevirtual 269, 3), none, none, some (.goto 5, 3), none, none, some (.bipush (-2), 2), none, some (.ireturn, 1)]
def tX7_keepBest : List (Option (Instr × Nat)) := [some (.aload_n 0, 1), some (.invokevirtual 225, 3), none, none, some (.iconst (-1), 1), some (.istore_n 3, 1), some (.iconst (-1), 1), some (.istore 4, 2), none, some (.aload_n 0, 1), some (.aload_n 0, 1), some (.getfield 165, 3), none, none, some (.iconst 1, 1), some (.iadd, 1), some (.putfield 189, 3), none, none, some (.aload_n 0, 1), some (.getfield 58, 3), none, none, some (.aload_n 0, 1), some (.getfield 165, 3), none, none, some (.iload_n 1, 1), some (.iastore, 1), some (.iconst 0, 1), some (.istore 5, 2), none, some (.iload 5, 2), none, some (.aload_n 0, 1), some (.getfield 131, 3), none, none, some (.if_icmp .ge 62, 3), none, none, some (.aload_n 0, 1), some (.getfield 61, 3), none, none, some (.aload_n 0, 1), some (.getfield 165, 3), none, none, some (.iload 5, 2), none, some (.iastore, 1), some (.aload_n 0, 1), some (.invokevirtual 228, 3), none, none, some (.aload_n 0, 1), some (.bipush 23, 2), none, some (.invokevirtual 263, 3), none, none, some (.istore 6, 2), none, some (.iload 6, 2), none, some (.iload 4, 2), none, some (.if_icmp .le 8, 3), none, none, some (.iload 5, 2), none, some (.goto 4, 3), none, none, some (.iload_n 3, 1), some (.istore_n 3, 1), some (.iload 6, 2), none, some (.iload 4, 2), none, some (.if_icmp .le 8, 3), none, none, some (.iload 6, 2), none, some (.goto 5, 3), none, none, some (.iload 4, 2), none, some (.istore 4, 2), none, some (.iinc 5 1, 3), none, none, some (.goto (-65), 3), none, none, some (.iload_n 2, 1), some (.ifCond .ne 7, 3), none, none, some (.iload_n 3, 1), some (.goto 5, 3), none, none, some (.iload 4, 2), none, some (.ireturn, 1)]
def tX7_keep : List (Option (Instr × Nat)) := [some (.iload_n 1, 1), some (.invokestatic 162, 3), none, none, some (.ifCond .eq 21, 3), none, none, some (.iload_n 2, 1), some (.iconst 0, 1), some (.iconst 1, 1), some (.invokestatic 115, 3), none, none, some (.ifCond .eq 12, 3), none, none, some (.aload_n 0, 1), some (.iload_n 1, 1), some (.iload_n 2, 1), some (.invokevirtual 272, 3), none, none, some (.goto 5, 3), none, none, some (.bipush (-2), 2), none, some (.ireturn, 1)]
def tX7_dueOf : List (Option (Instr × Nat)) := [some (.aload_n 0, 1), some (.invokevirtual 225, 3), none, none, some (.aload_n 0, 1), some (.getfield 31, 3), none, none, some (.iload_n 1, 1), some (.iaload, 1), some (.istore_n 3, 1), some (.iconst (-1), 1), some (.istore 4, 2), none, some (.sipush 999, 3), none, none, some (.istore 5, 2), none, some (.iconst 0, 1), some (.istore 6, 2), none, some (.iload 6, 2), none, some (.bipush 24, 2), none, some (.if_icmp .ge 59, 3), none, none, some (.aload_n 0, 1), some (.getfield 31, 3), none, none, some (.iload_n 1, 1), some (.iload 6, 2), none, some (.iastore, 1), some (.aload_n 0, 1), some (.invokevirtual 228, 3), none, none, some (.aload_n 0, 1), some (.invokevirtual 256, 3), none, none, some (.istore 7, 2), none, some (.iload 7, 2), none, some (.iload 5, 2), none, some (.if_icmp .ge 8, 3), none, none, some (.iload 6, 2), none, some (.goto 5, 3), none, none, some (.iload 4, 2), none, some (.istore 4, 2), none, some (.iload 7, 2), none, some (.iload 5, 2), none, some (.if_icmp .ge 8, 3), none, none, some (.iload 7, 2), none, some (.goto 5, 3), none, none, some (.iload 5, 2), none, some (.istore 5, 2), none, some (.iinc 6 1, 3), none, none, some (.goto (-60), 3), none, none, some (.aload_n 0, 1), some (.getfield 31, 3), none, none, some (.iload_n 1, 1), some (.iload_n 3, 1), some (.iastore, 1), some (.iload_n 2, 1), some (.ifCond .ne 8, 3), none, none, some (.iload 4, 2), none, some (.goto 5, 3), none, none, some (.iload 5, 2), none, some (.ireturn, 1)]
def tX7_due : List (Option (Instr × Nat)) := [some (.aload_n 0, 1), some (.iload_n 1, 1), some (.invokevirtual 156, 3), none, none, some (.ifCond .eq 21, 3), none, none, some (.iload_n 2, 1), some (.iconst 0, 1), some (.iconst 1, 1), some (.invokestatic 115, 3), none, none, some (.ifCond .eq 12, 3), none, none, some (.aload_n 0, 1), some (.iload_n 1, 1), some (.iload_n 2, 1), some (.invokevirtual 275, 3), none, none, some (.goto 5, 3), none, none, some (.bipush (-2), 2), none, some (.ireturn, 1)]
def tX7_isHushed : List (Option (Instr × Nat)) := [some (.aload_n 0, 1), some (.iload_n 1, 1), some (.putfield 195, 3), none, none, some (.aload_n 0, 1), some (.invokevirtual 228, 3), none, none, some (.aload_n 0, 1), some (.bipush 23, 2), none, some (.invokevirtual 247, 3), none, none, some (.ifCond .ne 7, 3), none, none, some (.iconst 1, 1), some (.goto 4, 3), none, none, some (.iconst 0, 1), some (.ireturn, 1)]
def tX7_hushBy : List (Option (Instr × Nat)) := [some (.aload_n 0, 1), some (.invokevirtual 225, 3), none, none, some (.aload_n 0, 1), some (.iconst 0, 1), some (.invokevirtual 278, 3), none, none, some (.ifCond .eq 5, 3), none, none, some (.iconst 0, 1), some (.ireturn, 1), some (.iconst 0, 1), some (.istore_n 1, 1), some (.iload_n 1, 1), some (.aload_n 0, 1), some (.getfield 171, 3), none, none, some (.if_icmp .ge 28, 3), none, none, some (.aload_n 0, 1), some (.getfield 82, 3), none, none, some (.iconst 0, 1), some (.iload_n 1, 1), some (.iastore, 1), some (.aload_n 0, 1), some (.iconst 1, 1), some (.iload_n 1, 1), some (.ishl, 1), some (.invokevirtual 278, 3), none, none, some (.ifCond .eq 5, 3), none, none, some (.iconst 1, 1), some (.ireturn, 1), some (.iinc 1 1, 3), none, none, some (.goto (-30), 3), none, none, some (.iconst 0, 1), some (.istore_n 1, 1), some (.iload_n 1, 1), some (.aload_n 0, 1), some (.getfield 171, 3), none, none, some (.if_icmp .ge 57, 3), none, none, some (.iload_n 1, 1), some (.iconst 1, 1), some (.iadd, 1), some (.istore_n 2, 1), some (.iload_n 2, 1), some (.aload_n 0, 1), some (.getfield 171, 3), none, none, some (.if_icmp .ge 39, 3), none, none, some (.aload_n 0, 1), some (.getfield 82, 3), none, none, some (.iconst 0, 1), some (.iload_n 1, 1), some (.iastore, 1), some (.aload_n 0, 1), some (.getfield 82, 3), none, none, some (.iconst 1, 1), some (.iload_n 2, 1), some (.iastore, 1), some (.aload_n 0, 1), some (.iconst 1, 1), some (.iload_n 1, 1), some (.ishl, 1), some (.iconst 1, 1), some (.iload_n 2, 1), some (.ishl, 1), some (.ior, 1), some (.invokevirtual 278, 3), none, none, some (.ifCond .eq 5, 3), none, none, some (.iconst 2, 1), some (.ireturn, 1), some (.iinc 2 1, 3), none, none, some (.goto (-41), 3), none, none, some (.iinc 1 1, 3), none, none, some (.goto (-59), 3), none, none, some (.iconst (-1), 1), some (.ireturn, 1)]
def tX7_ofRow : List (Option (Instr × Nat)) := [some (.iload_n 2, 1), some (.iconst (-1), 1), some (.if_icmp .ne 7, 3), none, none, some (.iload_n 1, 1), some (.goto 18, 3), none, none, some (.iload_n 2, 1), some (.iload_n 1, 1), some (.if_icmp .ge 12, 3), none, none, some (.aload_n 0, 1), some (.getfield 82, 3), none, none, some (.iload_n 2, 1), some (.iaload, 1), some (.goto 4, 3), none, none, some (.iconst (-1), 1), some (.ireturn, 1)]
def tX7_hush : List (Option (Instr × Nat)) := [some (.iload_n 1, 1), some (.iconst (-1), 1), some (.iconst 1, 1), some (.invokestatic 115, 3), none, none, some (.ifCond .eq 15, 3), none, none, some (.aload_n 0, 1), some (.aload_n 0, 1), some (.invokevirtual 281, 3), none, none, some (.iload_n 1, 1), some (.invokevirtual 284, 3), none, none, some (.goto 5, 3), none, none, some (.bipush (-2), 2), none, some (.ireturn, 1)]
def tX7_seen : List (Option (Instr × Nat)) := [some (.iload_n 1, 1), some (.invokestatic 162, 3), none, none, some (.ifCond .eq 20, 3), none, none, some (.iload_n 2, 1), some (.invokestatic 168, 3), none, none, some (.ifCond .eq 13, 3), none, none, some (.iload_n 3, 1), some (.iconst 0, 1), some (.bipush 99, 2), none, some (.invokestatic 115, 3), none, none, some (.ifCond .ne 6, 3), none, none, some (.bipush (-2), 2), none, some (.ireturn, 1), some (.aload_n 0, 1), some (.getfield 287, 3), none, none, some (.bipush 8, 2), none, some (.if_icmp .ne 6, 3), none, none, some (.bipush (-4), 2), none, some (.ireturn, 1), some (.aload_n 0, 1), some (.getfield 85, 3), none, none, some (.aload_n 0, 1), some (.getfield 287, 3), none, none, some (.iload_n 1, 1), some (.iastore, 1), some (.aload_n 0, 1), some (.getfield 88, 3), none, none, some (.aload_n 0, 1), some (.getfield 287, 3), none, none, some (.iload_n 2, 1), some (.iastore, 1), some (.aload_n 0, 1), some (.getfield 91, 3), none, none, some (.aload_n 0, 1), some (.getfield 287, 3), none, none, some (.iload_n 3, 1), some (.iastore, 1), some (.aload_n 0, 1), some (.dup, 1), some (.getfield 287, 3), none, none, some (.iconst 1, 1), some (.iadd, 1), some (.putfield 287, 3), none, none, some (.aload_n 0, 1), some (.getfield 287, 3), none, none, some (.ireturn, 1)]
def tX7_forget : List (Option (Instr × Nat)) := [some (.aload_n 0, 1), some (.getfield 287, 3), none, none, some (.istore_n 1, 1), some (.aload_n 0, 1), some (.iconst 0, 1), some (.putfield 287, 3), none, none, some (.iload_n 1, 1), some (.ireturn, 1)]
def tX7_isSeen : List (Option (Instr × Nat)) := [some (.aload_n 0, 1), some (.invokevirtual 228, 3), none, none, some (.iconst 1, 1), some (.istore_n 1, 1), some (.iconst 0, 1), some (.istore_n 2, 1), some (.iload_n 2, 1), some (.aload_n 0, 1), some (.getfield 287, 3), none, none, some (.if_icmp .ge 62, 3), none, none, some (.iload_n 1, 1), some (.ifCond .eq 58, 3), none, none, some (.aload_n 0, 1), some (.getfield 88, 3), none, none, some (.iload_n 2, 1), some (.iaload, 1), some (.aload_n 0, 1), some (.getfield 127, 3), none, none, some (.if_icmp .ge 37, 3), none, none, some (.aload_n 0, 1), some (.getfield 73, 3), none, none, some (.bipush 8, 2), none, some (.aload_n 0, 1), some (.getfield 85, 3), none, none, some (.iload_n 2, 1), some (.iaload, 1), some (.imul, 1), some (.aload_n 0, 1), some (.getfield 88, 3), none, none, some (.iload_n 2, 1), some (.iaload, 1), some (.iadd, 1), some (.iaload, 1), some (.aload_n 0, 1), some (.getfield 91, 3), none, none, some (.iload_n 2, 1), some (.iaload, 1), some (.if_icmp .ne 7, 3), none, none, some (.iconst 1, 1), some (.goto 4, 3), none, none, some (.iconst 0, 1), some (.istore_n 1, 1), some (.iinc 2 1, 3), none, none, some (.goto (-64), 3), none, none, some (.iload_n 1, 1), some (.ireturn, 1)]
def tX7_neverNow : List (Option (Instr × Nat)) := [some (.aload_n 0, 1), some (.invokevirtual 225, 3), none, none, some (.iconst 0, 1), some (.istore_n 1, 1), some (.iconst 0, 1), some (.istore_n 2, 1), some (.iload_n 2, 1), some (.aload_n 0, 1), some (.getfield 165, 3), none, none, some (.if_icmp .ge 33, 3), none, none, some (.aload_n 0, 1), some (.iconst 1, 1), some (.iload_n 2, 1), some (.ishl, 1), some (.putfield 192, 3), none, none, some (.iload_n 1, 1), some (.aload_n 0, 1), some (.invokevirtual 290, 3), none, none, some (.ifCond .eq 9, 3), none, none, some (.iconst 1, 1), some (.iload_n 2, 1), some (.ishl, 1), some (.goto 4, 3), none, none, some (.iconst 0, 1), some (.ior, 1), some (.istore_n 1, 1), some (.iinc 2 1, 3), none, none, some (.goto (-35), 3), none, none, some (.iload_n 1, 1), some (.ireturn, 1)]
def tX7_never : List (Option (Instr × Nat)) := [some (.aload_n 0, 1), some (.invokevirtual 294, 3), none, none, some (.ireturn, 1)]
def tX7_sizesBy : List (Option (Instr × Nat)) := [some (.aload_n 0, 1), some (.invokevirtual 225, 3), none, none, some (.aload_n 0, 1), some (.getfield 19, 3), none, none, some (.iload_n 1, 1), some (.iaload, 1), some (.istore_n 2, 1), some (.iconst 0, 1), some (.istore_n 3, 1), some (.iconst 0, 1), some (.istore 4, 2), none, some (.iload 4, 2), none, some (.bipush 10, 2), none, some (.if_icmp .ge 76, 3), none, none, some (.aload_n 0, 1), some (.getfield 19, 3), none, none, some (.iload_n 1, 1), some (.iload 4, 2), none, some (.iastore, 1), some (.iload_n 3, 1), some (.aload_n 0, 1), some (.invokevirtual 290, 3), none, none, some (.ifCond .eq 10, 3), none, none, some (.iconst 1, 1), some (.iload 4, 2), none, some (.ishl, 1), some (.goto 4, 3), none, none, some (.iconst 0, 1), some (.ior, 1), some (.istore_n 3, 1), some (.iconst 0, 1), some (.istore 5, 2), none, some (.iload 5, 2), none, some (.bipush 24, 2), none, some (.if_icmp .ge 34, 3), none, none, some (.aload_n 0, 1), some (.getfield 94, 3), none, none, some (.bipush 24, 2), none, some (.iload 4, 2), none, some (.imul, 1), some (.iload 5, 2), none, some (.iadd, 1), some (.aload_n 0, 1), some (.getfield 73, 3), none, none, some (.bipush 8, 2), none, some (.iload 5, 2), none, some (.imul, 1), some (.iload_n 1, 1), some (.iadd, 1), some (.iaload, 1), some (.iastore, 1), some (.iinc 5 1, 3), none, none, some (.goto (-35), 3), none, none, some (.iinc 4 1, 3), none, none, some (.goto (-77), 3), none, none, some (.aload_n 0, 1), some (.getfield 19, 3), none, none, some (.iload_n 1, 1), some (.iload_n 2, 1), some (.iastore, 1), some (.iload_n 3, 1), some (.ireturn, 1)]
def tX7_sortsBy : List (Option (Instr × Nat)) := [some (.aload_n 0, 1), some (.invokevirtual 225, 3), none, none, some (.aload_n 0, 1), some (.getfield 16, 3), none, none, some (.iload_n 1, 1), some (.iaload, 1), some (.istore_n 2, 1), some (.iconst 0, 1), some (.istore_n 3, 1), some (.iconst 0, 1), some (.istore 4, 2), none, some (.iload 4, 2), none, some (.iconst 3, 1), some (.if_icmp .ge 35, 3), none, none, some (.aload_n 0, 1), some (.getfield 16, 3), none, none, some (.iload_n 1, 1), some (.iload 4, 2), none, some (.iastore, 1), some (.iload_n 3, 1), some (.aload_n 0, 1), some (.invokevirtual 290, 3), none, none, some (.ifCond .eq 10, 3), none, none, some (.iconst 1, 1), some (.iload 4, 2), none, some (.ishl, 1), some (.goto 4, 3), none, none, some (.iconst 0, 1), some (.ior, 1), some (.istore_n 3, 1), some (.iinc 4 1, 3), none, none, some (.goto (-35), 3), none, none, some (.aload_n 0, 1), some (.getfield 16, 3), none, none, some (.iload_n 1, 1), some (.iload_n 2, 1), some (.iastore, 1), some (.iload_n 3, 1), some (.ireturn, 1)]
def tX7_was : List (Option (Instr × Nat)) := [some (.aload_n 0, 1), some (.iload_n 1, 1), some (.invokevirtual 150, 3), none, none, some (.ifCond .eq 32, 3), none, none, some (.iload_n 2, 1), some (.iconst 0, 1), some (.iconst 1, 1), some (.invokestatic 115, 3), none, none, some (.ifCond .eq 23, 3), none, none, some (.iload_n 2, 1), some (.ifCond .ne 11, 3), none, none, some (.aload_n 0, 1), some (.iload_n 1, 1), some (.invokevirtual 297, 3), none, none, some (.goto 13, 3), none, none, some (.aload_n 0, 1), some (.iload_n 1, 1), some (.invokevirtual 300, 3), none, none, some (.goto 5, 3), none, none, some (.bipush (-2), 2), none, some (.ireturn, 1)]
def tX7_askOf : List (Option (Instr × Nat)) := [some (.aload_n 0, 1), some (.iload_n 1, 1), some (.invokevirtual 297, 3), none, none, some (.istore_n 2, 1), some (.iconst (-1), 1), some (.istore_n 3, 1), some (.iconst 0, 1), some (.istore 4, 2), none, some (.iconst 0, 1), some (.istore 5, 2), none, some (.iload 5, 2), none, some (.bipush 24, 2), none, some (.if_icmp .ge 165, 3), none, none, some (.iconst 0, 1), some (.istore 6, 2), none, some (.iconst 0, 1), some (.istore 7, 2), none, some (.iload 7, 2), none, some (.bipush 10, 2), none, some (.if_icmp .ge 101, 3), none, none, some (.iconst 0, 1), some (.istore 8, 2), none, some (.iconst 0, 1), some (.istore 9, 2), none, some (.iload 9, 2), none, some (.bipush 10, 2), none, some (.if_icmp .ge 66, 3), none, none, some (.iload 8, 2), none, some (.iload_n 2, 1), some (.iload 7, 2), none, some (.invokestatic 205, 3), none, none, some (.ifCond .eq 45, 3), none, none, some (.iload_n 2, 1), some (.iload 9, 2), none, some (.invokestatic 205, 3), none, none, some (.ifCond .eq 36, 3), none, none, some (.aload_n 0, 1), some (.getfield 94, 3), none, none, some (.bipush 24, 2), none, some (.iload 7, 2), none, some (.imul, 1), some (.iload 5, 2), none, some (.iadd, 1), some (.iaload, 1), some (.aload_n 0, 1), some (.getfield 94, 3), none, none, some (.bipush 24, 2), none, some (.iload 9, 2), none, some (.imul, 1), some (.iload 5, 2), none, some (.iadd, 1), some (.iaload, 1), some (.if_icmp .ne 7, 3), none, none, some (.iconst 1, 1), some (.goto 4, 3), none, none, some (.iconst 0, 1), some (.iadd, 1), some (.istore 8, 2), none, some (.iinc 9 1, 3), none, none, some (.goto (-67), 3), none, none, some (.iload 8, 2), none, some (.iload 6, 2), none, some (.if_icmp .le 8, 3), none, none, some (.iload 8, 2), none, some (.goto 5, 3), none, none, some (.iload 6, 2), none, some (.istore 6, 2), none, some (.iinc 7 1, 3), none, none, some (.goto (-102), 3), none, none, some (.iload_n 3, 1), some (.iconst (-1), 1), some (.if_icmp .eq 10, 3), none, none, some (.iload 6, 2), none, some (.iload 4, 2), none, some (.if_icmp .ge 7, 3), none, none, some (.iconst 1, 1), some (.goto 4, 3), none, none, some (.iconst 0, 1), some (.istore 7, 2), none, some (.iload 7, 2), none, some (.ifCond .eq 8, 3), none, none, some (.iload 5, 2), none, some (.goto 4, 3), none, none, some (.iload_n 3, 1), some (.istore_n 3, 1), some (.iload 7, 2), none, some (.ifCond .eq 8, 3), none, none, some (.iload 6, 2), none, some (.goto 5, 3), none, none, some (.iload 4, 2), none, some (.istore 4, 2), none, some (.iinc 5 1, 3), none, none, some (.goto (-166), 3), none, none, some (.iload_n 3, 1), some (.ireturn, 1)]
def tX7_ask : List (Option (Instr × Nat)) := [some (.aload_n 0, 1), some (.iload_n 1, 1), some (.invokevirtual 150, 3), none, none, some (.ifCond .eq 11, 3), none, none, some (.aload_n 0, 1), some (.iload_n 1, 1), some (.invokevirtual 303, 3), none, none, some (.goto 5, 3), none, none, some (.bipush (-2), 2), none, some (.ireturn, 1)]
def tX7_wordOf : List (Option (Instr × Nat)) := [some (.aload_n 0, 1), some (.invokevirtual 225, 3), none, none, some (.lconst 0, 1), some (.lstore 5, 2), none, some (.iconst 0, 1), some (.istore 7, 2), none, some (.iload 7, 2), none, some (.iconst 1, 1), some (.aload_n 0, 1), some (.getfield 165, 3), none, none, some (.ishl, 1), some (.if_icmp .ge 92, 3), none, none, some (.lconst 1, 1), some (.lstore 8, 2), none, some (.iconst 0, 1), some (.istore 10, 2), none, some (.iload 10, 2), none, some (.aload_n 0, 1), some (.getfield 165, 3), none, none, some (.if_icmp .ge 34, 3), none, none, some (.lload 8, 2), none, some (.iload 7, 2), none, some (.iload 10, 2), none, some (.invokestatic 205, 3), none, none, some (.ifCond .eq 11, 3), none, none, some (.bipush 16, 2), none, some (.iload_n 1, 1), some (.isub, 1), some (.i2l, 1), some (.goto 5, 3), none, none, some (.iload_n 1, 1), some (.i2l, 1), some (.lmul, 1), some (.lstore 8, 2), none, some (.iinc 10 1, 3), none, none, some (.goto (-37), 3), none, none, some (.lload 8, 2), none, some (.lconst 0, 1), some (.lcmp, 1), some (.ifCond .le 33, 3), none, none, some (.aload_n 0, 1), some (.iload 7, 2), none, some (.putfield 192, 3), none, none, some (.aload_n 0, 1), some (.invokevirtual 228, 3), none, none, some (.lload 5, 2), none, some (.aload_n 0, 1), some (.iload_n 3, 1), some (.iload_n 2, 1), some (.invokevirtual 231, 3), none, none, some (.ifCond .eq 8, 3), none, none, some (.lload 8, 2), none, some (.goto 4, 3), none, none, some (.lconst 0, 1), some (.ladd, 1), some (.lstore 5, 2), none, some (.iinc 7 1, 3), none, none, some (.goto (-97), 3), none, none, some (.lload 5, 2), none, some (.lconst 1, 1), some (.iconst 4, 1), some (.aload_n 0, 1), some (.getfield 165, 3), none, none, some (.imul, 1), some (.lshl, 1), some (.iload 4, 2), none, some (.invokestatic 306, 3), none, none, some (.lreturn, 1)]
def tX7_word : List (Option (Instr × Nat)) := [some (.iload_n 1, 1), some (.iconst 0, 1), some (.bipush 16, 2), none, some (.invokestatic 115, 3), none, none, some (.ifCond .eq 40, 3), none, none, some (.aload_n 0, 1), some (.iload_n 2, 1), some (.invokevirtual 150, 3), none, none, some (.ifCond .eq 32, 3), none, none, some (.iload_n 3, 1), some (.invokestatic 162, 3), none, none, some (.ifCond .eq 25, 3), none, none, some (.iload 4, 2), none, some (.iconst 0, 1), some (.iconst 1, 1), some (.invokestatic 115, 3), none, none, some (.ifCond .eq 15, 3), none, none, some (.aload_n 0, 1), some (.iload_n 1, 1), some (.iload_n 2, 1), some (.iload_n 3, 1), some (.iload 4, 2), none, some (.invokevirtual 310, 3), none, none, some (.goto 8, 3), none, none, some (.bipush (-2), 2), none, some (.invokestatic 314, 3), none, none, some (.lreturn, 1)]
def tX7_yearOf : List (Option (Instr × Nat)) := [some (.aload_n 0, 1), some (.invokevirtual 225, 3), none, none, some (.iload_n 1, 1), some (.istore 4, 2), none, some (.aload_n 0, 1), some (.aload_n 0, 1), some (.getfield 131, 3), none, none, some (.ifCond .ne 7, 3), none, none, some (.iconst 0, 1), some (.goto 4, 3), none, none, some (.iload_n 2, 1), some (.putfield 189, 3), none, none, some (.iconst 0, 1), some (.istore 5, 2), none, some (.iload 5, 2), none, some (.aload_n 0, 1), some (.getfield 189, 3), none, none, some (.if_icmp .ge 65, 3), none, none, some (.ldc_w 318, 3), none, none, some (.iload 4, 2), none, some (.imul, 1), some (.sipush 12345, 3), none, none, some (.iadd, 1), some (.istore 4, 2), none, some (.aload_n 0, 1), some (.getfield 58, 3), none, none, some (.iload 5, 2), none, some (.iload 4, 2), none, some (.bipush 16, 2), none, some (.iushr, 1), some (.bipush 24, 2), none, some (.irem, 1), some (.iastore, 1), some (.ldc_w 318, 3), none, none, some (.iload 4, 2), none, some (.imul, 1), some (.sipush 12345, 3), none, none, some (.iadd, 1), some (.istore 4, 2), none, some (.aload_n 0, 1), some (.getfield 61, 3), none, none, some (.iload 5, 2), none, some (.iload 4, 2), none, some (.bipush 16, 2), none, some (.iushr, 1), some (.aload_n 0, 1), some (.getfield 131, 3), none, none, some (.irem, 1), some (.iastore, 1), some (.iinc 5 1, 3), none, none, some (.goto (-68), 3), none, none, some (.aload_n 0, 1), some (.invokevirtual 228, 3), none, none, some (.iconst 0, 1), some (.istore 5, 2), none, some (.iconst 0, 1), some (.istore 6, 2), none, some (.iload 6, 2), none, some (.aload_n 0, 1), some (.getfield 131, 3), none, none, some (.if_icmp .ge 30, 3), none, none, some (.iload 5, 2), none, some (.aload_n 0, 1), some (.getfield 70, 3), none, none, some (.iload 6, 2), none, some (.iaload, 1), some (.iconst 3, 1), some (.if_icmp .ne 7, 3), none, none, some (.iconst 1, 1), some (.goto 4, 3), none, none, some (.iconst 0, 1), some (.iadd, 1), some (.istore 5, 2), none, some (.iinc 6 1, 3), none, none, some (.goto (-33), 3), none, none, some (.iload_n 3, 1), some (.ifCond .ne 8, 3), none, none, some (.iload 5, 2), none, some (.goto 9, 3), none, none, some (.aload_n 0, 1), some (.bipush 23, 2), none, some (.invokevirtual 263, 3), none, none, some (.ireturn, 1)]
def tX7_year : List (Option (Instr × Nat)) := [some (.iload_n 2, 1), some (.iconst 0, 1), some (.bipush 8, 2), none, some (.invokestatic 115, 3), none, none, some (.ifCond .eq 22, 3), none, none, some (.iload_n 3, 1), some (.iconst 0, 1), some (.iconst 1, 1), some (.invokestatic 115, 3), none, none, some (.ifCond .eq 13, 3), none, none, some (.aload_n 0, 1), some (.iload_n 1, 1), some (.iload_n 2, 1), some (.iload_n 3, 1), some (.invokevirtual 319, 3), none, none, some (.goto 5, 3), none, none, some (.bipush (-2), 2), none, some (.ireturn, 1)]
def tX7_meets : List (Option (Instr × Nat)) := [some (.aload_n 0, 1), some (.iload_n 1, 1), some (.putfield 322, 3), none, none, some (.bipush (-10), 2), none, some (.iload_n 1, 1), some (.isub, 1), some (.ireturn, 1)]
def tX7_isSheet : List (Option (Instr × Nat)) := [some (.iload_n 0, 1), some (.iconst 0, 1), some (.iconst 3, 1), some (.invokestatic 115, 3), none, none, some (.ireturn, 1)]
def tX7_sheet : List (Option (Instr × Nat)) := [some (.iload_n 1, 1), some (.invokestatic 177, 3), none, none, some (.ifCond .eq 18, 3), none, none, some (.iload_n 2, 1), some (.iconst 0, 1), some (.iconst 2, 1), some (.invokestatic 115, 3), none, none, some (.ifCond .eq 9, 3), none, none, some (.iload_n 3, 1), some (.bipush 60, 2), none, some (.if_icmp .le 6, 3), none, none, some (.bipush (-2), 2), none, some (.ireturn, 1), some (.iload_n 3, 1), some (.ifCond .ge 9, 3), none, none, some (.aload_n 0, 1), some (.iconst 5, 1), some (.invokevirtual 180, 3), none, none, some (.ireturn, 1), some (.aload_n 0, 1), some (.getfield 97, 3), none, none, some (.iload_n 1, 1), some (.iconst 1, 1), some (.bastore, 1), some (.aload_n 0, 1), some (.getfield 101, 3), none, none, some (.iload_n 1, 1), some (.iload_n 2, 1), some (.iastore, 1), some (.aload_n 0, 1), some (.getfield 104, 3), none, none, some (.iload_n 1, 1), some (.iload_n 3, 1), some (.iastore, 1), some (.iconst 0, 1), some (.istore 4, 2), none, some (.iload 4, 2), none, some (.bipush 60, 2), none, some (.if_icmp .ge 22, 3), none, none, some (.aload_n 0, 1), some (.getfield 107, 3), none, none, some (.bipush 60, 2), none, some (.iload_n 1, 1), some (.imul, 1), some (.iload 4, 2), none, some (.iadd, 1), some (.iconst 0, 1), some (.iastore, 1), some (.iinc 4 1, 3), none, none, some (.goto (-23), 3), none, none, some (.iload_n 3, 1), some (.ireturn, 1)]
def tX7_lose : List (Option (Instr × Nat)) := [some (.iload_n 1, 1), some (.invokestatic 177, 3), none, none, some (.ifCond .ne 6, 3), none, none, some (.bipush (-2), 2), none, some (.ireturn, 1), some (.aload_n 0, 1), some (.getfield 97, 3), none, none, some (.iload_n 1, 1), some (.baload, 1), some (.ifCond .ne 9, 3), none, none, some (.aload_n 0, 1), some (.iconst 1, 1), some (.invokevirtual 180, 3), none, none, some (.ireturn, 1), some (.aload_n 0, 1), some (.getfield 97, 3), none, none, some (.iload_n 1, 1), some (.iconst 0, 1), some (.bastore, 1), some (.aload_n 0, 1), some (.getfield 104, 3), none, none, some (.iload_n 1, 1), some (.iaload, 1), some (.ireturn, 1)]
def tX7_lacks : List (Option (Instr × Nat)) := [some (.aload_n 0, 1), some (.getfield 97, 3), none, none, some (.iload_n 1, 1), some (.baload, 1), some (.ifCond .ne 7, 3), none, none, some (.iconst 1, 1), some (.goto 38, 3), none, none, some (.aload_n 0, 1), some (.getfield 101, 3), none, none, some (.iload_n 1, 1), some (.iaload, 1), some (.iload_n 2, 1), some (.if_icmp .eq 7, 3), none, none, some (.iconst 3, 1), some (.goto 24, 3), none, none, some (.iload_n 3, 1), some (.iconst 0, 1), some (.aload_n 0, 1), some (.getfield 104, 3), none, none, some (.iload_n 1, 1), some (.iaload, 1), some (.iconst 1, 1), some (.isub, 1), some (.invokestatic 115, 3), none, none, some (.ifCond .eq 7, 3), none, none, some (.iconst 0, 1), some (.goto 4, 3), none, none, some (.iconst 2, 1), some (.ireturn, 1)]
def tX7_lays : List (Option (Instr × Nat)) := [some (.aload_n 0, 1), some (.getfield 107, 3), none, none, some (.bipush 60, 2), none, some (.iload_n 1, 1), some (.imul, 1), some (.iload_n 2, 1), some (.iadd, 1), some (.aload_n 0, 1), some (.getfield 101, 3), none, none, some (.iload_n 1, 1), some (.iaload, 1), some (.ifCond .ne 8, 3), none, none, some (.iload_n 3, 1), some (.i2b, 1), some (.goto 19, 3), none, none, some (.aload_n 0, 1), some (.getfield 101, 3), none, none, some (.iload_n 1, 1), some (.iaload, 1), some (.iconst 1, 1), some (.if_icmp .ne 8, 3), none, none, some (.iload_n 3, 1), some (.i2s, 1), some (.goto 4, 3), none, none, some (.iload_n 3, 1), some (.iastore, 1), some (.return_, 1)]
def tX7_put : List (Option (Instr × Nat)) := [some (.iload_n 1, 1), some (.invokestatic 177, 3), none, none, some (.ifCond .eq 12, 3), none, none, some (.iload_n 2, 1), some (.iconst 0, 1), some (.iconst 2, 1), some (.invokestatic 115, 3), none, none, some (.ifCond .ne 6, 3), none, none, some (.bipush (-2), 2), none, some (.ireturn, 1), some (.aload_n 0, 1), some (.iload_n 1, 1), some (.iload_n 2, 1), some (.iload_n 3, 1), some (.invokevirtual 325, 3), none, none, some (.istore 5, 2), none, some (.iload 5, 2), none, some (.ifCond .le 10, 3), none, none, some (.aload_n 0, 1), some (.iload 5, 2), none, some (.invokevirtual 180, 3), none, none, some (.ireturn, 1), some (.aload_n 0, 1), some (.iload_n 1, 1), some (.iload_n 3, 1), some (.iload 4, 2), none, some (.invokevirtual 328, 3), none, none, some (.iconst 1, 1), some (.ireturn, 1)]
def tX7_get : List (Option (Instr × Nat)) := [some (.iload_n 1, 1), some (.invokestatic 177, 3), none, none, some (.ifCond .eq 12, 3), none, none, some (.iload_n 2, 1), some (.iconst 0, 1), some (.iconst 2, 1), some (.invokestatic 115, 3), none, none, some (.ifCond .ne 7, 3), none, none, some (.ldc_w 332, 3), none, none, some (.ireturn, 1), some (.aload_n 0, 1), some (.iload_n 1, 1), some (.iload_n 2, 1), some (.iload_n 3, 1), some (.invokevirtual 325, 3), none, none, some (.istore 4, 2), none, some (.iload 4, 2), none, some (.ifCond .le 13, 3), none, none, some (.aload_n 0, 1), some (.iload 4, 2), none, some (.putfield 322, 3), none, none, some (.ldc_w 332, 3), none, none, some (.ireturn, 1), some (.aload_n 0, 1), some (.getfield 107, 3), none, none, some (.bipush 60, 2), none, some (.iload_n 1, 1), some (.imul, 1), some (.iload_n 3, 1), some (.iadd, 1), some (.iaload, 1), some (.ireturn, 1)]
def tX7_copy : List (Option (Instr × Nat)) := [some (.iload_n 1, 1), some (.invokestatic 177, 3), none, none, some (.ifCond .eq 10, 3), none, none, some (.iload_n 3, 1), some (.invokestatic 177, 3), none, none, some (.ifCond .ne 6, 3), none, none, some (.bipush (-2), 2), none, some (.ireturn, 1), some (.aload_n 0, 1), some (.getfield 97, 3), none, none, some (.iload_n 1, 1), some (.baload, 1), some (.ifCond .eq 12, 3), none, none, some (.aload_n 0, 1), some (.getfield 97, 3), none, none, some (.iload_n 3, 1), some (.baload, 1), some (.ifCond .ne 9, 3), none, none, some (.aload_n 0, 1), some (.iconst 1, 1), some (.invokevirtual 180, 3), none, none, some (.ireturn, 1), some (.aload_n 0, 1), some (.getfield 101, 3), none, none, some (.iload_n 1, 1), some (.iaload, 1), some (.aload_n 0, 1), some (.getfield 101, 3), none, none, some (.iload_n 3, 1), some (.iaload, 1), some (.if_icmp .eq 9, 3), none, none, some (.aload_n 0, 1), some (.iconst 4, 1), some (.invokevirtual 180, 3), none, none, some (.ireturn, 1), some (.iload_n 2, 1), some (.ifCond .lt 48, 3), none, none, some (.iload 4, 2), none, some (.ifCond .lt 43, 3), none, none, some (.iload 5, 2), none, some (.ifCond .lt 38, 3), none, none, some (.iload_n 2, 1), some (.i2l, 1), some (.iload 5, 2), none, some (.i2l, 1), some (.ladd, 1), some (.aload_n 0, 1), some (.getfield 104, 3), none, none, some (.iload_n 1, 1), some (.iaload, 1), some (.i2l, 1), some (.lcmp, 1), some (.ifCond .gt 21, 3), none, none, some (.iload 4, 2), none, some (.i2l, 1), some (.iload 5, 2), none, some (.i2l, 1), some (.ladd, 1), some (.aload_n 0, 1), some (.getfield 104, 3), none, none, some (.iload_n 3, 1), some (.iaload, 1), some (.i2l, 1), some (.lcmp, 1), some (.ifCond .le 9, 3), none, none, some (.aload_n 0, 1), some (.iconst 2, 1), some (.invokevirtual 180, 3), none, none, some (.ireturn, 1), some (.iconst 0, 1), some (.istore 6, 2), none, some (.iload 6, 2), none, some (.iload 5, 2), none, some (.if_icmp .ge 30, 3), none, none, some (.aload_n 0, 1), some (.getfield 110, 3), none, none, some (.iload 6, 2), none, some (.aload_n 0, 1), some (.getfield 107, 3), none, none, some (.bipush 60, 2), none, some (.iload_n 1, 1), some (.imul, 1), some (.iload_n 2, 1), some (.iadd, 1), some (.iload 6, 2), none, some (.iadd, 1), some (.iaload, 1), some (.iastore, 1), some (.iinc 6 1, 3), none, none, some (.goto (-31), 3), none, none, some (.iconst 0, 1), some (.istore 6, 2), none, some (.iload 6, 2), none, some (.iload 5, 2), none, some (.if_icmp .ge 31, 3), none, none, some (.aload_n 0, 1), some (.getfield 107, 3), none, none, some (.bipush 60, 2), none, some (.iload_n 3, 1), some (.imul, 1), some (.iload 4, 2), none, some (.iadd, 1), some (.iload 6, 2), none, some (.iadd, 1), some (.aload_n 0, 1), some (.getfield 110, 3), none, none, some (.iload 6, 2), none, some (.iaload, 1), some (.iastore, 1), some (.iinc 6 1, 3), none, none, some (.goto (-32), 3), none, none, some (.iconst 1, 1), some (.ireturn, 1)]
def tX7_write : List (Option (Instr × Nat)) := [some (.aload_n 0, 1), some (.iload_n 1, 1), some (.invokevirtual 150, 3), none, none, some (.ifCond .eq 10, 3), none, none, some (.iload_n 2, 1), some (.invokestatic 177, 3), none, none, some (.ifCond .ne 6, 3), none, none, some (.bipush (-2), 2), none, some (.ireturn, 1), some (.aload_n 0, 1), some (.getfield 97, 3), none, none, some (.iload_n 2, 1), some (.baload, 1), some (.ifCond .ne 9, 3), none, none, some (.aload_n 0, 1), some (.iconst 1, 1), some (.invokevirtual 180, 3), none, none, some (.ireturn, 1), some (.aload_n 0, 1), some (.invokevirtual 234, 3), none, none, some (.iconst 0, 1), some (.istore_n 3, 1), some (.iload_n 3, 1), some (.aload_n 0, 1), some (.getfield 104, 3), none, none, some (.iload_n 2, 1), some (.iaload, 1), some (.if_icmp .ge 32, 3), none, none, some (.iload_n 3, 1), some (.bipush 24, 2), none, some (.if_icmp .ge 26, 3), none, none, some (.aload_n 0, 1), some (.iload_n 2, 1), some (.iload_n 3, 1), some (.aload_n 0, 1), some (.getfield 73, 3), none, none, some (.bipush 8, 2), none, some (.iload_n 3, 1), some (.imul, 1), some (.iload_n 1, 1), some (.iadd, 1), some (.iaload, 1), some (.invokevirtual 328, 3), none, none, some (.iinc 3 1, 3), none, none, some (.goto (-36), 3), none, none, some (.iload_n 3, 1), some (.ireturn, 1)]
def tX7_sumOf : List (Option (Instr × Nat)) := [some (.aload_n 0, 1), some (.invokevirtual 147, 3), none, none, some (.iload_n 1, 1), some (.ifCond .ne 10, 3), none, none, some (.aload_n 0, 1), some (.getfield 127, 3), none, none, some (.goto 7, 3), none, none, some (.aload_n 0, 1), some (.getfield 131, 3), none, none, some (.ireturn, 1)]
def tX7_count : List (Option (Instr × Nat)) := [some (.iload_n 1, 1), some (.tableswitch 91 0 8 #[51, 51, 57, 57, 66, 71, 76, 81, 86], 51), none, none, none, none, none, none, none, none, none, none, none, none, none, none, none, none, none, none, none, none, none, none, none, none, none, none, none, none, none, none, none, none, none, none, none, none, none, none, none, none, none, none, none, none, none, none, none, none, none, none, some (.aload_n 0, 1), some (.iload_n 1, 1), some (.invokevirtual 333, 3), none, none, some (.ireturn, 1), some (.aload_n 0, 1), some (.getfield 7, 3), none, none, some (.iload_n 1, 1), some (.iconst 2, 1), some (.isub, 1), some (.iaload, 1), some (.ireturn, 1), some (.aload_n 0, 1), some (.getfield 165, 3), none, none, some (.ireturn, 1), some (.aload_n 0, 1), some (.getfield 171, 3), none, none, some (.ireturn, 1), some (.aload_n 0, 1), some (.getfield 174, 3), none, none, some (.ireturn, 1), some (.aload_n 0, 1), some (.getfield 287, 3), none, none, some (.ireturn, 1), some (.aload_n 0, 1), some (.getfield 322, 3), none, none, some (.ireturn, 1), some (.bipush (-2), 2), none, some (.ireturn, 1)]
def tX7_promiseDigest : List (Option (Instr × Nat)) := [some (.lload_n 1, 1), some (.lstore 4, 2), none, some (.iconst 0, 1), some (.istore 6, 2), none, some (.iload 6, 2), none, some (.iconst 4, 1), some (.if_icmp .ge 26, 3), none, none, some (.ldc2_w 336, 3), none, none, some (.lload 4, 2), none, some (.lmul, 1), some (.aload_n 0, 1), some (.iload_n 3, 1), some (.iload 6, 2), none, some (.invokevirtual 159, 3), none, none, some (.i2l, 1), some (.ladd, 1), some (.lstore 4, 2), none, some (.iinc 6 1, 3), none, none, some (.goto (-26), 3), none, none, some (.ldc2_w 336, 3), none, none, some (.lload 4, 2), none, some (.lmul, 1), some (.aload_n 0, 1), some (.bipush 8, 2), none, some (.iload_n 3, 1), some (.invokevirtual 241, 3), none, none, some (.i2l, 1), some (.ladd, 1), some (.lstore 4, 2), none, some (.ldc2_w 336, 3), none, none, some (.lload 4, 2), none, some (.lmul, 1), some (.aload_n 0, 1), some (.bipush 23, 2), none, some (.iload_n 3, 1), some (.invokevirtual 241, 3), none, none, some (.i2l, 1), some (.ladd, 1), some (.lstore 4, 2), none, some (.ldc2_w 336, 3), none, none, some (.lload 4, 2), none, some (.lmul, 1), some (.aload_n 0, 1), some (.iload_n 3, 1), some (.iconst 0, 1), some (.invokevirtual 275, 3), none, none, some (.i2l, 1), some (.ladd, 1), some (.lstore 4, 2), none, some (.ldc2_w 336, 3), none, none, some (.lload 4, 2), none, some (.lmul, 1), some (.aload_n 0, 1), some (.iload_n 3, 1), some (.iconst 1, 1), some (.invokevirtual 275, 3), none, none, some (.i2l, 1), some (.ladd, 1), some (.lreturn, 1)]
def tX7_coatDigest : List (Option (Instr × Nat)) := [some (.lload_n 1, 1), some (.lstore 5, 2), none, some (.iconst 0, 1), some (.istore 7, 2), none, some (.iload 7, 2), none, some (.iconst 3, 1), some (.if_icmp .ge 28, 3), none, none, some (.ldc2_w 336, 3), none, none, some (.lload 5, 2), none, some (.lmul, 1), some (.aload_n 0, 1), some (.iload_n 3, 1), some (.iload 4, 2), none, some (.iload 7, 2), none, some (.invokevirtual 237, 3), none, none, some (.i2l, 1), some (.ladd, 1), some (.lstore 5, 2), none, some (.iinc 7 1, 3), none, none, some (.goto (-28), 3), none, none, some (.lload 5, 2), none, some (.lreturn, 1)]
def tX7_personDigest : List (Option (Instr × Nat)) := [some (.ldc2_w 336, 3), none, none, some (.lload_n 1, 1), some (.lmul, 1), some (.aload_n 0, 1), some (.iload_n 3, 1), some (.iconst 0, 1), some (.invokevirtual 153, 3), none, none, some (.i2l, 1), some (.ladd, 1), some (.lstore 4, 2), none, some (.ldc2_w 336, 3), none, none, some (.lload 4, 2), none, some (.lmul, 1), some (.aload_n 0, 1), some (.iload_n 3, 1), some (.iconst 1, 1), some (.invokevirtual 153, 3), none, none, some (.i2l, 1), some (.ladd, 1), some (.lstore 4, 2), none, some (.aload_n 0, 1), some (.lload 4, 2), none, some (.iconst 0, 1), some (.iload_n 3, 1), some (.invokevirtual 338, 3), none, none, some (.lstore 4, 2), none, some (.aload_n 0, 1), some (.lload 4, 2), none, some (.bipush 6, 2), none, some (.iload_n 3, 1), some (.invokevirtual 338, 3), none, none, some (.lstore 4, 2), none, some (.aload_n 0, 1), some (.lload 4, 2), none, some (.bipush 14, 2), none, some (.iload_n 3, 1), some (.invokevirtual 338, 3), none, none, some (.lstore 4, 2), none, some (.aload_n 0, 1), some (.lload 4, 2), none, some (.bipush 23, 2), none, some (.iload_n 3, 1), some (.invokevirtual 338, 3), none, none, some (.lstore 4, 2), none, some (.ldc2_w 336, 3), none, none, some (.lload 4, 2), none, some (.lmul, 1), some (.aload_n 0, 1), some (.iload_n 3, 1), some (.bipush 14, 2), none, some (.invokevirtual 269, 3), none, none, some (.i2l, 1), some (.ladd, 1), some (.lstore 4, 2), none, some (.ldc2_w 336, 3), none, none, some (.lload 4, 2), none, some (.lmul, 1), some (.aload_n 0, 1), some (.iload_n 3, 1), some (.invokevirtual 297, 3), none, none, some (.i2l, 1), some (.ladd, 1), some (.lstore 4, 2), none, some (.ldc2_w 336, 3), none, none, some (.lload 4, 2), none, some (.lmul, 1), some (.aload_n 0, 1), some (.iload_n 3, 1), some (.invokevirtual 300, 3), none, none, some (.i2l, 1), some (.ladd, 1), some (.lstore 4, 2), none, some (.ldc2_w 336, 3), none, none, some (.lload 4, 2), none, some (.lmul, 1), some (.aload_n 0, 1), some (.iload_n 3, 1), some (.invokevirtual 303, 3), none, none, some (.i2l, 1), some (.ladd, 1), some (.lstore 4, 2), none, some (.ldc2_w 336, 3), none, none, some (.lload 4, 2), none, some (.lmul, 1), some (.aload_n 0, 1), some (.iconst 5, 1), some (.iload_n 3, 1), some (.bipush 14, 2), none, some (.iconst 0, 1), some (.invokevirtual 310, 3), none, none, some (.ladd, 1), some (.lstore 4, 2), none, some (.ldc2_w 336, 3), none, none, some (.lload 4, 2), none, some (.lmul, 1), some (.aload_n 0, 1), some (.iconst 5, 1), some (.iload_n 3, 1), some (.bipush 14, 2), none, some (.iconst 1, 1), some (.invokevirtual 310, 3), none, none, some (.ladd, 1), some (.lreturn, 1)]
def tX7_digest : List (Option (Instr × Nat)) := [some (.ldc2_w 342, 3), none, none, some (.lstore_n 1, 1), some (.iconst 0, 1), some (.istore_n 3, 1), some (.iload_n 3, 1), some (.bipush 8, 2), none, some (.if_icmp .ge 22, 3), none, none, some (.ldc2_w 336, 3), none, none, some (.lload_n 1, 1), some (.lmul, 1), some (.aload_n 0, 1), some (.iload_n 3, 1), some (.invokevirtual 344, 3), none, none, some (.i2l, 1), some (.ladd, 1), some (.lstore_n 1, 1), some (.iinc 3 1, 3), none, none, some (.goto (-22), 3), none, none, some (.ldc2_w 336, 3), none, none, some (.lload_n 1, 1), some (.lmul, 1), some (.aload_n 0, 1), some (.iconst 0, 1), some (.invokevirtual 144, 3), none, none, some (.i2l, 1), some (.ladd, 1), some (.lstore_n 1, 1), some (.ldc2_w 336, 3), none, none, some (.lload_n 1, 1), some (.lmul, 1), some (.aload_n 0, 1), some (.iconst 1, 1), some (.invokevirtual 144, 3), none, none, some (.i2l, 1), some (.ladd, 1), some (.lstore_n 1, 1), some (.iconst 0, 1), some (.istore_n 3, 1), some (.iload_n 3, 1), some (.aload_n 0, 1), some (.getfield 131, 3), none, none, some (.if_icmp .ge 16, 3), none, none, some (.aload_n 0, 1), some (.lload_n 1, 1), some (.iload_n 3, 1), some (.invokevirtual 347, 3), none, none, some (.lstore_n 1, 1), some (.iinc 3 1, 3), none, none, some (.goto (-18), 3), none, none, some (.iconst 0, 1), some (.istore_n 3, 1), some (.iload_n 3, 1), some (.aload_n 0, 1), some (.getfield 127, 3), none, none, some (.if_icmp .ge 16, 3), none, none, some (.aload_n 0, 1), some (.lload_n 1, 1), some (.iload_n 3, 1), some (.invokevirtual 351, 3), none, none, some (.lstore_n 1, 1), some (.iinc 3 1, 3), none, none, some (.goto (-18), 3), none, none, some (.iconst 0, 1), some (.istore_n 3, 1), some (.iload_n 3, 1), some (.bipush 24, 2), none, some (.if_icmp .ge 48, 3), none, none, some (.ldc2_w 336, 3), none, none, some (.lload_n 1, 1), some (.lmul, 1), some (.aload_n 0, 1), some (.iload_n 3, 1), some (.invokevirtual 244, 3), none, none, some (.i2l, 1), some (.ladd, 1), some (.lstore_n 1, 1), some (.ldc2_w 336, 3), none, none, some (.lload_n 1, 1), some (.lmul, 1), some (.aload_n 0, 1), some (.iload_n 3, 1), some (.invokevirtual 250, 3), none, none, some (.i2l, 1), some (.ladd, 1), some (.lstore_n 1, 1), some (.ldc2_w 336, 3), none, none, some (.lload_n 1, 1), some (.lmul, 1), some (.aload_n 0, 1), some (.iload_n 3, 1), some (.invokevirtual 253, 3), none, none, some (.i2l, 1), some (.ladd, 1), some (.lstore_n 1, 1), some (.iinc 3 1, 3), none, none, some (.goto (-48), 3), none, none, some (.ldc2_w 336, 3), none, none, some (.lload_n 1, 1), some (.lmul, 1), some (.aload_n 0, 1), some (.invokevirtual 260, 3), none, none, some (.i2l, 1), some (.ladd, 1), some (.lstore_n 1, 1), some (.ldc2_w 336, 3), none, none, some (.lload_n 1, 1), some (.lmul, 1), some (.aload_n 0, 1), some (.invokevirtual 266, 3), none, none, some (.i2l, 1), some (.ladd, 1), some (.lstore_n 1, 1), some (.ldc2_w 336, 3), none, none, some (.lload_n 1, 1), some (.lmul, 1), some (.aload_n 0, 1), some (.bipush 8, 2), none, some (.iconst 0, 1), some (.invokevirtual 272, 3), none, none, some (.i2l, 1), some (.ladd, 1), some (.lstore_n 1, 1), some (.ldc2_w 336, 3), none, none, some (.lload_n 1, 1), some (.lmul, 1), some (.aload_n 0, 1), some (.bipush 8, 2), none, some (.iconst 1, 1), some (.invokevirtual 272, 3), none, none, some (.i2l, 1), some (.ladd, 1), some (.lstore_n 1, 1), some (.aload_n 0, 1), some (.invokevirtual 281, 3), none, none, some (.istore_n 3, 1), some (.ldc2_w 336, 3), none, none, some (.lload_n 1, 1), some (.lmul, 1), some (.iload_n 3, 1), some (.i2l, 1), some (.ladd, 1), some (.lstore_n 1, 1), some (.ldc2_w 336, 3), none, none, some (.lload_n 1, 1), some (.lmul, 1), some (.aload_n 0, 1), some (.iload_n 3, 1), some (.iconst 0, 1), some (.invokevirtual 284, 3), none, none, some (.i2l, 1), some (.ladd, 1), some (.lstore_n 1, 1), some (.ldc2_w 336, 3), none, none, some (.lload_n 1, 1), some (.lmul, 1), some (.aload_n 0, 1), some (.invokevirtual 294, 3), none, none, some (.i2l, 1), some (.ladd, 1), some (.lstore_n 1, 1), some (.ldc2_w 336, 3), none, none, some (.lload_n 1, 1), some (.lmul, 1), some (.aload_n 0, 1), some (.bipush 7, 2), none, some (.bipush 6, 2), none, some (.iconst 0, 1), some (.invokevirtual 319, 3), none, none, some (.i2l, 1), some (.ladd, 1), some (.lstore_n 1, 1), some (.ldc2_w 336, 3), none, none, some (.lload_n 1, 1), some (.lmul, 1), some (.aload_n 0, 1), some (.bipush 7, 2), none, some (.bipush 6, 2), none, some (.iconst 1, 1), some (.invokevirtual 319, 3), none, none, some (.i2l, 1), some (.ladd, 1), some (.lreturn, 1)]
def tJ6_numberOfTrailingZeros_0f7a4 : List (Option (Instr × Nat)) := [some (.iload_n 0, 1), some (.iconst (-1), 1), some (.ixor, 1), some (.iload_n 0, 1), some (.iconst 1, 1), some (.isub, 1), some (.iand, 1), some (.istore_n 0, 1), some (.iload_n 0, 1), some (.ifCond .gt 8, 3), none, none, some (.iload_n 0, 1), some (.bipush 32, 2), none, some (.iand, 1), some (.ireturn, 1), some (.iconst 1, 1), some (.istore_n 1, 1), some (.iload_n 0, 1), some (.ldc_w 264, 3), none, none, some (.if_icmp .le 11, 3), none, none, some (.iinc 1 16, 3), none, none, some (.iload_n 0, 1), some (.bipush 16, 2), none, some (.iushr, 1), some (.istore_n 0, 1), some (.iload_n 0, 1), some (.sipush 256, 3), none, none, some (.if_icmp .le 11, 3), none, none, some (.iinc 1 8, 3), none, none, some (.iload_n 0, 1), some (.bipush 8, 2), none, some (.iushr, 1), some (.istore_n 0, 1), some (.iload_n 0, 1), some (.bipush 16, 2), none, some (.if_icmp .le 10, 3), none, none, some (.iinc 1 4, 3), none, none, some (.iload_n 0, 1), some (.iconst 4, 1), some (.iushr, 1), some (.istore_n 0, 1), some (.iload_n 0, 1), some (.iconst 4, 1), some (.if_icmp .le 10, 3), none, none, some (.iinc 1 2, 3), none, none, some (.iload_n 0, 1), some (.iconst 2, 1), some (.iushr, 1), some (.istore_n 0, 1), some (.iload_n 1, 1), some (.iload_n 0, 1), some (.iconst 1, 1), some (.iushr, 1), some (.iadd, 1), some (.ireturn, 1)]
def tJ6_bitCount_0f7a4 : List (Option (Instr × Nat)) := [some (.iload_n 0, 1), some (.iload_n 0, 1), some (.iconst 1, 1), some (.iushr, 1), some (.ldc_w 265, 3), none, none, some (.iand, 1), some (.isub, 1), some (.istore_n 0, 1), some (.iload_n 0, 1), some (.ldc_w 266, 3), none, none, some (.iand, 1), some (.iload_n 0, 1), some (.iconst 2, 1), some (.iushr, 1), some (.ldc_w 266, 3), none, none, some (.iand, 1), some (.iadd, 1), some (.istore_n 0, 1), some (.iload_n 0, 1), some (.iload_n 0, 1), some (.iconst 4, 1), some (.iushr, 1), some (.iadd, 1), some (.ldc_w 267, 3), none, none, some (.iand, 1), some (.istore_n 0, 1), some (.iload_n 0, 1), some (.iload_n 0, 1), some (.bipush 8, 2), none, some (.iushr, 1), some (.iadd, 1), some (.istore_n 0, 1), some (.iload_n 0, 1), some (.iload_n 0, 1), some (.bipush 16, 2), none, some (.iushr, 1), some (.iadd, 1), some (.istore_n 0, 1), some (.iload_n 0, 1), some (.bipush 63, 2), none, some (.iand, 1), some (.ireturn, 1)]
def tJ7_fill_53178 : List (Option (Instr × Nat)) := [some (.iconst 0, 1), some (.istore_n 2, 1), some (.aload_n 0, 1), some (.arraylength, 1), some (.istore_n 3, 1), some (.iload_n 2, 1), some (.iload_n 3, 1), some (.if_icmp .ge 13, 3), none, none, some (.aload_n 0, 1), some (.iload_n 2, 1), some (.iload_n 1, 1), some (.iastore, 1), some (.iinc 2 1, 3), none, none, some (.goto (-12), 3), none, none, some (.return_, 1)]
def cdL : List (List (Option (Instr × Nat))) := [tX0_init, tX0_arrange, tX0_enterAll, tX0_enter, tX0_begin, tX0_advance, tX0_gain, tX0_fulfil, tX0_fail, tX0_lengthen, tX0_shorten, tX0_fits, tX0_fittingBits, tX0_nakedBits, tX0_allRips, tX0_showsAll, tX0_showsBehind, tX1_init, tX1_has, tX1_take, tX2_init, tX2_isSheet, tX2_isForm, tX2_isLost, tX2_lay, tX2_findingAt, tX2_hasItems, tX2_store, tX3_init, tX3_append, tX3_firstFault, tX3_goesOnInPeople, tX3_goesOnInPromises, tX4_init, tX4_isFull, tX4_add, tX4_dropLast, tX5_init, tX5_has, tX5_take, tX5_add, tX5_dropLast, tX6_init, tX6_type, tX6_wipe, tX6_undo, tX6_fault, tX6_person, tX6_promise, tX6_keeping, tX6_lie, tX6_letting, tX6_back, tX6_read, tX6_coat, tX6_stands, tX6_neat, tX6_naked, tX6_longest, tX6_splits, tX6_best, tX6_swear, tX6_keep, tX6_due, tX6_hush, tX6_seen, tX6_forget, tX6_never, tX6_was, tX6_ask, tX6_word, tX6_year, tX6_sheet, tX6_lose, tX6_put, tX6_get, tX6_copy, tX6_write, tX6_count, tX6_digest, tX6_isUpTo, tX6_isText, tX6_isDay, tX6_isGreat, tX6_mayBePerson, tX6_mayBeKeeping, tX6_textOf, tX6_takeTexts, tX6_found, tX6_liveUntil, tX6_liesToHush, tX6_leavesNobodyNaked, tX6_fittingValues, tX6_noteCoatsBySize, tX6_mostAlike, tX6_keepingsOf, tX6_weight, tX6_drawKeepings, tX6_nextSeed, tX6_mixed, tX6_withPromise, tX6_withPerson, tX6_withCoat, tX7_init, tX7_in, tX7_isIn, tX7_no, tX7_lowest, tX7_isText, tX7_isDay, tX7_isEight, tX7_type, tX7_wipe, tX7_undo, tX7_byteAt, tX7_readsPerson, tX7_readsPromise, tX7_readsParts, tX7_faultOf, tX7_reads, tX7_fault, tX7_isPerson, tX7_isPromise, tX7_personOf, tX7_person, tX7_promiseOf, tX7_promise, tX7_keeping, tX7_lie, tX7_letting, tX7_back, tX7_read, tX7_asTold, tX7_changes, tX7_lengthOf, tX7_makes, tX7_isKept, tX7_keepsOn, tX7_breaks, tX7_goesBy, tX7_runs, tX7_runsTold, tX7_fitsOn, tX7_fitMany, tX7_coatOf, tX7_coat, tX7_standsOf, tX7_stands, tX7_neatOf, tX7_neat, tX7_nakedNow, tX7_nakedOf, tX7_naked, tX7_longestOf, tX7_longest, tX7_tearsAll, tX7_splitsOf, tX7_splits, tX7_bestNow, tX7_best, tX7_swearOf, tX7_swear, tX7_keepBest, tX7_keep, tX7_dueOf, tX7_due, tX7_isHushed, tX7_hushBy, tX7_ofRow, tX7_hush, tX7_seen, tX7_forget, tX7_isSeen, tX7_neverNow, tX7_never, tX7_sizesBy, tX7_sortsBy, tX7_was, tX7_askOf, tX7_ask, tX7_wordOf, tX7_word, tX7_yearOf, tX7_year, tX7_meets, tX7_isSheet, tX7_sheet, tX7_lose, tX7_lacks, tX7_lays, tX7_put, tX7_get, tX7_copy, tX7_write, tX7_sumOf, tX7_count, tX7_promiseDigest, tX7_coatDigest, tX7_personDigest, tX7_digest, tJ6_numberOfTrailingZeros_0f7a4, tJ6_bitCount_0f7a4, tJ7_fill_53178]
def mwL : List (Nat × Nat) := [(126, 77), (476, 77), (486, 77), (481, 77), (490, 77), (498, 77), (502, 77), (510, 77), (518, 77), (506, 77), (522, 77), (526, 77), (538, 77), (547, 77), (559, 77), (618, 77), (624, 77), (132, 78), (400, 78), (358, 78), (272, 81), (455, 81), (676, 81), (460, 81), (680, 81), (692, 81), (697, 81), (701, 81), (98, 75), (350, 75), (362, 75), (368, 75), (365, 75), (186, 80), (422, 80), (426, 80), (448, 80), (154, 79), (408, 79), (373, 79), (379, 79), (578, 79), (90, 74), (336, 74), (383, 74), (387, 74), (391, 74), (396, 74), (404, 74), (412, 74), (430, 74), (440, 74), (444, 74), (452, 74), (468, 74), (530, 74), (534, 74), (543, 74), (551, 74), (555, 74), (563, 74), (573, 74), (582, 74), (586, 74), (590, 74), (606, 74), (610, 74), (614, 74), (628, 74), (636, 74), (649, 74), (661, 74), (673, 74), (684, 74), (688, 74), (705, 74), (710, 74), (716, 74), (721, 74), (725, 74), (342, 74), (339, 74), (418, 74), (436, 74), (433, 74), (415, 74), (346, 74), (354, 74), (464, 74), (472, 74), (594, 74), (598, 74), (632, 74), (640, 74), (644, 74), (654, 74), (657, 74), (665, 74), (668, 74), (730, 74), (736, 74), (743, 74), (748, 74), (767, 83), (915, 83), (1052, 83), (1218, 83), (1215, 83), (912, 83), (982, 83), (989, 83), (909, 83), (919, 83), (923, 83), (943, 83), (939, 83), (947, 83), (935, 83), (931, 83), (959, 83), (927, 83), (955, 83), (971, 83), (963, 83), (951, 83), (975, 83), (967, 83), (979, 83), (986, 83), (993, 83), (997, 83), (1001, 83), (1025, 83), (1045, 83), (1041, 83), (1037, 83), (1056, 83), (1049, 83), (1060, 83), (1033, 83), (1029, 83), (1021, 83), (1064, 83), (1124, 83), (1017, 83), (1013, 83), (1072, 83), (1068, 83), (1080, 83), (1076, 83), (1092, 83), (1088, 83), (1084, 83), (1100, 83), (1096, 83), (1112, 83), (1108, 83), (1104, 83), (1120, 83), (1116, 83), (1132, 83), (1128, 83), (1140, 83), (1136, 83), (1148, 83), (1144, 83), (1160, 83), (1156, 83), (1164, 83), (1152, 83), (1168, 83), (1172, 83), (1184, 83), (1180, 83), (1176, 83), (1192, 83), (1196, 83), (1188, 83), (1204, 83), (1200, 83), (1212, 83), (1208, 83), (1227, 83), (1223, 83), (1008, 83), (1004, 83), (1232, 83), (1236, 83), (1244, 83), (1248, 83), (1240, 83), (1252, 83), (1257, 83), (1261, 83), (1269, 83), (1265, 83), (1280, 83), (1288, 83), (1284, 83), (1273, 83), (601, 85), (566, 85), (278, 82)]
def npL : List Nat := [0, 1, 2, 3, 0, 1, 1, 1, 1, 2, 2, 1, 0, 0, 0, 1, 2, 0, 1, 1, 0, 1, 1, 1, 3, 3, 3, 3, 2, 1, 0, 2, 2, 1, 0, 3, 0, 0, 1, 1, 4, 0, 0, 2, 1, 1, 1, 2, 2, 2, 3, 3, 1, 1, 3, 2, 1, 1, 1, 0, 0, 2, 2, 2, 1, 3, 0, 0, 2, 1, 4, 3, 3, 1, 4, 3, 5, 2, 1, 0, 2, 1, 1, 1, 1, 2, 1, 0, 1, 1, 0, 1, 3, 1, 2, 1, 3, 2, 1, 2, 2, 2, 3, 0, 3, 2, 1, 3, 1, 1, 1, 2, 1, 1, 2, 2, 2, 1, 1, 0, 1, 1, 1, 2, 2, 2, 2, 2, 3, 3, 1, 1, 0, 2, 1, 1, 1, 1, 1, 1, 0, 0, 2, 1, 3, 3, 2, 2, 1, 1, 1, 1, 1, 1, 1, 0, 0, 0, 0, 0, 2, 2, 2, 2, 2, 2, 1, 0, 2, 1, 3, 0, 0, 0, 0, 1, 1, 2, 1, 1, 4, 4, 3, 3, 1, 1, 3, 1, 3, 3, 4, 3, 5, 2, 1, 1, 2, 3, 2, 0, 1, 1, 2]
def frL : List (List (Nat × Nat × Nat × Nat)) := [[(14, 0, 0, 210), (23, 0, 1, 212), (30, 0, 2, 214), (34, 0, 3, 216), (37, 0, 4, 218), (40, 0, 5, 220), (44, 0, 6, 221), (47, 0, 7, 222), (50, 0, 8, 224), (53, 0, 9, 226), (56, 0, 10, 228), (60, 0, 11, 229), (63, 0, 12, 230), (66, 0, 13, 232), (69, 0, 14, 234), (72, 5, 4, 169), (75, 5, 0, 157), (82, 5, 2, 163), (89, 5, 3, 166), (92, 4, 4, 197), (93, 4, 1, 191), (95, 4, 0, 189), (102, 1, 1, 138), (131, 4, 2, 194), (137, 1, 0, 136), (140, 5, 1, 160), (152, 1, 2, 141)], [(9, 1, 0, 134), (15, 1, 1, 137), (18, 1, 2, 140), (28, 3, 3, 111), (37, 3, 0, 104)], [(13, 2, 0, 279), (16, 2, 1, 281), (20, 2, 2, 283)], [(9, 3, 0, 103), (15, 3, 3, 108), (25, 3, 1, 106), (28, 3, 2, 107)], [(9, 4, 0, 188), (13, 4, 1, 190), (16, 4, 2, 193), (19, 4, 4, 196), (23, 4, 3, 195)], [(9, 5, 0, 156), (15, 5, 1, 159), (18, 5, 2, 162), (21, 5, 3, 165), (24, 5, 4, 168), (34, 3, 3, 110), (43, 3, 0, 105)], [(14, 6, 0, 293), (18, 6, 1, 294), (24, 6, 2, 295), (28, 0, 0, 211), (32, 6, 3, 296), (33, 0, 1, 213), (37, 6, 4, 297), (38, 0, 2, 215), (42, 6, 5, 298), (43, 0, 3, 217), (46, 6, 6, 299), (47, 0, 4, 219), (50, 6, 7, 300), (56, 6, 8, 301), (59, 6, 9, 302), (65, 6, 10, 303), (71, 6, 11, 304), (74, 6, 12, 305), (96, 3, 3, 109), (108, 1, 0, 135), (112, 1, 1, 139), (118, 5, 0, 158), (121, 5, 1, 161), (124, 5, 2, 164), (127, 5, 3, 167), (150, 4, 4, 198), (166, 2, 1, 282), (169, 2, 0, 280), (175, 0, 7, 223), (179, 0, 8, 225), (182, 0, 9, 227), (191, 1, 2, 142), (215, 5, 4, 170), (222, 0, 12, 231), (260, 2, 2, 284), (339, 0, 13, 233), (345, 4, 1, 192)], [(7, 7, 0, 769), (13, 7, 1, 770), (16, 7, 3, 772), (19, 7, 4, 773), (22, 7, 6, 775), (25, 7, 7, 776), (28, 7, 8, 777), (31, 7, 9, 778), (34, 7, 11, 780), (37, 7, 12, 781), (40, 7, 14, 783), (43, 7, 15, 784), (46, 7, 16, 785), (49, 7, 18, 787), (52, 7, 19, 788), (55, 7, 20, 789), (58, 7, 23, 792), (61, 7, 24, 793), (64, 7, 27, 796), (67, 7, 28, 797), (70, 7, 29, 798), (73, 7, 30, 799), (76, 7, 31, 800), (79, 7, 32, 801), (82, 7, 33, 802), (85, 7, 35, 804), (88, 7, 36, 805), (91, 7, 37, 806), (94, 7, 38, 807), (97, 7, 39, 808), (101, 7, 40, 809), (104, 7, 41, 810), (107, 7, 42, 811), (110, 7, 43, 812), (127, 7, 2, 771), (131, 7, 5, 774), (165, 7, 10, 779), (171, 7, 13, 782), (174, 7, 17, 786), (186, 7, 21, 790), (189, 7, 22, 791), (192, 7, 25, 794), (195, 7, 26, 795), (287, 7, 34, 803), (322, 7, 44, 813)], [], [], []]
def mrL : List (List (Nat × Nat × Nat × Nat × Nat × Nat)) := [[(5, 5, 0, 127, 92, 93), (13, 4, 17, 130, 131, 0), (22, 4, 37, 152, 153, 0), (27, 3, 33, 184, 185, 0), (78, 2, 18, 477, 398, 399), (85, 2, 3, 478, 480, 4), (94, 2, 38, 482, 406, 407), (98, 2, 2, 483, 485, 5), (105, 6, 0, 491, 493, 492), (111, 0, 202, 494, 277, 0), (117, 2, 6, 499, 501, 6), (121, 2, 9, 503, 505, 7), (125, 2, 7, 507, 509, 8), (128, 2, 8, 515, 517, 9), (134, 2, 10, 519, 521, 10), (143, 8, 0, 511, 512, 513), (149, 7, 0, 514, 101, 102), (153, 2, 11, 539, 524, 525), (156, 2, 4, 619, 488, 489), (159, 2, 5, 620, 496, 497), (162, 2, 16, 621, 623, 13)], [(3, 5, 0, 133, 92, 93), (22, 2, 30, 359, 360, 361), (31, 7, 0, 369, 101, 102)], [(3, 5, 0, 273, 92, 93), (23, 0, 202, 276, 277, 0), (29, 1, 80, 456, 341, 0), (33, 2, 23, 693, 458, 459), (37, 2, 26, 694, 695, 696)], [(3, 5, 0, 99, 92, 93), (19, 7, 0, 100, 101, 102), (32, 0, 32, 363, 364, 0), (36, 0, 31, 366, 367, 0)], [(1, 5, 0, 187, 92, 93)], [(3, 5, 0, 155, 92, 93), (28, 2, 30, 374, 360, 361), (37, 7, 0, 375, 101, 102), (46, 2, 40, 376, 377, 378)], [(1, 5, 0, 91, 92, 93), (11, 3, 28, 96, 97, 0), (23, 4, 0, 124, 125, 0), (53, 3, 33, 267, 185, 0), (64, 3, 20, 270, 271, 0), (78, 0, 81, 337, 338, 0), (82, 0, 80, 340, 341, 0), (86, 2, 86, 343, 345, 0), (90, 2, 29, 347, 348, 349), (93, 2, 87, 351, 353, 1), (99, 2, 30, 392, 360, 361), (103, 2, 18, 397, 398, 399), (115, 2, 38, 405, 406, 407), (130, 0, 85, 413, 414, 0), (133, 2, 34, 419, 420, 421), (137, 2, 35, 423, 424, 425), (141, 0, 82, 416, 417, 0), (144, 0, 84, 431, 432, 0), (147, 0, 83, 434, 435, 0), (153, 2, 36, 445, 446, 447), (156, 0, 21, 453, 454, 0), (159, 2, 23, 457, 458, 459), (162, 2, 88, 461, 463, 2), (172, 2, 89, 469, 471, 3), (176, 2, 11, 523, 524, 525), (185, 2, 12, 535, 536, 537), (188, 2, 13, 544, 545, 546), (192, 2, 14, 556, 557, 558), (195, 2, 1, 473, 474, 475), (199, 2, 4, 487, 488, 489), (202, 2, 5, 495, 496, 497), (205, 0, 201, 564, 565, 0), (210, 2, 40, 574, 377, 378), (213, 2, 41, 575, 576, 577), (216, 2, 90, 591, 593, 11), (219, 0, 200, 599, 600, 0), (225, 2, 15, 615, 616, 617), (229, 2, 92, 629, 631, 14), (233, 2, 93, 637, 639, 15), (236, 2, 94, 641, 643, 16), (242, 2, 95, 651, 653, 17), (245, 0, 96, 655, 656, 0), (249, 2, 97, 662, 664, 18), (253, 0, 22, 674, 675, 0), (256, 2, 24, 677, 678, 679), (263, 2, 25, 689, 690, 691), (266, 2, 27, 698, 699, 700), (270, 2, 26, 711, 695, 696), (274, 6, 0, 712, 493, 492), (280, 7, 0, 717, 101, 102), (287, 2, 78, 727, 719, 720), (290, 0, 99, 728, 729, 0), (294, 2, 46, 732, 389, 390), (297, 2, 100, 733, 735, 19), (301, 2, 101, 740, 742, 20), (304, 2, 56, 754, 532, 533), (307, 2, 57, 755, 541, 542), (310, 2, 58, 756, 549, 550), (313, 2, 59, 757, 553, 554), (316, 2, 60, 758, 561, 562), (319, 2, 62, 759, 580, 581), (322, 2, 64, 760, 588, 589), (325, 2, 67, 761, 612, 613), (328, 2, 71, 762, 659, 660), (331, 2, 19, 355, 356, 357), (335, 2, 39, 370, 371, 372), (336, 2, 91, 595, 597, 12), (342, 8, 0, 645, 512, 513), (348, 0, 98, 666, 667, 0), (354, 2, 48, 737, 402, 403), (357, 2, 55, 738, 528, 529), (360, 2, 63, 739, 584, 585), (363, 2, 47, 744, 394, 395), (366, 2, 102, 745, 747, 21), (370, 2, 61, 750, 571, 572), (373, 2, 68, 751, 626, 627), (376, 2, 69, 752, 634, 635), (379, 2, 70, 753, 647, 648), (383, 2, 54, 749, 466, 467)], [(1, 5, 0, 768, 92, 93), (115, 0, 104, 913, 914, 0), (119, 0, 108, 910, 911, 0), (123, 2, 114, 940, 942, 25), (134, 2, 115, 936, 938, 24), (137, 2, 116, 944, 946, 26), (140, 2, 117, 932, 934, 23), (144, 2, 118, 928, 930, 22), (147, 2, 119, 956, 958, 28), (150, 2, 121, 952, 954, 27), (153, 2, 123, 960, 962, 29), (156, 2, 122, 968, 970, 30), (159, 2, 125, 972, 974, 31), (162, 0, 109, 980, 981, 0), (168, 0, 110, 987, 988, 0), (177, 0, 185, 1002, 1003, 0), (180, 2, 184, 1005, 1007, 32), (183, 2, 127, 1009, 977, 978), (198, 2, 134, 1038, 1040, 39), (201, 2, 133, 1042, 1044, 40), (205, 0, 105, 1050, 1051, 0), (209, 2, 136, 1053, 1055, 42), (213, 2, 135, 1034, 1036, 38), (216, 2, 137, 1046, 1048, 41), (219, 2, 138, 1057, 1059, 43), (222, 2, 139, 1030, 1032, 37), (225, 2, 132, 1022, 1024, 35), (228, 2, 140, 1026, 1028, 36), (231, 2, 142, 1061, 1063, 44), (234, 2, 141, 1018, 1020, 34), (237, 2, 144, 1014, 1016, 33), (241, 2, 146, 1069, 1071, 45), (244, 2, 148, 1077, 1079, 46), (247, 2, 150, 1089, 1091, 48), (250, 2, 151, 1085, 1087, 47), (253, 2, 153, 1097, 1099, 49), (256, 2, 155, 1109, 1111, 51), (260, 2, 156, 1105, 1107, 50), (263, 2, 143, 1121, 1123, 53), (266, 2, 158, 1117, 1119, 52), (269, 2, 160, 1129, 1131, 54), (272, 2, 162, 1137, 1139, 55), (275, 2, 164, 1145, 1147, 56), (278, 2, 166, 1157, 1159, 58), (281, 2, 167, 1153, 1155, 57), (284, 2, 168, 1161, 1163, 59), (290, 2, 172, 1181, 1183, 61), (294, 2, 173, 1177, 1179, 60), (297, 2, 175, 1189, 1191, 62), (300, 2, 176, 1193, 1195, 63), (303, 2, 178, 1201, 1203, 64), (306, 0, 107, 1213, 1214, 0), (310, 2, 180, 1209, 1211, 65), (314, 0, 106, 1216, 1217, 0), (319, 2, 182, 1224, 1226, 66), (325, 2, 188, 1241, 1243, 67), (328, 2, 189, 1245, 1247, 68), (333, 2, 194, 1266, 1268, 69), (338, 2, 197, 1285, 1287, 72), (344, 2, 195, 1276, 1263, 1264), (347, 2, 196, 1277, 1279, 70), (351, 2, 198, 1281, 1283, 71)], [], [], []]
def ciL : List (List (Nat × Int32 × Nat)) := [[], [], [], [], [], [], [(269, (-2147483648), 706), (351, 1103515245, 669)], [(318, 1103515245, 1228), (332, (-2147483648), 1253)], [(264, 65536, 602), (265, 1431655765, 567), (266, 858993459, 568), (267, 252645135, 569)], [], []]
def clL : List (List (Nat × Int64 × Nat)) := [[], [], [], [], [], [], [(240, (-9223372036854775806), 650), (285, 17, 726), (352, 31, 731)], [(113, (-9223372036854775808), 1219), (336, 31, 1275), (342, 17, 1274)], [], [], []]
def nwL : List (List (Nat × Nat × Nat × Nat × Nat)) := [[(1, 4, 182, 183, 80), (11, 1, 128, 129, 78), (20, 5, 150, 151, 79)], [], [], [], [], [], [(7, 3, 94, 95, 75), (21, 0, 122, 123, 77), (51, 4, 266, 183, 80), (62, 2, 268, 269, 81)], [], [], [], []]
def mnL : List (List (Nat × Nat)) := [[], [], [(11, 274)], [], [], [], [(69, 292)], [], [], [], []]
def wOver : Nat := 275
def wArrI : Nat := 121
def wArrZ : Nat := 905
def wSys : Nat := 84
def wMath : Nat := 76
def mOkB (k : Nat) : Bool := match mtL[k]?, mwL[k]?, npL[k]? with
  | some M, some (a, b), some n => chkW a (.code M.y M.by M.ml M.rt) && (chkW b (.initialized M.y.cls) && (decide (M.y.cls ≠ "java/lang/invoke/MethodHandle") && (decide (M.y.cls ≠ "java/lang/invoke/VarHandle") && (decide (M.ml ≤ 20) && (plainName M.y.cls && (decide (M.y.cls = cnm M.cn) && decide (np M = some n)))))))
  | _, _, _ => false
def cdB (k : Nat) : Bool := match mtL[k]?, cdL[k]? with
  | some M, some t => cdOk M.by 0 t
  | _, _ => false
end
section
set_option maxRecDepth 100000 in
theorem mk_0 : (rng 0 15).all mOkB = true := by decide +kernel
set_option maxRecDepth 100000 in
theorem mk_15 : (rng 15 15).all mOkB = true := by decide +kernel
set_option maxRecDepth 100000 in
theorem mk_30 : (rng 30 15).all mOkB = true := by decide +kernel
set_option maxRecDepth 100000 in
theorem mk_45 : (rng 45 15).all mOkB = true := by decide +kernel
set_option maxRecDepth 100000 in
theorem mk_60 : (rng 60 15).all mOkB = true := by decide +kernel
set_option maxRecDepth 100000 in
theorem mk_75 : (rng 75 15).all mOkB = true := by decide +kernel
set_option maxRecDepth 100000 in
theorem mk_90 : (rng 90 15).all mOkB = true := by decide +kernel
set_option maxRecDepth 100000 in
theorem mk_105 : (rng 105 15).all mOkB = true := by decide +kernel
set_option maxRecDepth 100000 in
theorem mk_120 : (rng 120 15).all mOkB = true := by decide +kernel
set_option maxRecDepth 100000 in
theorem mk_135 : (rng 135 15).all mOkB = true := by decide +kernel
set_option maxRecDepth 100000 in
theorem mk_150 : (rng 150 15).all mOkB = true := by decide +kernel
set_option maxRecDepth 100000 in
theorem mk_165 : (rng 165 15).all mOkB = true := by decide +kernel
set_option maxRecDepth 100000 in
theorem mk_180 : (rng 180 15).all mOkB = true := by decide +kernel
set_option maxRecDepth 100000 in
theorem mk_195 : (rng 195 8).all mOkB = true := by decide +kernel
theorem mk_all {k : Nat} (h : k < 203) : mOkB k = true := by
  by_cases h0 : k < 15
  · exact List.all_eq_true.mp mk_0 k (rng_mem (by omega) (by omega))
  by_cases h15 : k < 30
  · exact List.all_eq_true.mp mk_15 k (rng_mem (by omega) (by omega))
  by_cases h30 : k < 45
  · exact List.all_eq_true.mp mk_30 k (rng_mem (by omega) (by omega))
  by_cases h45 : k < 60
  · exact List.all_eq_true.mp mk_45 k (rng_mem (by omega) (by omega))
  by_cases h60 : k < 75
  · exact List.all_eq_true.mp mk_60 k (rng_mem (by omega) (by omega))
  by_cases h75 : k < 90
  · exact List.all_eq_true.mp mk_75 k (rng_mem (by omega) (by omega))
  by_cases h90 : k < 105
  · exact List.all_eq_true.mp mk_90 k (rng_mem (by omega) (by omega))
  by_cases h105 : k < 120
  · exact List.all_eq_true.mp mk_105 k (rng_mem (by omega) (by omega))
  by_cases h120 : k < 135
  · exact List.all_eq_true.mp mk_120 k (rng_mem (by omega) (by omega))
  by_cases h135 : k < 150
  · exact List.all_eq_true.mp mk_135 k (rng_mem (by omega) (by omega))
  by_cases h150 : k < 165
  · exact List.all_eq_true.mp mk_150 k (rng_mem (by omega) (by omega))
  by_cases h165 : k < 180
  · exact List.all_eq_true.mp mk_165 k (rng_mem (by omega) (by omega))
  by_cases h180 : k < 195
  · exact List.all_eq_true.mp mk_180 k (rng_mem (by omega) (by omega))
  exact List.all_eq_true.mp mk_195 k (rng_mem (by omega) (by omega))
end
section
set_option maxRecDepth 100000 in
theorem ck_0 : (rng 0 15).all cdB = true := by decide +kernel
set_option maxRecDepth 100000 in
theorem ck_15 : (rng 15 15).all cdB = true := by decide +kernel
set_option maxRecDepth 100000 in
theorem ck_30 : (rng 30 15).all cdB = true := by decide +kernel
set_option maxRecDepth 100000 in
theorem ck_45 : (rng 45 15).all cdB = true := by decide +kernel
set_option maxRecDepth 100000 in
theorem ck_60 : (rng 60 15).all cdB = true := by decide +kernel
set_option maxRecDepth 100000 in
theorem ck_75 : (rng 75 15).all cdB = true := by decide +kernel
set_option maxRecDepth 100000 in
theorem ck_90 : (rng 90 15).all cdB = true := by decide +kernel
set_option maxRecDepth 100000 in
theorem ck_105 : (rng 105 15).all cdB = true := by decide +kernel
set_option maxRecDepth 100000 in
theorem ck_120 : (rng 120 15).all cdB = true := by decide +kernel
set_option maxRecDepth 100000 in
theorem ck_135 : (rng 135 15).all cdB = true := by decide +kernel
set_option maxRecDepth 100000 in
theorem ck_150 : (rng 150 15).all cdB = true := by decide +kernel
set_option maxRecDepth 100000 in
theorem ck_165 : (rng 165 15).all cdB = true := by decide +kernel
set_option maxRecDepth 100000 in
theorem ck_180 : (rng 180 15).all cdB = true := by decide +kernel
set_option maxRecDepth 100000 in
theorem ck_195 : (rng 195 8).all cdB = true := by decide +kernel
theorem ck_all {k : Nat} (h : k < 203) : cdB k = true := by
  by_cases h0 : k < 15
  · exact List.all_eq_true.mp ck_0 k (rng_mem (by omega) (by omega))
  by_cases h15 : k < 30
  · exact List.all_eq_true.mp ck_15 k (rng_mem (by omega) (by omega))
  by_cases h30 : k < 45
  · exact List.all_eq_true.mp ck_30 k (rng_mem (by omega) (by omega))
  by_cases h45 : k < 60
  · exact List.all_eq_true.mp ck_45 k (rng_mem (by omega) (by omega))
  by_cases h60 : k < 75
  · exact List.all_eq_true.mp ck_60 k (rng_mem (by omega) (by omega))
  by_cases h75 : k < 90
  · exact List.all_eq_true.mp ck_75 k (rng_mem (by omega) (by omega))
  by_cases h90 : k < 105
  · exact List.all_eq_true.mp ck_90 k (rng_mem (by omega) (by omega))
  by_cases h105 : k < 120
  · exact List.all_eq_true.mp ck_105 k (rng_mem (by omega) (by omega))
  by_cases h120 : k < 135
  · exact List.all_eq_true.mp ck_120 k (rng_mem (by omega) (by omega))
  by_cases h135 : k < 150
  · exact List.all_eq_true.mp ck_135 k (rng_mem (by omega) (by omega))
  by_cases h150 : k < 165
  · exact List.all_eq_true.mp ck_150 k (rng_mem (by omega) (by omega))
  by_cases h165 : k < 180
  · exact List.all_eq_true.mp ck_165 k (rng_mem (by omega) (by omega))
  by_cases h180 : k < 195
  · exact List.all_eq_true.mp ck_180 k (rng_mem (by omega) (by omega))
  exact List.all_eq_true.mp ck_195 k (rng_mem (by omega) (by omega))
end
section
/-! ===== links by their tables ===== -/
theorem lk_mem {α : Type} {l : List (Nat × α)} {i : Nat} {v : α} (h : l.lookup i = some v) : (i, v) ∈ l := by
  induction l with
  | nil => cases h
  | cons q l ih =>
    obtain ⟨a, b⟩ := q
    rw [List.lookup_cons] at h
    split at h
    · rename_i hb
      have : i = a := by simpa using hb
      subst this
      cases h
      exact List.mem_cons_self
    · exact List.mem_cons_of_mem _ (ih h)
theorem tab_row {α : Type} {L : List (List (Nat × α))} {B : Nat → Nat × α → Bool} {n : Nat} (hall : (List.range n).all (fun cn => (L.getD cn []).all (B cn)) = true) (hlen : L.length ≤ n) {cn i : Nat} {v : α} (h : (L.getD cn []).lookup i = some v) : B cn (i, v) = true := by
  have hcn : cn < n := by
    rcases Nat.lt_or_ge cn L.length with q | q
    · omega
    · rw [List.getD_eq_getElem?_getD, List.getElem?_eq_none q] at h; cases h
  exact List.all_eq_true.mp (List.all_eq_true.mp hall cn (List.mem_range.mpr hcn)) _ (lk_mem h)
def fRowB (cn : Nat) (e : Nat × Nat × Nat × Nat) : Bool := match fW cn e.1 e.2.1 e.2.2.1 with
  | some w => chkW e.2.2.2 w
  | none => false
set_option maxRecDepth 100000 in
theorem frB_ok : (List.range 11).all (fun cn => (frL.getD cn []).all (fRowB cn)) = true := by decide +kernel
def fRes (cn idx : Nat) : Option (Nat × Nat × Nat) := (frL.getD cn []).lookup idx
def mRowB (cn : Nat) (e : Nat × Nat × Nat × Nat × Nat × Nat) : Bool :=
  if e.2.1 = 5 then chkW e.2.2.2.1 (.methodLink (cnm cn) e.1 Lib.objectInit) && (chkW e.2.2.2.2.1 (.instanceMethod Lib.objectInit) && chkW e.2.2.2.2.2 (.code Lib.objectInit ⟨#[0xb1]⟩ 1 none))
  else if e.2.1 = 6 then chkW e.2.2.2.1 (.methodLink (cnm cn) e.1 arraycopyName) && (chkW e.2.2.2.2.1 (.native arraycopyName) && chkW e.2.2.2.2.2 (.static arraycopyName))
  else if e.2.1 = 7 then chkW e.2.2.2.1 (.methodLink (cnm cn) e.1 Lib.Math.min.name) && (chkW e.2.2.2.2.1 (.static Lib.Math.min.name) && chkW e.2.2.2.2.2 (.code Lib.Math.min.name Lib.Math.min.code 2 (some .int)))
  else if e.2.1 = 8 then chkW e.2.2.2.1 (.methodLink (cnm cn) e.1 Lib.Math.max.name) && (chkW e.2.2.2.2.1 (.static Lib.Math.max.name) && chkW e.2.2.2.2.2 (.code Lib.Math.max.name Lib.Math.max.code 2 (some .int)))
  else match mtL[e.2.2.1]? with
  | none => false
  | some N =>
    if e.2.1 = 0 then chkW e.2.2.2.1 (.methodLink (cnm cn) e.1 N.y) && chkW e.2.2.2.2.1 (.static N.y)
    else if e.2.1 = 1 then chkN e.2.2.2.1 (.methodLinkNest (cnm cn) e.1 N.y "PromiseTailor") && chkW e.2.2.2.2.1 (.static N.y)
    else if e.2.1 = 2 then chkW e.2.2.2.1 (.methodLink (cnm cn) e.1 N.y) && (chkW e.2.2.2.2.1 (.instanceMethod N.y) && chkW e.2.2.2.2.2 (.selects N.y.cls N.y N.y))
    else if e.2.1 = 3 then chkW e.2.2.2.1 (.methodLink (cnm cn) e.1 N.y) && (chkW e.2.2.2.2.1 (.instanceMethod N.y) && (decide (N.rt = none) && decide (N.y.name = "<init>")))
    else if e.2.1 = 4 then chkN e.2.2.2.1 (.methodLinkNest (cnm cn) e.1 N.y "PromiseTailor") && (chkW e.2.2.2.2.1 (.instanceMethod N.y) && (decide (N.rt = none) && decide (N.y.name = "<init>")))
    else false
def mRes (cn idx : Nat) : Option (Nat × Nat × Nat × Nat × Nat) := (mrL.getD cn []).lookup idx
def ciRowB (cn : Nat) (e : Nat × Int32 × Nat) : Bool := chkW e.2.2 (.constant (cnm cn) e.1 e.2.1)
def clRowB (cn : Nat) (e : Nat × Int64 × Nat) : Bool := chkW e.2.2 (.constantLong (cnm cn) e.1 e.2.1)
set_option maxRecDepth 100000 in
theorem ciB_ok : (List.range 11).all (fun cn => (ciL.getD cn []).all (ciRowB cn)) = true := by decide +kernel
set_option maxRecDepth 100000 in
theorem clB_ok : (List.range 11).all (fun cn => (clL.getD cn []).all (clRowB cn)) = true := by decide +kernel
def ciRes (cn idx : Nat) : Option (Int32 × Nat) := (ciL.getD cn []).lookup idx
def clRes (cn idx : Nat) : Option (Int64 × Nat) := (clL.getD cn []).lookup idx
theorem ciRes_ok {cn idx w : Nat} {v : Int32} (h : ciRes cn idx = some (v, w)) : Cond.constant (cnm cn) idx v ∈ tb := chkW_in (tab_row ciB_ok (by decide) h)
theorem clRes_ok {cn idx w : Nat} {v : Int64} (h : clRes cn idx = some (v, w)) : Cond.constantLong (cnm cn) idx v ∈ tb := chkW_in (tab_row clB_ok (by decide) h)
def nwRowB (cn : Nat) (e : Nat × Nat × Nat × Nat × Nat) : Bool := match clsL[e.2.1]? with
  | some (C, _, N) => chkW e.2.2.1 (.classLink (cnm cn) e.1 C) && (chkW e.2.2.2.1 (.instantiable C N) && chkW e.2.2.2.2 (.initialized C))
  | none => false
set_option maxRecDepth 100000 in
theorem nwB_ok : (List.range 11).all (fun cn => (nwL.getD cn []).all (nwRowB cn)) = true := by decide +kernel
def nwRes (cn idx : Nat) : Option (Nat × Nat × Nat × Nat) := (nwL.getD cn []).lookup idx
def mnRowB (cn : Nat) (e : Nat × Nat) : Bool := chkW e.2 (.classLink (cnm cn) e.1 "[[I")
set_option maxRecDepth 100000 in
theorem mnB_ok : (List.range 11).all (fun cn => (mnL.getD cn []).all (mnRowB cn)) = true := by decide +kernel
def mnRes (cn idx : Nat) : Option Nat := (mnL.getD cn []).lookup idx
set_option maxRecDepth 100000 in
theorem wOver_in : Cond.arrayOver (.array .int) ∈ lw_tbl := chkN_in (i := wOver) (by decide +kernel)
set_option maxRecDepth 100000 in
theorem wArrI_in : Cond.arrayClass .int ∈ tb := chkW_in (i := wArrI) (by decide +kernel)
set_option maxRecDepth 100000 in
theorem wArrZ_in : Cond.arrayClass .boolean ∈ tb := chkW_in (i := wArrZ) (by decide +kernel)
set_option maxRecDepth 100000 in
theorem wSys_in : Cond.initialized "java/lang/System" ∈ tb := chkW_in (i := wSys) (by decide +kernel)
set_option maxRecDepth 100000 in
theorem wMath_in : Cond.initialized "java/lang/Math" ∈ tb := chkW_in (i := wMath) (by decide +kernel)
/-! a field is its class's own -/
def declB (ci : Nat) : Bool := match clsL[ci]? with
  | some (_, T, N) => (List.range N).all (fun sl => decide ((T sl).1 = cnm ci))
  | none => true
set_option maxRecDepth 100000 in
theorem declB_ok : (List.range 8).all declB = true := by decide +kernel
theorem decl_own {ci N sl : Nat} {C : String} {T : u_T} (h : clsL[ci]? = some (C, T, N)) (hs : sl < N) : (T sl).1 = cnm ci := by
  have hci : ci < 8 := by
    have h1 := (List.getElem?_eq_some_iff.mp h).1
    have h2 : clsL.length = 8 := rfl
    omega
  have := List.all_eq_true.mp declB_ok ci (List.mem_range.mpr hci)
  unfold declB at this
  rw [h] at this
  simpa using List.all_eq_true.mp this sl (List.mem_range.mpr hs)
set_option maxRecDepth 100000 in
theorem mr_0 : (mrL.getD 0 []).all (mRowB 0) = true := by decide +kernel
set_option maxRecDepth 100000 in
theorem mr_1 : (mrL.getD 1 []).all (mRowB 1) = true := by decide +kernel
set_option maxRecDepth 100000 in
theorem mr_2 : (mrL.getD 2 []).all (mRowB 2) = true := by decide +kernel
set_option maxRecDepth 100000 in
theorem mr_3 : (mrL.getD 3 []).all (mRowB 3) = true := by decide +kernel
set_option maxRecDepth 100000 in
theorem mr_4 : (mrL.getD 4 []).all (mRowB 4) = true := by decide +kernel
set_option maxRecDepth 100000 in
theorem mr_5 : (mrL.getD 5 []).all (mRowB 5) = true := by decide +kernel
set_option maxRecDepth 100000 in
theorem mr_6 : (mrL.getD 6 []).all (mRowB 6) = true := by decide +kernel
set_option maxRecDepth 100000 in
theorem mr_7 : (mrL.getD 7 []).all (mRowB 7) = true := by decide +kernel
set_option maxRecDepth 100000 in
theorem mr_8 : (mrL.getD 8 []).all (mRowB 8) = true := by decide +kernel
set_option maxRecDepth 100000 in
theorem mr_9 : (mrL.getD 9 []).all (mRowB 9) = true := by decide +kernel
set_option maxRecDepth 100000 in
theorem mr_10 : (mrL.getD 10 []).all (mRowB 10) = true := by decide +kernel
theorem mrB_all : ∀ cn, cn < 11 → (mrL.getD cn []).all (mRowB cn) = true
  | 0, _ => mr_0
  | 1, _ => mr_1
  | 2, _ => mr_2
  | 3, _ => mr_3
  | 4, _ => mr_4
  | 5, _ => mr_5
  | 6, _ => mr_6
  | 7, _ => mr_7
  | 8, _ => mr_8
  | 9, _ => mr_9
  | 10, _ => mr_10
  | n + 11, h => absurd h (by omega)
theorem mrB_ok {cn idx : Nat} {e : Nat × Nat × Nat × Nat × Nat} (h : mRes cn idx = some e) : mRowB cn (idx, e) = true := by
  refine tab_row (n := 11) (L := mrL) (B := mRowB) (List.all_eq_true.mpr (fun cn hcn => mrB_all cn (List.mem_range.mp hcn))) (by decide) h
end
section
/-! ===== the abstract heap: cells by number, their addresses in a list ===== -/
abbrev AC : Type := (FieldType × List Int32) ⊕ (List Nat ⊕ (Nat × List Value))
abbrev AH : Type := List AC
def cv (ad : List Nat) (v : Value) : Value := match v with
  | .ref k => .ref (ad.getD k 0)
  | w => w
def jC (cA : FieldType → ClassId) (ad : List Nat) (x : AC) : va_E := match x with
  | .inl (ty, xs) => .inl (cA ty, xs.length, .inl (fun j => xs.getD j 0))
  | .inr (.inl rs) => .inl (cA (.array .int), rs.length, .inr (.inr (.inr (.inr (fun j => (rs[j]?).map (fun r => ad.getD r 0))))))
  | .inr (.inr (ci, fs)) => .inr (ci, fs.map (cv ad))
def conc (cA : FieldType → ClassId) (ad : List Nat) (hp : AH) : va_W := List.zipWith (fun a x => (a, jC cA ad x)) ad hp
theorem conc_get {cA : FieldType → ClassId} {ad : List Nat} {hp : AH} (hl : ad.length = hp.length) {k : Nat} {x : AC} (h : hp[k]? = some x) : (conc cA ad hp)[k]? = some (ad.getD k 0, jC cA ad x) := by
  have hk : k < hp.length := (List.getElem?_eq_some_iff.mp h).1
  have ha : ad[k]? = some (ad.getD k 0) := by
    rw [List.getD_eq_getElem?_getD, List.getElem?_eq_getElem (by omega)]; rfl
  unfold conc
  rw [List.getElem?_zipWith, ha, h]
theorem conc_set {cA : FieldType → ClassId} {ad : List Nat} {hp : AH} (hl : ad.length = hp.length) {k : Nat} {x : AC} (h : hp[k]? = some x) (y : AC) : (conc cA ad hp).set k (ad.getD k 0, jC cA ad y) = conc cA ad (hp.set k y) := by
  have hk : k < hp.length := (List.getElem?_eq_some_iff.mp h).1
  apply List.ext_getElem?
  intro j
  by_cases hj : j = k
  · subst hj
    rw [List.getElem?_set_self (by unfold conc; rw [List.length_zipWith]; omega)]
    rw [conc_get (by rw [List.length_set]; exact hl) (List.getElem?_set_self hk)]
  · rw [List.getElem?_set_ne (Ne.symm hj)]
    unfold conc
    rw [List.getElem?_zipWith, List.getElem?_zipWith, List.getElem?_set_ne (Ne.symm hj)]
theorem conc_length {cA : FieldType → ClassId} {ad : List Nat} {hp : AH} (hl : ad.length = hp.length) : (conc cA ad hp).length = hp.length := by
  unfold conc; rw [List.length_zipWith]; omega
theorem conc_addr {cA : FieldType → ClassId} {ad : List Nat} {hp : AH} (hl : ad.length = hp.length) {k : Nat} {q : Nat × va_E} (h : (conc cA ad hp)[k]? = some q) : ∃ x, hp[k]? = some x ∧ q = (ad.getD k 0, jC cA ad x) := by
  have hk : k < (conc cA ad hp).length := (List.getElem?_eq_some_iff.mp h).1
  rw [conc_length hl] at hk
  have hx : hp[k]? = some hp[k] := List.getElem?_eq_getElem hk
  rw [conc_get hl hx] at h
  exact ⟨_, hx, (Option.some.inj h).symm⟩
/-! references that are there -/
def okV (n : Nat) (v : Value) : Bool := match v with
  | .ref k => decide (k < n)
  | _ => true
def okC (n : Nat) (x : AC) : Bool := match x with
  | .inl _ => true
  | .inr (.inl rs) => rs.all (fun r => decide (r < n))
  | .inr (.inr (_, fs)) => fs.all (okV n)
def okH (hp : AH) : Bool := hp.all (okC hp.length)
def okL (n : Nat) (lv : List (Option Value)) : Bool := lv.all (fun o => match o with
  | some v => okV n v
  | none => true)
theorem getD_app {ad x : List Nat} {k : Nat} (h : k < ad.length) : (ad ++ x).getD k 0 = ad.getD k 0 := by
  rw [List.getD_eq_getElem?_getD, List.getD_eq_getElem?_getD, List.getElem?_append_left h]
theorem cv_app {ad x : List Nat} {v : Value} (h : okV ad.length v = true) : cv (ad ++ x) v = cv ad v := by
  cases v with
  | ref k => simp only [okV, decide_eq_true_eq] at h; simp only [cv]; rw [getD_app h]
  | _ => rfl
theorem map_cv_app {ad x : List Nat} {st : List Value} (h : st.all (okV ad.length) = true) : st.map (cv (ad ++ x)) = st.map (cv ad) := by
  apply List.map_congr_left
  intro v hv
  exact cv_app (List.all_eq_true.mp h v hv)
theorem jC_app {cA : FieldType → ClassId} {ad x : List Nat} {c : AC} (h : okC ad.length c = true) : jC cA (ad ++ x) c = jC cA ad c := by
  match c, h with
  | .inl _, _ => rfl
  | .inr (.inl rs), h =>
    simp only [okC] at h
    simp only [jC]
    have : (fun j : Nat => (rs[j]?).map (fun r => (ad ++ x).getD r 0)) = (fun j : Nat => (rs[j]?).map (fun r => ad.getD r 0)) := by
      funext j
      cases hj : rs[j]? with
      | none => rfl
      | some r =>
        have h1 := List.all_eq_true.mp h r (List.mem_of_getElem? hj)
        simp only [decide_eq_true_eq] at h1
        simp only [Option.map_some]
        rw [getD_app h1]
    rw [this]
  | .inr (.inr (ci, fs)), h =>
    simp only [okC] at h
    simp only [jC]
    rw [map_cv_app h]
theorem conc_app {cA : FieldType → ClassId} {ad x : List Nat} {hp y : AH} (hl : ad.length = hp.length) (h : okH hp = true) : conc cA (ad ++ x) (hp ++ y) = conc cA ad hp ++ List.zipWith (fun a c => (a, jC cA (ad ++ x) c)) x y := by
  unfold conc
  rw [List.zipWith_append hl]
  congr 1
  apply List.ext_getElem?
  intro j
  rw [List.getElem?_zipWith, List.getElem?_zipWith]
  cases h1 : ad[j]? with
  | none => rfl
  | some a =>
    cases h2 : hp[j]? with
    | none => rfl
    | some c =>
      have h3 := List.all_eq_true.mp h c (List.mem_of_getElem? h2)
      rw [← hl] at h3
      show some (a, jC cA (ad ++ x) c) = some (a, jC cA ad c)
      rw [jC_app h3]
/-! ===== rooms ===== -/
def rmm (d mc ms : Nat) : Room := { frames := d, cells := mc, slots := ms, locals := 39 * d }
def tysL (cA : FieldType → ClassId) : List (ClassId × FieldType) := [(cA .int, .int), (cA .boolean, .boolean), (cA (.array .int), .array .int)]
/-- links to a nest mate's private members, and arrays over int arrays: these move with the state -/
def xN (U : State) : Prop := (∀ a i y h, Cond.methodLinkNest a i y h ∈ lw_tbl → va_Nw (.methodLinkNest a i y h) U) ∧ (Cond.arrayOver (.array .int)).before #[] U = true
theorem xO_spec {s : State} (h : (Cond.arrayOver (.array .int)).before #[] s = true) :
    ∃ comp c k, s.vm.findClass (FieldType.array .int).toString = some comp ∧ (s.vm.classes.findIdx? fun (x : Class) => match x.kind with | .array component _ => component == comp | _ => false) = some c ∧ s.vm.classes[c]? = some k ∧ k.kind = .array comp (.array .int) ∧ s.vm.findClass ("[" ++ (FieldType.array .int).toString) = some c := by
  simp only [Cond.before, Cond.holds, Cond.value, beq_iff_eq] at h
  cases hc : s.vm.findClass (FieldType.array .int).toString with
  | none => simp [hc] at h
  | some comp =>
    simp only [hc, Option.bind_some, Option.bind_eq_some_iff, Option.map_eq_some_iff] at h
    obtain ⟨c, hi, k, hk, hb⟩ := h
    obtain ⟨hlt, hp, -⟩ := Array.findIdx?_eq_some_iff_getElem.mp hi
    have hkk : s.vm.classes[c] = k := (Array.getElem?_eq_some_iff.mp hk).2
    rw [hkk] at hp
    cases hkind : k.kind with
    | array component ty =>
      rw [hkind] at hb hp
      simp at hb hp
      exact ⟨comp, c, k, rfl, hi, hk, by rw [hkind, hp, hb.1], hb.2⟩
    | _ => rw [hkind] at hb; simp at hb
theorem xO_moved {u U : State} (hvm : u.vm.Alike U.vm) (h : (Cond.arrayOver (.array .int)).before #[] u = true) : (Cond.arrayOver (.array .int)).before #[] U = true := by
  obtain ⟨comp, c, k, h1, h2, h3, h4, h5⟩ := xO_spec h
  obtain ⟨k', hk', he⟩ := hvm.2.2 _ _ h3
  have hi : (U.vm.classes.findIdx? fun (x : Class) => match x.kind with | .array component _ => component == comp | _ => false) = some c := by
    refine (va_idx_bare U.vm comp).symm.trans ?_
    first | rw [hvm.bare_eq] | rw [← hvm.bare_eq]
    exact (va_idx_bare u.vm comp).trans h2
  have hkind : k'.kind = .array comp (.array .int) := by rw [he]; exact h4
  have f1 : U.vm.findClass (FieldType.array .int).toString = some comp := by rw [hvm.findClass]; exact h1
  have f2 : U.vm.findClass ("[" ++ (FieldType.array .int).toString) = some c := by rw [hvm.findClass]; exact h5
  unfold Cond.before Cond.holds
  simp only [Cond.value]
  rw [f1, Option.bind_some]
  refine (congrArg (fun o : Option Nat => (o.bind (fun c => (U.vm.classes[c]?).map fun (k : Class) => match k.kind with | .array _ ty => decide (ty = FieldType.array .int) && decide (U.vm.findClass ("[" ++ (FieldType.array .int).toString) = some c) | _ => false) == some true)) hi).trans ?_
  simp [hk', hkind, f2]
theorem xN_warm {s U : State} (hW : s.WarmedH U.vm) (h : xN s) : xN U := ⟨fun a i y q hq => va_Nw.warmM hW (h.1 a i y q hq), xO_moved hW.alike h.2⟩
theorem xN_same {u U : State} (hv : u.vm = U.vm) (h : xN u) : xN U := ⟨fun a i y q hq => va_Nw.same rfl hv (h.1 a i y q hq), xO_moved (by rw [hv]; exact Vm.Alike.refl U.vm) h.2⟩
/-- the frame's own facts -/
def jE (M : MT) (p : Program) (s : State) (m : MethodId) (args : Array Value) (meth : Method) (c : Code) (D : va_G) (cA : FieldType → ClassId) (A : Nat → Prop) : Prop :=
  p.tables.exec = Jvm.exec ∧ c.code = M.by ∧ c.maxLocals = M.ml ∧ meth.sig.returnType = M.rt ∧ meth.locks = false ∧ s.vm.findClass (cnm M.cn) = some m.cls ∧ (∀ w ∈ tb, w.before args s = true) ∧ va_K D clsL (tysL cA) s ∧ (∀ q, s.heap.size ≤ q → A q) ∧ meth.name = M.y.name ∧ xN s
def jL (nL : Nat) (ad : List Nat) (lv : List (Option Value)) (ls : Array Slot) : Prop := lv.length = nL ∧ ls.size = nL ∧ lv_wf ls ∧ ∀ (i : Nat) (v : Value), lv[i]? = some (some v) → ls[i]? = some (.val (cv ad v))
def jQ (D : va_G) (cA : FieldType → ClassId) (A : Nat → Prop) (ad0 : List Nat) (Q : Option Value → AH → Prop) : Array Value → State → Outcome → State → Prop := fun _ st o t =>
  (∃ (v : Option Value) (hp : AH) (x : List Nat), o = .returned (v.map (cv (ad0 ++ x))) ∧ Q v hp ∧ (ad0 ++ x).length = hp.length ∧ va_P D clsL (conc cA (ad0 ++ x) hp) t.heap ∧ va_D A (conc cA (ad0 ++ x) hp) ∧ va_K D clsL (tysL cA) t) ∧ va_F A st t
/-- the machine at pc of method M, with locals lv, operands st and heap hp, comes to the method's end with Q -/
def J (M : MT) (d mc ms : Nat) (Q : Option Value → AH → Prop) (pc : Nat) (lv : List (Option Value)) (st : List Value) (hp : AH) (cs ss : Nat) : Prop :=
  ∀ (p : Program) (l : Launch) (e : Env) (s : State) (m : MethodId) (args : Array Value) (below : List Frame) (meth : Method) (c : Code) (D : va_G) (cA : FieldType → ClassId) (A : Nat → Prop) (ad0 x : List Nat) (H : Heap) (locs : List Loc) (ls : Array Slot),
    jE M p s m args meth c D cA A → (ad0 ++ x).length = hp.length → va_P D clsL (conc cA (ad0 ++ x) hp) H → va_D A (conc cA (ad0 ++ x) hp) → va_S A s.heap H locs → jL M.ml (ad0 ++ x) lv ls →
    W p l e (rmm d mc ms) s m args below meth c H locs cs ss (MQ below (jQ D cA A ad0 Q) args s mc ms A) (F0 m pc ls (st.map (cv (ad0 ++ x))))
/-- a method's contract at given arguments and heap -/
def Ct (M : MT) (d mc ms : Nat) (as : List Value) (hp : AH) (Q : Option Value → AH → Prop) : Prop :=
  ∀ (l : Launch) (D : va_G) (cA : FieldType → ClassId) (ad : List Nat) (sz : Nat), ad.length = hp.length →
    Met l M.y (mw M) (rmm d mc ms) (va_Pc (as.map (cv ad)) (fun U => U.heap.size = sz ∧ va_P D clsL (conc cA ad hp) U.heap ∧ va_K D clsL (tysL cA) U ∧ va_D (fun _ => True) (conc cA ad hp) ∧ xN U)) (jQ D cA (va_A (conc cA ad hp) sz) ad Q) mc ms (va_A (conc cA ad hp) sz)
/-! ===== locals ===== -/
def clr1 (lv : List (Option Value)) (i : Nat) : List (Option Value) := match i with
  | 0 => lv
  | j + 1 => match lv[j]? with
    | some (some w) => if w.category == 2 then lv.set j none else lv
    | _ => lv
def st1 (lv : List (Option Value)) (i : Nat) (v : Value) : List (Option Value) := (clr1 lv i).set i (some v)
def st2 (lv : List (Option Value)) (i : Nat) (v : Value) : List (Option Value) := ((clr1 lv i).set i (some v)).set (i + 1) none
def kl (ad : List Nat) (lv : List (Option Value)) : List (Nat × Value) := (List.range lv.length).filterMap (fun j => match lv[j]? with
  | some (some w) => some (j, cv ad w)
  | _ => none)
theorem kl_mem {ad : List Nat} {lv : List (Option Value)} {j : Nat} {w : Value} (h : lv[j]? = some (some w)) : (j, cv ad w) ∈ kl ad lv := by
  unfold kl
  refine List.mem_filterMap.mpr ⟨j, List.mem_range.mpr (List.getElem?_eq_some_iff.mp h).1, ?_⟩
  rw [h]
theorem kl_has {nL : Nat} {ad : List Nat} {lv : List (Option Value)} {ls : Array Slot} (h : jL nL ad lv ls) : lv_has ls nL (kl ad lv) := by
  refine ⟨h.2.1, h.2.2.1, fun q hq => ?_⟩
  unfold kl at hq
  obtain ⟨j, -, hj⟩ := List.mem_filterMap.mp hq
  cases h1 : lv[j]? with
  | none => rw [h1] at hj; cases hj
  | some o =>
    cases o with
    | none => rw [h1] at hj; cases hj
    | some w => rw [h1] at hj; cases hj; exact h.2.2.2 j w h1
theorem cv_cat (ad : List Nat) (v : Value) : (cv ad v).category = v.category := by cases v <;> rfl
theorem clr1_length (lv : List (Option Value)) (i : Nat) : (clr1 lv i).length = lv.length := by
  unfold clr1
  cases i with
  | zero => rfl
  | succ j =>
    simp only
    split
    · split
      · rw [List.length_set]
      · rfl
    · rfl
theorem clr1_get {lv : List (Option Value)} {i j : Nat} {w : Value} (h : (clr1 lv i)[j]? = some (some w)) : lv[j]? = some (some w) ∧ ¬ (j + 1 = i ∧ w.category = 2) := by
  unfold clr1 at h
  cases i with
  | zero => exact ⟨h, fun q => by omega⟩
  | succ k =>
    simp only at h
    split at h
    · rename_i w0 hw
      split at h
      · rename_i hc
        by_cases hjk : j = k
        · subst hjk
          rw [List.getElem?_set_self (List.getElem?_eq_some_iff.mp hw).1] at h
          cases h
        · rw [List.getElem?_set_ne (Ne.symm hjk)] at h
          exact ⟨h, fun q => by omega⟩
      · rename_i hc
        refine ⟨h, fun q => ?_⟩
        have : j = k := by omega
        subst this
        rw [hw] at h
        cases h
        exact hc (by rw [q.2]; rfl)
    · rename_i hw
      refine ⟨h, fun q => ?_⟩
      have : j = k := by omega
      subst this
      exact hw w h
theorem jL_st1 {nL : Nat} {ad : List Nat} {lv : List (Option Value)} {ls ls' : Array Slot} (h : jL nL ad lv ls) {i : Nat} {v : Value} (h' : lv_has ls' nL ((i, cv ad v) :: (kl ad lv).filter (fun q => !(q.1 == i) && !(q.1 + 1 == i && q.2.category == 2)))) : jL nL ad (st1 lv i v) ls' := by
  refine ⟨by unfold st1; rw [List.length_set, clr1_length]; exact h.1, h'.1, h'.2.1, fun j w hj => ?_⟩
  unfold st1 at hj
  by_cases hji : j = i
  · subst hji
    by_cases hl : j < (clr1 lv j).length
    · rw [List.getElem?_set_self hl] at hj
      cases hj
      exact h'.2.2 (j, cv ad v) List.mem_cons_self
    · rw [List.getElem?_eq_none (by rw [List.length_set]; omega)] at hj
      cases hj
  · rw [List.getElem?_set_ne (Ne.symm hji)] at hj
    obtain ⟨h1, h2⟩ := clr1_get hj
    refine h'.2.2 (j, cv ad w) (List.mem_cons_of_mem _ (List.mem_filter.mpr ⟨kl_mem h1, ?_⟩))
    simp only [cv_cat, Bool.and_eq_true, Bool.not_eq_true', beq_eq_false_iff_ne, ne_eq, hji, not_false_eq_true, true_and]
    rw [Bool.and_eq_false_iff]
    by_cases h3 : j + 1 = i
    · right; simp only [beq_eq_false_iff_ne, ne_eq]; exact fun q => h2 ⟨h3, q⟩
    · left; simp only [beq_eq_false_iff_ne, ne_eq]; exact h3
theorem jL_st2 {nL : Nat} {ad : List Nat} {lv : List (Option Value)} {ls ls' : Array Slot} (h : jL nL ad lv ls) {i : Nat} {v : Value} (h' : lv_has ls' nL ((i, cv ad v) :: (kl ad lv).filter (fun q => !(q.1 == i) && (!(q.1 == i + 1) && !(q.1 + 1 == i && q.2.category == 2))))) : jL nL ad (st2 lv i v) ls' := by
  refine ⟨by unfold st2; rw [List.length_set, List.length_set, clr1_length]; exact h.1, h'.1, h'.2.1, fun j w hj => ?_⟩
  unfold st2 at hj
  by_cases hj1 : j = i + 1
  · subst hj1
    by_cases hl : i + 1 < ((clr1 lv i).set i (some v)).length
    · rw [List.getElem?_set_self hl] at hj
      cases hj
    · rw [List.getElem?_eq_none (by rw [List.length_set]; omega)] at hj
      cases hj
  · rw [List.getElem?_set_ne (Ne.symm hj1)] at hj
    by_cases hji : j = i
    · subst hji
      by_cases hl : j < (clr1 lv j).length
      · rw [List.getElem?_set_self hl] at hj
        cases hj
        exact h'.2.2 (j, cv ad v) List.mem_cons_self
      · rw [List.getElem?_eq_none (by rw [List.length_set]; omega)] at hj
        cases hj
    · rw [List.getElem?_set_ne (Ne.symm hji)] at hj
      obtain ⟨h1, h2⟩ := clr1_get hj
      refine h'.2.2 (j, cv ad w) (List.mem_cons_of_mem _ (List.mem_filter.mpr ⟨kl_mem h1, ?_⟩))
      simp only [cv_cat, Bool.and_eq_true, Bool.not_eq_true', beq_eq_false_iff_ne, ne_eq, hji, hj1, not_false_eq_true, true_and]
      rw [Bool.and_eq_false_iff]
      by_cases h3 : j + 1 = i
      · right; simp only [beq_eq_false_iff_ne, ne_eq]; exact fun q => h2 ⟨h3, q⟩
      · left; simp only [beq_eq_false_iff_ne, ne_eq]; exact h3
def entL (as : List Value) (n : Nat) : List (Option Value) := (List.range n).map (fun i => (lv_args 0 as).lookup i)
theorem lookup_mem {l : List (Nat × Value)} {i : Nat} {v : Value} (h : l.lookup i = some v) : (i, v) ∈ l := by
  induction l with
  | nil => cases h
  | cons q l ih =>
    obtain ⟨a, b⟩ := q
    rw [List.lookup_cons] at h
    split at h
    · rename_i hb
      have : i = a := by simpa using hb
      subst this
      cases h
      exact List.mem_cons_self
    · exact List.mem_cons_of_mem _ (ih h)
theorem lv_args_map (ad : List Nat) : ∀ (as : List Value) (i : Nat), lv_args i (as.map (cv ad)) = (lv_args i as).map (fun q => (q.1, cv ad q.2))
  | [], _ => rfl
  | v :: as, i => by
    simp only [List.map_cons, lv_args, cv_cat]
    rw [lv_args_map ad as]
theorem jL_ent {ad : List Nat} {as : List Value} {n : Nat} (h : (lg_sl (as.map (cv ad))).length ≤ n) : jL n ad (entL as n) ((lg_sl (as.map (cv ad)) ++ List.replicate (n - (lg_sl (as.map (cv ad))).length) Slot.unset).toArray) := by
  have h0 := lv_entry (as.map (cv ad)) h
  refine ⟨by unfold entL; simp, h0.1, h0.2.1, fun i v hi => ?_⟩
  unfold entL at hi
  rw [List.getElem?_map] at hi
  cases hr : (List.range n)[i]? with
  | none => rw [hr] at hi; cases hi
  | some j =>
    rw [hr] at hi
    have hij : j = i := by
      have := List.getElem?_eq_some_iff.mp hr
      obtain ⟨h1, h2⟩ := this
      rw [List.getElem_range] at h2
      exact h2.symm
    subst hij
    simp only [Option.map_some, Option.some.injEq] at hi
    refine h0.2.2 (j, cv ad v) ?_
    rw [lv_args_map]
    exact List.mem_map.mpr ⟨(j, v), lookup_mem hi, rfl⟩
end
section
/-! ===== steps that touch neither heap nor calls ===== -/
def sto1 (lv : List (Option Value)) (i : Nat) (v : Value) : Option (List (Option Value)) := if i < lv.length then some (st1 lv i v) else none
def sto2 (lv : List (Option Value)) (i : Nat) (v : Value) : Option (List (Option Value)) := if i + 1 < lv.length then some (st2 lv i v) else none
def ldI (lv : List (Option Value)) (i : Nat) : Option Value := match lv[i]? with
  | some (some (.int x)) => some (.int x)
  | _ => none
def ldL (lv : List (Option Value)) (i : Nat) : Option Value := match lv[i]? with
  | some (some (.long x)) => some (.long x)
  | _ => none
def ldA (lv : List (Option Value)) (i : Nat) : Option Value := match lv[i]? with
  | some (some (.ref x)) => some (.ref x)
  | _ => none
def tgt (pc : Nat) (off : Int) : Option Nat := if 0 ≤ (pc : Int) + off then some ((pc : Int) + off).toNat else none
theorem tgt_spec {pc t : Nat} {off : Int} (h : tgt pc off = some t) : (pc : Int) + off = (t : Int) := by
  unfold tgt at h
  split at h
  · cases h; rename_i h1; exact (Int.toNat_of_nonneg h1).symm
  · cases h
def sA (i : Instr) (pc : Nat) (lv : List (Option Value)) (st : List Value) : Option (Nat × List (Option Value) × List Value) := match i with
  | .iconst n => some (pc + 1, lv, .int (Int32.ofInt n) :: st)
  | .bipush n => some (pc + 2, lv, .int (Int8.ofInt n).toInt32 :: st)
  | .sipush n => some (pc + 3, lv, .int (Int16.ofInt n).toInt32 :: st)
  | .lconst n => some (pc + 1, lv, .long (Int64.ofNat (n : Nat)) :: st)
  | .iload_n k => (ldI lv k).map (fun v => (pc + 1, lv, v :: st))
  | .iload k => (ldI lv k).map (fun v => (pc + 2, lv, v :: st))
  | .lload_n k => (ldL lv k).map (fun v => (pc + 1, lv, v :: st))
  | .lload k => (ldL lv k).map (fun v => (pc + 2, lv, v :: st))
  | .aload_n k => (ldA lv k).map (fun v => (pc + 1, lv, v :: st))
  | .aload k => (ldA lv k).map (fun v => (pc + 2, lv, v :: st))
  | .istore_n k => match st with
    | .int x :: r => (sto1 lv k (.int x)).map (fun lv' => (pc + 1, lv', r))
    | _ => none
  | .istore k => match st with
    | .int x :: r => (sto1 lv k (.int x)).map (fun lv' => (pc + 2, lv', r))
    | _ => none
  | .lstore_n k => match st with
    | .long x :: r => (sto2 lv k (.long x)).map (fun lv' => (pc + 1, lv', r))
    | _ => none
  | .lstore k => match st with
    | .long x :: r => (sto2 lv k (.long x)).map (fun lv' => (pc + 2, lv', r))
    | _ => none
  | .astore_n k => match st with
    | .ref x :: r => (sto1 lv k (.ref x)).map (fun lv' => (pc + 1, lv', r))
    | _ => none
  | .astore k => match st with
    | .ref x :: r => (sto1 lv k (.ref x)).map (fun lv' => (pc + 2, lv', r))
    | _ => none
  | .iinc k n => match lv[k]? with
    | some (some (.int x)) => (sto1 lv k (.int (x + Int32.ofInt n))).map (fun lv' => (pc + 3, lv', st))
    | _ => none
  | .iadd => match st with
    | .int y :: .int x :: r => some (pc + 1, lv, .int (x + y) :: r)
    | _ => none
  | .isub => match st with
    | .int y :: .int x :: r => some (pc + 1, lv, .int (x - y) :: r)
    | _ => none
  | .imul => match st with
    | .int y :: .int x :: r => some (pc + 1, lv, .int (x * y) :: r)
    | _ => none
  | .iand => match st with
    | .int y :: .int x :: r => some (pc + 1, lv, .int (x &&& y) :: r)
    | _ => none
  | .ior => match st with
    | .int y :: .int x :: r => some (pc + 1, lv, .int (x ||| y) :: r)
    | _ => none
  | .ixor => match st with
    | .int y :: .int x :: r => some (pc + 1, lv, .int (x ^^^ y) :: r)
    | _ => none
  | .ishl => match st with
    | .int y :: .int x :: r => some (pc + 1, lv, .int (x <<< (y &&& 31)) :: r)
    | _ => none
  | .ishr => match st with
    | .int y :: .int x :: r => some (pc + 1, lv, .int (x >>> (y &&& 31)) :: r)
    | _ => none
  | .iushr => match st with
    | .int y :: .int x :: r => some (pc + 1, lv, .int (x.toUInt32 >>> (y.toUInt32 &&& Int32.toUInt32 31)).toInt32 :: r)
    | _ => none
  | .ineg => match st with
    | .int x :: r => some (pc + 1, lv, .int (-x) :: r)
    | _ => none
  | .ladd => match st with
    | .long y :: .long x :: r => some (pc + 1, lv, .long (x + y) :: r)
    | _ => none
  | .lsub => match st with
    | .long y :: .long x :: r => some (pc + 1, lv, .long (x - y) :: r)
    | _ => none
  | .lmul => match st with
    | .long y :: .long x :: r => some (pc + 1, lv, .long (x * y) :: r)
    | _ => none
  | .land => match st with
    | .long y :: .long x :: r => some (pc + 1, lv, .long (x &&& y) :: r)
    | _ => none
  | .lshl => match st with
    | .int y :: .long x :: r => some (pc + 1, lv, .long (x <<< (y.toInt64 &&& 63)) :: r)
    | _ => none
  | .lshr => match st with
    | .int y :: .long x :: r => some (pc + 1, lv, .long (x >>> (y.toInt64 &&& 63)) :: r)
    | _ => none
  | .lcmp => match st with
    | .long y :: .long x :: r => some (pc + 1, lv, .int (lg_cmp x y) :: r)
    | _ => none
  | .i2l => match st with
    | .int x :: r => some (pc + 1, lv, .long x.toInt64 :: r)
    | _ => none
  | .i2b => match st with
    | .int x :: r => some (pc + 1, lv, .int x.toInt8.toInt32 :: r)
    | _ => none
  | .i2s => match st with
    | .int x :: r => some (pc + 1, lv, .int x.toInt16.toInt32 :: r)
    | _ => none
  | .dup => match st with
    | v :: r => if v.category == 1 then some (pc + 1, lv, v :: v :: r) else none
    | _ => none
  | .dup2 => match st with
    | v :: w :: r => if v.category == 1 && w.category == 1 then some (pc + 1, lv, v :: w :: v :: w :: r) else none
    | _ => none
  | .pop => match st with
    | v :: r => if v.category == 1 then some (pc + 1, lv, r) else none
    | _ => none
  | .goto off => (tgt pc off).map (fun t => (t, lv, st))
  | _ => none
def sN (i : Instr) : Nat := match i with
  | .bipush _ => 2
  | .iload _ => 2
  | .lload _ => 2
  | .aload _ => 2
  | .istore _ => 2
  | .lstore _ => 2
  | .astore _ => 2
  | .sipush _ => 3
  | .iinc _ _ => 3
  | .goto _ => 3
  | _ => 1
theorem ldI_spec {lv : List (Option Value)} {i : Nat} {v : Value} (h : ldI lv i = some v) : ∃ x, v = .int x ∧ lv[i]? = some (some (.int x)) := by
  unfold ldI at h
  split at h
  · cases h; rename_i x hx; exact ⟨x, rfl, hx⟩
  · cases h
theorem ldL_spec {lv : List (Option Value)} {i : Nat} {v : Value} (h : ldL lv i = some v) : ∃ x, v = .long x ∧ lv[i]? = some (some (.long x)) := by
  unfold ldL at h
  split at h
  · cases h; rename_i x hx; exact ⟨x, rfl, hx⟩
  · cases h
theorem ldA_spec {lv : List (Option Value)} {i : Nat} {v : Value} (h : ldA lv i = some v) : ∃ x, v = .ref x ∧ lv[i]? = some (some (.ref x)) := by
  unfold ldA at h
  split at h
  · cases h; rename_i x hx; exact ⟨x, rfl, hx⟩
  · cases h
theorem sto1_spec {lv lv' : List (Option Value)} {i : Nat} {v : Value} (h : sto1 lv i v = some lv') : i < lv.length ∧ lv' = st1 lv i v := by
  unfold sto1 at h
  split at h
  · cases h; rename_i h1; exact ⟨h1, rfl⟩
  · cases h
theorem sto2_spec {lv lv' : List (Option Value)} {i : Nat} {v : Value} (h : sto2 lv i v = some lv') : i + 1 < lv.length ∧ lv' = st2 lv i v := by
  unfold sto2 at h
  split at h
  · cases h; rename_i h1; exact ⟨h1, rfl⟩
  · cases h
section JS
variable {M : MT} {d mc ms : Nat} {Q : Option Value → AH → Prop} {pc pc' : Nat} {lv lv' : List (Option Value)} {st st' : List Value} {hp : AH} {cs ss : Nat} {i : Instr}
theorem J_s (hd : decode M.by pc = .ok (i, sN i)) (hs : sA i pc lv st = some (pc', lv', st')) (k : J M d mc ms Q pc' lv' st' hp cs ss) : J M d mc ms Q pc lv st hp cs ss := by
  intro p l e s m args below meth c D cA A ad0 x H locs ls hE hl hP hD hS hL
  have hx := hE.1
  have hb := hE.2.1
  have K := fun ls' (hL' : jL M.ml (ad0 ++ x) lv' ls') => k p l e s m args below meth c D cA A ad0 x H locs ls' hE hl hP hD hS hL'
  cases i with
  | iconst n => cases hs; exact lv_iconst hx hb hd rfl (K ls hL)
  | bipush n => cases hs; exact lv_bipush hx hb hd rfl (K ls hL)
  | sipush n => cases hs; exact lv_sipush hx hb hd rfl (K ls hL)
  | lconst n => cases hs; exact lv_lconst hx hb hd rfl (K ls hL)
  | iload_n k =>
    obtain ⟨v, hv, he⟩ := Option.map_eq_some_iff.mp hs
    cases he
    obtain ⟨y, rfl, hy⟩ := ldI_spec hv
    exact lv_iload_n hx hb hd rfl (hL.2.2.2 _ _ hy) (K ls hL)
  | iload k =>
    obtain ⟨v, hv, he⟩ := Option.map_eq_some_iff.mp hs
    cases he
    obtain ⟨y, rfl, hy⟩ := ldI_spec hv
    exact lv_iload hx hb hd (hL.2.2.2 _ _ hy) (K ls hL)
  | lload_n k =>
    obtain ⟨v, hv, he⟩ := Option.map_eq_some_iff.mp hs
    cases he
    obtain ⟨y, rfl, hy⟩ := ldL_spec hv
    exact lv_lload_n hx hb hd rfl (hL.2.2.2 _ _ hy) (K ls hL)
  | lload k =>
    obtain ⟨v, hv, he⟩ := Option.map_eq_some_iff.mp hs
    cases he
    obtain ⟨y, rfl, hy⟩ := ldL_spec hv
    exact lv_lload hx hb hd (hL.2.2.2 _ _ hy) (K ls hL)
  | aload_n k =>
    obtain ⟨v, hv, he⟩ := Option.map_eq_some_iff.mp hs
    cases he
    obtain ⟨y, rfl, hy⟩ := ldA_spec hv
    exact lv_aload_n hx hb hd rfl (hL.2.2.2 _ _ hy) (K ls hL)
  | aload k =>
    obtain ⟨v, hv, he⟩ := Option.map_eq_some_iff.mp hs
    cases he
    obtain ⟨y, rfl, hy⟩ := ldA_spec hv
    exact lv_aload hx hb hd (hL.2.2.2 _ _ hy) (K ls hL)
  | istore_n k =>
    simp only [sA] at hs
    split at hs
    · obtain ⟨lv1, hv, he⟩ := Option.map_eq_some_iff.mp hs
      cases he
      obtain ⟨h1, rfl⟩ := sto1_spec hv
      exact lv_istore_n hx hb hd rfl (kl_has hL) (by rw [← hL.1]; exact h1) rfl (fun ls' h' => K ls' (jL_st1 hL h'))
    · cases hs
  | istore k =>
    simp only [sA] at hs
    split at hs
    · obtain ⟨lv1, hv, he⟩ := Option.map_eq_some_iff.mp hs
      cases he
      obtain ⟨h1, rfl⟩ := sto1_spec hv
      exact lv_istore hx hb hd (kl_has hL) (by rw [← hL.1]; exact h1) rfl (fun ls' h' => K ls' (jL_st1 hL h'))
    · cases hs
  | astore_n k =>
    simp only [sA] at hs
    split at hs
    · obtain ⟨lv1, hv, he⟩ := Option.map_eq_some_iff.mp hs
      cases he
      obtain ⟨h1, rfl⟩ := sto1_spec hv
      exact lv_astore_n hx hb hd rfl (kl_has hL) (by rw [← hL.1]; exact h1) rfl (fun ls' h' => K ls' (jL_st1 hL h'))
    · cases hs
  | astore k =>
    simp only [sA] at hs
    split at hs
    · obtain ⟨lv1, hv, he⟩ := Option.map_eq_some_iff.mp hs
      cases he
      obtain ⟨h1, rfl⟩ := sto1_spec hv
      exact lv_astore hx hb hd (kl_has hL) (by rw [← hL.1]; exact h1) rfl (fun ls' h' => K ls' (jL_st1 hL h'))
    · cases hs
  | lstore_n k =>
    simp only [sA] at hs
    split at hs
    · obtain ⟨lv1, hv, he⟩ := Option.map_eq_some_iff.mp hs
      cases he
      obtain ⟨h1, rfl⟩ := sto2_spec hv
      exact lv_lstore_n hx hb hd rfl (kl_has hL) (by rw [← hL.1]; exact h1) rfl (fun ls' h' => K ls' (jL_st2 hL h'))
    · cases hs
  | lstore k =>
    simp only [sA] at hs
    split at hs
    · obtain ⟨lv1, hv, he⟩ := Option.map_eq_some_iff.mp hs
      cases he
      obtain ⟨h1, rfl⟩ := sto2_spec hv
      exact lv_lstore hx hb hd (kl_has hL) (by rw [← hL.1]; exact h1) rfl (fun ls' h' => K ls' (jL_st2 hL h'))
    · cases hs
  | iinc k n =>
    simp only [sA] at hs
    split at hs
    · rename_i y hy
      obtain ⟨lv1, hv, he⟩ := Option.map_eq_some_iff.mp hs
      cases he
      obtain ⟨h1, rfl⟩ := sto1_spec hv
      obtain ⟨q, hq⟩ := List.getElem?_of_mem (kl_mem (ad := ad0 ++ x) hy)
      exact lv_iinc hx hb hd (kl_has hL) hq rfl (by rw [← hL.1]; exact h1) rfl (fun ls' h' => K ls' (jL_st1 hL h'))
    · cases hs
  | iadd => simp only [sA] at hs; split at hs <;> cases hs; exact lv_iadd hx hb hd (K ls hL)
  | isub => simp only [sA] at hs; split at hs <;> cases hs; exact lv_isub hx hb hd (K ls hL)
  | imul => simp only [sA] at hs; split at hs <;> cases hs; exact lv_imul hx hb hd (K ls hL)
  | iand => simp only [sA] at hs; split at hs <;> cases hs; exact lv_iand hx hb hd (K ls hL)
  | ior => simp only [sA] at hs; split at hs <;> cases hs; exact lv_ior hx hb hd (K ls hL)
  | ixor => simp only [sA] at hs; split at hs <;> cases hs; exact lv_ixor hx hb hd (K ls hL)
  | ishl => simp only [sA] at hs; split at hs <;> cases hs; exact lv_ishl hx hb hd (K ls hL)
  | ishr => simp only [sA] at hs; split at hs <;> cases hs; exact lv_ishr hx hb hd (K ls hL)
  | iushr => simp only [sA] at hs; split at hs <;> cases hs; exact lv_iushr hx hb hd rfl (K ls hL)
  | ineg => simp only [sA] at hs; split at hs <;> cases hs; exact lv_ineg hx hb hd (K ls hL)
  | ladd => simp only [sA] at hs; split at hs <;> cases hs; exact lv_ladd hx hb hd (K ls hL)
  | lsub => simp only [sA] at hs; split at hs <;> cases hs; exact lv_lsub hx hb hd (K ls hL)
  | lmul => simp only [sA] at hs; split at hs <;> cases hs; exact lv_lmul hx hb hd (K ls hL)
  | land => simp only [sA] at hs; split at hs <;> cases hs; exact lv_land hx hb hd (K ls hL)
  | lshl => simp only [sA] at hs; split at hs <;> cases hs; exact lv_lshl hx hb hd rfl (K ls hL)
  | lshr => simp only [sA] at hs; split at hs <;> cases hs; exact lv_lshr hx hb hd rfl (K ls hL)
  | lcmp => simp only [sA] at hs; split at hs <;> cases hs; exact W.lcmp hx hb hd (K ls hL)
  | i2l => simp only [sA] at hs; split at hs <;> cases hs; exact lv_i2l hx hb hd rfl (K ls hL)
  | i2b => simp only [sA] at hs; split at hs <;> cases hs; exact lv_i2b hx hb hd rfl (K ls hL)
  | i2s => simp only [sA] at hs; split at hs <;> cases hs; exact lv_i2s hx hb hd rfl (K ls hL)
  | dup =>
    simp only [sA] at hs
    split at hs
    · split at hs
      · cases hs; rename_i hc; exact lv_dup hx hb hd (by rw [cv_cat]; simpa using hc) (K ls hL)
      · cases hs
    · cases hs
  | dup2 =>
    simp only [sA] at hs
    split at hs
    · split at hs
      · cases hs; rename_i hc
        rw [Bool.and_eq_true] at hc
        exact lv_dup2_11 hx hb hd (by rw [cv_cat]; simpa using hc.1) (by rw [cv_cat]; simpa using hc.2) (K ls hL)
      · cases hs
    · cases hs
  | pop =>
    simp only [sA] at hs
    split at hs
    · split at hs
      · cases hs; rename_i v hc; exact lv_pop (va := cv (ad0 ++ x) v) hx hb hd (by rw [cv_cat]; simpa using hc) (K ls hL)
      · cases hs
    · cases hs
  | goto off =>
    obtain ⟨t, ht, he⟩ := Option.map_eq_some_iff.mp hs
    cases he
    exact lv_goto hx hb hd (tgt_spec ht) (K ls hL)
  | _ => cases hs
/-! branches -/
def cmpB (c : Jvm.ClassFile.Cond) (x y : Int32) : Bool := match c with
  | .eq => decide (x = y)
  | .ne => decide (¬ x = y)
  | .lt => decide (x < y)
  | .ge => decide (y ≤ x)
  | .gt => decide (y < x)
  | .le => decide (x ≤ y)
def bA (i : Instr) (pc : Nat) (st : List Value) : Option (Bool × Nat × List Value) := match i with
  | .ifCond c off => match st with
    | .int x :: r => (tgt pc off).map (fun t => (cmpB c x 0, t, r))
    | _ => none
  | .if_icmp c off => match st with
    | .int y :: .int x :: r => (tgt pc off).map (fun t => (cmpB c x y, t, r))
    | _ => none
  | _ => none
theorem J_b {b : Bool} {t : Nat} (hd : decode M.by pc = .ok (i, 3)) (hs : bA i pc st = some (b, t, st')) (kt : b = true → J M d mc ms Q t lv st' hp cs ss) (kf : b = false → J M d mc ms Q (pc + 3) lv st' hp cs ss) : J M d mc ms Q pc lv st hp cs ss := by
  intro p l e s m args below meth c D cA A ad0 x H locs ls hE hl hP hD hS hL
  have hx := hE.1
  have hb := hE.2.1
  have Kt := fun h => kt h p l e s m args below meth c D cA A ad0 x H locs ls hE hl hP hD hS hL
  have Kf := fun h => kf h p l e s m args below meth c D cA A ad0 x H locs ls hE hl hP hD hS hL
  cases i with
  | ifCond cd off =>
    simp only [bA] at hs
    split at hs
    · obtain ⟨t1, ht, he⟩ := Option.map_eq_some_iff.mp hs
      cases he
      have ht := tgt_spec ht
      cases cd
      · exact lv_if_eq hx hb hd ht (fun h => Kt (decide_eq_true h)) (fun h => Kf (decide_eq_false h))
      · exact lv_if_ne hx hb hd ht (fun h => Kt (decide_eq_true h)) (fun h => Kf (decide_eq_false (fun q => q h)))
      · exact lv_if_lt hx hb hd ht (fun h => Kt (decide_eq_true h)) (fun h => Kf (decide_eq_false h))
      · exact lv_if_ge hx hb hd ht (fun h => Kt (decide_eq_true h)) (fun h => Kf (decide_eq_false h))
      · exact lv_if_gt hx hb hd ht (fun h => Kt (decide_eq_true h)) (fun h => Kf (decide_eq_false h))
      · exact lv_if_le hx hb hd ht (fun h => Kt (decide_eq_true h)) (fun h => Kf (decide_eq_false h))
    · cases hs
  | if_icmp cd off =>
    simp only [bA] at hs
    split at hs
    · obtain ⟨t1, ht, he⟩ := Option.map_eq_some_iff.mp hs
      cases he
      have ht := tgt_spec ht
      cases cd
      · exact lv_icmp_eq hx hb hd ht (fun h => Kt (decide_eq_true h)) (fun h => Kf (decide_eq_false h))
      · exact lv_icmp_ne hx hb hd ht (fun h => Kt (decide_eq_true h)) (fun h => Kf (decide_eq_false (fun q => q h)))
      · exact lv_icmp_lt hx hb hd ht (fun h => Kt (decide_eq_true h)) (fun h => Kf (decide_eq_false h))
      · exact lv_icmp_ge hx hb hd ht (fun h => Kt (decide_eq_true h)) (fun h => Kf (decide_eq_false h))
      · exact lv_icmp_gt hx hb hd ht (fun h => Kt (decide_eq_true h)) (fun h => Kf (decide_eq_false h))
      · exact lv_icmp_le hx hb hd ht (fun h => Kt (decide_eq_true h)) (fun h => Kf (decide_eq_false h))
    · cases hs
  | _ => cases hs
end JS
end
section
/-! ===== steps over the heap ===== -/
def tyL : List (Nat → FieldType) := [tyX0, tyX1, tyX2, tyX3, tyX4, tyX5, tyX6, tyX7]
theorem clsL_ok {ci : Nat} {C : String} {T : u_T} {N : Nat} (h : clsL[ci]? = some (C, T, N)) : (∀ w ∈ u_ws C T N, w ∈ tb) ∧ (∀ a, a < N → ∀ b, b < N → a ≠ b → (T a).2.1 ≠ (T b).2.1) ∧ ∃ ty : Nat → FieldType, tyL[ci]? = some ty ∧ ∀ k, k < N → parseFieldDescriptor (T k).2.2.1 = some (ty k) := by
  match ci, h with
  | 0, h => cases h; exact ⟨inT0, nmX0, _, rfl, tyX0_ok⟩
  | 1, h => cases h; exact ⟨inT1, nmX1, _, rfl, tyX1_ok⟩
  | 2, h => cases h; exact ⟨inT2, nmX2, _, rfl, tyX2_ok⟩
  | 3, h => cases h; exact ⟨inT3, nmX3, _, rfl, tyX3_ok⟩
  | 4, h => cases h; exact ⟨inT4, nmX4, _, rfl, tyX4_ok⟩
  | 5, h => cases h; exact ⟨inT5, nmX5, _, rfl, tyX5_ok⟩
  | 6, h => cases h; exact ⟨inT6, nmX6, _, rfl, tyX6_ok⟩
  | 7, h => cases h; exact ⟨inT7, nmX7, _, rfl, tyX7_ok⟩
  | n + 8, h => simp [clsL] at h
def fOk (cn idx ci sl : Nat) : Prop := ∃ w, fW cn idx ci sl = some w ∧ w ∈ tb
theorem fOk_spec {cn idx ci sl : Nat} (h : fOk cn idx ci sl) : ∃ C T N, clsL[ci]? = some (C, T, N) ∧ sl < N ∧ Cond.fieldLink (cnm cn) idx (T sl).1 (T sl).2.1 (T sl).2.2.1 ∈ tb := by
  obtain ⟨w, h1, h2⟩ := h
  unfold fW at h1
  split at h1
  · rename_i C T N hc
    split at h1
    · cases h1; rename_i hs; exact ⟨C, T, N, hc, hs, h2⟩
    · cases h1
  · cases h1
def fTy (ci sl : Nat) : FieldType := match tyL[ci]? with
  | some t => t sl
  | none => .int
def fFin (ci sl : Nat) : Bool := match clsL[ci]? with
  | some (_, T, _) => (T sl).2.2.2
  | none => false
/-- what a field may hold: an int as it is, a boolean 0 or 1, a reference -/
def fHold (ty : FieldType) (v : Value) : Bool := match ty, v with
  | .int, .int _ => true
  | .boolean, .int x => decide (vp_nar .boolean x = x) && fits .boolean (.int x)
  | .object _, .ref _ => true
  | .array _, .ref _ => true
  | _, _ => false
theorem fHold_cv {ty : FieldType} {v : Value} (h : fHold ty v = true) (ad : List Nat) : narrow ty (cv ad v) = cv ad v ∧ fits ty (cv ad v) = true := by
  match ty, v, h with
  | .int, .int x, _ => exact ⟨rfl, rfl⟩
  | .boolean, .int x, h =>
    simp only [fHold, Bool.and_eq_true, decide_eq_true_eq] at h
    refine ⟨?_, h.2⟩
    have h1 := h.1
    simp only [vp_nar] at h1
    show narrow .boolean (.int x) = .int x
    cases hn : narrow .boolean (.int x) with
    | int y => rw [hn] at h1; simp only at h1; rw [h1]
    | _ => simp [narrow] at hn
  | .object _, .ref _, _ => exact ⟨rfl, rfl⟩
  | .array _, .ref _, _ => exact ⟨rfl, rfl⟩
section JH
variable {M : MT} {d mc ms : Nat} {Q : Option Value → AH → Prop} {pc : Nat} {lv : List (Option Value)} {st : List Value} {hp : AH} {cs ss : Nat}
theorem J_get {idx ci sl k : Nat} {fs : List Value} {v : Value} (hd : decode M.by pc = .ok (.getfield idx, 3)) (hf : fOk M.cn idx ci sl) (hc : hp[k]? = some (.inr (.inr (ci, fs)))) (hv : fs[sl]? = some v) (kk : J M d mc ms Q (pc + 3) lv (v :: st) hp cs ss) : J M d mc ms Q pc lv (.ref k :: st) hp cs ss := by
  intro p l e s m args below meth c D cA A ad0 x H locs ls hE hl hP hD hS hL
  have K := kk p l e s m args below meth c D cA A ad0 x H locs ls hE hl hP hD hS hL
  obtain ⟨hx, hb, hml, hr, hlk, hown, hts, hK, hA, hnm⟩ := hE
  obtain ⟨C, T, N, h1, h2, h3⟩ := fOk_spec hf
  obtain ⟨hin, -, -⟩ := clsL_ok h1
  exact va_get hx hb hts hin hown hK hP k (conc_get hl hc) h1 sl h2 (hts _ h3) (fun _ h9 => h9) (by rw [List.getElem?_map, hv]; rfl) hd K
theorem J_put {idx ci sl k : Nat} {fs : List Value} {v : Value} (hd : decode M.by pc = .ok (.putfield idx, 3)) (hf : fOk M.cn idx ci sl) (hc : hp[k]? = some (.inr (.inr (ci, fs)))) (hsl : sl < fs.length) (hfin : fFin ci sl = false) (hh : fHold (fTy ci sl) v = true) (kk : J M d mc ms Q (pc + 3) lv st (hp.set k (.inr (.inr (ci, fs.set sl v)))) cs ss) : J M d mc ms Q pc lv (v :: .ref k :: st) hp cs ss := by
  intro p l e s m args below meth c D cA A ad0 x H locs ls hE hl hP hD hS hL
  have hE0 := hE
  obtain ⟨hx, hb, hml, hr, hlk, hown, hts, hK, hA, hnm⟩ := hE
  obtain ⟨C, T, N, h1, h2, h3⟩ := fOk_spec hf
  obtain ⟨hin, hne, ty, ht1, hty⟩ := clsL_ok h1
  have hT : fTy ci sl = ty sl := by unfold fTy; rw [ht1]
  have hF : (T sl).2.2.2 = false := by unfold fFin at hfin; rw [h1] at hfin; exact hfin
  rw [hT] at hh
  obtain ⟨hn, hfit⟩ := fHold_cv hh (ad0 ++ x)
  refine va_put hx hb hts hin ty hty hne hown hK hP hD hS k (conc_get hl hc) h1 sl h2 (hts _ h3) (fun _ h9 => h9) hF (hty sl h2) hn hfit (by rw [List.length_map]; exact hsl) hd (fun H1 locs1 hP1 hD1 hS1 => ?_)
  have e : (conc cA (ad0 ++ x) hp).set k ((ad0 ++ x).getD k 0, .inr (ci, (fs.map (cv (ad0 ++ x))).set sl (cv (ad0 ++ x) v))) = conc cA (ad0 ++ x) (hp.set k (.inr (.inr (ci, fs.set sl v)))) := by
    rw [← conc_set hl hc]
    simp only [jC, List.map_set]
  rw [e] at hP1 hD1
  exact kk p l _ s m args below meth c D cA A ad0 x H1 locs1 ls hE0 (by rw [List.length_set]; exact hl) hP1 hD1 hS1 hL
theorem J_putF {idx ci sl k : Nat} {fs : List Value} {v : Value} (hd : decode M.by pc = .ok (.putfield idx, 3)) (hf : fOk M.cn idx ci sl) (hc : hp[k]? = some (.inr (.inr (ci, fs)))) (hsl : sl < fs.length) (hfin : fFin ci sl = true) (hin2 : M.y.name = "<init>") (hdecl : ∀ C T N, clsL[ci]? = some (C, T, N) → (T sl).1 = cnm M.cn) (hh : fHold (fTy ci sl) v = true) (kk : J M d mc ms Q (pc + 3) lv st (hp.set k (.inr (.inr (ci, fs.set sl v)))) cs ss) : J M d mc ms Q pc lv (v :: .ref k :: st) hp cs ss := by
  intro p l e s m args below meth c D cA A ad0 x H locs ls hE hl hP hD hS hL
  have hE0 := hE
  obtain ⟨hx, hb, hml, hr, hlk, hown, hts, hK, hA, hnm⟩ := hE
  obtain ⟨C, T, N, h1, h2, h3⟩ := fOk_spec hf
  obtain ⟨hin, hne, ty, ht1, hty⟩ := clsL_ok h1
  have hT : fTy ci sl = ty sl := by unfold fTy; rw [ht1]
  have hF : (T sl).2.2.2 = true := by unfold fFin at hfin; rw [h1] at hfin; exact hfin
  rw [hT] at hh
  obtain ⟨hn, hfit⟩ := fHold_cv hh (ad0 ++ x)
  refine va_putF hx hb hts hin ty hty hne hown hK hP hD hS k (conc_get hl hc) h1 sl h2 (hts _ h3) (fun _ h9 => h9) hF (hnm.1.trans hin2) (hdecl C T N h1) (hty sl h2) hn hfit (by rw [List.length_map]; exact hsl) hd (fun H1 locs1 hP1 hD1 hS1 => ?_)
  have e : (conc cA (ad0 ++ x) hp).set k ((ad0 ++ x).getD k 0, .inr (ci, (fs.map (cv (ad0 ++ x))).set sl (cv (ad0 ++ x) v))) = conc cA (ad0 ++ x) (hp.set k (.inr (.inr (ci, fs.set sl v)))) := by
    rw [← conc_set hl hc]
    simp only [jC, List.map_set]
  rw [e] at hP1 hD1
  exact kk p l _ s m args below meth c D cA A ad0 x H1 locs1 ls hE0 (by rw [List.length_set]; exact hl) hP1 hD1 hS1 hL
theorem upd_getD {xs : List Int32} {n : Nat} {y : Int32} (h : n < xs.length) : (upd (fun j => xs.getD j 0) n y) = (fun j => (xs.set n y).getD j 0) := by
  funext j
  rw [List.getD_eq_getElem?_getD]
  by_cases hj : j = n
  · subst hj
    rw [List.getElem?_set_self h]
    simp [upd]
  · rw [List.getElem?_set_ne (Ne.symm hj), ← List.getD_eq_getElem?_getD]
    simp [upd, hj]
theorem J_ald {k : Nat} {xs : List Int32} {i : Int32} (hd : decode M.by pc = .ok (.iaload, 1)) (hc : hp[k]? = some (.inl (.int, xs))) (hi : vp_in i xs.length) (kk : J M d mc ms Q (pc + 1) lv (.int (xs.getD i.toNatClampNeg 0) :: st) hp cs ss) : J M d mc ms Q pc lv (.int i :: .ref k :: st) hp cs ss := by
  intro p l e s m args below meth c D cA A ad0 x H locs ls hE hl hP hD hS hL
  have K := kk p l e s m args below meth c D cA A ad0 x H locs ls hE hl hP hD hS hL
  obtain ⟨hx, hb, hml, hr, hlk, hown, hts, hK, hA, hnm⟩ := hE
  exact va_iald hx hb hK hP k 0 (conc_get hl hc) rfl hi hd K
theorem J_ast {k : Nat} {xs : List Int32} {i y : Int32} (hd : decode M.by pc = .ok (.iastore, 1)) (hc : hp[k]? = some (.inl (.int, xs))) (hi : vp_in i xs.length) (kk : J M d mc ms Q (pc + 1) lv st (hp.set k (.inl (.int, xs.set i.toNatClampNeg y))) cs ss) : J M d mc ms Q pc lv (.int y :: .int i :: .ref k :: st) hp cs ss := by
  intro p l e s m args below meth c D cA A ad0 x H locs ls hE hl hP hD hS hL
  have hE0 := hE
  obtain ⟨hx, hb, hml, hr, hlk, hown, hts, hK, hA, hnm⟩ := hE
  have hlt : i.toNatClampNeg < xs.length := Nat.not_le.mp fun q => hi (Or.inr q)
  refine va_iast hx hb hK hP hD hS k 0 (conc_get hl hc) rfl hi hd (fun H1 locs1 hP1 hD1 hS1 => ?_)
  have e : (conc cA (ad0 ++ x) hp).set k ((ad0 ++ x).getD k 0, .inl (cA .int, xs.length, .inl (upd (fun j => xs.getD j 0) i.toNatClampNeg y))) = conc cA (ad0 ++ x) (hp.set k (.inl (.int, xs.set i.toNatClampNeg y))) := by
    rw [← conc_set hl hc]
    simp only [jC, List.length_set]
    rw [upd_getD hlt]
  rw [e] at hP1 hD1
  exact kk p l _ s m args below meth c D cA A ad0 x H1 locs1 ls hE0 (by rw [List.length_set]; exact hl) hP1 hD1 hS1 hL
theorem J_zald {k : Nat} {xs : List Int32} {i : Int32} (hd : decode M.by pc = .ok (.baload, 1)) (hc : hp[k]? = some (.inl (.boolean, xs))) (hi : vp_in i xs.length) (kk : J M d mc ms Q (pc + 1) lv (.int (xs.getD i.toNatClampNeg 0) :: st) hp cs ss) : J M d mc ms Q pc lv (.int i :: .ref k :: st) hp cs ss := by
  intro p l e s m args below meth c D cA A ad0 x H locs ls hE hl hP hD hS hL
  have K := kk p l e s m args below meth c D cA A ad0 x H locs ls hE hl hP hD hS hL
  obtain ⟨hx, hb, hml, hr, hlk, hown, hts, hK, hA, hnm⟩ := hE
  exact va_zald hx hb hK hP k 1 (conc_get hl hc) rfl hi hd K
theorem J_zast {k : Nat} {xs : List Int32} {i y : Int32} (hd : decode M.by pc = .ok (.bastore, 1)) (hc : hp[k]? = some (.inl (.boolean, xs))) (hi : vp_in i xs.length) (kk : J M d mc ms Q (pc + 1) lv st (hp.set k (.inl (.boolean, xs.set i.toNatClampNeg (vp_nar .boolean y)))) cs ss) : J M d mc ms Q pc lv (.int y :: .int i :: .ref k :: st) hp cs ss := by
  intro p l e s m args below meth c D cA A ad0 x H locs ls hE hl hP hD hS hL
  have hE0 := hE
  obtain ⟨hx, hb, hml, hr, hlk, hown, hts, hK, hA, hnm⟩ := hE
  have hlt : i.toNatClampNeg < xs.length := Nat.not_le.mp fun q => hi (Or.inr q)
  refine va_zast hx hb hK hP hD hS k 1 (conc_get hl hc) rfl hi hd (fun H1 locs1 hP1 hD1 hS1 => ?_)
  have e : (conc cA (ad0 ++ x) hp).set k ((ad0 ++ x).getD k 0, .inl (cA .boolean, xs.length, .inl (upd (fun j => xs.getD j 0) i.toNatClampNeg (vp_nar .boolean y)))) = conc cA (ad0 ++ x) (hp.set k (.inl (.boolean, xs.set i.toNatClampNeg (vp_nar .boolean y)))) := by
    rw [← conc_set hl hc]
    simp only [jC, List.length_set]
    rw [upd_getD hlt]
  rw [e] at hP1 hD1
  exact kk p l _ s m args below meth c D cA A ad0 x H1 locs1 ls hE0 (by rw [List.length_set]; exact hl) hP1 hD1 hS1 hL
theorem J_aald {k r : Nat} {rs : List Nat} {i : Int32} (hd : decode M.by pc = .ok (.aaload, 1)) (hc : hp[k]? = some (.inr (.inl rs))) (hi : vp_in i rs.length) (hr : rs[i.toNatClampNeg]? = some r) (kk : J M d mc ms Q (pc + 1) lv (.ref r :: st) hp cs ss) : J M d mc ms Q pc lv (.int i :: .ref k :: st) hp cs ss := by
  intro p l e s m args below meth c D cA A ad0 x H locs ls hE hl hP hD hS hL
  have K := kk p l e s m args below meth c D cA A ad0 x H locs ls hE hl hP hD hS hL
  obtain ⟨hx, hb, hml, hret, hlk, hown, hts, hK, hA, hnm⟩ := hE
  have hlt : i.toNatClampNeg < rs.length := Nat.not_le.mp fun q => hi (Or.inr q)
  have ha := conc_get (cA := cA) (ad := ad0 ++ x) hl hc
  refine W.aald (v := va_rf ((rs[i.toNatClampNeg]?).map (fun r => (ad0 ++ x).getD r 0))) (ty := .array .int) hx hb (hP k _ ha) ((hK.2 2 _ rfl).1 rs.length (fun j => va_rf ((rs[j]?).map (fun r => (ad0 ++ x).getD r 0)))) rfl (fun q => by cases q) (by show ¬ (i < 0 ∨ (arrV _ _ _).slots.size ≤ _); rw [arrV_size]; exact hi) (by show (arrV _ _ _).slots[_]? = _; rw [arrV_read _ _ hlt]) rfl rfl hd ?_
  rw [hr]
  exact K
theorem J_alen {k : Nat} {xs : List Int32} {v : Int32} (hd : decode M.by pc = .ok (.arraylength, 1)) (hc : hp[k]? = some (.inl (.int, xs))) (hv : Int32.ofNat xs.length = v) (kk : J M d mc ms Q (pc + 1) lv (.int v :: st) hp cs ss) : J M d mc ms Q pc lv (.ref k :: st) hp cs ss := by
  intro p l e s m args below meth c D cA A ad0 x H locs ls hE hl hP hD hS hL
  have K := kk p l e s m args below meth c D cA A ad0 x H locs ls hE hl hP hD hS hL
  obtain ⟨hx, hb, hml, hr, hlk, hown, hts, hK, hA, hnm⟩ := hE
  exact va_alen (x := (xs.length, .inl (fun j => xs.getD j 0))) (ty := .int) hx hb hK hP k 0 (conc_get hl hc) rfl hv hd K
/-! division -/
theorem J_idiv {y z : Int32} (hd : decode M.by pc = .ok (.idiv, 1)) (hy : ¬ y = 0) (kk : J M d mc ms Q (pc + 1) lv (.int (z / y) :: st) hp cs ss) : J M d mc ms Q pc lv (.int y :: .int z :: st) hp cs ss := by
  intro p l e s m args below meth c D cA A ad0 x H locs ls hE hl hP hD hS hL
  exact lv_idiv hE.1 hE.2.1 hd hy (kk p l e s m args below meth c D cA A ad0 x H locs ls hE hl hP hD hS hL)
theorem J_irem {y z : Int32} (hd : decode M.by pc = .ok (.irem, 1)) (hy : ¬ y = 0) (kk : J M d mc ms Q (pc + 1) lv (.int (z - z / y * y) :: st) hp cs ss) : J M d mc ms Q pc lv (.int y :: .int z :: st) hp cs ss := by
  intro p l e s m args below meth c D cA A ad0 x H locs ls hE hl hP hD hS hL
  exact lv_irem hE.1 hE.2.1 hd hy (kk p l e s m args below meth c D cA A ad0 x H locs ls hE hl hP hD hS hL)
theorem J_ldiv {y z : Int64} (hd : decode M.by pc = .ok (.ldiv, 1)) (hy : ¬ y = 0) (kk : J M d mc ms Q (pc + 1) lv (.long (z / y) :: st) hp cs ss) : J M d mc ms Q pc lv (.long y :: .long z :: st) hp cs ss := by
  intro p l e s m args below meth c D cA A ad0 x H locs ls hE hl hP hD hS hL
  exact lv_ldiv hE.1 hE.2.1 hd hy (kk p l e s m args below meth c D cA A ad0 x H locs ls hE hl hP hD hS hL)
theorem J_lrem {y z : Int64} (hd : decode M.by pc = .ok (.lrem, 1)) (hy : ¬ y = 0) (kk : J M d mc ms Q (pc + 1) lv (.long (z - z / y * y) :: st) hp cs ss) : J M d mc ms Q pc lv (.long y :: .long z :: st) hp cs ss := by
  intro p l e s m args below meth c D cA A ad0 x H locs ls hE hl hP hD hS hL
  exact lv_lrem hE.1 hE.2.1 hd hy (kk p l e s m args below meth c D cA A ad0 x H locs ls hE hl hP hD hS hL)
/-! switches -/
def swT (dflt lo hi : Int) (offs : Array Int) (pc : Nat) (x : Int32) : Option Nat := if x.toInt < lo ∨ hi < x.toInt then tgt pc dflt else match offs[(x.toInt - lo).toNat]? with
  | some off => tgt pc off
  | none => none
theorem J_tsw {dflt lo hi : Int} {offs : Array Int} {len t : Nat} {z : Int32} (hd : decode M.by pc = .ok (.tableswitch dflt lo hi offs, len)) (hs : swT dflt lo hi offs pc z = some t) (kk : J M d mc ms Q t lv st hp cs ss) : J M d mc ms Q pc lv (.int z :: st) hp cs ss := by
  intro p l e s m args below meth c D cA A ad0 x H locs ls hE hl hP hD hS hL
  have K := kk p l e s m args below meth c D cA A ad0 x H locs ls hE hl hP hD hS hL
  unfold swT at hs
  split at hs
  · rename_i h
    exact lv_tableOut hE.1 hE.2.1 hd h (tgt_spec hs) K
  · rename_i h
    split at hs
    · rename_i off ho
      exact lv_tableIn hE.1 hE.2.1 hd (fun q => h (Or.inl q)) (fun q => h (Or.inr q)) ho (tgt_spec hs) K
    · cases hs
theorem J_lsw {dflt : Int} {ps : Array (Int × Int)} {len t : Nat} {z : Int32} (hd : decode M.by pc = .ok (.lookupswitch dflt ps, len)) (hp0 : (ps.toList.zip (ps.toList.drop 1)).all (fun (a, next) => a.1 < next.1) = true) (hs : tgt pc (Op.lookupswitch.offset ps.toList dflt z.toInt) = some t) (kk : J M d mc ms Q t lv st hp cs ss) : J M d mc ms Q pc lv (.int z :: st) hp cs ss := by
  intro p l e s m args below meth c D cA A ad0 x H locs ls hE hl hP hD hS hL
  exact lv_lookup hE.1 hE.2.1 hd hp0 rfl (tgt_spec hs) (kk p l e s m args below meth c D cA A ad0 x H locs ls hE hl hP hD hS hL)
/-! constants -/
theorem J_ldc {idx : Nat} {v : Int32} (hd : decode M.by pc = .ok (.ldc idx, 2)) (hw : Jvm.Cond.constant (cnm M.cn) idx v ∈ tb) (kk : J M d mc ms Q (pc + 2) lv (.int v :: st) hp cs ss) : J M d mc ms Q pc lv st hp cs ss := by
  intro p l e s m args below meth c D cA A ad0 x H locs ls hE hl hP hD hS hL
  exact lv_ldc hE.1 hE.2.1 hE.2.2.2.2.2.1 (hE.2.2.2.2.2.2.1 _ hw) hd (kk p l e s m args below meth c D cA A ad0 x H locs ls hE hl hP hD hS hL)
theorem J_ldcw {idx : Nat} {v : Int32} (hd : decode M.by pc = .ok (.ldc_w idx, 3)) (hw : Jvm.Cond.constant (cnm M.cn) idx v ∈ tb) (kk : J M d mc ms Q (pc + 3) lv (.int v :: st) hp cs ss) : J M d mc ms Q pc lv st hp cs ss := by
  intro p l e s m args below meth c D cA A ad0 x H locs ls hE hl hP hD hS hL
  exact lv_ldcw hE.1 hE.2.1 hE.2.2.2.2.2.1 (hE.2.2.2.2.2.2.1 _ hw) hd (kk p l e s m args below meth c D cA A ad0 x H locs ls hE hl hP hD hS hL)
theorem J_ldc2 {idx : Nat} {v : Int64} (hd : decode M.by pc = .ok (.ldc2_w idx, 3)) (hw : Jvm.Cond.constantLong (cnm M.cn) idx v ∈ tb) (kk : J M d mc ms Q (pc + 3) lv (.long v :: st) hp cs ss) : J M d mc ms Q pc lv st hp cs ss := by
  intro p l e s m args below meth c D cA A ad0 x H locs ls hE hl hP hD hS hL
  exact lv_ldc2 hE.1 hE.2.1 hE.2.2.2.2.2.1 (hE.2.2.2.2.2.2.1 _ hw) hd (kk p l e s m args below meth c D cA A ad0 x H locs ls hE hl hP hD hS hL)
/-! the end of a method -/
theorem J_iret {z : Int32} {ty : FieldType} (hd : decode M.by pc = .ok (.ireturn, 1)) (hrt : M.rt = some ty) (hn : narrow ty (.int z) = .int z) (h1 : cs ≤ mc) (h2 : ss ≤ ms) (hQ : Q (some (.int z)) hp) : J M d mc ms Q pc lv [.int z] hp cs ss := by
  intro p l e s m args below meth c D cA A ad0 x H locs ls hE hl hP hD hS hL
  obtain ⟨hx, hb, hml, hr, hlk, hown, hts, hK, hA, hnm⟩ := hE
  refine W.widen h1 h2 ?_
  exact W.zret (ty := ty) hx hb (hr.trans hrt) hn (fun t ht hW => ⟨⟨some (.int z), hp, x, rfl, hQ, hl, by rw [ht]; exact hP, hD, va_K.moved hW.alike hK⟩, hS.F ht⟩) hS.2.2 hd hlk
theorem J_lret {z : Int64} (hd : decode M.by pc = .ok (.lreturn, 1)) (hrt : M.rt = some .long) (h1 : cs ≤ mc) (h2 : ss ≤ ms) (hQ : Q (some (.long z)) hp) : J M d mc ms Q pc lv [.long z] hp cs ss := by
  intro p l e s m args below meth c D cA A ad0 x H locs ls hE hl hP hD hS hL
  obtain ⟨hx, hb, hml, hr, hlk, hown, hts, hK, hA, hnm⟩ := hE
  refine W.widen h1 h2 ?_
  exact W.lret hx hb (hr.trans hrt) (fun t ht hW => ⟨⟨some (.long z), hp, x, rfl, hQ, hl, by rw [ht]; exact hP, hD, va_K.moved hW.alike hK⟩, hS.F ht⟩) hS.2.2 hd hlk
theorem J_aret {k : Nat} {rt : FieldType} (hd : decode M.by pc = .ok (.areturn, 1)) (hrt : M.rt = some rt) (hty : (∃ n, rt = .object n) ∨ ∃ t, rt = .array t) (h1 : cs ≤ mc) (h2 : ss ≤ ms) (hQ : Q (some (.ref k)) hp) : J M d mc ms Q pc lv [.ref k] hp cs ss := by
  intro p l e s m args below meth c D cA A ad0 x H locs ls hE hl hP hD hS hL
  obtain ⟨hx, hb, hml, hr, hlk, hown, hts, hK, hA, hnm⟩ := hE
  refine W.widen h1 h2 ?_
  exact W.aret (rt := rt) hx hb (hr.trans hrt) hty (Or.inr ⟨_, rfl⟩) (fun t ht hW => ⟨⟨some (.ref k), hp, x, rfl, hQ, hl, by rw [ht]; exact hP, hD, va_K.moved hW.alike hK⟩, hS.F ht⟩) hS.2.2 hd hlk
theorem J_vret (hd : decode M.by pc = .ok (.return_, 1)) (hrt : M.rt = none) (h1 : cs ≤ mc) (h2 : ss ≤ ms) (hQ : Q none hp) : J M d mc ms Q pc lv [] hp cs ss := by
  intro p l e s m args below meth c D cA A ad0 x H locs ls hE hl hP hD hS hL
  obtain ⟨hx, hb, hml, hr, hlk, hown, hts, hK, hA, hnm⟩ := hE
  refine W.widen h1 h2 ?_
  exact W.vret hx hb (hr.trans hrt) (fun t ht hW => ⟨⟨none, hp, x, rfl, hQ, hl, by rw [ht]; exact hP, hD, va_K.moved hW.alike hK⟩, hS.F ht⟩) hS.2.2 hd hlk
end JH
theorem fRes_ok {cn idx ci sl w : Nat} (h : fRes cn idx = some (ci, sl, w)) : fOk cn idx ci sl := by
  have h1 := tab_row frB_ok (by decide) h
  unfold fRowB at h1
  split at h1
  · rename_i w9 hw; exact ⟨w9, hw, chkW_in h1⟩
  · cases h1
end
section
/-! ===== calls ===== -/
theorem tb_good : ∀ w ∈ tb, (w.onTables && w.keeps) = true ∨ ∃ ty, w = .arrayClass ty := fun _ h => good_of_word (List.mem_filter.mp h).2
def nOk (N : MT) : Prop := Cond.code N.y N.by N.ml N.rt ∈ tb ∧ Cond.initialized N.y.cls ∈ tb ∧ (N.y.cls ≠ "java/lang/invoke/MethodHandle" ∧ N.y.cls ≠ "java/lang/invoke/VarHandle") ∧ N.ml ≤ 20 ∧ plainName N.y.cls = true ∧ N.y.cls = cnm N.cn
theorem mw_good {N : MT} (h : nOk N) : GoodIn tb (mw N) := by
  intro w hw
  have : w ∈ tb := by
    rcases List.mem_cons.mp hw with q | q
    · rw [q]; exact h.1
    · exact q
  exact ⟨this, tb_good w this⟩
section VAJ
variable {p : Program} {l : Launch} {e : Env} {R : Room} {s : State} {m : MethodId} {args : Array Value} {below : List Frame} {meth : Method} {c : Code} {H : Heap} {locs : List Loc} {cells slots : Nat} {Q : State → Prop}
variable {pc : Nat} {ls : Array Slot} {rest st0 : List Value} {a : Array Value} {A0 A1 : Nat → Prop} {H0 : Heap} {mc ms : Nat} {free : Addr → Prop}
theorem va_callJ {D : va_G} {cA : FieldType → ClassId} {ad : List Nat} {Q' : Option Value → AH → Prop} (hr : va_Run p l e R s m args below meth c H locs cells slots mc ms (F0 m pc ls st0) rest (jQ D cA A1 ad Q' a) free) (hS : va_S A0 H0 H locs) (hA : ∀ q, q < H.size → A1 q → A0 q) (hf : ∀ q, free q → A0 q)
    (kk : ∀ (v : Option Value) (hp' : AH) (x' : List Nat) (H1 : Heap) (locs1 : List Loc), Q' v hp' → (ad ++ x').length = hp'.length → va_P D clsL (conc cA (ad ++ x') hp') H1 → va_D A1 (conc cA (ad ++ x') hp') → va_S A0 H0 H1 locs1 → W p l e R s m args below meth c H1 locs1 (cells + mc) (slots + ms) Q (F0 m (pc + 3) ls ((v.map (cv (ad ++ x'))).toList ++ rest))) : W p l e R s m args below meth c H locs cells slots Q (F0 m pc ls st0) := by
  intro T hT X
  obtain ⟨v, st₀, t, T', L, h0, X', hL, e1, e2, ⟨⟨w, hp', x', hv, hq, hl, hP, hD, hK⟩, hz, hk⟩, st⟩ := hr T hT X
  rw [Outcome.returned.injEq] at hv
  subst hv
  rw [h0] at hz hk
  obtain ⟨t2, a1, b1⟩ := kk w hp' x' T'.heap (locs ++ L) hq hl (by rw [e1]; exact hP) hD
    ⟨Nat.le_trans hS.1 (by rw [e1]; exact hz), fun q h1 h2 => by rw [e1, hk q (Nat.lt_of_lt_of_le h1 hS.1) (fun z => h2 (hA q (Nat.lt_of_lt_of_le h1 hS.1) z))]; exact hS.2.1 q h1 h2, fun q hq => by
      rcases List.mem_append.mp hq with h | h
      · exact hS.2.2 q h
      · exact hf _ (hL q h)⟩ T' rfl X'
  exact ⟨t2, st t2 a1, b1⟩
end VAJ
theorem jL_app {nL : Nat} {ad x : List Nat} {lv : List (Option Value)} {ls : Array Slot} (h : jL nL ad lv ls) (hok : okL ad.length lv = true) : jL nL (ad ++ x) lv ls := by
  refine ⟨h.1, h.2.1, h.2.2.1, fun i v hi => ?_⟩
  have := List.all_eq_true.mp hok (some v) (List.mem_of_getElem? hi)
  rw [cv_app this]
  exact h.2.2.2 i v hi
theorem ct_room {N : MT} {d mc ms mc' ms' : Nat} (hN : nOk N) : (rmm d mc' ms').frames + 1 ≤ (rmm (d + 1) mc ms).frames ∧ 8 + (N.ml + 11) + (rmm d mc' ms').locals ≤ (rmm (d + 1) mc ms).locals := by
  refine ⟨Nat.le_refl _, ?_⟩
  have := hN.2.2.2.1
  show 8 + (N.ml + 11) + 39 * d ≤ 39 * (d + 1)
  omega
def cOk (hp : AH) (lv : List (Option Value)) (st : List Value) (Q' : Option Value → AH → Prop) : Prop := (∀ v hp', Q' v hp' → hp'.length = hp.length) ∨ (okL hp.length lv = true ∧ st.all (okV hp.length) = true)
theorem ct_free {cA : FieldType → ClassId} {ad : List Nat} {hp : AH} {A : Nat → Prop} {H0 H : Heap} {locs : List Loc} (hD : va_D A (conc cA ad hp)) (hS : va_S A H0 H locs) (hA : ∀ q, H0.size ≤ q → A q) : ∀ q, va_A (conc cA ad hp) H.size q → A q := by
  intro q h
  rcases h with ⟨k, e, h⟩ | h
  · exact hD.2 k _ h
  · exact hA q (Nat.le_trans hS.1 h)
section JC
variable {M : MT} {d mc ms : Nat} {Q Q' : Option Value → AH → Prop} {pc : Nat} {lv : List (Option Value)} {st : List Value} {hp : AH} {cs ss : Nat} {idx mc' ms' : Nat} {N : MT} {as : List Value}
/-- what is common to the calls: behind the callee the caller goes on -/
theorem J_after {p : Program} {l : Launch} {e : Env} {s : State} {m : MethodId} {args : Array Value} {below : List Frame} {meth : Method} {c : Code} {D : va_G} {cA : FieldType → ClassId} {A : Nat → Prop} {ad0 x : List Nat} {H : Heap} {locs : List Loc} {ls : Array Slot} {a : Array Value} {st0 : List Value}
    (hE : jE M p s m args meth c D cA A) (hl : (ad0 ++ x).length = hp.length) (hD : va_D A (conc cA (ad0 ++ x) hp)) (hS : va_S A s.heap H locs) (hL : jL M.ml (ad0 ++ x) lv ls) (hok : cOk hp lv st Q')
    (hr : va_Run p l e (rmm (d + 1) mc ms) s m args below meth c H locs cs ss mc' ms' (F0 m pc ls st0) (st.map (cv (ad0 ++ x))) (jQ D cA (va_A (conc cA (ad0 ++ x) hp) H.size) (ad0 ++ x) Q' a) (va_A (conc cA (ad0 ++ x) hp) H.size))
    (kk : ∀ v hp', Q' v hp' → J M (d + 1) mc ms Q (pc + 3) lv (v.toList ++ st) hp' (cs + mc') (ss + ms')) : W p l e (rmm (d + 1) mc ms) s m args below meth c H locs cs ss (MQ below (jQ D cA A ad0 Q) args s mc ms A) (F0 m pc ls st0) := by
  have hF := ct_free hD hS hE.2.2.2.2.2.2.2.2.1
  refine va_callJ hr hS (fun q _ h => hF q h) hF (fun v hp' x' H1 locs1 hq hl' hP1 hD1 hS1 => ?_)
  have hlv : jL M.ml ((ad0 ++ x) ++ x') lv ls ∧ (st.map (cv ((ad0 ++ x) ++ x'))) = st.map (cv (ad0 ++ x)) := by
    rcases hok with h | ⟨h1, h2⟩
    · have h3 := h v hp' hq
      have : x' = [] := by
        rw [List.length_append, hl, h3] at hl'
        exact List.eq_nil_of_length_eq_zero (by omega)
      subst this
      rw [List.append_nil]
      exact ⟨hL, rfl⟩
    · rw [← hl] at h1 h2
      exact ⟨jL_app hL h1, map_cv_app h2⟩
  have K := kk v hp' hq p l e s m args below meth c D cA A ad0 (x ++ x') H1 locs1 ls hE (by rw [← List.append_assoc]; exact hl') (by rw [← List.append_assoc]; exact hP1) (by rw [← List.append_assoc]; exact hD1.weaken (fun _ q _ h => hF _ h)) hS1 (by rw [← List.append_assoc]; exact hlv.1)
  rw [← List.append_assoc, List.map_append, hlv.2] at K
  have e2 : (v.map (cv ((ad0 ++ x) ++ x'))).toList = v.toList.map (cv ((ad0 ++ x) ++ x')) := by cases v <;> rfl
  rw [e2]
  exact K
theorem ct_pre {s : State} {H : Heap} {D : va_G} {cA : FieldType → ClassId} {ad : List Nat} {A : Nat → Prop} (hP : va_P D clsL (conc cA ad hp) H) (hD : va_D A (conc cA ad hp)) (hK : va_K D clsL (tysL cA) s) (hX : xN s) : PreS s H (va_Pc (as.map (cv ad)) (fun U => U.heap.size = H.size ∧ va_P D clsL (conc cA ad hp) U.heap ∧ va_K D clsL (tysL cA) U ∧ va_D (fun _ => True) (conc cA ad hp) ∧ xN U)) (as.map (cv ad)) := by
  refine ⟨fun a U g mk q => ?_, fun U hU hW => ⟨rfl, by rw [hU], by rw [hU]; exact hP, va_K.moved hW.alike hK, hD.weaken (fun _ _ _ _ => trivial), xN_warm hW hX⟩⟩
  obtain ⟨q0, q1, qP, qK, qD, qX⟩ := q
  exact ⟨q0, q1, qP, va_K.moved (u := U) (U := U.calling g mk a) (Vm.Alike.refl U.vm) qK, qD, xN_same (u := U) (U := U.calling g mk a) rfl qX⟩
theorem st_room {ls : Array Slot} {m : MethodId} {ad : List Nat} {st0 : List Value} (h : (st.map (fun v => v.category)).sum ≤ 8) : 2 * (F0 m pc ls st0).monitorRoom + ((st.map (cv ad)).map fun v => v.category).sum ≤ 8 := by
  refine lv_room ?_
  have e : (st.map (cv ad)).map (fun v => v.category) = st.map (fun v => v.category) := by
    rw [List.map_map]; exact List.map_congr_left (fun v _ => cv_cat ad v)
  rw [e]; exact h
theorem J_callS (hd : decode M.by pc = .ok (.invokestatic idx, 3)) (hN : nOk N) (hlk : Cond.methodLink (cnm M.cn) idx N.y ∈ tb) (hst : Cond.static N.y ∈ tb) (hnp : np N = some as.length) (hcat : (st.map (fun v => v.category)).sum ≤ 8) (hr1 : cs + mc' ≤ mc) (hr2 : ss + ms' ≤ ms) (hok : cOk hp lv st Q') (C : Ct N d mc' ms' as hp Q')
    (kk : ∀ v hp', Q' v hp' → J M (d + 1) mc ms Q (pc + 3) lv (v.toList ++ st) hp' (cs + mc') (ss + ms')) : J M (d + 1) mc ms Q pc lv (as.reverse ++ st) hp cs ss := by
  intro p l e s m args below meth c D cA A ad0 x H locs ls hE hl hP hD hS hL
  refine J_after (a := (as.map (cv (ad0 ++ x))).toArray) hE hl hD hS hL hok ?_ kk
  obtain ⟨hx, hb, hml, hr, hlo, hown, hts, hK, hA, hnm⟩ := hE
  exact va_runS (Ts := tb) (n := as.length) ⟨hx, hb, hml, hown, hts⟩ (C l D cA (ad0 ++ x) H.size hl) ⟨callB_of as.length hts (mw_good hN) rfl rfl rfl (hts _ hN.2.1) (hts _ hlk) ⟨hN.2.2.1.1, hN.2.2.1.2, hnp⟩ (ct_room hN), hts _ hst⟩ (ct_pre hP hD hK hnm.2) rfl (by simp) hL.2.1 (by simp) (st_room hcat) hd ⟨hr1, hr2⟩
theorem J_callSN {host : String} (hd : decode M.by pc = .ok (.invokestatic idx, 3)) (hN : nOk N) (hlk : Cond.methodLinkNest (cnm M.cn) idx N.y host ∈ lw_tbl) (hst : Cond.static N.y ∈ tb) (hnp : np N = some as.length) (hcat : (st.map (fun v => v.category)).sum ≤ 8) (hr1 : cs + mc' ≤ mc) (hr2 : ss + ms' ≤ ms) (hok : cOk hp lv st Q') (C : Ct N d mc' ms' as hp Q')
    (kk : ∀ v hp', Q' v hp' → J M (d + 1) mc ms Q (pc + 3) lv (v.toList ++ st) hp' (cs + mc') (ss + ms')) : J M (d + 1) mc ms Q pc lv (as.reverse ++ st) hp cs ss := by
  intro p l e s m args below meth c D cA A ad0 x H locs ls hE hl hP hD hS hL
  refine J_after (a := (as.map (cv (ad0 ++ x))).toArray) hE hl hD hS hL hok ?_ kk
  obtain ⟨hx, hb, hml, hr, hlo, hown, hts, hK, hA, hnm⟩ := hE
  have hc : Cond.code N.y N.by N.ml N.rt ∈ mw N := List.mem_cons_self
  refine va_runSN (Ts := tb) (n := as.length) (host := host) ⟨hx, hb, hml, hown, hts⟩ (C l D cA (ad0 ++ x) H.size hl) ⟨⟨⟨rfl, rfl, (ct_room (mc := mc) (ms := ms) (mc' := mc') (ms' := ms') hN).1, (ct_room (mc := mc) (ms := ms) (mc' := mc') (ms' := ms') hN).2, pay_in hts (mw_good hN), hc⟩, hts _ (mw_good hN _ hc).1, hts _ hN.2.1, ⟨hN.2.2.1.1, hN.2.2.1.2⟩, fun sig h => ?_, va_Nw.use rfl (hnm.2.1 _ _ _ _ hlk)⟩, hts _ hst, trivial⟩ (ct_pre hP hD hK hnm.2) rfl (by simp) hL.2.1 (by simp) (st_room hcat) hd ⟨hr1, hr2⟩
  unfold np at hnp
  rw [h] at hnp
  exact (Option.some.inj hnp).symm
theorem J_callV {k ci : Nat} {fs : List Value} (hd : decode M.by pc = .ok (.invokevirtual idx, 3)) (hN : nOk N) (hlk : Cond.methodLink (cnm M.cn) idx N.y ∈ tb) (hin : Cond.instanceMethod N.y ∈ tb) (hse : Cond.selects N.y.cls N.y N.y ∈ tb) (hnp : np N = some as.length) (hc : hp[k]? = some (.inr (.inr (ci, fs)))) (hci : (clsL[ci]?).map (fun q => q.1) = some N.y.cls) (hcat : (st.map (fun v => v.category)).sum ≤ 8) (hr1 : cs + mc' ≤ mc) (hr2 : ss + ms' ≤ ms) (hok : cOk hp lv st Q') (C : Ct N d mc' ms' (.ref k :: as) hp Q')
    (kk : ∀ v hp', Q' v hp' → J M (d + 1) mc ms Q (pc + 3) lv (v.toList ++ st) hp' (cs + mc') (ss + ms')) : J M (d + 1) mc ms Q pc lv (as.reverse ++ .ref k :: st) hp cs ss := by
  intro p l e s m args below meth c D cA A ad0 x H locs ls hE hl hP hD hS hL
  refine J_after (a := (Value.ref ((ad0 ++ x).getD k 0) :: as.map (cv (ad0 ++ x))).toArray) hE hl hD hS hL hok ?_ kk
  obtain ⟨hx, hb, hml, hr, hlo, hown, hts, hK, hA, hnm⟩ := hE
  obtain ⟨q, hq, hq1⟩ := Option.map_eq_some_iff.mp hci
  have hrecv := va_recv hK hP hq (conc_get hl hc)
  rw [hq1] at hrecv
  have hpre := ct_pre (as := .ref k :: as) hP hD hK hnm.2
  exact va_runV (Ts := tb) (n := as.length) (C := N.y.cls) (b := (ad0 ++ x).getD k 0) (As := as.map (cv (ad0 ++ x))) ⟨hx, hb, hml, hown, hts⟩ (C l D cA (ad0 ++ x) H.size hl) ⟨callB_of as.length hts (mw_good hN) rfl rfl rfl (hts _ hN.2.1) (hts _ hlk) ⟨hN.2.2.1.1, hN.2.2.1.2, hnp⟩ (ct_room hN), hts _ hin, hts _ hse⟩ ⟨hpre.1, hrecv, hpre.2⟩ rfl (by simp) hL.2.1 (by simp [cv]) (st_room hcat) hd ⟨hr1, hr2⟩
theorem J_callI {k : Nat} (hd : decode M.by pc = .ok (.invokespecial idx, 3)) (hN : nOk N) (hrt : N.rt = none) (hlk : Cond.methodLink (cnm M.cn) idx N.y ∈ tb) (hin : Cond.instanceMethod N.y ∈ tb) (hy1 : N.y.name = "<init>") (hnp : np N = some as.length) (hcat : (st.map (fun v => v.category)).sum ≤ 8) (hr1 : cs + mc' ≤ mc) (hr2 : ss + ms' ≤ ms) (hok : cOk hp lv st Q') (C : Ct N d mc' ms' (.ref k :: as) hp Q')
    (kk : ∀ v hp', Q' v hp' → J M (d + 1) mc ms Q (pc + 3) lv (v.toList ++ st) hp' (cs + mc') (ss + ms')) : J M (d + 1) mc ms Q pc lv (as.reverse ++ .ref k :: st) hp cs ss := by
  intro p l e s m args below meth c D cA A ad0 x H locs ls hE hl hP hD hS hL
  refine J_after (a := (Value.ref ((ad0 ++ x).getD k 0) :: as.map (cv (ad0 ++ x))).toArray) hE hl hD hS hL hok ?_ kk
  obtain ⟨hx, hb, hml, hr, hlo, hown, hts, hK, hA, hnm⟩ := hE
  have hpre := ct_pre (as := .ref k :: as) hP hD hK hnm.2
  have hB := callB_of (R := rmm (d + 1) mc ms) (rm := rmm d mc' ms') (own := cnm M.cn) (index := idx) as.length hts (mw_good hN) rfl rfl rfl (hts _ hN.2.1) (hts _ hlk) ⟨hN.2.2.1.1, hN.2.2.1.2, hnp⟩ (ct_room hN)
  rw [hrt] at hB
  exact va_runI (Ts := tb) (n := as.length) (b := (ad0 ++ x).getD k 0) (As := as.map (cv (ad0 ++ x))) ⟨hx, hb, hml, hown, hts⟩ (C l D cA (ad0 ++ x) H.size hl) ⟨hB, hy1, hts _ hin⟩ hpre rfl (by simp) hL.2.1 (by simp [cv]) (st_room hcat) hd ⟨hr1, hr2⟩
theorem J_callIN {k : Nat} {host : String} (hd : decode M.by pc = .ok (.invokespecial idx, 3)) (hN : nOk N) (hrt : N.rt = none) (hlk : Cond.methodLinkNest (cnm M.cn) idx N.y host ∈ lw_tbl) (hin : Cond.instanceMethod N.y ∈ tb) (hy1 : N.y.name = "<init>") (hnp : np N = some as.length) (hcat : (st.map (fun v => v.category)).sum ≤ 8) (hr1 : cs + mc' ≤ mc) (hr2 : ss + ms' ≤ ms) (hok : cOk hp lv st Q') (C : Ct N d mc' ms' (.ref k :: as) hp Q')
    (kk : ∀ v hp', Q' v hp' → J M (d + 1) mc ms Q (pc + 3) lv (v.toList ++ st) hp' (cs + mc') (ss + ms')) : J M (d + 1) mc ms Q pc lv (as.reverse ++ .ref k :: st) hp cs ss := by
  intro p l e s m args below meth c D cA A ad0 x H locs ls hE hl hP hD hS hL
  refine J_after (a := (Value.ref ((ad0 ++ x).getD k 0) :: as.map (cv (ad0 ++ x))).toArray) hE hl hD hS hL hok ?_ kk
  obtain ⟨hx, hb, hml, hr, hlo, hown, hts, hK, hA, hnm⟩ := hE
  have hpre := ct_pre (as := .ref k :: as) hP hD hK hnm.2
  have hc : Cond.code N.y N.by N.ml none ∈ mw N := by rw [← hrt]; exact List.mem_cons_self
  refine va_runIN (Ts := tb) (n := as.length) (host := host) (b := (ad0 ++ x).getD k 0) (As := as.map (cv (ad0 ++ x))) ⟨hx, hb, hml, hown, hts⟩ (C l D cA (ad0 ++ x) H.size hl) ⟨⟨⟨rfl, rfl, (ct_room (mc := mc) (ms := ms) (mc' := mc') (ms' := ms') hN).1, (ct_room (mc := mc) (ms := ms) (mc' := mc') (ms' := ms') hN).2, pay_in hts (mw_good hN), hc⟩, hts _ (mw_good hN _ hc).1, hts _ hN.2.1, ⟨hN.2.2.1.1, hN.2.2.1.2⟩, fun sig h => ?_, va_Nw.use rfl (hnm.2.1 _ _ _ _ hlk)⟩, hy1, hts _ hin⟩ hpre rfl (by simp) hL.2.1 (by simp [cv]) (st_room hcat) hd ⟨hr1, hr2⟩
  unfold np at hnp
  rw [h] at hnp
  exact (Option.some.inj hnp).symm
theorem J_objI {k : Nat} (hd : decode M.by pc = .ok (.invokespecial idx, 3)) (hlk : Cond.methodLink (cnm M.cn) idx Lib.objectInit ∈ tb) (hin : Cond.instanceMethod Lib.objectInit ∈ tb) (hco : Cond.code Lib.objectInit ⟨#[0xb1]⟩ 1 none ∈ tb) (hcat : (st.map (fun v => v.category)).sum ≤ 8) (kk : J M (d + 1) mc ms Q (pc + 3) lv st hp cs ss) : J M (d + 1) mc ms Q pc lv (.ref k :: st) hp cs ss := by
  intro p l e s m args below meth c D cA A ad0 x H locs ls hE hl hP hD hS hL
  have K := kk p l e s m args below meth c D cA A ad0 x H locs ls hE hl hP hD hS hL
  obtain ⟨hx, hb, hml, hr, hlo, hown, hts, hK, hA, hnm⟩ := hE
  refine W.objInit hx hb hown (hts _ hlk) (hts _ hin) (hts _ hco) rfl (by rw [hml]; exact hL.2.1) (a := (ad0 ++ x).getD k 0) (rest := st.map (cv (ad0 ++ x))) rfl hd (show 1 ≤ d + 1 by omega) ?_ K
  have := st_room (m := m) (ls := ls) (pc := pc) (ad := ad0 ++ x) (st0 := (Value.ref k :: st).map (cv (ad0 ++ x))) hcat
  show _ ≤ 39 * (d + 1)
  omega
/-! arraycopy of ints -/
def cpyL (xs ys : List Int32) (sp dp n : Nat) : List Int32 := (List.range ys.length).map (fun k => if dp ≤ k ∧ k < dp + n then xs.getD (sp + (k - dp)) 0 else ys.getD k 0)
theorem cpyL_length (xs ys : List Int32) (sp dp n : Nat) : (cpyL xs ys sp dp n).length = ys.length := by unfold cpyL; simp
theorem cpyL_fun {xs ys : List Int32} {sp dp n : Nat} (h : dp + n ≤ ys.length) : va_cpy (fun j => xs.getD j 0) (fun j => ys.getD j 0) sp dp n = (fun j => (cpyL xs ys sp dp n).getD j 0) := by
  funext j
  unfold va_cpy cpyL
  rw [List.getD_eq_getElem?_getD (l := List.map _ _), List.getElem?_map]
  by_cases hj : j < ys.length
  · rw [List.getElem?_range hj]; rfl
  · rw [List.getElem?_eq_none (by simp; omega)]
    have h1 : ¬ (dp ≤ j ∧ j < dp + n) := by omega
    rw [if_neg h1]
    show ys.getD j 0 = _
    rw [List.getD_eq_getElem?_getD, List.getElem?_eq_none (by omega)]
    rfl
theorem J_acopy {k0 k1 : Nat} {xs ys : List Int32} {sp dp n : Int32} (hd : decode M.by pc = .ok (.invokestatic idx, 3)) (hlk : Cond.methodLink (cnm M.cn) idx arraycopyName ∈ tb) (hnat : Cond.native arraycopyName ∈ tb) (hst : Cond.static arraycopyName ∈ tb) (hini : Cond.initialized "java/lang/System" ∈ tb) (hc0 : hp[k0]? = some (.inl (.int, xs))) (hc1 : hp[k1]? = some (.inl (.int, ys))) (h1 : ¬ sp < 0) (h2 : ¬ dp < 0) (h3 : ¬ n < 0) (h4 : sp.toNatClampNeg + n.toNatClampNeg ≤ xs.length) (h5 : dp.toNatClampNeg + n.toNatClampNeg ≤ ys.length) (hcat : (st.map (fun v => v.category)).sum ≤ 8)
    (kk : J M (d + 1) mc ms Q (pc + 3) lv st (hp.set k1 (.inl (.int, cpyL xs ys sp.toNatClampNeg dp.toNatClampNeg n.toNatClampNeg))) cs ss) : J M (d + 1) mc ms Q pc lv (.int n :: .int dp :: .ref k1 :: .int sp :: .ref k0 :: st) hp cs ss := by
  intro p l e s m args below meth c D cA A ad0 x H locs ls hE hl hP hD hS hL
  have hE0 := hE
  obtain ⟨hx, hb, hml, hr, hlo, hown, hts, hK, hA, hnm⟩ := hE
  have hcat2 : ((st.map (cv (ad0 ++ x))).map fun v => v.category).sum ≤ 8 := by
    have e : (st.map (cv (ad0 ++ x))).map (fun v => v.category) = st.map (fun v => v.category) := by
      rw [List.map_map]; exact List.map_congr_left (fun v _ => cv_cat _ v)
    rw [e]; exact hcat
  refine va_copyi (ty := .int) hx hb (by rw [hml]; exact hL.2.1.symm) hown (hts _ hlk) (hts _ hnat) (hts _ hst) (hts _ hini) hK hP hD hS k0 k1 0 0 (conc_get hl hc0) (conc_get hl hc1) rfl rfl rfl h1 h2 h3 h4 h5 (fun _ _ => rfl) (show 1 ≤ d + 1 by omega) ?_ hd (fun H1 locs1 hP1 hD1 hS1 => ?_)
  · have hw : nativeFrameWords "java/lang/System" "arraycopy" 5 = 7 := by decide
    rw [hw]
    show _ ≤ 39 * (d + 1)
    omega
  · have e : (conc cA (ad0 ++ x) hp).set k1 ((ad0 ++ x).getD k1 0, .inl (cA .int, ys.length, .inl (va_cpy (fun j => xs.getD j 0) (fun j => ys.getD j 0) sp.toNatClampNeg dp.toNatClampNeg n.toNatClampNeg))) = conc cA (ad0 ++ x) (hp.set k1 (.inl (.int, cpyL xs ys sp.toNatClampNeg dp.toNatClampNeg n.toNatClampNeg))) := by
      rw [← conc_set hl hc1]
      simp only [jC, cpyL_length]
      rw [cpyL_fun h5]
    rw [e] at hP1 hD1
    exact kk p l _ s m args below meth c D cA A ad0 x H1 locs1 ls hE0 (by rw [List.length_set]; exact hl) hP1 hD1 hS1 hL
/-! a contract out of a walk -/
theorem Ct_of_J (hN : nOk N) (hsl : ∀ ad, (lg_sl (as.map (cv ad))).length ≤ N.ml) (h : J N d mc ms Q 0 (entL as N.ml) [] hp 0 0) : Ct N d mc ms as hp Q := by
  intro l D cA ad sz hl
  refine Met.ofW (cc := N.by) (maxL := N.ml) (ret := N.rt) hN.2.2.2.2.1 rfl ?_
  intro p e s m args below meth c s₁ B hml hv
  obtain ⟨rfl, hsz, hP, hK, hD0, hX⟩ := hv
  have hts := atoms_spec (ws := mw N) B.pre
  have hown : s.vm.findClass N.y.cls = some m.cls := findClass_of_methodNamed B.named
  have hnm : meth.name = N.y.name := (name_of_methodNamed B.named B.method).1
  subst hsz
  have hD := hD0.self (sz := s.heap.size)
  rw [lg_entry_eq]
  have K := h p l e s m ((as.map (cv ad)).toArray) below meth c D cA (va_A (conc cA ad hp) s.heap.size) ad [] s.heap [] ((lg_sl (as.map (cv ad)) ++ List.replicate (N.ml - (lg_sl (as.map (cv ad))).length) Slot.unset).toArray)
    ⟨B.exec, B.bytes, hml, B.returns, B.notSynchronized, by rw [← hN.2.2.2.2.2]; exact hown, fun w hw => hts w (List.mem_cons_of_mem _ hw), hK, fun q h => Or.inr h, hnm, hX⟩ (by rw [List.append_nil]; exact hl) (by rw [List.append_nil]; exact hP) (by rw [List.append_nil]; exact hD) va_S.rf (by rw [List.append_nil]; exact jL_ent (hsl ad))
  exact K
end JC
section JMath
variable {M : MT} {d mc ms : Nat} {Q : Option Value → AH → Prop} {pc : Nat} {lv : List (Option Value)} {st : List Value} {hp : AH} {cs ss : Nat} {idx : Nat}
theorem J_min {y z : Int32} (hd : decode M.by pc = .ok (.invokestatic idx, 3)) (hlk : Cond.methodLink (cnm M.cn) idx Lib.Math.min.name ∈ tb) (hst : Cond.static Lib.Math.min.name ∈ tb) (hco : Cond.code Lib.Math.min.name Lib.Math.min.code 2 (some .int) ∈ tb) (hcat : (st.map (fun v => v.category)).sum ≤ 8) (hr1 : cs ≤ mc) (hr2 : ss ≤ ms) (kk : J M (d + 1) mc ms Q (pc + 3) lv (.int (if y < z then y else z) :: st) hp cs ss) : J M (d + 1) mc ms Q pc lv (.int y :: .int z :: st) hp cs ss := by
  intro p l e s m args below meth c D cA A ad0 x H locs ls hE hl hP hD hS hL
  have K := kk p l e s m args below meth c D cA A ad0 x H locs ls hE hl hP hD hS hL
  obtain ⟨hx, hb, hml, hr, hlo, hown, hts, hK, hA, hnm⟩ := hE
  have hcat2 : ((st.map (cv (ad0 ++ x))).map fun v => v.category).sum ≤ 8 := by
    have e : (st.map (cv (ad0 ++ x))).map (fun v => v.category) = st.map (fun v => v.category) := by
      rw [List.map_map]; exact List.map_congr_left (fun v _ => cv_cat _ v)
    rw [e]; exact hcat
  exact va_mmin hx hb (by rw [hml]; exact hL.2.1.symm) hown (hts _ hlk) (hts _ hst) (hts _ wMath_in) (hts _ hco) (show 1 ≤ d + 1 by omega) (show _ ≤ 39 * (d + 1) by omega) hr1 hr2 hd K
theorem J_max {y z : Int32} (hd : decode M.by pc = .ok (.invokestatic idx, 3)) (hlk : Cond.methodLink (cnm M.cn) idx Lib.Math.max.name ∈ tb) (hst : Cond.static Lib.Math.max.name ∈ tb) (hco : Cond.code Lib.Math.max.name Lib.Math.max.code 2 (some .int) ∈ tb) (hcat : (st.map (fun v => v.category)).sum ≤ 8) (hr1 : cs ≤ mc) (hr2 : ss ≤ ms) (kk : J M (d + 1) mc ms Q (pc + 3) lv (.int (if z < y then y else z) :: st) hp cs ss) : J M (d + 1) mc ms Q pc lv (.int y :: .int z :: st) hp cs ss := by
  intro p l e s m args below meth c D cA A ad0 x H locs ls hE hl hP hD hS hL
  have K := kk p l e s m args below meth c D cA A ad0 x H locs ls hE hl hP hD hS hL
  obtain ⟨hx, hb, hml, hr, hlo, hown, hts, hK, hA, hnm⟩ := hE
  have hcat2 : ((st.map (cv (ad0 ++ x))).map fun v => v.category).sum ≤ 8 := by
    have e : (st.map (cv (ad0 ++ x))).map (fun v => v.category) = st.map (fun v => v.category) := by
      rw [List.map_map]; exact List.map_congr_left (fun v _ => cv_cat _ v)
    rw [e]; exact hcat
  exact va_mmax hx hb (by rw [hml]; exact hL.2.1.symm) hown (hts _ hlk) (hts _ hst) (hts _ wMath_in) (hts _ hco) (show 1 ≤ d + 1 by omega) (show _ ≤ 39 * (d + 1) by omega) hr1 hr2 hd K
end JMath
end
section
/-! ===== what is made ===== -/
def dfs (ci : Nat) : List Value := match clsL[ci]?, tyL[ci]? with
  | some (_, _, N), some ty => (List.range N).map (fun j => defaultValue (ty j))
  | _, _ => []
theorem cv_dflt (ad : List Nat) (t : FieldType) : cv ad (defaultValue t) = defaultValue t := by cases t <;> rfl
theorem cA_int {D : va_G} {cA : FieldType → ClassId} {s : State} {c' : ClassId} (hK : va_K D clsL (tysL cA) s) (hK' : va_K D clsL (tysL cA ++ [(c', .int)]) s) : c' = cA .int := by
  have h1 := (hK.2 0 _ rfl).2
  have h2 := (hK'.2 3 _ rfl).2
  exact Option.some.inj (h2.symm.trans h1)
theorem cA_bool {D : va_G} {cA : FieldType → ClassId} {s : State} {c' : ClassId} (hK : va_K D clsL (tysL cA) s) (hK' : va_K D clsL (tysL cA ++ [(c', .boolean)]) s) : c' = cA .boolean := by
  have h1 := (hK.2 1 _ rfl).2
  have h2 := (hK'.2 3 _ rfl).2
  exact Option.some.inj (h2.symm.trans h1)
theorem cA_rows {D : va_G} {cA : FieldType → ClassId} {s : State} {c' : ClassId} (hK : va_K D clsL (tysL cA) s) (hK' : va_K D clsL (tysL cA ++ [(c', .array .int)]) s) : c' = cA (.array .int) := by
  have h1 := (hK.2 2 _ rfl).2
  have h2 := (hK'.2 3 _ rfl).2
  exact Option.some.inj (h2.symm.trans h1)
theorem rep_getD (n j : Nat) : (List.replicate n (0 : Int32)).getD j 0 = 0 := by
  rw [List.getD_eq_getElem?_getD, List.getElem?_replicate]
  split <;> rfl
section JM
variable {M : MT} {d mc ms : Nat} {Q : Option Value → AH → Prop} {pc : Nat} {lv : List (Option Value)} {st : List Value} {hp : AH} {cs ss : Nat} {idx : Nat}
theorem J_new {ci N : Nat} {C : String} {T : u_T} (hd : decode M.by pc = .ok (.new idx, 3)) (hcl : Cond.classLink (cnm M.cn) idx C ∈ tb) (hinst : Cond.instantiable C N ∈ tb) (hini : Cond.initialized C ∈ tb) (hc : clsL[ci]? = some (C, T, N)) (hr1 : cs + 1 ≤ mc) (hr2 : ss + N ≤ ms) (hk1 : okH hp = true) (hk2 : okL hp.length lv = true) (hk3 : st.all (okV hp.length) = true)
    (kk : J M d mc ms Q (pc + 3) lv (.ref hp.length :: st) (hp ++ [.inr (.inr (ci, dfs ci))]) (cs + 1) (ss + N)) : J M d mc ms Q pc lv st hp cs ss := by
  intro p l e s m args below meth c D cA A ad0 x H locs ls hE hl hP hD hS hL
  have hE0 := hE
  obtain ⟨hx, hb, hml, hr, hlo, hown, hts, hK, hA, hnm⟩ := hE
  obtain ⟨hin, hne, ty, ht1, hty⟩ := clsL_ok hc
  have hdf : dfs ci = (List.range N).map (fun j => defaultValue (ty j)) := by unfold dfs; rw [hc, ht1]
  refine va_new (fs := dfs ci) hx hb hts hin ty hty hown (hts _ hcl) (hts _ hinst) (hts _ hini) hK hP hD hS hA hc (fun j hj => ?_) hr1 hr2 hd (fun q H1 hP1 hD1 hS1 => ?_)
  · rw [hdf]; unfold vp_V
    rw [List.getD_eq_getElem?_getD, List.getElem?_map, List.getElem?_range hj]; rfl
  · have hq : (ad0 ++ (x ++ [q])) = (ad0 ++ x) ++ [q] := (List.append_assoc _ _ _).symm
    have hfs : ∀ ad, (dfs ci).map (cv ad) = dfs ci := fun ad => by
      rw [hdf, List.map_map]; exact List.map_congr_left (fun j _ => cv_dflt ad _)
    have e9 : conc cA (ad0 ++ (x ++ [q])) (hp ++ [.inr (.inr (ci, dfs ci))]) = conc cA (ad0 ++ x) hp ++ [(q, .inr (ci, dfs ci))] := by
      rw [hq, conc_app hl hk1]
      simp only [List.zipWith_cons_cons, List.zipWith_nil_left, jC, hfs]
    rw [← e9] at hP1 hD1
    have hg : (ad0 ++ (x ++ [q])).getD hp.length 0 = q := by
      rw [hq, ← hl, List.getD_eq_getElem?_getD, List.getElem?_append_right (Nat.le_refl _), Nat.sub_self]; rfl
    have K := kk p l e s m args below meth c D cA A ad0 (x ++ [q]) H1 locs ls hE0 (by rw [hq, List.length_append, hl, List.length_append]; rfl) hP1 hD1 hS1 (by rw [hq]; exact jL_app hL (by rw [hl]; exact hk2))
    rw [List.map_cons] at K
    have e8 : st.map (cv (ad0 ++ (x ++ [q]))) = st.map (cv (ad0 ++ x)) := by rw [hq]; exact map_cv_app (by rw [hl]; exact hk3)
    rw [e8] at K
    have e7 : cv (ad0 ++ (x ++ [q])) (.ref hp.length) = .ref q := by show Value.ref _ = _; rw [hg]
    rw [e7] at K
    exact K
theorem J_newa {at_ : ArrayType} {ty : FieldType} {n : Int32} {k : Nat} (hd : decode M.by pc = .ok (.newarray at_, 2)) (hat : newarray.typeOf at_ = ty) (hty : ty = .int ∨ ty = .boolean) (hw : Cond.arrayClass ty ∈ tb) (hn : ¬ n < 0) (hk : n.toNatClampNeg = k) (hbig : k ≤ 100000) (hr1 : cs + 1 ≤ mc) (hr2 : ss + k ≤ ms) (hk1 : okH hp = true) (hk2 : okL hp.length lv = true) (hk3 : st.all (okV hp.length) = true)
    (kk : J M d mc ms Q (pc + 2) lv (.ref hp.length :: st) (hp ++ [.inl (ty, List.replicate k 0)]) (cs + 1) (ss + k)) : J M d mc ms Q pc lv (.int n :: st) hp cs ss := by
  intro p l e s m args below meth c D cA A ad0 x H locs ls hE hl hP hD hS hL
  have hE0 := hE
  obtain ⟨hx, hb, hml, hr, hlo, hown, hts, hK, hA, hnm⟩ := hE
  have hd0 : defaultValue ty = .int 0 := by rcases hty with h | h <;> rw [h] <;> rfl
  have hcb : componentBytes ty ≤ 4 := by rcases hty with h | h <;> rw [h] <;> decide
  refine va_newa (ty := ty) (a0 := (k, .inl (fun j => (List.replicate k 0).getD j 0))) hx hb (by rw [hat]; exact hts _ hw) hat hK hP hD hS hA (fun c9 => ?_) hn hk (Nat.le_trans (Nat.mul_le_mul_left k hcb) (by omega)) hr1 hr2 hd (fun q c9 H1 hK1 hP1 hD1 hS1 => ?_)
  · rw [vp_cell_i, hd0]
    congr 1
    funext j
    rw [rep_getD]
  · have hc9 : c9 = cA ty := by
      rcases hty with h | h
      · subst h; exact cA_int hK hK1
      · subst h; exact cA_bool hK hK1
    subst hc9
    have hq : (ad0 ++ (x ++ [q])) = (ad0 ++ x) ++ [q] := (List.append_assoc _ _ _).symm
    have e9 : conc cA (ad0 ++ (x ++ [q])) (hp ++ [.inl (ty, List.replicate k 0)]) = conc cA (ad0 ++ x) hp ++ [(q, .inl (cA ty, (k, .inl (fun j => (List.replicate k 0).getD j 0))))] := by
      rw [hq, conc_app hl hk1]
      simp only [List.zipWith_cons_cons, List.zipWith_nil_left, jC, List.length_replicate]
    rw [← e9] at hP1 hD1
    have hg : (ad0 ++ (x ++ [q])).getD hp.length 0 = q := by
      rw [hq, ← hl, List.getD_eq_getElem?_getD, List.getElem?_append_right (Nat.le_refl _), Nat.sub_self]; rfl
    have K := kk p l e s m args below meth c D cA A ad0 (x ++ [q]) H1 locs ls hE0 (by rw [hq, List.length_append, hl, List.length_append]; rfl) hP1 hD1 hS1 (by rw [hq]; exact jL_app hL (by rw [hl]; exact hk2))
    rw [List.map_cons] at K
    have e8 : st.map (cv (ad0 ++ (x ++ [q]))) = st.map (cv (ad0 ++ x)) := by rw [hq]; exact map_cv_app (by rw [hl]; exact hk3)
    rw [e8] at K
    have e7 : cv (ad0 ++ (x ++ [q])) (.ref hp.length) = .ref q := by show Value.ref _ = _; rw [hg]
    rw [e7] at K
    exact K
theorem J_mna {n k : Int32} {n' k' : Nat} (hd : decode M.by pc = .ok (.multianewarray idx 2, 4)) (hcl : Cond.classLink (cnm M.cn) idx "[[I" ∈ tb) (hw : Cond.arrayClass .int ∈ tb) (hn : ¬ n < 0) (hk : ¬ k < 0) (hN : n.toNatClampNeg = n') (hK' : k.toNatClampNeg = k') (hb1 : n' ≤ 1000) (hb2 : k' ≤ 1000) (hr1 : cs + (1 + n') ≤ mc) (hr2 : ss + (n' + n' * k') ≤ ms) (hk1 : okH hp = true) (hk2 : okL hp.length lv = true) (hk3 : st.all (okV hp.length) = true)
    (kk : J M d mc ms Q (pc + 4) lv (.ref hp.length :: st) (hp ++ (.inr (.inl ((List.range n').map (fun i => hp.length + 1 + i))) :: List.replicate n' (.inl (.int, List.replicate k' 0)))) (cs + 1 + n') (ss + n' + n' * k')) : J M d mc ms Q pc lv (.int k :: .int n :: st) hp cs ss := by
  intro p l e s m args below meth c D cA A ad0 x H locs ls hE hl hP hD hS hL
  have hE0 := hE
  obtain ⟨hx, hb, hml, hr, hlo, hown, hts, hK, hA, hnm⟩ := hE
  refine va_mna (X := conc cA (ad0 ++ x) hp) (L := []) (f := fun _ => .inr (0, [])) (ty := .int) (cy := cA .int) (z := (k', .inl (fun j => (List.replicate k' 0).getD j 0))) hx hb hown (hts _ hcl) hnm.2.2 (hts _ hw) (hK.2 0 _ rfl).2 hK (by simpa [va_pl] using hP) (by simpa [va_pl] using hD) hS hA hn hk hN hK' (by omega) (by show k' * 4 ≤ _; omega) (by omega) rfl rfl hr1 hr2 (fun c9 => ?_) hd (fun q r c9 H1 hinj hnot hK1 hP1 hD1 hS1 => ?_)
  · rw [vp_cell_i]
    have : (fun j => Value.int ((List.replicate k' (0 : Int32)).getD j 0)) = (fun _ => Value.int 0) := by funext j; rw [rep_getD]
    rw [this, ← arrV_new]; rfl
  · have hc9 : c9 = cA (.array .int) := cA_rows hK hK1
    subst hc9
    have hq : (ad0 ++ (x ++ (q :: (List.range n').map r))) = (ad0 ++ x) ++ (q :: (List.range n').map r) := (List.append_assoc _ _ _).symm
    have hrow : ∀ i, i < n' → ((ad0 ++ x) ++ (q :: (List.range n').map r)).getD (hp.length + 1 + i) 0 = r i := fun i hi => by
      rw [List.getD_eq_getElem?_getD, List.getElem?_append_right (by omega), ← hl]
      have : (ad0 ++ x).length + 1 + i - (ad0 ++ x).length = i + 1 := by omega
      rw [this, List.getElem?_cons_succ, List.getElem?_map, List.getElem?_range hi]; rfl
    have e9 : conc cA (ad0 ++ (x ++ (q :: (List.range n').map r))) (hp ++ (.inr (.inl ((List.range n').map (fun i => hp.length + 1 + i))) :: List.replicate n' (.inl (.int, List.replicate k' 0)))) = (conc cA (ad0 ++ x) hp ++ [(q, .inl (cA (.array .int), n', .inr (.inr (.inr (.inr (fun i => if i < n' then some (r i) else none))))))]) ++ va_pl ([] ++ (List.range n').map r) (vr_up (fun _ => .inr (0, [])) ((List.range n').map r) (.inl (cA .int, (k', .inl (fun j => (List.replicate k' 0).getD j 0))))) := by
      rw [hq, conc_app hl hk1, List.append_assoc (conc cA (ad0 ++ x) hp) [_]]
      congr 1
      rw [List.zipWith_cons_cons]
      show _ :: _ = _ :: _
      congr 1
      · simp only [jC, List.length_map, List.length_range]
        have : (fun j : Nat => (((List.range n').map (fun i => hp.length + 1 + i))[j]?).map (fun r' => ((ad0 ++ x) ++ (q :: (List.range n').map r)).getD r' 0)) = (fun i => if i < n' then some (r i) else none) := by
          funext j
          by_cases hj : j < n'
          · rw [List.getElem?_map, List.getElem?_range hj, if_pos hj]
            simp only [Option.map_some]
            rw [hrow j hj]
          · rw [List.getElem?_eq_none (by simp; omega), if_neg hj]; rfl
        rw [this]
      · show List.zipWith _ ((List.range n').map r) _ = List.map (fun a : Nat => ((a, vr_up (fun _ => (.inr (0, []) : va_E)) ((List.range n').map r) (.inl (cA .int, (k', .inl (fun j => (List.replicate k' 0).getD j 0))) : va_E) a) : Nat × va_E)) ((List.range n').map r)
        apply List.ext_getElem?
        intro j
        rw [List.getElem?_zipWith]
        generalize hF : (fun a : Nat => ((a, vr_up (fun _ => (.inr (0, []) : va_E)) ((List.range n').map r) (.inl (cA .int, (k', .inl (fun j => (List.replicate k' 0).getD j 0))) : va_E) a) : Nat × va_E)) = F
        have h2 : (List.map F ((List.range n').map r))[j]? = (((List.range n').map r)[j]?).map F := List.getElem?_map
        rw [h2]
        by_cases hj : j < n'
        · have h1 : ((List.range n').map r)[j]? = some (r j) := by rw [List.getElem?_map, List.getElem?_range hj]; rfl
          rw [h1, List.getElem?_replicate, if_pos hj]
          simp only [jC, List.length_replicate, Option.map_some]
          rw [← hF]
          simp only
          rw [vr_up_in (List.mem_of_getElem? h1)]
        · have h1 : ((List.range n').map r)[j]? = none := List.getElem?_eq_none (by simp; omega)
          rw [h1]; rfl
    rw [← e9] at hP1 hD1
    have hg : (ad0 ++ (x ++ (q :: (List.range n').map r))).getD hp.length 0 = q := by
      rw [hq, ← hl, List.getD_eq_getElem?_getD, List.getElem?_append_right (Nat.le_refl _), Nat.sub_self]; rfl
    have K := kk p l e s m args below meth c D cA A ad0 (x ++ (q :: (List.range n').map r)) H1 locs ls hE0 (by rw [hq, List.length_append, hl, List.length_append]; simp) hP1 hD1 hS1 (by rw [hq]; exact jL_app hL (by rw [hl]; exact hk2))
    rw [List.map_cons] at K
    have e8 : st.map (cv (ad0 ++ (x ++ (q :: (List.range n').map r)))) = st.map (cv (ad0 ++ x)) := by rw [hq]; exact map_cv_app (by rw [hl]; exact hk3)
    rw [e8] at K
    have e7 : cv (ad0 ++ (x ++ (q :: (List.range n').map r))) (.ref hp.length) = .ref q := by show Value.ref _ = _; rw [hg]
    rw [e7] at K
    exact K
end JM
end
section
/-! what the checks say -/
theorem mOkB_spec {k : Nat} (h : mOkB k = true) : ∃ M n, mtL[k]? = some M ∧ npL[k]? = some n ∧ nOk M ∧ np M = some n := by
  unfold mOkB at h
  split at h
  · rename_i M a b n h1 h2 h3
    simp only [Bool.and_eq_true, decide_eq_true_eq] at h
    obtain ⟨c1, c2, c3, c4, c5, c6, c7, c8⟩ := h
    exact ⟨M, n, h1, h3, ⟨chkW_in c1, chkW_in c2, ⟨c3, c4⟩, c5, c6, c7⟩, c8⟩
  · cases h
end
section
/-! ===== an evaluator over the tables, and that it speaks true ===== -/
def inB (i : Int32) (n : Nat) : Bool := !(decide (i < 0) || decide (n ≤ i.toNatClampNeg))
theorem inB_spec {i : Int32} {n : Nat} (h : inB i n = true) : vp_in i n := by
  unfold inB at h
  rw [Bool.not_eq_true', Bool.or_eq_false_iff, decide_eq_false_iff_not, decide_eq_false_iff_not] at h
  exact fun q => q.elim h.1 h.2
def catB (st : List Value) : Bool := decide ((st.map (fun v => v.category)).sum ≤ 8)
def lnB (i : Instr) (len : Nat) : Bool := match i with
  | .tableswitch _ _ _ _ => true
  | .lookupswitch _ _ => true
  | .getfield _ => len == 3
  | .putfield _ => len == 3
  | .ldc_w _ => len == 3
  | .ldc2_w _ => len == 3
  | .invokestatic _ => len == 3
  | .invokevirtual _ => len == 3
  | .invokespecial _ => len == 3
  | .ifCond _ _ => len == 3
  | .if_icmp _ _ => len == 3
  | .new _ => len == 3
  | .ldc _ => len == 2
  | .newarray _ => len == 2
  | .multianewarray _ _ => len == 4
  | j => len == sN j
def hA (d : Nat) (M : MT) (i : Instr) (pc : Nat) (st : List Value) (hp : AH) : Option (Nat × List Value × AH) := match i with
  | .getfield idx => match st with
    | .ref r :: st' => match fRes M.cn idx, hp[r]? with
      | some (ci, sl, _), some (.inr (.inr (cj, fs))) => if ci = cj then (match fs[sl]? with
        | some v => some (pc + 3, v :: st', hp)
        | none => none) else none
      | _, _ => none
    | _ => none
  | .putfield idx => match st with
    | v :: .ref r :: st' => match fRes M.cn idx, hp[r]? with
      | some (ci, sl, _), some (.inr (.inr (cj, fs))) => if ci = cj ∧ sl < fs.length ∧ fHold (fTy ci sl) v = true ∧ (fFin ci sl = false ∨ (ci = M.cn ∧ M.y.name = "<init>")) then some (pc + 3, st', hp.set r (.inr (.inr (ci, fs.set sl v)))) else none
      | _, _ => none
    | _ => none
  | .iaload => match st with
    | .int ix :: .ref r :: st' => match hp[r]? with
      | some (.inl (.int, xs)) => if inB ix xs.length = true then some (pc + 1, .int (xs.getD ix.toNatClampNeg 0) :: st', hp) else none
      | _ => none
    | _ => none
  | .iastore => match st with
    | .int y :: .int ix :: .ref r :: st' => match hp[r]? with
      | some (.inl (.int, xs)) => if inB ix xs.length = true then some (pc + 1, st', hp.set r (.inl (.int, xs.set ix.toNatClampNeg y))) else none
      | _ => none
    | _ => none
  | .baload => match st with
    | .int ix :: .ref r :: st' => match hp[r]? with
      | some (.inl (.boolean, xs)) => if inB ix xs.length = true then some (pc + 1, .int (xs.getD ix.toNatClampNeg 0) :: st', hp) else none
      | _ => none
    | _ => none
  | .bastore => match st with
    | .int y :: .int ix :: .ref r :: st' => match hp[r]? with
      | some (.inl (.boolean, xs)) => if inB ix xs.length = true then some (pc + 1, st', hp.set r (.inl (.boolean, xs.set ix.toNatClampNeg (vp_nar .boolean y)))) else none
      | _ => none
    | _ => none
  | .aaload => match st with
    | .int ix :: .ref r :: st' => match hp[r]? with
      | some (.inr (.inl rs)) => if inB ix rs.length = true then (match rs[ix.toNatClampNeg]? with
        | some q => some (pc + 1, .ref q :: st', hp)
        | none => none) else none
      | _ => none
    | _ => none
  | .arraylength => match st with
    | .ref r :: st' => match hp[r]? with
      | some (.inl (.int, xs)) => some (pc + 1, .int (Int32.ofNat xs.length) :: st', hp)
      | _ => none
    | _ => none
  | .idiv => match st with
    | .int y :: .int x :: st' => if y = 0 then none else some (pc + 1, .int (x / y) :: st', hp)
    | _ => none
  | .irem => match st with
    | .int y :: .int x :: st' => if y = 0 then none else some (pc + 1, .int (x - x / y * y) :: st', hp)
    | _ => none
  | .ldiv => match st with
    | .long y :: .long x :: st' => if y = 0 then none else some (pc + 1, .long (x / y) :: st', hp)
    | _ => none
  | .lrem => match st with
    | .long y :: .long x :: st' => if y = 0 then none else some (pc + 1, .long (x - x / y * y) :: st', hp)
    | _ => none
  | .tableswitch dflt lo hi offs => match st with
    | .int x :: st' => match swT dflt lo hi offs pc x with
      | some t => some (t, st', hp)
      | none => none
    | _ => none
  | .lookupswitch dflt ps => match st with
    | .int x :: st' => if (ps.toList.zip (ps.toList.drop 1)).all (fun (a, next) => a.1 < next.1) = true then (match tgt pc (Op.lookupswitch.offset ps.toList dflt x.toInt) with
      | some t => some (t, st', hp)
      | none => none) else none
    | _ => none
  | .ldc idx => match ciRes M.cn idx with
    | some (v, _) => some (pc + 2, .int v :: st, hp)
    | none => none
  | .ldc_w idx => match ciRes M.cn idx with
    | some (v, _) => some (pc + 3, .int v :: st, hp)
    | none => none
  | .ldc2_w idx => match clRes M.cn idx with
    | some (v, _) => some (pc + 3, .long v :: st, hp)
    | none => none
  | .invokespecial idx => match mRes M.cn idx, st with
    | some (kd, _, _, _, _), .ref _ :: st' => if kd = 5 ∧ catB st' = true ∧ 0 < d then some (pc + 3, st', hp) else none
    | _, _ => none
  | .invokestatic idx => match mRes M.cn idx, st with
    | some (kd, _, _, _, _), .int n :: .int dp :: .ref k1 :: .int sp :: .ref k0 :: st' => match hp[k0]?, hp[k1]? with
      | some (.inl (.int, xs)), some (.inl (.int, ys)) => if kd = 6 ∧ catB st' = true ∧ 0 < d ∧ ¬ sp < 0 ∧ ¬ dp < 0 ∧ ¬ n < 0 ∧ sp.toNatClampNeg + n.toNatClampNeg ≤ xs.length ∧ dp.toNatClampNeg + n.toNatClampNeg ≤ ys.length then some (pc + 3, st', hp.set k1 (.inl (.int, cpyL xs ys sp.toNatClampNeg dp.toNatClampNeg n.toNatClampNeg))) else none
      | _, _ => none
    | _, _ => none
  | _ => none
section JHA
variable {M : MT} {d mc ms : Nat} {Q : Option Value → AH → Prop} {pc pc' len : Nat} {lv : List (Option Value)} {st st' : List Value} {hp hp' : AH} {cs ss : Nat} {i : Instr}
theorem mRes_row {cn idx : Nat} {e : Nat × Nat × Nat × Nat × Nat} (h : mRes cn idx = some e) : mRowB cn (idx, e) = true := mrB_ok h
theorem J_h (hd : decode M.by pc = .ok (i, len)) (hn : lnB i len = true) (hs : hA d M i pc st hp = some (pc', st', hp')) (k : J M d mc ms Q pc' lv st' hp' cs ss) : J M d mc ms Q pc lv st hp cs ss := by
  cases i with
  | getfield idx =>
    have hl : len = 3 := by simpa [lnB] using hn
    subst hl
    simp only [hA] at hs
    split at hs
    · split at hs
      · rename_i ci sl w cj fs h1 h2
        split at hs
        · rename_i hc; subst hc
          split at hs
          · rename_i v hv; cases hs; exact J_get hd (fRes_ok h1) h2 hv k
          · cases hs
        · cases hs
      · cases hs
    · cases hs
  | putfield idx =>
    have hl : len = 3 := by simpa [lnB] using hn
    subst hl
    simp only [hA] at hs
    split at hs
    · split at hs
      · rename_i ci sl w cj fs h1 h2
        split at hs
        · rename_i hc
          obtain ⟨c1, c2, c3, c4⟩ := hc
          subst c1
          cases hs
          rcases c4 with c4 | ⟨c4, c5⟩
          · exact J_put hd (fRes_ok h1) h2 c2 c4 c3 k
          · by_cases hf : fFin ci sl = false
            · exact J_put hd (fRes_ok h1) h2 c2 hf c3 k
            · obtain ⟨C9, T9, N9, g1, g2, g3⟩ := fOk_spec (fRes_ok h1)
              refine J_putF hd (fRes_ok h1) h2 c2 (by simpa using hf) c5 (fun C T N hc => ?_) c3 k
              rw [g1] at hc
              cases hc
              rw [← c4]
              exact decl_own g1 g2
        · cases hs
      · cases hs
    · cases hs
  | iaload =>
    have hl : len = 1 := by simpa [lnB, sN] using hn
    subst hl
    simp only [hA] at hs
    split at hs
    · split at hs
      · rename_i xs h1
        split at hs
        · rename_i hi; cases hs; exact J_ald hd h1 (inB_spec hi) k
        · cases hs
      · cases hs
    · cases hs
  | iastore =>
    have hl : len = 1 := by simpa [lnB, sN] using hn
    subst hl
    simp only [hA] at hs
    split at hs
    · split at hs
      · rename_i xs h1
        split at hs
        · rename_i hi; cases hs; exact J_ast hd h1 (inB_spec hi) k
        · cases hs
      · cases hs
    · cases hs
  | baload =>
    have hl : len = 1 := by simpa [lnB, sN] using hn
    subst hl
    simp only [hA] at hs
    split at hs
    · split at hs
      · rename_i xs h1
        split at hs
        · rename_i hi; cases hs; exact J_zald hd h1 (inB_spec hi) k
        · cases hs
      · cases hs
    · cases hs
  | bastore =>
    have hl : len = 1 := by simpa [lnB, sN] using hn
    subst hl
    simp only [hA] at hs
    split at hs
    · split at hs
      · rename_i xs h1
        split at hs
        · rename_i hi; cases hs; exact J_zast hd h1 (inB_spec hi) k
        · cases hs
      · cases hs
    · cases hs
  | aaload =>
    have hl : len = 1 := by simpa [lnB, sN] using hn
    subst hl
    simp only [hA] at hs
    split at hs
    · split at hs
      · rename_i rs h1
        split at hs
        · rename_i hi
          split at hs
          · rename_i q hq; cases hs; exact J_aald hd h1 (inB_spec hi) hq k
          · cases hs
        · cases hs
      · cases hs
    · cases hs
  | arraylength =>
    have hl : len = 1 := by simpa [lnB, sN] using hn
    subst hl
    simp only [hA] at hs
    split at hs
    · split at hs
      · rename_i xs h1; cases hs; exact J_alen hd h1 rfl k
      · cases hs
    · cases hs
  | idiv =>
    have hl : len = 1 := by simpa [lnB, sN] using hn
    subst hl
    simp only [hA] at hs
    split at hs
    · split at hs
      · cases hs
      · rename_i hy; cases hs; exact J_idiv hd hy k
    · cases hs
  | irem =>
    have hl : len = 1 := by simpa [lnB, sN] using hn
    subst hl
    simp only [hA] at hs
    split at hs
    · split at hs
      · cases hs
      · rename_i hy; cases hs; exact J_irem hd hy k
    · cases hs
  | ldiv =>
    have hl : len = 1 := by simpa [lnB, sN] using hn
    subst hl
    simp only [hA] at hs
    split at hs
    · split at hs
      · cases hs
      · rename_i hy; cases hs; exact J_ldiv hd hy k
    · cases hs
  | lrem =>
    have hl : len = 1 := by simpa [lnB, sN] using hn
    subst hl
    simp only [hA] at hs
    split at hs
    · split at hs
      · cases hs
      · rename_i hy; cases hs; exact J_lrem hd hy k
    · cases hs
  | tableswitch dflt lo hi offs =>
    simp only [hA] at hs
    split at hs
    · split at hs
      · rename_i t ht; cases hs; exact J_tsw hd ht k
      · cases hs
    · cases hs
  | lookupswitch dflt ps =>
    simp only [hA] at hs
    split at hs
    · split at hs
      · rename_i hp0
        split at hs
        · rename_i t ht; cases hs; exact J_lsw hd hp0 ht k
        · cases hs
      · cases hs
    · cases hs
  | ldc idx =>
    have hl : len = 2 := by simpa [lnB] using hn
    subst hl
    simp only [hA] at hs
    split at hs
    · rename_i v w h1; cases hs; exact J_ldc hd (ciRes_ok h1) k
    · cases hs
  | ldc_w idx =>
    have hl : len = 3 := by simpa [lnB] using hn
    subst hl
    simp only [hA] at hs
    split at hs
    · rename_i v w h1; cases hs; exact J_ldcw hd (ciRes_ok h1) k
    · cases hs
  | ldc2_w idx =>
    have hl : len = 3 := by simpa [lnB] using hn
    subst hl
    simp only [hA] at hs
    split at hs
    · rename_i v w h1; cases hs; exact J_ldc2 hd (clRes_ok h1) k
    · cases hs
  | invokespecial idx =>
    have hl : len = 3 := by simpa [lnB] using hn
    subst hl
    simp only [hA] at hs
    split at hs
    · rename_i kd a1 a2 a3 a4 r st1 h1
      split at hs
      · rename_i hc
        obtain ⟨c1, c2, c3⟩ := hc
        cases hs
        obtain ⟨d', rfl⟩ : ∃ d', d = d' + 1 := ⟨d - 1, by omega⟩
        have hr := mRes_row h1
        subst c1
        simp [mRowB] at hr
        exact J_objI hd (chkW_in hr.1) (chkW_in hr.2.1) (chkW_in hr.2.2) (by simpa [catB] using c2) k
      · cases hs
    · cases hs
  | invokestatic idx =>
    have hl : len = 3 := by simpa [lnB] using hn
    subst hl
    simp only [hA] at hs
    split at hs
    · rename_i kd a1 a2 a3 a4 n dp k1 sp k0 st1 h1
      split at hs
      · rename_i xs ys g0 g1
        split at hs
        · rename_i hc
          obtain ⟨c1, c2, c3, c4, c5, c6, c7, c8⟩ := hc
          cases hs
          obtain ⟨d', rfl⟩ : ∃ d', d = d' + 1 := ⟨d - 1, by omega⟩
          have hr := mRes_row h1
          subst c1
          simp [mRowB] at hr
          exact J_acopy hd (chkW_in hr.1) (chkW_in hr.2.1) (chkW_in hr.2.2) wSys_in g0 g1 c4 c5 c6 c7 c8 (by simpa [catB] using c2) k
        · cases hs
      · cases hs
    · cases hs
  | _ => cases hs
end JHA
end
section
/-! ===== the evaluator ===== -/
def rA (rt : Option FieldType) (i : Instr) (st : List Value) : Option (Option Value) := match i with
  | .ireturn => match st with
    | [.int x] => match rt with
      | some .int => some (some (.int x))
      | some .boolean => if x = 0 ∨ x = 1 then some (some (.int x)) else none
      | _ => none
    | _ => none
  | .lreturn => match st with
    | [.long x] => match rt with
      | some .long => some (some (.long x))
      | _ => none
    | _ => none
  | .areturn => match st with
    | [.ref x] => match rt with
      | some (.object _) => some (some (.ref x))
      | some (.array _) => some (some (.ref x))
      | _ => none
    | _ => none
  | .return_ => match st with
    | [] => match rt with
      | none => some none
      | _ => none
    | _ => none
  | _ => none
/-- a call: the callee's number, its arguments, what is left -/
def kA (cn : Nat) (i : Instr) (st : List Value) (hp : AH) : Option (Nat × List Value × List Value) := match i with
  | .invokestatic idx => match mRes cn idx with
    | some (kd, N, _) => if (kd = 0 ∨ kd = 1) ∧ npL.getD N 0 ≤ st.length then some (N, (st.take (npL.getD N 0)).reverse, st.drop (npL.getD N 0)) else none
    | none => none
  | .invokevirtual idx => match mRes cn idx with
    | some (kd, N, _) => match st.drop (npL.getD N 0) with
      | .ref r :: st' => match hp[r]?, mtL[N]? with
        | some (.inr (.inr (ci, _))), some M => if kd = 2 ∧ ci = M.cn ∧ ci < 8 then some (N, .ref r :: (st.take (npL.getD N 0)).reverse, st') else none
        | _, _ => none
      | _ => none
    | none => none
  | .invokespecial idx => match mRes cn idx with
    | some (kd, N, _) => match st.drop (npL.getD N 0) with
      | .ref r :: st' => if kd = 3 ∨ kd = 4 then some (N, .ref r :: (st.take (npL.getD N 0)).reverse, st') else none
      | _ => none
    | none => none
  | _ => none
/-- Math's two -/
def xA (cn : Nat) (i : Instr) (st : List Value) : Option Value × List Value := match i with
  | .invokestatic idx => match mRes cn idx, st with
    | some (kd, _), .int y :: .int x :: st' => if kd = 7 then (some (.int (if y < x then y else x)), st') else if kd = 8 then (some (.int (if x < y then y else x)), st') else (none, [])
    | _, _ => (none, [])
  | _ => (none, [])
def aA (cn : Nat) (i : Instr) (st : List Value) (hp : AH) : Option (Nat × List Value × List AC × Nat × Nat) := match i with
  | .new idx => match nwRes cn idx with
    | some (ci, _) => match clsL[ci]? with
      | some (_, _, N) => some (3, st, [.inr (.inr (ci, dfs ci))], 1, N)
      | none => none
    | none => none
  | .newarray .int => match st with
    | .int n :: st' => if ¬ n < 0 ∧ n.toNatClampNeg ≤ 100000 then some (2, st', [.inl (.int, List.replicate n.toNatClampNeg 0)], 1, n.toNatClampNeg) else none
    | _ => none
  | .newarray .boolean => match st with
    | .int n :: st' => if ¬ n < 0 ∧ n.toNatClampNeg ≤ 100000 then some (2, st', [.inl (.boolean, List.replicate n.toNatClampNeg 0)], 1, n.toNatClampNeg) else none
    | _ => none
  | .multianewarray idx 2 => match mnRes cn idx, st with
    | some _, .int k :: .int n :: st' => if ¬ n < 0 ∧ ¬ k < 0 ∧ n.toNatClampNeg ≤ 1000 ∧ k.toNatClampNeg ≤ 1000 then some (4, st', .inr (.inl ((List.range n.toNatClampNeg).map (fun i => hp.length + 1 + i))) :: List.replicate n.toNatClampNeg (.inl (.int, List.replicate k.toNatClampNeg 0)), 1 + n.toNatClampNeg, n.toNatClampNeg + n.toNatClampNeg * k.toNatClampNeg) else none
    | _, _ => none
  | _ => none
abbrev OR : Type := Nat → Nat → List Value → AH → Option (Option Value × AH)
def noO : OR := fun _ _ _ _ => none
def ev (O : OR) : Nat → Nat → Nat → Nat → List (Option Value) → List Value → AH → Nat → Nat → Option (Option Value × AH × Nat × Nat)
  | 0, _, _, _, _, _, _, _, _ => none
  | f + 1, d, k, pc, lv, st, hp, cs, ss => match mtL[k]?, (cdL.getD k [])[pc]? with
    | some M, some (some (i, _)) => match sA i pc lv st with
      | some (pc', lv', st') => ev O f d k pc' lv' st' hp cs ss
      | none => match bA i pc st with
        | some (b, t, st') => if b = true then ev O f d k t lv st' hp cs ss else ev O f d k (pc + 3) lv st' hp cs ss
        | none => match hA d M i pc st hp with
          | some (pc', st', hp') => ev O f d k pc' lv st' hp' cs ss
          | none => match rA M.rt i st with
            | some v => some (v, hp, cs, ss)
            | none => match kA M.cn i st hp with
              | some (N, as, st') => match d, mtL[N]? with
                | d' + 1, some NM => match O d' N as hp with
                  | some (v, hp') => if catB st' = true then ev O f (d' + 1) k (pc + 3) lv (v.toList ++ st') hp' cs ss else none
                  | none => if catB st' = true ∧ (as.map (fun v => v.category)).sum ≤ NM.ml then (match ev O f d' N 0 (entL as NM.ml) [] hp 0 0 with
                  | some (v, hp', c', s') => if hp'.length = hp.length ∨ (okL hp.length lv = true ∧ st'.all (okV hp.length) = true) then ev O f (d' + 1) k (pc + 3) lv (v.toList ++ st') hp' (cs + c') (ss + s') else none
                  | none => none) else none
                | _, _ => none
              | none => match xA M.cn i st with
                | (some v, st') => if catB st' = true ∧ 0 < d then ev O f d k (pc + 3) lv (v :: st') hp cs ss else none
                | (none, _) => match aA M.cn i st hp with
                  | some (n, st', cl, c', s') => if okH hp = true ∧ okL hp.length lv = true ∧ st'.all (okV hp.length) = true then ev O f d k (pc + n) lv (.ref hp.length :: st') (hp ++ cl) (cs + c') (ss + s') else none
                  | none => none
    | _, _ => none
theorem lg_len (ad : List Nat) : ∀ as : List Value, (lg_sl (as.map (cv ad))).length = (as.map (fun v => v.category)).sum
  | [] => rfl
  | v :: as => by
    have ih := lg_len ad as
    unfold lg_sl at ih ⊢
    rw [List.map_cons, List.flatMap_cons, List.length_append, ih, List.map_cons, List.sum_cons, cv_cat]
    congr 1
    rcases lv_cat v with h | h <;> rw [h] <;> simp
def lnAll (k : Nat) : Bool := (cdL.getD k []).all (fun o => match o with
  | some (i, l) => lnB i l
  | none => true)
set_option maxRecDepth 100000 in
theorem lnAll_ok : (List.range 203).all lnAll = true := by decide +kernel
theorem mt_lt {k : Nat} {M : MT} (h : mtL[k]? = some M) : k < 203 := by
  have h1 := (List.getElem?_eq_some_iff.mp h).1
  have h2 : mtL.length = 203 := by decide +kernel
  omega
theorem mt_ok {k : Nat} {M : MT} (h : mtL[k]? = some M) : nOk M ∧ np M = some (npL.getD k 0) := by
  obtain ⟨M', n, h1, h2, h3, h4⟩ := mOkB_spec (mk_all (mt_lt h))
  rw [h] at h1
  cases h1
  refine ⟨h3, ?_⟩
  rw [List.getD_eq_getElem?_getD, h2]
  exact h4
theorem cd_at {k pc len : Nat} {M : MT} {i : Instr} (h : mtL[k]? = some M) (hc : (cdL.getD k [])[pc]? = some (some (i, len))) : decode M.by pc = .ok (i, len) ∧ lnB i len = true := by
  have hk := mt_lt h
  have h1 := ck_all hk
  unfold cdB at h1
  rw [h] at h1
  cases ht : cdL[k]? with
  | none => rw [ht] at h1; cases h1
  | some t =>
    rw [ht] at h1
    have hg : cdL.getD k [] = t := by rw [List.getD_eq_getElem?_getD, ht]; rfl
    rw [hg] at hc
    refine ⟨by have := cdOk_spec h1 pc (i, len) hc; rwa [Nat.zero_add] at this, ?_⟩
    have h2 := List.all_eq_true.mp lnAll_ok k (List.mem_range.mpr hk)
    unfold lnAll at h2
    rw [hg] at h2
    exact List.all_eq_true.mp h2 _ (List.mem_of_getElem? hc)
theorem cls_nm {ci : Nat} (h : ci < 8) : (clsL[ci]?).map (fun q => q.1) = some (cnm ci) := by
  match ci, h with
  | 0, _ => rfl
  | 1, _ => rfl
  | 2, _ => rfl
  | 3, _ => rfl
  | 4, _ => rfl
  | 5, _ => rfl
  | 6, _ => rfl
  | 7, _ => rfl
/-- rows that need no callee: lengths out of lnB -/
theorem sA_len {i : Instr} {pc len : Nat} {lv : List (Option Value)} {st : List Value} {r : Nat × List (Option Value) × List Value} (hs : sA i pc lv st = some r) (hn : lnB i len = true) : len = sN i := by
  cases i <;> first | (exact (by simpa [lnB] using hn)) | (cases hs)
theorem bA_len {i : Instr} {pc len : Nat} {st : List Value} {r : Bool × Nat × List Value} (hs : bA i pc st = some r) (hn : lnB i len = true) : len = 3 := by
  cases i <;> first | (exact (by simpa [lnB] using hn)) | (cases hs)
theorem J_r {M : MT} {d mc ms pc len cs ss : Nat} {lv : List (Option Value)} {st : List Value} {hp : AH} {i : Instr} {v : Option Value} {Q : Option Value → AH → Prop} (hd : decode M.by pc = .ok (i, len)) (hn : lnB i len = true) (hr : rA M.rt i st = some v) (h1 : cs ≤ mc) (h2 : ss ≤ ms) (hQ : Q v hp) : J M d mc ms Q pc lv st hp cs ss := by
  cases i with
  | ireturn =>
    have hl : len = 1 := by simpa [lnB, sN] using hn
    subst hl
    simp only [rA] at hr
    split at hr
    · split at hr
      · rename_i hrt; cases hr; exact J_iret hd hrt rfl h1 h2 hQ
      · rename_i hrt
        split at hr
        · rename_i hx; cases hr
          refine J_iret hd hrt ?_ h1 h2 hQ
          rcases hx with hx | hx <;> subst hx <;> rfl
        · cases hr
      · cases hr
    · cases hr
  | lreturn =>
    have hl : len = 1 := by simpa [lnB, sN] using hn
    subst hl
    simp only [rA] at hr
    split at hr
    · split at hr
      · rename_i hrt; cases hr; exact J_lret hd hrt h1 h2 hQ
      · cases hr
    · cases hr
  | areturn =>
    have hl : len = 1 := by simpa [lnB, sN] using hn
    subst hl
    simp only [rA] at hr
    split at hr
    · split at hr
      · rename_i hrt; cases hr; exact J_aret hd hrt (Or.inl ⟨_, rfl⟩) h1 h2 hQ
      · rename_i hrt; cases hr; exact J_aret hd hrt (Or.inr ⟨_, rfl⟩) h1 h2 hQ
      · cases hr
    · cases hr
  | return_ =>
    have hl : len = 1 := by simpa [lnB, sN] using hn
    subst hl
    simp only [rA] at hr
    split at hr
    · split at hr
      · rename_i hrt; cases hr; exact J_vret hd hrt h1 h2 hQ
      · cases hr
    · cases hr
  | _ => cases hr
theorem J_k {M NM : MT} {d mc ms pc len cs ss c' s' N : Nat} {lv : List (Option Value)} {st as st' : List Value} {hp : AH} {i : Instr} {Q Q' : Option Value → AH → Prop} (hd : decode M.by pc = .ok (i, len)) (hn : lnB i len = true) (hk : kA M.cn i st hp = some (N, as, st')) (hN : mtL[N]? = some NM) (hcat : catB st' = true) (h1 : cs + c' ≤ mc) (h2 : ss + s' ≤ ms) (hok : cOk hp lv st' Q') (C : Ct NM d c' s' as hp Q')
    (kk : ∀ v hp', Q' v hp' → J M (d + 1) mc ms Q (pc + 3) lv (v.toList ++ st') hp' (cs + c') (ss + s')) : J M (d + 1) mc ms Q pc lv st hp cs ss := by
  obtain ⟨hNk, hnp⟩ := mt_ok hN
  have hcat' : (st'.map (fun v => v.category)).sum ≤ 8 := by simpa [catB] using hcat
  cases i with
  | invokestatic idx =>
    have hl : len = 3 := by simpa [lnB] using hn
    subst hl
    simp only [kA] at hk
    split at hk
    · rename_i kd N0 a1 h0
      split at hk
      · rename_i hc
        obtain ⟨hkd, hlen⟩ := hc
        cases hk
        have hr := mRes_row h0
        have e : st = ((st.take (npL.getD N 0)).reverse).reverse ++ st.drop (npL.getD N 0) := by rw [List.reverse_reverse, List.take_append_drop]
        have hl2 : np NM = some ((st.take (npL.getD N 0)).reverse).length := by rw [hnp, List.length_reverse, List.length_take, Nat.min_eq_left hlen]
        rw [e]
        rcases hkd with hkd | hkd
        · subst hkd
          simp [mRowB, hN] at hr
          exact J_callS hd hNk (chkW_in hr.1) (chkW_in hr.2) hl2 hcat' h1 h2 hok C kk
        · subst hkd
          simp [mRowB, hN] at hr
          exact J_callSN hd hNk (chkN_in hr.1) (chkW_in hr.2) hl2 hcat' h1 h2 hok C kk
      · cases hk
    · cases hk
  | invokevirtual idx =>
    have hl : len = 3 := by simpa [lnB] using hn
    subst hl
    simp only [kA] at hk
    split at hk
    · rename_i kd N0 a1 h0
      split at hk
      · rename_i r st1 hdrop
        split at hk
        · rename_i ci fs M0 g0 g1
          split at hk
          · rename_i hc
            obtain ⟨hkd, hci, hci8⟩ := hc
            cases hk
            rw [hN] at g1
            cases g1
            have hr := mRes_row h0
            have hlen : npL.getD N 0 ≤ st.length := by
              have : (st.drop (npL.getD N 0)).length = st'.length + 1 := by rw [hdrop]; rfl
              rw [List.length_drop] at this
              omega
            have e : st = ((st.take (npL.getD N 0)).reverse).reverse ++ .ref r :: st' := by rw [List.reverse_reverse, ← hdrop, List.take_append_drop]
            have hl2 : np NM = some ((st.take (npL.getD N 0)).reverse).length := by rw [hnp, List.length_reverse, List.length_take, Nat.min_eq_left hlen]
            rw [e]
            subst hkd
            simp [mRowB, hN] at hr
            exact J_callV hd hNk (chkW_in hr.1) (chkW_in hr.2.1) (chkW_in hr.2.2) hl2 g0 (by rw [cls_nm hci8, hci, hNk.2.2.2.2.2]) hcat' h1 h2 hok C kk
          · cases hk
        · cases hk
      · cases hk
    · cases hk
  | invokespecial idx =>
    have hl : len = 3 := by simpa [lnB] using hn
    subst hl
    simp only [kA] at hk
    split at hk
    · rename_i kd N0 a1 h0
      split at hk
      · rename_i r st1 hdrop
        split at hk
        · rename_i hkd
          cases hk
          have hr := mRes_row h0
          have hlen : npL.getD N 0 ≤ st.length := by
            have : (st.drop (npL.getD N 0)).length = st'.length + 1 := by rw [hdrop]; rfl
            rw [List.length_drop] at this
            omega
          have e : st = ((st.take (npL.getD N 0)).reverse).reverse ++ .ref r :: st' := by rw [List.reverse_reverse, ← hdrop, List.take_append_drop]
          have hl2 : np NM = some ((st.take (npL.getD N 0)).reverse).length := by rw [hnp, List.length_reverse, List.length_take, Nat.min_eq_left hlen]
          rw [e]
          rcases hkd with hkd | hkd
          · subst hkd
            simp [mRowB, hN] at hr
            exact J_callI hd hNk hr.2.2.1 (chkW_in hr.1) (chkW_in hr.2.1) hr.2.2.2 hl2 hcat' h1 h2 hok C kk
          · subst hkd
            simp [mRowB, hN] at hr
            exact J_callIN hd hNk hr.2.2.1 (chkN_in hr.1) (chkW_in hr.2.1) hr.2.2.2 hl2 hcat' h1 h2 hok C kk
        · cases hk
      · cases hk
    · cases hk
  | _ => cases hk
end
section
theorem J_x {M : MT} {d mc ms pc len cs ss : Nat} {lv : List (Option Value)} {st st' : List Value} {hp : AH} {i : Instr} {v : Value} {Q : Option Value → AH → Prop} (hd : decode M.by pc = .ok (i, len)) (hn : lnB i len = true) (hx : xA M.cn i st = (some v, st')) (hcat : catB st' = true) (hd0 : 0 < d) (h1 : cs ≤ mc) (h2 : ss ≤ ms) (k : J M d mc ms Q (pc + 3) lv (v :: st') hp cs ss) : J M d mc ms Q pc lv st hp cs ss := by
  obtain ⟨d', rfl⟩ : ∃ d', d = d' + 1 := ⟨d - 1, by omega⟩
  have hcat' : (st'.map (fun v => v.category)).sum ≤ 8 := by simpa [catB] using hcat
  cases i with
  | invokestatic idx =>
    have hl : len = 3 := by simpa [lnB] using hn
    subst hl
    simp only [xA] at hx
    split at hx
    · rename_i kd e0 y x st1 h0
      have hr := mRes_row h0
      split at hx
      · rename_i hk
        subst hk
        cases hx
        simp [mRowB] at hr
        exact J_min hd (chkW_in hr.1) (chkW_in hr.2.1) (chkW_in hr.2.2) hcat' h1 h2 k
      · split at hx
        · rename_i hk
          subst hk
          cases hx
          simp [mRowB] at hr
          exact J_max hd (chkW_in hr.1) (chkW_in hr.2.1) (chkW_in hr.2.2) hcat' h1 h2 k
        · cases hx
    · cases hx
  | _ => cases hx
theorem J_a {M : MT} {d mc ms pc len cs ss n c' s' : Nat} {lv : List (Option Value)} {st st' : List Value} {hp : AH} {cl : List AC} {i : Instr} {Q : Option Value → AH → Prop} (hd : decode M.by pc = .ok (i, len)) (hn : lnB i len = true) (ha : aA M.cn i st hp = some (n, st', cl, c', s')) (hk1 : okH hp = true) (hk2 : okL hp.length lv = true) (hk3 : st'.all (okV hp.length) = true) (h1 : cs + c' ≤ mc) (h2 : ss + s' ≤ ms) (k : J M d mc ms Q (pc + n) lv (.ref hp.length :: st') (hp ++ cl) (cs + c') (ss + s')) : J M d mc ms Q pc lv st hp cs ss := by
  unfold aA at ha
  split at ha
  · rename_i idx
    have hl : len = 3 := by simpa [lnB] using hn
    subst hl
    split at ha
    · rename_i ci e0 h0
      split at ha
      · rename_i C T N hc
        cases ha
        have hr := tab_row nwB_ok (by decide) h0
        unfold nwRowB at hr
        simp only [hc, Bool.and_eq_true] at hr
        exact J_new hd (chkW_in hr.1) (chkW_in hr.2.1) (chkW_in hr.2.2) hc h1 h2 hk1 hk2 hk3 k
      · cases ha
    · cases ha
  · have hl : len = 2 := by simpa [lnB] using hn
    subst hl
    split at ha
    · split at ha
      · rename_i hc; cases ha; exact J_newa hd rfl (Or.inl rfl) wArrI_in hc.1 rfl hc.2 h1 h2 hk1 hk2 hk3 k
      · cases ha
    · cases ha
  · have hl : len = 2 := by simpa [lnB] using hn
    subst hl
    split at ha
    · split at ha
      · rename_i hc; cases ha; exact J_newa hd rfl (Or.inr rfl) wArrZ_in hc.1 rfl hc.2 h1 h2 hk1 hk2 hk3 k
      · cases ha
    · cases ha
  · rename_i idx
    have hl : len = 4 := by simpa [lnB] using hn
    subst hl
    split at ha
    · rename_i w kk nn st1 h0
      split at ha
      · rename_i hc
        cases ha
        have hr := tab_row mnB_ok (by decide) h0
        unfold mnRowB at hr
        refine J_mna hd (chkW_in hr) wArrI_in hc.1 hc.2.1 rfl rfl hc.2.2.1 hc.2.2.2 h1 h2 hk1 hk2 hk3 ?_
        rw [← Nat.add_assoc, ← Nat.add_assoc] at k
        exact k
      · cases ha
    · cases ha
  · cases ha
def oOk (O : OR) : Prop := ∀ (d N : Nat) (NM : MT) (as : List Value) (hp : AH) (v : Option Value) (hp' : AH), O d N as hp = some (v, hp') → mtL[N]? = some NM → hp'.length = hp.length ∧ Ct NM d 0 0 as hp (fun v2 hp2 => v2 = v ∧ hp2 = hp')
theorem noO_ok : oOk noO := fun d N NM as hp v hp' h => by cases h
set_option maxHeartbeats 4000000 in
theorem ev_J {O : OR} (hO : oOk O) : ∀ (f d k pc : Nat) (lv : List (Option Value)) (st : List Value) (hp : AH) (cs ss : Nat) (v : Option Value) (hp' : AH) (c' s' : Nat), ev O f d k pc lv st hp cs ss = some (v, hp', c', s') → cs ≤ c' ∧ ss ≤ s' ∧ ∀ M, mtL[k]? = some M → ∀ mc ms, c' ≤ mc → s' ≤ ms → J M d mc ms (fun v2 hp2 => v2 = v ∧ hp2 = hp') pc lv st hp cs ss := by
  intro f
  induction f with
  | zero => intro d k pc lv st hp cs ss v hp' c' s' h; simp only [ev] at h; cases h
  | succ f ih =>
    intro d k pc lv st hp cs ss v hp' c' s' h
    simp only [ev] at h
    split at h
    · rename_i M i len hM hc
      obtain ⟨hd, hn⟩ := cd_at hM hc
      split at h
      · rename_i pc1 lv1 st1 hs
        obtain ⟨a, b, c⟩ := ih _ _ _ _ _ _ _ _ _ _ _ _ h
        refine ⟨a, b, fun M' hM' mc ms h1 h2 => ?_⟩
        rw [hM] at hM'; cases hM'
        have hl := sA_len hs hn
        subst hl
        exact J_s hd hs (c M hM mc ms h1 h2)
      · split at h
        · rename_i bb t st1 hs
          have hl := bA_len hs hn
          subst hl
          split at h
          · rename_i hb
            obtain ⟨a, b, c⟩ := ih _ _ _ _ _ _ _ _ _ _ _ _ h
            refine ⟨a, b, fun M' hM' mc ms h1 h2 => ?_⟩
            rw [hM] at hM'; cases hM'
            exact J_b hd hs (fun _ => c M hM mc ms h1 h2) (fun q => by rw [hb] at q; cases q)
          · rename_i hb
            obtain ⟨a, b, c⟩ := ih _ _ _ _ _ _ _ _ _ _ _ _ h
            refine ⟨a, b, fun M' hM' mc ms h1 h2 => ?_⟩
            rw [hM] at hM'; cases hM'
            exact J_b hd hs (fun q => absurd q hb) (fun _ => c M hM mc ms h1 h2)
        · split at h
          · rename_i pc1 st1 hp1 hs
            obtain ⟨a, b, c⟩ := ih _ _ _ _ _ _ _ _ _ _ _ _ h
            refine ⟨a, b, fun M' hM' mc ms h1 h2 => ?_⟩
            rw [hM] at hM'; cases hM'
            exact J_h hd hn hs (c M hM mc ms h1 h2)
          · split at h
            · rename_i v1 hs
              cases h
              refine ⟨Nat.le_refl _, Nat.le_refl _, fun M' hM' mc ms h1 h2 => ?_⟩
              rw [hM] at hM'; cases hM'
              exact J_r hd hn hs h1 h2 ⟨rfl, rfl⟩
            · split at h
              · rename_i N as st1 hk
                split at h
                · rename mtL[N]? = some _ => hN
                  split at h
                  · rename_i v1 hp1 hor
                    split at h
                    · rename_i hc1
                      obtain ⟨a, b, c⟩ := ih _ _ _ _ _ _ _ _ _ _ _ _ h
                      obtain ⟨o1, o2⟩ := hO _ _ _ _ _ _ _ hor hN
                      refine ⟨a, b, fun M' hM' mc ms h1 h2 => ?_⟩
                      rw [hM] at hM'; cases hM'
                      refine J_k (c' := 0) (s' := 0) hd hn hk hN hc1 (by omega) (by omega) (Or.inl (fun v2 hp2 hq => by rw [hq.2]; exact o1)) o2 (fun v2 hp2 hq => ?_)
                      obtain ⟨rfl, rfl⟩ := hq
                      exact c M hM mc ms h1 h2
                    · cases h
                  · split at h
                    · rename_i hc1
                      split at h
                      · rename_i v1 hp1 c1 s1 hev
                        split at h
                        · rename_i hok
                          obtain ⟨a1, b1, j1⟩ := ih _ _ _ _ _ _ _ _ _ _ _ _ hev
                          obtain ⟨a, b, c⟩ := ih _ _ _ _ _ _ _ _ _ _ _ _ h
                          refine ⟨by omega, by omega, fun M' hM' mc ms h1 h2 => ?_⟩
                          rw [hM] at hM'; cases hM'
                          have C : Ct _ _ c1 s1 as hp (fun v2 hp2 => v2 = v1 ∧ hp2 = hp1) := Ct_of_J (mt_ok hN).1 (fun ad => by rw [lg_len]; exact hc1.2) (j1 _ hN c1 s1 (Nat.le_refl _) (Nat.le_refl _))
                          refine J_k hd hn hk hN hc1.1 (by omega) (by omega) ?_ C (fun v2 hp2 hq => ?_)
                          · rcases hok with hok | hok
                            · exact Or.inl (fun v2 hp2 hq => by rw [hq.2]; exact hok)
                            · exact Or.inr hok
                          · obtain ⟨rfl, rfl⟩ := hq
                            exact c M hM mc ms h1 h2
                        · cases h
                      · cases h
                    · cases h
                · cases h
              · split at h
                · rename_i v1 st1 hx
                  split at h
                  · rename_i hc1
                    obtain ⟨a, b, c⟩ := ih _ _ _ _ _ _ _ _ _ _ _ _ h
                    refine ⟨a, b, fun M' hM' mc ms h1 h2 => ?_⟩
                    rw [hM] at hM'; cases hM'
                    exact J_x hd hn hx hc1.1 hc1.2 (by omega) (by omega) (c M hM mc ms h1 h2)
                  · cases h
                · split at h
                  · rename_i n st1 cl c1 s1 ha
                    split at h
                    · rename_i hc1
                      obtain ⟨a, b, c⟩ := ih _ _ _ _ _ _ _ _ _ _ _ _ h
                      refine ⟨by omega, by omega, fun M' hM' mc ms h1 h2 => ?_⟩
                      rw [hM] at hM'; cases hM'
                      exact J_a hd hn ha hc1.1 hc1.2.1 hc1.2.2 (by omega) (by omega) (c M hM mc ms h1 h2)
                    · cases h
                  · cases h
    · cases h
/-- a contract by evaluation -/
theorem Ct_ev {O : OR} (hO : oOk O) {f d k c' s' : Nat} {M : MT} {as : List Value} {hp hp' : AH} {v : Option Value} (hM : mtL[k]? = some M) (hs : (as.map (fun v => v.category)).sum ≤ M.ml) (h : ev O f d k 0 (entL as M.ml) [] hp 0 0 = some (v, hp', c', s')) : Ct M d c' s' as hp (fun v2 hp2 => v2 = v ∧ hp2 = hp') :=
  Ct_of_J (mt_ok hM).1 (fun ad => by rw [lg_len]; exact hs) ((ev_J hO _ _ _ _ _ _ _ _ _ _ _ _ _ h).2.2 M hM c' s' (Nat.le_refl _) (Nat.le_refl _))
end
section
/-! ===== abstract ints: a name plus a constant; names in bounds ===== -/
abbrev AN : Type := Option Nat × Int
abbrev BD : Type := List (Int × Int)
/-- an int, a reference, or a long (known, or any) -/
abbrev AVa : Type := AN ⊕ (Nat ⊕ Option Int64)
def den (ρ : Nat → Int) (n : AN) : Int := match n.1 with
  | none => n.2
  | some j => ρ j + n.2
def okN (B : BD) (n : AN) : Prop := ∀ j, n.1 = some j → j < B.length
def rN (B : BD) (ρ : Nat → Int) (n : AN) (x : Int32) : Prop := okN B n ∧ x.toInt = den ρ n
def okB (B : BD) (ρ : Nat → Int) : Prop := ∀ (j : Nat) (b : Int × Int), B[j]? = some b → b.1 ≤ ρ j ∧ ρ j ≤ b.2
def ext (B : BD) (ρ : Nat → Int) (B' : BD) (ρ' : Nat → Int) : Prop := B.length ≤ B'.length ∧ ∀ j, j < B.length → ρ' j = ρ j
theorem ext_rf {B : BD} {ρ : Nat → Int} : ext B ρ B ρ := ⟨Nat.le_refl _, fun _ _ => rfl⟩
theorem ext_tr {B1 B2 B3 : BD} {r1 r2 r3 : Nat → Int} (h1 : ext B1 r1 B2 r2) (h2 : ext B2 r2 B3 r3) : ext B1 r1 B3 r3 := ⟨Nat.le_trans h1.1 h2.1, fun j hj => (h2.2 j (Nat.lt_of_lt_of_le hj h1.1)).trans (h1.2 j hj)⟩
theorem rN_ext {B B' : BD} {ρ ρ' : Nat → Int} (e : ext B ρ B' ρ') {n : AN} {x : Int32} (h : rN B ρ n x) : rN B' ρ' n x := by
  refine ⟨fun j hj => Nat.lt_of_lt_of_le (h.1 j hj) e.1, h.2.trans ?_⟩
  unfold den
  cases hn : n.1 with
  | none => rfl
  | some j => simp only; rw [e.2 j (h.1 j hn)]
def i32 (lo hi : Int) : Bool := decide (-2147483648 ≤ lo) && decide (hi ≤ 2147483647)
def bnd (B : BD) (n : AN) : Int × Int := match n.1 with
  | none => (n.2, n.2)
  | some j => match B[j]? with
    | some b => (b.1 + n.2, b.2 + n.2)
    | none => (-2147483648, 2147483647)
theorem int32_lo (x : Int32) : -2147483648 ≤ x.toInt := by
  have := x.le_toInt
  have h : Int32.minValue.toInt = -2147483648 := by decide
  omega
theorem int32_hi (x : Int32) : x.toInt ≤ 2147483647 := by
  have := x.toInt_le
  have h : Int32.maxValue.toInt = 2147483647 := by decide
  omega
theorem bnd_ok {B : BD} {ρ : Nat → Int} (hB : okB B ρ) {n : AN} {x : Int32} (h : rN B ρ n x) : (bnd B n).1 ≤ x.toInt ∧ x.toInt ≤ (bnd B n).2 := by
  have h1 := int32_lo x
  have h2 := int32_hi x
  have hd := h.2
  unfold bnd
  unfold den at hd
  cases hn : n.1 with
  | none => rw [hn] at hd; simp only at hd ⊢; omega
  | some j =>
    rw [hn] at hd
    simp only at hd ⊢
    cases hj : B[j]? with
    | none => simp only; omega
    | some b =>
      have := hB j b hj
      simp only
      omega
/-- a new name -/
def ups (ρ : Nat → Int) (k : Nat) (v : Int) : Nat → Int := fun j => if j = k then v else ρ j
theorem new_ext {B : BD} {ρ : Nat → Int} (b : Int × Int) (v : Int) : ext B ρ (B ++ [b]) (ups ρ B.length v) := by
  refine ⟨by rw [List.length_append]; omega, fun j hj => ?_⟩
  unfold ups
  rw [if_neg (by omega)]
theorem new_ok {B : BD} {ρ : Nat → Int} (hB : okB B ρ) {b : Int × Int} {v : Int} (h1 : b.1 ≤ v) (h2 : v ≤ b.2) : okB (B ++ [b]) (ups ρ B.length v) := by
  intro j q hj
  by_cases hl : j < B.length
  · rw [List.getElem?_append_left hl] at hj
    unfold ups
    rw [if_neg (by omega)]
    exact hB j q hj
  · rw [List.getElem?_append_right (by omega)] at hj
    have hz : j - B.length < 1 := (List.getElem?_eq_some_iff.mp hj).1
    have he : j = B.length := by omega
    subst he
    rw [Nat.sub_self] at hj
    cases hj
    unfold ups
    rw [if_pos rfl]
    exact ⟨h1, h2⟩
theorem new_rN {B : BD} {ρ : Nat → Int} {b : Int × Int} {x : Int32} : rN (B ++ [b]) (ups ρ B.length x.toInt) (some B.length, 0) x := by
  refine ⟨fun j hj => ?_, ?_⟩
  · cases hj; rw [List.length_append]; exact Nat.lt_succ_self _
  · unfold den ups
    simp
/-- narrowing a name's bounds -/
def narH (B : BD) (n : AN) (hi : Int) : BD := match n.1 with
  | none => B
  | some j => match B[j]? with
    | some b => B.set j (b.1, min b.2 (hi - n.2))
    | none => B
def narL (B : BD) (n : AN) (lo : Int) : BD := match n.1 with
  | none => B
  | some j => match B[j]? with
    | some b => B.set j (max b.1 (lo - n.2), b.2)
    | none => B
theorem set_okB {B : BD} {ρ : Nat → Int} (hB : okB B ρ) {j : Nat} {b : Int × Int} (h : b.1 ≤ ρ j ∧ ρ j ≤ b.2) : okB (B.set j b) ρ := by
  intro k q hk
  by_cases hkj : k = j
  · subst hkj
    by_cases hl : k < B.length
    · rw [List.getElem?_set_self hl] at hk
      cases hk
      exact h
    · rw [List.getElem?_eq_none (by rw [List.length_set]; omega)] at hk
      cases hk
  · rw [List.getElem?_set_ne (Ne.symm hkj)] at hk
    exact hB k q hk
theorem narH_len (B : BD) (n : AN) (hi : Int) : (narH B n hi).length = B.length := by
  unfold narH
  split
  · rfl
  · split
    · rw [List.length_set]
    · rfl
theorem narL_len (B : BD) (n : AN) (lo : Int) : (narL B n lo).length = B.length := by
  unfold narL
  split
  · rfl
  · split
    · rw [List.length_set]
    · rfl
theorem narH_ok {B : BD} {ρ : Nat → Int} (hB : okB B ρ) {n : AN} {x : Int32} (h : rN B ρ n x) {hi : Int} (h1 : x.toInt ≤ hi) : okB (narH B n hi) ρ := by
  unfold narH
  have hd := h.2
  unfold den at hd
  split
  · exact hB
  · rename_i j hj
    rw [hj] at hd
    split
    · rename_i b hb
      have := hB j b hb
      refine set_okB hB ?_
      simp only at hd ⊢
      omega
    · exact hB
theorem narL_ok {B : BD} {ρ : Nat → Int} (hB : okB B ρ) {n : AN} {x : Int32} (h : rN B ρ n x) {lo : Int} (h1 : lo ≤ x.toInt) : okB (narL B n lo) ρ := by
  unfold narL
  have hd := h.2
  unfold den at hd
  split
  · exact hB
  · rename_i j hj
    rw [hj] at hd
    split
    · rename_i b hb
      have := hB j b hb
      refine set_okB hB ?_
      simp only at hd ⊢
      omega
    · exact hB
theorem narH_ext {B : BD} {ρ : Nat → Int} {n : AN} {hi : Int} : ext B ρ (narH B n hi) ρ := ⟨by rw [narH_len]; exact Nat.le_refl _, fun _ _ => rfl⟩
theorem narL_ext {B : BD} {ρ : Nat → Int} {n : AN} {lo : Int} : ext B ρ (narL B n lo) ρ := ⟨by rw [narL_len]; exact Nat.le_refl _, fun _ _ => rfl⟩
/-! ===== comparing: what each way says of the two; none: it cannot be ===== -/
def leB (B : BD) (a b : AN) : Option BD := if (bnd B b).2 < (bnd B a).1 then none else some (narL (narH B a (bnd B b).2) b (bnd B a).1)
def ltB (B : BD) (a b : AN) : Option BD := if (bnd B b).2 ≤ (bnd B a).1 then none else some (narL (narH B a ((bnd B b).2 - 1)) b ((bnd B a).1 + 1))
def eqB (B : BD) (a b : AN) : Option BD := if (bnd B b).2 < (bnd B a).1 ∨ (bnd B a).2 < (bnd B b).1 then none else some (narL (narH (narL (narH B a (bnd B b).2) b (bnd B a).1) b (bnd B a).2) a (bnd B b).1)
/-- not alike: an end that is the other's only number is cut off -/
def neB (B : BD) (a b : AN) : Option BD :=
  if (bnd B b).1 = (bnd B b).2 then
    if (bnd B a).1 = (bnd B b).1 then (if (bnd B a).2 = (bnd B b).1 then none else some (narL B a ((bnd B a).1 + 1)))
    else if (bnd B a).2 = (bnd B b).1 then some (narH B a ((bnd B a).2 - 1)) else some B
  else some B
theorem leB_ok {B : BD} {ρ : Nat → Int} (hB : okB B ρ) {a b : AN} {x y : Int32} (ha : rN B ρ a x) (hb : rN B ρ b y) (h : x.toInt ≤ y.toInt) : ∃ B', leB B a b = some B' ∧ okB B' ρ ∧ ext B ρ B' ρ := by
  have h1 := bnd_ok hB ha
  have h2 := bnd_ok hB hb
  unfold leB
  rw [if_neg (by omega)]
  have e1 : okB (narH B a (bnd B b).2) ρ := narH_ok hB ha (by omega)
  exact ⟨_, rfl, narL_ok e1 (rN_ext narH_ext hb) (by omega), ext_tr narH_ext narL_ext⟩
theorem ltB_ok {B : BD} {ρ : Nat → Int} (hB : okB B ρ) {a b : AN} {x y : Int32} (ha : rN B ρ a x) (hb : rN B ρ b y) (h : x.toInt < y.toInt) : ∃ B', ltB B a b = some B' ∧ okB B' ρ ∧ ext B ρ B' ρ := by
  have h1 := bnd_ok hB ha
  have h2 := bnd_ok hB hb
  unfold ltB
  rw [if_neg (by omega)]
  have e1 : okB (narH B a ((bnd B b).2 - 1)) ρ := narH_ok hB ha (by omega)
  exact ⟨_, rfl, narL_ok e1 (rN_ext narH_ext hb) (by omega), ext_tr narH_ext narL_ext⟩
theorem eqB_ok {B : BD} {ρ : Nat → Int} (hB : okB B ρ) {a b : AN} {x y : Int32} (ha : rN B ρ a x) (hb : rN B ρ b y) (h : x.toInt = y.toInt) : ∃ B', eqB B a b = some B' ∧ okB B' ρ ∧ ext B ρ B' ρ := by
  have h1 := bnd_ok hB ha
  have h2 := bnd_ok hB hb
  unfold eqB
  rw [if_neg (by omega)]
  have e1 : okB (narH B a (bnd B b).2) ρ := narH_ok hB ha (by omega)
  have x1 : ext B ρ (narH B a (bnd B b).2) ρ := narH_ext
  have e2 : okB (narL (narH B a (bnd B b).2) b (bnd B a).1) ρ := narL_ok e1 (rN_ext x1 hb) (by omega)
  have x2 := ext_tr x1 (narL_ext (n := b) (lo := (bnd B a).1))
  have e3 : okB (narH (narL (narH B a (bnd B b).2) b (bnd B a).1) b (bnd B a).2) ρ := narH_ok e2 (rN_ext x2 hb) (by omega)
  have x3 := ext_tr x2 (narH_ext (n := b) (hi := (bnd B a).2))
  exact ⟨_, rfl, narL_ok e3 (rN_ext x3 ha) (by omega), ext_tr x3 narL_ext⟩
theorem neB_ok {B : BD} {ρ : Nat → Int} (hB : okB B ρ) {a b : AN} {x y : Int32} (ha : rN B ρ a x) (hb : rN B ρ b y) (h : ¬ x.toInt = y.toInt) : ∃ B', neB B a b = some B' ∧ okB B' ρ ∧ ext B ρ B' ρ := by
  have h1 := bnd_ok hB ha
  have h2 := bnd_ok hB hb
  unfold neB
  split
  · split
    · rw [if_neg (by omega)]
      exact ⟨_, rfl, narL_ok hB ha (by omega), narL_ext⟩
    · split
      · exact ⟨_, rfl, narH_ok hB ha (by omega), narH_ext⟩
      · exact ⟨_, rfl, hB, ext_rf⟩
  · exact ⟨_, rfl, hB, ext_rf⟩
/-- a comparison that holds, or doesn't -/
def cmpT (B : BD) (c : Jvm.ClassFile.Cond) (a b : AN) : Option BD := match c with
  | .eq => eqB B a b
  | .ne => neB B a b
  | .lt => ltB B a b
  | .ge => leB B b a
  | .gt => ltB B b a
  | .le => leB B a b
def cmpF (B : BD) (c : Jvm.ClassFile.Cond) (a b : AN) : Option BD := match c with
  | .eq => neB B a b
  | .ne => eqB B a b
  | .lt => leB B b a
  | .ge => ltB B a b
  | .gt => leB B a b
  | .le => ltB B b a
theorem cmpT_ok {B : BD} {ρ : Nat → Int} (hB : okB B ρ) {c : Jvm.ClassFile.Cond} {a b : AN} {x y : Int32} (ha : rN B ρ a x) (hb : rN B ρ b y) (h : cmpB c x y = true) : ∃ B', cmpT B c a b = some B' ∧ okB B' ρ ∧ ext B ρ B' ρ := by
  cases c <;> simp only [cmpB, decide_eq_true_eq, Int32.lt_iff_toInt_lt, Int32.le_iff_toInt_le, ← Int32.toInt_inj] at h
  · exact eqB_ok hB ha hb h
  · exact neB_ok hB ha hb h
  · exact ltB_ok hB ha hb h
  · exact leB_ok hB hb ha h
  · exact ltB_ok hB hb ha h
  · exact leB_ok hB ha hb h
theorem cmpF_ok {B : BD} {ρ : Nat → Int} (hB : okB B ρ) {c : Jvm.ClassFile.Cond} {a b : AN} {x y : Int32} (ha : rN B ρ a x) (hb : rN B ρ b y) (h : cmpB c x y = false) : ∃ B', cmpF B c a b = some B' ∧ okB B' ρ ∧ ext B ρ B' ρ := by
  cases c <;> simp only [cmpB, decide_eq_false_iff_not, Int32.lt_iff_toInt_lt, Int32.le_iff_toInt_le, ← Int32.toInt_inj] at h
  · exact neB_ok hB ha hb h
  · exact eqB_ok hB ha hb (by omega)
  · exact leB_ok hB hb ha (by omega)
  · exact ltB_ok hB ha hb (by omega)
  · exact leB_ok hB ha hb (by omega)
  · exact ltB_ok hB hb ha (by omega)
end
section
/-! ===== what an operation gives: exactly a name plus a constant, or a new name in bounds ===== -/
def newN (B : BD) (lo hi : Int) : BD × AN := (B ++ [(lo, hi)], (some B.length, 0))
def anyN (B : BD) : BD × AN := newN B (-2147483648) 2147483647
/-- r stands for the number x, over names that go on from before -/
def gives (B : BD) (ρ : Nat → Int) (r : BD × AN) (x : Int32) : Prop := ∃ ρ', okB r.1 ρ' ∧ ext B ρ r.1 ρ' ∧ rN r.1 ρ' r.2 x
theorem newN_ok {B : BD} {ρ : Nat → Int} (hB : okB B ρ) {lo hi : Int} {x : Int32} (h1 : lo ≤ x.toInt) (h2 : x.toInt ≤ hi) : gives B ρ (newN B lo hi) x := ⟨ups ρ B.length x.toInt, new_ok hB h1 h2, new_ext _ _, new_rN⟩
theorem anyN_ok {B : BD} {ρ : Nat → Int} (hB : okB B ρ) (x : Int32) : gives B ρ (anyN B) x := newN_ok hB (int32_lo x) (int32_hi x)
theorem same_ok {B : BD} {ρ : Nat → Int} (hB : okB B ρ) {n : AN} {x : Int32} (h : rN B ρ n x) : gives B ρ (B, n) x := ⟨ρ, hB, ext_rf, h⟩
theorem known_ok {B : BD} {ρ : Nat → Int} (hB : okB B ρ) {c : Int} {x : Int32} (h : x.toInt = c) : gives B ρ (B, (none, c)) x := same_ok hB ⟨fun j hj => (by cases hj), h⟩
theorem toInt_add_in {x y : Int32} (h1 : -2147483648 ≤ x.toInt + y.toInt) (h2 : x.toInt + y.toInt ≤ 2147483647) : (x + y).toInt = x.toInt + y.toInt := by
  rw [Int32.toInt_add]
  exact Int.bmod_eq_of_le (by omega) (by omega)
theorem toInt_sub_in {x y : Int32} (h1 : -2147483648 ≤ x.toInt - y.toInt) (h2 : x.toInt - y.toInt ≤ 2147483647) : (x - y).toInt = x.toInt - y.toInt := by
  rw [Int32.toInt_sub]
  exact Int.bmod_eq_of_le (by omega) (by omega)
theorem toInt_mul_in {x y : Int32} (h1 : -2147483648 ≤ x.toInt * y.toInt) (h2 : x.toInt * y.toInt ≤ 2147483647) : (x * y).toInt = x.toInt * y.toInt := by
  rw [Int32.toInt_mul]
  exact Int.bmod_eq_of_le (by omega) (by omega)
def addN (B : BD) (a b : AN) : BD × AN :=
  if i32 ((bnd B a).1 + (bnd B b).1) ((bnd B a).2 + (bnd B b).2) = true then
    (match a.1, b.1 with
    | none, _ => (B, (b.1, a.2 + b.2))
    | some _, none => (B, (a.1, a.2 + b.2))
    | some _, some _ => newN B ((bnd B a).1 + (bnd B b).1) ((bnd B a).2 + (bnd B b).2))
  else anyN B
theorem addN_ok {B : BD} {ρ : Nat → Int} (hB : okB B ρ) {a b : AN} {x y : Int32} (ha : rN B ρ a x) (hb : rN B ρ b y) : gives B ρ (addN B a b) (x + y) := by
  have h1 := bnd_ok hB ha
  have h2 := bnd_ok hB hb
  unfold addN
  split
  · rename_i hi
    unfold i32 at hi
    rw [Bool.and_eq_true, decide_eq_true_eq, decide_eq_true_eq] at hi
    have e := toInt_add_in (x := x) (y := y) (by omega) (by omega)
    have da := ha.2
    have db := hb.2
    unfold den at da db
    split
    · rename_i hn
      rw [hn] at da
      refine same_ok hB ⟨fun j hj => hb.1 j hj, ?_⟩
      rw [e]
      unfold den
      cases hm : b.1 with
      | none => rw [hm] at db; simp only at da db ⊢; omega
      | some j => rw [hm] at db; simp only at da db ⊢; omega
    · rename_i j hn hm
      rw [hm] at db
      refine same_ok hB ⟨fun j hj => ha.1 j hj, ?_⟩
      rw [e]
      unfold den
      rw [hn] at da ⊢
      simp only at da db ⊢
      omega
    · exact newN_ok hB (by omega) (by omega)
  · exact anyN_ok hB _
def subN (B : BD) (a b : AN) : BD × AN :=
  if i32 ((bnd B a).1 - (bnd B b).2) ((bnd B a).2 - (bnd B b).1) = true then
    (match b.1 with
    | none => (B, (a.1, a.2 - b.2))
    | some _ => newN B ((bnd B a).1 - (bnd B b).2) ((bnd B a).2 - (bnd B b).1))
  else anyN B
theorem subN_ok {B : BD} {ρ : Nat → Int} (hB : okB B ρ) {a b : AN} {x y : Int32} (ha : rN B ρ a x) (hb : rN B ρ b y) : gives B ρ (subN B a b) (x - y) := by
  have h1 := bnd_ok hB ha
  have h2 := bnd_ok hB hb
  unfold subN
  split
  · rename_i hi
    unfold i32 at hi
    rw [Bool.and_eq_true, decide_eq_true_eq, decide_eq_true_eq] at hi
    have e := toInt_sub_in (x := x) (y := y) (by omega) (by omega)
    have da := ha.2
    have db := hb.2
    unfold den at da db
    split
    · rename_i hm
      rw [hm] at db
      refine same_ok hB ⟨fun j hj => ha.1 j hj, ?_⟩
      rw [e]
      unfold den
      cases hn : a.1 with
      | none => rw [hn] at da; simp only at da db ⊢; omega
      | some j => rw [hn] at da; simp only at da db ⊢; omega
    · exact newN_ok hB (by omega) (by omega)
  · exact anyN_ok hB _
/-- a known factor that isn't negative -/
def mulN (B : BD) (a b : AN) : BD × AN :=
  if (bnd B a).1 = (bnd B a).2 ∧ 0 ≤ (bnd B a).1 ∧ i32 ((bnd B a).1 * (bnd B b).1) ((bnd B a).1 * (bnd B b).2) = true then
    (if (bnd B b).1 = (bnd B b).2 then (B, (none, (bnd B a).1 * (bnd B b).1)) else newN B ((bnd B a).1 * (bnd B b).1) ((bnd B a).1 * (bnd B b).2))
  else if (bnd B b).1 = (bnd B b).2 ∧ 0 ≤ (bnd B b).1 ∧ i32 ((bnd B b).1 * (bnd B a).1) ((bnd B b).1 * (bnd B a).2) = true then newN B ((bnd B b).1 * (bnd B a).1) ((bnd B b).1 * (bnd B a).2)
  else anyN B
theorem mulN_ok {B : BD} {ρ : Nat → Int} (hB : okB B ρ) {a b : AN} {x y : Int32} (ha : rN B ρ a x) (hb : rN B ρ b y) : gives B ρ (mulN B a b) (x * y) := by
  have h1 := bnd_ok hB ha
  have h2 := bnd_ok hB hb
  unfold mulN
  split
  · rename_i hc
    obtain ⟨c1, c2, c3⟩ := hc
    unfold i32 at c3
    rw [Bool.and_eq_true, decide_eq_true_eq, decide_eq_true_eq] at c3
    have ex : x.toInt = (bnd B a).1 := by omega
    have l1 : (bnd B a).1 * (bnd B b).1 ≤ x.toInt * y.toInt := by rw [ex]; exact Int.mul_le_mul_of_nonneg_left h2.1 c2
    have l2 : x.toInt * y.toInt ≤ (bnd B a).1 * (bnd B b).2 := by rw [ex]; exact Int.mul_le_mul_of_nonneg_left h2.2 c2
    have e := toInt_mul_in (x := x) (y := y) (by omega) (by omega)
    split
    · rename_i hk
      have ey : y.toInt = (bnd B b).1 := by omega
      exact known_ok hB (by rw [e, ex, ey])
    · exact newN_ok hB (by omega) (by omega)
  · split
    · rename_i hc
      obtain ⟨c1, c2, c3⟩ := hc
      unfold i32 at c3
      rw [Bool.and_eq_true, decide_eq_true_eq, decide_eq_true_eq] at c3
      have ey : y.toInt = (bnd B b).1 := by omega
      have l1 : (bnd B b).1 * (bnd B a).1 ≤ x.toInt * y.toInt := by rw [ey, Int.mul_comm x.toInt]; exact Int.mul_le_mul_of_nonneg_left h1.1 c2
      have l2 : x.toInt * y.toInt ≤ (bnd B b).1 * (bnd B a).2 := by rw [ey, Int.mul_comm x.toInt]; exact Int.mul_le_mul_of_nonneg_left h1.2 c2
      have e := toInt_mul_in (x := x) (y := y) (by omega) (by omega)
      exact newN_ok hB (by omega) (by omega)
    · exact anyN_ok hB _
/-- both known: the machine's own answer -/
def knwN (B : BD) (f : Int32 → Int32 → Int32) (a b : AN) : BD × AN :=
  if (bnd B a).1 = (bnd B a).2 ∧ (bnd B b).1 = (bnd B b).2 then (B, (none, (f (Int32.ofInt (bnd B a).1) (Int32.ofInt (bnd B b).1)).toInt)) else anyN B
theorem ofInt_toInt (x : Int32) : Int32.ofInt x.toInt = x := by simp
theorem knwN_ok {B : BD} {ρ : Nat → Int} (hB : okB B ρ) (f : Int32 → Int32 → Int32) {a b : AN} {x y : Int32} (ha : rN B ρ a x) (hb : rN B ρ b y) : gives B ρ (knwN B f a b) (f x y) := by
  have h1 := bnd_ok hB ha
  have h2 := bnd_ok hB hb
  unfold knwN
  split
  · rename_i hc
    have ex : (bnd B a).1 = x.toInt := by omega
    have ey : (bnd B b).1 = y.toInt := by omega
    rw [ex, ey, ofInt_toInt, ofInt_toInt]
    exact known_ok hB rfl
  · exact anyN_ok hB _
/-- what is left by a division: both not negative -/
def remN (B : BD) (a b : AN) : BD × AN :=
  if (bnd B a).1 = (bnd B a).2 ∧ (bnd B b).1 = (bnd B b).2 ∧ 0 ≤ (bnd B a).1 ∧ 1 ≤ (bnd B b).1 then (B, (none, (bnd B a).1 % (bnd B b).1))
  else if 0 ≤ (bnd B a).1 ∧ 1 ≤ (bnd B b).1 then newN B 0 ((bnd B b).2 - 1) else anyN B
theorem nI_toInt' {x : Int32} (h : 0 ≤ x.toInt) : ∃ j : Nat, j < 2 ^ 31 ∧ x = nI j ∧ x.toInt = j := by
  obtain ⟨j, hj, rfl⟩ := nI_of (x := x) (by rw [Int32.lt_iff_toInt_lt, Int32.toInt_zero]; omega)
  exact ⟨j, hj, rfl, nI_toInt hj⟩
theorem remN_ok {B : BD} {ρ : Nat → Int} (hB : okB B ρ) {a b : AN} {x y : Int32} (ha : rN B ρ a x) (hb : rN B ρ b y) : gives B ρ (remN B a b) (x - x / y * y) := by
  have h1 := bnd_ok hB ha
  have h2 := bnd_ok hB hb
  unfold remN
  split
  · rename_i hc
    obtain ⟨j, hj, rfl, e1⟩ := nI_toInt' (x := x) (by omega)
    obtain ⟨k, hk, rfl, e2⟩ := nI_toInt' (x := y) (by omega)
    have hk0 : 0 < k := by omega
    rw [pk_rem hj hk0 hk]
    have hm := Nat.mod_lt j hk0
    have f1 : (bnd B a).1 = (j : Int) := by omega
    have f2 : (bnd B b).1 = (k : Int) := by omega
    rw [f1, f2, ← Int.natCast_emod]
    exact known_ok hB (nI_toInt (by omega))
  split
  · rename_i hc
    obtain ⟨j, hj, rfl, e1⟩ := nI_toInt' (x := x) (by omega)
    obtain ⟨k, hk, rfl, e2⟩ := nI_toInt' (x := y) (by omega)
    have hk0 : 0 < k := by omega
    rw [pk_rem hj hk0 hk]
    have hm := Nat.mod_lt j hk0
    generalize j % k = q at hm ⊢
    have e3 : (nI q).toInt = (q : Int) := nI_toInt (by omega)
    exact newN_ok hB (by rw [e3]; omega) (by rw [e3]; omega)
  · exact anyN_ok hB _
def divN (B : BD) (a b : AN) : BD × AN :=
  if (bnd B a).1 = (bnd B a).2 ∧ (bnd B b).1 = (bnd B b).2 ∧ 0 ≤ (bnd B a).1 ∧ 1 ≤ (bnd B b).1 then (B, (none, (bnd B a).1 / (bnd B b).1))
  else if 0 ≤ (bnd B a).1 ∧ 1 ≤ (bnd B b).1 then newN B 0 (bnd B a).2 else anyN B
theorem divN_ok {B : BD} {ρ : Nat → Int} (hB : okB B ρ) {a b : AN} {x y : Int32} (ha : rN B ρ a x) (hb : rN B ρ b y) : gives B ρ (divN B a b) (x / y) := by
  have h1 := bnd_ok hB ha
  have h2 := bnd_ok hB hb
  unfold divN
  split
  · rename_i hc
    obtain ⟨j, hj, rfl, e1⟩ := nI_toInt' (x := x) (by omega)
    obtain ⟨k, hk, rfl, e2⟩ := nI_toInt' (x := y) (by omega)
    have hk0 : 0 < k := by omega
    rw [pk_div hj hk0 hk]
    have hm := Nat.div_le_self j k
    have f1 : (bnd B a).1 = (j : Int) := by omega
    have f2 : (bnd B b).1 = (k : Int) := by omega
    rw [f1, f2, ← Int.natCast_ediv]
    exact known_ok hB (nI_toInt (by omega))
  split
  · rename_i hc
    obtain ⟨j, hj, rfl, e1⟩ := nI_toInt' (x := x) (by omega)
    obtain ⟨k, hk, rfl, e2⟩ := nI_toInt' (x := y) (by omega)
    have hk0 : 0 < k := by omega
    rw [pk_div hj hk0 hk]
    have hm := Nat.div_le_self j k
    generalize j / k = q at hm ⊢
    have e3 : (nI q).toInt = (q : Int) := nI_toInt (by omega)
    exact newN_ok hB (by rw [e3]; omega) (by rw [e3]; omega)
  · exact anyN_ok hB _
/-- sixteen places to the right, zeros from the left -/
def shrN (B : BD) (a b : AN) : BD × AN := if (bnd B b).1 = 16 ∧ (bnd B b).2 = 16 then newN B 0 65535 else anyN B
theorem ushr16 (x : Int32) : 0 ≤ (x.toUInt32 >>> ((16 : Int32).toUInt32 &&& Int32.toUInt32 31)).toInt32.toInt ∧ (x.toUInt32 >>> ((16 : Int32).toUInt32 &&& Int32.toUInt32 31)).toInt32.toInt ≤ 65535 := by
  have e : ((16 : Int32).toUInt32 &&& Int32.toUInt32 31) = 16 := by decide
  rw [e]
  generalize x.toUInt32 = u
  have h : (u >>> 16).toNat ≤ 65535 := by
    rw [UInt32.toNat_shiftRight]
    have : (16 : UInt32).toNat % 32 = 16 := by decide
    rw [this, Nat.shiftRight_eq_div_pow]
    have := u.toNat_lt
    omega
  generalize u >>> 16 = w at h
  have h2 : w.toInt32.toInt = (w.toNat : Int) := by
    show w.toBitVec.toInt = _
    rw [BitVec.toInt_eq_toNat_of_lt (by show 2 * w.toNat < 2 ^ 32; omega)]
    rfl
  rw [h2]
  omega
theorem shrN_ok {B : BD} {ρ : Nat → Int} (hB : okB B ρ) {a b : AN} {x y : Int32} (ha : rN B ρ a x) (hb : rN B ρ b y) : gives B ρ (shrN B a b) (x.toUInt32 >>> (y.toUInt32 &&& Int32.toUInt32 31)).toInt32 := by
  have h2 := bnd_ok hB hb
  unfold shrN
  split
  · rename_i hc
    have ey : y = 16 := by
      apply Int32.toInt_inj.mp
      have : (16 : Int32).toInt = 16 := by decide
      omega
    subst ey
    exact newN_ok hB (ushr16 x).1 (ushr16 x).2
  · exact anyN_ok hB _
/-- a one, some places to the left -/
def shlN (B : BD) (a b : AN) : BD × AN := if (bnd B a).1 = 1 ∧ (bnd B a).2 = 1 ∧ 0 ≤ (bnd B b).1 ∧ (bnd B b).2 ≤ 30 ∧ (bnd B b).1 < (bnd B b).2 then newN B (((2 : Nat) ^ (bnd B b).1.toNat : Nat) : Int) (((2 : Nat) ^ (bnd B b).2.toNat : Nat) : Int) else knwN B (fun x y => x <<< (y &&& 31)) a b
set_option maxRecDepth 20000 in
theorem shl1 : ∀ j : Nat, j < 31 → ((1 : Int32) <<< (nI j &&& 31)).toInt = (((2 : Nat) ^ j : Nat) : Int) := by decide +kernel
theorem shlN_ok {B : BD} {ρ : Nat → Int} (hB : okB B ρ) {a b : AN} {x y : Int32} (ha : rN B ρ a x) (hb : rN B ρ b y) : gives B ρ (shlN B a b) (x <<< (y &&& 31)) := by
  have h1 := bnd_ok hB ha
  have h2 := bnd_ok hB hb
  unfold shlN
  split
  · rename_i hc
    obtain ⟨c1, c2, c3, c4, c5⟩ := hc
    have ex : x = 1 := by
      apply Int32.toInt_inj.mp
      have : (1 : Int32).toInt = 1 := by decide
      omega
    subst ex
    obtain ⟨j, hj, rfl, e1⟩ := nI_toInt' (x := y) (by omega)
    have e := shl1 j (by omega)
    have p1 : (2 : Nat) ^ (bnd B b).1.toNat ≤ 2 ^ j := Nat.pow_le_pow_right (by omega) (by omega)
    have p2 : (2 : Nat) ^ j ≤ 2 ^ (bnd B b).2.toNat := Nat.pow_le_pow_right (by omega) (by omega)
    exact newN_ok hB (by rw [e]; exact Int.ofNat_le.mpr p1) (by rw [e]; exact Int.ofNat_le.mpr p2)
  · exact knwN_ok hB _ ha hb
end
section
/-! ===== values, cells, locals ===== -/
def rV (B : BD) (ρ : Nat → Int) (a : AVa) (v : Value) : Prop := match a, v with
  | .inl n, .int x => rN B ρ n x
  | .inr (.inl r), .ref q => q = r
  | .inr (.inr o), .long z => ∀ c, o = some c → z = c
  | _, _ => False
theorem rV_ext {B B' : BD} {ρ ρ' : Nat → Int} (e : ext B ρ B' ρ') {a : AVa} {v : Value} (h : rV B ρ a v) : rV B' ρ' a v := by
  match a, v, h with
  | .inl n, .int x, h => exact rN_ext e h
  | .inr (.inl r), .ref q, h => exact h
  | .inr (.inr o), .long z, h => exact h
theorem rV_int {B : BD} {ρ : Nat → Int} {n : AN} {v : Value} (h : rV B ρ (.inl n) v) : ∃ x, v = .int x ∧ rN B ρ n x := by
  match v, h with
  | .int x, h => exact ⟨x, rfl, h⟩
theorem rV_ref {B : BD} {ρ : Nat → Int} {r : Nat} {v : Value} (h : rV B ρ (.inr (.inl r)) v) : v = .ref r := by
  match v, h with
  | .ref q, h => rw [show q = r from h]
theorem rV_long {B : BD} {ρ : Nat → Int} {o : Option Int64} {v : Value} (h : rV B ρ (.inr (.inr o)) v) : ∃ z, v = .long z ∧ ∀ c, o = some c → z = c := by
  match v, h with
  | .long z, h => exact ⟨z, rfl, h⟩
def rS (B : BD) (ρ : Nat → Int) : List AVa → List Value → Prop
  | [], [] => True
  | a :: as, v :: vs => rV B ρ a v ∧ rS B ρ as vs
  | _, _ => False
theorem rS_ext {B B' : BD} {ρ ρ' : Nat → Int} (e : ext B ρ B' ρ') : ∀ {as : List AVa} {vs : List Value}, rS B ρ as vs → rS B' ρ' as vs
  | [], [], _ => trivial
  | _ :: _, _ :: _, h => ⟨rV_ext e h.1, rS_ext e h.2⟩
  | [], _ :: _, h => h.elim
  | _ :: _, [], h => h.elim
theorem rS_cons {B : BD} {ρ : Nat → Int} {a : AVa} {as : List AVa} {st : List Value} (h : rS B ρ (a :: as) st) : ∃ v vs, st = v :: vs ∧ rV B ρ a v ∧ rS B ρ as vs := by
  match st, h with
  | v :: vs, h => exact ⟨v, vs, rfl, h.1, h.2⟩
theorem rS_len {B : BD} {ρ : Nat → Int} : ∀ {as : List AVa} {vs : List Value}, rS B ρ as vs → as.length = vs.length
  | [], [], _ => rfl
  | _ :: _, _ :: _, h => by rw [List.length_cons, List.length_cons, rS_len h.2]
  | [], _ :: _, h => h.elim
  | _ :: _, [], h => h.elim
def rL (B : BD) (ρ : Nat → Int) (la : List (Option AVa)) (lv : List (Option Value)) : Prop := la.length = lv.length ∧ ∀ (i : Nat) (a : AVa), la[i]? = some (some a) → ∃ v, lv[i]? = some (some v) ∧ rV B ρ a v
theorem rL_ext {B B' : BD} {ρ ρ' : Nat → Int} (e : ext B ρ B' ρ') {la : List (Option AVa)} {lv : List (Option Value)} (h : rL B ρ la lv) : rL B' ρ' la lv := ⟨h.1, fun i a hi => by
  obtain ⟨v, h1, h2⟩ := h.2 i a hi
  exact ⟨v, h1, rV_ext e h2⟩⟩
def catA (a : AVa) : Nat := match a with
  | .inr (.inr _) => 2
  | _ => 1
theorem catA_eq {B : BD} {ρ : Nat → Int} {a : AVa} {v : Value} (h : rV B ρ a v) : v.category = catA a := by
  match a, v, h with
  | .inl n, .int x, _ => rfl
  | .inr (.inl r), .ref q, _ => rfl
  | .inr (.inr o), .long z, _ => rfl
/-- a store of one place: what stood a place before it may have been a long's first half -/
def sta1 (la : List (Option AVa)) (i : Nat) (a : AVa) : List (Option AVa) := (match i with
  | 0 => la
  | j + 1 => match la[j]? with
    | some (some w) => if catA w == 2 then la.set j none else la
    | _ => la.set j none).set i (some a)
theorem sta1_ok {B : BD} {ρ : Nat → Int} {la : List (Option AVa)} {lv : List (Option Value)} (h : rL B ρ la lv) {i : Nat} {a : AVa} {v : Value} (hv : rV B ρ a v) : rL B ρ (sta1 la i a) (st1 lv i v) := by
  have hlen : (sta1 la i a).length = la.length := by
    unfold sta1
    rw [List.length_set]
    cases i with
    | zero => rfl
    | succ j =>
      simp only
      split
      · split
        · rw [List.length_set]
        · rfl
      · rw [List.length_set]
  refine ⟨by rw [hlen, h.1]; unfold st1; rw [List.length_set, clr1_length], fun k b hk => ?_⟩
  unfold sta1 at hk
  by_cases hki : k = i
  · subst hki
    have hl : k < (sta1 la k a).length := (List.getElem?_eq_some_iff.mp hk).1
    rw [hlen] at hl
    rw [List.getElem?_set_self (by unfold sta1 at hlen; rw [List.length_set] at hlen; omega)] at hk
    cases hk
    refine ⟨v, ?_, hv⟩
    unfold st1
    rw [List.getElem?_set_self (by rw [clr1_length, ← h.1]; exact hl)]
  · rw [List.getElem?_set_ne (Ne.symm hki)] at hk
    have key : la[k]? = some (some b) ∧ ¬ (k + 1 = i ∧ catA b = 2) := by
      cases i with
      | zero => exact ⟨hk, fun q => by omega⟩
      | succ j =>
        simp only at hk
        split at hk
        · rename_i w hw
          split at hk
          · by_cases hkj : k = j
            · subst hkj
              rw [List.getElem?_set_self (List.getElem?_eq_some_iff.mp hw).1] at hk
              cases hk
            · rw [List.getElem?_set_ne (Ne.symm hkj)] at hk
              exact ⟨hk, fun q => by omega⟩
          · rename_i hc
            refine ⟨hk, fun q => ?_⟩
            have : k = j := by omega
            subst this
            rw [hw] at hk
            cases hk
            exact hc (by rw [q.2]; rfl)
        · by_cases hkj : k = j
          · subst hkj
            by_cases hl : k < la.length
            · rw [List.getElem?_set_self hl] at hk
              cases hk
            · rw [List.getElem?_eq_none (by rw [List.length_set]; omega)] at hk
              cases hk
          · rw [List.getElem?_set_ne (Ne.symm hkj)] at hk
            exact ⟨hk, fun q => by omega⟩
    obtain ⟨w, h1, h2⟩ := h.2 k b key.1
    refine ⟨w, ?_, h2⟩
    unfold st1
    rw [List.getElem?_set_ne (Ne.symm hki)]
    -- the clearing leaves it
    unfold clr1
    cases i with
    | zero => exact h1
    | succ j =>
      simp only
      split
      · rename_i w0 hw0
        split
        · rename_i hc
          have hkj : ¬ k = j := fun q => by
            subst q
            rw [hw0] at h1
            cases h1
            exact key.2 ⟨rfl, by rw [← catA_eq h2]; simpa using hc⟩
          rw [List.getElem?_set_ne (Ne.symm hkj)]
          exact h1
        · exact h1
      · exact h1
def sta2 (la : List (Option AVa)) (i : Nat) (a : AVa) : List (Option AVa) := (sta1 la i a).set (i + 1) none
theorem sta2_ok {B : BD} {ρ : Nat → Int} {la : List (Option AVa)} {lv : List (Option Value)} (h : rL B ρ la lv) {i : Nat} {a : AVa} {v : Value} (hv : rV B ρ a v) : rL B ρ (sta2 la i a) (st2 lv i v) := by
  have h1 := sta1_ok (i := i) h hv
  have e : st2 lv i v = (st1 lv i v).set (i + 1) none := rfl
  rw [e]
  refine ⟨by unfold sta2; rw [List.length_set, List.length_set]; exact h1.1, fun k b hk => ?_⟩
  unfold sta2 at hk
  by_cases hki : k = i + 1
  · subst hki
    by_cases hl : i + 1 < (sta1 la i a).length
    · rw [List.getElem?_set_self hl] at hk
      cases hk
    · rw [List.getElem?_eq_none (by rw [List.length_set]; omega)] at hk
      cases hk
  · rw [List.getElem?_set_ne (Ne.symm hki)] at hk
    obtain ⟨w, g1, g2⟩ := h1.2 k b hk
    exact ⟨w, by rw [List.getElem?_set_ne (Ne.symm hki)]; exact g1, g2⟩
end
section
/-! ===== steps that touch neither heap nor calls, over names ===== -/
def binN (i : Instr) : Option (BD → AN → AN → BD × AN) := match i with
  | .iadd => some addN
  | .isub => some subN
  | .imul => some mulN
  | .iand => some (fun B => knwN B (fun x y => x &&& y))
  | .ior => some (fun B => knwN B (fun x y => x ||| y))
  | .ixor => some (fun B => knwN B (fun x y => x ^^^ y))
  | .ishl => some shlN
  | .ishr => some (fun B => knwN B (fun x y => x >>> (y &&& 31)))
  | .iushr => some shrN
  | _ => none
theorem binN_ok {i : Instr} {F : BD → AN → AN → BD × AN} (h : binN i = some F) {B : BD} {ρ : Nat → Int} (hB : okB B ρ) {a b : AN} {x y : Int32} (ha : rN B ρ a x) (hb : rN B ρ b y) (pc : Nat) (lv : List (Option Value)) (r : List Value) : ∃ z, sA i pc lv (.int y :: .int x :: r) = some (pc + 1, lv, .int z :: r) ∧ gives B ρ (F B a b) z := by
  unfold binN at h
  split at h <;> cases h
  · exact ⟨_, rfl, addN_ok hB ha hb⟩
  · exact ⟨_, rfl, subN_ok hB ha hb⟩
  · exact ⟨_, rfl, mulN_ok hB ha hb⟩
  · exact ⟨_, rfl, knwN_ok hB _ ha hb⟩
  · exact ⟨_, rfl, knwN_ok hB _ ha hb⟩
  · exact ⟨_, rfl, knwN_ok hB _ ha hb⟩
  · exact ⟨_, rfl, shlN_ok hB ha hb⟩
  · exact ⟨_, rfl, knwN_ok hB _ ha hb⟩
  · exact ⟨_, rfl, shrN_ok hB ha hb⟩
def aS (B : BD) (i : Instr) (pc : Nat) (la : List (Option AVa)) (st : List AVa) : Option (BD × Nat × List (Option AVa) × List AVa) := match i with
  | .iconst n => some (B, pc + 1, la, .inl (none, (Int32.ofInt n).toInt) :: st)
  | .bipush n => some (B, pc + 2, la, .inl (none, (Int8.ofInt n).toInt32.toInt) :: st)
  | .sipush n => some (B, pc + 3, la, .inl (none, (Int16.ofInt n).toInt32.toInt) :: st)
  | .lconst n => some (B, pc + 1, la, .inr (.inr (some (Int64.ofNat (n : Nat)))) :: st)
  | .iload_n k => match la[(k : Nat)]? with
    | some (some (.inl n)) => some (B, pc + 1, la, .inl n :: st)
    | _ => none
  | .iload k => match la[k]? with
    | some (some (.inl n)) => some (B, pc + 2, la, .inl n :: st)
    | _ => none
  | .lload_n k => match la[(k : Nat)]? with
    | some (some (.inr (.inr o))) => some (B, pc + 1, la, .inr (.inr o) :: st)
    | _ => none
  | .lload k => match la[k]? with
    | some (some (.inr (.inr o))) => some (B, pc + 2, la, .inr (.inr o) :: st)
    | _ => none
  | .aload_n k => match la[(k : Nat)]? with
    | some (some (.inr (.inl r))) => some (B, pc + 1, la, .inr (.inl r) :: st)
    | _ => none
  | .aload k => match la[k]? with
    | some (some (.inr (.inl r))) => some (B, pc + 2, la, .inr (.inl r) :: st)
    | _ => none
  | .istore_n k => match st with
    | .inl n :: r => if (k : Nat) < la.length then some (B, pc + 1, sta1 la k (.inl n), r) else none
    | _ => none
  | .istore k => match st with
    | .inl n :: r => if k < la.length then some (B, pc + 2, sta1 la k (.inl n), r) else none
    | _ => none
  | .lstore_n k => match st with
    | .inr (.inr o) :: r => if (k : Nat) + 1 < la.length then some (B, pc + 1, sta2 la k (.inr (.inr o)), r) else none
    | _ => none
  | .lstore k => match st with
    | .inr (.inr o) :: r => if k + 1 < la.length then some (B, pc + 2, sta2 la k (.inr (.inr o)), r) else none
    | _ => none
  | .astore_n k => match st with
    | .inr (.inl q) :: r => if (k : Nat) < la.length then some (B, pc + 1, sta1 la k (.inr (.inl q)), r) else none
    | _ => none
  | .astore k => match st with
    | .inr (.inl q) :: r => if k < la.length then some (B, pc + 2, sta1 la k (.inr (.inl q)), r) else none
    | _ => none
  | .iinc k c => match la[k]? with
    | some (some (.inl n)) => match addN B n (none, (Int32.ofInt c).toInt) with
      | (B', m) => if k < la.length then some (B', pc + 3, sta1 la k (.inl m), st) else none
    | _ => none
  | .ineg => match st with
    | .inl _ :: r => some ((anyN B).1, pc + 1, la, .inl (anyN B).2 :: r)
    | _ => none
  | .i2b => match st with
    | .inl _ :: r => some ((anyN B).1, pc + 1, la, .inl (anyN B).2 :: r)
    | _ => none
  | .i2s => match st with
    | .inl _ :: r => some ((anyN B).1, pc + 1, la, .inl (anyN B).2 :: r)
    | _ => none
  | .i2l => match st with
    | .inl _ :: r => some (B, pc + 1, la, .inr (.inr none) :: r)
    | _ => none
  | .ladd => match st with
    | .inr (.inr _) :: .inr (.inr _) :: r => some (B, pc + 1, la, .inr (.inr none) :: r)
    | _ => none
  | .lsub => match st with
    | .inr (.inr _) :: .inr (.inr _) :: r => some (B, pc + 1, la, .inr (.inr none) :: r)
    | _ => none
  | .lmul => match st with
    | .inr (.inr _) :: .inr (.inr _) :: r => some (B, pc + 1, la, .inr (.inr none) :: r)
    | _ => none
  | .land => match st with
    | .inr (.inr _) :: .inr (.inr _) :: r => some (B, pc + 1, la, .inr (.inr none) :: r)
    | _ => none
  | .lshl => match st with
    | .inl n :: .inr (.inr o) :: r => some (B, pc + 1, la, .inr (.inr (match o with
      | some c => if (bnd B n).1 = (bnd B n).2 then some (c <<< ((Int32.ofInt (bnd B n).1).toInt64 &&& 63)) else none
      | none => none)) :: r)
    | _ => none
  | .lshr => match st with
    | .inl _ :: .inr (.inr _) :: r => some (B, pc + 1, la, .inr (.inr none) :: r)
    | _ => none
  | .lcmp => match st with
    | .inr (.inr _) :: .inr (.inr _) :: r => some ((anyN B).1, pc + 1, la, .inl (anyN B).2 :: r)
    | _ => none
  | .dup => match st with
    | a :: r => if catA a == 1 then some (B, pc + 1, la, a :: a :: r) else none
    | _ => none
  | .dup2 => match st with
    | a :: b :: r => if catA a == 1 && catA b == 1 then some (B, pc + 1, la, a :: b :: a :: b :: r) else none
    | _ => none
  | .pop => match st with
    | a :: r => if catA a == 1 then some (B, pc + 1, la, r) else none
    | _ => none
  | .goto off => match tgt pc off with
    | some t => some (B, t, la, st)
    | none => none
  | j => match binN j, st with
    | some F, .inl b :: .inl a :: r => some ((F B a b).1, pc + 1, la, .inl (F B a b).2 :: r)
    | _, _ => none
section ASOK
variable {B B' : BD} {ρ : Nat → Int} {i : Instr} {pc pc' : Nat} {la la' : List (Option AVa)} {lv : List (Option Value)} {sa sa' : List AVa} {st : List Value}
/-- what a step's soundness says -/
def stepOk (B : BD) (ρ : Nat → Int) (i : Instr) (pc : Nat) (lv : List (Option Value)) (st : List Value) (B' : BD) (pc' : Nat) (la' : List (Option AVa)) (sa' : List AVa) : Prop := ∃ ρ' lv' st', okB B' ρ' ∧ ext B ρ B' ρ' ∧ sA i pc lv st = some (pc', lv', st') ∧ rL B' ρ' la' lv' ∧ rS B' ρ' sa' st'
theorem bin_step {F : BD → AN → AN → BD × AN} (hF : binN i = some F) (hB : okB B ρ) (hL : rL B ρ la lv) {a b : AN} {r : List AVa} (hS : rS B ρ (.inl b :: .inl a :: r) st) : stepOk B ρ i pc lv st (F B a b).1 (pc + 1) la (.inl (F B a b).2 :: r) := by
  obtain ⟨v, vs, rfl, hv, hS1⟩ := rS_cons hS
  obtain ⟨w, ws, rfl, hw, hS2⟩ := rS_cons hS1
  obtain ⟨y, rfl, hy⟩ := rV_int hv
  obtain ⟨x, rfl, hx⟩ := rV_int hw
  obtain ⟨z, h1, ρ', h2, h3, h4⟩ := binN_ok hF hB hx hy pc lv ws
  exact ⟨ρ', lv, _, h2, h3, h1, rL_ext h3 hL, h4, rS_ext h3 hS2⟩
theorem any_step (hB : okB B ρ) (hL : rL B ρ la lv) {r : List AVa} {vs : List Value} (hS : rS B ρ r vs) {z : Int32} (h : sA i pc lv st = some (pc + 1, lv, .int z :: vs)) : stepOk B ρ i pc lv st (anyN B).1 (pc + 1) la (.inl (anyN B).2 :: r) := by
  obtain ⟨ρ', h2, h3, h4⟩ := anyN_ok hB z
  exact ⟨ρ', lv, _, h2, h3, h, rL_ext h3 hL, h4, rS_ext h3 hS⟩
theorem long_step (hB : okB B ρ) (hL : rL B ρ la lv) {r : List AVa} {vs : List Value} (hS : rS B ρ r vs) {z : Int64} (h : sA i pc lv st = some (pc + 1, lv, .long z :: vs)) : stepOk B ρ i pc lv st B (pc + 1) la (.inr (.inr none) :: r) :=
  ⟨ρ, lv, _, hB, ext_rf, h, hL, (fun c hc => by cases hc), hS⟩
theorem aS_ok (hB : okB B ρ) (hL : rL B ρ la lv) (hS : rS B ρ sa st) (h : aS B i pc la sa = some (B', pc', la', sa')) : stepOk B ρ i pc lv st B' pc' la' sa' := by
  cases i with
  | iconst n => cases h; exact ⟨ρ, lv, _, hB, ext_rf, rfl, hL, ⟨fun j hj => (by cases hj), rfl⟩, hS⟩
  | bipush n => cases h; exact ⟨ρ, lv, _, hB, ext_rf, rfl, hL, ⟨fun j hj => (by cases hj), rfl⟩, hS⟩
  | sipush n => cases h; exact ⟨ρ, lv, _, hB, ext_rf, rfl, hL, ⟨fun j hj => (by cases hj), rfl⟩, hS⟩
  | lconst n => cases h; exact ⟨ρ, lv, _, hB, ext_rf, rfl, hL, (fun c hc => by cases hc; rfl), hS⟩
  | iload_n k =>
    simp only [aS] at h
    split at h
    · rename_i n hk
      cases h
      obtain ⟨v, h1, h2⟩ := hL.2 _ _ hk
      obtain ⟨x, rfl, hx⟩ := rV_int h2
      exact ⟨ρ, lv, .int x :: st, hB, ext_rf, by simp only [sA, ldI, h1]; rfl, hL, hx, hS⟩
    · cases h
  | iload k =>
    simp only [aS] at h
    split at h
    · rename_i n hk
      cases h
      obtain ⟨v, h1, h2⟩ := hL.2 _ _ hk
      obtain ⟨x, rfl, hx⟩ := rV_int h2
      exact ⟨ρ, lv, .int x :: st, hB, ext_rf, by simp only [sA, ldI, h1]; rfl, hL, hx, hS⟩
    · cases h
  | lload_n k =>
    simp only [aS] at h
    split at h
    · rename_i n hk
      cases h
      obtain ⟨v, h1, h2⟩ := hL.2 _ _ hk
      obtain ⟨x, rfl, hx⟩ := rV_long h2
      exact ⟨ρ, lv, .long x :: st, hB, ext_rf, by simp only [sA, ldL, h1]; rfl, hL, hx, hS⟩
    · cases h
  | lload k =>
    simp only [aS] at h
    split at h
    · rename_i n hk
      cases h
      obtain ⟨v, h1, h2⟩ := hL.2 _ _ hk
      obtain ⟨x, rfl, hx⟩ := rV_long h2
      exact ⟨ρ, lv, .long x :: st, hB, ext_rf, by simp only [sA, ldL, h1]; rfl, hL, hx, hS⟩
    · cases h
  | aload_n k =>
    simp only [aS] at h
    split at h
    · rename_i n hk
      cases h
      obtain ⟨v, h1, h2⟩ := hL.2 _ _ hk
      cases rV_ref h2
      exact ⟨ρ, lv, .ref n :: st, hB, ext_rf, by simp only [sA, ldA, h1]; rfl, hL, rfl, hS⟩
    · cases h
  | aload k =>
    simp only [aS] at h
    split at h
    · rename_i n hk
      cases h
      obtain ⟨v, h1, h2⟩ := hL.2 _ _ hk
      cases rV_ref h2
      exact ⟨ρ, lv, .ref n :: st, hB, ext_rf, by simp only [sA, ldA, h1]; rfl, hL, rfl, hS⟩
    · cases h
  | istore_n k =>
    simp only [aS] at h
    split at h
    · split at h
      · rename_i hc
        cases h
        obtain ⟨v, vs, rfl, hv, hr⟩ := rS_cons hS
        obtain ⟨x, rfl, hx⟩ := rV_int hv
        exact ⟨ρ, st1 lv k (.int x), vs, hB, ext_rf, by simp only [sA, sto1]; rw [if_pos (by rw [← hL.1]; exact hc)]; rfl, sta1_ok hL hv, hr⟩
      · cases h
    · cases h
  | istore k =>
    simp only [aS] at h
    split at h
    · split at h
      · rename_i hc
        cases h
        obtain ⟨v, vs, rfl, hv, hr⟩ := rS_cons hS
        obtain ⟨x, rfl, hx⟩ := rV_int hv
        exact ⟨ρ, st1 lv k (.int x), vs, hB, ext_rf, by simp only [sA, sto1]; rw [if_pos (by rw [← hL.1]; exact hc)]; rfl, sta1_ok hL hv, hr⟩
      · cases h
    · cases h
  | lstore_n k =>
    simp only [aS] at h
    split at h
    · split at h
      · rename_i hc
        cases h
        obtain ⟨v, vs, rfl, hv, hr⟩ := rS_cons hS
        obtain ⟨x, rfl, hx⟩ := rV_long hv
        exact ⟨ρ, st2 lv k (.long x), vs, hB, ext_rf, by simp only [sA, sto2]; rw [if_pos (by rw [← hL.1]; exact hc)]; rfl, sta2_ok hL hv, hr⟩
      · cases h
    · cases h
  | lstore k =>
    simp only [aS] at h
    split at h
    · split at h
      · rename_i hc
        cases h
        obtain ⟨v, vs, rfl, hv, hr⟩ := rS_cons hS
        obtain ⟨x, rfl, hx⟩ := rV_long hv
        exact ⟨ρ, st2 lv k (.long x), vs, hB, ext_rf, by simp only [sA, sto2]; rw [if_pos (by rw [← hL.1]; exact hc)]; rfl, sta2_ok hL hv, hr⟩
      · cases h
    · cases h
  | astore_n k =>
    simp only [aS] at h
    split at h
    · split at h
      · rename_i q r hc
        cases h
        obtain ⟨v, vs, rfl, hv, hr⟩ := rS_cons hS
        cases rV_ref hv
        exact ⟨ρ, st1 lv k (.ref q), vs, hB, ext_rf, by simp only [sA, sto1]; rw [if_pos (by rw [← hL.1]; exact hc)]; rfl, sta1_ok hL hv, hr⟩
      · cases h
    · cases h
  | astore k =>
    simp only [aS] at h
    split at h
    · split at h
      · rename_i q r hc
        cases h
        obtain ⟨v, vs, rfl, hv, hr⟩ := rS_cons hS
        cases rV_ref hv
        exact ⟨ρ, st1 lv k (.ref q), vs, hB, ext_rf, by simp only [sA, sto1]; rw [if_pos (by rw [← hL.1]; exact hc)]; rfl, sta1_ok hL hv, hr⟩
      · cases h
    · cases h
  | iinc k c =>
    simp only [aS] at h
    split at h
    · rename_i n hk
      split at h
      · rename_i hc
        cases h
        obtain ⟨v, h1, h2⟩ := hL.2 _ _ hk
        obtain ⟨x, rfl, hx⟩ := rV_int h2
        obtain ⟨ρ', g1, g2, g3⟩ := addN_ok hB hx (b := (none, (Int32.ofInt c).toInt)) (y := Int32.ofInt c) ⟨fun j hj => (by cases hj), rfl⟩
        have g4 : rV _ ρ' (.inl (addN B n (none, (Int32.ofInt c).toInt)).2) (.int (x + Int32.ofInt c)) := g3
        exact ⟨ρ', st1 lv k (.int (x + Int32.ofInt c)), st, g1, g2, by simp only [sA, h1, sto1]; rw [if_pos (by rw [← hL.1]; exact hc)]; rfl, sta1_ok (rL_ext g2 hL) g4, rS_ext g2 hS⟩
      · cases h
    · cases h
  | ineg =>
    simp only [aS] at h
    split at h
    · cases h
      obtain ⟨v, vs, rfl, hv, hr⟩ := rS_cons hS
      obtain ⟨x, rfl, hx⟩ := rV_int hv
      exact any_step hB hL hr rfl
    · cases h
  | i2b =>
    simp only [aS] at h
    split at h
    · cases h
      obtain ⟨v, vs, rfl, hv, hr⟩ := rS_cons hS
      obtain ⟨x, rfl, hx⟩ := rV_int hv
      exact any_step hB hL hr rfl
    · cases h
  | i2s =>
    simp only [aS] at h
    split at h
    · cases h
      obtain ⟨v, vs, rfl, hv, hr⟩ := rS_cons hS
      obtain ⟨x, rfl, hx⟩ := rV_int hv
      exact any_step hB hL hr rfl
    · cases h
  | i2l =>
    simp only [aS] at h
    split at h
    · cases h
      obtain ⟨v, vs, rfl, hv, hr⟩ := rS_cons hS
      obtain ⟨x, rfl, hx⟩ := rV_int hv
      exact long_step hB hL hr rfl
    · cases h
  | ladd =>
    simp only [aS] at h
    split at h
    · cases h
      obtain ⟨v, vs, rfl, hv, hr⟩ := rS_cons hS
      obtain ⟨w, ws, rfl, hw, hr2⟩ := rS_cons hr
      obtain ⟨x, rfl, hx⟩ := rV_long hv
      obtain ⟨y, rfl, hy⟩ := rV_long hw
      exact long_step hB hL hr2 rfl
    · cases h
  | lsub =>
    simp only [aS] at h
    split at h
    · cases h
      obtain ⟨v, vs, rfl, hv, hr⟩ := rS_cons hS
      obtain ⟨w, ws, rfl, hw, hr2⟩ := rS_cons hr
      obtain ⟨x, rfl, hx⟩ := rV_long hv
      obtain ⟨y, rfl, hy⟩ := rV_long hw
      exact long_step hB hL hr2 rfl
    · cases h
  | lmul =>
    simp only [aS] at h
    split at h
    · cases h
      obtain ⟨v, vs, rfl, hv, hr⟩ := rS_cons hS
      obtain ⟨w, ws, rfl, hw, hr2⟩ := rS_cons hr
      obtain ⟨x, rfl, hx⟩ := rV_long hv
      obtain ⟨y, rfl, hy⟩ := rV_long hw
      exact long_step hB hL hr2 rfl
    · cases h
  | land =>
    simp only [aS] at h
    split at h
    · cases h
      obtain ⟨v, vs, rfl, hv, hr⟩ := rS_cons hS
      obtain ⟨w, ws, rfl, hw, hr2⟩ := rS_cons hr
      obtain ⟨x, rfl, hx⟩ := rV_long hv
      obtain ⟨y, rfl, hy⟩ := rV_long hw
      exact long_step hB hL hr2 rfl
    · cases h
  | lshr =>
    simp only [aS] at h
    split at h
    · cases h
      obtain ⟨v, vs, rfl, hv, hr⟩ := rS_cons hS
      obtain ⟨w, ws, rfl, hw, hr2⟩ := rS_cons hr
      obtain ⟨x, rfl, hx⟩ := rV_int hv
      obtain ⟨y, rfl, hy⟩ := rV_long hw
      exact long_step hB hL hr2 rfl
    · cases h
  | lshl =>
    simp only [aS] at h
    split at h
    · rename_i n o r
      cases h
      obtain ⟨v, vs, rfl, hv, hr⟩ := rS_cons hS
      obtain ⟨w, ws, rfl, hw, hr2⟩ := rS_cons hr
      obtain ⟨x, rfl, hx⟩ := rV_int hv
      obtain ⟨y, rfl, hy⟩ := rV_long hw
      refine ⟨ρ, lv, .long (y <<< (x.toInt64 &&& 63)) :: ws, hB, ext_rf, rfl, hL, fun c hc => ?_, hr2⟩
      have hb := bnd_ok hB hx
      split at hc
      · rename_i c0
        split at hc
        · rename_i he
          cases hc
          have ex : (bnd B n).1 = x.toInt := by omega
          rw [ex, ofInt_toInt, hy c0 rfl]
        · cases hc
      · cases hc
    · cases h
  | lcmp =>
    simp only [aS] at h
    split at h
    · cases h
      obtain ⟨v, vs, rfl, hv, hr⟩ := rS_cons hS
      obtain ⟨w, ws, rfl, hw, hr2⟩ := rS_cons hr
      obtain ⟨x, rfl, hx⟩ := rV_long hv
      obtain ⟨y, rfl, hy⟩ := rV_long hw
      exact any_step hB hL hr2 rfl
    · cases h
  | dup =>
    simp only [aS] at h
    split at h
    · split at h
      · rename_i hc
        cases h
        obtain ⟨v, vs, rfl, hv, hr⟩ := rS_cons hS
        exact ⟨ρ, lv, v :: v :: vs, hB, ext_rf, by simp only [sA, catA_eq hv, hc]; rfl, hL, hv, hv, hr⟩
      · cases h
    · cases h
  | dup2 =>
    simp only [aS] at h
    split at h
    · split at h
      · rename_i hc
        cases h
        obtain ⟨v, vs, rfl, hv, hr⟩ := rS_cons hS
        obtain ⟨w, ws, rfl, hw, hr2⟩ := rS_cons hr
        exact ⟨ρ, lv, v :: w :: v :: w :: ws, hB, ext_rf, by simp only [sA, catA_eq hv, catA_eq hw, hc]; rfl, hL, hv, hw, hv, hw, hr2⟩
      · cases h
    · cases h
  | pop =>
    simp only [aS] at h
    split at h
    · split at h
      · rename_i hc
        cases h
        obtain ⟨v, vs, rfl, hv, hr⟩ := rS_cons hS
        exact ⟨ρ, lv, vs, hB, ext_rf, by simp only [sA, catA_eq hv, hc]; rfl, hL, hr⟩
      · cases h
    · cases h
  | goto off =>
    simp only [aS] at h
    split at h
    · rename_i t ht
      cases h
      exact ⟨ρ, lv, st, hB, ext_rf, by simp only [sA, ht]; rfl, hL, hS⟩
    · cases h
  | iadd => simp only [aS] at h; split at h <;> first | (rename_i F b a r hF; cases h; exact bin_step hF hB hL hS) | cases h
  | isub => simp only [aS] at h; split at h <;> first | (rename_i F b a r hF; cases h; exact bin_step hF hB hL hS) | cases h
  | imul => simp only [aS] at h; split at h <;> first | (rename_i F b a r hF; cases h; exact bin_step hF hB hL hS) | cases h
  | iand => simp only [aS] at h; split at h <;> first | (rename_i F b a r hF; cases h; exact bin_step hF hB hL hS) | cases h
  | ior => simp only [aS] at h; split at h <;> first | (rename_i F b a r hF; cases h; exact bin_step hF hB hL hS) | cases h
  | ixor => simp only [aS] at h; split at h <;> first | (rename_i F b a r hF; cases h; exact bin_step hF hB hL hS) | cases h
  | ishl => simp only [aS] at h; split at h <;> first | (rename_i F b a r hF; cases h; exact bin_step hF hB hL hS) | cases h
  | ishr => simp only [aS] at h; split at h <;> first | (rename_i F b a r hF; cases h; exact bin_step hF hB hL hS) | cases h
  | iushr => simp only [aS] at h; split at h <;> first | (rename_i F b a r hF; cases h; exact bin_step hF hB hL hS) | cases h
  | _ => simp [aS, binN] at h
end ASOK
end
section
/-! ===== the heap over names: arrays by their length and the bounds of all they hold, or item by item ===== -/
abbrev ACa : Type := (FieldType × Nat × Int × Int) ⊕ ((FieldType × List AN) ⊕ (List Nat ⊕ (Nat × List AVa)))
abbrev AHa : Type := List ACa
/-- a field of which nothing is known but that it is there -/
def isAny (a : AVa) : Bool := match a with
  | .inr (.inl r) => r == 999
  | _ => false
def rF (B : BD) (ρ : Nat → Int) (fa : List AVa) (fs : List Value) : Prop := fa.length = fs.length ∧ ∀ (i : Nat) (a : AVa), fa[i]? = some a → ∃ v, fs[i]? = some v ∧ (isAny a = true ∨ rV B ρ a v)
def rI (B : BD) (ρ : Nat → Int) (na : List AN) (xs : List Int32) : Prop := na.length = xs.length ∧ ∀ (i : Nat) (n : AN), na[i]? = some n → ∃ x, xs[i]? = some x ∧ rN B ρ n x
def rC (B : BD) (ρ : Nat → Int) (a : ACa) (x : AC) : Prop := match a, x with
  | .inl (ty, n, lo, hi), .inl (ty', xs) => ty = ty' ∧ xs.length = n ∧ ∀ y ∈ xs, lo ≤ y.toInt ∧ y.toInt ≤ hi
  | .inr (.inl (ty, ns)), .inl (ty', xs) => ty = ty' ∧ rI B ρ ns xs
  | .inr (.inr (.inl rs)), .inr (.inl qs) => qs = rs
  | .inr (.inr (.inr (ci, fa))), .inr (.inr (cj, fs)) => cj = ci ∧ rF B ρ fa fs
  | _, _ => False
theorem rF_ext {B B' : BD} {ρ ρ' : Nat → Int} (e : ext B ρ B' ρ') {fa : List AVa} {fs : List Value} (h : rF B ρ fa fs) : rF B' ρ' fa fs := ⟨h.1, fun i a hi => by
  obtain ⟨v, h1, h2⟩ := h.2 i a hi
  exact ⟨v, h1, h2.imp id (rV_ext e)⟩⟩
theorem rI_ext {B B' : BD} {ρ ρ' : Nat → Int} (e : ext B ρ B' ρ') {na : List AN} {xs : List Int32} (h : rI B ρ na xs) : rI B' ρ' na xs := ⟨h.1, fun i a hi => by
  obtain ⟨v, h1, h2⟩ := h.2 i a hi
  exact ⟨v, h1, rN_ext e h2⟩⟩
theorem rC_ext {B B' : BD} {ρ ρ' : Nat → Int} (e : ext B ρ B' ρ') {a : ACa} {x : AC} (h : rC B ρ a x) : rC B' ρ' a x := by
  match a, x, h with
  | .inl (ty, n, lo, hi), .inl (ty', xs), h => exact h
  | .inr (.inl (ty, ns)), .inl (ty', xs), h => exact ⟨h.1, rI_ext e h.2⟩
  | .inr (.inr (.inl rs)), .inr (.inl qs), h => exact h
  | .inr (.inr (.inr (ci, fa))), .inr (.inr (cj, fs)), h => exact ⟨h.1, rF_ext e h.2⟩
/-- an act and its subject: one of KEEPINGS, LIES, LETTINGS is below 9 -/
def prP (k s : Int32) : Prop := (k.toInt % 5 = 1 ∨ k.toInt % 5 = 3 ∨ k.toInt % 5 = 4) → s.toInt ≤ 8
def pair (hp : AH) : Prop := hp.length = 58 → ∀ ks ss, hp[26]? = some (.inl (.int, ks)) → hp[27]? = some (.inl (.int, ss)) → ∀ k, k < ks.length → prP (ks.getD k 0) (ss.getD k 0)
def rH (B : BD) (ρ : Nat → Int) (ha : AHa) (hp : AH) : Prop := ha.length = hp.length ∧ (∀ (k : Nat) (a : ACa), ha[k]? = some a → ∃ x, hp[k]? = some x ∧ rC B ρ a x) ∧ pair hp
theorem rH_at {B : BD} {ρ : Nat → Int} {ha : AHa} {hp : AH} (h : rH B ρ ha hp) {k : Nat} {a : ACa} (hk : ha[k]? = some a) : ∃ x, hp[k]? = some x ∧ rC B ρ a x := h.2.1 k a hk
theorem rH_ext {B B' : BD} {ρ ρ' : Nat → Int} (e : ext B ρ B' ρ') {ha : AHa} {hp : AH} (h : rH B ρ ha hp) : rH B' ρ' ha hp := ⟨h.1, fun i a hi => by
  obtain ⟨v, h1, h2⟩ := h.2.1 i a hi
  exact ⟨v, h1, rC_ext e h2⟩, h.2.2⟩
/-- cells that only enter writes -/
def wOk (ha : AHa) (r : Nat) : Bool := !(ha.length == 58 && (r == 26 || r == 27))
theorem pair_set {hp : AH} (h : pair hp) {k : Nat} {x : AC} (hw : ¬ (hp.length = 58 ∧ (k = 26 ∨ k = 27))) : pair (hp.set k x) := by
  intro hl ks ss h1 h2
  rw [List.length_set] at hl
  have n1 : k ≠ 26 := fun q => hw ⟨hl, Or.inl q⟩
  have n2 : k ≠ 27 := fun q => hw ⟨hl, Or.inr q⟩
  rw [List.getElem?_set_ne n1] at h1
  rw [List.getElem?_set_ne n2] at h2
  exact h hl ks ss h1 h2
theorem wOk_ok {B : BD} {ρ : Nat → Int} {ha : AHa} {hp : AH} (h : rH B ρ ha hp) {r : Nat} (hw : wOk ha r = true) : ¬ (hp.length = 58 ∧ (r = 26 ∨ r = 27)) := by
  intro q
  unfold wOk at hw
  rw [h.1] at hw
  rcases q with ⟨q1, q2 | q2⟩ <;> simp [q1, q2] at hw
theorem rH_set {B : BD} {ρ : Nat → Int} {ha : AHa} {hp : AH} (h : rH B ρ ha hp) {k : Nat} (hw : wOk ha k = true) {a : ACa} {x : AC} (hx : rC B ρ a x) : rH B ρ (ha.set k a) (hp.set k x) := by
  refine ⟨by rw [List.length_set, List.length_set]; exact h.1, fun j b hj => ?_, pair_set h.2.2 (wOk_ok h hw)⟩
  by_cases hjk : j = k
  · subst hjk
    by_cases hl : j < ha.length
    · rw [List.getElem?_set_self hl] at hj
      cases hj
      exact ⟨x, List.getElem?_set_self (by rw [← h.1]; exact hl), hx⟩
    · rw [List.getElem?_eq_none (by rw [List.length_set]; omega)] at hj
      cases hj
  · rw [List.getElem?_set_ne (Ne.symm hjk)] at hj
    obtain ⟨y, h1, h2⟩ := h.2.1 j b hj
    exact ⟨y, by rw [List.getElem?_set_ne (Ne.symm hjk)]; exact h1, h2⟩
/-- a cell that stays as it is known, though its contents change -/
theorem rH_keep {B : BD} {ρ : Nat → Int} {ha : AHa} {hp : AH} (h : rH B ρ ha hp) {k : Nat} (hw : wOk ha k = true) {a : ACa} {x : AC} (ha1 : ha[k]? = some a) (hx : rC B ρ a x) : rH B ρ ha (hp.set k x) := by
  have := rH_set (k := k) h hw hx
  have e : ha.set k a = ha := by
    apply List.ext_getElem?
    intro j
    by_cases hjk : j = k
    · subst hjk
      rw [List.getElem?_set_self (List.getElem?_eq_some_iff.mp ha1).1, ha1]
    · rw [List.getElem?_set_ne (Ne.symm hjk)]
  rw [e] at this
  exact this
theorem rC_obj {B : BD} {ρ : Nat → Int} {ci : Nat} {fa : List AVa} {x : AC} (h : rC B ρ (.inr (.inr (.inr (ci, fa)))) x) : ∃ fs, x = .inr (.inr (ci, fs)) ∧ rF B ρ fa fs := by
  match x, h with
  | .inr (.inr (cj, fs)), h => exact ⟨fs, by rw [h.1], h.2⟩
theorem rC_sum {B : BD} {ρ : Nat → Int} {ty : FieldType} {n : Nat} {lo hi : Int} {x : AC} (h : rC B ρ (.inl (ty, n, lo, hi)) x) : ∃ xs, x = .inl (ty, xs) ∧ xs.length = n ∧ ∀ y ∈ xs, lo ≤ y.toInt ∧ y.toInt ≤ hi := by
  match x, h with
  | .inl (ty', xs), h => exact ⟨xs, by rw [h.1], h.2⟩
theorem rC_items {B : BD} {ρ : Nat → Int} {ty : FieldType} {ns : List AN} {x : AC} (h : rC B ρ (.inr (.inl (ty, ns))) x) : ∃ xs, x = .inl (ty, xs) ∧ rI B ρ ns xs := by
  match x, h with
  | .inl (ty', xs), h => exact ⟨xs, by rw [h.1], h.2⟩
theorem rC_rows {B : BD} {ρ : Nat → Int} {rs : List Nat} {x : AC} (h : rC B ρ (.inr (.inr (.inl rs))) x) : x = .inr (.inl rs) := by
  match x, h with
  | .inr (.inl qs), h => rw [show qs = rs from h]
/-- an index within -/
def inA (B : BD) (n : AN) (len : Nat) : Bool := decide (0 ≤ (bnd B n).1) && decide ((bnd B n).2 < len)
theorem inA_ok {B : BD} {ρ : Nat → Int} (hB : okB B ρ) {n : AN} {x : Int32} (h : rN B ρ n x) {len : Nat} (hi : inA B n len = true) : vp_in x len ∧ x.toNatClampNeg < len := by
  unfold inA at hi
  rw [Bool.and_eq_true, decide_eq_true_eq, decide_eq_true_eq] at hi
  have h1 := bnd_ok hB h
  have h2 : vp_in x len := vp_in_iff.mpr ⟨by omega, by omega⟩
  exact ⟨h2, Nat.not_le.mp fun q => h2 (Or.inr q)⟩
theorem inB_of {x : Int32} {n : Nat} (h : vp_in x n) : inB x n = true := by
  unfold inB
  rw [Bool.not_eq_true', Bool.or_eq_false_iff, decide_eq_false_iff_not, decide_eq_false_iff_not]
  exact ⟨fun q => h (Or.inl q), fun q => h (Or.inr q)⟩
theorem getD_mem {xs : List Int32} {k : Nat} (h : k < xs.length) : xs.getD k 0 ∈ xs := by
  rw [List.getD_eq_getElem?_getD, List.getElem?_eq_getElem h]
  exact List.getElem_mem h
theorem set_bounds {xs : List Int32} {k : Nat} {v : Int32} {lo hi : Int} (h : ∀ y ∈ xs, lo ≤ y.toInt ∧ y.toInt ≤ hi) (hv : lo ≤ v.toInt ∧ v.toInt ≤ hi) : ∀ y ∈ xs.set k v, lo ≤ y.toInt ∧ y.toInt ≤ hi := by
  intro y hy
  rcases List.mem_or_eq_of_mem_set hy with q | q
  · exact h y q
  · rw [q]; exact hv
end
section
/-! ===== steps over the heap, over names: every outcome that may be ===== -/
abbrev OUT : Type := BD × Nat × List AVa × AHa
def fHoldA (ty : FieldType) (a : AVa) : Bool := match ty, a with
  | .int, .inl _ => true
  | .object _, .inr (.inl _) => true
  | .array _, .inr (.inl _) => true
  | _, _ => false
theorem fHoldA_ok {B : BD} {ρ : Nat → Int} {ty : FieldType} {a : AVa} {v : Value} (h : fHoldA ty a = true) (hv : rV B ρ a v) : fHold ty v = true := by
  match ty, a, h with
  | .int, .inl n, _ => obtain ⟨x, rfl, -⟩ := rV_int hv; rfl
  | .object _, .inr (.inl r), _ => cases rV_ref hv; rfl
  | .array _, .inr (.inl r), _ => cases rV_ref hv; rfl
def knwA (B : BD) (n : AN) : Bool := decide ((bnd B n).1 = (bnd B n).2)
/-- reading an int array -/
def aldA (B : BD) (ty : FieldType) (n : AN) (c : ACa) : Option (BD × AN) := match c with
  | .inl (ty', len, lo, hi) => if ty' = ty ∧ inA B n len = true then some (newN B lo hi) else none
  | .inr (.inl (ty', ns)) => if ty' = ty ∧ inA B n ns.length = true then (if knwA B n = true then (match ns[(bnd B n).1.toNat]? with
      | some m => some (B, m)
      | none => none) else some (anyN B)) else none
  | _ => none
theorem aldA_ok {B : BD} {ρ : Nat → Int} (hB : okB B ρ) {ty : FieldType} {n : AN} {x : Int32} (hx : rN B ρ n x) {c : ACa} {y : AC} (hc : rC B ρ c y) {q : BD × AN} (h : aldA B ty n c = some q) : ∃ xs, y = .inl (ty, xs) ∧ inB x xs.length = true ∧ gives B ρ q (xs.getD x.toNatClampNeg 0) := by
  unfold aldA at h
  split at h
  · split at h
    · rename_i hi
      obtain ⟨rfl, hi⟩ := hi
      cases h
      obtain ⟨xs, rfl, hl, hb⟩ := rC_sum hc
      rw [← hl] at hi
      obtain ⟨g1, g2⟩ := inA_ok hB hx hi
      have := hb _ (getD_mem g2)
      exact ⟨xs, rfl, inB_of g1, newN_ok hB this.1 this.2⟩
    · cases h
  · split at h
    · rename_i hi
      obtain ⟨rfl, hi⟩ := hi
      obtain ⟨xs, rfl, hl⟩ := rC_items hc
      rw [hl.1] at hi
      obtain ⟨g1, g2⟩ := inA_ok hB hx hi
      split at h
      · rename_i hk
        split at h
        · rename_i m hm
          cases h
          have hk := of_decide_eq_true hk
          have hb := bnd_ok hB hx
          have e : (bnd B n).1.toNat = x.toNatClampNeg := by
            have e1 : (bnd B n).1 = x.toInt := by omega
            rw [e1]; rfl
          rw [e] at hm
          obtain ⟨z, h1, h2⟩ := hl.2 _ _ hm
          refine ⟨xs, rfl, inB_of g1, ?_⟩
          have e2 : xs.getD x.toNatClampNeg 0 = z := by rw [List.getD_eq_getElem?_getD, h1]; rfl
          rw [e2]
          exact same_ok hB h2
        · cases h
      · cases h
        exact ⟨xs, rfl, inB_of g1, anyN_ok hB _⟩
    · cases h
  · cases h
/-- writing to one -/
def astA (B : BD) (ty : FieldType) (n v : AN) (c : ACa) : Option ACa := match c with
  | .inl (ty', len, lo, hi) => if ty' = ty ∧ inA B n len = true ∧ lo ≤ (bnd B v).1 ∧ (bnd B v).2 ≤ hi then some (.inl (ty', len, lo, hi)) else none
  | .inr (.inl (ty', ns)) => if ty' = ty ∧ inA B n ns.length = true ∧ knwA B n = true then some (.inr (.inl (ty', ns.set (bnd B n).1.toNat v))) else none
  | _ => none
theorem astA_ok {B : BD} {ρ : Nat → Int} (hB : okB B ρ) {ty : FieldType} {n v : AN} {x z : Int32} (hx : rN B ρ n x) (hz : rN B ρ v z) {c c' : ACa} {y : AC} (hc : rC B ρ c y) (h : astA B ty n v c = some c') : ∃ xs, y = .inl (ty, xs) ∧ inB x xs.length = true ∧ rC B ρ c' (.inl (ty, xs.set x.toNatClampNeg z)) := by
  unfold astA at h
  have hbz := bnd_ok hB hz
  split at h
  · split at h
    · rename_i hi
      obtain ⟨rfl, hi, h1, h2⟩ := hi
      cases h
      obtain ⟨xs, rfl, hl, hb⟩ := rC_sum hc
      rw [← hl] at hi
      obtain ⟨g1, g2⟩ := inA_ok hB hx hi
      exact ⟨xs, rfl, inB_of g1, rfl, by rw [List.length_set]; exact hl, set_bounds hb ⟨by omega, by omega⟩⟩
    · cases h
  · split at h
    · rename_i hi
      obtain ⟨rfl, hi, hk⟩ := hi
      cases h
      obtain ⟨xs, rfl, hl⟩ := rC_items hc
      rw [hl.1] at hi
      obtain ⟨g1, g2⟩ := inA_ok hB hx hi
      have hk := of_decide_eq_true hk
      have hb := bnd_ok hB hx
      have e : (bnd B n).1.toNat = x.toNatClampNeg := by
        have e1 : (bnd B n).1 = x.toInt := by omega
        rw [e1]; rfl
      rw [e]
      refine ⟨xs, rfl, inB_of g1, rfl, by rw [List.length_set, List.length_set]; exact hl.1, fun j m hj => ?_⟩
      by_cases hjk : j = x.toNatClampNeg
      · rw [hjk, List.getElem?_set_self (by rw [hl.1]; exact g2)] at hj
        cases hj
        exact ⟨z, by rw [hjk]; exact List.getElem?_set_self g2, hz⟩
      · rw [List.getElem?_set_ne (Ne.symm hjk)] at hj
        obtain ⟨w, h1, h2⟩ := hl.2 j m hj
        exact ⟨w, by rw [List.getElem?_set_ne (Ne.symm hjk)]; exact h1, h2⟩
    · cases h
  · cases h
def outOk (B : BD) (ρ : Nat → Int) (d : Nat) (M : MT) (i : Instr) (pc : Nat) (st : List Value) (hp : AH) (o : OUT) : Prop := ∃ ρ' st' hp', okB o.1 ρ' ∧ ext B ρ o.1 ρ' ∧ hA d M i pc st hp = some (o.2.1, st', hp') ∧ rS o.1 ρ' o.2.2.1 st' ∧ rH o.1 ρ' o.2.2.2 hp'
def aH1 (d : Nat) (B : BD) (M : MT) (i : Instr) (pc : Nat) (sa : List AVa) (ha : AHa) : Option OUT := match i with
  | .getfield idx => match sa with
    | .inr (.inl r) :: s => match fRes M.cn idx, ha[r]? with
      | some (ci, sl, _), some (.inr (.inr (.inr (cj, fa)))) => if ci = cj then (match fa[sl]? with
        | some a => if isAny a = true then none else some (B, pc + 3, a :: s, ha)
        | none => none) else none
      | _, _ => none
    | _ => none
  | .putfield idx => match sa with
    | a :: .inr (.inl r) :: s => match fRes M.cn idx, ha[r]? with
      | some (ci, sl, _), some (.inr (.inr (.inr (cj, fa)))) => if ci = cj ∧ sl < fa.length ∧ fHoldA (fTy ci sl) a = true ∧ fFin ci sl = false ∧ wOk ha r = true then some (B, pc + 3, s, ha.set r (.inr (.inr (.inr (ci, fa.set sl a))))) else none
      | _, _ => none
    | _ => none
  | .iaload => match sa with
    | .inl n :: .inr (.inl r) :: s => match ha[r]? with
      | some c => match aldA B .int n c with
        | some q => some (q.1, pc + 1, .inl q.2 :: s, ha)
        | none => none
      | none => none
    | _ => none
  | .baload => match sa with
    | .inl n :: .inr (.inl r) :: s => match ha[r]? with
      | some c => match aldA B .boolean n c with
        | some q => some (q.1, pc + 1, .inl q.2 :: s, ha)
        | none => none
      | none => none
    | _ => none
  | .iastore => match sa with
    | .inl v :: .inl n :: .inr (.inl r) :: s => match ha[r]? with
      | some c => match astA B .int n v c with
        | some c' => if wOk ha r = true then some (B, pc + 1, s, ha.set r c') else none
        | none => none
      | none => none
    | _ => none
  | .bastore => match sa with
    | .inl v :: .inl n :: .inr (.inl r) :: s => match ha[r]? with
      | some c => if 0 ≤ (bnd B v).1 ∧ (bnd B v).2 ≤ 1 then (match astA B .boolean n v c with
        | some c' => if wOk ha r = true then some (B, pc + 1, s, ha.set r c') else none
        | none => none) else none
      | none => none
    | _ => none
  | .arraylength => match sa with
    | .inr (.inl r) :: s => match ha[r]? with
      | some (.inl (.int, len, _, _)) => some (B, pc + 1, .inl (none, (Int32.ofNat len).toInt) :: s, ha)
      | _ => none
    | _ => none
  | .idiv => match sa with
    | .inl b :: .inl a :: s => if 1 ≤ (bnd B b).1 then some ((divN B a b).1, pc + 1, .inl (divN B a b).2 :: s, ha) else none
    | _ => none
  | .irem => match sa with
    | .inl b :: .inl a :: s => if 1 ≤ (bnd B b).1 then some ((remN B a b).1, pc + 1, .inl (remN B a b).2 :: s, ha) else none
    | _ => none
  | .ldc idx => match ciRes M.cn idx with
    | some (v, _) => some (B, pc + 2, .inl (none, v.toInt) :: sa, ha)
    | none => none
  | .ldc_w idx => match ciRes M.cn idx with
    | some (v, _) => some (B, pc + 3, .inl (none, v.toInt) :: sa, ha)
    | none => none
  | .ldc2_w idx => match clRes M.cn idx with
    | some (v, _) => some (B, pc + 3, .inr (.inr (some v)) :: sa, ha)
    | none => none
  | .invokestatic idx => match mRes M.cn idx, sa with
    | some (kd, _, _, _, _), .inl n :: .inl dp :: .inr (.inl k1) :: .inl sp :: .inr (.inl k0) :: s => match ha[k0]?, ha[k1]? with
      | some (.inl (.int, n0, lo0, hi0)), some (.inl (.int, n1, lo1, hi1)) => if kd = 6 ∧ (s.map catA).sum ≤ 8 ∧ 0 < d ∧ 0 ≤ (bnd B n).1 ∧ 0 ≤ (bnd B dp).1 ∧ 0 ≤ (bnd B sp).1 ∧ (bnd B sp).2 + (bnd B n).2 ≤ n0 ∧ (bnd B dp).2 + (bnd B n).2 ≤ n1 ∧ lo1 ≤ lo0 ∧ hi0 ≤ hi1 ∧ wOk ha k1 = true then some (B, pc + 3, s, ha) else none
      | _, _ => none
    | _, _ => none
  | _ => none
end
section
theorem cat_sum0 {B : BD} {ρ : Nat → Int} : ∀ {as : List AVa} {vs : List Value}, rS B ρ as vs → vs.map (fun v => v.category) = as.map catA
  | [], [], _ => rfl
  | _ :: _, _ :: _, h => by rw [List.map_cons, List.map_cons, catA_eq h.1, cat_sum0 h.2]
  | [], _ :: _, h => h.elim
  | _ :: _, [], h => h.elim
theorem cpyL_bounds {xs ys : List Int32} {sp dp n : Nat} {lo hi : Int} (h1 : sp + n ≤ xs.length) (hx : ∀ y ∈ xs, lo ≤ y.toInt ∧ y.toInt ≤ hi) (hy : ∀ y ∈ ys, lo ≤ y.toInt ∧ y.toInt ≤ hi) : ∀ y ∈ cpyL xs ys sp dp n, lo ≤ y.toInt ∧ y.toInt ≤ hi := by
  intro y hm
  unfold cpyL at hm
  obtain ⟨k, hk, rfl⟩ := List.mem_map.mp hm
  have hk := List.mem_range.mp hk
  split
  · exact hx _ (getD_mem (by omega))
  · exact hy _ (getD_mem hk)
section AHOK
variable {B : BD} {ρ : Nat → Int} {d : Nat} {M : MT} {i : Instr} {pc : Nat} {sa : List AVa} {ha : AHa} {st : List Value} {hp : AH}
theorem aH1_ok (hB : okB B ρ) (hS : rS B ρ sa st) (hH : rH B ρ ha hp) {o : OUT} (h : aH1 d B M i pc sa ha = some o) : outOk B ρ d M i pc st hp o := by
  cases i with
  | getfield idx =>
    simp only [aH1] at h
    split at h
    · split at h
      · rename_i ci sl w cj fa h1 h2
        split at h
        · rename_i hc
          split at h
          · rename_i a hf
            split at h
            · cases h
            rename_i hna
            cases h
            obtain ⟨v, vs, rfl, hv, hr⟩ := rS_cons hS
            cases rV_ref hv
            obtain ⟨x, g1, g2⟩ := hH.2.1 _ _ h2
            obtain ⟨fs, rfl, g3⟩ := rC_obj g2
            obtain ⟨u, g4, g5⟩ := g3.2 _ _ hf
            have g5 := g5.resolve_left hna
            exact ⟨ρ, u :: vs, hp, hB, ext_rf, by simp only [hA, h1, g1, if_pos hc, g4], ⟨g5, hr⟩, hH⟩
          · cases h
        · cases h
      · cases h
    · cases h
  | putfield idx =>
    simp only [aH1] at h
    split at h
    · rename_i a r s
      split at h
      · rename_i ci sl w cj fa h1 h2
        split at h
        · rename_i hc
          obtain ⟨c1, c2, c3, c4, c5⟩ := hc
          cases h
          obtain ⟨v, vs, rfl, hv, hr⟩ := rS_cons hS
          obtain ⟨u, us, rfl, hu, hr2⟩ := rS_cons hr
          cases rV_ref hu
          obtain ⟨x, g1, g2⟩ := hH.2.1 _ _ h2
          obtain ⟨fs, rfl, g3⟩ := rC_obj g2
          have hcond : ci = cj ∧ sl < fs.length ∧ fHold (fTy ci sl) v = true ∧ (fFin ci sl = false ∨ (ci = M.cn ∧ M.y.name = "<init>")) := ⟨c1, by rw [← g3.1]; exact c2, fHoldA_ok c3 hv, Or.inl c4⟩
          refine ⟨ρ, us, hp.set r (.inr (.inr (ci, fs.set sl v))), hB, ext_rf, ?_, hr2, rH_set hH c5 ⟨rfl, by rw [List.length_set, List.length_set]; exact g3.1, fun j b hj => ?_⟩⟩
          · simp only [hA, h1, g1, if_pos hcond]
          · by_cases hjk : j = sl
            · subst hjk
              rw [List.getElem?_set_self c2] at hj
              cases hj
              exact ⟨v, List.getElem?_set_self (by rw [← g3.1]; exact c2), Or.inr hv⟩
            · rw [List.getElem?_set_ne (Ne.symm hjk)] at hj
              obtain ⟨w, q1, q2⟩ := g3.2 j b hj
              exact ⟨w, by rw [List.getElem?_set_ne (Ne.symm hjk)]; exact q1, q2⟩
        · cases h
      · cases h
    · cases h
  | iaload =>
    simp only [aH1] at h
    split at h
    · split at h
      · rename_i c h2
        split at h
        · rename_i q hq
          cases h
          obtain ⟨v, vs, rfl, hv, hr⟩ := rS_cons hS
          obtain ⟨u, us, rfl, hu, hr2⟩ := rS_cons hr
          obtain ⟨x, rfl, hx⟩ := rV_int hv
          cases rV_ref hu
          obtain ⟨y, g1, g2⟩ := hH.2.1 _ _ h2
          obtain ⟨xs, rfl, g3, ρ', g4, g5, g6⟩ := aldA_ok hB hx g2 hq
          exact ⟨ρ', .int (xs.getD x.toNatClampNeg 0) :: us, hp, g4, g5, by simp only [hA, g1, if_pos g3], ⟨g6, rS_ext g5 hr2⟩, rH_ext g5 hH⟩
        · cases h
      · cases h
    · cases h
  | baload =>
    simp only [aH1] at h
    split at h
    · split at h
      · rename_i c h2
        split at h
        · rename_i q hq
          cases h
          obtain ⟨v, vs, rfl, hv, hr⟩ := rS_cons hS
          obtain ⟨u, us, rfl, hu, hr2⟩ := rS_cons hr
          obtain ⟨x, rfl, hx⟩ := rV_int hv
          cases rV_ref hu
          obtain ⟨y, g1, g2⟩ := hH.2.1 _ _ h2
          obtain ⟨xs, rfl, g3, ρ', g4, g5, g6⟩ := aldA_ok hB hx g2 hq
          exact ⟨ρ', .int (xs.getD x.toNatClampNeg 0) :: us, hp, g4, g5, by simp only [hA, g1, if_pos g3], ⟨g6, rS_ext g5 hr2⟩, rH_ext g5 hH⟩
        · cases h
      · cases h
    · cases h
  | iastore =>
    simp only [aH1] at h
    split at h
    · rename_i v0 n0 r s
      split at h
      · rename_i c h2
        split at h
        · rename_i c' hq
          split at h
          rotate_left
          · cases h
          rename_i hwo
          cases h
          obtain ⟨v, vs, rfl, hv, hr⟩ := rS_cons hS
          obtain ⟨u, us, rfl, hu, hr2⟩ := rS_cons hr
          obtain ⟨t, ts, rfl, ht, hr3⟩ := rS_cons hr2
          obtain ⟨z, rfl, hz⟩ := rV_int hv
          obtain ⟨x, rfl, hx⟩ := rV_int hu
          cases rV_ref ht
          obtain ⟨y, g1, g2⟩ := hH.2.1 _ _ h2
          obtain ⟨xs, rfl, g3, g4⟩ := astA_ok hB hx hz g2 hq
          exact ⟨ρ, ts, hp.set r (.inl (.int, xs.set x.toNatClampNeg z)), hB, ext_rf, by simp only [hA, g1, if_pos g3], hr3, rH_set hH hwo g4⟩
        · cases h
      · cases h
    · cases h
  | bastore =>
    simp only [aH1] at h
    split at h
    · rename_i v0 n0 r s
      split at h
      · rename_i c h2
        split at h
        · rename_i hb01
          split at h
          · rename_i c' hq
            split at h
            rotate_left
            · cases h
            rename_i hwo
            cases h
            obtain ⟨v, vs, rfl, hv, hr⟩ := rS_cons hS
            obtain ⟨u, us, rfl, hu, hr2⟩ := rS_cons hr
            obtain ⟨t, ts, rfl, ht, hr3⟩ := rS_cons hr2
            obtain ⟨z, rfl, hz⟩ := rV_int hv
            obtain ⟨x, rfl, hx⟩ := rV_int hu
            cases rV_ref ht
            obtain ⟨y, g1, g2⟩ := hH.2.1 _ _ h2
            obtain ⟨xs, rfl, g3, g4⟩ := astA_ok hB hx hz g2 hq
            have hbz := bnd_ok hB hz
            have hz01 : z = 0 ∨ z = 1 := by
              have e0 : (0 : Int32).toInt = 0 := by decide
              have e1 : (1 : Int32).toInt = 1 := by decide
              rcases (show z.toInt = 0 ∨ z.toInt = 1 by omega) with q | q
              · left; exact Int32.toInt_inj.mp (by omega)
              · right; exact Int32.toInt_inj.mp (by omega)
            have hnar : vp_nar .boolean z = z := by rcases hz01 with q | q <;> subst q <;> decide
            exact ⟨ρ, ts, hp.set r (.inl (.boolean, xs.set x.toNatClampNeg z)), hB, ext_rf, by simp only [hA, g1, if_pos g3, hnar], hr3, rH_set hH hwo g4⟩
          · cases h
        · cases h
      · cases h
    · cases h
  | arraylength =>
    simp only [aH1] at h
    split at h
    · split at h
      · rename_i len lo hi h2
        cases h
        obtain ⟨v, vs, rfl, hv, hr⟩ := rS_cons hS
        cases rV_ref hv
        obtain ⟨y, g1, g2⟩ := hH.2.1 _ _ h2
        obtain ⟨xs, rfl, hl, -⟩ := rC_sum g2
        exact ⟨ρ, .int (Int32.ofNat xs.length) :: vs, hp, hB, ext_rf, by simp only [hA, g1], ⟨⟨fun j hj => (by cases hj), by rw [hl]; rfl⟩, hr⟩, hH⟩
      · cases h
    · cases h
  | idiv =>
    simp only [aH1] at h
    split at h
    · split at h
      · rename_i hb
        cases h
        obtain ⟨v, vs, rfl, hv, hr⟩ := rS_cons hS
        obtain ⟨u, us, rfl, hu, hr2⟩ := rS_cons hr
        obtain ⟨y, rfl, hy⟩ := rV_int hv
        obtain ⟨x, rfl, hx⟩ := rV_int hu
        have hy0 : ¬ y = 0 := fun q => by
          have := bnd_ok hB hy
          rw [q, Int32.toInt_zero] at this
          omega
        obtain ⟨ρ', g1, g2, g3⟩ := divN_ok hB hx hy
        exact ⟨ρ', .int (x / y) :: us, hp, g1, g2, by simp only [hA, if_neg hy0], ⟨g3, rS_ext g2 hr2⟩, rH_ext g2 hH⟩
      · cases h
    · cases h
  | irem =>
    simp only [aH1] at h
    split at h
    · split at h
      · rename_i hb
        cases h
        obtain ⟨v, vs, rfl, hv, hr⟩ := rS_cons hS
        obtain ⟨u, us, rfl, hu, hr2⟩ := rS_cons hr
        obtain ⟨y, rfl, hy⟩ := rV_int hv
        obtain ⟨x, rfl, hx⟩ := rV_int hu
        have hy0 : ¬ y = 0 := fun q => by
          have := bnd_ok hB hy
          rw [q, Int32.toInt_zero] at this
          omega
        obtain ⟨ρ', g1, g2, g3⟩ := remN_ok hB hx hy
        exact ⟨ρ', .int (x - x / y * y) :: us, hp, g1, g2, by simp only [hA, if_neg hy0], ⟨g3, rS_ext g2 hr2⟩, rH_ext g2 hH⟩
      · cases h
    · cases h
  | ldc idx =>
    simp only [aH1] at h
    split at h
    · rename_i v w h1; cases h
      exact ⟨ρ, .int v :: st, hp, hB, ext_rf, by simp only [hA, h1], ⟨⟨fun j hj => (by cases hj), rfl⟩, hS⟩, hH⟩
    · cases h
  | ldc_w idx =>
    simp only [aH1] at h
    split at h
    · rename_i v w h1; cases h
      exact ⟨ρ, .int v :: st, hp, hB, ext_rf, by simp only [hA, h1], ⟨⟨fun j hj => (by cases hj), rfl⟩, hS⟩, hH⟩
    · cases h
  | ldc2_w idx =>
    simp only [aH1] at h
    split at h
    · rename_i v w h1; cases h
      exact ⟨ρ, .long v :: st, hp, hB, ext_rf, by simp only [hA, h1], ⟨(fun c hc => by cases hc; rfl), hS⟩, hH⟩
    · cases h
  | invokestatic idx =>
    simp only [aH1] at h
    split at h
    · rename_i kd a1 a2 a3 a4 n dp k1 sp k0 s1 h1
      split at h
      · rename_i n0 lo0 hi0 n1 lo1 hi1 g0 g1
        split at h
        · rename_i hc
          obtain ⟨c1, c2, c3, c4, c5, c6, c7, c8, c9, c10, c11⟩ := hc
          cases h
          obtain ⟨v1, t1, rfl, r1, hr1⟩ := rS_cons hS
          obtain ⟨v2, t2, rfl, r2, hr2⟩ := rS_cons hr1
          obtain ⟨v3, t3, rfl, r3, hr3⟩ := rS_cons hr2
          obtain ⟨v4, t4, rfl, r4, hr4⟩ := rS_cons hr3
          obtain ⟨v5, t5, rfl, r5, hr5⟩ := rS_cons hr4
          obtain ⟨xn, rfl, en⟩ := rV_int r1
          obtain ⟨xd, rfl, ed⟩ := rV_int r2
          cases rV_ref r3
          obtain ⟨xp, rfl, ep⟩ := rV_int r4
          cases rV_ref r5
          obtain ⟨y0, q0, q1⟩ := hH.2.1 _ _ g0
          obtain ⟨y1, q2, q3⟩ := hH.2.1 _ _ g1
          obtain ⟨xs, rfl, l0, b0⟩ := rC_sum q1
          obtain ⟨ys, rfl, l1, b1⟩ := rC_sum q3
          have bn := bnd_ok hB en
          have bd := bnd_ok hB ed
          have bp := bnd_ok hB ep
          obtain ⟨jn, -, rfl, en1⟩ := nI_toInt' (x := xn) (by omega)
          obtain ⟨jd, -, rfl, ed1⟩ := nI_toInt' (x := xd) (by omega)
          obtain ⟨jp, -, rfl, ep1⟩ := nI_toInt' (x := xp) (by omega)
          have tn : (nI jn).toNatClampNeg = jn := by show (nI jn).toInt.toNat = jn; omega
          have td : (nI jd).toNatClampNeg = jd := by show (nI jd).toInt.toNat = jd; omega
          have tp : (nI jp).toNatClampNeg = jp := by show (nI jp).toInt.toNat = jp; omega
          have z : ∀ j, (nI j).toInt = (j : Int) → ¬ nI j < 0 := fun j e q => by
            rw [Int32.lt_iff_toInt_lt, Int32.toInt_zero] at q; omega
          have hcond : kd = 6 ∧ catB t5 = true ∧ 0 < d ∧ ¬ nI jp < 0 ∧ ¬ nI jd < 0 ∧ ¬ nI jn < 0 ∧ (nI jp).toNatClampNeg + (nI jn).toNatClampNeg ≤ xs.length ∧ (nI jd).toNatClampNeg + (nI jn).toNatClampNeg ≤ ys.length := ⟨c1, by unfold catB; rw [cat_sum0 hr5]; exact decide_eq_true c2, c3, z _ ep1, z _ ed1, z _ en1, by omega, by omega⟩
          refine ⟨ρ, t5, hp.set k1 (.inl (.int, cpyL xs ys (nI jp).toNatClampNeg (nI jd).toNatClampNeg (nI jn).toNatClampNeg)), hB, ext_rf, ?_, hr5, rH_keep hH c11 g1 ⟨rfl, by rw [cpyL_length]; exact l1, cpyL_bounds (by omega) (fun y hy => by have := b0 y hy; omega) b1⟩⟩
          simp only [hA, h1, q0, q2, if_pos hcond]
        · cases h
      · cases h
    · cases h
  | _ => cases h
end AHOK
end
section
/-! ===== steps with more than one outcome; and arraycopy ===== -/
def eqTo (B : BD) (n : AN) (v : Int) : BD := narL (narH B n v) n v
theorem eqTo_ok {B : BD} {ρ : Nat → Int} (hB : okB B ρ) {n : AN} {x : Int32} (h : rN B ρ n x) {v : Int} (hv : x.toInt = v) : okB (eqTo B n v) ρ ∧ ext B ρ (eqTo B n v) ρ := by
  have e1 : okB (narH B n v) ρ := narH_ok hB h (by omega)
  exact ⟨narL_ok e1 (rN_ext narH_ext h) (by omega), ext_tr narH_ext narL_ext⟩
def inBd (B : BD) (n : AN) (v : Int) : Bool := decide ((bnd B n).1 ≤ v) && decide (v ≤ (bnd B n).2)
theorem inBd_ok {B : BD} {ρ : Nat → Int} (hB : okB B ρ) {n : AN} {x : Int32} (h : rN B ρ n x) {v : Int} (hv : x.toInt = v) : inBd B n v = true := by
  have := bnd_ok hB h
  unfold inBd
  rw [Bool.and_eq_true, decide_eq_true_eq, decide_eq_true_eq]
  omega
def aF (B : BD) (i : Instr) (pc : Nat) (sa : List AVa) (ha : AHa) : Option (List (Option OUT)) := match i with
  | .aaload => match sa with
    | .inl n :: .inr (.inl r) :: s => match ha[r]? with
      | some (.inr (.inr (.inl rs))) => if inA B n rs.length = true then some (((List.range rs.length).filter (fun (k : Nat) => inBd B n (k : Int))).map (fun (k : Nat) => some (eqTo B n (k : Int), pc + 1, .inr (.inl (rs.getD k 0)) :: s, ha))) else none
      | _ => none
    | _ => none
  | .tableswitch dflt lo hi offs => match sa with
    | .inl n :: s => some ((if (bnd B n).1 < lo ∨ hi < (bnd B n).2 then [(tgt pc dflt).map (fun t => (B, t, s, ha))] else []) ++ ((List.range (hi - lo + 1).toNat).filter (fun (k : Nat) => inBd B n (lo + (k : Int)))).map (fun (k : Nat) => (offs[k]?).bind (fun off => (tgt pc off).map (fun t => (eqTo B n (lo + (k : Int)), t, s, ha)))))
    | _ => none
  | .lookupswitch dflt ps => match sa with
    | .inl n :: s => if (ps.toList.zip (ps.toList.drop 1)).all (fun (a, next) => a.1 < next.1) = true then some ((if knwA B n = true ∧ ps.toList.any (fun q => decide (q.1 = (bnd B n).1)) = true then [] else [(tgt pc dflt).map (fun t => (B, t, s, ha))]) ++ (ps.toList.filter (fun q => inBd B n q.1)).map (fun q => (tgt pc q.2).map (fun t => (eqTo B n q.1, t, s, ha)))) else none
    | _ => none
  | _ => none
theorem off_mem (dflt k : Int) : ∀ l : List (Int × Int), (Op.lookupswitch.offset l dflt k = dflt ∧ l.any (fun q => decide (q.1 = k)) = false) ∨ ∃ q ∈ l, q.1 = k ∧ Op.lookupswitch.offset l dflt k = q.2
  | [] => Or.inl ⟨rfl, rfl⟩
  | (a, o) :: l => by
    rw [Op.lookupswitch.offset_cons]
    split
    · rename_i h
      exact Or.inr ⟨(a, o), List.mem_cons_self, by first | exact h | exact h.symm | (simpa using h) | (simpa using h.symm), rfl⟩
    · rename_i h
      rcases off_mem dflt k l with ⟨h1, h2⟩ | ⟨q, h1, h2, h3⟩
      · refine Or.inl ⟨h1, ?_⟩
        rw [List.any_cons, h2, Bool.or_false]
        exact decide_eq_false (fun e => h (by first | exact e | exact e.symm | (simpa using e)))
      · exact Or.inr ⟨q, List.mem_cons_of_mem _ h1, h2, h3⟩
section AFOK
variable {B : BD} {ρ : Nat → Int} {d : Nat} {M : MT} {i : Instr} {pc : Nat} {sa : List AVa} {ha : AHa} {st : List Value} {hp : AH}
theorem aF_ok (hB : okB B ρ) (hS : rS B ρ sa st) (hH : rH B ρ ha hp) {L : List (Option OUT)} (h : aF B i pc sa ha = some L) (hall : ∀ q ∈ L, ∃ o, q = some o) : ∃ o, some o ∈ L ∧ outOk B ρ d M i pc st hp o := by
  cases i with
  | aaload =>
    simp only [aF] at h
    split at h
    · rename_i n r s
      split at h
      · rename_i rs h2
        split at h
        · rename_i hi
          cases h
          obtain ⟨v, vs, rfl, hv, hr⟩ := rS_cons hS
          obtain ⟨u, us, rfl, hu, hr2⟩ := rS_cons hr
          obtain ⟨x, rfl, hx⟩ := rV_int hv
          cases rV_ref hu
          obtain ⟨y, g1, g2⟩ := hH.2.1 _ _ h2
          cases rC_rows g2
          obtain ⟨q1, q2⟩ := inA_ok hB hx hi
          have hxk : x.toInt = ((x.toNatClampNeg : Nat) : Int) := by
            have := vp_in_iff.mp q1
            show x.toInt = ((x.toInt.toNat : Nat) : Int)
            omega
          have hbd := inBd_ok hB hx hxk
          obtain ⟨e1, e2⟩ := eqTo_ok hB hx hxk
          refine ⟨(eqTo B n x.toNatClampNeg, pc + 1, .inr (.inl (rs.getD x.toNatClampNeg 0)) :: s, ha), ?_, ρ, .ref (rs.getD x.toNatClampNeg 0) :: us, hp, e1, e2, ?_, ⟨rfl, rS_ext e2 hr2⟩, rH_ext e2 hH⟩
          · exact List.mem_map.mpr ⟨x.toNatClampNeg, List.mem_filter.mpr ⟨List.mem_range.mpr q2, hbd⟩, rfl⟩
          · have e3 : rs[x.toNatClampNeg]? = some (rs.getD x.toNatClampNeg 0) := by
              rw [List.getD_eq_getElem?_getD, List.getElem?_eq_getElem q2]; rfl
            simp only [hA, g1, if_pos (inB_of q1), e3]
        · cases h
      · cases h
    · cases h
  | tableswitch dflt lo hi offs =>
    simp only [aF] at h
    split at h
    · rename_i n s
      cases h
      obtain ⟨v, vs, rfl, hv, hr⟩ := rS_cons hS
      obtain ⟨x, rfl, hx⟩ := rV_int hv
      have hb := bnd_ok hB hx
      by_cases hout : x.toInt < lo ∨ hi < x.toInt
      · have hc : (bnd B n).1 < lo ∨ hi < (bnd B n).2 := by omega
        obtain ⟨o, ho⟩ := hall ((tgt pc dflt).map (fun t => (B, t, s, ha))) (by rw [if_pos hc]; exact List.mem_append_left _ List.mem_cons_self)
        obtain ⟨t, ht, rfl⟩ := Option.map_eq_some_iff.mp ho
        refine ⟨(B, t, s, ha), by rw [if_pos hc]; exact List.mem_append_left _ (by rw [ho]; exact List.mem_cons_self), ρ, vs, hp, hB, ext_rf, ?_, hr, hH⟩
        have e : swT dflt lo hi offs pc x = some t := by unfold swT; rw [if_pos hout]; exact ht
        simp only [hA, e]
      · have hk : ((x.toInt - lo).toNat : Int) = x.toInt - lo := Int.toNat_of_nonneg (by omega)
        have hlt : (x.toInt - lo).toNat < (hi - lo + 1).toNat := by omega
        have hv2 : x.toInt = lo + ((x.toInt - lo).toNat : Int) := by omega
        have hmem : (offs[(x.toInt - lo).toNat]?).bind (fun off => (tgt pc off).map (fun t => (eqTo B n (lo + ((x.toInt - lo).toNat : Int)), t, s, ha))) ∈ ((if (bnd B n).1 < lo ∨ hi < (bnd B n).2 then [(tgt pc dflt).map (fun t => (B, t, s, ha))] else []) ++ ((List.range (hi - lo + 1).toNat).filter (fun (k : Nat) => inBd B n (lo + (k : Int)))).map (fun (k : Nat) => (offs[k]?).bind (fun off => (tgt pc off).map (fun t => (eqTo B n (lo + (k : Int)), t, s, ha))))) :=
          List.mem_append_right _ (List.mem_map.mpr ⟨(x.toInt - lo).toNat, List.mem_filter.mpr ⟨List.mem_range.mpr hlt, inBd_ok hB hx hv2⟩, rfl⟩)
        obtain ⟨o, ho⟩ := hall _ hmem
        obtain ⟨off, h1, h2⟩ := Option.bind_eq_some_iff.mp ho
        obtain ⟨t, ht, rfl⟩ := Option.map_eq_some_iff.mp h2
        obtain ⟨e1, e2⟩ := eqTo_ok hB hx hv2
        refine ⟨_, by rw [← ho]; exact hmem, ρ, vs, hp, e1, e2, ?_, rS_ext e2 hr, rH_ext e2 hH⟩
        have e : swT dflt lo hi offs pc x = some t := by unfold swT; rw [if_neg hout, h1]; exact ht
        simp only [hA, e]
    · cases h
  | lookupswitch dflt ps =>
    simp only [aF] at h
    split at h
    · rename_i n s
      split at h
      · rename_i hsrt
        cases h
        obtain ⟨v, vs, rfl, hv, hr⟩ := rS_cons hS
        obtain ⟨x, rfl, hx⟩ := rV_int hv
        have hb := bnd_ok hB hx
        rcases off_mem dflt x.toInt ps.toList with ⟨e1, e2⟩ | ⟨q, q1, q2, q3⟩
        · have hc : ¬ (knwA B n = true ∧ ps.toList.any (fun q => decide (q.1 = (bnd B n).1)) = true) := fun z => by
            have hk := of_decide_eq_true z.1
            have e3 : (bnd B n).1 = x.toInt := by omega
            have z2 := z.2
            rw [e3, e2] at z2
            cases z2
          obtain ⟨o, ho⟩ := hall ((tgt pc dflt).map (fun t => (B, t, s, ha))) (by rw [if_neg hc]; exact List.mem_append_left _ List.mem_cons_self)
          obtain ⟨t, ht, rfl⟩ := Option.map_eq_some_iff.mp ho
          refine ⟨(B, t, s, ha), by rw [if_neg hc, ho]; exact List.mem_append_left _ List.mem_cons_self, ρ, vs, hp, hB, ext_rf, ?_, hr, hH⟩
          simp only [hA, if_pos hsrt, e1, ht]
        · obtain ⟨e1, e2⟩ := eqTo_ok hB hx q2.symm
          have hmem : (tgt pc q.2).map (fun t => (eqTo B n q.1, t, s, ha)) ∈ ((if knwA B n = true ∧ ps.toList.any (fun q => decide (q.1 = (bnd B n).1)) = true then [] else [(tgt pc dflt).map (fun t => (B, t, s, ha))]) ++ (ps.toList.filter (fun q => inBd B n q.1)).map (fun q => (tgt pc q.2).map (fun t => (eqTo B n q.1, t, s, ha)))) := List.mem_append_right _ (List.mem_map.mpr ⟨q, List.mem_filter.mpr ⟨q1, inBd_ok hB hx q2.symm⟩, rfl⟩)
          obtain ⟨o, ho⟩ := hall _ hmem
          obtain ⟨t, ht, rfl⟩ := Option.map_eq_some_iff.mp ho
          refine ⟨_, by rw [← ho]; exact hmem, ρ, vs, hp, e1, e2, ?_, rS_ext e2 hr, rH_ext e2 hH⟩
          simp only [hA, if_pos hsrt, q3, ht]
      · cases h
    · cases h
  | _ => cases h
end AFOK
end
section
/-! ===== ends of methods, calls, Math's two, over names ===== -/
def rO (B : BD) (ρ : Nat → Int) (a : Option AVa) (v : Option Value) : Prop := match a, v with
  | none, none => True
  | some a, some v => rV B ρ a v
  | _, _ => False
theorem rO_list {B : BD} {ρ : Nat → Int} {a : Option AVa} {v : Option Value} (h : rO B ρ a v) {s : List AVa} {vs : List Value} (hs : rS B ρ s vs) : rS B ρ (a.toList ++ s) (v.toList ++ vs) := by
  match a, v, h with
  | none, none, _ => exact hs
  | some a, some v, h => exact ⟨h, hs⟩
def rAa (B : BD) (rt : Option FieldType) (i : Instr) (sa : List AVa) : Option (Option AVa) := match i with
  | .ireturn => match sa with
    | [.inl n] => match rt with
      | some .int => some (some (.inl n))
      | some .boolean => if 0 ≤ (bnd B n).1 ∧ (bnd B n).2 ≤ 1 then some (some (.inl n)) else none
      | _ => none
    | _ => none
  | .lreturn => match sa with
    | [.inr (.inr o)] => match rt with
      | some .long => some (some (.inr (.inr o)))
      | _ => none
    | _ => none
  | .areturn => match sa with
    | [.inr (.inl r)] => match rt with
      | some (.object _) => some (some (.inr (.inl r)))
      | some (.array _) => some (some (.inr (.inl r)))
      | _ => none
    | _ => none
  | .return_ => match sa with
    | [] => match rt with
      | none => some none
      | _ => none
    | _ => none
  | _ => none
theorem rS_nil {B : BD} {ρ : Nat → Int} {st : List Value} (h : rS B ρ [] st) : st = [] := by
  match st, h with
  | [], _ => rfl
theorem rAa_ok {B : BD} {ρ : Nat → Int} (hB : okB B ρ) {rt : Option FieldType} {i : Instr} {sa : List AVa} {st : List Value} (hS : rS B ρ sa st) {a : Option AVa} (h : rAa B rt i sa = some a) : ∃ v, rA rt i st = some v ∧ rO B ρ a v := by
  cases i with
  | ireturn =>
    simp only [rAa] at h
    split at h
    · obtain ⟨v, vs, rfl, hv, hr⟩ := rS_cons hS
      obtain ⟨x, rfl, hx⟩ := rV_int hv
      cases rS_nil hr
      split at h
      · cases h; exact ⟨_, rfl, hx⟩
      · split at h
        · rename_i hb
          cases h
          have := bnd_ok hB hx
          have e0 : (0 : Int32).toInt = 0 := by decide
          have e1 : (1 : Int32).toInt = 1 := by decide
          have hx01 : x = 0 ∨ x = 1 := by
            rcases (show x.toInt = 0 ∨ x.toInt = 1 by omega) with q | q
            · left; exact Int32.toInt_inj.mp (by omega)
            · right; exact Int32.toInt_inj.mp (by omega)
          exact ⟨some (.int x), by simp only [rA, if_pos hx01], hx⟩
        · cases h
      · cases h
    · cases h
  | lreturn =>
    simp only [rAa] at h
    split at h
    · obtain ⟨v, vs, rfl, hv, hr⟩ := rS_cons hS
      obtain ⟨x, rfl, hx⟩ := rV_long hv
      cases rS_nil hr
      split at h
      · cases h; exact ⟨_, rfl, hx⟩
      · cases h
    · cases h
  | areturn =>
    simp only [rAa] at h
    split at h
    · obtain ⟨v, vs, rfl, hv, hr⟩ := rS_cons hS
      cases rV_ref hv
      cases rS_nil hr
      split at h
      · cases h; exact ⟨_, rfl, rfl⟩
      · cases h; exact ⟨_, rfl, rfl⟩
      · cases h
    · cases h
  | return_ =>
    simp only [rAa] at h
    split at h
    · cases rS_nil hS
      split at h
      · cases h; exact ⟨none, rfl, trivial⟩
      · cases h
    · cases h
  | _ => cases h
theorem rS_take {B : BD} {ρ : Nat → Int} : ∀ (n : Nat) {as : List AVa} {vs : List Value}, rS B ρ as vs → rS B ρ (as.take n) (vs.take n)
  | 0, _, _, _ => trivial
  | _ + 1, [], [], _ => trivial
  | n + 1, _ :: _, _ :: _, h => ⟨h.1, rS_take n h.2⟩
  | _ + 1, [], _ :: _, h => h.elim
  | _ + 1, _ :: _, [], h => h.elim
theorem rS_drop {B : BD} {ρ : Nat → Int} : ∀ (n : Nat) {as : List AVa} {vs : List Value}, rS B ρ as vs → rS B ρ (as.drop n) (vs.drop n)
  | 0, _, _, h => h
  | _ + 1, [], [], _ => trivial
  | n + 1, _ :: _, _ :: _, h => rS_drop n h.2
  | _ + 1, [], _ :: _, h => h.elim
  | _ + 1, _ :: _, [], h => h.elim
theorem rS_app {B : BD} {ρ : Nat → Int} : ∀ {as bs : List AVa} {vs ws : List Value}, rS B ρ as vs → rS B ρ bs ws → rS B ρ (as ++ bs) (vs ++ ws)
  | [], _, [], _, _, h => h
  | _ :: _, _, _ :: _, _, h, h2 => ⟨h.1, rS_app h.2 h2⟩
  | [], _, _ :: _, _, h, _ => h.elim
  | _ :: _, _, [], _, h, _ => h.elim
theorem rS_rev {B : BD} {ρ : Nat → Int} : ∀ {as : List AVa} {vs : List Value}, rS B ρ as vs → rS B ρ as.reverse vs.reverse
  | [], [], _ => trivial
  | a :: as, v :: vs, h => by
    rw [List.reverse_cons, List.reverse_cons]
    exact rS_app (rS_rev h.2) ⟨h.1, trivial⟩
  | [], _ :: _, h => h.elim
  | _ :: _, [], h => h.elim
def kAa (cn : Nat) (i : Instr) (sa : List AVa) (ha : AHa) : Option (Nat × List AVa × List AVa) := match i with
  | .invokestatic idx => match mRes cn idx with
    | some (kd, N, _) => if (kd = 0 ∨ kd = 1) ∧ npL.getD N 0 ≤ sa.length then some (N, (sa.take (npL.getD N 0)).reverse, sa.drop (npL.getD N 0)) else none
    | none => none
  | .invokevirtual idx => match mRes cn idx with
    | some (kd, N, _) => match sa.drop (npL.getD N 0) with
      | .inr (.inl r) :: s => match ha[r]?, mtL[N]? with
        | some (.inr (.inr (.inr (ci, _)))), some M => if kd = 2 ∧ ci = M.cn ∧ ci < 8 then some (N, .inr (.inl r) :: (sa.take (npL.getD N 0)).reverse, s) else none
        | _, _ => none
      | _ => none
    | none => none
  | _ => none
theorem kAa_ok {B : BD} {ρ : Nat → Int} {cn : Nat} {i : Instr} {sa as s : List AVa} {ha : AHa} {st : List Value} {hp : AH} (hS : rS B ρ sa st) (hH : rH B ρ ha hp) {N : Nat} (h : kAa cn i sa ha = some (N, as, s)) : ∃ av sv, kA cn i st hp = some (N, av, sv) ∧ rS B ρ as av ∧ rS B ρ s sv := by
  cases i with
  | invokestatic idx =>
    simp only [kAa] at h
    split at h
    · rename_i kd N0 a1 h0
      split at h
      · rename_i hc
        cases h
        have hc2 : (kd = 0 ∨ kd = 1) ∧ npL.getD N 0 ≤ st.length := ⟨hc.1, by rw [← rS_len hS]; exact hc.2⟩
        exact ⟨_, _, by simp only [kA, h0, if_pos hc2], rS_rev (rS_take _ hS), rS_drop _ hS⟩
      · cases h
    · cases h
  | invokevirtual idx =>
    simp only [kAa] at h
    split at h
    · rename_i kd N0 a1 h0
      split at h
      · rename_i r s1 hdrop
        split at h
        · rename_i ci fa M0 g0 g1
          split at h
          · rename_i hc
            cases h
            have hd := rS_drop (npL.getD N 0) hS
            rw [hdrop] at hd
            obtain ⟨v, vs, e, hv, hr⟩ := rS_cons hd
            cases rV_ref hv
            obtain ⟨x, q1, q2⟩ := hH.2.1 _ _ g0
            obtain ⟨fs, rfl, -⟩ := rC_obj q2
            exact ⟨.ref r :: (st.take (npL.getD N 0)).reverse, vs, by simp only [kA, h0, e, q1, g1, if_pos hc], ⟨rfl, rS_rev (rS_take _ hS)⟩, hr⟩
          · cases h
        · cases h
      · cases h
    · cases h
  | _ => cases h
def lvaa : Nat → List AVa → List (Nat × AVa)
  | _, [] => []
  | i, v :: vs => (i, v) :: lvaa (if catA v = 2 then i + 2 else i + 1) vs
def entA (as : List AVa) (n : Nat) : List (Option AVa) := (List.range n).map (fun i => (lvaa 0 as).lookup i)
theorem lvaa_ok {B : BD} {ρ : Nat → Int} (k : Nat) : ∀ {as : List AVa} {vs : List Value} (i : Nat), rS B ρ as vs → ∀ a, (lvaa i as).lookup k = some a → ∃ v, (lv_args i vs).lookup k = some v ∧ rV B ρ a v
  | [], [], _, _, a, h => by cases h
  | b :: as, v :: vs, i, hS, a, h => by
    simp only [lvaa, List.lookup_cons] at h
    simp only [lv_args, List.lookup_cons, catA_eq hS.1]
    cases hk : k == i with
    | true => rw [hk] at h; simp only at h ⊢; cases h; exact ⟨v, rfl, hS.1⟩
    | false => rw [hk] at h; simp only at h ⊢; exact lvaa_ok k _ hS.2 a h
  | [], _ :: _, _, h, _, _ => h.elim
  | _ :: _, [], _, h, _, _ => h.elim
theorem entA_ok {B : BD} {ρ : Nat → Int} {as : List AVa} {vs : List Value} (hS : rS B ρ as vs) (n : Nat) : rL B ρ (entA as n) (entL vs n) := by
  refine ⟨by unfold entA entL; simp, fun i a hi => ?_⟩
  unfold entA at hi
  rw [List.getElem?_map] at hi
  cases hr : (List.range n)[i]? with
  | none => rw [hr] at hi; cases hi
  | some j =>
    rw [hr] at hi
    simp only [Option.map_some, Option.some.injEq] at hi
    obtain ⟨v, h1, h2⟩ := lvaa_ok j 0 hS a hi
    refine ⟨v, ?_, h2⟩
    unfold entL
    rw [List.getElem?_map, hr]
    simp only [Option.map_some, h1]
theorem cat_sum {B : BD} {ρ : Nat → Int} : ∀ {as : List AVa} {vs : List Value}, rS B ρ as vs → vs.map (fun v => v.category) = as.map catA
  | [], [], _ => rfl
  | _ :: _, _ :: _, h => by rw [List.map_cons, List.map_cons, catA_eq h.1, cat_sum h.2]
  | [], _ :: _, h => h.elim
  | _ :: _, [], h => h.elim
end
section
/-! ===== numbers, states written out before they are handed on: for the kernel's sake alone ===== -/
section FRC
variable {β : Type}
def frN (n : Nat) (k : Nat → β) : β := match n with
  | 0 => k 0
  | m + 1 => k (m + 1)
theorem frN_eq (n : Nat) (k : Nat → β) : frN n k = k n := by cases n <;> rfl
def frI (n : Int) (k : Int → β) : β := match n with
  | .ofNat m => frN m (fun m => k (.ofNat m))
  | .negSucc m => frN m (fun m => k (.negSucc m))
theorem frI_eq (n : Int) (k : Int → β) : frI n k = k n := by cases n <;> simp only [frI, frN_eq]
def frP (b : Int × Int) (k : Int × Int → β) : β := match b with
  | (x, y) => frI x (fun x => frI y (fun y => k (x, y)))
theorem frP_eq (b : Int × Int) (k : Int × Int → β) : frP b k = k b := by obtain ⟨x, y⟩ := b; simp only [frP, frI_eq]
def frA (n : AN) (k : AN → β) : β := match n with
  | (none, c) => frI c (fun c => k (none, c))
  | (some j, c) => frN j (fun j => frI c (fun c => k (some j, c)))
theorem frA_eq (n : AN) (k : AN → β) : frA n k = k n := by
  obtain ⟨x, y⟩ := n
  cases x <;> simp only [frA, frI_eq, frN_eq]
def frV (a : AVa) (k : AVa → β) : β := match a with
  | .inl n => frA n (fun n => k (.inl n))
  | .inr (.inl r) => frN r (fun r => k (.inr (.inl r)))
  | .inr (.inr none) => k (.inr (.inr none))
  | .inr (.inr (some c)) => k (.inr (.inr (some c)))
theorem frV_eq (a : AVa) (k : AVa → β) : frV a k = k a := by
  match a with
  | .inl n => simp only [frV, frA_eq]
  | .inr (.inl r) => simp only [frV, frN_eq]
  | .inr (.inr none) => rfl
  | .inr (.inr (some c)) => rfl
def frO (a : Option AVa) (k : Option AVa → β) : β := match a with
  | none => k none
  | some v => frV v (fun v => k (some v))
theorem frO_eq (a : Option AVa) (k : Option AVa → β) : frO a k = k a := by cases a <;> simp only [frO, frV_eq]
end FRC
def frLs {α β : Type} (f : α → (α → β) → β) : List α → (List α → β) → β
  | [], k => k []
  | a :: l, k => f a (fun a => frLs f l (fun l => k (a :: l)))
theorem frLs_eq {α β : Type} {f : α → (α → β) → β} (hf : ∀ a k, f a k = k a) : ∀ (l : List α) (k : List α → β), frLs f l k = k l
  | [], _ => rfl
  | a :: l, k => by simp only [frLs, hf, frLs_eq hf l]
section FRC2
variable {β : Type}
def frC (c : ACa) (k : ACa → β) : β := match c with
  | .inl q => k (.inl q)
  | .inr (.inl (ty, ns)) => frLs frA ns (fun ns => k (.inr (.inl (ty, ns))))
  | .inr (.inr (.inl rs)) => k (.inr (.inr (.inl rs)))
  | .inr (.inr (.inr (ci, fa))) => frLs frV fa (fun fa => k (.inr (.inr (.inr (ci, fa)))))
theorem frC_eq (c : ACa) (k : ACa → β) : frC c k = k c := by
  match c with
  | .inl q => rfl
  | .inr (.inl (ty, ns)) => simp only [frC, frLs_eq frA_eq]
  | .inr (.inr (.inl rs)) => rfl
  | .inr (.inr (.inr (ci, fa))) => simp only [frC, frLs_eq frV_eq]
def frB (B : BD) (k : BD → β) : β := frLs frP B k
theorem frB_eq (B : BD) (k : BD → β) : frB B k = k B := frLs_eq frP_eq B k
/-- only where a step makes names or bounds -/
def frBi (b : Bool) (B : BD) (k : BD → β) : β := match b with
  | true => frB B k
  | false => k B
theorem frBi_eq (b : Bool) (B : BD) (k : BD → β) : frBi b B k = k B := by cases b <;> simp only [frBi, frB_eq]
def frS (s : List AVa) (k : List AVa → β) : β := frLs frV s k
theorem frS_eq (s : List AVa) (k : List AVa → β) : frS s k = k s := frLs_eq frV_eq s k
def frT (s : List (Option AVa)) (k : List (Option AVa) → β) : β := frLs frO s k
theorem frT_eq (s : List (Option AVa)) (k : List (Option AVa) → β) : frT s k = k s := frLs_eq frO_eq s k
def frTi (b : Bool) (s : List (Option AVa)) (k : List (Option AVa) → β) : β := match b with
  | true => frT s k
  | false => k s
theorem frTi_eq (b : Bool) (s : List (Option AVa)) (k : List (Option AVa) → β) : frTi b s k = k s := by cases b <;> simp only [frTi, frT_eq]
def frH (h : AHa) (k : AHa → β) : β := frLs frC h k
theorem frH_eq (h : AHa) (k : AHa → β) : frH h k = k h := frLs_eq frC_eq h k
def frHi (b : Bool) (h : AHa) (k : AHa → β) : β := match b with
  | true => frH h k
  | false => k h
theorem frHi_eq (b : Bool) (h : AHa) (k : AHa → β) : frHi b h k = k h := by cases b <;> simp only [frHi, frH_eq]
end FRC2
def chB (i : Instr) : Bool := match i with
  | .iadd => true
  | .isub => true
  | .imul => true
  | .iand => true
  | .ior => true
  | .ixor => true
  | .ishl => true
  | .ishr => true
  | .iushr => true
  | .iinc _ _ => true
  | .ineg => true
  | .i2b => true
  | .i2s => true
  | .lcmp => true
  | .iaload => true
  | .baload => true
  | .idiv => true
  | .irem => true
  | _ => false
def chL (i : Instr) : Bool := match i with
  | .istore_n _ => true
  | .istore _ => true
  | .lstore_n _ => true
  | .lstore _ => true
  | .astore_n _ => true
  | .astore _ => true
  | .iinc _ _ => true
  | _ => false
def chH (i : Instr) : Bool := match i with
  | .putfield _ => true
  | .iastore => true
  | .bastore => true
  | _ => false
end
section
/-! ===== the abstract evaluator ===== -/
def xAa (B : BD) (cn : Nat) (i : Instr) (sa : List AVa) : Option (BD × AN × List AVa) := match i with
  | .invokestatic idx => match mRes cn idx, sa with
    | some (kd, _), .inl b :: .inl a :: s =>
      if kd = 7 then some ((newN B (min (bnd B a).1 (bnd B b).1) (min (bnd B a).2 (bnd B b).2)).1, (newN B (min (bnd B a).1 (bnd B b).1) (min (bnd B a).2 (bnd B b).2)).2, s)
      else if kd = 8 then some ((newN B (max (bnd B a).1 (bnd B b).1) (max (bnd B a).2 (bnd B b).2)).1, (newN B (max (bnd B a).1 (bnd B b).1) (max (bnd B a).2 (bnd B b).2)).2, s)
      else none
    | _, _ => none
  | _ => none
theorem xAa_ok {B B' : BD} {ρ : Nat → Int} (hB : okB B ρ) {cn : Nat} {i : Instr} {sa s : List AVa} {st : List Value} (hS : rS B ρ sa st) {n : AN} (h : xAa B cn i sa = some (B', n, s)) : ∃ ρ' z sv, okB B' ρ' ∧ ext B ρ B' ρ' ∧ xA cn i st = (some (.int z), sv) ∧ rN B' ρ' n z ∧ rS B' ρ' s sv := by
  cases i with
  | invokestatic idx =>
    simp only [xAa] at h
    split at h
    · rename_i kd e0 b a s1 h0
      obtain ⟨v, vs, rfl, hv, hr⟩ := rS_cons hS
      obtain ⟨u, us, rfl, hu, hr2⟩ := rS_cons hr
      obtain ⟨y, rfl, hy⟩ := rV_int hv
      obtain ⟨x, rfl, hx⟩ := rV_int hu
      have b1 := bnd_ok hB hx
      have b2 := bnd_ok hB hy
      split at h
      · rename_i hk
        cases h
        obtain ⟨ρ', g1, g2, g3⟩ := newN_ok hB (lo := min (bnd B a).1 (bnd B b).1) (hi := min (bnd B a).2 (bnd B b).2) (x := if y < x then y else x) (by split <;> omega) (by
          split
          · rename_i q; rw [Int32.lt_iff_toInt_lt] at q; omega
          · rename_i q; rw [Int32.lt_iff_toInt_lt] at q; omega)
        exact ⟨ρ', _, us, g1, g2, by simp only [xA, h0, if_pos hk], g3, rS_ext g2 hr2⟩
      · rename_i hk1
        split at h
        · rename_i hk
          cases h
          obtain ⟨ρ', g1, g2, g3⟩ := newN_ok hB (lo := max (bnd B a).1 (bnd B b).1) (hi := max (bnd B a).2 (bnd B b).2) (x := if x < y then y else x) (by
            split
            · rename_i q; rw [Int32.lt_iff_toInt_lt] at q; omega
            · rename_i q; rw [Int32.lt_iff_toInt_lt] at q; omega) (by split <;> omega)
          exact ⟨ρ', _, us, g1, g2, by simp only [xA, h0, if_neg hk1, if_pos hk], g3, rS_ext g2 hr2⟩
        · cases h
    · cases h
  | _ => cases h
def aBr (B : BD) (i : Instr) (pc : Nat) (sa : List AVa) : Option (Option BD × Option BD × Nat × List AVa) := match i with
  | .ifCond c off => match sa with
    | .inl a :: s => (tgt pc off).map (fun t => (cmpT B c a (none, 0), cmpF B c a (none, 0), t, s))
    | _ => none
  | .if_icmp c off => match sa with
    | .inl b :: .inl a :: s => (tgt pc off).map (fun t => (cmpT B c a b, cmpF B c a b, t, s))
    | _ => none
  | _ => none
theorem aBr_ok {B : BD} {ρ : Nat → Int} (hB : okB B ρ) {i : Instr} {pc : Nat} {sa s : List AVa} {st : List Value} (hS : rS B ρ sa st) {bt bf : Option BD} {t : Nat} (h : aBr B i pc sa = some (bt, bf, t, s)) : ∃ b sv, bA i pc st = some (b, t, sv) ∧ rS B ρ s sv ∧ (b = true → ∃ B', bt = some B' ∧ okB B' ρ ∧ ext B ρ B' ρ) ∧ (b = false → ∃ B', bf = some B' ∧ okB B' ρ ∧ ext B ρ B' ρ) := by
  cases i with
  | ifCond c off =>
    simp only [aBr] at h
    split at h
    · obtain ⟨t1, ht, he⟩ := Option.map_eq_some_iff.mp h
      cases he
      obtain ⟨v, vs, rfl, hv, hr⟩ := rS_cons hS
      obtain ⟨x, rfl, hx⟩ := rV_int hv
      have h0 : rN B ρ (none, 0) 0 := ⟨fun j hj => (by cases hj), Int32.toInt_zero⟩
      exact ⟨_, vs, by simp only [bA, ht]; rfl, hr, fun q => cmpT_ok hB hx h0 q, fun q => cmpF_ok hB hx h0 q⟩
    · cases h
  | if_icmp c off =>
    simp only [aBr] at h
    split at h
    · obtain ⟨t1, ht, he⟩ := Option.map_eq_some_iff.mp h
      cases he
      obtain ⟨v, vs, rfl, hv, hr⟩ := rS_cons hS
      obtain ⟨u, us, rfl, hu, hr2⟩ := rS_cons hr
      obtain ⟨y, rfl, hy⟩ := rV_int hv
      obtain ⟨x, rfl, hx⟩ := rV_int hu
      exact ⟨_, us, by simp only [bA, ht]; rfl, hr2, fun q => cmpT_ok hB hx hy q, fun q => cmpF_ok hB hx hy q⟩
    · cases h
  | _ => cases h
abbrev KT : Type := BD → Option AVa → AHa → Bool
abbrev CUT : Type := Nat → Option (BD → List (Option AVa) → AHa → Bool)
/-- what a call may come to: alternatives -/
abbrev ORA : Type := Nat → Nat → BD → List AVa → AHa → Option (List (BD × Option AVa × AHa))
def noCut : CUT := fun _ => none
def noORA : ORA := fun _ _ _ _ _ => none
def ai (O : ORA) : Nat → Bool → CUT → Nat → Nat → Nat → BD → List (Option AVa) → List AVa → AHa → KT → Bool
  | 0, _, _, _, _, _, _, _, _, _, _ => false
  | f + 1, go, cut, d, k, pc, B, la, sa, ha, K => match (if go = true then none else cut pc) with
    | some chk => decide (sa = []) && chk B la ha
    | none => match mtL[k]?, (cdL.getD k [])[pc]? with
      | some M, some (some (i, _)) => match aS B i pc la sa with
        | some (B', pc', la', sa') => frN pc' (fun pc' => frBi (chB i) B' (fun B' => frTi (chL i) la' (fun la' => frS sa' (fun sa' => ai O f false cut d k pc' B' la' sa' ha K))))
        | none => match aBr B i pc sa with
          | some (bt, bf, t, s) => (match bt with
            | none => true
            | some B' => frN t (fun t => frB B' (fun B' => ai O f false cut d k t B' la s ha K))) && (match bf with
            | none => true
            | some B' => frN (pc + 3) (fun t => frB B' (fun B' => ai O f false cut d k t B' la s ha K)))
          | none => match aH1 d B M i pc sa ha with
            | some o => frN o.2.1 (fun t => frBi (chB i) o.1 (fun B' => frS o.2.2.1 (fun sa' => frHi (chH i) o.2.2.2 (fun ha' => ai O f false cut d k t B' la sa' ha' K))))
            | none => match aF B i pc sa ha with
              | some L => L.all (fun q => match q with
                | some o => frN o.2.1 (fun t => frB o.1 (fun B' => frS o.2.2.1 (fun sa' => ai O f false cut d k t B' la sa' o.2.2.2 K)))
                | none => false)
              | none => match rAa B M.rt i sa with
                | some a => K B a ha
                | none => match kAa M.cn i sa ha with
                  | some (N, as, s) => match d, mtL[N]? with
                    | d' + 1, some NM => decide ((s.map catA).sum ≤ 8 ∧ (as.map catA).sum ≤ NM.ml) && frS s (fun s => frS as (fun as => match O d' N B as ha with
                      | some L => L.all (fun o => decide (o.2.2.length = ha.length) && frN (pc + 3) (fun t => frB o.1 (fun B' => frS (o.2.1.toList ++ s) (fun sa' => frH o.2.2 (fun ha' => ai O f false cut (d' + 1) k t B' la sa' ha' K)))))
                      | none => frT (entA as NM.ml) (fun la0 => ai O f true noCut d' N 0 B la0 [] ha (fun B' a ha' => decide (ha'.length = ha.length) && frN (pc + 3) (fun t => frS (a.toList ++ s) (fun sa' => ai O f false cut (d' + 1) k t B' la sa' ha' K))))))
                    | _, _ => false
                  | none => match xAa B M.cn i sa with
                    | some (B', n, s) => decide ((s.map catA).sum ≤ 8 ∧ 0 < d) && frN (pc + 3) (fun t => frB B' (fun B' => frS (.inl n :: s) (fun sa' => ai O f false cut d k t B' la sa' ha K)))
                    | none => false
      | _, _ => false
end
section
/-! ===== the abstract evaluator speaks true ===== -/
def oraOk (O : ORA) : Prop := ∀ (d N : Nat) (NM : MT) (B : BD) (as : List AVa) (ha : AHa) (L : List (BD × Option AVa × AHa)), O d N B as ha = some L → mtL[N]? = some NM → ∀ (ρ : Nat → Int) (av : List Value) (hp : AH), okB B ρ → rS B ρ as av → rH B ρ ha hp → Ct NM d 0 0 av hp (fun v hp' => ∃ o ∈ L, ∃ ρ', okB o.1 ρ' ∧ ext B ρ o.1 ρ' ∧ rO o.1 ρ' o.2.1 v ∧ rH o.1 ρ' o.2.2 hp')
theorem noORA_ok : oraOk noORA := fun d N NM B as ha L h => by cases h
/-- what is known where the evaluator goes on: its end, and its cuts -/
def aiEnd (K : KT) (B : BD) (ρ : Nat → Int) (Q : Option Value → AH → Prop) : Prop := ∀ (B' : BD) (ρ' : Nat → Int) (a : Option AVa) (v : Option Value) (ha' : AHa) (hp' : AH), K B' a ha' = true → okB B' ρ' → ext B ρ B' ρ' → rO B' ρ' a v → rH B' ρ' ha' hp' → Q v hp'
def aiCut (cut : CUT) (M : MT) (d : Nat) (B : BD) (ρ : Nat → Int) (Q : Option Value → AH → Prop) : Prop := ∀ (pc : Nat) (chk : BD → List (Option AVa) → AHa → Bool), cut pc = some chk → ∀ (B' : BD) (ρ' : Nat → Int) (la' : List (Option AVa)) (lv' : List (Option Value)) (ha' : AHa) (hp' : AH), chk B' la' ha' = true → okB B' ρ' → ext B ρ B' ρ' → rL B' ρ' la' lv' → rH B' ρ' ha' hp' → J M d 0 0 Q pc lv' [] hp' 0 0
theorem aiEnd_ext {K : KT} {B B1 : BD} {ρ ρ1 : Nat → Int} {Q : Option Value → AH → Prop} (h : aiEnd K B ρ Q) (e : ext B ρ B1 ρ1) : aiEnd K B1 ρ1 Q := fun B' ρ' a v ha' hp' h1 h2 h3 h4 h5 => h B' ρ' a v ha' hp' h1 h2 (ext_tr e h3) h4 h5
theorem aiCut_ext {cut : CUT} {M : MT} {d : Nat} {B B1 : BD} {ρ ρ1 : Nat → Int} {Q : Option Value → AH → Prop} (h : aiCut cut M d B ρ Q) (e : ext B ρ B1 ρ1) : aiCut cut M d B1 ρ1 Q := fun pc chk hc B' ρ' la' lv' ha' hp' h1 h2 h3 h4 h5 => h pc chk hc B' ρ' la' lv' ha' hp' h1 h2 (ext_tr e h3) h4 h5
set_option maxHeartbeats 4000000 in
theorem ai_ok {O : ORA} (hO : oraOk O) : ∀ (f : Nat) (go : Bool) (cut : CUT) (d k pc : Nat) (B : BD) (la : List (Option AVa)) (sa : List AVa) (ha : AHa) (K : KT), ai O f go cut d k pc B la sa ha K = true →
    ∀ (M : MT), mtL[k]? = some M → ∀ (ρ : Nat → Int) (lv : List (Option Value)) (st : List Value) (hp : AH) (Q : Option Value → AH → Prop), okB B ρ → rL B ρ la lv → rS B ρ sa st → rH B ρ ha hp → aiEnd K B ρ Q → aiCut cut M d B ρ Q → J M d 0 0 Q pc lv st hp 0 0 := by
  intro f
  induction f with
  | zero => intro go cut d k pc B la sa ha K h; simp only [ai] at h; cases h
  | succ f ih =>
    intro go cut d k pc B la sa ha K h M' hM' ρ lv st hp Q hB hL hS hH hK hC
    simp only [ai, frN_eq, frB_eq, frBi_eq, frT_eq, frTi_eq, frS_eq, frH_eq, frHi_eq] at h
    split at h
    · rename_i chk hchk
      rw [Bool.and_eq_true, decide_eq_true_eq] at h
      obtain ⟨rfl, h⟩ := h
      cases rS_nil hS
      have hcut : cut pc = some chk := by
        split at hchk
        · cases hchk
        · exact hchk
      exact hC pc chk hcut B ρ la lv ha hp h hB ext_rf hL hH
    · split at h
      · rename_i M i len hM hc
        rw [hM] at hM'; cases hM'
        obtain ⟨hd, hn⟩ := cd_at hM hc
        split at h
        · rename_i B1 pc1 la1 sa1 hs
          obtain ⟨ρ1, lv1, st1, g1, g2, g3, g4, g5⟩ := aS_ok hB hL hS hs
          have hl := sA_len g3 hn
          subst hl
          exact J_s hd g3 (ih _ _ _ _ _ _ _ _ _ _ h _ hM ρ1 lv1 st1 hp Q g1 g4 g5 (rH_ext g2 hH) (aiEnd_ext hK g2) (aiCut_ext hC g2))
        · split at h
          · rename_i bt bf t s hs
            rw [Bool.and_eq_true] at h
            obtain ⟨b, sv, g1, g2, g3, g4⟩ := aBr_ok hB hS hs
            have hl := bA_len g1 hn
            subst hl
            refine J_b hd g1 (fun q => ?_) (fun q => ?_)
            · obtain ⟨B1, e1, e2, e3⟩ := g3 q
              have h1 := h.1
              rw [e1] at h1
              exact ih _ _ _ _ _ _ _ _ _ _ h1 _ hM ρ lv sv hp Q e2 (rL_ext e3 hL) (rS_ext e3 g2) (rH_ext e3 hH) (aiEnd_ext hK e3) (aiCut_ext hC e3)
            · obtain ⟨B1, e1, e2, e3⟩ := g4 q
              have h1 := h.2
              rw [e1] at h1
              exact ih _ _ _ _ _ _ _ _ _ _ h1 _ hM ρ lv sv hp Q e2 (rL_ext e3 hL) (rS_ext e3 g2) (rH_ext e3 hH) (aiEnd_ext hK e3) (aiCut_ext hC e3)
          · split at h
            · rename_i o hs
              obtain ⟨ρ1, st1, hp1, g1, g2, g3, g4, g5⟩ := aH1_ok (d := d) hB hS hH hs
              exact J_h hd hn g3 (ih _ _ _ _ _ _ _ _ _ _ h _ hM ρ1 lv st1 hp1 Q g1 (rL_ext g2 hL) g4 g5 (aiEnd_ext hK g2) (aiCut_ext hC g2))
            · split at h
              · rename_i L hs
                have hall : ∀ q ∈ L, ∃ o, q = some o := fun q hq => by
                  have := List.all_eq_true.mp h q hq
                  cases q with
                  | none => cases this
                  | some o => exact ⟨o, rfl⟩
                obtain ⟨o, ho, ρ1, st1, hp1, g1, g2, g3, g4, g5⟩ := aF_ok (d := d) (M := M') hB hS hH hs hall
                have h1 := List.all_eq_true.mp h (some o) ho
                exact J_h hd hn g3 (ih _ _ _ _ _ _ _ _ _ _ h1 _ hM ρ1 lv st1 hp1 Q g1 (rL_ext g2 hL) g4 g5 (aiEnd_ext hK g2) (aiCut_ext hC g2))
              · split at h
                · rename_i a hs
                  obtain ⟨v, g1, g2⟩ := rAa_ok hB hS hs
                  exact J_r hd hn g1 (Nat.le_refl _) (Nat.le_refl _) (hK B ρ a v ha hp h hB ext_rf g2 hH)
                · split at h
                  · rename_i N as s hk
                    obtain ⟨av, sv, g1, g2, g3⟩ := kAa_ok hS hH hk
                    split at h
                    · rename mtL[N]? = some _ => hN
                      rw [Bool.and_eq_true, decide_eq_true_eq] at h
                      obtain ⟨hsum, h⟩ := h
                      have hcat : catB sv = true := by unfold catB; rw [cat_sum g3]; exact decide_eq_true hsum.1
                      split at h
                      · rename_i L hor
                        have C := hO _ _ _ _ _ _ _ hor hN ρ av hp hB g2 hH
                        refine J_k (c' := 0) (s' := 0) hd hn g1 hN hcat (Nat.le_refl _) (Nat.le_refl _) (Or.inl (fun v2 hp2 hq => ?_)) C (fun v2 hp2 hq => ?_)
                        · obtain ⟨o, ho, ρ1, -, -, -, e4⟩ := hq
                          have h1 := List.all_eq_true.mp h o ho
                          rw [Bool.and_eq_true, decide_eq_true_eq] at h1
                          rw [← e4.1, h1.1, hH.1]
                        · obtain ⟨o, ho, ρ1, e1, e2, e3, e4⟩ := hq
                          have h1 := List.all_eq_true.mp h o ho
                          rw [Bool.and_eq_true, decide_eq_true_eq] at h1
                          exact ih _ _ _ _ _ _ _ _ _ _ h1.2 _ hM ρ1 lv _ hp2 Q e1 (rL_ext e2 hL) (rO_list e3 (rS_ext e2 g3)) e4 (aiEnd_ext hK e2) (aiCut_ext hC e2)
                      · have j := ih _ _ _ _ _ _ _ _ _ _ h _ hN ρ _ [] hp (fun v2 hp2 => ∃ (B' : BD) (ρ' : Nat → Int) (a : Option AVa) (ha' : AHa), (decide (ha'.length = ha.length) && ai O f false cut _ k (pc + 3) B' la (a.toList ++ s) ha' K) = true ∧ okB B' ρ' ∧ ext B ρ B' ρ' ∧ rO B' ρ' a v2 ∧ rH B' ρ' ha' hp2) hB (entA_ok g2 _) trivial hH (fun B' ρ' a v ha' hp' q1 q2 q3 q4 q5 => ⟨B', ρ', a, ha', q1, q2, q3, q4, q5⟩) (fun pc chk hc => by cases hc)
                        have C := Ct_of_J (mt_ok hN).1 (fun ad => by rw [lg_len, cat_sum g2]; exact hsum.2) j
                        refine J_k (c' := 0) (s' := 0) hd hn g1 hN hcat (Nat.le_refl _) (Nat.le_refl _) (Or.inl (fun v2 hp2 hq => ?_)) C (fun v2 hp2 hq => ?_)
                        · obtain ⟨B1, ρ1, a, ha1, e0, e1, e2, e3, e4⟩ := hq
                          rw [Bool.and_eq_true, decide_eq_true_eq] at e0
                          rw [← e4.1, e0.1, hH.1]
                        · obtain ⟨B1, ρ1, a, ha1, e0, e1, e2, e3, e4⟩ := hq
                          rw [Bool.and_eq_true, decide_eq_true_eq] at e0
                          exact ih _ _ _ _ _ _ _ _ _ _ e0.2 _ hM ρ1 lv _ hp2 Q e1 (rL_ext e2 hL) (rO_list e3 (rS_ext e2 g3)) e4 (aiEnd_ext hK e2) (aiCut_ext hC e2)
                    · cases h
                  · split at h
                    · rename_i B1 n s hx
                      rw [Bool.and_eq_true, decide_eq_true_eq] at h
                      obtain ⟨ρ1, z, sv, g1, g2, g3, g4, g5⟩ := xAa_ok hB hS hx
                      have g4' : rV B1 ρ1 (.inl n) (.int z) := g4
                      exact J_x hd hn g3 (by unfold catB; rw [cat_sum g5]; exact decide_eq_true h.1.1) h.1.2 (Nat.le_refl _) (Nat.le_refl _) (ih _ _ _ _ _ _ _ _ _ _ h.2 _ hM ρ1 lv _ hp Q g1 (rL_ext g2 hL) ⟨g4', g5⟩ (rH_ext g2 hH) (aiEnd_ext hK g2) (aiCut_ext hC g2))
                    · cases h
      · cases h
end
section
/-! ===== templates: a state over names; whether another state lies within it ===== -/
def okNB (B : BD) (n : AN) : Bool := match n.1 with
  | none => true
  | some j => decide (j < B.length)
theorem okNB_ok {B : BD} {n : AN} (h : okNB B n = true) : okN B n := by
  intro j hj
  unfold okNB at h
  rw [hj] at h
  exact of_decide_eq_true h
theorem bnd_den {B : BD} {ρ : Nat → Int} (hB : okB B ρ) {n : AN} (hn : okN B n) : (bnd B n).1 ≤ den ρ n ∧ den ρ n ≤ (bnd B n).2 := by
  unfold bnd den
  cases h : n.1 with
  | none => exact ⟨Int.le_refl _, Int.le_refl _⟩
  | some j =>
    have hj := hn j h
    have := hB j B[j] (List.getElem?_eq_getElem hj)
    simp only [List.getElem?_eq_getElem hj]
    omega
def vOk (B : BD) (σ : Nat → AN) (m : Nat) (t a : AVa) : Bool := match t, a with
  | .inl (none, c), .inl n => decide ((bnd B n).1 = c) && decide ((bnd B n).2 = c)
  | .inl (some j, c), .inl n => decide (c = 0) && (decide (j < m) && decide (n = σ j))
  | .inr (.inl r), .inr (.inl q) => decide (r = q)
  | .inr (.inr none), .inr (.inr _) => true
  | .inr (.inr (some c)), .inr (.inr (some e)) => decide (c = e)
  | _, _ => false
def ρt (σ : Nat → AN) (ρ : Nat → Int) : Nat → Int := fun j => den ρ (σ j)
theorem vOk_ok {B Bt : BD} {ρ : Nat → Int} (hB : okB B ρ) {σ : Nat → AN} {t a : AVa} {v : Value} (h : vOk B σ Bt.length t a = true) (hv : rV B ρ a v) : rV Bt (ρt σ ρ) t v := by
  match t, a, h with
  | .inl (none, c), .inl n, h =>
    obtain ⟨x, rfl, hx⟩ := rV_int hv
    simp only [vOk, Bool.and_eq_true, decide_eq_true_eq] at h
    have := bnd_ok hB hx
    exact ⟨fun j hj => (by cases hj), by show x.toInt = c; omega⟩
  | .inl (some j, c), .inl n, h =>
    obtain ⟨x, rfl, hx⟩ := rV_int hv
    simp only [vOk, Bool.and_eq_true, decide_eq_true_eq] at h
    obtain ⟨rfl, h1, rfl⟩ := h
    refine ⟨fun k hk => by cases hk; exact h1, ?_⟩
    show x.toInt = den ρ (σ j) + 0
    rw [hx.2, Int.add_zero]
  | .inr (.inl r), .inr (.inl q), h =>
    cases rV_ref hv
    exact (of_decide_eq_true h).symm
  | .inr (.inr none), .inr (.inr o), _ =>
    obtain ⟨z, rfl, -⟩ := rV_long hv
    exact fun c hc => by cases hc
  | .inr (.inr (some c)), .inr (.inr (some e)), h =>
    obtain ⟨z, rfl, hz⟩ := rV_long hv
    have := of_decide_eq_true h
    subst this
    exact hz
def zipB {α β : Type} (f : α → β → Bool) : List α → List β → Bool
  | [], [] => true
  | a :: as, b :: bs => f a b && zipB f as bs
  | _, _ => false
theorem zipB_len {α β : Type} {f : α → β → Bool} : ∀ {as : List α} {bs : List β}, zipB f as bs = true → as.length = bs.length
  | [], [], _ => rfl
  | _ :: _, _ :: _, h => by
    simp only [zipB, Bool.and_eq_true] at h
    rw [List.length_cons, List.length_cons, zipB_len h.2]
theorem zipB_at {α β : Type} {f : α → β → Bool} : ∀ {as : List α} {bs : List β} (i : Nat) {a : α}, zipB f as bs = true → as[i]? = some a → ∃ b, bs[i]? = some b ∧ f a b = true
  | [], [], _, _, _, h => by simp at h
  | x :: as, y :: bs, i, a, h, hi => by
    simp only [zipB, Bool.and_eq_true] at h
    cases i with
    | zero => simp at hi; subst hi; exact ⟨y, rfl, h.1⟩
    | succ i =>
      rw [List.getElem?_cons_succ] at hi
      obtain ⟨b, h1, h2⟩ := zipB_at i h.2 hi
      exact ⟨b, by rw [List.getElem?_cons_succ]; exact h1, h2⟩
def lOk (B : BD) (σ : Nat → AN) (m : Nat) (t a : Option AVa) : Bool := match t, a with
  | none, _ => true
  | some t, some a => vOk B σ m t a
  | some _, none => false
theorem lOk_ok {B Bt : BD} {ρ : Nat → Int} (hB : okB B ρ) {σ : Nat → AN} {lt la : List (Option AVa)} {lv : List (Option Value)} (h : zipB (lOk B σ Bt.length) lt la = true) (hL : rL B ρ la lv) : rL Bt (ρt σ ρ) lt lv := by
  refine ⟨(zipB_len h).trans hL.1, fun i t hi => ?_⟩
  obtain ⟨a, h1, h2⟩ := zipB_at i h hi
  cases a with
  | none => cases h2
  | some a =>
    obtain ⟨v, h3, h4⟩ := hL.2 i a h1
    exact ⟨v, h3, vOk_ok hB h2 h4⟩
/-- a field: any, or as a value -/
def fldOk (B : BD) (σ : Nat → AN) (m : Nat) (t a : AVa) : Bool := isAny t || (!isAny a && vOk B σ m t a)
def cOkA (B : BD) (σ : Nat → AN) (m : Nat) (t a : ACa) : Bool := match t, a with
  | .inl (ty, n, lo, hi), .inl (ty', n', lo', hi') => decide (ty = ty') && (decide (n = n') && (decide (lo ≤ lo') && decide (hi' ≤ hi)))
  | .inl (ty, n, lo, hi), .inr (.inl (ty', ns)) => decide (ty = ty') && (decide (n = ns.length) && ns.all (fun q => decide (lo ≤ (bnd B q).1) && decide ((bnd B q).2 ≤ hi)))
  | .inr (.inl (ty, ts)), .inr (.inl (ty', ns)) => decide (ty = ty') && zipB (fun t n => vOk B σ m (.inl t) (.inl n)) ts ns
  | .inr (.inr (.inl rs)), .inr (.inr (.inl qs)) => decide (rs = qs)
  | .inr (.inr (.inr (ci, ft))), .inr (.inr (.inr (cj, fa))) => decide (ci = cj) && zipB (fldOk B σ m) ft fa
  | _, _ => false
theorem cOkA_ok {B Bt : BD} {ρ : Nat → Int} (hB : okB B ρ) {σ : Nat → AN} {t a : ACa} {x : AC} (h : cOkA B σ Bt.length t a = true) (hx : rC B ρ a x) : rC Bt (ρt σ ρ) t x := by
  match t, a, h with
  | .inl (ty, n, lo, hi), .inl (ty', n', lo', hi'), h =>
    simp only [cOkA, Bool.and_eq_true, decide_eq_true_eq] at h
    obtain ⟨rfl, rfl, h1, h2⟩ := h
    obtain ⟨xs, rfl, hl, hb⟩ := rC_sum hx
    exact ⟨rfl, hl, fun y hy => by have := hb y hy; omega⟩
  | .inl (ty, n, lo, hi), .inr (.inl (ty', ns)), h =>
    simp only [cOkA, Bool.and_eq_true, decide_eq_true_eq] at h
    obtain ⟨rfl, rfl, h1⟩ := h
    obtain ⟨xs, rfl, hl⟩ := rC_items hx
    refine ⟨rfl, hl.1.symm, fun y hy => ?_⟩
    obtain ⟨k, hk⟩ := List.getElem?_of_mem hy
    have hkl : k < ns.length := by rw [hl.1]; exact (List.getElem?_eq_some_iff.mp hk).1
    obtain ⟨z, q1, q2⟩ := hl.2 k ns[k] (List.getElem?_eq_getElem hkl)
    rw [hk] at q1
    cases q1
    have h2 := List.all_eq_true.mp h1 ns[k] (List.getElem_mem hkl)
    simp only [Bool.and_eq_true, decide_eq_true_eq] at h2
    have := bnd_ok hB q2
    omega
  | .inr (.inl (ty, ts)), .inr (.inl (ty', ns)), h =>
    simp only [cOkA, Bool.and_eq_true, decide_eq_true_eq] at h
    obtain ⟨rfl, h1⟩ := h
    obtain ⟨xs, rfl, hl⟩ := rC_items hx
    refine ⟨rfl, (zipB_len h1).trans hl.1, fun i t hi => ?_⟩
    obtain ⟨n, g1, g2⟩ := zipB_at i h1 hi
    obtain ⟨z, g3, g4⟩ := hl.2 i n g1
    have g5 : rV B ρ (.inl n) (.int z) := g4
    have g6 := vOk_ok (Bt := Bt) hB g2 g5
    exact ⟨z, g3, g6⟩
  | .inr (.inr (.inl rs)), .inr (.inr (.inl qs)), h =>
    cases rC_rows hx
    exact (of_decide_eq_true h).symm
  | .inr (.inr (.inr (ci, ft))), .inr (.inr (.inr (cj, fa))), h =>
    simp only [cOkA, Bool.and_eq_true, decide_eq_true_eq] at h
    obtain ⟨rfl, h1⟩ := h
    obtain ⟨fs, rfl, hf⟩ := rC_obj hx
    refine ⟨rfl, (zipB_len h1).trans hf.1, fun i t hi => ?_⟩
    obtain ⟨a, g1, g2⟩ := zipB_at i h1 hi
    obtain ⟨v, g3, g4⟩ := hf.2 i a g1
    refine ⟨v, g3, ?_⟩
    unfold fldOk at g2
    rw [Bool.or_eq_true, Bool.and_eq_true, Bool.not_eq_true'] at g2
    rcases g2 with q | ⟨q1, q2⟩
    · exact Or.inl q
    · exact Or.inr (vOk_ok hB q2 (g4.resolve_left (by rw [q1]; exact Bool.false_ne_true)))
theorem hOk_ok {B Bt : BD} {ρ : Nat → Int} (hB : okB B ρ) {σ : Nat → AN} {ht ha : AHa} {hp : AH} (h : zipB (cOkA B σ Bt.length) ht ha = true) (hH : rH B ρ ha hp) : rH Bt (ρt σ ρ) ht hp := by
  refine ⟨(zipB_len h).trans hH.1, fun i t hi => ?_, hH.2.2⟩
  obtain ⟨a, h1, h2⟩ := zipB_at i h hi
  obtain ⟨x, h3, h4⟩ := hH.2.1 i a h1
  exact ⟨x, h3, cOkA_ok hB h2 h4⟩
def bOk (B : BD) (σ : Nat → AN) (Bt : BD) : Bool := (List.range Bt.length).all (fun j => okNB B (σ j) && (match Bt[j]? with
  | some b => decide (b.1 ≤ (bnd B (σ j)).1) && decide ((bnd B (σ j)).2 ≤ b.2)
  | none => true))
theorem bOk_ok {B Bt : BD} {ρ : Nat → Int} (hB : okB B ρ) {σ : Nat → AN} (h : bOk B σ Bt = true) : okB Bt (ρt σ ρ) := by
  intro j b hj
  have hl : j < Bt.length := (List.getElem?_eq_some_iff.mp hj).1
  have h1 := List.all_eq_true.mp h j (List.mem_range.mpr hl)
  rw [hj] at h1
  simp only [Bool.and_eq_true, decide_eq_true_eq] at h1
  have := bnd_den hB (okNB_ok h1.1)
  unfold ρt
  omega
/-- the state lies within the template -/
def inT (Bt : BD) (lt : List (Option AVa)) (ht : AHa) (σ : Nat → AN) (B : BD) (la : List (Option AVa)) (ha : AHa) : Bool := zipB (lOk B σ Bt.length) lt la && (bOk B σ Bt && zipB (cOkA B σ Bt.length) ht ha)
theorem inT_ok {Bt B : BD} {lt la : List (Option AVa)} {ht ha : AHa} {σ : Nat → AN} {ρ : Nat → Int} (hB : okB B ρ) {lv : List (Option Value)} {hp : AH} (hL : rL B ρ la lv) (hH : rH B ρ ha hp) (h : inT Bt lt ht σ B la ha = true) : okB Bt (ρt σ ρ) ∧ rL Bt (ρt σ ρ) lt lv ∧ rH Bt (ρt σ ρ) ht hp := by
  unfold inT at h
  rw [Bool.and_eq_true, Bool.and_eq_true] at h
  exact ⟨bOk_ok hB h.2.1, lOk_ok hB h.1 hL, hOk_ok hB h.2.2 hH⟩
end
section
/-! ===== loops: heads with templates, and a measure that falls ===== -/
/-- true: the number grows; false: it falls. What falls by it lies within 0 and 2000 -/
def wgt (ρ : Nat → Int) (q : Bool × AN) : Int := if q.1 = true then 1000 - den ρ q.2 else den ρ q.2
def wgtB (B : BD) (q : Bool × AN) : Bool := okNB B q.2 && (decide (0 ≤ (bnd B q.2).1) && decide ((bnd B q.2).2 ≤ 1000))
theorem wgtB_ok {B : BD} {ρ : Nat → Int} (hB : okB B ρ) {q : Bool × AN} (h : wgtB B q = true) : 0 ≤ wgt ρ q ∧ wgt ρ q ≤ 1000 := by
  unfold wgtB at h
  simp only [Bool.and_eq_true, decide_eq_true_eq] at h
  have := bnd_den hB (okNB_ok h.1)
  unfold wgt
  split <;> omega
def mu (ρ : Nat → Int) : List (Bool × AN) → Int
  | [] => 0
  | q :: t => wgt ρ q * (2000 : Int) ^ t.length + mu ρ t
theorem mu_lt {B : BD} {ρ : Nat → Int} (hB : okB B ρ) : ∀ {l : List (Bool × AN)}, l.all (wgtB B) = true → 0 ≤ mu ρ l ∧ mu ρ l < (2000 : Int) ^ l.length
  | [], _ => ⟨Int.le_refl _, by show (0 : Int) < 1; omega⟩
  | q :: t, h => by
    rw [List.all_cons, Bool.and_eq_true] at h
    obtain ⟨h1, h2⟩ := wgtB_ok hB h.1
    obtain ⟨h3, h4⟩ := mu_lt hB h.2
    have hp : (0 : Int) < (2000 : Int) ^ t.length := Int.pow_pos (by omega)
    refine ⟨Int.add_nonneg (Int.mul_nonneg h1 (Int.le_of_lt hp)) h3, ?_⟩
    show wgt ρ q * (2000 : Int) ^ t.length + mu ρ t < (2000 : Int) ^ (t.length + 1)
    rw [Int.pow_succ]
    have : wgt ρ q * (2000 : Int) ^ t.length ≤ 1000 * (2000 : Int) ^ t.length := Int.mul_le_mul_of_nonneg_right h2 (Int.le_of_lt hp)
    omega
/-- b's weight is less than a's for sure -/
def wLess (B : BD) (a b : Bool × AN) : Bool := decide (a.1 = b.1) && (if a.1 = true then decide (a.2.1 = b.2.1 ∧ a.2.2 < b.2.2) || decide ((bnd B a.2).2 < (bnd B b.2).1) else decide (a.2.1 = b.2.1 ∧ b.2.2 < a.2.2) || decide ((bnd B b.2).2 < (bnd B a.2).1))
theorem wLess_ok {B : BD} {ρ : Nat → Int} (hB : okB B ρ) {a b : Bool × AN} (ha : okN B a.2) (hb : okN B b.2) (h : wLess B a b = true) : wgt ρ b < wgt ρ a := by
  unfold wLess at h
  rw [Bool.and_eq_true, decide_eq_true_eq] at h
  obtain ⟨e, h⟩ := h
  have h1 := bnd_den hB ha
  have h2 := bnd_den hB hb
  have hd : a.2.1 = b.2.1 → den ρ b.2 - den ρ a.2 = b.2.2 - a.2.2 := fun q => by
    unfold den
    rw [q]
    cases b.2.1 <;> simp only <;> omega
  unfold wgt
  rw [← e]
  split at h
  · rename_i ht
    rw [if_pos ht, if_pos ht]
    rw [Bool.or_eq_true, decide_eq_true_eq, decide_eq_true_eq] at h
    rcases h with ⟨q1, q2⟩ | h
    · have := hd q1; omega
    · omega
  · rename_i ht
    rw [if_neg ht, if_neg ht]
    rw [Bool.or_eq_true, decide_eq_true_eq, decide_eq_true_eq] at h
    rcases h with ⟨q1, q2⟩ | h
    · have := hd q1; omega
    · omega
/-- alike for sure -/
def wSame (B : BD) (a b : Bool × AN) : Bool := decide (a = b) || (decide (a.1 = b.1) && (decide ((bnd B a.2).1 = (bnd B a.2).2) && (decide ((bnd B b.2).1 = (bnd B b.2).2) && decide ((bnd B a.2).1 = (bnd B b.2).1))))
theorem wSame_ok {B : BD} {ρ : Nat → Int} (hB : okB B ρ) {a b : Bool × AN} (ha : okN B a.2) (hb : okN B b.2) (h : wSame B a b = true) : wgt ρ b = wgt ρ a := by
  unfold wSame at h
  simp only [Bool.or_eq_true, Bool.and_eq_true, decide_eq_true_eq] at h
  have h1 := bnd_den hB ha
  have h2 := bnd_den hB hb
  rcases h with rfl | ⟨q1, q2, q3, q4⟩
  · rfl
  · have : den ρ a.2 = den ρ b.2 := by omega
    unfold wgt
    rw [this, q1]
def lexB (B : BD) : List (Bool × AN) → List (Bool × AN) → Bool
  | a :: as, b :: bs => wgtB B a && (wgtB B b && (as.all (wgtB B) && (bs.all (wgtB B) && (decide (as.length = bs.length) && (wLess B a b || (wSame B a b && lexB B as bs))))))
  | _, _ => false
theorem lexB_ok {B : BD} {ρ : Nat → Int} (hB : okB B ρ) : ∀ {as bs : List (Bool × AN)}, lexB B as bs = true → mu ρ bs < mu ρ as ∧ 0 ≤ mu ρ bs
  | a :: as, b :: bs, h => by
    simp only [lexB, Bool.and_eq_true, decide_eq_true_eq, Bool.or_eq_true] at h
    obtain ⟨w1, w2, a1, a2, hl, h⟩ := h
    have m1 := mu_lt hB a1
    have m2 := mu_lt hB a2
    have v2 := wgtB_ok hB w2
    have hp : (0 : Int) < (2000 : Int) ^ bs.length := Int.pow_pos (by omega)
    have n2 : 0 ≤ wgt ρ b * (2000 : Int) ^ bs.length := Int.mul_nonneg v2.1 (Int.le_of_lt hp)
    refine ⟨?_, by show 0 ≤ wgt ρ b * (2000 : Int) ^ bs.length + mu ρ bs; omega⟩
    show wgt ρ b * (2000 : Int) ^ bs.length + mu ρ bs < wgt ρ a * (2000 : Int) ^ as.length + mu ρ as
    rw [hl]
    have okA : okN B a.2 := by unfold wgtB at w1; rw [Bool.and_eq_true] at w1; exact okNB_ok w1.1
    have okB2 : okN B b.2 := by unfold wgtB at w2; rw [Bool.and_eq_true] at w2; exact okNB_ok w2.1
    rcases h with h | ⟨h0, h⟩
    · have hw := wLess_ok hB okA okB2 h
      have h5 : (wgt ρ b + 1) * (2000 : Int) ^ bs.length ≤ wgt ρ a * (2000 : Int) ^ bs.length := Int.mul_le_mul_of_nonneg_right (by omega) (Int.le_of_lt hp)
      rw [Int.add_mul, Int.one_mul] at h5
      omega
    · have h6 := lexB_ok hB h
      rw [wSame_ok hB okA okB2 h0]
      omega
end
section
/-- a loop's head: its pc, its template (bounds, locals, heap), its measure -/
abbrev HD : Type := Nat × BD × List (Option AVa) × AHa × List (Bool × AN)
def colV (t a : AVa) : List (Nat × AN) := match t, a with
  | .inl (some j, _), .inl n => [(j, n)]
  | _, _ => []
def colZ {α β : Type} (f : α → β → List (Nat × AN)) : List α → List β → List (Nat × AN)
  | a :: as, b :: bs => f a b ++ colZ f as bs
  | _, _ => []
def colO (t a : Option AVa) : List (Nat × AN) := match t, a with
  | some t, some a => colV t a
  | _, _ => []
def colC (t a : ACa) : List (Nat × AN) := match t, a with
  | .inr (.inl (_, ts)), .inr (.inl (_, ns)) => colZ (fun t n => colV (.inl t) (.inl n)) ts ns
  | .inr (.inr (.inr (_, ft))), .inr (.inr (.inr (_, fa))) => colZ colV ft fa
  | _, _ => []
def sgm (lt la : List (Option AVa)) (ht ha : AHa) : Nat → AN := fun j => ((colZ colO lt la ++ colZ colC ht ha).lookup j).getD (none, 0)
def subM (σ : Nat → AN) (q : Bool × AN) : Bool × AN := (q.1, match q.2.1 with
  | none => q.2
  | some j => ((σ j).1, (σ j).2 + q.2.2))
theorem subM_den (σ : Nat → AN) (ρ : Nat → Int) (q : Bool × AN) : wgt ρ (subM σ q) = wgt (ρt σ ρ) q := by
  have : den ρ (subM σ q).2 = den (ρt σ ρ) q.2 := by
    unfold subM
    unfold den ρt
    cases h : q.2.1 with
    | none => simp only [h]
    | some j =>
      simp only
      unfold den
      cases (σ j).1 <;> simp only <;> omega
  unfold wgt
  rw [this]
  rfl
theorem subM_mu (σ : Nat → AN) (ρ : Nat → Int) : ∀ l : List (Bool × AN), mu ρ (l.map (subM σ)) = mu (ρt σ ρ) l
  | [] => rfl
  | q :: t => by
    rw [List.map_cons]
    show wgt ρ (subM σ q) * (2000 : Int) ^ (t.map (subM σ)).length + mu ρ (t.map (subM σ)) = wgt (ρt σ ρ) q * (2000 : Int) ^ t.length + mu (ρt σ ρ) t
    rw [subM_den, subM_mu σ ρ t, List.length_map]
theorem mu_ext {B B' : BD} {ρ ρ' : Nat → Int} (e : ext B ρ B' ρ') : ∀ {l : List (Bool × AN)}, l.all (wgtB B) = true → mu ρ' l = mu ρ l
  | [], _ => rfl
  | q :: t, h => by
    rw [List.all_cons, Bool.and_eq_true] at h
    have hq : okN B q.2 := by
      have := h.1
      unfold wgtB at this
      rw [Bool.and_eq_true] at this
      exact okNB_ok this.1
    have hd : den ρ' q.2 = den ρ q.2 := by
      unfold den
      cases hn : q.2.1 with
      | none => rfl
      | some j => simp only; rw [e.2 j (hq j hn)]
    show wgt ρ' q * _ + mu ρ' t = wgt ρ q * _ + mu ρ t
    rw [mu_ext e h.2]
    unfold wgt
    rw [hd]
/-- the first p names stand for themselves -/
def sgp (p : Nat) (σ : Nat → AN) : Nat → AN := fun j => if j < p then (some j, 0) else σ j
def rig (p : Nat) (σ : Nat → AN) : Bool := (List.range p).all (fun j => decide (σ j = (some j, 0)))
def hcut (H : List HD) (p : Nat) (i : HD) : CUT := fun pc => if H.any (fun q => q.1 == pc) = true then some (fun B la ha => H.any (fun q => q.1 == pc && (inT q.2.1 q.2.2.1 q.2.2.2.1 (sgp p (sgm q.2.2.1 la q.2.2.2.1 ha)) B la ha && (rig p (sgp p (sgm q.2.2.1 la q.2.2.2.1 ha)) && lexB B i.2.2.2.2 (q.2.2.2.2.map (subM (sgp p (sgm q.2.2.1 la q.2.2.2.1 ha)))))))) else none
/-- every head of a method, from every state within its template -/
theorem loops {O : ORA} (hO : oraOk O) {k d f p : Nat} {M : MT} (hM : mtL[k]? = some M) (H : List HD) (K : KT) (r : Nat → Int) (Q : Option Value → AH → Prop) (hlen : ∀ q ∈ H, p ≤ q.2.1.length) (hmu : ∀ q ∈ H, q.2.2.2.2.all (wgtB q.2.1) = true)
    (hai : ∀ q ∈ H, ai O f true (hcut H p q) d k q.1 q.2.1 q.2.2.1 [] q.2.2.2.1 K = true) (hQ : ∀ q ∈ H, ∀ ρ : Nat → Int, (∀ j, j < p → ρ j = r j) → aiEnd K q.2.1 ρ Q) :
    ∀ (n : Nat) (q : HD), q ∈ H → ∀ (ρ : Nat → Int) (lv : List (Option Value)) (hp : AH), mu ρ q.2.2.2.2 < n → okB q.2.1 ρ → (∀ j, j < p → ρ j = r j) → rL q.2.1 ρ q.2.2.1 lv → rH q.2.1 ρ q.2.2.2.1 hp → J M d 0 0 Q q.1 lv [] hp 0 0 := by
  intro n
  induction n with
  | zero =>
    intro q hq ρ lv hp hn hB
    have := mu_lt hB (hmu q hq)
    exact absurd hn (by omega)
  | succ n ih =>
    intro q hq ρ lv hp hn hB hr hL hH
    refine ai_ok hO f true (hcut H p q) d k q.1 q.2.1 q.2.2.1 [] q.2.2.2.1 K (hai q hq) M hM ρ lv [] hp Q hB hL trivial hH (hQ q hq ρ hr) ?_
    intro pc chk hc B' ρ' la' lv' ha' hp' h1 hB' he hL' hH'
    unfold hcut at hc
    split at hc
    · cases hc
      obtain ⟨q', hm, h1⟩ := List.any_eq_true.mp h1
      simp only [Bool.and_eq_true, beq_iff_eq] at h1
      obtain ⟨hpc, i1, i2, i3⟩ := h1
      obtain ⟨o1, o2, o3⟩ := inT_ok hB' hL' hH' i1
      rw [← hpc]
      refine ih q' hm _ lv' hp' ?_ o1 (fun j hj => ?_) o2 o3
      · have h5 := lexB_ok hB' i3
        rw [subM_mu, mu_ext he (hmu q hq)] at h5
        omega
      · have h6 := of_decide_eq_true (List.all_eq_true.mp i2 j (List.mem_range.mpr hj))
        unfold ρt
        rw [h6]
        show ρ' j + 0 = r j
        rw [Int.add_zero, he.2 j (Nat.lt_of_lt_of_le hj (hlen q hq)), hr j hj]
    · cases hc
end
section
/-! ===== a method with loops, from its entry ===== -/
def hcut0 (H : List HD) (p : Nat) : CUT := fun pc => if H.any (fun q => q.1 == pc) = true then some (fun B la ha => H.any (fun q => q.1 == pc && (inT q.2.1 q.2.2.1 q.2.2.2.1 (sgp p (sgm q.2.2.1 la q.2.2.2.1 ha)) B la ha && rig p (sgp p (sgm q.2.2.1 la q.2.2.2.1 ha))))) else none
theorem meth {O : ORA} (hO : oraOk O) {k d f p : Nat} {M : MT} (hM : mtL[k]? = some M) (H : List HD) (K : KT) (r : Nat → Int) (Q : Option Value → AH → Prop) (hlen : ∀ q ∈ H, p ≤ q.2.1.length) (hmu : ∀ q ∈ H, q.2.2.2.2.all (wgtB q.2.1) = true)
    (hai : ∀ q ∈ H, ai O f true (hcut H p q) d k q.1 q.2.1 q.2.2.1 [] q.2.2.2.1 K = true) (hQ : ∀ q ∈ H, ∀ ρ : Nat → Int, (∀ j, j < p → ρ j = r j) → aiEnd K q.2.1 ρ Q)
    {B0 : BD} {as : List AVa} {ha : AHa} (hp0 : p ≤ B0.length) (hent : ai O f true (hcut0 H p) d k 0 B0 (entA as M.ml) [] ha K = true) (hsum : (as.map catA).sum ≤ M.ml)
    {ρ : Nat → Int} {av : List Value} {hp : AH} (hB : okB B0 ρ) (hr : ∀ j, j < p → ρ j = r j) (hS : rS B0 ρ as av) (hH : rH B0 ρ ha hp) (hQ0 : aiEnd K B0 ρ Q) : Ct M d 0 0 av hp Q := by
  refine Ct_of_J (mt_ok hM).1 (fun ad => by rw [lg_len, cat_sum hS]; exact hsum) ?_
  refine ai_ok hO f true (hcut0 H p) d k 0 B0 (entA as M.ml) [] ha K hent M hM ρ _ [] hp Q hB (entA_ok hS _) trivial hH hQ0 ?_
  intro pc chk hc B' ρ' la' lv' ha' hp' h1 hB' he hL' hH'
  unfold hcut0 at hc
  split at hc
  · cases hc
    obtain ⟨q, hm, h1⟩ := List.any_eq_true.mp h1
    simp only [Bool.and_eq_true, beq_iff_eq] at h1
    obtain ⟨hpc, i1, i2⟩ := h1
    obtain ⟨o1, o2, o3⟩ := inT_ok hB' hL' hH' i1
    rw [← hpc]
    refine loops hO hM H K r Q hlen hmu hai hQ ((mu (ρt (sgp p (sgm q.2.2.1 la' q.2.2.2.1 ha')) ρ') q.2.2.2.2).toNat + 1) q hm _ lv' hp' ?_ o1 (fun j hj => ?_) o2 o3
    · have := mu_lt o1 (hmu q hm)
      omega
    · have h6 := of_decide_eq_true (List.all_eq_true.mp i2 j (List.mem_range.mpr hj))
      unfold ρt
      rw [h6]
      show ρ' j + 0 = r j
      rw [Int.add_zero, he.2 j (Nat.lt_of_lt_of_le hj hp0), hr j hj]
  · cases hc
end
section
/-! a contract with less room serves where there is more; and with a weaker end -/
theorem Ct_deep {M : MT} {d d' mc ms : Nat} {as : List Value} {hp : AH} {Q : Option Value → AH → Prop} (h : Ct M d mc ms as hp Q) (hd : d ≤ d') : Ct M d' mc ms as hp Q := by
  intro l D cA ad sz hl p e ha hc hk s m args below hf happ hP hK
  refine h l D cA ad sz hl p e ha hc hk s m args below hf ?_ hP hK
  unfold Spec.appliesLoose at happ ⊢
  rw [hf] at happ ⊢
  simp only [Bool.and_eq_true] at happ ⊢
  refine ⟨⟨happ.1.1, hasRoom_mono ?_ ?_ ?_ ?_ happ.1.2⟩, happ.2⟩
  · exact hd
  · show 39 * d ≤ 39 * d'
    omega
  · exact Nat.le_refl _
  · exact Nat.le_refl _
theorem Ct_weak {M : MT} {d mc ms : Nat} {as : List Value} {hp : AH} {Q Q2 : Option Value → AH → Prop} (h : Ct M d mc ms as hp Q) (hq : ∀ v hp', Q v hp' → Q2 v hp') : Ct M d mc ms as hp Q2 := by
  intro l D cA ad sz hl p e ha hc hk s m args below hf happ hP hK
  obtain ⟨n, o, h1, h2, h3, h4, h5⟩ := h l D cA ad sz hl p e ha hc hk s m args below hf happ hP hK
  refine ⟨n, o, h1, h2, h3, ?_, h5⟩
  obtain ⟨⟨v, hp', x, g1, g2, g3⟩, g4⟩ := h4
  exact ⟨⟨v, hp', x, g1, hq v hp' g2, g3⟩, g4⟩
end
section
/-! ===== contracts as an oracle ===== -/
/-- method, depth; before: bounds, arguments, heap; behind: alternatives, each with bounds of the names of before and of new ones, answer, heap -/
abbrev CTR : Type := Nat × Nat × BD × List AVa × AHa × List (BD × Option AVa × AHa)
def ctrOk (c : CTR) : Prop := ∀ (NM : MT), mtL[c.1]? = some NM → ∀ (ρ : Nat → Int) (av : List Value) (hp : AH), okB c.2.2.1 ρ → rS c.2.2.1 ρ c.2.2.2.1 av → rH c.2.2.1 ρ c.2.2.2.2.1 hp → Ct NM c.2.1 0 0 av hp (fun v hp' => ∃ o ∈ c.2.2.2.2.2, ∃ ρ', okB o.1 ρ' ∧ ext c.2.2.1 ρ o.1 ρ' ∧ rO o.1 ρ' o.2.1 v ∧ rH o.1 ρ' o.2.2 hp')
def sbN (τ : Nat → AN) (n : AN) : AN := match n.1 with
  | none => n
  | some j => ((τ j).1, (τ j).2 + n.2)
def sbV (τ : Nat → AN) (a : AVa) : AVa := match a with
  | .inl n => .inl (sbN τ n)
  | .inr q => .inr q
def sbC (τ : Nat → AN) (c : ACa) : ACa := match c with
  | .inl q => .inl q
  | .inr (.inl (ty, ns)) => .inr (.inl (ty, ns.map (sbN τ)))
  | .inr (.inr (.inl rs)) => .inr (.inr (.inl rs))
  | .inr (.inr (.inr (ci, fa))) => .inr (.inr (.inr (ci, fa.map (sbV τ))))
/-- names by τ: each stands for the same number -/
def sbOk (B1 : BD) (r1 : Nat → Int) (B2 : BD) (r2 : Nat → Int) (τ : Nat → AN) : Prop := ∀ j, j < B1.length → okN B2 (τ j) ∧ den r2 (τ j) = r1 j
section SB
variable {B1 B2 : BD} {r1 r2 : Nat → Int} {τ : Nat → AN}
theorem sbN_ok (h : sbOk B1 r1 B2 r2 τ) {n : AN} {x : Int32} (hn : rN B1 r1 n x) : rN B2 r2 (sbN τ n) x := by
  unfold sbN
  cases e : n.1 with
  | none =>
    refine ⟨fun j hj => (by rw [e] at hj; cases hj), ?_⟩
    have := hn.2
    unfold den at this ⊢
    rw [e] at this ⊢
    exact this
  | some j =>
    obtain ⟨g1, g2⟩ := h j (hn.1 j e)
    refine ⟨fun k hk => g1 k hk, ?_⟩
    have := hn.2
    unfold den at this
    rw [e] at this
    simp only at this
    rw [this, ← g2]
    unfold den
    cases (τ j).1 <;> simp only <;> omega
theorem sbV_ok (h : sbOk B1 r1 B2 r2 τ) {a : AVa} {v : Value} (hv : rV B1 r1 a v) : rV B2 r2 (sbV τ a) v := by
  match a, v, hv with
  | .inl n, .int x, hv => exact sbN_ok h hv
  | .inr (.inl r), .ref q, hv => exact hv
  | .inr (.inr o), .long z, hv => exact hv
theorem sbC_ok (h : sbOk B1 r1 B2 r2 τ) {a : ACa} {x : AC} (hx : rC B1 r1 a x) : rC B2 r2 (sbC τ a) x := by
  match a, x, hx with
  | .inl (ty, n, lo, hi), .inl (ty', xs), hx => exact hx
  | .inr (.inl (ty, ns)), .inl (ty', xs), hx =>
    refine ⟨hx.1, by rw [List.length_map]; exact hx.2.1, fun i n hi => ?_⟩
    rw [List.getElem?_map] at hi
    obtain ⟨m, hm, rfl⟩ := Option.map_eq_some_iff.mp hi
    obtain ⟨z, q1, q2⟩ := hx.2.2 i m hm
    exact ⟨z, q1, sbN_ok h q2⟩
  | .inr (.inr (.inl rs)), .inr (.inl qs), hx => exact hx
  | .inr (.inr (.inr (ci, fa))), .inr (.inr (cj, fs)), hx =>
    refine ⟨hx.1, by rw [List.length_map]; exact hx.2.1, fun i a hi => ?_⟩
    rw [List.getElem?_map] at hi
    obtain ⟨m, hm, rfl⟩ := Option.map_eq_some_iff.mp hi
    obtain ⟨z, q1, q2⟩ := hx.2.2 i m hm
    refine ⟨z, q1, ?_⟩
    rcases q2 with q2 | q2
    · left
      match m, q2 with
      | .inr (.inl r), q2 => exact q2
    · exact Or.inr (sbV_ok h q2)
theorem sbH_ok (h : sbOk B1 r1 B2 r2 τ) {ha : AHa} {hp : AH} (hH : rH B1 r1 ha hp) : rH B2 r2 (ha.map (sbC τ)) hp := by
  refine ⟨by rw [List.length_map]; exact hH.1, fun i a hi => ?_, hH.2.2⟩
  rw [List.getElem?_map] at hi
  obtain ⟨m, hm, rfl⟩ := Option.map_eq_some_iff.mp hi
  obtain ⟨z, q1, q2⟩ := hH.2.1 i m hm
  exact ⟨z, q1, sbC_ok h q2⟩
end SB
def inTa (Bt : BD) (ts : List AVa) (ht : AHa) (σ : Nat → AN) (B : BD) (as : List AVa) (ha : AHa) : Bool := bOk B σ Bt && (zipB (vOk B σ Bt.length) ts as && zipB (cOkA B σ Bt.length) ht ha)
theorem zip_rS {B Bt : BD} {ρ : Nat → Int} (hB : okB B ρ) {σ : Nat → AN} : ∀ {ts as : List AVa} {vs : List Value}, zipB (vOk B σ Bt.length) ts as = true → rS B ρ as vs → rS Bt (ρt σ ρ) ts vs
  | [], [], [], _, _ => trivial
  | t :: ts, a :: as, v :: vs, h, hS => by
    simp only [zipB, Bool.and_eq_true] at h
    exact ⟨vOk_ok hB h.1 hS.1, zip_rS hB h.2 hS.2⟩
  | [], [], _ :: _, _, hS => hS.elim
  | _ :: _, _ :: _, [], _, hS => hS.elim
theorem narH_den {B : BD} {ρ : Nat → Int} (hB : okB B ρ) {n : AN} {hi : Int} (h1 : den ρ n ≤ hi) : okB (narH B n hi) ρ := by
  unfold narH
  unfold den at h1
  split
  · exact hB
  · rename_i j hj
    rw [hj] at h1
    split
    · rename_i b hb
      have := hB j b hb
      refine set_okB hB ?_
      simp only at h1 ⊢
      omega
    · exact hB
theorem narL_den {B : BD} {ρ : Nat → Int} (hB : okB B ρ) {n : AN} {lo : Int} (h1 : lo ≤ den ρ n) : okB (narL B n lo) ρ := by
  unfold narL
  unfold den at h1
  split
  · exact hB
  · rename_i j hj
    rw [hj] at h1
    split
    · rename_i b hb
      have := hB j b hb
      refine set_okB hB ?_
      simp only at h1 ⊢
      omega
    · exact hB
/-- what a contract's end says of the names of before -/
def nrw (σ : Nat → AN) : Nat → BD → BD → BD → BD
  | j, b :: Bt, q :: Bp, B => nrw σ (j + 1) Bt Bp (if b = q then B else narL (narH B (σ j) q.2) (σ j) q.1)
  | _, _, _, B => B
theorem nrw_ok {σ : Nat → AN} {ρ : Nat → Int} : ∀ {Bt Bp B : BD} {j : Nat}, okB B ρ → (∀ i q, i < Bt.length → Bp[i]? = some q → q.1 ≤ den ρ (σ (j + i)) ∧ den ρ (σ (j + i)) ≤ q.2) → okB (nrw σ j Bt Bp B) ρ ∧ (nrw σ j Bt Bp B).length = B.length
  | [], _, _, _, hB, _ => by unfold nrw; exact ⟨hB, rfl⟩
  | _ :: _, [], _, _, hB, _ => by unfold nrw; exact ⟨hB, rfl⟩
  | b :: Bt, q :: Bp, B, j, hB, h => by
    unfold nrw
    have h0 := h 0 q (by rw [List.length_cons]; omega) rfl
    rw [Nat.add_zero] at h0
    have hn : ∀ i q', i < Bt.length → Bp[i]? = some q' → q'.1 ≤ den ρ (σ (j + 1 + i)) ∧ den ρ (σ (j + 1 + i)) ≤ q'.2 := fun i q' h1 h2 => by
      have := h (i + 1) q' (by rw [List.length_cons]; omega) (by rw [List.getElem?_cons_succ]; exact h2)
      rw [show j + 1 + i = j + (i + 1) by omega]
      exact this
    split
    · exact nrw_ok hB hn
    · have h1 := nrw_ok (Bt := Bt) (Bp := Bp) (narL_den (narH_den hB h0.2) h0.1) hn
      exact ⟨h1.1, h1.2.trans (by rw [narL_len, narH_len])⟩
def tauC (p : Nat) (σ : Nat → AN) (n : Nat) : Nat → AN := fun j => if j < p then σ j else (some (n + (j - p)), 0)
def sgA (ts as : List AVa) (ht ha : AHa) : Nat → AN := fun j => ((colZ colV ts as ++ colZ colC ht ha).lookup j).getD (none, 0)
def oraL (L : List CTR) : ORA := fun d N B as ha => match L.find? (fun c => c.1 == N && (decide (c.2.1 ≤ d) && inTa c.2.2.1 c.2.2.2.1 c.2.2.2.2.1 (sgA c.2.2.2.1 as c.2.2.2.2.1 ha) B as ha)) with
  | some c => some (c.2.2.2.2.2.map (fun o => (nrw (sgA c.2.2.2.1 as c.2.2.2.2.1 ha) 0 c.2.2.1 o.1 B ++ o.1.drop c.2.2.1.length, o.2.1.map (sbV (tauC c.2.2.1.length (sgA c.2.2.2.1 as c.2.2.2.2.1 ha) B.length)), o.2.2.map (sbC (tauC c.2.2.1.length (sgA c.2.2.2.1 as c.2.2.2.2.1 ha) B.length)))))
  | none => none
theorem oraL_ok {L : List CTR} (hL : ∀ c ∈ L, ctrOk c) : oraOk (oraL L) := by
  intro d N NM B as ha L2 h hN ρ av hp hB hS hH
  unfold oraL at h
  split at h
  · rename_i c hf
    have hm := List.mem_of_find?_eq_some hf
    have hfs := List.find?_some hf
    simp only [Bool.and_eq_true, beq_iff_eq, decide_eq_true_eq] at hfs
    obtain ⟨hcN, hd, hin⟩ := hfs
    · cases h
      generalize hσ : sgA c.2.2.2.1 as c.2.2.2.2.1 ha = σ at hin ⊢
      unfold inTa at hin
      rw [Bool.and_eq_true, Bool.and_eq_true] at hin
      obtain ⟨i1, i2, i3⟩ := hin
      have C := hL c hm NM (by rw [hcN]; exact hN) (ρt σ ρ) av hp (bOk_ok hB i1) (zip_rS hB i2 hS) (hOk_ok hB i3 hH)
      refine Ct_weak (Ct_deep C hd) (fun v hp' hq => ?_)
      obtain ⟨o, ho, r', g1, g2, g3, g4⟩ := hq
      obtain ⟨n1, n2⟩ := nrw_ok (σ := σ) (ρ := ρ) (Bt := c.2.2.1) (Bp := o.1) (B := B) (j := 0) hB (fun i q hi hq => by
        have := g1 i q hq
        rw [g2.2 i hi] at this
        rw [Nat.zero_add]
        exact this)
      refine ⟨_, List.mem_map_of_mem ho, fun k => if k < B.length then ρ k else r' (c.2.2.1.length + (k - B.length)), ?_, ⟨by show _ ≤ (_ ++ _ : BD).length; rw [List.length_append, n2]; omega, fun j hj => if_pos hj⟩, ?_⟩
      · intro k b hk
        simp only at hk
        by_cases hl : k < B.length
        · rw [List.getElem?_append_left (by rw [n2]; exact hl)] at hk
          simp only [if_pos hl]
          exact n1 k b hk
        · rw [List.getElem?_append_right (by rw [n2]; omega), n2, List.getElem?_drop] at hk
          simp only [if_neg hl]
          exact g1 _ b hk
      · have hsb : sbOk o.1 r' (nrw σ 0 c.2.2.1 o.1 B ++ o.1.drop c.2.2.1.length) (fun k => if k < B.length then ρ k else r' (c.2.2.1.length + (k - B.length))) (tauC c.2.2.1.length σ B.length) := by
          intro j hj
          unfold tauC
          by_cases hl : j < c.2.2.1.length
          · rw [if_pos hl]
            have h7 := List.all_eq_true.mp i1 j (List.mem_range.mpr hl)
            rw [Bool.and_eq_true] at h7
            have hok := okNB_ok h7.1
            refine ⟨fun k hk => by have := hok k hk; rw [List.length_append, n2]; omega, ?_⟩
            rw [g2.2 j hl]
            show _ = den ρ (σ j)
            unfold den
            cases e : (σ j).1 with
            | none => rfl
            | some k => simp only; rw [if_pos (hok k e)]
          · rw [if_neg hl]
            refine ⟨fun k hk => by cases hk; rw [List.length_append, n2, List.length_drop]; omega, ?_⟩
            show (if B.length + (j - c.2.2.1.length) < B.length then _ else _) + 0 = r' j
            rw [if_neg (by omega), Int.add_zero]
            congr 1
            omega
        refine ⟨?_, sbH_ok hsb g4⟩
        generalize o.2.1 = ra at g3
        match ra, v, g3 with
        | none, none, _ => exact trivial
        | some q, some w, g3 => exact sbV_ok hsb g3
  · cases h
end
section
/-! ===== a contract out of a method's evaluation ===== -/
def colP (t a : Option AVa) : List (Nat × AN) := match t, a with
  | some t, some a => colV t a
  | _, _ => []
def sgO (p : Nat) (o : BD × Option AVa × AHa) (a : Option AVa) (ha : AHa) : Nat → AN := sgp p (fun j => ((colP o.2.1 a ++ colZ colC o.2.2 ha).lookup j).getD (none, 0))
def vOkO (B : BD) (σ : Nat → AN) (m : Nat) (t a : Option AVa) : Bool := match t, a with
  | none, none => true
  | some t, some a' => vOk B σ m t a'
  | _, _ => false
def kC (c : CTR) : KT := fun B a ha => c.2.2.2.2.2.any (fun o => bOk B (sgO c.2.2.1.length o a ha) o.1 && (vOkO B (sgO c.2.2.1.length o a ha) o.1.length o.2.1 a && zipB (cOkA B (sgO c.2.2.1.length o a ha) o.1.length) o.2.2 ha))
def qC (c : CTR) (r : Nat → Int) : Option Value → AH → Prop := fun v hp' => ∃ o ∈ c.2.2.2.2.2, ∃ ρ', okB o.1 ρ' ∧ (∀ j, j < c.2.2.1.length → ρ' j = r j) ∧ rO o.1 ρ' o.2.1 v ∧ rH o.1 ρ' o.2.2 hp'
theorem kC_end (c : CTR) {Bt : BD} {ρ r : Nat → Int} (hl : c.2.2.1.length ≤ Bt.length) (hr : ∀ j, j < c.2.2.1.length → ρ j = r j) : aiEnd (kC c) Bt ρ (qC c r) := by
  intro B' ρ' a v ha' hp' h hB' he hO hH
  unfold kC at h
  obtain ⟨o, ho, h⟩ := List.any_eq_true.mp h
  rw [Bool.and_eq_true, Bool.and_eq_true] at h
  obtain ⟨h1, h2, h3⟩ := h
  refine ⟨o, ho, ρt (sgO c.2.2.1.length o a ha') ρ', bOk_ok hB' h1, fun j hj => ?_, ?_, hOk_ok hB' h3 hH⟩
  · unfold ρt sgO sgp
    rw [if_pos hj]
    show ρ' j + 0 = r j
    rw [Int.add_zero, he.2 j (by omega), hr j hj]
  · unfold vOkO at h2
    generalize sgO c.2.2.1.length o a ha' = σ at h2 ⊢
    generalize o.2.1 = t at h2 ⊢
    match t, a, v, hO, h2 with
    | none, none, none, _, _ => exact trivial
    | some t, some a', some w, hO, h2 => exact vOk_ok hB' h2 hO
theorem ctr_of {O : ORA} (hO : oraOk O) (c : CTR) {f : Nat} {M : MT} (hM : mtL[c.1]? = some M) (H : List HD) (hlen : ∀ q ∈ H, c.2.2.1.length ≤ q.2.1.length) (hmu : ∀ q ∈ H, q.2.2.2.2.all (wgtB q.2.1) = true)
    (hai : ∀ q ∈ H, ai O f true (hcut H c.2.2.1.length q) c.2.1 c.1 q.1 q.2.1 q.2.2.1 [] q.2.2.2.1 (kC c) = true) (hent : ai O f true (hcut0 H c.2.2.1.length) c.2.1 c.1 0 c.2.2.1 (entA c.2.2.2.1 M.ml) [] c.2.2.2.2.1 (kC c) = true) (hsum : (c.2.2.2.1.map catA).sum ≤ M.ml) (hpo : c.2.2.2.2.2.all (fun o => decide (c.2.2.1.length ≤ o.1.length)) = true) : ctrOk c := by
  intro NM hN ρ av hp hB hS hH
  rw [hM] at hN
  cases hN
  have C := meth hO hM H (kC c) ρ (qC c ρ) hlen hmu hai (fun q hq ρ1 hr => kC_end c (hlen q hq) hr) (Nat.le_refl _) hent hsum hB (fun _ _ => rfl) hS hH (kC_end c (Nat.le_refl _) (fun _ _ => rfl))
  refine Ct_weak C (fun v hp' hq => ?_)
  obtain ⟨o, ho, ρ', g1, g2, g3, g4⟩ := hq
  have hp1 := of_decide_eq_true (List.all_eq_true.mp hpo o ho)
  exact ⟨o, ho, ρ', g1, ⟨hp1, g2⟩, g3, g4⟩
/-! ===== a contract out of those over parts of a name's bounds ===== -/
def covB : Int → Int → List (Int × Int) → Bool
  | lo, hi, [] => decide (hi < lo)
  | lo, hi, b :: r => decide (b.1 ≤ lo) && covB (b.2 + 1) hi r
theorem covB_ok : ∀ {l : List (Int × Int)} {lo hi x : Int}, covB lo hi l = true → lo ≤ x → x ≤ hi → ∃ b ∈ l, b.1 ≤ x ∧ x ≤ b.2
  | [], lo, hi, x, h, h1, h2 => by
    have := of_decide_eq_true h
    omega
  | b :: r, lo, hi, x, h, h1, h2 => by
    simp only [covB, Bool.and_eq_true, decide_eq_true_eq] at h
    by_cases hx : x ≤ b.2
    · exact ⟨b, List.mem_cons_self, by omega, hx⟩
    · obtain ⟨q, q1, q2⟩ := covB_ok h.2 (by omega) h2
      exact ⟨q, List.mem_cons_of_mem _ q1, q2⟩
def cset (c : CTR) (j : Nat) (b : Int × Int) : CTR := (c.1, c.2.1, c.2.2.1.set j b, c.2.2.2)
theorem ctr_split (c : CTR) (j : Nat) {b : Int × Int} (hj : c.2.2.1[j]? = some b) (ivs : List (Int × Int)) (hcov : covB b.1 b.2 ivs = true) (h : ∀ q ∈ ivs, ctrOk (cset c j q)) : ctrOk c := by
  intro NM hN ρ av hp hB hS hH
  have h1 := hB j b hj
  obtain ⟨q, q1, q2, q3⟩ := covB_ok hcov h1.1 h1.2
  have hB' : okB (c.2.2.1.set j q) ρ := set_okB hB ⟨q2, q3⟩
  have e : ext c.2.2.1 ρ (c.2.2.1.set j q) ρ := ⟨by rw [List.length_set]; exact Nat.le_refl _, fun _ _ => rfl⟩
  refine Ct_weak (h q q1 NM hN ρ av hp hB' (rS_ext e hS) (rH_ext e hH)) (fun v hp' hq => ?_)
  obtain ⟨o, ho, ρ', g1, g2, g3⟩ := hq
  exact ⟨o, ho, ρ', g1, ext_tr e g2, g3⟩
/-! ===== a contract over an array as a whole out of one over its items ===== -/
def citm (c : CTR) (k n : Nat) (lo hi : Int) : CTR := (c.1, c.2.1, c.2.2.1 ++ List.replicate n (lo, hi), c.2.2.2.1, c.2.2.2.2.1.set k (.inr (.inl (.int, (List.range n).map (fun i => (some (c.2.2.1.length + i), 0))))), c.2.2.2.2.2)
theorem ctr_items (c : CTR) {k n : Nat} {lo hi : Int} (hk : c.2.2.2.2.1[k]? = some (.inl (.int, n, lo, hi))) (h : ctrOk (citm c k n lo hi)) : ctrOk c := by
  intro NM hN ρ av hp hB hS hH
  obtain ⟨x, hx, hc⟩ := rH_at hH hk
  obtain ⟨xs, rfl, hl, hb⟩ := rC_sum hc
  have e : ext c.2.2.1 ρ (c.2.2.1 ++ List.replicate n (lo, hi)) (fun j => if j < c.2.2.1.length then ρ j else (xs.getD (j - c.2.2.1.length) 0).toInt) := ⟨by rw [List.length_append]; omega, fun j hj => if_pos hj⟩
  have hB' : okB (c.2.2.1 ++ List.replicate n (lo, hi)) (fun j => if j < c.2.2.1.length then ρ j else (xs.getD (j - c.2.2.1.length) 0).toInt) := by
    intro j b hj
    by_cases hlt : j < c.2.2.1.length
    · rw [List.getElem?_append_left hlt] at hj
      simp only [if_pos hlt]
      exact hB j b hj
    · rw [List.getElem?_append_right (by omega)] at hj
      simp only [if_neg hlt]
      have hjn := (List.getElem?_eq_some_iff.mp hj).1
      rw [List.length_replicate] at hjn
      rw [List.getElem?_replicate_of_lt hjn] at hj
      cases hj
      exact hb _ (getD_mem (by omega))
  refine Ct_weak (h NM hN _ av hp hB' (rS_ext e hS) ?_) (fun v hp' hq => ?_)
  · have h2 := rH_ext e hH
    refine ⟨by show (c.2.2.2.2.1.set k _).length = _; rw [List.length_set]; exact hH.1, fun j a hj => ?_, hH.2.2⟩
    have hj : (c.2.2.2.2.1.set k (.inr (.inl (.int, (List.range n).map (fun i => (some (c.2.2.1.length + i), 0))))))[j]? = some a := hj
    by_cases hjk : j = k
    · subst hjk
      rw [List.getElem?_set_self (List.getElem?_eq_some_iff.mp hk).1] at hj
      cases hj
      refine ⟨_, hx, rfl, by rw [List.length_map, List.length_range, hl], fun i m hi => ?_⟩
      rw [List.getElem?_map] at hi
      obtain ⟨i', hi', rfl⟩ := Option.map_eq_some_iff.mp hi
      have hil := (List.getElem?_eq_some_iff.mp hi').1
      rw [List.length_range] at hil
      rw [List.getElem?_range hil] at hi'
      cases hi'
      refine ⟨xs.getD i 0, by rw [List.getD_eq_getElem?_getD, List.getElem?_eq_getElem (by omega)]; rfl, fun q hq => by cases hq; show c.2.2.1.length + i < (c.2.2.1 ++ List.replicate n _).length; rw [List.length_append, List.length_replicate]; omega, ?_⟩
      show _ = (if c.2.2.1.length + i < c.2.2.1.length then _ else _) + 0
      rw [if_neg (by omega), Int.add_zero, show c.2.2.1.length + i - c.2.2.1.length = i by omega]
    · rw [List.getElem?_set_ne (Ne.symm hjk)] at hj
      exact h2.2.1 j a hj
  · obtain ⟨o, ho, ρ', g1, g2, g3⟩ := hq
    exact ⟨o, ho, ρ', g1, ext_tr e g2, g3⟩
/-! ===== the checks of a contract, a Bool each ===== -/
def haiB (O : ORA) (f : Nat) (c : CTR) (H : List HD) (q : HD) : Bool := ai O f true (hcut H c.2.2.1.length q) c.2.1 c.1 q.1 q.2.1 q.2.2.1 [] q.2.2.2.1 (kC c)
def entB (O : ORA) (f : Nat) (c : CTR) (H : List HD) (ml : Nat) : Bool := ai O f true (hcut0 H c.2.2.1.length) c.2.1 c.1 0 c.2.2.1 (entA c.2.2.2.1 ml) [] c.2.2.2.2.1 (kC c)
def stB (c : CTR) (H : List HD) (ml : Nat) : Bool := H.all (fun q => decide (c.2.2.1.length ≤ q.2.1.length) && q.2.2.2.2.all (wgtB q.2.1)) && (decide ((c.2.2.2.1.map catA).sum ≤ ml) && c.2.2.2.2.2.all (fun o => decide (c.2.2.1.length ≤ o.1.length)))
theorem hn (O : ORA) (f : Nat) (c : CTR) (H : List HD) : ∀ x ∈ ([] : List HD), haiB O f c H x = true := fun _ h => absurd h List.not_mem_nil
theorem hc {O : ORA} {f : Nat} {c : CTR} {H : List HD} {q : HD} {l : List HD} (h : haiB O f c H q = true) (t : ∀ x ∈ l, haiB O f c H x = true) : ∀ x ∈ q :: l, haiB O f c H x = true := fun x hx => by
  rcases List.mem_cons.mp hx with rfl | q
  · exact h
  · exact t x q
theorem ctr_by {L : List CTR} (hL : ∀ c ∈ L, ctrOk c) (c : CTR) (f : Nat) (M : MT) (hM : mtL[c.1]? = some M) (H : List HD) (hst : stB c H M.ml = true) (hent : entB (oraL L) f c H M.ml = true) (hai : ∀ q ∈ H, haiB (oraL L) f c H q = true) : ctrOk c := by
  unfold stB at hst
  rw [Bool.and_eq_true, Bool.and_eq_true, decide_eq_true_eq] at hst
  obtain ⟨h1, h2, h3⟩ := hst
  have h4 : ∀ q ∈ H, c.2.2.1.length ≤ q.2.1.length ∧ q.2.2.2.2.all (wgtB q.2.1) = true := fun q hq => by
    have := List.all_eq_true.mp h1 q hq
    rw [Bool.and_eq_true, decide_eq_true_eq] at this
    exact this
  exact ctr_of (oraL_ok hL) c hM H (fun q hq => (h4 q hq).1) (fun q hq => (h4 q hq).2) hai hent h2 h3
end
section
/-! ===== by hand: steps by the tables ===== -/
section TB
variable {k d pc pc' len : Nat} {M : MT} {Q : Option Value → AH → Prop} {lv lv' : List (Option Value)} {st st' : List Value} {hp : AH} {i : Instr}
theorem T_s (hM : mtL[k]? = some M) (hc : (cdL.getD k [])[pc]? = some (some (i, len))) (hs : sA i pc lv st = some (pc', lv', st')) (kk : J M d 0 0 Q pc' lv' st' hp 0 0) : J M d 0 0 Q pc lv st hp 0 0 := by
  obtain ⟨hd, hn⟩ := cd_at hM hc
  have hl := sA_len hs hn
  subst hl
  exact J_s hd hs kk
theorem T_b {b : Bool} {t : Nat} (hM : mtL[k]? = some M) (hc : (cdL.getD k [])[pc]? = some (some (i, len))) (hs : bA i pc st = some (b, t, st')) (kt : b = true → J M d 0 0 Q t lv st' hp 0 0) (kf : b = false → J M d 0 0 Q (pc + 3) lv st' hp 0 0) : J M d 0 0 Q pc lv st hp 0 0 := by
  obtain ⟨hd, hn⟩ := cd_at hM hc
  have hl := bA_len hs hn
  subst hl
  exact J_b hd hs kt kf
theorem T_h {hp' : AH} (hM : mtL[k]? = some M) (hc : (cdL.getD k [])[pc]? = some (some (i, len))) (hs : hA d M i pc st hp = some (pc', st', hp')) (kk : J M d 0 0 Q pc' lv st' hp' 0 0) : J M d 0 0 Q pc lv st hp 0 0 := by
  obtain ⟨hd, hn⟩ := cd_at hM hc
  exact J_h hd hn hs kk
theorem T_r {v : Option Value} (hM : mtL[k]? = some M) (hc : (cdL.getD k [])[pc]? = some (some (i, len))) (hs : rA M.rt i st = some v) (hQ : Q v hp) : J M d 0 0 Q pc lv st hp 0 0 := by
  obtain ⟨hd, hn⟩ := cd_at hM hc
  exact J_r hd hn hs (Nat.le_refl _) (Nat.le_refl _) hQ
theorem T_get {idx ci sl w r : Nat} {fs : List Value} {v : Value} (hM : mtL[k]? = some M) (hc : (cdL.getD k [])[pc]? = some (some (.getfield idx, len))) (hf : fRes M.cn idx = some (ci, sl, w)) (hr : hp[r]? = some (.inr (.inr (ci, fs)))) (hv : fs[sl]? = some v) (kk : J M d 0 0 Q (pc + 3) lv (v :: st) hp 0 0) : J M d 0 0 Q pc lv (.ref r :: st) hp 0 0 :=
  T_h hM hc (by simp only [hA, hf, hr, hv, if_pos]) kk
theorem T_put {idx ci sl w r : Nat} {fs : List Value} {v : Value} (hM : mtL[k]? = some M) (hc : (cdL.getD k [])[pc]? = some (some (.putfield idx, len))) (hf : fRes M.cn idx = some (ci, sl, w)) (hr : hp[r]? = some (.inr (.inr (ci, fs)))) (hl : sl < fs.length) (hh : fHold (fTy ci sl) v = true) (hn : fFin ci sl = false) (kk : J M d 0 0 Q (pc + 3) lv st (hp.set r (.inr (.inr (ci, fs.set sl v)))) 0 0) : J M d 0 0 Q pc lv (v :: .ref r :: st) hp 0 0 := by
  exact T_h hM hc (by simp only [hA, hf, hr]; rw [if_pos ⟨trivial, hl, hh, Or.inl hn⟩]) kk
theorem T_ald {r : Nat} {xs : List Int32} {x : Int32} (hM : mtL[k]? = some M) (hc : (cdL.getD k [])[pc]? = some (some (.iaload, len))) (hr : hp[r]? = some (.inl (.int, xs))) (hi : inB x xs.length = true) (kk : J M d 0 0 Q (pc + 1) lv (.int (xs.getD x.toNatClampNeg 0) :: st) hp 0 0) : J M d 0 0 Q pc lv (.int x :: .ref r :: st) hp 0 0 :=
  T_h hM hc (by simp only [hA, hr, if_pos hi]) kk
theorem T_ast {r : Nat} {xs : List Int32} {x y : Int32} (hM : mtL[k]? = some M) (hc : (cdL.getD k [])[pc]? = some (some (.iastore, len))) (hr : hp[r]? = some (.inl (.int, xs))) (hi : inB x xs.length = true) (kk : J M d 0 0 Q (pc + 1) lv st (hp.set r (.inl (.int, xs.set x.toNatClampNeg y))) 0 0) : J M d 0 0 Q pc lv (.int y :: .int x :: .ref r :: st) hp 0 0 :=
  T_h hM hc (by simp only [hA, hr, if_pos hi]) kk
end TB
theorem inB_nat {j n : Nat} (h : j < n) (hj : j < 2 ^ 31) : inB (nI j) n = true := inB_of (vp_in_iff.mpr (by rw [nI_toInt hj]; omega))
/-! ===== enter: an act comes behind those of its day and kind ===== -/
def entR : Nat → List Int32 → List Int32 → Int32 → Int32 → List Int32 × List Int32
  | 0, ks, ss, key, sub => (ks.set 0 key, ss.set 0 sub)
  | a + 1, ks, ss, key, sub => if key < ks.getD a 0 then entR a (ks.set (a + 1) (ks.getD a 0)) (ss.set (a + 1) (ss.getD a 0)) key sub else (ks.set (a + 1) key, ss.set (a + 1) sub)
theorem entR_len : ∀ (a : Nat) (ks ss : List Int32) (key sub : Int32), (entR a ks ss key sub).1.length = ks.length ∧ (entR a ks ss key sub).2.length = ss.length
  | 0, ks, ss, key, sub => by simp [entR]
  | a + 1, ks, ss, key, sub => by
    unfold entR
    split
    · have h := entR_len a (ks.set (a + 1) (ks.getD a 0)) (ss.set (a + 1) (ss.getD a 0)) key sub
      simpa using h
    · simp
theorem set2_26 {hp : AH} (a b c e : AC) : (((hp.set 26 a).set 27 b).set 26 c).set 27 e = (hp.set 26 c).set 27 e := by
  rw [List.set_comm _ _ (show (27 : Nat) ≠ 26 by decide), List.set_set, List.set_set]
def lvE (dy kd sub key : Int32) (a : Nat) : List (Option Value) := [some (.ref 5), some (.int dy), some (.int kd), some (.int sub), some (.int key), some (.int (nI a))]
theorem nI_dec (a : Nat) (h : a + 1 < 2 ^ 31) : nI (a + 1) - 1 = nI a := by
  apply Int32.toInt_inj.mp
  have h1 : (1 : Int32).toInt = 1 := by decide
  rw [toInt_sub_in (by rw [nI_toInt h, h1]; omega) (by rw [nI_toInt h, h1]; omega), nI_toInt h, nI_toInt (by omega), h1]
  omega
theorem nI_dec2 (a : Nat) (h : a + 1 < 2 ^ 31) : nI (a + 1) + (-1) = nI a := by
  rw [← nI_dec a h]
  exact (Int32.sub_eq_add_neg ..).symm
set_option maxRecDepth 100000 in
set_option maxHeartbeats 2000000 in
theorem enter_loop {d : Nat} {Q : Option Value → AH → Prop} {dy kd sub key : Int32} {fs : List Value} {acts : Int32} : ∀ (a : Nat) (hp : AH) (ks ss : List Int32), hp[5]? = some (.inr (.inr (0, fs))) → fs[5]? = some (.ref 26) → fs[6]? = some (.ref 27) → fs[10]? = some (.int acts) → hp[26]? = some (.inl (.int, ks)) → hp[27]? = some (.inl (.int, ss)) → ks.length = 49 → ss.length = 49 → a < 49 →
    Q none (((hp.set 26 (.inl (.int, (entR a ks ss key sub).1))).set 27 (.inl (.int, (entR a ks ss key sub).2))).set 5 (.inr (.inr (0, fs.set 10 (.int (acts + 1)))))) → J mX0_enter d 0 0 Q 23 (lvE dy kd sub key a) [] hp 0 0 := by
  have fin : ∀ (a : Nat) (hp : AH) (ks ss : List Int32), hp[5]? = some (.inr (.inr (0, fs))) → fs[5]? = some (.ref 26) → fs[6]? = some (.ref 27) → fs[10]? = some (.int acts) → hp[26]? = some (.inl (.int, ks)) → hp[27]? = some (.inl (.int, ss)) → ks.length = 49 → ss.length = 49 → a < 49 →
    Q none (((hp.set 26 (.inl (.int, ks.set a key))).set 27 (.inl (.int, ss.set a sub))).set 5 (.inr (.inr (0, fs.set 10 (.int (acts + 1)))))) → J mX0_enter d 0 0 Q 80 (lvE dy kd sub key a) [] hp 0 0 := by
    intro a hp ks ss h5 f5 f6 f10 h26 h27 lk ls ha hQ
    refine T_s (k := 3) rfl rfl rfl ?_
    refine T_get (k := 3) rfl rfl rfl h5 f5 ?_
    refine T_s (k := 3) rfl rfl rfl ?_
    refine T_s (k := 3) rfl rfl rfl ?_
    refine T_ast (k := 3) rfl rfl h26 (by rw [lk]; exact inB_nat ha (by omega)) ?_
    rw [nI_clamp (by omega)]
    have h5' : (hp.set 26 (.inl (.int, ks.set a key)))[5]? = some (.inr (.inr (0, fs))) := by rw [List.getElem?_set_ne (by decide)]; exact h5
    have h27' : (hp.set 26 (.inl (.int, ks.set a key)))[27]? = some (.inl (.int, ss)) := by rw [List.getElem?_set_ne (by decide)]; exact h27
    refine T_s (k := 3) rfl rfl rfl ?_
    refine T_get (k := 3) rfl rfl rfl h5' f6 ?_
    refine T_s (k := 3) rfl rfl rfl ?_
    refine T_s (k := 3) rfl rfl rfl ?_
    refine T_ast (k := 3) rfl rfl h27' (by rw [ls]; exact inB_nat ha (by omega)) ?_
    rw [nI_clamp (by omega)]
    have h5'' : ((hp.set 26 (.inl (.int, ks.set a key))).set 27 (.inl (.int, ss.set a sub)))[5]? = some (.inr (.inr (0, fs))) := by rw [List.getElem?_set_ne (by decide)]; exact h5'
    refine T_s (k := 3) rfl rfl rfl ?_
    refine T_s (k := 3) rfl rfl rfl ?_
    refine T_get (k := 3) rfl rfl rfl h5'' f10 ?_
    refine T_s (k := 3) rfl rfl rfl ?_
    refine T_s (k := 3) rfl rfl rfl ?_
    refine T_put (k := 3) rfl rfl rfl h5'' (List.getElem?_eq_some_iff.mp f10).1 rfl rfl ?_
    exact T_r (k := 3) rfl rfl rfl hQ
  intro a
  induction a with
  | zero =>
    intro hp ks ss h5 f5 f6 f10 h26 h27 lk ls ha hQ
    refine T_s (k := 3) rfl rfl rfl ?_
    refine T_b (k := 3) (b := true) rfl rfl rfl (fun _ => ?_) (fun q => by cases q)
    exact fin 0 hp ks ss h5 f5 f6 f10 h26 h27 lk ls ha hQ
  | succ a ih =>
    intro hp ks ss h5 f5 f6 f10 h26 h27 lk ls ha hQ
    have hpos : cmpB .le (nI (a + 1)) 0 = false := by
      simp only [cmpB, decide_eq_false_iff_not, Int32.le_iff_toInt_le, Int32.toInt_zero]
      rw [nI_toInt (by omega)]
      omega
    have e1 := nI_dec a (by omega)
    refine T_s (k := 3) rfl rfl rfl ?_
    refine T_b (k := 3) (b := false) rfl rfl (by simp only [bA]; rw [hpos]; rfl) (fun q => by cases q) (fun _ => ?_)
    refine T_s (k := 3) rfl rfl rfl ?_
    refine T_get (k := 3) rfl rfl rfl h5 f5 ?_
    refine T_s (k := 3) rfl rfl rfl ?_
    refine T_s (k := 3) rfl rfl rfl ?_
    refine T_s (k := 3) rfl rfl (by simp only [sA]; rfl) ?_
    have e2 : nI (a + 1) - Int32.ofInt 1 = nI a := e1
    rw [e2]
    refine T_ald (k := 3) rfl rfl h26 (by rw [lk]; exact inB_nat (by omega) (by omega)) ?_
    rw [nI_clamp (by omega)]
    refine T_s (k := 3) rfl rfl rfl ?_
    refine T_b (k := 3) (b := cmpB .le (ks.getD a 0) key) rfl rfl rfl (fun q => ?_) (fun q => ?_)
    · have hn : ¬ key < ks.getD a 0 := by
        simp only [cmpB, decide_eq_true_eq, Int32.le_iff_toInt_le] at q
        rw [Int32.lt_iff_toInt_lt]
        omega
      refine fin (a + 1) hp ks ss h5 f5 f6 f10 h26 h27 lk ls ha ?_
      unfold entR at hQ
      rw [if_neg hn] at hQ
      exact hQ
    · have hn : key < ks.getD a 0 := by
        simp only [cmpB, decide_eq_false_iff_not, Int32.le_iff_toInt_le] at q
        rw [Int32.lt_iff_toInt_lt]
        omega
      refine T_s (k := 3) rfl rfl rfl ?_
      refine T_get (k := 3) rfl rfl rfl h5 f5 ?_
      refine T_s (k := 3) rfl rfl rfl ?_
      refine T_s (k := 3) rfl rfl rfl ?_
      refine T_get (k := 3) rfl rfl rfl h5 f5 ?_
      refine T_s (k := 3) rfl rfl rfl ?_
      refine T_s (k := 3) rfl rfl rfl ?_
      refine T_s (k := 3) rfl rfl (by simp only [sA]; rfl) ?_
      rw [e2]
      refine T_ald (k := 3) rfl rfl h26 (by rw [lk]; exact inB_nat (by omega) (by omega)) ?_
      rw [nI_clamp (by omega)]
      refine T_ast (k := 3) rfl rfl h26 (by rw [lk]; exact inB_nat ha (by omega)) ?_
      rw [nI_clamp (by omega)]
      have h5' : (hp.set 26 (.inl (.int, ks.set (a + 1) (ks.getD a 0))))[5]? = some (.inr (.inr (0, fs))) := by rw [List.getElem?_set_ne (by decide)]; exact h5
      have h27' : (hp.set 26 (.inl (.int, ks.set (a + 1) (ks.getD a 0))))[27]? = some (.inl (.int, ss)) := by rw [List.getElem?_set_ne (by decide)]; exact h27
      refine T_s (k := 3) rfl rfl rfl ?_
      refine T_get (k := 3) rfl rfl rfl h5' f6 ?_
      refine T_s (k := 3) rfl rfl rfl ?_
      refine T_s (k := 3) rfl rfl rfl ?_
      refine T_get (k := 3) rfl rfl rfl h5' f6 ?_
      refine T_s (k := 3) rfl rfl rfl ?_
      refine T_s (k := 3) rfl rfl rfl ?_
      refine T_s (k := 3) rfl rfl (by simp only [sA]; rfl) ?_
      rw [e2]
      refine T_ald (k := 3) rfl rfl h27' (by rw [ls]; exact inB_nat (by omega) (by omega)) ?_
      rw [nI_clamp (by omega)]
      refine T_ast (k := 3) rfl rfl h27' (by rw [ls]; exact inB_nat ha (by omega)) ?_
      rw [nI_clamp (by omega)]
      refine T_s (k := 3) (lv' := lvE dy kd sub key a) rfl rfl (by
        show some (74 + 3, _, _) = _
        have : st1 (lvE dy kd sub key (a + 1)) 5 (.int (nI (a + 1) + Int32.ofInt (-1))) = lvE dy kd sub key a := by
          have e3 : nI (a + 1) + Int32.ofInt (-1) = nI a := nI_dec2 a (by omega)
          rw [e3]; rfl
        rw [← this]) ?_
      refine T_s (k := 3) rfl rfl rfl ?_
      refine ih _ (ks.set (a + 1) (ks.getD a 0)) (ss.set (a + 1) (ss.getD a 0)) ?_ f5 f6 f10 ?_ ?_ (by rw [List.length_set]; exact lk) (by rw [List.length_set]; exact ls) (by omega) ?_
      · rw [List.getElem?_set_ne (by decide)]; exact h5'
      · rw [List.getElem?_set_ne (by decide), List.getElem?_set_self (List.getElem?_eq_some_iff.mp h26).1]
      · rw [List.getElem?_set_self (by rw [List.length_set]; exact (List.getElem?_eq_some_iff.mp h27).1)]
      · rw [set2_26]
        unfold entR at hQ
        rw [if_pos hn] at hQ
        exact hQ
end
section
/-! ===== enter keeps the bounds and the pairs ===== -/
theorem getD_set_self {xs : List Int32} {k : Nat} {v : Int32} (h : k < xs.length) : (xs.set k v).getD k 0 = v := by
  rw [List.getD_eq_getElem?_getD, List.getElem?_set_self h]; rfl
theorem getD_set_ne {xs : List Int32} {j k : Nat} {v : Int32} (h : j ≠ k) : (xs.set k v).getD j 0 = xs.getD j 0 := by
  rw [List.getD_eq_getElem?_getD, List.getD_eq_getElem?_getD, List.getElem?_set_ne (Ne.symm h)]
theorem entR_b1 {lo hi : Int} {key sub : Int32} (hk : lo ≤ key.toInt ∧ key.toInt ≤ hi) : ∀ (a : Nat) (ks ss : List Int32), (∀ y ∈ ks, lo ≤ y.toInt ∧ y.toInt ≤ hi) → a < ks.length → ∀ y ∈ (entR a ks ss key sub).1, lo ≤ y.toInt ∧ y.toInt ≤ hi
  | 0, ks, ss, h, _ => set_bounds h hk
  | a + 1, ks, ss, h, ha => by
    unfold entR
    split
    · exact entR_b1 hk a _ _ (set_bounds h (h _ (getD_mem (by omega)))) (by rw [List.length_set]; omega)
    · exact set_bounds h hk
theorem entR_b2 {lo hi : Int} {key sub : Int32} (hk : lo ≤ sub.toInt ∧ sub.toInt ≤ hi) : ∀ (a : Nat) (ks ss : List Int32), (∀ y ∈ ss, lo ≤ y.toInt ∧ y.toInt ≤ hi) → a < ss.length → ∀ y ∈ (entR a ks ss key sub).2, lo ≤ y.toInt ∧ y.toInt ≤ hi
  | 0, ks, ss, h, _ => set_bounds h hk
  | a + 1, ks, ss, h, ha => by
    unfold entR
    split
    · exact entR_b2 hk a _ _ (set_bounds h (h _ (getD_mem (by omega)))) (by rw [List.length_set]; omega)
    · exact set_bounds h hk
theorem entR_pr {key sub : Int32} (hp : prP key sub) : ∀ (a : Nat) (ks ss : List Int32), ks.length = 49 → ss.length = 49 → a < 49 → (∀ k, k < 49 → k ≠ a → prP (ks.getD k 0) (ss.getD k 0)) → ∀ k, k < 49 → prP ((entR a ks ss key sub).1.getD k 0) ((entR a ks ss key sub).2.getD k 0)
  | 0, ks, ss, lk, ls, _, h, k, hk => by
    unfold entR
    by_cases h0 : k = 0
    · subst h0
      rw [getD_set_self (by omega), getD_set_self (by omega)]
      exact hp
    · rw [getD_set_ne h0, getD_set_ne h0]
      exact h k hk h0
  | a + 1, ks, ss, lk, ls, ha, h, k, hk => by
    unfold entR
    split
    · refine entR_pr hp a _ _ (by rw [List.length_set]; exact lk) (by rw [List.length_set]; exact ls) (by omega) (fun j hj hja => ?_) k hk
      by_cases h1 : j = a + 1
      · subst h1
        rw [getD_set_self (by omega), getD_set_self (by omega)]
        exact h a (by omega) (by omega)
      · rw [getD_set_ne h1, getD_set_ne h1]
        exact h j hj h1
    · by_cases h1 : k = a + 1
      · subst h1
        rw [getD_set_self (by omega), getD_set_self (by omega)]
        exact hp
      · rw [getD_set_ne h1, getD_set_ne h1]
        exact h k hk h1
/-- the object of cell 5, its slot sl now under a name -/
def fa5 (ha : AHa) (sl j : Nat) : ACa := match (ha[(5 : Nat)]? : Option ACa) with
  | some (.inr (.inr (.inr (ci, fa)))) => .inr (.inr (.inr (ci, fa.set sl (.inl (some j, 0)))))
  | _ => .inl (.int, 0, 0, 0)
def isSm (c : Option ACa) (n : Nat) (lo hi : Int) : Bool := match c with
  | some (.inl (ty, n', lo', hi')) => decide (ty = .int) && (decide (n' = n) && (decide (lo' = lo) && decide (hi' = hi)))
  | _ => false
theorem isSm_ok {c : Option ACa} {n : Nat} {lo hi : Int} (h : isSm c n lo hi = true) : c = some (.inl (.int, n, lo, hi)) := by
  unfold isSm at h
  split at h
  · simp only [Bool.and_eq_true, decide_eq_true_eq] at h
    obtain ⟨rfl, rfl, rfl, rfl⟩ := h
    rfl
  · cases h
def cEnter (B0 : BD) (ha : AHa) (kd hi : Int) : CTR := (3, 0, B0 ++ [(0, 23), (0, hi)], [.inr (.inl 5), .inl (some B0.length, 0), .inl (none, kd), .inl (some (B0.length + 1), 0)], ha, [(B0 ++ [(0, 23), (0, hi)] ++ [(0, 49)], none, ha.set 5 (fa5 ha 10 (B0.length + 2)))])
def entOk (B : BD) (ha : AHa) (kd hi : Int) : Bool := decide (ha.length = 58) && ((match (ha[(5 : Nat)]? : Option ACa) with
  | some (.inr (.inr (.inr (ci, fa)))) => decide (ci = 0) && (decide ((fa[(5 : Nat)]? : Option AVa) = some (.inr (.inl 26))) && (decide ((fa[(6 : Nat)]? : Option AVa) = some (.inr (.inl 27))) && (match (fa[(10 : Nat)]? : Option AVa) with
    | some (.inl n) => decide (0 ≤ (bnd B n).1) && decide ((bnd B n).2 ≤ 49)
    | _ => false)))
  | _ => false) && (isSm (ha[(26 : Nat)]? : Option ACa) 49 0 119 && (isSm (ha[(27 : Nat)]? : Option ACa) 49 0 10 && (decide (0 ≤ kd ∧ kd ≤ 4 ∧ hi ≤ 10) && (decide (kd = 0 ∨ kd = 2) || decide (hi ≤ 8))))))
theorem rF_val {B : BD} {ρ : Nat → Int} {fa : List AVa} {fs : List Value} (h : rF B ρ fa fs) {i : Nat} {a : AVa} (hi : fa[i]? = some a) (hn : isAny a = false) : ∃ v, fs[i]? = some v ∧ rV B ρ a v := by
  obtain ⟨v, h1, h2⟩ := h.2 i a hi
  exact ⟨v, h1, h2.resolve_left (by rw [hn]; exact Bool.false_ne_true)⟩
theorem ent_post {B : BD} {ρ : Nat → Int} {ha : AHa} {hp hp' : AH} {fa : List AVa} {fs : List Value} {ks ss : List Int32} {x : Int32} (hB : okB B ρ) (hH : rH B ρ ha hp) (h58 : ha.length = 58) (a5 : ha[5]? = some (.inr (.inr (.inr (0, fa))))) (hF : rF B ρ fa fs) (l10 : 10 < fa.length) (a26 : ha[26]? = some (.inl (.int, 49, 0, 119))) (a27 : ha[27]? = some (.inl (.int, 49, 0, 10)))
    (hx : 0 ≤ x.toInt ∧ x.toInt ≤ 49) (hl : hp'.length = hp.length) (h5 : hp'[5]? = some (.inr (.inr (0, fs.set 10 (.int x))))) (h26 : hp'[26]? = some (.inl (.int, ks))) (h27 : hp'[27]? = some (.inl (.int, ss))) (ho : ∀ k, k ≠ 5 → k ≠ 26 → k ≠ 27 → hp'[k]? = hp[k]?) (lk : ks.length = 49) (ls : ss.length = 49) (bk : ∀ y ∈ ks, 0 ≤ y.toInt ∧ y.toInt ≤ 119) (bs : ∀ y ∈ ss, 0 ≤ y.toInt ∧ y.toInt ≤ 10) (hpr : ∀ k, k < 49 → prP (ks.getD k 0) (ss.getD k 0)) :
    ∃ ρ', okB (B ++ [(0, 49)]) ρ' ∧ ext B ρ (B ++ [(0, 49)]) ρ' ∧ rH (B ++ [(0, 49)]) ρ' (ha.set 5 (fa5 ha 10 B.length)) hp' := by
  have e := new_ext (B := B) (ρ := ρ) (0, 49) x.toInt
  refine ⟨ups ρ B.length x.toInt, new_ok hB hx.1 hx.2, e, ?_⟩
  have hH' := rH_ext e hH
  have hF' := rF_ext e hF
  have e5 : fa5 ha 10 B.length = .inr (.inr (.inr (0, fa.set 10 (.inl (some B.length, 0))))) := by unfold fa5; rw [a5]
  rw [e5]
  refine ⟨by rw [List.length_set, hl]; exact hH.1, fun k a hk => ?_, fun _ ks' ss' q1 q2 k hk => ?_⟩
  · by_cases k5 : k = 5
    · subst k5
      rw [List.getElem?_set_self (by omega)] at hk
      cases hk
      refine ⟨_, h5, rfl, by rw [List.length_set, List.length_set]; exact hF.1, fun i b hi => ?_⟩
      by_cases i10 : i = 10
      · subst i10
        rw [List.getElem?_set_self l10] at hi
        cases hi
        refine ⟨_, List.getElem?_set_self (by rw [← hF.1]; exact l10), Or.inr ?_⟩
        have := new_rN (B := B) (ρ := ρ) (b := (0, 49)) (x := x)
        exact this
      · rw [List.getElem?_set_ne (Ne.symm i10)] at hi
        obtain ⟨v, g1, g2⟩ := hF'.2 i b hi
        exact ⟨v, by rw [List.getElem?_set_ne (Ne.symm i10)]; exact g1, g2⟩
    · rw [List.getElem?_set_ne (Ne.symm k5)] at hk
      by_cases k26 : k = 26
      · subst k26
        rw [a26] at hk
        cases hk
        exact ⟨_, h26, rfl, lk, bk⟩
      · by_cases k27 : k = 27
        · subst k27
          rw [a27] at hk
          cases hk
          exact ⟨_, h27, rfl, ls, bs⟩
        · obtain ⟨y, g1, g2⟩ := hH'.2.1 k a hk
          exact ⟨y, by rw [ho k k5 k26 k27]; exact g1, g2⟩
  · rw [h26] at q1
    rw [h27] at q2
    cases q1
    cases q2
    exact hpr k (by omega)
theorem key_ok {dy kd : Int32} (h1 : 0 ≤ dy.toInt ∧ dy.toInt ≤ 23) (h2 : 0 ≤ kd.toInt ∧ kd.toInt ≤ 4) : (Int32.ofInt 5 * dy + kd).toInt = 5 * dy.toInt + kd.toInt := by
  have h5 : (Int32.ofInt 5).toInt = 5 := by decide
  have e1 : (Int32.ofInt 5 * dy).toInt = 5 * dy.toInt := by
    rw [toInt_mul_in (by rw [h5]; omega) (by rw [h5]; omega), h5]
  rw [toInt_add_in (by rw [e1]; omega) (by rw [e1]; omega), e1]
set_option maxRecDepth 100000 in
set_option maxHeartbeats 4000000 in
theorem enter_ok (B0 : BD) (ha : AHa) (kd hi : Int) (h : entOk (B0 ++ [(0, 23), (0, hi)]) ha kd hi = true) : ctrOk (cEnter B0 ha kd hi) := by
  intro NM hN ρ av hp hB hS hH
  have hB : okB (B0 ++ [(0, 23), (0, hi)]) ρ := hB
  have hH : rH (B0 ++ [(0, 23), (0, hi)]) ρ ha hp := hH
  have hNM : NM = mX0_enter := (Option.some.inj (hN.symm.trans (show mtL[3]? = some mX0_enter from rfl)))
  subst hNM
  unfold entOk at h
  simp only [Bool.and_eq_true, decide_eq_true_eq, Bool.or_eq_true] at h
  obtain ⟨h58, h5, a26, a27, hk1, hk2⟩ := h
  have a26 := isSm_ok a26
  have a27 := isSm_ok a27
  split at h5
  rotate_left
  · cases h5
  rename_i ci fa a5
  simp only [Bool.and_eq_true, decide_eq_true_eq] at h5
  obtain ⟨rfl, f5, f6, h10⟩ := h5
  split at h10
  rotate_left
  · cases h10
  rename_i n10 f10
  rw [Bool.and_eq_true, decide_eq_true_eq, decide_eq_true_eq] at h10
  -- the cells
  obtain ⟨x5, p5, c5⟩ := rH_at hH a5
  obtain ⟨fs, rfl, hF⟩ := rC_obj c5
  obtain ⟨x26, p26, c26⟩ := rH_at hH a26
  obtain ⟨ks, rfl, lk, bk⟩ := rC_sum c26
  obtain ⟨x27, p27, c27⟩ := rH_at hH a27
  obtain ⟨ss, rfl, ls, bs⟩ := rC_sum c27
  obtain ⟨w5, g5, r5⟩ := rF_val hF f5 rfl
  cases rV_ref r5
  obtain ⟨w6, g6, r6⟩ := rF_val hF f6 rfl
  cases rV_ref r6
  obtain ⟨w10, g10, r10⟩ := rF_val hF f10 rfl
  obtain ⟨acts, rfl, n10r⟩ := rV_int r10
  have b10 := bnd_ok hB n10r
  have hlp : hp.length = 58 := by rw [← hH.1]; exact h58
  -- the arguments
  obtain ⟨v0, t0, rfl, q0, hS1⟩ := rS_cons hS
  obtain ⟨v1, t1, rfl, q1, hS2⟩ := rS_cons hS1
  obtain ⟨v2, t2, rfl, q2, hS3⟩ := rS_cons hS2
  obtain ⟨v3, t3, rfl, q3, hS4⟩ := rS_cons hS3
  cases rS_nil hS4
  cases rV_ref q0
  obtain ⟨dy, rfl, y1⟩ := rV_int q1
  obtain ⟨kv, rfl, y2⟩ := rV_int q2
  obtain ⟨sv, rfl, y3⟩ := rV_int q3
  have z1 : dy.toInt = ρ B0.length := by have := y1.2; unfold den at this; simp only [Int.add_zero] at this; exact this
  have z2 : kv.toInt = kd := y2.2
  have z3 : sv.toInt = ρ (B0.length + 1) := by have := y3.2; unfold den at this; simp only [Int.add_zero] at this; exact this
  have u1 := hB B0.length (0, 23) (by rw [List.getElem?_append_right (Nat.le_refl _), Nat.sub_self]; rfl)
  have u3 := hB (B0.length + 1) (0, hi) (by rw [List.getElem?_append_right (by omega), show B0.length + 1 - B0.length = 1 by omega]; rfl)
  simp only at u1 u3
  have lB : (B0 ++ [(0, 23), (0, hi)]).length = B0.length + 2 := by rw [List.length_append]; rfl
  have l10 : 10 < fa.length := (List.getElem?_eq_some_iff.mp f10).1
  have hpr0 : ∀ k, k < 49 → prP (ks.getD k 0) (ss.getD k 0) := fun k hk => hH.2.2 hlp ks ss p26 p27 k (by omega)
  have P : ∀ (hp' : AH) (ks' ss' : List Int32) (x : Int32), (0 ≤ x.toInt ∧ x.toInt ≤ 49) → hp'.length = hp.length → hp'[5]? = some (.inr (.inr (0, fs.set 10 (.int x)))) → hp'[26]? = some (.inl (.int, ks')) → hp'[27]? = some (.inl (.int, ss')) → (∀ k, k ≠ 5 → k ≠ 26 → k ≠ 27 → hp'[k]? = hp[k]?) → ks'.length = 49 → ss'.length = 49 → (∀ y ∈ ks', 0 ≤ y.toInt ∧ y.toInt ≤ 119) → (∀ y ∈ ss', 0 ≤ y.toInt ∧ y.toInt ≤ 10) → (∀ k, k < 49 → prP (ks'.getD k 0) (ss'.getD k 0)) →
      ∃ o ∈ (cEnter B0 ha kd hi).2.2.2.2.2, ∃ ρ', okB o.1 ρ' ∧ ext (cEnter B0 ha kd hi).2.2.1 ρ o.1 ρ' ∧ rO o.1 ρ' o.2.1 none ∧ rH o.1 ρ' o.2.2 hp' := by
    intro hp' ks' ss' x hx i1 i2 i3 i4 i5 i6 i7 i8 i9 i10
    obtain ⟨ρ', j1, j2, j3⟩ := ent_post hB hH h58 a5 hF l10 a26 a27 hx i1 i2 i3 i4 i5 i6 i7 i8 i9 i10
    rw [lB] at j3
    exact ⟨_, List.mem_cons_self, ρ', j1, j2, trivial, j3⟩
  refine Ct_of_J (mt_ok (k := 3) rfl).1 (fun ad => by rw [lg_len, cat_sum hS]; show 4 ≤ 6; omega) ?_
  refine T_s (k := 3) rfl rfl rfl ?_
  refine T_get (k := 3) rfl rfl rfl p5 g10 ?_
  refine T_s (k := 3) rfl rfl rfl ?_
  refine T_b (k := 3) (b := cmpB .lt acts 49) rfl rfl rfl (fun q => ?_) (fun q => ?_)
  · have ha49 : acts.toInt < 49 := by
      simp only [cmpB, decide_eq_true_eq, Int32.lt_iff_toInt_lt] at q
      exact q
    obtain ⟨a, -, rfl, ea⟩ := nI_toInt' (x := acts) (by omega)
    have hk4 : 0 ≤ kv.toInt ∧ kv.toInt ≤ 4 := by omega
    have ek := key_ok (dy := dy) (kd := kv) (by omega) hk4
    refine T_s (k := 3) rfl rfl rfl ?_
    refine T_s (k := 3) rfl rfl rfl ?_
    refine T_s (k := 3) rfl rfl (by simp only [sA]; rfl) ?_
    refine T_s (k := 3) rfl rfl rfl ?_
    refine T_s (k := 3) rfl rfl (by simp only [sA]; rfl) ?_
    refine T_s (k := 3) rfl rfl rfl ?_
    refine T_s (k := 3) rfl rfl rfl ?_
    refine T_get (k := 3) rfl rfl rfl p5 g10 ?_
    refine T_s (k := 3) rfl rfl rfl ?_
    have hpr : prP (Int32.ofInt 5 * dy + kv) sv := by
      intro hm
      rw [ek] at hm
      rcases hk2 with q9 | q9
      · omega
      · omega
    have hlen := entR_len a ks ss (Int32.ofInt 5 * dy + kv) sv
    refine enter_loop (fs := fs) (acts := nI a) a hp ks ss p5 g5 g6 g10 p26 p27 lk ls (by omega) ?_
    refine P _ (entR a ks ss (Int32.ofInt 5 * dy + kv) sv).1 (entR a ks ss (Int32.ofInt 5 * dy + kv) sv).2 (nI a + 1) ?_ (by rw [List.length_set, List.length_set, List.length_set]) ?_ ?_ ?_ (fun k k5 k26 k27 => ?_) (by rw [hlen.1]; exact lk) (by rw [hlen.2]; exact ls) (entR_b1 (by omega) a ks ss bk (by omega)) (entR_b2 (by omega) a ks ss bs (by omega)) (entR_pr hpr a ks ss lk ls (by omega) (fun k hk _ => hpr0 k hk))
    · have h1 : (1 : Int32).toInt = 1 := by decide
      rw [toInt_add_in (by rw [ea, h1]; omega) (by rw [ea, h1]; omega), ea, h1]
      omega
    · rw [List.getElem?_set_self (by rw [List.length_set, List.length_set]; omega)]
    · rw [List.getElem?_set_ne (by decide), List.getElem?_set_ne (by decide), List.getElem?_set_self (by omega)]
    · rw [List.getElem?_set_ne (by decide), List.getElem?_set_self (by rw [List.length_set]; omega)]
    · rw [List.getElem?_set_ne (Ne.symm k5), List.getElem?_set_ne (Ne.symm k27), List.getElem?_set_ne (Ne.symm k26)]
  · refine T_r (k := 3) rfl rfl rfl ?_
    have e10 : fs.set 10 (.int acts) = fs := by
      apply List.ext_getElem?
      intro j
      by_cases hj : j = 10
      · subst hj
        rw [List.getElem?_set_self (List.getElem?_eq_some_iff.mp g10).1, g10]
      · rw [List.getElem?_set_ne (Ne.symm hj)]
    exact P hp ks ss acts (by omega) rfl (by rw [e10]; exact p5) p26 p27 (fun _ _ _ _ => rfl) lk ls bk bs hpr0
end
section
/-! ===== general heaps of the class and of the reference; printed by wip/gen/emit.py ===== -/
def itn (p n : Nat) : List AN := (List.range n).map (fun i => (some (p + i), 0))
def hst : AHa → List (Nat × ACa) → AHa
  | h, [] => h
  | h, (i, c) :: r => hst (h.set i c) r
theorem al0 : ∀ c ∈ ([] : List CTR), ctrOk c := fun _ h => absurd h List.not_mem_nil
theorem al {c : CTR} {L : List CTR} (hc : ctrOk c) (h : ∀ x ∈ L, ctrOk x) : ∀ x ∈ c :: L, ctrOk x := fun x hx => by
  rcases List.mem_cons.mp hx with rfl | q
  · exact hc
  · exact h x q
theorem fmn {α : Type} {P : α → Prop} : ∀ x ∈ ([] : List α), P x := fun _ h => absurd h List.not_mem_nil
theorem fmc {α : Type} {P : α → Prop} {a : α} {l : List α} (h : P a) (t : ∀ x ∈ l, P x) : ∀ x ∈ a :: l, P x := fun x hx => by
  rcases List.mem_cons.mp hx with rfl | q
  · exact h
  · exact t x q
def bX : BD := [(0, 23), (0, 49), (0, 8), (0, 11), (0, 9), (0, 6), (0, 6), (0, 8), (0, 9), (0, 49), (0, 49), ((-2147483648), 2147483647), ((-2147483648), 2147483647), (0, 5)]
def bT : BD := [(0, 23), (0, 49), (0, 8), (0, 10), (0, 8), (0, 6), (0, 6), (0, 8), (0, 9), (0, 49), (0, 49), ((-2147483648), 2147483647), ((-2147483648), 2147483647), (0, 5)]
def bY : BD := [(0, 23), (0, 49), (0, 8), (0, 10), (0, 8), (0, 6), (0, 6), (0, 8), (0, 11), (0, 9), ((-2147483648), 2147483647), ((-2147483648), 2147483647), (0, 5)]
def gX (ch : Nat) : AHa := [
  .inr (.inr (.inr (6, [.inr (.inl 1), .inr (.inl 3), .inr (.inl 5), .inr (.inl 6), .inr (.inl 9), .inr (.inl 14), .inr (.inl 18), .inr (.inl 22), .inr (.inl 31), .inr (.inl 35), .inr (.inl 39), .inr (.inl 47), .inl (some 13, 0)]))),
  .inr (.inr (.inr (3, [.inr (.inl 2), .inl (none, 23), .inl (none, 0), .inl (some 0, 0)]))),
  .inl (.int, 49, 0, 255),
  .inr (.inr (.inr (3, [.inr (.inl 4), .inl (none, 49), .inl (none, 1), .inl (some 1, 0)]))),
  .inl (.int, 49, 0, 255),
  .inr (.inr (.inr (0, [.inr (.inl 6), .inr (.inl 9), .inr (.inl 14), .inr (.inl 18), .inr (.inl 22), .inr (.inl 26), .inr (.inl 27), .inr (.inl 28), .inr (.inl 29), .inr (.inl 30), .inl (some 9, 0), .inl (some 10, 0), .inl (some 11, 0), .inl (some 12, 0), .inr (.inl ch)]))),
  .inr (.inr (.inr (1, [.inr (.inl 7), .inr (.inl 8), .inl (some 2, 0)]))),
  .inl (.int, 8, 0, 2),
  .inl (.int, 8, 0, 9),
  .inr (.inr (.inr (5, [.inr (.inl 10), .inr (.inl 11), .inr (.inl 12), .inr (.inl 13), .inl (some 3, 0)]))),
  .inl (.int, 11, 0, 7),
  .inl (.int, 11, 0, 9),
  .inl (.int, 11, 0, 23),
  .inl (.int, 11, (-1), 23),
  .inr (.inr (.inr (4, [.inr (.inl 15), .inr (.inl 16), .inr (.inl 17), .inl (none, 8), .inl (some 4, 0)]))),
  .inl (.int, 9, 0, 23),
  .inl (.int, 9, 0, 9),
  .inl (.int, 9, 0, 0),
  .inr (.inr (.inr (4, [.inr (.inl 19), .inr (.inl 20), .inr (.inl 21), .inl (none, 6), .inl (some 5, 0)]))),
  .inl (.int, 9, 0, 23),
  .inl (.int, 9, 0, 7),
  .inl (.int, 9, 0, 9),
  .inr (.inr (.inr (4, [.inr (.inl 23), .inr (.inl 24), .inr (.inl 25), .inl (none, 6), .inl (some 6, 0)]))),
  .inl (.int, 9, 0, 23),
  .inl (.int, 9, 0, 7),
  .inl (.int, 9, 0, 9),
  .inl (.int, 49, 0, 119),
  .inl (.int, 49, 0, 10),
  .inl (.int, 8, 0, 99),
  .inl (.int, 8, (-2147483648), 2147483647),
  .inl (.int, 11, 0, 3),
  .inr (.inr (.inr (4, [.inr (.inl 32), .inr (.inl 33), .inr (.inl 34), .inl (none, 8), .inl (some 7, 0)]))),
  .inl (.int, 9, 0, 23),
  .inl (.int, 9, 0, 7),
  .inl (.int, 9, 0, 99),
  .inr (.inr (.inr (4, [.inr (.inl 36), .inr (.inl 37), .inr (.inl 38), .inl (none, 8), .inl (some 8, 0)]))),
  .inl (.int, 9, 0, 23),
  .inl (.int, 9, 0, 9),
  .inl (.int, 9, 0, 0),
  .inr (.inr (.inr (2, [.inr (.inl 40), .inr (.inl 45), .inr (.inl 46)]))),
  .inr (.inr (.inl [41, 42, 43, 44])),
  .inl (.int, 60, (-2147483648), 2147483647),
  .inl (.int, 60, (-2147483648), 2147483647),
  .inl (.int, 60, (-2147483648), 2147483647),
  .inl (.int, 60, (-2147483648), 2147483647),
  .inl (.int, 4, 0, 60),
  .inl (.int, 4, (-1), 2),
  .inr (.inr (.inl [48, 49, 50, 51, 52, 53, 54, 55, 56, 57])),
  .inl (.int, 24, 0, 99),
  .inl (.int, 24, 0, 99),
  .inl (.int, 24, 0, 99),
  .inl (.int, 24, 0, 99),
  .inl (.int, 24, 0, 99),
  .inl (.int, 24, 0, 99),
  .inl (.int, 24, 0, 99),
  .inl (.int, 24, 0, 99),
  .inl (.int, 24, 0, 99),
  .inl (.int, 24, 0, 99)]
def gY : AHa := [
  .inr (.inr (.inr (7, [.inr (.inl 1), .inr (.inl 2), .inl (some 2, 0), .inr (.inl 3), .inr (.inl 4), .inl (some 3, 0), .inr (.inl 5), .inr (.inl 6), .inr (.inl 7), .inr (.inl 8), .inl (some 4, 0), .inr (.inl 9), .inr (.inl 10), .inl (some 5, 0), .inr (.inl 11), .inr (.inl 12), .inr (.inl 13), .inl (some 6, 0), .inr (.inl 14), .inr (.inl 15), .inr (.inl 16), .inl (some 8, 0), .inl (some 9, 0), .inr (.inl 17), .inr (.inl 18), .inl (some 10, 0), .inl (some 11, 0), .inr (.inl 19), .inr (.inl 20), .inr (.inl 21), .inr (.inl 22), .inr (.inl 23), .inr (.inl 24), .inr (.inl 25), .inl (some 7, 0), .inr (.inl 26), .inr (.inl 27), .inr (.inl 28), .inr (.inl 29), .inr (.inl 30), .inr (.inl 31), .inr (.inl 32), .inr (.inl 33), .inr (.inl 34), .inl (some 12, 0)]))),
  .inr (.inl (.int, [(some 0, 0), (some 1, 0)])),
  .inl (.int, 98, 0, 255),
  .inl (.int, 9, 0, 2),
  .inl (.int, 9, 0, 9),
  .inl (.int, 12, 0, 7),
  .inl (.int, 12, 0, 9),
  .inl (.int, 12, 0, 23),
  .inl (.int, 12, (-1), 23),
  .inl (.int, 9, 0, 23),
  .inl (.int, 9, 0, 9),
  .inl (.int, 6, 0, 23),
  .inl (.int, 6, 0, 7),
  .inl (.int, 6, 0, 9),
  .inl (.int, 6, 0, 23),
  .inl (.int, 6, 0, 7),
  .inl (.int, 6, 0, 9),
  .inl (.int, 9, 0, 23),
  .inl (.int, 9, 0, 9),
  .inl (.int, 8, 0, 99),
  .inl (.int, 8, (-2147483648), 2147483647),
  .inl (.int, 12, 0, 3),
  .inl (.int, 192, 0, 99),
  .inl (.int, 192, (-2147483648), 2147483647),
  .inl (.int, 288, 0, 3),
  .inl (.int, 2, 0, 5),
  .inl (.int, 8, 0, 23),
  .inl (.int, 8, 0, 7),
  .inl (.int, 8, 0, 99),
  .inl (.int, 240, 0, 99),
  .inl (.boolean, 4, 0, 1),
  .inl (.int, 4, 0, 2),
  .inl (.int, 4, 0, 60),
  .inl (.int, 240, (-2147483648), 2147483647),
  .inl (.int, 60, (-2147483648), 2147483647)]
end
section
/-! ===== advance, by hand: the act's kind and its subject ===== -/
def tA (ch : Nat) : AHa := (gX ch).set 5 (fa5 (gX ch) 11 15)
def cAdv (ch : Nat) : CTR := (5, 3, bX ++ [(0, 23)], [.inr (.inl 5), .inl (some 14, 0)], gX ch, [(bX ++ [(0, 23), (0, 49)], none, tA ch)])
def aT0 (ch : Nat) : HD := (0, bX ++ [(0, 23), (0, 49)], [some (.inr (.inl 5)), some (.inl (some 14, 0)), none], tA ch, [(true, (some 15, 0))])
def aT28 (ch : Nat) : HD := (28, bX ++ [(0, 23), (0, 48)], [some (.inr (.inl 5)), some (.inl (some 14, 0)), none], tA ch, [(true, (some 15, 0))])
def aTt (ch t : Nat) (hi : Int) : HD := (t, bX ++ [(0, 23), (0, 48), (0, hi)], [some (.inr (.inl 5)), some (.inl (some 14, 0)), some (.inl (some 16, 0))], tA ch, [(true, (some 15, 0))])
def a0B (ch : Nat) : Bool := ai noORA 40 true (hcut0 [aT28 ch] 16) 3 5 0 (aT0 ch).2.1 (aT0 ch).2.2.1 [] (aT0 ch).2.2.2.1 (kC (cAdv ch))
def atB (ch t : Nat) (hi : Int) : Bool := ai noORA 200 true (hcut [aT0 ch] 15 (aTt ch t hi)) 3 5 t (aTt ch t hi).2.1 (aTt ch t hi).2.2.1 [] (aTt ch t hi).2.2.2.1 (kC (cAdv ch))
def aeB (ch : Nat) : Bool := inT (aT0 ch).2.1 (aT0 ch).2.2.1 (aT0 ch).2.2.2.1 (sgp 15 (sgm (aT0 ch).2.2.1 (entA (cAdv ch).2.2.2.1 3) (aT0 ch).2.2.2.1 (gX ch))) (cAdv ch).2.2.1 (entA (cAdv ch).2.2.2.1 3) (gX ch)
theorem rL_3 {B : BD} {ρ : Nat → Int} {a b c : Option AVa} {lv : List (Option Value)} (h : rL B ρ [a, b, c] lv) : ∃ x y z, lv = [x, y, z] := by
  have := h.1
  match lv, this with
  | [x, y, z], _ => exact ⟨x, y, z, rfl⟩
theorem five_nI : Int32.ofInt 5 = nI 5 := by decide
set_option maxRecDepth 100000 in
set_option maxHeartbeats 4000000 in
theorem adv_head {ch : Nat} (h0 : a0B ch = true) (ht : atB ch 80 10 = true ∧ atB ch 108 8 = true ∧ atB ch 135 10 = true ∧ atB ch 143 8 = true ∧ atB ch 179 8 = true) {r : Nat → Int} : ∀ (n : Nat) (ρ : Nat → Int) (lv : List (Option Value)) (hp : AH), mu ρ [(true, (some 15, 0))] < n → okB (aT0 ch).2.1 ρ → (∀ j, j < 15 → ρ j = r j) → rL (aT0 ch).2.1 ρ (aT0 ch).2.2.1 lv → rH (aT0 ch).2.1 ρ (aT0 ch).2.2.2.1 hp → J mX0_advance 3 0 0 (qC (cAdv ch) r) 0 lv [] hp 0 0 := by
  intro n
  induction n with
  | zero =>
    intro ρ lv hp hn hB
    have := mu_lt hB (l := [(true, (some 15, 0))]) (show ([(true, (some 15, 0))] : List (Bool × AN)).all (wgtB (bX ++ [(0, 23), (0, 49)])) = true by decide)
    exact absurd hn (by omega)
  | succ n ih =>
    intro ρ lv hp hn hB hr hL hH
    -- from a target on
    have go : ∀ (t : Nat) (hi : Int), atB ch t hi = true → ∀ (ρ2 : Nat → Int) (dy sv : Int32) (hp2 : AH), ρ2 15 = ρ 15 → okB (aT28 ch).2.1 ρ2 → (∀ j, j < 15 → ρ2 j = r j) → dy.toInt = ρ2 14 → (0 ≤ sv.toInt ∧ sv.toInt ≤ hi) → rH (aT28 ch).2.1 ρ2 (tA ch) hp2 → J mX0_advance 3 0 0 (qC (cAdv ch) r) t [some (.ref 5), some (.int dy), some (.int sv)] [] hp2 0 0 := by
      intro t hi hat ρ2 dy sv hp2 e15 hB2 hr2 hdy hsv hH2
      have e := new_ext (B := (aT28 ch).2.1) (ρ := ρ2) (0, hi) sv.toInt
      have hB3 : okB (aTt ch t hi).2.1 (ups ρ2 16 sv.toInt) := new_ok hB2 hsv.1 hsv.2
      have e3 : ext (aT28 ch).2.1 ρ2 (aTt ch t hi).2.1 (ups ρ2 16 sv.toInt) := e
      have u : ∀ j, j < 16 → ups ρ2 16 sv.toInt j = ρ2 j := fun j hj => by unfold ups; rw [if_neg (by omega)]
      have hL3 : rL (aTt ch t hi).2.1 (ups ρ2 16 sv.toInt) (aTt ch t hi).2.2.1 [some (.ref 5), some (.int dy), some (.int sv)] := by
        refine ⟨rfl, fun i a hi' => ?_⟩
        match i, hi' with
        | 0, hi' => cases hi'; exact ⟨_, rfl, rfl⟩
        | 1, hi' =>
          cases hi'
          refine ⟨_, rfl, fun j hj => by cases hj; show 14 < 17; omega, ?_⟩
          show dy.toInt = ups ρ2 16 sv.toInt 14 + 0
          rw [u 14 (by omega), Int.add_zero, hdy]
        | 2, hi' =>
          cases hi'
          refine ⟨_, rfl, fun j hj => by cases hj; show 16 < 17; omega, ?_⟩
          show sv.toInt = ups ρ2 16 sv.toInt 16 + 0
          unfold ups
          rw [if_pos rfl, Int.add_zero]
        | i + 3, hi' => simp [aTt] at hi'
      refine ai_ok noORA_ok 200 true (hcut [aT0 ch] 15 (aTt ch t hi)) 3 5 t _ _ [] _ (kC (cAdv ch)) hat mX0_advance rfl _ _ [] hp2 (qC (cAdv ch) r) hB3 hL3 trivial (rH_ext e3 hH2) (kC_end (cAdv ch) (by show 15 ≤ 17; omega) (fun j hj => by have hj : j < 15 := hj; rw [u j (by omega)]; exact hr2 j hj)) ?_
      intro pc chk hc B' ρ' la' lv' ha' hp' h1 hB' he hL' hH'
      unfold hcut at hc
      split at hc
      · cases hc
        obtain ⟨q', hm, h1⟩ := List.any_eq_true.mp h1
        have hq' : q' = aT0 ch := by simpa using hm
        subst hq'
        simp only [Bool.and_eq_true, beq_iff_eq] at h1
        obtain ⟨hpc, i1, i2, i3⟩ := h1
        obtain ⟨o1, o2, o3⟩ := inT_ok hB' hL' hH' i1
        rw [← hpc]
        refine ih _ lv' hp' ?_ o1 (fun j hj => ?_) o2 o3
        · have h5 := lexB_ok hB' i3
          rw [subM_mu] at h5
          have h6 : mu ρ' (aTt ch t hi).2.2.2.2 = mu ρ [(true, (some 15, 0))] := by
            have : ρ' 15 = ρ 15 := by rw [he.2 15 (by show 15 < 17; omega), u 15 (by omega), e15]
            show wgt ρ' (true, (some 15, 0)) * (2000 : Int) ^ 0 + 0 = wgt ρ (true, (some 15, 0)) * (2000 : Int) ^ 0 + 0
            unfold wgt den
            simp only [this]
          rw [h6] at h5
          have h7 : mu (ρt (sgp 15 (sgm (aT0 ch).2.2.1 la' (aT0 ch).2.2.2.1 ha')) ρ') (aT0 ch).2.2.2.2 < mu ρ [(true, (some 15, 0))] := h5.1
          have h8 : mu (ρt (sgp 15 (sgm (aT0 ch).2.2.1 la' (aT0 ch).2.2.2.1 ha')) ρ') [(true, (some 15, 0))] < mu ρ [(true, (some 15, 0))] := h7
          omega
        · have h6 := of_decide_eq_true (List.all_eq_true.mp i2 j (List.mem_range.mpr hj))
          unfold ρt
          rw [h6]
          show ρ' j + 0 = r j
          rw [Int.add_zero, he.2 j (by show j < 17; omega), u j (by omega), hr2 j hj]
      · cases hc
    refine ai_ok noORA_ok 40 true (hcut0 [aT28 ch] 16) 3 5 0 _ _ [] _ (kC (cAdv ch)) h0 mX0_advance rfl ρ lv [] hp (qC (cAdv ch) r) hB hL trivial hH (kC_end (cAdv ch) (by show 15 ≤ 16; omega) (fun j hj => hr j hj)) ?_
    intro pc chk hc B' ρ' la' lv' ha' hp' h1 hB' he hL' hH'
    unfold hcut0 at hc
    split at hc
    · cases hc
      obtain ⟨q', hm, h1⟩ := List.any_eq_true.mp h1
      have hq' : q' = aT28 ch := by simpa using hm
      subst hq'
      simp only [Bool.and_eq_true, beq_iff_eq] at h1
      obtain ⟨hpc, i1, i2⟩ := h1
      obtain ⟨o1, o2, o3⟩ := inT_ok hB' hL' hH' i1
      rw [← hpc]
      have hrig : ∀ j, j < 16 → ρt (sgp 16 (sgm (aT28 ch).2.2.1 la' (aT28 ch).2.2.2.1 ha')) ρ' j = ρ j := fun j hj => by
        have h6 := of_decide_eq_true (List.all_eq_true.mp i2 j (List.mem_range.mpr hj))
        unfold ρt
        rw [h6]
        show ρ' j + 0 = ρ j
        rw [Int.add_zero, he.2 j (by show j < 16; omega)]
      generalize ρt (sgp 16 (sgm (aT28 ch).2.2.1 la' (aT28 ch).2.2.2.1 ha')) ρ' = ρ2 at o1 o2 o3 hrig
      -- what stands there
      obtain ⟨x, y, z, rfl⟩ := rL_3 (show rL (aT28 ch).2.1 ρ2 [some (.inr (.inl 5)), some (.inl (some 14, 0)), none] lv' from o2)
      obtain ⟨v0, w0, q0⟩ := o2.2 0 (.inr (.inl 5)) rfl
      cases w0
      cases rV_ref q0
      obtain ⟨v1, w1, q1⟩ := o2.2 1 (.inl (some 14, 0)) rfl
      cases w1
      obtain ⟨dy, rfl, hdy⟩ := rV_int q1
      have hdy2 : dy.toInt = ρ2 14 := by have := hdy.2; unfold den at this; simp only [Int.add_zero] at this; exact this
      obtain ⟨x5, p5, c5⟩ := rH_at o3 (k := 5) rfl
      obtain ⟨fs, rfl, hF⟩ := rC_obj c5
      obtain ⟨x26, p26, c26⟩ := rH_at o3 (k := 26) rfl
      obtain ⟨ks, rfl, lk, bk⟩ := rC_sum c26
      obtain ⟨x27, p27, c27⟩ := rH_at o3 (k := 27) rfl
      obtain ⟨ss, rfl, ls, bs⟩ := rC_sum c27
      obtain ⟨w5, g5, r5⟩ := rF_val hF (i := 5) rfl rfl
      cases rV_ref r5
      obtain ⟨w6, g6, r6⟩ := rF_val hF (i := 6) rfl rfl
      cases rV_ref r6
      obtain ⟨w11, g11, r11⟩ := rF_val hF (i := 11) rfl rfl
      obtain ⟨nx, rfl, hnx⟩ := rV_int r11
      have hnx2 : nx.toInt = ρ2 15 := by have := hnx.2; unfold den at this; simp only [Int.add_zero] at this; exact this
      have b15 := o1 15 (0, 48) rfl
      simp only at b15
      obtain ⟨a, -, rfl, ea⟩ := nI_toInt' (x := nx) (by omega)
      have ha : a < 49 := by omega
      have hlp : hp'.length = 58 := by rw [← o3.1]; rfl
      have hpr := o3.2.2 hlp ks ss p26 p27 a (by omega)
      have hkb := bk _ (getD_mem (xs := ks) (k := a) (by omega))
      have hsb := bs _ (getD_mem (xs := ss) (k := a) (by omega))
      refine T_s (k := 5) rfl rfl rfl ?_
      refine T_get (k := 5) rfl rfl rfl p5 g6 ?_
      refine T_s (k := 5) rfl rfl rfl ?_
      refine T_get (k := 5) rfl rfl rfl p5 g11 ?_
      refine T_ald (k := 5) rfl rfl p27 (by rw [ls]; exact inB_nat ha (by omega)) ?_
      rw [nI_clamp (by omega)]
      refine T_s (k := 5) rfl rfl rfl ?_
      refine T_s (k := 5) rfl rfl rfl ?_
      refine T_get (k := 5) rfl rfl rfl p5 g5 ?_
      refine T_s (k := 5) rfl rfl rfl ?_
      refine T_get (k := 5) rfl rfl rfl p5 g11 ?_
      refine T_ald (k := 5) rfl rfl p26 (by rw [lk]; exact inB_nat ha (by omega)) ?_
      rw [nI_clamp (by omega)]
      generalize ks.getD a 0 = kv at hkb hpr
      generalize ss.getD a 0 = sv at hsb hpr
      obtain ⟨j, hj, rfl, ej⟩ := nI_toInt' (x := kv) (by omega)
      refine T_s (k := 5) rfl rfl rfl ?_
      refine T_h (k := 5) (st' := .int (nI (j % 5)) :: []) (hp' := hp') (pc' := 49) rfl rfl (by
        have e5 : ¬ Int32.ofInt 5 = 0 := by decide
        simp only [hA, if_neg e5]
        rw [five_nI, pk_rem hj (by omega) (by omega)]
        rfl) ?_
      have hm : j % 5 = 0 ∨ j % 5 = 1 ∨ j % 5 = 2 ∨ j % 5 = 3 ∨ j % 5 = 4 := by omega
      have hm2 : (nI j).toInt % 5 = ((j % 5 : Nat) : Int) := by rw [ej]; omega
      unfold prP at hpr
      rw [hm2] at hpr
      rcases hm with q | q | q | q | q <;> rw [q] at hpr ⊢
      · refine T_h (k := 5) (st' := []) (hp' := hp') (pc' := 80) rfl rfl rfl ?_
        exact go 80 10 ht.1 ρ2 dy sv hp' (hrig 15 (by omega)) o1 (fun i hi => (hrig i (by omega)).trans (hr i hi)) hdy2 (by omega) o3
      · refine T_h (k := 5) (st' := []) (hp' := hp') (pc' := 108) rfl rfl rfl ?_
        exact go 108 8 ht.2.1 ρ2 dy sv hp' (hrig 15 (by omega)) o1 (fun i hi => (hrig i (by omega)).trans (hr i hi)) hdy2 ⟨hsb.1, hpr (by omega)⟩ o3
      · refine T_h (k := 5) (st' := []) (hp' := hp') (pc' := 135) rfl rfl rfl ?_
        exact go 135 10 ht.2.2.1 ρ2 dy sv hp' (hrig 15 (by omega)) o1 (fun i hi => (hrig i (by omega)).trans (hr i hi)) hdy2 (by omega) o3
      · refine T_h (k := 5) (st' := []) (hp' := hp') (pc' := 143) rfl rfl rfl ?_
        exact go 143 8 ht.2.2.2.1 ρ2 dy sv hp' (hrig 15 (by omega)) o1 (fun i hi => (hrig i (by omega)).trans (hr i hi)) hdy2 ⟨hsb.1, hpr (by omega)⟩ o3
      · refine T_h (k := 5) (st' := []) (hp' := hp') (pc' := 179) rfl rfl rfl ?_
        exact go 179 8 ht.2.2.2.2 ρ2 dy sv hp' (hrig 15 (by omega)) o1 (fun i hi => (hrig i (by omega)).trans (hr i hi)) hdy2 ⟨hsb.1, hpr (by omega)⟩ o3
    · cases hc
theorem adv_ok {ch : Nat} (h0 : a0B ch = true) (ht : atB ch 80 10 = true ∧ atB ch 108 8 = true ∧ atB ch 135 10 = true ∧ atB ch 143 8 = true ∧ atB ch 179 8 = true) (hE : aeB ch = true) : ctrOk (cAdv ch) := by
  intro NM hN ρ av hp hB hS hH
  have hNM : NM = mX0_advance := (Option.some.inj (hN.symm.trans (show mtL[5]? = some mX0_advance from rfl)))
  subst hNM
  have hB : okB (bX ++ [(0, 23)]) ρ := hB
  obtain ⟨o1, o2, o3⟩ := inT_ok (Bt := (aT0 ch).2.1) (lt := (aT0 ch).2.2.1) (ht := (aT0 ch).2.2.2.1) hB (entA_ok hS 3) hH hE
  have J0 := adv_head h0 ht (r := ρ) ((mu (ρt (sgp 15 (sgm (aT0 ch).2.2.1 (entA (cAdv ch).2.2.2.1 3) (aT0 ch).2.2.2.1 (gX ch))) ρ) [(true, (some 15, 0))]).toNat + 1) _ _ hp (by
    have := mu_lt o1 (l := [(true, (some 15, 0))]) (show ([(true, (some 15, 0))] : List (Bool × AN)).all (wgtB (bX ++ [(0, 23), (0, 49)])) = true by decide)
    omega) o1 (fun j hj => by unfold ρt sgp; rw [if_pos hj]; show ρ j + 0 = ρ j; omega) o2 o3
  refine Ct_weak (Ct_of_J (mt_ok (k := 5) rfl).1 (fun ad => by rw [lg_len, cat_sum hS]; show 2 ≤ 3; omega) J0) (fun v hp' hq => ?_)
  obtain ⟨o, ho, ρ', g1, g2, g3, g4⟩ := hq
  have ho2 : o = (bX ++ [(0, 23), (0, 49)], none, tA ch) := List.mem_singleton.mp ho
  exact ⟨o, ho, ρ', g1, ⟨by rw [ho2]; show 15 ≤ 16; omega, g2⟩, g3, g4⟩
set_option maxRecDepth 1000000 in
theorem k_adv14 : ctrOk (cAdv 14) := adv_ok (by decide +kernel) ⟨by decide +kernel, by decide +kernel, by decide +kernel, by decide +kernel, by decide +kernel⟩ (by decide +kernel)
set_option maxRecDepth 1000000 in
theorem k_adv35 : ctrOk (cAdv 35) := adv_ok (by decide +kernel) ⟨by decide +kernel, by decide +kernel, by decide +kernel, by decide +kernel, by decide +kernel⟩ (by decide +kernel)
end
section
/-! ===== lowest, by hand: what is left falls ===== -/
theorem lrem_toInt (x y : Int64) (hy : ¬ y = 0) : (x - x / y * y).toInt = x.toInt.tmod y.toInt := by
  have hy0 : y.toInt ≠ 0 := fun q => hy (Int64.toInt_inj.mp (by rw [q]; rfl))
  have h1 := Int64.le_toInt y
  have h2 := Int64.toInt_lt y
  have hm : (x.toInt.tmod y.toInt).natAbs = x.toInt.natAbs % y.toInt.natAbs := Int.natAbs_tmod _ _
  have hl : x.toInt.natAbs % y.toInt.natAbs < y.toInt.natAbs := Nat.mod_lt _ (by omega)
  rw [Int64.toInt_sub, Int64.toInt_mul, Int64.toInt_div, Int.sub_bmod_bmod, ← Int.sub_bmod_bmod, Int.bmod_mul_bmod, Int.sub_bmod_bmod]
  have h3 : x.toInt - x.toInt.tdiv y.toInt * y.toInt = x.toInt.tmod y.toInt := by
    have := Int.tmod_add_tdiv_mul x.toInt y.toInt
    omega
  rw [h3]
  exact Int.bmod_eq_of_le (by omega) (by omega)
theorem lrem_less (x y : Int64) (hy : ¬ y = 0) : (x - x / y * y).toInt.natAbs < y.toInt.natAbs := by
  have hy0 : y.toInt ≠ 0 := fun q => hy (Int64.toInt_inj.mp (by rw [q]; rfl))
  rw [lrem_toInt x y hy, Int.natAbs_tmod]
  exact Nat.mod_lt _ (by omega)
theorem cmp0 (y : Int64) : cmpB .eq (lg_cmp y 0) 0 = decide (y = 0) := by
  unfold lg_cmp
  by_cases h : y = 0
  · subst h; decide
  · rw [if_neg h]
    split
    · simp [cmpB, h]
    · simp [cmpB, h]
def lvL (a z : Int64) (w : Int32) (x y : Int64) (c9 c10 : Option Value) : List (Option Value) := [some (.long a), none, some (.long z), none, some (.int w), some (.long x), none, some (.long y), none, c9, c10]
set_option maxRecDepth 100000 in
theorem low_loop {d : Nat} {Q : Option Value → AH → Prop} {a z : Int64} {w : Int32} {hp : AH} (hQ : ∀ v, Q (some (.long v)) hp) : ∀ (n : Nat) (x y : Int64) (c9 c10 : Option Value), y.toInt.natAbs < n → (y = 0 → ¬ x = 0) → J mX7_lowest d 0 0 Q 6 (lvL a z w x y c9 c10) [] hp 0 0 := by
  intro n
  induction n with
  | zero => intro x y c9 c10 h; omega
  | succ n ih =>
    intro x y c9 c10 hn hxy
    refine T_s (k := 107) rfl rfl rfl ?_
    refine T_s (k := 107) rfl rfl rfl ?_
    refine T_s (k := 107) rfl rfl rfl ?_
    refine T_b (k := 107) (b := cmpB .eq (lg_cmp y 0) 0) rfl rfl rfl (fun q => ?_) (fun q => ?_)
    · rw [cmp0, decide_eq_true_eq] at q
      have hx := hxy q
      refine T_s (k := 107) rfl rfl rfl ?_
      refine T_b (k := 107) (b := cmpB .ne w 0) rfl rfl rfl (fun _ => ?_) (fun _ => ?_)
      · refine T_s (k := 107) rfl rfl rfl ?_
        refine T_s (k := 107) rfl rfl rfl ?_
        refine T_h (k := 107) rfl rfl (by simp only [hA, if_neg hx]; rfl) ?_
        exact T_r (k := 107) rfl rfl rfl (hQ _)
      · refine T_s (k := 107) rfl rfl rfl ?_
        refine T_s (k := 107) rfl rfl rfl ?_
        refine T_h (k := 107) rfl rfl (by simp only [hA, if_neg hx]; rfl) ?_
        refine T_s (k := 107) rfl rfl rfl ?_
        exact T_r (k := 107) rfl rfl rfl (hQ _)
    · rw [cmp0, decide_eq_false_iff_not] at q
      refine T_s (k := 107) rfl rfl rfl ?_
      refine T_s (k := 107) rfl rfl rfl ?_
      refine T_h (k := 107) rfl rfl (by simp only [hA, if_neg q]; rfl) ?_
      refine T_s (k := 107) rfl rfl rfl ?_
      refine T_s (k := 107) rfl rfl rfl ?_
      refine T_s (k := 107) rfl rfl rfl ?_
      refine T_s (k := 107) rfl rfl rfl ?_
      refine T_s (k := 107) rfl rfl rfl ?_
      refine T_s (k := 107) rfl rfl rfl ?_
      have := lrem_less x y q
      exact ih y (x - x / y * y) (some (.long (x - x / y * y))) none (by omega) (fun _ => q)
def cLow (z : Int64) : CTR := (107, 0, bY ++ [((-2147483648), 2147483647)], [.inr (.inr none), .inr (.inr (some z)), .inl (some 13, 0)], gY, [(bY ++ [((-2147483648), 2147483647)], some (.inr (.inr none)), gY)])
set_option maxRecDepth 100000 in
theorem low_ok {z : Int64} (hz : ¬ z = 0) : ctrOk (cLow z) := by
  intro NM hN ρ av hp hB hS hH
  have hNM : NM = mX7_lowest := (Option.some.inj (hN.symm.trans (show mtL[107]? = some mX7_lowest from rfl)))
  subst hNM
  obtain ⟨v0, t0, rfl, q0, hS1⟩ := rS_cons hS
  obtain ⟨v1, t1, rfl, q1, hS2⟩ := rS_cons hS1
  obtain ⟨v2, t2, rfl, q2, hS3⟩ := rS_cons hS2
  cases rS_nil hS3
  obtain ⟨a, rfl, -⟩ := rV_long q0
  obtain ⟨z', rfl, hz'⟩ := rV_long q1
  obtain ⟨w, rfl, -⟩ := rV_int q2
  have e : z' = z := hz' z rfl
  subst e
  refine Ct_of_J (mt_ok (k := 107) rfl).1 (fun ad => by rw [lg_len, cat_sum hS]; show 5 ≤ 11; omega) ?_
  refine T_s (k := 107) rfl rfl rfl ?_
  refine T_s (k := 107) rfl rfl rfl ?_
  refine T_s (k := 107) rfl rfl rfl ?_
  refine T_s (k := 107) rfl rfl rfl ?_
  exact low_loop (fun v => ⟨_, List.mem_cons_self, ρ, hB, ext_rf, (fun c hc => by cases hc), hH⟩) _ a z' none none (Nat.lt_succ_self _) (fun q => absurd q hz)
end
section
/-! ===== from any place of a method on, to its heads ===== -/
theorem from_pc {O : ORA} (hO : oraOk O) {k d f p : Nat} {M : MT} (hM : mtL[k]? = some M) (H : List HD) (K : KT) (r : Nat → Int) (Q : Option Value → AH → Prop) (hlen : ∀ q ∈ H, p ≤ q.2.1.length) (hmu : ∀ q ∈ H, q.2.2.2.2.all (wgtB q.2.1) = true)
    (hai : ∀ q ∈ H, ai O f true (hcut H p q) d k q.1 q.2.1 q.2.2.1 [] q.2.2.2.1 K = true) (hQ : ∀ q ∈ H, ∀ ρ : Nat → Int, (∀ j, j < p → ρ j = r j) → aiEnd K q.2.1 ρ Q)
    {pc0 : Nat} {B0 : BD} {la : List (Option AVa)} {ha : AHa} (hp0 : p ≤ B0.length) (hent : ai O f true (hcut0 H p) d k pc0 B0 la [] ha K = true)
    {ρ : Nat → Int} {lv : List (Option Value)} {hp : AH} (hB : okB B0 ρ) (hr : ∀ j, j < p → ρ j = r j) (hL : rL B0 ρ la lv) (hH : rH B0 ρ ha hp) (hQ0 : aiEnd K B0 ρ Q) : J M d 0 0 Q pc0 lv [] hp 0 0 := by
  refine ai_ok hO f true (hcut0 H p) d k pc0 B0 la [] ha K hent M hM ρ _ [] hp Q hB hL trivial hH hQ0 ?_
  intro pc chk hc B' ρ' la' lv' ha' hp' h1 hB' he hL' hH'
  unfold hcut0 at hc
  split at hc
  · cases hc
    obtain ⟨q, hm, h1⟩ := List.any_eq_true.mp h1
    simp only [Bool.and_eq_true, beq_iff_eq] at h1
    obtain ⟨hpc, i1, i2⟩ := h1
    obtain ⟨o1, o2, o3⟩ := inT_ok hB' hL' hH' i1
    rw [← hpc]
    refine loops hO hM H K r Q hlen hmu hai hQ ((mu (ρt (sgp p (sgm q.2.2.1 la' q.2.2.2.1 ha')) ρ') q.2.2.2.2).toNat + 1) q hm _ lv' hp' ?_ o1 (fun j hj => ?_) o2 o3
    · have := mu_lt o1 (hmu q hm)
      omega
    · have h6 := of_decide_eq_true (List.all_eq_true.mp i2 j (List.mem_range.mpr hj))
      unfold ρt
      rw [h6]
      show ρ' j + 0 = r j
      rw [Int.add_zero, he.2 j (Nat.lt_of_lt_of_le hj hp0), hr j hj]
  · cases hc
/-! ===== copy of the reference, by hand: it compares as longs ===== -/
def f32 : Int × Int := ((-2147483648), 2147483647)
def n31 : Int × Int := (0, 2147483647)
/-- the object of cell 0, its slot sl now under a name -/
def fa0 (ha : AHa) (sl j : Nat) : ACa := match (ha[(0 : Nat)]? : Option ACa) with
  | some (.inr (.inr (.inr (ci, fa)))) => .inr (.inr (.inr (ci, fa.set sl (.inl (some j, 0)))))
  | _ => .inl (.int, 0, 0, 0)
def cCpy : CTR := (192, 2, bY ++ [f32, f32, f32, f32, f32], [.inr (.inl 0), .inl (some 13, 0), .inl (some 14, 0), .inl (some 15, 0), .inl (some 16, 0), .inl (some 17, 0)], gY, [(bY ++ [f32, f32, f32, f32, f32, ((-15), 1), (0, 5)], some (.inl (some 18, 0)), gY.set 0 (fa0 gY 44 19))])
def laC : List (Option AVa) := [some (.inr (.inl 0)), some (.inl (some 13, 0)), some (.inl (some 14, 0)), some (.inl (some 15, 0)), some (.inl (some 16, 0)), some (.inl (some 17, 0)), none]
def laD : List (Option AVa) := [some (.inr (.inl 0)), some (.inl (some 13, 0)), some (.inl (some 14, 0)), some (.inl (some 15, 0)), some (.inl (some 16, 0)), some (.inl (some 17, 0)), some (.inl (some 18, 0))]
def cpT : HD := (76, bY ++ [(0, 3), n31, (0, 3), n31, n31], laC, gY, [])
def cpN (c : Nat) : BD := bY ++ [(0, 3), (0, 60 - (c : Int)), (0, 3), (0, 60 - (c : Int)), ((c : Int), (c : Int))]
def cpH (c : Nat) : List HD := [(120, cpN c ++ [(0, (c : Int))], laD, gY, [(true, (none, 1)), (true, (some 18, 0))]), (157, cpN c ++ [(0, (c : Int))], laD, gY, [(true, (none, 2)), (true, (some 18, 0))])]
def cpC (c : Nat) : Bool := (cpH c).all (fun q => decide (18 ≤ q.2.1.length) && (q.2.2.2.2.all (wgtB q.2.1) && ai noORA 60 true (hcut (cpH c) 18 q) 2 192 q.1 q.2.1 q.2.2.1 [] q.2.2.2.1 (kC cCpy))) && ai noORA 60 true (hcut0 (cpH c) 18) 2 192 117 (cpN c) laC [] gY (kC cCpy)
set_option maxRecDepth 1000000 in
theorem cp_all1 : (List.range 31).all cpC = true := by decide +kernel
set_option maxRecDepth 1000000 in
theorem cp_all2 : (List.range 30).all (fun c => cpC (31 + c)) = true := by decide +kernel
theorem cp_at {c : Nat} (h : c < 61) : cpC c = true := by
  by_cases h1 : c < 31
  · exact List.all_eq_true.mp cp_all1 c (List.mem_range.mpr h1)
  · have := List.all_eq_true.mp cp_all2 (c - 31) (List.mem_range.mpr (by omega))
    rw [show 31 + (c - 31) = c by omega] at this
    exact this
set_option maxRecDepth 1000000 in
theorem cp_0 : ai noORA 200 true (hcut0 [cpT] 18) 2 192 0 cCpy.2.2.1 (entA cCpy.2.2.2.1 7) [] gY (kC cCpy) = true := by decide +kernel
set_option maxRecDepth 1000000 in
theorem cp_111 : ai noORA 40 true noCut 2 192 111 cCpy.2.2.1 laC [] gY (kC cCpy) = true := by decide +kernel
theorem cmpgt (x y : Int64) : cmpB .gt (lg_cmp x y) 0 = decide (y < x) := by
  unfold lg_cmp
  by_cases h : x > y
  · rw [if_pos h, decide_eq_true (show y < x from h)]; rfl
  · rw [if_neg h, decide_eq_false (show ¬ y < x from h)]
    split <;> rfl
theorem cmple (x y : Int64) : cmpB .le (lg_cmp x y) 0 = decide (¬ y < x) := by
  unfold lg_cmp
  by_cases h : x > y
  · rw [if_pos h, decide_eq_false (show ¬ ¬ y < x from fun q => q h)]; rfl
  · rw [if_neg h, decide_eq_true (show ¬ y < x from h)]
    split <;> rfl
theorem ladd_in {i n s : Int32} (hi : 0 ≤ i.toInt) (hn : 0 ≤ n.toInt) (h : ¬ s.toInt64 < i.toInt64 + n.toInt64) : i.toInt + n.toInt ≤ s.toInt := by
  have h1 := int32_hi i
  have h2 := int32_hi n
  have e : (i.toInt64 + n.toInt64).toInt = i.toInt + n.toInt := by
    rw [Int64.toInt_add, Int32.toInt_toInt64, Int32.toInt_toInt64]
    exact Int.bmod_eq_of_le (by omega) (by omega)
  rw [Int64.lt_iff_toInt_lt, e, Int32.toInt_toInt64] at h
  omega
set_option maxRecDepth 100000 in
set_option maxHeartbeats 4000000 in
theorem k_cpy : ctrOk cCpy := by
  intro NM hN ρ av hp hB hS hH
  have hNM : NM = mX7_copy := (Option.some.inj (hN.symm.trans (show mtL[192]? = some mX7_copy from rfl)))
  subst hNM
  have hB : okB (bY ++ [f32, f32, f32, f32, f32]) ρ := hB
  refine Ct_weak (Q := qC cCpy ρ) (Ct_of_J (mt_ok (k := 192) rfl).1 (fun ad => by rw [lg_len, cat_sum hS]; show 6 ≤ 7; omega) ?_) (fun v hp' hq => ?_)
  rotate_left
  · obtain ⟨o, ho, ρ', g1, g2, g3, g4⟩ := hq
    have ho2 := List.mem_singleton.mp ho
    exact ⟨o, ho, ρ', g1, ⟨by rw [ho2]; show 18 ≤ 20; omega, g2⟩, g3, g4⟩
  refine ai_ok noORA_ok 200 true (hcut0 [cpT] 18) 2 192 0 _ _ [] _ (kC cCpy) cp_0 mX7_copy rfl ρ _ [] hp (qC cCpy ρ) hB (entA_ok hS 7) trivial hH (kC_end cCpy (Nat.le_refl _) (fun _ _ => rfl)) ?_
  intro pc chk hc B' ρ' la' lv' ha' hp' h1 hB' he hL' hH'
  unfold hcut0 at hc
  split at hc
  rotate_left
  · cases hc
  cases hc
  obtain ⟨q', hm, h1⟩ := List.any_eq_true.mp h1
  have hq' : q' = cpT := by simpa using hm
  subst hq'
  simp only [Bool.and_eq_true, beq_iff_eq] at h1
  obtain ⟨hpc, i1, i2⟩ := h1
  obtain ⟨o1, o2, o3⟩ := inT_ok hB' hL' hH' i1
  rw [← hpc]
  have hrig : ∀ j, j < 18 → ρt (sgp 18 (sgm cpT.2.2.1 la' cpT.2.2.2.1 ha')) ρ' j = ρ j := fun j hj => by
    have h6 := of_decide_eq_true (List.all_eq_true.mp i2 j (List.mem_range.mpr hj))
    unfold ρt
    rw [h6]
    show ρ' j + 0 = ρ j
    rw [Int.add_zero, he.2 j (by show j < 18; omega)]
  generalize ρt (sgp 18 (sgm cpT.2.2.1 la' cpT.2.2.2.1 ha')) ρ' = ρ2 at o1 o2 o3 hrig
  have o1 : okB (bY ++ [(0, 3), n31, (0, 3), n31, n31]) ρ2 := o1
  have o2 : rL (bY ++ [(0, 3), n31, (0, 3), n31, n31]) ρ2 laC lv' := o2
  have hl7 := o2.1
  match lv', hl7, o2 with
  | [x0, x1, x2, x3, x4, x5, x6], _, o2 =>
  obtain ⟨v0, w0, q0⟩ := o2.2 0 (.inr (.inl 0)) rfl
  cases w0
  cases rV_ref q0
  obtain ⟨v1, w1, q1⟩ := o2.2 1 (.inl (some 13, 0)) rfl
  cases w1
  obtain ⟨s, rfl, y1⟩ := rV_int q1
  obtain ⟨v2, w2, q2⟩ := o2.2 2 (.inl (some 14, 0)) rfl
  cases w2
  obtain ⟨i, rfl, y2⟩ := rV_int q2
  obtain ⟨v3, w3, q3⟩ := o2.2 3 (.inl (some 15, 0)) rfl
  cases w3
  obtain ⟨t, rfl, y3⟩ := rV_int q3
  obtain ⟨v4, w4, q4⟩ := o2.2 4 (.inl (some 16, 0)) rfl
  cases w4
  obtain ⟨j, rfl, y4⟩ := rV_int q4
  obtain ⟨v5, w5, q5⟩ := o2.2 5 (.inl (some 17, 0)) rfl
  cases w5
  obtain ⟨n, rfl, y5⟩ := rV_int q5
  have z1 : s.toInt = ρ2 13 := by have := y1.2; unfold den at this; simp only [Int.add_zero] at this; exact this
  have z2 : i.toInt = ρ2 14 := by have := y2.2; unfold den at this; simp only [Int.add_zero] at this; exact this
  have z3 : t.toInt = ρ2 15 := by have := y3.2; unfold den at this; simp only [Int.add_zero] at this; exact this
  have z4 : j.toInt = ρ2 16 := by have := y4.2; unfold den at this; simp only [Int.add_zero] at this; exact this
  have z5 : n.toInt = ρ2 17 := by have := y5.2; unfold den at this; simp only [Int.add_zero] at this; exact this
  have b13 := o1 13 (0, 3) rfl
  have b14 := o1 14 n31 rfl
  have b15 := o1 15 (0, 3) rfl
  have b16 := o1 16 n31 rfl
  have b17 := o1 17 n31 rfl
  simp only [n31] at b13 b14 b15 b16 b17
  obtain ⟨c0, p0, d0⟩ := rH_at o3 (k := 0) rfl
  obtain ⟨fs, rfl, hF⟩ := rC_obj d0
  obtain ⟨c32, p32, d32⟩ := rH_at o3 (k := 32) rfl
  obtain ⟨zs, rfl, lz, bz⟩ := rC_sum d32
  obtain ⟨w41, g41, r41⟩ := rF_val hF (i := 41) rfl rfl
  cases rV_ref r41
  have is : vp_in s 4 := vp_in_iff.mpr ⟨by omega, by omega⟩
  have it : vp_in t 4 := vp_in_iff.mpr ⟨by omega, by omega⟩
  have ms := bz _ (getD_mem (xs := zs) (k := s.toNatClampNeg) (by rw [lz]; exact Nat.not_le.mp fun q => is (Or.inr q)))
  have mt := bz _ (getD_mem (xs := zs) (k := t.toNatClampNeg) (by rw [lz]; exact Nat.not_le.mp fun q => it (Or.inr q)))
  -- the end with INDEX
  have bad : J mX7_copy 2 0 0 (qC cCpy ρ) 111 [some (.ref 0), some (.int s), some (.int i), some (.int t), some (.int j), some (.int n), x6] [] hp' 0 0 := by
    have e1 : ext (bY ++ [(0, 3), n31, (0, 3), n31, n31]) ρ2 (bY ++ [f32, f32, f32, f32, f32]) ρ2 := ⟨by decide, fun _ _ => rfl⟩
    have hB5 : okB (bY ++ [f32, f32, f32, f32, f32]) ρ2 := by
      intro m b hb
      have hm : m < 18 := (List.getElem?_eq_some_iff.mp hb).1
      rw [hrig m hm]
      exact hB m b hb
    exact ai_ok noORA_ok 40 true noCut 2 192 111 _ _ [] _ (kC cCpy) cp_111 mX7_copy rfl ρ2 _ [] hp' (qC cCpy ρ) hB5 (rL_ext e1 o2) trivial (rH_ext e1 o3) (kC_end cCpy (Nat.le_refl _) (fun m hm => hrig m hm)) (fun pc chk hc => by cases hc)
  refine T_s (k := 192) rfl rfl rfl ?_
  refine T_s (k := 192) rfl rfl rfl ?_
  refine T_s (k := 192) rfl rfl rfl ?_
  refine T_s (k := 192) rfl rfl rfl ?_
  refine T_s (k := 192) rfl rfl rfl ?_
  refine T_s (k := 192) rfl rfl rfl ?_
  refine T_get (k := 192) rfl rfl rfl p0 g41 ?_
  refine T_s (k := 192) rfl rfl rfl ?_
  refine T_ald (k := 192) rfl rfl p32 (by rw [lz]; exact inB_of is) ?_
  refine T_s (k := 192) rfl rfl rfl ?_
  refine T_s (k := 192) rfl rfl rfl ?_
  refine T_b (k := 192) (b := cmpB .gt (lg_cmp (i.toInt64 + n.toInt64) (zs.getD s.toNatClampNeg 0).toInt64) 0) rfl rfl rfl (fun _ => bad) (fun u1 => ?_)
  rw [cmpgt, decide_eq_false_iff_not] at u1
  have s1 := ladd_in (by omega) (by omega) u1
  refine T_s (k := 192) rfl rfl rfl ?_
  refine T_s (k := 192) rfl rfl rfl ?_
  refine T_s (k := 192) rfl rfl rfl ?_
  refine T_s (k := 192) rfl rfl rfl ?_
  refine T_s (k := 192) rfl rfl rfl ?_
  refine T_s (k := 192) rfl rfl rfl ?_
  refine T_get (k := 192) rfl rfl rfl p0 g41 ?_
  refine T_s (k := 192) rfl rfl rfl ?_
  refine T_ald (k := 192) rfl rfl p32 (by rw [lz]; exact inB_of it) ?_
  refine T_s (k := 192) rfl rfl rfl ?_
  refine T_s (k := 192) rfl rfl rfl ?_
  refine T_b (k := 192) (b := cmpB .le (lg_cmp (j.toInt64 + n.toInt64) (zs.getD t.toNatClampNeg 0).toInt64) 0) rfl rfl rfl (fun u2 => ?_) (fun _ => bad)
  rw [cmple, decide_eq_true_eq] at u2
  have s2 := ladd_in (by omega) (by omega) u2
  obtain ⟨c, hc31, rfl, ec⟩ := nI_toInt' (x := n) (by omega)
  have hc61 : c < 61 := by omega
  have hcp := cp_at hc61
  unfold cpC at hcp
  rw [Bool.and_eq_true] at hcp
  have hall : ∀ q ∈ cpH c, 18 ≤ q.2.1.length ∧ q.2.2.2.2.all (wgtB q.2.1) = true ∧ ai noORA 60 true (hcut (cpH c) 18 q) 2 192 q.1 q.2.1 q.2.2.1 [] q.2.2.2.1 (kC cCpy) = true := fun q hq => by
    have := List.all_eq_true.mp hcp.1 q hq
    rw [Bool.and_eq_true, Bool.and_eq_true, decide_eq_true_eq] at this
    exact this
  have hBc : okB (cpN c) ρ2 := by
    have k1 := set_okB (j := 14) (b := (0, 60 - (c : Int))) o1 ⟨by show 0 ≤ ρ2 14; omega, by show ρ2 14 ≤ 60 - (c : Int); omega⟩
    have k2 := set_okB (j := 16) (b := (0, 60 - (c : Int))) k1 ⟨by show 0 ≤ ρ2 16; omega, by show ρ2 16 ≤ 60 - (c : Int); omega⟩
    have k3 := set_okB (j := 17) (b := ((c : Int), (c : Int))) k2 ⟨by show (c : Int) ≤ ρ2 17; omega, by show ρ2 17 ≤ (c : Int); omega⟩
    exact k3
  have ee : ext (bY ++ [(0, 3), n31, (0, 3), n31, n31]) ρ2 (cpN c) ρ2 := ⟨Nat.le_refl _, fun _ _ => rfl⟩
  exact from_pc noORA_ok (k := 192) (p := 18) rfl (cpH c) (kC cCpy) ρ (qC cCpy ρ) (fun q hq => (hall q hq).1) (fun q hq => (hall q hq).2.1) (fun q hq => (hall q hq).2.2) (fun q hq ρ1 hr1 => kC_end cCpy (hall q hq).1 hr1) (Nat.le_refl _) hcp.2 hBc hrig (rL_ext ee o2) (rH_ext ee o3) (kC_end cCpy (Nat.le_refl _) hrig)
end
