-- ===== PART A: goes FIRST, ahead of the names: the tables' words, and 'selects' of the private methods out of them =====
/-- a private method of a class that the tables say can be made, by its rows of tables_1 -/
def lw_okq (q : MethodName × Nat) : Prop := (q.1.cls ≠ "java/lang/invoke/MethodHandle" ∧ q.1.cls ≠ "java/lang/invoke/VarHandle") ∧ Cond.instantiable q.1.cls q.2 ∈ tables_1 ∧ Cond.privateMethod q.1 ∈ tables_1 ∧ Cond.instanceMethod q.1 ∈ tables_1
theorem lw_p0 : lw_okq (⟨"PromiseTailor", "textOf", "(I)LPromiseTailor$Text;"⟩, 13) := ⟨⟨by decide +kernel, by decide +kernel⟩, List.mem_of_getElem? (i := 14) (by decide +kernel), List.mem_of_getElem? (i := 271) (by decide +kernel), List.mem_of_getElem? (i := 272) (by decide +kernel)⟩
theorem lw_p1 : lw_okq (⟨"PromiseTailor", "takeTexts", "()V"⟩, 13) := ⟨⟨by decide +kernel, by decide +kernel⟩, List.mem_of_getElem? (i := 14) (by decide +kernel), List.mem_of_getElem? (i := 279) (by decide +kernel), List.mem_of_getElem? (i := 280) (by decide +kernel)⟩
theorem lw_p2 : lw_okq (⟨"PromiseTailor", "found", "(I)I"⟩, 13) := ⟨⟨by decide +kernel, by decide +kernel⟩, List.mem_of_getElem? (i := 14) (by decide +kernel), List.mem_of_getElem? (i := 389) (by decide +kernel), List.mem_of_getElem? (i := 390) (by decide +kernel)⟩
theorem lw_p3 : lw_okq (⟨"PromiseTailor", "liveUntil", "(I)V"⟩, 13) := ⟨⟨by decide +kernel, by decide +kernel⟩, List.mem_of_getElem? (i := 14) (by decide +kernel), List.mem_of_getElem? (i := 397) (by decide +kernel), List.mem_of_getElem? (i := 398) (by decide +kernel)⟩
theorem lw_p4 : lw_okq (⟨"PromiseTailor$Course", "enter", "(III)V"⟩, 15) := ⟨⟨by decide +kernel, by decide +kernel⟩, List.mem_of_getElem? (i := 50) (by decide +kernel), List.mem_of_getElem? (i := 406) (by decide +kernel), List.mem_of_getElem? (i := 407) (by decide +kernel)⟩
theorem lw_p5 : lw_okq (⟨"PromiseTailor$Course", "enterAll", "(LPromiseTailor$Told;I)V"⟩, 15) := ⟨⟨by decide +kernel, by decide +kernel⟩, List.mem_of_getElem? (i := 50) (by decide +kernel), List.mem_of_getElem? (i := 411) (by decide +kernel), List.mem_of_getElem? (i := 412) (by decide +kernel)⟩
theorem lw_p6 : lw_okq (⟨"PromiseTailor$Course", "gain", "(I)I"⟩, 15) := ⟨⟨by decide +kernel, by decide +kernel⟩, List.mem_of_getElem? (i := 50) (by decide +kernel), List.mem_of_getElem? (i := 427) (by decide +kernel), List.mem_of_getElem? (i := 428) (by decide +kernel)⟩
theorem lw_p7 : lw_okq (⟨"PromiseTailor$Course", "lengthen", "(II)V"⟩, 15) := ⟨⟨by decide +kernel, by decide +kernel⟩, List.mem_of_getElem? (i := 50) (by decide +kernel), List.mem_of_getElem? (i := 431) (by decide +kernel), List.mem_of_getElem? (i := 432) (by decide +kernel)⟩
theorem lw_p8 : lw_okq (⟨"PromiseTailor$Course", "fulfil", "(I)V"⟩, 15) := ⟨⟨by decide +kernel, by decide +kernel⟩, List.mem_of_getElem? (i := 50) (by decide +kernel), List.mem_of_getElem? (i := 435) (by decide +kernel), List.mem_of_getElem? (i := 436) (by decide +kernel)⟩
theorem lw_p9 : lw_okq (⟨"PromiseTailor$Course", "fail", "(I)V"⟩, 15) := ⟨⟨by decide +kernel, by decide +kernel⟩, List.mem_of_getElem? (i := 50) (by decide +kernel), List.mem_of_getElem? (i := 443) (by decide +kernel), List.mem_of_getElem? (i := 444) (by decide +kernel)⟩
theorem lw_p10 : lw_okq (⟨"PromiseTailor$Course", "shorten", "(II)V"⟩, 15) := ⟨⟨by decide +kernel, by decide +kernel⟩, List.mem_of_getElem? (i := 50) (by decide +kernel), List.mem_of_getElem? (i := 447) (by decide +kernel), List.mem_of_getElem? (i := 448) (by decide +kernel)⟩
theorem lw_p11 : lw_okq (⟨"PromiseTailor", "liesToHush", "()I"⟩, 13) := ⟨⟨by decide +kernel, by decide +kernel⟩, List.mem_of_getElem? (i := 14) (by decide +kernel), List.mem_of_getElem? (i := 519) (by decide +kernel), List.mem_of_getElem? (i := 520) (by decide +kernel)⟩
theorem lw_p12 : lw_okq (⟨"PromiseTailor", "leavesNobodyNaked", "(I)Z"⟩, 13) := ⟨⟨by decide +kernel, by decide +kernel⟩, List.mem_of_getElem? (i := 14) (by decide +kernel), List.mem_of_getElem? (i := 523) (by decide +kernel), List.mem_of_getElem? (i := 524) (by decide +kernel)⟩
theorem lw_p13 : lw_okq (⟨"PromiseTailor$Course", "showsBehind", "(ILPromiseTailor$Told;)Z"⟩, 15) := ⟨⟨by decide +kernel, by decide +kernel⟩, List.mem_of_getElem? (i := 50) (by decide +kernel), List.mem_of_getElem? (i := 549) (by decide +kernel), List.mem_of_getElem? (i := 550) (by decide +kernel)⟩
theorem lw_p14 : lw_okq (⟨"PromiseTailor", "fittingValues", "([III)I"⟩, 13) := ⟨⟨by decide +kernel, by decide +kernel⟩, List.mem_of_getElem? (i := 14) (by decide +kernel), List.mem_of_getElem? (i := 557) (by decide +kernel), List.mem_of_getElem? (i := 558) (by decide +kernel)⟩
theorem lw_p15 : lw_okq (⟨"PromiseTailor", "noteCoatsBySize", "(I)V"⟩, 13) := ⟨⟨by decide +kernel, by decide +kernel⟩, List.mem_of_getElem? (i := 14) (by decide +kernel), List.mem_of_getElem? (i := 565) (by decide +kernel), List.mem_of_getElem? (i := 566) (by decide +kernel)⟩
def lw_privs_1 : List (MethodName × Nat) := [(⟨"PromiseTailor", "textOf", "(I)LPromiseTailor$Text;"⟩, 13), (⟨"PromiseTailor", "takeTexts", "()V"⟩, 13), (⟨"PromiseTailor", "found", "(I)I"⟩, 13), (⟨"PromiseTailor", "liveUntil", "(I)V"⟩, 13), (⟨"PromiseTailor$Course", "enter", "(III)V"⟩, 15), (⟨"PromiseTailor$Course", "enterAll", "(LPromiseTailor$Told;I)V"⟩, 15), (⟨"PromiseTailor$Course", "gain", "(I)I"⟩, 15), (⟨"PromiseTailor$Course", "lengthen", "(II)V"⟩, 15), (⟨"PromiseTailor$Course", "fulfil", "(I)V"⟩, 15), (⟨"PromiseTailor$Course", "fail", "(I)V"⟩, 15), (⟨"PromiseTailor$Course", "shorten", "(II)V"⟩, 15), (⟨"PromiseTailor", "liesToHush", "()I"⟩, 13), (⟨"PromiseTailor", "leavesNobodyNaked", "(I)Z"⟩, 13), (⟨"PromiseTailor$Course", "showsBehind", "(ILPromiseTailor$Told;)Z"⟩, 15), (⟨"PromiseTailor", "fittingValues", "([III)I"⟩, 13), (⟨"PromiseTailor", "noteCoatsBySize", "(I)V"⟩, 13)]
theorem lw_r1 : ∀ q ∈ lw_privs_1, lw_okq q := List.forall_mem_cons.mpr ⟨lw_p0, List.forall_mem_cons.mpr ⟨lw_p1, List.forall_mem_cons.mpr ⟨lw_p2, List.forall_mem_cons.mpr ⟨lw_p3, List.forall_mem_cons.mpr ⟨lw_p4, List.forall_mem_cons.mpr ⟨lw_p5, List.forall_mem_cons.mpr ⟨lw_p6, List.forall_mem_cons.mpr ⟨lw_p7, List.forall_mem_cons.mpr ⟨lw_p8, List.forall_mem_cons.mpr ⟨lw_p9, List.forall_mem_cons.mpr ⟨lw_p10, List.forall_mem_cons.mpr ⟨lw_p11, List.forall_mem_cons.mpr ⟨lw_p12, List.forall_mem_cons.mpr ⟨lw_p13, List.forall_mem_cons.mpr ⟨lw_p14, List.forall_mem_cons.mpr ⟨lw_p15, fun _ h => absurd h List.not_mem_nil⟩⟩⟩⟩⟩⟩⟩⟩⟩⟩⟩⟩⟩⟩⟩⟩
theorem lw_p16 : lw_okq (⟨"PromiseTailor", "mostAlike", "(II)I"⟩, 13) := ⟨⟨by decide +kernel, by decide +kernel⟩, List.mem_of_getElem? (i := 14) (by decide +kernel), List.mem_of_getElem? (i := 569) (by decide +kernel), List.mem_of_getElem? (i := 570) (by decide +kernel)⟩
theorem lw_p17 : lw_okq (⟨"PromiseTailor", "keepingsOf", "(I)I"⟩, 13) := ⟨⟨by decide +kernel, by decide +kernel⟩, List.mem_of_getElem? (i := 14) (by decide +kernel), List.mem_of_getElem? (i := 579) (by decide +kernel), List.mem_of_getElem? (i := 580) (by decide +kernel)⟩
theorem lw_p18 : lw_okq (⟨"PromiseTailor", "drawKeepings", "(II)V"⟩, 13) := ⟨⟨by decide +kernel, by decide +kernel⟩, List.mem_of_getElem? (i := 14) (by decide +kernel), List.mem_of_getElem? (i := 590) (by decide +kernel), List.mem_of_getElem? (i := 591) (by decide +kernel)⟩
theorem lw_p19 : lw_okq (⟨"PromiseTailor", "withPromise", "(JI)J"⟩, 13) := ⟨⟨by decide +kernel, by decide +kernel⟩, List.mem_of_getElem? (i := 14) (by decide +kernel), List.mem_of_getElem? (i := 661) (by decide +kernel), List.mem_of_getElem? (i := 662) (by decide +kernel)⟩
theorem lw_p20 : lw_okq (⟨"PromiseTailor", "withPerson", "(JI)J"⟩, 13) := ⟨⟨by decide +kernel, by decide +kernel⟩, List.mem_of_getElem? (i := 14) (by decide +kernel), List.mem_of_getElem? (i := 668) (by decide +kernel), List.mem_of_getElem? (i := 669) (by decide +kernel)⟩
theorem lw_p21 : lw_okq (⟨"PromiseTailor", "withCoat", "(JII)J"⟩, 13) := ⟨⟨by decide +kernel, by decide +kernel⟩, List.mem_of_getElem? (i := 14) (by decide +kernel), List.mem_of_getElem? (i := 673) (by decide +kernel), List.mem_of_getElem? (i := 674) (by decide +kernel)⟩
theorem lw_p22 : lw_okq (⟨"PromiseTailorModel", "faultOf", "(I)I"⟩, 45) := ⟨⟨by decide +kernel, by decide +kernel⟩, List.mem_of_getElem? (i := 691) (by decide +kernel), List.mem_of_getElem? (i := 856) (by decide +kernel), List.mem_of_getElem? (i := 857) (by decide +kernel)⟩
theorem lw_p23 : lw_okq (⟨"PromiseTailorModel", "readsParts", "(I)I"⟩, 45) := ⟨⟨by decide +kernel, by decide +kernel⟩, List.mem_of_getElem? (i := 691) (by decide +kernel), List.mem_of_getElem? (i := 860) (by decide +kernel), List.mem_of_getElem? (i := 861) (by decide +kernel)⟩
theorem lw_p24 : lw_okq (⟨"PromiseTailorModel", "readsPerson", "(II)I"⟩, 45) := ⟨⟨by decide +kernel, by decide +kernel⟩, List.mem_of_getElem? (i := 691) (by decide +kernel), List.mem_of_getElem? (i := 864) (by decide +kernel), List.mem_of_getElem? (i := 865) (by decide +kernel)⟩
theorem lw_p25 : lw_okq (⟨"PromiseTailorModel", "byteAt", "(II)I"⟩, 45) := ⟨⟨by decide +kernel, by decide +kernel⟩, List.mem_of_getElem? (i := 691) (by decide +kernel), List.mem_of_getElem? (i := 868) (by decide +kernel), List.mem_of_getElem? (i := 869) (by decide +kernel)⟩
theorem lw_p26 : lw_okq (⟨"PromiseTailorModel", "readsPromise", "(II)I"⟩, 45) := ⟨⟨by decide +kernel, by decide +kernel⟩, List.mem_of_getElem? (i := 691) (by decide +kernel), List.mem_of_getElem? (i := 872) (by decide +kernel), List.mem_of_getElem? (i := 873) (by decide +kernel)⟩
theorem lw_p27 : lw_okq (⟨"PromiseTailorModel", "isPerson", "(I)Z"⟩, 45) := ⟨⟨by decide +kernel, by decide +kernel⟩, List.mem_of_getElem? (i := 691) (by decide +kernel), List.mem_of_getElem? (i := 880) (by decide +kernel), List.mem_of_getElem? (i := 881) (by decide +kernel)⟩
theorem lw_p28 : lw_okq (⟨"PromiseTailorModel", "reads", "()V"⟩, 45) := ⟨⟨by decide +kernel, by decide +kernel⟩, List.mem_of_getElem? (i := 691) (by decide +kernel), List.mem_of_getElem? (i := 884) (by decide +kernel), List.mem_of_getElem? (i := 885) (by decide +kernel)⟩
theorem lw_p29 : lw_okq (⟨"PromiseTailorModel", "personOf", "(II)I"⟩, 45) := ⟨⟨by decide +kernel, by decide +kernel⟩, List.mem_of_getElem? (i := 691) (by decide +kernel), List.mem_of_getElem? (i := 888) (by decide +kernel), List.mem_of_getElem? (i := 889) (by decide +kernel)⟩
theorem lw_p30 : lw_okq (⟨"PromiseTailorModel", "isPromise", "(I)Z"⟩, 45) := ⟨⟨by decide +kernel, by decide +kernel⟩, List.mem_of_getElem? (i := 691) (by decide +kernel), List.mem_of_getElem? (i := 896) (by decide +kernel), List.mem_of_getElem? (i := 897) (by decide +kernel)⟩
theorem lw_p31 : lw_okq (⟨"PromiseTailorModel", "promiseOf", "(II)I"⟩, 45) := ⟨⟨by decide +kernel, by decide +kernel⟩, List.mem_of_getElem? (i := 691) (by decide +kernel), List.mem_of_getElem? (i := 900) (by decide +kernel), List.mem_of_getElem? (i := 901) (by decide +kernel)⟩
def lw_privs_2 : List (MethodName × Nat) := [(⟨"PromiseTailor", "mostAlike", "(II)I"⟩, 13), (⟨"PromiseTailor", "keepingsOf", "(I)I"⟩, 13), (⟨"PromiseTailor", "drawKeepings", "(II)V"⟩, 13), (⟨"PromiseTailor", "withPromise", "(JI)J"⟩, 13), (⟨"PromiseTailor", "withPerson", "(JI)J"⟩, 13), (⟨"PromiseTailor", "withCoat", "(JII)J"⟩, 13), (⟨"PromiseTailorModel", "faultOf", "(I)I"⟩, 45), (⟨"PromiseTailorModel", "readsParts", "(I)I"⟩, 45), (⟨"PromiseTailorModel", "readsPerson", "(II)I"⟩, 45), (⟨"PromiseTailorModel", "byteAt", "(II)I"⟩, 45), (⟨"PromiseTailorModel", "readsPromise", "(II)I"⟩, 45), (⟨"PromiseTailorModel", "isPerson", "(I)Z"⟩, 45), (⟨"PromiseTailorModel", "reads", "()V"⟩, 45), (⟨"PromiseTailorModel", "personOf", "(II)I"⟩, 45), (⟨"PromiseTailorModel", "isPromise", "(I)Z"⟩, 45), (⟨"PromiseTailorModel", "promiseOf", "(II)I"⟩, 45)]
theorem lw_r2 : ∀ q ∈ lw_privs_2, lw_okq q := List.forall_mem_cons.mpr ⟨lw_p16, List.forall_mem_cons.mpr ⟨lw_p17, List.forall_mem_cons.mpr ⟨lw_p18, List.forall_mem_cons.mpr ⟨lw_p19, List.forall_mem_cons.mpr ⟨lw_p20, List.forall_mem_cons.mpr ⟨lw_p21, List.forall_mem_cons.mpr ⟨lw_p22, List.forall_mem_cons.mpr ⟨lw_p23, List.forall_mem_cons.mpr ⟨lw_p24, List.forall_mem_cons.mpr ⟨lw_p25, List.forall_mem_cons.mpr ⟨lw_p26, List.forall_mem_cons.mpr ⟨lw_p27, List.forall_mem_cons.mpr ⟨lw_p28, List.forall_mem_cons.mpr ⟨lw_p29, List.forall_mem_cons.mpr ⟨lw_p30, List.forall_mem_cons.mpr ⟨lw_p31, fun _ h => absurd h List.not_mem_nil⟩⟩⟩⟩⟩⟩⟩⟩⟩⟩⟩⟩⟩⟩⟩⟩
theorem lw_p32 : lw_okq (⟨"PromiseTailorModel", "meets", "(I)I"⟩, 45) := ⟨⟨by decide +kernel, by decide +kernel⟩, List.mem_of_getElem? (i := 691) (by decide +kernel), List.mem_of_getElem? (i := 933) (by decide +kernel), List.mem_of_getElem? (i := 934) (by decide +kernel)⟩
theorem lw_p33 : lw_okq (⟨"PromiseTailorModel", "coatOf", "(III)I"⟩, 45) := ⟨⟨by decide +kernel, by decide +kernel⟩, List.mem_of_getElem? (i := 691) (by decide +kernel), List.mem_of_getElem? (i := 942) (by decide +kernel), List.mem_of_getElem? (i := 943) (by decide +kernel)⟩
theorem lw_p34 : lw_okq (⟨"PromiseTailorModel", "runsTold", "()V"⟩, 45) := ⟨⟨by decide +kernel, by decide +kernel⟩, List.mem_of_getElem? (i := 691) (by decide +kernel), List.mem_of_getElem? (i := 946) (by decide +kernel), List.mem_of_getElem? (i := 947) (by decide +kernel)⟩
theorem lw_p35 : lw_okq (⟨"PromiseTailorModel", "asTold", "()V"⟩, 45) := ⟨⟨by decide +kernel, by decide +kernel⟩, List.mem_of_getElem? (i := 691) (by decide +kernel), List.mem_of_getElem? (i := 950) (by decide +kernel), List.mem_of_getElem? (i := 951) (by decide +kernel)⟩
theorem lw_p36 : lw_okq (⟨"PromiseTailorModel", "runs", "()V"⟩, 45) := ⟨⟨by decide +kernel, by decide +kernel⟩, List.mem_of_getElem? (i := 691) (by decide +kernel), List.mem_of_getElem? (i := 954) (by decide +kernel), List.mem_of_getElem? (i := 955) (by decide +kernel)⟩
theorem lw_p37 : lw_okq (⟨"PromiseTailorModel", "goesBy", "(I)V"⟩, 45) := ⟨⟨by decide +kernel, by decide +kernel⟩, List.mem_of_getElem? (i := 691) (by decide +kernel), List.mem_of_getElem? (i := 958) (by decide +kernel), List.mem_of_getElem? (i := 959) (by decide +kernel)⟩
theorem lw_p38 : lw_okq (⟨"PromiseTailorModel", "makes", "(I)V"⟩, 45) := ⟨⟨by decide +kernel, by decide +kernel⟩, List.mem_of_getElem? (i := 691) (by decide +kernel), List.mem_of_getElem? (i := 962) (by decide +kernel), List.mem_of_getElem? (i := 963) (by decide +kernel)⟩
theorem lw_p39 : lw_okq (⟨"PromiseTailorModel", "lengthOf", "(I)I"⟩, 45) := ⟨⟨by decide +kernel, by decide +kernel⟩, List.mem_of_getElem? (i := 691) (by decide +kernel), List.mem_of_getElem? (i := 966) (by decide +kernel), List.mem_of_getElem? (i := 967) (by decide +kernel)⟩
theorem lw_p40 : lw_okq (⟨"PromiseTailorModel", "changes", "(II)V"⟩, 45) := ⟨⟨by decide +kernel, by decide +kernel⟩, List.mem_of_getElem? (i := 691) (by decide +kernel), List.mem_of_getElem? (i := 970) (by decide +kernel), List.mem_of_getElem? (i := 971) (by decide +kernel)⟩
theorem lw_p41 : lw_okq (⟨"PromiseTailorModel", "keepsOn", "(I)V"⟩, 45) := ⟨⟨by decide +kernel, by decide +kernel⟩, List.mem_of_getElem? (i := 691) (by decide +kernel), List.mem_of_getElem? (i := 974) (by decide +kernel), List.mem_of_getElem? (i := 975) (by decide +kernel)⟩
theorem lw_p42 : lw_okq (⟨"PromiseTailorModel", "isKept", "(I)V"⟩, 45) := ⟨⟨by decide +kernel, by decide +kernel⟩, List.mem_of_getElem? (i := 691) (by decide +kernel), List.mem_of_getElem? (i := 981) (by decide +kernel), List.mem_of_getElem? (i := 982) (by decide +kernel)⟩
theorem lw_p43 : lw_okq (⟨"PromiseTailorModel", "breaks", "(I)V"⟩, 45) := ⟨⟨by decide +kernel, by decide +kernel⟩, List.mem_of_getElem? (i := 691) (by decide +kernel), List.mem_of_getElem? (i := 985) (by decide +kernel), List.mem_of_getElem? (i := 986) (by decide +kernel)⟩
theorem lw_p44 : lw_okq (⟨"PromiseTailorModel", "fitsOn", "(II)Z"⟩, 45) := ⟨⟨by decide +kernel, by decide +kernel⟩, List.mem_of_getElem? (i := 691) (by decide +kernel), List.mem_of_getElem? (i := 989) (by decide +kernel), List.mem_of_getElem? (i := 990) (by decide +kernel)⟩
theorem lw_p45 : lw_okq (⟨"PromiseTailorModel", "standsOf", "(II)I"⟩, 45) := ⟨⟨by decide +kernel, by decide +kernel⟩, List.mem_of_getElem? (i := 691) (by decide +kernel), List.mem_of_getElem? (i := 997) (by decide +kernel), List.mem_of_getElem? (i := 998) (by decide +kernel)⟩
theorem lw_p46 : lw_okq (⟨"PromiseTailorModel", "neatOf", "(I)I"⟩, 45) := ⟨⟨by decide +kernel, by decide +kernel⟩, List.mem_of_getElem? (i := 691) (by decide +kernel), List.mem_of_getElem? (i := 1005) (by decide +kernel), List.mem_of_getElem? (i := 1006) (by decide +kernel)⟩
theorem lw_p47 : lw_okq (⟨"PromiseTailorModel", "nakedOf", "(I)I"⟩, 45) := ⟨⟨by decide +kernel, by decide +kernel⟩, List.mem_of_getElem? (i := 691) (by decide +kernel), List.mem_of_getElem? (i := 1013) (by decide +kernel), List.mem_of_getElem? (i := 1014) (by decide +kernel)⟩
def lw_privs_3 : List (MethodName × Nat) := [(⟨"PromiseTailorModel", "meets", "(I)I"⟩, 45), (⟨"PromiseTailorModel", "coatOf", "(III)I"⟩, 45), (⟨"PromiseTailorModel", "runsTold", "()V"⟩, 45), (⟨"PromiseTailorModel", "asTold", "()V"⟩, 45), (⟨"PromiseTailorModel", "runs", "()V"⟩, 45), (⟨"PromiseTailorModel", "goesBy", "(I)V"⟩, 45), (⟨"PromiseTailorModel", "makes", "(I)V"⟩, 45), (⟨"PromiseTailorModel", "lengthOf", "(I)I"⟩, 45), (⟨"PromiseTailorModel", "changes", "(II)V"⟩, 45), (⟨"PromiseTailorModel", "keepsOn", "(I)V"⟩, 45), (⟨"PromiseTailorModel", "isKept", "(I)V"⟩, 45), (⟨"PromiseTailorModel", "breaks", "(I)V"⟩, 45), (⟨"PromiseTailorModel", "fitsOn", "(II)Z"⟩, 45), (⟨"PromiseTailorModel", "standsOf", "(II)I"⟩, 45), (⟨"PromiseTailorModel", "neatOf", "(I)I"⟩, 45), (⟨"PromiseTailorModel", "nakedOf", "(I)I"⟩, 45)]
theorem lw_r3 : ∀ q ∈ lw_privs_3, lw_okq q := List.forall_mem_cons.mpr ⟨lw_p32, List.forall_mem_cons.mpr ⟨lw_p33, List.forall_mem_cons.mpr ⟨lw_p34, List.forall_mem_cons.mpr ⟨lw_p35, List.forall_mem_cons.mpr ⟨lw_p36, List.forall_mem_cons.mpr ⟨lw_p37, List.forall_mem_cons.mpr ⟨lw_p38, List.forall_mem_cons.mpr ⟨lw_p39, List.forall_mem_cons.mpr ⟨lw_p40, List.forall_mem_cons.mpr ⟨lw_p41, List.forall_mem_cons.mpr ⟨lw_p42, List.forall_mem_cons.mpr ⟨lw_p43, List.forall_mem_cons.mpr ⟨lw_p44, List.forall_mem_cons.mpr ⟨lw_p45, List.forall_mem_cons.mpr ⟨lw_p46, List.forall_mem_cons.mpr ⟨lw_p47, fun _ h => absurd h List.not_mem_nil⟩⟩⟩⟩⟩⟩⟩⟩⟩⟩⟩⟩⟩⟩⟩⟩
theorem lw_p48 : lw_okq (⟨"PromiseTailorModel", "nakedNow", "(I)I"⟩, 45) := ⟨⟨by decide +kernel, by decide +kernel⟩, List.mem_of_getElem? (i := 691) (by decide +kernel), List.mem_of_getElem? (i := 1017) (by decide +kernel), List.mem_of_getElem? (i := 1018) (by decide +kernel)⟩
theorem lw_p49 : lw_okq (⟨"PromiseTailorModel", "longestOf", "(I)I"⟩, 45) := ⟨⟨by decide +kernel, by decide +kernel⟩, List.mem_of_getElem? (i := 691) (by decide +kernel), List.mem_of_getElem? (i := 1025) (by decide +kernel), List.mem_of_getElem? (i := 1026) (by decide +kernel)⟩
theorem lw_p50 : lw_okq (⟨"PromiseTailorModel", "splitsOf", "()I"⟩, 45) := ⟨⟨by decide +kernel, by decide +kernel⟩, List.mem_of_getElem? (i := 691) (by decide +kernel), List.mem_of_getElem? (i := 1033) (by decide +kernel), List.mem_of_getElem? (i := 1034) (by decide +kernel)⟩
theorem lw_p51 : lw_okq (⟨"PromiseTailorModel", "tearsAll", "()I"⟩, 45) := ⟨⟨by decide +kernel, by decide +kernel⟩, List.mem_of_getElem? (i := 691) (by decide +kernel), List.mem_of_getElem? (i := 1037) (by decide +kernel), List.mem_of_getElem? (i := 1038) (by decide +kernel)⟩
theorem lw_p52 : lw_okq (⟨"PromiseTailorModel", "bestNow", "()I"⟩, 45) := ⟨⟨by decide +kernel, by decide +kernel⟩, List.mem_of_getElem? (i := 691) (by decide +kernel), List.mem_of_getElem? (i := 1045) (by decide +kernel), List.mem_of_getElem? (i := 1046) (by decide +kernel)⟩
theorem lw_p53 : lw_okq (⟨"PromiseTailorModel", "fitMany", "(I)I"⟩, 45) := ⟨⟨by decide +kernel, by decide +kernel⟩, List.mem_of_getElem? (i := 691) (by decide +kernel), List.mem_of_getElem? (i := 1049) (by decide +kernel), List.mem_of_getElem? (i := 1050) (by decide +kernel)⟩
theorem lw_p54 : lw_okq (⟨"PromiseTailorModel", "swearOf", "(II)I"⟩, 45) := ⟨⟨by decide +kernel, by decide +kernel⟩, List.mem_of_getElem? (i := 691) (by decide +kernel), List.mem_of_getElem? (i := 1057) (by decide +kernel), List.mem_of_getElem? (i := 1058) (by decide +kernel)⟩
theorem lw_p55 : lw_okq (⟨"PromiseTailorModel", "keepBest", "(II)I"⟩, 45) := ⟨⟨by decide +kernel, by decide +kernel⟩, List.mem_of_getElem? (i := 691) (by decide +kernel), List.mem_of_getElem? (i := 1065) (by decide +kernel), List.mem_of_getElem? (i := 1066) (by decide +kernel)⟩
theorem lw_p56 : lw_okq (⟨"PromiseTailorModel", "dueOf", "(II)I"⟩, 45) := ⟨⟨by decide +kernel, by decide +kernel⟩, List.mem_of_getElem? (i := 691) (by decide +kernel), List.mem_of_getElem? (i := 1073) (by decide +kernel), List.mem_of_getElem? (i := 1074) (by decide +kernel)⟩
theorem lw_p57 : lw_okq (⟨"PromiseTailorModel", "hushBy", "()I"⟩, 45) := ⟨⟨by decide +kernel, by decide +kernel⟩, List.mem_of_getElem? (i := 691) (by decide +kernel), List.mem_of_getElem? (i := 1081) (by decide +kernel), List.mem_of_getElem? (i := 1082) (by decide +kernel)⟩
theorem lw_p58 : lw_okq (⟨"PromiseTailorModel", "isHushed", "(I)Z"⟩, 45) := ⟨⟨by decide +kernel, by decide +kernel⟩, List.mem_of_getElem? (i := 691) (by decide +kernel), List.mem_of_getElem? (i := 1085) (by decide +kernel), List.mem_of_getElem? (i := 1086) (by decide +kernel)⟩
theorem lw_p59 : lw_okq (⟨"PromiseTailorModel", "ofRow", "(II)I"⟩, 45) := ⟨⟨by decide +kernel, by decide +kernel⟩, List.mem_of_getElem? (i := 691) (by decide +kernel), List.mem_of_getElem? (i := 1089) (by decide +kernel), List.mem_of_getElem? (i := 1090) (by decide +kernel)⟩
theorem lw_p60 : lw_okq (⟨"PromiseTailorModel", "neverNow", "()I"⟩, 45) := ⟨⟨by decide +kernel, by decide +kernel⟩, List.mem_of_getElem? (i := 691) (by decide +kernel), List.mem_of_getElem? (i := 1105) (by decide +kernel), List.mem_of_getElem? (i := 1106) (by decide +kernel)⟩
theorem lw_p61 : lw_okq (⟨"PromiseTailorModel", "isSeen", "()Z"⟩, 45) := ⟨⟨by decide +kernel, by decide +kernel⟩, List.mem_of_getElem? (i := 691) (by decide +kernel), List.mem_of_getElem? (i := 1109) (by decide +kernel), List.mem_of_getElem? (i := 1110) (by decide +kernel)⟩
theorem lw_p62 : lw_okq (⟨"PromiseTailorModel", "sizesBy", "(I)I"⟩, 45) := ⟨⟨by decide +kernel, by decide +kernel⟩, List.mem_of_getElem? (i := 691) (by decide +kernel), List.mem_of_getElem? (i := 1117) (by decide +kernel), List.mem_of_getElem? (i := 1118) (by decide +kernel)⟩
theorem lw_p63 : lw_okq (⟨"PromiseTailorModel", "sortsBy", "(I)I"⟩, 45) := ⟨⟨by decide +kernel, by decide +kernel⟩, List.mem_of_getElem? (i := 691) (by decide +kernel), List.mem_of_getElem? (i := 1121) (by decide +kernel), List.mem_of_getElem? (i := 1122) (by decide +kernel)⟩
def lw_privs_4 : List (MethodName × Nat) := [(⟨"PromiseTailorModel", "nakedNow", "(I)I"⟩, 45), (⟨"PromiseTailorModel", "longestOf", "(I)I"⟩, 45), (⟨"PromiseTailorModel", "splitsOf", "()I"⟩, 45), (⟨"PromiseTailorModel", "tearsAll", "()I"⟩, 45), (⟨"PromiseTailorModel", "bestNow", "()I"⟩, 45), (⟨"PromiseTailorModel", "fitMany", "(I)I"⟩, 45), (⟨"PromiseTailorModel", "swearOf", "(II)I"⟩, 45), (⟨"PromiseTailorModel", "keepBest", "(II)I"⟩, 45), (⟨"PromiseTailorModel", "dueOf", "(II)I"⟩, 45), (⟨"PromiseTailorModel", "hushBy", "()I"⟩, 45), (⟨"PromiseTailorModel", "isHushed", "(I)Z"⟩, 45), (⟨"PromiseTailorModel", "ofRow", "(II)I"⟩, 45), (⟨"PromiseTailorModel", "neverNow", "()I"⟩, 45), (⟨"PromiseTailorModel", "isSeen", "()Z"⟩, 45), (⟨"PromiseTailorModel", "sizesBy", "(I)I"⟩, 45), (⟨"PromiseTailorModel", "sortsBy", "(I)I"⟩, 45)]
theorem lw_r4 : ∀ q ∈ lw_privs_4, lw_okq q := List.forall_mem_cons.mpr ⟨lw_p48, List.forall_mem_cons.mpr ⟨lw_p49, List.forall_mem_cons.mpr ⟨lw_p50, List.forall_mem_cons.mpr ⟨lw_p51, List.forall_mem_cons.mpr ⟨lw_p52, List.forall_mem_cons.mpr ⟨lw_p53, List.forall_mem_cons.mpr ⟨lw_p54, List.forall_mem_cons.mpr ⟨lw_p55, List.forall_mem_cons.mpr ⟨lw_p56, List.forall_mem_cons.mpr ⟨lw_p57, List.forall_mem_cons.mpr ⟨lw_p58, List.forall_mem_cons.mpr ⟨lw_p59, List.forall_mem_cons.mpr ⟨lw_p60, List.forall_mem_cons.mpr ⟨lw_p61, List.forall_mem_cons.mpr ⟨lw_p62, List.forall_mem_cons.mpr ⟨lw_p63, fun _ h => absurd h List.not_mem_nil⟩⟩⟩⟩⟩⟩⟩⟩⟩⟩⟩⟩⟩⟩⟩⟩
theorem lw_p64 : lw_okq (⟨"PromiseTailorModel", "askOf", "(I)I"⟩, 45) := ⟨⟨by decide +kernel, by decide +kernel⟩, List.mem_of_getElem? (i := 691) (by decide +kernel), List.mem_of_getElem? (i := 1129) (by decide +kernel), List.mem_of_getElem? (i := 1130) (by decide +kernel)⟩
theorem lw_p65 : lw_okq (⟨"PromiseTailorModel", "wordOf", "(IIII)J"⟩, 45) := ⟨⟨by decide +kernel, by decide +kernel⟩, List.mem_of_getElem? (i := 691) (by decide +kernel), List.mem_of_getElem? (i := 1137) (by decide +kernel), List.mem_of_getElem? (i := 1138) (by decide +kernel)⟩
theorem lw_p66 : lw_okq (⟨"PromiseTailorModel", "yearOf", "(III)I"⟩, 45) := ⟨⟨by decide +kernel, by decide +kernel⟩, List.mem_of_getElem? (i := 691) (by decide +kernel), List.mem_of_getElem? (i := 1152) (by decide +kernel), List.mem_of_getElem? (i := 1153) (by decide +kernel)⟩
theorem lw_p67 : lw_okq (⟨"PromiseTailorModel", "lacks", "(III)I"⟩, 45) := ⟨⟨by decide +kernel, by decide +kernel⟩, List.mem_of_getElem? (i := 691) (by decide +kernel), List.mem_of_getElem? (i := 1169) (by decide +kernel), List.mem_of_getElem? (i := 1170) (by decide +kernel)⟩
theorem lw_p68 : lw_okq (⟨"PromiseTailorModel", "lays", "(III)V"⟩, 45) := ⟨⟨by decide +kernel, by decide +kernel⟩, List.mem_of_getElem? (i := 691) (by decide +kernel), List.mem_of_getElem? (i := 1173) (by decide +kernel), List.mem_of_getElem? (i := 1174) (by decide +kernel)⟩
theorem lw_p69 : lw_okq (⟨"PromiseTailorModel", "sumOf", "(I)I"⟩, 45) := ⟨⟨by decide +kernel, by decide +kernel⟩, List.mem_of_getElem? (i := 691) (by decide +kernel), List.mem_of_getElem? (i := 1194) (by decide +kernel), List.mem_of_getElem? (i := 1195) (by decide +kernel)⟩
theorem lw_p70 : lw_okq (⟨"PromiseTailorModel", "promiseDigest", "(JI)J"⟩, 45) := ⟨⟨by decide +kernel, by decide +kernel⟩, List.mem_of_getElem? (i := 691) (by decide +kernel), List.mem_of_getElem? (i := 1205) (by decide +kernel), List.mem_of_getElem? (i := 1206) (by decide +kernel)⟩
theorem lw_p71 : lw_okq (⟨"PromiseTailorModel", "personDigest", "(JI)J"⟩, 45) := ⟨⟨by decide +kernel, by decide +kernel⟩, List.mem_of_getElem? (i := 691) (by decide +kernel), List.mem_of_getElem? (i := 1209) (by decide +kernel), List.mem_of_getElem? (i := 1210) (by decide +kernel)⟩
theorem lw_p72 : lw_okq (⟨"PromiseTailorModel", "coatDigest", "(JII)J"⟩, 45) := ⟨⟨by decide +kernel, by decide +kernel⟩, List.mem_of_getElem? (i := 691) (by decide +kernel), List.mem_of_getElem? (i := 1213) (by decide +kernel), List.mem_of_getElem? (i := 1214) (by decide +kernel)⟩
def lw_privs_5 : List (MethodName × Nat) := [(⟨"PromiseTailorModel", "askOf", "(I)I"⟩, 45), (⟨"PromiseTailorModel", "wordOf", "(IIII)J"⟩, 45), (⟨"PromiseTailorModel", "yearOf", "(III)I"⟩, 45), (⟨"PromiseTailorModel", "lacks", "(III)I"⟩, 45), (⟨"PromiseTailorModel", "lays", "(III)V"⟩, 45), (⟨"PromiseTailorModel", "sumOf", "(I)I"⟩, 45), (⟨"PromiseTailorModel", "promiseDigest", "(JI)J"⟩, 45), (⟨"PromiseTailorModel", "personDigest", "(JI)J"⟩, 45), (⟨"PromiseTailorModel", "coatDigest", "(JII)J"⟩, 45)]
theorem lw_r5 : ∀ q ∈ lw_privs_5, lw_okq q := List.forall_mem_cons.mpr ⟨lw_p64, List.forall_mem_cons.mpr ⟨lw_p65, List.forall_mem_cons.mpr ⟨lw_p66, List.forall_mem_cons.mpr ⟨lw_p67, List.forall_mem_cons.mpr ⟨lw_p68, List.forall_mem_cons.mpr ⟨lw_p69, List.forall_mem_cons.mpr ⟨lw_p70, List.forall_mem_cons.mpr ⟨lw_p71, List.forall_mem_cons.mpr ⟨lw_p72, fun _ h => absurd h List.not_mem_nil⟩⟩⟩⟩⟩⟩⟩⟩⟩
def lw_privs : List (MethodName × Nat) := lw_privs_1 ++ (lw_privs_2 ++ (lw_privs_3 ++ (lw_privs_4 ++ (lw_privs_5))))
def lw_tbl : List Cond := k2_sels lw_privs ++ tables_1
theorem lw_privs_ok : ∀ q ∈ lw_privs, lw_okq q := by
  show ∀ q ∈ lw_privs_1 ++ (lw_privs_2 ++ (lw_privs_3 ++ (lw_privs_4 ++ (lw_privs_5)))), lw_okq q
  exact List.forall_mem_append.mpr ⟨lw_r1, List.forall_mem_append.mpr ⟨lw_r2, List.forall_mem_append.mpr ⟨lw_r3, List.forall_mem_append.mpr ⟨lw_r4, lw_r5⟩⟩⟩⟩
/-! ===== BEGIN new T[n][m]: the outer array a place, the inner ones among the pooled ===== -/
/-- f, but v at every address of l -/
def vr_up {α : Type} (f : Nat → α) (l : List Nat) (v : α) : Nat → α := fun a => if a ∈ l then v else f a
theorem vr_up_in {α : Type} {f : Nat → α} {l : List Nat} {v : α} {a : Nat} (h : a ∈ l) : vr_up f l v a = v := if_pos h
theorem vr_up_ne {α : Type} {f : Nat → α} {l : List Nat} {v : α} {a : Nat} (h : a ∉ l) : vr_up f l v a = f a := if_neg h
theorem vr_rows {L l : List Nat} {f : Nat → va_E} {e : va_E} (h : ∀ a, a ∈ l → a ∉ L) : va_pl L f ++ l.map (fun a => (a, e)) = va_pl (L ++ l) (vr_up f l e) := by
  unfold va_pl
  rw [List.map_append]
  congr 1
  · apply List.map_congr_left
    intro a ha
    rw [vr_up_ne (fun q => h a q ha)]
  · apply List.map_congr_left
    intro a ha
    rw [vr_up_in ha]
theorem vr_lay {X rows : va_W} {x : Nat × va_E} {pl : va_W} {D : va_G} {cl : List vw_C} {H : Heap} (hP : va_P D cl (((X ++ pl) ++ [x]) ++ rows) H) : va_P D cl ((X ++ [x]) ++ (pl ++ rows)) H := by
  rw [List.append_assoc (X ++ pl)] at hP
  have h := va_P.swap hP
  rw [← List.append_assoc X] at h
  have h2 := va_P.swap h
  rw [List.append_assoc (X ++ [x])] at h2
  exact h2
theorem vr_layD {X rows : va_W} {x : Nat × va_E} {pl : va_W} {A : Nat → Prop} (hD : va_D A (((X ++ pl) ++ [x]) ++ rows)) : va_D A ((X ++ [x]) ++ (pl ++ rows)) := by
  rw [List.append_assoc (X ++ pl)] at hD
  have h := va_D.swap hD
  rw [← List.append_assoc X] at h
  have h2 := va_D.swap h
  rw [List.append_assoc (X ++ [x])] at h2
  exact h2
theorem vr_outer (c : ClassId) (N h0 : Nat) : ∀ i : Nat, Jvm.Free.Multi.outerC c N h0 i = arrV c N (fun j => va_rf (if j < i then some (h0 + 1 + j) else none))
  | 0 => by
    show ({ cls := c, slots := Array.replicate N .null, vm := .none } : Cell) = _
    rw [arrV_new]
    refine congrArg (arrV c N) (funext fun j => ?_)
    simp [va_rf]
  | i + 1 => by
    show (Jvm.Free.Multi.outerC c N h0 i).setSlot i (.ref (h0 + 1 + i)) = _
    rw [vr_outer c N h0 i, arrV_store]
    refine congrArg (arrV c N) (funext fun j => ?_)
    by_cases e : j = i
    · subst e
      simp [updV, va_rf]
    · by_cases h : j < i
      · simp [updV, e, h, Nat.lt_succ_of_lt h]
      · simp [updV, e, h, show ¬ j < i + 1 by omega]
section VGM
variable {p : Program} {l : Launch} {e : Env} {R : Room} {s : State} {m : MethodId} {args : Array Value} {below : List Frame} {meth : Method} {c : Code} {H : Heap} {locs : List Loc} {cells slots : Nat} {Q : State → Prop}
variable {cc : ByteArray} {pc : Nat} {ls : Array Slot} {rest : List Value} {D : va_G} {cl : List vw_C} {A : Nat → Prop} {a : Nat} {tys : List (ClassId × FieldType)} {ws : va_W} {H0 : Heap}
theorem va_mna {X : va_W} {L : List Nat} {f : Nat → va_E} {cc : ByteArray} (hexec : p.tables.exec = Jvm.exec) (hb : c.code = cc) {own : String} {index : Nat} {ty : FieldType} {cy : ClassId} (hown : s.vm.findClass own = some m.cls) (hclink : (Cond.classLink own index ("[" ++ (FieldType.array ty).toString)).before args s = true) (hover : (Cond.arrayOver (.array ty)).before args s = true) (harr : (Cond.arrayClass ty).before args s = true) (hcy : s.vm.findClass (FieldType.array ty).toString = some cy)
    (hK : va_K D cl tys s) (hP : va_P D cl (X ++ va_pl L f) H) (hD : va_D A (X ++ va_pl L f)) (hS : va_S A H0 H locs) (hA : ∀ q, H0.size ≤ q → A q) {n k : Int32} {N' K' : Nat} {z : vp_A} (hn : ¬ n < 0) (hk : ¬ k < 0) (hN : n.toNatClampNeg = N') (hM : k.toNatClampNeg = K')
    (hb1 : N' * 4 ≤ 536870912) (hb2 : K' * componentBytes ty ≤ 536870912) (hb3 : K' ≤ 536870912) (hdf : fits ty (defaultValue ty) = true) (hdd : (defaultValue ty).isDefault = true) (hcells : cells + (1 + N') ≤ R.cells) (hslots : slots + (N' + N' * K') ≤ R.slots) (hz : ∀ c : ClassId, Jvm.Free.Multi.innerC c K' (defaultValue ty) = vp_cell c z) (hdg : decode cc pc = .ok (.multianewarray index 2, 4))
    (kk : ∀ (q : Nat) (r : Nat → Nat) (cA : ClassId) (H1 : Heap), (∀ i j : Nat, i < N' → j < N' → r i = r j → i = j) → (∀ i : Nat, i < N' → r i ∉ L) → va_K D cl (tys ++ [(cA, .array ty)]) s →
      va_P D cl ((X ++ [(q, .inl (cA, N', .inr (.inr (.inr (.inr (fun i => if i < N' then some (r i) else none))))))]) ++ va_pl (L ++ (List.range N').map r) (vr_up f ((List.range N').map r) (.inl (cy, z)))) H1 → va_D A ((X ++ [(q, .inl (cA, N', .inr (.inr (.inr (.inr (fun i => if i < N' then some (r i) else none))))))]) ++ va_pl (L ++ (List.range N').map r) (vr_up f ((List.range N').map r) (.inl (cy, z)))) → va_S A H0 H1 locs →
      W p l e R s m args below meth c H1 locs (cells + 1 + N') (slots + N' + N' * K') Q (F0 m (pc + 4) ls (.ref q :: rest))) : W p l e R s m args below meth c H locs cells slots Q (F0 m pc ls (.int k :: .int n :: rest)) := by
  subst hN
  subst hM
  intro T hT Xs
  obtain ⟨vm₁, cA, comp, -, fA, fC, hO, -, X', step⟩ := Xs.multianewarray2F hexec hown hclink hover harr (g := F0 m pc ls (.int k :: .int n :: rest)) rfl (by rw [hb]; exact hdg) rfl hn hk hb1 hb2 hb3 hdf hdd hcells hslots
  have ec : some cy = some comp := hcy.symm.trans fC
  cases ec
  generalize hF : Jvm.Free.Multi.fill (T.setVm vm₁) cA cy n.toNatClampNeg k.toNatClampNeg (defaultValue ty) n.toNatClampNeg = F at X' step
  have hTh : (T.setVm vm₁).heap = H := hT
  obtain ⟨f1, f2, -, -⟩ := Jvm.Free.Multi.fill_facts (T.setVm vm₁) cA cy n.toNatClampNeg k.toNatClampNeg (defaultValue ty) n.toNatClampNeg
  rw [hF, hTh] at f1 f2
  have hold : ∀ x : Nat, x < H.size → F.heap[x]? = H[x]? := fun x hx => by
    have := Jvm.Free.Multi.fill_old (T.setVm vm₁) cA cy n.toNatClampNeg k.toNatClampNeg (defaultValue ty) (a := x) (by rw [hTh]; exact hx) n.toNatClampNeg
    rw [hF, hTh] at this
    exact this
  have hrow : ∀ j : Nat, j < n.toNatClampNeg → F.heap[H.size + 1 + j]? = some (vp_cell cy z) := fun j hj => by
    have := Jvm.Free.Multi.fill_inner (T.setVm vm₁) cA cy n.toNatClampNeg k.toNatClampNeg (defaultValue ty) n.toNatClampNeg j hj
    rw [hF, hTh, hz] at this
    exact this
  have hout : Jvm.Free.Multi.outerC cA n.toNatClampNeg H.size n.toNatClampNeg = vp_cell cA (n.toNatClampNeg, .inr (.inr (.inr (.inr (fun i => if i < n.toNatClampNeg then some (H.size + 1 + i) else none))))) := by
    rw [vp_cell_q]
    exact vr_outer cA n.toNatClampNeg H.size n.toNatClampNeg
  rw [hout] at f2
  have hlt : ∀ a, a ∈ L → a < H.size := fun a ha => by
    obtain ⟨k9, hk9⟩ := va_pl_get (X := X) (f := f) ha
    exact (hP k9 _ hk9).lt
  have hnl : ∀ i : Nat, i < n.toNatClampNeg → H.size + 1 + i ∉ L := fun i _ h => by
    have := hlt _ h
    omega
  have hnm : ∀ a, a ∈ (List.range n.toNatClampNeg).map (fun i => H.size + 1 + i) → a ∉ L := fun a ha h => by
    obtain ⟨i, -, rfl⟩ := List.mem_map.mp ha
    have := hlt _ h
    omega
  have hP0 : va_P D cl (X ++ va_pl L f) F.heap := hP.kept (fun k9 x hx => hold x.1 ((hP k9 x hx).lt))
  have hP1 : va_P D cl ((X ++ va_pl L f) ++ [(H.size, .inl (cA, n.toNatClampNeg, .inr (.inr (.inr (.inr (fun i => if i < n.toNatClampNeg then some (H.size + 1 + i) else none))))))]) F.heap := hP0.app (fun k9 x hx => by
    have h0 : k9 < 1 := (List.getElem?_eq_some_iff.mp hx).1
    rw [show k9 = 0 by omega] at hx
    cases hx
    exact f2)
  have hP2 : va_P D cl (((X ++ va_pl L f) ++ [(H.size, .inl (cA, n.toNatClampNeg, .inr (.inr (.inr (.inr (fun i => if i < n.toNatClampNeg then some (H.size + 1 + i) else none))))))]) ++ ((List.range n.toNatClampNeg).map (fun i => H.size + 1 + i)).map (fun a => (a, .inl (cy, z)))) F.heap := hP1.app (fun k9 x hx => by
    obtain ⟨a, ha, rfl⟩ := List.mem_map.mp (List.mem_of_getElem? hx)
    obtain ⟨i, hi, rfl⟩ := List.mem_map.mp ha
    exact hrow i (List.mem_range.mp hi))
  have hD2 : va_D A (((X ++ va_pl L f) ++ [(H.size, .inl (cA, n.toNatClampNeg, .inr (.inr (.inr (.inr (fun i => if i < n.toNatClampNeg then some (H.size + 1 + i) else none))))))]) ++ ((List.range n.toNatClampNeg).map (fun i => H.size + 1 + i)).map (fun a => (a, .inl (cy, z)))) := by
    have hD1 := hD.push (e := .inl (cA, n.toNatClampNeg, .inr (.inr (.inr (.inr (fun i => if i < n.toNatClampNeg then some (H.size + 1 + i) else none)))))) hP rfl (hA _ hS.1)
    generalize hW1 : (X ++ va_pl L f) ++ [(H.size, .inl (cA, n.toNatClampNeg, .inr (.inr (.inr (.inr (fun i => if i < n.toNatClampNeg then some (H.size + 1 + i) else none))))))] = W1 at hD1 hP1 ⊢
    have hle : ∀ (k9 : Nat) (x : Nat × va_E), W1[k9]? = some x → x.1 ≤ H.size := fun k9 x hx => by
      rw [← hW1] at hx
      by_cases hl : k9 < (X ++ va_pl L f).length
      · rw [List.getElem?_append_left hl] at hx
        exact Nat.le_of_lt ((hP k9 x hx).lt)
      · rw [List.getElem?_append_right (by omega)] at hx
        have h0 : k9 - (X ++ va_pl L f).length < 1 := (List.getElem?_eq_some_iff.mp hx).1
        rw [show k9 - (X ++ va_pl L f).length = 0 by omega] at hx
        cases hx
        exact Nat.le_refl _
    have hr : ∀ (k9 : Nat) (x : Nat × va_E), (((List.range n.toNatClampNeg).map (fun i => H.size + 1 + i)).map (fun a => ((a, .inl (cy, z)) : Nat × va_E)))[k9]? = some x → x.1 = H.size + 1 + k9 := fun k9 x hx => by
      rw [List.getElem?_map, List.getElem?_map] at hx
      by_cases h9 : k9 < n.toNatClampNeg
      · rw [List.getElem?_range h9] at hx
        cases hx
        rfl
      · have hn0 : (List.range n.toNatClampNeg)[k9]? = none := List.getElem?_eq_none (by rw [List.length_range]; omega)
        rw [hn0] at hx
        cases hx
    refine ⟨fun i j x y hi hj hxy => ?_, fun k9 x hx => ?_⟩
    · by_cases h1 : i < W1.length <;> by_cases h2 : j < W1.length
      · rw [List.getElem?_append_left h1] at hi
        rw [List.getElem?_append_left h2] at hj
        exact hD1.1 i j x y hi hj hxy
      · rw [List.getElem?_append_left h1] at hi
        rw [List.getElem?_append_right (by omega)] at hj
        have := hle _ _ hi
        have := hr _ _ hj
        omega
      · rw [List.getElem?_append_right (by omega)] at hi
        rw [List.getElem?_append_left h2] at hj
        have := hle _ _ hj
        have := hr _ _ hi
        omega
      · rw [List.getElem?_append_right (by omega)] at hi hj
        have := hr _ _ hi
        have := hr _ _ hj
        omega
    · by_cases h1 : k9 < W1.length
      · rw [List.getElem?_append_left h1] at hx
        exact hD1.2 k9 x hx
      · rw [List.getElem?_append_right (by omega)] at hx
        have := hr _ _ hx
        exact hA _ (by have := hS.1; omega)
  have hAr : ArrOfT s cA (.array ty) := fun N9 z9 => by
    obtain ⟨-, k9, hk9, cm9, hkk9⟩ := (hO 0 0 0).1
    exact ⟨(fun q hq => by cases hq), k9, hk9, cm9, hkk9⟩
  have hK2 : va_K D cl (tys ++ [(cA, .array ty)]) s := ⟨hK.1, fun k9 x hx => by
    by_cases hl : k9 < tys.length
    · rw [List.getElem?_append_left hl] at hx
      exact hK.2 k9 x hx
    · rw [List.getElem?_append_right (by omega)] at hx
      have h0 : k9 - tys.length < 1 := (List.getElem?_eq_some_iff.mp hx).1
      rw [show k9 - tys.length = 0 by omega] at hx
      cases hx
      exact ⟨hAr, fA⟩⟩
  obtain ⟨t, a1, b1⟩ := kk H.size (fun i => H.size + 1 + i) cA F.heap (fun i j _ _ h => by have h9 : H.size + 1 + i = H.size + 1 + j := h; omega) hnl hK2 (by rw [← vr_rows hnm]; exact vr_lay hP2) (by rw [← vr_rows hnm]; exact vr_layD hD2) ⟨by rw [f1]; have := hS.1; omega, fun x h1 h2 => (hold x (Nat.lt_of_lt_of_le h1 hS.1)).trans (hS.2.1 x h1 h2), hS.2.2⟩ F rfl X'
  refine ⟨t, step t ?_, b1⟩
  have e : T.heap.size = H.size := by rw [hT]
  rw [e]
  exact a1
end VGM
/-! ===== END ===== -/
def RX0 : String := "PromiseTailor$Course"
def TX0 : u_T := fun k => match k with
  | 0 => ("PromiseTailor$Course", "folk", "LPromiseTailor$Folk;", true)
  | 1 => ("PromiseTailor$Course", "vows", "LPromiseTailor$Vows;", true)
  | 2 => ("PromiseTailor$Course", "keepings", "LPromiseTailor$Told;", true)
  | 3 => ("PromiseTailor$Course", "lies", "LPromiseTailor$Told;", true)
  | 4 => ("PromiseTailor$Course", "lettings", "LPromiseTailor$Told;", true)
  | 5 => ("PromiseTailor$Course", "keys", "[I", true)
  | 6 => ("PromiseTailor$Course", "subjects", "[I", true)
  | 7 => ("PromiseTailor$Course", "lengths", "[I", true)
  | 8 => ("PromiseTailor$Course", "rips", "[I", true)
  | 9 => ("PromiseTailor$Course", "standing", "[I", true)
  | 10 => ("PromiseTailor$Course", "acts", "I", false)
  | 11 => ("PromiseTailor$Course", "next", "I", false)
  | 12 => ("PromiseTailor$Course", "unkept", "I", false)
  | 13 => ("PromiseTailor$Course", "hushed", "I", false)
  | _ => ("PromiseTailor$Course", "chosen", "LPromiseTailor$Told;", false)
def tyX0 : Nat → FieldType := fun k => match k with
  | 0 => .object "PromiseTailor$Folk"
  | 1 => .object "PromiseTailor$Vows"
  | 2 => .object "PromiseTailor$Told"
  | 3 => .object "PromiseTailor$Told"
  | 4 => .object "PromiseTailor$Told"
  | 5 => .array .int
  | 6 => .array .int
  | 7 => .array .int
  | 8 => .array .int
  | 9 => .array .int
  | 10 => .int
  | 11 => .int
  | 12 => .int
  | 13 => .int
  | _ => .object "PromiseTailor$Told"
theorem nmX0 : ∀ a, a < 15 → ∀ b, b < 15 → a ≠ b → (TX0 a).2.1 ≠ (TX0 b).2.1 := by decide +kernel
theorem tyX0_ok : ∀ k, k < 15 → parseFieldDescriptor (TX0 k).2.2.1 = some (tyX0 k) := by decide +kernel
abbrev cX0_init : ByteArray := prog_2_method_1_code
def yX0_init : MethodName := ⟨RX0, "<init>", "()V"⟩
abbrev cX0_arrange : ByteArray := prog_2_method_2_code
def yX0_arrange : MethodName := ⟨RX0, "arrange", "(LPromiseTailor$Told;)V"⟩
abbrev cX0_enterAll : ByteArray := prog_2_method_3_code
def yX0_enterAll : MethodName := ⟨RX0, "enterAll", "(LPromiseTailor$Told;I)V"⟩
abbrev cX0_enter : ByteArray := prog_2_method_4_code
def yX0_enter : MethodName := ⟨RX0, "enter", "(III)V"⟩
abbrev cX0_begin : ByteArray := prog_2_method_5_code
def yX0_begin : MethodName := ⟨RX0, "begin", "()V"⟩
abbrev cX0_advance : ByteArray := prog_2_method_6_code
def yX0_advance : MethodName := ⟨RX0, "advance", "(I)V"⟩
abbrev cX0_gain : ByteArray := prog_2_method_7_code
def yX0_gain : MethodName := ⟨RX0, "gain", "(I)I"⟩
abbrev cX0_fulfil : ByteArray := prog_2_method_8_code
def yX0_fulfil : MethodName := ⟨RX0, "fulfil", "(I)V"⟩
abbrev cX0_fail : ByteArray := prog_2_method_9_code
def yX0_fail : MethodName := ⟨RX0, "fail", "(I)V"⟩
abbrev cX0_lengthen : ByteArray := prog_2_method_10_code
def yX0_lengthen : MethodName := ⟨RX0, "lengthen", "(II)V"⟩
abbrev cX0_shorten : ByteArray := prog_2_method_11_code
def yX0_shorten : MethodName := ⟨RX0, "shorten", "(II)V"⟩
abbrev cX0_fits : ByteArray := prog_2_method_12_code
def yX0_fits : MethodName := ⟨RX0, "fits", "(I)Z"⟩
abbrev cX0_fittingBits : ByteArray := prog_2_method_13_code
def yX0_fittingBits : MethodName := ⟨RX0, "fittingBits", "()I"⟩
abbrev cX0_nakedBits : ByteArray := prog_2_method_14_code
def yX0_nakedBits : MethodName := ⟨RX0, "nakedBits", "()I"⟩
abbrev cX0_allRips : ByteArray := prog_2_method_15_code
def yX0_allRips : MethodName := ⟨RX0, "allRips", "()I"⟩
abbrev cX0_showsAll : ByteArray := prog_2_method_16_code
def yX0_showsAll : MethodName := ⟨RX0, "showsAll", "(LPromiseTailor$Told;)Z"⟩
abbrev cX0_showsBehind : ByteArray := prog_2_method_17_code
def yX0_showsBehind : MethodName := ⟨RX0, "showsBehind", "(ILPromiseTailor$Told;)Z"⟩
def RX1 : String := "PromiseTailor$Folk"
def TX1 : u_T := fun k => match k with
  | 0 => ("PromiseTailor$Folk", "sorts", "[I", true)
  | 1 => ("PromiseTailor$Folk", "sizes", "[I", true)
  | _ => ("PromiseTailor$Folk", "size", "I", false)
def tyX1 : Nat → FieldType := fun k => match k with
  | 0 => .array .int
  | 1 => .array .int
  | _ => .int
theorem nmX1 : ∀ a, a < 3 → ∀ b, b < 3 → a ≠ b → (TX1 a).2.1 ≠ (TX1 b).2.1 := by decide +kernel
theorem tyX1_ok : ∀ k, k < 3 → parseFieldDescriptor (TX1 k).2.2.1 = some (tyX1 k) := by decide +kernel
abbrev cX1_init : ByteArray := prog_3_method_1_code
def yX1_init : MethodName := ⟨RX1, "<init>", "()V"⟩
abbrev cX1_has : ByteArray := prog_3_method_2_code
def yX1_has : MethodName := ⟨RX1, "has", "(I)Z"⟩
abbrev cX1_take : ByteArray := prog_3_method_3_code
def yX1_take : MethodName := ⟨RX1, "take", "(LPromiseTailor$Text;)V"⟩
def RX2 : String := "PromiseTailor$Sheets"
def TX2 : u_T := fun k => match k with
  | 0 => ("PromiseTailor$Sheets", "rows", "[[I", true)
  | 1 => ("PromiseTailor$Sheets", "lengths", "[I", true)
  | _ => ("PromiseTailor$Sheets", "forms", "[I", true)
def tyX2 : Nat → FieldType := fun k => match k with
  | 0 => .array (.array .int)
  | 1 => .array .int
  | _ => .array .int
theorem nmX2 : ∀ a, a < 3 → ∀ b, b < 3 → a ≠ b → (TX2 a).2.1 ≠ (TX2 b).2.1 := by decide +kernel
theorem tyX2_ok : ∀ k, k < 3 → parseFieldDescriptor (TX2 k).2.2.1 = some (tyX2 k) := by decide +kernel
abbrev cX2_init : ByteArray := prog_4_method_1_code
def yX2_init : MethodName := ⟨RX2, "<init>", "()V"⟩
abbrev cX2_isSheet : ByteArray := prog_4_method_2_code
def yX2_isSheet : MethodName := ⟨RX2, "isSheet", "(I)Z"⟩
abbrev cX2_isForm : ByteArray := prog_4_method_3_code
def yX2_isForm : MethodName := ⟨RX2, "isForm", "(I)Z"⟩
abbrev cX2_isLost : ByteArray := prog_4_method_4_code
def yX2_isLost : MethodName := ⟨RX2, "isLost", "(I)Z"⟩
abbrev cX2_lay : ByteArray := prog_4_method_5_code
def yX2_lay : MethodName := ⟨RX2, "lay", "(III)V"⟩
abbrev cX2_findingAt : ByteArray := prog_4_method_6_code
def yX2_findingAt : MethodName := ⟨RX2, "findingAt", "(III)I"⟩
abbrev cX2_hasItems : ByteArray := prog_4_method_7_code
def yX2_hasItems : MethodName := ⟨RX2, "hasItems", "(III)Z"⟩
abbrev cX2_store : ByteArray := prog_4_method_8_code
def yX2_store : MethodName := ⟨RX2, "store", "(III)V"⟩
def RX3 : String := "PromiseTailor$Text"
def TX3 : u_T := fun k => match k with
  | 0 => ("PromiseTailor$Text", "bytes", "[I", true)
  | 1 => ("PromiseTailor$Text", "room", "I", true)
  | 2 => ("PromiseTailor$Text", "ofPromises", "Z", true)
  | _ => ("PromiseTailor$Text", "length", "I", false)
def tyX3 : Nat → FieldType := fun k => match k with
  | 0 => .array .int
  | 1 => .int
  | 2 => .boolean
  | _ => .int
theorem nmX3 : ∀ a, a < 4 → ∀ b, b < 4 → a ≠ b → (TX3 a).2.1 ≠ (TX3 b).2.1 := by decide +kernel
theorem tyX3_ok : ∀ k, k < 4 → parseFieldDescriptor (TX3 k).2.2.1 = some (tyX3 k) := by decide +kernel
abbrev cX3_init : ByteArray := prog_5_method_1_code
def yX3_init : MethodName := ⟨RX3, "<init>", "(IZ)V"⟩
abbrev cX3_append : ByteArray := prog_5_method_2_code
def yX3_append : MethodName := ⟨RX3, "append", "(I)Z"⟩
abbrev cX3_firstFault : ByteArray := prog_5_method_3_code
def yX3_firstFault : MethodName := ⟨RX3, "firstFault", "()I"⟩
abbrev cX3_goesOnInPeople : ByteArray := prog_5_method_4_code
def yX3_goesOnInPeople : MethodName := ⟨RX3, "goesOnInPeople", "(II)Z"⟩
abbrev cX3_goesOnInPromises : ByteArray := prog_5_method_5_code
def yX3_goesOnInPromises : MethodName := ⟨RX3, "goesOnInPromises", "(II)Z"⟩
def RX4 : String := "PromiseTailor$Told"
def TX4 : u_T := fun k => match k with
  | 0 => ("PromiseTailor$Told", "days", "[I", true)
  | 1 => ("PromiseTailor$Told", "subjects", "[I", true)
  | 2 => ("PromiseTailor$Told", "much", "[I", true)
  | 3 => ("PromiseTailor$Told", "room", "I", true)
  | _ => ("PromiseTailor$Told", "size", "I", false)
def tyX4 : Nat → FieldType := fun k => match k with
  | 0 => .array .int
  | 1 => .array .int
  | 2 => .array .int
  | 3 => .int
  | _ => .int
theorem nmX4 : ∀ a, a < 5 → ∀ b, b < 5 → a ≠ b → (TX4 a).2.1 ≠ (TX4 b).2.1 := by decide +kernel
theorem tyX4_ok : ∀ k, k < 5 → parseFieldDescriptor (TX4 k).2.2.1 = some (tyX4 k) := by decide +kernel
abbrev cX4_init : ByteArray := prog_6_method_1_code
def yX4_init : MethodName := ⟨RX4, "<init>", "(I)V"⟩
abbrev cX4_isFull : ByteArray := prog_6_method_2_code
def yX4_isFull : MethodName := ⟨RX4, "isFull", "()Z"⟩
abbrev cX4_add : ByteArray := prog_6_method_3_code
def yX4_add : MethodName := ⟨RX4, "add", "(III)I"⟩
abbrev cX4_dropLast : ByteArray := prog_6_method_4_code
def yX4_dropLast : MethodName := ⟨RX4, "dropLast", "()I"⟩
def RX5 : String := "PromiseTailor$Vows"
def TX5 : u_T := fun k => match k with
  | 0 => ("PromiseTailor$Vows", "whose", "[I", true)
  | 1 => ("PromiseTailor$Vows", "great", "[I", true)
  | 2 => ("PromiseTailor$Vows", "made", "[I", true)
  | 3 => ("PromiseTailor$Vows", "dues", "[I", true)
  | _ => ("PromiseTailor$Vows", "size", "I", false)
def tyX5 : Nat → FieldType := fun k => match k with
  | 0 => .array .int
  | 1 => .array .int
  | 2 => .array .int
  | 3 => .array .int
  | _ => .int
theorem nmX5 : ∀ a, a < 5 → ∀ b, b < 5 → a ≠ b → (TX5 a).2.1 ≠ (TX5 b).2.1 := by decide +kernel
theorem tyX5_ok : ∀ k, k < 5 → parseFieldDescriptor (TX5 k).2.2.1 = some (tyX5 k) := by decide +kernel
abbrev cX5_init : ByteArray := prog_7_method_1_code
def yX5_init : MethodName := ⟨RX5, "<init>", "()V"⟩
abbrev cX5_has : ByteArray := prog_7_method_2_code
def yX5_has : MethodName := ⟨RX5, "has", "(I)Z"⟩
abbrev cX5_take : ByteArray := prog_7_method_3_code
def yX5_take : MethodName := ⟨RX5, "take", "(LPromiseTailor$Text;)V"⟩
abbrev cX5_add : ByteArray := prog_7_method_4_code
def yX5_add : MethodName := ⟨RX5, "add", "(IIII)V"⟩
abbrev cX5_dropLast : ByteArray := prog_7_method_5_code
def yX5_dropLast : MethodName := ⟨RX5, "dropLast", "()V"⟩
def RX6 : String := "PromiseTailor"
def TX6 : u_T := fun k => match k with
  | 0 => ("PromiseTailor", "peopleText", "LPromiseTailor$Text;", true)
  | 1 => ("PromiseTailor", "promisesText", "LPromiseTailor$Text;", true)
  | 2 => ("PromiseTailor", "course", "LPromiseTailor$Course;", true)
  | 3 => ("PromiseTailor", "folk", "LPromiseTailor$Folk;", true)
  | 4 => ("PromiseTailor", "vows", "LPromiseTailor$Vows;", true)
  | 5 => ("PromiseTailor", "keepings", "LPromiseTailor$Told;", true)
  | 6 => ("PromiseTailor", "lies", "LPromiseTailor$Told;", true)
  | 7 => ("PromiseTailor", "lettings", "LPromiseTailor$Told;", true)
  | 8 => ("PromiseTailor", "sightings", "LPromiseTailor$Told;", true)
  | 9 => ("PromiseTailor", "drawn", "LPromiseTailor$Told;", true)
  | 10 => ("PromiseTailor", "sheets", "LPromiseTailor$Sheets;", true)
  | 11 => ("PromiseTailor", "coatBySize", "[[I", true)
  | _ => ("PromiseTailor", "latestFinding", "I", false)
def tyX6 : Nat → FieldType := fun k => match k with
  | 0 => .object "PromiseTailor$Text"
  | 1 => .object "PromiseTailor$Text"
  | 2 => .object "PromiseTailor$Course"
  | 3 => .object "PromiseTailor$Folk"
  | 4 => .object "PromiseTailor$Vows"
  | 5 => .object "PromiseTailor$Told"
  | 6 => .object "PromiseTailor$Told"
  | 7 => .object "PromiseTailor$Told"
  | 8 => .object "PromiseTailor$Told"
  | 9 => .object "PromiseTailor$Told"
  | 10 => .object "PromiseTailor$Sheets"
  | 11 => .array (.array .int)
  | _ => .int
theorem nmX6 : ∀ a, a < 13 → ∀ b, b < 13 → a ≠ b → (TX6 a).2.1 ≠ (TX6 b).2.1 := by decide +kernel
theorem tyX6_ok : ∀ k, k < 13 → parseFieldDescriptor (TX6 k).2.2.1 = some (tyX6 k) := by decide +kernel
abbrev cX6_init : ByteArray := prog_1_method_1_code
def yX6_init : MethodName := ⟨RX6, "<init>", "()V"⟩
abbrev cX6_type : ByteArray := prog_1_method_2_code
def yX6_type : MethodName := ⟨RX6, "type", "(II)I"⟩
abbrev cX6_wipe : ByteArray := prog_1_method_3_code
def yX6_wipe : MethodName := ⟨RX6, "wipe", "(I)I"⟩
abbrev cX6_undo : ByteArray := prog_1_method_4_code
def yX6_undo : MethodName := ⟨RX6, "undo", "(I)I"⟩
abbrev cX6_fault : ByteArray := prog_1_method_5_code
def yX6_fault : MethodName := ⟨RX6, "fault", "(I)I"⟩
abbrev cX6_person : ByteArray := prog_1_method_6_code
def yX6_person : MethodName := ⟨RX6, "person", "(II)I"⟩
abbrev cX6_promise : ByteArray := prog_1_method_7_code
def yX6_promise : MethodName := ⟨RX6, "promise", "(II)I"⟩
abbrev cX6_keeping : ByteArray := prog_1_method_8_code
def yX6_keeping : MethodName := ⟨RX6, "keeping", "(II)I"⟩
abbrev cX6_lie : ByteArray := prog_1_method_9_code
def yX6_lie : MethodName := ⟨RX6, "lie", "(III)I"⟩
abbrev cX6_letting : ByteArray := prog_1_method_10_code
def yX6_letting : MethodName := ⟨RX6, "letting", "(III)I"⟩
abbrev cX6_back : ByteArray := prog_1_method_11_code
def yX6_back : MethodName := ⟨RX6, "back", "(I)I"⟩
abbrev cX6_read : ByteArray := prog_1_method_12_code
def yX6_read : MethodName := ⟨RX6, "read", "(I)I"⟩
abbrev cX6_coat : ByteArray := prog_1_method_13_code
def yX6_coat : MethodName := ⟨RX6, "coat", "(III)I"⟩
abbrev cX6_stands : ByteArray := prog_1_method_14_code
def yX6_stands : MethodName := ⟨RX6, "stands", "(II)I"⟩
abbrev cX6_neat : ByteArray := prog_1_method_15_code
def yX6_neat : MethodName := ⟨RX6, "neat", "(I)I"⟩
abbrev cX6_naked : ByteArray := prog_1_method_16_code
def yX6_naked : MethodName := ⟨RX6, "naked", "(I)I"⟩
abbrev cX6_longest : ByteArray := prog_1_method_17_code
def yX6_longest : MethodName := ⟨RX6, "longest", "(I)I"⟩
abbrev cX6_splits : ByteArray := prog_1_method_18_code
def yX6_splits : MethodName := ⟨RX6, "splits", "()I"⟩
abbrev cX6_best : ByteArray := prog_1_method_19_code
def yX6_best : MethodName := ⟨RX6, "best", "()I"⟩
abbrev cX6_swear : ByteArray := prog_1_method_20_code
def yX6_swear : MethodName := ⟨RX6, "swear", "(II)I"⟩
abbrev cX6_keep : ByteArray := prog_1_method_21_code
def yX6_keep : MethodName := ⟨RX6, "keep", "(II)I"⟩
abbrev cX6_due : ByteArray := prog_1_method_22_code
def yX6_due : MethodName := ⟨RX6, "due", "(II)I"⟩
abbrev cX6_hush : ByteArray := prog_1_method_23_code
def yX6_hush : MethodName := ⟨RX6, "hush", "(I)I"⟩
abbrev cX6_seen : ByteArray := prog_1_method_24_code
def yX6_seen : MethodName := ⟨RX6, "seen", "(III)I"⟩
abbrev cX6_forget : ByteArray := prog_1_method_25_code
def yX6_forget : MethodName := ⟨RX6, "forget", "()I"⟩
abbrev cX6_never : ByteArray := prog_1_method_26_code
def yX6_never : MethodName := ⟨RX6, "never", "()I"⟩
abbrev cX6_was : ByteArray := prog_1_method_27_code
def yX6_was : MethodName := ⟨RX6, "was", "(II)I"⟩
abbrev cX6_ask : ByteArray := prog_1_method_28_code
def yX6_ask : MethodName := ⟨RX6, "ask", "(I)I"⟩
abbrev cX6_word : ByteArray := prog_1_method_29_code
def yX6_word : MethodName := ⟨RX6, "word", "(IIII)J"⟩
abbrev cX6_year : ByteArray := prog_1_method_30_code
def yX6_year : MethodName := ⟨RX6, "year", "(III)I"⟩
abbrev cX6_sheet : ByteArray := prog_1_method_31_code
def yX6_sheet : MethodName := ⟨RX6, "sheet", "(III)I"⟩
abbrev cX6_lose : ByteArray := prog_1_method_32_code
def yX6_lose : MethodName := ⟨RX6, "lose", "(I)I"⟩
abbrev cX6_put : ByteArray := prog_1_method_33_code
def yX6_put : MethodName := ⟨RX6, "put", "(IIII)I"⟩
abbrev cX6_get : ByteArray := prog_1_method_34_code
def yX6_get : MethodName := ⟨RX6, "get", "(III)I"⟩
abbrev cX6_copy : ByteArray := prog_1_method_35_code
def yX6_copy : MethodName := ⟨RX6, "copy", "(IIIII)I"⟩
abbrev cX6_write : ByteArray := prog_1_method_36_code
def yX6_write : MethodName := ⟨RX6, "write", "(II)I"⟩
abbrev cX6_count : ByteArray := prog_1_method_37_code
def yX6_count : MethodName := ⟨RX6, "count", "(I)I"⟩
abbrev cX6_digest : ByteArray := prog_1_method_38_code
def yX6_digest : MethodName := ⟨RX6, "digest", "()J"⟩
abbrev cX6_isUpTo : ByteArray := prog_1_method_39_code
def yX6_isUpTo : MethodName := ⟨RX6, "isUpTo", "(II)Z"⟩
abbrev cX6_isText : ByteArray := prog_1_method_40_code
def yX6_isText : MethodName := ⟨RX6, "isText", "(I)Z"⟩
abbrev cX6_isDay : ByteArray := prog_1_method_41_code
def yX6_isDay : MethodName := ⟨RX6, "isDay", "(I)Z"⟩
abbrev cX6_isGreat : ByteArray := prog_1_method_42_code
def yX6_isGreat : MethodName := ⟨RX6, "isGreat", "(I)Z"⟩
abbrev cX6_mayBePerson : ByteArray := prog_1_method_43_code
def yX6_mayBePerson : MethodName := ⟨RX6, "mayBePerson", "(I)Z"⟩
abbrev cX6_mayBeKeeping : ByteArray := prog_1_method_44_code
def yX6_mayBeKeeping : MethodName := ⟨RX6, "mayBeKeeping", "(II)Z"⟩
abbrev cX6_textOf : ByteArray := prog_1_method_45_code
def yX6_textOf : MethodName := ⟨RX6, "textOf", "(I)LPromiseTailor$Text;"⟩
abbrev cX6_takeTexts : ByteArray := prog_1_method_46_code
def yX6_takeTexts : MethodName := ⟨RX6, "takeTexts", "()V"⟩
abbrev cX6_found : ByteArray := prog_1_method_47_code
def yX6_found : MethodName := ⟨RX6, "found", "(I)I"⟩
abbrev cX6_liveUntil : ByteArray := prog_1_method_48_code
def yX6_liveUntil : MethodName := ⟨RX6, "liveUntil", "(I)V"⟩
abbrev cX6_liesToHush : ByteArray := prog_1_method_49_code
def yX6_liesToHush : MethodName := ⟨RX6, "liesToHush", "()I"⟩
abbrev cX6_leavesNobodyNaked : ByteArray := prog_1_method_50_code
def yX6_leavesNobodyNaked : MethodName := ⟨RX6, "leavesNobodyNaked", "(I)Z"⟩
abbrev cX6_fittingValues : ByteArray := prog_1_method_51_code
def yX6_fittingValues : MethodName := ⟨RX6, "fittingValues", "([III)I"⟩
abbrev cX6_noteCoatsBySize : ByteArray := prog_1_method_52_code
def yX6_noteCoatsBySize : MethodName := ⟨RX6, "noteCoatsBySize", "(I)V"⟩
abbrev cX6_mostAlike : ByteArray := prog_1_method_53_code
def yX6_mostAlike : MethodName := ⟨RX6, "mostAlike", "(II)I"⟩
abbrev cX6_keepingsOf : ByteArray := prog_1_method_54_code
def yX6_keepingsOf : MethodName := ⟨RX6, "keepingsOf", "(I)I"⟩
abbrev cX6_weight : ByteArray := prog_1_method_55_code
def yX6_weight : MethodName := ⟨RX6, "weight", "(III)J"⟩
abbrev cX6_drawKeepings : ByteArray := prog_1_method_56_code
def yX6_drawKeepings : MethodName := ⟨RX6, "drawKeepings", "(II)V"⟩
abbrev cX6_nextSeed : ByteArray := prog_1_method_57_code
def yX6_nextSeed : MethodName := ⟨RX6, "nextSeed", "(I)I"⟩
abbrev cX6_mixed : ByteArray := prog_1_method_58_code
def yX6_mixed : MethodName := ⟨RX6, "mixed", "(JJ)J"⟩
abbrev cX6_withPromise : ByteArray := prog_1_method_59_code
def yX6_withPromise : MethodName := ⟨RX6, "withPromise", "(JI)J"⟩
abbrev cX6_withPerson : ByteArray := prog_1_method_60_code
def yX6_withPerson : MethodName := ⟨RX6, "withPerson", "(JI)J"⟩
abbrev cX6_withCoat : ByteArray := prog_1_method_61_code
def yX6_withCoat : MethodName := ⟨RX6, "withCoat", "(JII)J"⟩
def RX7 : String := "PromiseTailorModel"
def TX7 : u_T := fun k => match k with
  | 0 => ("PromiseTailorModel", "typed", "[I", true)
  | 1 => ("PromiseTailorModel", "texts", "[I", true)
  | 2 => ("PromiseTailorModel", "people", "I", false)
  | 3 => ("PromiseTailorModel", "sorts", "[I", true)
  | 4 => ("PromiseTailorModel", "measures", "[I", true)
  | 5 => ("PromiseTailorModel", "promises", "I", false)
  | 6 => ("PromiseTailorModel", "whose", "[I", true)
  | 7 => ("PromiseTailorModel", "greats", "[I", true)
  | 8 => ("PromiseTailorModel", "mades", "[I", true)
  | 9 => ("PromiseTailorModel", "dues", "[I", true)
  | 10 => ("PromiseTailorModel", "keepings", "I", false)
  | 11 => ("PromiseTailorModel", "keepDay", "[I", true)
  | 12 => ("PromiseTailorModel", "keepOf", "[I", true)
  | 13 => ("PromiseTailorModel", "lies", "I", false)
  | 14 => ("PromiseTailorModel", "lieDay", "[I", true)
  | 15 => ("PromiseTailorModel", "lieWho", "[I", true)
  | 16 => ("PromiseTailorModel", "lieMuch", "[I", true)
  | 17 => ("PromiseTailorModel", "lettings", "I", false)
  | 18 => ("PromiseTailorModel", "letDay", "[I", true)
  | 19 => ("PromiseTailorModel", "letWho", "[I", true)
  | 20 => ("PromiseTailorModel", "letMuch", "[I", true)
  | 21 => ("PromiseTailorModel", "promisesNow", "I", false)
  | 22 => ("PromiseTailorModel", "keepsNow", "I", false)
  | 23 => ("PromiseTailorModel", "dayNow", "[I", true)
  | 24 => ("PromiseTailorModel", "ofNow", "[I", true)
  | 25 => ("PromiseTailorModel", "notKeeps", "I", false)
  | 26 => ("PromiseTailorModel", "notLies", "I", false)
  | 27 => ("PromiseTailorModel", "coats", "[I", true)
  | 28 => ("PromiseTailorModel", "tears", "[I", true)
  | 29 => ("PromiseTailorModel", "states", "[I", true)
  | 30 => ("PromiseTailorModel", "coatAt", "[I", true)
  | 31 => ("PromiseTailorModel", "tearAt", "[I", true)
  | 32 => ("PromiseTailorModel", "stateAt", "[I", true)
  | 33 => ("PromiseTailorModel", "planRow", "[I", true)
  | 34 => ("PromiseTailorModel", "seens", "I", false)
  | 35 => ("PromiseTailorModel", "seenDay", "[I", true)
  | 36 => ("PromiseTailorModel", "seenWho", "[I", true)
  | 37 => ("PromiseTailorModel", "seenMuch", "[I", true)
  | 38 => ("PromiseTailorModel", "coatBy", "[I", true)
  | 39 => ("PromiseTailorModel", "isThere", "[Z", true)
  | 40 => ("PromiseTailorModel", "forms", "[I", true)
  | 41 => ("PromiseTailorModel", "sizes", "[I", true)
  | 42 => ("PromiseTailorModel", "items", "[I", true)
  | 43 => ("PromiseTailorModel", "moved", "[I", true)
  | _ => ("PromiseTailorModel", "finding", "I", false)
def tyX7 : Nat → FieldType := fun k => match k with
  | 0 => .array .int
  | 1 => .array .int
  | 2 => .int
  | 3 => .array .int
  | 4 => .array .int
  | 5 => .int
  | 6 => .array .int
  | 7 => .array .int
  | 8 => .array .int
  | 9 => .array .int
  | 10 => .int
  | 11 => .array .int
  | 12 => .array .int
  | 13 => .int
  | 14 => .array .int
  | 15 => .array .int
  | 16 => .array .int
  | 17 => .int
  | 18 => .array .int
  | 19 => .array .int
  | 20 => .array .int
  | 21 => .int
  | 22 => .int
  | 23 => .array .int
  | 24 => .array .int
  | 25 => .int
  | 26 => .int
  | 27 => .array .int
  | 28 => .array .int
  | 29 => .array .int
  | 30 => .array .int
  | 31 => .array .int
  | 32 => .array .int
  | 33 => .array .int
  | 34 => .int
  | 35 => .array .int
  | 36 => .array .int
  | 37 => .array .int
  | 38 => .array .int
  | 39 => .array .boolean
  | 40 => .array .int
  | 41 => .array .int
  | 42 => .array .int
  | 43 => .array .int
  | _ => .int
theorem nmX7 : ∀ a, a < 45 → ∀ b, b < 45 → a ≠ b → (TX7 a).2.1 ≠ (TX7 b).2.1 := by decide +kernel
theorem tyX7_ok : ∀ k, k < 45 → parseFieldDescriptor (TX7 k).2.2.1 = some (tyX7 k) := by decide +kernel
abbrev cX7_init : ByteArray := prog_9_method_1_code
def yX7_init : MethodName := ⟨RX7, "<init>", "()V"⟩
abbrev cX7_in : ByteArray := prog_9_method_3_code
def yX7_in : MethodName := ⟨RX7, "in", "(III)Z"⟩
abbrev cX7_isIn : ByteArray := prog_9_method_4_code
def yX7_isIn : MethodName := ⟨RX7, "isIn", "(II)Z"⟩
abbrev cX7_no : ByteArray := prog_9_method_5_code
def yX7_no : MethodName := ⟨RX7, "no", "(I)J"⟩
abbrev cX7_lowest : ByteArray := prog_9_method_6_code
def yX7_lowest : MethodName := ⟨RX7, "lowest", "(JJI)J"⟩
abbrev cX7_isText : ByteArray := prog_9_method_7_code
def yX7_isText : MethodName := ⟨RX7, "isText", "(I)Z"⟩
abbrev cX7_isDay : ByteArray := prog_9_method_8_code
def yX7_isDay : MethodName := ⟨RX7, "isDay", "(I)Z"⟩
abbrev cX7_isEight : ByteArray := prog_9_method_9_code
def yX7_isEight : MethodName := ⟨RX7, "isEight", "(I)Z"⟩
abbrev cX7_type : ByteArray := prog_9_method_10_code
def yX7_type : MethodName := ⟨RX7, "type", "(II)I"⟩
abbrev cX7_wipe : ByteArray := prog_9_method_11_code
def yX7_wipe : MethodName := ⟨RX7, "wipe", "(I)I"⟩
abbrev cX7_undo : ByteArray := prog_9_method_12_code
def yX7_undo : MethodName := ⟨RX7, "undo", "(I)I"⟩
abbrev cX7_byteAt : ByteArray := prog_9_method_13_code
def yX7_byteAt : MethodName := ⟨RX7, "byteAt", "(II)I"⟩
abbrev cX7_readsPerson : ByteArray := prog_9_method_14_code
def yX7_readsPerson : MethodName := ⟨RX7, "readsPerson", "(II)I"⟩
abbrev cX7_readsPromise : ByteArray := prog_9_method_15_code
def yX7_readsPromise : MethodName := ⟨RX7, "readsPromise", "(II)I"⟩
abbrev cX7_readsParts : ByteArray := prog_9_method_16_code
def yX7_readsParts : MethodName := ⟨RX7, "readsParts", "(I)I"⟩
abbrev cX7_faultOf : ByteArray := prog_9_method_17_code
def yX7_faultOf : MethodName := ⟨RX7, "faultOf", "(I)I"⟩
abbrev cX7_reads : ByteArray := prog_9_method_18_code
def yX7_reads : MethodName := ⟨RX7, "reads", "()V"⟩
abbrev cX7_fault : ByteArray := prog_9_method_19_code
def yX7_fault : MethodName := ⟨RX7, "fault", "(I)I"⟩
abbrev cX7_isPerson : ByteArray := prog_9_method_20_code
def yX7_isPerson : MethodName := ⟨RX7, "isPerson", "(I)Z"⟩
abbrev cX7_isPromise : ByteArray := prog_9_method_21_code
def yX7_isPromise : MethodName := ⟨RX7, "isPromise", "(I)Z"⟩
abbrev cX7_personOf : ByteArray := prog_9_method_22_code
def yX7_personOf : MethodName := ⟨RX7, "personOf", "(II)I"⟩
abbrev cX7_person : ByteArray := prog_9_method_23_code
def yX7_person : MethodName := ⟨RX7, "person", "(II)I"⟩
abbrev cX7_promiseOf : ByteArray := prog_9_method_24_code
def yX7_promiseOf : MethodName := ⟨RX7, "promiseOf", "(II)I"⟩
abbrev cX7_promise : ByteArray := prog_9_method_25_code
def yX7_promise : MethodName := ⟨RX7, "promise", "(II)I"⟩
abbrev cX7_keeping : ByteArray := prog_9_method_26_code
def yX7_keeping : MethodName := ⟨RX7, "keeping", "(II)I"⟩
abbrev cX7_lie : ByteArray := prog_9_method_27_code
def yX7_lie : MethodName := ⟨RX7, "lie", "(III)I"⟩
abbrev cX7_letting : ByteArray := prog_9_method_28_code
def yX7_letting : MethodName := ⟨RX7, "letting", "(III)I"⟩
abbrev cX7_back : ByteArray := prog_9_method_29_code
def yX7_back : MethodName := ⟨RX7, "back", "(I)I"⟩
abbrev cX7_read : ByteArray := prog_9_method_30_code
def yX7_read : MethodName := ⟨RX7, "read", "(I)I"⟩
abbrev cX7_asTold : ByteArray := prog_9_method_31_code
def yX7_asTold : MethodName := ⟨RX7, "asTold", "()V"⟩
abbrev cX7_changes : ByteArray := prog_9_method_32_code
def yX7_changes : MethodName := ⟨RX7, "changes", "(II)V"⟩
abbrev cX7_lengthOf : ByteArray := prog_9_method_33_code
def yX7_lengthOf : MethodName := ⟨RX7, "lengthOf", "(I)I"⟩
abbrev cX7_makes : ByteArray := prog_9_method_34_code
def yX7_makes : MethodName := ⟨RX7, "makes", "(I)V"⟩
abbrev cX7_isKept : ByteArray := prog_9_method_35_code
def yX7_isKept : MethodName := ⟨RX7, "isKept", "(I)V"⟩
abbrev cX7_keepsOn : ByteArray := prog_9_method_36_code
def yX7_keepsOn : MethodName := ⟨RX7, "keepsOn", "(I)V"⟩
abbrev cX7_breaks : ByteArray := prog_9_method_37_code
def yX7_breaks : MethodName := ⟨RX7, "breaks", "(I)V"⟩
abbrev cX7_goesBy : ByteArray := prog_9_method_38_code
def yX7_goesBy : MethodName := ⟨RX7, "goesBy", "(I)V"⟩
abbrev cX7_runs : ByteArray := prog_9_method_39_code
def yX7_runs : MethodName := ⟨RX7, "runs", "()V"⟩
abbrev cX7_runsTold : ByteArray := prog_9_method_40_code
def yX7_runsTold : MethodName := ⟨RX7, "runsTold", "()V"⟩
abbrev cX7_fitsOn : ByteArray := prog_9_method_41_code
def yX7_fitsOn : MethodName := ⟨RX7, "fitsOn", "(II)Z"⟩
abbrev cX7_fitMany : ByteArray := prog_9_method_42_code
def yX7_fitMany : MethodName := ⟨RX7, "fitMany", "(I)I"⟩
abbrev cX7_coatOf : ByteArray := prog_9_method_43_code
def yX7_coatOf : MethodName := ⟨RX7, "coatOf", "(III)I"⟩
abbrev cX7_coat : ByteArray := prog_9_method_44_code
def yX7_coat : MethodName := ⟨RX7, "coat", "(III)I"⟩
abbrev cX7_standsOf : ByteArray := prog_9_method_45_code
def yX7_standsOf : MethodName := ⟨RX7, "standsOf", "(II)I"⟩
abbrev cX7_stands : ByteArray := prog_9_method_46_code
def yX7_stands : MethodName := ⟨RX7, "stands", "(II)I"⟩
abbrev cX7_neatOf : ByteArray := prog_9_method_47_code
def yX7_neatOf : MethodName := ⟨RX7, "neatOf", "(I)I"⟩
abbrev cX7_neat : ByteArray := prog_9_method_48_code
def yX7_neat : MethodName := ⟨RX7, "neat", "(I)I"⟩
abbrev cX7_nakedNow : ByteArray := prog_9_method_49_code
def yX7_nakedNow : MethodName := ⟨RX7, "nakedNow", "(I)I"⟩
abbrev cX7_nakedOf : ByteArray := prog_9_method_50_code
def yX7_nakedOf : MethodName := ⟨RX7, "nakedOf", "(I)I"⟩
abbrev cX7_naked : ByteArray := prog_9_method_51_code
def yX7_naked : MethodName := ⟨RX7, "naked", "(I)I"⟩
abbrev cX7_longestOf : ByteArray := prog_9_method_52_code
def yX7_longestOf : MethodName := ⟨RX7, "longestOf", "(I)I"⟩
abbrev cX7_longest : ByteArray := prog_9_method_53_code
def yX7_longest : MethodName := ⟨RX7, "longest", "(I)I"⟩
abbrev cX7_tearsAll : ByteArray := prog_9_method_54_code
def yX7_tearsAll : MethodName := ⟨RX7, "tearsAll", "()I"⟩
abbrev cX7_splitsOf : ByteArray := prog_9_method_55_code
def yX7_splitsOf : MethodName := ⟨RX7, "splitsOf", "()I"⟩
abbrev cX7_splits : ByteArray := prog_9_method_56_code
def yX7_splits : MethodName := ⟨RX7, "splits", "()I"⟩
abbrev cX7_bestNow : ByteArray := prog_9_method_57_code
def yX7_bestNow : MethodName := ⟨RX7, "bestNow", "()I"⟩
abbrev cX7_best : ByteArray := prog_9_method_58_code
def yX7_best : MethodName := ⟨RX7, "best", "()I"⟩
abbrev cX7_swearOf : ByteArray := prog_9_method_59_code
def yX7_swearOf : MethodName := ⟨RX7, "swearOf", "(II)I"⟩
abbrev cX7_swear : ByteArray := prog_9_method_60_code
def yX7_swear : MethodName := ⟨RX7, "swear", "(II)I"⟩
abbrev cX7_keepBest : ByteArray := prog_9_method_61_code
def yX7_keepBest : MethodName := ⟨RX7, "keepBest", "(II)I"⟩
abbrev cX7_keep : ByteArray := prog_9_method_62_code
def yX7_keep : MethodName := ⟨RX7, "keep", "(II)I"⟩
abbrev cX7_dueOf : ByteArray := prog_9_method_63_code
def yX7_dueOf : MethodName := ⟨RX7, "dueOf", "(II)I"⟩
abbrev cX7_due : ByteArray := prog_9_method_64_code
def yX7_due : MethodName := ⟨RX7, "due", "(II)I"⟩
abbrev cX7_isHushed : ByteArray := prog_9_method_65_code
def yX7_isHushed : MethodName := ⟨RX7, "isHushed", "(I)Z"⟩
abbrev cX7_hushBy : ByteArray := prog_9_method_66_code
def yX7_hushBy : MethodName := ⟨RX7, "hushBy", "()I"⟩
abbrev cX7_ofRow : ByteArray := prog_9_method_67_code
def yX7_ofRow : MethodName := ⟨RX7, "ofRow", "(II)I"⟩
abbrev cX7_hush : ByteArray := prog_9_method_68_code
def yX7_hush : MethodName := ⟨RX7, "hush", "(I)I"⟩
abbrev cX7_seen : ByteArray := prog_9_method_69_code
def yX7_seen : MethodName := ⟨RX7, "seen", "(III)I"⟩
abbrev cX7_forget : ByteArray := prog_9_method_70_code
def yX7_forget : MethodName := ⟨RX7, "forget", "()I"⟩
abbrev cX7_isSeen : ByteArray := prog_9_method_71_code
def yX7_isSeen : MethodName := ⟨RX7, "isSeen", "()Z"⟩
abbrev cX7_neverNow : ByteArray := prog_9_method_72_code
def yX7_neverNow : MethodName := ⟨RX7, "neverNow", "()I"⟩
abbrev cX7_never : ByteArray := prog_9_method_73_code
def yX7_never : MethodName := ⟨RX7, "never", "()I"⟩
abbrev cX7_sizesBy : ByteArray := prog_9_method_74_code
def yX7_sizesBy : MethodName := ⟨RX7, "sizesBy", "(I)I"⟩
abbrev cX7_sortsBy : ByteArray := prog_9_method_75_code
def yX7_sortsBy : MethodName := ⟨RX7, "sortsBy", "(I)I"⟩
abbrev cX7_was : ByteArray := prog_9_method_76_code
def yX7_was : MethodName := ⟨RX7, "was", "(II)I"⟩
abbrev cX7_askOf : ByteArray := prog_9_method_77_code
def yX7_askOf : MethodName := ⟨RX7, "askOf", "(I)I"⟩
abbrev cX7_ask : ByteArray := prog_9_method_78_code
def yX7_ask : MethodName := ⟨RX7, "ask", "(I)I"⟩
abbrev cX7_wordOf : ByteArray := prog_9_method_79_code
def yX7_wordOf : MethodName := ⟨RX7, "wordOf", "(IIII)J"⟩
abbrev cX7_word : ByteArray := prog_9_method_80_code
def yX7_word : MethodName := ⟨RX7, "word", "(IIII)J"⟩
abbrev cX7_yearOf : ByteArray := prog_9_method_81_code
def yX7_yearOf : MethodName := ⟨RX7, "yearOf", "(III)I"⟩
abbrev cX7_year : ByteArray := prog_9_method_82_code
def yX7_year : MethodName := ⟨RX7, "year", "(III)I"⟩
abbrev cX7_meets : ByteArray := prog_9_method_83_code
def yX7_meets : MethodName := ⟨RX7, "meets", "(I)I"⟩
abbrev cX7_isSheet : ByteArray := prog_9_method_84_code
def yX7_isSheet : MethodName := ⟨RX7, "isSheet", "(I)Z"⟩
abbrev cX7_sheet : ByteArray := prog_9_method_85_code
def yX7_sheet : MethodName := ⟨RX7, "sheet", "(III)I"⟩
abbrev cX7_lose : ByteArray := prog_9_method_86_code
def yX7_lose : MethodName := ⟨RX7, "lose", "(I)I"⟩
abbrev cX7_lacks : ByteArray := prog_9_method_87_code
def yX7_lacks : MethodName := ⟨RX7, "lacks", "(III)I"⟩
abbrev cX7_lays : ByteArray := prog_9_method_88_code
def yX7_lays : MethodName := ⟨RX7, "lays", "(III)V"⟩
abbrev cX7_put : ByteArray := prog_9_method_89_code
def yX7_put : MethodName := ⟨RX7, "put", "(IIII)I"⟩
abbrev cX7_get : ByteArray := prog_9_method_90_code
def yX7_get : MethodName := ⟨RX7, "get", "(III)I"⟩
abbrev cX7_copy : ByteArray := prog_9_method_91_code
def yX7_copy : MethodName := ⟨RX7, "copy", "(IIIII)I"⟩
abbrev cX7_write : ByteArray := prog_9_method_92_code
def yX7_write : MethodName := ⟨RX7, "write", "(II)I"⟩
abbrev cX7_sumOf : ByteArray := prog_9_method_93_code
def yX7_sumOf : MethodName := ⟨RX7, "sumOf", "(I)I"⟩
abbrev cX7_count : ByteArray := prog_9_method_94_code
def yX7_count : MethodName := ⟨RX7, "count", "(I)I"⟩
abbrev cX7_promiseDigest : ByteArray := prog_9_method_95_code
def yX7_promiseDigest : MethodName := ⟨RX7, "promiseDigest", "(JI)J"⟩
abbrev cX7_coatDigest : ByteArray := prog_9_method_96_code
def yX7_coatDigest : MethodName := ⟨RX7, "coatDigest", "(JII)J"⟩
abbrev cX7_personDigest : ByteArray := prog_9_method_97_code
def yX7_personDigest : MethodName := ⟨RX7, "personDigest", "(JI)J"⟩
abbrev cX7_digest : ByteArray := prog_9_method_98_code
def yX7_digest : MethodName := ⟨RX7, "digest", "()J"⟩
def RJ6 : String := "java/lang/Integer"
def TJ6 : u_T := fun k => match k with
  | _ => ("", "", "", false)
def tyJ6 : Nat → FieldType := fun k => match k with
  | _ => .int
abbrev cJ6_numberOfTrailingZeros_0f7a4 : ByteArray := prog_10_method_48_code
def yJ6_numberOfTrailingZeros_0f7a4 : MethodName := ⟨RJ6, "numberOfTrailingZeros", "(I)I"⟩
abbrev cJ6_bitCount_0f7a4 : ByteArray := prog_10_method_49_code
def yJ6_bitCount_0f7a4 : MethodName := ⟨RJ6, "bitCount", "(I)I"⟩
def RJ9 : String := "java/lang/Math"
def TJ9 : u_T := fun k => match k with
  | _ => ("", "", "", false)
def tyJ9 : Nat → FieldType := fun k => match k with
  | _ => .int
abbrev cJ9_max_7cf53 : ByteArray := prog_11_method_65_code
def yJ9_max_7cf53 : MethodName := ⟨RJ9, "max", "(II)I"⟩
abbrev cJ9_min_7cf53 : ByteArray := prog_11_method_69_code
def yJ9_min_7cf53 : MethodName := ⟨RJ9, "min", "(II)I"⟩
def RJ10 : String := "java/lang/System"
def TJ10 : u_T := fun k => match k with
  | _ => ("", "", "", false)
def tyJ10 : Nat → FieldType := fun k => match k with
  | _ => .int
def RJ7 : String := "java/util/Arrays"
def TJ7 : u_T := fun k => match k with
  | _ => ("", "", "", false)
def tyJ7 : Nat → FieldType := fun k => match k with
  | _ => .int
abbrev cJ7_fill_53178 : ByteArray := prog_13_method_103_code
def yJ7_fill_53178 : MethodName := ⟨RJ7, "fill", "([II)V"⟩
def RL : String := "PromiseTailorLaw"
abbrev cL_law : ByteArray := code
/-! ===== classes, words, rooms ===== -/
def clsL : List vw_C := [(RX0, TX0, 15), (RX1, TX1, 3), (RX2, TX2, 3), (RX3, TX3, 4), (RX4, TX4, 5), (RX5, TX5, 5), (RX6, TX6, 13), (RX7, TX7, 45)]
def cnmL : List String := [RX0, RX1, RX2, RX3, RX4, RX5, RX6, RX7, RJ6, RJ9, RJ7]
def cnm (k : Nat) : String := cnmL.getD k ""
def tb : List Cond := lw_tbl.filter goodWord
theorem tb_at {w : Cond} (i : Nat) (h : lw_tbl[i]? = some w) (hg : goodWord w = true) : w ∈ tb := List.mem_filter.mpr ⟨List.mem_of_getElem? h, hg⟩
abbrev MT : Type := Nat × MethodName × ByteArray × Nat × Option FieldType
def MT.cn (M : MT) : Nat := M.1
def MT.y (M : MT) : MethodName := M.2.1
def MT.by (M : MT) : ByteArray := M.2.2.1
def MT.ml (M : MT) : Nat := M.2.2.2.1
def MT.rt (M : MT) : Option FieldType := M.2.2.2.2
def mw (M : MT) : List Cond := .code M.y M.by M.ml M.rt :: tb
def np (N : MT) : Option Nat := (parseMethodDescriptor N.y.desc).map (fun d => d.parameters.length)
/-- field sl of class ci, as class cn's entry idx names it -/
def fW (cn idx ci sl : Nat) : Option Cond := match clsL[ci]? with
  | some (_, T, N) => if sl < N then some (.fieldLink (cnm cn) idx (T sl).1 (T sl).2.1 (T sl).2.2.1) else none
  | none => none
/-! ===== the tables hold ===== -/
def chkW (i : Nat) (w : Cond) : Bool := decide (lw_tbl[i]? = some w) && goodWord w
theorem chkW_in {i : Nat} {w : Cond} (h : chkW i w = true) : w ∈ tb := by
  unfold chkW at h
  rw [Bool.and_eq_true, decide_eq_true_eq] at h
  exact tb_at i h.1 h.2
/-! decoding by a table of plain opcodes -/
abbrev Tm : Type := Instr ⊕ (Nat → Instr) ⊕ (Int → Instr) ⊕ (Nat → Instr) ⊕ (Int → Instr) ⊕ (Nat → Int → Instr)
def tmA : Tm → List UInt8 → Option (Instr × Nat)
  | .inl i, _ => some (i, 1)
  | .inr (.inl f), a :: _ => some (f a.toNat, 2)
  | .inr (.inr (.inl f)), a :: _ => some (f (Reader.signed 8 a.toNat), 2)
  | .inr (.inr (.inr (.inl f))), a :: b :: _ => some (f (a.toNat * 256 + b.toNat), 3)
  | .inr (.inr (.inr (.inr (.inl f)))), a :: b :: _ => some (f (Reader.signed 16 (a.toNat * 256 + b.toNat)), 3)
  | .inr (.inr (.inr (.inr (.inr f)))), a :: b :: _ => some (f a.toNat (Reader.signed 8 b.toNat), 3)
  | _, _ => none
def tmD : Tm → Decoder Instr
  | .inl i => pure i
  | .inr (.inl f) => do pure (f (← Reader.u1))
  | .inr (.inr (.inl f)) => do pure (f (← Reader.s1))
  | .inr (.inr (.inr (.inl f))) => do pure (f (← Reader.u2))
  | .inr (.inr (.inr (.inr (.inl f)))) => do pure (f (← Reader.s2))
  | .inr (.inr (.inr (.inr (.inr f)))) => do pure (f (← Reader.u1) (← Reader.s1))
theorem bd_ok {α β : Type} {r : Decoder α} {f : α → Decoder β} {A : ByteArray} {p s : Nat} {a : α} (h : r A p = .ok (a, s)) : (r >>= f) A p = f a A s := by
  show (do let (a, s) ← r A p; f a A s : Except DecodeError (β × Nat)) = _
  rw [h]
  rfl
theorem mp_ok {α β : Type} {r : Decoder α} {g : α → β} {A : ByteArray} {p s : Nat} {a : α} (h : r A p = .ok (a, s)) : (g <$> r) A p = .ok (g a, s) := by
  show (do let (a, s) ← r A p; .ok (g a, s) : Except DecodeError (β × Nat)) = _
  rw [h]
  rfl
theorem u1_at {A : ByteArray} {p : Nat} {y : UInt8} {l : List UInt8} (h : A.data.toList.drop p = y :: l) : (Reader.u1 : Decoder Nat) A p = .ok (y.toNat, p + 1) ∧ A.data.toList.drop (p + 1) = l := by
  have hp : p < A.data.toList.length := by
    rcases Nat.lt_or_ge p A.data.toList.length with q | q
    · exact q
    · rw [List.drop_eq_nil_of_le q] at h; cases h
  rw [List.drop_eq_getElem_cons hp] at h
  injection h with h1 h2
  refine ⟨?_, h2⟩
  have hs : p < A.size := hp
  show (dite (p < A.size) (fun h => (do set (p + 1); pure A[p].toNat : Decoder Nat)) (fun _ => throw (HasTruncated.truncated p))) A p = _
  rw [dif_pos hs, ← h1]
  rfl
theorem u2_at {A : ByteArray} {p : Nat} {y z : UInt8} {l : List UInt8} (h : A.data.toList.drop p = y :: z :: l) : (Reader.u2 : Decoder Nat) A p = .ok (y.toNat * 256 + z.toNat, p + 2) := by
  obtain ⟨e1, h1⟩ := u1_at h
  obtain ⟨e2, -⟩ := u1_at h1
  unfold Reader.u2
  rw [bd_ok e1, bd_ok e2]
  rfl
theorem tmD_ok : ∀ {τ : Tm} {A : ByteArray} {p : Nat} {l : List UInt8} {i : Instr} {n : Nat}, A.data.toList.drop p = l → tmA τ l = some (i, n) → ∃ k, n = k + 1 ∧ tmD τ A p = .ok (i, p + k)
  | .inl j, A, p, l, i, n, h, ha => by cases ha; exact ⟨0, rfl, rfl⟩
  | .inr (.inl f), A, p, [], i, n, h, ha => by cases ha
  | .inr (.inl f), A, p, a :: l, i, n, h, ha => by
    cases ha
    refine ⟨1, rfl, ?_⟩
    show ((Reader.u1 : Decoder Nat) >>= fun a => pure (f a)) A p = _
    rw [bd_ok (u1_at h).1]
    rfl
  | .inr (.inr (.inl f)), A, p, [], i, n, h, ha => by cases ha
  | .inr (.inr (.inl f)), A, p, a :: l, i, n, h, ha => by
    cases ha
    refine ⟨1, rfl, ?_⟩
    show ((Reader.signed 8 <$> (Reader.u1 : Decoder Nat)) >>= fun a => pure (f a)) A p = _
    rw [bd_ok (mp_ok (u1_at h).1)]
    rfl
  | .inr (.inr (.inr (.inl f))), A, p, [], i, n, h, ha => by cases ha
  | .inr (.inr (.inr (.inl f))), A, p, [a], i, n, h, ha => by cases ha
  | .inr (.inr (.inr (.inl f))), A, p, a :: b :: l, i, n, h, ha => by
    cases ha
    refine ⟨2, rfl, ?_⟩
    show ((Reader.u2 : Decoder Nat) >>= fun a => pure (f a)) A p = _
    rw [bd_ok (u2_at h)]
    rfl
  | .inr (.inr (.inr (.inr (.inl f)))), A, p, [], i, n, h, ha => by cases ha
  | .inr (.inr (.inr (.inr (.inl f)))), A, p, [a], i, n, h, ha => by cases ha
  | .inr (.inr (.inr (.inr (.inl f)))), A, p, a :: b :: l, i, n, h, ha => by
    cases ha
    refine ⟨2, rfl, ?_⟩
    show ((Reader.signed 16 <$> (Reader.u2 : Decoder Nat)) >>= fun a => pure (f a)) A p = _
    rw [bd_ok (mp_ok (u2_at h))]
    rfl
  | .inr (.inr (.inr (.inr (.inr f)))), A, p, [], i, n, h, ha => by cases ha
  | .inr (.inr (.inr (.inr (.inr f)))), A, p, [a], i, n, h, ha => by cases ha
  | .inr (.inr (.inr (.inr (.inr f)))), A, p, a :: b :: l, i, n, h, ha => by
    cases ha
    refine ⟨2, rfl, ?_⟩
    show ((Reader.u1 : Decoder Nat) >>= fun a => (Reader.signed 8 <$> (Reader.u1 : Decoder Nat)) >>= fun b => pure (f a b)) A p = _
    obtain ⟨e1, h1⟩ := u1_at h
    rw [bd_ok e1, bd_ok (mp_ok (u1_at h1).1)]
    rfl
def tmG_0 : List (Nat × Tm) := [(2, .inl (.iconst (-1))), (3, .inl (.iconst 0)), (4, .inl (.iconst 1)), (5, .inl (.iconst 2)), (6, .inl (.iconst 3)), (7, .inl (.iconst 4)), (8, .inl (.iconst 5)), (9, .inl (.lconst 0)), (10, .inl (.lconst 1))]
def tmG_1 : List (Nat × Tm) := [(16, .inr (.inr (.inl (fun a => .bipush a)))), (17, .inr (.inr (.inr (.inr (.inl (fun a => .sipush a)))))), (19, .inr (.inr (.inr (.inl (fun a => .ldc_w a))))), (20, .inr (.inr (.inr (.inl (fun a => .ldc2_w a))))), (21, .inr (.inl (fun a => .iload a))), (22, .inr (.inl (fun a => .lload a))), (26, .inl (.iload_n 0)), (27, .inl (.iload_n 1)), (28, .inl (.iload_n 2)), (29, .inl (.iload_n 3)), (30, .inl (.lload_n 0)), (31, .inl (.lload_n 1))]
def tmG_2 : List (Nat × Tm) := [(32, .inl (.lload_n 2)), (33, .inl (.lload_n 3)), (42, .inl (.aload_n 0)), (43, .inl (.aload_n 1)), (44, .inl (.aload_n 2)), (45, .inl (.aload_n 3)), (46, .inl (.iaload))]
def tmG_3 : List (Nat × Tm) := [(50, .inl (.aaload)), (51, .inl (.baload)), (54, .inr (.inl (fun a => .istore a))), (55, .inr (.inl (fun a => .lstore a))), (59, .inl (.istore_n 0)), (60, .inl (.istore_n 1)), (61, .inl (.istore_n 2)), (62, .inl (.istore_n 3)), (63, .inl (.lstore_n 0))]
def tmG_4 : List (Nat × Tm) := [(64, .inl (.lstore_n 1)), (65, .inl (.lstore_n 2)), (66, .inl (.lstore_n 3)), (75, .inl (.astore_n 0)), (76, .inl (.astore_n 1)), (77, .inl (.astore_n 2)), (78, .inl (.astore_n 3)), (79, .inl (.iastore))]
def tmG_5 : List (Nat × Tm) := [(84, .inl (.bastore)), (87, .inl (.pop)), (88, .inl (.pop2)), (89, .inl (.dup)), (92, .inl (.dup2))]
def tmG_6 : List (Nat × Tm) := [(96, .inl (.iadd)), (97, .inl (.ladd)), (100, .inl (.isub)), (101, .inl (.lsub)), (104, .inl (.imul)), (105, .inl (.lmul)), (108, .inl (.idiv)), (109, .inl (.ldiv))]
def tmG_7 : List (Nat × Tm) := [(112, .inl (.irem)), (113, .inl (.lrem)), (116, .inl (.ineg)), (120, .inl (.ishl)), (121, .inl (.lshl)), (122, .inl (.ishr)), (123, .inl (.lshr)), (124, .inl (.iushr)), (126, .inl (.iand)), (127, .inl (.land))]
def tmG_8 : List (Nat × Tm) := [(128, .inl (.ior)), (130, .inl (.ixor)), (132, .inr (.inr (.inr (.inr (.inr (fun a b => .iinc a b)))))), (133, .inl (.i2l))]
def tmG_9 : List (Nat × Tm) := [(145, .inl (.i2b)), (147, .inl (.i2s)), (148, .inl (.lcmp)), (153, .inr (.inr (.inr (.inr (.inl (fun a => .ifCond .eq a)))))), (154, .inr (.inr (.inr (.inr (.inl (fun a => .ifCond .ne a)))))), (155, .inr (.inr (.inr (.inr (.inl (fun a => .ifCond .lt a)))))), (156, .inr (.inr (.inr (.inr (.inl (fun a => .ifCond .ge a)))))), (157, .inr (.inr (.inr (.inr (.inl (fun a => .ifCond .gt a)))))), (158, .inr (.inr (.inr (.inr (.inl (fun a => .ifCond .le a)))))), (159, .inr (.inr (.inr (.inr (.inl (fun a => .if_icmp .eq a))))))]
def tmG_10 : List (Nat × Tm) := [(160, .inr (.inr (.inr (.inr (.inl (fun a => .if_icmp .ne a)))))), (161, .inr (.inr (.inr (.inr (.inl (fun a => .if_icmp .lt a)))))), (162, .inr (.inr (.inr (.inr (.inl (fun a => .if_icmp .ge a)))))), (163, .inr (.inr (.inr (.inr (.inl (fun a => .if_icmp .gt a)))))), (164, .inr (.inr (.inr (.inr (.inl (fun a => .if_icmp .le a)))))), (167, .inr (.inr (.inr (.inr (.inl (fun a => .goto a)))))), (172, .inl (.ireturn)), (173, .inl (.lreturn))]
def tmG_11 : List (Nat × Tm) := [(176, .inl (.areturn)), (177, .inl (.return_)), (180, .inr (.inr (.inr (.inl (fun a => .getfield a))))), (181, .inr (.inr (.inr (.inl (fun a => .putfield a))))), (182, .inr (.inr (.inr (.inl (fun a => .invokevirtual a))))), (183, .inr (.inr (.inr (.inl (fun a => .invokespecial a))))), (184, .inr (.inr (.inr (.inl (fun a => .invokestatic a))))), (187, .inr (.inr (.inr (.inl (fun a => .new a))))), (190, .inl (.arraylength))]
def tmG_12 : List (Nat × Tm) := []
def tmG_13 : List (Nat × Tm) := []
def tmG_14 : List (Nat × Tm) := []
def tmG_15 : List (Nat × Tm) := []
def tmG : List (List (Nat × Tm)) := [tmG_0, tmG_1, tmG_2, tmG_3, tmG_4, tmG_5, tmG_6, tmG_7, tmG_8, tmG_9, tmG_10, tmG_11, tmG_12, tmG_13, tmG_14, tmG_15]
def tmL : List (Nat × Tm) → Nat → Option Tm
  | [], _ => none
  | (a, τ) :: l, k => bif Nat.beq a k then some τ else tmL l k
def tmF (op : Nat) : Option Tm := tmL (tmG.getD (op / 16) []) op
theorem tmL_mem : ∀ {l : List (Nat × Tm)} {k : Nat} {τ : Tm}, tmL l k = some τ → (k, τ) ∈ l
  | [], k, τ, h => by cases h
  | (a, σ) :: l, k, τ, h => by
    unfold tmL at h
    cases hb : Nat.beq a k with
    | true =>
      rw [hb] at h
      have e := Nat.eq_of_beq_eq_true hb
      subst e
      cases h
      exact List.mem_cons_self
    | false =>
      rw [hb] at h
      exact List.mem_cons_of_mem _ (tmL_mem h)
def TmR (f : Nat → Decoder Instr) (g : List (Nat × Tm)) : Prop := ∀ q ∈ g, f q.1 = tmD q.2
def TmS (f : Nat → Decoder Instr) (G : List (List (Nat × Tm))) : Prop := ∀ g ∈ G, TmR f g
theorem tmF_of {f : Nat → Decoder Instr} (hf : TmS f tmG) {op : Nat} {τ : Tm} (h : tmF op = some τ) : f op = tmD τ := by
  unfold tmF at h
  have hm := tmL_mem h
  rw [List.getD_eq_getElem?_getD] at hm
  cases hg : tmG[op / 16]? with
  | none => rw [hg] at hm; cases hm
  | some g => rw [hg] at hm; exact hf g (List.mem_of_getElem? hg) _ hm
theorem tm_c {f : Nat → Decoder Instr} {a : Nat} {τ : Tm} {l : List (Nat × Tm)} (h : f a = tmD τ) (hl : TmR f l) : TmR f ((a, τ) :: l) := fun q hq => by
  rcases List.mem_cons.mp hq with e | e
  · rw [e]; exact h
  · exact hl q e
theorem tm_n {f : Nat → Decoder Instr} : TmR f [] := fun q hq => by cases hq
theorem tm_g {f : Nat → Decoder Instr} {g : List (Nat × Tm)} {G : List (List (Nat × Tm))} (h : TmR f g) (hl : TmS f G) : TmS f (g :: G) := fun q hq => by
  rcases List.mem_cons.mp hq with e | e
  · rw [e]; exact h
  · exact hl q e
theorem tm_z {f : Nat → Decoder Instr} : TmS f [] := fun q hq => by cases hq
theorem tm_key {f : Nat → Decoder Instr} (hf : TmS f tmG) {A : ByteArray} {p op s : Nat} {τ : Tm} (h : (Reader.u1 : Decoder Nat) A p = .ok (op, s)) (ht : tmF op = some τ) : ((Reader.u1 : Decoder Nat) >>= f) A p = tmD τ A s := by
  rw [bd_ok h, tmF_of hf ht]
set_option maxRecDepth 20000 in
set_option maxHeartbeats 0 in
theorem ins_ok (pc : Nat) {A : ByteArray} {p op s : Nat} {τ : Tm} (h : (Reader.u1 : Decoder Nat) A p = .ok (op, s)) (ht : tmF op = some τ) : Decoder.instr pc A p = tmD τ A s := by
  delta Decoder.instr
  refine tm_key ?_ h ht
  refine tm_g ?_ ?_
  · refine tm_c ?_ ?_
    · exact rfl
    refine tm_c ?_ ?_
    · exact rfl
    refine tm_c ?_ ?_
    · exact rfl
    refine tm_c ?_ ?_
    · exact rfl
    refine tm_c ?_ ?_
    · exact rfl
    refine tm_c ?_ ?_
    · exact rfl
    refine tm_c ?_ ?_
    · exact rfl
    refine tm_c ?_ ?_
    · exact rfl
    refine tm_c ?_ ?_
    · exact rfl
    exact tm_n
  refine tm_g ?_ ?_
  · refine tm_c ?_ ?_
    · exact rfl
    refine tm_c ?_ ?_
    · exact rfl
    refine tm_c ?_ ?_
    · exact rfl
    refine tm_c ?_ ?_
    · exact rfl
    refine tm_c ?_ ?_
    · exact rfl
    refine tm_c ?_ ?_
    · exact rfl
    refine tm_c ?_ ?_
    · exact rfl
    refine tm_c ?_ ?_
    · exact rfl
    refine tm_c ?_ ?_
    · exact rfl
    refine tm_c ?_ ?_
    · exact rfl
    refine tm_c ?_ ?_
    · exact rfl
    refine tm_c ?_ ?_
    · exact rfl
    exact tm_n
  refine tm_g ?_ ?_
  · refine tm_c ?_ ?_
    · exact rfl
    refine tm_c ?_ ?_
    · exact rfl
    refine tm_c ?_ ?_
    · exact rfl
    refine tm_c ?_ ?_
    · exact rfl
    refine tm_c ?_ ?_
    · exact rfl
    refine tm_c ?_ ?_
    · exact rfl
    refine tm_c ?_ ?_
    · exact rfl
    exact tm_n
  refine tm_g ?_ ?_
  · refine tm_c ?_ ?_
    · exact rfl
    refine tm_c ?_ ?_
    · exact rfl
    refine tm_c ?_ ?_
    · exact rfl
    refine tm_c ?_ ?_
    · exact rfl
    refine tm_c ?_ ?_
    · exact rfl
    refine tm_c ?_ ?_
    · exact rfl
    refine tm_c ?_ ?_
    · exact rfl
    refine tm_c ?_ ?_
    · exact rfl
    refine tm_c ?_ ?_
    · exact rfl
    exact tm_n
  refine tm_g ?_ ?_
  · refine tm_c ?_ ?_
    · exact rfl
    refine tm_c ?_ ?_
    · exact rfl
    refine tm_c ?_ ?_
    · exact rfl
    refine tm_c ?_ ?_
    · exact rfl
    refine tm_c ?_ ?_
    · exact rfl
    refine tm_c ?_ ?_
    · exact rfl
    refine tm_c ?_ ?_
    · exact rfl
    refine tm_c ?_ ?_
    · exact rfl
    exact tm_n
  refine tm_g ?_ ?_
  · refine tm_c ?_ ?_
    · exact rfl
    refine tm_c ?_ ?_
    · exact rfl
    refine tm_c ?_ ?_
    · exact rfl
    refine tm_c ?_ ?_
    · exact rfl
    refine tm_c ?_ ?_
    · exact rfl
    exact tm_n
  refine tm_g ?_ ?_
  · refine tm_c ?_ ?_
    · exact rfl
    refine tm_c ?_ ?_
    · exact rfl
    refine tm_c ?_ ?_
    · exact rfl
    refine tm_c ?_ ?_
    · exact rfl
    refine tm_c ?_ ?_
    · exact rfl
    refine tm_c ?_ ?_
    · exact rfl
    refine tm_c ?_ ?_
    · exact rfl
    refine tm_c ?_ ?_
    · exact rfl
    exact tm_n
  refine tm_g ?_ ?_
  · refine tm_c ?_ ?_
    · exact rfl
    refine tm_c ?_ ?_
    · exact rfl
    refine tm_c ?_ ?_
    · exact rfl
    refine tm_c ?_ ?_
    · exact rfl
    refine tm_c ?_ ?_
    · exact rfl
    refine tm_c ?_ ?_
    · exact rfl
    refine tm_c ?_ ?_
    · exact rfl
    refine tm_c ?_ ?_
    · exact rfl
    refine tm_c ?_ ?_
    · exact rfl
    refine tm_c ?_ ?_
    · exact rfl
    exact tm_n
  refine tm_g ?_ ?_
  · refine tm_c ?_ ?_
    · exact rfl
    refine tm_c ?_ ?_
    · exact rfl
    refine tm_c ?_ ?_
    · exact rfl
    refine tm_c ?_ ?_
    · exact rfl
    exact tm_n
  refine tm_g ?_ ?_
  · refine tm_c ?_ ?_
    · exact rfl
    refine tm_c ?_ ?_
    · exact rfl
    refine tm_c ?_ ?_
    · exact rfl
    refine tm_c ?_ ?_
    · exact rfl
    refine tm_c ?_ ?_
    · exact rfl
    refine tm_c ?_ ?_
    · exact rfl
    refine tm_c ?_ ?_
    · exact rfl
    refine tm_c ?_ ?_
    · exact rfl
    refine tm_c ?_ ?_
    · exact rfl
    refine tm_c ?_ ?_
    · exact rfl
    exact tm_n
  refine tm_g ?_ ?_
  · refine tm_c ?_ ?_
    · exact rfl
    refine tm_c ?_ ?_
    · exact rfl
    refine tm_c ?_ ?_
    · exact rfl
    refine tm_c ?_ ?_
    · exact rfl
    refine tm_c ?_ ?_
    · exact rfl
    refine tm_c ?_ ?_
    · exact rfl
    refine tm_c ?_ ?_
    · exact rfl
    refine tm_c ?_ ?_
    · exact rfl
    exact tm_n
  refine tm_g ?_ ?_
  · refine tm_c ?_ ?_
    · exact rfl
    refine tm_c ?_ ?_
    · exact rfl
    refine tm_c ?_ ?_
    · exact rfl
    refine tm_c ?_ ?_
    · exact rfl
    refine tm_c ?_ ?_
    · exact rfl
    refine tm_c ?_ ?_
    · exact rfl
    refine tm_c ?_ ?_
    · exact rfl
    refine tm_c ?_ ?_
    · exact rfl
    refine tm_c ?_ ?_
    · exact rfl
    exact tm_n
  refine tm_g ?_ ?_
  · exact tm_n
  refine tm_g ?_ ?_
  · exact tm_n
  refine tm_g ?_ ?_
  · exact tm_n
  refine tm_g ?_ ?_
  · exact tm_n
  exact tm_z
theorem fd_ok {A : ByteArray} {pc : Nat} {y : UInt8} {l : List UInt8} {τ : Tm} {x : Instr × Nat} (h : A.data.toList.drop pc = y :: l) (ht : tmF y.toNat = some τ) (ha : tmA τ l = some x) : decode A pc = .ok x := by
  obtain ⟨i, n⟩ := x
  obtain ⟨e1, h1⟩ := u1_at h
  obtain ⟨k, hk, e3⟩ := tmD_ok h1 ha
  have e4 : Decoder.instr pc A pc = .ok (i, pc + 1 + k) := by rw [ins_ok pc e1 ht]; exact e3
  show (do let (instr, next) ← Decoder.instr pc A pc; pure (instr, next - pc) : Except DecodeError (Instr × Nat)) = _
  rw [e4]
  show Except.ok (i, pc + 1 + k - pc) = _
  rw [show pc + 1 + k - pc = n by omega]
def fdB (y : UInt8) (l : List UInt8) (x : Instr × Nat) : Bool := match tmF y.toNat with
  | some τ => decide (tmA τ l = some x)
  | none => false
def cdQ (b : ByteArray) : List (Option (Instr × Nat)) → List UInt8 → Nat → Bool
  | [], _, _ => true
  | _ :: _, [], _ => false
  | none :: t, _ :: l, pc => cdQ b t l (pc + 1)
  | some x :: t, y :: l, pc => (fdB y l x || decide (decode b pc = .ok x)) && cdQ b t l (pc + 1)
theorem cdQ_spec {b : ByteArray} : ∀ {t : List (Option (Instr × Nat))} {l : List UInt8} {pc0 : Nat}, b.data.toList.drop pc0 = l → cdQ b t l pc0 = true → ∀ (j : Nat) (x : Instr × Nat), t[j]? = some (some x) → decode b (pc0 + j) = .ok x
  | [], _, _, _, _, j, x, h => by simp at h
  | _ :: _, [], _, _, hc, j, x, h => by cases hc
  | none :: t, y :: l, pc0, hl, hc, j, x, h => by
    cases j with
    | zero => simp at h
    | succ j =>
      rw [List.getElem?_cons_succ] at h
      have := cdQ_spec (pc0 := pc0 + 1) (u1_at hl).2 hc j x h
      rw [show pc0 + (j + 1) = pc0 + 1 + j by omega]; exact this
  | some z :: t, y :: l, pc0, hl, hc, j, x, h => by
    have hc : ((fdB y l z || decide (decode b pc0 = .ok z)) && cdQ b t l (pc0 + 1)) = true := hc
    rw [Bool.and_eq_true, Bool.or_eq_true, decide_eq_true_eq] at hc
    cases j with
    | zero =>
      simp at h
      rw [← h]
      rcases hc.1 with q | q
      · unfold fdB at q
        split at q
        · rename_i τ ht
          exact fd_ok hl ht (of_decide_eq_true q)
        · cases q
      · exact q
    | succ j =>
      rw [List.getElem?_cons_succ] at h
      have := cdQ_spec (pc0 := pc0 + 1) (u1_at hl).2 hc.2 j x h
      rw [show pc0 + (j + 1) = pc0 + 1 + j by omega]; exact this
def cdOk (b : ByteArray) (pc0 : Nat) (t : List (Option (Instr × Nat))) : Bool := cdQ b t (b.data.toList.drop pc0) pc0
theorem cdOk_spec {b : ByteArray} {t : List (Option (Instr × Nat))} {pc0 : Nat} (h : cdOk b pc0 t = true) (j : Nat) (x : Instr × Nat) (hj : t[j]? = some (some x)) : decode b (pc0 + j) = .ok x := cdQ_spec rfl h j x hj
def rng (a n : Nat) : List Nat := (List.range n).map (fun i => a + i)
theorem rng_mem {a n k : Nat} (h1 : a ≤ k) (h2 : k < a + n) : k ∈ rng a n := List.mem_map.mpr ⟨k - a, List.mem_range.mpr (by omega), by omega⟩
def chkN (i : Nat) (w : Cond) : Bool := decide (lw_tbl[i]? = some w)
theorem chkN_in {i : Nat} {w : Cond} (h : chkN i w = true) : w ∈ lw_tbl := List.mem_of_getElem? (of_decide_eq_true h)
/-- classes as the tables have them -/
theorem in_tbX (C : String) (T : u_T) (N : Nat) (h : (u_ws C T N).all (fun w => decide (w ∈ lw_tbl) && goodWord w) = true) : ∀ w ∈ u_ws C T N, w ∈ tb := fun w hw => by
  have := List.all_eq_true.mp h w hw
  rw [Bool.and_eq_true, decide_eq_true_eq] at this
  exact List.mem_filter.mpr this
set_option maxRecDepth 20000 in
theorem inT0 : ∀ w ∈ u_ws RX0 TX0 15, w ∈ tb := in_tbX _ _ _ (by decide +kernel)
set_option maxRecDepth 20000 in
theorem inT1 : ∀ w ∈ u_ws RX1 TX1 3, w ∈ tb := in_tbX _ _ _ (by decide +kernel)
set_option maxRecDepth 20000 in
theorem inT2 : ∀ w ∈ u_ws RX2 TX2 3, w ∈ tb := in_tbX _ _ _ (by decide +kernel)
set_option maxRecDepth 20000 in
theorem inT3 : ∀ w ∈ u_ws RX3 TX3 4, w ∈ tb := in_tbX _ _ _ (by decide +kernel)
set_option maxRecDepth 20000 in
theorem inT4 : ∀ w ∈ u_ws RX4 TX4 5, w ∈ tb := in_tbX _ _ _ (by decide +kernel)
set_option maxRecDepth 20000 in
theorem inT5 : ∀ w ∈ u_ws RX5 TX5 5, w ∈ tb := in_tbX _ _ _ (by decide +kernel)
set_option maxRecDepth 20000 in
theorem inT6 : ∀ w ∈ u_ws RX6 TX6 13, w ∈ tb := in_tbX _ _ _ (by decide +kernel)
set_option maxRecDepth 20000 in
theorem inT7 : ∀ w ∈ u_ws RX7 TX7 45, w ∈ tb := in_tbX _ _ _ (by decide +kernel)
/-! ===== printed by wip/gen/tabs.py: methods, their code, what their entries name ===== -/
def mX0_init : MT := (0, yX0_init, cX0_init, 1, none)
def mX0_arrange : MT := (0, yX0_arrange, cX0_arrange, 3, none)
def mX0_enterAll : MT := (0, yX0_enterAll, cX0_enterAll, 4, none)
def mX0_enter : MT := (0, yX0_enter, cX0_enter, 6, none)
def mX0_begin : MT := (0, yX0_begin, cX0_begin, 1, none)
def mX0_advance : MT := (0, yX0_advance, cX0_advance, 3, none)
def mX0_gain : MT := (0, yX0_gain, cX0_gain, 4, (some (FieldType.int)))
def mX0_fulfil : MT := (0, yX0_fulfil, cX0_fulfil, 5, none)
def mX0_fail : MT := (0, yX0_fail, cX0_fail, 3, none)
def mX0_lengthen : MT := (0, yX0_lengthen, cX0_lengthen, 4, none)
def mX0_shorten : MT := (0, yX0_shorten, cX0_shorten, 4, none)
def mX0_fits : MT := (0, yX0_fits, cX0_fits, 3, (some (FieldType.boolean)))
def mX0_fittingBits : MT := (0, yX0_fittingBits, cX0_fittingBits, 3, (some (FieldType.int)))
def mX0_nakedBits : MT := (0, yX0_nakedBits, cX0_nakedBits, 3, (some (FieldType.int)))
def mX0_allRips : MT := (0, yX0_allRips, cX0_allRips, 3, (some (FieldType.int)))
def mX0_showsAll : MT := (0, yX0_showsAll, cX0_showsAll, 3, (some (FieldType.boolean)))
def mX0_showsBehind : MT := (0, yX0_showsBehind, cX0_showsBehind, 5, (some (FieldType.boolean)))
def mX1_init : MT := (1, yX1_init, cX1_init, 1, none)
def mX1_has : MT := (1, yX1_has, cX1_has, 2, (some (FieldType.boolean)))
def mX1_take : MT := (1, yX1_take, cX1_take, 4, none)
def mX2_init : MT := (2, yX2_init, cX2_init, 1, none)
def mX2_isSheet : MT := (2, yX2_isSheet, cX2_isSheet, 1, (some (FieldType.boolean)))
def mX2_isForm : MT := (2, yX2_isForm, cX2_isForm, 1, (some (FieldType.boolean)))
def mX2_isLost : MT := (2, yX2_isLost, cX2_isLost, 2, (some (FieldType.boolean)))
def mX2_lay : MT := (2, yX2_lay, cX2_lay, 4, none)
def mX2_findingAt : MT := (2, yX2_findingAt, cX2_findingAt, 4, (some (FieldType.int)))
def mX2_hasItems : MT := (2, yX2_hasItems, cX2_hasItems, 4, (some (FieldType.boolean)))
def mX2_store : MT := (2, yX2_store, cX2_store, 4, none)
def mX3_init : MT := (3, yX3_init, cX3_init, 3, none)
def mX3_append : MT := (3, yX3_append, cX3_append, 2, (some (FieldType.boolean)))
def mX3_firstFault : MT := (3, yX3_firstFault, cX3_firstFault, 3, (some (FieldType.int)))
def mX3_goesOnInPeople : MT := (3, yX3_goesOnInPeople, cX3_goesOnInPeople, 2, (some (FieldType.boolean)))
def mX3_goesOnInPromises : MT := (3, yX3_goesOnInPromises, cX3_goesOnInPromises, 2, (some (FieldType.boolean)))
def mX4_init : MT := (4, yX4_init, cX4_init, 2, none)
def mX4_isFull : MT := (4, yX4_isFull, cX4_isFull, 1, (some (FieldType.boolean)))
def mX4_add : MT := (4, yX4_add, cX4_add, 4, (some (FieldType.int)))
def mX4_dropLast : MT := (4, yX4_dropLast, cX4_dropLast, 1, (some (FieldType.int)))
def mX5_init : MT := (5, yX5_init, cX5_init, 1, none)
def mX5_has : MT := (5, yX5_has, cX5_has, 2, (some (FieldType.boolean)))
def mX5_take : MT := (5, yX5_take, cX5_take, 5, none)
def mX5_add : MT := (5, yX5_add, cX5_add, 5, none)
def mX5_dropLast : MT := (5, yX5_dropLast, cX5_dropLast, 1, none)
def mX6_init : MT := (6, yX6_init, cX6_init, 1, none)
def mX6_type : MT := (6, yX6_type, cX6_type, 3, (some (FieldType.int)))
def mX6_wipe : MT := (6, yX6_wipe, cX6_wipe, 3, (some (FieldType.int)))
def mX6_undo : MT := (6, yX6_undo, cX6_undo, 2, (some (FieldType.int)))
def mX6_fault : MT := (6, yX6_fault, cX6_fault, 2, (some (FieldType.int)))
def mX6_person : MT := (6, yX6_person, cX6_person, 3, (some (FieldType.int)))
def mX6_promise : MT := (6, yX6_promise, cX6_promise, 3, (some (FieldType.int)))
def mX6_keeping : MT := (6, yX6_keeping, cX6_keeping, 3, (some (FieldType.int)))
def mX6_lie : MT := (6, yX6_lie, cX6_lie, 4, (some (FieldType.int)))
def mX6_letting : MT := (6, yX6_letting, cX6_letting, 4, (some (FieldType.int)))
def mX6_back : MT := (6, yX6_back, cX6_back, 3, (some (FieldType.int)))
def mX6_read : MT := (6, yX6_read, cX6_read, 6, (some (FieldType.int)))
def mX6_coat : MT := (6, yX6_coat, cX6_coat, 4, (some (FieldType.int)))
def mX6_stands : MT := (6, yX6_stands, cX6_stands, 3, (some (FieldType.int)))
def mX6_neat : MT := (6, yX6_neat, cX6_neat, 2, (some (FieldType.int)))
def mX6_naked : MT := (6, yX6_naked, cX6_naked, 2, (some (FieldType.int)))
def mX6_longest : MT := (6, yX6_longest, cX6_longest, 5, (some (FieldType.int)))
def mX6_splits : MT := (6, yX6_splits, cX6_splits, 1, (some (FieldType.int)))
def mX6_best : MT := (6, yX6_best, cX6_best, 5, (some (FieldType.int)))
def mX6_swear : MT := (6, yX6_swear, cX6_swear, 5, (some (FieldType.int)))
def mX6_keep : MT := (6, yX6_keep, cX6_keep, 7, (some (FieldType.int)))
def mX6_due : MT := (6, yX6_due, cX6_due, 7, (some (FieldType.int)))
def mX6_hush : MT := (6, yX6_hush, cX6_hush, 5, (some (FieldType.int)))
def mX6_seen : MT := (6, yX6_seen, cX6_seen, 4, (some (FieldType.int)))
def mX6_forget : MT := (6, yX6_forget, cX6_forget, 2, (some (FieldType.int)))
def mX6_never : MT := (6, yX6_never, cX6_never, 3, (some (FieldType.int)))
def mX6_was : MT := (6, yX6_was, cX6_was, 3, (some (FieldType.int)))
def mX6_ask : MT := (6, yX6_ask, cX6_ask, 7, (some (FieldType.int)))
def mX6_word : MT := (6, yX6_word, cX6_word, 11, (some (FieldType.long)))
def mX6_year : MT := (6, yX6_year, cX6_year, 4, (some (FieldType.int)))
def mX6_sheet : MT := (6, yX6_sheet, cX6_sheet, 4, (some (FieldType.int)))
def mX6_lose : MT := (6, yX6_lose, cX6_lose, 2, (some (FieldType.int)))
def mX6_put : MT := (6, yX6_put, cX6_put, 6, (some (FieldType.int)))
def mX6_get : MT := (6, yX6_get, cX6_get, 5, (some (FieldType.int)))
def mX6_copy : MT := (6, yX6_copy, cX6_copy, 6, (some (FieldType.int)))
def mX6_write : MT := (6, yX6_write, cX6_write, 5, (some (FieldType.int)))
def mX6_count : MT := (6, yX6_count, cX6_count, 2, (some (FieldType.int)))
def mX6_digest : MT := (6, yX6_digest, cX6_digest, 4, (some (FieldType.long)))
def mX6_isUpTo : MT := (6, yX6_isUpTo, cX6_isUpTo, 2, (some (FieldType.boolean)))
def mX6_isText : MT := (6, yX6_isText, cX6_isText, 1, (some (FieldType.boolean)))
def mX6_isDay : MT := (6, yX6_isDay, cX6_isDay, 1, (some (FieldType.boolean)))
def mX6_isGreat : MT := (6, yX6_isGreat, cX6_isGreat, 1, (some (FieldType.boolean)))
def mX6_mayBePerson : MT := (6, yX6_mayBePerson, cX6_mayBePerson, 1, (some (FieldType.boolean)))
def mX6_mayBeKeeping : MT := (6, yX6_mayBeKeeping, cX6_mayBeKeeping, 2, (some (FieldType.boolean)))
def mX6_textOf : MT := (6, yX6_textOf, cX6_textOf, 2, (some (FieldType.object "PromiseTailor$Text")))
def mX6_takeTexts : MT := (6, yX6_takeTexts, cX6_takeTexts, 1, none)
def mX6_found : MT := (6, yX6_found, cX6_found, 2, (some (FieldType.int)))
def mX6_liveUntil : MT := (6, yX6_liveUntil, cX6_liveUntil, 2, none)
def mX6_liesToHush : MT := (6, yX6_liesToHush, cX6_liesToHush, 3, (some (FieldType.int)))
def mX6_leavesNobodyNaked : MT := (6, yX6_leavesNobodyNaked, cX6_leavesNobodyNaked, 2, (some (FieldType.boolean)))
def mX6_fittingValues : MT := (6, yX6_fittingValues, cX6_fittingValues, 7, (some (FieldType.int)))
def mX6_noteCoatsBySize : MT := (6, yX6_noteCoatsBySize, cX6_noteCoatsBySize, 5, none)
def mX6_mostAlike : MT := (6, yX6_mostAlike, cX6_mostAlike, 8, (some (FieldType.int)))
def mX6_keepingsOf : MT := (6, yX6_keepingsOf, cX6_keepingsOf, 5, (some (FieldType.int)))
def mX6_weight : MT := (6, yX6_weight, cX6_weight, 6, (some (FieldType.long)))
def mX6_drawKeepings : MT := (6, yX6_drawKeepings, cX6_drawKeepings, 6, none)
def mX6_nextSeed : MT := (6, yX6_nextSeed, cX6_nextSeed, 1, (some (FieldType.int)))
def mX6_mixed : MT := (6, yX6_mixed, cX6_mixed, 4, (some (FieldType.long)))
def mX6_withPromise : MT := (6, yX6_withPromise, cX6_withPromise, 7, (some (FieldType.long)))
def mX6_withPerson : MT := (6, yX6_withPerson, cX6_withPerson, 6, (some (FieldType.long)))
def mX6_withCoat : MT := (6, yX6_withCoat, cX6_withCoat, 7, (some (FieldType.long)))
def mX7_init : MT := (7, yX7_init, cX7_init, 1, none)
def mX7_in : MT := (7, yX7_in, cX7_in, 3, (some (FieldType.boolean)))
def mX7_isIn : MT := (7, yX7_isIn, cX7_isIn, 2, (some (FieldType.boolean)))
def mX7_no : MT := (7, yX7_no, cX7_no, 1, (some (FieldType.long)))
def mX7_lowest : MT := (7, yX7_lowest, cX7_lowest, 11, (some (FieldType.long)))
def mX7_isText : MT := (7, yX7_isText, cX7_isText, 1, (some (FieldType.boolean)))
def mX7_isDay : MT := (7, yX7_isDay, cX7_isDay, 1, (some (FieldType.boolean)))
def mX7_isEight : MT := (7, yX7_isEight, cX7_isEight, 1, (some (FieldType.boolean)))
def mX7_type : MT := (7, yX7_type, cX7_type, 3, (some (FieldType.int)))
def mX7_wipe : MT := (7, yX7_wipe, cX7_wipe, 3, (some (FieldType.int)))
def mX7_undo : MT := (7, yX7_undo, cX7_undo, 2, (some (FieldType.int)))
def mX7_byteAt : MT := (7, yX7_byteAt, cX7_byteAt, 3, (some (FieldType.int)))
def mX7_readsPerson : MT := (7, yX7_readsPerson, cX7_readsPerson, 6, (some (FieldType.int)))
def mX7_readsPromise : MT := (7, yX7_readsPromise, cX7_readsPromise, 7, (some (FieldType.int)))
def mX7_readsParts : MT := (7, yX7_readsParts, cX7_readsParts, 6, (some (FieldType.int)))
def mX7_faultOf : MT := (7, yX7_faultOf, cX7_faultOf, 4, (some (FieldType.int)))
def mX7_reads : MT := (7, yX7_reads, cX7_reads, 2, none)
def mX7_fault : MT := (7, yX7_fault, cX7_fault, 2, (some (FieldType.int)))
def mX7_isPerson : MT := (7, yX7_isPerson, cX7_isPerson, 2, (some (FieldType.boolean)))
def mX7_isPromise : MT := (7, yX7_isPromise, cX7_isPromise, 2, (some (FieldType.boolean)))
def mX7_personOf : MT := (7, yX7_personOf, cX7_personOf, 3, (some (FieldType.int)))
def mX7_person : MT := (7, yX7_person, cX7_person, 3, (some (FieldType.int)))
def mX7_promiseOf : MT := (7, yX7_promiseOf, cX7_promiseOf, 3, (some (FieldType.int)))
def mX7_promise : MT := (7, yX7_promise, cX7_promise, 3, (some (FieldType.int)))
def mX7_keeping : MT := (7, yX7_keeping, cX7_keeping, 3, (some (FieldType.int)))
def mX7_lie : MT := (7, yX7_lie, cX7_lie, 4, (some (FieldType.int)))
def mX7_letting : MT := (7, yX7_letting, cX7_letting, 4, (some (FieldType.int)))
def mX7_back : MT := (7, yX7_back, cX7_back, 3, (some (FieldType.int)))
def mX7_read : MT := (7, yX7_read, cX7_read, 3, (some (FieldType.int)))
def mX7_asTold : MT := (7, yX7_asTold, cX7_asTold, 2, none)
def mX7_changes : MT := (7, yX7_changes, cX7_changes, 4, none)
def mX7_lengthOf : MT := (7, yX7_lengthOf, cX7_lengthOf, 3, (some (FieldType.int)))
def mX7_makes : MT := (7, yX7_makes, cX7_makes, 3, none)
def mX7_isKept : MT := (7, yX7_isKept, cX7_isKept, 5, none)
def mX7_keepsOn : MT := (7, yX7_keepsOn, cX7_keepsOn, 4, none)
def mX7_breaks : MT := (7, yX7_breaks, cX7_breaks, 4, none)
def mX7_goesBy : MT := (7, yX7_goesBy, cX7_goesBy, 3, none)
def mX7_runs : MT := (7, yX7_runs, cX7_runs, 2, none)
def mX7_runsTold : MT := (7, yX7_runsTold, cX7_runsTold, 1, none)
def mX7_fitsOn : MT := (7, yX7_fitsOn, cX7_fitsOn, 3, (some (FieldType.boolean)))
def mX7_fitMany : MT := (7, yX7_fitMany, cX7_fitMany, 4, (some (FieldType.int)))
def mX7_coatOf : MT := (7, yX7_coatOf, cX7_coatOf, 4, (some (FieldType.int)))
def mX7_coat : MT := (7, yX7_coat, cX7_coat, 4, (some (FieldType.int)))
def mX7_standsOf : MT := (7, yX7_standsOf, cX7_standsOf, 3, (some (FieldType.int)))
def mX7_stands : MT := (7, yX7_stands, cX7_stands, 3, (some (FieldType.int)))
def mX7_neatOf : MT := (7, yX7_neatOf, cX7_neatOf, 4, (some (FieldType.int)))
def mX7_neat : MT := (7, yX7_neat, cX7_neat, 2, (some (FieldType.int)))
def mX7_nakedNow : MT := (7, yX7_nakedNow, cX7_nakedNow, 4, (some (FieldType.int)))
def mX7_nakedOf : MT := (7, yX7_nakedOf, cX7_nakedOf, 2, (some (FieldType.int)))
def mX7_naked : MT := (7, yX7_naked, cX7_naked, 2, (some (FieldType.int)))
def mX7_longestOf : MT := (7, yX7_longestOf, cX7_longestOf, 4, (some (FieldType.int)))
def mX7_longest : MT := (7, yX7_longest, cX7_longest, 2, (some (FieldType.int)))
def mX7_tearsAll : MT := (7, yX7_tearsAll, cX7_tearsAll, 3, (some (FieldType.int)))
def mX7_splitsOf : MT := (7, yX7_splitsOf, cX7_splitsOf, 1, (some (FieldType.int)))
def mX7_splits : MT := (7, yX7_splits, cX7_splits, 1, (some (FieldType.int)))
def mX7_bestNow : MT := (7, yX7_bestNow, cX7_bestNow, 3, (some (FieldType.int)))
def mX7_best : MT := (7, yX7_best, cX7_best, 1, (some (FieldType.int)))
def mX7_swearOf : MT := (7, yX7_swearOf, cX7_swearOf, 6, (some (FieldType.int)))
def mX7_swear : MT := (7, yX7_swear, cX7_swear, 3, (some (FieldType.int)))
def mX7_keepBest : MT := (7, yX7_keepBest, cX7_keepBest, 7, (some (FieldType.int)))
def mX7_keep : MT := (7, yX7_keep, cX7_keep, 3, (some (FieldType.int)))
def mX7_dueOf : MT := (7, yX7_dueOf, cX7_dueOf, 8, (some (FieldType.int)))
def mX7_due : MT := (7, yX7_due, cX7_due, 3, (some (FieldType.int)))
def mX7_isHushed : MT := (7, yX7_isHushed, cX7_isHushed, 2, (some (FieldType.boolean)))
def mX7_hushBy : MT := (7, yX7_hushBy, cX7_hushBy, 3, (some (FieldType.int)))
def mX7_ofRow : MT := (7, yX7_ofRow, cX7_ofRow, 3, (some (FieldType.int)))
def mX7_hush : MT := (7, yX7_hush, cX7_hush, 2, (some (FieldType.int)))
def mX7_seen : MT := (7, yX7_seen, cX7_seen, 4, (some (FieldType.int)))
def mX7_forget : MT := (7, yX7_forget, cX7_forget, 2, (some (FieldType.int)))
def mX7_isSeen : MT := (7, yX7_isSeen, cX7_isSeen, 3, (some (FieldType.boolean)))
def mX7_neverNow : MT := (7, yX7_neverNow, cX7_neverNow, 3, (some (FieldType.int)))
def mX7_never : MT := (7, yX7_never, cX7_never, 1, (some (FieldType.int)))
def mX7_sizesBy : MT := (7, yX7_sizesBy, cX7_sizesBy, 6, (some (FieldType.int)))
def mX7_sortsBy : MT := (7, yX7_sortsBy, cX7_sortsBy, 5, (some (FieldType.int)))
def mX7_was : MT := (7, yX7_was, cX7_was, 3, (some (FieldType.int)))
def mX7_askOf : MT := (7, yX7_askOf, cX7_askOf, 10, (some (FieldType.int)))
def mX7_ask : MT := (7, yX7_ask, cX7_ask, 2, (some (FieldType.int)))
def mX7_wordOf : MT := (7, yX7_wordOf, cX7_wordOf, 11, (some (FieldType.long)))
def mX7_word : MT := (7, yX7_word, cX7_word, 5, (some (FieldType.long)))
def mX7_yearOf : MT := (7, yX7_yearOf, cX7_yearOf, 7, (some (FieldType.int)))
def mX7_year : MT := (7, yX7_year, cX7_year, 4, (some (FieldType.int)))
def mX7_meets : MT := (7, yX7_meets, cX7_meets, 2, (some (FieldType.int)))
def mX7_isSheet : MT := (7, yX7_isSheet, cX7_isSheet, 1, (some (FieldType.boolean)))
def mX7_sheet : MT := (7, yX7_sheet, cX7_sheet, 5, (some (FieldType.int)))
def mX7_lose : MT := (7, yX7_lose, cX7_lose, 2, (some (FieldType.int)))
def mX7_lacks : MT := (7, yX7_lacks, cX7_lacks, 4, (some (FieldType.int)))
def mX7_lays : MT := (7, yX7_lays, cX7_lays, 4, none)
def mX7_put : MT := (7, yX7_put, cX7_put, 6, (some (FieldType.int)))
def mX7_get : MT := (7, yX7_get, cX7_get, 5, (some (FieldType.int)))
def mX7_copy : MT := (7, yX7_copy, cX7_copy, 7, (some (FieldType.int)))
def mX7_write : MT := (7, yX7_write, cX7_write, 4, (some (FieldType.int)))
def mX7_sumOf : MT := (7, yX7_sumOf, cX7_sumOf, 2, (some (FieldType.int)))
def mX7_count : MT := (7, yX7_count, cX7_count, 2, (some (FieldType.int)))
def mX7_promiseDigest : MT := (7, yX7_promiseDigest, cX7_promiseDigest, 7, (some (FieldType.long)))
def mX7_coatDigest : MT := (7, yX7_coatDigest, cX7_coatDigest, 8, (some (FieldType.long)))
def mX7_personDigest : MT := (7, yX7_personDigest, cX7_personDigest, 6, (some (FieldType.long)))
def mX7_digest : MT := (7, yX7_digest, cX7_digest, 4, (some (FieldType.long)))
def mJ6_numberOfTrailingZeros_0f7a4 : MT := (8, yJ6_numberOfTrailingZeros_0f7a4, cJ6_numberOfTrailingZeros_0f7a4, 2, (some (FieldType.int)))
def mJ6_bitCount_0f7a4 : MT := (8, yJ6_bitCount_0f7a4, cJ6_bitCount_0f7a4, 1, (some (FieldType.int)))
def mJ7_fill_53178 : MT := (10, yJ7_fill_53178, cJ7_fill_53178, 4, none)
def mtL : List MT := [mX0_init, mX0_arrange, mX0_enterAll, mX0_enter, mX0_begin, mX0_advance, mX0_gain, mX0_fulfil, mX0_fail, mX0_lengthen, mX0_shorten, mX0_fits, mX0_fittingBits, mX0_nakedBits, mX0_allRips, mX0_showsAll, mX0_showsBehind, mX1_init, mX1_has, mX1_take, mX2_init, mX2_isSheet, mX2_isForm, mX2_isLost, mX2_lay, mX2_findingAt, mX2_hasItems, mX2_store, mX3_init, mX3_append, mX3_firstFault, mX3_goesOnInPeople, mX3_goesOnInPromises, mX4_init, mX4_isFull, mX4_add, mX4_dropLast, mX5_init, mX5_has, mX5_take, mX5_add, mX5_dropLast, mX6_init, mX6_type, mX6_wipe, mX6_undo, mX6_fault, mX6_person, mX6_promise, mX6_keeping, mX6_lie, mX6_letting, mX6_back, mX6_read, mX6_coat, mX6_stands, mX6_neat, mX6_naked, mX6_longest, mX6_splits, mX6_best, mX6_swear, mX6_keep, mX6_due, mX6_hush, mX6_seen, mX6_forget, mX6_never, mX6_was, mX6_ask, mX6_word, mX6_year, mX6_sheet, mX6_lose, mX6_put, mX6_get, mX6_copy, mX6_write, mX6_count, mX6_digest, mX6_isUpTo, mX6_isText, mX6_isDay, mX6_isGreat, mX6_mayBePerson, mX6_mayBeKeeping, mX6_textOf, mX6_takeTexts, mX6_found, mX6_liveUntil, mX6_liesToHush, mX6_leavesNobodyNaked, mX6_fittingValues, mX6_noteCoatsBySize, mX6_mostAlike, mX6_keepingsOf, mX6_weight, mX6_drawKeepings, mX6_nextSeed, mX6_mixed, mX6_withPromise, mX6_withPerson, mX6_withCoat, mX7_init, mX7_in, mX7_isIn, mX7_no, mX7_lowest, mX7_isText, mX7_isDay, mX7_isEight, mX7_type, mX7_wipe, mX7_undo, mX7_byteAt, mX7_readsPerson, mX7_readsPromise, mX7_readsParts, mX7_faultOf, mX7_reads, mX7_fault, mX7_isPerson, mX7_isPromise, mX7_personOf, mX7_person, mX7_promiseOf, mX7_promise, mX7_keeping, mX7_lie, mX7_letting, mX7_back, mX7_read, mX7_asTold, mX7_changes, mX7_lengthOf, mX7_makes, mX7_isKept, mX7_keepsOn, mX7_breaks, mX7_goesBy, mX7_runs, mX7_runsTold, mX7_fitsOn, mX7_fitMany, mX7_coatOf, mX7_coat, mX7_standsOf, mX7_stands, mX7_neatOf, mX7_neat, mX7_nakedNow, mX7_nakedOf, mX7_naked, mX7_longestOf, mX7_longest, mX7_tearsAll, mX7_splitsOf, mX7_splits, mX7_bestNow, mX7_best, mX7_swearOf, mX7_swear, mX7_keepBest, mX7_keep, mX7_dueOf, mX7_due, mX7_isHushed, mX7_hushBy, mX7_ofRow, mX7_hush, mX7_seen, mX7_forget, mX7_isSeen, mX7_neverNow, mX7_never, mX7_sizesBy, mX7_sortsBy, mX7_was, mX7_askOf, mX7_ask, mX7_wordOf, mX7_word, mX7_yearOf, mX7_year, mX7_meets, mX7_isSheet, mX7_sheet, mX7_lose, mX7_lacks, mX7_lays, mX7_put, mX7_get, mX7_copy, mX7_write, mX7_sumOf, mX7_count, mX7_promiseDigest, mX7_coatDigest, mX7_personDigest, mX7_digest, mJ6_numberOfTrailingZeros_0f7a4, mJ6_bitCount_0f7a4, mJ7_fill_53178]
def tX0_init : List (Option (Instr × Nat)) := [some (.aload_n 0, 1), some (.invokespecial 5, 3), none, none, some (.aload_n 0, 1), some (.new 11, 3), none, none, some (.dup, 1), some (.invokespecial 13, 3), none, none, some (.putfield 14, 3), none, none, some (.aload_n 0, 1), some (.new 20, 3), none, none, some (.dup, 1), some (.invokespecial 22, 3), none, none, some (.putfield 23, 3), none, none, some (.aload_n 0, 1), some (.new 1, 3), none, none, some (.dup, 1), some (.bipush 8, 2), none, some (.invokespecial 27, 3), none, none, some (.putfield 30, 3), none, none, some (.aload_n 0, 1), some (.new 1, 3), none, none, some (.dup, 1), some (.bipush 6, 2), none, some (.invokespecial 27, 3), none, none, some (.putfield 34, 3), none, none, some (.aload_n 0, 1), some (.new 1, 3), none, none, some (.dup, 1), some (.bipush 6, 2), none, some (.invokespecial 27, 3), none, none, some (.putfield 37, 3), none, none, some (.aload_n 0, 1), some (.bipush 49, 2), none, some (.newarray .int, 2), none, some (.putfield 40, 3), none, none, some (.aload_n 0, 1), some (.bipush 49, 2), none, some (.newarray .int, 2), none, some (.putfield 44, 3), none, none, some (.aload_n 0, 1), some (.bipush 8, 2), none, some (.newarray .int, 2), none, some (.putfield 47, 3), none, none, some (.aload_n 0, 1), some (.bipush 8, 2), none, some (.newarray .int, 2), none, some (.putfield 50, 3), none, none, some (.aload_n 0, 1), some (.bipush 11, 2), none, some (.newarray .int, 2), none, some (.putfield 53, 3), none, none, some (.aload_n 0, 1), some (.iconst 0, 1), some (.putfield 56, 3), none, none, some (.aload_n 0, 1), some (.iconst 0, 1), some (.putfield 60, 3), none, none, some (.aload_n 0, 1), some (.iconst 0, 1), some (.putfield 63, 3), none, none, some (.aload_n 0, 1), some (.iconst 0, 1), some (.putfield 66, 3), none, none, some (.aload_n 0, 1), some (.aload_n 0, 1), some (.getfield 30, 3), none, none, some (.putfield 69, 3), none, none, some (.return_, 1)]
def tX0_arrange : List (Option (Instr × Nat)) := [some (.aload_n 0, 1), some (.aload_n 1, 1), some (.putfield 69, 3), none, none, some (.aload_n 0, 1), some (.iconst 0, 1), some (.putfield 56, 3), none, none, some (.aload_n 0, 1), some (.iconst 0, 1), some (.putfield 63, 3), none, none, some (.aload_n 0, 1), some (.iconst 0, 1), some (.putfield 66, 3), none, none, some (.iconst 0, 1), some (.istore_n 2, 1), some (.iload_n 2, 1), some (.aload_n 0, 1), some (.getfield 23, 3), none, none, some (.getfield 72, 3), none, none, some (.if_icmp .ge 71, 3), none, none, some (.aload_n 0, 1), some (.getfield 14, 3), none, none, some (.aload_n 0, 1), some (.getfield 23, 3), none, none, some (.getfield 75, 3), none, none, some (.iload_n 2, 1), some (.iaload, 1), some (.invokevirtual 78, 3), none, none, some (.ifCond .eq 46, 3), none, none, some (.aload_n 0, 1), some (.aload_n 0, 1), some (.getfield 23, 3), none, none, some (.getfield 82, 3), none, none, some (.iload_n 2, 1), some (.iaload, 1), some (.iconst 0, 1), some (.iload_n 2, 1), some (.invokevirtual 85, 3), none, none, some (.aload_n 0, 1), some (.getfield 23, 3), none, none, some (.getfield 89, 3), none, none, some (.iload_n 2, 1), some (.iaload, 1), some (.iconst (-1), 1), some (.if_icmp .eq 18, 3), none, none, some (.aload_n 0, 1), some (.aload_n 0, 1), some (.getfield 23, 3), none, none, some (.getfield 89, 3), none, none, some (.iload_n 2, 1), some (.iaload, 1), some (.iconst 2, 1), some (.iload_n 2, 1), some (.invokevirtual 85, 3), none, none, some (.iinc 2 1, 3), none, none, some (.goto (-76), 3), none, none, some (.iconst 0, 1), some (.istore_n 2, 1), some (.iload_n 2, 1), some (.aload_n 0, 1), some (.getfield 69, 3), none, none, some (.getfield 92, 3), none, none, some (.if_icmp .ge 43, 3), none, none, some (.aload_n 0, 1), some (.getfield 23, 3), none, none, some (.aload_n 0, 1), some (.getfield 69, 3), none, none, some (.getfield 93, 3), none, none, some (.iload_n 2, 1), some (.iaload, 1), some (.invokevirtual 94, 3), none, none, some (.ifCond .eq 18, 3), none, none, some (.aload_n 0, 1), some (.aload_n 0, 1), some (.getfield 69, 3), none, none, some (.getfield 95, 3), none, none, some (.iload_n 2, 1), some (.iaload, 1), some (.iconst 1, 1), some (.iload_n 2, 1), some (.invokevirtual 85, 3), none, none, some (.iinc 2 1, 3), none, none, some (.goto (-48), 3), none, none, some (.aload_n 0, 1), some (.aload_n 0, 1), some (.getfield 34, 3), none, none, some (.iconst 3, 1), some (.invokevirtual 98, 3), none, none, some (.aload_n 0, 1), some (.aload_n 0, 1), some (.getfield 37, 3), none, none, some (.iconst 4, 1), some (.invokevirtual 98, 3), none, none, some (.return_, 1)]
def tX0_enterAll : List (Option (Instr × Nat)) := [some (.iconst 0, 1), some (.istore_n 3, 1), some (.iload_n 3, 1), some (.aload_n 1, 1), some (.getfield 92, 3), none, none, some (.if_icmp .ge 37, 3), none, none, some (.aload_n 0, 1), some (.getfield 14, 3), none, none, some (.aload_n 1, 1), some (.getfield 93, 3), none, none, some (.iload_n 3, 1), some (.iaload, 1), some (.invokevirtual 78, 3), none, none, some (.ifCond .eq 15, 3), none, none, some (.aload_n 0, 1), some (.aload_n 1, 1), some (.getfield 95, 3), none, none, some (.iload_n 3, 1), some (.iaload, 1), some (.iload_n 2, 1), some (.iload_n 3, 1), some (.invokevirtual 85, 3), none, none, some (.iinc 3 1, 3), none, none, some (.goto (-39), 3), none, none, some (.return_, 1)]
def tX0_enter : List (Option (Instr × Nat)) := [some (.aload_n 0, 1), some (.getfield 56, 3), none, none, some (.bipush 49, 2), none, some (.if_icmp .lt 4, 3), none, none, some (.return_, 1), some (.iconst 5, 1), some (.iload_n 1, 1), some (.imul, 1), some (.iload_n 2, 1), some (.iadd, 1), some (.istore 4, 2), none, some (.aload_n 0, 1), some (.getfield 56, 3), none, none, some (.istore 5, 2), none, some (.iload 5, 2), none, some (.ifCond .le 55, 3), none, none, some (.aload_n 0, 1), some (.getfield 40, 3), none, none, some (.iload 5, 2), none, some (.iconst 1, 1), some (.isub, 1), some (.iaload, 1), some (.iload 4, 2), none, some (.if_icmp .le 41, 3), none, none, some (.aload_n 0, 1), some (.getfield 40, 3), none, none, some (.iload 5, 2), none, some (.aload_n 0, 1), some (.getfield 40, 3), none, none, some (.iload 5, 2), none, some (.iconst 1, 1), some (.isub, 1), some (.iaload, 1), some (.iastore, 1), some (.aload_n 0, 1), some (.getfield 44, 3), none, none, some (.iload 5, 2), none, some (.aload_n 0, 1), some (.getfield 44, 3), none, none, some (.iload 5, 2), none, some (.iconst 1, 1), some (.isub, 1), some (.iaload, 1), some (.iastore, 1), some (.iinc 5 (-1), 3), none, none, some (.goto (-54), 3), none, none, some (.aload_n 0, 1), some (.getfield 40, 3), none, none, some (.iload 5, 2), none, some (.iload 4, 2), none, some (.iastore, 1), some (.aload_n 0, 1), some (.getfield 44, 3), none, none, some (.iload 5, 2), none, some (.iload_n 3, 1), some (.iastore, 1), some (.aload_n 0, 1), some (.dup, 1), some (.getfield 56, 3), none, none, some (.iconst 1, 1), some (.iadd, 1), some (.putfield 56, 3), none, none, some (.return_, 1)]
def tX0_begin : List (Option (Instr × Nat)) := [some (.aload_n 0, 1), some (.iconst 0, 1), some (.putfield 60, 3), none, none, some (.aload_n 0, 1), some (.getfield 14, 3), none, none, some (.getfield 102, 3), none, none, some (.iconst 0, 1), some (.aload_n 0, 1), some (.getfield 47, 3), none, none, some (.iconst 0, 1), some (.bipush 8, 2), none, some (.invokestatic 105, 3), none, none, some (.aload_n 0, 1), some (.getfield 50, 3), none, none, some (.iconst 0, 1), some (.invokestatic 111, 3), none, none, some (.aload_n 0, 1), some (.getfield 53, 3), none, none, some (.iconst 0, 1), some (.invokestatic 111, 3), none, none, some (.return_, 1)]
def tX0_advance : List (Option (Instr × Nat)) := [some (.aload_n 0, 1), some (.getfield 60, 3), none, none, some (.aload_n 0, 1), some (.getfield 56, 3), none, none, some (.if_icmp .ge 206, 3), none, none, some (.aload_n 0, 1), some (.getfield 40, 3), none, none, some (.aload_n 0, 1), some (.getfield 60, 3), none, none, some (.iaload, 1), some (.iconst 5, 1), some (.iload_n 1, 1), some (.iconst 1, 1), some (.iadd, 1), some (.imul, 1), some (.if_icmp .ge 189, 3), none, none, some (.aload_n 0, 1), some (.getfield 44, 3), none, none, some (.aload_n 0, 1), some (.getfield 60, 3), none, none, some (.iaload, 1), some (.istore_n 2, 1), some (.aload_n 0, 1), some (.getfield 40, 3), none, none, some (.aload_n 0, 1), some (.getfield 60, 3), none, none, some (.iaload, 1), some (.iconst 5, 1), some (.irem, 1), some (.tableswitch 130 0 3 #[31, 59, 86, 94], 31), none, none, none, none, none, none, none, none, none, none, none, none, none, none, none, none, none, none, none, none, none, none, none, none, none, none, none, none, none, none, some (.aload_n 0, 1), some (.getfield 53, 3), none, none, some (.iload_n 2, 1), some (.iconst 1, 1), some (.iastore, 1), some (.aload_n 0, 1), some (.aload_n 0, 1), some (.getfield 23, 3), none, none, some (.getfield 75, 3), none, none, some (.iload_n 2, 1), some (.iaload, 1), some (.aload_n 0, 1), some (.iload_n 2, 1), some (.invokevirtual 117, 3), none, none, some (.invokevirtual 121, 3), none, none, some (.goto 96, 3), none, none, some (.aload_n 0, 1), some (.getfield 63, 3), none, none, some (.iload_n 2, 1), some (.ishr, 1), some (.iconst 1, 1), some (.iand, 1), some (.ifCond .ne 85, 3), none, none, some (.aload_n 0, 1), some (.aload_n 0, 1), some (.getfield 69, 3), none, none, some (.getfield 93, 3), none, none, some (.iload_n 2, 1), some (.iaload, 1), some (.invokevirtual 125, 3), none, none, some (.goto 69, 3), none, none, some (.aload_n 0, 1), some (.iload_n 2, 1), some (.invokevirtual 128, 3), none, none, some (.goto 61, 3), none, none, some (.aload_n 0, 1), some (.getfield 66, 3), none, none, some (.iload_n 2, 1), some (.ishr, 1), some (.iconst 1, 1), some (.iand, 1), some (.ifCond .ne 50, 3), none, none, some (.aload_n 0, 1), some (.aload_n 0, 1), some (.getfield 34, 3), none, none, some (.getfield 93, 3), none, none, some (.iload_n 2, 1), some (.iaload, 1), some (.aload_n 0, 1), some (.getfield 34, 3), none, none, some (.getfield 131, 3), none, none, some (.iload_n 2, 1), some (.iaload, 1), some (.invokevirtual 134, 3), none, none, some (.goto 25, 3), none, none, some (.aload_n 0, 1), some (.aload_n 0, 1), some (.getfield 37, 3), none, none, some (.getfield 93, 3), none, none, some (.iload_n 2, 1), some (.iaload, 1), some (.aload_n 0, 1), some (.getfield 37, 3), none, none, some (.getfield 131, 3), none, none, some (.iload_n 2, 1), some (.iaload, 1), some (.invokevirtual 121, 3), none, none, some (.aload_n 0, 1), some (.dup, 1), some (.getfield 60, 3), none, none, some (.iconst 1, 1), some (.iadd, 1), some (.putfield 60, 3), none, none, some (.goto (-211), 3), none, none, some (.return_, 1)]
def tX0_gain : List (Option (Instr × Nat)) := [some (.aload_n 0, 1), some (.getfield 14, 3), none, none, some (.getfield 137, 3), none, none, some (.aload_n 0, 1), some (.getfield 23, 3), none, none, some (.getfield 75, 3), none, none, some (.iload_n 1, 1), some (.iaload, 1), some (.iaload, 1), some (.istore_n 2, 1), some (.aload_n 0, 1), some (.getfield 23, 3), none, none, some (.getfield 140, 3), none, none, some (.iload_n 1, 1), some (.iaload, 1), some (.istore_n 3, 1), some (.iload_n 2, 1), some (.iconst 1, 1), some (.if_icmp .ne 9, 3), none, none, some (.iconst 2, 1), some (.iload_n 3, 1), some (.imul, 1), some (.goto 15, 3), none, none, some (.iload_n 2, 1), some (.iconst 2, 1), some (.if_icmp .ne 7, 3), none, none, some (.iload_n 3, 1), some (.goto 6, 3), none, none, some (.iload_n 3, 1), some (.iconst 2, 1), some (.idiv, 1), some (.ireturn, 1)]
def tX0_fulfil : List (Option (Instr × Nat)) := [some (.aload_n 0, 1), some (.getfield 53, 3), none, none, some (.iload_n 1, 1), some (.iaload, 1), some (.iconst 1, 1), some (.if_icmp .eq 4, 3), none, none, some (.return_, 1), some (.aload_n 0, 1), some (.getfield 53, 3), none, none, some (.iload_n 1, 1), some (.iconst 2, 1), some (.iastore, 1), some (.aload_n 0, 1), some (.getfield 23, 3), none, none, some (.getfield 75, 3), none, none, some (.iload_n 1, 1), some (.iaload, 1), some (.istore_n 2, 1), some (.aload_n 0, 1), some (.getfield 14, 3), none, none, some (.getfield 102, 3), none, none, some (.iload_n 2, 1), some (.iaload, 1), some (.istore_n 3, 1), some (.aload_n 0, 1), some (.getfield 23, 3), none, none, some (.getfield 140, 3), none, none, some (.iload_n 1, 1), some (.iaload, 1), some (.istore 4, 2), none, some (.aload_n 0, 1), some (.getfield 47, 3), none, none, some (.iload_n 2, 1), some (.iaload, 1), some (.iload_n 3, 1), some (.if_icmp .le 25, 3), none, none, some (.aload_n 0, 1), some (.getfield 47, 3), none, none, some (.iload_n 2, 1), some (.iload_n 3, 1), some (.aload_n 0, 1), some (.getfield 47, 3), none, none, some (.iload_n 2, 1), some (.iaload, 1), some (.iload 4, 2), none, some (.isub, 1), some (.invokestatic 143, 3), none, none, some (.iastore, 1), some (.goto 22, 3), none, none, some (.aload_n 0, 1), some (.getfield 47, 3), none, none, some (.iload_n 2, 1), some (.iload_n 3, 1), some (.aload_n 0, 1), some (.getfield 47, 3), none, none, some (.iload_n 2, 1), some (.iaload, 1), some (.iload 4, 2), none, some (.iadd, 1), some (.invokestatic 149, 3), none, none, some (.iastore, 1), some (.return_, 1)]
def tX0_fail : List (Option (Instr × Nat)) := [some (.aload_n 0, 1), some (.getfield 53, 3), none, none, some (.iload_n 1, 1), some (.iaload, 1), some (.iconst 1, 1), some (.if_icmp .eq 4, 3), none, none, some (.return_, 1), some (.aload_n 0, 1), some (.getfield 53, 3), none, none, some (.iload_n 1, 1), some (.iconst 3, 1), some (.iastore, 1), some (.aload_n 0, 1), some (.getfield 23, 3), none, none, some (.getfield 75, 3), none, none, some (.iload_n 1, 1), some (.iaload, 1), some (.istore_n 2, 1), some (.aload_n 0, 1), some (.iload_n 2, 1), some (.aload_n 0, 1), some (.getfield 14, 3), none, none, some (.getfield 137, 3), none, none, some (.iload_n 2, 1), some (.iaload, 1), some (.iconst 2, 1), some (.if_icmp .ne 13, 3), none, none, some (.aload_n 0, 1), some (.iload_n 1, 1), some (.invokevirtual 117, 3), none, none, some (.iconst 2, 1), some (.iadd, 1), some (.goto 8, 3), none, none, some (.aload_n 0, 1), some (.iload_n 1, 1), some (.invokevirtual 117, 3), none, none, some (.invokevirtual 134, 3), none, none, some (.aload_n 0, 1), some (.getfield 50, 3), none, none, some (.iload_n 2, 1), some (.dup2, 1), some (.iaload, 1), some (.iconst 1, 1), some (.iadd, 1), some (.iastore, 1), some (.return_, 1)]
def tX0_lengthen : List (Option (Instr × Nat)) := [some (.aload_n 0, 1), some (.getfield 47, 3), none, none, some (.iload_n 1, 1), some (.iaload, 1), some (.iload_n 2, 1), some (.iadd, 1), some (.istore_n 3, 1), some (.aload_n 0, 1), some (.getfield 47, 3), none, none, some (.iload_n 1, 1), some (.iload_n 3, 1), some (.bipush 99, 2), none, some (.if_icmp .le 8, 3), none, none, some (.bipush 99, 2), none, some (.goto 4, 3), none, none, some (.iload_n 3, 1), some (.iastore, 1), some (.return_, 1)]
def tX0_shorten : List (Option (Instr × Nat)) := [some (.aload_n 0, 1), some (.getfield 47, 3), none, none, some (.iload_n 1, 1), some (.iaload, 1), some (.iload_n 2, 1), some (.isub, 1), some (.istore_n 3, 1), some (.aload_n 0, 1), some (.getfield 47, 3), none, none, some (.iload_n 1, 1), some (.iload_n 3, 1), some (.ifCond .ge 7, 3), none, none, some (.iconst 0, 1), some (.goto 4, 3), none, none, some (.iload_n 3, 1), some (.iastore, 1), some (.return_, 1)]
def tX0_fits : List (Option (Instr × Nat)) := [some (.aload_n 0, 1), some (.getfield 47, 3), none, none, some (.iload_n 1, 1), some (.iaload, 1), some (.aload_n 0, 1), some (.getfield 14, 3), none, none, some (.getfield 102, 3), none, none, some (.iload_n 1, 1), some (.iaload, 1), some (.isub, 1), some (.istore_n 2, 1), some (.iload_n 2, 1), some (.ifCond .eq 8, 3), none, none, some (.iload_n 2, 1), some (.iconst 1, 1), some (.if_icmp .ne 7, 3), none, none, some (.iconst 1, 1), some (.goto 4, 3), none, none, some (.iconst 0, 1), some (.ireturn, 1)]
def tX0_fittingBits : List (Option (Instr × Nat)) := [some (.iconst 0, 1), some (.istore_n 1, 1), some (.iconst 0, 1), some (.istore_n 2, 1), some (.iload_n 2, 1), some (.aload_n 0, 1), some (.getfield 14, 3), none, none, some (.getfield 152, 3), none, none, some (.if_icmp .ge 23, 3), none, none, some (.aload_n 0, 1), some (.iload_n 2, 1), some (.invokevirtual 153, 3), none, none, some (.ifCond .eq 9, 3), none, none, some (.iload_n 1, 1), some (.iconst 1, 1), some (.iload_n 2, 1), some (.ishl, 1), some (.ior, 1), some (.istore_n 1, 1), some (.iinc 2 1, 3), none, none, some (.goto (-28), 3), none, none, some (.iload_n 1, 1), some (.ireturn, 1)]
def tX0_nakedBits : List (Option (Instr × Nat)) := [some (.iconst 0, 1), some (.istore_n 1, 1), some (.iconst 0, 1), some (.istore_n 2, 1), some (.iload_n 2, 1), some (.aload_n 0, 1), some (.getfield 14, 3), none, none, some (.getfield 152, 3), none, none, some (.if_icmp .ge 24, 3), none, none, some (.aload_n 0, 1), some (.getfield 47, 3), none, none, some (.iload_n 2, 1), some (.iaload, 1), some (.ifCond .ne 9, 3), none, none, some (.iload_n 1, 1), some (.iconst 1, 1), some (.iload_n 2, 1), some (.ishl, 1), some (.ior, 1), some (.istore_n 1, 1), some (.iinc 2 1, 3), none, none, some (.goto (-29), 3), none, none, some (.iload_n 1, 1), some (.ireturn, 1)]
def tX0_allRips : List (Option (Instr × Nat)) := [some (.iconst 0, 1), some (.istore_n 1, 1), some (.iconst 0, 1), some (.istore_n 2, 1), some (.iload_n 2, 1), some (.aload_n 0, 1), some (.getfield 14, 3), none, none, some (.getfield 152, 3), none, none, some (.if_icmp .ge 18, 3), none, none, some (.iload_n 1, 1), some (.aload_n 0, 1), some (.getfield 50, 3), none, none, some (.iload_n 2, 1), some (.iaload, 1), some (.iadd, 1), some (.istore_n 1, 1), some (.iinc 2 1, 3), none, none, some (.goto (-23), 3), none, none, some (.iload_n 1, 1), some (.ireturn, 1)]
def tX0_showsAll : List (Option (Instr × Nat)) := [some (.aload_n 0, 1), some (.invokevirtual 156, 3), none, none, some (.iconst 0, 1), some (.istore_n 2, 1), some (.iload_n 2, 1), some (.bipush 24, 2), none, some (.if_icmp .ge 25, 3), none, none, some (.aload_n 0, 1), some (.iload_n 2, 1), some (.invokevirtual 159, 3), none, none, some (.aload_n 0, 1), some (.iload_n 2, 1), some (.aload_n 1, 1), some (.invokevirtual 162, 3), none, none, some (.ifCond .ne 5, 3), none, none, some (.iconst 0, 1), some (.ireturn, 1), some (.iinc 2 1, 3), none, none, some (.goto (-25), 3), none, none, some (.iconst 1, 1), some (.ireturn, 1)]
def tX0_showsBehind : List (Option (Instr × Nat)) := [some (.iconst 0, 1), some (.istore_n 3, 1), some (.iload_n 3, 1), some (.aload_n 2, 1), some (.getfield 92, 3), none, none, some (.if_icmp .ge 57, 3), none, none, some (.aload_n 2, 1), some (.getfield 93, 3), none, none, some (.iload_n 3, 1), some (.iaload, 1), some (.istore 4, 2), none, some (.aload_n 2, 1), some (.getfield 95, 3), none, none, some (.iload_n 3, 1), some (.iaload, 1), some (.iload_n 1, 1), some (.if_icmp .ne 33, 3), none, none, some (.aload_n 0, 1), some (.getfield 14, 3), none, none, some (.iload 4, 2), none, some (.invokevirtual 78, 3), none, none, some (.ifCond .eq 19, 3), none, none, some (.aload_n 0, 1), some (.getfield 47, 3), none, none, some (.iload 4, 2), none, some (.iaload, 1), some (.aload_n 2, 1), some (.getfield 131, 3), none, none, some (.iload_n 3, 1), some (.iaload, 1), some (.if_icmp .eq 5, 3), none, none, some (.iconst 0, 1), some (.ireturn, 1), some (.iinc 3 1, 3), none, none, some (.goto (-59), 3), none, none, some (.iconst 1, 1), some (.ireturn, 1)]
def tX1_init : List (Option (Instr × Nat)) := [some (.aload_n 0, 1), some (.invokespecial 3, 3), none, none, some (.aload_n 0, 1), some (.bipush 8, 2), none, some (.newarray .int, 2), none, some (.putfield 9, 3), none, none, some (.aload_n 0, 1), some (.bipush 8, 2), none, some (.newarray .int, 2), none, some (.putfield 15, 3), none, none, some (.aload_n 0, 1), some (.iconst 0, 1), some (.putfield 18, 3), none, none, some (.return_, 1)]
def tX1_has : List (Option (Instr × Nat)) := [some (.iload_n 1, 1), some (.ifCond .lt 15, 3), none, none, some (.iload_n 1, 1), some (.aload_n 0, 1), some (.getfield 18, 3), none, none, some (.if_icmp .ge 7, 3), none, none, some (.iconst 1, 1), some (.goto 4, 3), none, none, some (.iconst 0, 1), some (.ireturn, 1)]
def tX1_take : List (Option (Instr × Nat)) := [some (.aload_n 0, 1), some (.aload_n 1, 1), some (.invokevirtual 22, 3), none, none, some (.iconst (-1), 1), some (.if_icmp .ne 19, 3), none, none, some (.aload_n 1, 1), some (.getfield 28, 3), none, none, some (.iconst 1, 1), some (.iadd, 1), some (.iconst 3, 1), some (.idiv, 1), some (.bipush 8, 2), none, some (.invokestatic 31, 3), none, none, some (.goto 4, 3), none, none, some (.iconst 0, 1), some (.putfield 18, 3), none, none, some (.iconst 0, 1), some (.istore_n 2, 1), some (.iload_n 2, 1), some (.aload_n 0, 1), some (.getfield 18, 3), none, none, some (.if_icmp .ge 64, 3), none, none, some (.aload_n 1, 1), some (.getfield 37, 3), none, none, some (.iconst 3, 1), some (.iload_n 2, 1), some (.imul, 1), some (.iaload, 1), some (.istore_n 3, 1), some (.aload_n 0, 1), some (.getfield 9, 3), none, none, some (.iload_n 2, 1), some (.iload_n 3, 1), some (.bipush 115, 2), none, some (.if_icmp .ne 7, 3), none, none, some (.iconst 1, 1), some (.goto 14, 3), none, none, some (.iload_n 3, 1), some (.bipush 97, 2), none, some (.if_icmp .ne 7, 3), none, none, some (.iconst 2, 1), some (.goto 4, 3), none, none, some (.iconst 0, 1), some (.iastore, 1), some (.aload_n 0, 1), some (.getfield 15, 3), none, none, some (.iload_n 2, 1), some (.aload_n 1, 1), some (.getfield 37, 3), none, none, some (.iconst 3, 1), some (.iload_n 2, 1), some (.imul, 1), some (.iconst 1, 1), some (.iadd, 1), some (.iaload, 1), some (.bipush 48, 2), none, some (.isub, 1), some (.iastore, 1), some (.iinc 2 1, 3), none, none, some (.goto (-66), 3), none, none, some (.return_, 1)]
def tX2_init : List (Option (Instr × Nat)) := [some (.aload_n 0, 1), some (.invokespecial 3, 3), none, none, some (.aload_n 0, 1), some (.iconst 4, 1), some (.bipush 60, 2), none, some (.multianewarray 11 2, 4), none, none, none, some (.putfield 13, 3), none, none, some (.aload_n 0, 1), some (.iconst 4, 1), some (.newarray .int, 2), none, some (.putfield 16, 3), none, none, some (.aload_n 0, 1), some (.iconst 4, 1), some (.newarray .int, 2), none, some (.putfield 20, 3), none, none, some (.aload_n 0, 1), some (.getfield 20, 3), none, none, some (.iconst (-1), 1), some (.invokestatic 23, 3), none, none, some (.return_, 1)]
def tX2_isSheet : List (Option (Instr × Nat)) := [some (.iload_n 0, 1), some (.iconst 3, 1), some (.invokestatic 29, 3), none, none, some (.ireturn, 1)]
def tX2_isForm : List (Option (Instr × Nat)) := [some (.iload_n 0, 1), some (.iconst 2, 1), some (.invokestatic 29, 3), none, none, some (.ireturn, 1)]
def tX2_isLost : List (Option (Instr × Nat)) := [some (.aload_n 0, 1), some (.getfield 20, 3), none, none, some (.iload_n 1, 1), some (.iaload, 1), some (.iconst (-1), 1), some (.if_icmp .ne 7, 3), none, none, some (.iconst 1, 1), some (.goto 4, 3), none, none, some (.iconst 0, 1), some (.ireturn, 1)]
def tX2_lay : List (Option (Instr × Nat)) := [some (.aload_n 0, 1), some (.getfield 20, 3), none, none, some (.iload_n 1, 1), some (.iload_n 2, 1), some (.iastore, 1), some (.aload_n 0, 1), some (.getfield 16, 3), none, none, some (.iload_n 1, 1), some (.iload_n 3, 1), some (.iastore, 1), some (.aload_n 0, 1), some (.getfield 13, 3), none, none, some (.iload_n 1, 1), some (.aaload, 1), some (.iconst 0, 1), some (.invokestatic 23, 3), none, none, some (.return_, 1)]
def tX2_findingAt : List (Option (Instr × Nat)) := [some (.aload_n 0, 1), some (.iload_n 1, 1), some (.invokevirtual 33, 3), none, none, some (.ifCond .eq 5, 3), none, none, some (.iconst 1, 1), some (.ireturn, 1), some (.aload_n 0, 1), some (.getfield 20, 3), none, none, some (.iload_n 1, 1), some (.iaload, 1), some (.iload_n 2, 1), some (.if_icmp .eq 5, 3), none, none, some (.iconst 3, 1), some (.ireturn, 1), some (.aload_n 0, 1), some (.iload_n 1, 1), some (.iload_n 3, 1), some (.iconst 1, 1), some (.invokevirtual 37, 3), none, none, some (.ifCond .eq 7, 3), none, none, some (.iconst 0, 1), some (.goto 4, 3), none, none, some (.iconst 2, 1), some (.ireturn, 1)]
def tX2_hasItems : List (Option (Instr × Nat)) := [some (.iload_n 2, 1), some (.ifCond .lt 33, 3), none, none, some (.iload_n 3, 1), some (.ifCond .lt 29, 3), none, none, some (.iload_n 3, 1), some (.aload_n 0, 1), some (.getfield 16, 3), none, none, some (.iload_n 1, 1), some (.iaload, 1), some (.if_icmp .gt 19, 3), none, none, some (.iload_n 2, 1), some (.aload_n 0, 1), some (.getfield 16, 3), none, none, some (.iload_n 1, 1), some (.iaload, 1), some (.iload_n 3, 1), some (.isub, 1), some (.if_icmp .gt 7, 3), none, none, some (.iconst 1, 1), some (.goto 4, 3), none, none, some (.iconst 0, 1), some (.ireturn, 1)]
def tX2_store : List (Option (Instr × Nat)) := [some (.aload_n 0, 1), some (.getfield 13, 3), none, none, some (.iload_n 1, 1), some (.aaload, 1), some (.iload_n 2, 1), some (.aload_n 0, 1), some (.getfield 20, 3), none, none, some (.iload_n 1, 1), some (.iaload, 1), some (.ifCond .ne 8, 3), none, none, some (.iload_n 3, 1), some (.i2b, 1), some (.goto 19, 3), none, none, some (.aload_n 0, 1), some (.getfield 20, 3), none, none, some (.iload_n 1, 1), some (.iaload, 1), some (.iconst 1, 1), some (.if_icmp .ne 8, 3), none, none, some (.iload_n 3, 1), some (.i2s, 1), some (.goto 4, 3), none, none, some (.iload_n 3, 1), some (.iastore, 1), some (.return_, 1)]
def tX3_init : List (Option (Instr × Nat)) := [some (.aload_n 0, 1), some (.invokespecial 3, 3), none, none, some (.aload_n 0, 1), some (.bipush 49, 2), none, some (.newarray .int, 2), none, some (.putfield 9, 3), none, none, some (.aload_n 0, 1), some (.iconst 0, 1), some (.putfield 15, 3), none, none, some (.aload_n 0, 1), some (.iload_n 1, 1), some (.bipush 49, 2), none, some (.invokestatic 19, 3), none, none, some (.putfield 25, 3), none, none, some (.aload_n 0, 1), some (.iload_n 2, 1), some (.putfield 28, 3), none, none, some (.return_, 1)]
def tX3_append : List (Option (Instr × Nat)) := [some (.aload_n 0, 1), some (.getfield 15, 3), none, none, some (.aload_n 0, 1), some (.getfield 25, 3), none, none, some (.if_icmp .lt 5, 3), none, none, some (.iconst 0, 1), some (.ireturn, 1), some (.aload_n 0, 1), some (.getfield 9, 3), none, none, some (.aload_n 0, 1), some (.getfield 15, 3), none, none, some (.iload_n 1, 1), some (.iastore, 1), some (.aload_n 0, 1), some (.dup, 1), some (.getfield 15, 3), none, none, some (.iconst 1, 1), some (.iadd, 1), some (.putfield 15, 3), none, none, some (.iconst 1, 1), some (.ireturn, 1)]
def tX3_firstFault : List (Option (Instr × Nat)) := [some (.iconst 0, 1), some (.istore_n 1, 1), some (.iload_n 1, 1), some (.aload_n 0, 1), some (.getfield 15, 3), none, none, some (.if_icmp .ge 46, 3), none, none, some (.aload_n 0, 1), some (.getfield 28, 3), none, none, some (.ifCond .eq 16, 3), none, none, some (.iload_n 1, 1), some (.aload_n 0, 1), some (.getfield 9, 3), none, none, some (.iload_n 1, 1), some (.iaload, 1), some (.invokestatic 32, 3), none, none, some (.goto 13, 3), none, none, some (.iload_n 1, 1), some (.aload_n 0, 1), some (.getfield 9, 3), none, none, some (.iload_n 1, 1), some (.iaload, 1), some (.invokestatic 36, 3), none, none, some (.istore_n 2, 1), some (.iload_n 2, 1), some (.ifCond .ne 5, 3), none, none, some (.iload_n 1, 1), some (.ireturn, 1), some (.iinc 1 1, 3), none, none, some (.goto (-48), 3), none, none, some (.aload_n 0, 1), some (.getfield 15, 3), none, none, some (.ifCond .eq 33, 3), none, none, some (.aload_n 0, 1), some (.getfield 28, 3), none, none, some (.ifCond .eq 16, 3), none, none, some (.aload_n 0, 1), some (.getfield 15, 3), none, none, some (.iconst 5, 1), some (.irem, 1), some (.iconst 4, 1), some (.if_icmp .ne 20, 3), none, none, some (.goto 13, 3), none, none, some (.aload_n 0, 1), some (.getfield 15, 3), none, none, some (.iconst 3, 1), some (.irem, 1), some (.iconst 2, 1), some (.if_icmp .ne 7, 3), none, none, some (.iconst 1, 1), some (.goto 4, 3), none, none, some (.iconst 0, 1), some (.istore_n 1, 1), some (.iload_n 1, 1), some (.ifCond .eq 7, 3), none, none, some (.iconst (-1), 1), some (.goto 7, 3), none, none, some (.aload_n 0, 1), some (.getfield 15, 3), none, none, some (.ireturn, 1)]
def tX3_goesOnInPeople : List (Option (Instr × Nat)) := [some (.iload_n 0, 1), some (.iconst 3, 1), some (.irem, 1), some (.lookupswitch 67 #[(0, 25), (1, 49)], 25), none, none, none, none, none, none, none, none, none, none, none, none, none, none, none, none, none, none, none, none, none, none, none, none, some (.iload_n 1, 1), some (.bipush 109, 2), none, some (.if_icmp .eq 15, 3), none, none, some (.iload_n 1, 1), some (.bipush 115, 2), none, some (.if_icmp .eq 9, 3), none, none, some (.iload_n 1, 1), some (.bipush 97, 2), none, some (.if_icmp .ne 7, 3), none, none, some (.iconst 1, 1), some (.goto 4, 3), none, none, some (.iconst 0, 1), some (.ireturn, 1), some (.iload_n 1, 1), some (.bipush 48, 2), none, some (.if_icmp .lt 13, 3), none, none, some (.iload_n 1, 1), some (.bipush 57, 2), none, some (.if_icmp .gt 7, 3), none, none, some (.iconst 1, 1), some (.goto 4, 3), none, none, some (.iconst 0, 1), some (.ireturn, 1), some (.iload_n 1, 1), some (.bipush 59, 2), none, some (.if_icmp .ne 7, 3), none, none, some (.iconst 1, 1), some (.goto 4, 3), none, none, some (.iconst 0, 1), some (.ireturn, 1)]
def tX3_goesOnInPromises : List (Option (Instr × Nat)) := [some (.iload_n 0, 1), some (.iconst 5, 1), some (.irem, 1), some (.tableswitch 81 0 4 #[33, 51, 81, 81, 69], 33), none, none, none, none, none, none, none, none, none, none, none, none, none, none, none, none, none, none, none, none, none, none, none, none, none, none, none, none, none, none, none, none, some (.iload_n 1, 1), some (.bipush 97, 2), none, some (.if_icmp .lt 13, 3), none, none, some (.iload_n 1, 1), some (.bipush 104, 2), none, some (.if_icmp .gt 7, 3), none, none, some (.iconst 1, 1), some (.goto 4, 3), none, none, some (.iconst 0, 1), some (.ireturn, 1), some (.iload_n 1, 1), some (.bipush 49, 2), none, some (.if_icmp .lt 13, 3), none, none, some (.iload_n 1, 1), some (.bipush 57, 2), none, some (.if_icmp .gt 7, 3), none, none, some (.iconst 1, 1), some (.goto 4, 3), none, none, some (.iconst 0, 1), some (.ireturn, 1), some (.iload_n 1, 1), some (.bipush 59, 2), none, some (.if_icmp .ne 7, 3), none, none, some (.iconst 1, 1), some (.goto 4, 3), none, none, some (.iconst 0, 1), some (.ireturn, 1), some (.iload_n 1, 1), some (.bipush 97, 2), none, some (.if_icmp .lt 13, 3), none, none, some (.iload_n 1, 1), some (.bipush 120, 2), none, some (.if_icmp .gt 7, 3), none, none, some (.iconst 1, 1), some (.goto 4, 3), none, none, some (.iconst 0, 1), some (.ireturn, 1)]
def tX4_init : List (Option (Instr × Nat)) := [some (.aload_n 0, 1), some (.invokespecial 1, 3), none, none, some (.aload_n 0, 1), some (.bipush 9, 2), none, some (.newarray .int, 2), none, some (.putfield 9, 3), none, none, some (.aload_n 0, 1), some (.bipush 9, 2), none, some (.newarray .int, 2), none, some (.putfield 13, 3), none, none, some (.aload_n 0, 1), some (.bipush 9, 2), none, some (.newarray .int, 2), none, some (.putfield 16, 3), none, none, some (.aload_n 0, 1), some (.iconst 0, 1), some (.putfield 19, 3), none, none, some (.aload_n 0, 1), some (.iload_n 1, 1), some (.putfield 23, 3), none, none, some (.return_, 1)]
def tX4_isFull : List (Option (Instr × Nat)) := [some (.aload_n 0, 1), some (.getfield 19, 3), none, none, some (.aload_n 0, 1), some (.getfield 23, 3), none, none, some (.if_icmp .lt 7, 3), none, none, some (.iconst 1, 1), some (.goto 4, 3), none, none, some (.iconst 0, 1), some (.ireturn, 1)]
def tX4_add : List (Option (Instr × Nat)) := [some (.aload_n 0, 1), some (.getfield 19, 3), none, none, some (.bipush 9, 2), none, some (.if_icmp .ge 43, 3), none, none, some (.aload_n 0, 1), some (.getfield 9, 3), none, none, some (.aload_n 0, 1), some (.getfield 19, 3), none, none, some (.iload_n 1, 1), some (.iastore, 1), some (.aload_n 0, 1), some (.getfield 13, 3), none, none, some (.aload_n 0, 1), some (.getfield 19, 3), none, none, some (.iload_n 2, 1), some (.iastore, 1), some (.aload_n 0, 1), some (.getfield 16, 3), none, none, some (.aload_n 0, 1), some (.getfield 19, 3), none, none, some (.iload_n 3, 1), some (.iastore, 1), some (.aload_n 0, 1), some (.dup, 1), some (.getfield 19, 3), none, none, some (.iconst 1, 1), some (.iadd, 1), some (.putfield 19, 3), none, none, some (.aload_n 0, 1), some (.getfield 19, 3), none, none, some (.ireturn, 1)]
def tX4_dropLast : List (Option (Instr × Nat)) := [some (.aload_n 0, 1), some (.getfield 19, 3), none, none, some (.ifCond .le 13, 3), none, none, some (.aload_n 0, 1), some (.dup, 1), some (.getfield 19, 3), none, none, some (.iconst 1, 1), some (.isub, 1), some (.putfield 19, 3), none, none, some (.aload_n 0, 1), some (.getfield 19, 3), none, none, some (.ireturn, 1)]
def tX5_init : List (Option (Instr × Nat)) := [some (.aload_n 0, 1), some (.invokespecial 3, 3), none, none, some (.aload_n 0, 1), some (.bipush 11, 2), none, some (.newarray .int, 2), none, some (.putfield 9, 3), none, none, some (.aload_n 0, 1), some (.bipush 11, 2), none, some (.newarray .int, 2), none, some (.putfield 15, 3), none, none, some (.aload_n 0, 1), some (.bipush 11, 2), none, some (.newarray .int, 2), none, some (.putfield 18, 3), none, none, some (.aload_n 0, 1), some (.bipush 11, 2), none, some (.newarray .int, 2), none, some (.putfield 21, 3), none, none, some (.aload_n 0, 1), some (.iconst 0, 1), some (.putfield 24, 3), none, none, some (.return_, 1)]
def tX5_has : List (Option (Instr × Nat)) := [some (.iload_n 1, 1), some (.ifCond .lt 15, 3), none, none, some (.iload_n 1, 1), some (.aload_n 0, 1), some (.getfield 24, 3), none, none, some (.if_icmp .ge 7, 3), none, none, some (.iconst 1, 1), some (.goto 4, 3), none, none, some (.iconst 0, 1), some (.ireturn, 1)]
def tX5_take : List (Option (Instr × Nat)) := [some (.aload_n 1, 1), some (.invokevirtual 28, 3), none, none, some (.iconst (-1), 1), some (.if_icmp .ne 19, 3), none, none, some (.aload_n 1, 1), some (.getfield 34, 3), none, none, some (.iconst 1, 1), some (.iadd, 1), some (.iconst 5, 1), some (.idiv, 1), some (.bipush 10, 2), none, some (.invokestatic 37, 3), none, none, some (.goto 4, 3), none, none, some (.iconst 0, 1), some (.istore_n 2, 1), some (.aload_n 0, 1), some (.iconst 0, 1), some (.putfield 24, 3), none, none, some (.iconst 0, 1), some (.istore_n 3, 1), some (.iload_n 3, 1), some (.iload_n 2, 1), some (.if_icmp .ge 64, 3), none, none, some (.iconst 5, 1), some (.iload_n 3, 1), some (.imul, 1), some (.istore 4, 2), none, some (.aload_n 0, 1), some (.aload_n 1, 1), some (.getfield 43, 3), none, none, some (.iload 4, 2), none, some (.iaload, 1), some (.bipush 97, 2), none, some (.isub, 1), some (.aload_n 1, 1), some (.getfield 43, 3), none, none, some (.iload 4, 2), none, some (.iconst 1, 1), some (.iadd, 1), some (.iaload, 1), some (.bipush 48, 2), none, some (.isub, 1), some (.aload_n 1, 1), some (.getfield 43, 3), none, none, some (.iload 4, 2), none, some (.iconst 2, 1), some (.iadd, 1), some (.iaload, 1), some (.bipush 97, 2), none, some (.isub, 1), some (.aload_n 1, 1), some (.getfield 43, 3), none, none, some (.iload 4, 2), none, some (.iconst 3, 1), some (.iadd, 1), some (.iaload, 1), some (.bipush 97, 2), none, some (.isub, 1), some (.invokevirtual 46, 3), none, none, some (.iinc 3 1, 3), none, none, some (.goto (-63), 3), none, none, some (.return_, 1)]
def tX5_add : List (Option (Instr × Nat)) := [some (.aload_n 0, 1), some (.getfield 24, 3), none, none, some (.bipush 10, 2), none, some (.if_icmp .gt 54, 3), none, none, some (.aload_n 0, 1), some (.getfield 9, 3), none, none, some (.aload_n 0, 1), some (.getfield 24, 3), none, none, some (.iload_n 1, 1), some (.iastore, 1), some (.aload_n 0, 1), some (.getfield 15, 3), none, none, some (.aload_n 0, 1), some (.getfield 24, 3), none, none, some (.iload_n 2, 1), some (.iastore, 1), some (.aload_n 0, 1), some (.getfield 18, 3), none, none, some (.aload_n 0, 1), some (.getfield 24, 3), none, none, some (.iload_n 3, 1), some (.iastore, 1), some (.aload_n 0, 1), some (.getfield 21, 3), none, none, some (.aload_n 0, 1), some (.getfield 24, 3), none, none, some (.iload 4, 2), none, some (.iastore, 1), some (.aload_n 0, 1), some (.dup, 1), some (.getfield 24, 3), none, none, some (.iconst 1, 1), some (.iadd, 1), some (.putfield 24, 3), none, none, some (.return_, 1)]
def tX5_dropLast : List (Option (Instr × Nat)) := [some (.aload_n 0, 1), some (.getfield 24, 3), none, none, some (.ifCond .le 13, 3), none, none, some (.aload_n 0, 1), some (.dup, 1), some (.getfield 24, 3), none, none, some (.iconst 1, 1), some (.isub, 1), some (.putfield 24, 3), none, none, some (.return_, 1)]
def tX6_init : List (Option (Instr × Nat)) := [some (.aload_n 0, 1), some (.invokespecial 1, 3), none, none, some (.aload_n 0, 1), some (.new 7, 3), none, none, some (.dup, 1), some (.bipush 23, 2), none, some (.iconst 0, 1), some (.invokespecial 11, 3), none, none, some (.putfield 14, 3), none, none, some (.aload_n 0, 1), some (.new 7, 3), none, none, some (.dup, 1), some (.bipush 49, 2), none, some (.iconst 1, 1), some (.invokespecial 11, 3), none, none, some (.putfield 18, 3), none, none, some (.aload_n 0, 1), some (.new 21, 3), none, none, some (.dup, 1), some (.invokespecial 23, 3), none, none, some (.putfield 24, 3), none, none, some (.aload_n 0, 1), some (.aload_n 0, 1), some (.getfield 24, 3), none, none, some (.getfield 28, 3), none, none, some (.putfield 32, 3), none, none, some (.aload_n 0, 1), some (.aload_n 0, 1), some (.getfield 24, 3), none, none, some (.getfield 33, 3), none, none, some (.putfield 37, 3), none, none, some (.aload_n 0, 1), some (.aload_n 0, 1), some (.getfield 24, 3), none, none, some (.getfield 38, 3), none, none, some (.putfield 42, 3), none, none, some (.aload_n 0, 1), some (.aload_n 0, 1), some (.getfield 24, 3), none, none, some (.getfield 43, 3), none, none, some (.putfield 46, 3), none, none, some (.aload_n 0, 1), some (.aload_n 0, 1), some (.getfield 24, 3), none, none, some (.getfield 47, 3), none, none, some (.putfield 50, 3), none, none, some (.aload_n 0, 1), some (.new 51, 3), none, none, some (.dup, 1), some (.bipush 8, 2), none, some (.invokespecial 53, 3), none, none, some (.putfield 56, 3), none, none, some (.aload_n 0, 1), some (.new 51, 3), none, none, some (.dup, 1), some (.bipush 8, 2), none, some (.invokespecial 53, 3), none, none, some (.putfield 59, 3), none, none, some (.aload_n 0, 1), some (.new 62, 3), none, none, some (.dup, 1), some (.invokespecial 64, 3), none, none, some (.putfield 65, 3), none, none, some (.aload_n 0, 1), some (.bipush 10, 2), none, some (.bipush 24, 2), none, some (.multianewarray 69 2, 4), none, none, none, some (.putfield 71, 3), none, none, some (.aload_n 0, 1), some (.iconst 0, 1), some (.putfield 74, 3), none, none, some (.return_, 1)]
def tX6_type : List (Option (Instr × Nat)) := [some (.iload_n 1, 1), some (.invokestatic 78, 3), none, none, some (.ifCond .eq 13, 3), none, none, some (.iload_n 2, 1), some (.sipush 255, 3), none, none, some (.invokestatic 82, 3), none, none, some (.ifCond .ne 6, 3), none, none, some (.bipush (-2), 2), none, some (.ireturn, 1), some (.aload_n 0, 1), some (.iload_n 1, 1), some (.invokevirtual 86, 3), none, none, some (.iload_n 2, 1), some (.invokevirtual 90, 3), none, none, some (.ifCond .ne 6, 3), none, none, some (.bipush (-4), 2), none, some (.ireturn, 1), some (.aload_n 0, 1), some (.invokevirtual 93, 3), none, none, some (.aload_n 0, 1), some (.iload_n 1, 1), some (.invokevirtual 86, 3), none, none, some (.getfield 96, 3), none, none, some (.ireturn, 1)]
def tX6_wipe : List (Option (Instr × Nat)) := [some (.iload_n 1, 1), some (.invokestatic 78, 3), none, none, some (.ifCond .ne 6, 3), none, none, some (.bipush (-2), 2), none, some (.ireturn, 1), some (.aload_n 0, 1), some (.iload_n 1, 1), some (.invokevirtual 86, 3), none, none, some (.getfield 96, 3), none, none, some (.istore_n 2, 1), some (.aload_n 0, 1), some (.iload_n 1, 1), some (.invokevirtual 86, 3), none, none, some (.iconst 0, 1), some (.putfield 96, 3), none, none, some (.aload_n 0, 1), some (.invokevirtual 93, 3), none, none, some (.iload_n 2, 1), some (.ireturn, 1)]
def tX6_undo : List (Option (Instr × Nat)) := [some (.iload_n 1, 1), some (.invokestatic 78, 3), none, none, some (.ifCond .ne 6, 3), none, none, some (.bipush (-2), 2), none, some (.ireturn, 1), some (.aload_n 0, 1), some (.iload_n 1, 1), some (.invokevirtual 86, 3), none, none, some (.getfield 96, 3), none, none, some (.ifCond .ne 6, 3), none, none, some (.bipush (-3), 2), none, some (.ireturn, 1), some (.aload_n 0, 1), some (.iload_n 1, 1), some (.invokevirtual 86, 3), none, none, some (.dup, 1), some (.getfield 96, 3), none, none, some (.iconst 1, 1), some (.isub, 1), some (.putfield 96, 3), none, none, some (.aload_n 0, 1), some (.invokevirtual 93, 3), none, none, some (.aload_n 0, 1), some (.iload_n 1, 1), some (.invokevirtual 86, 3), none, none, some (.getfield 96, 3), none, none, some (.ireturn, 1)]
def tX6_fault : List (Option (Instr × Nat)) := [some (.iload_n 1, 1), some (.invokestatic 78, 3), none, none, some (.ifCond .eq 14, 3), none, none, some (.aload_n 0, 1), some (.iload_n 1, 1), some (.invokevirtual 86, 3), none, none, some (.invokevirtual 99, 3), none, none, some (.goto 5, 3), none, none, some (.bipush (-2), 2), none, some (.ireturn, 1)]
def tX6_person : List (Option (Instr × Nat)) := [some (.aload_n 0, 1), some (.getfield 32, 3), none, none, some (.iload_n 1, 1), some (.invokevirtual 103, 3), none, none, some (.ifCond .eq 11, 3), none, none, some (.iload_n 2, 1), some (.iconst 1, 1), some (.invokestatic 82, 3), none, none, some (.ifCond .ne 6, 3), none, none, some (.bipush (-2), 2), none, some (.ireturn, 1), some (.iload_n 2, 1), some (.ifCond .ne 15, 3), none, none, some (.aload_n 0, 1), some (.getfield 32, 3), none, none, some (.getfield 108, 3), none, none, some (.iload_n 1, 1), some (.iaload, 1), some (.goto 12, 3), none, none, some (.aload_n 0, 1), some (.getfield 32, 3), none, none, some (.getfield 112, 3), none, none, some (.iload_n 1, 1), some (.iaload, 1), some (.ireturn, 1)]
def tX6_promise : List (Option (Instr × Nat)) := [some (.aload_n 0, 1), some (.getfield 37, 3), none, none, some (.iload_n 1, 1), some (.invokevirtual 115, 3), none, none, some (.ifCond .eq 11, 3), none, none, some (.iload_n 2, 1), some (.iconst 3, 1), some (.invokestatic 82, 3), none, none, some (.ifCond .ne 6, 3), none, none, some (.bipush (-2), 2), none, some (.ireturn, 1), some (.iload_n 2, 1), some (.tableswitch 55 0 2 #[25, 35, 45], 25), none, none, none, none, none, none, none, none, none, none, none, none, none, none, none, none, none, none, none, none, none, none, none, none, some (.aload_n 0, 1), some (.getfield 37, 3), none, none, some (.getfield 118, 3), none, none, some (.iload_n 1, 1), some (.iaload, 1), some (.ireturn, 1), some (.aload_n 0, 1), some (.getfield 37, 3), none, none, some (.getfield 121, 3), none, none, some (.iload_n 1, 1), some (.iaload, 1), some (.ireturn, 1), some (.aload_n 0, 1), some (.getfield 37, 3), none, none, some (.getfield 124, 3), none, none, some (.iload_n 1, 1), some (.iaload, 1), some (.ireturn, 1), some (.aload_n 0, 1), some (.getfield 37, 3), none, none, some (.getfield 127, 3), none, none, some (.iload_n 1, 1), some (.iaload, 1), some (.ireturn, 1)]
def tX6_keeping : List (Option (Instr × Nat)) := [some (.iload_n 1, 1), some (.iload_n 2, 1), some (.invokestatic 130, 3), none, none, some (.ifCond .ne 6, 3), none, none, some (.bipush (-2), 2), none, some (.ireturn, 1), some (.aload_n 0, 1), some (.getfield 42, 3), none, none, some (.invokevirtual 133, 3), none, none, some (.ifCond .eq 8, 3), none, none, some (.bipush (-4), 2), none, some (.goto 13, 3), none, none, some (.aload_n 0, 1), some (.getfield 42, 3), none, none, some (.iload_n 1, 1), some (.iload_n 2, 1), some (.iconst 0, 1), some (.invokevirtual 137, 3), none, none, some (.ireturn, 1)]
def tX6_lie : List (Option (Instr × Nat)) := [some (.iload_n 1, 1), some (.invokestatic 141, 3), none, none, some (.ifCond .eq 17, 3), none, none, some (.iload_n 2, 1), some (.invokestatic 144, 3), none, none, some (.ifCond .eq 10, 3), none, none, some (.iload_n 3, 1), some (.invokestatic 147, 3), none, none, some (.ifCond .ne 6, 3), none, none, some (.bipush (-2), 2), none, some (.ireturn, 1), some (.aload_n 0, 1), some (.getfield 46, 3), none, none, some (.invokevirtual 133, 3), none, none, some (.ifCond .eq 8, 3), none, none, some (.bipush (-4), 2), none, some (.goto 13, 3), none, none, some (.aload_n 0, 1), some (.getfield 46, 3), none, none, some (.iload_n 1, 1), some (.iload_n 2, 1), some (.iload_n 3, 1), some (.invokevirtual 137, 3), none, none, some (.ireturn, 1)]
def tX6_letting : List (Option (Instr × Nat)) := [some (.iload_n 1, 1), some (.invokestatic 141, 3), none, none, some (.ifCond .eq 17, 3), none, none, some (.iload_n 2, 1), some (.invokestatic 144, 3), none, none, some (.ifCond .eq 10, 3), none, none, some (.iload_n 3, 1), some (.invokestatic 147, 3), none, none, some (.ifCond .ne 6, 3), none, none, some (.bipush (-2), 2), none, some (.ireturn, 1), some (.aload_n 0, 1), some (.getfield 50, 3), none, none, some (.invokevirtual 133, 3), none, none, some (.ifCond .eq 8, 3), none, none, some (.bipush (-4), 2), none, some (.goto 13, 3), none, none, some (.aload_n 0, 1), some (.getfield 50, 3), none, none, some (.iload_n 1, 1), some (.iload_n 2, 1), some (.iload_n 3, 1), some (.invokevirtual 137, 3), none, none, some (.ireturn, 1)]
def tX6_back : List (Option (Instr × Nat)) := [some (.iload_n 1, 1), some (.iconst 2, 1), some (.invokestatic 82, 3), none, none, some (.ifCond .ne 6, 3), none, none, some (.bipush (-2), 2), none, some (.ireturn, 1), some (.iload_n 1, 1), some (.ifCond .ne 10, 3), none, none, some (.aload_n 0, 1), some (.getfield 42, 3), none, none, some (.goto 19, 3), none, none, some (.iload_n 1, 1), some (.iconst 1, 1), some (.if_icmp .ne 10, 3), none, none, some (.aload_n 0, 1), some (.getfield 46, 3), none, none, some (.goto 7, 3), none, none, some (.aload_n 0, 1), some (.getfield 50, 3), none, none, some (.astore_n 2, 1), some (.aload_n 2, 1), some (.getfield 150, 3), none, none, some (.ifCond .ne 8, 3), none, none, some (.bipush (-3), 2), none, some (.goto 7, 3), none, none, some (.aload_n 2, 1), some (.invokevirtual 153, 3), none, none, some (.ireturn, 1)]
def tX6_read : List (Option (Instr × Nat)) := [some (.iload_n 1, 1), some (.invokestatic 156, 3), none, none, some (.ifCond .ne 6, 3), none, none, some (.bipush (-2), 2), none, some (.ireturn, 1), some (.aload_n 0, 1), some (.getfield 65, 3), none, none, some (.iload_n 1, 1), some (.invokevirtual 159, 3), none, none, some (.ifCond .eq 9, 3), none, none, some (.aload_n 0, 1), some (.iconst 1, 1), some (.invokevirtual 162, 3), none, none, some (.ireturn, 1), some (.iconst 0, 1), some (.istore_n 2, 1), some (.iconst 0, 1), some (.istore_n 3, 1), some (.iload_n 3, 1), some (.iconst 1, 1), some (.iadd, 1), some (.aload_n 0, 1), some (.getfield 65, 3), none, none, some (.getfield 166, 3), none, none, some (.iload_n 1, 1), some (.iaload, 1), some (.if_icmp .ge 76, 3), none, none, some (.aload_n 0, 1), some (.getfield 65, 3), none, none, some (.getfield 169, 3), none, none, some (.iload_n 1, 1), some (.aaload, 1), some (.iload_n 3, 1), some (.iaload, 1), some (.istore 4, 2), none, some (.aload_n 0, 1), some (.getfield 65, 3), none, none, some (.getfield 169, 3), none, none, some (.iload_n 1, 1), some (.aaload, 1), some (.iload_n 3, 1), some (.iconst 1, 1), some (.iadd, 1), some (.iaload, 1), some (.istore 5, 2), none, some (.iload 4, 2), none, some (.iload 5, 2), none, some (.invokestatic 130, 3), none, none, some (.ifCond .eq 38, 3), none, none, some (.aload_n 0, 1), some (.getfield 42, 3), none, none, some (.invokevirtual 133, 3), none, none, some (.ifCond .eq 6, 3), none, none, some (.goto 25, 3), none, none, some (.aload_n 0, 1), some (.getfield 42, 3), none, none, some (.iload 4, 2), none, some (.iload 5, 2), none, some (.iconst 0, 1), some (.invokevirtual 137, 3), none, none, some (.pop, 1), some (.iinc 2 1, 3), none, none, some (.iinc 3 2, 3), none, none, some (.goto (-85), 3), none, none, some (.iload_n 2, 1), some (.ireturn, 1)]
def tX6_coat : List (Option (Instr × Nat)) := [some (.iload_n 1, 1), some (.invokestatic 141, 3), none, none, some (.ifCond .eq 22, 3), none, none, some (.aload_n 0, 1), some (.getfield 32, 3), none, none, some (.iload_n 2, 1), some (.invokevirtual 103, 3), none, none, some (.ifCond .eq 11, 3), none, none, some (.iload_n 3, 1), some (.iconst 2, 1), some (.invokestatic 82, 3), none, none, some (.ifCond .ne 6, 3), none, none, some (.bipush (-2), 2), none, some (.ireturn, 1), some (.aload_n 0, 1), some (.iload_n 1, 1), some (.invokevirtual 172, 3), none, none, some (.iload_n 3, 1), some (.lookupswitch 52 #[(0, 25), (1, 35)], 25), none, none, none, none, none, none, none, none, none, none, none, none, none, none, none, none, none, none, none, none, none, none, none, none, some (.aload_n 0, 1), some (.getfield 24, 3), none, none, some (.getfield 175, 3), none, none, some (.iload_n 2, 1), some (.iaload, 1), some (.ireturn, 1), some (.aload_n 0, 1), some (.getfield 24, 3), none, none, some (.iload_n 2, 1), some (.invokevirtual 176, 3), none, none, some (.ifCond .eq 7, 3), none, none, some (.iconst 1, 1), some (.goto 4, 3), none, none, some (.iconst 0, 1), some (.ireturn, 1), some (.aload_n 0, 1), some (.getfield 24, 3), none, none, some (.getfield 179, 3), none, none, some (.iload_n 2, 1), some (.iaload, 1), some (.ireturn, 1)]
def tX6_stands : List (Option (Instr × Nat)) := [some (.iload_n 1, 1), some (.invokestatic 141, 3), none, none, some (.ifCond .eq 14, 3), none, none, some (.aload_n 0, 1), some (.getfield 37, 3), none, none, some (.iload_n 2, 1), some (.invokevirtual 115, 3), none, none, some (.ifCond .ne 6, 3), none, none, some (.bipush (-2), 2), none, some (.ireturn, 1), some (.aload_n 0, 1), some (.iload_n 1, 1), some (.invokevirtual 172, 3), none, none, some (.aload_n 0, 1), some (.getfield 24, 3), none, none, some (.getfield 182, 3), none, none, some (.iload_n 2, 1), some (.iaload, 1), some (.ireturn, 1)]
def tX6_neat : List (Option (Instr × Nat)) := [some (.iload_n 1, 1), some (.invokestatic 141, 3), none, none, some (.ifCond .ne 6, 3), none, none, some (.bipush (-2), 2), none, some (.ireturn, 1), some (.aload_n 0, 1), some (.iload_n 1, 1), some (.invokevirtual 172, 3), none, none, some (.aload_n 0, 1), some (.getfield 24, 3), none, none, some (.invokevirtual 185, 3), none, none, some (.ireturn, 1)]
def tX6_naked : List (Option (Instr × Nat)) := [some (.iload_n 1, 1), some (.invokestatic 141, 3), none, none, some (.ifCond .ne 6, 3), none, none, some (.bipush (-2), 2), none, some (.ireturn, 1), some (.aload_n 0, 1), some (.iload_n 1, 1), some (.invokevirtual 172, 3), none, none, some (.aload_n 0, 1), some (.getfield 24, 3), none, none, some (.invokevirtual 188, 3), none, none, some (.ireturn, 1)]
def tX6_longest : List (Option (Instr × Nat)) := [some (.iload_n 1, 1), some (.invokestatic 141, 3), none, none, some (.ifCond .ne 6, 3), none, none, some (.bipush (-2), 2), none, some (.ireturn, 1), some (.aload_n 0, 1), some (.iload_n 1, 1), some (.invokevirtual 172, 3), none, none, some (.iconst (-1), 1), some (.istore_n 2, 1), some (.iconst (-1), 1), some (.istore_n 3, 1), some (.iconst 0, 1), some (.istore 4, 2), none, some (.iload 4, 2), none, some (.aload_n 0, 1), some (.getfield 32, 3), none, none, some (.getfield 191, 3), none, none, some (.if_icmp .ge 37, 3), none, none, some (.aload_n 0, 1), some (.getfield 24, 3), none, none, some (.getfield 175, 3), none, none, some (.iload 4, 2), none, some (.iaload, 1), some (.iload_n 3, 1), some (.if_icmp .le 17, 3), none, none, some (.iload 4, 2), none, some (.istore_n 2, 1), some (.aload_n 0, 1), some (.getfield 24, 3), none, none, some (.getfield 175, 3), none, none, some (.iload 4, 2), none, some (.iaload, 1), some (.istore_n 3, 1), some (.iinc 4 1, 3), none, none, some (.goto (-43), 3), none, none, some (.iload_n 2, 1), some (.ireturn, 1)]
def tX6_splits : List (Option (Instr × Nat)) := [some (.aload_n 0, 1), some (.bipush 23, 2), none, some (.invokevirtual 172, 3), none, none, some (.aload_n 0, 1), some (.getfield 24, 3), none, none, some (.invokevirtual 192, 3), none, none, some (.ireturn, 1)]
def tX6_best : List (Option (Instr × Nat)) := [some (.aload_n 0, 1), some (.getfield 32, 3), none, none, some (.getfield 191, 3), none, none, some (.ifCond .ne 5, 3), none, none, some (.iconst (-1), 1), some (.ireturn, 1), some (.aload_n 0, 1), some (.getfield 24, 3), none, none, some (.aload_n 0, 1), some (.getfield 42, 3), none, none, some (.invokevirtual 195, 3), none, none, some (.aload_n 0, 1), some (.getfield 24, 3), none, none, some (.invokevirtual 199, 3), none, none, some (.iconst (-1), 1), some (.istore_n 1, 1), some (.iconst (-1), 1), some (.istore_n 2, 1), some (.iconst 0, 1), some (.istore_n 3, 1), some (.iload_n 3, 1), some (.bipush 24, 2), none, some (.if_icmp .ge 40, 3), none, none, some (.aload_n 0, 1), some (.getfield 24, 3), none, none, some (.iload_n 3, 1), some (.invokevirtual 202, 3), none, none, some (.aload_n 0, 1), some (.getfield 24, 3), none, none, some (.invokevirtual 185, 3), none, none, some (.invokestatic 205, 3), none, none, some (.istore 4, 2), none, some (.iload 4, 2), none, some (.iload_n 2, 1), some (.if_icmp .le 8, 3), none, none, some (.iload_n 3, 1), some (.istore_n 1, 1), some (.iload 4, 2), none, some (.istore_n 2, 1), some (.iinc 3 1, 3), none, none, some (.goto (-40), 3), none, none, some (.iload_n 1, 1), some (.ireturn, 1)]
def tX6_swear : List (Option (Instr × Nat)) := [some (.aload_n 0, 1), some (.getfield 32, 3), none, none, some (.iload_n 1, 1), some (.invokevirtual 103, 3), none, none, some (.ifCond .eq 10, 3), none, none, some (.iload_n 2, 1), some (.invokestatic 141, 3), none, none, some (.ifCond .ne 6, 3), none, none, some (.bipush (-2), 2), none, some (.ireturn, 1), some (.iconst (-1), 1), some (.istore_n 3, 1), some (.iconst 1, 1), some (.istore 4, 2), none, some (.iload 4, 2), none, some (.bipush 9, 2), none, some (.if_icmp .gt 52, 3), none, none, some (.iload_n 3, 1), some (.iconst (-1), 1), some (.if_icmp .ne 47, 3), none, none, some (.aload_n 0, 1), some (.getfield 37, 3), none, none, some (.iload_n 1, 1), some (.iload 4, 2), none, some (.iconst 0, 1), some (.iconst (-1), 1), some (.invokevirtual 210, 3), none, none, some (.aload_n 0, 1), some (.iload_n 2, 1), some (.invokevirtual 172, 3), none, none, some (.aload_n 0, 1), some (.getfield 24, 3), none, none, some (.iload_n 1, 1), some (.invokevirtual 176, 3), none, none, some (.ifCond .eq 6, 3), none, none, some (.iload 4, 2), none, some (.istore_n 3, 1), some (.aload_n 0, 1), some (.getfield 37, 3), none, none, some (.invokevirtual 213, 3), none, none, some (.iinc 4 1, 3), none, none, some (.goto (-53), 3), none, none, some (.iload_n 3, 1), some (.ireturn, 1)]
def tX6_keep : List (Option (Instr × Nat)) := [some (.iload_n 1, 1), some (.invokestatic 141, 3), none, none, some (.ifCond .eq 11, 3), none, none, some (.iload_n 2, 1), some (.iconst 1, 1), some (.invokestatic 82, 3), none, none, some (.ifCond .ne 6, 3), none, none, some (.bipush (-2), 2), none, some (.ireturn, 1), some (.iconst (-1), 1), some (.istore_n 3, 1), some (.iconst (-1), 1), some (.istore 4, 2), none, some (.iconst 0, 1), some (.istore 5, 2), none, some (.iload 5, 2), none, some (.aload_n 0, 1), some (.getfield 37, 3), none, none, some (.getfield 215, 3), none, none, some (.if_icmp .ge 61, 3), none, none, some (.aload_n 0, 1), some (.getfield 42, 3), none, none, some (.iload_n 1, 1), some (.iload 5, 2), none, some (.iconst 0, 1), some (.invokevirtual 137, 3), none, none, some (.pop, 1), some (.aload_n 0, 1), some (.bipush 23, 2), none, some (.invokevirtual 172, 3), none, none, some (.aload_n 0, 1), some (.getfield 24, 3), none, none, some (.invokevirtual 185, 3), none, none, some (.invokestatic 205, 3), none, none, some (.istore 6, 2), none, some (.iload 6, 2), none, some (.iload 4, 2), none, some (.if_icmp .le 10, 3), none, none, some (.iload 5, 2), none, some (.istore_n 3, 1), some (.iload 6, 2), none, some (.istore 4, 2), none, some (.aload_n 0, 1), some (.getfield 42, 3), none, none, some (.invokevirtual 153, 3), none, none, some (.pop, 1), some (.iinc 5 1, 3), none, none, some (.goto (-67), 3), none, none, some (.iload_n 2, 1), some (.ifCond .ne 7, 3), none, none, some (.iload_n 3, 1), some (.goto 5, 3), none, none, some (.iload 4, 2), none, some (.ireturn, 1)]
def tX6_due : List (Option (Instr × Nat)) := [some (.aload_n 0, 1), some (.getfield 37, 3), none, none, some (.iload_n 1, 1), some (.invokevirtual 115, 3), none, none, some (.ifCond .eq 11, 3), none, none, some (.iload_n 2, 1), some (.iconst 1, 1), some (.invokestatic 82, 3), none, none, some (.ifCond .ne 6, 3), none, none, some (.bipush (-2), 2), none, some (.ireturn, 1), some (.aload_n 0, 1), some (.getfield 37, 3), none, none, some (.getfield 127, 3), none, none, some (.iload_n 1, 1), some (.iaload, 1), some (.istore_n 3, 1), some (.iconst (-1), 1), some (.istore 4, 2), none, some (.bipush 11, 2), none, some (.istore 5, 2), none, some (.iconst 0, 1), some (.istore 6, 2), none, some (.iload 6, 2), none, some (.bipush 24, 2), none, some (.if_icmp .ge 51, 3), none, none, some (.aload_n 0, 1), some (.getfield 37, 3), none, none, some (.getfield 127, 3), none, none, some (.iload_n 1, 1), some (.iload 6, 2), none, some (.iastore, 1), some (.aload_n 0, 1), some (.bipush 23, 2), none, some (.invokevirtual 172, 3), none, none, some (.aload_n 0, 1), some (.getfield 24, 3), none, none, some (.invokevirtual 192, 3), none, none, some (.iload 5, 2), none, some (.if_icmp .ge 16, 3), none, none, some (.iload 6, 2), none, some (.istore 4, 2), none, some (.aload_n 0, 1), some (.getfield 24, 3), none, none, some (.invokevirtual 192, 3), none, none, some (.istore 5, 2), none, some (.iinc 6 1, 3), none, none, some (.goto (-52), 3), none, none, some (.aload_n 0, 1), some (.getfield 37, 3), none, none, some (.getfield 127, 3), none, none, some (.iload_n 1, 1), some (.iload_n 3, 1), some (.iastore, 1), some (.iload_n 2, 1), some (.ifCond .ne 8, 3), none, none, some (.iload 4, 2), none, some (.goto 5, 3), none, none, some (.iload 5, 2), none, some (.ireturn, 1)]
def tX6_hush : List (Option (Instr × Nat)) := [some (.iload_n 1, 1), some (.iconst (-1), 1), some (.if_icmp .lt 8, 3), none, none, some (.iload_n 1, 1), some (.iconst 1, 1), some (.if_icmp .le 6, 3), none, none, some (.bipush (-2), 2), none, some (.ireturn, 1), some (.aload_n 0, 1), some (.invokevirtual 216, 3), none, none, some (.istore_n 2, 1), some (.iload_n 2, 1), some (.iconst (-1), 1), some (.if_icmp .ne 5, 3), none, none, some (.iconst (-1), 1), some (.ireturn, 1), some (.iload_n 2, 1), some (.invokestatic 205, 3), none, none, some (.istore_n 3, 1), some (.iload_n 1, 1), some (.iconst (-1), 1), some (.if_icmp .ne 5, 3), none, none, some (.iload_n 3, 1), some (.ireturn, 1), some (.iload_n 1, 1), some (.iload_n 3, 1), some (.if_icmp .lt 5, 3), none, none, some (.iconst (-1), 1), some (.ireturn, 1), some (.iload_n 1, 1), some (.ifCond .ne 7, 3), none, none, some (.iload_n 2, 1), some (.goto 8, 3), none, none, some (.iload_n 2, 1), some (.iload_n 2, 1), some (.iconst 1, 1), some (.isub, 1), some (.iand, 1), some (.istore 4, 2), none, some (.iload 4, 2), none, some (.invokestatic 219, 3), none, none, some (.ireturn, 1)]
def tX6_seen : List (Option (Instr × Nat)) := [some (.iload_n 1, 1), some (.invokestatic 141, 3), none, none, some (.ifCond .eq 19, 3), none, none, some (.iload_n 2, 1), some (.invokestatic 144, 3), none, none, some (.ifCond .eq 12, 3), none, none, some (.iload_n 3, 1), some (.bipush 99, 2), none, some (.invokestatic 82, 3), none, none, some (.ifCond .ne 6, 3), none, none, some (.bipush (-2), 2), none, some (.ireturn, 1), some (.aload_n 0, 1), some (.getfield 56, 3), none, none, some (.invokevirtual 133, 3), none, none, some (.ifCond .eq 8, 3), none, none, some (.bipush (-4), 2), none, some (.goto 13, 3), none, none, some (.aload_n 0, 1), some (.getfield 56, 3), none, none, some (.iload_n 1, 1), some (.iload_n 2, 1), some (.iload_n 3, 1), some (.invokevirtual 137, 3), none, none, some (.ireturn, 1)]
def tX6_forget : List (Option (Instr × Nat)) := [some (.aload_n 0, 1), some (.getfield 56, 3), none, none, some (.getfield 150, 3), none, none, some (.istore_n 1, 1), some (.aload_n 0, 1), some (.getfield 56, 3), none, none, some (.iconst 0, 1), some (.putfield 150, 3), none, none, some (.iload_n 1, 1), some (.ireturn, 1)]
def tX6_never : List (Option (Instr × Nat)) := [some (.aload_n 0, 1), some (.getfield 24, 3), none, none, some (.aload_n 0, 1), some (.getfield 42, 3), none, none, some (.invokevirtual 195, 3), none, none, some (.iconst 0, 1), some (.istore_n 1, 1), some (.iconst 0, 1), some (.istore_n 2, 1), some (.iload_n 2, 1), some (.aload_n 0, 1), some (.getfield 42, 3), none, none, some (.getfield 150, 3), none, none, some (.if_icmp .ge 39, 3), none, none, some (.aload_n 0, 1), some (.getfield 24, 3), none, none, some (.iconst 1, 1), some (.iload_n 2, 1), some (.ishl, 1), some (.putfield 222, 3), none, none, some (.aload_n 0, 1), some (.getfield 24, 3), none, none, some (.aload_n 0, 1), some (.getfield 56, 3), none, none, some (.invokevirtual 225, 3), none, none, some (.ifCond .eq 9, 3), none, none, some (.iload_n 1, 1), some (.iconst 1, 1), some (.iload_n 2, 1), some (.ishl, 1), some (.ior, 1), some (.istore_n 1, 1), some (.iinc 2 1, 3), none, none, some (.goto (-44), 3), none, none, some (.iload_n 1, 1), some (.ireturn, 1)]
def tX6_was : List (Option (Instr × Nat)) := [some (.aload_n 0, 1), some (.getfield 32, 3), none, none, some (.iload_n 1, 1), some (.invokevirtual 103, 3), none, none, some (.ifCond .eq 11, 3), none, none, some (.iload_n 2, 1), some (.iconst 1, 1), some (.invokestatic 82, 3), none, none, some (.ifCond .ne 6, 3), none, none, some (.bipush (-2), 2), none, some (.ireturn, 1), some (.aload_n 0, 1), some (.getfield 24, 3), none, none, some (.aload_n 0, 1), some (.getfield 42, 3), none, none, some (.invokevirtual 195, 3), none, none, some (.iload_n 2, 1), some (.ifCond .ne 20, 3), none, none, some (.aload_n 0, 1), some (.aload_n 0, 1), some (.getfield 32, 3), none, none, some (.getfield 112, 3), none, none, some (.iload_n 1, 1), some (.bipush 10, 2), none, some (.invokevirtual 229, 3), none, none, some (.goto 16, 3), none, none, some (.aload_n 0, 1), some (.aload_n 0, 1), some (.getfield 32, 3), none, none, some (.getfield 108, 3), none, none, some (.iload_n 1, 1), some (.iconst 3, 1), some (.invokevirtual 229, 3), none, none, some (.ireturn, 1)]
def tX6_ask : List (Option (Instr × Nat)) := [some (.aload_n 0, 1), some (.getfield 32, 3), none, none, some (.iload_n 1, 1), some (.invokevirtual 103, 3), none, none, some (.ifCond .ne 6, 3), none, none, some (.bipush (-2), 2), none, some (.ireturn, 1), some (.aload_n 0, 1), some (.getfield 24, 3), none, none, some (.aload_n 0, 1), some (.getfield 42, 3), none, none, some (.invokevirtual 195, 3), none, none, some (.aload_n 0, 1), some (.aload_n 0, 1), some (.getfield 32, 3), none, none, some (.getfield 112, 3), none, none, some (.iload_n 1, 1), some (.bipush 10, 2), none, some (.invokevirtual 229, 3), none, none, some (.istore_n 2, 1), some (.aload_n 0, 1), some (.iload_n 1, 1), some (.invokevirtual 233, 3), none, none, some (.iconst (-1), 1), some (.istore_n 3, 1), some (.bipush 11, 2), none, some (.istore 4, 2), none, some (.iconst 0, 1), some (.istore 5, 2), none, some (.iload 5, 2), none, some (.bipush 24, 2), none, some (.if_icmp .ge 32, 3), none, none, some (.aload_n 0, 1), some (.iload_n 2, 1), some (.iload 5, 2), none, some (.invokevirtual 236, 3), none, none, some (.istore 6, 2), none, some (.iload 6, 2), none, some (.iload 4, 2), none, some (.if_icmp .ge 10, 3), none, none, some (.iload 5, 2), none, some (.istore_n 3, 1), some (.iload 6, 2), none, some (.istore 4, 2), none, some (.iinc 5 1, 3), none, none, some (.goto (-33), 3), none, none, some (.iload_n 3, 1), some (.ireturn, 1)]
def tX6_word : List (Option (Instr × Nat)) := [some (.iload_n 1, 1), some (.bipush 16, 2), none, some (.invokestatic 82, 3), none, none, some (.ifCond .eq 30, 3), none, none, some (.aload_n 0, 1), some (.getfield 32, 3), none, none, some (.iload_n 2, 1), some (.invokevirtual 103, 3), none, none, some (.ifCond .eq 19, 3), none, none, some (.iload_n 3, 1), some (.invokestatic 141, 3), none, none, some (.ifCond .eq 12, 3), none, none, some (.iload 4, 2), none, some (.iconst 1, 1), some (.invokestatic 82, 3), none, none, some (.ifCond .ne 7, 3), none, none, some (.ldc2_w 240, 3), none, none, some (.lreturn, 1), some (.aload_n 0, 1), some (.getfield 24, 3), none, none, some (.aload_n 0, 1), some (.getfield 42, 3), none, none, some (.invokevirtual 195, 3), none, none, some (.aload_n 0, 1), some (.iload_n 2, 1), some (.invokevirtual 242, 3), none, none, some (.istore 5, 2), none, some (.lconst 0, 1), some (.lstore 6, 2), none, some (.lconst 1, 1), some (.iconst 4, 1), some (.iload 5, 2), none, some (.invokestatic 205, 3), none, none, some (.imul, 1), some (.lshl, 1), some (.lstore 8, 2), none, some (.iconst 0, 1), some (.istore 10, 2), none, some (.iload 10, 2), none, some (.sipush 256, 3), none, none, some (.if_icmp .ge 67, 3), none, none, some (.iload 10, 2), none, some (.iload 5, 2), none, some (.iconst (-1), 1), some (.ixor, 1), some (.iand, 1), some (.ifCond .ne 51, 3), none, none, some (.aload_n 0, 1), some (.getfield 24, 3), none, none, some (.iload 10, 2), none, some (.putfield 222, 3), none, none, some (.aload_n 0, 1), some (.getfield 24, 3), none, none, some (.invokevirtual 199, 3), none, none, some (.aload_n 0, 1), some (.getfield 24, 3), none, none, some (.iload_n 3, 1), some (.invokevirtual 202, 3), none, none, some (.aload_n 0, 1), some (.getfield 24, 3), none, none, some (.iload_n 2, 1), some (.invokevirtual 176, 3), none, none, some (.ifCond .eq 16, 3), none, none, some (.lload 6, 2), none, some (.iload_n 1, 1), some (.iload 5, 2), none, some (.iload 10, 2), none, some (.invokestatic 245, 3), none, none, some (.ladd, 1), some (.lstore 6, 2), none, some (.iinc 10 1, 3), none, none, some (.goto (-69), 3), none, none, some (.iconst 0, 1), some (.istore 10, 2), none, some (.iload 10, 2), none, some (.bipush 32, 2), none, some (.if_icmp .ge 37, 3), none, none, some (.lload 8, 2), none, some (.lconst 1, 1), some (.lcmp, 1), some (.ifCond .le 30, 3), none, none, some (.lload 6, 2), none, some (.lconst 1, 1), some (.land, 1), some (.lconst 0, 1), some (.lcmp, 1), some (.ifCond .ne 21, 3), none, none, some (.lload 6, 2), none, some (.iconst 1, 1), some (.lshr, 1), some (.lstore 6, 2), none, some (.lload 8, 2), none, some (.iconst 1, 1), some (.lshr, 1), some (.lstore 8, 2), none, some (.iinc 10 1, 3), none, none, some (.goto (-38), 3), none, none, some (.iload 4, 2), none, some (.ifCond .ne 8, 3), none, none, some (.lload 6, 2), none, some (.goto 5, 3), none, none, some (.lload 8, 2), none, some (.lreturn, 1)]
def tX6_year : List (Option (Instr × Nat)) := [some (.iload_n 2, 1), some (.bipush 8, 2), none, some (.invokestatic 82, 3), none, none, some (.ifCond .eq 11, 3), none, none, some (.iload_n 3, 1), some (.iconst 1, 1), some (.invokestatic 82, 3), none, none, some (.ifCond .ne 6, 3), none, none, some (.bipush (-2), 2), none, some (.ireturn, 1), some (.aload_n 0, 1), some (.iload_n 1, 1), some (.iload_n 2, 1), some (.invokevirtual 249, 3), none, none, some (.aload_n 0, 1), some (.getfield 24, 3), none, none, some (.aload_n 0, 1), some (.getfield 59, 3), none, none, some (.invokevirtual 195, 3), none, none, some (.aload_n 0, 1), some (.getfield 24, 3), none, none, some (.invokevirtual 199, 3), none, none, some (.aload_n 0, 1), some (.getfield 24, 3), none, none, some (.bipush 23, 2), none, some (.invokevirtual 202, 3), none, none, some (.iload_n 3, 1), some (.ifCond .ne 13, 3), none, none, some (.aload_n 0, 1), some (.getfield 24, 3), none, none, some (.invokevirtual 192, 3), none, none, some (.goto 13, 3), none, none, some (.aload_n 0, 1), some (.getfield 24, 3), none, none, some (.invokevirtual 185, 3), none, none, some (.invokestatic 205, 3), none, none, some (.ireturn, 1)]
def tX6_sheet : List (Option (Instr × Nat)) := [some (.iload_n 1, 1), some (.invokestatic 156, 3), none, none, some (.ifCond .eq 16, 3), none, none, some (.iload_n 2, 1), some (.invokestatic 253, 3), none, none, some (.ifCond .eq 9, 3), none, none, some (.iload_n 3, 1), some (.bipush 60, 2), none, some (.if_icmp .le 6, 3), none, none, some (.bipush (-2), 2), none, some (.ireturn, 1), some (.iload_n 3, 1), some (.ifCond .ge 9, 3), none, none, some (.aload_n 0, 1), some (.iconst 5, 1), some (.invokevirtual 162, 3), none, none, some (.ireturn, 1), some (.aload_n 0, 1), some (.getfield 65, 3), none, none, some (.iload_n 1, 1), some (.iload_n 2, 1), some (.iload_n 3, 1), some (.invokevirtual 256, 3), none, none, some (.iload_n 3, 1), some (.ireturn, 1)]
def tX6_lose : List (Option (Instr × Nat)) := [some (.iload_n 1, 1), some (.invokestatic 156, 3), none, none, some (.ifCond .ne 6, 3), none, none, some (.bipush (-2), 2), none, some (.ireturn, 1), some (.aload_n 0, 1), some (.getfield 65, 3), none, none, some (.iload_n 1, 1), some (.invokevirtual 159, 3), none, none, some (.ifCond .eq 9, 3), none, none, some (.aload_n 0, 1), some (.iconst 1, 1), some (.invokevirtual 162, 3), none, none, some (.ireturn, 1), some (.aload_n 0, 1), some (.getfield 65, 3), none, none, some (.getfield 260, 3), none, none, some (.iload_n 1, 1), some (.iconst (-1), 1), some (.iastore, 1), some (.aload_n 0, 1), some (.getfield 65, 3), none, none, some (.getfield 166, 3), none, none, some (.iload_n 1, 1), some (.iaload, 1), some (.ireturn, 1)]
def tX6_put : List (Option (Instr × Nat)) := [some (.iload_n 1, 1), some (.invokestatic 156, 3), none, none, some (.ifCond .eq 10, 3), none, none, some (.iload_n 2, 1), some (.invokestatic 253, 3), none, none, some (.ifCond .ne 6, 3), none, none, some (.bipush (-2), 2), none, some (.ireturn, 1), some (.aload_n 0, 1), some (.getfield 65, 3), none, none, some (.iload_n 1, 1), some (.iload_n 2, 1), some (.iload_n 3, 1), some (.invokevirtual 263, 3), none, none, some (.istore 5, 2), none, some (.iload 5, 2), none, some (.ifCond .eq 10, 3), none, none, some (.aload_n 0, 1), some (.iload 5, 2), none, some (.invokevirtual 162, 3), none, none, some (.ireturn, 1), some (.aload_n 0, 1), some (.getfield 65, 3), none, none, some (.iload_n 1, 1), some (.iload_n 3, 1), some (.iload 4, 2), none, some (.invokevirtual 266, 3), none, none, some (.iconst 1, 1), some (.ireturn, 1)]
def tX6_get : List (Option (Instr × Nat)) := [some (.iload_n 1, 1), some (.invokestatic 156, 3), none, none, some (.ifCond .eq 10, 3), none, none, some (.iload_n 2, 1), some (.invokestatic 253, 3), none, none, some (.ifCond .ne 7, 3), none, none, some (.ldc_w 269, 3), none, none, some (.ireturn, 1), some (.aload_n 0, 1), some (.getfield 65, 3), none, none, some (.iload_n 1, 1), some (.iload_n 2, 1), some (.iload_n 3, 1), some (.invokevirtual 263, 3), none, none, some (.istore 4, 2), none, some (.iload 4, 2), none, some (.ifCond .eq 14, 3), none, none, some (.aload_n 0, 1), some (.iload 4, 2), none, some (.invokevirtual 162, 3), none, none, some (.pop, 1), some (.ldc_w 269, 3), none, none, some (.ireturn, 1), some (.aload_n 0, 1), some (.getfield 65, 3), none, none, some (.getfield 169, 3), none, none, some (.iload_n 1, 1), some (.aaload, 1), some (.iload_n 3, 1), some (.iaload, 1), some (.ireturn, 1)]
def tX6_copy : List (Option (Instr × Nat)) := [some (.iload_n 1, 1), some (.invokestatic 156, 3), none, none, some (.ifCond .eq 10, 3), none, none, some (.iload_n 3, 1), some (.invokestatic 156, 3), none, none, some (.ifCond .ne 6, 3), none, none, some (.bipush (-2), 2), none, some (.ireturn, 1), some (.aload_n 0, 1), some (.getfield 65, 3), none, none, some (.iload_n 1, 1), some (.invokevirtual 159, 3), none, none, some (.ifCond .ne 14, 3), none, none, some (.aload_n 0, 1), some (.getfield 65, 3), none, none, some (.iload_n 3, 1), some (.invokevirtual 159, 3), none, none, some (.ifCond .eq 9, 3), none, none, some (.aload_n 0, 1), some (.iconst 1, 1), some (.invokevirtual 162, 3), none, none, some (.ireturn, 1), some (.aload_n 0, 1), some (.getfield 65, 3), none, none, some (.getfield 260, 3), none, none, some (.iload_n 1, 1), some (.iaload, 1), some (.aload_n 0, 1), some (.getfield 65, 3), none, none, some (.getfield 260, 3), none, none, some (.iload_n 3, 1), some (.iaload, 1), some (.if_icmp .eq 9, 3), none, none, some (.aload_n 0, 1), some (.iconst 4, 1), some (.invokevirtual 162, 3), none, none, some (.ireturn, 1), some (.aload_n 0, 1), some (.getfield 65, 3), none, none, some (.iload_n 1, 1), some (.iload_n 2, 1), some (.iload 5, 2), none, some (.invokevirtual 270, 3), none, none, some (.ifCond .eq 18, 3), none, none, some (.aload_n 0, 1), some (.getfield 65, 3), none, none, some (.iload_n 3, 1), some (.iload 4, 2), none, some (.iload 5, 2), none, some (.invokevirtual 270, 3), none, none, some (.ifCond .ne 9, 3), none, none, some (.aload_n 0, 1), some (.iconst 2, 1), some (.invokevirtual 162, 3), none, none, some (.ireturn, 1), some (.aload_n 0, 1), some (.getfield 65, 3), none, none, some (.getfield 169, 3), none, none, some (.iload_n 1, 1), some (.aaload, 1), some (.iload_n 2, 1), some (.aload_n 0, 1), some (.getfield 65, 3), none, none, some (.getfield 169, 3), none, none, some (.iload_n 3, 1), some (.aaload, 1), some (.iload 4, 2), none, some (.iload 5, 2), none, some (.invokestatic 274, 3), none, none, some (.iconst 1, 1), some (.ireturn, 1)]
def tX6_write : List (Option (Instr × Nat)) := [some (.aload_n 0, 1), some (.getfield 32, 3), none, none, some (.iload_n 1, 1), some (.invokevirtual 103, 3), none, none, some (.ifCond .eq 10, 3), none, none, some (.iload_n 2, 1), some (.invokestatic 156, 3), none, none, some (.ifCond .ne 6, 3), none, none, some (.bipush (-2), 2), none, some (.ireturn, 1), some (.aload_n 0, 1), some (.getfield 65, 3), none, none, some (.iload_n 2, 1), some (.invokevirtual 159, 3), none, none, some (.ifCond .eq 9, 3), none, none, some (.aload_n 0, 1), some (.iconst 1, 1), some (.invokevirtual 162, 3), none, none, some (.ireturn, 1), some (.bipush 24, 2), none, some (.aload_n 0, 1), some (.getfield 65, 3), none, none, some (.getfield 166, 3), none, none, some (.iload_n 2, 1), some (.iaload, 1), some (.invokestatic 280, 3), none, none, some (.istore_n 3, 1), some (.aload_n 0, 1), some (.getfield 24, 3), none, none, some (.aload_n 0, 1), some (.getfield 42, 3), none, none, some (.invokevirtual 195, 3), none, none, some (.aload_n 0, 1), some (.getfield 24, 3), none, none, some (.invokevirtual 199, 3), none, none, some (.iconst 0, 1), some (.istore 4, 2), none, some (.iload 4, 2), none, some (.iload_n 3, 1), some (.if_icmp .ge 37, 3), none, none, some (.aload_n 0, 1), some (.getfield 24, 3), none, none, some (.iload 4, 2), none, some (.invokevirtual 202, 3), none, none, some (.aload_n 0, 1), some (.getfield 65, 3), none, none, some (.iload_n 2, 1), some (.iload 4, 2), none, some (.aload_n 0, 1), some (.getfield 24, 3), none, none, some (.getfield 175, 3), none, none, some (.iload_n 1, 1), some (.iaload, 1), some (.invokevirtual 266, 3), none, none, some (.iinc 4 1, 3), none, none, some (.goto (-37), 3), none, none, some (.iload_n 3, 1), some (.ireturn, 1)]
def tX6_count : List (Option (Instr × Nat)) := [some (.iload_n 1, 1), some (.tableswitch 120 0 8 #[51, 59, 67, 75, 83, 91, 99, 107, 115], 51), none, none, none, none, none, none, none, none, none, none, none, none, none, none, none, none, none, none, none, none, none, none, none, none, none, none, none, none, none, none, none, none, none, none, none, none, none, none, none, none, none, none, none, none, none, none, none, none, none, none, some (.aload_n 0, 1), some (.getfield 32, 3), none, none, some (.getfield 191, 3), none, none, some (.ireturn, 1), some (.aload_n 0, 1), some (.getfield 37, 3), none, none, some (.getfield 215, 3), none, none, some (.ireturn, 1), some (.aload_n 0, 1), some (.getfield 14, 3), none, none, some (.getfield 96, 3), none, none, some (.ireturn, 1), some (.aload_n 0, 1), some (.getfield 18, 3), none, none, some (.getfield 96, 3), none, none, some (.ireturn, 1), some (.aload_n 0, 1), some (.getfield 42, 3), none, none, some (.getfield 150, 3), none, none, some (.ireturn, 1), some (.aload_n 0, 1), some (.getfield 46, 3), none, none, some (.getfield 150, 3), none, none, some (.ireturn, 1), some (.aload_n 0, 1), some (.getfield 50, 3), none, none, some (.getfield 150, 3), none, none, some (.ireturn, 1), some (.aload_n 0, 1), some (.getfield 56, 3), none, none, some (.getfield 150, 3), none, none, some (.ireturn, 1), some (.aload_n 0, 1), some (.getfield 74, 3), none, none, some (.ireturn, 1), some (.bipush (-2), 2), none, some (.ireturn, 1)]
def tX6_digest : List (Option (Instr × Nat)) := [some (.ldc2_w 285, 3), none, none, some (.lstore_n 1, 1), some (.iconst 0, 1), some (.istore_n 3, 1), some (.iload_n 3, 1), some (.bipush 7, 2), none, some (.if_icmp .gt 20, 3), none, none, some (.lload_n 1, 1), some (.aload_n 0, 1), some (.iload_n 3, 1), some (.invokevirtual 287, 3), none, none, some (.i2l, 1), some (.invokestatic 290, 3), none, none, some (.lstore_n 1, 1), some (.iinc 3 1, 3), none, none, some (.goto (-20), 3), none, none, some (.lload_n 1, 1), some (.aload_n 0, 1), some (.iconst 0, 1), some (.invokevirtual 294, 3), none, none, some (.i2l, 1), some (.invokestatic 290, 3), none, none, some (.lstore_n 1, 1), some (.lload_n 1, 1), some (.aload_n 0, 1), some (.iconst 1, 1), some (.invokevirtual 294, 3), none, none, some (.i2l, 1), some (.invokestatic 290, 3), none, none, some (.lstore_n 1, 1), some (.iconst 0, 1), some (.istore_n 3, 1), some (.iload_n 3, 1), some (.aload_n 0, 1), some (.getfield 37, 3), none, none, some (.getfield 215, 3), none, none, some (.if_icmp .ge 16, 3), none, none, some (.aload_n 0, 1), some (.lload_n 1, 1), some (.iload_n 3, 1), some (.invokevirtual 297, 3), none, none, some (.lstore_n 1, 1), some (.iinc 3 1, 3), none, none, some (.goto (-21), 3), none, none, some (.iconst 0, 1), some (.istore_n 3, 1), some (.iload_n 3, 1), some (.aload_n 0, 1), some (.getfield 32, 3), none, none, some (.getfield 191, 3), none, none, some (.if_icmp .ge 16, 3), none, none, some (.aload_n 0, 1), some (.lload_n 1, 1), some (.iload_n 3, 1), some (.invokevirtual 301, 3), none, none, some (.lstore_n 1, 1), some (.iinc 3 1, 3), none, none, some (.goto (-21), 3), none, none, some (.iconst 0, 1), some (.istore_n 3, 1), some (.iload_n 3, 1), some (.bipush 24, 2), none, some (.if_icmp .ge 42, 3), none, none, some (.lload_n 1, 1), some (.aload_n 0, 1), some (.iload_n 3, 1), some (.invokevirtual 304, 3), none, none, some (.i2l, 1), some (.invokestatic 290, 3), none, none, some (.lstore_n 1, 1), some (.lload_n 1, 1), some (.aload_n 0, 1), some (.iload_n 3, 1), some (.invokevirtual 307, 3), none, none, some (.i2l, 1), some (.invokestatic 290, 3), none, none, some (.lstore_n 1, 1), some (.lload_n 1, 1), some (.aload_n 0, 1), some (.iload_n 3, 1), some (.invokevirtual 310, 3), none, none, some (.i2l, 1), some (.invokestatic 290, 3), none, none, some (.lstore_n 1, 1), some (.iinc 3 1, 3), none, none, some (.goto (-42), 3), none, none, some (.lload_n 1, 1), some (.aload_n 0, 1), some (.invokevirtual 313, 3), none, none, some (.i2l, 1), some (.invokestatic 290, 3), none, none, some (.lstore_n 1, 1), some (.lload_n 1, 1), some (.aload_n 0, 1), some (.invokevirtual 316, 3), none, none, some (.i2l, 1), some (.invokestatic 290, 3), none, none, some (.lstore_n 1, 1), some (.lload_n 1, 1), some (.aload_n 0, 1), some (.bipush 8, 2), none, some (.iconst 0, 1), some (.invokevirtual 319, 3), none, none, some (.i2l, 1), some (.invokestatic 290, 3), none, none, some (.lstore_n 1, 1), some (.lload_n 1, 1), some (.aload_n 0, 1), some (.bipush 8, 2), none, some (.iconst 1, 1), some (.invokevirtual 319, 3), none, none, some (.i2l, 1), some (.invokestatic 290, 3), none, none, some (.lstore_n 1, 1), some (.lload_n 1, 1), some (.aload_n 0, 1), some (.iconst (-1), 1), some (.invokevirtual 322, 3), none, none, some (.i2l, 1), some (.invokestatic 290, 3), none, none, some (.lstore_n 1, 1), some (.lload_n 1, 1), some (.aload_n 0, 1), some (.iconst 0, 1), some (.invokevirtual 322, 3), none, none, some (.i2l, 1), some (.invokestatic 290, 3), none, none, some (.lstore_n 1, 1), some (.lload_n 1, 1), some (.aload_n 0, 1), some (.invokevirtual 325, 3), none, none, some (.i2l, 1), some (.invokestatic 290, 3), none, none, some (.lstore_n 1, 1), some (.lload_n 1, 1), some (.aload_n 0, 1), some (.bipush 7, 2), none, some (.bipush 6, 2), none, some (.iconst 0, 1), some (.invokevirtual 328, 3), none, none, some (.i2l, 1), some (.invokestatic 290, 3), none, none, some (.lstore_n 1, 1), some (.lload_n 1, 1), some (.aload_n 0, 1), some (.bipush 7, 2), none, some (.bipush 6, 2), none, some (.iconst 1, 1), some (.invokevirtual 328, 3), none, none, some (.i2l, 1), some (.invokestatic 290, 3), none, none, some (.lreturn, 1)]
def tX6_isUpTo : List (Option (Instr × Nat)) := [some (.iload_n 0, 1), some (.ifCond .lt 12, 3), none, none, some (.iload_n 0, 1), some (.iload_n 1, 1), some (.if_icmp .gt 7, 3), none, none, some (.iconst 1, 1), some (.goto 4, 3), none, none, some (.iconst 0, 1), some (.ireturn, 1)]
def tX6_isText : List (Option (Instr × Nat)) := [some (.iload_n 0, 1), some (.iconst 1, 1), some (.invokestatic 82, 3), none, none, some (.ireturn, 1)]
def tX6_isDay : List (Option (Instr × Nat)) := [some (.iload_n 0, 1), some (.bipush 23, 2), none, some (.invokestatic 82, 3), none, none, some (.ireturn, 1)]
def tX6_isGreat : List (Option (Instr × Nat)) := [some (.iload_n 0, 1), some (.iconst 1, 1), some (.if_icmp .lt 13, 3), none, none, some (.iload_n 0, 1), some (.bipush 9, 2), none, some (.if_icmp .gt 7, 3), none, none, some (.iconst 1, 1), some (.goto 4, 3), none, none, some (.iconst 0, 1), some (.ireturn, 1)]
def tX6_mayBePerson : List (Option (Instr × Nat)) := [some (.iload_n 0, 1), some (.bipush 7, 2), none, some (.invokestatic 82, 3), none, none, some (.ireturn, 1)]
def tX6_mayBeKeeping : List (Option (Instr × Nat)) := [some (.iload_n 0, 1), some (.invokestatic 141, 3), none, none, some (.ifCond .eq 16, 3), none, none, some (.iload_n 1, 1), some (.bipush 9, 2), none, some (.invokestatic 82, 3), none, none, some (.ifCond .eq 7, 3), none, none, some (.iconst 1, 1), some (.goto 4, 3), none, none, some (.iconst 0, 1), some (.ireturn, 1)]
def tX6_textOf : List (Option (Instr × Nat)) := [some (.iload_n 1, 1), some (.ifCond .ne 10, 3), none, none, some (.aload_n 0, 1), some (.getfield 14, 3), none, none, some (.goto 7, 3), none, none, some (.aload_n 0, 1), some (.getfield 18, 3), none, none, some (.areturn, 1)]
def tX6_takeTexts : List (Option (Instr × Nat)) := [some (.aload_n 0, 1), some (.getfield 32, 3), none, none, some (.aload_n 0, 1), some (.getfield 14, 3), none, none, some (.invokevirtual 331, 3), none, none, some (.aload_n 0, 1), some (.getfield 37, 3), none, none, some (.aload_n 0, 1), some (.getfield 18, 3), none, none, some (.invokevirtual 335, 3), none, none, some (.return_, 1)]
def tX6_found : List (Option (Instr × Nat)) := [some (.aload_n 0, 1), some (.iload_n 1, 1), some (.putfield 74, 3), none, none, some (.bipush (-10), 2), none, some (.iload_n 1, 1), some (.isub, 1), some (.ireturn, 1)]
def tX6_liveUntil : List (Option (Instr × Nat)) := [some (.aload_n 0, 1), some (.getfield 24, 3), none, none, some (.aload_n 0, 1), some (.getfield 42, 3), none, none, some (.invokevirtual 195, 3), none, none, some (.aload_n 0, 1), some (.getfield 24, 3), none, none, some (.invokevirtual 199, 3), none, none, some (.aload_n 0, 1), some (.getfield 24, 3), none, none, some (.iload_n 1, 1), some (.invokevirtual 202, 3), none, none, some (.return_, 1)]
def tX6_liesToHush : List (Option (Instr × Nat)) := [some (.aload_n 0, 1), some (.getfield 24, 3), none, none, some (.aload_n 0, 1), some (.getfield 42, 3), none, none, some (.invokevirtual 195, 3), none, none, some (.aload_n 0, 1), some (.iconst 0, 1), some (.invokevirtual 336, 3), none, none, some (.ifCond .eq 5, 3), none, none, some (.iconst 0, 1), some (.ireturn, 1), some (.iconst 0, 1), some (.istore_n 1, 1), some (.iload_n 1, 1), some (.aload_n 0, 1), some (.getfield 46, 3), none, none, some (.getfield 150, 3), none, none, some (.if_icmp .ge 23, 3), none, none, some (.aload_n 0, 1), some (.iconst 1, 1), some (.iload_n 1, 1), some (.ishl, 1), some (.invokevirtual 336, 3), none, none, some (.ifCond .eq 7, 3), none, none, some (.iconst 1, 1), some (.iload_n 1, 1), some (.ishl, 1), some (.ireturn, 1), some (.iinc 1 1, 3), none, none, some (.goto (-28), 3), none, none, some (.iconst 0, 1), some (.istore_n 1, 1), some (.iload_n 1, 1), some (.aload_n 0, 1), some (.getfield 46, 3), none, none, some (.getfield 150, 3), none, none, some (.if_icmp .ge 52, 3), none, none, some (.iload_n 1, 1), some (.iconst 1, 1), some (.iadd, 1), some (.istore_n 2, 1), some (.iload_n 2, 1), some (.aload_n 0, 1), some (.getfield 46, 3), none, none, some (.getfield 150, 3), none, none, some (.if_icmp .ge 31, 3), none, none, some (.aload_n 0, 1), some (.iconst 1, 1), some (.iload_n 1, 1), some (.ishl, 1), some (.iconst 1, 1), some (.iload_n 2, 1), some (.ishl, 1), some (.ior, 1), some (.invokevirtual 336, 3), none, none, some (.ifCond .eq 11, 3), none, none, some (.iconst 1, 1), some (.iload_n 1, 1), some (.ishl, 1), some (.iconst 1, 1), some (.iload_n 2, 1), some (.ishl, 1), some (.ior, 1), some (.ireturn, 1), some (.iinc 2 1, 3), none, none, some (.goto (-36), 3), none, none, some (.iinc 1 1, 3), none, none, some (.goto (-57), 3), none, none, some (.iconst (-1), 1), some (.ireturn, 1)]
def tX6_leavesNobodyNaked : List (Option (Instr × Nat)) := [some (.aload_n 0, 1), some (.getfield 24, 3), none, none, some (.iload_n 1, 1), some (.putfield 339, 3), none, none, some (.aload_n 0, 1), some (.getfield 24, 3), none, none, some (.invokevirtual 199, 3), none, none, some (.aload_n 0, 1), some (.getfield 24, 3), none, none, some (.bipush 23, 2), none, some (.invokevirtual 202, 3), none, none, some (.aload_n 0, 1), some (.getfield 24, 3), none, none, some (.invokevirtual 188, 3), none, none, some (.ifCond .ne 7, 3), none, none, some (.iconst 1, 1), some (.goto 4, 3), none, none, some (.iconst 0, 1), some (.ireturn, 1)]
def tX6_fittingValues : List (Option (Instr × Nat)) := [some (.aload_n 1, 1), some (.iload_n 2, 1), some (.iaload, 1), some (.istore 4, 2), none, some (.iconst 0, 1), some (.istore 5, 2), none, some (.iconst 0, 1), some (.istore 6, 2), none, some (.iload 6, 2), none, some (.iload_n 3, 1), some (.if_icmp .ge 37, 3), none, none, some (.aload_n 1, 1), some (.iload_n 2, 1), some (.iload 6, 2), none, some (.iastore, 1), some (.aload_n 0, 1), some (.getfield 24, 3), none, none, some (.aload_n 0, 1), some (.getfield 56, 3), none, none, some (.invokevirtual 225, 3), none, none, some (.ifCond .eq 12, 3), none, none, some (.iload 5, 2), none, some (.iconst 1, 1), some (.iload 6, 2), none, some (.ishl, 1), some (.ior, 1), some (.istore 5, 2), none, some (.iinc 6 1, 3), none, none, some (.goto (-37), 3), none, none, some (.aload_n 1, 1), some (.iload_n 2, 1), some (.iload 4, 2), none, some (.iastore, 1), some (.iload 5, 2), none, some (.ireturn, 1)]
def tX6_noteCoatsBySize : List (Option (Instr × Nat)) := [some (.aload_n 0, 1), some (.getfield 32, 3), none, none, some (.getfield 112, 3), none, none, some (.iload_n 1, 1), some (.iaload, 1), some (.istore_n 2, 1), some (.iconst 0, 1), some (.istore_n 3, 1), some (.iload_n 3, 1), some (.bipush 10, 2), none, some (.if_icmp .ge 69, 3), none, none, some (.aload_n 0, 1), some (.getfield 32, 3), none, none, some (.getfield 112, 3), none, none, some (.iload_n 1, 1), some (.iload_n 3, 1), some (.iastore, 1), some (.aload_n 0, 1), some (.getfield 24, 3), none, none, some (.invokevirtual 199, 3), none, none, some (.iconst 0, 1), some (.istore 4, 2), none, some (.iload 4, 2), none, some (.bipush 24, 2), none, some (.if_icmp .ge 36, 3), none, none, some (.aload_n 0, 1), some (.getfield 24, 3), none, none, some (.iload 4, 2), none, some (.invokevirtual 202, 3), none, none, some (.aload_n 0, 1), some (.getfield 71, 3), none, none, some (.iload_n 3, 1), some (.aaload, 1), some (.iload 4, 2), none, some (.aload_n 0, 1), some (.getfield 24, 3), none, none, some (.getfield 175, 3), none, none, some (.iload_n 1, 1), some (.iaload, 1), some (.iastore, 1), some (.iinc 4 1, 3), none, none, some (.goto (-37), 3), none, none, some (.iinc 3 1, 3), none, none, some (.goto (-69), 3), none, none, some (.aload_n 0, 1), some (.getfield 32, 3), none, none, some (.getfield 112, 3), none, none, some (.iload_n 1, 1), some (.iload_n 2, 1), some (.iastore, 1), some (.return_, 1)]
def tX6_mostAlike : List (Option (Instr × Nat)) := [some (.iconst 0, 1), some (.istore_n 3, 1), some (.iconst 0, 1), some (.istore 4, 2), none, some (.iload 4, 2), none, some (.bipush 10, 2), none, some (.if_icmp .ge 91, 3), none, none, some (.iconst 0, 1), some (.istore 5, 2), none, some (.iconst 0, 1), some (.istore 6, 2), none, some (.iload 6, 2), none, some (.bipush 10, 2), none, some (.if_icmp .ge 65, 3), none, none, some (.iload_n 1, 1), some (.iload 4, 2), none, some (.ishr, 1), some (.iconst 1, 1), some (.iand, 1), some (.iconst 1, 1), some (.if_icmp .ne 17, 3), none, none, some (.iload_n 1, 1), some (.iload 6, 2), none, some (.ishr, 1), some (.iconst 1, 1), some (.iand, 1), some (.iconst 1, 1), some (.if_icmp .ne 7, 3), none, none, some (.iconst 1, 1), some (.goto 4, 3), none, none, some (.iconst 0, 1), some (.istore 7, 2), none, some (.iload 7, 2), none, some (.ifCond .eq 27, 3), none, none, some (.aload_n 0, 1), some (.getfield 71, 3), none, none, some (.iload 4, 2), none, some (.aaload, 1), some (.iload_n 2, 1), some (.iaload, 1), some (.aload_n 0, 1), some (.getfield 71, 3), none, none, some (.iload 6, 2), none, some (.aaload, 1), some (.iload_n 2, 1), some (.iaload, 1), some (.if_icmp .ne 6, 3), none, none, some (.iinc 5 1, 3), none, none, some (.iinc 6 1, 3), none, none, some (.goto (-66), 3), none, none, some (.iload_n 3, 1), some (.iload 5, 2), none, some (.invokestatic 342, 3), none, none, some (.istore_n 3, 1), some (.iinc 4 1, 3), none, none, some (.goto (-92), 3), none, none, some (.iload_n 3, 1), some (.ireturn, 1)]
def tX6_keepingsOf : List (Option (Instr × Nat)) := [some (.iconst 0, 1), some (.istore_n 2, 1), some (.iconst 0, 1), some (.istore_n 3, 1), some (.iload_n 3, 1), some (.aload_n 0, 1), some (.getfield 42, 3), none, none, some (.getfield 150, 3), none, none, some (.if_icmp .ge 52, 3), none, none, some (.aload_n 0, 1), some (.getfield 42, 3), none, none, some (.getfield 345, 3), none, none, some (.iload_n 3, 1), some (.iaload, 1), some (.istore 4, 2), none, some (.aload_n 0, 1), some (.getfield 37, 3), none, none, some (.iload 4, 2), none, some (.invokevirtual 115, 3), none, none, some (.ifCond .eq 23, 3), none, none, some (.aload_n 0, 1), some (.getfield 37, 3), none, none, some (.getfield 118, 3), none, none, some (.iload 4, 2), none, some (.iaload, 1), some (.iload_n 1, 1), some (.if_icmp .ne 9, 3), none, none, some (.iload_n 2, 1), some (.iconst 1, 1), some (.iload_n 3, 1), some (.ishl, 1), some (.ior, 1), some (.istore_n 2, 1), some (.iinc 3 1, 3), none, none, some (.goto (-57), 3), none, none, some (.iload_n 2, 1), some (.ireturn, 1)]
def tX6_weight : List (Option (Instr × Nat)) := [some (.lconst 1, 1), some (.lstore_n 3, 1), some (.iconst 0, 1), some (.istore 5, 2), none, some (.iload 5, 2), none, some (.bipush 8, 2), none, some (.if_icmp .ge 42, 3), none, none, some (.iload_n 1, 1), some (.iload 5, 2), none, some (.ishr, 1), some (.iconst 1, 1), some (.iand, 1), some (.iconst 1, 1), some (.if_icmp .ne 26, 3), none, none, some (.lload_n 3, 1), some (.iload_n 2, 1), some (.iload 5, 2), none, some (.ishr, 1), some (.iconst 1, 1), some (.iand, 1), some (.iconst 1, 1), some (.if_icmp .ne 11, 3), none, none, some (.bipush 16, 2), none, some (.iload_n 0, 1), some (.isub, 1), some (.i2l, 1), some (.goto 5, 3), none, none, some (.iload_n 0, 1), some (.i2l, 1), some (.lmul, 1), some (.lstore_n 3, 1), some (.iinc 5 1, 3), none, none, some (.goto (-43), 3), none, none, some (.lload_n 3, 1), some (.lreturn, 1)]
def tX6_drawKeepings : List (Option (Instr × Nat)) := [some (.aload_n 0, 1), some (.getfield 59, 3), none, none, some (.iconst 0, 1), some (.putfield 150, 3), none, none, some (.aload_n 0, 1), some (.getfield 37, 3), none, none, some (.getfield 215, 3), none, none, some (.ifCond .ne 4, 3), none, none, some (.return_, 1), some (.iload_n 1, 1), some (.istore_n 3, 1), some (.iconst 0, 1), some (.istore 4, 2), none, some (.iload 4, 2), none, some (.iload_n 2, 1), some (.if_icmp .ge 51, 3), none, none, some (.iload_n 3, 1), some (.invokestatic 348, 3), none, none, some (.istore_n 3, 1), some (.iload_n 3, 1), some (.bipush 16, 2), none, some (.iushr, 1), some (.bipush 24, 2), none, some (.irem, 1), some (.istore 5, 2), none, some (.iload_n 3, 1), some (.invokestatic 348, 3), none, none, some (.istore_n 3, 1), some (.aload_n 0, 1), some (.getfield 59, 3), none, none, some (.iload 5, 2), none, some (.iload_n 3, 1), some (.bipush 16, 2), none, some (.iushr, 1), some (.aload_n 0, 1), some (.getfield 37, 3), none, none, some (.getfield 215, 3), none, none, some (.irem, 1), some (.iconst 0, 1), some (.invokevirtual 137, 3), none, none, some (.pop, 1), some (.iinc 4 1, 3), none, none, some (.goto (-51), 3), none, none, some (.return_, 1)]
def tX6_nextSeed : List (Option (Instr × Nat)) := [some (.ldc_w 351, 3), none, none, some (.iload_n 0, 1), some (.imul, 1), some (.sipush 12345, 3), none, none, some (.iadd, 1), some (.ireturn, 1)]
def tX6_mixed : List (Option (Instr × Nat)) := [some (.ldc2_w 352, 3), none, none, some (.lload_n 0, 1), some (.lmul, 1), some (.lload_n 2, 1), some (.ladd, 1), some (.lreturn, 1)]
def tX6_withPromise : List (Option (Instr × Nat)) := [some (.lload_n 1, 1), some (.lstore 4, 2), none, some (.iconst 0, 1), some (.istore 6, 2), none, some (.iload 6, 2), none, some (.iconst 3, 1), some (.if_icmp .gt 24, 3), none, none, some (.lload 4, 2), none, some (.aload_n 0, 1), some (.iload_n 3, 1), some (.iload 6, 2), none, some (.invokevirtual 354, 3), none, none, some (.i2l, 1), some (.invokestatic 290, 3), none, none, some (.lstore 4, 2), none, some (.iinc 6 1, 3), none, none, some (.goto (-24), 3), none, none, some (.lload 4, 2), none, some (.aload_n 0, 1), some (.bipush 8, 2), none, some (.iload_n 3, 1), some (.invokevirtual 357, 3), none, none, some (.i2l, 1), some (.invokestatic 290, 3), none, none, some (.lstore 4, 2), none, some (.lload 4, 2), none, some (.aload_n 0, 1), some (.bipush 23, 2), none, some (.iload_n 3, 1), some (.invokevirtual 357, 3), none, none, some (.i2l, 1), some (.invokestatic 290, 3), none, none, some (.lstore 4, 2), none, some (.lload 4, 2), none, some (.aload_n 0, 1), some (.iload_n 3, 1), some (.iconst 0, 1), some (.invokevirtual 360, 3), none, none, some (.i2l, 1), some (.invokestatic 290, 3), none, none, some (.lstore 4, 2), none, some (.lload 4, 2), none, some (.aload_n 0, 1), some (.iload_n 3, 1), some (.iconst 1, 1), some (.invokevirtual 360, 3), none, none, some (.i2l, 1), some (.invokestatic 290, 3), none, none, some (.lreturn, 1)]
def tX6_withPerson : List (Option (Instr × Nat)) := [some (.lload_n 1, 1), some (.aload_n 0, 1), some (.iload_n 3, 1), some (.iconst 0, 1), some (.invokevirtual 363, 3), none, none, some (.i2l, 1), some (.invokestatic 290, 3), none, none, some (.lstore 4, 2), none, some (.lload 4, 2), none, some (.aload_n 0, 1), some (.iload_n 3, 1), some (.iconst 1, 1), some (.invokevirtual 363, 3), none, none, some (.i2l, 1), some (.invokestatic 290, 3), none, none, some (.lstore 4, 2), none, some (.aload_n 0, 1), some (.lload 4, 2), none, some (.iconst 0, 1), some (.iload_n 3, 1), some (.invokevirtual 366, 3), none, none, some (.lstore 4, 2), none, some (.aload_n 0, 1), some (.lload 4, 2), none, some (.bipush 6, 2), none, some (.iload_n 3, 1), some (.invokevirtual 366, 3), none, none, some (.lstore 4, 2), none, some (.aload_n 0, 1), some (.lload 4, 2), none, some (.bipush 14, 2), none, some (.iload_n 3, 1), some (.invokevirtual 366, 3), none, none, some (.lstore 4, 2), none, some (.aload_n 0, 1), some (.lload 4, 2), none, some (.bipush 23, 2), none, some (.iload_n 3, 1), some (.invokevirtual 366, 3), none, none, some (.lstore 4, 2), none, some (.lload 4, 2), none, some (.aload_n 0, 1), some (.iload_n 3, 1), some (.bipush 14, 2), none, some (.invokevirtual 370, 3), none, none, some (.i2l, 1), some (.invokestatic 290, 3), none, none, some (.lstore 4, 2), none, some (.lload 4, 2), none, some (.aload_n 0, 1), some (.iload_n 3, 1), some (.iconst 0, 1), some (.invokevirtual 373, 3), none, none, some (.i2l, 1), some (.invokestatic 290, 3), none, none, some (.lstore 4, 2), none, some (.lload 4, 2), none, some (.aload_n 0, 1), some (.iload_n 3, 1), some (.iconst 1, 1), some (.invokevirtual 373, 3), none, none, some (.i2l, 1), some (.invokestatic 290, 3), none, none, some (.lstore 4, 2), none, some (.lload 4, 2), none, some (.aload_n 0, 1), some (.iload_n 3, 1), some (.invokevirtual 376, 3), none, none, some (.i2l, 1), some (.invokestatic 290, 3), none, none, some (.lstore 4, 2), none, some (.lload 4, 2), none, some (.aload_n 0, 1), some (.iconst 5, 1), some (.iload_n 3, 1), some (.bipush 14, 2), none, some (.iconst 0, 1), some (.invokevirtual 379, 3), none, none, some (.invokestatic 290, 3), none, none, some (.lstore 4, 2), none, some (.lload 4, 2), none, some (.aload_n 0, 1), some (.iconst 5, 1), some (.iload_n 3, 1), some (.bipush 14, 2), none, some (.iconst 1, 1), some (.invokevirtual 379, 3), none, none, some (.invokestatic 290, 3), none, none, some (.lreturn, 1)]
def tX6_withCoat : List (Option (Instr × Nat)) := [some (.lload_n 1, 1), some (.aload_n 0, 1), some (.iload_n 3, 1), some (.iload 4, 2), none, some (.iconst 0, 1), some (.invokevirtual 383, 3), none, none, some (.i2l, 1), some (.invokestatic 290, 3), none, none, some (.lstore 5, 2), none, some (.lload 5, 2), none, some (.aload_n 0, 1), some (.iload_n 3, 1), some (.iload 4, 2), none, some (.iconst 1, 1), some (.invokevirtual 383, 3), none, none, some (.i2l, 1), some (.invokestatic 290, 3), none, none, some (.lstore 5, 2), none, some (.lload 5, 2), none, some (.aload_n 0, 1), some (.iload_n 3, 1), some (.iload 4, 2), none, some (.iconst 2, 1), some (.invokevirtual 383, 3), none, none, some (.i2l, 1), some (.invokestatic 290, 3), none, none, some (.lreturn, 1)]
def tX7_init : List (Option (Instr × Nat)) := [some (.aload_n 0, 1), some (.invokespecial 1, 3), none, none, some (.aload_n 0, 1), some (.iconst 2, 1), some (.newarray .int, 2), none, some (.putfield 7, 3), none, none, some (.aload_n 0, 1), some (.bipush 98, 2), none, some (.newarray .int, 2), none, some (.putfield 13, 3), none, none, some (.aload_n 0, 1), some (.bipush 9, 2), none, some (.newarray .int, 2), none, some (.putfield 16, 3), none, none, some (.aload_n 0, 1), some (.bipush 9, 2), none, some (.newarray .int, 2), none, some (.putfield 19, 3), none, none, some (.aload_n 0, 1), some (.bipush 12, 2), none, some (.newarray .int, 2), none, some (.putfield 22, 3), none, none, some (.aload_n 0, 1), some (.bipush 12, 2), none, some (.newarray .int, 2), none, some (.putfield 25, 3), none, none, some (.aload_n 0, 1), some (.bipush 12, 2), none, some (.newarray .int, 2), none, some (.putfield 28, 3), none, none, some (.aload_n 0, 1), some (.bipush 12, 2), none, some (.newarray .int, 2), none, some (.putfield 31, 3), none, none, some (.aload_n 0, 1), some (.bipush 9, 2), none, some (.newarray .int, 2), none, some (.putfield 34, 3), none, none, some (.aload_n 0, 1), some (.bipush 9, 2), none, some (.newarray .int, 2), none, some (.putfield 37, 3), none, none, some (.aload_n 0, 1), some (.bipush 6, 2), none, some (.newarray .int, 2), none, some (.putfield 40, 3), none, none, some (.aload_n 0, 1), some (.bipush 6, 2), none, some (.newarray .int, 2), none, some (.putfield 43, 3), none, none, some (.aload_n 0, 1), some (.bipush 6, 2), none, some (.newarray .int, 2), none, some (.putfield 46, 3), none, none, some (.aload_n 0, 1), some (.bipush 6, 2), none, some (.newarray .int, 2), none, some (.putfield 49, 3), none, none, some (.aload_n 0, 1), some (.bipush 6, 2), none, some (.newarray .int, 2), none, some (.putfield 52, 3), none, none, some (.aload_n 0, 1), some (.bipush 6, 2), none, some (.newarray .int, 2), none, some (.putfield 55, 3), none, none, some (.aload_n 0, 1), some (.bipush 9, 2), none, some (.newarray .int, 2), none, some (.putfield 58, 3), none, none, some (.aload_n 0, 1), some (.bipush 9, 2), none, some (.newarray .int, 2), none, some (.putfield 61, 3), none, none, some (.aload_n 0, 1), some (.bipush 8, 2), none, some (.newarray .int, 2), none, some (.putfield 64, 3), none, none, some (.aload_n 0, 1), some (.bipush 8, 2), none, some (.newarray .int, 2), none, some (.putfield 67, 3), none, none, some (.aload_n 0, 1), some (.bipush 12, 2), none, some (.newarray .int, 2), none, some (.putfield 70, 3), none, none, some (.aload_n 0, 1), some (.sipush 192, 3), none, none, some (.newarray .int, 2), none, some (.putfield 73, 3), none, none, some (.aload_n 0, 1), some (.sipush 192, 3), none, none, some (.newarray .int, 2), none, some (.putfield 76, 3), none, none, some (.aload_n 0, 1), some (.sipush 288, 3), none, none, some (.newarray .int, 2), none, some (.putfield 79, 3), none, none, some (.aload_n 0, 1), some (.iconst 2, 1), some (.newarray .int, 2), none, some (.putfield 82, 3), none, none, some (.aload_n 0, 1), some (.bipush 8, 2), none, some (.newarray .int, 2), none, some (.putfield 85, 3), none, none, some (.aload_n 0, 1), some (.bipush 8, 2), none, some (.newarray .int, 2), none, some (.putfield 88, 3), none, none, some (.aload_n 0, 1), some (.bipush 8, 2), none, some (.newarray .int, 2), none, some (.putfield 91, 3), none, none, some (.aload_n 0, 1), some (.sipush 240, 3), none, none, some (.newarray .int, 2), none, some (.putfield 94, 3), none, none, some (.aload_n 0, 1), some (.iconst 4, 1), some (.newarray .boolean, 2), none, some (.putfield 97, 3), none, none, some (.aload_n 0, 1), some (.iconst 4, 1), some (.newarray .int, 2), none, some (.putfield 101, 3), none, none, some (.aload_n 0, 1), some (.iconst 4, 1), some (.newarray .int, 2), none, some (.putfield 104, 3), none, none, some (.aload_n 0, 1), some (.sipush 240, 3), none, none, some (.newarray .int, 2), none, some (.putfield 107, 3), none, none, some (.aload_n 0, 1), some (.bipush 60, 2), none, some (.newarray .int, 2), none, some (.putfield 110, 3), none, none, some (.return_, 1)]
def tX7_in : List (Option (Instr × Nat)) := [some (.iload_n 0, 1), some (.iload_n 1, 1), some (.if_icmp .lt 12, 3), none, none, some (.iload_n 0, 1), some (.iload_n 2, 1), some (.if_icmp .gt 7, 3), none, none, some (.iconst 1, 1), some (.goto 4, 3), none, none, some (.iconst 0, 1), some (.ireturn, 1)]
def tX7_isIn : List (Option (Instr × Nat)) := [some (.iload_n 0, 1), some (.iload_n 1, 1), some (.ishr, 1), some (.iconst 1, 1), some (.iand, 1), some (.iconst 1, 1), some (.if_icmp .ne 7, 3), none, none, some (.iconst 1, 1), some (.goto 4, 3), none, none, some (.iconst 0, 1), some (.ireturn, 1)]
def tX7_no : List (Option (Instr × Nat)) := [some (.ldc2_w 113, 3), none, none, some (.iload_n 0, 1), some (.i2l, 1), some (.lsub, 1), some (.lreturn, 1)]
def tX7_lowest : List (Option (Instr × Nat)) := [some (.lload_n 0, 1), some (.lstore 5, 2), none, some (.lload_n 2, 1), some (.lstore 7, 2), none, some (.lload 7, 2), none, some (.lconst 0, 1), some (.lcmp, 1), some (.ifCond .eq 21, 3), none, none, some (.lload 5, 2), none, some (.lload 7, 2), none, some (.lrem, 1), some (.lstore 9, 2), none, some (.lload 7, 2), none, some (.lstore 5, 2), none, some (.lload 9, 2), none, some (.lstore 7, 2), none, some (.goto (-22), 3), none, none, some (.iload 4, 2), none, some (.ifCond .ne 10, 3), none, none, some (.lload_n 0, 1), some (.lload 5, 2), none, some (.ldiv, 1), some (.goto 7, 3), none, none, some (.lload_n 2, 1), some (.lload 5, 2), none, some (.ldiv, 1), some (.lreturn, 1)]
def tX7_isText : List (Option (Instr × Nat)) := [some (.iload_n 0, 1), some (.iconst 0, 1), some (.iconst 1, 1), some (.invokestatic 115, 3), none, none, some (.ireturn, 1)]
def tX7_isDay : List (Option (Instr × Nat)) := [some (.iload_n 0, 1), some (.iconst 0, 1), some (.bipush 23, 2), none, some (.invokestatic 115, 3), none, none, some (.ireturn, 1)]
def tX7_isEight : List (Option (Instr × Nat)) := [some (.iload_n 0, 1), some (.iconst 0, 1), some (.bipush 7, 2), none, some (.invokestatic 115, 3), none, none, some (.ireturn, 1)]
def tX7_type : List (Option (Instr × Nat)) := [some (.iload_n 1, 1), some (.invokestatic 119, 3), none, none, some (.ifCond .eq 14, 3), none, none, some (.iload_n 2, 1), some (.iconst 0, 1), some (.sipush 255, 3), none, none, some (.invokestatic 115, 3), none, none, some (.ifCond .ne 6, 3), none, none, some (.bipush (-2), 2), none, some (.ireturn, 1), some (.aload_n 0, 1), some (.getfield 7, 3), none, none, some (.iload_n 1, 1), some (.iaload, 1), some (.iload_n 1, 1), some (.ifCond .ne 8, 3), none, none, some (.bipush 23, 2), none, some (.goto 5, 3), none, none, some (.bipush 49, 2), none, some (.if_icmp .ne 6, 3), none, none, some (.bipush (-4), 2), none, some (.ireturn, 1), some (.aload_n 0, 1), some (.getfield 13, 3), none, none, some (.bipush 49, 2), none, some (.iload_n 1, 1), some (.imul, 1), some (.aload_n 0, 1), some (.getfield 7, 3), none, none, some (.iload_n 1, 1), some (.iaload, 1), some (.iadd, 1), some (.iload_n 2, 1), some (.iastore, 1), some (.aload_n 0, 1), some (.getfield 7, 3), none, none, some (.iload_n 1, 1), some (.dup2, 1), some (.iaload, 1), some (.iconst 1, 1), some (.iadd, 1), some (.iastore, 1), some (.aload_n 0, 1), some (.getfield 7, 3), none, none, some (.iload_n 1, 1), some (.iaload, 1), some (.ireturn, 1)]
def tX7_wipe : List (Option (Instr × Nat)) := [some (.iload_n 1, 1), some (.invokestatic 119, 3), none, none, some (.ifCond .ne 6, 3), none, none, some (.bipush (-2), 2), none, some (.ireturn, 1), some (.aload_n 0, 1), some (.getfield 7, 3), none, none, some (.iload_n 1, 1), some (.iaload, 1), some (.istore_n 2, 1), some (.aload_n 0, 1), some (.getfield 7, 3), none, none, some (.iload_n 1, 1), some (.iconst 0, 1), some (.iastore, 1), some (.iload_n 2, 1), some (.ireturn, 1)]
def tX7_undo : List (Option (Instr × Nat)) := [some (.iload_n 1, 1), some (.invokestatic 119, 3), none, none, some (.ifCond .ne 6, 3), none, none, some (.bipush (-2), 2), none, some (.ireturn, 1), some (.aload_n 0, 1), some (.getfield 7, 3), none, none, some (.iload_n 1, 1), some (.iaload, 1), some (.ifCond .ne 6, 3), none, none, some (.bipush (-3), 2), none, some (.ireturn, 1), some (.aload_n 0, 1), some (.getfield 7, 3), none, none, some (.iload_n 1, 1), some (.dup2, 1), some (.iaload, 1), some (.iconst 1, 1), some (.isub, 1), some (.iastore, 1), some (.aload_n 0, 1), some (.getfield 7, 3), none, none, some (.iload_n 1, 1), some (.iaload, 1), some (.ireturn, 1)]
def tX7_byteAt : List (Option (Instr × Nat)) := [some (.iload_n 2, 1), some (.aload_n 0, 1), some (.getfield 7, 3), none, none, some (.iload_n 1, 1), some (.iaload, 1), some (.if_icmp .ge 17, 3), none, none, some (.aload_n 0, 1), some (.getfield 13, 3), none, none, some (.bipush 49, 2), none, some (.iload_n 1, 1), some (.imul, 1), some (.iload_n 2, 1), some (.iadd, 1), some (.iaload, 1), some (.goto 4, 3), none, none, some (.iconst (-1), 1), some (.ireturn, 1)]
def tX7_readsPerson : List (Option (Instr × Nat)) := [some (.aload_n 0, 1), some (.iconst 0, 1), some (.iload_n 2, 1), some (.invokevirtual 123, 3), none, none, some (.istore_n 3, 1), some (.iload_n 3, 1), some (.bipush 109, 2), none, some (.if_icmp .ne 7, 3), none, none, some (.iconst 0, 1), some (.goto 24, 3), none, none, some (.iload_n 3, 1), some (.bipush 115, 2), none, some (.if_icmp .ne 7, 3), none, none, some (.iconst 1, 1), some (.goto 14, 3), none, none, some (.iload_n 3, 1), some (.bipush 97, 2), none, some (.if_icmp .ne 7, 3), none, none, some (.iconst 2, 1), some (.goto 4, 3), none, none, some (.iconst (-1), 1), some (.istore 4, 2), none, some (.aload_n 0, 1), some (.iconst 0, 1), some (.iload_n 2, 1), some (.iconst 1, 1), some (.iadd, 1), some (.invokevirtual 123, 3), none, none, some (.istore 5, 2), none, some (.iload_n 1, 1), some (.bipush 8, 2), none, some (.if_icmp .eq 9, 3), none, none, some (.iload 4, 2), none, some (.iconst (-1), 1), some (.if_icmp .ne 5, 3), none, none, some (.iconst 0, 1), some (.ireturn, 1), some (.iload 5, 2), none, some (.bipush 48, 2), none, some (.bipush 57, 2), none, some (.invokestatic 115, 3), none, none, some (.ifCond .ne 5, 3), none, none, some (.iconst 1, 1), some (.ireturn, 1), some (.aload_n 0, 1), some (.getfield 16, 3), none, none, some (.iload_n 1, 1), some (.iload 4, 2), none, some (.iastore, 1), some (.aload_n 0, 1), some (.getfield 19, 3), none, none, some (.iload_n 1, 1), some (.iload 5, 2), none, some (.bipush 48, 2), none, some (.isub, 1), some (.iastore, 1), some (.iconst 2, 1), some (.ireturn, 1)]
def tX7_readsPromise : List (Option (Instr × Nat)) := [some (.aload_n 0, 1), some (.iconst 1, 1), some (.iload_n 2, 1), some (.invokevirtual 123, 3), none, none, some (.istore_n 3, 1), some (.aload_n 0, 1), some (.iconst 1, 1), some (.iload_n 2, 1), some (.iconst 1, 1), some (.iadd, 1), some (.invokevirtual 123, 3), none, none, some (.istore 4, 2), none, some (.aload_n 0, 1), some (.iconst 1, 1), some (.iload_n 2, 1), some (.iconst 2, 1), some (.iadd, 1), some (.invokevirtual 123, 3), none, none, some (.istore 5, 2), none, some (.aload_n 0, 1), some (.iconst 1, 1), some (.iload_n 2, 1), some (.iconst 3, 1), some (.iadd, 1), some (.invokevirtual 123, 3), none, none, some (.istore 6, 2), none, some (.iload_n 1, 1), some (.bipush 10, 2), none, some (.if_icmp .eq 14, 3), none, none, some (.iload_n 3, 1), some (.bipush 97, 2), none, some (.bipush 104, 2), none, some (.invokestatic 115, 3), none, none, some (.ifCond .ne 5, 3), none, none, some (.iconst 0, 1), some (.ireturn, 1), some (.iload 4, 2), none, some (.bipush 49, 2), none, some (.bipush 57, 2), none, some (.invokestatic 115, 3), none, none, some (.ifCond .ne 5, 3), none, none, some (.iconst 1, 1), some (.ireturn, 1), some (.iload 5, 2), none, some (.bipush 97, 2), none, some (.bipush 120, 2), none, some (.invokestatic 115, 3), none, none, some (.ifCond .ne 5, 3), none, none, some (.iconst 2, 1), some (.ireturn, 1), some (.iload 6, 2), none, some (.bipush 97, 2), none, some (.bipush 120, 2), none, some (.invokestatic 115, 3), none, none, some (.ifCond .ne 5, 3), none, none, some (.iconst 3, 1), some (.ireturn, 1), some (.aload_n 0, 1), some (.getfield 22, 3), none, none, some (.iload_n 1, 1), some (.iload_n 3, 1), some (.bipush 97, 2), none, some (.isub, 1), some (.iastore, 1), some (.aload_n 0, 1), some (.getfield 25, 3), none, none, some (.iload_n 1, 1), some (.iload 4, 2), none, some (.bipush 48, 2), none, some (.isub, 1), some (.iastore, 1), some (.aload_n 0, 1), some (.getfield 28, 3), none, none, some (.iload_n 1, 1), some (.iload 5, 2), none, some (.bipush 97, 2), none, some (.isub, 1), some (.iastore, 1), some (.aload_n 0, 1), some (.getfield 31, 3), none, none, some (.iload_n 1, 1), some (.iload 6, 2), none, some (.bipush 97, 2), none, some (.isub, 1), some (.iastore, 1), some (.iconst 4, 1), some (.ireturn, 1)]
def tX7_readsParts : List (Option (Instr × Nat)) := [some (.iload_n 1, 1), some (.ifCond .ne 7, 3), none, none, some (.iconst 2, 1), some (.goto 4, 3), none, none, some (.iconst 4, 1), some (.istore_n 2, 1), some (.iconst 0, 1), some (.istore_n 3, 1), some (.iconst 0, 1), some (.istore 4, 2), none, some (.aload_n 0, 1), some (.iload_n 1, 1), some (.ifCond .ne 7, 3), none, none, some (.iconst 0, 1), some (.goto 7, 3), none, none, some (.aload_n 0, 1), some (.getfield 127, 3), none, none, some (.putfield 127, 3), none, none, some (.aload_n 0, 1), some (.iload_n 1, 1), some (.iconst 1, 1), some (.if_icmp .ne 7, 3), none, none, some (.iconst 0, 1), some (.goto 7, 3), none, none, some (.aload_n 0, 1), some (.getfield 131, 3), none, none, some (.putfield 131, 3), none, none, some (.iload 4, 2), none, some (.aload_n 0, 1), some (.getfield 7, 3), none, none, some (.iload_n 1, 1), some (.iaload, 1), some (.if_icmp .lt 8, 3), none, none, some (.iload 4, 2), none, some (.ifCond .le 114, 3), none, none, some (.iload_n 1, 1), some (.ifCond .ne 13, 3), none, none, some (.aload_n 0, 1), some (.iload_n 3, 1), some (.iload 4, 2), none, some (.invokevirtual 134, 3), none, none, some (.goto 10, 3), none, none, some (.aload_n 0, 1), some (.iload_n 3, 1), some (.iload 4, 2), none, some (.invokevirtual 137, 3), none, none, some (.istore 5, 2), none, some (.iload 5, 2), none, some (.iload_n 2, 1), some (.if_icmp .ge 9, 3), none, none, some (.iload 4, 2), none, some (.iload 5, 2), none, some (.iadd, 1), some (.ireturn, 1), some (.iinc 3 1, 3), none, none, some (.iload 4, 2), none, some (.iload_n 2, 1), some (.iadd, 1), some (.istore 4, 2), none, some (.iload 4, 2), none, some (.aload_n 0, 1), some (.getfield 7, 3), none, none, some (.iload_n 1, 1), some (.iaload, 1), some (.if_icmp .ne 38, 3), none, none, some (.aload_n 0, 1), some (.iload_n 1, 1), some (.ifCond .ne 7, 3), none, none, some (.iload_n 3, 1), some (.goto 7, 3), none, none, some (.aload_n 0, 1), some (.getfield 127, 3), none, none, some (.putfield 127, 3), none, none, some (.aload_n 0, 1), some (.iload_n 1, 1), some (.iconst 1, 1), some (.if_icmp .ne 7, 3), none, none, some (.iload_n 3, 1), some (.goto 7, 3), none, none, some (.aload_n 0, 1), some (.getfield 131, 3), none, none, some (.putfield 131, 3), none, none, some (.iconst (-1), 1), some (.ireturn, 1), some (.aload_n 0, 1), some (.iload_n 1, 1), some (.iload 4, 2), none, some (.invokevirtual 123, 3), none, none, some (.bipush 59, 2), none, some (.if_icmp .eq 6, 3), none, none, some (.iload 4, 2), none, some (.ireturn, 1), some (.iinc 4 1, 3), none, none, some (.goto (-124), 3), none, none, some (.iconst (-1), 1), some (.ireturn, 1)]
def tX7_faultOf : List (Option (Instr × Nat)) := [some (.aload_n 0, 1), some (.iconst 0, 1), some (.invokevirtual 140, 3), none, none, some (.istore_n 2, 1), some (.aload_n 0, 1), some (.iconst 1, 1), some (.invokevirtual 140, 3), none, none, some (.istore_n 3, 1), some (.iload_n 1, 1), some (.ifCond .ne 7, 3), none, none, some (.iload_n 2, 1), some (.goto 4, 3), none, none, some (.iload_n 3, 1), some (.ireturn, 1)]
def tX7_reads : List (Option (Instr × Nat)) := [some (.aload_n 0, 1), some (.iconst 0, 1), some (.invokevirtual 144, 3), none, none, some (.istore_n 1, 1), some (.return_, 1)]
def tX7_fault : List (Option (Instr × Nat)) := [some (.iload_n 1, 1), some (.invokestatic 119, 3), none, none, some (.ifCond .eq 11, 3), none, none, some (.aload_n 0, 1), some (.iload_n 1, 1), some (.invokevirtual 144, 3), none, none, some (.goto 5, 3), none, none, some (.bipush (-2), 2), none, some (.ireturn, 1)]
def tX7_isPerson : List (Option (Instr × Nat)) := [some (.aload_n 0, 1), some (.invokevirtual 147, 3), none, none, some (.iload_n 1, 1), some (.iconst 0, 1), some (.aload_n 0, 1), some (.getfield 127, 3), none, none, some (.iconst 1, 1), some (.isub, 1), some (.invokestatic 115, 3), none, none, some (.ireturn, 1)]
def tX7_isPromise : List (Option (Instr × Nat)) := [some (.aload_n 0, 1), some (.invokevirtual 147, 3), none, none, some (.iload_n 1, 1), some (.iconst 0, 1), some (.aload_n 0, 1), some (.getfield 131, 3), none, none, some (.iconst 1, 1), some (.isub, 1), some (.invokestatic 115, 3), none, none, some (.ireturn, 1)]
def tX7_personOf : List (Option (Instr × Nat)) := [some (.iload_n 2, 1), some (.ifCond .ne 12, 3), none, none, some (.aload_n 0, 1), some (.getfield 16, 3), none, none, some (.iload_n 1, 1), some (.iaload, 1), some (.goto 9, 3), none, none, some (.aload_n 0, 1), some (.getfield 19, 3), none, none, some (.iload_n 1, 1), some (.iaload, 1), some (.ireturn, 1)]
def tX7_person : List (Option (Instr × Nat)) := [some (.aload_n 0, 1), some (.iload_n 1, 1), some (.invokevirtual 150, 3), none, none, some (.ifCond .eq 21, 3), none, none, some (.iload_n 2, 1), some (.iconst 0, 1), some (.iconst 1, 1), some (.invokestatic 115, 3), none, none, some (.ifCond .eq 12, 3), none, none, some (.aload_n 0, 1), some (.iload_n 1, 1), some (.iload_n 2, 1), some (.invokevirtual 153, 3), none, none, some (.goto 5, 3), none, none, some (.bipush (-2), 2), none, some (.ireturn, 1)]
def tX7_promiseOf : List (Option (Instr × Nat)) := [some (.iload_n 2, 1), some (.ifCond .ne 12, 3), none, none, some (.aload_n 0, 1), some (.getfield 22, 3), none, none, some (.iload_n 1, 1), some (.iaload, 1), some (.goto 37, 3), none, none, some (.iload_n 2, 1), some (.iconst 1, 1), some (.if_icmp .ne 12, 3), none, none, some (.aload_n 0, 1), some (.getfield 25, 3), none, none, some (.iload_n 1, 1), some (.iaload, 1), some (.goto 23, 3), none, none, some (.iload_n 2, 1), some (.iconst 2, 1), some (.if_icmp .ne 12, 3), none, none, some (.aload_n 0, 1), some (.getfield 28, 3), none, none, some (.iload_n 1, 1), some (.iaload, 1), some (.goto 9, 3), none, none, some (.aload_n 0, 1), some (.getfield 31, 3), none, none, some (.iload_n 1, 1), some (.iaload, 1), some (.ireturn, 1)]
def tX7_promise : List (Option (Instr × Nat)) := [some (.aload_n 0, 1), some (.iload_n 1, 1), some (.invokevirtual 156, 3), none, none, some (.ifCond .eq 21, 3), none, none, some (.iload_n 2, 1), some (.iconst 0, 1), some (.iconst 3, 1), some (.invokestatic 115, 3), none, none, some (.ifCond .eq 12, 3), none, none, some (.aload_n 0, 1), some (.iload_n 1, 1), some (.iload_n 2, 1), some (.invokevirtual 159, 3), none, none, some (.goto 5, 3), none, none, some (.bipush (-2), 2), none, some (.ireturn, 1)]
def tX7_keeping : List (Option (Instr × Nat)) := [some (.iload_n 1, 1), some (.invokestatic 162, 3), none, none, some (.ifCond .eq 13, 3), none, none, some (.iload_n 2, 1), some (.iconst 0, 1), some (.bipush 9, 2), none, some (.invokestatic 115, 3), none, none, some (.ifCond .ne 6, 3), none, none, some (.bipush (-2), 2), none, some (.ireturn, 1), some (.aload_n 0, 1), some (.getfield 165, 3), none, none, some (.bipush 8, 2), none, some (.if_icmp .ne 6, 3), none, none, some (.bipush (-4), 2), none, some (.ireturn, 1), some (.aload_n 0, 1), some (.getfield 34, 3), none, none, some (.aload_n 0, 1), some (.getfield 165, 3), none, none, some (.iload_n 1, 1), some (.iastore, 1), some (.aload_n 0, 1), some (.getfield 37, 3), none, none, some (.aload_n 0, 1), some (.getfield 165, 3), none, none, some (.iload_n 2, 1), some (.iastore, 1), some (.aload_n 0, 1), some (.dup, 1), some (.getfield 165, 3), none, none, some (.iconst 1, 1), some (.iadd, 1), some (.putfield 165, 3), none, none, some (.aload_n 0, 1), some (.getfield 165, 3), none, none, some (.ireturn, 1)]
def tX7_lie : List (Option (Instr × Nat)) := [some (.iload_n 1, 1), some (.invokestatic 162, 3), none, none, some (.ifCond .eq 20, 3), none, none, some (.iload_n 2, 1), some (.invokestatic 168, 3), none, none, some (.ifCond .eq 13, 3), none, none, some (.iload_n 3, 1), some (.iconst 1, 1), some (.bipush 9, 2), none, some (.invokestatic 115, 3), none, none, some (.ifCond .ne 6, 3), none, none, some (.bipush (-2), 2), none, some (.ireturn, 1), some (.aload_n 0, 1), some (.getfield 171, 3), none, none, some (.bipush 6, 2), none, some (.if_icmp .ne 6, 3), none, none, some (.bipush (-4), 2), none, some (.ireturn, 1), some (.aload_n 0, 1), some (.getfield 40, 3), none, none, some (.aload_n 0, 1), some (.getfield 171, 3), none, none, some (.iload_n 1, 1), some (.iastore, 1), some (.aload_n 0, 1), some (.getfield 43, 3), none, none, some (.aload_n 0, 1), some (.getfield 171, 3), none, none, some (.iload_n 2, 1), some (.iastore, 1), some (.aload_n 0, 1), some (.getfield 46, 3), none, none, some (.aload_n 0, 1), some (.getfield 171, 3), none, none, some (.iload_n 3, 1), some (.iastore, 1), some (.aload_n 0, 1), some (.dup, 1), some (.getfield 171, 3), none, none, some (.iconst 1, 1), some (.iadd, 1), some (.putfield 171, 3), none, none, some (.aload_n 0, 1), some (.getfield 171, 3), none, none, some (.ireturn, 1)]
def tX7_letting : List (Option (Instr × Nat)) := [some (.iload_n 1, 1), some (.invokestatic 162, 3), none, none, some (.ifCond .eq 20, 3), none, none, some (.iload_n 2, 1), some (.invokestatic 168, 3), none, none, some (.ifCond .eq 13, 3), none, none, some (.iload_n 3, 1), some (.iconst 1, 1), some (.bipush 9, 2), none, some (.invokestatic 115, 3), none, none, some (.ifCond .ne 6, 3), none, none, some (.bipush (-2), 2), none, some (.ireturn, 1), some (.aload_n 0, 1), some (.getfield 174, 3), none, none, some (.bipush 6, 2), none, some (.if_icmp .ne 6, 3), none, none, some (.bipush (-4), 2), none, some (.ireturn, 1), some (.aload_n 0, 1), some (.getfield 49, 3), none, none, some (.aload_n 0, 1), some (.getfield 174, 3), none, none, some (.iload_n 1, 1), some (.iastore, 1), some (.aload_n 0, 1), some (.getfield 52, 3), none, none, some (.aload_n 0, 1), some (.getfield 174, 3), none, none, some (.iload_n 2, 1), some (.iastore, 1), some (.aload_n 0, 1), some (.getfield 55, 3), none, none, some (.aload_n 0, 1), some (.getfield 174, 3), none, none, some (.iload_n 3, 1), some (.iastore, 1), some (.aload_n 0, 1), some (.dup, 1), some (.getfield 174, 3), none, none, some (.iconst 1, 1), some (.iadd, 1), some (.putfield 174, 3), none, none, some (.aload_n 0, 1), some (.getfield 174, 3), none, none, some (.ireturn, 1)]
def tX7_back : List (Option (Instr × Nat)) := [some (.iload_n 1, 1), some (.iconst 0, 1), some (.iconst 2, 1), some (.invokestatic 115, 3), none, none, some (.ifCond .ne 6, 3), none, none, some (.bipush (-2), 2), none, some (.ireturn, 1), some (.iload_n 1, 1), some (.ifCond .ne 10, 3), none, none, some (.aload_n 0, 1), some (.getfield 165, 3), none, none, some (.goto 19, 3), none, none, some (.iload_n 1, 1), some (.iconst 1, 1), some (.if_icmp .ne 10, 3), none, none, some (.aload_n 0, 1), some (.getfield 171, 3), none, none, some (.goto 7, 3), none, none, some (.aload_n 0, 1), some (.getfield 174, 3), none, none, some (.istore_n 2, 1), some (.iload_n 2, 1), some (.ifCond .ne 6, 3), none, none, some (.bipush (-3), 2), none, some (.ireturn, 1), some (.aload_n 0, 1), some (.dup, 1), some (.getfield 165, 3), none, none, some (.iload_n 1, 1), some (.ifCond .ne 7, 3), none, none, some (.iconst 1, 1), some (.goto 4, 3), none, none, some (.iconst 0, 1), some (.isub, 1), some (.putfield 165, 3), none, none, some (.aload_n 0, 1), some (.dup, 1), some (.getfield 171, 3), none, none, some (.iload_n 1, 1), some (.iconst 1, 1), some (.if_icmp .ne 7, 3), none, none, some (.iconst 1, 1), some (.goto 4, 3), none, none, some (.iconst 0, 1), some (.isub, 1), some (.putfield 171, 3), none, none, some (.aload_n 0, 1), some (.dup, 1), some (.getfield 174, 3), none, none, some (.iload_n 1, 1), some (.iconst 2, 1), some (.if_icmp .ne 7, 3), none, none, some (.iconst 1, 1), some (.goto 4, 3), none, none, some (.iconst 0, 1), some (.isub, 1), some (.putfield 174, 3), none, none, some (.iload_n 2, 1), some (.iconst 1, 1), some (.isub, 1), some (.ireturn, 1)]
def tX7_read : List (Option (Instr × Nat)) := [some (.iload_n 1, 1), some (.invokestatic 177, 3), none, none, some (.ifCond .ne 6, 3), none, none, some (.bipush (-2), 2), none, some (.ireturn, 1), some (.aload_n 0, 1), some (.getfield 97, 3), none, none, some (.iload_n 1, 1), some (.baload, 1), some (.ifCond .ne 9, 3), none, none, some (.aload_n 0, 1), some (.iconst 1, 1), some (.invokevirtual 180, 3), none, none, some (.ireturn, 1), some (.iconst 0, 1), some (.istore_n 2, 1), some (.iconst 2, 1), some (.iload_n 2, 1), some (.imul, 1), some (.iconst 1, 1), some (.iadd, 1), some (.aload_n 0, 1), some (.getfield 104, 3), none, none, some (.iload_n 1, 1), some (.iaload, 1), some (.if_icmp .ge 44, 3), none, none, some (.aload_n 0, 1), some (.aload_n 0, 1), some (.getfield 107, 3), none, none, some (.bipush 60, 2), none, some (.iload_n 1, 1), some (.imul, 1), some (.iconst 2, 1), some (.iload_n 2, 1), some (.imul, 1), some (.iadd, 1), some (.iaload, 1), some (.aload_n 0, 1), some (.getfield 107, 3), none, none, some (.bipush 60, 2), none, some (.iload_n 1, 1), some (.imul, 1), some (.iconst 2, 1), some (.iload_n 2, 1), some (.imul, 1), some (.iadd, 1), some (.iconst 1, 1), some (.iadd, 1), some (.iaload, 1), some (.invokevirtual 183, 3), none, none, some (.ifCond .le 9, 3), none, none, some (.iinc 2 1, 3), none, none, some (.goto (-52), 3), none, none, some (.iload_n 2, 1), some (.ireturn, 1)]
def tX7_asTold : List (Option (Instr × Nat)) := [some (.aload_n 0, 1), some (.invokevirtual 147, 3), none, none, some (.aload_n 0, 1), some (.aload_n 0, 1), some (.getfield 131, 3), none, none, some (.putfield 186, 3), none, none, some (.aload_n 0, 1), some (.aload_n 0, 1), some (.getfield 165, 3), none, none, some (.putfield 189, 3), none, none, some (.iconst 0, 1), some (.istore_n 1, 1), some (.iload_n 1, 1), some (.aload_n 0, 1), some (.getfield 165, 3), none, none, some (.if_icmp .ge 33, 3), none, none, some (.aload_n 0, 1), some (.getfield 58, 3), none, none, some (.iload_n 1, 1), some (.aload_n 0, 1), some (.getfield 34, 3), none, none, some (.iload_n 1, 1), some (.iaload, 1), some (.iastore, 1), some (.aload_n 0, 1), some (.getfield 61, 3), none, none, some (.iload_n 1, 1), some (.aload_n 0, 1), some (.getfield 37, 3), none, none, some (.iload_n 1, 1), some (.iaload, 1), some (.iastore, 1), some (.iinc 1 1, 3), none, none, some (.goto (-35), 3), none, none, some (.aload_n 0, 1), some (.iconst 0, 1), some (.putfield 192, 3), none, none, some (.aload_n 0, 1), some (.iconst 0, 1), some (.putfield 195, 3), none, none, some (.return_, 1)]
def tX7_changes : List (Option (Instr × Nat)) := [some (.aload_n 0, 1), some (.getfield 64, 3), none, none, some (.iload_n 1, 1), some (.iaload, 1), some (.iload_n 2, 1), some (.iadd, 1), some (.istore_n 3, 1), some (.aload_n 0, 1), some (.getfield 64, 3), none, none, some (.iload_n 1, 1), some (.iload_n 3, 1), some (.ifCond .ge 7, 3), none, none, some (.iconst 0, 1), some (.goto 15, 3), none, none, some (.iload_n 3, 1), some (.bipush 99, 2), none, some (.if_icmp .le 8, 3), none, none, some (.bipush 99, 2), none, some (.goto 4, 3), none, none, some (.iload_n 3, 1), some (.iastore, 1), some (.return_, 1)]
def tX7_lengthOf : List (Option (Instr × Nat)) := [some (.aload_n 0, 1), some (.getfield 16, 3), none, none, some (.aload_n 0, 1), some (.getfield 22, 3), none, none, some (.iload_n 1, 1), some (.iaload, 1), some (.iaload, 1), some (.istore_n 2, 1), some (.iload_n 2, 1), some (.ifCond .ne 14, 3), none, none, some (.aload_n 0, 1), some (.getfield 25, 3), none, none, some (.iload_n 1, 1), some (.iaload, 1), some (.iconst 2, 1), some (.idiv, 1), some (.goto 25, 3), none, none, some (.iload_n 2, 1), some (.iconst 1, 1), some (.if_icmp .ne 14, 3), none, none, some (.iconst 2, 1), some (.aload_n 0, 1), some (.getfield 25, 3), none, none, some (.iload_n 1, 1), some (.iaload, 1), some (.imul, 1), some (.goto 9, 3), none, none, some (.aload_n 0, 1), some (.getfield 25, 3), none, none, some (.iload_n 1, 1), some (.iaload, 1), some (.ireturn, 1)]
def tX7_makes : List (Option (Instr × Nat)) := [some (.iconst 0, 1), some (.istore_n 2, 1), some (.iload_n 2, 1), some (.aload_n 0, 1), some (.getfield 186, 3), none, none, some (.if_icmp .ge 54, 3), none, none, some (.aload_n 0, 1), some (.getfield 28, 3), none, none, some (.iload_n 2, 1), some (.iaload, 1), some (.iload_n 1, 1), some (.if_icmp .ne 38, 3), none, none, some (.aload_n 0, 1), some (.getfield 22, 3), none, none, some (.iload_n 2, 1), some (.iaload, 1), some (.aload_n 0, 1), some (.getfield 127, 3), none, none, some (.if_icmp .ge 25, 3), none, none, some (.aload_n 0, 1), some (.getfield 70, 3), none, none, some (.iload_n 2, 1), some (.iconst 1, 1), some (.iastore, 1), some (.aload_n 0, 1), some (.aload_n 0, 1), some (.getfield 22, 3), none, none, some (.iload_n 2, 1), some (.iaload, 1), some (.aload_n 0, 1), some (.iload_n 2, 1), some (.invokevirtual 198, 3), none, none, some (.invokevirtual 201, 3), none, none, some (.iinc 2 1, 3), none, none, some (.goto (-56), 3), none, none, some (.return_, 1)]
def tX7_isKept : List (Option (Instr × Nat)) := [some (.aload_n 0, 1), some (.getfield 22, 3), none, none, some (.iload_n 1, 1), some (.iaload, 1), some (.istore_n 2, 1), some (.aload_n 0, 1), some (.getfield 19, 3), none, none, some (.iload_n 2, 1), some (.iaload, 1), some (.aload_n 0, 1), some (.getfield 64, 3), none, none, some (.iload_n 2, 1), some (.iaload, 1), some (.isub, 1), some (.istore_n 3, 1), some (.aload_n 0, 1), some (.getfield 25, 3), none, none, some (.iload_n 1, 1), some (.iaload, 1), some (.istore 4, 2), none, some (.aload_n 0, 1), some (.getfield 70, 3), none, none, some (.iload_n 1, 1), some (.iconst 2, 1), some (.iastore, 1), some (.aload_n 0, 1), some (.iload_n 2, 1), some (.iload_n 3, 1), some (.iload 4, 2), none, some (.if_icmp .le 8, 3), none, none, some (.iload 4, 2), none, some (.goto 17, 3), none, none, some (.iload_n 3, 1), some (.iload 4, 2), none, some (.ineg, 1), some (.if_icmp .ge 9, 3), none, none, some (.iload 4, 2), none, some (.ineg, 1), some (.goto 4, 3), none, none, some (.iload_n 3, 1), some (.invokevirtual 201, 3), none, none, some (.return_, 1)]
def tX7_keepsOn : List (Option (Instr × Nat)) := [some (.iconst 0, 1), some (.istore_n 2, 1), some (.iload_n 2, 1), some (.aload_n 0, 1), some (.getfield 189, 3), none, none, some (.if_icmp .ge 60, 3), none, none, some (.aload_n 0, 1), some (.getfield 61, 3), none, none, some (.iload_n 2, 1), some (.iaload, 1), some (.istore_n 3, 1), some (.aload_n 0, 1), some (.getfield 58, 3), none, none, some (.iload_n 2, 1), some (.iaload, 1), some (.iload_n 1, 1), some (.if_icmp .ne 37, 3), none, none, some (.aload_n 0, 1), some (.getfield 192, 3), none, none, some (.iload_n 2, 1), some (.invokestatic 205, 3), none, none, some (.ifCond .ne 26, 3), none, none, some (.iload_n 3, 1), some (.aload_n 0, 1), some (.getfield 131, 3), none, none, some (.if_icmp .ge 18, 3), none, none, some (.aload_n 0, 1), some (.getfield 70, 3), none, none, some (.iload_n 3, 1), some (.iaload, 1), some (.iconst 1, 1), some (.if_icmp .ne 8, 3), none, none, some (.aload_n 0, 1), some (.iload_n 3, 1), some (.invokevirtual 209, 3), none, none, some (.iinc 2 1, 3), none, none, some (.goto (-62), 3), none, none, some (.return_, 1)]
def tX7_breaks : List (Option (Instr × Nat)) := [some (.iconst 0, 1), some (.istore_n 2, 1), some (.iload_n 2, 1), some (.aload_n 0, 1), some (.getfield 186, 3), none, none, some (.if_icmp .ge 80, 3), none, none, some (.aload_n 0, 1), some (.getfield 31, 3), none, none, some (.iload_n 2, 1), some (.iaload, 1), some (.iload_n 1, 1), some (.if_icmp .ne 64, 3), none, none, some (.aload_n 0, 1), some (.getfield 70, 3), none, none, some (.iload_n 2, 1), some (.iaload, 1), some (.iconst 1, 1), some (.if_icmp .ne 54, 3), none, none, some (.aload_n 0, 1), some (.getfield 22, 3), none, none, some (.iload_n 2, 1), some (.iaload, 1), some (.istore_n 3, 1), some (.aload_n 0, 1), some (.getfield 70, 3), none, none, some (.iload_n 2, 1), some (.iconst 3, 1), some (.iastore, 1), some (.aload_n 0, 1), some (.iload_n 3, 1), some (.aload_n 0, 1), some (.iload_n 2, 1), some (.invokevirtual 198, 3), none, none, some (.ineg, 1), some (.aload_n 0, 1), some (.getfield 16, 3), none, none, some (.iload_n 3, 1), some (.iaload, 1), some (.iconst 2, 1), some (.if_icmp .ne 7, 3), none, none, some (.iconst 2, 1), some (.goto 4, 3), none, none, some (.iconst 0, 1), some (.isub, 1), some (.invokevirtual 201, 3), none, none, some (.aload_n 0, 1), some (.getfield 67, 3), none, none, some (.iload_n 3, 1), some (.dup2, 1), some (.iaload, 1), some (.iconst 1, 1), some (.iadd, 1), some (.iastore, 1), some (.iinc 2 1, 3), none, none, some (.goto (-82), 3), none, none, some (.return_, 1)]
def tX7_goesBy : List (Option (Instr × Nat)) := [some (.aload_n 0, 1), some (.iload_n 1, 1), some (.invokevirtual 213, 3), none, none, some (.aload_n 0, 1), some (.iload_n 1, 1), some (.invokevirtual 216, 3), none, none, some (.aload_n 0, 1), some (.iload_n 1, 1), some (.invokevirtual 219, 3), none, none, some (.iconst 0, 1), some (.istore_n 2, 1), some (.iload_n 2, 1), some (.aload_n 0, 1), some (.getfield 171, 3), none, none, some (.if_icmp .ge 60, 3), none, none, some (.aload_n 0, 1), some (.getfield 40, 3), none, none, some (.iload_n 2, 1), some (.iaload, 1), some (.iload_n 1, 1), some (.if_icmp .ne 44, 3), none, none, some (.aload_n 0, 1), some (.getfield 43, 3), none, none, some (.iload_n 2, 1), some (.iaload, 1), some (.aload_n 0, 1), some (.getfield 127, 3), none, none, some (.if_icmp .ge 31, 3), none, none, some (.aload_n 0, 1), some (.getfield 195, 3), none, none, some (.iload_n 2, 1), some (.invokestatic 205, 3), none, none, some (.ifCond .ne 20, 3), none, none, some (.aload_n 0, 1), some (.aload_n 0, 1), some (.getfield 43, 3), none, none, some (.iload_n 2, 1), some (.iaload, 1), some (.aload_n 0, 1), some (.getfield 46, 3), none, none, some (.iload_n 2, 1), some (.iaload, 1), some (.ineg, 1), some (.invokevirtual 201, 3), none, none, some (.iinc 2 1, 3), none, none, some (.goto (-62), 3), none, none, some (.iconst 0, 1), some (.istore_n 2, 1), some (.iload_n 2, 1), some (.aload_n 0, 1), some (.getfield 174, 3), none, none, some (.if_icmp .ge 48, 3), none, none, some (.aload_n 0, 1), some (.getfield 49, 3), none, none, some (.iload_n 2, 1), some (.iaload, 1), some (.iload_n 1, 1), some (.if_icmp .ne 32, 3), none, none, some (.aload_n 0, 1), some (.getfield 52, 3), none, none, some (.iload_n 2, 1), some (.iaload, 1), some (.aload_n 0, 1), some (.getfield 127, 3), none, none, some (.if_icmp .ge 19, 3), none, none, some (.aload_n 0, 1), some (.aload_n 0, 1), some (.getfield 52, 3), none, none, some (.iload_n 2, 1), some (.iaload, 1), some (.aload_n 0, 1), some (.getfield 55, 3), none, none, some (.iload_n 2, 1), some (.iaload, 1), some (.invokevirtual 201, 3), none, none, some (.iinc 2 1, 3), none, none, some (.goto (-50), 3), none, none, some (.iconst 0, 1), some (.istore_n 2, 1), some (.iload_n 2, 1), some (.aload_n 0, 1), some (.getfield 127, 3), none, none, some (.if_icmp .ge 43, 3), none, none, some (.aload_n 0, 1), some (.getfield 73, 3), none, none, some (.bipush 8, 2), none, some (.iload_n 1, 1), some (.imul, 1), some (.iload_n 2, 1), some (.iadd, 1), some (.aload_n 0, 1), some (.getfield 64, 3), none, none, some (.iload_n 2, 1), some (.iaload, 1), some (.iastore, 1), some (.aload_n 0, 1), some (.getfield 76, 3), none, none, some (.bipush 8, 2), none, some (.iload_n 1, 1), some (.imul, 1), some (.iload_n 2, 1), some (.iadd, 1), some (.aload_n 0, 1), some (.getfield 67, 3), none, none, some (.iload_n 2, 1), some (.iaload, 1), some (.iastore, 1), some (.iinc 2 1, 3), none, none, some (.goto (-45), 3), none, none, some (.iconst 0, 1), some (.istore_n 2, 1), some (.iload_n 2, 1), some (.aload_n 0, 1), some (.getfield 186, 3), none, none, some (.if_icmp .ge 26, 3), none, none, some (.aload_n 0, 1), some (.getfield 79, 3), none, none, some (.bipush 12, 2), none, some (.iload_n 1, 1), some (.imul, 1), some (.iload_n 2, 1), some (.iadd, 1), some (.aload_n 0, 1), some (.getfield 70, 3), none, none, some (.iload_n 2, 1), some (.iaload, 1), some (.iastore, 1), some (.iinc 2 1, 3), none, none, some (.goto (-28), 3), none, none, some (.return_, 1)]
def tX7_runs : List (Option (Instr × Nat)) := [some (.iconst 0, 1), some (.istore_n 1, 1), some (.iload_n 1, 1), some (.aload_n 0, 1), some (.getfield 127, 3), none, none, some (.if_icmp .ge 28, 3), none, none, some (.aload_n 0, 1), some (.getfield 64, 3), none, none, some (.iload_n 1, 1), some (.aload_n 0, 1), some (.getfield 19, 3), none, none, some (.iload_n 1, 1), some (.iaload, 1), some (.iastore, 1), some (.aload_n 0, 1), some (.getfield 67, 3), none, none, some (.iload_n 1, 1), some (.iconst 0, 1), some (.iastore, 1), some (.iinc 1 1, 3), none, none, some (.goto (-30), 3), none, none, some (.iconst 0, 1), some (.istore_n 1, 1), some (.iload_n 1, 1), some (.aload_n 0, 1), some (.getfield 186, 3), none, none, some (.if_icmp .ge 16, 3), none, none, some (.aload_n 0, 1), some (.getfield 70, 3), none, none, some (.iload_n 1, 1), some (.iconst 0, 1), some (.iastore, 1), some (.iinc 1 1, 3), none, none, some (.goto (-18), 3), none, none, some (.iconst 0, 1), some (.istore_n 1, 1), some (.iload_n 1, 1), some (.bipush 24, 2), none, some (.if_icmp .ge 14, 3), none, none, some (.aload_n 0, 1), some (.iload_n 1, 1), some (.invokevirtual 222, 3), none, none, some (.iinc 1 1, 3), none, none, some (.goto (-14), 3), none, none, some (.return_, 1)]
def tX7_runsTold : List (Option (Instr × Nat)) := [some (.aload_n 0, 1), some (.invokevirtual 225, 3), none, none, some (.aload_n 0, 1), some (.invokevirtual 228, 3), none, none, some (.return_, 1)]
def tX7_fitsOn : List (Option (Instr × Nat)) := [some (.aload_n 0, 1), some (.getfield 73, 3), none, none, some (.bipush 8, 2), none, some (.iload_n 1, 1), some (.imul, 1), some (.iload_n 2, 1), some (.iadd, 1), some (.iaload, 1), some (.aload_n 0, 1), some (.getfield 19, 3), none, none, some (.iload_n 2, 1), some (.iaload, 1), some (.isub, 1), some (.iconst 0, 1), some (.iconst 1, 1), some (.invokestatic 115, 3), none, none, some (.ireturn, 1)]
def tX7_fitMany : List (Option (Instr × Nat)) := [some (.iconst 0, 1), some (.istore_n 2, 1), some (.iconst 0, 1), some (.istore_n 3, 1), some (.iload_n 3, 1), some (.aload_n 0, 1), some (.getfield 127, 3), none, none, some (.if_icmp .ge 26, 3), none, none, some (.iload_n 2, 1), some (.aload_n 0, 1), some (.iload_n 1, 1), some (.iload_n 3, 1), some (.invokevirtual 231, 3), none, none, some (.ifCond .eq 7, 3), none, none, some (.iconst 1, 1), some (.goto 4, 3), none, none, some (.iconst 0, 1), some (.iadd, 1), some (.istore_n 2, 1), some (.iinc 3 1, 3), none, none, some (.goto (-28), 3), none, none, some (.iload_n 2, 1), some (.ireturn, 1)]
def tX7_coatOf : List (Option (Instr × Nat)) := [some (.aload_n 0, 1), some (.invokevirtual 234, 3), none, none, some (.iload_n 3, 1), some (.ifCond .ne 17, 3), none, none, some (.aload_n 0, 1), some (.getfield 73, 3), none, none, some (.bipush 8, 2), none, some (.iload_n 1, 1), some (.imul, 1), some (.iload_n 2, 1), some (.iadd, 1), some (.iaload, 1), some (.goto 36, 3), none, none, some (.iload_n 3, 1), some (.iconst 1, 1), some (.if_icmp .ne 20, 3), none, none, some (.aload_n 0, 1), some (.iload_n 1, 1), some (.iload_n 2, 1), some (.invokevirtual 231, 3), none, none, some (.ifCond .eq 7, 3), none, none, some (.iconst 1, 1), some (.goto 18, 3), none, none, some (.iconst 0, 1), some (.goto 14, 3), none, none, some (.aload_n 0, 1), some (.getfield 76, 3), none, none, some (.bipush 8, 2), none, some (.iload_n 1, 1), some (.imul, 1), some (.iload_n 2, 1), some (.iadd, 1), some (.iaload, 1), some (.ireturn, 1)]
def tX7_coat : List (Option (Instr × Nat)) := [some (.iload_n 1, 1), some (.invokestatic 162, 3), none, none, some (.ifCond .eq 30, 3), none, none, some (.aload_n 0, 1), some (.iload_n 2, 1), some (.invokevirtual 150, 3), none, none, some (.ifCond .eq 22, 3), none, none, some (.iload_n 3, 1), some (.iconst 0, 1), some (.iconst 2, 1), some (.invokestatic 115, 3), none, none, some (.ifCond .eq 13, 3), none, none, some (.aload_n 0, 1), some (.iload_n 1, 1), some (.iload_n 2, 1), some (.iload_n 3, 1), some (.invokevirtual 237, 3), none, none, some (.goto 5, 3), none, none, some (.bipush (-2), 2), none, some (.ireturn, 1)]
def tX7_standsOf : List (Option (Instr × Nat)) := [some (.aload_n 0, 1), some (.invokevirtual 234, 3), none, none, some (.aload_n 0, 1), some (.getfield 79, 3), none, none, some (.bipush 12, 2), none, some (.iload_n 1, 1), some (.imul, 1), some (.iload_n 2, 1), some (.iadd, 1), some (.iaload, 1), some (.ireturn, 1)]
def tX7_stands : List (Option (Instr × Nat)) := [some (.iload_n 1, 1), some (.invokestatic 162, 3), none, none, some (.ifCond .eq 20, 3), none, none, some (.aload_n 0, 1), some (.iload_n 2, 1), some (.invokevirtual 156, 3), none, none, some (.ifCond .eq 12, 3), none, none, some (.aload_n 0, 1), some (.iload_n 1, 1), some (.iload_n 2, 1), some (.invokevirtual 241, 3), none, none, some (.goto 5, 3), none, none, some (.bipush (-2), 2), none, some (.ireturn, 1)]
def tX7_neatOf : List (Option (Instr × Nat)) := [some (.aload_n 0, 1), some (.invokevirtual 234, 3), none, none, some (.iconst 0, 1), some (.istore_n 2, 1), some (.iconst 0, 1), some (.istore_n 3, 1), some (.iload_n 3, 1), some (.aload_n 0, 1), some (.getfield 127, 3), none, none, some (.if_icmp .ge 28, 3), none, none, some (.iload_n 2, 1), some (.aload_n 0, 1), some (.iload_n 1, 1), some (.iload_n 3, 1), some (.invokevirtual 231, 3), none, none, some (.ifCond .eq 9, 3), none, none, some (.iconst 1, 1), some (.iload_n 3, 1), some (.ishl, 1), some (.goto 4, 3), none, none, some (.iconst 0, 1), some (.ior, 1), some (.istore_n 2, 1), some (.iinc 3 1, 3), none, none, some (.goto (-30), 3), none, none, some (.iload_n 2, 1), some (.ireturn, 1)]
def tX7_neat : List (Option (Instr × Nat)) := [some (.iload_n 1, 1), some (.invokestatic 162, 3), none, none, some (.ifCond .eq 11, 3), none, none, some (.aload_n 0, 1), some (.iload_n 1, 1), some (.invokevirtual 244, 3), none, none, some (.goto 5, 3), none, none, some (.bipush (-2), 2), none, some (.ireturn, 1)]
def tX7_nakedNow : List (Option (Instr × Nat)) := [some (.iconst 0, 1), some (.istore_n 2, 1), some (.iconst 0, 1), some (.istore_n 3, 1), some (.iload_n 3, 1), some (.aload_n 0, 1), some (.getfield 127, 3), none, none, some (.if_icmp .ge 33, 3), none, none, some (.iload_n 2, 1), some (.aload_n 0, 1), some (.getfield 73, 3), none, none, some (.bipush 8, 2), none, some (.iload_n 1, 1), some (.imul, 1), some (.iload_n 3, 1), some (.iadd, 1), some (.iaload, 1), some (.ifCond .ne 9, 3), none, none, some (.iconst 1, 1), some (.iload_n 3, 1), some (.ishl, 1), some (.goto 4, 3), none, none, some (.iconst 0, 1), some (.ior, 1), some (.istore_n 2, 1), some (.iinc 3 1, 3), none, none, some (.goto (-35), 3), none, none, some (.iload_n 2, 1), some (.ireturn, 1)]
def tX7_nakedOf : List (Option (Instr × Nat)) := [some (.aload_n 0, 1), some (.invokevirtual 234, 3), none, none, some (.aload_n 0, 1), some (.iload_n 1, 1), some (.invokevirtual 247, 3), none, none, some (.ireturn, 1)]
def tX7_naked : List (Option (Instr × Nat)) := [some (.iload_n 1, 1), some (.invokestatic 162, 3), none, none, some (.ifCond .eq 11, 3), none, none, some (.aload_n 0, 1), some (.iload_n 1, 1), some (.invokevirtual 250, 3), none, none, some (.goto 5, 3), none, none, some (.bipush (-2), 2), none, some (.ireturn, 1)]
def tX7_longestOf : List (Option (Instr × Nat)) := [some (.aload_n 0, 1), some (.invokevirtual 234, 3), none, none, some (.iconst (-1), 1), some (.istore_n 2, 1), some (.iconst 0, 1), some (.istore_n 3, 1), some (.iload_n 3, 1), some (.aload_n 0, 1), some (.getfield 127, 3), none, none, some (.if_icmp .ge 45, 3), none, none, some (.iload_n 2, 1), some (.iconst (-1), 1), some (.if_icmp .eq 28, 3), none, none, some (.aload_n 0, 1), some (.getfield 73, 3), none, none, some (.bipush 8, 2), none, some (.iload_n 1, 1), some (.imul, 1), some (.iload_n 3, 1), some (.iadd, 1), some (.iaload, 1), some (.aload_n 0, 1), some (.getfield 73, 3), none, none, some (.bipush 8, 2), none, some (.iload_n 1, 1), some (.imul, 1), some (.iload_n 2, 1), some (.iadd, 1), some (.iaload, 1), some (.if_icmp .le 7, 3), none, none, some (.iload_n 3, 1), some (.goto 4, 3), none, none, some (.iload_n 2, 1), some (.istore_n 2, 1), some (.iinc 3 1, 3), none, none, some (.goto (-47), 3), none, none, some (.iload_n 2, 1), some (.ireturn, 1)]
def tX7_longest : List (Option (Instr × Nat)) := [some (.iload_n 1, 1), some (.invokestatic 162, 3), none, none, some (.ifCond .eq 11, 3), none, none, some (.aload_n 0, 1), some (.iload_n 1, 1), some (.invokevirtual 253, 3), none, none, some (.goto 5, 3), none, none, some (.bipush (-2), 2), none, some (.ireturn, 1)]
def tX7_tearsAll : List (Option (Instr × Nat)) := [some (.iconst 0, 1), some (.istore_n 1, 1), some (.iconst 0, 1), some (.istore_n 2, 1), some (.iload_n 2, 1), some (.aload_n 0, 1), some (.getfield 127, 3), none, none, some (.if_icmp .ge 18, 3), none, none, some (.iload_n 1, 1), some (.aload_n 0, 1), some (.getfield 67, 3), none, none, some (.iload_n 2, 1), some (.iaload, 1), some (.iadd, 1), some (.istore_n 1, 1), some (.iinc 2 1, 3), none, none, some (.goto (-20), 3), none, none, some (.iload_n 1, 1), some (.ireturn, 1)]
def tX7_splitsOf : List (Option (Instr × Nat)) := [some (.aload_n 0, 1), some (.invokevirtual 234, 3), none, none, some (.aload_n 0, 1), some (.invokevirtual 256, 3), none, none, some (.ireturn, 1)]
def tX7_splits : List (Option (Instr × Nat)) := [some (.aload_n 0, 1), some (.invokevirtual 260, 3), none, none, some (.ireturn, 1)]
def tX7_bestNow : List (Option (Instr × Nat)) := [some (.aload_n 0, 1), some (.invokevirtual 234, 3), none, none, some (.iconst 0, 1), some (.istore_n 1, 1), some (.iconst 1, 1), some (.istore_n 2, 1), some (.iload_n 2, 1), some (.bipush 24, 2), none, some (.if_icmp .ge 28, 3), none, none, some (.aload_n 0, 1), some (.iload_n 2, 1), some (.invokevirtual 263, 3), none, none, some (.aload_n 0, 1), some (.iload_n 1, 1), some (.invokevirtual 263, 3), none, none, some (.if_icmp .le 7, 3), none, none, some (.iload_n 2, 1), some (.goto 4, 3), none, none, some (.iload_n 1, 1), some (.istore_n 1, 1), some (.iinc 2 1, 3), none, none, some (.goto (-28), 3), none, none, some (.aload_n 0, 1), some (.getfield 127, 3), none, none, some (.ifCond .ne 7, 3), none, none, some (.iconst (-1), 1), some (.goto 4, 3), none, none, some (.iload_n 1, 1), some (.ireturn, 1)]
def tX7_best : List (Option (Instr × Nat)) := [some (.aload_n 0, 1), some (.invokevirtual 266, 3), none, none, some (.ireturn, 1)]
def tX7_swearOf : List (Option (Instr × Nat)) := [some (.aload_n 0, 1), some (.invokevirtual 225, 3), none, none, some (.aload_n 0, 1), some (.getfield 131, 3), none, none, some (.istore_n 3, 1), some (.iconst (-1), 1), some (.istore 4, 2), none, some (.aload_n 0, 1), some (.aload_n 0, 1), some (.getfield 131, 3), none, none, some (.iconst 1, 1), some (.iadd, 1), some (.putfield 186, 3), none, none, some (.aload_n 0, 1), some (.getfield 22, 3), none, none, some (.iload_n 3, 1), some (.iload_n 1, 1), some (.iastore, 1), some (.aload_n 0, 1), some (.getfield 28, 3), none, none, some (.iload_n 3, 1), some (.iconst 0, 1), some (.iastore, 1), some (.aload_n 0, 1), some (.getfield 31, 3), none, none, some (.iload_n 3, 1), some (.iconst (-1), 1), some (.iastore, 1), some (.iconst 1, 1), some (.istore 5, 2), none, some (.iload 5, 2), none, some (.bipush 10, 2), none, some (.if_icmp .ge 44, 3), none, none, some (.iload 4, 2), none, some (.iconst (-1), 1), some (.if_icmp .ne 38, 3), none, none, some (.aload_n 0, 1), some (.getfield 25, 3), none, none, some (.iload_n 3, 1), some (.iload 5, 2), none, some (.iastore, 1), some (.aload_n 0, 1), some (.invokevirtual 228, 3), none, none, some (.aload_n 0, 1), some (.iload_n 2, 1), some (.iload_n 1, 1), some (.invokevirtual 231, 3), none, none, some (.ifCond .eq 8, 3), none, none, some (.iload 5, 2), none, some (.goto 4, 3), none, none, some (.iconst (-1), 1), some (.istore 4, 2), none, some (.iinc 5 1, 3), none, none, some (.goto (-45), 3), none, none, some (.iload 4, 2), none, some (.ireturn, 1)]
def tX7_swear : List (Option (Instr × Nat)) := [some (.aload_n 0, 1), some (.iload_n 1, 1), some (.invokevirtual 150, 3), none, none, some (.ifCond .eq 19, 3), none, none, some (.iload_n 2, 1), some (.invokestatic 162, 3), none, none, some (.ifCond .eq 12, 3), none, none, some (.aload_n 0, 1), some (.iload_n 1, 1), some (.iload_n 2, 1), some (.invokevirtual 269, 3), none, none, some (.goto 5, 3), none, none, some (.bipush (-2), 2), none, some (.ireturn, 1)]
def tX7_keepBest : List (Option (Instr × Nat)) := [some (.aload_n 0, 1), some (.invokevirtual 225, 3), none, none, some (.iconst (-1), 1), some (.istore_n 3, 1), some (.iconst (-1), 1), some (.istore 4, 2), none, some (.aload_n 0, 1), some (.aload_n 0, 1), some (.getfield 165, 3), none, none, some (.iconst 1, 1), some (.iadd, 1), some (.putfield 189, 3), none, none, some (.aload_n 0, 1), some (.getfield 58, 3), none, none, some (.aload_n 0, 1), some (.getfield 165, 3), none, none, some (.iload_n 1, 1), some (.iastore, 1), some (.iconst 0, 1), some (.istore 5, 2), none, some (.iload 5, 2), none, some (.aload_n 0, 1), some (.getfield 131, 3), none, none, some (.if_icmp .ge 62, 3), none, none, some (.aload_n 0, 1), some (.getfield 61, 3), none, none, some (.aload_n 0, 1), some (.getfield 165, 3), none, none, some (.iload 5, 2), none, some (.iastore, 1), some (.aload_n 0, 1), some (.invokevirtual 228, 3), none, none, some (.aload_n 0, 1), some (.bipush 23, 2), none, some (.invokevirtual 263, 3), none, none, some (.istore 6, 2), none, some (.iload 6, 2), none, some (.iload 4, 2), none, some (.if_icmp .le 8, 3), none, none, some (.iload 5, 2), none, some (.goto 4, 3), none, none, some (.iload_n 3, 1), some (.istore_n 3, 1), some (.iload 6, 2), none, some (.iload 4, 2), none, some (.if_icmp .le 8, 3), none, none, some (.iload 6, 2), none, some (.goto 5, 3), none, none, some (.iload 4, 2), none, some (.istore 4, 2), none, some (.iinc 5 1, 3), none, none, some (.goto (-65), 3), none, none, some (.iload_n 2, 1), some (.ifCond .ne 7, 3), none, none, some (.iload_n 3, 1), some (.goto 5, 3), none, none, some (.iload 4, 2), none, some (.ireturn, 1)]
def tX7_keep : List (Option (Instr × Nat)) := [some (.iload_n 1, 1), some (.invokestatic 162, 3), none, none, some (.ifCond .eq 21, 3), none, none, some (.iload_n 2, 1), some (.iconst 0, 1), some (.iconst 1, 1), some (.invokestatic 115, 3), none, none, some (.ifCond .eq 12, 3), none, none, some (.aload_n 0, 1), some (.iload_n 1, 1), some (.iload_n 2, 1), some (.invokevirtual 272, 3), none, none, some (.goto 5, 3), none, none, some (.bipush (-2), 2), none, some (.ireturn, 1)]
def tX7_dueOf : List (Option (Instr × Nat)) := [some (.aload_n 0, 1), some (.invokevirtual 225, 3), none, none, some (.aload_n 0, 1), some (.getfield 31, 3), none, none, some (.iload_n 1, 1), some (.iaload, 1), some (.istore_n 3, 1), some (.iconst (-1), 1), some (.istore 4, 2), none, some (.sipush 999, 3), none, none, some (.istore 5, 2), none, some (.iconst 0, 1), some (.istore 6, 2), none, some (.iload 6, 2), none, some (.bipush 24, 2), none, some (.if_icmp .ge 59, 3), none, none, some (.aload_n 0, 1), some (.getfield 31, 3), none, none, some (.iload_n 1, 1), some (.iload 6, 2), none, some (.iastore, 1), some (.aload_n 0, 1), some (.invokevirtual 228, 3), none, none, some (.aload_n 0, 1), some (.invokevirtual 256, 3), none, none, some (.istore 7, 2), none, some (.iload 7, 2), none, some (.iload 5, 2), none, some (.if_icmp .ge 8, 3), none, none, some (.iload 6, 2), none, some (.goto 5, 3), none, none, some (.iload 4, 2), none, some (.istore 4, 2), none, some (.iload 7, 2), none, some (.iload 5, 2), none, some (.if_icmp .ge 8, 3), none, none, some (.iload 7, 2), none, some (.goto 5, 3), none, none, some (.iload 5, 2), none, some (.istore 5, 2), none, some (.iinc 6 1, 3), none, none, some (.goto (-60), 3), none, none, some (.aload_n 0, 1), some (.getfield 31, 3), none, none, some (.iload_n 1, 1), some (.iload_n 3, 1), some (.iastore, 1), some (.iload_n 2, 1), some (.ifCond .ne 8, 3), none, none, some (.iload 4, 2), none, some (.goto 5, 3), none, none, some (.iload 5, 2), none, some (.ireturn, 1)]
def tX7_due : List (Option (Instr × Nat)) := [some (.aload_n 0, 1), some (.iload_n 1, 1), some (.invokevirtual 156, 3), none, none, some (.ifCond .eq 21, 3), none, none, some (.iload_n 2, 1), some (.iconst 0, 1), some (.iconst 1, 1), some (.invokestatic 115, 3), none, none, some (.ifCond .eq 12, 3), none, none, some (.aload_n 0, 1), some (.iload_n 1, 1), some (.iload_n 2, 1), some (.invokevirtual 275, 3), none, none, some (.goto 5, 3), none, none, some (.bipush (-2), 2), none, some (.ireturn, 1)]
def tX7_isHushed : List (Option (Instr × Nat)) := [some (.aload_n 0, 1), some (.iload_n 1, 1), some (.putfield 195, 3), none, none, some (.aload_n 0, 1), some (.invokevirtual 228, 3), none, none, some (.aload_n 0, 1), some (.bipush 23, 2), none, some (.invokevirtual 247, 3), none, none, some (.ifCond .ne 7, 3), none, none, some (.iconst 1, 1), some (.goto 4, 3), none, none, some (.iconst 0, 1), some (.ireturn, 1)]
def tX7_hushBy : List (Option (Instr × Nat)) := [some (.aload_n 0, 1), some (.invokevirtual 225, 3), none, none, some (.aload_n 0, 1), some (.iconst 0, 1), some (.invokevirtual 278, 3), none, none, some (.ifCond .eq 5, 3), none, none, some (.iconst 0, 1), some (.ireturn, 1), some (.iconst 0, 1), some (.istore_n 1, 1), some (.iload_n 1, 1), some (.aload_n 0, 1), some (.getfield 171, 3), none, none, some (.if_icmp .ge 28, 3), none, none, some (.aload_n 0, 1), some (.getfield 82, 3), none, none, some (.iconst 0, 1), some (.iload_n 1, 1), some (.iastore, 1), some (.aload_n 0, 1), some (.iconst 1, 1), some (.iload_n 1, 1), some (.ishl, 1), some (.invokevirtual 278, 3), none, none, some (.ifCond .eq 5, 3), none, none, some (.iconst 1, 1), some (.ireturn, 1), some (.iinc 1 1, 3), none, none, some (.goto (-30), 3), none, none, some (.iconst 0, 1), some (.istore_n 1, 1), some (.iload_n 1, 1), some (.aload_n 0, 1), some (.getfield 171, 3), none, none, some (.if_icmp .ge 57, 3), none, none, some (.iload_n 1, 1), some (.iconst 1, 1), some (.iadd, 1), some (.istore_n 2, 1), some (.iload_n 2, 1), some (.aload_n 0, 1), some (.getfield 171, 3), none, none, some (.if_icmp .ge 39, 3), none, none, some (.aload_n 0, 1), some (.getfield 82, 3), none, none, some (.iconst 0, 1), some (.iload_n 1, 1), some (.iastore, 1), some (.aload_n 0, 1), some (.getfield 82, 3), none, none, some (.iconst 1, 1), some (.iload_n 2, 1), some (.iastore, 1), some (.aload_n 0, 1), some (.iconst 1, 1), some (.iload_n 1, 1), some (.ishl, 1), some (.iconst 1, 1), some (.iload_n 2, 1), some (.ishl, 1), some (.ior, 1), some (.invokevirtual 278, 3), none, none, some (.ifCond .eq 5, 3), none, none, some (.iconst 2, 1), some (.ireturn, 1), some (.iinc 2 1, 3), none, none, some (.goto (-41), 3), none, none, some (.iinc 1 1, 3), none, none, some (.goto (-59), 3), none, none, some (.iconst (-1), 1), some (.ireturn, 1)]
def tX7_ofRow : List (Option (Instr × Nat)) := [some (.iload_n 2, 1), some (.iconst (-1), 1), some (.if_icmp .ne 7, 3), none, none, some (.iload_n 1, 1), some (.goto 18, 3), none, none, some (.iload_n 2, 1), some (.iload_n 1, 1), some (.if_icmp .ge 12, 3), none, none, some (.aload_n 0, 1), some (.getfield 82, 3), none, none, some (.iload_n 2, 1), some (.iaload, 1), some (.goto 4, 3), none, none, some (.iconst (-1), 1), some (.ireturn, 1)]
def tX7_hush : List (Option (Instr × Nat)) := [some (.iload_n 1, 1), some (.iconst (-1), 1), some (.iconst 1, 1), some (.invokestatic 115, 3), none, none, some (.ifCond .eq 15, 3), none, none, some (.aload_n 0, 1), some (.aload_n 0, 1), some (.invokevirtual 281, 3), none, none, some (.iload_n 1, 1), some (.invokevirtual 284, 3), none, none, some (.goto 5, 3), none, none, some (.bipush (-2), 2), none, some (.ireturn, 1)]
def tX7_seen : List (Option (Instr × Nat)) := [some (.iload_n 1, 1), some (.invokestatic 162, 3), none, none, some (.ifCond .eq 20, 3), none, none, some (.iload_n 2, 1), some (.invokestatic 168, 3), none, none, some (.ifCond .eq 13, 3), none, none, some (.iload_n 3, 1), some (.iconst 0, 1), some (.bipush 99, 2), none, some (.invokestatic 115, 3), none, none, some (.ifCond .ne 6, 3), none, none, some (.bipush (-2), 2), none, some (.ireturn, 1), some (.aload_n 0, 1), some (.getfield 287, 3), none, none, some (.bipush 8, 2), none, some (.if_icmp .ne 6, 3), none, none, some (.bipush (-4), 2), none, some (.ireturn, 1), some (.aload_n 0, 1), some (.getfield 85, 3), none, none, some (.aload_n 0, 1), some (.getfield 287, 3), none, none, some (.iload_n 1, 1), some (.iastore, 1), some (.aload_n 0, 1), some (.getfield 88, 3), none, none, some (.aload_n 0, 1), some (.getfield 287, 3), none, none, some (.iload_n 2, 1), some (.iastore, 1), some (.aload_n 0, 1), some (.getfield 91, 3), none, none, some (.aload_n 0, 1), some (.getfield 287, 3), none, none, some (.iload_n 3, 1), some (.iastore, 1), some (.aload_n 0, 1), some (.dup, 1), some (.getfield 287, 3), none, none, some (.iconst 1, 1), some (.iadd, 1), some (.putfield 287, 3), none, none, some (.aload_n 0, 1), some (.getfield 287, 3), none, none, some (.ireturn, 1)]
def tX7_forget : List (Option (Instr × Nat)) := [some (.aload_n 0, 1), some (.getfield 287, 3), none, none, some (.istore_n 1, 1), some (.aload_n 0, 1), some (.iconst 0, 1), some (.putfield 287, 3), none, none, some (.iload_n 1, 1), some (.ireturn, 1)]
def tX7_isSeen : List (Option (Instr × Nat)) := [some (.aload_n 0, 1), some (.invokevirtual 228, 3), none, none, some (.iconst 1, 1), some (.istore_n 1, 1), some (.iconst 0, 1), some (.istore_n 2, 1), some (.iload_n 2, 1), some (.aload_n 0, 1), some (.getfield 287, 3), none, none, some (.if_icmp .ge 62, 3), none, none, some (.iload_n 1, 1), some (.ifCond .eq 58, 3), none, none, some (.aload_n 0, 1), some (.getfield 88, 3), none, none, some (.iload_n 2, 1), some (.iaload, 1), some (.aload_n 0, 1), some (.getfield 127, 3), none, none, some (.if_icmp .ge 37, 3), none, none, some (.aload_n 0, 1), some (.getfield 73, 3), none, none, some (.bipush 8, 2), none, some (.aload_n 0, 1), some (.getfield 85, 3), none, none, some (.iload_n 2, 1), some (.iaload, 1), some (.imul, 1), some (.aload_n 0, 1), some (.getfield 88, 3), none, none, some (.iload_n 2, 1), some (.iaload, 1), some (.iadd, 1), some (.iaload, 1), some (.aload_n 0, 1), some (.getfield 91, 3), none, none, some (.iload_n 2, 1), some (.iaload, 1), some (.if_icmp .ne 7, 3), none, none, some (.iconst 1, 1), some (.goto 4, 3), none, none, some (.iconst 0, 1), some (.istore_n 1, 1), some (.iinc 2 1, 3), none, none, some (.goto (-64), 3), none, none, some (.iload_n 1, 1), some (.ireturn, 1)]
def tX7_neverNow : List (Option (Instr × Nat)) := [some (.aload_n 0, 1), some (.invokevirtual 225, 3), none, none, some (.iconst 0, 1), some (.istore_n 1, 1), some (.iconst 0, 1), some (.istore_n 2, 1), some (.iload_n 2, 1), some (.aload_n 0, 1), some (.getfield 165, 3), none, none, some (.if_icmp .ge 33, 3), none, none, some (.aload_n 0, 1), some (.iconst 1, 1), some (.iload_n 2, 1), some (.ishl, 1), some (.putfield 192, 3), none, none, some (.iload_n 1, 1), some (.aload_n 0, 1), some (.invokevirtual 290, 3), none, none, some (.ifCond .eq 9, 3), none, none, some (.iconst 1, 1), some (.iload_n 2, 1), some (.ishl, 1), some (.goto 4, 3), none, none, some (.iconst 0, 1), some (.ior, 1), some (.istore_n 1, 1), some (.iinc 2 1, 3), none, none, some (.goto (-35), 3), none, none, some (.iload_n 1, 1), some (.ireturn, 1)]
def tX7_never : List (Option (Instr × Nat)) := [some (.aload_n 0, 1), some (.invokevirtual 294, 3), none, none, some (.ireturn, 1)]
def tX7_sizesBy : List (Option (Instr × Nat)) := [some (.aload_n 0, 1), some (.invokevirtual 225, 3), none, none, some (.aload_n 0, 1), some (.getfield 19, 3), none, none, some (.iload_n 1, 1), some (.iaload, 1), some (.istore_n 2, 1), some (.iconst 0, 1), some (.istore_n 3, 1), some (.iconst 0, 1), some (.istore 4, 2), none, some (.iload 4, 2), none, some (.bipush 10, 2), none, some (.if_icmp .ge 76, 3), none, none, some (.aload_n 0, 1), some (.getfield 19, 3), none, none, some (.iload_n 1, 1), some (.iload 4, 2), none, some (.iastore, 1), some (.iload_n 3, 1), some (.aload_n 0, 1), some (.invokevirtual 290, 3), none, none, some (.ifCond .eq 10, 3), none, none, some (.iconst 1, 1), some (.iload 4, 2), none, some (.ishl, 1), some (.goto 4, 3), none, none, some (.iconst 0, 1), some (.ior, 1), some (.istore_n 3, 1), some (.iconst 0, 1), some (.istore 5, 2), none, some (.iload 5, 2), none, some (.bipush 24, 2), none, some (.if_icmp .ge 34, 3), none, none, some (.aload_n 0, 1), some (.getfield 94, 3), none, none, some (.bipush 24, 2), none, some (.iload 4, 2), none, some (.imul, 1), some (.iload 5, 2), none, some (.iadd, 1), some (.aload_n 0, 1), some (.getfield 73, 3), none, none, some (.bipush 8, 2), none, some (.iload 5, 2), none, some (.imul, 1), some (.iload_n 1, 1), some (.iadd, 1), some (.iaload, 1), some (.iastore, 1), some (.iinc 5 1, 3), none, none, some (.goto (-35), 3), none, none, some (.iinc 4 1, 3), none, none, some (.goto (-77), 3), none, none, some (.aload_n 0, 1), some (.getfield 19, 3), none, none, some (.iload_n 1, 1), some (.iload_n 2, 1), some (.iastore, 1), some (.iload_n 3, 1), some (.ireturn, 1)]
def tX7_sortsBy : List (Option (Instr × Nat)) := [some (.aload_n 0, 1), some (.invokevirtual 225, 3), none, none, some (.aload_n 0, 1), some (.getfield 16, 3), none, none, some (.iload_n 1, 1), some (.iaload, 1), some (.istore_n 2, 1), some (.iconst 0, 1), some (.istore_n 3, 1), some (.iconst 0, 1), some (.istore 4, 2), none, some (.iload 4, 2), none, some (.iconst 3, 1), some (.if_icmp .ge 35, 3), none, none, some (.aload_n 0, 1), some (.getfield 16, 3), none, none, some (.iload_n 1, 1), some (.iload 4, 2), none, some (.iastore, 1), some (.iload_n 3, 1), some (.aload_n 0, 1), some (.invokevirtual 290, 3), none, none, some (.ifCond .eq 10, 3), none, none, some (.iconst 1, 1), some (.iload 4, 2), none, some (.ishl, 1), some (.goto 4, 3), none, none, some (.iconst 0, 1), some (.ior, 1), some (.istore_n 3, 1), some (.iinc 4 1, 3), none, none, some (.goto (-35), 3), none, none, some (.aload_n 0, 1), some (.getfield 16, 3), none, none, some (.iload_n 1, 1), some (.iload_n 2, 1), some (.iastore, 1), some (.iload_n 3, 1), some (.ireturn, 1)]
def tX7_was : List (Option (Instr × Nat)) := [some (.aload_n 0, 1), some (.iload_n 1, 1), some (.invokevirtual 150, 3), none, none, some (.ifCond .eq 32, 3), none, none, some (.iload_n 2, 1), some (.iconst 0, 1), some (.iconst 1, 1), some (.invokestatic 115, 3), none, none, some (.ifCond .eq 23, 3), none, none, some (.iload_n 2, 1), some (.ifCond .ne 11, 3), none, none, some (.aload_n 0, 1), some (.iload_n 1, 1), some (.invokevirtual 297, 3), none, none, some (.goto 13, 3), none, none, some (.aload_n 0, 1), some (.iload_n 1, 1), some (.invokevirtual 300, 3), none, none, some (.goto 5, 3), none, none, some (.bipush (-2), 2), none, some (.ireturn, 1)]
def tX7_askOf : List (Option (Instr × Nat)) := [some (.aload_n 0, 1), some (.iload_n 1, 1), some (.invokevirtual 297, 3), none, none, some (.istore_n 2, 1), some (.iconst (-1), 1), some (.istore_n 3, 1), some (.iconst 0, 1), some (.istore 4, 2), none, some (.iconst 0, 1), some (.istore 5, 2), none, some (.iload 5, 2), none, some (.bipush 24, 2), none, some (.if_icmp .ge 165, 3), none, none, some (.iconst 0, 1), some (.istore 6, 2), none, some (.iconst 0, 1), some (.istore 7, 2), none, some (.iload 7, 2), none, some (.bipush 10, 2), none, some (.if_icmp .ge 101, 3), none, none, some (.iconst 0, 1), some (.istore 8, 2), none, some (.iconst 0, 1), some (.istore 9, 2), none, some (.iload 9, 2), none, some (.bipush 10, 2), none, some (.if_icmp .ge 66, 3), none, none, some (.iload 8, 2), none, some (.iload_n 2, 1), some (.iload 7, 2), none, some (.invokestatic 205, 3), none, none, some (.ifCond .eq 45, 3), none, none, some (.iload_n 2, 1), some (.iload 9, 2), none, some (.invokestatic 205, 3), none, none, some (.ifCond .eq 36, 3), none, none, some (.aload_n 0, 1), some (.getfield 94, 3), none, none, some (.bipush 24, 2), none, some (.iload 7, 2), none, some (.imul, 1), some (.iload 5, 2), none, some (.iadd, 1), some (.iaload, 1), some (.aload_n 0, 1), some (.getfield 94, 3), none, none, some (.bipush 24, 2), none, some (.iload 9, 2), none, some (.imul, 1), some (.iload 5, 2), none, some (.iadd, 1), some (.iaload, 1), some (.if_icmp .ne 7, 3), none, none, some (.iconst 1, 1), some (.goto 4, 3), none, none, some (.iconst 0, 1), some (.iadd, 1), some (.istore 8, 2), none, some (.iinc 9 1, 3), none, none, some (.goto (-67), 3), none, none, some (.iload 8, 2), none, some (.iload 6, 2), none, some (.if_icmp .le 8, 3), none, none, some (.iload 8, 2), none, some (.goto 5, 3), none, none, some (.iload 6, 2), none, some (.istore 6, 2), none, some (.iinc 7 1, 3), none, none, some (.goto (-102), 3), none, none, some (.iload_n 3, 1), some (.iconst (-1), 1), some (.if_icmp .eq 10, 3), none, none, some (.iload 6, 2), none, some (.iload 4, 2), none, some (.if_icmp .ge 7, 3), none, none, some (.iconst 1, 1), some (.goto 4, 3), none, none, some (.iconst 0, 1), some (.istore 7, 2), none, some (.iload 7, 2), none, some (.ifCond .eq 8, 3), none, none, some (.iload 5, 2), none, some (.goto 4, 3), none, none, some (.iload_n 3, 1), some (.istore_n 3, 1), some (.iload 7, 2), none, some (.ifCond .eq 8, 3), none, none, some (.iload 6, 2), none, some (.goto 5, 3), none, none, some (.iload 4, 2), none, some (.istore 4, 2), none, some (.iinc 5 1, 3), none, none, some (.goto (-166), 3), none, none, some (.iload_n 3, 1), some (.ireturn, 1)]
def tX7_ask : List (Option (Instr × Nat)) := [some (.aload_n 0, 1), some (.iload_n 1, 1), some (.invokevirtual 150, 3), none, none, some (.ifCond .eq 11, 3), none, none, some (.aload_n 0, 1), some (.iload_n 1, 1), some (.invokevirtual 303, 3), none, none, some (.goto 5, 3), none, none, some (.bipush (-2), 2), none, some (.ireturn, 1)]
def tX7_wordOf : List (Option (Instr × Nat)) := [some (.aload_n 0, 1), some (.invokevirtual 225, 3), none, none, some (.lconst 0, 1), some (.lstore 5, 2), none, some (.iconst 0, 1), some (.istore 7, 2), none, some (.iload 7, 2), none, some (.iconst 1, 1), some (.aload_n 0, 1), some (.getfield 165, 3), none, none, some (.ishl, 1), some (.if_icmp .ge 92, 3), none, none, some (.lconst 1, 1), some (.lstore 8, 2), none, some (.iconst 0, 1), some (.istore 10, 2), none, some (.iload 10, 2), none, some (.aload_n 0, 1), some (.getfield 165, 3), none, none, some (.if_icmp .ge 34, 3), none, none, some (.lload 8, 2), none, some (.iload 7, 2), none, some (.iload 10, 2), none, some (.invokestatic 205, 3), none, none, some (.ifCond .eq 11, 3), none, none, some (.bipush 16, 2), none, some (.iload_n 1, 1), some (.isub, 1), some (.i2l, 1), some (.goto 5, 3), none, none, some (.iload_n 1, 1), some (.i2l, 1), some (.lmul, 1), some (.lstore 8, 2), none, some (.iinc 10 1, 3), none, none, some (.goto (-37), 3), none, none, some (.lload 8, 2), none, some (.lconst 0, 1), some (.lcmp, 1), some (.ifCond .le 33, 3), none, none, some (.aload_n 0, 1), some (.iload 7, 2), none, some (.putfield 192, 3), none, none, some (.aload_n 0, 1), some (.invokevirtual 228, 3), none, none, some (.lload 5, 2), none, some (.aload_n 0, 1), some (.iload_n 3, 1), some (.iload_n 2, 1), some (.invokevirtual 231, 3), none, none, some (.ifCond .eq 8, 3), none, none, some (.lload 8, 2), none, some (.goto 4, 3), none, none, some (.lconst 0, 1), some (.ladd, 1), some (.lstore 5, 2), none, some (.iinc 7 1, 3), none, none, some (.goto (-97), 3), none, none, some (.lload 5, 2), none, some (.lconst 1, 1), some (.iconst 4, 1), some (.aload_n 0, 1), some (.getfield 165, 3), none, none, some (.imul, 1), some (.lshl, 1), some (.iload 4, 2), none, some (.invokestatic 306, 3), none, none, some (.lreturn, 1)]
def tX7_word : List (Option (Instr × Nat)) := [some (.iload_n 1, 1), some (.iconst 0, 1), some (.bipush 16, 2), none, some (.invokestatic 115, 3), none, none, some (.ifCond .eq 40, 3), none, none, some (.aload_n 0, 1), some (.iload_n 2, 1), some (.invokevirtual 150, 3), none, none, some (.ifCond .eq 32, 3), none, none, some (.iload_n 3, 1), some (.invokestatic 162, 3), none, none, some (.ifCond .eq 25, 3), none, none, some (.iload 4, 2), none, some (.iconst 0, 1), some (.iconst 1, 1), some (.invokestatic 115, 3), none, none, some (.ifCond .eq 15, 3), none, none, some (.aload_n 0, 1), some (.iload_n 1, 1), some (.iload_n 2, 1), some (.iload_n 3, 1), some (.iload 4, 2), none, some (.invokevirtual 310, 3), none, none, some (.goto 8, 3), none, none, some (.bipush (-2), 2), none, some (.invokestatic 314, 3), none, none, some (.lreturn, 1)]
def tX7_yearOf : List (Option (Instr × Nat)) := [some (.aload_n 0, 1), some (.invokevirtual 225, 3), none, none, some (.iload_n 1, 1), some (.istore 4, 2), none, some (.aload_n 0, 1), some (.aload_n 0, 1), some (.getfield 131, 3), none, none, some (.ifCond .ne 7, 3), none, none, some (.iconst 0, 1), some (.goto 4, 3), none, none, some (.iload_n 2, 1), some (.putfield 189, 3), none, none, some (.iconst 0, 1), some (.istore 5, 2), none, some (.iload 5, 2), none, some (.aload_n 0, 1), some (.getfield 189, 3), none, none, some (.if_icmp .ge 65, 3), none, none, some (.ldc_w 318, 3), none, none, some (.iload 4, 2), none, some (.imul, 1), some (.sipush 12345, 3), none, none, some (.iadd, 1), some (.istore 4, 2), none, some (.aload_n 0, 1), some (.getfield 58, 3), none, none, some (.iload 5, 2), none, some (.iload 4, 2), none, some (.bipush 16, 2), none, some (.iushr, 1), some (.bipush 24, 2), none, some (.irem, 1), some (.iastore, 1), some (.ldc_w 318, 3), none, none, some (.iload 4, 2), none, some (.imul, 1), some (.sipush 12345, 3), none, none, some (.iadd, 1), some (.istore 4, 2), none, some (.aload_n 0, 1), some (.getfield 61, 3), none, none, some (.iload 5, 2), none, some (.iload 4, 2), none, some (.bipush 16, 2), none, some (.iushr, 1), some (.aload_n 0, 1), some (.getfield 131, 3), none, none, some (.irem, 1), some (.iastore, 1), some (.iinc 5 1, 3), none, none, some (.goto (-68), 3), none, none, some (.aload_n 0, 1), some (.invokevirtual 228, 3), none, none, some (.iconst 0, 1), some (.istore 5, 2), none, some (.iconst 0, 1), some (.istore 6, 2), none, some (.iload 6, 2), none, some (.aload_n 0, 1), some (.getfield 131, 3), none, none, some (.if_icmp .ge 30, 3), none, none, some (.iload 5, 2), none, some (.aload_n 0, 1), some (.getfield 70, 3), none, none, some (.iload 6, 2), none, some (.iaload, 1), some (.iconst 3, 1), some (.if_icmp .ne 7, 3), none, none, some (.iconst 1, 1), some (.goto 4, 3), none, none, some (.iconst 0, 1), some (.iadd, 1), some (.istore 5, 2), none, some (.iinc 6 1, 3), none, none, some (.goto (-33), 3), none, none, some (.iload_n 3, 1), some (.ifCond .ne 8, 3), none, none, some (.iload 5, 2), none, some (.goto 9, 3), none, none, some (.aload_n 0, 1), some (.bipush 23, 2), none, some (.invokevirtual 263, 3), none, none, some (.ireturn, 1)]
def tX7_year : List (Option (Instr × Nat)) := [some (.iload_n 2, 1), some (.iconst 0, 1), some (.bipush 8, 2), none, some (.invokestatic 115, 3), none, none, some (.ifCond .eq 22, 3), none, none, some (.iload_n 3, 1), some (.iconst 0, 1), some (.iconst 1, 1), some (.invokestatic 115, 3), none, none, some (.ifCond .eq 13, 3), none, none, some (.aload_n 0, 1), some (.iload_n 1, 1), some (.iload_n 2, 1), some (.iload_n 3, 1), some (.invokevirtual 319, 3), none, none, some (.goto 5, 3), none, none, some (.bipush (-2), 2), none, some (.ireturn, 1)]
def tX7_meets : List (Option (Instr × Nat)) := [some (.aload_n 0, 1), some (.iload_n 1, 1), some (.putfield 322, 3), none, none, some (.bipush (-10), 2), none, some (.iload_n 1, 1), some (.isub, 1), some (.ireturn, 1)]
def tX7_isSheet : List (Option (Instr × Nat)) := [some (.iload_n 0, 1), some (.iconst 0, 1), some (.iconst 3, 1), some (.invokestatic 115, 3), none, none, some (.ireturn, 1)]
def tX7_sheet : List (Option (Instr × Nat)) := [some (.iload_n 1, 1), some (.invokestatic 177, 3), none, none, some (.ifCond .eq 18, 3), none, none, some (.iload_n 2, 1), some (.iconst 0, 1), some (.iconst 2, 1), some (.invokestatic 115, 3), none, none, some (.ifCond .eq 9, 3), none, none, some (.iload_n 3, 1), some (.bipush 60, 2), none, some (.if_icmp .le 6, 3), none, none, some (.bipush (-2), 2), none, some (.ireturn, 1), some (.iload_n 3, 1), some (.ifCond .ge 9, 3), none, none, some (.aload_n 0, 1), some (.iconst 5, 1), some (.invokevirtual 180, 3), none, none, some (.ireturn, 1), some (.aload_n 0, 1), some (.getfield 97, 3), none, none, some (.iload_n 1, 1), some (.iconst 1, 1), some (.bastore, 1), some (.aload_n 0, 1), some (.getfield 101, 3), none, none, some (.iload_n 1, 1), some (.iload_n 2, 1), some (.iastore, 1), some (.aload_n 0, 1), some (.getfield 104, 3), none, none, some (.iload_n 1, 1), some (.iload_n 3, 1), some (.iastore, 1), some (.iconst 0, 1), some (.istore 4, 2), none, some (.iload 4, 2), none, some (.bipush 60, 2), none, some (.if_icmp .ge 22, 3), none, none, some (.aload_n 0, 1), some (.getfield 107, 3), none, none, some (.bipush 60, 2), none, some (.iload_n 1, 1), some (.imul, 1), some (.iload 4, 2), none, some (.iadd, 1), some (.iconst 0, 1), some (.iastore, 1), some (.iinc 4 1, 3), none, none, some (.goto (-23), 3), none, none, some (.iload_n 3, 1), some (.ireturn, 1)]
def tX7_lose : List (Option (Instr × Nat)) := [some (.iload_n 1, 1), some (.invokestatic 177, 3), none, none, some (.ifCond .ne 6, 3), none, none, some (.bipush (-2), 2), none, some (.ireturn, 1), some (.aload_n 0, 1), some (.getfield 97, 3), none, none, some (.iload_n 1, 1), some (.baload, 1), some (.ifCond .ne 9, 3), none, none, some (.aload_n 0, 1), some (.iconst 1, 1), some (.invokevirtual 180, 3), none, none, some (.ireturn, 1), some (.aload_n 0, 1), some (.getfield 97, 3), none, none, some (.iload_n 1, 1), some (.iconst 0, 1), some (.bastore, 1), some (.aload_n 0, 1), some (.getfield 104, 3), none, none, some (.iload_n 1, 1), some (.iaload, 1), some (.ireturn, 1)]
def tX7_lacks : List (Option (Instr × Nat)) := [some (.aload_n 0, 1), some (.getfield 97, 3), none, none, some (.iload_n 1, 1), some (.baload, 1), some (.ifCond .ne 7, 3), none, none, some (.iconst 1, 1), some (.goto 38, 3), none, none, some (.aload_n 0, 1), some (.getfield 101, 3), none, none, some (.iload_n 1, 1), some (.iaload, 1), some (.iload_n 2, 1), some (.if_icmp .eq 7, 3), none, none, some (.iconst 3, 1), some (.goto 24, 3), none, none, some (.iload_n 3, 1), some (.iconst 0, 1), some (.aload_n 0, 1), some (.getfield 104, 3), none, none, some (.iload_n 1, 1), some (.iaload, 1), some (.iconst 1, 1), some (.isub, 1), some (.invokestatic 115, 3), none, none, some (.ifCond .eq 7, 3), none, none, some (.iconst 0, 1), some (.goto 4, 3), none, none, some (.iconst 2, 1), some (.ireturn, 1)]
def tX7_lays : List (Option (Instr × Nat)) := [some (.aload_n 0, 1), some (.getfield 107, 3), none, none, some (.bipush 60, 2), none, some (.iload_n 1, 1), some (.imul, 1), some (.iload_n 2, 1), some (.iadd, 1), some (.aload_n 0, 1), some (.getfield 101, 3), none, none, some (.iload_n 1, 1), some (.iaload, 1), some (.ifCond .ne 8, 3), none, none, some (.iload_n 3, 1), some (.i2b, 1), some (.goto 19, 3), none, none, some (.aload_n 0, 1), some (.getfield 101, 3), none, none, some (.iload_n 1, 1), some (.iaload, 1), some (.iconst 1, 1), some (.if_icmp .ne 8, 3), none, none, some (.iload_n 3, 1), some (.i2s, 1), some (.goto 4, 3), none, none, some (.iload_n 3, 1), some (.iastore, 1), some (.return_, 1)]
def tX7_put : List (Option (Instr × Nat)) := [some (.iload_n 1, 1), some (.invokestatic 177, 3), none, none, some (.ifCond .eq 12, 3), none, none, some (.iload_n 2, 1), some (.iconst 0, 1), some (.iconst 2, 1), some (.invokestatic 115, 3), none, none, some (.ifCond .ne 6, 3), none, none, some (.bipush (-2), 2), none, some (.ireturn, 1), some (.aload_n 0, 1), some (.iload_n 1, 1), some (.iload_n 2, 1), some (.iload_n 3, 1), some (.invokevirtual 325, 3), none, none, some (.istore 5, 2), none, some (.iload 5, 2), none, some (.ifCond .le 10, 3), none, none, some (.aload_n 0, 1), some (.iload 5, 2), none, some (.invokevirtual 180, 3), none, none, some (.ireturn, 1), some (.aload_n 0, 1), some (.iload_n 1, 1), some (.iload_n 3, 1), some (.iload 4, 2), none, some (.invokevirtual 328, 3), none, none, some (.iconst 1, 1), some (.ireturn, 1)]
def tX7_get : List (Option (Instr × Nat)) := [some (.iload_n 1, 1), some (.invokestatic 177, 3), none, none, some (.ifCond .eq 12, 3), none, none, some (.iload_n 2, 1), some (.iconst 0, 1), some (.iconst 2, 1), some (.invokestatic 115, 3), none, none, some (.ifCond .ne 7, 3), none, none, some (.ldc_w 332, 3), none, none, some (.ireturn, 1), some (.aload_n 0, 1), some (.iload_n 1, 1), some (.iload_n 2, 1), some (.iload_n 3, 1), some (.invokevirtual 325, 3), none, none, some (.istore 4, 2), none, some (.iload 4, 2), none, some (.ifCond .le 13, 3), none, none, some (.aload_n 0, 1), some (.iload 4, 2), none, some (.putfield 322, 3), none, none, some (.ldc_w 332, 3), none, none, some (.ireturn, 1), some (.aload_n 0, 1), some (.getfield 107, 3), none, none, some (.bipush 60, 2), none, some (.iload_n 1, 1), some (.imul, 1), some (.iload_n 3, 1), some (.iadd, 1), some (.iaload, 1), some (.ireturn, 1)]
def tX7_copy : List (Option (Instr × Nat)) := [some (.iload_n 1, 1), some (.invokestatic 177, 3), none, none, some (.ifCond .eq 10, 3), none, none, some (.iload_n 3, 1), some (.invokestatic 177, 3), none, none, some (.ifCond .ne 6, 3), none, none, some (.bipush (-2), 2), none, some (.ireturn, 1), some (.aload_n 0, 1), some (.getfield 97, 3), none, none, some (.iload_n 1, 1), some (.baload, 1), some (.ifCond .eq 12, 3), none, none, some (.aload_n 0, 1), some (.getfield 97, 3), none, none, some (.iload_n 3, 1), some (.baload, 1), some (.ifCond .ne 9, 3), none, none, some (.aload_n 0, 1), some (.iconst 1, 1), some (.invokevirtual 180, 3), none, none, some (.ireturn, 1), some (.aload_n 0, 1), some (.getfield 101, 3), none, none, some (.iload_n 1, 1), some (.iaload, 1), some (.aload_n 0, 1), some (.getfield 101, 3), none, none, some (.iload_n 3, 1), some (.iaload, 1), some (.if_icmp .eq 9, 3), none, none, some (.aload_n 0, 1), some (.iconst 4, 1), some (.invokevirtual 180, 3), none, none, some (.ireturn, 1), some (.iload_n 2, 1), some (.ifCond .lt 48, 3), none, none, some (.iload 4, 2), none, some (.ifCond .lt 43, 3), none, none, some (.iload 5, 2), none, some (.ifCond .lt 38, 3), none, none, some (.iload_n 2, 1), some (.i2l, 1), some (.iload 5, 2), none, some (.i2l, 1), some (.ladd, 1), some (.aload_n 0, 1), some (.getfield 104, 3), none, none, some (.iload_n 1, 1), some (.iaload, 1), some (.i2l, 1), some (.lcmp, 1), some (.ifCond .gt 21, 3), none, none, some (.iload 4, 2), none, some (.i2l, 1), some (.iload 5, 2), none, some (.i2l, 1), some (.ladd, 1), some (.aload_n 0, 1), some (.getfield 104, 3), none, none, some (.iload_n 3, 1), some (.iaload, 1), some (.i2l, 1), some (.lcmp, 1), some (.ifCond .le 9, 3), none, none, some (.aload_n 0, 1), some (.iconst 2, 1), some (.invokevirtual 180, 3), none, none, some (.ireturn, 1), some (.iconst 0, 1), some (.istore 6, 2), none, some (.iload 6, 2), none, some (.iload 5, 2), none, some (.if_icmp .ge 30, 3), none, none, some (.aload_n 0, 1), some (.getfield 110, 3), none, none, some (.iload 6, 2), none, some (.aload_n 0, 1), some (.getfield 107, 3), none, none, some (.bipush 60, 2), none, some (.iload_n 1, 1), some (.imul, 1), some (.iload_n 2, 1), some (.iadd, 1), some (.iload 6, 2), none, some (.iadd, 1), some (.iaload, 1), some (.iastore, 1), some (.iinc 6 1, 3), none, none, some (.goto (-31), 3), none, none, some (.iconst 0, 1), some (.istore 6, 2), none, some (.iload 6, 2), none, some (.iload 5, 2), none, some (.if_icmp .ge 31, 3), none, none, some (.aload_n 0, 1), some (.getfield 107, 3), none, none, some (.bipush 60, 2), none, some (.iload_n 3, 1), some (.imul, 1), some (.iload 4, 2), none, some (.iadd, 1), some (.iload 6, 2), none, some (.iadd, 1), some (.aload_n 0, 1), some (.getfield 110, 3), none, none, some (.iload 6, 2), none, some (.iaload, 1), some (.iastore, 1), some (.iinc 6 1, 3), none, none, some (.goto (-32), 3), none, none, some (.iconst 1, 1), some (.ireturn, 1)]
def tX7_write : List (Option (Instr × Nat)) := [some (.aload_n 0, 1), some (.iload_n 1, 1), some (.invokevirtual 150, 3), none, none, some (.ifCond .eq 10, 3), none, none, some (.iload_n 2, 1), some (.invokestatic 177, 3), none, none, some (.ifCond .ne 6, 3), none, none, some (.bipush (-2), 2), none, some (.ireturn, 1), some (.aload_n 0, 1), some (.getfield 97, 3), none, none, some (.iload_n 2, 1), some (.baload, 1), some (.ifCond .ne 9, 3), none, none, some (.aload_n 0, 1), some (.iconst 1, 1), some (.invokevirtual 180, 3), none, none, some (.ireturn, 1), some (.aload_n 0, 1), some (.invokevirtual 234, 3), none, none, some (.iconst 0, 1), some (.istore_n 3, 1), some (.iload_n 3, 1), some (.aload_n 0, 1), some (.getfield 104, 3), none, none, some (.iload_n 2, 1), some (.iaload, 1), some (.if_icmp .ge 32, 3), none, none, some (.iload_n 3, 1), some (.bipush 24, 2), none, some (.if_icmp .ge 26, 3), none, none, some (.aload_n 0, 1), some (.iload_n 2, 1), some (.iload_n 3, 1), some (.aload_n 0, 1), some (.getfield 73, 3), none, none, some (.bipush 8, 2), none, some (.iload_n 3, 1), some (.imul, 1), some (.iload_n 1, 1), some (.iadd, 1), some (.iaload, 1), some (.invokevirtual 328, 3), none, none, some (.iinc 3 1, 3), none, none, some (.goto (-36), 3), none, none, some (.iload_n 3, 1), some (.ireturn, 1)]
def tX7_sumOf : List (Option (Instr × Nat)) := [some (.aload_n 0, 1), some (.invokevirtual 147, 3), none, none, some (.iload_n 1, 1), some (.ifCond .ne 10, 3), none, none, some (.aload_n 0, 1), some (.getfield 127, 3), none, none, some (.goto 7, 3), none, none, some (.aload_n 0, 1), some (.getfield 131, 3), none, none, some (.ireturn, 1)]
def tX7_count : List (Option (Instr × Nat)) := [some (.iload_n 1, 1), some (.tableswitch 91 0 8 #[51, 51, 57, 57, 66, 71, 76, 81, 86], 51), none, none, none, none, none, none, none, none, none, none, none, none, none, none, none, none, none, none, none, none, none, none, none, none, none, none, none, none, none, none, none, none, none, none, none, none, none, none, none, none, none, none, none, none, none, none, none, none, none, none, some (.aload_n 0, 1), some (.iload_n 1, 1), some (.invokevirtual 333, 3), none, none, some (.ireturn, 1), some (.aload_n 0, 1), some (.getfield 7, 3), none, none, some (.iload_n 1, 1), some (.iconst 2, 1), some (.isub, 1), some (.iaload, 1), some (.ireturn, 1), some (.aload_n 0, 1), some (.getfield 165, 3), none, none, some (.ireturn, 1), some (.aload_n 0, 1), some (.getfield 171, 3), none, none, some (.ireturn, 1), some (.aload_n 0, 1), some (.getfield 174, 3), none, none, some (.ireturn, 1), some (.aload_n 0, 1), some (.getfield 287, 3), none, none, some (.ireturn, 1), some (.aload_n 0, 1), some (.getfield 322, 3), none, none, some (.ireturn, 1), some (.bipush (-2), 2), none, some (.ireturn, 1)]
def tX7_promiseDigest : List (Option (Instr × Nat)) := [some (.lload_n 1, 1), some (.lstore 4, 2), none, some (.iconst 0, 1), some (.istore 6, 2), none, some (.iload 6, 2), none, some (.iconst 4, 1), some (.if_icmp .ge 26, 3), none, none, some (.ldc2_w 336, 3), none, none, some (.lload 4, 2), none, some (.lmul, 1), some (.aload_n 0, 1), some (.iload_n 3, 1), some (.iload 6, 2), none, some (.invokevirtual 159, 3), none, none, some (.i2l, 1), some (.ladd, 1), some (.lstore 4, 2), none, some (.iinc 6 1, 3), none, none, some (.goto (-26), 3), none, none, some (.ldc2_w 336, 3), none, none, some (.lload 4, 2), none, some (.lmul, 1), some (.aload_n 0, 1), some (.bipush 8, 2), none, some (.iload_n 3, 1), some (.invokevirtual 241, 3), none, none, some (.i2l, 1), some (.ladd, 1), some (.lstore 4, 2), none, some (.ldc2_w 336, 3), none, none, some (.lload 4, 2), none, some (.lmul, 1), some (.aload_n 0, 1), some (.bipush 23, 2), none, some (.iload_n 3, 1), some (.invokevirtual 241, 3), none, none, some (.i2l, 1), some (.ladd, 1), some (.lstore 4, 2), none, some (.ldc2_w 336, 3), none, none, some (.lload 4, 2), none, some (.lmul, 1), some (.aload_n 0, 1), some (.iload_n 3, 1), some (.iconst 0, 1), some (.invokevirtual 275, 3), none, none, some (.i2l, 1), some (.ladd, 1), some (.lstore 4, 2), none, some (.ldc2_w 336, 3), none, none, some (.lload 4, 2), none, some (.lmul, 1), some (.aload_n 0, 1), some (.iload_n 3, 1), some (.iconst 1, 1), some (.invokevirtual 275, 3), none, none, some (.i2l, 1), some (.ladd, 1), some (.lreturn, 1)]
def tX7_coatDigest : List (Option (Instr × Nat)) := [some (.lload_n 1, 1), some (.lstore 5, 2), none, some (.iconst 0, 1), some (.istore 7, 2), none, some (.iload 7, 2), none, some (.iconst 3, 1), some (.if_icmp .ge 28, 3), none, none, some (.ldc2_w 336, 3), none, none, some (.lload 5, 2), none, some (.lmul, 1), some (.aload_n 0, 1), some (.iload_n 3, 1), some (.iload 4, 2), none, some (.iload 7, 2), none, some (.invokevirtual 237, 3), none, none, some (.i2l, 1), some (.ladd, 1), some (.lstore 5, 2), none, some (.iinc 7 1, 3), none, none, some (.goto (-28), 3), none, none, some (.lload 5, 2), none, some (.lreturn, 1)]
def tX7_personDigest : List (Option (Instr × Nat)) := [some (.ldc2_w 336, 3), none, none, some (.lload_n 1, 1), some (.lmul, 1), some (.aload_n 0, 1), some (.iload_n 3, 1), some (.iconst 0, 1), some (.invokevirtual 153, 3), none, none, some (.i2l, 1), some (.ladd, 1), some (.lstore 4, 2), none, some (.ldc2_w 336, 3), none, none, some (.lload 4, 2), none, some (.lmul, 1), some (.aload_n 0, 1), some (.iload_n 3, 1), some (.iconst 1, 1), some (.invokevirtual 153, 3), none, none, some (.i2l, 1), some (.ladd, 1), some (.lstore 4, 2), none, some (.aload_n 0, 1), some (.lload 4, 2), none, some (.iconst 0, 1), some (.iload_n 3, 1), some (.invokevirtual 338, 3), none, none, some (.lstore 4, 2), none, some (.aload_n 0, 1), some (.lload 4, 2), none, some (.bipush 6, 2), none, some (.iload_n 3, 1), some (.invokevirtual 338, 3), none, none, some (.lstore 4, 2), none, some (.aload_n 0, 1), some (.lload 4, 2), none, some (.bipush 14, 2), none, some (.iload_n 3, 1), some (.invokevirtual 338, 3), none, none, some (.lstore 4, 2), none, some (.aload_n 0, 1), some (.lload 4, 2), none, some (.bipush 23, 2), none, some (.iload_n 3, 1), some (.invokevirtual 338, 3), none, none, some (.lstore 4, 2), none, some (.ldc2_w 336, 3), none, none, some (.lload 4, 2), none, some (.lmul, 1), some (.aload_n 0, 1), some (.iload_n 3, 1), some (.bipush 14, 2), none, some (.invokevirtual 269, 3), none, none, some (.i2l, 1), some (.ladd, 1), some (.lstore 4, 2), none, some (.ldc2_w 336, 3), none, none, some (.lload 4, 2), none, some (.lmul, 1), some (.aload_n 0, 1), some (.iload_n 3, 1), some (.invokevirtual 297, 3), none, none, some (.i2l, 1), some (.ladd, 1), some (.lstore 4, 2), none, some (.ldc2_w 336, 3), none, none, some (.lload 4, 2), none, some (.lmul, 1), some (.aload_n 0, 1), some (.iload_n 3, 1), some (.invokevirtual 300, 3), none, none, some (.i2l, 1), some (.ladd, 1), some (.lstore 4, 2), none, some (.ldc2_w 336, 3), none, none, some (.lload 4, 2), none, some (.lmul, 1), some (.aload_n 0, 1), some (.iload_n 3, 1), some (.invokevirtual 303, 3), none, none, some (.i2l, 1), some (.ladd, 1), some (.lstore 4, 2), none, some (.ldc2_w 336, 3), none, none, some (.lload 4, 2), none, some (.lmul, 1), some (.aload_n 0, 1), some (.iconst 5, 1), some (.iload_n 3, 1), some (.bipush 14, 2), none, some (.iconst 0, 1), some (.invokevirtual 310, 3), none, none, some (.ladd, 1), some (.lstore 4, 2), none, some (.ldc2_w 336, 3), none, none, some (.lload 4, 2), none, some (.lmul, 1), some (.aload_n 0, 1), some (.iconst 5, 1), some (.iload_n 3, 1), some (.bipush 14, 2), none, some (.iconst 1, 1), some (.invokevirtual 310, 3), none, none, some (.ladd, 1), some (.lreturn, 1)]
def tX7_digest : List (Option (Instr × Nat)) := [some (.ldc2_w 342, 3), none, none, some (.lstore_n 1, 1), some (.iconst 0, 1), some (.istore_n 3, 1), some (.iload_n 3, 1), some (.bipush 8, 2), none, some (.if_icmp .ge 22, 3), none, none, some (.ldc2_w 336, 3), none, none, some (.lload_n 1, 1), some (.lmul, 1), some (.aload_n 0, 1), some (.iload_n 3, 1), some (.invokevirtual 344, 3), none, none, some (.i2l, 1), some (.ladd, 1), some (.lstore_n 1, 1), some (.iinc 3 1, 3), none, none, some (.goto (-22), 3), none, none, some (.ldc2_w 336, 3), none, none, some (.lload_n 1, 1), some (.lmul, 1), some (.aload_n 0, 1), some (.iconst 0, 1), some (.invokevirtual 144, 3), none, none, some (.i2l, 1), some (.ladd, 1), some (.lstore_n 1, 1), some (.ldc2_w 336, 3), none, none, some (.lload_n 1, 1), some (.lmul, 1), some (.aload_n 0, 1), some (.iconst 1, 1), some (.invokevirtual 144, 3), none, none, some (.i2l, 1), some (.ladd, 1), some (.lstore_n 1, 1), some (.iconst 0, 1), some (.istore_n 3, 1), some (.iload_n 3, 1), some (.aload_n 0, 1), some (.getfield 131, 3), none, none, some (.if_icmp .ge 16, 3), none, none, some (.aload_n 0, 1), some (.lload_n 1, 1), some (.iload_n 3, 1), some (.invokevirtual 347, 3), none, none, some (.lstore_n 1, 1), some (.iinc 3 1, 3), none, none, some (.goto (-18), 3), none, none, some (.iconst 0, 1), some (.istore_n 3, 1), some (.iload_n 3, 1), some (.aload_n 0, 1), some (.getfield 127, 3), none, none, some (.if_icmp .ge 16, 3), none, none, some (.aload_n 0, 1), some (.lload_n 1, 1), some (.iload_n 3, 1), some (.invokevirtual 351, 3), none, none, some (.lstore_n 1, 1), some (.iinc 3 1, 3), none, none, some (.goto (-18), 3), none, none, some (.iconst 0, 1), some (.istore_n 3, 1), some (.iload_n 3, 1), some (.bipush 24, 2), none, some (.if_icmp .ge 48, 3), none, none, some (.ldc2_w 336, 3), none, none, some (.lload_n 1, 1), some (.lmul, 1), some (.aload_n 0, 1), some (.iload_n 3, 1), some (.invokevirtual 244, 3), none, none, some (.i2l, 1), some (.ladd, 1), some (.lstore_n 1, 1), some (.ldc2_w 336, 3), none, none, some (.lload_n 1, 1), some (.lmul, 1), some (.aload_n 0, 1), some (.iload_n 3, 1), some (.invokevirtual 250, 3), none, none, some (.i2l, 1), some (.ladd, 1), some (.lstore_n 1, 1), some (.ldc2_w 336, 3), none, none, some (.lload_n 1, 1), some (.lmul, 1), some (.aload_n 0, 1), some (.iload_n 3, 1), some (.invokevirtual 253, 3), none, none, some (.i2l, 1), some (.ladd, 1), some (.lstore_n 1, 1), some (.iinc 3 1, 3), none, none, some (.goto (-48), 3), none, none, some (.ldc2_w 336, 3), none, none, some (.lload_n 1, 1), some (.lmul, 1), some (.aload_n 0, 1), some (.invokevirtual 260, 3), none, none, some (.i2l, 1), some (.ladd, 1), some (.lstore_n 1, 1), some (.ldc2_w 336, 3), none, none, some (.lload_n 1, 1), some (.lmul, 1), some (.aload_n 0, 1), some (.invokevirtual 266, 3), none, none, some (.i2l, 1), some (.ladd, 1), some (.lstore_n 1, 1), some (.ldc2_w 336, 3), none, none, some (.lload_n 1, 1), some (.lmul, 1), some (.aload_n 0, 1), some (.bipush 8, 2), none, some (.iconst 0, 1), some (.invokevirtual 272, 3), none, none, some (.i2l, 1), some (.ladd, 1), some (.lstore_n 1, 1), some (.ldc2_w 336, 3), none, none, some (.lload_n 1, 1), some (.lmul, 1), some (.aload_n 0, 1), some (.bipush 8, 2), none, some (.iconst 1, 1), some (.invokevirtual 272, 3), none, none, some (.i2l, 1), some (.ladd, 1), some (.lstore_n 1, 1), some (.aload_n 0, 1), some (.invokevirtual 281, 3), none, none, some (.istore_n 3, 1), some (.ldc2_w 336, 3), none, none, some (.lload_n 1, 1), some (.lmul, 1), some (.iload_n 3, 1), some (.i2l, 1), some (.ladd, 1), some (.lstore_n 1, 1), some (.ldc2_w 336, 3), none, none, some (.lload_n 1, 1), some (.lmul, 1), some (.aload_n 0, 1), some (.iload_n 3, 1), some (.iconst 0, 1), some (.invokevirtual 284, 3), none, none, some (.i2l, 1), some (.ladd, 1), some (.lstore_n 1, 1), some (.ldc2_w 336, 3), none, none, some (.lload_n 1, 1), some (.lmul, 1), some (.aload_n 0, 1), some (.invokevirtual 294, 3), none, none, some (.i2l, 1), some (.ladd, 1), some (.lstore_n 1, 1), some (.ldc2_w 336, 3), none, none, some (.lload_n 1, 1), some (.lmul, 1), some (.aload_n 0, 1), some (.bipush 7, 2), none, some (.bipush 6, 2), none, some (.iconst 0, 1), some (.invokevirtual 319, 3), none, none, some (.i2l, 1), some (.ladd, 1), some (.lstore_n 1, 1), some (.ldc2_w 336, 3), none, none, some (.lload_n 1, 1), some (.lmul, 1), some (.aload_n 0, 1), some (.bipush 7, 2), none, some (.bipush 6, 2), none, some (.iconst 1, 1), some (.invokevirtual 319, 3), none, none, some (.i2l, 1), some (.ladd, 1), some (.lreturn, 1)]
def tJ6_numberOfTrailingZeros_0f7a4 : List (Option (Instr × Nat)) := [some (.iload_n 0, 1), some (.iconst (-1), 1), some (.ixor, 1), some (.iload_n 0, 1), some (.iconst 1, 1), some (.isub, 1), some (.iand, 1), some (.istore_n 0, 1), some (.iload_n 0, 1), some (.ifCond .gt 8, 3), none, none, some (.iload_n 0, 1), some (.bipush 32, 2), none, some (.iand, 1), some (.ireturn, 1), some (.iconst 1, 1), some (.istore_n 1, 1), some (.iload_n 0, 1), some (.ldc_w 264, 3), none, none, some (.if_icmp .le 11, 3), none, none, some (.iinc 1 16, 3), none, none, some (.iload_n 0, 1), some (.bipush 16, 2), none, some (.iushr, 1), some (.istore_n 0, 1), some (.iload_n 0, 1), some (.sipush 256, 3), none, none, some (.if_icmp .le 11, 3), none, none, some (.iinc 1 8, 3), none, none, some (.iload_n 0, 1), some (.bipush 8, 2), none, some (.iushr, 1), some (.istore_n 0, 1), some (.iload_n 0, 1), some (.bipush 16, 2), none, some (.if_icmp .le 10, 3), none, none, some (.iinc 1 4, 3), none, none, some (.iload_n 0, 1), some (.iconst 4, 1), some (.iushr, 1), some (.istore_n 0, 1), some (.iload_n 0, 1), some (.iconst 4, 1), some (.if_icmp .le 10, 3), none, none, some (.iinc 1 2, 3), none, none, some (.iload_n 0, 1), some (.iconst 2, 1), some (.iushr, 1), some (.istore_n 0, 1), some (.iload_n 1, 1), some (.iload_n 0, 1), some (.iconst 1, 1), some (.iushr, 1), some (.iadd, 1), some (.ireturn, 1)]
def tJ6_bitCount_0f7a4 : List (Option (Instr × Nat)) := [some (.iload_n 0, 1), some (.iload_n 0, 1), some (.iconst 1, 1), some (.iushr, 1), some (.ldc_w 265, 3), none, none, some (.iand, 1), some (.isub, 1), some (.istore_n 0, 1), some (.iload_n 0, 1), some (.ldc_w 266, 3), none, none, some (.iand, 1), some (.iload_n 0, 1), some (.iconst 2, 1), some (.iushr, 1), some (.ldc_w 266, 3), none, none, some (.iand, 1), some (.iadd, 1), some (.istore_n 0, 1), some (.iload_n 0, 1), some (.iload_n 0, 1), some (.iconst 4, 1), some (.iushr, 1), some (.iadd, 1), some (.ldc_w 267, 3), none, none, some (.iand, 1), some (.istore_n 0, 1), some (.iload_n 0, 1), some (.iload_n 0, 1), some (.bipush 8, 2), none, some (.iushr, 1), some (.iadd, 1), some (.istore_n 0, 1), some (.iload_n 0, 1), some (.iload_n 0, 1), some (.bipush 16, 2), none, some (.iushr, 1), some (.iadd, 1), some (.istore_n 0, 1), some (.iload_n 0, 1), some (.bipush 63, 2), none, some (.iand, 1), some (.ireturn, 1)]
def tJ7_fill_53178 : List (Option (Instr × Nat)) := [some (.iconst 0, 1), some (.istore_n 2, 1), some (.aload_n 0, 1), some (.arraylength, 1), some (.istore_n 3, 1), some (.iload_n 2, 1), some (.iload_n 3, 1), some (.if_icmp .ge 13, 3), none, none, some (.aload_n 0, 1), some (.iload_n 2, 1), some (.iload_n 1, 1), some (.iastore, 1), some (.iinc 2 1, 3), none, none, some (.goto (-12), 3), none, none, some (.return_, 1)]
def cdL : List (List (Option (Instr × Nat))) := [tX0_init, tX0_arrange, tX0_enterAll, tX0_enter, tX0_begin, tX0_advance, tX0_gain, tX0_fulfil, tX0_fail, tX0_lengthen, tX0_shorten, tX0_fits, tX0_fittingBits, tX0_nakedBits, tX0_allRips, tX0_showsAll, tX0_showsBehind, tX1_init, tX1_has, tX1_take, tX2_init, tX2_isSheet, tX2_isForm, tX2_isLost, tX2_lay, tX2_findingAt, tX2_hasItems, tX2_store, tX3_init, tX3_append, tX3_firstFault, tX3_goesOnInPeople, tX3_goesOnInPromises, tX4_init, tX4_isFull, tX4_add, tX4_dropLast, tX5_init, tX5_has, tX5_take, tX5_add, tX5_dropLast, tX6_init, tX6_type, tX6_wipe, tX6_undo, tX6_fault, tX6_person, tX6_promise, tX6_keeping, tX6_lie, tX6_letting, tX6_back, tX6_read, tX6_coat, tX6_stands, tX6_neat, tX6_naked, tX6_longest, tX6_splits, tX6_best, tX6_swear, tX6_keep, tX6_due, tX6_hush, tX6_seen, tX6_forget, tX6_never, tX6_was, tX6_ask, tX6_word, tX6_year, tX6_sheet, tX6_lose, tX6_put, tX6_get, tX6_copy, tX6_write, tX6_count, tX6_digest, tX6_isUpTo, tX6_isText, tX6_isDay, tX6_isGreat, tX6_mayBePerson, tX6_mayBeKeeping, tX6_textOf, tX6_takeTexts, tX6_found, tX6_liveUntil, tX6_liesToHush, tX6_leavesNobodyNaked, tX6_fittingValues, tX6_noteCoatsBySize, tX6_mostAlike, tX6_keepingsOf, tX6_weight, tX6_drawKeepings, tX6_nextSeed, tX6_mixed, tX6_withPromise, tX6_withPerson, tX6_withCoat, tX7_init, tX7_in, tX7_isIn, tX7_no, tX7_lowest, tX7_isText, tX7_isDay, tX7_isEight, tX7_type, tX7_wipe, tX7_undo, tX7_byteAt, tX7_readsPerson, tX7_readsPromise, tX7_readsParts, tX7_faultOf, tX7_reads, tX7_fault, tX7_isPerson, tX7_isPromise, tX7_personOf, tX7_person, tX7_promiseOf, tX7_promise, tX7_keeping, tX7_lie, tX7_letting, tX7_back, tX7_read, tX7_asTold, tX7_changes, tX7_lengthOf, tX7_makes, tX7_isKept, tX7_keepsOn, tX7_breaks, tX7_goesBy, tX7_runs, tX7_runsTold, tX7_fitsOn, tX7_fitMany, tX7_coatOf, tX7_coat, tX7_standsOf, tX7_stands, tX7_neatOf, tX7_neat, tX7_nakedNow, tX7_nakedOf, tX7_naked, tX7_longestOf, tX7_longest, tX7_tearsAll, tX7_splitsOf, tX7_splits, tX7_bestNow, tX7_best, tX7_swearOf, tX7_swear, tX7_keepBest, tX7_keep, tX7_dueOf, tX7_due, tX7_isHushed, tX7_hushBy, tX7_ofRow, tX7_hush, tX7_seen, tX7_forget, tX7_isSeen, tX7_neverNow, tX7_never, tX7_sizesBy, tX7_sortsBy, tX7_was, tX7_askOf, tX7_ask, tX7_wordOf, tX7_word, tX7_yearOf, tX7_year, tX7_meets, tX7_isSheet, tX7_sheet, tX7_lose, tX7_lacks, tX7_lays, tX7_put, tX7_get, tX7_copy, tX7_write, tX7_sumOf, tX7_count, tX7_promiseDigest, tX7_coatDigest, tX7_personDigest, tX7_digest, tJ6_numberOfTrailingZeros_0f7a4, tJ6_bitCount_0f7a4, tJ7_fill_53178]
def mwL : List (Nat × Nat) := [(126, 77), (476, 77), (486, 77), (481, 77), (490, 77), (498, 77), (502, 77), (510, 77), (518, 77), (506, 77), (522, 77), (526, 77), (538, 77), (547, 77), (559, 77), (618, 77), (624, 77), (132, 78), (400, 78), (358, 78), (272, 81), (455, 81), (676, 81), (460, 81), (680, 81), (692, 81), (697, 81), (701, 81), (98, 75), (350, 75), (362, 75), (368, 75), (365, 75), (186, 80), (422, 80), (426, 80), (448, 80), (154, 79), (408, 79), (373, 79), (379, 79), (578, 79), (90, 74), (336, 74), (383, 74), (387, 74), (391, 74), (396, 74), (404, 74), (412, 74), (430, 74), (440, 74), (444, 74), (452, 74), (468, 74), (530, 74), (534, 74), (543, 74), (551, 74), (555, 74), (563, 74), (573, 74), (582, 74), (586, 74), (590, 74), (606, 74), (610, 74), (614, 74), (628, 74), (636, 74), (649, 74), (661, 74), (673, 74), (684, 74), (688, 74), (705, 74), (710, 74), (716, 74), (721, 74), (725, 74), (342, 74), (339, 74), (418, 74), (436, 74), (433, 74), (415, 74), (346, 74), (354, 74), (464, 74), (472, 74), (594, 74), (598, 74), (632, 74), (640, 74), (644, 74), (654, 74), (657, 74), (665, 74), (668, 74), (730, 74), (736, 74), (743, 74), (748, 74), (767, 83), (915, 83), (1052, 83), (1218, 83), (1215, 83), (912, 83), (982, 83), (989, 83), (909, 83), (919, 83), (923, 83), (943, 83), (939, 83), (947, 83), (935, 83), (931, 83), (959, 83), (927, 83), (955, 83), (971, 83), (963, 83), (951, 83), (975, 83), (967, 83), (979, 83), (986, 83), (993, 83), (997, 83), (1001, 83), (1025, 83), (1045, 83), (1041, 83), (1037, 83), (1056, 83), (1049, 83), (1060, 83), (1033, 83), (1029, 83), (1021, 83), (1064, 83), (1124, 83), (1017, 83), (1013, 83), (1072, 83), (1068, 83), (1080, 83), (1076, 83), (1092, 83), (1088, 83), (1084, 83), (1100, 83), (1096, 83), (1112, 83), (1108, 83), (1104, 83), (1120, 83), (1116, 83), (1132, 83), (1128, 83), (1140, 83), (1136, 83), (1148, 83), (1144, 83), (1160, 83), (1156, 83), (1164, 83), (1152, 83), (1168, 83), (1172, 83), (1184, 83), (1180, 83), (1176, 83), (1192, 83), (1196, 83), (1188, 83), (1204, 83), (1200, 83), (1212, 83), (1208, 83), (1227, 83), (1223, 83), (1008, 83), (1004, 83), (1232, 83), (1236, 83), (1244, 83), (1248, 83), (1240, 83), (1252, 83), (1257, 83), (1261, 83), (1269, 83), (1265, 83), (1280, 83), (1288, 83), (1284, 83), (1273, 83), (601, 85), (566, 85), (278, 82)]
def npL : List Nat := [0, 1, 2, 3, 0, 1, 1, 1, 1, 2, 2, 1, 0, 0, 0, 1, 2, 0, 1, 1, 0, 1, 1, 1, 3, 3, 3, 3, 2, 1, 0, 2, 2, 1, 0, 3, 0, 0, 1, 1, 4, 0, 0, 2, 1, 1, 1, 2, 2, 2, 3, 3, 1, 1, 3, 2, 1, 1, 1, 0, 0, 2, 2, 2, 1, 3, 0, 0, 2, 1, 4, 3, 3, 1, 4, 3, 5, 2, 1, 0, 2, 1, 1, 1, 1, 2, 1, 0, 1, 1, 0, 1, 3, 1, 2, 1, 3, 2, 1, 2, 2, 2, 3, 0, 3, 2, 1, 3, 1, 1, 1, 2, 1, 1, 2, 2, 2, 1, 1, 0, 1, 1, 1, 2, 2, 2, 2, 2, 3, 3, 1, 1, 0, 2, 1, 1, 1, 1, 1, 1, 0, 0, 2, 1, 3, 3, 2, 2, 1, 1, 1, 1, 1, 1, 1, 0, 0, 0, 0, 0, 2, 2, 2, 2, 2, 2, 1, 0, 2, 1, 3, 0, 0, 0, 0, 1, 1, 2, 1, 1, 4, 4, 3, 3, 1, 1, 3, 1, 3, 3, 4, 3, 5, 2, 1, 1, 2, 3, 2, 0, 1, 1, 2]
def frL : List (List (Nat × Nat × Nat × Nat)) := [[(14, 0, 0, 210), (23, 0, 1, 212), (30, 0, 2, 214), (34, 0, 3, 216), (37, 0, 4, 218), (40, 0, 5, 220), (44, 0, 6, 221), (47, 0, 7, 222), (50, 0, 8, 224), (53, 0, 9, 226), (56, 0, 10, 228), (60, 0, 11, 229), (63, 0, 12, 230), (66, 0, 13, 232), (69, 0, 14, 234), (72, 5, 4, 169), (75, 5, 0, 157), (82, 5, 2, 163), (89, 5, 3, 166), (92, 4, 4, 197), (93, 4, 1, 191), (95, 4, 0, 189), (102, 1, 1, 138), (131, 4, 2, 194), (137, 1, 0, 136), (140, 5, 1, 160), (152, 1, 2, 141)], [(9, 1, 0, 134), (15, 1, 1, 137), (18, 1, 2, 140), (28, 3, 3, 111), (37, 3, 0, 104)], [(13, 2, 0, 279), (16, 2, 1, 281), (20, 2, 2, 283)], [(9, 3, 0, 103), (15, 3, 3, 108), (25, 3, 1, 106), (28, 3, 2, 107)], [(9, 4, 0, 188), (13, 4, 1, 190), (16, 4, 2, 193), (19, 4, 4, 196), (23, 4, 3, 195)], [(9, 5, 0, 156), (15, 5, 1, 159), (18, 5, 2, 162), (21, 5, 3, 165), (24, 5, 4, 168), (34, 3, 3, 110), (43, 3, 0, 105)], [(14, 6, 0, 293), (18, 6, 1, 294), (24, 6, 2, 295), (28, 0, 0, 211), (32, 6, 3, 296), (33, 0, 1, 213), (37, 6, 4, 297), (38, 0, 2, 215), (42, 6, 5, 298), (43, 0, 3, 217), (46, 6, 6, 299), (47, 0, 4, 219), (50, 6, 7, 300), (56, 6, 8, 301), (59, 6, 9, 302), (65, 6, 10, 303), (71, 6, 11, 304), (74, 6, 12, 305), (96, 3, 3, 109), (108, 1, 0, 135), (112, 1, 1, 139), (118, 5, 0, 158), (121, 5, 1, 161), (124, 5, 2, 164), (127, 5, 3, 167), (150, 4, 4, 198), (166, 2, 1, 282), (169, 2, 0, 280), (175, 0, 7, 223), (179, 0, 8, 225), (182, 0, 9, 227), (191, 1, 2, 142), (215, 5, 4, 170), (222, 0, 12, 231), (260, 2, 2, 284), (339, 0, 13, 233), (345, 4, 1, 192)], [(7, 7, 0, 769), (13, 7, 1, 770), (16, 7, 3, 772), (19, 7, 4, 773), (22, 7, 6, 775), (25, 7, 7, 776), (28, 7, 8, 777), (31, 7, 9, 778), (34, 7, 11, 780), (37, 7, 12, 781), (40, 7, 14, 783), (43, 7, 15, 784), (46, 7, 16, 785), (49, 7, 18, 787), (52, 7, 19, 788), (55, 7, 20, 789), (58, 7, 23, 792), (61, 7, 24, 793), (64, 7, 27, 796), (67, 7, 28, 797), (70, 7, 29, 798), (73, 7, 30, 799), (76, 7, 31, 800), (79, 7, 32, 801), (82, 7, 33, 802), (85, 7, 35, 804), (88, 7, 36, 805), (91, 7, 37, 806), (94, 7, 38, 807), (97, 7, 39, 808), (101, 7, 40, 809), (104, 7, 41, 810), (107, 7, 42, 811), (110, 7, 43, 812), (127, 7, 2, 771), (131, 7, 5, 774), (165, 7, 10, 779), (171, 7, 13, 782), (174, 7, 17, 786), (186, 7, 21, 790), (189, 7, 22, 791), (192, 7, 25, 794), (195, 7, 26, 795), (287, 7, 34, 803), (322, 7, 44, 813)], [], [], []]
def mrL : List (List (Nat × Nat × Nat × Nat × Nat × Nat)) := [[(5, 5, 0, 127, 92, 93), (13, 4, 17, 130, 131, 0), (22, 4, 37, 152, 153, 0), (27, 3, 33, 184, 185, 0), (78, 2, 18, 477, 398, 399), (85, 2, 3, 478, 480, 4), (94, 2, 38, 482, 406, 407), (98, 2, 2, 483, 485, 5), (105, 6, 0, 491, 493, 492), (111, 0, 202, 494, 277, 0), (117, 2, 6, 499, 501, 6), (121, 2, 9, 503, 505, 7), (125, 2, 7, 507, 509, 8), (128, 2, 8, 515, 517, 9), (134, 2, 10, 519, 521, 10), (143, 8, 0, 511, 512, 513), (149, 7, 0, 514, 101, 102), (153, 2, 11, 539, 524, 525), (156, 2, 4, 619, 488, 489), (159, 2, 5, 620, 496, 497), (162, 2, 16, 621, 623, 13)], [(3, 5, 0, 133, 92, 93), (22, 2, 30, 359, 360, 361), (31, 7, 0, 369, 101, 102)], [(3, 5, 0, 273, 92, 93), (23, 0, 202, 276, 277, 0), (29, 1, 80, 456, 341, 0), (33, 2, 23, 693, 458, 459), (37, 2, 26, 694, 695, 696)], [(3, 5, 0, 99, 92, 93), (19, 7, 0, 100, 101, 102), (32, 0, 32, 363, 364, 0), (36, 0, 31, 366, 367, 0)], [(1, 5, 0, 187, 92, 93)], [(3, 5, 0, 155, 92, 93), (28, 2, 30, 374, 360, 361), (37, 7, 0, 375, 101, 102), (46, 2, 40, 376, 377, 378)], [(1, 5, 0, 91, 92, 93), (11, 3, 28, 96, 97, 0), (23, 4, 0, 124, 125, 0), (53, 3, 33, 267, 185, 0), (64, 3, 20, 270, 271, 0), (78, 0, 81, 337, 338, 0), (82, 0, 80, 340, 341, 0), (86, 2, 86, 343, 345, 0), (90, 2, 29, 347, 348, 349), (93, 2, 87, 351, 353, 1), (99, 2, 30, 392, 360, 361), (103, 2, 18, 397, 398, 399), (115, 2, 38, 405, 406, 407), (130, 0, 85, 413, 414, 0), (133, 2, 34, 419, 420, 421), (137, 2, 35, 423, 424, 425), (141, 0, 82, 416, 417, 0), (144, 0, 84, 431, 432, 0), (147, 0, 83, 434, 435, 0), (153, 2, 36, 445, 446, 447), (156, 0, 21, 453, 454, 0), (159, 2, 23, 457, 458, 459), (162, 2, 88, 461, 463, 2), (172, 2, 89, 469, 471, 3), (176, 2, 11, 523, 524, 525), (185, 2, 12, 535, 536, 537), (188, 2, 13, 544, 545, 546), (192, 2, 14, 556, 557, 558), (195, 2, 1, 473, 474, 475), (199, 2, 4, 487, 488, 489), (202, 2, 5, 495, 496, 497), (205, 0, 201, 564, 565, 0), (210, 2, 40, 574, 377, 378), (213, 2, 41, 575, 576, 577), (216, 2, 90, 591, 593, 11), (219, 0, 200, 599, 600, 0), (225, 2, 15, 615, 616, 617), (229, 2, 92, 629, 631, 14), (233, 2, 93, 637, 639, 15), (236, 2, 94, 641, 643, 16), (242, 2, 95, 651, 653, 17), (245, 0, 96, 655, 656, 0), (249, 2, 97, 662, 664, 18), (253, 0, 22, 674, 675, 0), (256, 2, 24, 677, 678, 679), (263, 2, 25, 689, 690, 691), (266, 2, 27, 698, 699, 700), (270, 2, 26, 711, 695, 696), (274, 6, 0, 712, 493, 492), (280, 7, 0, 717, 101, 102), (287, 2, 78, 727, 719, 720), (290, 0, 99, 728, 729, 0), (294, 2, 46, 732, 389, 390), (297, 2, 100, 733, 735, 19), (301, 2, 101, 740, 742, 20), (304, 2, 56, 754, 532, 533), (307, 2, 57, 755, 541, 542), (310, 2, 58, 756, 549, 550), (313, 2, 59, 757, 553, 554), (316, 2, 60, 758, 561, 562), (319, 2, 62, 759, 580, 581), (322, 2, 64, 760, 588, 589), (325, 2, 67, 761, 612, 613), (328, 2, 71, 762, 659, 660), (331, 2, 19, 355, 356, 357), (335, 2, 39, 370, 371, 372), (336, 2, 91, 595, 597, 12), (342, 8, 0, 645, 512, 513), (348, 0, 98, 666, 667, 0), (354, 2, 48, 737, 402, 403), (357, 2, 55, 738, 528, 529), (360, 2, 63, 739, 584, 585), (363, 2, 47, 744, 394, 395), (366, 2, 102, 745, 747, 21), (370, 2, 61, 750, 571, 572), (373, 2, 68, 751, 626, 627), (376, 2, 69, 752, 634, 635), (379, 2, 70, 753, 647, 648), (383, 2, 54, 749, 466, 467)], [(1, 5, 0, 768, 92, 93), (115, 0, 104, 913, 914, 0), (119, 0, 108, 910, 911, 0), (123, 2, 114, 940, 942, 25), (134, 2, 115, 936, 938, 24), (137, 2, 116, 944, 946, 26), (140, 2, 117, 932, 934, 23), (144, 2, 118, 928, 930, 22), (147, 2, 119, 956, 958, 28), (150, 2, 121, 952, 954, 27), (153, 2, 123, 960, 962, 29), (156, 2, 122, 968, 970, 30), (159, 2, 125, 972, 974, 31), (162, 0, 109, 980, 981, 0), (168, 0, 110, 987, 988, 0), (177, 0, 185, 1002, 1003, 0), (180, 2, 184, 1005, 1007, 32), (183, 2, 127, 1009, 977, 978), (198, 2, 134, 1038, 1040, 39), (201, 2, 133, 1042, 1044, 40), (205, 0, 105, 1050, 1051, 0), (209, 2, 136, 1053, 1055, 42), (213, 2, 135, 1034, 1036, 38), (216, 2, 137, 1046, 1048, 41), (219, 2, 138, 1057, 1059, 43), (222, 2, 139, 1030, 1032, 37), (225, 2, 132, 1022, 1024, 35), (228, 2, 140, 1026, 1028, 36), (231, 2, 142, 1061, 1063, 44), (234, 2, 141, 1018, 1020, 34), (237, 2, 144, 1014, 1016, 33), (241, 2, 146, 1069, 1071, 45), (244, 2, 148, 1077, 1079, 46), (247, 2, 150, 1089, 1091, 48), (250, 2, 151, 1085, 1087, 47), (253, 2, 153, 1097, 1099, 49), (256, 2, 155, 1109, 1111, 51), (260, 2, 156, 1105, 1107, 50), (263, 2, 143, 1121, 1123, 53), (266, 2, 158, 1117, 1119, 52), (269, 2, 160, 1129, 1131, 54), (272, 2, 162, 1137, 1139, 55), (275, 2, 164, 1145, 1147, 56), (278, 2, 166, 1157, 1159, 58), (281, 2, 167, 1153, 1155, 57), (284, 2, 168, 1161, 1163, 59), (290, 2, 172, 1181, 1183, 61), (294, 2, 173, 1177, 1179, 60), (297, 2, 175, 1189, 1191, 62), (300, 2, 176, 1193, 1195, 63), (303, 2, 178, 1201, 1203, 64), (306, 0, 107, 1213, 1214, 0), (310, 2, 180, 1209, 1211, 65), (314, 0, 106, 1216, 1217, 0), (319, 2, 182, 1224, 1226, 66), (325, 2, 188, 1241, 1243, 67), (328, 2, 189, 1245, 1247, 68), (333, 2, 194, 1266, 1268, 69), (338, 2, 197, 1285, 1287, 72), (344, 2, 195, 1276, 1263, 1264), (347, 2, 196, 1277, 1279, 70), (351, 2, 198, 1281, 1283, 71)], [], [], []]
def ciL : List (List (Nat × Int32 × Nat)) := [[], [], [], [], [], [], [(269, (-2147483648), 706), (351, 1103515245, 669)], [(318, 1103515245, 1228), (332, (-2147483648), 1253)], [(264, 65536, 602), (265, 1431655765, 567), (266, 858993459, 568), (267, 252645135, 569)], [], []]
def clL : List (List (Nat × Int64 × Nat)) := [[], [], [], [], [], [], [(240, (-9223372036854775806), 650), (285, 17, 726), (352, 31, 731)], [(113, (-9223372036854775808), 1219), (336, 31, 1275), (342, 17, 1274)], [], [], []]
def nwL : List (List (Nat × Nat × Nat × Nat × Nat)) := [[(1, 4, 182, 183, 80), (11, 1, 128, 129, 78), (20, 5, 150, 151, 79)], [], [], [], [], [], [(7, 3, 94, 95, 75), (21, 0, 122, 123, 77), (51, 4, 266, 183, 80), (62, 2, 268, 269, 81)], [], [], [], []]
def mnL : List (List (Nat × Nat)) := [[], [], [(11, 274)], [], [], [], [(69, 292)], [], [], [], []]
def wOver : Nat := 275
def wArrI : Nat := 121
def wArrZ : Nat := 905
def wSys : Nat := 84
def wMath : Nat := 76
def mOkB (k : Nat) : Bool := match mtL[k]?, mwL[k]?, npL[k]? with
  | some M, some (a, b), some n => chkW a (.code M.y M.by M.ml M.rt) && (chkW b (.initialized M.y.cls) && (decide (M.y.cls ≠ "java/lang/invoke/MethodHandle") && (decide (M.y.cls ≠ "java/lang/invoke/VarHandle") && (decide (M.ml ≤ 20) && (plainName M.y.cls && (decide (M.y.cls = cnm M.cn) && decide (np M = some n)))))))
  | _, _, _ => false
def cdB (k : Nat) : Bool := match mtL[k]?, cdL[k]? with
  | some M, some t => cdOk M.by 0 t
  | _, _ => false
