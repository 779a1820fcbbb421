section
-- ===== PART A: goes FIRST, ahead of the names: the tables' words, and 'selects' of the private methods out of them =====
/-- a private method of a class that the tables say can be made, by its rows of tables_1 -/
def lw_okq (q : MethodName × Nat) : Prop := (q.1.cls ≠ "java/lang/invoke/MethodHandle" ∧ q.1.cls ≠ "java/lang/invoke/VarHandle") ∧ Cond.instantiable q.1.cls q.2 ∈ tables_1 ∧ Cond.privateMethod q.1 ∈ tables_1 ∧ Cond.instanceMethod q.1 ∈ tables_1
theorem lw_p0 : lw_okq (⟨"SteppedSamples", "beginChange", "()V"⟩, 9) := ⟨⟨by decide +kernel, by decide +kernel⟩, List.mem_of_getElem? (i := 18) (by decide +kernel), List.mem_of_getElem? (i := 247) (by decide +kernel), List.mem_of_getElem? (i := 248) (by decide +kernel)⟩
theorem lw_p1 : lw_okq (⟨"SteppedSamples$History", "dropOldest", "()V"⟩, 2) := ⟨⟨by decide +kernel, by decide +kernel⟩, List.mem_of_getElem? (i := 100) (by decide +kernel), List.mem_of_getElem? (i := 255) (by decide +kernel), List.mem_of_getElem? (i := 256) (by decide +kernel)⟩
theorem lw_p2 : lw_okq (⟨"SteppedSamples$Coder", "codeBlock", "(LSteppedSamples$State;II)V"⟩, 1) := ⟨⟨by decide +kernel, by decide +kernel⟩, List.mem_of_getElem? (i := 160) (by decide +kernel), List.mem_of_getElem? (i := 325) (by decide +kernel), List.mem_of_getElem? (i := 326) (by decide +kernel)⟩
theorem lw_p3 : lw_okq (⟨"SteppedSamples$BlockText", "beginDigits", "()V"⟩, 10) := ⟨⟨by decide +kernel, by decide +kernel⟩, List.mem_of_getElem? (i := 117) (by decide +kernel), List.mem_of_getElem? (i := 341) (by decide +kernel), List.mem_of_getElem? (i := 342) (by decide +kernel)⟩
theorem lw_p4 : lw_okq (⟨"SteppedSamples$BlockText", "readsOn", "(I)Z"⟩, 10) := ⟨⟨by decide +kernel, by decide +kernel⟩, List.mem_of_getElem? (i := 117) (by decide +kernel), List.mem_of_getElem? (i := 345) (by decide +kernel), List.mem_of_getElem? (i := 346) (by decide +kernel)⟩
theorem lw_p5 : lw_okq (⟨"SteppedSamples$BlockText", "readsFirst", "(I)Z"⟩, 10) := ⟨⟨by decide +kernel, by decide +kernel⟩, List.mem_of_getElem? (i := 117) (by decide +kernel), List.mem_of_getElem? (i := 349) (by decide +kernel), List.mem_of_getElem? (i := 350) (by decide +kernel)⟩
theorem lw_p6 : lw_okq (⟨"SteppedSamples$BlockText", "readsDigit", "(II)Z"⟩, 10) := ⟨⟨by decide +kernel, by decide +kernel⟩, List.mem_of_getElem? (i := 117) (by decide +kernel), List.mem_of_getElem? (i := 353) (by decide +kernel), List.mem_of_getElem? (i := 354) (by decide +kernel)⟩
theorem lw_p7 : lw_okq (⟨"SteppedSamples$BlockText", "readsNumber", "(I)Z"⟩, 10) := ⟨⟨by decide +kernel, by decide +kernel⟩, List.mem_of_getElem? (i := 117) (by decide +kernel), List.mem_of_getElem? (i := 357) (by decide +kernel), List.mem_of_getElem? (i := 358) (by decide +kernel)⟩
theorem lw_p8 : lw_okq (⟨"SteppedSamples$BlockText", "readsCode", "(I)Z"⟩, 10) := ⟨⟨by decide +kernel, by decide +kernel⟩, List.mem_of_getElem? (i := 117) (by decide +kernel), List.mem_of_getElem? (i := 361) (by decide +kernel), List.mem_of_getElem? (i := 362) (by decide +kernel)⟩
theorem lw_p9 : lw_okq (⟨"SteppedSamples", "wholeError", "()I"⟩, 9) := ⟨⟨by decide +kernel, by decide +kernel⟩, List.mem_of_getElem? (i := 18) (by decide +kernel), List.mem_of_getElem? (i := 373) (by decide +kernel), List.mem_of_getElem? (i := 374) (by decide +kernel)⟩
theorem lw_p10 : lw_okq (⟨"SteppedSamples$Decoder", "fillBlock", "(LSteppedSamples$State;I)V"⟩, 4) := ⟨⟨by decide +kernel, by decide +kernel⟩, List.mem_of_getElem? (i := 189) (by decide +kernel), List.mem_of_getElem? (i := 381) (by decide +kernel), List.mem_of_getElem? (i := 382) (by decide +kernel)⟩
theorem lw_p11 : lw_okq (⟨"SteppedSamples$Decoder", "fillingOf", "(LSteppedSamples$State;II)I"⟩, 4) := ⟨⟨by decide +kernel, by decide +kernel⟩, List.mem_of_getElem? (i := 189) (by decide +kernel), List.mem_of_getElem? (i := 387) (by decide +kernel), List.mem_of_getElem? (i := 388) (by decide +kernel)⟩
theorem lw_p12 : lw_okq (⟨"SteppedSamples$Decoder", "decodeBlock", "(LSteppedSamples$State;I)V"⟩, 4) := ⟨⟨by decide +kernel, by decide +kernel⟩, List.mem_of_getElem? (i := 189) (by decide +kernel), List.mem_of_getElem? (i := 391) (by decide +kernel), List.mem_of_getElem? (i := 392) (by decide +kernel)⟩
theorem lw_p13 : lw_okq (⟨"java/lang/Throwable", "fillInStackTrace", "(I)Ljava/lang/Throwable;"⟩, 6) := ⟨⟨by decide +kernel, by decide +kernel⟩, List.mem_of_getElem? (i := 453) (by decide +kernel), List.mem_of_getElem? (i := 451) (by decide +kernel), List.mem_of_getElem? (i := 452) (by decide +kernel)⟩
theorem lw_p14 : lw_okq (⟨"SteppedSamples", "codedCount", "(I)I"⟩, 9) := ⟨⟨by decide +kernel, by decide +kernel⟩, List.mem_of_getElem? (i := 18) (by decide +kernel), List.mem_of_getElem? (i := 487) (by decide +kernel), List.mem_of_getElem? (i := 488) (by decide +kernel)⟩
theorem lw_p15 : lw_okq (⟨"SteppedSamples", "errorByBlocks", "()I"⟩, 9) := ⟨⟨by decide +kernel, by decide +kernel⟩, List.mem_of_getElem? (i := 18) (by decide +kernel), List.mem_of_getElem? (i := 491) (by decide +kernel), List.mem_of_getElem? (i := 492) (by decide +kernel)⟩
def lw_privs_1 : List (MethodName × Nat) := [(⟨"SteppedSamples", "beginChange", "()V"⟩, 9), (⟨"SteppedSamples$History", "dropOldest", "()V"⟩, 2), (⟨"SteppedSamples$Coder", "codeBlock", "(LSteppedSamples$State;II)V"⟩, 1), (⟨"SteppedSamples$BlockText", "beginDigits", "()V"⟩, 10), (⟨"SteppedSamples$BlockText", "readsOn", "(I)Z"⟩, 10), (⟨"SteppedSamples$BlockText", "readsFirst", "(I)Z"⟩, 10), (⟨"SteppedSamples$BlockText", "readsDigit", "(II)Z"⟩, 10), (⟨"SteppedSamples$BlockText", "readsNumber", "(I)Z"⟩, 10), (⟨"SteppedSamples$BlockText", "readsCode", "(I)Z"⟩, 10), (⟨"SteppedSamples", "wholeError", "()I"⟩, 9), (⟨"SteppedSamples$Decoder", "fillBlock", "(LSteppedSamples$State;I)V"⟩, 4), (⟨"SteppedSamples$Decoder", "fillingOf", "(LSteppedSamples$State;II)I"⟩, 4), (⟨"SteppedSamples$Decoder", "decodeBlock", "(LSteppedSamples$State;I)V"⟩, 4), (⟨"java/lang/Throwable", "fillInStackTrace", "(I)Ljava/lang/Throwable;"⟩, 6), (⟨"SteppedSamples", "codedCount", "(I)I"⟩, 9), (⟨"SteppedSamples", "errorByBlocks", "()I"⟩, 9)]
theorem lw_r1 : ∀ q ∈ lw_privs_1, lw_okq q := List.forall_mem_cons.mpr ⟨lw_p0, List.forall_mem_cons.mpr ⟨lw_p1, List.forall_mem_cons.mpr ⟨lw_p2, List.forall_mem_cons.mpr ⟨lw_p3, List.forall_mem_cons.mpr ⟨lw_p4, List.forall_mem_cons.mpr ⟨lw_p5, List.forall_mem_cons.mpr ⟨lw_p6, List.forall_mem_cons.mpr ⟨lw_p7, List.forall_mem_cons.mpr ⟨lw_p8, List.forall_mem_cons.mpr ⟨lw_p9, List.forall_mem_cons.mpr ⟨lw_p10, List.forall_mem_cons.mpr ⟨lw_p11, List.forall_mem_cons.mpr ⟨lw_p12, List.forall_mem_cons.mpr ⟨lw_p13, List.forall_mem_cons.mpr ⟨lw_p14, List.forall_mem_cons.mpr ⟨lw_p15, fun _ h => absurd h List.not_mem_nil⟩⟩⟩⟩⟩⟩⟩⟩⟩⟩⟩⟩⟩⟩⟩⟩
theorem lw_p16 : lw_okq (⟨"SteppedSamples", "mixSamplesAndBlocks", "(J)J"⟩, 9) := ⟨⟨by decide +kernel, by decide +kernel⟩, List.mem_of_getElem? (i := 18) (by decide +kernel), List.mem_of_getElem? (i := 511) (by decide +kernel), List.mem_of_getElem? (i := 512) (by decide +kernel)⟩
theorem lw_p17 : lw_okq (⟨"SteppedSamples", "refuseUnlessBlock", "(I)V"⟩, 9) := ⟨⟨by decide +kernel, by decide +kernel⟩, List.mem_of_getElem? (i := 18) (by decide +kernel), List.mem_of_getElem? (i := 544) (by decide +kernel), List.mem_of_getElem? (i := 545) (by decide +kernel)⟩
theorem lw_p18 : lw_okq (⟨"SteppedSamples", "leadOf", "(I)I"⟩, 9) := ⟨⟨by decide +kernel, by decide +kernel⟩, List.mem_of_getElem? (i := 18) (by decide +kernel), List.mem_of_getElem? (i := 553) (by decide +kernel), List.mem_of_getElem? (i := 554) (by decide +kernel)⟩
theorem lw_p19 : lw_okq (⟨"SteppedSamples", "mixWhatWouldBe", "(J)J"⟩, 9) := ⟨⟨by decide +kernel, by decide +kernel⟩, List.mem_of_getElem? (i := 18) (by decide +kernel), List.mem_of_getElem? (i := 559) (by decide +kernel), List.mem_of_getElem? (i := 560) (by decide +kernel)⟩
theorem lw_p20 : lw_okq (⟨"SteppedSamples", "refuseUnlessSamples", "(II)V"⟩, 9) := ⟨⟨by decide +kernel, by decide +kernel⟩, List.mem_of_getElem? (i := 18) (by decide +kernel), List.mem_of_getElem? (i := 567) (by decide +kernel), List.mem_of_getElem? (i := 568) (by decide +kernel)⟩
theorem lw_p21 : lw_okq (⟨"SteppedSamples", "refuseUnlessCodeBit", "(II)V"⟩, 9) := ⟨⟨by decide +kernel, by decide +kernel⟩, List.mem_of_getElem? (i := 18) (by decide +kernel), List.mem_of_getElem? (i := 583) (by decide +kernel), List.mem_of_getElem? (i := 584) (by decide +kernel)⟩
theorem lw_p22 : lw_okq (⟨"SteppedSamples$BlockText", "putNumber", "(I)V"⟩, 10) := ⟨⟨by decide +kernel, by decide +kernel⟩, List.mem_of_getElem? (i := 117) (by decide +kernel), List.mem_of_getElem? (i := 764) (by decide +kernel), List.mem_of_getElem? (i := 765) (by decide +kernel)⟩
theorem lw_p23 : lw_okq (⟨"SteppedSamples", "refuseUnlessSlot", "(I)V"⟩, 9) := ⟨⟨by decide +kernel, by decide +kernel⟩, List.mem_of_getElem? (i := 18) (by decide +kernel), List.mem_of_getElem? (i := 779) (by decide +kernel), List.mem_of_getElem? (i := 780) (by decide +kernel)⟩
theorem lw_p24 : lw_okq (⟨"SteppedSamplesModel", "holds", "(I)Z"⟩, 20) := ⟨⟨by decide +kernel, by decide +kernel⟩, List.mem_of_getElem? (i := 863) (by decide +kernel), List.mem_of_getElem? (i := 941) (by decide +kernel), List.mem_of_getElem? (i := 942) (by decide +kernel)⟩
theorem lw_p25 : lw_okq (⟨"SteppedSamplesModel", "save", "()V"⟩, 20) := ⟨⟨by decide +kernel, by decide +kernel⟩, List.mem_of_getElem? (i := 863) (by decide +kernel), List.mem_of_getElem? (i := 945) (by decide +kernel), List.mem_of_getElem? (i := 946) (by decide +kernel)⟩
theorem lw_p26 : lw_okq (⟨"SteppedSamplesModel", "notCoded", "()V"⟩, 20) := ⟨⟨by decide +kernel, by decide +kernel⟩, List.mem_of_getElem? (i := 863) (by decide +kernel), List.mem_of_getElem? (i := 949) (by decide +kernel), List.mem_of_getElem? (i := 950) (by decide +kernel)⟩
theorem lw_p27 : lw_okq (⟨"SteppedSamplesModel", "isSample", "(I)Z"⟩, 20) := ⟨⟨by decide +kernel, by decide +kernel⟩, List.mem_of_getElem? (i := 863) (by decide +kernel), List.mem_of_getElem? (i := 957) (by decide +kernel), List.mem_of_getElem? (i := 958) (by decide +kernel)⟩
theorem lw_p28 : lw_okq (⟨"SteppedSamplesModel", "isCoded", "()Z"⟩, 20) := ⟨⟨by decide +kernel, by decide +kernel⟩, List.mem_of_getElem? (i := 863) (by decide +kernel), List.mem_of_getElem? (i := 975) (by decide +kernel), List.mem_of_getElem? (i := 976) (by decide +kernel)⟩
theorem lw_p29 : lw_okq (⟨"SteppedSamplesModel", "decodes", "()V"⟩, 20) := ⟨⟨by decide +kernel, by decide +kernel⟩, List.mem_of_getElem? (i := 863) (by decide +kernel), List.mem_of_getElem? (i := 979) (by decide +kernel), List.mem_of_getElem? (i := 980) (by decide +kernel)⟩
theorem lw_p30 : lw_okq (⟨"SteppedSamplesModel", "nextGuess", "(III)I"⟩, 20) := ⟨⟨by decide +kernel, by decide +kernel⟩, List.mem_of_getElem? (i := 863) (by decide +kernel), List.mem_of_getElem? (i := 983) (by decide +kernel), List.mem_of_getElem? (i := 984) (by decide +kernel)⟩
theorem lw_p31 : lw_okq (⟨"SteppedSamplesModel", "filled", "(I)I"⟩, 20) := ⟨⟨by decide +kernel, by decide +kernel⟩, List.mem_of_getElem? (i := 863) (by decide +kernel), List.mem_of_getElem? (i := 990) (by decide +kernel), List.mem_of_getElem? (i := 991) (by decide +kernel)⟩
def lw_privs_2 : List (MethodName × Nat) := [(⟨"SteppedSamples", "mixSamplesAndBlocks", "(J)J"⟩, 9), (⟨"SteppedSamples", "refuseUnlessBlock", "(I)V"⟩, 9), (⟨"SteppedSamples", "leadOf", "(I)I"⟩, 9), (⟨"SteppedSamples", "mixWhatWouldBe", "(J)J"⟩, 9), (⟨"SteppedSamples", "refuseUnlessSamples", "(II)V"⟩, 9), (⟨"SteppedSamples", "refuseUnlessCodeBit", "(II)V"⟩, 9), (⟨"SteppedSamples$BlockText", "putNumber", "(I)V"⟩, 10), (⟨"SteppedSamples", "refuseUnlessSlot", "(I)V"⟩, 9), (⟨"SteppedSamplesModel", "holds", "(I)Z"⟩, 20), (⟨"SteppedSamplesModel", "save", "()V"⟩, 20), (⟨"SteppedSamplesModel", "notCoded", "()V"⟩, 20), (⟨"SteppedSamplesModel", "isSample", "(I)Z"⟩, 20), (⟨"SteppedSamplesModel", "isCoded", "()Z"⟩, 20), (⟨"SteppedSamplesModel", "decodes", "()V"⟩, 20), (⟨"SteppedSamplesModel", "nextGuess", "(III)I"⟩, 20), (⟨"SteppedSamplesModel", "filled", "(I)I"⟩, 20)]
theorem lw_r2 : ∀ q ∈ lw_privs_2, lw_okq q := List.forall_mem_cons.mpr ⟨lw_p16, List.forall_mem_cons.mpr ⟨lw_p17, List.forall_mem_cons.mpr ⟨lw_p18, List.forall_mem_cons.mpr ⟨lw_p19, List.forall_mem_cons.mpr ⟨lw_p20, List.forall_mem_cons.mpr ⟨lw_p21, List.forall_mem_cons.mpr ⟨lw_p22, List.forall_mem_cons.mpr ⟨lw_p23, List.forall_mem_cons.mpr ⟨lw_p24, List.forall_mem_cons.mpr ⟨lw_p25, List.forall_mem_cons.mpr ⟨lw_p26, List.forall_mem_cons.mpr ⟨lw_p27, List.forall_mem_cons.mpr ⟨lw_p28, List.forall_mem_cons.mpr ⟨lw_p29, List.forall_mem_cons.mpr ⟨lw_p30, List.forall_mem_cons.mpr ⟨lw_p31, fun _ h => absurd h List.not_mem_nil⟩⟩⟩⟩⟩⟩⟩⟩⟩⟩⟩⟩⟩⟩⟩⟩
theorem lw_p32 : lw_okq (⟨"SteppedSamplesModel", "blocks", "()I"⟩, 20) := ⟨⟨by decide +kernel, by decide +kernel⟩, List.mem_of_getElem? (i := 863) (by decide +kernel), List.mem_of_getElem? (i := 1002) (by decide +kernel), List.mem_of_getElem? (i := 1003) (by decide +kernel)⟩
theorem lw_p33 : lw_okq (⟨"SteppedSamplesModel", "endOf", "(I)I"⟩, 20) := ⟨⟨by decide +kernel, by decide +kernel⟩, List.mem_of_getElem? (i := 863) (by decide +kernel), List.mem_of_getElem? (i := 1006) (by decide +kernel), List.mem_of_getElem? (i := 1007) (by decide +kernel)⟩
theorem lw_p34 : lw_okq (⟨"SteppedSamplesModel", "best", "(II)I"⟩, 20) := ⟨⟨by decide +kernel, by decide +kernel⟩, List.mem_of_getElem? (i := 863) (by decide +kernel), List.mem_of_getElem? (i := 1010) (by decide +kernel), List.mem_of_getElem? (i := 1011) (by decide +kernel)⟩
theorem lw_p35 : lw_okq (⟨"SteppedSamplesModel", "errorOf", "(III)I"⟩, 20) := ⟨⟨by decide +kernel, by decide +kernel⟩, List.mem_of_getElem? (i := 863) (by decide +kernel), List.mem_of_getElem? (i := 1014) (by decide +kernel), List.mem_of_getElem? (i := 1015) (by decide +kernel)⟩
theorem lw_p36 : lw_okq (⟨"SteppedSamplesModel", "codeFor", "(III)I"⟩, 20) := ⟨⟨by decide +kernel, by decide +kernel⟩, List.mem_of_getElem? (i := 863) (by decide +kernel), List.mem_of_getElem? (i := 1018) (by decide +kernel), List.mem_of_getElem? (i := 1019) (by decide +kernel)⟩
theorem lw_p37 : lw_okq (⟨"SteppedSamplesModel", "codes", "(II)I"⟩, 20) := ⟨⟨by decide +kernel, by decide +kernel⟩, List.mem_of_getElem? (i := 863) (by decide +kernel), List.mem_of_getElem? (i := 1025) (by decide +kernel), List.mem_of_getElem? (i := 1026) (by decide +kernel)⟩
theorem lw_p38 : lw_okq (⟨"SteppedSamplesModel", "isBlock", "(I)Z"⟩, 20) := ⟨⟨by decide +kernel, by decide +kernel⟩, List.mem_of_getElem? (i := 863) (by decide +kernel), List.mem_of_getElem? (i := 1033) (by decide +kernel), List.mem_of_getElem? (i := 1034) (by decide +kernel)⟩
theorem lw_p39 : lw_okq (⟨"SteppedSamplesModel", "lost", "()I"⟩, 20) := ⟨⟨by decide +kernel, by decide +kernel⟩, List.mem_of_getElem? (i := 863) (by decide +kernel), List.mem_of_getElem? (i := 1037) (by decide +kernel), List.mem_of_getElem? (i := 1038) (by decide +kernel)⟩
theorem lw_p40 : lw_okq (⟨"SteppedSamplesModel", "hasCode", "(I)Z"⟩, 20) := ⟨⟨by decide +kernel, by decide +kernel⟩, List.mem_of_getElem? (i := 863) (by decide +kernel), List.mem_of_getElem? (i := 1045) (by decide +kernel), List.mem_of_getElem? (i := 1046) (by decide +kernel)⟩
theorem lw_p41 : lw_okq (⟨"SteppedSamplesModel", "readAll", "()V"⟩, 20) := ⟨⟨by decide +kernel, by decide +kernel⟩, List.mem_of_getElem? (i := 863) (by decide +kernel), List.mem_of_getElem? (i := 1061) (by decide +kernel), List.mem_of_getElem? (i := 1062) (by decide +kernel)⟩
theorem lw_p42 : lw_okq (⟨"SteppedSamplesModel", "isNext", "(II)Z"⟩, 20) := ⟨⟨by decide +kernel, by decide +kernel⟩, List.mem_of_getElem? (i := 863) (by decide +kernel), List.mem_of_getElem? (i := 1065) (by decide +kernel), List.mem_of_getElem? (i := 1066) (by decide +kernel)⟩
theorem lw_p43 : lw_okq (⟨"SteppedSamplesModel", "takesNumber", "(II)I"⟩, 20) := ⟨⟨by decide +kernel, by decide +kernel⟩, List.mem_of_getElem? (i := 863) (by decide +kernel), List.mem_of_getElem? (i := 1069) (by decide +kernel), List.mem_of_getElem? (i := 1070) (by decide +kernel)⟩
theorem lw_p44 : lw_okq (⟨"SteppedSamplesModel", "takes", "(II)I"⟩, 20) := ⟨⟨by decide +kernel, by decide +kernel⟩, List.mem_of_getElem? (i := 863) (by decide +kernel), List.mem_of_getElem? (i := 1073) (by decide +kernel), List.mem_of_getElem? (i := 1074) (by decide +kernel)⟩
theorem lw_p45 : lw_okq (⟨"SteppedSamplesModel", "decodesBefore", "()V"⟩, 20) := ⟨⟨by decide +kernel, by decide +kernel⟩, List.mem_of_getElem? (i := 863) (by decide +kernel), List.mem_of_getElem? (i := 1081) (by decide +kernel), List.mem_of_getElem? (i := 1082) (by decide +kernel)⟩
theorem lw_p46 : lw_okq (⟨"SteppedSamplesModel", "others", "()I"⟩, 20) := ⟨⟨by decide +kernel, by decide +kernel⟩, List.mem_of_getElem? (i := 863) (by decide +kernel), List.mem_of_getElem? (i := 1085) (by decide +kernel), List.mem_of_getElem? (i := 1086) (by decide +kernel)⟩
theorem lw_p47 : lw_okq (⟨"SteppedSamplesModel", "writes", "(I)V"⟩, 20) := ⟨⟨by decide +kernel, by decide +kernel⟩, List.mem_of_getElem? (i := 863) (by decide +kernel), List.mem_of_getElem? (i := 1093) (by decide +kernel), List.mem_of_getElem? (i := 1094) (by decide +kernel)⟩
def lw_privs_3 : List (MethodName × Nat) := [(⟨"SteppedSamplesModel", "blocks", "()I"⟩, 20), (⟨"SteppedSamplesModel", "endOf", "(I)I"⟩, 20), (⟨"SteppedSamplesModel", "best", "(II)I"⟩, 20), (⟨"SteppedSamplesModel", "errorOf", "(III)I"⟩, 20), (⟨"SteppedSamplesModel", "codeFor", "(III)I"⟩, 20), (⟨"SteppedSamplesModel", "codes", "(II)I"⟩, 20), (⟨"SteppedSamplesModel", "isBlock", "(I)Z"⟩, 20), (⟨"SteppedSamplesModel", "lost", "()I"⟩, 20), (⟨"SteppedSamplesModel", "hasCode", "(I)Z"⟩, 20), (⟨"SteppedSamplesModel", "readAll", "()V"⟩, 20), (⟨"SteppedSamplesModel", "isNext", "(II)Z"⟩, 20), (⟨"SteppedSamplesModel", "takesNumber", "(II)I"⟩, 20), (⟨"SteppedSamplesModel", "takes", "(II)I"⟩, 20), (⟨"SteppedSamplesModel", "decodesBefore", "()V"⟩, 20), (⟨"SteppedSamplesModel", "others", "()I"⟩, 20), (⟨"SteppedSamplesModel", "writes", "(I)V"⟩, 20)]
theorem lw_r3 : ∀ q ∈ lw_privs_3, lw_okq q := List.forall_mem_cons.mpr ⟨lw_p32, List.forall_mem_cons.mpr ⟨lw_p33, List.forall_mem_cons.mpr ⟨lw_p34, List.forall_mem_cons.mpr ⟨lw_p35, List.forall_mem_cons.mpr ⟨lw_p36, List.forall_mem_cons.mpr ⟨lw_p37, List.forall_mem_cons.mpr ⟨lw_p38, List.forall_mem_cons.mpr ⟨lw_p39, List.forall_mem_cons.mpr ⟨lw_p40, List.forall_mem_cons.mpr ⟨lw_p41, List.forall_mem_cons.mpr ⟨lw_p42, List.forall_mem_cons.mpr ⟨lw_p43, List.forall_mem_cons.mpr ⟨lw_p44, List.forall_mem_cons.mpr ⟨lw_p45, List.forall_mem_cons.mpr ⟨lw_p46, List.forall_mem_cons.mpr ⟨lw_p47, fun _ h => absurd h List.not_mem_nil⟩⟩⟩⟩⟩⟩⟩⟩⟩⟩⟩⟩⟩⟩⟩⟩
theorem lw_p48 : lw_okq (⟨"SteppedSamplesModel", "writesNumber", "(I)V"⟩, 20) := ⟨⟨by decide +kernel, by decide +kernel⟩, List.mem_of_getElem? (i := 863) (by decide +kernel), List.mem_of_getElem? (i := 1097) (by decide +kernel), List.mem_of_getElem? (i := 1098) (by decide +kernel)⟩
theorem lw_p49 : lw_okq (⟨"SteppedSamplesModel", "toldOfSample", "(II)I"⟩, 20) := ⟨⟨by decide +kernel, by decide +kernel⟩, List.mem_of_getElem? (i := 863) (by decide +kernel), List.mem_of_getElem? (i := 1121) (by decide +kernel), List.mem_of_getElem? (i := 1122) (by decide +kernel)⟩
theorem lw_p50 : lw_okq (⟨"SteppedSamplesModel", "toldOfBlock", "(II)I"⟩, 20) := ⟨⟨by decide +kernel, by decide +kernel⟩, List.mem_of_getElem? (i := 863) (by decide +kernel), List.mem_of_getElem? (i := 1129) (by decide +kernel), List.mem_of_getElem? (i := 1130) (by decide +kernel)⟩
theorem lw_p51 : lw_okq (⟨"SteppedSamplesModel", "errorMade", "(II)I"⟩, 20) := ⟨⟨by decide +kernel, by decide +kernel⟩, List.mem_of_getElem? (i := 863) (by decide +kernel), List.mem_of_getElem? (i := 1133) (by decide +kernel), List.mem_of_getElem? (i := 1134) (by decide +kernel)⟩
theorem lw_p52 : lw_okq (⟨"SteppedSamplesModel", "counted", "(I)I"⟩, 20) := ⟨⟨by decide +kernel, by decide +kernel⟩, List.mem_of_getElem? (i := 863) (by decide +kernel), List.mem_of_getElem? (i := 1141) (by decide +kernel), List.mem_of_getElem? (i := 1142) (by decide +kernel)⟩
theorem lw_p53 : lw_okq (⟨"SteppedSamplesModel", "errorOfAll", "()I"⟩, 20) := ⟨⟨by decide +kernel, by decide +kernel⟩, List.mem_of_getElem? (i := 863) (by decide +kernel), List.mem_of_getElem? (i := 1145) (by decide +kernel), List.mem_of_getElem? (i := 1146) (by decide +kernel)⟩
theorem lw_p54 : lw_okq (⟨"SteppedSamplesModel", "greatest", "()I"⟩, 20) := ⟨⟨by decide +kernel, by decide +kernel⟩, List.mem_of_getElem? (i := 863) (by decide +kernel), List.mem_of_getElem? (i := 1149) (by decide +kernel), List.mem_of_getElem? (i := 1150) (by decide +kernel)⟩
theorem lw_p55 : lw_okq (⟨"SteppedSamplesModel", "alike", "()I"⟩, 20) := ⟨⟨by decide +kernel, by decide +kernel⟩, List.mem_of_getElem? (i := 863) (by decide +kernel), List.mem_of_getElem? (i := 1153) (by decide +kernel), List.mem_of_getElem? (i := 1154) (by decide +kernel)⟩
theorem lw_p56 : lw_okq (⟨"SteppedSamplesModel", "areSamples", "(II)Z"⟩, 20) := ⟨⟨by decide +kernel, by decide +kernel⟩, List.mem_of_getElem? (i := 863) (by decide +kernel), List.mem_of_getElem? (i := 1169) (by decide +kernel), List.mem_of_getElem? (i := 1170) (by decide +kernel)⟩
theorem lw_p57 : lw_okq (⟨"SteppedSamplesModel", "spreads", "(II)I"⟩, 20) := ⟨⟨by decide +kernel, by decide +kernel⟩, List.mem_of_getElem? (i := 863) (by decide +kernel), List.mem_of_getElem? (i := 1181) (by decide +kernel), List.mem_of_getElem? (i := 1182) (by decide +kernel)⟩
theorem lw_p58 : lw_okq (⟨"SteppedSamplesModel", "mean", "()D"⟩, 20) := ⟨⟨by decide +kernel, by decide +kernel⟩, List.mem_of_getElem? (i := 863) (by decide +kernel), List.mem_of_getElem? (i := 1189) (by decide +kernel), List.mem_of_getElem? (i := 1190) (by decide +kernel)⟩
theorem lw_p59 : lw_okq (⟨"SteppedSamplesModel", "loud", "()F"⟩, 20) := ⟨⟨by decide +kernel, by decide +kernel⟩, List.mem_of_getElem? (i := 863) (by decide +kernel), List.mem_of_getElem? (i := 1197) (by decide +kernel), List.mem_of_getElem? (i := 1198) (by decide +kernel)⟩
theorem lw_p60 : lw_okq (⟨"SteppedSamplesModel", "digestOne", "(J)V"⟩, 20) := ⟨⟨by decide +kernel, by decide +kernel⟩, List.mem_of_getElem? (i := 863) (by decide +kernel), List.mem_of_getElem? (i := 1207) (by decide +kernel), List.mem_of_getElem? (i := 1208) (by decide +kernel)⟩
theorem lw_p61 : lw_okq (⟨"SteppedSamplesModel", "digestWave", "()V"⟩, 20) := ⟨⟨by decide +kernel, by decide +kernel⟩, List.mem_of_getElem? (i := 863) (by decide +kernel), List.mem_of_getElem? (i := 1212) (by decide +kernel), List.mem_of_getElem? (i := 1213) (by decide +kernel)⟩
def lw_privs_4 : List (MethodName × Nat) := [(⟨"SteppedSamplesModel", "writesNumber", "(I)V"⟩, 20), (⟨"SteppedSamplesModel", "toldOfSample", "(II)I"⟩, 20), (⟨"SteppedSamplesModel", "toldOfBlock", "(II)I"⟩, 20), (⟨"SteppedSamplesModel", "errorMade", "(II)I"⟩, 20), (⟨"SteppedSamplesModel", "counted", "(I)I"⟩, 20), (⟨"SteppedSamplesModel", "errorOfAll", "()I"⟩, 20), (⟨"SteppedSamplesModel", "greatest", "()I"⟩, 20), (⟨"SteppedSamplesModel", "alike", "()I"⟩, 20), (⟨"SteppedSamplesModel", "areSamples", "(II)Z"⟩, 20), (⟨"SteppedSamplesModel", "spreads", "(II)I"⟩, 20), (⟨"SteppedSamplesModel", "mean", "()D"⟩, 20), (⟨"SteppedSamplesModel", "loud", "()F"⟩, 20), (⟨"SteppedSamplesModel", "digestOne", "(J)V"⟩, 20), (⟨"SteppedSamplesModel", "digestWave", "()V"⟩, 20)]
theorem lw_r4 : ∀ q ∈ lw_privs_4, lw_okq q := List.forall_mem_cons.mpr ⟨lw_p48, List.forall_mem_cons.mpr ⟨lw_p49, List.forall_mem_cons.mpr ⟨lw_p50, List.forall_mem_cons.mpr ⟨lw_p51, List.forall_mem_cons.mpr ⟨lw_p52, List.forall_mem_cons.mpr ⟨lw_p53, List.forall_mem_cons.mpr ⟨lw_p54, List.forall_mem_cons.mpr ⟨lw_p55, List.forall_mem_cons.mpr ⟨lw_p56, List.forall_mem_cons.mpr ⟨lw_p57, List.forall_mem_cons.mpr ⟨lw_p58, List.forall_mem_cons.mpr ⟨lw_p59, List.forall_mem_cons.mpr ⟨lw_p60, List.forall_mem_cons.mpr ⟨lw_p61, fun _ h => absurd h List.not_mem_nil⟩⟩⟩⟩⟩⟩⟩⟩⟩⟩⟩⟩⟩⟩
def lw_privs : List (MethodName × Nat) := lw_privs_1 ++ (lw_privs_2 ++ (lw_privs_3 ++ (lw_privs_4)))
def lw_tbl : List Cond := k2_sels lw_privs ++ tables_1
theorem lw_privs_ok : ∀ q ∈ lw_privs, lw_okq q := by
  show ∀ q ∈ lw_privs_1 ++ (lw_privs_2 ++ (lw_privs_3 ++ (lw_privs_4))), lw_okq q
  exact List.forall_mem_append.mpr ⟨lw_r1, List.forall_mem_append.mpr ⟨lw_r2, List.forall_mem_append.mpr ⟨lw_r3, lw_r4⟩⟩⟩
/-- the streams that the claim lets the run draw from -/
abbrev lw_cs : List Choice := [Jvm.Choice.named "NaN.bits"]
theorem lw_bits : nanBits ∈ lw_cs := by first | decide | exact List.mem_cons_self | simp [lw_cs, nanBits]
end
section
/-! ===== BEGIN words of one list among another's, by their places ===== -/
theorem goodIn_r {big : List Cond} (ws : List Cond) (ps : List Nat) (hp : ws = ps.filterMap (fun i => big[i]?)) (h : ws.all goodWord = true) : GoodIn big ws := by
  intro w hw
  have h1 := List.all_eq_true.mp h w hw
  rw [hp] at hw
  obtain ⟨i, -, hi⟩ := List.mem_filterMap.mp hw
  have hm : w ∈ big := by first | exact List.mem_of_getElem? hi | exact List.getElem?_mem hi
  exact ⟨hm, good_of_word h1⟩
theorem goodIn_app {big a b : List Cond} (ha : GoodIn big a) (hb : GoodIn big b) : GoodIn big (a ++ b) := fun w h => (List.mem_append.mp h).elim (ha w) (hb w)
theorem goodIn_ca {big a b : List Cond} {c : Cond} (ha : GoodIn big (c :: a)) (hb : GoodIn big b) : GoodIn big (c :: (a ++ b)) := fun w h => (List.mem_cons.mp h).elim (fun e => ha w (List.mem_cons.mpr (Or.inl e))) (fun h => (List.mem_append.mp h).elim (fun h => ha w (List.mem_cons.mpr (Or.inr h))) (hb w))
theorem goodIn_sub {big ws : List Cond} (hm : ∀ w ∈ ws, w ∈ big) (h : ws.all goodWord = true) : GoodIn big ws := fun w hw => ⟨hm w hw, good_of_word (List.all_eq_true.mp h w hw)⟩
/-! ===== END ===== -/

/-! ===== BEGIN exceptions that leave a method, and their catching by the caller (launches without stack traces) ===== -/
section VXA
/-! The laws vx_back, vx_callV, vx_callS, vx_callSW, vx_throw0, vx_throwS follow proofs of the library, with one case more: JvmDerived/Free/Laws.lean (Back.of_free), Shelf42/LK1.lean (callV, callS), Shelf/KitTraced.lean (throwNew0V, throwNewS). -/
/-- where a method has thrown q: the class by its name, the cell, what was written, the world -/
def vx_T (XC : String → State → State → Prop) (st : State) (q : Addr) (t : State) (mc ms : Nat) (free : Addr → Prop) : Prop :=
  ∃ (E : String) (ce : Cell) (L : List Loc), XC E st t ∧ t.heap[q]? = some ce ∧ ce.vm = .none ∧ st.vm.findClass E = some ce.cls ∧ st.WarmedH t.vm ∧ st.sameButNew ({ t with vm := st.vm } : State) L mc ms ∧ ∀ z ∈ L, free z.base
def vx_Q (Qc : Array Value → State → Outcome → State → Prop) (XC : String → State → State → Prop) (mc ms : Nat) (free : Addr → Prop) : Array Value → State → Outcome → State → Prop := fun a st o t =>
  (Qc a st o t ∧ ∃ L, FrameEnd st o t L mc ms ∧ ∀ q ∈ L, free q.base) ∨ ∃ q, o = .threw q ∧ vx_T XC st q t mc ms free
/-- a callee that returns or throws -/
def vx_Met (l : Launch) (y : MethodName) (ws : List Cond) (rm : Room) (Pc : Array Value → State → Prop) (Qc : Array Value → State → Outcome → State → Prop) (XC : String → State → State → Prop) (mc ms : Nat) (free : Addr → Prop) : Prop :=
  MetFree l y (headSpec ws rm) Pc (fun _ _ _ _ _ => True) (vx_Q Qc XC mc ms free)
def vx_Post (XC : String → State → State → Prop) (mc ms : Nat) (free : Addr → Prop) : Pt → Array Value → Addr → Pt → Prop := fun A a q B =>
  ∃ (g : JFrame) (mk : MethodId) (t : State) (L : List Loc) (E : String) (ce : Cell), B.U.heap = t.heap ∧ B.U.vm = t.vm ∧ XC E (A.U.calling g mk a) t ∧ t.heap[q]? = some ce ∧ ce.vm = .none ∧ A.U.vm.findClass E = some ce.cls ∧ B.locs = A.locs ++ L ∧ (∀ z ∈ L, free z.base) ∧ B.cells = A.cells + mc ∧ B.slots = A.slots + ms
def vx_Back (l : Launch) (R : Room) (p : Program) (e : Env) (below : List Frame) (s : State) (sargs : Array Value) (y : MethodName) (len W9 : Nat)
    (Pre : Pt → Array Value → Prop) (Post : Pt → Array Value → Option Value → Pt → Prop) (PostX : Pt → Array Value → Addr → Pt → Prop) : Prop :=
  ∀ (m : MethodId) (meth : Method) (c : Code) (A : Pt) (g : JFrame) (ig : Instr) (mk : MethodId) (a : Array Value),
    Stand p l e R s m sargs below meth c A.U A.locs A.cells A.slots → g.method = m → g.locals.size = c.maxLocals → decode c.code g.pc = .ok (ig, len) →
    2 * g.monitorRoom + (g.stack.map fun v => v.category).sum ≤ W9 → A.U.methodNamed? y = some mk → Pre A a →
    (∃ (v : Option Value) (B : Pt), Stand p l e R s m sargs below meth c B.U B.locs B.cells B.slots ∧ Post A a v B ∧
      Steps p.tables e below (doInvoke e (A.U.setTop g) [] mk a).1 (B.U.setTop { g with pc := g.pc + len, stack := v.toList ++ g.stack })) ∨
    (∃ (q : Addr) (B : Pt), Stand p l e R s m sargs below meth c B.U B.locs B.cells B.slots ∧ PostX A a q B ∧
      Steps p.tables e below (doInvoke e (A.U.setTop g) [] mk a).1 ((B.U.setTop g).pushFrame (.throwing q)))
section Payer
variable {l : Launch} {R : Room} {p : Program} {e : Env} {below : List Frame} {s : State} {sargs : Array Value} {y : MethodName} {len W9 : Nat}
theorem vx_back {ws : List Cond} {rm : Room} {Pc : Array Value → State → Prop} {Qc : Array Value → State → Outcome → State → Prop} {XC : String → State → State → Prop} {mc ms : Nat} {free : Addr → Prop} {bytes : ByteArray} {maxL : Nat} {ret : Option FieldType}
    (hM : vx_Met l y ws rm Pc Qc XC mc ms free) (hblind : FrameBlind Pc) (hrc : rm.cells = mc) (hrs : rm.slots = ms)
    (hframes : rm.frames + 1 ≤ R.frames) (hlocals : W9 + (maxL + 11) + rm.locals ≤ R.locals)
    (hws : ∀ w ∈ ws, ∀ a' U, s.WarmedH U.vm → w.before a' U = true) (hcode : Cond.code y bytes maxL ret ∈ ws) (hinit : ∀ a' U, s.WarmedH U.vm → (Cond.initialized y.cls).before a' U = true) :
    vx_Back l R p e below s sargs y len W9 (PreOf R mc ms Pc) (PostOf Qc mc ms free) (vx_Post XC mc ms free) := by
  intro m meth c A g ig mk a X hg hsize hdg hW hn hp
  have h1 : (headSpec ws rm).pre.before a A.U = true := atoms_intro fun w hw => hws w hw _ _ X.warmed
  have h2 : (Cond.code y bytes maxL ret).before a A.U = true := hws _ hcode _ _ X.warmed
  have h3 : (Cond.initialized y.cls).before a A.U = true := hinit _ _ X.warmed
  have h4 : A.cells + (headSpec ws rm).room.cells ≤ R.cells := by rw [show (headSpec ws rm).room.cells = mc from hrc]; exact hp.1
  have h5 : A.slots + (headSpec ws rm).room.slots ≤ R.slots := by rw [show (headSpec ws rm).room.slots = ms from hrs]; exact hp.2.1
  have hPc : Pc a (A.U.calling g mk a) := hblind _ _ _ _ hp.2.2
  obtain ⟨U, Ls, c0, s0⟩ := A
  dsimp only [Pt.U, Pt.locs, Pt.cells, Pt.slots] at h1 h2 h3 h4 h5 X hn hPc ⊢
  obtain ⟨methY, cY, hmY, hcY, -, hlY, -, -, -, -⟩ := Cond.code_spec hn h2
  obtain ⟨kY, hkY, -⟩ := className_of_methodNamed hn
  have hinitY : kY.init = .initialized := Cond.initialized_spec (findClass_of_methodNamed hn) hkY h3
  have h : At U g.method c below := by rw [hg]; exact X.here
  have hlocals9 : W9 + (maxL + 11) + (headSpec ws rm).room.locals ≤ R.locals := hlocals
  have happ : (headSpec ws rm).appliesLoose y e.platform (U.calling g mk a) = true :=
    Spec.appliesLoose_calling (g := g) h hdg hn hkY hinitY
      (X.room_calling (g := g) (R' := (headSpec ws rm).room) hsize hmY hcY hframes (by rw [hlY]; omega) h4 h5) h1
  obtain ⟨mid, hmid⟩ := h.above
  have hfr : (U.setTop g).frames = (.java g :: mid) ++ below := by rw [State.frames_setTop' g h.top, hmid]; rfl
  obtain ⟨o, s₂, hsteps, -, hend, hq⟩ := Steps.callFree hM p X.admits X.cas X.clock (acts := []) hfr happ hPc trivial
  have hq' : vx_Q Qc XC mc ms free a (U.calling g mk a) o s₂ := hq
  rw [State.frames_setTop' g h.top] at hend
  obtain ⟨g₀, hg0⟩ := Option.isSome_iff_exists.mp h.top
  obtain ⟨r, hr⟩ := State.topJava?_eq_some.mp hg0
  have hr' : (({ U with heap := s₂.heap, slotsUsed := s₂.slotsUsed } : State).setVm s₂.vm).frames = .java g₀ :: r := hr
  rcases hq' with ⟨hqc, L, hfe, hL⟩ | ⟨q, rfl, E, ce, L, hx, hce, hcv, hcl, hW₂, hsm, hL⟩
  · obtain ⟨⟨v, rfl⟩, hW₂, e2, q2, q3, q4, q5, q6⟩ := id hfe
    have e3 : s₂ = ({ (U.calling g mk a).setFrames s₂.frames with heap := s₂.heap, slotsUsed := s₂.slotsUsed } : State).setVm s₂.vm := by
      have : s₂ = ({ s₂ with vm := (U.calling g mk a).vm } : State).setVm s₂.vm := rfl
      rw [e2] at this
      exact this
    obtain ⟨c₂, i₂, len₂, hc₂, hd₂, hf₂⟩ := hend
    have hW' : U.WarmedH s₂.vm := hW₂
    have hcc : c₂ = c := by
      have h1 : s₂.code? g.method = U.code? g.method := by
        rw [State.code?_eq, State.code?_eq, hW'.alike.method?]
      exact Option.some.inj (hc₂.symm.trans (h1.trans h.code))
    subst hcc
    have hlen : len₂ = len := by rw [hdg] at hd₂; cases hd₂; rfl
    subst hlen
    have hs₂ : s₂ = (({ U with heap := s₂.heap, slotsUsed := s₂.slotsUsed } : State).setVm s₂.vm).setTop { g with pc := g.pc + len₂, stack := v.toList ++ g.stack } := by
      refine e3.trans ?_
      rw [hf₂, State.calling_eq h.top, State.setFrames_setFrames, State.setTop_of_frames _ hr', hr]
      rfl
    have hsame : U.sameButNew ({ U with heap := s₂.heap, slotsUsed := s₂.slotsUsed } : State) L mc ms := by
      refine ⟨?_, q2, q3, q4, q5, q6⟩
      obtain ⟨t, ht, -⟩ := State.frames_cons hr
      show ({ U with heap := s₂.heap, slotsUsed := s₂.slotsUsed } : State) = { U.setFrames U.frames with heap := s₂.heap, slotsUsed := s₂.slotsUsed }
      rw [State.setFrames_self ht]
    subst hg
    refine Or.inl ⟨v, ⟨(({ U with heap := s₂.heap, slotsUsed := s₂.slotsUsed } : State).setVm s₂.vm), Ls ++ L, c0 + mc, s0 + ms⟩,
      ⟨X.admits, X.cas, X.clock, X.frames, X.room, X.hears, X.method, X.code, (X.here.setHeapUsed s₂.heap s₂.slotsUsed).setVm hW'.alike, X.tail, State.WarmedH.trans X.warmed hW', X.limits, X.bytes, X.same.trans (hsame.setVm s.vm)⟩,
      ⟨g, mk, s₂, L, rfl, rfl, hqc, rfl, hL, rfl, rfl⟩, ?_⟩
    show Steps p.tables e below _ ((({ U with heap := s₂.heap, slotsUsed := s₂.slotsUsed } : State).setVm s₂.vm).setTop { g with pc := g.pc + len₂, stack := v.toList ++ g.stack })
    rw [← hs₂]
    exact hsteps
  · obtain ⟨e2, q2, q3, q4, q5, q6⟩ := id hsm
    have e3 : s₂ = ({ (U.calling g mk a).setFrames s₂.frames with heap := s₂.heap, slotsUsed := s₂.slotsUsed } : State).setVm s₂.vm := by
      have : s₂ = ({ s₂ with vm := (U.calling g mk a).vm } : State).setVm s₂.vm := rfl
      rw [e2] at this
      exact this
    have hf₂ : s₂.frames = .throwing q :: .java g :: U.frames.tail := hend
    have hW' : U.WarmedH s₂.vm := hW₂
    have hs₂ : s₂ = ((({ U with heap := s₂.heap, slotsUsed := s₂.slotsUsed } : State).setVm s₂.vm).setTop g).pushFrame (.throwing q) := by
      refine e3.trans ?_
      rw [hf₂, State.calling_eq h.top, State.setFrames_setFrames, State.pushFrame, State.frames_setTop _ hr', State.setTop_of_frames _ hr', State.setFrames_setFrames, hr]
      rfl
    have hsame : U.sameButNew ({ U with heap := s₂.heap, slotsUsed := s₂.slotsUsed } : State) L mc ms := by
      refine ⟨?_, q2, q3, q4, q5, q6⟩
      obtain ⟨t, ht, -⟩ := State.frames_cons hr
      show ({ U with heap := s₂.heap, slotsUsed := s₂.slotsUsed } : State) = { U.setFrames U.frames with heap := s₂.heap, slotsUsed := s₂.slotsUsed }
      rw [State.setFrames_self ht]
    subst hg
    refine Or.inr ⟨q, ⟨(({ U with heap := s₂.heap, slotsUsed := s₂.slotsUsed } : State).setVm s₂.vm), Ls ++ L, c0 + mc, s0 + ms⟩,
      ⟨X.admits, X.cas, X.clock, X.frames, X.room, X.hears, X.method, X.code, (X.here.setHeapUsed s₂.heap s₂.slotsUsed).setVm hW'.alike, X.tail, State.WarmedH.trans X.warmed hW', X.limits, X.bytes, X.same.trans (hsame.setVm s.vm)⟩,
      ⟨g, mk, s₂, L, E, ce, rfl, rfl, hx, hce, hcv, hcl, rfl, hL, rfl, rfl⟩, ?_⟩
    show Steps p.tables e below _ (((({ U with heap := s₂.heap, slotsUsed := s₂.slotsUsed } : State).setVm s₂.vm).setTop g).pushFrame (.throwing q))
    rw [← hs₂]
    exact hsteps
end Payer
section Calls
variable {p : Program} {l : Launch} {e : Env} {R : Room} {s : State} {m : MethodId} {args : Array Value} {below : List Frame} {meth : Method} {c : Code} {T : State} {locs : List Loc} {cells slots : Nat}
theorem vx_callV (X : Stand p l e R s m args below meth c T locs cells slots) (hexec : p.tables.exec = Jvm.exec) {own C : String} {index : Nat} {y : MethodName} {bytes : ByteArray} {maxL : Nat} {ret : Option FieldType}
    (hown : s.vm.findClass own = some m.cls) (hlink : (Cond.methodLink own index y).before args s = true) (hinst : (Cond.instanceMethod y).before args s = true) (hsel : (Cond.selects C y y).before args s = true)
    (hcode : (Cond.code y bytes maxL ret).before args s = true) (hy : y.cls ≠ "java/lang/invoke/MethodHandle" ∧ y.cls ≠ "java/lang/invoke/VarHandle")
    {W9 : Nat} {Pre : Pt → Array Value → Prop} {Post : Pt → Array Value → Option Value → Pt → Prop} {PostX : Pt → Array Value → Addr → Pt → Prop} (hK : vx_Back l R p e below s args y 3 W9 Pre Post PostX)
    {b : Addr} {cellB : Cell} (hcell : T.heap[b]? = some cellB) (hobj : cellB.vm.isStatics = false) (hcls : s.vm.findClass C = some cellB.cls)
    {g : JFrame} (hg : g.method = m) (hsize : g.locals.size = c.maxLocals) {argsL rest : List Value} (hlen : ∀ sig, parseMethodDescriptor y.desc = some sig → argsL.length = sig.parameters.length)
    (hstack : g.stack = argsL.reverse ++ .ref b :: rest) (hW : 2 * g.monitorRoom + (rest.map fun v => v.category).sum ≤ W9) (hdg : decode c.code g.pc = .ok (.invokevirtual index, 3))
    (hpre : ∀ vm₁, s.WarmedH vm₁ → Pre ⟨T.setVm vm₁, locs, cells, slots⟩ (Value.ref b :: argsL).toArray) :
    (∃ (v : Option Value) (vm₁ : Vm) (B : Pt), s.WarmedH vm₁ ∧ Stand p l e R s m args below meth c B.U B.locs B.cells B.slots ∧ Post ⟨T.setVm vm₁, locs, cells, slots⟩ (Value.ref b :: argsL).toArray v B ∧
      ∀ target, Steps p.tables e below (B.U.setTop { g with pc := g.pc + 3, stack := v.toList ++ rest }) target → Steps p.tables e below (T.setTop g) target) ∨
    (∃ (q : Addr) (vm₁ : Vm) (B : Pt), s.WarmedH vm₁ ∧ Stand p l e R s m args below meth c B.U B.locs B.cells B.slots ∧ PostX ⟨T.setVm vm₁, locs, cells, slots⟩ (Value.ref b :: argsL).toArray q B ∧
      Steps p.tables e below (T.setTop g) ((B.U.setTop { g with stack := rest }).pushFrame (.throwing q))) := by
  obtain ⟨mk, methM, hnamed, hmethM, hstM, habM⟩ := Cond.instanceMethod_spec hinst
  obtain ⟨methM', cM, hmethM', -, -, -, -, -, -, hsigM⟩ := Cond.code_spec hnamed hcode
  cases hmethM.symm.trans hmethM'
  obtain ⟨c2, r2, m2, q1, q2, q3, q4, kP, hkP, hkPi⟩ := Cond.selects_spec hsel
  cases hcls.symm.trans q1
  cases (State.methodFound?_of_named hnamed hy).symm.trans q2
  cases hnamed.symm.trans q3
  have hselP : selectMethod e.platform s.vm cellB.cls mk = .method mk := by rw [Launch.admits_selectMethod X.admits]; exact q4
  obtain ⟨vm₁, X₁, hstep₁⟩ := X.invokevirtual hexec hown hlink hnamed hmethM hstM hkP hkPi hy (a := b) (cell := cellB) hcell
    (fun z h => by rw [h] at hobj; cases hobj) hselP hmethM habM hkP hkPi (g := g) hg (argsL := argsL) (rest := rest) (hlen _ hsigM) hstack hdg
  rcases hK m meth c ⟨T.setVm vm₁, locs, cells, slots⟩ { g with stack := rest } (.invokevirtual index) mk (Value.ref b :: argsL).toArray X₁ hg hsize hdg hW (X₁.named hnamed) (hpre vm₁ X₁.warmed) with ⟨v, B, X', hpost, hsteps⟩ | ⟨q, B, X', hpost, hsteps⟩
  · exact Or.inl ⟨v, vm₁, B, X₁.warmed, X', hpost, fun target h => hstep₁ _ fun acts => by rw [doInvoke_state]; exact hsteps.trans h⟩
  · exact Or.inr ⟨q, vm₁, B, X₁.warmed, X', hpost, hstep₁ _ fun acts => by rw [doInvoke_state]; exact hsteps⟩
theorem vx_callS (X : Stand p l e R s m args below meth c T locs cells slots) (hexec : p.tables.exec = Jvm.exec) {own : String} {index : Nat} {y : MethodName} {bytes : ByteArray} {maxL : Nat} {ret : Option FieldType}
    (hown : s.vm.findClass own = some m.cls) (hlink : (Cond.methodLink own index y).before args s = true) (hstat : (Cond.static y).before args s = true) (hinit : (Cond.initialized y.cls).before args s = true)
    (hcode : (Cond.code y bytes maxL ret).before args s = true) (hy : y.cls ≠ "java/lang/invoke/MethodHandle" ∧ y.cls ≠ "java/lang/invoke/VarHandle")
    {W9 : Nat} {Pre : Pt → Array Value → Prop} {Post : Pt → Array Value → Option Value → Pt → Prop} {PostX : Pt → Array Value → Addr → Pt → Prop} (hK : vx_Back l R p e below s args y 3 W9 Pre Post PostX)
    {g : JFrame} (hg : g.method = m) (hsize : g.locals.size = c.maxLocals) {argsL rest : List Value} (hlen : ∀ sig, parseMethodDescriptor y.desc = some sig → argsL.length = sig.parameters.length)
    (hstack : g.stack = argsL.reverse ++ rest) (hW : 2 * g.monitorRoom + (rest.map fun v => v.category).sum ≤ W9) (hdg : decode c.code g.pc = .ok (.invokestatic index, 3))
    (hpre : ∀ vm₁, s.WarmedH vm₁ → Pre ⟨T.setVm vm₁, locs, cells, slots⟩ argsL.toArray) :
    (∃ (v : Option Value) (vm₁ : Vm) (B : Pt), s.WarmedH vm₁ ∧ Stand p l e R s m args below meth c B.U B.locs B.cells B.slots ∧ Post ⟨T.setVm vm₁, locs, cells, slots⟩ argsL.toArray v B ∧
      ∀ target, Steps p.tables e below (B.U.setTop { g with pc := g.pc + 3, stack := v.toList ++ rest }) target → Steps p.tables e below (T.setTop g) target) ∨
    (∃ (q : Addr) (vm₁ : Vm) (B : Pt), s.WarmedH vm₁ ∧ Stand p l e R s m args below meth c B.U B.locs B.cells B.slots ∧ PostX ⟨T.setVm vm₁, locs, cells, slots⟩ argsL.toArray q B ∧
      Steps p.tables e below (T.setTop g) ((B.U.setTop { g with stack := rest }).pushFrame (.throwing q))) := by
  obtain ⟨mk, hnamed⟩ := Cond.code_named hcode
  obtain ⟨methM, cM, hmethM, -, -, -, -, -, -, hsigM⟩ := Cond.code_spec hnamed hcode
  have hstatic : methM.isStatic = true := Cond.static_spec hnamed hmethM hstat
  obtain ⟨kP, hkP, -⟩ := className_of_methodNamed hnamed
  have hinitP : kP.init = .initialized := Cond.initialized_spec (findClass_of_methodNamed hnamed) hkP hinit
  obtain ⟨vm₁, X₁, hstep₁⟩ := X.invokestatic hexec hown hlink hnamed hmethM hstatic hkP hinitP hy (g := g) hg (argsL := argsL) (rest := rest) (hlen _ hsigM) hstack hdg
  rcases hK m meth c ⟨T.setVm vm₁, locs, cells, slots⟩ { g with stack := rest } (.invokestatic index) mk argsL.toArray X₁ hg hsize hdg hW (X₁.named hnamed) (hpre vm₁ X₁.warmed) with ⟨v, B, X', hpost, hsteps⟩ | ⟨q, B, X', hpost, hsteps⟩
  · exact Or.inl ⟨v, vm₁, B, X₁.warmed, X', hpost, fun target h => hstep₁ _ fun acts => by rw [doInvoke_state]; exact hsteps.trans h⟩
  · exact Or.inr ⟨q, vm₁, B, X₁.warmed, X', hpost, hstep₁ _ fun acts => by rw [doInvoke_state]; exact hsteps⟩
end Calls
theorem vx_cls {s : State} {T : State} {vm₁ : Vm} {E : String} {k : ClassId} (hW : s.WarmedH vm₁) (h : (T.setVm vm₁).vm.findClass E = some k) : s.vm.findClass E = some k := by
  have h1 : vm₁.findClass E = some k := h
  rw [hW.alike.findClass] at h1
  exact h1
/-- the method's frame g, with q thrown over it -/
def vx_W (p : Program) (l : Launch) (e : Env) (R : Room) (s : State) (m : MethodId) (args : Array Value) (below : List Frame) (meth : Method) (c : Code) (H : Heap) (locs : List Loc) (cells slots : Nat) (Q : State → Prop) (g : JFrame) (q : Addr) : Prop :=
  ∀ T : State, T.heap = H → Stand p l e R s m args below meth c T locs cells slots → ∃ t, Steps p.tables e below ((T.setTop g).pushFrame (.throwing q)) t ∧ Q t
def vx_Run (p : Program) (l : Launch) (e : Env) (R : Room) (s : State) (m : MethodId) (args : Array Value) (below : List Frame) (meth : Method) (c : Code) (H : Heap) (locs : List Loc) (cells slots mc ms : Nat) (g : JFrame) (rest : List Value) (Qa : State → Outcome → State → Prop) (XC : String → State → State → Prop) (free : Addr → Prop) : Prop :=
  ∀ T : State, T.heap = H → Stand p l e R s m args below meth c T locs cells slots →
    (∃ (v : Option Value) (st₀ t T' : State) (L : List Loc), st₀.heap = H ∧ Stand p l e R s m args below meth c T' (locs ++ L) (cells + mc) (slots + ms) ∧ (∀ q ∈ L, free q.base) ∧ T'.heap = t.heap ∧ T'.vm = t.vm ∧ Qa st₀ (.returned v) t ∧
      Goes p e below T g T' { g with pc := g.pc + 3, stack := v.toList ++ rest }) ∨
    (∃ (q : Addr) (st₀ t T' : State) (L : List Loc) (E : String) (ce : Cell), st₀.heap = H ∧ Stand p l e R s m args below meth c T' (locs ++ L) (cells + mc) (slots + ms) ∧ (∀ z ∈ L, free z.base) ∧ T'.heap = t.heap ∧ T'.vm = t.vm ∧ XC E st₀ t ∧ t.heap[q]? = some ce ∧ ce.vm = .none ∧ s.vm.findClass E = some ce.cls ∧
      Steps p.tables e below (T.setTop g) ((T'.setTop { g with stack := rest }).pushFrame (.throwing q)))
def vx_X {S : Type} (px : S → Prop) (B : String → S → State → Prop) (A : Nat → Prop) : String → State → State → Prop := fun E st t => ∃ u : S, px u ∧ B E u t ∧ va_F A st t
section Runs
variable {p : Program} {l : Launch} {e : Env} {R : Room} {s : State} {m : MethodId} {args : Array Value} {below : List Frame} {meth : Method} {c : Code} {H : Heap} {locs : List Loc} {cells slots : Nat}
variable {y : MethodName} {bytes cc : ByteArray} {maxL nL mc ms n index : Nat} {ret : Option FieldType} {ws : List Cond} {rm : Room} {Pc : Array Value → State → Prop} {Qc : Array Value → State → Outcome → State → Prop} {XC : String → State → State → Prop} {free : Addr → Prop} {Ts : List Cond} {own C : String} {b : Addr} {As rest : List Value} {g : JFrame}
theorem vx_callBack (cb : CallB R s args own index y bytes maxL ret ws rm mc ms n) (hM : vx_Met l y ws rm Pc Qc XC mc ms free) (hbl : FrameBlind Pc) : vx_Back l R p e below s args y 3 8 (PreOf R mc ms Pc) (PostOf Qc mc ms free) (vx_Post XC mc ms free) := by
  obtain ⟨hrc, hrs, hfr, hlo, hws, hcw, -, hini, -⟩ := cb
  exact vx_back (bytes := bytes) (maxL := maxL) (ret := ret) hM hbl hrc hrs hfr hlo hws hcw (fun a' U hW => word_at hW (Or.inl (by first | rfl | simp [Cond.onTables, Cond.keeps, Cond.steady])) hini)
theorem vx_runV (S : CallFix p m c cc nL s args Ts own) (hM : vx_Met l y ws rm Pc Qc XC mc ms free) (cw : CallW R s args own C index y bytes maxL ret ws rm mc ms n) (hp : PreV s H C b Pc As)
    (hg : g.method = m) (hn : As.length = n) (hsize : g.locals.size = nL) (hstack : g.stack = As.reverse ++ .ref b :: rest) (hW : 2 * g.monitorRoom + (rest.map fun v => v.category).sum ≤ 8) (hdg : decode cc g.pc = .ok (.invokevirtual index, 3)) (hf : cells + mc ≤ R.cells ∧ slots + ms ≤ R.slots) :
    vx_Run p l e R s m args below meth c H locs cells slots mc ms g rest (Qc (Value.ref b :: As).toArray) XC free := by
  have hK : vx_Back l R p e below s args y 3 8 (PreOf R mc ms Pc) (PostOf Qc mc ms free) (vx_Post XC mc ms free) := vx_callBack cw.1 hM hp.1
  obtain ⟨⟨-, -, -, -, -, -, hcode, -, hy, hlen, hl⟩, hin, hse⟩ := cw
  obtain ⟨hx, hb, hml, ho, -⟩ := S
  obtain ⟨-, ⟨cellB, hcB, hoB, hclB⟩, hPc⟩ := hp
  intro T hT X
  rcases vx_callV X hx (C := C) (bytes := bytes) (maxL := maxL) (ret := ret) ho hl hin hse hcode hy hK (by rw [hT]; exact hcB) hoB hclB hg (hsize.trans hml.symm) (argsL := As) (rest := rest) (fun sig h => hn.trans (hlen sig h)) hstack hW (by rw [hb]; exact hdg)
    (fun vm₁ hW₁ => ⟨hf.1, hf.2, hPc (T.setVm vm₁) hT hW₁⟩) with ⟨v, vm₁, ⟨U', l2, c2, s2⟩, hW₁, X', ⟨g', mk, t, L, e1, e2, hq, h1, hL, h2, h3⟩, st⟩ | ⟨q, vm₁, ⟨U', l2, c2, s2⟩, hW₁, X', ⟨g', mk, t, L, E, ce, e1, e2, hq, hce, hcv, hcl, h1, hL, h2, h3⟩, st⟩
  · dsimp only [Pt.U, Pt.locs, Pt.cells, Pt.slots] at X' e1 e2 h1 h2 h3 st
    subst h1; subst h2; subst h3
    exact Or.inl ⟨v, (T.setVm vm₁).calling g' mk (Value.ref b :: As).toArray, t, U', L, hT, X', hL, e1, e2, hq, st⟩
  · dsimp only [Pt.U, Pt.locs, Pt.cells, Pt.slots] at X' e1 e2 h1 h2 h3 st hcl
    subst h1; subst h2; subst h3
    exact Or.inr ⟨q, (T.setVm vm₁).calling g' mk (Value.ref b :: As).toArray, t, U', L, E, ce, hT, X', hL, e1, e2, hq, hce, hcv, vx_cls hW₁ hcl, st⟩
theorem vx_runS (S : CallFix p m c cc nL s args Ts own) (hM : vx_Met l y ws rm Pc Qc XC mc ms free) (cw : CallB R s args own index y bytes maxL ret ws rm mc ms n ∧ (Cond.static y).before args s = true) (hp : PreS s H Pc As)
    (hg : g.method = m) (hn : As.length = n) (hsize : g.locals.size = nL) (hstack : g.stack = As.reverse ++ rest) (hW : 2 * g.monitorRoom + (rest.map fun v => v.category).sum ≤ 8) (hdg : decode cc g.pc = .ok (.invokestatic index, 3)) (hf : cells + mc ≤ R.cells ∧ slots + ms ≤ R.slots) :
    vx_Run p l e R s m args below meth c H locs cells slots mc ms g rest (Qc As.toArray) XC free := by
  have hK : vx_Back l R p e below s args y 3 8 (PreOf R mc ms Pc) (PostOf Qc mc ms free) (vx_Post XC mc ms free) := vx_callBack cw.1 hM hp.1
  obtain ⟨⟨-, -, -, -, -, -, hcode, hini, hy, hlen, hl⟩, hstt⟩ := cw
  obtain ⟨hx, hb, hml, ho, -⟩ := S
  intro T hT X
  rcases vx_callS X hx (bytes := bytes) (maxL := maxL) (ret := ret) ho hl hstt hini hcode hy hK hg (hsize.trans hml.symm) (argsL := As) (rest := rest) (fun sig h => hn.trans (hlen sig h)) hstack hW (by rw [hb]; exact hdg)
    (fun vm₁ hW₁ => ⟨hf.1, hf.2, hp.2 (T.setVm vm₁) hT hW₁⟩) with ⟨v, vm₁, ⟨U', l2, c2, s2⟩, hW₁, X', ⟨g', mk, t, L, e1, e2, hq, h1, hL, h2, h3⟩, st⟩ | ⟨q, vm₁, ⟨U', l2, c2, s2⟩, hW₁, X', ⟨g', mk, t, L, E, ce, e1, e2, hq, hce, hcv, hcl, h1, hL, h2, h3⟩, st⟩
  · dsimp only [Pt.U, Pt.locs, Pt.cells, Pt.slots] at X' e1 e2 h1 h2 h3 st
    subst h1; subst h2; subst h3
    exact Or.inl ⟨v, (T.setVm vm₁).calling g' mk As.toArray, t, U', L, hT, X', hL, e1, e2, hq, st⟩
  · dsimp only [Pt.U, Pt.locs, Pt.cells, Pt.slots] at X' e1 e2 h1 h2 h3 st hcl
    subst h1; subst h2; subst h3
    exact Or.inr ⟨q, (T.setVm vm₁).calling g' mk As.toArray, t, U', L, E, ce, hT, X', hL, e1, e2, hq, hce, hcv, vx_cls hW₁ hcl, st⟩
end Runs
section Rows
variable {p : Program} {l : Launch} {e : Env} {R : Room} {s : State} {m : MethodId} {args : Array Value} {below : List Frame} {meth : Method} {c : Code} {H : Heap} {locs : List Loc} {cells slots : Nat} {Q : State → Prop}
variable {mc ms : Nat} {free : Addr → Prop} {A0 A1 : Nat → Prop} {H0 : Heap} {a : Array Value} {pc : Nat} {ls : Array Slot} {st0 rest : List Value}
theorem vx_keep {st₀ t T' : State} {L : List Loc} (h0 : st₀.heap = H) (e1 : T'.heap = t.heap) (hS : va_S A0 H0 H locs) (hA : ∀ q, q < H.size → A1 q → A0 q) (hf : ∀ q, free q → A0 q) (hL : ∀ q ∈ L, free q.base) (hF : va_F A1 st₀ t) :
    H.size ≤ T'.heap.size ∧ (∀ q : Nat, q < H.size → ¬ A1 q → T'.heap[q]? = H[q]?) ∧ va_S A0 H0 T'.heap (locs ++ L) := by
  obtain ⟨hz, hk⟩ := hF
  rw [h0] at hz hk
  exact ⟨by rw [e1]; exact hz, fun q h1 h2 => by rw [e1]; exact hk q h1 h2,
    ⟨Nat.le_trans hS.1 (by rw [e1]; exact hz), fun q h1 h2 => by rw [e1, hk q (Nat.lt_of_lt_of_le h1 hS.1) (fun z => h2 (hA q (Nat.lt_of_lt_of_le h1 hS.1) z))]; exact hS.2.1 q h1 h2, fun q hq => by
      rcases List.mem_append.mp hq with h | h
      · exact hS.2.2 q h
      · exact hf _ (hL q h)⟩⟩
theorem vx_calli {S SX : Type} {post : Int32 → S → Prop} {px : SX → Prop} {B : S → State → Prop} {BX : String → SX → State → Prop} {AX : Nat → Prop} (hr : vx_Run p l e R s m args below meth c H locs cells slots mc ms (F0 m pc ls st0) rest (va_Qi post B A1 a) (vx_X px BX AX) free) (hS : va_S A0 H0 H locs) (hA : ∀ q, q < H.size → A1 q → A0 q) (hf : ∀ q, free q → A0 q) (hAX : ∀ q, q < H.size → AX q → A0 q)
    (kx : ∀ (E : String) (ce : Cell) (q9 : Addr) (u : SX) (t : State) (H1 : Heap) (locs1 : List Loc), t.heap = H1 → s.vm.Alike t.vm → px u → BX E u t → H.size ≤ H1.size → (∀ q : Nat, q < H.size → ¬ AX q → H1[q]? = H[q]?) → va_S A0 H0 H1 locs1 → H1[q9]? = some ce → ce.vm = .none → s.vm.findClass E = some ce.cls → vx_W p l e R s m args below meth c H1 locs1 (cells + mc) (slots + ms) Q (F0 m pc ls rest) q9)
    (kk : ∀ (r : Int32) (u : S) (t : State) (H1 : Heap) (locs1 : List Loc), t.heap = H1 → s.vm.Alike t.vm → post r u → B u t → H.size ≤ H1.size → (∀ q : Nat, q < H.size → ¬ A1 q → H1[q]? = H[q]?) → va_S A0 H0 H1 locs1 → W p l e R s m args below meth c H1 locs1 (cells + mc) (slots + ms) Q (F0 m (pc + 3) ls (.int r :: rest))) : W p l e R s m args below meth c H locs cells slots Q (F0 m pc ls st0) := by
  intro T hT X
  rcases hr T hT X with ⟨v, st₀, t, T', L, h0, X', hL, e1, e2, ⟨⟨r, u, hv, hp, hb⟩, hF⟩, st⟩ | ⟨q, st₀, t, T', L, E, ce, h0, X', hL, e1, e2, ⟨u, hp, hb, hF⟩, hce, hcv, hcl, st⟩
  · cases hv
    obtain ⟨k1, k2, k3⟩ := vx_keep h0 e1 hS hA hf hL hF
    obtain ⟨t2, a1, b1⟩ := kk r u t T'.heap (locs ++ L) e1.symm (by rw [← e2]; exact X'.warmed.alike) hp hb k1 k2 k3 T' rfl X'
    exact ⟨t2, st t2 a1, b1⟩
  · obtain ⟨k1, k2, k3⟩ := vx_keep h0 e1 hS hAX hf hL hF
    obtain ⟨t2, a1, b1⟩ := kx E ce q u t T'.heap (locs ++ L) e1.symm (by rw [← e2]; exact X'.warmed.alike) hp hb k1 k2 k3 (by rw [e1]; exact hce) hcv hcl T' rfl X'
    exact ⟨t2, st.trans a1, b1⟩
theorem vx_calll {S SX : Type} {post : Int64 → S → Prop} {px : SX → Prop} {B : S → State → Prop} {BX : String → SX → State → Prop} {AX : Nat → Prop} (hr : vx_Run p l e R s m args below meth c H locs cells slots mc ms (F0 m pc ls st0) rest (va_Ql post B A1 a) (vx_X px BX AX) free) (hS : va_S A0 H0 H locs) (hA : ∀ q, q < H.size → A1 q → A0 q) (hf : ∀ q, free q → A0 q) (hAX : ∀ q, q < H.size → AX q → A0 q)
    (kx : ∀ (E : String) (ce : Cell) (q9 : Addr) (u : SX) (t : State) (H1 : Heap) (locs1 : List Loc), t.heap = H1 → s.vm.Alike t.vm → px u → BX E u t → H.size ≤ H1.size → (∀ q : Nat, q < H.size → ¬ AX q → H1[q]? = H[q]?) → va_S A0 H0 H1 locs1 → H1[q9]? = some ce → ce.vm = .none → s.vm.findClass E = some ce.cls → vx_W p l e R s m args below meth c H1 locs1 (cells + mc) (slots + ms) Q (F0 m pc ls rest) q9)
    (kk : ∀ (r : Int64) (u : S) (t : State) (H1 : Heap) (locs1 : List Loc), t.heap = H1 → s.vm.Alike t.vm → post r u → B u t → H.size ≤ H1.size → (∀ q : Nat, q < H.size → ¬ A1 q → H1[q]? = H[q]?) → va_S A0 H0 H1 locs1 → W p l e R s m args below meth c H1 locs1 (cells + mc) (slots + ms) Q (F0 m (pc + 3) ls (.long r :: rest))) : W p l e R s m args below meth c H locs cells slots Q (F0 m pc ls st0) := by
  intro T hT X
  rcases hr T hT X with ⟨v, st₀, t, T', L, h0, X', hL, e1, e2, ⟨⟨r, u, hv, hp, hb⟩, hF⟩, st⟩ | ⟨q, st₀, t, T', L, E, ce, h0, X', hL, e1, e2, ⟨u, hp, hb, hF⟩, hce, hcv, hcl, st⟩
  · cases hv
    obtain ⟨k1, k2, k3⟩ := vx_keep h0 e1 hS hA hf hL hF
    obtain ⟨t2, a1, b1⟩ := kk r u t T'.heap (locs ++ L) e1.symm (by rw [← e2]; exact X'.warmed.alike) hp hb k1 k2 k3 T' rfl X'
    exact ⟨t2, st t2 a1, b1⟩
  · obtain ⟨k1, k2, k3⟩ := vx_keep h0 e1 hS hAX hf hL hF
    obtain ⟨t2, a1, b1⟩ := kx E ce q u t T'.heap (locs ++ L) e1.symm (by rw [← e2]; exact X'.warmed.alike) hp hb k1 k2 k3 (by rw [e1]; exact hce) hcv hcl T' rfl X'
    exact ⟨t2, st.trans a1, b1⟩
theorem vx_callf {S SX : Type} {post : UInt32 → S → Prop} {px : SX → Prop} {B : S → State → Prop} {BX : String → SX → State → Prop} {AX : Nat → Prop} (hr : vx_Run p l e R s m args below meth c H locs cells slots mc ms (F0 m pc ls st0) rest (va_Qf post B A1 a) (vx_X px BX AX) free) (hS : va_S A0 H0 H locs) (hA : ∀ q, q < H.size → A1 q → A0 q) (hf : ∀ q, free q → A0 q) (hAX : ∀ q, q < H.size → AX q → A0 q)
    (kx : ∀ (E : String) (ce : Cell) (q9 : Addr) (u : SX) (t : State) (H1 : Heap) (locs1 : List Loc), t.heap = H1 → s.vm.Alike t.vm → px u → BX E u t → H.size ≤ H1.size → (∀ q : Nat, q < H.size → ¬ AX q → H1[q]? = H[q]?) → va_S A0 H0 H1 locs1 → H1[q9]? = some ce → ce.vm = .none → s.vm.findClass E = some ce.cls → vx_W p l e R s m args below meth c H1 locs1 (cells + mc) (slots + ms) Q (F0 m pc ls rest) q9)
    (kk : ∀ (r : UInt32) (u : S) (t : State) (H1 : Heap) (locs1 : List Loc), t.heap = H1 → s.vm.Alike t.vm → post r u → B u t → H.size ≤ H1.size → (∀ q : Nat, q < H.size → ¬ A1 q → H1[q]? = H[q]?) → va_S A0 H0 H1 locs1 → W p l e R s m args below meth c H1 locs1 (cells + mc) (slots + ms) Q (F0 m (pc + 3) ls (.float r :: rest))) : W p l e R s m args below meth c H locs cells slots Q (F0 m pc ls st0) := by
  intro T hT X
  rcases hr T hT X with ⟨v, st₀, t, T', L, h0, X', hL, e1, e2, ⟨⟨r, u, hv, hp, hb⟩, hF⟩, st⟩ | ⟨q, st₀, t, T', L, E, ce, h0, X', hL, e1, e2, ⟨u, hp, hb, hF⟩, hce, hcv, hcl, st⟩
  · cases hv
    obtain ⟨k1, k2, k3⟩ := vx_keep h0 e1 hS hA hf hL hF
    obtain ⟨t2, a1, b1⟩ := kk r u t T'.heap (locs ++ L) e1.symm (by rw [← e2]; exact X'.warmed.alike) hp hb k1 k2 k3 T' rfl X'
    exact ⟨t2, st t2 a1, b1⟩
  · obtain ⟨k1, k2, k3⟩ := vx_keep h0 e1 hS hAX hf hL hF
    obtain ⟨t2, a1, b1⟩ := kx E ce q u t T'.heap (locs ++ L) e1.symm (by rw [← e2]; exact X'.warmed.alike) hp hb k1 k2 k3 (by rw [e1]; exact hce) hcv hcl T' rfl X'
    exact ⟨t2, st.trans a1, b1⟩
theorem vx_calld {S SX : Type} {post : UInt64 → S → Prop} {px : SX → Prop} {B : S → State → Prop} {BX : String → SX → State → Prop} {AX : Nat → Prop} (hr : vx_Run p l e R s m args below meth c H locs cells slots mc ms (F0 m pc ls st0) rest (va_Qd post B A1 a) (vx_X px BX AX) free) (hS : va_S A0 H0 H locs) (hA : ∀ q, q < H.size → A1 q → A0 q) (hf : ∀ q, free q → A0 q) (hAX : ∀ q, q < H.size → AX q → A0 q)
    (kx : ∀ (E : String) (ce : Cell) (q9 : Addr) (u : SX) (t : State) (H1 : Heap) (locs1 : List Loc), t.heap = H1 → s.vm.Alike t.vm → px u → BX E u t → H.size ≤ H1.size → (∀ q : Nat, q < H.size → ¬ AX q → H1[q]? = H[q]?) → va_S A0 H0 H1 locs1 → H1[q9]? = some ce → ce.vm = .none → s.vm.findClass E = some ce.cls → vx_W p l e R s m args below meth c H1 locs1 (cells + mc) (slots + ms) Q (F0 m pc ls rest) q9)
    (kk : ∀ (r : UInt64) (u : S) (t : State) (H1 : Heap) (locs1 : List Loc), t.heap = H1 → s.vm.Alike t.vm → post r u → B u t → H.size ≤ H1.size → (∀ q : Nat, q < H.size → ¬ A1 q → H1[q]? = H[q]?) → va_S A0 H0 H1 locs1 → W p l e R s m args below meth c H1 locs1 (cells + mc) (slots + ms) Q (F0 m (pc + 3) ls (.double r :: rest))) : W p l e R s m args below meth c H locs cells slots Q (F0 m pc ls st0) := by
  intro T hT X
  rcases hr T hT X with ⟨v, st₀, t, T', L, h0, X', hL, e1, e2, ⟨⟨r, u, hv, hp, hb⟩, hF⟩, st⟩ | ⟨q, st₀, t, T', L, E, ce, h0, X', hL, e1, e2, ⟨u, hp, hb, hF⟩, hce, hcv, hcl, st⟩
  · cases hv
    obtain ⟨k1, k2, k3⟩ := vx_keep h0 e1 hS hA hf hL hF
    obtain ⟨t2, a1, b1⟩ := kk r u t T'.heap (locs ++ L) e1.symm (by rw [← e2]; exact X'.warmed.alike) hp hb k1 k2 k3 T' rfl X'
    exact ⟨t2, st t2 a1, b1⟩
  · obtain ⟨k1, k2, k3⟩ := vx_keep h0 e1 hS hAX hf hL hF
    obtain ⟨t2, a1, b1⟩ := kx E ce q u t T'.heap (locs ++ L) e1.symm (by rw [← e2]; exact X'.warmed.alike) hp hb k1 k2 k3 (by rw [e1]; exact hce) hcv hcl T' rfl X'
    exact ⟨t2, st.trans a1, b1⟩
theorem vx_callv {S SX : Type} {post : S → Prop} {px : SX → Prop} {B : S → State → Prop} {BX : String → SX → State → Prop} {AX : Nat → Prop} (hr : vx_Run p l e R s m args below meth c H locs cells slots mc ms (F0 m pc ls st0) rest (va_Qv post B A1 a) (vx_X px BX AX) free) (hS : va_S A0 H0 H locs) (hA : ∀ q, q < H.size → A1 q → A0 q) (hf : ∀ q, free q → A0 q) (hAX : ∀ q, q < H.size → AX q → A0 q)
    (kx : ∀ (E : String) (ce : Cell) (q9 : Addr) (u : SX) (t : State) (H1 : Heap) (locs1 : List Loc), t.heap = H1 → s.vm.Alike t.vm → px u → BX E u t → H.size ≤ H1.size → (∀ q : Nat, q < H.size → ¬ AX q → H1[q]? = H[q]?) → va_S A0 H0 H1 locs1 → H1[q9]? = some ce → ce.vm = .none → s.vm.findClass E = some ce.cls → vx_W p l e R s m args below meth c H1 locs1 (cells + mc) (slots + ms) Q (F0 m pc ls rest) q9)
    (kk : ∀ (u : S) (t : State) (H1 : Heap) (locs1 : List Loc), t.heap = H1 → s.vm.Alike t.vm → post u → B u t → H.size ≤ H1.size → (∀ q : Nat, q < H.size → ¬ A1 q → H1[q]? = H[q]?) → va_S A0 H0 H1 locs1 → W p l e R s m args below meth c H1 locs1 (cells + mc) (slots + ms) Q (F0 m (pc + 3) ls (rest))) : W p l e R s m args below meth c H locs cells slots Q (F0 m pc ls st0) := by
  intro T hT X
  rcases hr T hT X with ⟨v, st₀, t, T', L, h0, X', hL, e1, e2, ⟨⟨u, hv, hp, hb⟩, hF⟩, st⟩ | ⟨q, st₀, t, T', L, E, ce, h0, X', hL, e1, e2, ⟨u, hp, hb, hF⟩, hce, hcv, hcl, st⟩
  · cases hv
    obtain ⟨k1, k2, k3⟩ := vx_keep h0 e1 hS hA hf hL hF
    obtain ⟨t2, a1, b1⟩ := kk u t T'.heap (locs ++ L) e1.symm (by rw [← e2]; exact X'.warmed.alike) hp hb k1 k2 k3 T' rfl X'
    exact ⟨t2, st t2 a1, b1⟩
  · obtain ⟨k1, k2, k3⟩ := vx_keep h0 e1 hS hAX hf hL hF
    obtain ⟨t2, a1, b1⟩ := kx E ce q u t T'.heap (locs ++ L) e1.symm (by rw [← e2]; exact X'.warmed.alike) hp hb k1 k2 k3 (by rw [e1]; exact hce) hcv hcl T' rfl X'
    exact ⟨t2, st.trans a1, b1⟩
/-- caught by the row x of this method's table; the rows ahead don't take it -/
theorem vx_catch {own name : String} {E : String} {ce : Cell} {q : Addr} (hown : s.vm.findClass own = some m.cls) (pre : List ExceptionTableEntry) (x : ExceptionTableEntry) (suf : List ExceptionTableEntry) (hsplit : c.exceptionTable.toList = pre ++ x :: suf)
    (hpass : ∀ z ∈ pre, covers z pc = false ∨ (z.catchType ≠ 0 ∧ ∃ nm : String, (Cond.classLink own z.catchType nm).before args s = true ∧ va_Nc E nm s)) (hx : covers x pc = true) (h0 : x.catchType ≠ 0)
    (hlink : (Cond.classLink own x.catchType name).before args s = true) (hcast : (Cond.castable E name).before args s = true) (hcell : H[q]? = some ce) (hv : ce.vm = .none) (hcl : s.vm.findClass E = some ce.cls)
    (kk : W p l e R s m args below meth c H locs cells slots Q (F0 m x.handlerPc ls [.ref q])) : vx_W p l e R s m args below meth c H locs cells slots Q (F0 m pc ls rest) q := by
  intro T hT X
  have hpl : e.platform.magicAccessors = ({} : Platform).magicAccessors := by rw [X.admits.platform]
  obtain ⟨c3, c4, hc3, hc4, hasg⟩ := Cond.castable_spec hcast
  cases Option.some.inj (hc3.symm.trans hcl)
  obtain ⟨c5, hc5, hcl5⟩ := Cond.classLink_spec hown hlink e.platform hpl
  cases Option.some.inj (hc4.symm.trans hc5)
  obtain ⟨vm', X', st⟩ := X.thenCaughtThrough q (g := F0 m pc ls rest) rfl (Steps.refl _) (by rw [hT]; exact hcell) (by rw [hv]; rfl) (by obtain ⟨k9, h9, -⟩ := Vm.findClass_spec hcl; exact ⟨k9, h9⟩) pre x suf hsplit
    (fun z hz => by
      rcases hpass z hz with h | ⟨hz0, nm, hl1, hn1⟩
      · exact Or.inl h
      · obtain ⟨c6, hc6, hcl6⟩ := Cond.classLink_spec hown hl1 e.platform hpl
        obtain ⟨a8, b8, h1, h2, h3⟩ := hn1
        cases Option.some.inj (h1.symm.trans hcl)
        cases Option.some.inj (h2.symm.trans hc6)
        exact Or.inr ⟨hz0, _, hcl6, h3⟩) hx (Or.inr ⟨h0, c4, hcl5, hasg⟩)
  obtain ⟨t, a1, b1⟩ := kk (T.setVm vm') hT X'
  exact ⟨t, st.trans a1, b1⟩
end Rows
section Ends
variable {p : Program} {l : Launch} {e : Env} {R : Room} {s : State} {m : MethodId} {args : Array Value} {below : List Frame} {meth : Method} {c : Code} {H : Heap} {locs : List Loc} {cells slots : Nat} {Q : State → Prop}
variable {mc ms : Nat} {free : Addr → Prop} {A0 A1 : Nat → Prop} {H0 : Heap} {a : Array Value} {ls : Array Slot} {st0 rest : List Value}
variable {Qc : Array Value → State → Outcome → State → Prop} {XC : String → State → State → Prop}
/-- what a body that may throw owes at its end -/
def vx_MQ (below : List Frame) (Qc : Array Value → State → Outcome → State → Prop) (XC : String → State → State → Prop) (a : Array Value) (s : State) (mc ms : Nat) (free : Addr → Prop) : State → Prop := fun t =>
  ∃ o, t.status = .running ∧ Ended t below o ∧ vx_Q Qc XC mc ms free a s o t
theorem vx_ret {g : JFrame} {mc ms : Nat} (k : W p l e R s m args below meth c H locs cells slots (MQ below Qc args s mc ms free) g) : W p l e R s m args below meth c H locs cells slots (vx_MQ below Qc XC args s mc ms free) g := by
  intro T hT X
  obtain ⟨t, a1, o, b1, b2, b3, b4⟩ := k T hT X
  exact ⟨t, a1, o, b1, b2, Or.inl ⟨b3, b4⟩⟩
/-- not caught here: it goes on to the caller -/
theorem vx_widen {g : JFrame} {q : Addr} {k n : Nat} (h1 : cells ≤ k) (h2 : slots ≤ n) (kk : vx_W p l e R s m args below meth c H locs k n Q g q) : vx_W p l e R s m args below meth c H locs cells slots Q g q := fun T hT X => kk T hT (stand_widen X h1 h2)
theorem vx_out {pc : Nat} {E : String} {ce : Cell} {q : Addr} {mc ms : Nat} (hout : ∀ x ∈ c.exceptionTable.toList, covers x pc = false) (hlocks : meth.locks = false) (hcell : H[q]? = some ce) (hv : ce.vm = .none) (hcl : s.vm.findClass E = some ce.cls)
    (hx : ∀ t : State, t.heap = H → s.vm.Alike t.vm → XC E s t) (hf : ∀ z ∈ locs, free z.base) (hc : cells ≤ mc) (hs : slots ≤ ms) :
    vx_W p l e R s m args below meth c H locs cells slots (vx_MQ below Qc XC args s mc ms free) (F0 m pc ls rest) q := by
  intro T hT X
  obtain ⟨st1, hrun, hend, hW, hsm⟩ := X.leaveThrown q (g := F0 m pc ls rest) rfl rfl rfl hout hlocks
  have hcell9 : (T.setFrames (.throwing q :: below)).heap[q]? = some ce := by
    show T.heap[q]? = some ce
    rw [hT]; exact hcell
  exact ⟨_, st1, .threw q, hrun, hend, Or.inr ⟨q, rfl, E, ce, locs, hx _ hT hW.alike, hcell9, hv, hcl, hW, hsm.mono hc hs, hf⟩⟩
theorem vx_frame {U : State} {k n : Nat} (h : s.sameButNew ({ U with vm := s.vm } : State) locs k n) : s.heap.size ≤ U.heap.size ∧ ∀ q : Nat, q < s.heap.size → (∀ z ∈ locs, z.base ≠ q) → U.heap[q]? = s.heap[q]? := by
  obtain ⟨-, h2, -, -, -, h6⟩ := h
  refine ⟨h2, fun q hq hz => ?_⟩
  obtain ⟨c9, e1, e2, e3, e4⟩ := h6 q _ (Array.getElem?_eq_getElem hq)
  have hs : c9.slots = (s.heap[q]).slots := Array.ext_getElem? fun i => e4 i fun hm => hz _ hm rfl
  have h9 : c9 = s.heap[q] := by
    rw [hs] at e2
    exact e2
  have e5 : U.heap[q]? = some c9 := e1
  rw [e5, h9, Array.getElem?_eq_getElem hq]
/-- the words of a throw but the four that speak of the heap -/
def vx_no (w : Cond) : Bool := decide (w ≠ .isRef (.static Bundle.tN "UNASSIGNED_STACK" Bundle.steD)) && decide (w ≠ .isRef (.static Bundle.tN "SUPPRESSED_SENTINEL" Bundle.listD)) && decide (w ≠ .laysStatic Bundle.tN "UNASSIGNED_STACK" Bundle.steD) && decide (w ≠ .laysStatic Bundle.tN "SUPPRESSED_SENTINEL" Bundle.listD)
def vx_at0 (own : String) (ic : Nat) (X : String) (names : List String) : List Cond := (Bundle.ownAtoms0 own ic X names).filter vx_no
def vx_atS (own : String) (ic : Nat) (X : String) (names : List String) : List Cond := (Bundle.ownAtoms own ic X names).filter vx_no
/-- a word that the tables alone decide, or a good one -/
def vx_ot (w : Cond) : Bool := w.onTables || goodWord w
theorem vx_ot_at {args a' : Array Value} {s U : State} {w : Cond} (hW : s.WarmedH U.vm) (hvm : s.vm = U.vm) (hg : vx_ot w = true) (h : w.before args s = true) : w.before a' U = true := by
  simp only [vx_ot, Bool.or_eq_true] at hg
  rcases hg with hg | hg
  · exact va_tabs hg hvm h
  · exact word_at hW (good_of_word hg) h
/-- a list's words: the good ones out of the method's own list, the others by premises of their own -/
theorem vx_hat {args : Array Value} {s : State} {L B : List Cond} (h1 : ∀ w ∈ L.filter goodWord, w.before args s = true) (h2 : ∀ w ∈ L.filter (fun w => !goodWord w), w ∈ B) (h3 : ∀ w ∈ B, w.before args s = true) : ∀ w ∈ L, w.before args s = true := by
  intro w hw
  by_cases g : goodWord w = true
  · exact h1 w (List.mem_filter.mpr ⟨hw, g⟩)
  · refine h3 w (h2 w (List.mem_filter.mpr ⟨hw, ?_⟩))
    show (!goodWord w) = true
    cases hgw : goodWord w
    · rfl
    · exact absurd hgw g
theorem vx_c {args : Array Value} {s : State} {w : Cond} {B : List Cond} (h : w.before args s = true) (t : ∀ w ∈ B, w.before args s = true) : ∀ w' ∈ w :: B, w'.before args s = true := fun w' h' => (List.mem_cons.mp h').elim (fun e => by rw [e]; exact h) (t w')
theorem vx_n {args : Array Value} {s : State} : ∀ w ∈ ([] : List Cond), w.before args s = true := fun _ h => nomatch h
theorem vx_own {args : Array Value} {s : State} {L : List Cond} (h1 : ∀ w ∈ L.filter vx_no, w.before args s = true)
    (hU : (Cond.isRef (.static Bundle.tN "UNASSIGNED_STACK" Bundle.steD)).before args s = true) (hN : (Cond.isRef (.static Bundle.tN "SUPPRESSED_SENTINEL" Bundle.listD)).before args s = true)
    (lU : (Cond.laysStatic Bundle.tN "UNASSIGNED_STACK" Bundle.steD).before args s = true) (lN : (Cond.laysStatic Bundle.tN "SUPPRESSED_SENTINEL" Bundle.listD).before args s = true) : ∀ w ∈ L, w.before args s = true := by
  intro w hw
  by_cases e1 : w = .isRef (.static Bundle.tN "UNASSIGNED_STACK" Bundle.steD)
  · rw [e1]; exact hU
  · by_cases e2 : w = .isRef (.static Bundle.tN "SUPPRESSED_SENTINEL" Bundle.listD)
    · rw [e2]; exact hN
    · by_cases e3 : w = .laysStatic Bundle.tN "UNASSIGNED_STACK" Bundle.steD
      · rw [e3]; exact lU
      · by_cases e4 : w = .laysStatic Bundle.tN "SUPPRESSED_SENTINEL" Bundle.listD
        · rw [e4]; exact lN
        · exact h1 w (List.mem_filter.mpr ⟨hw, by unfold vx_no; rw [decide_eq_true e1, decide_eq_true e2, decide_eq_true e3, decide_eq_true e4]; rfl⟩)
/-- where a static field lies, its class's statics cell in H -/
def vx_L (C n d : String) (A : Nat → Prop) (U : State) (H : Heap) : Prop := ∃ (c : ClassId) (k : Class) (i : Nat) (f : Field) (a : Nat) (cell : Cell), U.vm.findClass C = some c ∧ U.fieldFound? C n d = some (c, k, i, f) ∧ f.isStatic = true ∧ k.statics = some a ∧ H[a]? = some cell ∧ cell.vm.isStatics = true ∧ cell.cls = c ∧ f.slot < cell.slots.size ∧ k.staticTypes[f.slot]? = some f.type ∧ ¬ A a
theorem vx_L.moved {C n d : String} {A : Nat → Prop} {u U : State} {H : Heap} (hvm : u.vm.Alike U.vm) (h : vx_L C n d A u H) : vx_L C n d A U H := by
  obtain ⟨c, k, i, f, a, cell, h1, h2, h3, h4, h5, h6, h7, h8, h9, h10⟩ := h
  obtain ⟨k', hi', he⟩ := State.fieldFound?_setVm hvm h2
  exact ⟨c, k', i, f, a, cell, by rw [hvm.findClass]; exact h1, hi', h3, by rw [he]; exact h4, h5, h6, h7, h8, by rw [he]; exact h9, h10⟩
theorem vx_L.kept {C n d : String} {A : Nat → Prop} {U : State} {H H1 : Heap} (h : vx_L C n d A U H) (hq : ∀ a : Nat, a < H.size → ¬ A a → H1[a]? = H[a]?) : vx_L C n d A U H1 := by
  obtain ⟨c, k, i, f, a, cell, h1, h2, h3, h4, h5, h6, h7, h8, h9, h10⟩ := h
  exact ⟨c, k, i, f, a, cell, h1, h2, h3, h4, by rw [hq a (Array.getElem?_eq_some_iff.mp h5).1 h10]; exact h5, h6, h7, h8, h9, h10⟩
theorem vx_L.narrow {C n d : String} {A B : Nat → Prop} {U : State} {H : Heap} (h : vx_L C n d A U H) (hAB : ∀ q, B q → A q) : vx_L C n d B U H := by
  obtain ⟨c, k, i, f, a, cell, h1, h2, h3, h4, h5, h6, h7, h8, h9, h10⟩ := h
  exact ⟨c, k, i, f, a, cell, h1, h2, h3, h4, h5, h6, h7, h8, h9, fun z => h10 (hAB _ z)⟩
theorem vx_L.word {C n d : String} {A : Nat → Prop} {s : State} {args : Array Value} (h : vx_L C n d A s s.heap) : (Cond.laysStatic C n d).before args s = true := by
  obtain ⟨c, k, i, f, a, cell, h1, h2, h3, h4, h5, h6, h7, h8, h9, -⟩ := h
  show (Cond.laysStatic C n d).holds args s none s [] = true
  exact Cond.laysStatic_of h1 h2 h3 h4 h5 h6 h7 h8 h9
/-- .. and what it holds: null or some reference -/
def vx_Zq (C n d : String) (A : Nat → Prop) (U : State) (H : Heap) : Prop := va_Zq C n d A U H ∧ vx_L C n d A U H
theorem vx_Zq.moved {C n d : String} {A : Nat → Prop} {u U : State} {H : Heap} (hvm : u.vm.Alike U.vm) (h : vx_Zq C n d A u H) : vx_Zq C n d A U H := ⟨va_Zq.moved hvm h.1, vx_L.moved hvm h.2⟩
theorem vx_Zq.kept {C n d : String} {A : Nat → Prop} {U : State} {H H1 : Heap} (h : vx_Zq C n d A U H) (hq : ∀ a : Nat, a < H.size → ¬ A a → H1[a]? = H[a]?) : vx_Zq C n d A U H1 := ⟨va_Zq.kept h.1 hq, vx_L.kept h.2 hq⟩
theorem vx_Zq.narrow {C n d : String} {A B : Nat → Prop} {U : State} {H : Heap} (h : vx_Zq C n d A U H) (hAB : ∀ q, B q → A q) : vx_Zq C n d B U H := ⟨va_Zq.narrow h.1 hAB, vx_L.narrow h.2 hAB⟩
theorem vx_Zqof {args : Array Value} {s : State} {C n d : String} {A : Nat → Prop} (hl : (Cond.laysStatic C n d).before args s = true) (hini : (Cond.initialized C).before args s = true) (h : (Cond.isRef (.static C n d)).before args s = true) (hA : ∀ a : Nat, a < s.heap.size → ¬ A a) : vx_Zq C n d A s s.heap := by
  refine ⟨va_Zqof hl hini h hA, ?_⟩
  obtain ⟨c, k, i, f, a, cell, h1, h2, h3, h4, h5, h6, h7, h8, h9⟩ := Cond.laysStatic_spec hl
  exact ⟨c, k, i, f, a, cell, h1, h2, h3, h4, h5, h6, h7, h8, h9, hA a (Array.getElem?_eq_some_iff.mp h5).1⟩
theorem vx_isRef {C n d : String} {v : Value} {A : Nat → Prop} {s : State} {args : Array Value} (h : va_Z C n d v A s s.heap) (hv : v.isRef = true) : (Cond.isRef (.static C n d)).before args s = true := by
  obtain ⟨cf, kf, fi, f, a, cell, h1, h2, h3, h4, h5, h6, h7, -⟩ := h
  have he : (Term.static C n d).eval args s none [] s = some v := by
    simp [Term.eval, State.fieldNamed?, h1, h2, h4, h5, h6, h7]
  simp only [Cond.before, Cond.holds, Cond.value, he]
  cases v <;> simp_all [Value.isRef]
theorem vx_isRefq {C n d : String} {A : Nat → Prop} {s : State} {args : Array Value} (h : va_Zq C n d A s s.heap) : (Cond.isRef (.static C n d)).before args s = true := by
  rcases h with h | ⟨t, h⟩
  · exact vx_isRef h rfl
  · exact vx_isRef h rfl
/-- the same frame, seen from here: as if the method were called anew in this heap -/
theorem vx_rebase {T : State} (X : Stand p l e R s m args below meth c T locs cells slots) {R' : Room} (hf : R'.frames ≤ R.frames) (hl : R'.locals ≤ R.locals) (hc : cells + R'.cells ≤ R.cells) (hs : slots + R'.slots ≤ R.slots) :
    Stand p l e R' ((T.setVm s.vm).setFrames (.invoking m args :: below)) m args below meth c T [] 0 0 := by
  have htop : (T.setVm s.vm).topJava?.isSome := X.here.top
  have hF : ((T.setVm s.vm).setFrames (.invoking m args :: below)).frames = .invoking m args :: below := State.frames_setFrames _ (State.cur_lt_of_top htop)
  obtain ⟨g₀, hg0⟩ := Option.isSome_iff_exists.mp htop
  obtain ⟨r, hr⟩ := State.topJava?_eq_some.mp hg0
  have hl9 : e.platform.stackLimits (T.setVm s.vm).me = e.platform.stackLimits s.me := X.limits
  have hb9 : (T.setVm s.vm).me.stackBytes = s.me.stackBytes := X.bytes
  refine ⟨X.admits, X.cas, X.clock, hF, ?_, X.hears, X.method, X.code, X.here, X.tail, X.warmed, ?_, ?_, ?_⟩
  · have h := X.room
    have hU : ((T.setVm s.vm).setFrames (.invoking m args :: below)).localsInUse = s.localsInUse := by
      rw [State.localsInUse_invoking hF (meth := meth) (c := c) X.method X.code, State.localsInUse_invoking X.frames X.method X.code]
    simp only [State.hasRoom, Bool.and_eq_true, decide_eq_true_eq] at h ⊢
    obtain ⟨⟨⟨⟨h1, h2, h3, h4, h5, h6⟩, h7⟩, h8⟩, h9⟩ := h
    rw [X.frames, List.length_cons] at h2 h3
    have q1 := X.heapSize
    have q2 := X.used
    simp only [hF, hU, List.length_cons, State.stackLimits_setFrames, State.stackBytes_setFrames, hl9, hb9]
    refine ⟨⟨⟨⟨by omega, by omega, by omega, by omega, by omega, h6⟩, ?_⟩, ?_⟩, X.book⟩
    · show T.heap.size + R'.cells ≤ e.platform.maxCells
      omega
    · show T.slotsUsed + R'.slots ≤ e.platform.maxSlots
      omega
  · rw [State.stackLimits_setFrames]; rfl
  · rw [State.stackBytes_setFrames]; rfl
  · refine ⟨?_, Nat.le_refl _, Nat.le_refl _, ?_, ?_, fun a c9 h9 => ⟨c9, h9, rfl, rfl, fun _ _ => rfl⟩⟩
    · obtain ⟨t, ht, -⟩ := State.frames_cons hr
      show T.setVm s.vm = { ((T.setVm s.vm).setFrames (.invoking m args :: below)).setFrames (T.setVm s.vm).frames with heap := T.heap, slotsUsed := T.slotsUsed }
      rw [State.setFrames_setFrames, State.setFrames_self ht]
      rfl
    · show T.slotsUsed = T.slotsUsed + ((T.heap.toList.drop T.heap.size).map (·.slots.size)).sum
      rw [List.drop_eq_nil_of_le (Nat.le_of_eq Array.length_toList)]
      rfl
    · show ((T.heap.toList.drop T.heap.size).map (·.slots.size)).sum ≤ 0
      rw [List.drop_eq_nil_of_le (Nat.le_of_eq Array.length_toList)]
      exact Nat.le_refl _
/-- 'throw new E()': new; dup; invokespecial; athrow -/
theorem vx_throw0 {cc : ByteArray} {pc : Nat} (hexec : p.tables.exec = Jvm.exec) (hb : c.code = cc) (hl : l.stackTraces = false) {own cls : String} {names : List String} {ik ic mc ms : Nat} {A : Nat → Prop}
    (hown : s.vm.findClass own = some m.cls) (hcls : Bundle.fit cls = true) (hnames : ∀ n ∈ names, Bundle.fit n = true)
    (hk : (Cond.classLink own ik cls).before args s = true) (hini : (Cond.initialized cls).before args s = true) (hat : ∀ w ∈ vx_at0 own ic cls names, w.before args s = true)
    (hgood : ∀ w ∈ Cond.classLink own ik cls :: Cond.initialized cls :: vx_at0 own ic cls names, vx_ot w = true)
    (hU : vx_Zq Bundle.tN "UNASSIGNED_STACK" Bundle.steD A s s.heap) (hN : vx_Zq Bundle.tN "SUPPRESSED_SENTINEL" Bundle.listD A s s.heap) (hS : va_S A s.heap H locs) (hsize : ls.size = c.maxLocals)
    (d0 : decode cc pc = .ok (.new ik, 3)) (d3 : decode cc (pc + 3) = .ok (.dup, 1)) (d4 : decode cc (pc + 4) = .ok (.invokespecial ic, 3)) (d7 : decode cc (pc + 7) = .ok (.athrow, 1))
    (hout : ∀ x ∈ c.exceptionTable.toList, covers x (pc + 7) = false)
    (hRframes : names.length + 3 < R.frames) (hRlocals : (rest.map fun v => v.category).sum + (13 * (names.length + 1) + 42) ≤ R.locals) (hRcells : cells + 1 ≤ R.cells) (hRslots : slots + 6 ≤ R.slots) (hlocks : meth.locks = false)
    (hx : ∀ t : State, s.vm.Alike t.vm → H.size ≤ t.heap.size → (∀ q : Nat, q < H.size → t.heap[q]? = H[q]?) → XC cls s t)
    (hf : ∀ z ∈ locs, free z.base) (hc : cells + 1 ≤ mc) (hs : slots + 6 ≤ ms) :
    W p l e R s m args below meth c H locs cells slots (vx_MQ below Qc XC args s mc ms free) (F0 m pc ls rest) := by
  intro T hT X
  have htr : e.platform.stackTraces = false := (show e.platform.stackTraces = l.stackTraces by rw [X.admits.platform]).trans hl
  have Y := vx_rebase X (R' := { frames := R.frames, locals := R.locals, cells := 1, slots := 6 }) (Nat.le_refl _) (Nat.le_refl _) hRcells hRslots
  obtain ⟨s', hA⟩ : ∃ z, z = (T.setVm s.vm).setFrames (.invoking m args :: below) := ⟨_, rfl⟩
  rw [← hA] at Y
  have hvm : s'.vm = s.vm := by rw [hA]; rfl
  have hhp : s'.heap = H := by rw [hA]; exact hT
  have hW0 : s.WarmedH s'.vm := by rw [hvm]; exact State.WarmedH.refl s
  have hat' : ∀ w ∈ vx_at0 own ic cls names, w.before args s' = true := fun w hw => vx_ot_at hW0 hvm.symm (hgood w (List.mem_cons_of_mem _ (List.mem_cons_of_mem _ hw))) (hat w hw)
  have hk' : (Cond.classLink own ik cls).before args s' = true := vx_ot_at hW0 hvm.symm (hgood _ List.mem_cons_self) hk
  have hini' : (Cond.initialized cls).before args s' = true := vx_ot_at hW0 hvm.symm (hgood _ (List.mem_cons_of_mem _ List.mem_cons_self)) hini
  have hU' : vx_Zq Bundle.tN "UNASSIGNED_STACK" Bundle.steD A s' s'.heap := by rw [hhp]; exact vx_Zq.moved hW0.alike (hU.kept hS.2.1)
  have hN' : vx_Zq Bundle.tN "SUPPRESSED_SENTINEL" Bundle.listD A s' s'.heap := by rw [hhp]; exact vx_Zq.moved hW0.alike (hN.kept hS.2.1)
  have h : ∀ w ∈ Bundle.ownAtoms0 own ic cls names, w.before args s' = true := vx_own hat' (vx_isRefq hU'.1) (vx_isRefq hN'.1) hU'.2.word hN'.2.word
  have hown' : s'.vm.findClass own = some m.cls := by rw [hvm]; exact hown
  have hins : (Cond.instantiable cls 6).before args s' = true := h _ (by simp [Bundle.ownAtoms0])
  obtain ⟨vm₁, cX, kX, hfX, hkX, -, -, X₁, st1⟩ := Y.newCold hexec (own := own) (C := cls) (index := ik) (n := 6) hown' hk' hins hini'
    (g := F0 m pc ls rest) rfl (by rw [hb]; exact d0) (Nat.le_refl _) (Nat.le_refl _)
  generalize hT1 : (T.setVm vm₁).pushCell { cls := cX, slots := kX.instanceTypes.map defaultValue, vm := .none } = T1 at X₁ st1
  have hcat : (Value.ref T.heap.size).category = 1 := rfl
  have hcellA : T1.heap[T.heap.size]? = some (freshCell cX kX) := by rw [← hT1]; exact State.heap_pushCell_size _ _
  have d3' : decode c.code (pc + 3) = .ok (.dup, 1) := by rw [hb]; exact d3
  obtain ⟨U, hsteps, hrun, hend, hW, hsame, ce, hce, hO⟩ := X₁.ctorThrow0 hexec htr (own := own) (cls := cls) (names := names) (ic := ic) hown' hcls hnames h (fun x hx => nomatch hx) hfX hkX hcellA (by rw [hhp, hT]; exact Nat.le_refl _)
    (g := { method := m, pc := pc + 4, locals := ls, stack := .ref T.heap.size :: .ref T.heap.size :: rest, locked := none }) rfl hsize rfl rfl (rest := rest) rfl
    (by rw [hb]; exact d4) (by rw [hb]; exact d7) hout hRframes (by simp only [List.map_cons, List.sum_cons, hcat]; omega) hlocks
  obtain ⟨f1, f2⟩ := vx_frame hsame
  rw [hhp] at f1 f2
  have hWs : s.WarmedH U.vm := State.WarmedH.trans hW0 hW
  have hcl : s.vm.findClass cls = some ce.cls := by
    have h9 := hO.cls
    rw [hvm] at h9
    exact h9
  have hall : s.sameButNew ({ U with vm := s.vm } : State) locs mc ms := by
    subst hA
    obtain ⟨e1, e2⟩ := hsame
    rw [State.setFrames_setFrames] at e1
    have h2 : (T.setVm s.vm).sameButNew ({ U with vm := s.vm } : State) [] (0 + 1) (0 + 6) := ⟨e1, e2⟩
    have h3 := X.same.trans h2
    rw [List.append_nil] at h3
    exact h3.mono hc hs
  refine ⟨U, ?_, .threw T.heap.size, hrun, hend, Or.inr ⟨T.heap.size, rfl, cls, ce, locs, hx U hWs.alike f1 (fun q hq => f2 q hq (fun z hz => nomatch hz)), hce, hO.vm, hcl, hWs, hall, hf⟩⟩
  refine st1 _ ?_
  show Steps p.tables e below (T1.setTop { method := m, pc := pc + 3, locals := ls, stack := .ref T.heap.size :: rest, locked := none }) _
  jvm_step X₁.here [X₁.here.top, hexec, d3', Value.category]
  exact hsteps
/-- 'throw new E("text")': new; dup; ldc; invokespecial; athrow -/
theorem vx_throwS {cc : ByteArray} {pc : Nat} (hexec : p.tables.exec = Jvm.exec) (hb : c.code = cc) (hl : l.stackTraces = false) {own cls text : String} {names : List String} {ik is ic mc ms sa : Nat} {A : Nat → Prop}
    (hown : s.vm.findClass own = some m.cls) (hcls : Bundle.fit cls = true) (hnames : ∀ n ∈ names, Bundle.fit n = true)
    (hk : (Cond.classLink own ik cls).before args s = true) (hini : (Cond.initialized cls).before args s = true) (hstr : vk_R own is text sa s) (hat : ∀ w ∈ vx_atS own ic cls names, w.before args s = true)
    (hgood : ∀ w ∈ Cond.classLink own ik cls :: Cond.initialized cls :: vx_atS own ic cls names, vx_ot w = true)
    (hU : vx_Zq Bundle.tN "UNASSIGNED_STACK" Bundle.steD A s s.heap) (hN : vx_Zq Bundle.tN "SUPPRESSED_SENTINEL" Bundle.listD A s s.heap) (hS : va_S A s.heap H locs) (hsize : ls.size = c.maxLocals)
    (d0 : decode cc pc = .ok (.new ik, 3)) (d3 : decode cc (pc + 3) = .ok (.dup, 1)) (d4 : decode cc (pc + 4) = .ok (.ldc is, 2)) (d6 : decode cc (pc + 6) = .ok (.invokespecial ic, 3)) (d9 : decode cc (pc + 9) = .ok (.athrow, 1))
    (hout : ∀ x ∈ c.exceptionTable.toList, covers x (pc + 9) = false)
    (hRframes : names.length + 3 < R.frames) (hRlocals : (rest.map fun v => v.category).sum + (13 * (names.length + 1) + 43) ≤ R.locals) (hRcells : cells + 1 ≤ R.cells) (hRslots : slots + 6 ≤ R.slots) (hlocks : meth.locks = false)
    (hx : ∀ t : State, s.vm.Alike t.vm → H.size ≤ t.heap.size → (∀ q : Nat, q < H.size → t.heap[q]? = H[q]?) → XC cls s t)
    (hf : ∀ z ∈ locs, free z.base) (hc : cells + 1 ≤ mc) (hs : slots + 6 ≤ ms) :
    W p l e R s m args below meth c H locs cells slots (vx_MQ below Qc XC args s mc ms free) (F0 m pc ls rest) := by
  intro T hT X
  have htr : e.platform.stackTraces = false := (show e.platform.stackTraces = l.stackTraces by rw [X.admits.platform]).trans hl
  have Y := vx_rebase X (R' := { frames := R.frames, locals := R.locals, cells := 1, slots := 6 }) (Nat.le_refl _) (Nat.le_refl _) hRcells hRslots
  obtain ⟨s', hA⟩ : ∃ z, z = (T.setVm s.vm).setFrames (.invoking m args :: below) := ⟨_, rfl⟩
  rw [← hA] at Y
  have hvm : s'.vm = s.vm := by rw [hA]; rfl
  have hhp : s'.heap = H := by rw [hA]; exact hT
  have hW0 : s.WarmedH s'.vm := by rw [hvm]; exact State.WarmedH.refl s
  have hat' : ∀ w ∈ vx_atS own ic cls names, w.before args s' = true := fun w hw => vx_ot_at hW0 hvm.symm (hgood w (List.mem_cons_of_mem _ (List.mem_cons_of_mem _ hw))) (hat w hw)
  have hk' : (Cond.classLink own ik cls).before args s' = true := vx_ot_at hW0 hvm.symm (hgood _ List.mem_cons_self) hk
  have hini' : (Cond.initialized cls).before args s' = true := vx_ot_at hW0 hvm.symm (hgood _ (List.mem_cons_of_mem _ List.mem_cons_self)) hini
  have hU' : vx_Zq Bundle.tN "UNASSIGNED_STACK" Bundle.steD A s' s'.heap := by rw [hhp]; exact vx_Zq.moved hW0.alike (hU.kept hS.2.1)
  have hN' : vx_Zq Bundle.tN "SUPPRESSED_SENTINEL" Bundle.listD A s' s'.heap := by rw [hhp]; exact vx_Zq.moved hW0.alike (hN.kept hS.2.1)
  have h : ∀ w ∈ Bundle.ownAtoms own ic cls names, w.before args s' = true := vx_own hat' (vx_isRefq hU'.1) (vx_isRefq hN'.1) hU'.2.word hN'.2.word
  have hown' : s'.vm.findClass own = some m.cls := by rw [hvm]; exact hown
  have hins : (Cond.instantiable cls 6).before args s' = true := h _ (by simp [Bundle.ownAtoms])
  obtain ⟨vm₁, cX, kX, hfX, hkX, -, -, X₁, st1⟩ := Y.newCold hexec (own := own) (C := cls) (index := ik) (n := 6) hown' hk' hins hini'
    (g := F0 m pc ls rest) rfl (by rw [hb]; exact d0) (Nat.le_refl _) (Nat.le_refl _)
  generalize hT1 : (T.setVm vm₁).pushCell { cls := cX, slots := kX.instanceTypes.map defaultValue, vm := .none } = T1 at X₁ st1
  have hcat : (Value.ref T.heap.size).category = 1 := rfl
  have hcellA : T1.heap[T.heap.size]? = some (freshCell cX kX) := by rw [← hT1]; exact State.heap_pushCell_size _ _
  have d3' : decode c.code (pc + 3) = .ok (.dup, 1) := by rw [hb]; exact d3
  have d4' : decode c.code (pc + 4) = .ok (.ldc is, 2) := by rw [hb]; exact d4
  have hstr' : vk_R own is text sa s' := vk_R.warm hW0 hstr
  obtain ⟨U, hsteps, hrun, hend, hW, hsame, ce, hce, hO⟩ := X₁.ctorThrowS hexec htr (own := own) (cls := cls) (names := names) (ic := ic) hown' hcls hnames h (fun x hx => nomatch hx) hfX hkX hcellA (by rw [hhp, hT]; exact Nat.le_refl _) (msg := .ref sa) rfl
    (g := { method := m, pc := pc + 6, locals := ls, stack := .ref sa :: .ref T.heap.size :: .ref T.heap.size :: rest, locked := none }) rfl hsize rfl rfl (rest := rest) rfl
    (by rw [hb]; exact d6) (by rw [hb]; exact d9) hout hRframes (by simp only [List.map_cons, List.sum_cons, hcat]; omega) hlocks
  obtain ⟨f1, f2⟩ := vx_frame hsame
  rw [hhp] at f1 f2
  have hWs : s.WarmedH U.vm := State.WarmedH.trans hW0 hW
  have hcl : s.vm.findClass cls = some ce.cls := by
    have h9 := hO.cls
    rw [hvm] at h9
    exact h9
  have hall : s.sameButNew ({ U with vm := s.vm } : State) locs mc ms := by
    subst hA
    obtain ⟨e1, e2⟩ := hsame
    rw [State.setFrames_setFrames] at e1
    have h2 : (T.setVm s.vm).sameButNew ({ U with vm := s.vm } : State) [] (0 + 1) (0 + 6) := ⟨e1, e2⟩
    have h3 := X.same.trans h2
    rw [List.append_nil] at h3
    exact h3.mono hc hs
  refine ⟨U, ?_, .threw T.heap.size, hrun, hend, Or.inr ⟨T.heap.size, rfl, cls, ce, locs, hx U hWs.alike f1 (fun q hq => f2 q hq (fun z hz => nomatch hz)), hce, hO.vm, hcl, hWs, hall, hf⟩⟩
  refine st1 _ ?_
  show Steps p.tables e below (T1.setTop { method := m, pc := pc + 3, locals := ls, stack := .ref T.heap.size :: rest, locked := none }) _
  jvm_step X₁.here [X₁.here.top, hexec, d3', Value.category]
  exact X₁.ldcString hexec (own := own) (text := text) (index := is) (a := sa) hown' hstr'.1 hstr'.2
    (g := { method := m, pc := pc + 4, locals := ls, stack := .ref T.heap.size :: .ref T.heap.size :: rest, locked := none }) rfl d4' _ hsteps
/-- 'throw new E("text")', the text by a wide index -/
theorem vx_throwSW {cc : ByteArray} {pc : Nat} (hexec : p.tables.exec = Jvm.exec) (hb : c.code = cc) (hl : l.stackTraces = false) {own cls text : String} {names : List String} {ik is ic mc ms sa : Nat} {A : Nat → Prop}
    (hown : s.vm.findClass own = some m.cls) (hcls : Bundle.fit cls = true) (hnames : ∀ n ∈ names, Bundle.fit n = true)
    (hk : (Cond.classLink own ik cls).before args s = true) (hini : (Cond.initialized cls).before args s = true) (hstr : vk_R own is text sa s) (hat : ∀ w ∈ vx_atS own ic cls names, w.before args s = true)
    (hgood : ∀ w ∈ Cond.classLink own ik cls :: Cond.initialized cls :: vx_atS own ic cls names, vx_ot w = true)
    (hU : vx_Zq Bundle.tN "UNASSIGNED_STACK" Bundle.steD A s s.heap) (hN : vx_Zq Bundle.tN "SUPPRESSED_SENTINEL" Bundle.listD A s s.heap) (hS : va_S A s.heap H locs) (hsize : ls.size = c.maxLocals)
    (d0 : decode cc pc = .ok (.new ik, 3)) (d3 : decode cc (pc + 3) = .ok (.dup, 1)) (d4 : decode cc (pc + 4) = .ok (.ldc_w is, 3)) (d7 : decode cc (pc + 7) = .ok (.invokespecial ic, 3)) (d10 : decode cc (pc + 10) = .ok (.athrow, 1))
    (hout : ∀ x ∈ c.exceptionTable.toList, covers x (pc + 10) = false)
    (hRframes : names.length + 3 < R.frames) (hRlocals : (rest.map fun v => v.category).sum + (13 * (names.length + 1) + 43) ≤ R.locals) (hRcells : cells + 1 ≤ R.cells) (hRslots : slots + 6 ≤ R.slots) (hlocks : meth.locks = false)
    (hx : ∀ t : State, s.vm.Alike t.vm → H.size ≤ t.heap.size → (∀ q : Nat, q < H.size → t.heap[q]? = H[q]?) → XC cls s t)
    (hf : ∀ z ∈ locs, free z.base) (hc : cells + 1 ≤ mc) (hs : slots + 6 ≤ ms) :
    W p l e R s m args below meth c H locs cells slots (vx_MQ below Qc XC args s mc ms free) (F0 m pc ls rest) := by
  intro T hT X
  have htr : e.platform.stackTraces = false := (show e.platform.stackTraces = l.stackTraces by rw [X.admits.platform]).trans hl
  have Y := vx_rebase X (R' := { frames := R.frames, locals := R.locals, cells := 1, slots := 6 }) (Nat.le_refl _) (Nat.le_refl _) hRcells hRslots
  obtain ⟨s', hA⟩ : ∃ z, z = (T.setVm s.vm).setFrames (.invoking m args :: below) := ⟨_, rfl⟩
  rw [← hA] at Y
  have hvm : s'.vm = s.vm := by rw [hA]; rfl
  have hhp : s'.heap = H := by rw [hA]; exact hT
  have hW0 : s.WarmedH s'.vm := by rw [hvm]; exact State.WarmedH.refl s
  have hat' : ∀ w ∈ vx_atS own ic cls names, w.before args s' = true := fun w hw => vx_ot_at hW0 hvm.symm (hgood w (List.mem_cons_of_mem _ (List.mem_cons_of_mem _ hw))) (hat w hw)
  have hk' : (Cond.classLink own ik cls).before args s' = true := vx_ot_at hW0 hvm.symm (hgood _ List.mem_cons_self) hk
  have hini' : (Cond.initialized cls).before args s' = true := vx_ot_at hW0 hvm.symm (hgood _ (List.mem_cons_of_mem _ List.mem_cons_self)) hini
  have hU' : vx_Zq Bundle.tN "UNASSIGNED_STACK" Bundle.steD A s' s'.heap := by rw [hhp]; exact vx_Zq.moved hW0.alike (hU.kept hS.2.1)
  have hN' : vx_Zq Bundle.tN "SUPPRESSED_SENTINEL" Bundle.listD A s' s'.heap := by rw [hhp]; exact vx_Zq.moved hW0.alike (hN.kept hS.2.1)
  have h : ∀ w ∈ Bundle.ownAtoms own ic cls names, w.before args s' = true := vx_own hat' (vx_isRefq hU'.1) (vx_isRefq hN'.1) hU'.2.word hN'.2.word
  have hown' : s'.vm.findClass own = some m.cls := by rw [hvm]; exact hown
  have hins : (Cond.instantiable cls 6).before args s' = true := h _ (by simp [Bundle.ownAtoms])
  obtain ⟨vm₁, cX, kX, hfX, hkX, -, -, X₁, st1⟩ := Y.newCold hexec (own := own) (C := cls) (index := ik) (n := 6) hown' hk' hins hini'
    (g := F0 m pc ls rest) rfl (by rw [hb]; exact d0) (Nat.le_refl _) (Nat.le_refl _)
  generalize hT1 : (T.setVm vm₁).pushCell { cls := cX, slots := kX.instanceTypes.map defaultValue, vm := .none } = T1 at X₁ st1
  have hcat : (Value.ref T.heap.size).category = 1 := rfl
  have hcellA : T1.heap[T.heap.size]? = some (freshCell cX kX) := by rw [← hT1]; exact State.heap_pushCell_size _ _
  have d3' : decode c.code (pc + 3) = .ok (.dup, 1) := by rw [hb]; exact d3
  have d4' : decode c.code (pc + 4) = .ok (.ldc_w is, 3) := by rw [hb]; exact d4
  have hstr' : vk_R own is text sa s' := vk_R.warm hW0 hstr
  obtain ⟨U, hsteps, hrun, hend, hW, hsame, ce, hce, hO⟩ := X₁.ctorThrowS hexec htr (own := own) (cls := cls) (names := names) (ic := ic) hown' hcls hnames h (fun x hx => nomatch hx) hfX hkX hcellA (by rw [hhp, hT]; exact Nat.le_refl _) (msg := .ref sa) rfl
    (g := { method := m, pc := pc + 7, locals := ls, stack := .ref sa :: .ref T.heap.size :: .ref T.heap.size :: rest, locked := none }) rfl hsize rfl rfl (rest := rest) rfl
    (by rw [hb]; exact d7) (by rw [hb]; exact d10) hout hRframes (by simp only [List.map_cons, List.sum_cons, hcat]; omega) hlocks
  obtain ⟨f1, f2⟩ := vx_frame hsame
  rw [hhp] at f1 f2
  have hWs : s.WarmedH U.vm := State.WarmedH.trans hW0 hW
  have hcl : s.vm.findClass cls = some ce.cls := by
    have h9 := hO.cls
    rw [hvm] at h9
    exact h9
  have hall : s.sameButNew ({ U with vm := s.vm } : State) locs mc ms := by
    subst hA
    obtain ⟨e1, e2⟩ := hsame
    rw [State.setFrames_setFrames] at e1
    have h2 : (T.setVm s.vm).sameButNew ({ U with vm := s.vm } : State) [] (0 + 1) (0 + 6) := ⟨e1, e2⟩
    have h3 := X.same.trans h2
    rw [List.append_nil] at h3
    exact h3.mono hc hs
  refine ⟨U, ?_, .threw T.heap.size, hrun, hend, Or.inr ⟨T.heap.size, rfl, cls, ce, locs, hx U hWs.alike f1 (fun q hq => f2 q hq (fun z hz => nomatch hz)), hce, hO.vm, hcl, hWs, hall, hf⟩⟩
  refine st1 _ ?_
  show Steps p.tables e below (T1.setTop { method := m, pc := pc + 3, locals := ls, stack := .ref T.heap.size :: rest, locked := none }) _
  jvm_step X₁.here [X₁.here.top, hexec, d3', Value.category]
  exact X₁.ldcStringW hexec (own := own) (text := text) (index := is) (a := sa) hown' hstr'.1 hstr'.2
    (g := { method := m, pc := pc + 4, locals := ls, stack := .ref T.heap.size :: .ref T.heap.size :: rest, locked := none }) rfl d4' _ hsteps
end Ends
section Bodies
variable {l : Launch}
theorem vx_ofW {y : MethodName} {ws ws' : List Cond} {rm : Room} {Pc : Array Value → State → Prop} {Qc : Array Value → State → Outcome → State → Prop} {XC : String → State → State → Prop} {mc ms : Nat} {free : Addr → Prop} {cc : ByteArray} {maxL : Nat} {ret : Option FieldType}
    (hy : plainName y.cls = true) (hw : ws = Cond.code y cc maxL ret :: ws')
    (body : ∀ p e s m args below meth c s₁, BodyLoose p l y (headSpec ws rm) cc maxL ret e s m args below meth c s₁ → c.maxLocals = maxL → (∀ x ∈ c.exceptionTable.toList, False) → Pc args s →
      W p l e (headSpec ws rm).room s m args below meth c s.heap [] 0 0 (vx_MQ below Qc XC args s mc ms free) (entryFrame m args maxL)) : vx_Met l y ws rm Pc Qc XC mc ms free := by
  refine MetFree.of_bodyS (code := cc) (maxLocals := maxL) (ret := ret) hy ?_ ?_
  · intro args s m h hn
    obtain ⟨meth, c, h1, h2, h3, h4, h5, h6, -, -⟩ := Cond.code_spec hn (atoms_spec (ws := ws) h _ (by rw [hw]; exact List.mem_cons_self))
    exact ⟨meth, c, h1, h2, h3, h4, h5, h6⟩
  · intro p e s m args below meth c s₁ B hml hP _
    have hh0 : s₁.heap = s.heap := by rw [B.state]; rfl
    have ht : ∀ x ∈ c.exceptionTable.toList, False := by
      obtain ⟨meth9, c9, h1, h2, -, -, -, -, h7, -⟩ := Cond.code_spec B.named (atoms_spec (ws := ws) B.pre _ (by rw [hw]; exact List.mem_cons_self))
      cases Option.some.inj (h1.symm.trans B.method)
      cases Option.some.inj (h2.symm.trans (Stand.of_body B).code)
      intro x hx
      rw [Array.isEmpty_iff.mp h7] at hx
      cases hx
    obtain ⟨t, a1, o, b1, b2, b3⟩ := body p e s m args below meth c s₁ B hml ht hP s₁ hh0 (Stand.of_body B)
    exact ⟨t, o, a1, b1, b2, b3⟩
/-- the table of a body with handlers -/
theorem vx_table {p : Program} {x y : MethodName} {S : Spec} {cc bytes : ByteArray} {maxL maxL' : Nat} {ret ret' : Option FieldType} {e : Env} {s s₁ : State} {m : MethodId} {args : Array Value} {below : List Frame} {meth : Method} {c : Code} {hh : List (Nat × Nat × Nat × Nat)}
    (B : BodyLoose p l y S cc maxL ret e s m args below meth c s₁) (h : (Cond.codeWith y bytes maxL' ret' hh).before args s = true) : c.exceptionTable.toList = tableOf hh := by
  obtain ⟨m9, meth9, c9, hn9, h1, h2, -, -, h6, -⟩ := Cond.codeWith_spec h
  cases Option.some.inj (hn9.symm.trans B.named)
  cases Option.some.inj (h1.symm.trans B.method)
  cases Option.some.inj (h2.symm.trans (Stand.of_body B).code)
  rw [← h6, table_eq]
end Bodies
end VXA
/-! ===== END ===== -/
/-! ===== BEGIN a static call of a method with an exception table ===== -/
section VXS
variable {p : Program} {l : Launch} {e : Env} {R : Room} {s : State} {m : MethodId} {args : Array Value} {below : List Frame} {meth : Method} {c : Code} {T : State} {H : Heap} {locs : List Loc} {cells slots : Nat}
abbrev vx_CSW (R : Room) (s : State) (args : Array Value) (own : String) (index : Nat) (y : MethodName) (bytes : ByteArray) (maxL : Nat) (ret : Option FieldType) (hh : List (Nat × Nat × Nat × Nat)) (ws : List Cond) (rm : Room) (mc ms n : Nat) : Prop :=
  (rm.cells = mc ∧ rm.slots = ms ∧ rm.frames + 1 ≤ R.frames ∧ 8 + (maxL + 11) + rm.locals ≤ R.locals ∧ (∀ w ∈ ws, ∀ (a' : Array Value) (U : State), s.WarmedH U.vm → w.before a' U = true) ∧ Cond.codeWith y bytes maxL ret hh ∈ ws) ∧
  (Cond.codeWith y bytes maxL ret hh).before args s = true ∧ (Cond.initialized y.cls).before args s = true ∧ (y.cls ≠ "java/lang/invoke/MethodHandle" ∧ y.cls ≠ "java/lang/invoke/VarHandle") ∧
  (∀ sig, parseMethodDescriptor y.desc = some sig → n = sig.parameters.length) ∧ (Cond.methodLink own index y).before args s = true ∧ (Cond.static y).before args s = true
theorem vx_cwSW {own : String} {index maxL mc ms : Nat} {y : MethodName} {bytes : ByteArray} {ret : Option FieldType} {hh : List (Nat × Nat × Nat × Nat)} {Ts ws ws' : List Cond} {rm : Room} (n : Nat) (ht : ∀ w ∈ Ts, w.before args s = true) (hT : GoodIn Ts (va_wsS own index y ws)) (hw : ws = Cond.codeWith y bytes maxL ret hh :: ws') (hrc : rm.cells = mc) (hrs : rm.slots = ms)
    (hd : y.cls ≠ "java/lang/invoke/MethodHandle" ∧ y.cls ≠ "java/lang/invoke/VarHandle" ∧ (parseMethodDescriptor y.desc).map (fun d => d.parameters.length) = some n) (hR : rm.frames + 1 ≤ R.frames ∧ 8 + (maxL + 11) + rm.locals ≤ R.locals) :
    vx_CSW R s args own index y bytes maxL ret hh ws rm mc ms n := by
  have ok : ∀ w ∈ va_wsS own index y ws, w.before args s = true := fun w h => ht w (hT w h).1
  have hG : GoodIn Ts ws := fun w h => hT w (by unfold va_wsS; exact List.mem_append_right _ h)
  have hc : Cond.codeWith y bytes maxL ret hh ∈ ws := by rw [hw]; exact List.mem_cons_self
  refine ⟨⟨hrc, hrs, hR.1, hR.2, pay_in ht hG, hc⟩, ht _ (hG _ hc).1, ok _ (by simp [va_wsS]), ⟨hd.1, hd.2.1⟩, fun sig h => ?_, ok _ (by simp [va_wsS]), ok _ (by simp [va_wsS])⟩
  have h2 := hd.2.2
  rw [h] at h2
  exact (Option.some.inj h2).symm
theorem vx_callSW (X : Stand p l e R s m args below meth c T locs cells slots) (hexec : p.tables.exec = Jvm.exec) {own : String} {index : Nat} {y : MethodName} {bytes : ByteArray} {maxL : Nat} {ret : Option FieldType} {hh : List (Nat × Nat × Nat × Nat)}
    (hown : s.vm.findClass own = some m.cls) (hlink : (Cond.methodLink own index y).before args s = true) (hstat : (Cond.static y).before args s = true) (hinit : (Cond.initialized y.cls).before args s = true)
    (hcode : (Cond.codeWith y bytes maxL ret hh).before args s = true) (hy : y.cls ≠ "java/lang/invoke/MethodHandle" ∧ y.cls ≠ "java/lang/invoke/VarHandle")
    {W9 : Nat} {Pre : Pt → Array Value → Prop} {Post : Pt → Array Value → Option Value → Pt → Prop} (hK : Back l R p e below s args y 3 W9 Pre Post)
    {g : JFrame} (hg : g.method = m) (hsize : g.locals.size = c.maxLocals) {argsL rest : List Value} (hlen : ∀ sig, parseMethodDescriptor y.desc = some sig → argsL.length = sig.parameters.length)
    (hstack : g.stack = argsL.reverse ++ rest) (hW : 2 * g.monitorRoom + (rest.map fun v => v.category).sum ≤ W9) (hdg : decode c.code g.pc = .ok (.invokestatic index, 3))
    (hpre : ∀ vm₁, s.WarmedH vm₁ → Pre ⟨T.setVm vm₁, locs, cells, slots⟩ argsL.toArray) :
    ∃ (v : Option Value) (vm₁ : Vm) (B : Pt), s.WarmedH vm₁ ∧ Stand p l e R s m args below meth c B.U B.locs B.cells B.slots ∧ Post ⟨T.setVm vm₁, locs, cells, slots⟩ argsL.toArray v B ∧
      ∀ target, Steps p.tables e below (B.U.setTop { g with pc := g.pc + 3, stack := v.toList ++ rest }) target → Steps p.tables e below (T.setTop g) target := by
  obtain ⟨mk, methM, cM, hnamed, hmethM, -, -, -, -, -, -, hsigM⟩ := Cond.codeWith_spec hcode
  have hstatic : methM.isStatic = true := Cond.static_spec hnamed hmethM hstat
  obtain ⟨kP, hkP, -⟩ := className_of_methodNamed hnamed
  have hinitP : kP.init = .initialized := Cond.initialized_spec (findClass_of_methodNamed hnamed) hkP hinit
  obtain ⟨vm₁, X₁, hstep₁⟩ := X.invokestatic hexec hown hlink hnamed hmethM hstatic hkP hinitP hy (g := g) hg (argsL := argsL) (rest := rest) (hlen _ hsigM) hstack hdg
  obtain ⟨v, B, X', hpost, hsteps⟩ := hK m meth c ⟨T.setVm vm₁, locs, cells, slots⟩ { g with stack := rest } (.invokestatic index) mk argsL.toArray X₁ hg hsize hdg hW (X₁.named hnamed) (hpre vm₁ X₁.warmed)
  exact ⟨v, vm₁, B, X₁.warmed, X', hpost, fun target h => hstep₁ _ fun acts => by rw [doInvoke_state]; exact hsteps.trans h⟩
theorem vx_runSW {y : MethodName} {bytes cc : ByteArray} {maxL nL mc ms n index : Nat} {ret : Option FieldType} {hh : List (Nat × Nat × Nat × Nat)} {ws : List Cond} {rm : Room} {Pc : Array Value → State → Prop} {Qc : Array Value → State → Outcome → State → Prop} {free : Addr → Prop} {Ts : List Cond} {own : String} {As rest : List Value} {g : JFrame}
    (S : CallFix p m c cc nL s args Ts own) (hM : Met l y ws rm Pc Qc mc ms free) (cw : vx_CSW R s args own index y bytes maxL ret hh ws rm mc ms n) (hp : PreS s H Pc As)
    (hg : g.method = m) (hn : As.length = n) (hsize : g.locals.size = nL) (hstack : g.stack = As.reverse ++ rest) (hW : 2 * g.monitorRoom + (rest.map fun v => v.category).sum ≤ 8) (hdg : decode cc g.pc = .ok (.invokestatic index, 3)) (hf : cells + mc ≤ R.cells ∧ slots + ms ≤ R.slots) :
    va_Run p l e R s m args below meth c H locs cells slots mc ms g rest (Qc As.toArray) (free) := by
  obtain ⟨⟨hrc, hrs, hfr, hlo, hws, hcw⟩, hcode, hini, hy, hlen, hl, hstt⟩ := cw
  have hK : Back l R p e below s args y 3 8 (PreOf R mc ms Pc) (PostOf Qc mc ms free) := va_backW (hh := hh) (bytes := bytes) (maxL := maxL) (ret := ret) hM hp.1 hrc hrs hfr hlo hws hcw (fun a' U hW => word_at hW (Or.inl (by first | rfl | simp [Cond.onTables, Cond.keeps, Cond.steady])) hini)
  obtain ⟨hx, hb, hml, ho, -⟩ := S
  intro T hT X
  obtain ⟨v, vm₁, ⟨U', l2, c2, s2⟩, hW₁, X', ⟨g', mk, t, L, e1, e2, hq, h1, hL, h2, h3⟩, st⟩ := vx_callSW X hx (hh := hh) (bytes := bytes) (maxL := maxL) (ret := ret) ho hl hstt hini hcode hy hK hg (hsize.trans hml.symm) (argsL := As) (rest := rest) (fun sig h => hn.trans (hlen sig h)) hstack hW (by rw [hb]; exact hdg)
    (fun vm₁ hW₁ => ⟨hf.1, hf.2, hp.2 (T.setVm vm₁) hT hW₁⟩)
  dsimp only [Pt.U, Pt.locs, Pt.cells, Pt.slots] at X' e1 e2 h1 h2 h3 st
  subst h1; subst h2; subst h3
  exact ⟨v, (T.setVm vm₁).calling g' mk As.toArray, t, U', L, hT, X', hL, e1, e2, hq, st⟩
/-- not caught here, past rows that name other classes: it goes on to the caller -/
theorem vx_outP {p : Program} {l : Launch} {e : Env} {R : Room} {s : State} {m : MethodId} {args : Array Value} {below : List Frame} {meth : Method} {c : Code} {H : Heap} {locs : List Loc} {cells slots : Nat} {free : Addr → Prop} {ls : Array Slot} {rest : List Value} {Qc : Array Value → State → Outcome → State → Prop} {XC : String → State → State → Prop}
    {pc : Nat} {own E : String} {ce : Cell} {q : Addr} {mc ms : Nat} (hown : s.vm.findClass own = some m.cls) (hlocks : meth.locks = false)
    (hpass : ∀ z ∈ c.exceptionTable.toList, covers z pc = false ∨ (z.catchType ≠ 0 ∧ ∃ nm : String, (Cond.classLink own z.catchType nm).before args s = true ∧ va_Nc E nm s)) (hcell : H[q]? = some ce) (hv : ce.vm = .none) (hcl : s.vm.findClass E = some ce.cls)
    (hx : ∀ t : State, t.heap = H → s.vm.Alike t.vm → XC E s t) (hf : ∀ z ∈ locs, free z.base) (hc : cells ≤ mc) (hs : slots ≤ ms) :
    vx_W p l e R s m args below meth c H locs cells slots (vx_MQ below Qc XC args s mc ms free) (F0 m pc ls rest) q := by
  intro T hT X
  have hpl : e.platform.magicAccessors = ({} : Platform).magicAccessors := by rw [X.admits.platform]
  obtain ⟨vm', hW', X', st⟩ := X.outThrough hlocks q (g := F0 m pc ls rest) rfl rfl rfl (cell := ce) (by rw [hT]; exact hcell) (by rw [hv]; rfl)
    (by obtain ⟨k9, h9, -⟩ := Vm.findClass_spec hcl; exact ⟨k9, h9⟩) (fun z hz => by
      rcases hpass z hz with h | ⟨hz0, nm, hl1, hn1⟩
      · exact Or.inl h
      · obtain ⟨c6, hc6, hcl6⟩ := Cond.classLink_spec hown hl1 e.platform hpl
        obtain ⟨a8, b8, h1, h2, h3⟩ := hn1
        cases Option.some.inj (h1.symm.trans hcl)
        cases Option.some.inj (h2.symm.trans hc6)
        exact Or.inr ⟨hz0, _, hcl6, h3⟩)
  obtain ⟨g₀, hfr⟩ := X'.frames_eq
  have hcell9 : ((T.setVm vm').setFrames (.throwing q :: below)).heap[q]? = some ce := by
    show T.heap[q]? = some ce
    rw [hT]; exact hcell
  have hend : Ended ((T.setVm vm').setFrames (.throwing q :: below)) below (.threw q) := State.frames_setFrames _ (State.cur_lt_of_frames hfr)
  refine ⟨(T.setVm vm').setFrames (.throwing q :: below), ?_, .threw q, X'.here.running, hend, Or.inr ⟨q, rfl, E, ce, locs, hx _ hT (X'.ends _).1.alike, hcell9, hv, hcl, (X'.ends _).1, (X'.ends _).2.mono hc hs, hf⟩⟩
  rw [X.pushThrowing_eq]
  exact st
/-- a thing of a world lies in the heap -/
theorem vx_lt {D : va_G} {cl : List vw_C} {ws : va_W} {H1 : Heap} (h : va_P D cl ws H1) {k : Nat} {q : Nat × va_E} (hk : ws[k]? = some q) : q.1 < H1.size := (h k q hk).lt
end VXS
/-! ===== END ===== -/
/-! ===== BEGIN methods with a table of their own: called by a name, returning or throwing ===== -/
section VXH
/-! vx_backW, vx_callVX, vx_callSX, vx_callVW, vx_runVW, vx_runVX, vx_runSX, vx_ofWH follow the same proofs as their sisters above (Free/Laws.lean, Shelf42/LK1.lean); vx_outP calls Shelf42/NT130.lean (outThrough). -/
section
variable {l : Launch} {R : Room} {p : Program} {e : Env} {below : List Frame} {s : State} {sargs : Array Value} {y : MethodName} {len W9 : Nat}
theorem vx_backW {ws : List Cond} {rm : Room} {Pc : Array Value → State → Prop} {Qc : Array Value → State → Outcome → State → Prop} {XC : String → State → State → Prop} {mc ms : Nat} {free : Addr → Prop} {bytes : ByteArray} {maxL : Nat} {ret : Option FieldType} {hh : List (Nat × Nat × Nat × Nat)}
    (hM : vx_Met l y ws rm Pc Qc XC mc ms free) (hblind : FrameBlind Pc) (hrc : rm.cells = mc) (hrs : rm.slots = ms)
    (hframes : rm.frames + 1 ≤ R.frames) (hlocals : W9 + (maxL + 11) + rm.locals ≤ R.locals)
    (hws : ∀ w ∈ ws, ∀ a' U, s.WarmedH U.vm → w.before a' U = true) (hcode : Cond.codeWith y bytes maxL ret hh ∈ ws) (hinit : ∀ a' U, s.WarmedH U.vm → (Cond.initialized y.cls).before a' U = true) :
    vx_Back l R p e below s sargs y len W9 (PreOf R mc ms Pc) (PostOf Qc mc ms free) (vx_Post XC mc ms free) := by
  intro m meth c A g ig mk a X hg hsize hdg hW hn hp
  have h1 : (headSpec ws rm).pre.before a A.U = true := atoms_intro fun w hw => hws w hw _ _ X.warmed
  have h2 : (Cond.codeWith y bytes maxL ret hh).before a A.U = true := hws _ hcode _ _ X.warmed
  have h3 : (Cond.initialized y.cls).before a A.U = true := hinit _ _ X.warmed
  have h4 : A.cells + (headSpec ws rm).room.cells ≤ R.cells := by rw [show (headSpec ws rm).room.cells = mc from hrc]; exact hp.1
  have h5 : A.slots + (headSpec ws rm).room.slots ≤ R.slots := by rw [show (headSpec ws rm).room.slots = ms from hrs]; exact hp.2.1
  have hPc : Pc a (A.U.calling g mk a) := hblind _ _ _ _ hp.2.2
  obtain ⟨U, Ls, c0, s0⟩ := A
  dsimp only [Pt.U, Pt.locs, Pt.cells, Pt.slots] at h1 h2 h3 h4 h5 X hn hPc ⊢
  obtain ⟨m9, methY, cY, hn9, hmY, hcY, -, hlY, -⟩ := Cond.codeWith_spec h2
  cases Option.some.inj (hn9.symm.trans hn)
  obtain ⟨kY, hkY, -⟩ := className_of_methodNamed hn
  have hinitY : kY.init = .initialized := Cond.initialized_spec (findClass_of_methodNamed hn) hkY h3
  have h : At U g.method c below := by rw [hg]; exact X.here
  have hlocals9 : W9 + (maxL + 11) + (headSpec ws rm).room.locals ≤ R.locals := hlocals
  have happ : (headSpec ws rm).appliesLoose y e.platform (U.calling g mk a) = true :=
    Spec.appliesLoose_calling (g := g) h hdg hn hkY hinitY
      (X.room_calling (g := g) (R' := (headSpec ws rm).room) hsize hmY hcY hframes (by rw [hlY]; omega) h4 h5) h1
  obtain ⟨mid, hmid⟩ := h.above
  have hfr : (U.setTop g).frames = (.java g :: mid) ++ below := by rw [State.frames_setTop' g h.top, hmid]; rfl
  obtain ⟨o, s₂, hsteps, -, hend, hq⟩ := Steps.callFree hM p X.admits X.cas X.clock (acts := []) hfr happ hPc trivial
  have hq' : vx_Q Qc XC mc ms free a (U.calling g mk a) o s₂ := hq
  rw [State.frames_setTop' g h.top] at hend
  obtain ⟨g₀, hg0⟩ := Option.isSome_iff_exists.mp h.top
  obtain ⟨r, hr⟩ := State.topJava?_eq_some.mp hg0
  have hr' : (({ U with heap := s₂.heap, slotsUsed := s₂.slotsUsed } : State).setVm s₂.vm).frames = .java g₀ :: r := hr
  rcases hq' with ⟨hqc, L, hfe, hL⟩ | ⟨q, rfl, E, ce, L, hx, hce, hcv, hcl, hW₂, hsm, hL⟩
  · obtain ⟨⟨v, rfl⟩, hW₂, e2, q2, q3, q4, q5, q6⟩ := id hfe
    have e3 : s₂ = ({ (U.calling g mk a).setFrames s₂.frames with heap := s₂.heap, slotsUsed := s₂.slotsUsed } : State).setVm s₂.vm := by
      have : s₂ = ({ s₂ with vm := (U.calling g mk a).vm } : State).setVm s₂.vm := rfl
      rw [e2] at this
      exact this
    obtain ⟨c₂, i₂, len₂, hc₂, hd₂, hf₂⟩ := hend
    have hW' : U.WarmedH s₂.vm := hW₂
    have hcc : c₂ = c := by
      have h1 : s₂.code? g.method = U.code? g.method := by
        rw [State.code?_eq, State.code?_eq, hW'.alike.method?]
      exact Option.some.inj (hc₂.symm.trans (h1.trans h.code))
    subst hcc
    have hlen : len₂ = len := by rw [hdg] at hd₂; cases hd₂; rfl
    subst hlen
    have hs₂ : s₂ = (({ U with heap := s₂.heap, slotsUsed := s₂.slotsUsed } : State).setVm s₂.vm).setTop { g with pc := g.pc + len₂, stack := v.toList ++ g.stack } := by
      refine e3.trans ?_
      rw [hf₂, State.calling_eq h.top, State.setFrames_setFrames, State.setTop_of_frames _ hr', hr]
      rfl
    have hsame : U.sameButNew ({ U with heap := s₂.heap, slotsUsed := s₂.slotsUsed } : State) L mc ms := by
      refine ⟨?_, q2, q3, q4, q5, q6⟩
      obtain ⟨t, ht, -⟩ := State.frames_cons hr
      show ({ U with heap := s₂.heap, slotsUsed := s₂.slotsUsed } : State) = { U.setFrames U.frames with heap := s₂.heap, slotsUsed := s₂.slotsUsed }
      rw [State.setFrames_self ht]
    subst hg
    refine Or.inl ⟨v, ⟨(({ U with heap := s₂.heap, slotsUsed := s₂.slotsUsed } : State).setVm s₂.vm), Ls ++ L, c0 + mc, s0 + ms⟩,
      ⟨X.admits, X.cas, X.clock, X.frames, X.room, X.hears, X.method, X.code, (X.here.setHeapUsed s₂.heap s₂.slotsUsed).setVm hW'.alike, X.tail, State.WarmedH.trans X.warmed hW', X.limits, X.bytes, X.same.trans (hsame.setVm s.vm)⟩,
      ⟨g, mk, s₂, L, rfl, rfl, hqc, rfl, hL, rfl, rfl⟩, ?_⟩
    show Steps p.tables e below _ ((({ U with heap := s₂.heap, slotsUsed := s₂.slotsUsed } : State).setVm s₂.vm).setTop { g with pc := g.pc + len₂, stack := v.toList ++ g.stack })
    rw [← hs₂]
    exact hsteps
  · obtain ⟨e2, q2, q3, q4, q5, q6⟩ := id hsm
    have e3 : s₂ = ({ (U.calling g mk a).setFrames s₂.frames with heap := s₂.heap, slotsUsed := s₂.slotsUsed } : State).setVm s₂.vm := by
      have : s₂ = ({ s₂ with vm := (U.calling g mk a).vm } : State).setVm s₂.vm := rfl
      rw [e2] at this
      exact this
    have hf₂ : s₂.frames = .throwing q :: .java g :: U.frames.tail := hend
    have hW' : U.WarmedH s₂.vm := hW₂
    have hs₂ : s₂ = ((({ U with heap := s₂.heap, slotsUsed := s₂.slotsUsed } : State).setVm s₂.vm).setTop g).pushFrame (.throwing q) := by
      refine e3.trans ?_
      rw [hf₂, State.calling_eq h.top, State.setFrames_setFrames, State.pushFrame, State.frames_setTop _ hr', State.setTop_of_frames _ hr', State.setFrames_setFrames, hr]
      rfl
    have hsame : U.sameButNew ({ U with heap := s₂.heap, slotsUsed := s₂.slotsUsed } : State) L mc ms := by
      refine ⟨?_, q2, q3, q4, q5, q6⟩
      obtain ⟨t, ht, -⟩ := State.frames_cons hr
      show ({ U with heap := s₂.heap, slotsUsed := s₂.slotsUsed } : State) = { U.setFrames U.frames with heap := s₂.heap, slotsUsed := s₂.slotsUsed }
      rw [State.setFrames_self ht]
    subst hg
    refine Or.inr ⟨q, ⟨(({ U with heap := s₂.heap, slotsUsed := s₂.slotsUsed } : State).setVm s₂.vm), Ls ++ L, c0 + mc, s0 + ms⟩,
      ⟨X.admits, X.cas, X.clock, X.frames, X.room, X.hears, X.method, X.code, (X.here.setHeapUsed s₂.heap s₂.slotsUsed).setVm hW'.alike, X.tail, State.WarmedH.trans X.warmed hW', X.limits, X.bytes, X.same.trans (hsame.setVm s.vm)⟩,
      ⟨g, mk, s₂, L, E, ce, rfl, rfl, hx, hce, hcv, hcl, rfl, hL, rfl, rfl⟩, ?_⟩
    show Steps p.tables e below _ (((({ U with heap := s₂.heap, slotsUsed := s₂.slotsUsed } : State).setVm s₂.vm).setTop g).pushFrame (.throwing q))
    rw [← hs₂]
    exact hsteps
end
variable {p : Program} {l : Launch} {e : Env} {R : Room} {s : State} {m : MethodId} {args : Array Value} {below : List Frame} {meth : Method} {c : Code} {T : State} {H : Heap} {locs : List Loc} {cells slots : Nat}
theorem vx_callVX (X : Stand p l e R s m args below meth c T locs cells slots) (hexec : p.tables.exec = Jvm.exec) {own C : String} {index : Nat} {y : MethodName} {bytes : ByteArray} {maxL : Nat} {ret : Option FieldType} {hh : List (Nat × Nat × Nat × Nat)}
    (hown : s.vm.findClass own = some m.cls) (hlink : (Cond.methodLink own index y).before args s = true) (hinst : (Cond.instanceMethod y).before args s = true) (hsel : (Cond.selects C y y).before args s = true)
    (hcode : (Cond.codeWith y bytes maxL ret hh).before args s = true) (hy : y.cls ≠ "java/lang/invoke/MethodHandle" ∧ y.cls ≠ "java/lang/invoke/VarHandle")
    {W9 : Nat} {Pre : Pt → Array Value → Prop} {Post : Pt → Array Value → Option Value → Pt → Prop} {PostX : Pt → Array Value → Addr → Pt → Prop} (hK : vx_Back l R p e below s args y 3 W9 Pre Post PostX)
    {b : Addr} {cellB : Cell} (hcell : T.heap[b]? = some cellB) (hobj : cellB.vm.isStatics = false) (hcls : s.vm.findClass C = some cellB.cls)
    {g : JFrame} (hg : g.method = m) (hsize : g.locals.size = c.maxLocals) {argsL rest : List Value} (hlen : ∀ sig, parseMethodDescriptor y.desc = some sig → argsL.length = sig.parameters.length)
    (hstack : g.stack = argsL.reverse ++ .ref b :: rest) (hW : 2 * g.monitorRoom + (rest.map fun v => v.category).sum ≤ W9) (hdg : decode c.code g.pc = .ok (.invokevirtual index, 3))
    (hpre : ∀ vm₁, s.WarmedH vm₁ → Pre ⟨T.setVm vm₁, locs, cells, slots⟩ (Value.ref b :: argsL).toArray) :
    (∃ (v : Option Value) (vm₁ : Vm) (B : Pt), s.WarmedH vm₁ ∧ Stand p l e R s m args below meth c B.U B.locs B.cells B.slots ∧ Post ⟨T.setVm vm₁, locs, cells, slots⟩ (Value.ref b :: argsL).toArray v B ∧
      ∀ target, Steps p.tables e below (B.U.setTop { g with pc := g.pc + 3, stack := v.toList ++ rest }) target → Steps p.tables e below (T.setTop g) target) ∨
    (∃ (q : Addr) (vm₁ : Vm) (B : Pt), s.WarmedH vm₁ ∧ Stand p l e R s m args below meth c B.U B.locs B.cells B.slots ∧ PostX ⟨T.setVm vm₁, locs, cells, slots⟩ (Value.ref b :: argsL).toArray q B ∧
      Steps p.tables e below (T.setTop g) ((B.U.setTop { g with stack := rest }).pushFrame (.throwing q))) := by
  obtain ⟨mk, methM, hnamed, hmethM, hstM, habM⟩ := Cond.instanceMethod_spec hinst
  obtain ⟨m8, methM', cM, hn8, hmethM', -, -, -, -, -, -, hsigM⟩ := Cond.codeWith_spec hcode
  cases Option.some.inj (hn8.symm.trans hnamed)
  cases hmethM.symm.trans hmethM'
  obtain ⟨c2, r2, m2, q1, q2, q3, q4, kP, hkP, hkPi⟩ := Cond.selects_spec hsel
  cases hcls.symm.trans q1
  cases (State.methodFound?_of_named hnamed hy).symm.trans q2
  cases hnamed.symm.trans q3
  have hselP : selectMethod e.platform s.vm cellB.cls mk = .method mk := by rw [Launch.admits_selectMethod X.admits]; exact q4
  obtain ⟨vm₁, X₁, hstep₁⟩ := X.invokevirtual hexec hown hlink hnamed hmethM hstM hkP hkPi hy (a := b) (cell := cellB) hcell
    (fun z h => by rw [h] at hobj; cases hobj) hselP hmethM habM hkP hkPi (g := g) hg (argsL := argsL) (rest := rest) (hlen _ hsigM) hstack hdg
  rcases hK m meth c ⟨T.setVm vm₁, locs, cells, slots⟩ { g with stack := rest } (.invokevirtual index) mk (Value.ref b :: argsL).toArray X₁ hg hsize hdg hW (X₁.named hnamed) (hpre vm₁ X₁.warmed) with ⟨v, B, X', hpost, hsteps⟩ | ⟨q, B, X', hpost, hsteps⟩
  · exact Or.inl ⟨v, vm₁, B, X₁.warmed, X', hpost, fun target h => hstep₁ _ fun acts => by rw [doInvoke_state]; exact hsteps.trans h⟩
  · exact Or.inr ⟨q, vm₁, B, X₁.warmed, X', hpost, hstep₁ _ fun acts => by rw [doInvoke_state]; exact hsteps⟩
theorem vx_callSX (X : Stand p l e R s m args below meth c T locs cells slots) (hexec : p.tables.exec = Jvm.exec) {own : String} {index : Nat} {y : MethodName} {bytes : ByteArray} {maxL : Nat} {ret : Option FieldType} {hh : List (Nat × Nat × Nat × Nat)}
    (hown : s.vm.findClass own = some m.cls) (hlink : (Cond.methodLink own index y).before args s = true) (hstat : (Cond.static y).before args s = true) (hinit : (Cond.initialized y.cls).before args s = true)
    (hcode : (Cond.codeWith y bytes maxL ret hh).before args s = true) (hy : y.cls ≠ "java/lang/invoke/MethodHandle" ∧ y.cls ≠ "java/lang/invoke/VarHandle")
    {W9 : Nat} {Pre : Pt → Array Value → Prop} {Post : Pt → Array Value → Option Value → Pt → Prop} {PostX : Pt → Array Value → Addr → Pt → Prop} (hK : vx_Back l R p e below s args y 3 W9 Pre Post PostX)
    {g : JFrame} (hg : g.method = m) (hsize : g.locals.size = c.maxLocals) {argsL rest : List Value} (hlen : ∀ sig, parseMethodDescriptor y.desc = some sig → argsL.length = sig.parameters.length)
    (hstack : g.stack = argsL.reverse ++ rest) (hW : 2 * g.monitorRoom + (rest.map fun v => v.category).sum ≤ W9) (hdg : decode c.code g.pc = .ok (.invokestatic index, 3))
    (hpre : ∀ vm₁, s.WarmedH vm₁ → Pre ⟨T.setVm vm₁, locs, cells, slots⟩ argsL.toArray) :
    (∃ (v : Option Value) (vm₁ : Vm) (B : Pt), s.WarmedH vm₁ ∧ Stand p l e R s m args below meth c B.U B.locs B.cells B.slots ∧ Post ⟨T.setVm vm₁, locs, cells, slots⟩ argsL.toArray v B ∧
      ∀ target, Steps p.tables e below (B.U.setTop { g with pc := g.pc + 3, stack := v.toList ++ rest }) target → Steps p.tables e below (T.setTop g) target) ∨
    (∃ (q : Addr) (vm₁ : Vm) (B : Pt), s.WarmedH vm₁ ∧ Stand p l e R s m args below meth c B.U B.locs B.cells B.slots ∧ PostX ⟨T.setVm vm₁, locs, cells, slots⟩ argsL.toArray q B ∧
      Steps p.tables e below (T.setTop g) ((B.U.setTop { g with stack := rest }).pushFrame (.throwing q))) := by
  obtain ⟨mk, methM, cM, hnamed, hmethM, -, -, -, -, -, -, hsigM⟩ := Cond.codeWith_spec hcode
  have hstatic : methM.isStatic = true := Cond.static_spec hnamed hmethM hstat
  obtain ⟨kP, hkP, -⟩ := className_of_methodNamed hnamed
  have hinitP : kP.init = .initialized := Cond.initialized_spec (findClass_of_methodNamed hnamed) hkP hinit
  obtain ⟨vm₁, X₁, hstep₁⟩ := X.invokestatic hexec hown hlink hnamed hmethM hstatic hkP hinitP hy (g := g) hg (argsL := argsL) (rest := rest) (hlen _ hsigM) hstack hdg
  rcases hK m meth c ⟨T.setVm vm₁, locs, cells, slots⟩ { g with stack := rest } (.invokestatic index) mk argsL.toArray X₁ hg hsize hdg hW (X₁.named hnamed) (hpre vm₁ X₁.warmed) with ⟨v, B, X', hpost, hsteps⟩ | ⟨q, B, X', hpost, hsteps⟩
  · exact Or.inl ⟨v, vm₁, B, X₁.warmed, X', hpost, fun target h => hstep₁ _ fun acts => by rw [doInvoke_state]; exact hsteps.trans h⟩
  · exact Or.inr ⟨q, vm₁, B, X₁.warmed, X', hpost, hstep₁ _ fun acts => by rw [doInvoke_state]; exact hsteps⟩
theorem vx_callVW (X : Stand p l e R s m args below meth c T locs cells slots) (hexec : p.tables.exec = Jvm.exec) {own C : String} {index : Nat} {y : MethodName} {bytes : ByteArray} {maxL : Nat} {ret : Option FieldType} {hh : List (Nat × Nat × Nat × Nat)}
    (hown : s.vm.findClass own = some m.cls) (hlink : (Cond.methodLink own index y).before args s = true) (hinst : (Cond.instanceMethod y).before args s = true) (hsel : (Cond.selects C y y).before args s = true)
    (hcode : (Cond.codeWith y bytes maxL ret hh).before args s = true) (hy : y.cls ≠ "java/lang/invoke/MethodHandle" ∧ y.cls ≠ "java/lang/invoke/VarHandle")
    {W9 : Nat} {Pre : Pt → Array Value → Prop} {Post : Pt → Array Value → Option Value → Pt → Prop} (hK : Back l R p e below s args y 3 W9 Pre Post)
    {b : Addr} {cellB : Cell} (hcell : T.heap[b]? = some cellB) (hobj : cellB.vm.isStatics = false) (hcls : s.vm.findClass C = some cellB.cls)
    {g : JFrame} (hg : g.method = m) (hsize : g.locals.size = c.maxLocals) {argsL rest : List Value} (hlen : ∀ sig, parseMethodDescriptor y.desc = some sig → argsL.length = sig.parameters.length)
    (hstack : g.stack = argsL.reverse ++ .ref b :: rest) (hW : 2 * g.monitorRoom + (rest.map fun v => v.category).sum ≤ W9) (hdg : decode c.code g.pc = .ok (.invokevirtual index, 3))
    (hpre : ∀ vm₁, s.WarmedH vm₁ → Pre ⟨T.setVm vm₁, locs, cells, slots⟩ (Value.ref b :: argsL).toArray) :
    ∃ (v : Option Value) (vm₁ : Vm) (B : Pt), s.WarmedH vm₁ ∧ Stand p l e R s m args below meth c B.U B.locs B.cells B.slots ∧ Post ⟨T.setVm vm₁, locs, cells, slots⟩ (Value.ref b :: argsL).toArray v B ∧
      ∀ target, Steps p.tables e below (B.U.setTop { g with pc := g.pc + 3, stack := v.toList ++ rest }) target → Steps p.tables e below (T.setTop g) target := by
  obtain ⟨mk, methM, hnamed, hmethM, hstM, habM⟩ := Cond.instanceMethod_spec hinst
  obtain ⟨m8, methM', cM, hn8, hmethM', -, -, -, -, -, -, hsigM⟩ := Cond.codeWith_spec hcode
  cases Option.some.inj (hn8.symm.trans hnamed)
  cases hmethM.symm.trans hmethM'
  obtain ⟨c2, r2, m2, q1, q2, q3, q4, kP, hkP, hkPi⟩ := Cond.selects_spec hsel
  cases hcls.symm.trans q1
  cases (State.methodFound?_of_named hnamed hy).symm.trans q2
  cases hnamed.symm.trans q3
  have hselP : selectMethod e.platform s.vm cellB.cls mk = .method mk := by rw [Launch.admits_selectMethod X.admits]; exact q4
  obtain ⟨vm₁, X₁, hstep₁⟩ := X.invokevirtual hexec hown hlink hnamed hmethM hstM hkP hkPi hy (a := b) (cell := cellB) hcell
    (fun z h => by rw [h] at hobj; cases hobj) hselP hmethM habM hkP hkPi (g := g) hg (argsL := argsL) (rest := rest) (hlen _ hsigM) hstack hdg
  obtain ⟨v, B, X', hpost, hsteps⟩ := hK m meth c ⟨T.setVm vm₁, locs, cells, slots⟩ { g with stack := rest } (.invokevirtual index) mk (Value.ref b :: argsL).toArray X₁ hg hsize hdg hW (X₁.named hnamed) (hpre vm₁ X₁.warmed)
  exact ⟨v, vm₁, B, X₁.warmed, X', hpost, fun target h => hstep₁ _ fun acts => by rw [doInvoke_state]; exact hsteps.trans h⟩
abbrev vx_CVW (R : Room) (s : State) (args : Array Value) (own C : String) (index : Nat) (y : MethodName) (bytes : ByteArray) (maxL : Nat) (ret : Option FieldType) (hh : List (Nat × Nat × Nat × Nat)) (ws : List Cond) (rm : Room) (mc ms n : Nat) : Prop :=
  (rm.cells = mc ∧ rm.slots = ms ∧ rm.frames + 1 ≤ R.frames ∧ 8 + (maxL + 11) + rm.locals ≤ R.locals ∧ (∀ w ∈ ws, ∀ (a' : Array Value) (U : State), s.WarmedH U.vm → w.before a' U = true) ∧ Cond.codeWith y bytes maxL ret hh ∈ ws) ∧
  (Cond.codeWith y bytes maxL ret hh).before args s = true ∧ (Cond.initialized y.cls).before args s = true ∧ (y.cls ≠ "java/lang/invoke/MethodHandle" ∧ y.cls ≠ "java/lang/invoke/VarHandle") ∧
  (∀ sig, parseMethodDescriptor y.desc = some sig → n = sig.parameters.length) ∧ (Cond.methodLink own index y).before args s = true ∧ (Cond.instanceMethod y).before args s = true ∧ (Cond.selects C y y).before args s = true
theorem vx_cwVW {own C : String} {index maxL mc ms : Nat} {y : MethodName} {bytes : ByteArray} {ret : Option FieldType} {hh : List (Nat × Nat × Nat × Nat)} {Ts ws ws' : List Cond} {rm : Room} (n : Nat) (ht : ∀ w ∈ Ts, w.before args s = true) (hT : GoodIn Ts (wsV own index C y ws)) (hw : ws = Cond.codeWith y bytes maxL ret hh :: ws') (hrc : rm.cells = mc) (hrs : rm.slots = ms)
    (hd : y.cls = C ∧ y.cls ≠ "java/lang/invoke/MethodHandle" ∧ y.cls ≠ "java/lang/invoke/VarHandle" ∧ (parseMethodDescriptor y.desc).map (fun d => d.parameters.length) = some n) (hR : rm.frames + 1 ≤ R.frames ∧ 8 + (maxL + 11) + rm.locals ≤ R.locals) :
    vx_CVW R s args own C index y bytes maxL ret hh ws rm mc ms n := by
  obtain ⟨hC, hd⟩ := hd
  subst hC
  have ok : ∀ w ∈ wsV own index y.cls y ws, w.before args s = true := fun w h => ht w (hT w h).1
  have hG : GoodIn Ts ws := fun w h => hT w (by unfold wsV; exact List.mem_append_right _ h)
  have hc : Cond.codeWith y bytes maxL ret hh ∈ ws := by rw [hw]; exact List.mem_cons_self
  refine ⟨⟨hrc, hrs, hR.1, hR.2, pay_in ht hG, hc⟩, ht _ (hG _ hc).1, ok _ (by simp [wsV]), ⟨hd.1, hd.2.1⟩, fun sig h => ?_, ok _ (by simp [wsV]), ok _ (by simp [wsV]), ok _ (by simp [wsV])⟩
  have h2 := hd.2.2
  rw [h] at h2
  exact (Option.some.inj h2).symm
theorem vx_runVW {y : MethodName} {bytes cc : ByteArray} {maxL nL mc ms n index : Nat} {ret : Option FieldType} {hh : List (Nat × Nat × Nat × Nat)} {ws : List Cond} {rm : Room} {Pc : Array Value → State → Prop} {Qc : Array Value → State → Outcome → State → Prop} {free : Addr → Prop} {Ts : List Cond} {own C : String} {b : Addr} {As rest : List Value} {g : JFrame}
    (S : CallFix p m c cc nL s args Ts own) (hM : Met l y ws rm Pc Qc mc ms free) (cw : vx_CVW R s args own C index y bytes maxL ret hh ws rm mc ms n) (hp : PreV s H C b Pc As)
    (hg : g.method = m) (hn : As.length = n) (hsize : g.locals.size = nL) (hstack : g.stack = As.reverse ++ .ref b :: rest) (hW : 2 * g.monitorRoom + (rest.map fun v => v.category).sum ≤ 8) (hdg : decode cc g.pc = .ok (.invokevirtual index, 3)) (hf : cells + mc ≤ R.cells ∧ slots + ms ≤ R.slots) :
    va_Run p l e R s m args below meth c H locs cells slots mc ms g rest (Qc (Value.ref b :: As).toArray) free := by
  obtain ⟨⟨hrc, hrs, hfr, hlo, hws, hcw⟩, hcode, hini, hy, hlen, hl, hin, hse⟩ := cw
  have hK : Back l R p e below s args y 3 8 (PreOf R mc ms Pc) (PostOf Qc mc ms free) := va_backW (hh := hh) (bytes := bytes) (maxL := maxL) (ret := ret) hM hp.1 hrc hrs hfr hlo hws hcw (fun a' U hW => word_at hW (Or.inl (by first | rfl | simp [Cond.onTables, Cond.keeps, Cond.steady])) hini)
  obtain ⟨hx, hb, hml, ho, -⟩ := S
  obtain ⟨-, ⟨cellB, hcB, hoB, hclB⟩, hPc⟩ := hp
  intro T hT X
  obtain ⟨v, vm₁, ⟨U', l2, c2, s2⟩, hW₁, X', ⟨g', mk, t, L, e1, e2, hq, h1, hL, h2, h3⟩, st⟩ := vx_callVW X hx (C := C) (hh := hh) (bytes := bytes) (maxL := maxL) (ret := ret) ho hl hin hse hcode hy hK (by rw [hT]; exact hcB) hoB hclB hg (hsize.trans hml.symm) (argsL := As) (rest := rest) (fun sig h => hn.trans (hlen sig h)) hstack hW (by rw [hb]; exact hdg)
    (fun vm₁ hW₁ => ⟨hf.1, hf.2, hPc (T.setVm vm₁) hT hW₁⟩)
  dsimp only [Pt.U, Pt.locs, Pt.cells, Pt.slots] at X' e1 e2 h1 h2 h3 st
  subst h1; subst h2; subst h3
  exact ⟨v, (T.setVm vm₁).calling g' mk (Value.ref b :: As).toArray, t, U', L, hT, X', hL, e1, e2, hq, st⟩
section
variable {y : MethodName} {bytes cc : ByteArray} {maxL nL mc ms n index : Nat} {ret : Option FieldType} {ws : List Cond} {rm : Room} {Pc : Array Value → State → Prop} {Qc : Array Value → State → Outcome → State → Prop} {XC : String → State → State → Prop} {free : Addr → Prop} {Ts : List Cond} {own C : String} {b : Addr} {As rest : List Value} {g : JFrame}
theorem vx_runVX {hh : List (Nat × Nat × Nat × Nat)} (S : CallFix p m c cc nL s args Ts own) (hM : vx_Met l y ws rm Pc Qc XC mc ms free) (cw : vx_CVW R s args own C index y bytes maxL ret hh ws rm mc ms n) (hp : PreV s H C b Pc As)
    (hg : g.method = m) (hn : As.length = n) (hsize : g.locals.size = nL) (hstack : g.stack = As.reverse ++ .ref b :: rest) (hW : 2 * g.monitorRoom + (rest.map fun v => v.category).sum ≤ 8) (hdg : decode cc g.pc = .ok (.invokevirtual index, 3)) (hf : cells + mc ≤ R.cells ∧ slots + ms ≤ R.slots) :
    vx_Run p l e R s m args below meth c H locs cells slots mc ms g rest (Qc (Value.ref b :: As).toArray) XC free := by
  obtain ⟨⟨hrc, hrs, hfr, hlo, hws, hcw⟩, hcode, hini, hy, hlen, hl, hin, hse⟩ := cw
  have hK : vx_Back l R p e below s args y 3 8 (PreOf R mc ms Pc) (PostOf Qc mc ms free) (vx_Post XC mc ms free) := vx_backW (hh := hh) (bytes := bytes) (maxL := maxL) (ret := ret) hM hp.1 hrc hrs hfr hlo hws hcw (fun a' U hW => word_at hW (Or.inl (by first | rfl | simp [Cond.onTables, Cond.keeps, Cond.steady])) hini)
  obtain ⟨hx, hb, hml, ho, -⟩ := S
  obtain ⟨-, ⟨cellB, hcB, hoB, hclB⟩, hPc⟩ := hp
  intro T hT X
  rcases vx_callVX X hx (C := C) (hh := hh) (bytes := bytes) (maxL := maxL) (ret := ret) ho hl hin hse hcode hy hK (by rw [hT]; exact hcB) hoB hclB hg (hsize.trans hml.symm) (argsL := As) (rest := rest) (fun sig h => hn.trans (hlen sig h)) hstack hW (by rw [hb]; exact hdg)
    (fun vm₁ hW₁ => ⟨hf.1, hf.2, hPc (T.setVm vm₁) hT hW₁⟩) with ⟨v, vm₁, ⟨U', l2, c2, s2⟩, hW₁, X', ⟨g', mk, t, L, e1, e2, hq, h1, hL, h2, h3⟩, st⟩ | ⟨q, vm₁, ⟨U', l2, c2, s2⟩, hW₁, X', ⟨g', mk, t, L, E, ce, e1, e2, hq, hce, hcv, hcl, h1, hL, h2, h3⟩, st⟩
  · dsimp only [Pt.U, Pt.locs, Pt.cells, Pt.slots] at X' e1 e2 h1 h2 h3 st
    subst h1; subst h2; subst h3
    exact Or.inl ⟨v, (T.setVm vm₁).calling g' mk (Value.ref b :: As).toArray, t, U', L, hT, X', hL, e1, e2, hq, st⟩
  · dsimp only [Pt.U, Pt.locs, Pt.cells, Pt.slots] at X' e1 e2 h1 h2 h3 st hcl
    subst h1; subst h2; subst h3
    exact Or.inr ⟨q, (T.setVm vm₁).calling g' mk (Value.ref b :: As).toArray, t, U', L, E, ce, hT, X', hL, e1, e2, hq, hce, hcv, vx_cls hW₁ hcl, st⟩
theorem vx_runSX {hh : List (Nat × Nat × Nat × Nat)} (S : CallFix p m c cc nL s args Ts own) (hM : vx_Met l y ws rm Pc Qc XC mc ms free) (cw : vx_CSW R s args own index y bytes maxL ret hh ws rm mc ms n) (hp : PreS s H Pc As)
    (hg : g.method = m) (hn : As.length = n) (hsize : g.locals.size = nL) (hstack : g.stack = As.reverse ++ rest) (hW : 2 * g.monitorRoom + (rest.map fun v => v.category).sum ≤ 8) (hdg : decode cc g.pc = .ok (.invokestatic index, 3)) (hf : cells + mc ≤ R.cells ∧ slots + ms ≤ R.slots) :
    vx_Run p l e R s m args below meth c H locs cells slots mc ms g rest (Qc As.toArray) XC free := by
  obtain ⟨⟨hrc, hrs, hfr, hlo, hws, hcw⟩, hcode, hini, hy, hlen, hl, hstt⟩ := cw
  have hK : vx_Back l R p e below s args y 3 8 (PreOf R mc ms Pc) (PostOf Qc mc ms free) (vx_Post XC mc ms free) := vx_backW (hh := hh) (bytes := bytes) (maxL := maxL) (ret := ret) hM hp.1 hrc hrs hfr hlo hws hcw (fun a' U hW => word_at hW (Or.inl (by first | rfl | simp [Cond.onTables, Cond.keeps, Cond.steady])) hini)
  obtain ⟨hx, hb, hml, ho, -⟩ := S
  intro T hT X
  rcases vx_callSX X hx (hh := hh) (bytes := bytes) (maxL := maxL) (ret := ret) ho hl hstt hini hcode hy hK hg (hsize.trans hml.symm) (argsL := As) (rest := rest) (fun sig h => hn.trans (hlen sig h)) hstack hW (by rw [hb]; exact hdg)
    (fun vm₁ hW₁ => ⟨hf.1, hf.2, hp.2 (T.setVm vm₁) hT hW₁⟩) with ⟨v, vm₁, ⟨U', l2, c2, s2⟩, hW₁, X', ⟨g', mk, t, L, e1, e2, hq, h1, hL, h2, h3⟩, st⟩ | ⟨q, vm₁, ⟨U', l2, c2, s2⟩, hW₁, X', ⟨g', mk, t, L, E, ce, e1, e2, hq, hce, hcv, hcl, h1, hL, h2, h3⟩, st⟩
  · dsimp only [Pt.U, Pt.locs, Pt.cells, Pt.slots] at X' e1 e2 h1 h2 h3 st
    subst h1; subst h2; subst h3
    exact Or.inl ⟨v, (T.setVm vm₁).calling g' mk As.toArray, t, U', L, hT, X', hL, e1, e2, hq, st⟩
  · dsimp only [Pt.U, Pt.locs, Pt.cells, Pt.slots] at X' e1 e2 h1 h2 h3 st hcl
    subst h1; subst h2; subst h3
    exact Or.inr ⟨q, (T.setVm vm₁).calling g' mk As.toArray, t, U', L, E, ce, hT, X', hL, e1, e2, hq, hce, hcv, vx_cls hW₁ hcl, st⟩
end
end VXH
theorem vx_ofWH {l : Launch} {y : MethodName} {ws ws' : List Cond} {rm : Room} {Pc : Array Value → State → Prop} {Qc : Array Value → State → Outcome → State → Prop} {XC : String → State → State → Prop} {mc ms : Nat} {free : Addr → Prop} {cc : ByteArray} {maxL : Nat} {ret : Option FieldType} {hh : List (Nat × Nat × Nat × Nat)}
    (hy : plainName y.cls = true) (hw : ws = Cond.codeWith y cc maxL ret hh :: ws')
    (body : ∀ p e s m args below meth c s₁, BodyLoose p l y (headSpec ws rm) cc maxL ret e s m args below meth c s₁ → c.maxLocals = maxL → Pc args s →
      W p l e (headSpec ws rm).room s m args below meth c s.heap [] 0 0 (vx_MQ below Qc XC args s mc ms free) (entryFrame m args maxL)) : vx_Met l y ws rm Pc Qc XC mc ms free := by
  refine MetFree.of_bodyS (code := cc) (maxLocals := maxL) (ret := ret) hy ?_ ?_
  · intro args s m h hn
    obtain ⟨m9, meth, c, hn9, h1, h2, h3, h4, -, h5, h6, -⟩ := Cond.codeWith_spec (atoms_spec (ws := ws) h _ (by rw [hw]; exact List.mem_cons_self))
    cases hn.symm.trans hn9
    exact ⟨meth, c, h1, h2, h3, h4, h5, h6⟩
  · intro p e s m args below meth c s₁ B hml hP _
    have hh0 : s₁.heap = s.heap := by rw [B.state]; rfl
    obtain ⟨t, a1, o, b1, b2, b3⟩ := body p e s m args below meth c s₁ B hml hP s₁ hh0 (Stand.of_body B)
    exact ⟨t, o, a1, b1, b2, b3⟩
/-! ===== END ===== -/
end
section
def RX0 : String := "SteppedSamples$BlockText"
def TX0 : u_T := fun k => match k with
  | 0 => ("SteppedSamples$BlockText", "signs", "[I", true)
  | 1 => ("SteppedSamples$BlockText", "length", "I", false)
  | 2 => ("SteppedSamples$BlockText", "first", "I", false)
  | 3 => ("SteppedSamples$BlockText", "number", "I", false)
  | 4 => ("SteppedSamples$BlockText", "codes", "[I", true)
  | 5 => ("SteppedSamples$BlockText", "codeCount", "I", false)
  | 6 => ("SteppedSamples$BlockText", "part", "I", false)
  | 7 => ("SteppedSamples$BlockText", "negative", "Z", false)
  | 8 => ("SteppedSamples$BlockText", "hasDigit", "Z", false)
  | _ => ("SteppedSamples$BlockText", "digits", "I", false)
def tyX0 : Nat → FieldType := fun k => match k with
  | 0 => .array .int
  | 1 => .int
  | 2 => .int
  | 3 => .int
  | 4 => .array .int
  | 5 => .int
  | 6 => .int
  | 7 => .boolean
  | 8 => .boolean
  | _ => .int
abbrev wsX00 : List Cond := u_ws RX0 TX0 10
theorem nmX0 : ∀ a, a < 10 → ∀ b, b < 10 → a ≠ b → (TX0 a).2.1 ≠ (TX0 b).2.1 := by decide +kernel
theorem tyX0_ok : ∀ k, k < 10 → parseFieldDescriptor (TX0 k).2.2.1 = some (tyX0 k) := by decide +kernel
abbrev cX0_init : ByteArray := prog_2_method_1_code
def yX0_init : MethodName := ⟨RX0, "<init>", "()V"⟩
abbrev cX0_isFull : ByteArray := prog_2_method_2_code
def yX0_isFull : MethodName := ⟨RX0, "isFull", "()Z"⟩
abbrev cX0_put : ByteArray := prog_2_method_3_code
def yX0_put : MethodName := ⟨RX0, "put", "(I)V"⟩
abbrev cX0_tell : ByteArray := prog_2_method_4_code
def yX0_tell : MethodName := ⟨RX0, "tell", "(LSteppedSamples$State;I)V"⟩
abbrev cX0_putNumber : ByteArray := prog_2_method_5_code
def yX0_putNumber : MethodName := ⟨RX0, "putNumber", "(I)V"⟩
abbrev cX0_tellsBlock : ByteArray := prog_2_method_6_code
def yX0_tellsBlock : MethodName := ⟨RX0, "tellsBlock", "()Z"⟩
abbrev cX0_read : ByteArray := prog_2_method_7_code
def yX0_read : MethodName := ⟨RX0, "read", "()I"⟩
abbrev cX0_readsOn : ByteArray := prog_2_method_8_code
def yX0_readsOn : MethodName := ⟨RX0, "readsOn", "(I)Z"⟩
abbrev cX0_readsFirst : ByteArray := prog_2_method_9_code
def yX0_readsFirst : MethodName := ⟨RX0, "readsFirst", "(I)Z"⟩
abbrev cX0_readsNumber : ByteArray := prog_2_method_10_code
def yX0_readsNumber : MethodName := ⟨RX0, "readsNumber", "(I)Z"⟩
abbrev cX0_readsCode : ByteArray := prog_2_method_11_code
def yX0_readsCode : MethodName := ⟨RX0, "readsCode", "(I)Z"⟩
abbrev cX0_beginDigits : ByteArray := prog_2_method_12_code
def yX0_beginDigits : MethodName := ⟨RX0, "beginDigits", "()V"⟩
abbrev cX0_readsDigit : ByteArray := prog_2_method_13_code
def yX0_readsDigit : MethodName := ⟨RX0, "readsDigit", "(II)Z"⟩
def RX1 : String := "SteppedSamples$Coder"
def TX1 : u_T := fun k => match k with
  | _ => ("SteppedSamples$Coder", "walk", "LSteppedSamples$Walk;", true)
def tyX1 : Nat → FieldType := fun k => match k with
  | _ => .object "SteppedSamples$Walk"
abbrev wsX10 : List Cond := u_ws RX1 TX1 1
theorem nmX1 : ∀ a, a < 1 → ∀ b, b < 1 → a ≠ b → (TX1 a).2.1 ≠ (TX1 b).2.1 := by decide +kernel
theorem tyX1_ok : ∀ k, k < 1 → parseFieldDescriptor (TX1 k).2.2.1 = some (tyX1 k) := by decide +kernel
abbrev cX1_init : ByteArray := prog_3_method_1_code
def yX1_init : MethodName := ⟨RX1, "<init>", "()V"⟩
abbrev cX1_codeWave : ByteArray := prog_3_method_2_code
def yX1_codeWave : MethodName := ⟨RX1, "codeWave", "(LSteppedSamples$State;)V"⟩
abbrev cX1_codeBlock : ByteArray := prog_3_method_3_code
def yX1_codeBlock : MethodName := ⟨RX1, "codeBlock", "(LSteppedSamples$State;II)V"⟩
abbrev cX1_errorAsBlock : ByteArray := prog_3_method_4_code
def yX1_errorAsBlock : MethodName := ⟨RX1, "errorAsBlock", "(LSteppedSamples$State;III)I"⟩
abbrev cX1_bestStart : ByteArray := prog_3_method_5_code
def yX1_bestStart : MethodName := ⟨RX1, "bestStart", "(LSteppedSamples$State;II)I"⟩
def RX2 : String := "SteppedSamples$Decoder"
def TX2 : u_T := fun k => match k with
  | 0 => ("SteppedSamples$Decoder", "made", "[I", true)
  | 1 => ("SteppedSamples$Decoder", "numbers", "[I", true)
  | 2 => ("SteppedSamples$Decoder", "walk", "LSteppedSamples$Walk;", true)
  | _ => ("SteppedSamples$Decoder", "upToDate", "Z", false)
def tyX2 : Nat → FieldType := fun k => match k with
  | 0 => .array .int
  | 1 => .array .int
  | 2 => .object "SteppedSamples$Walk"
  | _ => .boolean
abbrev wsX20 : List Cond := u_ws RX2 TX2 4
theorem nmX2 : ∀ a, a < 4 → ∀ b, b < 4 → a ≠ b → (TX2 a).2.1 ≠ (TX2 b).2.1 := by decide +kernel
theorem tyX2_ok : ∀ k, k < 4 → parseFieldDescriptor (TX2 k).2.2.1 = some (tyX2 k) := by decide +kernel
abbrev cX2_init : ByteArray := prog_4_method_1_code
def yX2_init : MethodName := ⟨RX2, "<init>", "()V"⟩
abbrev cX2_decode : ByteArray := prog_4_method_2_code
def yX2_decode : MethodName := ⟨RX2, "decode", "(LSteppedSamples$State;)V"⟩
abbrev cX2_decodeBlock : ByteArray := prog_4_method_3_code
def yX2_decodeBlock : MethodName := ⟨RX2, "decodeBlock", "(LSteppedSamples$State;I)V"⟩
abbrev cX2_fillBlock : ByteArray := prog_4_method_4_code
def yX2_fillBlock : MethodName := ⟨RX2, "fillBlock", "(LSteppedSamples$State;I)V"⟩
abbrev cX2_fillingOf : ByteArray := prog_4_method_5_code
def yX2_fillingOf : MethodName := ⟨RX2, "fillingOf", "(LSteppedSamples$State;II)I"⟩
abbrev cX2_errorOf : ByteArray := prog_4_method_6_code
def yX2_errorOf : MethodName := ⟨RX2, "errorOf", "(LSteppedSamples$State;II)I"⟩
abbrev cX2_greatestDifference : ByteArray := prog_4_method_7_code
def yX2_greatestDifference : MethodName := ⟨RX2, "greatestDifference", "(LSteppedSamples$State;)I"⟩
abbrev cX2_justAsTheyAre : ByteArray := prog_4_method_8_code
def yX2_justAsTheyAre : MethodName := ⟨RX2, "justAsTheyAre", "(LSteppedSamples$State;)I"⟩
abbrev cX2_othersThan : ByteArray := prog_4_method_9_code
def yX2_othersThan : MethodName := ⟨RX2, "othersThan", "(LSteppedSamples$Decoder;I)I"⟩
def RX3 : String := "SteppedSamples$History"
def TX3 : u_T := fun k => match k with
  | 0 => ("SteppedSamples$History", "saved", "[LSteppedSamples$State;", true)
  | _ => ("SteppedSamples$History", "many", "I", false)
def tyX3 : Nat → FieldType := fun k => match k with
  | 0 => .array (.object "SteppedSamples$State")
  | _ => .int
abbrev wsX30 : List Cond := u_ws RX3 TX3 2
theorem nmX3 : ∀ a, a < 2 → ∀ b, b < 2 → a ≠ b → (TX3 a).2.1 ≠ (TX3 b).2.1 := by decide +kernel
theorem tyX3_ok : ∀ k, k < 2 → parseFieldDescriptor (TX3 k).2.2.1 = some (tyX3 k) := by decide +kernel
abbrev cX3_init : ByteArray := prog_5_method_1_code
def yX3_init : MethodName := ⟨RX3, "<init>", "()V"⟩
abbrev cX3_save : ByteArray := prog_5_method_2_code
def yX3_save : MethodName := ⟨RX3, "save", "(LSteppedSamples$State;)V"⟩
abbrev cX3_restore : ByteArray := prog_5_method_3_code
def yX3_restore : MethodName := ⟨RX3, "restore", "(LSteppedSamples$State;)V"⟩
abbrev cX3_dropOldest : ByteArray := prog_5_method_4_code
def yX3_dropOldest : MethodName := ⟨RX3, "dropOldest", "()V"⟩
def RX4 : String := "SteppedSamples$State"
def TX4 : u_T := fun k => match k with
  | 0 => ("SteppedSamples$State", "many", "I", false)
  | 1 => ("SteppedSamples$State", "values", "[I", true)
  | 2 => ("SteppedSamples$State", "settings", "[I", true)
  | 3 => ("SteppedSamples$State", "blocks", "I", false)
  | 4 => ("SteppedSamples$State", "firsts", "[I", true)
  | 5 => ("SteppedSamples$State", "starts", "[I", true)
  | 6 => ("SteppedSamples$State", "lost", "[Z", true)
  | 7 => ("SteppedSamples$State", "codes", "[I", true)
  | 8 => ("SteppedSamples$State", "guesses", "[I", true)
  | 9 => ("SteppedSamples$State", "codings", "I", false)
  | _ => ("SteppedSamples$State", "turned", "I", false)
def tyX4 : Nat → FieldType := fun k => match k with
  | 0 => .int
  | 1 => .array .int
  | 2 => .array .int
  | 3 => .int
  | 4 => .array .int
  | 5 => .array .int
  | 6 => .array .boolean
  | 7 => .array .int
  | 8 => .array .int
  | 9 => .int
  | _ => .int
abbrev wsX40 : List Cond := u_ws RX4 TX4 11
theorem nmX4 : ∀ a, a < 11 → ∀ b, b < 11 → a ≠ b → (TX4 a).2.1 ≠ (TX4 b).2.1 := by decide +kernel
theorem tyX4_ok : ∀ k, k < 11 → parseFieldDescriptor (TX4 k).2.2.1 = some (tyX4 k) := by decide +kernel
abbrev cX4_init : ByteArray := prog_6_method_1_code
def yX4_init : MethodName := ⟨RX4, "<init>", "()V"⟩
abbrev cX4_copyFrom : ByteArray := prog_6_method_2_code
def yX4_copyFrom : MethodName := ⟨RX4, "copyFrom", "(LSteppedSamples$State;)V"⟩
abbrev cX4_becomeSilence : ByteArray := prog_6_method_3_code
def yX4_becomeSilence : MethodName := ⟨RX4, "becomeSilence", "(I)V"⟩
abbrev cX4_forgetBlocks : ByteArray := prog_6_method_4_code
def yX4_forgetBlocks : MethodName := ⟨RX4, "forgetBlocks", "()V"⟩
abbrev cX4_isCoded : ByteArray := prog_6_method_5_code
def yX4_isCoded : MethodName := ⟨RX4, "isCoded", "()Z"⟩
abbrev cX4_hasSample : ByteArray := prog_6_method_6_code
def yX4_hasSample : MethodName := ⟨RX4, "hasSample", "(I)Z"⟩
abbrev cX4_hasBlock : ByteArray := prog_6_method_7_code
def yX4_hasBlock : MethodName := ⟨RX4, "hasBlock", "(I)Z"⟩
abbrev cX4_hasCode : ByteArray := prog_6_method_8_code
def yX4_hasCode : MethodName := ⟨RX4, "hasCode", "(I)Z"⟩
abbrev cX4_startOf : ByteArray := prog_6_method_9_code
def yX4_startOf : MethodName := ⟨RX4, "startOf", "(I)I"⟩
abbrev cX4_endOf : ByteArray := prog_6_method_10_code
def yX4_endOf : MethodName := ⟨RX4, "endOf", "(I)I"⟩
abbrev cX4_codesOf : ByteArray := prog_6_method_11_code
def yX4_codesOf : MethodName := ⟨RX4, "codesOf", "(I)I"⟩
abbrev cX4_lostBlocks : ByteArray := prog_6_method_12_code
def yX4_lostBlocks : MethodName := ⟨RX4, "lostBlocks", "()I"⟩
abbrev cX4_turnOver : ByteArray := prog_6_method_13_code
def yX4_turnOver : MethodName := ⟨RX4, "turnOver", "(II)V"⟩
abbrev cX4_putBlock : ByteArray := prog_6_method_14_code
def yX4_putBlock : MethodName := ⟨RX4, "putBlock", "(ILSteppedSamples$BlockText;)V"⟩
def RX5 : String := "SteppedSamples$Walk"
def TX5 : u_T := fun k => match k with
  | 0 => ("SteppedSamples$Walk", "guess", "I", false)
  | _ => ("SteppedSamples$Walk", "number", "I", false)
def tyX5 : Nat → FieldType := fun k => match k with
  | 0 => .int
  | _ => .int
abbrev wsX50 : List Cond := u_ws RX5 TX5 2
theorem nmX5 : ∀ a, a < 2 → ∀ b, b < 2 → a ≠ b → (TX5 a).2.1 ≠ (TX5 b).2.1 := by decide +kernel
theorem tyX5_ok : ∀ k, k < 2 → parseFieldDescriptor (TX5 k).2.2.1 = some (tyX5 k) := by decide +kernel
abbrev cX5_init : ByteArray := prog_7_method_1_code
def yX5_init : MethodName := ⟨RX5, "<init>", "()V"⟩
abbrev cX5_stepOf : ByteArray := prog_7_method_2_code
def yX5_stepOf : MethodName := ⟨RX5, "stepOf", "(I)I"⟩
abbrev cX5_begin : ByteArray := prog_7_method_3_code
def yX5_begin : MethodName := ⟨RX5, "begin", "(II)V"⟩
abbrev cX5_codeTowards : ByteArray := prog_7_method_4_code
def yX5_codeTowards : MethodName := ⟨RX5, "codeTowards", "(I)I"⟩
abbrev cX5_follow : ByteArray := prog_7_method_5_code
def yX5_follow : MethodName := ⟨RX5, "follow", "(I)V"⟩
abbrev cX5_changeBy : ByteArray := prog_7_method_6_code
def yX5_changeBy : MethodName := ⟨RX5, "changeBy", "(II)I"⟩
def RX6 : String := "SteppedSamples"
def TX6 : u_T := fun k => match k with
  | 0 => ("SteppedSamples", "now", "LSteppedSamples$State;", true)
  | 1 => ("SteppedSamples", "history", "LSteppedSamples$History;", true)
  | 2 => ("SteppedSamples", "slots", "[LSteppedSamples$State;", true)
  | 3 => ("SteppedSamples", "kept", "[Z", true)
  | 4 => ("SteppedSamples", "buffer", "LSteppedSamples$BlockText;", true)
  | 5 => ("SteppedSamples", "coder", "LSteppedSamples$Coder;", true)
  | 6 => ("SteppedSamples", "decoder", "LSteppedSamples$Decoder;", true)
  | 7 => ("SteppedSamples", "decoderAfter", "LSteppedSamples$Decoder;", true)
  | _ => ("SteppedSamples", "walk", "LSteppedSamples$Walk;", true)
def tyX6 : Nat → FieldType := fun k => match k with
  | 0 => .object "SteppedSamples$State"
  | 1 => .object "SteppedSamples$History"
  | 2 => .array (.object "SteppedSamples$State")
  | 3 => .array .boolean
  | 4 => .object "SteppedSamples$BlockText"
  | 5 => .object "SteppedSamples$Coder"
  | 6 => .object "SteppedSamples$Decoder"
  | 7 => .object "SteppedSamples$Decoder"
  | _ => .object "SteppedSamples$Walk"
abbrev wsX60 : List Cond := u_ws RX6 TX6 9
theorem nmX6 : ∀ a, a < 9 → ∀ b, b < 9 → a ≠ b → (TX6 a).2.1 ≠ (TX6 b).2.1 := by decide +kernel
theorem tyX6_ok : ∀ k, k < 9 → parseFieldDescriptor (TX6 k).2.2.1 = some (tyX6 k) := by decide +kernel
abbrev cX6_init : ByteArray := prog_1_method_1_code
def yX6_init : MethodName := ⟨RX6, "<init>", "()V"⟩
abbrev cX6_wave : ByteArray := prog_1_method_2_code
def yX6_wave : MethodName := ⟨RX6, "wave", "(I)I"⟩
abbrev cX6_sample : ByteArray := prog_1_method_3_code
def yX6_sample : MethodName := ⟨RX6, "sample", "(II)I"⟩
abbrev cX6_add : ByteArray := prog_1_method_4_code
def yX6_add : MethodName := ⟨RX6, "add", "(III)I"⟩
abbrev cX6_take : ByteArray := prog_1_method_5_code
def yX6_take : MethodName := ⟨RX6, "take", "()I"⟩
abbrev cX6_set : ByteArray := prog_1_method_6_code
def yX6_set : MethodName := ⟨RX6, "set", "(II)I"⟩
abbrev cX6_code : ByteArray := prog_1_method_7_code
def yX6_code : MethodName := ⟨RX6, "code", "()I"⟩
abbrev cX6_lose : ByteArray := prog_1_method_8_code
def yX6_lose : MethodName := ⟨RX6, "lose", "(I)I"⟩
abbrev cX6_spoil : ByteArray := prog_1_method_9_code
def yX6_spoil : MethodName := ⟨RX6, "spoil", "(II)I"⟩
abbrev cX6_append : ByteArray := prog_1_method_10_code
def yX6_append : MethodName := ⟨RX6, "append", "(I)I"⟩
abbrev cX6_clearBuffer : ByteArray := prog_1_method_11_code
def yX6_clearBuffer : MethodName := ⟨RX6, "clearBuffer", "()I"⟩
abbrev cX6_firstError : ByteArray := prog_1_method_12_code
def yX6_firstError : MethodName := ⟨RX6, "firstError", "()I"⟩
abbrev cX6_load : ByteArray := prog_1_method_13_code
def yX6_load : MethodName := ⟨RX6, "load", "(I)I"⟩
abbrev cX6_write : ByteArray := prog_1_method_14_code
def yX6_write : MethodName := ⟨RX6, "write", "(I)I"⟩
abbrev cX6_keep : ByteArray := prog_1_method_15_code
def yX6_keep : MethodName := ⟨RX6, "keep", "(I)I"⟩
abbrev cX6_goBack : ByteArray := prog_1_method_16_code
def yX6_goBack : MethodName := ⟨RX6, "goBack", "(I)I"⟩
abbrev cX6_undo : ByteArray := prog_1_method_17_code
def yX6_undo : MethodName := ⟨RX6, "undo", "()I"⟩
abbrev cX6_step : ByteArray := prog_1_method_18_code
def yX6_step : MethodName := ⟨RX6, "step", "(I)I"⟩
abbrev cX6_sampleOf : ByteArray := prog_1_method_19_code
def yX6_sampleOf : MethodName := ⟨RX6, "sampleOf", "(II)I"⟩
abbrev cX6_blockOf : ByteArray := prog_1_method_20_code
def yX6_blockOf : MethodName := ⟨RX6, "blockOf", "(II)I"⟩
abbrev cX6_count : ByteArray := prog_1_method_21_code
def yX6_count : MethodName := ⟨RX6, "count", "(I)I"⟩
abbrev cX6_setting : ByteArray := prog_1_method_22_code
def yX6_setting : MethodName := ⟨RX6, "setting", "(I)I"⟩
abbrev cX6_ifCoded : ByteArray := prog_1_method_23_code
def yX6_ifCoded : MethodName := ⟨RX6, "ifCoded", "(IIII)I"⟩
abbrev cX6_ifBlock : ByteArray := prog_1_method_24_code
def yX6_ifBlock : MethodName := ⟨RX6, "ifBlock", "(III)I"⟩
abbrev cX6_bestStep : ByteArray := prog_1_method_25_code
def yX6_bestStep : MethodName := ⟨RX6, "bestStep", "(II)I"⟩
abbrev cX6_ifSpoiled : ByteArray := prog_1_method_26_code
def yX6_ifSpoiled : MethodName := ⟨RX6, "ifSpoiled", "(II)I"⟩
abbrev cX6_meanSquare : ByteArray := prog_1_method_27_code
def yX6_meanSquare : MethodName := ⟨RX6, "meanSquare", "()D"⟩
abbrev cX6_loudness : ByteArray := prog_1_method_28_code
def yX6_loudness : MethodName := ⟨RX6, "loudness", "()F"⟩
abbrev cX6_digest : ByteArray := prog_1_method_29_code
def yX6_digest : MethodName := ⟨RX6, "digest", "()J"⟩
abbrev cX6_beginChange : ByteArray := prog_1_method_30_code
def yX6_beginChange : MethodName := ⟨RX6, "beginChange", "()V"⟩
abbrev cX6_refuseUnlessBlock : ByteArray := prog_1_method_31_code
def yX6_refuseUnlessBlock : MethodName := ⟨RX6, "refuseUnlessBlock", "(I)V"⟩
abbrev cX6_refuseUnlessCodeBit : ByteArray := prog_1_method_32_code
def yX6_refuseUnlessCodeBit : MethodName := ⟨RX6, "refuseUnlessCodeBit", "(II)V"⟩
abbrev cX6_refuseUnlessSamples : ByteArray := prog_1_method_33_code
def yX6_refuseUnlessSamples : MethodName := ⟨RX6, "refuseUnlessSamples", "(II)V"⟩
abbrev cX6_refuseUnlessSlot : ByteArray := prog_1_method_34_code
def yX6_refuseUnlessSlot : MethodName := ⟨RX6, "refuseUnlessSlot", "(I)V"⟩
abbrev cX6_isValue : ByteArray := prog_1_method_35_code
def yX6_isValue : MethodName := ⟨RX6, "isValue", "(I)Z"⟩
abbrev cX6_isNumber : ByteArray := prog_1_method_36_code
def yX6_isNumber : MethodName := ⟨RX6, "isNumber", "(I)Z"⟩
abbrev cX6_isSetting : ByteArray := prog_1_method_37_code
def yX6_isSetting : MethodName := ⟨RX6, "isSetting", "(I)Z"⟩
abbrev cX6_leastOfSetting : ByteArray := prog_1_method_38_code
def yX6_leastOfSetting : MethodName := ⟨RX6, "leastOfSetting", "(I)I"⟩
abbrev cX6_mostOfSetting : ByteArray := prog_1_method_39_code
def yX6_mostOfSetting : MethodName := ⟨RX6, "mostOfSetting", "(I)I"⟩
abbrev cX6_clip : ByteArray := prog_1_method_40_code
def yX6_clip : MethodName := ⟨RX6, "clip", "(I)I"⟩
abbrev cX6_shape : ByteArray := prog_1_method_41_code
def yX6_shape : MethodName := ⟨RX6, "shape", "(IIII)I"⟩
abbrev cX6_copyRow : ByteArray := prog_1_method_42_code
def yX6_copyRow : MethodName := ⟨RX6, "copyRow", "([I[I)V"⟩
abbrev cX6_codedCount : ByteArray := prog_1_method_43_code
def yX6_codedCount : MethodName := ⟨RX6, "codedCount", "(I)I"⟩
abbrev cX6_wholeError : ByteArray := prog_1_method_44_code
def yX6_wholeError : MethodName := ⟨RX6, "wholeError", "()I"⟩
abbrev cX6_errorByBlocks : ByteArray := prog_1_method_45_code
def yX6_errorByBlocks : MethodName := ⟨RX6, "errorByBlocks", "()I"⟩
abbrev cX6_leadOf : ByteArray := prog_1_method_46_code
def yX6_leadOf : MethodName := ⟨RX6, "leadOf", "(I)I"⟩
abbrev cX6_mix : ByteArray := prog_1_method_47_code
def yX6_mix : MethodName := ⟨RX6, "mix", "(JJ)J"⟩
abbrev cX6_mixSamplesAndBlocks : ByteArray := prog_1_method_48_code
def yX6_mixSamplesAndBlocks : MethodName := ⟨RX6, "mixSamplesAndBlocks", "(J)J"⟩
abbrev cX6_mixWhatWouldBe : ByteArray := prog_1_method_49_code
def yX6_mixWhatWouldBe : MethodName := ⟨RX6, "mixWhatWouldBe", "(J)J"⟩
abbrev cX6_bitsOfDouble : ByteArray := prog_1_method_50_code
def yX6_bitsOfDouble : MethodName := ⟨RX6, "bitsOfDouble", "(D)J"⟩
abbrev cX6_bitsOfFloat : ByteArray := prog_1_method_51_code
def yX6_bitsOfFloat : MethodName := ⟨RX6, "bitsOfFloat", "(F)I"⟩
abbrev cX6_bitsOf : ByteArray := prog_1_method_52_code
def yX6_bitsOf : MethodName := ⟨RX6, "bitsOf", "(DII)J"⟩
def RX7 : String := "SteppedSamplesModel"
def TX7 : u_T := fun k => match k with
  | 0 => ("SteppedSamplesModel", "thrown", "I", false)
  | 1 => ("SteppedSamplesModel", "s", "[I", true)
  | 2 => ("SteppedSamplesModel", "saved", "[I", true)
  | 3 => ("SteppedSamplesModel", "savedMany", "I", false)
  | 4 => ("SteppedSamplesModel", "slots", "[I", true)
  | 5 => ("SteppedSamplesModel", "isKept", "[Z", true)
  | 6 => ("SteppedSamplesModel", "text", "[I", true)
  | 7 => ("SteppedSamplesModel", "length", "I", false)
  | 8 => ("SteppedSamplesModel", "table", "[I", true)
  | 9 => ("SteppedSamplesModel", "made", "[I", true)
  | 10 => ("SteppedSamplesModel", "behind", "[I", true)
  | 11 => ("SteppedSamplesModel", "leads", "[I", true)
  | 12 => ("SteppedSamplesModel", "before", "[I", true)
  | 13 => ("SteppedSamplesModel", "position", "I", false)
  | 14 => ("SteppedSamplesModel", "isWrong", "Z", false)
  | 15 => ("SteppedSamplesModel", "readFirst", "I", false)
  | 16 => ("SteppedSamplesModel", "readNumber", "I", false)
  | 17 => ("SteppedSamplesModel", "readCodes", "[I", true)
  | 18 => ("SteppedSamplesModel", "reads", "I", false)
  | _ => ("SteppedSamplesModel", "digested", "J", false)
def tyX7 : Nat → FieldType := fun k => match k with
  | 0 => .int
  | 1 => .array .int
  | 2 => .array .int
  | 3 => .int
  | 4 => .array .int
  | 5 => .array .boolean
  | 6 => .array .int
  | 7 => .int
  | 8 => .array .int
  | 9 => .array .int
  | 10 => .array .int
  | 11 => .array .int
  | 12 => .array .int
  | 13 => .int
  | 14 => .boolean
  | 15 => .int
  | 16 => .int
  | 17 => .array .int
  | 18 => .int
  | _ => .long
abbrev wsX70 : List Cond := u_ws RX7 TX7 20
theorem nmX7 : ∀ a, a < 20 → ∀ b, b < 20 → a ≠ b → (TX7 a).2.1 ≠ (TX7 b).2.1 := by decide +kernel
theorem tyX7_ok : ∀ k, k < 20 → parseFieldDescriptor (TX7 k).2.2.1 = some (tyX7 k) := by decide +kernel
abbrev cX7_init : ByteArray := prog_9_method_1_code
def yX7_init : MethodName := ⟨RX7, "<init>", "()V"⟩
abbrev cX7_thrown : ByteArray := prog_9_method_2_code
def yX7_thrown : MethodName := ⟨RX7, "thrown", "()I"⟩
abbrev cX7_in : ByteArray := prog_9_method_3_code
def yX7_in : MethodName := ⟨RX7, "in", "(III)Z"⟩
abbrev cX7_holds : ByteArray := prog_9_method_4_code
def yX7_holds : MethodName := ⟨RX7, "holds", "(I)Z"⟩
abbrev cX7_save : ByteArray := prog_9_method_5_code
def yX7_save : MethodName := ⟨RX7, "save", "()V"⟩
abbrev cX7_isCoded : ByteArray := prog_9_method_6_code
def yX7_isCoded : MethodName := ⟨RX7, "isCoded", "()Z"⟩
abbrev cX7_isSample : ByteArray := prog_9_method_7_code
def yX7_isSample : MethodName := ⟨RX7, "isSample", "(I)Z"⟩
abbrev cX7_blocks : ByteArray := prog_9_method_8_code
def yX7_blocks : MethodName := ⟨RX7, "blocks", "()I"⟩
abbrev cX7_isBlock : ByteArray := prog_9_method_9_code
def yX7_isBlock : MethodName := ⟨RX7, "isBlock", "(I)Z"⟩
abbrev cX7_endOf : ByteArray := prog_9_method_10_code
def yX7_endOf : MethodName := ⟨RX7, "endOf", "(I)I"⟩
abbrev cX7_hasCode : ByteArray := prog_9_method_11_code
def yX7_hasCode : MethodName := ⟨RX7, "hasCode", "(I)Z"⟩
abbrev cX7_clipped : ByteArray := prog_9_method_12_code
def yX7_clipped : MethodName := ⟨RX7, "clipped", "(I)I"⟩
abbrev cX7_nextGuess : ByteArray := prog_9_method_13_code
def yX7_nextGuess : MethodName := ⟨RX7, "nextGuess", "(III)I"⟩
abbrev cX7_nextNumber : ByteArray := prog_9_method_14_code
def yX7_nextNumber : MethodName := ⟨RX7, "nextNumber", "(II)I"⟩
abbrev cX7_codeFor : ByteArray := prog_9_method_15_code
def yX7_codeFor : MethodName := ⟨RX7, "codeFor", "(III)I"⟩
abbrev cX7_square : ByteArray := prog_9_method_16_code
def yX7_square : MethodName := ⟨RX7, "square", "(I)I"⟩
abbrev cX7_errorOf : ByteArray := prog_9_method_17_code
def yX7_errorOf : MethodName := ⟨RX7, "errorOf", "(III)I"⟩
abbrev cX7_best : ByteArray := prog_9_method_18_code
def yX7_best : MethodName := ⟨RX7, "best", "(II)I"⟩
abbrev cX7_codes : ByteArray := prog_9_method_19_code
def yX7_codes : MethodName := ⟨RX7, "codes", "(II)I"⟩
abbrev cX7_filled : ByteArray := prog_9_method_20_code
def yX7_filled : MethodName := ⟨RX7, "filled", "(I)I"⟩
abbrev cX7_decodes : ByteArray := prog_9_method_21_code
def yX7_decodes : MethodName := ⟨RX7, "decodes", "()V"⟩
abbrev cX7_decodesBefore : ByteArray := prog_9_method_22_code
def yX7_decodesBefore : MethodName := ⟨RX7, "decodesBefore", "()V"⟩
abbrev cX7_others : ByteArray := prog_9_method_23_code
def yX7_others : MethodName := ⟨RX7, "others", "()I"⟩
abbrev cX7_errorMade : ByteArray := prog_9_method_24_code
def yX7_errorMade : MethodName := ⟨RX7, "errorMade", "(II)I"⟩
abbrev cX7_notCoded : ByteArray := prog_9_method_25_code
def yX7_notCoded : MethodName := ⟨RX7, "notCoded", "()V"⟩
abbrev cX7_wave : ByteArray := prog_9_method_26_code
def yX7_wave : MethodName := ⟨RX7, "wave", "(I)I"⟩
abbrev cX7_sample : ByteArray := prog_9_method_27_code
def yX7_sample : MethodName := ⟨RX7, "sample", "(II)I"⟩
abbrev cX7_shape : ByteArray := prog_9_method_28_code
def yX7_shape : MethodName := ⟨RX7, "shape", "(IIII)I"⟩
abbrev cX7_add : ByteArray := prog_9_method_29_code
def yX7_add : MethodName := ⟨RX7, "add", "(III)I"⟩
abbrev cX7_take : ByteArray := prog_9_method_30_code
def yX7_take : MethodName := ⟨RX7, "take", "()I"⟩
abbrev cX7_set : ByteArray := prog_9_method_31_code
def yX7_set : MethodName := ⟨RX7, "set", "(II)I"⟩
abbrev cX7_code : ByteArray := prog_9_method_32_code
def yX7_code : MethodName := ⟨RX7, "code", "()I"⟩
abbrev cX7_lost : ByteArray := prog_9_method_33_code
def yX7_lost : MethodName := ⟨RX7, "lost", "()I"⟩
abbrev cX7_lose : ByteArray := prog_9_method_34_code
def yX7_lose : MethodName := ⟨RX7, "lose", "(I)I"⟩
abbrev cX7_spoil : ByteArray := prog_9_method_35_code
def yX7_spoil : MethodName := ⟨RX7, "spoil", "(II)I"⟩
abbrev cX7_append : ByteArray := prog_9_method_36_code
def yX7_append : MethodName := ⟨RX7, "append", "(I)I"⟩
abbrev cX7_clearBuffer : ByteArray := prog_9_method_37_code
def yX7_clearBuffer : MethodName := ⟨RX7, "clearBuffer", "()I"⟩
abbrev cX7_isNext : ByteArray := prog_9_method_38_code
def yX7_isNext : MethodName := ⟨RX7, "isNext", "(II)Z"⟩
abbrev cX7_takes : ByteArray := prog_9_method_39_code
def yX7_takes : MethodName := ⟨RX7, "takes", "(II)I"⟩
abbrev cX7_takesNumber : ByteArray := prog_9_method_40_code
def yX7_takesNumber : MethodName := ⟨RX7, "takesNumber", "(II)I"⟩
abbrev cX7_readAll : ByteArray := prog_9_method_41_code
def yX7_readAll : MethodName := ⟨RX7, "readAll", "()V"⟩
abbrev cX7_firstError : ByteArray := prog_9_method_42_code
def yX7_firstError : MethodName := ⟨RX7, "firstError", "()I"⟩
abbrev cX7_load : ByteArray := prog_9_method_43_code
def yX7_load : MethodName := ⟨RX7, "load", "(I)I"⟩
abbrev cX7_writes : ByteArray := prog_9_method_44_code
def yX7_writes : MethodName := ⟨RX7, "writes", "(I)V"⟩
abbrev cX7_writesNumber : ByteArray := prog_9_method_45_code
def yX7_writesNumber : MethodName := ⟨RX7, "writesNumber", "(I)V"⟩
abbrev cX7_write : ByteArray := prog_9_method_46_code
def yX7_write : MethodName := ⟨RX7, "write", "(I)I"⟩
abbrev cX7_keep : ByteArray := prog_9_method_47_code
def yX7_keep : MethodName := ⟨RX7, "keep", "(I)I"⟩
abbrev cX7_goBack : ByteArray := prog_9_method_48_code
def yX7_goBack : MethodName := ⟨RX7, "goBack", "(I)I"⟩
abbrev cX7_undo : ByteArray := prog_9_method_49_code
def yX7_undo : MethodName := ⟨RX7, "undo", "()I"⟩
abbrev cX7_step : ByteArray := prog_9_method_50_code
def yX7_step : MethodName := ⟨RX7, "step", "(I)I"⟩
abbrev cX7_toldOfSample : ByteArray := prog_9_method_51_code
def yX7_toldOfSample : MethodName := ⟨RX7, "toldOfSample", "(II)I"⟩
abbrev cX7_sampleOf : ByteArray := prog_9_method_52_code
def yX7_sampleOf : MethodName := ⟨RX7, "sampleOf", "(II)I"⟩
abbrev cX7_toldOfBlock : ByteArray := prog_9_method_53_code
def yX7_toldOfBlock : MethodName := ⟨RX7, "toldOfBlock", "(II)I"⟩
abbrev cX7_blockOf : ByteArray := prog_9_method_54_code
def yX7_blockOf : MethodName := ⟨RX7, "blockOf", "(II)I"⟩
abbrev cX7_greatest : ByteArray := prog_9_method_55_code
def yX7_greatest : MethodName := ⟨RX7, "greatest", "()I"⟩
abbrev cX7_alike : ByteArray := prog_9_method_56_code
def yX7_alike : MethodName := ⟨RX7, "alike", "()I"⟩
abbrev cX7_errorOfAll : ByteArray := prog_9_method_57_code
def yX7_errorOfAll : MethodName := ⟨RX7, "errorOfAll", "()I"⟩
abbrev cX7_counted : ByteArray := prog_9_method_58_code
def yX7_counted : MethodName := ⟨RX7, "counted", "(I)I"⟩
abbrev cX7_count : ByteArray := prog_9_method_59_code
def yX7_count : MethodName := ⟨RX7, "count", "(I)I"⟩
abbrev cX7_setting : ByteArray := prog_9_method_60_code
def yX7_setting : MethodName := ⟨RX7, "setting", "(I)I"⟩
abbrev cX7_ifCoded : ByteArray := prog_9_method_61_code
def yX7_ifCoded : MethodName := ⟨RX7, "ifCoded", "(IIII)I"⟩
abbrev cX7_areSamples : ByteArray := prog_9_method_62_code
def yX7_areSamples : MethodName := ⟨RX7, "areSamples", "(II)Z"⟩
abbrev cX7_ifBlock : ByteArray := prog_9_method_63_code
def yX7_ifBlock : MethodName := ⟨RX7, "ifBlock", "(III)I"⟩
abbrev cX7_bestStep : ByteArray := prog_9_method_64_code
def yX7_bestStep : MethodName := ⟨RX7, "bestStep", "(II)I"⟩
abbrev cX7_spreads : ByteArray := prog_9_method_65_code
def yX7_spreads : MethodName := ⟨RX7, "spreads", "(II)I"⟩
abbrev cX7_ifSpoiled : ByteArray := prog_9_method_66_code
def yX7_ifSpoiled : MethodName := ⟨RX7, "ifSpoiled", "(II)I"⟩
abbrev cX7_mean : ByteArray := prog_9_method_67_code
def yX7_mean : MethodName := ⟨RX7, "mean", "()D"⟩
abbrev cX7_meanSquare : ByteArray := prog_9_method_68_code
def yX7_meanSquare : MethodName := ⟨RX7, "meanSquare", "()D"⟩
abbrev cX7_loud : ByteArray := prog_9_method_69_code
def yX7_loud : MethodName := ⟨RX7, "loud", "()F"⟩
abbrev cX7_loudness : ByteArray := prog_9_method_70_code
def yX7_loudness : MethodName := ⟨RX7, "loudness", "()F"⟩
abbrev cX7_bitsOf : ByteArray := prog_9_method_71_code
def yX7_bitsOf : MethodName := ⟨RX7, "bitsOf", "(D)J"⟩
abbrev cX7_floatBitsOf : ByteArray := prog_9_method_72_code
def yX7_floatBitsOf : MethodName := ⟨RX7, "floatBitsOf", "(F)I"⟩
abbrev cX7_digestOne : ByteArray := prog_9_method_73_code
def yX7_digestOne : MethodName := ⟨RX7, "digestOne", "(J)V"⟩
abbrev cX7_digestWave : ByteArray := prog_9_method_74_code
def yX7_digestWave : MethodName := ⟨RX7, "digestWave", "()V"⟩
abbrev cX7_digest : ByteArray := prog_9_method_75_code
def yX7_digest : MethodName := ⟨RX7, "digest", "()J"⟩
def RJ9 : String := "java/lang/Math"
abbrev cJ9_abs_0f7a4 : ByteArray := prog_14_method_59_code
def yJ9_abs_0f7a4 : MethodName := ⟨RJ9, "abs", "(I)I"⟩
abbrev cJ9_max_7cf53 : ByteArray := prog_14_method_65_code
def yJ9_max_7cf53 : MethodName := ⟨RJ9, "max", "(II)I"⟩
abbrev cJ9_min_7cf53 : ByteArray := prog_14_method_69_code
def yJ9_min_7cf53 : MethodName := ⟨RJ9, "min", "(II)I"⟩
def RJ0 : String := "java/lang/String"
def RJ10 : String := "java/lang/System"
def RL : String := "SteppedSamplesLaw"
abbrev cL_wave : ByteArray := method_3_code
def yL_wave : MethodName := ⟨RL, "wave", "(LSteppedSamples;I[J)I"⟩
abbrev cL_sample : ByteArray := method_4_code
def yL_sample : MethodName := ⟨RL, "sample", "(LSteppedSamples;II[J)I"⟩
abbrev cL_add : ByteArray := method_5_code
def yL_add : MethodName := ⟨RL, "add", "(LSteppedSamples;III[J)I"⟩
abbrev cL_take : ByteArray := method_6_code
def yL_take : MethodName := ⟨RL, "take", "(LSteppedSamples;[J)I"⟩
abbrev cL_set : ByteArray := method_7_code
def yL_set : MethodName := ⟨RL, "set", "(LSteppedSamples;II[J)I"⟩
abbrev cL_lose : ByteArray := method_8_code
def yL_lose : MethodName := ⟨RL, "lose", "(LSteppedSamples;I[J)I"⟩
abbrev cL_spoil : ByteArray := method_9_code
def yL_spoil : MethodName := ⟨RL, "spoil", "(LSteppedSamples;II[J)I"⟩
abbrev cL_append : ByteArray := method_10_code
def yL_append : MethodName := ⟨RL, "append", "(LSteppedSamples;I[J)I"⟩
abbrev cL_load : ByteArray := method_11_code
def yL_load : MethodName := ⟨RL, "load", "(LSteppedSamples;I[J)I"⟩
abbrev cL_write : ByteArray := method_12_code
def yL_write : MethodName := ⟨RL, "write", "(LSteppedSamples;I[J)I"⟩
abbrev cL_keep : ByteArray := method_13_code
def yL_keep : MethodName := ⟨RL, "keep", "(LSteppedSamples;I[J)I"⟩
abbrev cL_goBack : ByteArray := method_14_code
def yL_goBack : MethodName := ⟨RL, "goBack", "(LSteppedSamples;I[J)I"⟩
abbrev cL_undo : ByteArray := method_15_code
def yL_undo : MethodName := ⟨RL, "undo", "(LSteppedSamples;[J)I"⟩
abbrev cL_step : ByteArray := method_16_code
def yL_step : MethodName := ⟨RL, "step", "(LSteppedSamples;I[J)I"⟩
abbrev cL_sampleOf : ByteArray := method_17_code
def yL_sampleOf : MethodName := ⟨RL, "sampleOf", "(LSteppedSamples;II[J)I"⟩
abbrev cL_blockOf : ByteArray := method_18_code
def yL_blockOf : MethodName := ⟨RL, "blockOf", "(LSteppedSamples;II[J)I"⟩
abbrev cL_count : ByteArray := method_19_code
def yL_count : MethodName := ⟨RL, "count", "(LSteppedSamples;I[J)I"⟩
abbrev cL_setting : ByteArray := method_20_code
def yL_setting : MethodName := ⟨RL, "setting", "(LSteppedSamples;I[J)I"⟩
abbrev cL_ifCoded : ByteArray := method_21_code
def yL_ifCoded : MethodName := ⟨RL, "ifCoded", "(LSteppedSamples;IIII[J)I"⟩
abbrev cL_ifBlock : ByteArray := method_22_code
def yL_ifBlock : MethodName := ⟨RL, "ifBlock", "(LSteppedSamples;III[J)I"⟩
abbrev cL_bestStep : ByteArray := method_23_code
def yL_bestStep : MethodName := ⟨RL, "bestStep", "(LSteppedSamples;II[J)I"⟩
abbrev cL_ifSpoiled : ByteArray := method_24_code
def yL_ifSpoiled : MethodName := ⟨RL, "ifSpoiled", "(LSteppedSamples;II[J)I"⟩
abbrev cL_law : ByteArray := code
def yL_law : MethodName := ⟨RL, "law", "([I)Z"⟩
abbrev vwCl : List vw_C := [(RX0, TX0, 10), (RX1, TX1, 1), (RX2, TX2, 4), (RX3, TX3, 2), (RX4, TX4, 11), (RX5, TX5, 2), (RX6, TX6, 9), (RX7, TX7, 20)]
end
section
theorem dX0_init_0 : decode cX0_init 0 = .ok (.aload_n 0, 1) := by decide +kernel
theorem dX0_init_1 : decode cX0_init 1 = .ok (.invokespecial 3, 3) := by decide +kernel
theorem dX0_init_4 : decode cX0_init 4 = .ok (.aload_n 0, 1) := by decide +kernel
theorem dX0_init_5 : decode cX0_init 5 = .ok (.bipush 40, 2) := by decide +kernel
theorem dX0_init_7 : decode cX0_init 7 = .ok (.newarray .int, 2) := by decide +kernel
theorem dX0_init_9 : decode cX0_init 9 = .ok (.putfield 9, 3) := by decide +kernel
theorem dX0_init_12 : decode cX0_init 12 = .ok (.aload_n 0, 1) := by decide +kernel
theorem dX0_init_13 : decode cX0_init 13 = .ok (.bipush 15, 2) := by decide +kernel
theorem dX0_init_15 : decode cX0_init 15 = .ok (.newarray .int, 2) := by decide +kernel
theorem dX0_init_17 : decode cX0_init 17 = .ok (.putfield 15, 3) := by decide +kernel
theorem dX0_init_20 : decode cX0_init 20 = .ok (.return_, 1) := by decide +kernel
theorem dX0_isFull_0 : decode cX0_isFull 0 = .ok (.aload_n 0, 1) := by decide +kernel
theorem dX0_isFull_1 : decode cX0_isFull 1 = .ok (.getfield 18, 3) := by decide +kernel
theorem dX0_isFull_4 : decode cX0_isFull 4 = .ok (.bipush 40, 2) := by decide +kernel
theorem dX0_isFull_6 : decode cX0_isFull 6 = .ok (.if_icmp .lt 7, 3) := by decide +kernel
theorem dX0_isFull_9 : decode cX0_isFull 9 = .ok (.iconst 1, 1) := by decide +kernel
theorem dX0_isFull_10 : decode cX0_isFull 10 = .ok (.goto 4, 3) := by decide +kernel
theorem dX0_isFull_13 : decode cX0_isFull 13 = .ok (.iconst 0, 1) := by decide +kernel
theorem dX0_isFull_14 : decode cX0_isFull 14 = .ok (.ireturn, 1) := by decide +kernel
theorem dX0_put_0 : decode cX0_put 0 = .ok (.aload_n 0, 1) := by decide +kernel
theorem dX0_put_1 : decode cX0_put 1 = .ok (.invokevirtual 22, 3) := by decide +kernel
theorem dX0_put_4 : decode cX0_put 4 = .ok (.ifCond .ne 23, 3) := by decide +kernel
theorem dX0_put_7 : decode cX0_put 7 = .ok (.aload_n 0, 1) := by decide +kernel
theorem dX0_put_8 : decode cX0_put 8 = .ok (.getfield 9, 3) := by decide +kernel
theorem dX0_put_11 : decode cX0_put 11 = .ok (.aload_n 0, 1) := by decide +kernel
theorem dX0_put_12 : decode cX0_put 12 = .ok (.getfield 18, 3) := by decide +kernel
theorem dX0_put_15 : decode cX0_put 15 = .ok (.iload_n 1, 1) := by decide +kernel
theorem dX0_put_16 : decode cX0_put 16 = .ok (.iastore, 1) := by decide +kernel
theorem dX0_put_17 : decode cX0_put 17 = .ok (.aload_n 0, 1) := by decide +kernel
theorem dX0_put_18 : decode cX0_put 18 = .ok (.dup, 1) := by decide +kernel
theorem dX0_put_19 : decode cX0_put 19 = .ok (.getfield 18, 3) := by decide +kernel
theorem dX0_put_22 : decode cX0_put 22 = .ok (.iconst 1, 1) := by decide +kernel
theorem dX0_put_23 : decode cX0_put 23 = .ok (.iadd, 1) := by decide +kernel
theorem dX0_put_24 : decode cX0_put 24 = .ok (.putfield 18, 3) := by decide +kernel
theorem dX0_put_27 : decode cX0_put 27 = .ok (.return_, 1) := by decide +kernel
theorem dX0_tell_0 : decode cX0_tell 0 = .ok (.aload_n 0, 1) := by decide +kernel
theorem dX0_tell_1 : decode cX0_tell 1 = .ok (.iconst 0, 1) := by decide +kernel
theorem dX0_tell_2 : decode cX0_tell 2 = .ok (.putfield 18, 3) := by decide +kernel
theorem dX0_tell_5 : decode cX0_tell 5 = .ok (.aload_n 0, 1) := by decide +kernel
theorem dX0_tell_6 : decode cX0_tell 6 = .ok (.aload_n 1, 1) := by decide +kernel
theorem dX0_tell_7 : decode cX0_tell 7 = .ok (.getfield 26, 3) := by decide +kernel
theorem dX0_tell_10 : decode cX0_tell 10 = .ok (.iload_n 2, 1) := by decide +kernel
theorem dX0_tell_11 : decode cX0_tell 11 = .ok (.iaload, 1) := by decide +kernel
theorem dX0_tell_12 : decode cX0_tell 12 = .ok (.invokevirtual 31, 3) := by decide +kernel
theorem dX0_tell_15 : decode cX0_tell 15 = .ok (.aload_n 0, 1) := by decide +kernel
theorem dX0_tell_16 : decode cX0_tell 16 = .ok (.bipush 44, 2) := by decide +kernel
theorem dX0_tell_18 : decode cX0_tell 18 = .ok (.invokevirtual 35, 3) := by decide +kernel
theorem dX0_tell_21 : decode cX0_tell 21 = .ok (.aload_n 0, 1) := by decide +kernel
theorem dX0_tell_22 : decode cX0_tell 22 = .ok (.aload_n 1, 1) := by decide +kernel
theorem dX0_tell_23 : decode cX0_tell 23 = .ok (.getfield 38, 3) := by decide +kernel
theorem dX0_tell_26 : decode cX0_tell 26 = .ok (.iload_n 2, 1) := by decide +kernel
theorem dX0_tell_27 : decode cX0_tell 27 = .ok (.iaload, 1) := by decide +kernel
theorem dX0_tell_28 : decode cX0_tell 28 = .ok (.invokevirtual 31, 3) := by decide +kernel
theorem dX0_tell_31 : decode cX0_tell 31 = .ok (.aload_n 0, 1) := by decide +kernel
theorem dX0_tell_32 : decode cX0_tell 32 = .ok (.bipush 58, 2) := by decide +kernel
theorem dX0_tell_34 : decode cX0_tell 34 = .ok (.invokevirtual 35, 3) := by decide +kernel
theorem dX0_tell_37 : decode cX0_tell 37 = .ok (.aload_n 1, 1) := by decide +kernel
theorem dX0_tell_38 : decode cX0_tell 38 = .ok (.iload_n 2, 1) := by decide +kernel
theorem dX0_tell_39 : decode cX0_tell 39 = .ok (.invokevirtual 41, 3) := by decide +kernel
theorem dX0_tell_42 : decode cX0_tell 42 = .ok (.iconst 1, 1) := by decide +kernel
theorem dX0_tell_43 : decode cX0_tell 43 = .ok (.iadd, 1) := by decide +kernel
theorem dX0_tell_44 : decode cX0_tell 44 = .ok (.istore_n 3, 1) := by decide +kernel
theorem dX0_tell_45 : decode cX0_tell 45 = .ok (.iload_n 3, 1) := by decide +kernel
theorem dX0_tell_46 : decode cX0_tell 46 = .ok (.aload_n 1, 1) := by decide +kernel
theorem dX0_tell_47 : decode cX0_tell 47 = .ok (.iload_n 2, 1) := by decide +kernel
theorem dX0_tell_48 : decode cX0_tell 48 = .ok (.invokevirtual 45, 3) := by decide +kernel
theorem dX0_tell_51 : decode cX0_tell 51 = .ok (.if_icmp .ge 44, 3) := by decide +kernel
theorem dX0_tell_54 : decode cX0_tell 54 = .ok (.aload_n 1, 1) := by decide +kernel
theorem dX0_tell_55 : decode cX0_tell 55 = .ok (.getfield 48, 3) := by decide +kernel
theorem dX0_tell_58 : decode cX0_tell 58 = .ok (.iload_n 3, 1) := by decide +kernel
theorem dX0_tell_59 : decode cX0_tell 59 = .ok (.iaload, 1) := by decide +kernel
theorem dX0_tell_60 : decode cX0_tell 60 = .ok (.istore 4, 2) := by decide +kernel
theorem dX0_tell_62 : decode cX0_tell 62 = .ok (.aload_n 0, 1) := by decide +kernel
theorem dX0_tell_63 : decode cX0_tell 63 = .ok (.iload 4, 2) := by decide +kernel
theorem dX0_tell_65 : decode cX0_tell 65 = .ok (.bipush 10, 2) := by decide +kernel
theorem dX0_tell_67 : decode cX0_tell 67 = .ok (.if_icmp .ge 11, 3) := by decide +kernel
theorem dX0_tell_70 : decode cX0_tell 70 = .ok (.bipush 48, 2) := by decide +kernel
theorem dX0_tell_72 : decode cX0_tell 72 = .ok (.iload 4, 2) := by decide +kernel
theorem dX0_tell_74 : decode cX0_tell 74 = .ok (.iadd, 1) := by decide +kernel
theorem dX0_tell_75 : decode cX0_tell 75 = .ok (.goto 11, 3) := by decide +kernel
theorem dX0_tell_78 : decode cX0_tell 78 = .ok (.bipush 97, 2) := by decide +kernel
theorem dX0_tell_80 : decode cX0_tell 80 = .ok (.iload 4, 2) := by decide +kernel
theorem dX0_tell_82 : decode cX0_tell 82 = .ok (.iadd, 1) := by decide +kernel
theorem dX0_tell_83 : decode cX0_tell 83 = .ok (.bipush 10, 2) := by decide +kernel
theorem dX0_tell_85 : decode cX0_tell 85 = .ok (.isub, 1) := by decide +kernel
theorem dX0_tell_86 : decode cX0_tell 86 = .ok (.invokevirtual 35, 3) := by decide +kernel
theorem dX0_tell_89 : decode cX0_tell 89 = .ok (.iinc 3 1, 3) := by decide +kernel
theorem dX0_tell_92 : decode cX0_tell 92 = .ok (.goto (-47), 3) := by decide +kernel
theorem dX0_tell_95 : decode cX0_tell 95 = .ok (.return_, 1) := by decide +kernel
theorem dX0_putNumber_0 : decode cX0_putNumber 0 = .ok (.iload_n 1, 1) := by decide +kernel
theorem dX0_putNumber_1 : decode cX0_putNumber 1 = .ok (.ifCond .ge 9, 3) := by decide +kernel
theorem dX0_putNumber_4 : decode cX0_putNumber 4 = .ok (.aload_n 0, 1) := by decide +kernel
theorem dX0_putNumber_5 : decode cX0_putNumber 5 = .ok (.bipush 45, 2) := by decide +kernel
theorem dX0_putNumber_7 : decode cX0_putNumber 7 = .ok (.invokevirtual 35, 3) := by decide +kernel
theorem dX0_putNumber_10 : decode cX0_putNumber 10 = .ok (.iload_n 1, 1) := by decide +kernel
theorem dX0_putNumber_11 : decode cX0_putNumber 11 = .ok (.invokestatic 49, 3) := by decide +kernel
theorem dX0_putNumber_14 : decode cX0_putNumber 14 = .ok (.istore_n 2, 1) := by decide +kernel
theorem dX0_putNumber_15 : decode cX0_putNumber 15 = .ok (.sipush 1000, 3) := by decide +kernel
theorem dX0_putNumber_18 : decode cX0_putNumber 18 = .ok (.istore_n 3, 1) := by decide +kernel
theorem dX0_putNumber_19 : decode cX0_putNumber 19 = .ok (.iload_n 3, 1) := by decide +kernel
theorem dX0_putNumber_20 : decode cX0_putNumber 20 = .ok (.ifCond .le 34, 3) := by decide +kernel
theorem dX0_putNumber_23 : decode cX0_putNumber 23 = .ok (.iload_n 2, 1) := by decide +kernel
theorem dX0_putNumber_24 : decode cX0_putNumber 24 = .ok (.iload_n 3, 1) := by decide +kernel
theorem dX0_putNumber_25 : decode cX0_putNumber 25 = .ok (.if_icmp .ge 8, 3) := by decide +kernel
theorem dX0_putNumber_28 : decode cX0_putNumber 28 = .ok (.iload_n 3, 1) := by decide +kernel
theorem dX0_putNumber_29 : decode cX0_putNumber 29 = .ok (.iconst 1, 1) := by decide +kernel
theorem dX0_putNumber_30 : decode cX0_putNumber 30 = .ok (.if_icmp .ne 16, 3) := by decide +kernel
theorem dX0_putNumber_33 : decode cX0_putNumber 33 = .ok (.aload_n 0, 1) := by decide +kernel
theorem dX0_putNumber_34 : decode cX0_putNumber 34 = .ok (.bipush 48, 2) := by decide +kernel
theorem dX0_putNumber_36 : decode cX0_putNumber 36 = .ok (.iload_n 2, 1) := by decide +kernel
theorem dX0_putNumber_37 : decode cX0_putNumber 37 = .ok (.iload_n 3, 1) := by decide +kernel
theorem dX0_putNumber_38 : decode cX0_putNumber 38 = .ok (.idiv, 1) := by decide +kernel
theorem dX0_putNumber_39 : decode cX0_putNumber 39 = .ok (.bipush 10, 2) := by decide +kernel
theorem dX0_putNumber_41 : decode cX0_putNumber 41 = .ok (.irem, 1) := by decide +kernel
theorem dX0_putNumber_42 : decode cX0_putNumber 42 = .ok (.iadd, 1) := by decide +kernel
theorem dX0_putNumber_43 : decode cX0_putNumber 43 = .ok (.invokevirtual 35, 3) := by decide +kernel
theorem dX0_putNumber_46 : decode cX0_putNumber 46 = .ok (.iload_n 3, 1) := by decide +kernel
theorem dX0_putNumber_47 : decode cX0_putNumber 47 = .ok (.bipush 10, 2) := by decide +kernel
theorem dX0_putNumber_49 : decode cX0_putNumber 49 = .ok (.idiv, 1) := by decide +kernel
theorem dX0_putNumber_50 : decode cX0_putNumber 50 = .ok (.istore_n 3, 1) := by decide +kernel
theorem dX0_putNumber_51 : decode cX0_putNumber 51 = .ok (.goto (-32), 3) := by decide +kernel
theorem dX0_putNumber_54 : decode cX0_putNumber 54 = .ok (.return_, 1) := by decide +kernel
theorem dX0_tellsBlock_0 : decode cX0_tellsBlock 0 = .ok (.aload_n 0, 1) := by decide +kernel
theorem dX0_tellsBlock_1 : decode cX0_tellsBlock 1 = .ok (.invokevirtual 54, 3) := by decide +kernel
theorem dX0_tellsBlock_4 : decode cX0_tellsBlock 4 = .ok (.aload_n 0, 1) := by decide +kernel
theorem dX0_tellsBlock_5 : decode cX0_tellsBlock 5 = .ok (.getfield 18, 3) := by decide +kernel
theorem dX0_tellsBlock_8 : decode cX0_tellsBlock 8 = .ok (.if_icmp .ne 15, 3) := by decide +kernel
theorem dX0_tellsBlock_11 : decode cX0_tellsBlock 11 = .ok (.aload_n 0, 1) := by decide +kernel
theorem dX0_tellsBlock_12 : decode cX0_tellsBlock 12 = .ok (.getfield 58, 3) := by decide +kernel
theorem dX0_tellsBlock_15 : decode cX0_tellsBlock 15 = .ok (.iconst 2, 1) := by decide +kernel
theorem dX0_tellsBlock_16 : decode cX0_tellsBlock 16 = .ok (.if_icmp .ne 7, 3) := by decide +kernel
theorem dX0_tellsBlock_19 : decode cX0_tellsBlock 19 = .ok (.iconst 1, 1) := by decide +kernel
theorem dX0_tellsBlock_20 : decode cX0_tellsBlock 20 = .ok (.goto 4, 3) := by decide +kernel
theorem dX0_tellsBlock_23 : decode cX0_tellsBlock 23 = .ok (.iconst 0, 1) := by decide +kernel
theorem dX0_tellsBlock_24 : decode cX0_tellsBlock 24 = .ok (.ireturn, 1) := by decide +kernel
theorem dX0_read_0 : decode cX0_read 0 = .ok (.aload_n 0, 1) := by decide +kernel
theorem dX0_read_1 : decode cX0_read 1 = .ok (.iconst 0, 1) := by decide +kernel
theorem dX0_read_2 : decode cX0_read 2 = .ok (.putfield 58, 3) := by decide +kernel
theorem dX0_read_5 : decode cX0_read 5 = .ok (.aload_n 0, 1) := by decide +kernel
theorem dX0_read_6 : decode cX0_read 6 = .ok (.iconst 0, 1) := by decide +kernel
theorem dX0_read_7 : decode cX0_read 7 = .ok (.putfield 61, 3) := by decide +kernel
theorem dX0_read_10 : decode cX0_read 10 = .ok (.aload_n 0, 1) := by decide +kernel
theorem dX0_read_11 : decode cX0_read 11 = .ok (.iconst 0, 1) := by decide +kernel
theorem dX0_read_12 : decode cX0_read 12 = .ok (.putfield 65, 3) := by decide +kernel
theorem dX0_read_15 : decode cX0_read 15 = .ok (.aload_n 0, 1) := by decide +kernel
theorem dX0_read_16 : decode cX0_read 16 = .ok (.invokevirtual 68, 3) := by decide +kernel
theorem dX0_read_19 : decode cX0_read 19 = .ok (.iconst 0, 1) := by decide +kernel
theorem dX0_read_20 : decode cX0_read 20 = .ok (.istore_n 1, 1) := by decide +kernel
theorem dX0_read_21 : decode cX0_read 21 = .ok (.iload_n 1, 1) := by decide +kernel
theorem dX0_read_22 : decode cX0_read 22 = .ok (.aload_n 0, 1) := by decide +kernel
theorem dX0_read_23 : decode cX0_read 23 = .ok (.getfield 18, 3) := by decide +kernel
theorem dX0_read_26 : decode cX0_read 26 = .ok (.if_icmp .ge 24, 3) := by decide +kernel
theorem dX0_read_29 : decode cX0_read 29 = .ok (.aload_n 0, 1) := by decide +kernel
theorem dX0_read_30 : decode cX0_read 30 = .ok (.aload_n 0, 1) := by decide +kernel
theorem dX0_read_31 : decode cX0_read 31 = .ok (.getfield 9, 3) := by decide +kernel
theorem dX0_read_34 : decode cX0_read 34 = .ok (.iload_n 1, 1) := by decide +kernel
theorem dX0_read_35 : decode cX0_read 35 = .ok (.iaload, 1) := by decide +kernel
theorem dX0_read_36 : decode cX0_read 36 = .ok (.invokevirtual 71, 3) := by decide +kernel
theorem dX0_read_39 : decode cX0_read 39 = .ok (.ifCond .ne 5, 3) := by decide +kernel
theorem dX0_read_42 : decode cX0_read 42 = .ok (.iload_n 1, 1) := by decide +kernel
theorem dX0_read_43 : decode cX0_read 43 = .ok (.ireturn, 1) := by decide +kernel
theorem dX0_read_44 : decode cX0_read 44 = .ok (.iinc 1 1, 3) := by decide +kernel
theorem dX0_read_47 : decode cX0_read 47 = .ok (.goto (-26), 3) := by decide +kernel
theorem dX0_read_50 : decode cX0_read 50 = .ok (.aload_n 0, 1) := by decide +kernel
theorem dX0_read_51 : decode cX0_read 51 = .ok (.getfield 18, 3) := by decide +kernel
theorem dX0_read_54 : decode cX0_read 54 = .ok (.ireturn, 1) := by decide +kernel
theorem dX0_readsOn_0 : decode cX0_readsOn 0 = .ok (.aload_n 0, 1) := by decide +kernel
theorem dX0_readsOn_1 : decode cX0_readsOn 1 = .ok (.getfield 58, 3) := by decide +kernel
theorem dX0_readsOn_4 : decode cX0_readsOn 4 = .ok (.lookupswitch 40 #[(0, 28), (1, 34)], 28) := by decide +kernel
theorem dX0_readsOn_32 : decode cX0_readsOn 32 = .ok (.aload_n 0, 1) := by decide +kernel
theorem dX0_readsOn_33 : decode cX0_readsOn 33 = .ok (.iload_n 1, 1) := by decide +kernel
theorem dX0_readsOn_34 : decode cX0_readsOn 34 = .ok (.invokevirtual 75, 3) := by decide +kernel
theorem dX0_readsOn_37 : decode cX0_readsOn 37 = .ok (.ireturn, 1) := by decide +kernel
theorem dX0_readsOn_38 : decode cX0_readsOn 38 = .ok (.aload_n 0, 1) := by decide +kernel
theorem dX0_readsOn_39 : decode cX0_readsOn 39 = .ok (.iload_n 1, 1) := by decide +kernel
theorem dX0_readsOn_40 : decode cX0_readsOn 40 = .ok (.invokevirtual 78, 3) := by decide +kernel
theorem dX0_readsOn_43 : decode cX0_readsOn 43 = .ok (.ireturn, 1) := by decide +kernel
theorem dX0_readsOn_44 : decode cX0_readsOn 44 = .ok (.aload_n 0, 1) := by decide +kernel
theorem dX0_readsOn_45 : decode cX0_readsOn 45 = .ok (.iload_n 1, 1) := by decide +kernel
theorem dX0_readsOn_46 : decode cX0_readsOn 46 = .ok (.invokevirtual 81, 3) := by decide +kernel
theorem dX0_readsOn_49 : decode cX0_readsOn 49 = .ok (.ireturn, 1) := by decide +kernel
theorem dX0_readsFirst_0 : decode cX0_readsFirst 0 = .ok (.iload_n 1, 1) := by decide +kernel
theorem dX0_readsFirst_1 : decode cX0_readsFirst 1 = .ok (.bipush 45, 2) := by decide +kernel
theorem dX0_readsFirst_3 : decode cX0_readsFirst 3 = .ok (.if_icmp .ne 24, 3) := by decide +kernel
theorem dX0_readsFirst_6 : decode cX0_readsFirst 6 = .ok (.aload_n 0, 1) := by decide +kernel
theorem dX0_readsFirst_7 : decode cX0_readsFirst 7 = .ok (.getfield 61, 3) := by decide +kernel
theorem dX0_readsFirst_10 : decode cX0_readsFirst 10 = .ok (.ifCond .ne 17, 3) := by decide +kernel
theorem dX0_readsFirst_13 : decode cX0_readsFirst 13 = .ok (.aload_n 0, 1) := by decide +kernel
theorem dX0_readsFirst_14 : decode cX0_readsFirst 14 = .ok (.getfield 84, 3) := by decide +kernel
theorem dX0_readsFirst_17 : decode cX0_readsFirst 17 = .ok (.ifCond .ne 10, 3) := by decide +kernel
theorem dX0_readsFirst_20 : decode cX0_readsFirst 20 = .ok (.aload_n 0, 1) := by decide +kernel
theorem dX0_readsFirst_21 : decode cX0_readsFirst 21 = .ok (.iconst 1, 1) := by decide +kernel
theorem dX0_readsFirst_22 : decode cX0_readsFirst 22 = .ok (.putfield 61, 3) := by decide +kernel
theorem dX0_readsFirst_25 : decode cX0_readsFirst 25 = .ok (.iconst 1, 1) := by decide +kernel
theorem dX0_readsFirst_26 : decode cX0_readsFirst 26 = .ok (.ireturn, 1) := by decide +kernel
theorem dX0_readsFirst_27 : decode cX0_readsFirst 27 = .ok (.iload_n 1, 1) := by decide +kernel
theorem dX0_readsFirst_28 : decode cX0_readsFirst 28 = .ok (.bipush 44, 2) := by decide +kernel
theorem dX0_readsFirst_30 : decode cX0_readsFirst 30 = .ok (.if_icmp .ne 44, 3) := by decide +kernel
theorem dX0_readsFirst_33 : decode cX0_readsFirst 33 = .ok (.aload_n 0, 1) := by decide +kernel
theorem dX0_readsFirst_34 : decode cX0_readsFirst 34 = .ok (.getfield 84, 3) := by decide +kernel
theorem dX0_readsFirst_37 : decode cX0_readsFirst 37 = .ok (.ifCond .eq 37, 3) := by decide +kernel
theorem dX0_readsFirst_40 : decode cX0_readsFirst 40 = .ok (.aload_n 0, 1) := by decide +kernel
theorem dX0_readsFirst_41 : decode cX0_readsFirst 41 = .ok (.aload_n 0, 1) := by decide +kernel
theorem dX0_readsFirst_42 : decode cX0_readsFirst 42 = .ok (.getfield 61, 3) := by decide +kernel
theorem dX0_readsFirst_45 : decode cX0_readsFirst 45 = .ok (.ifCond .eq 11, 3) := by decide +kernel
theorem dX0_readsFirst_48 : decode cX0_readsFirst 48 = .ok (.aload_n 0, 1) := by decide +kernel
theorem dX0_readsFirst_49 : decode cX0_readsFirst 49 = .ok (.getfield 87, 3) := by decide +kernel
theorem dX0_readsFirst_52 : decode cX0_readsFirst 52 = .ok (.ineg, 1) := by decide +kernel
theorem dX0_readsFirst_53 : decode cX0_readsFirst 53 = .ok (.goto 7, 3) := by decide +kernel
theorem dX0_readsFirst_56 : decode cX0_readsFirst 56 = .ok (.aload_n 0, 1) := by decide +kernel
theorem dX0_readsFirst_57 : decode cX0_readsFirst 57 = .ok (.getfield 87, 3) := by decide +kernel
theorem dX0_readsFirst_60 : decode cX0_readsFirst 60 = .ok (.putfield 90, 3) := by decide +kernel
theorem dX0_readsFirst_63 : decode cX0_readsFirst 63 = .ok (.aload_n 0, 1) := by decide +kernel
theorem dX0_readsFirst_64 : decode cX0_readsFirst 64 = .ok (.iconst 1, 1) := by decide +kernel
theorem dX0_readsFirst_65 : decode cX0_readsFirst 65 = .ok (.putfield 58, 3) := by decide +kernel
theorem dX0_readsFirst_68 : decode cX0_readsFirst 68 = .ok (.aload_n 0, 1) := by decide +kernel
theorem dX0_readsFirst_69 : decode cX0_readsFirst 69 = .ok (.invokevirtual 68, 3) := by decide +kernel
theorem dX0_readsFirst_72 : decode cX0_readsFirst 72 = .ok (.iconst 1, 1) := by decide +kernel
theorem dX0_readsFirst_73 : decode cX0_readsFirst 73 = .ok (.ireturn, 1) := by decide +kernel
theorem dX0_readsFirst_74 : decode cX0_readsFirst 74 = .ok (.aload_n 0, 1) := by decide +kernel
theorem dX0_readsFirst_75 : decode cX0_readsFirst 75 = .ok (.getfield 61, 3) := by decide +kernel
theorem dX0_readsFirst_78 : decode cX0_readsFirst 78 = .ok (.ifCond .eq 20, 3) := by decide +kernel
theorem dX0_readsFirst_81 : decode cX0_readsFirst 81 = .ok (.aload_n 0, 1) := by decide +kernel
theorem dX0_readsFirst_82 : decode cX0_readsFirst 82 = .ok (.getfield 84, 3) := by decide +kernel
theorem dX0_readsFirst_85 : decode cX0_readsFirst 85 = .ok (.ifCond .ne 13, 3) := by decide +kernel
theorem dX0_readsFirst_88 : decode cX0_readsFirst 88 = .ok (.iload_n 1, 1) := by decide +kernel
theorem dX0_readsFirst_89 : decode cX0_readsFirst 89 = .ok (.bipush 48, 2) := by decide +kernel
theorem dX0_readsFirst_91 : decode cX0_readsFirst 91 = .ok (.if_icmp .ne 7, 3) := by decide +kernel
theorem dX0_readsFirst_94 : decode cX0_readsFirst 94 = .ok (.iconst 1, 1) := by decide +kernel
theorem dX0_readsFirst_95 : decode cX0_readsFirst 95 = .ok (.goto 4, 3) := by decide +kernel
theorem dX0_readsFirst_98 : decode cX0_readsFirst 98 = .ok (.iconst 0, 1) := by decide +kernel
theorem dX0_readsFirst_99 : decode cX0_readsFirst 99 = .ok (.istore_n 2, 1) := by decide +kernel
theorem dX0_readsFirst_100 : decode cX0_readsFirst 100 = .ok (.iload_n 2, 1) := by decide +kernel
theorem dX0_readsFirst_101 : decode cX0_readsFirst 101 = .ok (.ifCond .ne 31, 3) := by decide +kernel
theorem dX0_readsFirst_104 : decode cX0_readsFirst 104 = .ok (.aload_n 0, 1) := by decide +kernel
theorem dX0_readsFirst_105 : decode cX0_readsFirst 105 = .ok (.iload_n 1, 1) := by decide +kernel
theorem dX0_readsFirst_106 : decode cX0_readsFirst 106 = .ok (.aload_n 0, 1) := by decide +kernel
theorem dX0_readsFirst_107 : decode cX0_readsFirst 107 = .ok (.getfield 61, 3) := by decide +kernel
theorem dX0_readsFirst_110 : decode cX0_readsFirst 110 = .ok (.ifCond .eq 9, 3) := by decide +kernel
theorem dX0_readsFirst_113 : decode cX0_readsFirst 113 = .ok (.sipush 2048, 3) := by decide +kernel
theorem dX0_readsFirst_116 : decode cX0_readsFirst 116 = .ok (.goto 6, 3) := by decide +kernel
theorem dX0_readsFirst_119 : decode cX0_readsFirst 119 = .ok (.sipush 2047, 3) := by decide +kernel
theorem dX0_readsFirst_122 : decode cX0_readsFirst 122 = .ok (.invokevirtual 93, 3) := by decide +kernel
theorem dX0_readsFirst_125 : decode cX0_readsFirst 125 = .ok (.ifCond .eq 7, 3) := by decide +kernel
theorem dX0_readsFirst_128 : decode cX0_readsFirst 128 = .ok (.iconst 1, 1) := by decide +kernel
theorem dX0_readsFirst_129 : decode cX0_readsFirst 129 = .ok (.goto 4, 3) := by decide +kernel
theorem dX0_readsFirst_132 : decode cX0_readsFirst 132 = .ok (.iconst 0, 1) := by decide +kernel
theorem dX0_readsFirst_133 : decode cX0_readsFirst 133 = .ok (.ireturn, 1) := by decide +kernel
theorem dX0_readsNumber_0 : decode cX0_readsNumber 0 = .ok (.iload_n 1, 1) := by decide +kernel
theorem dX0_readsNumber_1 : decode cX0_readsNumber 1 = .ok (.bipush 58, 2) := by decide +kernel
theorem dX0_readsNumber_3 : decode cX0_readsNumber 3 = .ok (.if_icmp .ne 25, 3) := by decide +kernel
theorem dX0_readsNumber_6 : decode cX0_readsNumber 6 = .ok (.aload_n 0, 1) := by decide +kernel
theorem dX0_readsNumber_7 : decode cX0_readsNumber 7 = .ok (.getfield 84, 3) := by decide +kernel
theorem dX0_readsNumber_10 : decode cX0_readsNumber 10 = .ok (.ifCond .eq 18, 3) := by decide +kernel
theorem dX0_readsNumber_13 : decode cX0_readsNumber 13 = .ok (.aload_n 0, 1) := by decide +kernel
theorem dX0_readsNumber_14 : decode cX0_readsNumber 14 = .ok (.aload_n 0, 1) := by decide +kernel
theorem dX0_readsNumber_15 : decode cX0_readsNumber 15 = .ok (.getfield 87, 3) := by decide +kernel
theorem dX0_readsNumber_18 : decode cX0_readsNumber 18 = .ok (.putfield 97, 3) := by decide +kernel
theorem dX0_readsNumber_21 : decode cX0_readsNumber 21 = .ok (.aload_n 0, 1) := by decide +kernel
theorem dX0_readsNumber_22 : decode cX0_readsNumber 22 = .ok (.iconst 2, 1) := by decide +kernel
theorem dX0_readsNumber_23 : decode cX0_readsNumber 23 = .ok (.putfield 58, 3) := by decide +kernel
theorem dX0_readsNumber_26 : decode cX0_readsNumber 26 = .ok (.iconst 1, 1) := by decide +kernel
theorem dX0_readsNumber_27 : decode cX0_readsNumber 27 = .ok (.ireturn, 1) := by decide +kernel
theorem dX0_readsNumber_28 : decode cX0_readsNumber 28 = .ok (.aload_n 0, 1) := by decide +kernel
theorem dX0_readsNumber_29 : decode cX0_readsNumber 29 = .ok (.iload_n 1, 1) := by decide +kernel
theorem dX0_readsNumber_30 : decode cX0_readsNumber 30 = .ok (.bipush 48, 2) := by decide +kernel
theorem dX0_readsNumber_32 : decode cX0_readsNumber 32 = .ok (.invokevirtual 93, 3) := by decide +kernel
theorem dX0_readsNumber_35 : decode cX0_readsNumber 35 = .ok (.ireturn, 1) := by decide +kernel
theorem dX0_readsCode_0 : decode cX0_readsCode 0 = .ok (.iconst (-1), 1) := by decide +kernel
theorem dX0_readsCode_1 : decode cX0_readsCode 1 = .ok (.istore_n 2, 1) := by decide +kernel
theorem dX0_readsCode_2 : decode cX0_readsCode 2 = .ok (.iload_n 1, 1) := by decide +kernel
theorem dX0_readsCode_3 : decode cX0_readsCode 3 = .ok (.bipush 48, 2) := by decide +kernel
theorem dX0_readsCode_5 : decode cX0_readsCode 5 = .ok (.if_icmp .lt 17, 3) := by decide +kernel
theorem dX0_readsCode_8 : decode cX0_readsCode 8 = .ok (.iload_n 1, 1) := by decide +kernel
theorem dX0_readsCode_9 : decode cX0_readsCode 9 = .ok (.bipush 57, 2) := by decide +kernel
theorem dX0_readsCode_11 : decode cX0_readsCode 11 = .ok (.if_icmp .gt 11, 3) := by decide +kernel
theorem dX0_readsCode_14 : decode cX0_readsCode 14 = .ok (.iload_n 1, 1) := by decide +kernel
theorem dX0_readsCode_15 : decode cX0_readsCode 15 = .ok (.bipush 48, 2) := by decide +kernel
theorem dX0_readsCode_17 : decode cX0_readsCode 17 = .ok (.isub, 1) := by decide +kernel
theorem dX0_readsCode_18 : decode cX0_readsCode 18 = .ok (.istore_n 2, 1) := by decide +kernel
theorem dX0_readsCode_19 : decode cX0_readsCode 19 = .ok (.goto 23, 3) := by decide +kernel
theorem dX0_readsCode_22 : decode cX0_readsCode 22 = .ok (.iload_n 1, 1) := by decide +kernel
theorem dX0_readsCode_23 : decode cX0_readsCode 23 = .ok (.bipush 97, 2) := by decide +kernel
theorem dX0_readsCode_25 : decode cX0_readsCode 25 = .ok (.if_icmp .lt 17, 3) := by decide +kernel
theorem dX0_readsCode_28 : decode cX0_readsCode 28 = .ok (.iload_n 1, 1) := by decide +kernel
theorem dX0_readsCode_29 : decode cX0_readsCode 29 = .ok (.bipush 102, 2) := by decide +kernel
theorem dX0_readsCode_31 : decode cX0_readsCode 31 = .ok (.if_icmp .gt 11, 3) := by decide +kernel
theorem dX0_readsCode_34 : decode cX0_readsCode 34 = .ok (.iload_n 1, 1) := by decide +kernel
theorem dX0_readsCode_35 : decode cX0_readsCode 35 = .ok (.bipush 97, 2) := by decide +kernel
theorem dX0_readsCode_37 : decode cX0_readsCode 37 = .ok (.isub, 1) := by decide +kernel
theorem dX0_readsCode_38 : decode cX0_readsCode 38 = .ok (.bipush 10, 2) := by decide +kernel
theorem dX0_readsCode_40 : decode cX0_readsCode 40 = .ok (.iadd, 1) := by decide +kernel
theorem dX0_readsCode_41 : decode cX0_readsCode 41 = .ok (.istore_n 2, 1) := by decide +kernel
theorem dX0_readsCode_42 : decode cX0_readsCode 42 = .ok (.iload_n 2, 1) := by decide +kernel
theorem dX0_readsCode_43 : decode cX0_readsCode 43 = .ok (.iconst (-1), 1) := by decide +kernel
theorem dX0_readsCode_44 : decode cX0_readsCode 44 = .ok (.if_icmp .eq 15, 3) := by decide +kernel
theorem dX0_readsCode_47 : decode cX0_readsCode 47 = .ok (.aload_n 0, 1) := by decide +kernel
theorem dX0_readsCode_48 : decode cX0_readsCode 48 = .ok (.getfield 65, 3) := by decide +kernel
theorem dX0_readsCode_51 : decode cX0_readsCode 51 = .ok (.aload_n 0, 1) := by decide +kernel
theorem dX0_readsCode_52 : decode cX0_readsCode 52 = .ok (.getfield 15, 3) := by decide +kernel
theorem dX0_readsCode_55 : decode cX0_readsCode 55 = .ok (.arraylength, 1) := by decide +kernel
theorem dX0_readsCode_56 : decode cX0_readsCode 56 = .ok (.if_icmp .lt 5, 3) := by decide +kernel
theorem dX0_readsCode_59 : decode cX0_readsCode 59 = .ok (.iconst 0, 1) := by decide +kernel
theorem dX0_readsCode_60 : decode cX0_readsCode 60 = .ok (.ireturn, 1) := by decide +kernel
theorem dX0_readsCode_61 : decode cX0_readsCode 61 = .ok (.aload_n 0, 1) := by decide +kernel
theorem dX0_readsCode_62 : decode cX0_readsCode 62 = .ok (.getfield 15, 3) := by decide +kernel
theorem dX0_readsCode_65 : decode cX0_readsCode 65 = .ok (.aload_n 0, 1) := by decide +kernel
theorem dX0_readsCode_66 : decode cX0_readsCode 66 = .ok (.getfield 65, 3) := by decide +kernel
theorem dX0_readsCode_69 : decode cX0_readsCode 69 = .ok (.iload_n 2, 1) := by decide +kernel
theorem dX0_readsCode_70 : decode cX0_readsCode 70 = .ok (.iastore, 1) := by decide +kernel
theorem dX0_readsCode_71 : decode cX0_readsCode 71 = .ok (.aload_n 0, 1) := by decide +kernel
theorem dX0_readsCode_72 : decode cX0_readsCode 72 = .ok (.dup, 1) := by decide +kernel
theorem dX0_readsCode_73 : decode cX0_readsCode 73 = .ok (.getfield 65, 3) := by decide +kernel
theorem dX0_readsCode_76 : decode cX0_readsCode 76 = .ok (.iconst 1, 1) := by decide +kernel
theorem dX0_readsCode_77 : decode cX0_readsCode 77 = .ok (.iadd, 1) := by decide +kernel
theorem dX0_readsCode_78 : decode cX0_readsCode 78 = .ok (.putfield 65, 3) := by decide +kernel
theorem dX0_readsCode_81 : decode cX0_readsCode 81 = .ok (.iconst 1, 1) := by decide +kernel
theorem dX0_readsCode_82 : decode cX0_readsCode 82 = .ok (.ireturn, 1) := by decide +kernel
theorem dX0_beginDigits_0 : decode cX0_beginDigits 0 = .ok (.aload_n 0, 1) := by decide +kernel
theorem dX0_beginDigits_1 : decode cX0_beginDigits 1 = .ok (.iconst 0, 1) := by decide +kernel
theorem dX0_beginDigits_2 : decode cX0_beginDigits 2 = .ok (.putfield 87, 3) := by decide +kernel
theorem dX0_beginDigits_5 : decode cX0_beginDigits 5 = .ok (.aload_n 0, 1) := by decide +kernel
theorem dX0_beginDigits_6 : decode cX0_beginDigits 6 = .ok (.iconst 0, 1) := by decide +kernel
theorem dX0_beginDigits_7 : decode cX0_beginDigits 7 = .ok (.putfield 84, 3) := by decide +kernel
theorem dX0_beginDigits_10 : decode cX0_beginDigits 10 = .ok (.return_, 1) := by decide +kernel
theorem dX0_readsDigit_0 : decode cX0_readsDigit 0 = .ok (.aload_n 0, 1) := by decide +kernel
theorem dX0_readsDigit_1 : decode cX0_readsDigit 1 = .ok (.getfield 84, 3) := by decide +kernel
theorem dX0_readsDigit_4 : decode cX0_readsDigit 4 = .ok (.ifCond .eq 14, 3) := by decide +kernel
theorem dX0_readsDigit_7 : decode cX0_readsDigit 7 = .ok (.aload_n 0, 1) := by decide +kernel
theorem dX0_readsDigit_8 : decode cX0_readsDigit 8 = .ok (.getfield 87, 3) := by decide +kernel
theorem dX0_readsDigit_11 : decode cX0_readsDigit 11 = .ok (.ifCond .ne 7, 3) := by decide +kernel
theorem dX0_readsDigit_14 : decode cX0_readsDigit 14 = .ok (.iconst 1, 1) := by decide +kernel
theorem dX0_readsDigit_15 : decode cX0_readsDigit 15 = .ok (.goto 4, 3) := by decide +kernel
theorem dX0_readsDigit_18 : decode cX0_readsDigit 18 = .ok (.iconst 0, 1) := by decide +kernel
theorem dX0_readsDigit_19 : decode cX0_readsDigit 19 = .ok (.istore_n 3, 1) := by decide +kernel
theorem dX0_readsDigit_20 : decode cX0_readsDigit 20 = .ok (.iload_n 1, 1) := by decide +kernel
theorem dX0_readsDigit_21 : decode cX0_readsDigit 21 = .ok (.bipush 48, 2) := by decide +kernel
theorem dX0_readsDigit_23 : decode cX0_readsDigit 23 = .ok (.if_icmp .lt 13, 3) := by decide +kernel
theorem dX0_readsDigit_26 : decode cX0_readsDigit 26 = .ok (.iload_n 1, 1) := by decide +kernel
theorem dX0_readsDigit_27 : decode cX0_readsDigit 27 = .ok (.bipush 57, 2) := by decide +kernel
theorem dX0_readsDigit_29 : decode cX0_readsDigit 29 = .ok (.if_icmp .gt 7, 3) := by decide +kernel
theorem dX0_readsDigit_32 : decode cX0_readsDigit 32 = .ok (.iload_n 3, 1) := by decide +kernel
theorem dX0_readsDigit_33 : decode cX0_readsDigit 33 = .ok (.ifCond .eq 5, 3) := by decide +kernel
theorem dX0_readsDigit_36 : decode cX0_readsDigit 36 = .ok (.iconst 0, 1) := by decide +kernel
theorem dX0_readsDigit_37 : decode cX0_readsDigit 37 = .ok (.ireturn, 1) := by decide +kernel
theorem dX0_readsDigit_38 : decode cX0_readsDigit 38 = .ok (.bipush 10, 2) := by decide +kernel
theorem dX0_readsDigit_40 : decode cX0_readsDigit 40 = .ok (.aload_n 0, 1) := by decide +kernel
theorem dX0_readsDigit_41 : decode cX0_readsDigit 41 = .ok (.getfield 87, 3) := by decide +kernel
theorem dX0_readsDigit_44 : decode cX0_readsDigit 44 = .ok (.imul, 1) := by decide +kernel
theorem dX0_readsDigit_45 : decode cX0_readsDigit 45 = .ok (.iload_n 1, 1) := by decide +kernel
theorem dX0_readsDigit_46 : decode cX0_readsDigit 46 = .ok (.iadd, 1) := by decide +kernel
theorem dX0_readsDigit_47 : decode cX0_readsDigit 47 = .ok (.bipush 48, 2) := by decide +kernel
theorem dX0_readsDigit_49 : decode cX0_readsDigit 49 = .ok (.isub, 1) := by decide +kernel
theorem dX0_readsDigit_50 : decode cX0_readsDigit 50 = .ok (.istore 4, 2) := by decide +kernel
theorem dX0_readsDigit_52 : decode cX0_readsDigit 52 = .ok (.iload 4, 2) := by decide +kernel
theorem dX0_readsDigit_54 : decode cX0_readsDigit 54 = .ok (.iload_n 2, 1) := by decide +kernel
theorem dX0_readsDigit_55 : decode cX0_readsDigit 55 = .ok (.if_icmp .le 5, 3) := by decide +kernel
theorem dX0_readsDigit_58 : decode cX0_readsDigit 58 = .ok (.iconst 0, 1) := by decide +kernel
theorem dX0_readsDigit_59 : decode cX0_readsDigit 59 = .ok (.ireturn, 1) := by decide +kernel
theorem dX0_readsDigit_60 : decode cX0_readsDigit 60 = .ok (.aload_n 0, 1) := by decide +kernel
theorem dX0_readsDigit_61 : decode cX0_readsDigit 61 = .ok (.iload 4, 2) := by decide +kernel
theorem dX0_readsDigit_63 : decode cX0_readsDigit 63 = .ok (.putfield 87, 3) := by decide +kernel
theorem dX0_readsDigit_66 : decode cX0_readsDigit 66 = .ok (.aload_n 0, 1) := by decide +kernel
theorem dX0_readsDigit_67 : decode cX0_readsDigit 67 = .ok (.iconst 1, 1) := by decide +kernel
theorem dX0_readsDigit_68 : decode cX0_readsDigit 68 = .ok (.putfield 84, 3) := by decide +kernel
theorem dX0_readsDigit_71 : decode cX0_readsDigit 71 = .ok (.iconst 1, 1) := by decide +kernel
theorem dX0_readsDigit_72 : decode cX0_readsDigit 72 = .ok (.ireturn, 1) := by decide +kernel
theorem dX1_init_0 : decode cX1_init 0 = .ok (.aload_n 0, 1) := by decide +kernel
theorem dX1_init_1 : decode cX1_init 1 = .ok (.invokespecial 3, 3) := by decide +kernel
theorem dX1_init_4 : decode cX1_init 4 = .ok (.aload_n 0, 1) := by decide +kernel
theorem dX1_init_5 : decode cX1_init 5 = .ok (.new 9, 3) := by decide +kernel
theorem dX1_init_8 : decode cX1_init 8 = .ok (.dup, 1) := by decide +kernel
theorem dX1_init_9 : decode cX1_init 9 = .ok (.invokespecial 11, 3) := by decide +kernel
theorem dX1_init_12 : decode cX1_init 12 = .ok (.putfield 12, 3) := by decide +kernel
theorem dX1_init_15 : decode cX1_init 15 = .ok (.return_, 1) := by decide +kernel
theorem dX1_codeWave_0 : decode cX1_codeWave 0 = .ok (.iconst 0, 1) := by decide +kernel
theorem dX1_codeWave_1 : decode cX1_codeWave 1 = .ok (.istore_n 2, 1) := by decide +kernel
theorem dX1_codeWave_2 : decode cX1_codeWave 2 = .ok (.iconst 0, 1) := by decide +kernel
theorem dX1_codeWave_3 : decode cX1_codeWave 3 = .ok (.istore_n 3, 1) := by decide +kernel
theorem dX1_codeWave_4 : decode cX1_codeWave 4 = .ok (.iload_n 3, 1) := by decide +kernel
theorem dX1_codeWave_5 : decode cX1_codeWave 5 = .ok (.bipush 32, 2) := by decide +kernel
theorem dX1_codeWave_7 : decode cX1_codeWave 7 = .ok (.if_icmp .ge 62, 3) := by decide +kernel
theorem dX1_codeWave_10 : decode cX1_codeWave 10 = .ok (.aload_n 1, 1) := by decide +kernel
theorem dX1_codeWave_11 : decode cX1_codeWave 11 = .ok (.iload_n 3, 1) := by decide +kernel
theorem dX1_codeWave_12 : decode cX1_codeWave 12 = .ok (.invokevirtual 18, 3) := by decide +kernel
theorem dX1_codeWave_15 : decode cX1_codeWave 15 = .ok (.aload_n 1, 1) := by decide +kernel
theorem dX1_codeWave_16 : decode cX1_codeWave 16 = .ok (.getfield 24, 3) := by decide +kernel
theorem dX1_codeWave_19 : decode cX1_codeWave 19 = .ok (.if_icmp .ge 50, 3) := by decide +kernel
theorem dX1_codeWave_22 : decode cX1_codeWave 22 = .ok (.aload_n 1, 1) := by decide +kernel
theorem dX1_codeWave_23 : decode cX1_codeWave 23 = .ok (.getfield 28, 3) := by decide +kernel
theorem dX1_codeWave_26 : decode cX1_codeWave 26 = .ok (.iconst 1, 1) := by decide +kernel
theorem dX1_codeWave_27 : decode cX1_codeWave 27 = .ok (.iaload, 1) := by decide +kernel
theorem dX1_codeWave_28 : decode cX1_codeWave 28 = .ok (.iconst 1, 1) := by decide +kernel
theorem dX1_codeWave_29 : decode cX1_codeWave 29 = .ok (.if_icmp .ne 19, 3) := by decide +kernel
theorem dX1_codeWave_32 : decode cX1_codeWave 32 = .ok (.aload_n 0, 1) := by decide +kernel
theorem dX1_codeWave_33 : decode cX1_codeWave 33 = .ok (.aload_n 1, 1) := by decide +kernel
theorem dX1_codeWave_34 : decode cX1_codeWave 34 = .ok (.aload_n 1, 1) := by decide +kernel
theorem dX1_codeWave_35 : decode cX1_codeWave 35 = .ok (.iload_n 3, 1) := by decide +kernel
theorem dX1_codeWave_36 : decode cX1_codeWave 36 = .ok (.invokevirtual 18, 3) := by decide +kernel
theorem dX1_codeWave_39 : decode cX1_codeWave 39 = .ok (.aload_n 1, 1) := by decide +kernel
theorem dX1_codeWave_40 : decode cX1_codeWave 40 = .ok (.iload_n 3, 1) := by decide +kernel
theorem dX1_codeWave_41 : decode cX1_codeWave 41 = .ok (.invokevirtual 32, 3) := by decide +kernel
theorem dX1_codeWave_44 : decode cX1_codeWave 44 = .ok (.invokevirtual 35, 3) := by decide +kernel
theorem dX1_codeWave_47 : decode cX1_codeWave 47 = .ok (.istore_n 2, 1) := by decide +kernel
theorem dX1_codeWave_48 : decode cX1_codeWave 48 = .ok (.aload_n 0, 1) := by decide +kernel
theorem dX1_codeWave_49 : decode cX1_codeWave 49 = .ok (.aload_n 1, 1) := by decide +kernel
theorem dX1_codeWave_50 : decode cX1_codeWave 50 = .ok (.iload_n 3, 1) := by decide +kernel
theorem dX1_codeWave_51 : decode cX1_codeWave 51 = .ok (.iload_n 2, 1) := by decide +kernel
theorem dX1_codeWave_52 : decode cX1_codeWave 52 = .ok (.invokevirtual 39, 3) := by decide +kernel
theorem dX1_codeWave_55 : decode cX1_codeWave 55 = .ok (.aload_n 0, 1) := by decide +kernel
theorem dX1_codeWave_56 : decode cX1_codeWave 56 = .ok (.getfield 12, 3) := by decide +kernel
theorem dX1_codeWave_59 : decode cX1_codeWave 59 = .ok (.getfield 43, 3) := by decide +kernel
theorem dX1_codeWave_62 : decode cX1_codeWave 62 = .ok (.istore_n 2, 1) := by decide +kernel
theorem dX1_codeWave_63 : decode cX1_codeWave 63 = .ok (.iinc 3 1, 3) := by decide +kernel
theorem dX1_codeWave_66 : decode cX1_codeWave 66 = .ok (.goto (-62), 3) := by decide +kernel
theorem dX1_codeWave_69 : decode cX1_codeWave 69 = .ok (.aload_n 1, 1) := by decide +kernel
theorem dX1_codeWave_70 : decode cX1_codeWave 70 = .ok (.iload_n 3, 1) := by decide +kernel
theorem dX1_codeWave_71 : decode cX1_codeWave 71 = .ok (.putfield 46, 3) := by decide +kernel
theorem dX1_codeWave_74 : decode cX1_codeWave 74 = .ok (.aload_n 1, 1) := by decide +kernel
theorem dX1_codeWave_75 : decode cX1_codeWave 75 = .ok (.dup, 1) := by decide +kernel
theorem dX1_codeWave_76 : decode cX1_codeWave 76 = .ok (.getfield 49, 3) := by decide +kernel
theorem dX1_codeWave_79 : decode cX1_codeWave 79 = .ok (.iconst 1, 1) := by decide +kernel
theorem dX1_codeWave_80 : decode cX1_codeWave 80 = .ok (.iadd, 1) := by decide +kernel
theorem dX1_codeWave_81 : decode cX1_codeWave 81 = .ok (.putfield 49, 3) := by decide +kernel
theorem dX1_codeWave_84 : decode cX1_codeWave 84 = .ok (.return_, 1) := by decide +kernel
theorem dX1_codeBlock_0 : decode cX1_codeBlock 0 = .ok (.aload_n 1, 1) := by decide +kernel
theorem dX1_codeBlock_1 : decode cX1_codeBlock 1 = .ok (.iload_n 2, 1) := by decide +kernel
theorem dX1_codeBlock_2 : decode cX1_codeBlock 2 = .ok (.invokevirtual 18, 3) := by decide +kernel
theorem dX1_codeBlock_5 : decode cX1_codeBlock 5 = .ok (.istore 4, 2) := by decide +kernel
theorem dX1_codeBlock_7 : decode cX1_codeBlock 7 = .ok (.aload_n 1, 1) := by decide +kernel
theorem dX1_codeBlock_8 : decode cX1_codeBlock 8 = .ok (.getfield 52, 3) := by decide +kernel
theorem dX1_codeBlock_11 : decode cX1_codeBlock 11 = .ok (.iload 4, 2) := by decide +kernel
theorem dX1_codeBlock_13 : decode cX1_codeBlock 13 = .ok (.iaload, 1) := by decide +kernel
theorem dX1_codeBlock_14 : decode cX1_codeBlock 14 = .ok (.istore 5, 2) := by decide +kernel
theorem dX1_codeBlock_16 : decode cX1_codeBlock 16 = .ok (.aload_n 1, 1) := by decide +kernel
theorem dX1_codeBlock_17 : decode cX1_codeBlock 17 = .ok (.getfield 55, 3) := by decide +kernel
theorem dX1_codeBlock_20 : decode cX1_codeBlock 20 = .ok (.iload_n 2, 1) := by decide +kernel
theorem dX1_codeBlock_21 : decode cX1_codeBlock 21 = .ok (.iload 5, 2) := by decide +kernel
theorem dX1_codeBlock_23 : decode cX1_codeBlock 23 = .ok (.iastore, 1) := by decide +kernel
theorem dX1_codeBlock_24 : decode cX1_codeBlock 24 = .ok (.aload_n 1, 1) := by decide +kernel
theorem dX1_codeBlock_25 : decode cX1_codeBlock 25 = .ok (.getfield 58, 3) := by decide +kernel
theorem dX1_codeBlock_28 : decode cX1_codeBlock 28 = .ok (.iload_n 2, 1) := by decide +kernel
theorem dX1_codeBlock_29 : decode cX1_codeBlock 29 = .ok (.iload_n 3, 1) := by decide +kernel
theorem dX1_codeBlock_30 : decode cX1_codeBlock 30 = .ok (.iastore, 1) := by decide +kernel
theorem dX1_codeBlock_31 : decode cX1_codeBlock 31 = .ok (.aload_n 1, 1) := by decide +kernel
theorem dX1_codeBlock_32 : decode cX1_codeBlock 32 = .ok (.getfield 61, 3) := by decide +kernel
theorem dX1_codeBlock_35 : decode cX1_codeBlock 35 = .ok (.iload_n 2, 1) := by decide +kernel
theorem dX1_codeBlock_36 : decode cX1_codeBlock 36 = .ok (.iconst 0, 1) := by decide +kernel
theorem dX1_codeBlock_37 : decode cX1_codeBlock 37 = .ok (.bastore, 1) := by decide +kernel
theorem dX1_codeBlock_38 : decode cX1_codeBlock 38 = .ok (.aload_n 1, 1) := by decide +kernel
theorem dX1_codeBlock_39 : decode cX1_codeBlock 39 = .ok (.getfield 65, 3) := by decide +kernel
theorem dX1_codeBlock_42 : decode cX1_codeBlock 42 = .ok (.iload 4, 2) := by decide +kernel
theorem dX1_codeBlock_44 : decode cX1_codeBlock 44 = .ok (.iconst (-1), 1) := by decide +kernel
theorem dX1_codeBlock_45 : decode cX1_codeBlock 45 = .ok (.iastore, 1) := by decide +kernel
theorem dX1_codeBlock_46 : decode cX1_codeBlock 46 = .ok (.aload_n 1, 1) := by decide +kernel
theorem dX1_codeBlock_47 : decode cX1_codeBlock 47 = .ok (.getfield 68, 3) := by decide +kernel
theorem dX1_codeBlock_50 : decode cX1_codeBlock 50 = .ok (.iload 4, 2) := by decide +kernel
theorem dX1_codeBlock_52 : decode cX1_codeBlock 52 = .ok (.iload 5, 2) := by decide +kernel
theorem dX1_codeBlock_54 : decode cX1_codeBlock 54 = .ok (.iastore, 1) := by decide +kernel
theorem dX1_codeBlock_55 : decode cX1_codeBlock 55 = .ok (.aload_n 0, 1) := by decide +kernel
theorem dX1_codeBlock_56 : decode cX1_codeBlock 56 = .ok (.getfield 12, 3) := by decide +kernel
theorem dX1_codeBlock_59 : decode cX1_codeBlock 59 = .ok (.iload 5, 2) := by decide +kernel
theorem dX1_codeBlock_61 : decode cX1_codeBlock 61 = .ok (.iload_n 3, 1) := by decide +kernel
theorem dX1_codeBlock_62 : decode cX1_codeBlock 62 = .ok (.invokevirtual 71, 3) := by decide +kernel
theorem dX1_codeBlock_65 : decode cX1_codeBlock 65 = .ok (.iload 4, 2) := by decide +kernel
theorem dX1_codeBlock_67 : decode cX1_codeBlock 67 = .ok (.iconst 1, 1) := by decide +kernel
theorem dX1_codeBlock_68 : decode cX1_codeBlock 68 = .ok (.iadd, 1) := by decide +kernel
theorem dX1_codeBlock_69 : decode cX1_codeBlock 69 = .ok (.istore 6, 2) := by decide +kernel
theorem dX1_codeBlock_71 : decode cX1_codeBlock 71 = .ok (.iload 6, 2) := by decide +kernel
theorem dX1_codeBlock_73 : decode cX1_codeBlock 73 = .ok (.aload_n 1, 1) := by decide +kernel
theorem dX1_codeBlock_74 : decode cX1_codeBlock 74 = .ok (.iload_n 2, 1) := by decide +kernel
theorem dX1_codeBlock_75 : decode cX1_codeBlock 75 = .ok (.invokevirtual 32, 3) := by decide +kernel
theorem dX1_codeBlock_78 : decode cX1_codeBlock 78 = .ok (.if_icmp .ge 57, 3) := by decide +kernel
theorem dX1_codeBlock_81 : decode cX1_codeBlock 81 = .ok (.aload_n 0, 1) := by decide +kernel
theorem dX1_codeBlock_82 : decode cX1_codeBlock 82 = .ok (.getfield 12, 3) := by decide +kernel
theorem dX1_codeBlock_85 : decode cX1_codeBlock 85 = .ok (.aload_n 1, 1) := by decide +kernel
theorem dX1_codeBlock_86 : decode cX1_codeBlock 86 = .ok (.getfield 52, 3) := by decide +kernel
theorem dX1_codeBlock_89 : decode cX1_codeBlock 89 = .ok (.iload 6, 2) := by decide +kernel
theorem dX1_codeBlock_91 : decode cX1_codeBlock 91 = .ok (.iaload, 1) := by decide +kernel
theorem dX1_codeBlock_92 : decode cX1_codeBlock 92 = .ok (.invokevirtual 75, 3) := by decide +kernel
theorem dX1_codeBlock_95 : decode cX1_codeBlock 95 = .ok (.istore 7, 2) := by decide +kernel
theorem dX1_codeBlock_97 : decode cX1_codeBlock 97 = .ok (.aload_n 0, 1) := by decide +kernel
theorem dX1_codeBlock_98 : decode cX1_codeBlock 98 = .ok (.getfield 12, 3) := by decide +kernel
theorem dX1_codeBlock_101 : decode cX1_codeBlock 101 = .ok (.iload 7, 2) := by decide +kernel
theorem dX1_codeBlock_103 : decode cX1_codeBlock 103 = .ok (.invokevirtual 78, 3) := by decide +kernel
theorem dX1_codeBlock_106 : decode cX1_codeBlock 106 = .ok (.aload_n 1, 1) := by decide +kernel
theorem dX1_codeBlock_107 : decode cX1_codeBlock 107 = .ok (.getfield 65, 3) := by decide +kernel
theorem dX1_codeBlock_110 : decode cX1_codeBlock 110 = .ok (.iload 6, 2) := by decide +kernel
theorem dX1_codeBlock_112 : decode cX1_codeBlock 112 = .ok (.iload 7, 2) := by decide +kernel
theorem dX1_codeBlock_114 : decode cX1_codeBlock 114 = .ok (.iastore, 1) := by decide +kernel
theorem dX1_codeBlock_115 : decode cX1_codeBlock 115 = .ok (.aload_n 1, 1) := by decide +kernel
theorem dX1_codeBlock_116 : decode cX1_codeBlock 116 = .ok (.getfield 68, 3) := by decide +kernel
theorem dX1_codeBlock_119 : decode cX1_codeBlock 119 = .ok (.iload 6, 2) := by decide +kernel
theorem dX1_codeBlock_121 : decode cX1_codeBlock 121 = .ok (.aload_n 0, 1) := by decide +kernel
theorem dX1_codeBlock_122 : decode cX1_codeBlock 122 = .ok (.getfield 12, 3) := by decide +kernel
theorem dX1_codeBlock_125 : decode cX1_codeBlock 125 = .ok (.getfield 82, 3) := by decide +kernel
theorem dX1_codeBlock_128 : decode cX1_codeBlock 128 = .ok (.iastore, 1) := by decide +kernel
theorem dX1_codeBlock_129 : decode cX1_codeBlock 129 = .ok (.iinc 6 1, 3) := by decide +kernel
theorem dX1_codeBlock_132 : decode cX1_codeBlock 132 = .ok (.goto (-61), 3) := by decide +kernel
theorem dX1_codeBlock_135 : decode cX1_codeBlock 135 = .ok (.return_, 1) := by decide +kernel
theorem dX1_errorAsBlock_0 : decode cX1_errorAsBlock 0 = .ok (.iconst 0, 1) := by decide +kernel
theorem dX1_errorAsBlock_1 : decode cX1_errorAsBlock 1 = .ok (.istore 5, 2) := by decide +kernel
theorem dX1_errorAsBlock_3 : decode cX1_errorAsBlock 3 = .ok (.aload_n 0, 1) := by decide +kernel
theorem dX1_errorAsBlock_4 : decode cX1_errorAsBlock 4 = .ok (.getfield 12, 3) := by decide +kernel
theorem dX1_errorAsBlock_7 : decode cX1_errorAsBlock 7 = .ok (.aload_n 1, 1) := by decide +kernel
theorem dX1_errorAsBlock_8 : decode cX1_errorAsBlock 8 = .ok (.getfield 52, 3) := by decide +kernel
theorem dX1_errorAsBlock_11 : decode cX1_errorAsBlock 11 = .ok (.iload_n 2, 1) := by decide +kernel
theorem dX1_errorAsBlock_12 : decode cX1_errorAsBlock 12 = .ok (.iaload, 1) := by decide +kernel
theorem dX1_errorAsBlock_13 : decode cX1_errorAsBlock 13 = .ok (.iload 4, 2) := by decide +kernel
theorem dX1_errorAsBlock_15 : decode cX1_errorAsBlock 15 = .ok (.invokevirtual 71, 3) := by decide +kernel
theorem dX1_errorAsBlock_18 : decode cX1_errorAsBlock 18 = .ok (.iload_n 2, 1) := by decide +kernel
theorem dX1_errorAsBlock_19 : decode cX1_errorAsBlock 19 = .ok (.iconst 1, 1) := by decide +kernel
theorem dX1_errorAsBlock_20 : decode cX1_errorAsBlock 20 = .ok (.iadd, 1) := by decide +kernel
theorem dX1_errorAsBlock_21 : decode cX1_errorAsBlock 21 = .ok (.istore 6, 2) := by decide +kernel
theorem dX1_errorAsBlock_23 : decode cX1_errorAsBlock 23 = .ok (.iload 6, 2) := by decide +kernel
theorem dX1_errorAsBlock_25 : decode cX1_errorAsBlock 25 = .ok (.iload_n 3, 1) := by decide +kernel
theorem dX1_errorAsBlock_26 : decode cX1_errorAsBlock 26 = .ok (.if_icmp .ge 57, 3) := by decide +kernel
theorem dX1_errorAsBlock_29 : decode cX1_errorAsBlock 29 = .ok (.aload_n 0, 1) := by decide +kernel
theorem dX1_errorAsBlock_30 : decode cX1_errorAsBlock 30 = .ok (.getfield 12, 3) := by decide +kernel
theorem dX1_errorAsBlock_33 : decode cX1_errorAsBlock 33 = .ok (.aload_n 0, 1) := by decide +kernel
theorem dX1_errorAsBlock_34 : decode cX1_errorAsBlock 34 = .ok (.getfield 12, 3) := by decide +kernel
theorem dX1_errorAsBlock_37 : decode cX1_errorAsBlock 37 = .ok (.aload_n 1, 1) := by decide +kernel
theorem dX1_errorAsBlock_38 : decode cX1_errorAsBlock 38 = .ok (.getfield 52, 3) := by decide +kernel
theorem dX1_errorAsBlock_41 : decode cX1_errorAsBlock 41 = .ok (.iload 6, 2) := by decide +kernel
theorem dX1_errorAsBlock_43 : decode cX1_errorAsBlock 43 = .ok (.iaload, 1) := by decide +kernel
theorem dX1_errorAsBlock_44 : decode cX1_errorAsBlock 44 = .ok (.invokevirtual 75, 3) := by decide +kernel
theorem dX1_errorAsBlock_47 : decode cX1_errorAsBlock 47 = .ok (.invokevirtual 78, 3) := by decide +kernel
theorem dX1_errorAsBlock_50 : decode cX1_errorAsBlock 50 = .ok (.aload_n 1, 1) := by decide +kernel
theorem dX1_errorAsBlock_51 : decode cX1_errorAsBlock 51 = .ok (.getfield 52, 3) := by decide +kernel
theorem dX1_errorAsBlock_54 : decode cX1_errorAsBlock 54 = .ok (.iload 6, 2) := by decide +kernel
theorem dX1_errorAsBlock_56 : decode cX1_errorAsBlock 56 = .ok (.iaload, 1) := by decide +kernel
theorem dX1_errorAsBlock_57 : decode cX1_errorAsBlock 57 = .ok (.aload_n 0, 1) := by decide +kernel
theorem dX1_errorAsBlock_58 : decode cX1_errorAsBlock 58 = .ok (.getfield 12, 3) := by decide +kernel
theorem dX1_errorAsBlock_61 : decode cX1_errorAsBlock 61 = .ok (.getfield 82, 3) := by decide +kernel
theorem dX1_errorAsBlock_64 : decode cX1_errorAsBlock 64 = .ok (.isub, 1) := by decide +kernel
theorem dX1_errorAsBlock_65 : decode cX1_errorAsBlock 65 = .ok (.istore 7, 2) := by decide +kernel
theorem dX1_errorAsBlock_67 : decode cX1_errorAsBlock 67 = .ok (.iload 5, 2) := by decide +kernel
theorem dX1_errorAsBlock_69 : decode cX1_errorAsBlock 69 = .ok (.iload 7, 2) := by decide +kernel
theorem dX1_errorAsBlock_71 : decode cX1_errorAsBlock 71 = .ok (.iload 7, 2) := by decide +kernel
theorem dX1_errorAsBlock_73 : decode cX1_errorAsBlock 73 = .ok (.imul, 1) := by decide +kernel
theorem dX1_errorAsBlock_74 : decode cX1_errorAsBlock 74 = .ok (.iadd, 1) := by decide +kernel
theorem dX1_errorAsBlock_75 : decode cX1_errorAsBlock 75 = .ok (.istore 5, 2) := by decide +kernel
theorem dX1_errorAsBlock_77 : decode cX1_errorAsBlock 77 = .ok (.iinc 6 1, 3) := by decide +kernel
theorem dX1_errorAsBlock_80 : decode cX1_errorAsBlock 80 = .ok (.goto (-57), 3) := by decide +kernel
theorem dX1_errorAsBlock_83 : decode cX1_errorAsBlock 83 = .ok (.iload 5, 2) := by decide +kernel
theorem dX1_errorAsBlock_85 : decode cX1_errorAsBlock 85 = .ok (.ireturn, 1) := by decide +kernel
theorem dX1_bestStart_0 : decode cX1_bestStart 0 = .ok (.iconst 0, 1) := by decide +kernel
theorem dX1_bestStart_1 : decode cX1_bestStart 1 = .ok (.istore 4, 2) := by decide +kernel
theorem dX1_bestStart_3 : decode cX1_bestStart 3 = .ok (.aload_n 0, 1) := by decide +kernel
theorem dX1_bestStart_4 : decode cX1_bestStart 4 = .ok (.aload_n 1, 1) := by decide +kernel
theorem dX1_bestStart_5 : decode cX1_bestStart 5 = .ok (.iload_n 2, 1) := by decide +kernel
theorem dX1_bestStart_6 : decode cX1_bestStart 6 = .ok (.iload_n 3, 1) := by decide +kernel
theorem dX1_bestStart_7 : decode cX1_bestStart 7 = .ok (.iconst 0, 1) := by decide +kernel
theorem dX1_bestStart_8 : decode cX1_bestStart 8 = .ok (.invokevirtual 85, 3) := by decide +kernel
theorem dX1_bestStart_11 : decode cX1_bestStart 11 = .ok (.istore 5, 2) := by decide +kernel
theorem dX1_bestStart_13 : decode cX1_bestStart 13 = .ok (.iconst 1, 1) := by decide +kernel
theorem dX1_bestStart_14 : decode cX1_bestStart 14 = .ok (.istore 6, 2) := by decide +kernel
theorem dX1_bestStart_16 : decode cX1_bestStart 16 = .ok (.iload 6, 2) := by decide +kernel
theorem dX1_bestStart_18 : decode cX1_bestStart 18 = .ok (.bipush 48, 2) := by decide +kernel
theorem dX1_bestStart_20 : decode cX1_bestStart 20 = .ok (.if_icmp .gt 35, 3) := by decide +kernel
theorem dX1_bestStart_23 : decode cX1_bestStart 23 = .ok (.aload_n 0, 1) := by decide +kernel
theorem dX1_bestStart_24 : decode cX1_bestStart 24 = .ok (.aload_n 1, 1) := by decide +kernel
theorem dX1_bestStart_25 : decode cX1_bestStart 25 = .ok (.iload_n 2, 1) := by decide +kernel
theorem dX1_bestStart_26 : decode cX1_bestStart 26 = .ok (.iload_n 3, 1) := by decide +kernel
theorem dX1_bestStart_27 : decode cX1_bestStart 27 = .ok (.iload 6, 2) := by decide +kernel
theorem dX1_bestStart_29 : decode cX1_bestStart 29 = .ok (.invokevirtual 85, 3) := by decide +kernel
theorem dX1_bestStart_32 : decode cX1_bestStart 32 = .ok (.istore 7, 2) := by decide +kernel
theorem dX1_bestStart_34 : decode cX1_bestStart 34 = .ok (.iload 7, 2) := by decide +kernel
theorem dX1_bestStart_36 : decode cX1_bestStart 36 = .ok (.iload 5, 2) := by decide +kernel
theorem dX1_bestStart_38 : decode cX1_bestStart 38 = .ok (.if_icmp .ge 11, 3) := by decide +kernel
theorem dX1_bestStart_41 : decode cX1_bestStart 41 = .ok (.iload 7, 2) := by decide +kernel
theorem dX1_bestStart_43 : decode cX1_bestStart 43 = .ok (.istore 5, 2) := by decide +kernel
theorem dX1_bestStart_45 : decode cX1_bestStart 45 = .ok (.iload 6, 2) := by decide +kernel
theorem dX1_bestStart_47 : decode cX1_bestStart 47 = .ok (.istore 4, 2) := by decide +kernel
theorem dX1_bestStart_49 : decode cX1_bestStart 49 = .ok (.iinc 6 1, 3) := by decide +kernel
theorem dX1_bestStart_52 : decode cX1_bestStart 52 = .ok (.goto (-36), 3) := by decide +kernel
theorem dX1_bestStart_55 : decode cX1_bestStart 55 = .ok (.iload 4, 2) := by decide +kernel
theorem dX1_bestStart_57 : decode cX1_bestStart 57 = .ok (.ireturn, 1) := by decide +kernel
theorem dX2_init_0 : decode cX2_init 0 = .ok (.aload_n 0, 1) := by decide +kernel
theorem dX2_init_1 : decode cX2_init 1 = .ok (.invokespecial 3, 3) := by decide +kernel
theorem dX2_init_4 : decode cX2_init 4 = .ok (.aload_n 0, 1) := by decide +kernel
theorem dX2_init_5 : decode cX2_init 5 = .ok (.bipush 64, 2) := by decide +kernel
theorem dX2_init_7 : decode cX2_init 7 = .ok (.newarray .int, 2) := by decide +kernel
theorem dX2_init_9 : decode cX2_init 9 = .ok (.putfield 9, 3) := by decide +kernel
theorem dX2_init_12 : decode cX2_init 12 = .ok (.aload_n 0, 1) := by decide +kernel
theorem dX2_init_13 : decode cX2_init 13 = .ok (.bipush 64, 2) := by decide +kernel
theorem dX2_init_15 : decode cX2_init 15 = .ok (.newarray .int, 2) := by decide +kernel
theorem dX2_init_17 : decode cX2_init 17 = .ok (.putfield 15, 3) := by decide +kernel
theorem dX2_init_20 : decode cX2_init 20 = .ok (.aload_n 0, 1) := by decide +kernel
theorem dX2_init_21 : decode cX2_init 21 = .ok (.new 18, 3) := by decide +kernel
theorem dX2_init_24 : decode cX2_init 24 = .ok (.dup, 1) := by decide +kernel
theorem dX2_init_25 : decode cX2_init 25 = .ok (.invokespecial 20, 3) := by decide +kernel
theorem dX2_init_28 : decode cX2_init 28 = .ok (.putfield 21, 3) := by decide +kernel
theorem dX2_init_31 : decode cX2_init 31 = .ok (.return_, 1) := by decide +kernel
theorem dX2_decode_0 : decode cX2_decode 0 = .ok (.aload_n 0, 1) := by decide +kernel
theorem dX2_decode_1 : decode cX2_decode 1 = .ok (.getfield 25, 3) := by decide +kernel
theorem dX2_decode_4 : decode cX2_decode 4 = .ok (.ifCond .eq 4, 3) := by decide +kernel
theorem dX2_decode_7 : decode cX2_decode 7 = .ok (.return_, 1) := by decide +kernel
theorem dX2_decode_8 : decode cX2_decode 8 = .ok (.iconst 0, 1) := by decide +kernel
theorem dX2_decode_9 : decode cX2_decode 9 = .ok (.istore_n 2, 1) := by decide +kernel
theorem dX2_decode_10 : decode cX2_decode 10 = .ok (.iload_n 2, 1) := by decide +kernel
theorem dX2_decode_11 : decode cX2_decode 11 = .ok (.aload_n 1, 1) := by decide +kernel
theorem dX2_decode_12 : decode cX2_decode 12 = .ok (.getfield 29, 3) := by decide +kernel
theorem dX2_decode_15 : decode cX2_decode 15 = .ok (.if_icmp .ge 33, 3) := by decide +kernel
theorem dX2_decode_18 : decode cX2_decode 18 = .ok (.aload_n 1, 1) := by decide +kernel
theorem dX2_decode_19 : decode cX2_decode 19 = .ok (.getfield 35, 3) := by decide +kernel
theorem dX2_decode_22 : decode cX2_decode 22 = .ok (.iload_n 2, 1) := by decide +kernel
theorem dX2_decode_23 : decode cX2_decode 23 = .ok (.baload, 1) := by decide +kernel
theorem dX2_decode_24 : decode cX2_decode 24 = .ok (.ifCond .eq 12, 3) := by decide +kernel
theorem dX2_decode_27 : decode cX2_decode 27 = .ok (.aload_n 0, 1) := by decide +kernel
theorem dX2_decode_28 : decode cX2_decode 28 = .ok (.aload_n 1, 1) := by decide +kernel
theorem dX2_decode_29 : decode cX2_decode 29 = .ok (.iload_n 2, 1) := by decide +kernel
theorem dX2_decode_30 : decode cX2_decode 30 = .ok (.invokevirtual 39, 3) := by decide +kernel
theorem dX2_decode_33 : decode cX2_decode 33 = .ok (.goto 9, 3) := by decide +kernel
theorem dX2_decode_36 : decode cX2_decode 36 = .ok (.aload_n 0, 1) := by decide +kernel
theorem dX2_decode_37 : decode cX2_decode 37 = .ok (.aload_n 1, 1) := by decide +kernel
theorem dX2_decode_38 : decode cX2_decode 38 = .ok (.iload_n 2, 1) := by decide +kernel
theorem dX2_decode_39 : decode cX2_decode 39 = .ok (.invokevirtual 43, 3) := by decide +kernel
theorem dX2_decode_42 : decode cX2_decode 42 = .ok (.iinc 2 1, 3) := by decide +kernel
theorem dX2_decode_45 : decode cX2_decode 45 = .ok (.goto (-35), 3) := by decide +kernel
theorem dX2_decode_48 : decode cX2_decode 48 = .ok (.aload_n 0, 1) := by decide +kernel
theorem dX2_decode_49 : decode cX2_decode 49 = .ok (.iconst 1, 1) := by decide +kernel
theorem dX2_decode_50 : decode cX2_decode 50 = .ok (.putfield 25, 3) := by decide +kernel
theorem dX2_decode_53 : decode cX2_decode 53 = .ok (.return_, 1) := by decide +kernel
theorem dX2_decodeBlock_0 : decode cX2_decodeBlock 0 = .ok (.aload_n 1, 1) := by decide +kernel
theorem dX2_decodeBlock_1 : decode cX2_decodeBlock 1 = .ok (.iload_n 2, 1) := by decide +kernel
theorem dX2_decodeBlock_2 : decode cX2_decodeBlock 2 = .ok (.invokevirtual 46, 3) := by decide +kernel
theorem dX2_decodeBlock_5 : decode cX2_decodeBlock 5 = .ok (.istore_n 3, 1) := by decide +kernel
theorem dX2_decodeBlock_6 : decode cX2_decodeBlock 6 = .ok (.aload_n 0, 1) := by decide +kernel
theorem dX2_decodeBlock_7 : decode cX2_decodeBlock 7 = .ok (.getfield 21, 3) := by decide +kernel
theorem dX2_decodeBlock_10 : decode cX2_decodeBlock 10 = .ok (.aload_n 1, 1) := by decide +kernel
theorem dX2_decodeBlock_11 : decode cX2_decodeBlock 11 = .ok (.getfield 50, 3) := by decide +kernel
theorem dX2_decodeBlock_14 : decode cX2_decodeBlock 14 = .ok (.iload_n 2, 1) := by decide +kernel
theorem dX2_decodeBlock_15 : decode cX2_decodeBlock 15 = .ok (.iaload, 1) := by decide +kernel
theorem dX2_decodeBlock_16 : decode cX2_decodeBlock 16 = .ok (.aload_n 1, 1) := by decide +kernel
theorem dX2_decodeBlock_17 : decode cX2_decodeBlock 17 = .ok (.getfield 53, 3) := by decide +kernel
theorem dX2_decodeBlock_20 : decode cX2_decodeBlock 20 = .ok (.iload_n 2, 1) := by decide +kernel
theorem dX2_decodeBlock_21 : decode cX2_decodeBlock 21 = .ok (.iaload, 1) := by decide +kernel
theorem dX2_decodeBlock_22 : decode cX2_decodeBlock 22 = .ok (.invokevirtual 56, 3) := by decide +kernel
theorem dX2_decodeBlock_25 : decode cX2_decodeBlock 25 = .ok (.iload_n 3, 1) := by decide +kernel
theorem dX2_decodeBlock_26 : decode cX2_decodeBlock 26 = .ok (.istore 4, 2) := by decide +kernel
theorem dX2_decodeBlock_28 : decode cX2_decodeBlock 28 = .ok (.iload 4, 2) := by decide +kernel
theorem dX2_decodeBlock_30 : decode cX2_decodeBlock 30 = .ok (.aload_n 1, 1) := by decide +kernel
theorem dX2_decodeBlock_31 : decode cX2_decodeBlock 31 = .ok (.iload_n 2, 1) := by decide +kernel
theorem dX2_decodeBlock_32 : decode cX2_decodeBlock 32 = .ok (.invokevirtual 60, 3) := by decide +kernel
theorem dX2_decodeBlock_35 : decode cX2_decodeBlock 35 = .ok (.if_icmp .ge 57, 3) := by decide +kernel
theorem dX2_decodeBlock_38 : decode cX2_decodeBlock 38 = .ok (.iload 4, 2) := by decide +kernel
theorem dX2_decodeBlock_40 : decode cX2_decodeBlock 40 = .ok (.iload_n 3, 1) := by decide +kernel
theorem dX2_decodeBlock_41 : decode cX2_decodeBlock 41 = .ok (.if_icmp .le 17, 3) := by decide +kernel
theorem dX2_decodeBlock_44 : decode cX2_decodeBlock 44 = .ok (.aload_n 0, 1) := by decide +kernel
theorem dX2_decodeBlock_45 : decode cX2_decodeBlock 45 = .ok (.getfield 21, 3) := by decide +kernel
theorem dX2_decodeBlock_48 : decode cX2_decodeBlock 48 = .ok (.aload_n 1, 1) := by decide +kernel
theorem dX2_decodeBlock_49 : decode cX2_decodeBlock 49 = .ok (.getfield 63, 3) := by decide +kernel
theorem dX2_decodeBlock_52 : decode cX2_decodeBlock 52 = .ok (.iload 4, 2) := by decide +kernel
theorem dX2_decodeBlock_54 : decode cX2_decodeBlock 54 = .ok (.iaload, 1) := by decide +kernel
theorem dX2_decodeBlock_55 : decode cX2_decodeBlock 55 = .ok (.invokevirtual 66, 3) := by decide +kernel
theorem dX2_decodeBlock_58 : decode cX2_decodeBlock 58 = .ok (.aload_n 0, 1) := by decide +kernel
theorem dX2_decodeBlock_59 : decode cX2_decodeBlock 59 = .ok (.getfield 9, 3) := by decide +kernel
theorem dX2_decodeBlock_62 : decode cX2_decodeBlock 62 = .ok (.iload 4, 2) := by decide +kernel
theorem dX2_decodeBlock_64 : decode cX2_decodeBlock 64 = .ok (.aload_n 0, 1) := by decide +kernel
theorem dX2_decodeBlock_65 : decode cX2_decodeBlock 65 = .ok (.getfield 21, 3) := by decide +kernel
theorem dX2_decodeBlock_68 : decode cX2_decodeBlock 68 = .ok (.getfield 70, 3) := by decide +kernel
theorem dX2_decodeBlock_71 : decode cX2_decodeBlock 71 = .ok (.iastore, 1) := by decide +kernel
theorem dX2_decodeBlock_72 : decode cX2_decodeBlock 72 = .ok (.aload_n 0, 1) := by decide +kernel
theorem dX2_decodeBlock_73 : decode cX2_decodeBlock 73 = .ok (.getfield 15, 3) := by decide +kernel
theorem dX2_decodeBlock_76 : decode cX2_decodeBlock 76 = .ok (.iload 4, 2) := by decide +kernel
theorem dX2_decodeBlock_78 : decode cX2_decodeBlock 78 = .ok (.aload_n 0, 1) := by decide +kernel
theorem dX2_decodeBlock_79 : decode cX2_decodeBlock 79 = .ok (.getfield 21, 3) := by decide +kernel
theorem dX2_decodeBlock_82 : decode cX2_decodeBlock 82 = .ok (.getfield 73, 3) := by decide +kernel
theorem dX2_decodeBlock_85 : decode cX2_decodeBlock 85 = .ok (.iastore, 1) := by decide +kernel
theorem dX2_decodeBlock_86 : decode cX2_decodeBlock 86 = .ok (.iinc 4 1, 3) := by decide +kernel
theorem dX2_decodeBlock_89 : decode cX2_decodeBlock 89 = .ok (.goto (-61), 3) := by decide +kernel
theorem dX2_decodeBlock_92 : decode cX2_decodeBlock 92 = .ok (.return_, 1) := by decide +kernel
theorem dX2_fillBlock_0 : decode cX2_fillBlock 0 = .ok (.aload_n 1, 1) := by decide +kernel
theorem dX2_fillBlock_1 : decode cX2_fillBlock 1 = .ok (.iload_n 2, 1) := by decide +kernel
theorem dX2_fillBlock_2 : decode cX2_fillBlock 2 = .ok (.invokevirtual 46, 3) := by decide +kernel
theorem dX2_fillBlock_5 : decode cX2_fillBlock 5 = .ok (.istore_n 3, 1) := by decide +kernel
theorem dX2_fillBlock_6 : decode cX2_fillBlock 6 = .ok (.iload_n 3, 1) := by decide +kernel
theorem dX2_fillBlock_7 : decode cX2_fillBlock 7 = .ok (.aload_n 1, 1) := by decide +kernel
theorem dX2_fillBlock_8 : decode cX2_fillBlock 8 = .ok (.iload_n 2, 1) := by decide +kernel
theorem dX2_fillBlock_9 : decode cX2_fillBlock 9 = .ok (.invokevirtual 60, 3) := by decide +kernel
theorem dX2_fillBlock_12 : decode cX2_fillBlock 12 = .ok (.if_icmp .ge 29, 3) := by decide +kernel
theorem dX2_fillBlock_15 : decode cX2_fillBlock 15 = .ok (.aload_n 0, 1) := by decide +kernel
theorem dX2_fillBlock_16 : decode cX2_fillBlock 16 = .ok (.getfield 9, 3) := by decide +kernel
theorem dX2_fillBlock_19 : decode cX2_fillBlock 19 = .ok (.iload_n 3, 1) := by decide +kernel
theorem dX2_fillBlock_20 : decode cX2_fillBlock 20 = .ok (.aload_n 0, 1) := by decide +kernel
theorem dX2_fillBlock_21 : decode cX2_fillBlock 21 = .ok (.aload_n 1, 1) := by decide +kernel
theorem dX2_fillBlock_22 : decode cX2_fillBlock 22 = .ok (.iload_n 2, 1) := by decide +kernel
theorem dX2_fillBlock_23 : decode cX2_fillBlock 23 = .ok (.iload_n 3, 1) := by decide +kernel
theorem dX2_fillBlock_24 : decode cX2_fillBlock 24 = .ok (.invokevirtual 76, 3) := by decide +kernel
theorem dX2_fillBlock_27 : decode cX2_fillBlock 27 = .ok (.iastore, 1) := by decide +kernel
theorem dX2_fillBlock_28 : decode cX2_fillBlock 28 = .ok (.aload_n 0, 1) := by decide +kernel
theorem dX2_fillBlock_29 : decode cX2_fillBlock 29 = .ok (.getfield 15, 3) := by decide +kernel
theorem dX2_fillBlock_32 : decode cX2_fillBlock 32 = .ok (.iload_n 3, 1) := by decide +kernel
theorem dX2_fillBlock_33 : decode cX2_fillBlock 33 = .ok (.iconst (-1), 1) := by decide +kernel
theorem dX2_fillBlock_34 : decode cX2_fillBlock 34 = .ok (.iastore, 1) := by decide +kernel
theorem dX2_fillBlock_35 : decode cX2_fillBlock 35 = .ok (.iinc 3 1, 3) := by decide +kernel
theorem dX2_fillBlock_38 : decode cX2_fillBlock 38 = .ok (.goto (-32), 3) := by decide +kernel
theorem dX2_fillBlock_41 : decode cX2_fillBlock 41 = .ok (.return_, 1) := by decide +kernel
theorem dX2_fillingOf_0 : decode cX2_fillingOf 0 = .ok (.aload_n 1, 1) := by decide +kernel
theorem dX2_fillingOf_1 : decode cX2_fillingOf 1 = .ok (.getfield 80, 3) := by decide +kernel
theorem dX2_fillingOf_4 : decode cX2_fillingOf 4 = .ok (.iconst 2, 1) := by decide +kernel
theorem dX2_fillingOf_5 : decode cX2_fillingOf 5 = .ok (.iaload, 1) := by decide +kernel
theorem dX2_fillingOf_6 : decode cX2_fillingOf 6 = .ok (.istore 4, 2) := by decide +kernel
theorem dX2_fillingOf_8 : decode cX2_fillingOf 8 = .ok (.iload_n 2, 1) := by decide +kernel
theorem dX2_fillingOf_9 : decode cX2_fillingOf 9 = .ok (.ifCond .eq 9, 3) := by decide +kernel
theorem dX2_fillingOf_12 : decode cX2_fillingOf 12 = .ok (.iload 4, 2) := by decide +kernel
theorem dX2_fillingOf_14 : decode cX2_fillingOf 14 = .ok (.iconst 1, 1) := by decide +kernel
theorem dX2_fillingOf_15 : decode cX2_fillingOf 15 = .ok (.if_icmp .ne 5, 3) := by decide +kernel
theorem dX2_fillingOf_18 : decode cX2_fillingOf 18 = .ok (.iconst 0, 1) := by decide +kernel
theorem dX2_fillingOf_19 : decode cX2_fillingOf 19 = .ok (.ireturn, 1) := by decide +kernel
theorem dX2_fillingOf_20 : decode cX2_fillingOf 20 = .ok (.iload 4, 2) := by decide +kernel
theorem dX2_fillingOf_22 : decode cX2_fillingOf 22 = .ok (.ifCond .ne 16, 3) := by decide +kernel
theorem dX2_fillingOf_25 : decode cX2_fillingOf 25 = .ok (.aload_n 0, 1) := by decide +kernel
theorem dX2_fillingOf_26 : decode cX2_fillingOf 26 = .ok (.getfield 9, 3) := by decide +kernel
theorem dX2_fillingOf_29 : decode cX2_fillingOf 29 = .ok (.aload_n 1, 1) := by decide +kernel
theorem dX2_fillingOf_30 : decode cX2_fillingOf 30 = .ok (.iload_n 2, 1) := by decide +kernel
theorem dX2_fillingOf_31 : decode cX2_fillingOf 31 = .ok (.invokevirtual 46, 3) := by decide +kernel
theorem dX2_fillingOf_34 : decode cX2_fillingOf 34 = .ok (.iconst 1, 1) := by decide +kernel
theorem dX2_fillingOf_35 : decode cX2_fillingOf 35 = .ok (.isub, 1) := by decide +kernel
theorem dX2_fillingOf_36 : decode cX2_fillingOf 36 = .ok (.iaload, 1) := by decide +kernel
theorem dX2_fillingOf_37 : decode cX2_fillingOf 37 = .ok (.ireturn, 1) := by decide +kernel
theorem dX2_fillingOf_38 : decode cX2_fillingOf 38 = .ok (.aload_n 0, 1) := by decide +kernel
theorem dX2_fillingOf_39 : decode cX2_fillingOf 39 = .ok (.getfield 9, 3) := by decide +kernel
theorem dX2_fillingOf_42 : decode cX2_fillingOf 42 = .ok (.iload_n 3, 1) := by decide +kernel
theorem dX2_fillingOf_43 : decode cX2_fillingOf 43 = .ok (.aload_n 1, 1) := by decide +kernel
theorem dX2_fillingOf_44 : decode cX2_fillingOf 44 = .ok (.getfield 80, 3) := by decide +kernel
theorem dX2_fillingOf_47 : decode cX2_fillingOf 47 = .ok (.iconst 0, 1) := by decide +kernel
theorem dX2_fillingOf_48 : decode cX2_fillingOf 48 = .ok (.iaload, 1) := by decide +kernel
theorem dX2_fillingOf_49 : decode cX2_fillingOf 49 = .ok (.isub, 1) := by decide +kernel
theorem dX2_fillingOf_50 : decode cX2_fillingOf 50 = .ok (.iaload, 1) := by decide +kernel
theorem dX2_fillingOf_51 : decode cX2_fillingOf 51 = .ok (.ireturn, 1) := by decide +kernel
theorem dX2_errorOf_0 : decode cX2_errorOf 0 = .ok (.iconst 0, 1) := by decide +kernel
theorem dX2_errorOf_1 : decode cX2_errorOf 1 = .ok (.istore 4, 2) := by decide +kernel
theorem dX2_errorOf_3 : decode cX2_errorOf 3 = .ok (.iload_n 2, 1) := by decide +kernel
theorem dX2_errorOf_4 : decode cX2_errorOf 4 = .ok (.istore 5, 2) := by decide +kernel
theorem dX2_errorOf_6 : decode cX2_errorOf 6 = .ok (.iload 5, 2) := by decide +kernel
theorem dX2_errorOf_8 : decode cX2_errorOf 8 = .ok (.iload_n 3, 1) := by decide +kernel
theorem dX2_errorOf_9 : decode cX2_errorOf 9 = .ok (.if_icmp .ge 36, 3) := by decide +kernel
theorem dX2_errorOf_12 : decode cX2_errorOf 12 = .ok (.aload_n 1, 1) := by decide +kernel
theorem dX2_errorOf_13 : decode cX2_errorOf 13 = .ok (.getfield 83, 3) := by decide +kernel
theorem dX2_errorOf_16 : decode cX2_errorOf 16 = .ok (.iload 5, 2) := by decide +kernel
theorem dX2_errorOf_18 : decode cX2_errorOf 18 = .ok (.iaload, 1) := by decide +kernel
theorem dX2_errorOf_19 : decode cX2_errorOf 19 = .ok (.aload_n 0, 1) := by decide +kernel
theorem dX2_errorOf_20 : decode cX2_errorOf 20 = .ok (.getfield 9, 3) := by decide +kernel
theorem dX2_errorOf_23 : decode cX2_errorOf 23 = .ok (.iload 5, 2) := by decide +kernel
theorem dX2_errorOf_25 : decode cX2_errorOf 25 = .ok (.iaload, 1) := by decide +kernel
theorem dX2_errorOf_26 : decode cX2_errorOf 26 = .ok (.isub, 1) := by decide +kernel
theorem dX2_errorOf_27 : decode cX2_errorOf 27 = .ok (.istore 6, 2) := by decide +kernel
theorem dX2_errorOf_29 : decode cX2_errorOf 29 = .ok (.iload 4, 2) := by decide +kernel
theorem dX2_errorOf_31 : decode cX2_errorOf 31 = .ok (.iload 6, 2) := by decide +kernel
theorem dX2_errorOf_33 : decode cX2_errorOf 33 = .ok (.iload 6, 2) := by decide +kernel
theorem dX2_errorOf_35 : decode cX2_errorOf 35 = .ok (.imul, 1) := by decide +kernel
theorem dX2_errorOf_36 : decode cX2_errorOf 36 = .ok (.iadd, 1) := by decide +kernel
theorem dX2_errorOf_37 : decode cX2_errorOf 37 = .ok (.istore 4, 2) := by decide +kernel
theorem dX2_errorOf_39 : decode cX2_errorOf 39 = .ok (.iinc 5 1, 3) := by decide +kernel
theorem dX2_errorOf_42 : decode cX2_errorOf 42 = .ok (.goto (-36), 3) := by decide +kernel
theorem dX2_errorOf_45 : decode cX2_errorOf 45 = .ok (.iload 4, 2) := by decide +kernel
theorem dX2_errorOf_47 : decode cX2_errorOf 47 = .ok (.ireturn, 1) := by decide +kernel
theorem dX2_greatestDifference_0 : decode cX2_greatestDifference 0 = .ok (.iconst 0, 1) := by decide +kernel
theorem dX2_greatestDifference_1 : decode cX2_greatestDifference 1 = .ok (.istore_n 2, 1) := by decide +kernel
theorem dX2_greatestDifference_2 : decode cX2_greatestDifference 2 = .ok (.iconst 0, 1) := by decide +kernel
theorem dX2_greatestDifference_3 : decode cX2_greatestDifference 3 = .ok (.istore_n 3, 1) := by decide +kernel
theorem dX2_greatestDifference_4 : decode cX2_greatestDifference 4 = .ok (.iload_n 3, 1) := by decide +kernel
theorem dX2_greatestDifference_5 : decode cX2_greatestDifference 5 = .ok (.aload_n 1, 1) := by decide +kernel
theorem dX2_greatestDifference_6 : decode cX2_greatestDifference 6 = .ok (.getfield 86, 3) := by decide +kernel
theorem dX2_greatestDifference_9 : decode cX2_greatestDifference 9 = .ok (.if_icmp .ge 30, 3) := by decide +kernel
theorem dX2_greatestDifference_12 : decode cX2_greatestDifference 12 = .ok (.iload_n 2, 1) := by decide +kernel
theorem dX2_greatestDifference_13 : decode cX2_greatestDifference 13 = .ok (.aload_n 1, 1) := by decide +kernel
theorem dX2_greatestDifference_14 : decode cX2_greatestDifference 14 = .ok (.getfield 83, 3) := by decide +kernel
theorem dX2_greatestDifference_17 : decode cX2_greatestDifference 17 = .ok (.iload_n 3, 1) := by decide +kernel
theorem dX2_greatestDifference_18 : decode cX2_greatestDifference 18 = .ok (.iaload, 1) := by decide +kernel
theorem dX2_greatestDifference_19 : decode cX2_greatestDifference 19 = .ok (.aload_n 0, 1) := by decide +kernel
theorem dX2_greatestDifference_20 : decode cX2_greatestDifference 20 = .ok (.getfield 9, 3) := by decide +kernel
theorem dX2_greatestDifference_23 : decode cX2_greatestDifference 23 = .ok (.iload_n 3, 1) := by decide +kernel
theorem dX2_greatestDifference_24 : decode cX2_greatestDifference 24 = .ok (.iaload, 1) := by decide +kernel
theorem dX2_greatestDifference_25 : decode cX2_greatestDifference 25 = .ok (.isub, 1) := by decide +kernel
theorem dX2_greatestDifference_26 : decode cX2_greatestDifference 26 = .ok (.invokestatic 89, 3) := by decide +kernel
theorem dX2_greatestDifference_29 : decode cX2_greatestDifference 29 = .ok (.invokestatic 94, 3) := by decide +kernel
theorem dX2_greatestDifference_32 : decode cX2_greatestDifference 32 = .ok (.istore_n 2, 1) := by decide +kernel
theorem dX2_greatestDifference_33 : decode cX2_greatestDifference 33 = .ok (.iinc 3 1, 3) := by decide +kernel
theorem dX2_greatestDifference_36 : decode cX2_greatestDifference 36 = .ok (.goto (-32), 3) := by decide +kernel
theorem dX2_greatestDifference_39 : decode cX2_greatestDifference 39 = .ok (.iload_n 2, 1) := by decide +kernel
theorem dX2_greatestDifference_40 : decode cX2_greatestDifference 40 = .ok (.ireturn, 1) := by decide +kernel
theorem dX2_justAsTheyAre_0 : decode cX2_justAsTheyAre 0 = .ok (.iconst 0, 1) := by decide +kernel
theorem dX2_justAsTheyAre_1 : decode cX2_justAsTheyAre 1 = .ok (.istore_n 2, 1) := by decide +kernel
theorem dX2_justAsTheyAre_2 : decode cX2_justAsTheyAre 2 = .ok (.iconst 0, 1) := by decide +kernel
theorem dX2_justAsTheyAre_3 : decode cX2_justAsTheyAre 3 = .ok (.istore_n 3, 1) := by decide +kernel
theorem dX2_justAsTheyAre_4 : decode cX2_justAsTheyAre 4 = .ok (.iload_n 3, 1) := by decide +kernel
theorem dX2_justAsTheyAre_5 : decode cX2_justAsTheyAre 5 = .ok (.aload_n 1, 1) := by decide +kernel
theorem dX2_justAsTheyAre_6 : decode cX2_justAsTheyAre 6 = .ok (.getfield 86, 3) := by decide +kernel
theorem dX2_justAsTheyAre_9 : decode cX2_justAsTheyAre 9 = .ok (.if_icmp .ge 27, 3) := by decide +kernel
theorem dX2_justAsTheyAre_12 : decode cX2_justAsTheyAre 12 = .ok (.aload_n 1, 1) := by decide +kernel
theorem dX2_justAsTheyAre_13 : decode cX2_justAsTheyAre 13 = .ok (.getfield 83, 3) := by decide +kernel
theorem dX2_justAsTheyAre_16 : decode cX2_justAsTheyAre 16 = .ok (.iload_n 3, 1) := by decide +kernel
theorem dX2_justAsTheyAre_17 : decode cX2_justAsTheyAre 17 = .ok (.iaload, 1) := by decide +kernel
theorem dX2_justAsTheyAre_18 : decode cX2_justAsTheyAre 18 = .ok (.aload_n 0, 1) := by decide +kernel
theorem dX2_justAsTheyAre_19 : decode cX2_justAsTheyAre 19 = .ok (.getfield 9, 3) := by decide +kernel
theorem dX2_justAsTheyAre_22 : decode cX2_justAsTheyAre 22 = .ok (.iload_n 3, 1) := by decide +kernel
theorem dX2_justAsTheyAre_23 : decode cX2_justAsTheyAre 23 = .ok (.iaload, 1) := by decide +kernel
theorem dX2_justAsTheyAre_24 : decode cX2_justAsTheyAre 24 = .ok (.if_icmp .ne 6, 3) := by decide +kernel
theorem dX2_justAsTheyAre_27 : decode cX2_justAsTheyAre 27 = .ok (.iinc 2 1, 3) := by decide +kernel
theorem dX2_justAsTheyAre_30 : decode cX2_justAsTheyAre 30 = .ok (.iinc 3 1, 3) := by decide +kernel
theorem dX2_justAsTheyAre_33 : decode cX2_justAsTheyAre 33 = .ok (.goto (-29), 3) := by decide +kernel
theorem dX2_justAsTheyAre_36 : decode cX2_justAsTheyAre 36 = .ok (.iload_n 2, 1) := by decide +kernel
theorem dX2_justAsTheyAre_37 : decode cX2_justAsTheyAre 37 = .ok (.ireturn, 1) := by decide +kernel
theorem dX2_othersThan_0 : decode cX2_othersThan 0 = .ok (.iconst 0, 1) := by decide +kernel
theorem dX2_othersThan_1 : decode cX2_othersThan 1 = .ok (.istore_n 3, 1) := by decide +kernel
theorem dX2_othersThan_2 : decode cX2_othersThan 2 = .ok (.iconst 0, 1) := by decide +kernel
theorem dX2_othersThan_3 : decode cX2_othersThan 3 = .ok (.istore 4, 2) := by decide +kernel
theorem dX2_othersThan_5 : decode cX2_othersThan 5 = .ok (.iload 4, 2) := by decide +kernel
theorem dX2_othersThan_7 : decode cX2_othersThan 7 = .ok (.iload_n 2, 1) := by decide +kernel
theorem dX2_othersThan_8 : decode cX2_othersThan 8 = .ok (.if_icmp .ge 29, 3) := by decide +kernel
theorem dX2_othersThan_11 : decode cX2_othersThan 11 = .ok (.aload_n 0, 1) := by decide +kernel
theorem dX2_othersThan_12 : decode cX2_othersThan 12 = .ok (.getfield 9, 3) := by decide +kernel
theorem dX2_othersThan_15 : decode cX2_othersThan 15 = .ok (.iload 4, 2) := by decide +kernel
theorem dX2_othersThan_17 : decode cX2_othersThan 17 = .ok (.iaload, 1) := by decide +kernel
theorem dX2_othersThan_18 : decode cX2_othersThan 18 = .ok (.aload_n 1, 1) := by decide +kernel
theorem dX2_othersThan_19 : decode cX2_othersThan 19 = .ok (.getfield 9, 3) := by decide +kernel
theorem dX2_othersThan_22 : decode cX2_othersThan 22 = .ok (.iload 4, 2) := by decide +kernel
theorem dX2_othersThan_24 : decode cX2_othersThan 24 = .ok (.iaload, 1) := by decide +kernel
theorem dX2_othersThan_25 : decode cX2_othersThan 25 = .ok (.if_icmp .eq 6, 3) := by decide +kernel
theorem dX2_othersThan_28 : decode cX2_othersThan 28 = .ok (.iinc 3 1, 3) := by decide +kernel
theorem dX2_othersThan_31 : decode cX2_othersThan 31 = .ok (.iinc 4 1, 3) := by decide +kernel
theorem dX2_othersThan_34 : decode cX2_othersThan 34 = .ok (.goto (-29), 3) := by decide +kernel
theorem dX2_othersThan_37 : decode cX2_othersThan 37 = .ok (.iload_n 3, 1) := by decide +kernel
theorem dX2_othersThan_38 : decode cX2_othersThan 38 = .ok (.ireturn, 1) := by decide +kernel
theorem dX3_init_0 : decode cX3_init 0 = .ok (.aload_n 0, 1) := by decide +kernel
theorem dX3_init_1 : decode cX3_init 1 = .ok (.invokespecial 3, 3) := by decide +kernel
theorem dX3_init_4 : decode cX3_init 4 = .ok (.aload_n 0, 1) := by decide +kernel
theorem dX3_init_5 : decode cX3_init 5 = .ok (.bipush 6, 2) := by decide +kernel
theorem dX3_init_7 : decode cX3_init 7 = .ok (.anewarray 9, 3) := by decide +kernel
theorem dX3_init_10 : decode cX3_init 10 = .ok (.dup, 1) := by decide +kernel
theorem dX3_init_11 : decode cX3_init 11 = .ok (.iconst 0, 1) := by decide +kernel
theorem dX3_init_12 : decode cX3_init 12 = .ok (.new 9, 3) := by decide +kernel
theorem dX3_init_15 : decode cX3_init 15 = .ok (.dup, 1) := by decide +kernel
theorem dX3_init_16 : decode cX3_init 16 = .ok (.invokespecial 11, 3) := by decide +kernel
theorem dX3_init_19 : decode cX3_init 19 = .ok (.aastore, 1) := by decide +kernel
theorem dX3_init_20 : decode cX3_init 20 = .ok (.dup, 1) := by decide +kernel
theorem dX3_init_21 : decode cX3_init 21 = .ok (.iconst 1, 1) := by decide +kernel
theorem dX3_init_22 : decode cX3_init 22 = .ok (.new 9, 3) := by decide +kernel
theorem dX3_init_25 : decode cX3_init 25 = .ok (.dup, 1) := by decide +kernel
theorem dX3_init_26 : decode cX3_init 26 = .ok (.invokespecial 11, 3) := by decide +kernel
theorem dX3_init_29 : decode cX3_init 29 = .ok (.aastore, 1) := by decide +kernel
theorem dX3_init_30 : decode cX3_init 30 = .ok (.dup, 1) := by decide +kernel
theorem dX3_init_31 : decode cX3_init 31 = .ok (.iconst 2, 1) := by decide +kernel
theorem dX3_init_32 : decode cX3_init 32 = .ok (.new 9, 3) := by decide +kernel
theorem dX3_init_35 : decode cX3_init 35 = .ok (.dup, 1) := by decide +kernel
theorem dX3_init_36 : decode cX3_init 36 = .ok (.invokespecial 11, 3) := by decide +kernel
theorem dX3_init_39 : decode cX3_init 39 = .ok (.aastore, 1) := by decide +kernel
theorem dX3_init_40 : decode cX3_init 40 = .ok (.dup, 1) := by decide +kernel
theorem dX3_init_41 : decode cX3_init 41 = .ok (.iconst 3, 1) := by decide +kernel
theorem dX3_init_42 : decode cX3_init 42 = .ok (.new 9, 3) := by decide +kernel
theorem dX3_init_45 : decode cX3_init 45 = .ok (.dup, 1) := by decide +kernel
theorem dX3_init_46 : decode cX3_init 46 = .ok (.invokespecial 11, 3) := by decide +kernel
theorem dX3_init_49 : decode cX3_init 49 = .ok (.aastore, 1) := by decide +kernel
theorem dX3_init_50 : decode cX3_init 50 = .ok (.dup, 1) := by decide +kernel
theorem dX3_init_51 : decode cX3_init 51 = .ok (.iconst 4, 1) := by decide +kernel
theorem dX3_init_52 : decode cX3_init 52 = .ok (.new 9, 3) := by decide +kernel
theorem dX3_init_55 : decode cX3_init 55 = .ok (.dup, 1) := by decide +kernel
theorem dX3_init_56 : decode cX3_init 56 = .ok (.invokespecial 11, 3) := by decide +kernel
theorem dX3_init_59 : decode cX3_init 59 = .ok (.aastore, 1) := by decide +kernel
theorem dX3_init_60 : decode cX3_init 60 = .ok (.dup, 1) := by decide +kernel
theorem dX3_init_61 : decode cX3_init 61 = .ok (.iconst 5, 1) := by decide +kernel
theorem dX3_init_62 : decode cX3_init 62 = .ok (.new 9, 3) := by decide +kernel
theorem dX3_init_65 : decode cX3_init 65 = .ok (.dup, 1) := by decide +kernel
theorem dX3_init_66 : decode cX3_init 66 = .ok (.invokespecial 11, 3) := by decide +kernel
theorem dX3_init_69 : decode cX3_init 69 = .ok (.aastore, 1) := by decide +kernel
theorem dX3_init_70 : decode cX3_init 70 = .ok (.putfield 12, 3) := by decide +kernel
theorem dX3_init_73 : decode cX3_init 73 = .ok (.return_, 1) := by decide +kernel
theorem dX3_save_0 : decode cX3_save 0 = .ok (.aload_n 0, 1) := by decide +kernel
theorem dX3_save_1 : decode cX3_save 1 = .ok (.getfield 18, 3) := by decide +kernel
theorem dX3_save_4 : decode cX3_save 4 = .ok (.bipush 6, 2) := by decide +kernel
theorem dX3_save_6 : decode cX3_save 6 = .ok (.if_icmp .ne 7, 3) := by decide +kernel
theorem dX3_save_9 : decode cX3_save 9 = .ok (.aload_n 0, 1) := by decide +kernel
theorem dX3_save_10 : decode cX3_save 10 = .ok (.invokevirtual 22, 3) := by decide +kernel
theorem dX3_save_13 : decode cX3_save 13 = .ok (.aload_n 0, 1) := by decide +kernel
theorem dX3_save_14 : decode cX3_save 14 = .ok (.getfield 12, 3) := by decide +kernel
theorem dX3_save_17 : decode cX3_save 17 = .ok (.aload_n 0, 1) := by decide +kernel
theorem dX3_save_18 : decode cX3_save 18 = .ok (.getfield 18, 3) := by decide +kernel
theorem dX3_save_21 : decode cX3_save 21 = .ok (.aaload, 1) := by decide +kernel
theorem dX3_save_22 : decode cX3_save 22 = .ok (.aload_n 1, 1) := by decide +kernel
theorem dX3_save_23 : decode cX3_save 23 = .ok (.invokevirtual 25, 3) := by decide +kernel
theorem dX3_save_26 : decode cX3_save 26 = .ok (.aload_n 0, 1) := by decide +kernel
theorem dX3_save_27 : decode cX3_save 27 = .ok (.dup, 1) := by decide +kernel
theorem dX3_save_28 : decode cX3_save 28 = .ok (.getfield 18, 3) := by decide +kernel
theorem dX3_save_31 : decode cX3_save 31 = .ok (.iconst 1, 1) := by decide +kernel
theorem dX3_save_32 : decode cX3_save 32 = .ok (.iadd, 1) := by decide +kernel
theorem dX3_save_33 : decode cX3_save 33 = .ok (.putfield 18, 3) := by decide +kernel
theorem dX3_save_36 : decode cX3_save 36 = .ok (.return_, 1) := by decide +kernel
theorem dX3_restore_0 : decode cX3_restore 0 = .ok (.aload_n 0, 1) := by decide +kernel
theorem dX3_restore_1 : decode cX3_restore 1 = .ok (.dup, 1) := by decide +kernel
theorem dX3_restore_2 : decode cX3_restore 2 = .ok (.getfield 18, 3) := by decide +kernel
theorem dX3_restore_5 : decode cX3_restore 5 = .ok (.iconst 1, 1) := by decide +kernel
theorem dX3_restore_6 : decode cX3_restore 6 = .ok (.isub, 1) := by decide +kernel
theorem dX3_restore_7 : decode cX3_restore 7 = .ok (.putfield 18, 3) := by decide +kernel
theorem dX3_restore_10 : decode cX3_restore 10 = .ok (.aload_n 1, 1) := by decide +kernel
theorem dX3_restore_11 : decode cX3_restore 11 = .ok (.aload_n 0, 1) := by decide +kernel
theorem dX3_restore_12 : decode cX3_restore 12 = .ok (.getfield 12, 3) := by decide +kernel
theorem dX3_restore_15 : decode cX3_restore 15 = .ok (.aload_n 0, 1) := by decide +kernel
theorem dX3_restore_16 : decode cX3_restore 16 = .ok (.getfield 18, 3) := by decide +kernel
theorem dX3_restore_19 : decode cX3_restore 19 = .ok (.aaload, 1) := by decide +kernel
theorem dX3_restore_20 : decode cX3_restore 20 = .ok (.invokevirtual 25, 3) := by decide +kernel
theorem dX3_restore_23 : decode cX3_restore 23 = .ok (.return_, 1) := by decide +kernel
theorem dX3_dropOldest_0 : decode cX3_dropOldest 0 = .ok (.aload_n 0, 1) := by decide +kernel
theorem dX3_dropOldest_1 : decode cX3_dropOldest 1 = .ok (.getfield 12, 3) := by decide +kernel
theorem dX3_dropOldest_4 : decode cX3_dropOldest 4 = .ok (.iconst 0, 1) := by decide +kernel
theorem dX3_dropOldest_5 : decode cX3_dropOldest 5 = .ok (.aaload, 1) := by decide +kernel
theorem dX3_dropOldest_6 : decode cX3_dropOldest 6 = .ok (.astore_n 1, 1) := by decide +kernel
theorem dX3_dropOldest_7 : decode cX3_dropOldest 7 = .ok (.iconst 1, 1) := by decide +kernel
theorem dX3_dropOldest_8 : decode cX3_dropOldest 8 = .ok (.istore_n 2, 1) := by decide +kernel
theorem dX3_dropOldest_9 : decode cX3_dropOldest 9 = .ok (.iload_n 2, 1) := by decide +kernel
theorem dX3_dropOldest_10 : decode cX3_dropOldest 10 = .ok (.bipush 6, 2) := by decide +kernel
theorem dX3_dropOldest_12 : decode cX3_dropOldest 12 = .ok (.if_icmp .ge 23, 3) := by decide +kernel
theorem dX3_dropOldest_15 : decode cX3_dropOldest 15 = .ok (.aload_n 0, 1) := by decide +kernel
theorem dX3_dropOldest_16 : decode cX3_dropOldest 16 = .ok (.getfield 12, 3) := by decide +kernel
theorem dX3_dropOldest_19 : decode cX3_dropOldest 19 = .ok (.iload_n 2, 1) := by decide +kernel
theorem dX3_dropOldest_20 : decode cX3_dropOldest 20 = .ok (.iconst 1, 1) := by decide +kernel
theorem dX3_dropOldest_21 : decode cX3_dropOldest 21 = .ok (.isub, 1) := by decide +kernel
theorem dX3_dropOldest_22 : decode cX3_dropOldest 22 = .ok (.aload_n 0, 1) := by decide +kernel
theorem dX3_dropOldest_23 : decode cX3_dropOldest 23 = .ok (.getfield 12, 3) := by decide +kernel
theorem dX3_dropOldest_26 : decode cX3_dropOldest 26 = .ok (.iload_n 2, 1) := by decide +kernel
theorem dX3_dropOldest_27 : decode cX3_dropOldest 27 = .ok (.aaload, 1) := by decide +kernel
theorem dX3_dropOldest_28 : decode cX3_dropOldest 28 = .ok (.aastore, 1) := by decide +kernel
theorem dX3_dropOldest_29 : decode cX3_dropOldest 29 = .ok (.iinc 2 1, 3) := by decide +kernel
theorem dX3_dropOldest_32 : decode cX3_dropOldest 32 = .ok (.goto (-23), 3) := by decide +kernel
theorem dX3_dropOldest_35 : decode cX3_dropOldest 35 = .ok (.aload_n 0, 1) := by decide +kernel
theorem dX3_dropOldest_36 : decode cX3_dropOldest 36 = .ok (.getfield 12, 3) := by decide +kernel
theorem dX3_dropOldest_39 : decode cX3_dropOldest 39 = .ok (.iconst 5, 1) := by decide +kernel
theorem dX3_dropOldest_40 : decode cX3_dropOldest 40 = .ok (.aload_n 1, 1) := by decide +kernel
theorem dX3_dropOldest_41 : decode cX3_dropOldest 41 = .ok (.aastore, 1) := by decide +kernel
theorem dX3_dropOldest_42 : decode cX3_dropOldest 42 = .ok (.aload_n 0, 1) := by decide +kernel
theorem dX3_dropOldest_43 : decode cX3_dropOldest 43 = .ok (.dup, 1) := by decide +kernel
theorem dX3_dropOldest_44 : decode cX3_dropOldest 44 = .ok (.getfield 18, 3) := by decide +kernel
theorem dX3_dropOldest_47 : decode cX3_dropOldest 47 = .ok (.iconst 1, 1) := by decide +kernel
theorem dX3_dropOldest_48 : decode cX3_dropOldest 48 = .ok (.isub, 1) := by decide +kernel
theorem dX3_dropOldest_49 : decode cX3_dropOldest 49 = .ok (.putfield 18, 3) := by decide +kernel
theorem dX3_dropOldest_52 : decode cX3_dropOldest 52 = .ok (.return_, 1) := by decide +kernel
theorem dX4_init_0 : decode cX4_init 0 = .ok (.aload_n 0, 1) := by decide +kernel
theorem dX4_init_1 : decode cX4_init 1 = .ok (.invokespecial 3, 3) := by decide +kernel
theorem dX4_init_4 : decode cX4_init 4 = .ok (.aload_n 0, 1) := by decide +kernel
theorem dX4_init_5 : decode cX4_init 5 = .ok (.bipush 32, 2) := by decide +kernel
theorem dX4_init_7 : decode cX4_init 7 = .ok (.putfield 9, 3) := by decide +kernel
theorem dX4_init_10 : decode cX4_init 10 = .ok (.aload_n 0, 1) := by decide +kernel
theorem dX4_init_11 : decode cX4_init 11 = .ok (.bipush 64, 2) := by decide +kernel
theorem dX4_init_13 : decode cX4_init 13 = .ok (.newarray .int, 2) := by decide +kernel
theorem dX4_init_15 : decode cX4_init 15 = .ok (.putfield 15, 3) := by decide +kernel
theorem dX4_init_18 : decode cX4_init 18 = .ok (.aload_n 0, 1) := by decide +kernel
theorem dX4_init_19 : decode cX4_init 19 = .ok (.iconst 3, 1) := by decide +kernel
theorem dX4_init_20 : decode cX4_init 20 = .ok (.newarray .int, 2) := by decide +kernel
theorem dX4_init_22 : decode cX4_init 22 = .ok (.dup, 1) := by decide +kernel
theorem dX4_init_23 : decode cX4_init 23 = .ok (.iconst 0, 1) := by decide +kernel
theorem dX4_init_24 : decode cX4_init 24 = .ok (.bipush 8, 2) := by decide +kernel
theorem dX4_init_26 : decode cX4_init 26 = .ok (.iastore, 1) := by decide +kernel
theorem dX4_init_27 : decode cX4_init 27 = .ok (.dup, 1) := by decide +kernel
theorem dX4_init_28 : decode cX4_init 28 = .ok (.iconst 1, 1) := by decide +kernel
theorem dX4_init_29 : decode cX4_init 29 = .ok (.iconst 0, 1) := by decide +kernel
theorem dX4_init_30 : decode cX4_init 30 = .ok (.iastore, 1) := by decide +kernel
theorem dX4_init_31 : decode cX4_init 31 = .ok (.dup, 1) := by decide +kernel
theorem dX4_init_32 : decode cX4_init 32 = .ok (.iconst 2, 1) := by decide +kernel
theorem dX4_init_33 : decode cX4_init 33 = .ok (.iconst 0, 1) := by decide +kernel
theorem dX4_init_34 : decode cX4_init 34 = .ok (.iastore, 1) := by decide +kernel
theorem dX4_init_35 : decode cX4_init 35 = .ok (.putfield 19, 3) := by decide +kernel
theorem dX4_init_38 : decode cX4_init 38 = .ok (.aload_n 0, 1) := by decide +kernel
theorem dX4_init_39 : decode cX4_init 39 = .ok (.bipush 32, 2) := by decide +kernel
theorem dX4_init_41 : decode cX4_init 41 = .ok (.newarray .int, 2) := by decide +kernel
theorem dX4_init_43 : decode cX4_init 43 = .ok (.putfield 22, 3) := by decide +kernel
theorem dX4_init_46 : decode cX4_init 46 = .ok (.aload_n 0, 1) := by decide +kernel
theorem dX4_init_47 : decode cX4_init 47 = .ok (.bipush 32, 2) := by decide +kernel
theorem dX4_init_49 : decode cX4_init 49 = .ok (.newarray .int, 2) := by decide +kernel
theorem dX4_init_51 : decode cX4_init 51 = .ok (.putfield 25, 3) := by decide +kernel
theorem dX4_init_54 : decode cX4_init 54 = .ok (.aload_n 0, 1) := by decide +kernel
theorem dX4_init_55 : decode cX4_init 55 = .ok (.bipush 32, 2) := by decide +kernel
theorem dX4_init_57 : decode cX4_init 57 = .ok (.newarray .boolean, 2) := by decide +kernel
theorem dX4_init_59 : decode cX4_init 59 = .ok (.putfield 28, 3) := by decide +kernel
theorem dX4_init_62 : decode cX4_init 62 = .ok (.aload_n 0, 1) := by decide +kernel
theorem dX4_init_63 : decode cX4_init 63 = .ok (.bipush 64, 2) := by decide +kernel
theorem dX4_init_65 : decode cX4_init 65 = .ok (.newarray .int, 2) := by decide +kernel
theorem dX4_init_67 : decode cX4_init 67 = .ok (.putfield 32, 3) := by decide +kernel
theorem dX4_init_70 : decode cX4_init 70 = .ok (.aload_n 0, 1) := by decide +kernel
theorem dX4_init_71 : decode cX4_init 71 = .ok (.bipush 64, 2) := by decide +kernel
theorem dX4_init_73 : decode cX4_init 73 = .ok (.newarray .int, 2) := by decide +kernel
theorem dX4_init_75 : decode cX4_init 75 = .ok (.putfield 35, 3) := by decide +kernel
theorem dX4_init_78 : decode cX4_init 78 = .ok (.return_, 1) := by decide +kernel
theorem dX4_copyFrom_0 : decode cX4_copyFrom 0 = .ok (.aload_n 0, 1) := by decide +kernel
theorem dX4_copyFrom_1 : decode cX4_copyFrom 1 = .ok (.aload_n 1, 1) := by decide +kernel
theorem dX4_copyFrom_2 : decode cX4_copyFrom 2 = .ok (.getfield 9, 3) := by decide +kernel
theorem dX4_copyFrom_5 : decode cX4_copyFrom 5 = .ok (.putfield 9, 3) := by decide +kernel
theorem dX4_copyFrom_8 : decode cX4_copyFrom 8 = .ok (.aload_n 0, 1) := by decide +kernel
theorem dX4_copyFrom_9 : decode cX4_copyFrom 9 = .ok (.aload_n 1, 1) := by decide +kernel
theorem dX4_copyFrom_10 : decode cX4_copyFrom 10 = .ok (.getfield 38, 3) := by decide +kernel
theorem dX4_copyFrom_13 : decode cX4_copyFrom 13 = .ok (.putfield 38, 3) := by decide +kernel
theorem dX4_copyFrom_16 : decode cX4_copyFrom 16 = .ok (.aload_n 0, 1) := by decide +kernel
theorem dX4_copyFrom_17 : decode cX4_copyFrom 17 = .ok (.aload_n 1, 1) := by decide +kernel
theorem dX4_copyFrom_18 : decode cX4_copyFrom 18 = .ok (.getfield 41, 3) := by decide +kernel
theorem dX4_copyFrom_21 : decode cX4_copyFrom 21 = .ok (.putfield 41, 3) := by decide +kernel
theorem dX4_copyFrom_24 : decode cX4_copyFrom 24 = .ok (.aload_n 0, 1) := by decide +kernel
theorem dX4_copyFrom_25 : decode cX4_copyFrom 25 = .ok (.aload_n 1, 1) := by decide +kernel
theorem dX4_copyFrom_26 : decode cX4_copyFrom 26 = .ok (.getfield 44, 3) := by decide +kernel
theorem dX4_copyFrom_29 : decode cX4_copyFrom 29 = .ok (.putfield 44, 3) := by decide +kernel
theorem dX4_copyFrom_32 : decode cX4_copyFrom 32 = .ok (.aload_n 1, 1) := by decide +kernel
theorem dX4_copyFrom_33 : decode cX4_copyFrom 33 = .ok (.getfield 15, 3) := by decide +kernel
theorem dX4_copyFrom_36 : decode cX4_copyFrom 36 = .ok (.aload_n 0, 1) := by decide +kernel
theorem dX4_copyFrom_37 : decode cX4_copyFrom 37 = .ok (.getfield 15, 3) := by decide +kernel
theorem dX4_copyFrom_40 : decode cX4_copyFrom 40 = .ok (.invokestatic 47, 3) := by decide +kernel
theorem dX4_copyFrom_43 : decode cX4_copyFrom 43 = .ok (.aload_n 1, 1) := by decide +kernel
theorem dX4_copyFrom_44 : decode cX4_copyFrom 44 = .ok (.getfield 19, 3) := by decide +kernel
theorem dX4_copyFrom_47 : decode cX4_copyFrom 47 = .ok (.aload_n 0, 1) := by decide +kernel
theorem dX4_copyFrom_48 : decode cX4_copyFrom 48 = .ok (.getfield 19, 3) := by decide +kernel
theorem dX4_copyFrom_51 : decode cX4_copyFrom 51 = .ok (.invokestatic 47, 3) := by decide +kernel
theorem dX4_copyFrom_54 : decode cX4_copyFrom 54 = .ok (.aload_n 1, 1) := by decide +kernel
theorem dX4_copyFrom_55 : decode cX4_copyFrom 55 = .ok (.getfield 22, 3) := by decide +kernel
theorem dX4_copyFrom_58 : decode cX4_copyFrom 58 = .ok (.aload_n 0, 1) := by decide +kernel
theorem dX4_copyFrom_59 : decode cX4_copyFrom 59 = .ok (.getfield 22, 3) := by decide +kernel
theorem dX4_copyFrom_62 : decode cX4_copyFrom 62 = .ok (.invokestatic 47, 3) := by decide +kernel
theorem dX4_copyFrom_65 : decode cX4_copyFrom 65 = .ok (.aload_n 1, 1) := by decide +kernel
theorem dX4_copyFrom_66 : decode cX4_copyFrom 66 = .ok (.getfield 25, 3) := by decide +kernel
theorem dX4_copyFrom_69 : decode cX4_copyFrom 69 = .ok (.aload_n 0, 1) := by decide +kernel
theorem dX4_copyFrom_70 : decode cX4_copyFrom 70 = .ok (.getfield 25, 3) := by decide +kernel
theorem dX4_copyFrom_73 : decode cX4_copyFrom 73 = .ok (.invokestatic 47, 3) := by decide +kernel
theorem dX4_copyFrom_76 : decode cX4_copyFrom 76 = .ok (.aload_n 1, 1) := by decide +kernel
theorem dX4_copyFrom_77 : decode cX4_copyFrom 77 = .ok (.getfield 32, 3) := by decide +kernel
theorem dX4_copyFrom_80 : decode cX4_copyFrom 80 = .ok (.aload_n 0, 1) := by decide +kernel
theorem dX4_copyFrom_81 : decode cX4_copyFrom 81 = .ok (.getfield 32, 3) := by decide +kernel
theorem dX4_copyFrom_84 : decode cX4_copyFrom 84 = .ok (.invokestatic 47, 3) := by decide +kernel
theorem dX4_copyFrom_87 : decode cX4_copyFrom 87 = .ok (.aload_n 1, 1) := by decide +kernel
theorem dX4_copyFrom_88 : decode cX4_copyFrom 88 = .ok (.getfield 35, 3) := by decide +kernel
theorem dX4_copyFrom_91 : decode cX4_copyFrom 91 = .ok (.aload_n 0, 1) := by decide +kernel
theorem dX4_copyFrom_92 : decode cX4_copyFrom 92 = .ok (.getfield 35, 3) := by decide +kernel
theorem dX4_copyFrom_95 : decode cX4_copyFrom 95 = .ok (.invokestatic 47, 3) := by decide +kernel
theorem dX4_copyFrom_98 : decode cX4_copyFrom 98 = .ok (.iconst 0, 1) := by decide +kernel
theorem dX4_copyFrom_99 : decode cX4_copyFrom 99 = .ok (.istore_n 2, 1) := by decide +kernel
theorem dX4_copyFrom_100 : decode cX4_copyFrom 100 = .ok (.iload_n 2, 1) := by decide +kernel
theorem dX4_copyFrom_101 : decode cX4_copyFrom 101 = .ok (.bipush 32, 2) := by decide +kernel
theorem dX4_copyFrom_103 : decode cX4_copyFrom 103 = .ok (.if_icmp .ge 21, 3) := by decide +kernel
theorem dX4_copyFrom_106 : decode cX4_copyFrom 106 = .ok (.aload_n 0, 1) := by decide +kernel
theorem dX4_copyFrom_107 : decode cX4_copyFrom 107 = .ok (.getfield 28, 3) := by decide +kernel
theorem dX4_copyFrom_110 : decode cX4_copyFrom 110 = .ok (.iload_n 2, 1) := by decide +kernel
theorem dX4_copyFrom_111 : decode cX4_copyFrom 111 = .ok (.aload_n 1, 1) := by decide +kernel
theorem dX4_copyFrom_112 : decode cX4_copyFrom 112 = .ok (.getfield 28, 3) := by decide +kernel
theorem dX4_copyFrom_115 : decode cX4_copyFrom 115 = .ok (.iload_n 2, 1) := by decide +kernel
theorem dX4_copyFrom_116 : decode cX4_copyFrom 116 = .ok (.baload, 1) := by decide +kernel
theorem dX4_copyFrom_117 : decode cX4_copyFrom 117 = .ok (.bastore, 1) := by decide +kernel
theorem dX4_copyFrom_118 : decode cX4_copyFrom 118 = .ok (.iinc 2 1, 3) := by decide +kernel
theorem dX4_copyFrom_121 : decode cX4_copyFrom 121 = .ok (.goto (-21), 3) := by decide +kernel
theorem dX4_copyFrom_124 : decode cX4_copyFrom 124 = .ok (.return_, 1) := by decide +kernel
theorem dX4_becomeSilence_0 : decode cX4_becomeSilence 0 = .ok (.aload_n 0, 1) := by decide +kernel
theorem dX4_becomeSilence_1 : decode cX4_becomeSilence 1 = .ok (.iload_n 1, 1) := by decide +kernel
theorem dX4_becomeSilence_2 : decode cX4_becomeSilence 2 = .ok (.putfield 9, 3) := by decide +kernel
theorem dX4_becomeSilence_5 : decode cX4_becomeSilence 5 = .ok (.iconst 0, 1) := by decide +kernel
theorem dX4_becomeSilence_6 : decode cX4_becomeSilence 6 = .ok (.istore_n 2, 1) := by decide +kernel
theorem dX4_becomeSilence_7 : decode cX4_becomeSilence 7 = .ok (.iload_n 2, 1) := by decide +kernel
theorem dX4_becomeSilence_8 : decode cX4_becomeSilence 8 = .ok (.bipush 64, 2) := by decide +kernel
theorem dX4_becomeSilence_10 : decode cX4_becomeSilence 10 = .ok (.if_icmp .ge 16, 3) := by decide +kernel
theorem dX4_becomeSilence_13 : decode cX4_becomeSilence 13 = .ok (.aload_n 0, 1) := by decide +kernel
theorem dX4_becomeSilence_14 : decode cX4_becomeSilence 14 = .ok (.getfield 15, 3) := by decide +kernel
theorem dX4_becomeSilence_17 : decode cX4_becomeSilence 17 = .ok (.iload_n 2, 1) := by decide +kernel
theorem dX4_becomeSilence_18 : decode cX4_becomeSilence 18 = .ok (.iconst 0, 1) := by decide +kernel
theorem dX4_becomeSilence_19 : decode cX4_becomeSilence 19 = .ok (.iastore, 1) := by decide +kernel
theorem dX4_becomeSilence_20 : decode cX4_becomeSilence 20 = .ok (.iinc 2 1, 3) := by decide +kernel
theorem dX4_becomeSilence_23 : decode cX4_becomeSilence 23 = .ok (.goto (-16), 3) := by decide +kernel
theorem dX4_becomeSilence_26 : decode cX4_becomeSilence 26 = .ok (.aload_n 0, 1) := by decide +kernel
theorem dX4_becomeSilence_27 : decode cX4_becomeSilence 27 = .ok (.invokevirtual 51, 3) := by decide +kernel
theorem dX4_becomeSilence_30 : decode cX4_becomeSilence 30 = .ok (.return_, 1) := by decide +kernel
theorem dX4_forgetBlocks_0 : decode cX4_forgetBlocks 0 = .ok (.aload_n 0, 1) := by decide +kernel
theorem dX4_forgetBlocks_1 : decode cX4_forgetBlocks 1 = .ok (.iconst 0, 1) := by decide +kernel
theorem dX4_forgetBlocks_2 : decode cX4_forgetBlocks 2 = .ok (.putfield 38, 3) := by decide +kernel
theorem dX4_forgetBlocks_5 : decode cX4_forgetBlocks 5 = .ok (.return_, 1) := by decide +kernel
theorem dX4_isCoded_0 : decode cX4_isCoded 0 = .ok (.aload_n 0, 1) := by decide +kernel
theorem dX4_isCoded_1 : decode cX4_isCoded 1 = .ok (.getfield 38, 3) := by decide +kernel
theorem dX4_isCoded_4 : decode cX4_isCoded 4 = .ok (.ifCond .le 7, 3) := by decide +kernel
theorem dX4_isCoded_7 : decode cX4_isCoded 7 = .ok (.iconst 1, 1) := by decide +kernel
theorem dX4_isCoded_8 : decode cX4_isCoded 8 = .ok (.goto 4, 3) := by decide +kernel
theorem dX4_isCoded_11 : decode cX4_isCoded 11 = .ok (.iconst 0, 1) := by decide +kernel
theorem dX4_isCoded_12 : decode cX4_isCoded 12 = .ok (.ireturn, 1) := by decide +kernel
theorem dX4_hasSample_0 : decode cX4_hasSample 0 = .ok (.iload_n 1, 1) := by decide +kernel
theorem dX4_hasSample_1 : decode cX4_hasSample 1 = .ok (.ifCond .lt 15, 3) := by decide +kernel
theorem dX4_hasSample_4 : decode cX4_hasSample 4 = .ok (.iload_n 1, 1) := by decide +kernel
theorem dX4_hasSample_5 : decode cX4_hasSample 5 = .ok (.aload_n 0, 1) := by decide +kernel
theorem dX4_hasSample_6 : decode cX4_hasSample 6 = .ok (.getfield 9, 3) := by decide +kernel
theorem dX4_hasSample_9 : decode cX4_hasSample 9 = .ok (.if_icmp .ge 7, 3) := by decide +kernel
theorem dX4_hasSample_12 : decode cX4_hasSample 12 = .ok (.iconst 1, 1) := by decide +kernel
theorem dX4_hasSample_13 : decode cX4_hasSample 13 = .ok (.goto 4, 3) := by decide +kernel
theorem dX4_hasSample_16 : decode cX4_hasSample 16 = .ok (.iconst 0, 1) := by decide +kernel
theorem dX4_hasSample_17 : decode cX4_hasSample 17 = .ok (.ireturn, 1) := by decide +kernel
theorem dX4_hasBlock_0 : decode cX4_hasBlock 0 = .ok (.iload_n 1, 1) := by decide +kernel
theorem dX4_hasBlock_1 : decode cX4_hasBlock 1 = .ok (.ifCond .lt 15, 3) := by decide +kernel
theorem dX4_hasBlock_4 : decode cX4_hasBlock 4 = .ok (.iload_n 1, 1) := by decide +kernel
theorem dX4_hasBlock_5 : decode cX4_hasBlock 5 = .ok (.aload_n 0, 1) := by decide +kernel
theorem dX4_hasBlock_6 : decode cX4_hasBlock 6 = .ok (.getfield 38, 3) := by decide +kernel
theorem dX4_hasBlock_9 : decode cX4_hasBlock 9 = .ok (.if_icmp .ge 7, 3) := by decide +kernel
theorem dX4_hasBlock_12 : decode cX4_hasBlock 12 = .ok (.iconst 1, 1) := by decide +kernel
theorem dX4_hasBlock_13 : decode cX4_hasBlock 13 = .ok (.goto 4, 3) := by decide +kernel
theorem dX4_hasBlock_16 : decode cX4_hasBlock 16 = .ok (.iconst 0, 1) := by decide +kernel
theorem dX4_hasBlock_17 : decode cX4_hasBlock 17 = .ok (.ireturn, 1) := by decide +kernel
theorem dX4_hasCode_0 : decode cX4_hasCode 0 = .ok (.aload_n 0, 1) := by decide +kernel
theorem dX4_hasCode_1 : decode cX4_hasCode 1 = .ok (.invokevirtual 54, 3) := by decide +kernel
theorem dX4_hasCode_4 : decode cX4_hasCode 4 = .ok (.ifCond .eq 25, 3) := by decide +kernel
theorem dX4_hasCode_7 : decode cX4_hasCode 7 = .ok (.aload_n 0, 1) := by decide +kernel
theorem dX4_hasCode_8 : decode cX4_hasCode 8 = .ok (.iload_n 1, 1) := by decide +kernel
theorem dX4_hasCode_9 : decode cX4_hasCode 9 = .ok (.invokevirtual 58, 3) := by decide +kernel
theorem dX4_hasCode_12 : decode cX4_hasCode 12 = .ok (.ifCond .eq 17, 3) := by decide +kernel
theorem dX4_hasCode_15 : decode cX4_hasCode 15 = .ok (.aload_n 0, 1) := by decide +kernel
theorem dX4_hasCode_16 : decode cX4_hasCode 16 = .ok (.getfield 32, 3) := by decide +kernel
theorem dX4_hasCode_19 : decode cX4_hasCode 19 = .ok (.iload_n 1, 1) := by decide +kernel
theorem dX4_hasCode_20 : decode cX4_hasCode 20 = .ok (.iaload, 1) := by decide +kernel
theorem dX4_hasCode_21 : decode cX4_hasCode 21 = .ok (.iconst (-1), 1) := by decide +kernel
theorem dX4_hasCode_22 : decode cX4_hasCode 22 = .ok (.if_icmp .eq 7, 3) := by decide +kernel
theorem dX4_hasCode_25 : decode cX4_hasCode 25 = .ok (.iconst 1, 1) := by decide +kernel
theorem dX4_hasCode_26 : decode cX4_hasCode 26 = .ok (.goto 4, 3) := by decide +kernel
theorem dX4_hasCode_29 : decode cX4_hasCode 29 = .ok (.iconst 0, 1) := by decide +kernel
theorem dX4_hasCode_30 : decode cX4_hasCode 30 = .ok (.ireturn, 1) := by decide +kernel
theorem dX4_startOf_0 : decode cX4_startOf 0 = .ok (.iload_n 1, 1) := by decide +kernel
theorem dX4_startOf_1 : decode cX4_startOf 1 = .ok (.aload_n 0, 1) := by decide +kernel
theorem dX4_startOf_2 : decode cX4_startOf 2 = .ok (.getfield 19, 3) := by decide +kernel
theorem dX4_startOf_5 : decode cX4_startOf 5 = .ok (.iconst 0, 1) := by decide +kernel
theorem dX4_startOf_6 : decode cX4_startOf 6 = .ok (.iaload, 1) := by decide +kernel
theorem dX4_startOf_7 : decode cX4_startOf 7 = .ok (.imul, 1) := by decide +kernel
theorem dX4_startOf_8 : decode cX4_startOf 8 = .ok (.ireturn, 1) := by decide +kernel
theorem dX4_endOf_0 : decode cX4_endOf 0 = .ok (.aload_n 0, 1) := by decide +kernel
theorem dX4_endOf_1 : decode cX4_endOf 1 = .ok (.getfield 9, 3) := by decide +kernel
theorem dX4_endOf_4 : decode cX4_endOf 4 = .ok (.aload_n 0, 1) := by decide +kernel
theorem dX4_endOf_5 : decode cX4_endOf 5 = .ok (.iload_n 1, 1) := by decide +kernel
theorem dX4_endOf_6 : decode cX4_endOf 6 = .ok (.invokevirtual 62, 3) := by decide +kernel
theorem dX4_endOf_9 : decode cX4_endOf 9 = .ok (.aload_n 0, 1) := by decide +kernel
theorem dX4_endOf_10 : decode cX4_endOf 10 = .ok (.getfield 19, 3) := by decide +kernel
theorem dX4_endOf_13 : decode cX4_endOf 13 = .ok (.iconst 0, 1) := by decide +kernel
theorem dX4_endOf_14 : decode cX4_endOf 14 = .ok (.iaload, 1) := by decide +kernel
theorem dX4_endOf_15 : decode cX4_endOf 15 = .ok (.iadd, 1) := by decide +kernel
theorem dX4_endOf_16 : decode cX4_endOf 16 = .ok (.invokestatic 66, 3) := by decide +kernel
theorem dX4_endOf_19 : decode cX4_endOf 19 = .ok (.ireturn, 1) := by decide +kernel
theorem dX4_codesOf_0 : decode cX4_codesOf 0 = .ok (.aload_n 0, 1) := by decide +kernel
theorem dX4_codesOf_1 : decode cX4_codesOf 1 = .ok (.iload_n 1, 1) := by decide +kernel
theorem dX4_codesOf_2 : decode cX4_codesOf 2 = .ok (.invokevirtual 72, 3) := by decide +kernel
theorem dX4_codesOf_5 : decode cX4_codesOf 5 = .ok (.aload_n 0, 1) := by decide +kernel
theorem dX4_codesOf_6 : decode cX4_codesOf 6 = .ok (.iload_n 1, 1) := by decide +kernel
theorem dX4_codesOf_7 : decode cX4_codesOf 7 = .ok (.invokevirtual 62, 3) := by decide +kernel
theorem dX4_codesOf_10 : decode cX4_codesOf 10 = .ok (.isub, 1) := by decide +kernel
theorem dX4_codesOf_11 : decode cX4_codesOf 11 = .ok (.iconst 1, 1) := by decide +kernel
theorem dX4_codesOf_12 : decode cX4_codesOf 12 = .ok (.isub, 1) := by decide +kernel
theorem dX4_codesOf_13 : decode cX4_codesOf 13 = .ok (.ireturn, 1) := by decide +kernel
theorem dX4_lostBlocks_0 : decode cX4_lostBlocks 0 = .ok (.iconst 0, 1) := by decide +kernel
theorem dX4_lostBlocks_1 : decode cX4_lostBlocks 1 = .ok (.istore_n 1, 1) := by decide +kernel
theorem dX4_lostBlocks_2 : decode cX4_lostBlocks 2 = .ok (.iconst 0, 1) := by decide +kernel
theorem dX4_lostBlocks_3 : decode cX4_lostBlocks 3 = .ok (.istore_n 2, 1) := by decide +kernel
theorem dX4_lostBlocks_4 : decode cX4_lostBlocks 4 = .ok (.iload_n 2, 1) := by decide +kernel
theorem dX4_lostBlocks_5 : decode cX4_lostBlocks 5 = .ok (.aload_n 0, 1) := by decide +kernel
theorem dX4_lostBlocks_6 : decode cX4_lostBlocks 6 = .ok (.getfield 38, 3) := by decide +kernel
theorem dX4_lostBlocks_9 : decode cX4_lostBlocks 9 = .ok (.if_icmp .ge 21, 3) := by decide +kernel
theorem dX4_lostBlocks_12 : decode cX4_lostBlocks 12 = .ok (.aload_n 0, 1) := by decide +kernel
theorem dX4_lostBlocks_13 : decode cX4_lostBlocks 13 = .ok (.getfield 28, 3) := by decide +kernel
theorem dX4_lostBlocks_16 : decode cX4_lostBlocks 16 = .ok (.iload_n 2, 1) := by decide +kernel
theorem dX4_lostBlocks_17 : decode cX4_lostBlocks 17 = .ok (.baload, 1) := by decide +kernel
theorem dX4_lostBlocks_18 : decode cX4_lostBlocks 18 = .ok (.ifCond .eq 6, 3) := by decide +kernel
theorem dX4_lostBlocks_21 : decode cX4_lostBlocks 21 = .ok (.iinc 1 1, 3) := by decide +kernel
theorem dX4_lostBlocks_24 : decode cX4_lostBlocks 24 = .ok (.iinc 2 1, 3) := by decide +kernel
theorem dX4_lostBlocks_27 : decode cX4_lostBlocks 27 = .ok (.goto (-23), 3) := by decide +kernel
theorem dX4_lostBlocks_30 : decode cX4_lostBlocks 30 = .ok (.iload_n 1, 1) := by decide +kernel
theorem dX4_lostBlocks_31 : decode cX4_lostBlocks 31 = .ok (.ireturn, 1) := by decide +kernel
theorem dX4_turnOver_0 : decode cX4_turnOver 0 = .ok (.aload_n 0, 1) := by decide +kernel
theorem dX4_turnOver_1 : decode cX4_turnOver 1 = .ok (.getfield 32, 3) := by decide +kernel
theorem dX4_turnOver_4 : decode cX4_turnOver 4 = .ok (.iload_n 1, 1) := by decide +kernel
theorem dX4_turnOver_5 : decode cX4_turnOver 5 = .ok (.dup2, 1) := by decide +kernel
theorem dX4_turnOver_6 : decode cX4_turnOver 6 = .ok (.iaload, 1) := by decide +kernel
theorem dX4_turnOver_7 : decode cX4_turnOver 7 = .ok (.iconst 1, 1) := by decide +kernel
theorem dX4_turnOver_8 : decode cX4_turnOver 8 = .ok (.iload_n 2, 1) := by decide +kernel
theorem dX4_turnOver_9 : decode cX4_turnOver 9 = .ok (.ishl, 1) := by decide +kernel
theorem dX4_turnOver_10 : decode cX4_turnOver 10 = .ok (.ixor, 1) := by decide +kernel
theorem dX4_turnOver_11 : decode cX4_turnOver 11 = .ok (.iastore, 1) := by decide +kernel
theorem dX4_turnOver_12 : decode cX4_turnOver 12 = .ok (.return_, 1) := by decide +kernel
theorem dX4_putBlock_0 : decode cX4_putBlock 0 = .ok (.aload_n 0, 1) := by decide +kernel
theorem dX4_putBlock_1 : decode cX4_putBlock 1 = .ok (.getfield 22, 3) := by decide +kernel
theorem dX4_putBlock_4 : decode cX4_putBlock 4 = .ok (.iload_n 1, 1) := by decide +kernel
theorem dX4_putBlock_5 : decode cX4_putBlock 5 = .ok (.aload_n 2, 1) := by decide +kernel
theorem dX4_putBlock_6 : decode cX4_putBlock 6 = .ok (.getfield 75, 3) := by decide +kernel
theorem dX4_putBlock_9 : decode cX4_putBlock 9 = .ok (.iastore, 1) := by decide +kernel
theorem dX4_putBlock_10 : decode cX4_putBlock 10 = .ok (.aload_n 0, 1) := by decide +kernel
theorem dX4_putBlock_11 : decode cX4_putBlock 11 = .ok (.getfield 25, 3) := by decide +kernel
theorem dX4_putBlock_14 : decode cX4_putBlock 14 = .ok (.iload_n 1, 1) := by decide +kernel
theorem dX4_putBlock_15 : decode cX4_putBlock 15 = .ok (.aload_n 2, 1) := by decide +kernel
theorem dX4_putBlock_16 : decode cX4_putBlock 16 = .ok (.getfield 80, 3) := by decide +kernel
theorem dX4_putBlock_19 : decode cX4_putBlock 19 = .ok (.iastore, 1) := by decide +kernel
theorem dX4_putBlock_20 : decode cX4_putBlock 20 = .ok (.aload_n 0, 1) := by decide +kernel
theorem dX4_putBlock_21 : decode cX4_putBlock 21 = .ok (.getfield 28, 3) := by decide +kernel
theorem dX4_putBlock_24 : decode cX4_putBlock 24 = .ok (.iload_n 1, 1) := by decide +kernel
theorem dX4_putBlock_25 : decode cX4_putBlock 25 = .ok (.iconst 0, 1) := by decide +kernel
theorem dX4_putBlock_26 : decode cX4_putBlock 26 = .ok (.bastore, 1) := by decide +kernel
theorem dX4_putBlock_27 : decode cX4_putBlock 27 = .ok (.aload_n 0, 1) := by decide +kernel
theorem dX4_putBlock_28 : decode cX4_putBlock 28 = .ok (.iload_n 1, 1) := by decide +kernel
theorem dX4_putBlock_29 : decode cX4_putBlock 29 = .ok (.invokevirtual 62, 3) := by decide +kernel
theorem dX4_putBlock_32 : decode cX4_putBlock 32 = .ok (.istore_n 3, 1) := by decide +kernel
theorem dX4_putBlock_33 : decode cX4_putBlock 33 = .ok (.iconst 0, 1) := by decide +kernel
theorem dX4_putBlock_34 : decode cX4_putBlock 34 = .ok (.istore 4, 2) := by decide +kernel
theorem dX4_putBlock_36 : decode cX4_putBlock 36 = .ok (.iload 4, 2) := by decide +kernel
theorem dX4_putBlock_38 : decode cX4_putBlock 38 = .ok (.aload_n 0, 1) := by decide +kernel
theorem dX4_putBlock_39 : decode cX4_putBlock 39 = .ok (.iload_n 1, 1) := by decide +kernel
theorem dX4_putBlock_40 : decode cX4_putBlock 40 = .ok (.invokevirtual 83, 3) := by decide +kernel
theorem dX4_putBlock_43 : decode cX4_putBlock 43 = .ok (.if_icmp .ge 37, 3) := by decide +kernel
theorem dX4_putBlock_46 : decode cX4_putBlock 46 = .ok (.iload 4, 2) := by decide +kernel
theorem dX4_putBlock_48 : decode cX4_putBlock 48 = .ok (.aload_n 2, 1) := by decide +kernel
theorem dX4_putBlock_49 : decode cX4_putBlock 49 = .ok (.getfield 86, 3) := by decide +kernel
theorem dX4_putBlock_52 : decode cX4_putBlock 52 = .ok (.arraylength, 1) := by decide +kernel
theorem dX4_putBlock_53 : decode cX4_putBlock 53 = .ok (.if_icmp .ge 27, 3) := by decide +kernel
theorem dX4_putBlock_56 : decode cX4_putBlock 56 = .ok (.aload_n 0, 1) := by decide +kernel
theorem dX4_putBlock_57 : decode cX4_putBlock 57 = .ok (.getfield 32, 3) := by decide +kernel
theorem dX4_putBlock_60 : decode cX4_putBlock 60 = .ok (.iload_n 3, 1) := by decide +kernel
theorem dX4_putBlock_61 : decode cX4_putBlock 61 = .ok (.iconst 1, 1) := by decide +kernel
theorem dX4_putBlock_62 : decode cX4_putBlock 62 = .ok (.iadd, 1) := by decide +kernel
theorem dX4_putBlock_63 : decode cX4_putBlock 63 = .ok (.iload 4, 2) := by decide +kernel
theorem dX4_putBlock_65 : decode cX4_putBlock 65 = .ok (.iadd, 1) := by decide +kernel
theorem dX4_putBlock_66 : decode cX4_putBlock 66 = .ok (.aload_n 2, 1) := by decide +kernel
theorem dX4_putBlock_67 : decode cX4_putBlock 67 = .ok (.getfield 86, 3) := by decide +kernel
theorem dX4_putBlock_70 : decode cX4_putBlock 70 = .ok (.iload 4, 2) := by decide +kernel
theorem dX4_putBlock_72 : decode cX4_putBlock 72 = .ok (.iaload, 1) := by decide +kernel
theorem dX4_putBlock_73 : decode cX4_putBlock 73 = .ok (.iastore, 1) := by decide +kernel
theorem dX4_putBlock_74 : decode cX4_putBlock 74 = .ok (.iinc 4 1, 3) := by decide +kernel
theorem dX4_putBlock_77 : decode cX4_putBlock 77 = .ok (.goto (-41), 3) := by decide +kernel
theorem dX4_putBlock_80 : decode cX4_putBlock 80 = .ok (.return_, 1) := by decide +kernel
theorem dX5_init_0 : decode cX5_init 0 = .ok (.aload_n 0, 1) := by decide +kernel
theorem dX5_init_1 : decode cX5_init 1 = .ok (.invokespecial 3, 3) := by decide +kernel
theorem dX5_init_4 : decode cX5_init 4 = .ok (.return_, 1) := by decide +kernel
theorem dX5_stepOf_0 : decode cX5_stepOf 0 = .ok (.iload_n 0, 1) := by decide +kernel
theorem dX5_stepOf_1 : decode cX5_stepOf 1 = .ok (.ifCond .lt 19, 3) := by decide +kernel
theorem dX5_stepOf_4 : decode cX5_stepOf 4 = .ok (.iload_n 0, 1) := by decide +kernel
theorem dX5_stepOf_5 : decode cX5_stepOf 5 = .ok (.getstatic 9, 3) := by decide +kernel
theorem dX5_stepOf_8 : decode cX5_stepOf 8 = .ok (.arraylength, 1) := by decide +kernel
theorem dX5_stepOf_9 : decode cX5_stepOf 9 = .ok (.if_icmp .ge 11, 3) := by decide +kernel
theorem dX5_stepOf_12 : decode cX5_stepOf 12 = .ok (.getstatic 9, 3) := by decide +kernel
theorem dX5_stepOf_15 : decode cX5_stepOf 15 = .ok (.iload_n 0, 1) := by decide +kernel
theorem dX5_stepOf_16 : decode cX5_stepOf 16 = .ok (.iaload, 1) := by decide +kernel
theorem dX5_stepOf_17 : decode cX5_stepOf 17 = .ok (.goto 4, 3) := by decide +kernel
theorem dX5_stepOf_20 : decode cX5_stepOf 20 = .ok (.iconst 0, 1) := by decide +kernel
theorem dX5_stepOf_21 : decode cX5_stepOf 21 = .ok (.ireturn, 1) := by decide +kernel
theorem dX5_begin_0 : decode cX5_begin 0 = .ok (.aload_n 0, 1) := by decide +kernel
theorem dX5_begin_1 : decode cX5_begin 1 = .ok (.iload_n 1, 1) := by decide +kernel
theorem dX5_begin_2 : decode cX5_begin 2 = .ok (.putfield 15, 3) := by decide +kernel
theorem dX5_begin_5 : decode cX5_begin 5 = .ok (.aload_n 0, 1) := by decide +kernel
theorem dX5_begin_6 : decode cX5_begin 6 = .ok (.iload_n 2, 1) := by decide +kernel
theorem dX5_begin_7 : decode cX5_begin 7 = .ok (.putfield 19, 3) := by decide +kernel
theorem dX5_begin_10 : decode cX5_begin 10 = .ok (.return_, 1) := by decide +kernel
theorem dX5_codeTowards_0 : decode cX5_codeTowards 0 = .ok (.aload_n 0, 1) := by decide +kernel
theorem dX5_codeTowards_1 : decode cX5_codeTowards 1 = .ok (.getfield 19, 3) := by decide +kernel
theorem dX5_codeTowards_4 : decode cX5_codeTowards 4 = .ok (.invokestatic 22, 3) := by decide +kernel
theorem dX5_codeTowards_7 : decode cX5_codeTowards 7 = .ok (.istore_n 2, 1) := by decide +kernel
theorem dX5_codeTowards_8 : decode cX5_codeTowards 8 = .ok (.iload_n 1, 1) := by decide +kernel
theorem dX5_codeTowards_9 : decode cX5_codeTowards 9 = .ok (.aload_n 0, 1) := by decide +kernel
theorem dX5_codeTowards_10 : decode cX5_codeTowards 10 = .ok (.getfield 15, 3) := by decide +kernel
theorem dX5_codeTowards_13 : decode cX5_codeTowards 13 = .ok (.isub, 1) := by decide +kernel
theorem dX5_codeTowards_14 : decode cX5_codeTowards 14 = .ok (.invokestatic 26, 3) := by decide +kernel
theorem dX5_codeTowards_17 : decode cX5_codeTowards 17 = .ok (.istore_n 3, 1) := by decide +kernel
theorem dX5_codeTowards_18 : decode cX5_codeTowards 18 = .ok (.iload_n 1, 1) := by decide +kernel
theorem dX5_codeTowards_19 : decode cX5_codeTowards 19 = .ok (.aload_n 0, 1) := by decide +kernel
theorem dX5_codeTowards_20 : decode cX5_codeTowards 20 = .ok (.getfield 15, 3) := by decide +kernel
theorem dX5_codeTowards_23 : decode cX5_codeTowards 23 = .ok (.if_icmp .ge 8, 3) := by decide +kernel
theorem dX5_codeTowards_26 : decode cX5_codeTowards 26 = .ok (.bipush 8, 2) := by decide +kernel
theorem dX5_codeTowards_28 : decode cX5_codeTowards 28 = .ok (.goto 4, 3) := by decide +kernel
theorem dX5_codeTowards_31 : decode cX5_codeTowards 31 = .ok (.iconst 0, 1) := by decide +kernel
theorem dX5_codeTowards_32 : decode cX5_codeTowards 32 = .ok (.istore 4, 2) := by decide +kernel
theorem dX5_codeTowards_34 : decode cX5_codeTowards 34 = .ok (.iload_n 3, 1) := by decide +kernel
theorem dX5_codeTowards_35 : decode cX5_codeTowards 35 = .ok (.iload_n 2, 1) := by decide +kernel
theorem dX5_codeTowards_36 : decode cX5_codeTowards 36 = .ok (.if_icmp .lt 13, 3) := by decide +kernel
theorem dX5_codeTowards_39 : decode cX5_codeTowards 39 = .ok (.iload 4, 2) := by decide +kernel
theorem dX5_codeTowards_41 : decode cX5_codeTowards 41 = .ok (.iconst 4, 1) := by decide +kernel
theorem dX5_codeTowards_42 : decode cX5_codeTowards 42 = .ok (.ior, 1) := by decide +kernel
theorem dX5_codeTowards_43 : decode cX5_codeTowards 43 = .ok (.istore 4, 2) := by decide +kernel
theorem dX5_codeTowards_45 : decode cX5_codeTowards 45 = .ok (.iload_n 3, 1) := by decide +kernel
theorem dX5_codeTowards_46 : decode cX5_codeTowards 46 = .ok (.iload_n 2, 1) := by decide +kernel
theorem dX5_codeTowards_47 : decode cX5_codeTowards 47 = .ok (.isub, 1) := by decide +kernel
theorem dX5_codeTowards_48 : decode cX5_codeTowards 48 = .ok (.istore_n 3, 1) := by decide +kernel
theorem dX5_codeTowards_49 : decode cX5_codeTowards 49 = .ok (.iload_n 3, 1) := by decide +kernel
theorem dX5_codeTowards_50 : decode cX5_codeTowards 50 = .ok (.iload_n 2, 1) := by decide +kernel
theorem dX5_codeTowards_51 : decode cX5_codeTowards 51 = .ok (.iconst 2, 1) := by decide +kernel
theorem dX5_codeTowards_52 : decode cX5_codeTowards 52 = .ok (.idiv, 1) := by decide +kernel
theorem dX5_codeTowards_53 : decode cX5_codeTowards 53 = .ok (.if_icmp .lt 15, 3) := by decide +kernel
theorem dX5_codeTowards_56 : decode cX5_codeTowards 56 = .ok (.iload 4, 2) := by decide +kernel
theorem dX5_codeTowards_58 : decode cX5_codeTowards 58 = .ok (.iconst 2, 1) := by decide +kernel
theorem dX5_codeTowards_59 : decode cX5_codeTowards 59 = .ok (.ior, 1) := by decide +kernel
theorem dX5_codeTowards_60 : decode cX5_codeTowards 60 = .ok (.istore 4, 2) := by decide +kernel
theorem dX5_codeTowards_62 : decode cX5_codeTowards 62 = .ok (.iload_n 3, 1) := by decide +kernel
theorem dX5_codeTowards_63 : decode cX5_codeTowards 63 = .ok (.iload_n 2, 1) := by decide +kernel
theorem dX5_codeTowards_64 : decode cX5_codeTowards 64 = .ok (.iconst 2, 1) := by decide +kernel
theorem dX5_codeTowards_65 : decode cX5_codeTowards 65 = .ok (.idiv, 1) := by decide +kernel
theorem dX5_codeTowards_66 : decode cX5_codeTowards 66 = .ok (.isub, 1) := by decide +kernel
theorem dX5_codeTowards_67 : decode cX5_codeTowards 67 = .ok (.istore_n 3, 1) := by decide +kernel
theorem dX5_codeTowards_68 : decode cX5_codeTowards 68 = .ok (.iload_n 3, 1) := by decide +kernel
theorem dX5_codeTowards_69 : decode cX5_codeTowards 69 = .ok (.iload_n 2, 1) := by decide +kernel
theorem dX5_codeTowards_70 : decode cX5_codeTowards 70 = .ok (.iconst 4, 1) := by decide +kernel
theorem dX5_codeTowards_71 : decode cX5_codeTowards 71 = .ok (.idiv, 1) := by decide +kernel
theorem dX5_codeTowards_72 : decode cX5_codeTowards 72 = .ok (.if_icmp .lt 9, 3) := by decide +kernel
theorem dX5_codeTowards_75 : decode cX5_codeTowards 75 = .ok (.iload 4, 2) := by decide +kernel
theorem dX5_codeTowards_77 : decode cX5_codeTowards 77 = .ok (.iconst 1, 1) := by decide +kernel
theorem dX5_codeTowards_78 : decode cX5_codeTowards 78 = .ok (.ior, 1) := by decide +kernel
theorem dX5_codeTowards_79 : decode cX5_codeTowards 79 = .ok (.istore 4, 2) := by decide +kernel
theorem dX5_codeTowards_81 : decode cX5_codeTowards 81 = .ok (.iload 4, 2) := by decide +kernel
theorem dX5_codeTowards_83 : decode cX5_codeTowards 83 = .ok (.ireturn, 1) := by decide +kernel
theorem dX5_follow_0 : decode cX5_follow 0 = .ok (.aload_n 0, 1) := by decide +kernel
theorem dX5_follow_1 : decode cX5_follow 1 = .ok (.getfield 19, 3) := by decide +kernel
theorem dX5_follow_4 : decode cX5_follow 4 = .ok (.invokestatic 22, 3) := by decide +kernel
theorem dX5_follow_7 : decode cX5_follow 7 = .ok (.iload_n 1, 1) := by decide +kernel
theorem dX5_follow_8 : decode cX5_follow 8 = .ok (.invokestatic 31, 3) := by decide +kernel
theorem dX5_follow_11 : decode cX5_follow 11 = .ok (.istore_n 2, 1) := by decide +kernel
theorem dX5_follow_12 : decode cX5_follow 12 = .ok (.aload_n 0, 1) := by decide +kernel
theorem dX5_follow_13 : decode cX5_follow 13 = .ok (.iload_n 1, 1) := by decide +kernel
theorem dX5_follow_14 : decode cX5_follow 14 = .ok (.bipush 8, 2) := by decide +kernel
theorem dX5_follow_16 : decode cX5_follow 16 = .ok (.iand, 1) := by decide +kernel
theorem dX5_follow_17 : decode cX5_follow 17 = .ok (.ifCond .eq 12, 3) := by decide +kernel
theorem dX5_follow_20 : decode cX5_follow 20 = .ok (.aload_n 0, 1) := by decide +kernel
theorem dX5_follow_21 : decode cX5_follow 21 = .ok (.getfield 15, 3) := by decide +kernel
theorem dX5_follow_24 : decode cX5_follow 24 = .ok (.iload_n 2, 1) := by decide +kernel
theorem dX5_follow_25 : decode cX5_follow 25 = .ok (.isub, 1) := by decide +kernel
theorem dX5_follow_26 : decode cX5_follow 26 = .ok (.goto 9, 3) := by decide +kernel
theorem dX5_follow_29 : decode cX5_follow 29 = .ok (.aload_n 0, 1) := by decide +kernel
theorem dX5_follow_30 : decode cX5_follow 30 = .ok (.getfield 15, 3) := by decide +kernel
theorem dX5_follow_33 : decode cX5_follow 33 = .ok (.iload_n 2, 1) := by decide +kernel
theorem dX5_follow_34 : decode cX5_follow 34 = .ok (.iadd, 1) := by decide +kernel
theorem dX5_follow_35 : decode cX5_follow 35 = .ok (.invokestatic 35, 3) := by decide +kernel
theorem dX5_follow_38 : decode cX5_follow 38 = .ok (.putfield 15, 3) := by decide +kernel
theorem dX5_follow_41 : decode cX5_follow 41 = .ok (.iload_n 1, 1) := by decide +kernel
theorem dX5_follow_42 : decode cX5_follow 42 = .ok (.bipush 7, 2) := by decide +kernel
theorem dX5_follow_44 : decode cX5_follow 44 = .ok (.iand, 1) := by decide +kernel
theorem dX5_follow_45 : decode cX5_follow 45 = .ok (.istore_n 3, 1) := by decide +kernel
theorem dX5_follow_46 : decode cX5_follow 46 = .ok (.iload_n 3, 1) := by decide +kernel
theorem dX5_follow_47 : decode cX5_follow 47 = .ok (.iconst 4, 1) := by decide +kernel
theorem dX5_follow_48 : decode cX5_follow 48 = .ok (.if_icmp .ge 12, 3) := by decide +kernel
theorem dX5_follow_51 : decode cX5_follow 51 = .ok (.aload_n 0, 1) := by decide +kernel
theorem dX5_follow_52 : decode cX5_follow 52 = .ok (.getfield 19, 3) := by decide +kernel
theorem dX5_follow_55 : decode cX5_follow 55 = .ok (.iconst 1, 1) := by decide +kernel
theorem dX5_follow_56 : decode cX5_follow 56 = .ok (.isub, 1) := by decide +kernel
theorem dX5_follow_57 : decode cX5_follow 57 = .ok (.goto 15, 3) := by decide +kernel
theorem dX5_follow_60 : decode cX5_follow 60 = .ok (.aload_n 0, 1) := by decide +kernel
theorem dX5_follow_61 : decode cX5_follow 61 = .ok (.getfield 19, 3) := by decide +kernel
theorem dX5_follow_64 : decode cX5_follow 64 = .ok (.iconst 2, 1) := by decide +kernel
theorem dX5_follow_65 : decode cX5_follow 65 = .ok (.iload_n 3, 1) := by decide +kernel
theorem dX5_follow_66 : decode cX5_follow 66 = .ok (.iconst 4, 1) := by decide +kernel
theorem dX5_follow_67 : decode cX5_follow 67 = .ok (.isub, 1) := by decide +kernel
theorem dX5_follow_68 : decode cX5_follow 68 = .ok (.iconst 1, 1) := by decide +kernel
theorem dX5_follow_69 : decode cX5_follow 69 = .ok (.iadd, 1) := by decide +kernel
theorem dX5_follow_70 : decode cX5_follow 70 = .ok (.imul, 1) := by decide +kernel
theorem dX5_follow_71 : decode cX5_follow 71 = .ok (.iadd, 1) := by decide +kernel
theorem dX5_follow_72 : decode cX5_follow 72 = .ok (.istore 4, 2) := by decide +kernel
theorem dX5_follow_74 : decode cX5_follow 74 = .ok (.aload_n 0, 1) := by decide +kernel
theorem dX5_follow_75 : decode cX5_follow 75 = .ok (.iconst 0, 1) := by decide +kernel
theorem dX5_follow_76 : decode cX5_follow 76 = .ok (.bipush 48, 2) := by decide +kernel
theorem dX5_follow_78 : decode cX5_follow 78 = .ok (.iload 4, 2) := by decide +kernel
theorem dX5_follow_80 : decode cX5_follow 80 = .ok (.invokestatic 38, 3) := by decide +kernel
theorem dX5_follow_83 : decode cX5_follow 83 = .ok (.invokestatic 41, 3) := by decide +kernel
theorem dX5_follow_86 : decode cX5_follow 86 = .ok (.putfield 19, 3) := by decide +kernel
theorem dX5_follow_89 : decode cX5_follow 89 = .ok (.return_, 1) := by decide +kernel
theorem dX5_changeBy_0 : decode cX5_changeBy 0 = .ok (.iload_n 0, 1) := by decide +kernel
theorem dX5_changeBy_1 : decode cX5_changeBy 1 = .ok (.bipush 8, 2) := by decide +kernel
theorem dX5_changeBy_3 : decode cX5_changeBy 3 = .ok (.idiv, 1) := by decide +kernel
theorem dX5_changeBy_4 : decode cX5_changeBy 4 = .ok (.istore_n 2, 1) := by decide +kernel
theorem dX5_changeBy_5 : decode cX5_changeBy 5 = .ok (.iload_n 1, 1) := by decide +kernel
theorem dX5_changeBy_6 : decode cX5_changeBy 6 = .ok (.iconst 4, 1) := by decide +kernel
theorem dX5_changeBy_7 : decode cX5_changeBy 7 = .ok (.iand, 1) := by decide +kernel
theorem dX5_changeBy_8 : decode cX5_changeBy 8 = .ok (.ifCond .eq 7, 3) := by decide +kernel
theorem dX5_changeBy_11 : decode cX5_changeBy 11 = .ok (.iload_n 2, 1) := by decide +kernel
theorem dX5_changeBy_12 : decode cX5_changeBy 12 = .ok (.iload_n 0, 1) := by decide +kernel
theorem dX5_changeBy_13 : decode cX5_changeBy 13 = .ok (.iadd, 1) := by decide +kernel
theorem dX5_changeBy_14 : decode cX5_changeBy 14 = .ok (.istore_n 2, 1) := by decide +kernel
theorem dX5_changeBy_15 : decode cX5_changeBy 15 = .ok (.iload_n 1, 1) := by decide +kernel
theorem dX5_changeBy_16 : decode cX5_changeBy 16 = .ok (.iconst 2, 1) := by decide +kernel
theorem dX5_changeBy_17 : decode cX5_changeBy 17 = .ok (.iand, 1) := by decide +kernel
theorem dX5_changeBy_18 : decode cX5_changeBy 18 = .ok (.ifCond .eq 9, 3) := by decide +kernel
theorem dX5_changeBy_21 : decode cX5_changeBy 21 = .ok (.iload_n 2, 1) := by decide +kernel
theorem dX5_changeBy_22 : decode cX5_changeBy 22 = .ok (.iload_n 0, 1) := by decide +kernel
theorem dX5_changeBy_23 : decode cX5_changeBy 23 = .ok (.iconst 2, 1) := by decide +kernel
theorem dX5_changeBy_24 : decode cX5_changeBy 24 = .ok (.idiv, 1) := by decide +kernel
theorem dX5_changeBy_25 : decode cX5_changeBy 25 = .ok (.iadd, 1) := by decide +kernel
theorem dX5_changeBy_26 : decode cX5_changeBy 26 = .ok (.istore_n 2, 1) := by decide +kernel
theorem dX5_changeBy_27 : decode cX5_changeBy 27 = .ok (.iload_n 1, 1) := by decide +kernel
theorem dX5_changeBy_28 : decode cX5_changeBy 28 = .ok (.iconst 1, 1) := by decide +kernel
theorem dX5_changeBy_29 : decode cX5_changeBy 29 = .ok (.iand, 1) := by decide +kernel
theorem dX5_changeBy_30 : decode cX5_changeBy 30 = .ok (.ifCond .eq 9, 3) := by decide +kernel
theorem dX5_changeBy_33 : decode cX5_changeBy 33 = .ok (.iload_n 2, 1) := by decide +kernel
theorem dX5_changeBy_34 : decode cX5_changeBy 34 = .ok (.iload_n 0, 1) := by decide +kernel
theorem dX5_changeBy_35 : decode cX5_changeBy 35 = .ok (.iconst 4, 1) := by decide +kernel
theorem dX5_changeBy_36 : decode cX5_changeBy 36 = .ok (.idiv, 1) := by decide +kernel
theorem dX5_changeBy_37 : decode cX5_changeBy 37 = .ok (.iadd, 1) := by decide +kernel
theorem dX5_changeBy_38 : decode cX5_changeBy 38 = .ok (.istore_n 2, 1) := by decide +kernel
theorem dX5_changeBy_39 : decode cX5_changeBy 39 = .ok (.iload_n 2, 1) := by decide +kernel
theorem dX5_changeBy_40 : decode cX5_changeBy 40 = .ok (.ireturn, 1) := by decide +kernel
theorem dX6_init_0 : decode cX6_init 0 = .ok (.aload_n 0, 1) := by decide +kernel
theorem dX6_init_1 : decode cX6_init 1 = .ok (.invokespecial 3, 3) := by decide +kernel
theorem dX6_init_4 : decode cX6_init 4 = .ok (.aload_n 0, 1) := by decide +kernel
theorem dX6_init_5 : decode cX6_init 5 = .ok (.new 9, 3) := by decide +kernel
theorem dX6_init_8 : decode cX6_init 8 = .ok (.dup, 1) := by decide +kernel
theorem dX6_init_9 : decode cX6_init 9 = .ok (.invokespecial 11, 3) := by decide +kernel
theorem dX6_init_12 : decode cX6_init 12 = .ok (.putfield 12, 3) := by decide +kernel
theorem dX6_init_15 : decode cX6_init 15 = .ok (.aload_n 0, 1) := by decide +kernel
theorem dX6_init_16 : decode cX6_init 16 = .ok (.new 16, 3) := by decide +kernel
theorem dX6_init_19 : decode cX6_init 19 = .ok (.dup, 1) := by decide +kernel
theorem dX6_init_20 : decode cX6_init 20 = .ok (.invokespecial 18, 3) := by decide +kernel
theorem dX6_init_23 : decode cX6_init 23 = .ok (.putfield 19, 3) := by decide +kernel
theorem dX6_init_26 : decode cX6_init 26 = .ok (.aload_n 0, 1) := by decide +kernel
theorem dX6_init_27 : decode cX6_init 27 = .ok (.iconst 2, 1) := by decide +kernel
theorem dX6_init_28 : decode cX6_init 28 = .ok (.anewarray 9, 3) := by decide +kernel
theorem dX6_init_31 : decode cX6_init 31 = .ok (.dup, 1) := by decide +kernel
theorem dX6_init_32 : decode cX6_init 32 = .ok (.iconst 0, 1) := by decide +kernel
theorem dX6_init_33 : decode cX6_init 33 = .ok (.new 9, 3) := by decide +kernel
theorem dX6_init_36 : decode cX6_init 36 = .ok (.dup, 1) := by decide +kernel
theorem dX6_init_37 : decode cX6_init 37 = .ok (.invokespecial 11, 3) := by decide +kernel
theorem dX6_init_40 : decode cX6_init 40 = .ok (.aastore, 1) := by decide +kernel
theorem dX6_init_41 : decode cX6_init 41 = .ok (.dup, 1) := by decide +kernel
theorem dX6_init_42 : decode cX6_init 42 = .ok (.iconst 1, 1) := by decide +kernel
theorem dX6_init_43 : decode cX6_init 43 = .ok (.new 9, 3) := by decide +kernel
theorem dX6_init_46 : decode cX6_init 46 = .ok (.dup, 1) := by decide +kernel
theorem dX6_init_47 : decode cX6_init 47 = .ok (.invokespecial 11, 3) := by decide +kernel
theorem dX6_init_50 : decode cX6_init 50 = .ok (.aastore, 1) := by decide +kernel
theorem dX6_init_51 : decode cX6_init 51 = .ok (.putfield 23, 3) := by decide +kernel
theorem dX6_init_54 : decode cX6_init 54 = .ok (.aload_n 0, 1) := by decide +kernel
theorem dX6_init_55 : decode cX6_init 55 = .ok (.iconst 2, 1) := by decide +kernel
theorem dX6_init_56 : decode cX6_init 56 = .ok (.newarray .boolean, 2) := by decide +kernel
theorem dX6_init_58 : decode cX6_init 58 = .ok (.putfield 27, 3) := by decide +kernel
theorem dX6_init_61 : decode cX6_init 61 = .ok (.aload_n 0, 1) := by decide +kernel
theorem dX6_init_62 : decode cX6_init 62 = .ok (.new 31, 3) := by decide +kernel
theorem dX6_init_65 : decode cX6_init 65 = .ok (.dup, 1) := by decide +kernel
theorem dX6_init_66 : decode cX6_init 66 = .ok (.invokespecial 33, 3) := by decide +kernel
theorem dX6_init_69 : decode cX6_init 69 = .ok (.putfield 34, 3) := by decide +kernel
theorem dX6_init_72 : decode cX6_init 72 = .ok (.aload_n 0, 1) := by decide +kernel
theorem dX6_init_73 : decode cX6_init 73 = .ok (.new 38, 3) := by decide +kernel
theorem dX6_init_76 : decode cX6_init 76 = .ok (.dup, 1) := by decide +kernel
theorem dX6_init_77 : decode cX6_init 77 = .ok (.invokespecial 40, 3) := by decide +kernel
theorem dX6_init_80 : decode cX6_init 80 = .ok (.putfield 41, 3) := by decide +kernel
theorem dX6_init_83 : decode cX6_init 83 = .ok (.aload_n 0, 1) := by decide +kernel
theorem dX6_init_84 : decode cX6_init 84 = .ok (.new 45, 3) := by decide +kernel
theorem dX6_init_87 : decode cX6_init 87 = .ok (.dup, 1) := by decide +kernel
theorem dX6_init_88 : decode cX6_init 88 = .ok (.invokespecial 47, 3) := by decide +kernel
theorem dX6_init_91 : decode cX6_init 91 = .ok (.putfield 48, 3) := by decide +kernel
theorem dX6_init_94 : decode cX6_init 94 = .ok (.aload_n 0, 1) := by decide +kernel
theorem dX6_init_95 : decode cX6_init 95 = .ok (.new 45, 3) := by decide +kernel
theorem dX6_init_98 : decode cX6_init 98 = .ok (.dup, 1) := by decide +kernel
theorem dX6_init_99 : decode cX6_init 99 = .ok (.invokespecial 47, 3) := by decide +kernel
theorem dX6_init_102 : decode cX6_init 102 = .ok (.putfield 52, 3) := by decide +kernel
theorem dX6_init_105 : decode cX6_init 105 = .ok (.aload_n 0, 1) := by decide +kernel
theorem dX6_init_106 : decode cX6_init 106 = .ok (.new 55, 3) := by decide +kernel
theorem dX6_init_109 : decode cX6_init 109 = .ok (.dup, 1) := by decide +kernel
theorem dX6_init_110 : decode cX6_init 110 = .ok (.invokespecial 57, 3) := by decide +kernel
theorem dX6_init_113 : decode cX6_init 113 = .ok (.putfield 58, 3) := by decide +kernel
theorem dX6_init_116 : decode cX6_init 116 = .ok (.return_, 1) := by decide +kernel
theorem dX6_wave_0 : decode cX6_wave 0 = .ok (.iload_n 1, 1) := by decide +kernel
theorem dX6_wave_1 : decode cX6_wave 1 = .ok (.iconst 1, 1) := by decide +kernel
theorem dX6_wave_2 : decode cX6_wave 2 = .ok (.if_icmp .lt 9, 3) := by decide +kernel
theorem dX6_wave_5 : decode cX6_wave 5 = .ok (.iload_n 1, 1) := by decide +kernel
theorem dX6_wave_6 : decode cX6_wave 6 = .ok (.bipush 64, 2) := by decide +kernel
theorem dX6_wave_8 : decode cX6_wave 8 = .ok (.if_icmp .le 13, 3) := by decide +kernel
theorem dX6_wave_11 : decode cX6_wave 11 = .ok (.new 62, 3) := by decide +kernel
theorem dX6_wave_14 : decode cX6_wave 14 = .ok (.dup, 1) := by decide +kernel
theorem dX6_wave_15 : decode cX6_wave 15 = .ok (.ldc 64, 2) := by decide +kernel
theorem dX6_wave_17 : decode cX6_wave 17 = .ok (.invokespecial 66, 3) := by decide +kernel
theorem dX6_wave_20 : decode cX6_wave 20 = .ok (.athrow, 1) := by decide +kernel
theorem dX6_wave_21 : decode cX6_wave 21 = .ok (.aload_n 0, 1) := by decide +kernel
theorem dX6_wave_22 : decode cX6_wave 22 = .ok (.invokevirtual 69, 3) := by decide +kernel
theorem dX6_wave_25 : decode cX6_wave 25 = .ok (.aload_n 0, 1) := by decide +kernel
theorem dX6_wave_26 : decode cX6_wave 26 = .ok (.getfield 12, 3) := by decide +kernel
theorem dX6_wave_29 : decode cX6_wave 29 = .ok (.getfield 72, 3) := by decide +kernel
theorem dX6_wave_32 : decode cX6_wave 32 = .ok (.istore_n 2, 1) := by decide +kernel
theorem dX6_wave_33 : decode cX6_wave 33 = .ok (.aload_n 0, 1) := by decide +kernel
theorem dX6_wave_34 : decode cX6_wave 34 = .ok (.getfield 12, 3) := by decide +kernel
theorem dX6_wave_37 : decode cX6_wave 37 = .ok (.iload_n 1, 1) := by decide +kernel
theorem dX6_wave_38 : decode cX6_wave 38 = .ok (.invokevirtual 76, 3) := by decide +kernel
theorem dX6_wave_41 : decode cX6_wave 41 = .ok (.iload_n 2, 1) := by decide +kernel
theorem dX6_wave_42 : decode cX6_wave 42 = .ok (.ireturn, 1) := by decide +kernel
theorem dX6_sample_0 : decode cX6_sample 0 = .ok (.aload_n 0, 1) := by decide +kernel
theorem dX6_sample_1 : decode cX6_sample 1 = .ok (.getfield 12, 3) := by decide +kernel
theorem dX6_sample_4 : decode cX6_sample 4 = .ok (.iload_n 1, 1) := by decide +kernel
theorem dX6_sample_5 : decode cX6_sample 5 = .ok (.invokevirtual 80, 3) := by decide +kernel
theorem dX6_sample_8 : decode cX6_sample 8 = .ok (.ifCond .ne 13, 3) := by decide +kernel
theorem dX6_sample_11 : decode cX6_sample 11 = .ok (.new 84, 3) := by decide +kernel
theorem dX6_sample_14 : decode cX6_sample 14 = .ok (.dup, 1) := by decide +kernel
theorem dX6_sample_15 : decode cX6_sample 15 = .ok (.ldc 86, 2) := by decide +kernel
theorem dX6_sample_17 : decode cX6_sample 17 = .ok (.invokespecial 88, 3) := by decide +kernel
theorem dX6_sample_20 : decode cX6_sample 20 = .ok (.athrow, 1) := by decide +kernel
theorem dX6_sample_21 : decode cX6_sample 21 = .ok (.iload_n 2, 1) := by decide +kernel
theorem dX6_sample_22 : decode cX6_sample 22 = .ok (.invokestatic 89, 3) := by decide +kernel
theorem dX6_sample_25 : decode cX6_sample 25 = .ok (.ifCond .ne 13, 3) := by decide +kernel
theorem dX6_sample_28 : decode cX6_sample 28 = .ok (.new 62, 3) := by decide +kernel
theorem dX6_sample_31 : decode cX6_sample 31 = .ok (.dup, 1) := by decide +kernel
theorem dX6_sample_32 : decode cX6_sample 32 = .ok (.ldc 92, 2) := by decide +kernel
theorem dX6_sample_34 : decode cX6_sample 34 = .ok (.invokespecial 66, 3) := by decide +kernel
theorem dX6_sample_37 : decode cX6_sample 37 = .ok (.athrow, 1) := by decide +kernel
theorem dX6_sample_38 : decode cX6_sample 38 = .ok (.aload_n 0, 1) := by decide +kernel
theorem dX6_sample_39 : decode cX6_sample 39 = .ok (.invokevirtual 69, 3) := by decide +kernel
theorem dX6_sample_42 : decode cX6_sample 42 = .ok (.aload_n 0, 1) := by decide +kernel
theorem dX6_sample_43 : decode cX6_sample 43 = .ok (.getfield 12, 3) := by decide +kernel
theorem dX6_sample_46 : decode cX6_sample 46 = .ok (.getfield 94, 3) := by decide +kernel
theorem dX6_sample_49 : decode cX6_sample 49 = .ok (.iload_n 1, 1) := by decide +kernel
theorem dX6_sample_50 : decode cX6_sample 50 = .ok (.iaload, 1) := by decide +kernel
theorem dX6_sample_51 : decode cX6_sample 51 = .ok (.istore_n 3, 1) := by decide +kernel
theorem dX6_sample_52 : decode cX6_sample 52 = .ok (.aload_n 0, 1) := by decide +kernel
theorem dX6_sample_53 : decode cX6_sample 53 = .ok (.getfield 12, 3) := by decide +kernel
theorem dX6_sample_56 : decode cX6_sample 56 = .ok (.getfield 94, 3) := by decide +kernel
theorem dX6_sample_59 : decode cX6_sample 59 = .ok (.iload_n 1, 1) := by decide +kernel
theorem dX6_sample_60 : decode cX6_sample 60 = .ok (.iload_n 2, 1) := by decide +kernel
theorem dX6_sample_61 : decode cX6_sample 61 = .ok (.iastore, 1) := by decide +kernel
theorem dX6_sample_62 : decode cX6_sample 62 = .ok (.aload_n 0, 1) := by decide +kernel
theorem dX6_sample_63 : decode cX6_sample 63 = .ok (.getfield 12, 3) := by decide +kernel
theorem dX6_sample_66 : decode cX6_sample 66 = .ok (.invokevirtual 98, 3) := by decide +kernel
theorem dX6_sample_69 : decode cX6_sample 69 = .ok (.iload_n 3, 1) := by decide +kernel
theorem dX6_sample_70 : decode cX6_sample 70 = .ok (.sipush 10000, 3) := by decide +kernel
theorem dX6_sample_73 : decode cX6_sample 73 = .ok (.iadd, 1) := by decide +kernel
theorem dX6_sample_74 : decode cX6_sample 74 = .ok (.ireturn, 1) := by decide +kernel
theorem dX6_add_0 : decode cX6_add 0 = .ok (.iload_n 1, 1) := by decide +kernel
theorem dX6_add_1 : decode cX6_add 1 = .ok (.ifCond .lt 8, 3) := by decide +kernel
theorem dX6_add_4 : decode cX6_add 4 = .ok (.iload_n 1, 1) := by decide +kernel
theorem dX6_add_5 : decode cX6_add 5 = .ok (.iconst 2, 1) := by decide +kernel
theorem dX6_add_6 : decode cX6_add 6 = .ok (.if_icmp .le 13, 3) := by decide +kernel
theorem dX6_add_9 : decode cX6_add 9 = .ok (.new 62, 3) := by decide +kernel
theorem dX6_add_12 : decode cX6_add 12 = .ok (.dup, 1) := by decide +kernel
theorem dX6_add_13 : decode cX6_add 13 = .ok (.ldc 101, 2) := by decide +kernel
theorem dX6_add_15 : decode cX6_add 15 = .ok (.invokespecial 66, 3) := by decide +kernel
theorem dX6_add_18 : decode cX6_add 18 = .ok (.athrow, 1) := by decide +kernel
theorem dX6_add_19 : decode cX6_add 19 = .ok (.iload_n 2, 1) := by decide +kernel
theorem dX6_add_20 : decode cX6_add 20 = .ok (.ifCond .lt 10, 3) := by decide +kernel
theorem dX6_add_23 : decode cX6_add 23 = .ok (.iload_n 2, 1) := by decide +kernel
theorem dX6_add_24 : decode cX6_add 24 = .ok (.sipush 2047, 3) := by decide +kernel
theorem dX6_add_27 : decode cX6_add 27 = .ok (.if_icmp .le 13, 3) := by decide +kernel
theorem dX6_add_30 : decode cX6_add 30 = .ok (.new 62, 3) := by decide +kernel
theorem dX6_add_33 : decode cX6_add 33 = .ok (.dup, 1) := by decide +kernel
theorem dX6_add_34 : decode cX6_add 34 = .ok (.ldc 103, 2) := by decide +kernel
theorem dX6_add_36 : decode cX6_add 36 = .ok (.invokespecial 66, 3) := by decide +kernel
theorem dX6_add_39 : decode cX6_add 39 = .ok (.athrow, 1) := by decide +kernel
theorem dX6_add_40 : decode cX6_add 40 = .ok (.iload_n 3, 1) := by decide +kernel
theorem dX6_add_41 : decode cX6_add 41 = .ok (.iconst 1, 1) := by decide +kernel
theorem dX6_add_42 : decode cX6_add 42 = .ok (.if_icmp .lt 9, 3) := by decide +kernel
theorem dX6_add_45 : decode cX6_add 45 = .ok (.iload_n 3, 1) := by decide +kernel
theorem dX6_add_46 : decode cX6_add 46 = .ok (.bipush 64, 2) := by decide +kernel
theorem dX6_add_48 : decode cX6_add 48 = .ok (.if_icmp .le 13, 3) := by decide +kernel
theorem dX6_add_51 : decode cX6_add 51 = .ok (.new 62, 3) := by decide +kernel
theorem dX6_add_54 : decode cX6_add 54 = .ok (.dup, 1) := by decide +kernel
theorem dX6_add_55 : decode cX6_add 55 = .ok (.ldc 105, 2) := by decide +kernel
theorem dX6_add_57 : decode cX6_add 57 = .ok (.invokespecial 66, 3) := by decide +kernel
theorem dX6_add_60 : decode cX6_add 60 = .ok (.athrow, 1) := by decide +kernel
theorem dX6_add_61 : decode cX6_add 61 = .ok (.aload_n 0, 1) := by decide +kernel
theorem dX6_add_62 : decode cX6_add 62 = .ok (.invokevirtual 69, 3) := by decide +kernel
theorem dX6_add_65 : decode cX6_add 65 = .ok (.iconst 0, 1) := by decide +kernel
theorem dX6_add_66 : decode cX6_add 66 = .ok (.istore 4, 2) := by decide +kernel
theorem dX6_add_68 : decode cX6_add 68 = .ok (.iconst 0, 1) := by decide +kernel
theorem dX6_add_69 : decode cX6_add 69 = .ok (.istore 5, 2) := by decide +kernel
theorem dX6_add_71 : decode cX6_add 71 = .ok (.iload 5, 2) := by decide +kernel
theorem dX6_add_73 : decode cX6_add 73 = .ok (.aload_n 0, 1) := by decide +kernel
theorem dX6_add_74 : decode cX6_add 74 = .ok (.getfield 12, 3) := by decide +kernel
theorem dX6_add_77 : decode cX6_add 77 = .ok (.getfield 72, 3) := by decide +kernel
theorem dX6_add_80 : decode cX6_add 80 = .ok (.if_icmp .ge 58, 3) := by decide +kernel
theorem dX6_add_83 : decode cX6_add 83 = .ok (.aload_n 0, 1) := by decide +kernel
theorem dX6_add_84 : decode cX6_add 84 = .ok (.getfield 12, 3) := by decide +kernel
theorem dX6_add_87 : decode cX6_add 87 = .ok (.getfield 94, 3) := by decide +kernel
theorem dX6_add_90 : decode cX6_add 90 = .ok (.iload 5, 2) := by decide +kernel
theorem dX6_add_92 : decode cX6_add 92 = .ok (.iaload, 1) := by decide +kernel
theorem dX6_add_93 : decode cX6_add 93 = .ok (.iload_n 1, 1) := by decide +kernel
theorem dX6_add_94 : decode cX6_add 94 = .ok (.iload_n 2, 1) := by decide +kernel
theorem dX6_add_95 : decode cX6_add 95 = .ok (.iload_n 3, 1) := by decide +kernel
theorem dX6_add_96 : decode cX6_add 96 = .ok (.iload 5, 2) := by decide +kernel
theorem dX6_add_98 : decode cX6_add 98 = .ok (.iload_n 3, 1) := by decide +kernel
theorem dX6_add_99 : decode cX6_add 99 = .ok (.irem, 1) := by decide +kernel
theorem dX6_add_100 : decode cX6_add 100 = .ok (.invokestatic 107, 3) := by decide +kernel
theorem dX6_add_103 : decode cX6_add 103 = .ok (.iadd, 1) := by decide +kernel
theorem dX6_add_104 : decode cX6_add 104 = .ok (.istore 6, 2) := by decide +kernel
theorem dX6_add_106 : decode cX6_add 106 = .ok (.aload_n 0, 1) := by decide +kernel
theorem dX6_add_107 : decode cX6_add 107 = .ok (.getfield 12, 3) := by decide +kernel
theorem dX6_add_110 : decode cX6_add 110 = .ok (.getfield 94, 3) := by decide +kernel
theorem dX6_add_113 : decode cX6_add 113 = .ok (.iload 5, 2) := by decide +kernel
theorem dX6_add_115 : decode cX6_add 115 = .ok (.iload 6, 2) := by decide +kernel
theorem dX6_add_117 : decode cX6_add 117 = .ok (.invokestatic 111, 3) := by decide +kernel
theorem dX6_add_120 : decode cX6_add 120 = .ok (.iastore, 1) := by decide +kernel
theorem dX6_add_121 : decode cX6_add 121 = .ok (.iload 6, 2) := by decide +kernel
theorem dX6_add_123 : decode cX6_add 123 = .ok (.invokestatic 89, 3) := by decide +kernel
theorem dX6_add_126 : decode cX6_add 126 = .ok (.ifCond .ne 6, 3) := by decide +kernel
theorem dX6_add_129 : decode cX6_add 129 = .ok (.iinc 4 1, 3) := by decide +kernel
theorem dX6_add_132 : decode cX6_add 132 = .ok (.iinc 5 1, 3) := by decide +kernel
theorem dX6_add_135 : decode cX6_add 135 = .ok (.goto (-64), 3) := by decide +kernel
theorem dX6_add_138 : decode cX6_add 138 = .ok (.aload_n 0, 1) := by decide +kernel
theorem dX6_add_139 : decode cX6_add 139 = .ok (.getfield 12, 3) := by decide +kernel
theorem dX6_add_142 : decode cX6_add 142 = .ok (.invokevirtual 98, 3) := by decide +kernel
theorem dX6_add_145 : decode cX6_add 145 = .ok (.iload 4, 2) := by decide +kernel
theorem dX6_add_147 : decode cX6_add 147 = .ok (.ireturn, 1) := by decide +kernel
theorem dX6_take_0 : decode cX6_take 0 = .ok (.aload_n 0, 1) := by decide +kernel
theorem dX6_take_1 : decode cX6_take 1 = .ok (.getfield 12, 3) := by decide +kernel
theorem dX6_take_4 : decode cX6_take 4 = .ok (.invokevirtual 115, 3) := by decide +kernel
theorem dX6_take_7 : decode cX6_take 7 = .ok (.ifCond .ne 13, 3) := by decide +kernel
theorem dX6_take_10 : decode cX6_take 10 = .ok (.new 119, 3) := by decide +kernel
theorem dX6_take_13 : decode cX6_take 13 = .ok (.dup, 1) := by decide +kernel
theorem dX6_take_14 : decode cX6_take 14 = .ok (.ldc 121, 2) := by decide +kernel
theorem dX6_take_16 : decode cX6_take 16 = .ok (.invokespecial 123, 3) := by decide +kernel
theorem dX6_take_19 : decode cX6_take 19 = .ok (.athrow, 1) := by decide +kernel
theorem dX6_take_20 : decode cX6_take 20 = .ok (.aload_n 0, 1) := by decide +kernel
theorem dX6_take_21 : decode cX6_take 21 = .ok (.getfield 48, 3) := by decide +kernel
theorem dX6_take_24 : decode cX6_take 24 = .ok (.aload_n 0, 1) := by decide +kernel
theorem dX6_take_25 : decode cX6_take 25 = .ok (.getfield 12, 3) := by decide +kernel
theorem dX6_take_28 : decode cX6_take 28 = .ok (.invokevirtual 124, 3) := by decide +kernel
theorem dX6_take_31 : decode cX6_take 31 = .ok (.aload_n 0, 1) := by decide +kernel
theorem dX6_take_32 : decode cX6_take 32 = .ok (.invokevirtual 69, 3) := by decide +kernel
theorem dX6_take_35 : decode cX6_take 35 = .ok (.aload_n 0, 1) := by decide +kernel
theorem dX6_take_36 : decode cX6_take 36 = .ok (.getfield 12, 3) := by decide +kernel
theorem dX6_take_39 : decode cX6_take 39 = .ok (.getfield 72, 3) := by decide +kernel
theorem dX6_take_42 : decode cX6_take 42 = .ok (.aload_n 0, 1) := by decide +kernel
theorem dX6_take_43 : decode cX6_take 43 = .ok (.getfield 48, 3) := by decide +kernel
theorem dX6_take_46 : decode cX6_take 46 = .ok (.aload_n 0, 1) := by decide +kernel
theorem dX6_take_47 : decode cX6_take 47 = .ok (.getfield 12, 3) := by decide +kernel
theorem dX6_take_50 : decode cX6_take 50 = .ok (.invokevirtual 128, 3) := by decide +kernel
theorem dX6_take_53 : decode cX6_take 53 = .ok (.isub, 1) := by decide +kernel
theorem dX6_take_54 : decode cX6_take 54 = .ok (.istore_n 1, 1) := by decide +kernel
theorem dX6_take_55 : decode cX6_take 55 = .ok (.aload_n 0, 1) := by decide +kernel
theorem dX6_take_56 : decode cX6_take 56 = .ok (.getfield 48, 3) := by decide +kernel
theorem dX6_take_59 : decode cX6_take 59 = .ok (.getfield 132, 3) := by decide +kernel
theorem dX6_take_62 : decode cX6_take 62 = .ok (.aload_n 0, 1) := by decide +kernel
theorem dX6_take_63 : decode cX6_take 63 = .ok (.getfield 12, 3) := by decide +kernel
theorem dX6_take_66 : decode cX6_take 66 = .ok (.getfield 94, 3) := by decide +kernel
theorem dX6_take_69 : decode cX6_take 69 = .ok (.invokestatic 135, 3) := by decide +kernel
theorem dX6_take_72 : decode cX6_take 72 = .ok (.aload_n 0, 1) := by decide +kernel
theorem dX6_take_73 : decode cX6_take 73 = .ok (.getfield 12, 3) := by decide +kernel
theorem dX6_take_76 : decode cX6_take 76 = .ok (.invokevirtual 98, 3) := by decide +kernel
theorem dX6_take_79 : decode cX6_take 79 = .ok (.iload_n 1, 1) := by decide +kernel
theorem dX6_take_80 : decode cX6_take 80 = .ok (.ireturn, 1) := by decide +kernel
theorem dX6_set_0 : decode cX6_set 0 = .ok (.iload_n 1, 1) := by decide +kernel
theorem dX6_set_1 : decode cX6_set 1 = .ok (.invokestatic 139, 3) := by decide +kernel
theorem dX6_set_4 : decode cX6_set 4 = .ok (.ifCond .ne 13, 3) := by decide +kernel
theorem dX6_set_7 : decode cX6_set 7 = .ok (.new 84, 3) := by decide +kernel
theorem dX6_set_10 : decode cX6_set 10 = .ok (.dup, 1) := by decide +kernel
theorem dX6_set_11 : decode cX6_set 11 = .ok (.ldc 142, 2) := by decide +kernel
theorem dX6_set_13 : decode cX6_set 13 = .ok (.invokespecial 88, 3) := by decide +kernel
theorem dX6_set_16 : decode cX6_set 16 = .ok (.athrow, 1) := by decide +kernel
theorem dX6_set_17 : decode cX6_set 17 = .ok (.iload_n 2, 1) := by decide +kernel
theorem dX6_set_18 : decode cX6_set 18 = .ok (.iload_n 1, 1) := by decide +kernel
theorem dX6_set_19 : decode cX6_set 19 = .ok (.invokestatic 144, 3) := by decide +kernel
theorem dX6_set_22 : decode cX6_set 22 = .ok (.if_icmp .lt 11, 3) := by decide +kernel
theorem dX6_set_25 : decode cX6_set 25 = .ok (.iload_n 2, 1) := by decide +kernel
theorem dX6_set_26 : decode cX6_set 26 = .ok (.iload_n 1, 1) := by decide +kernel
theorem dX6_set_27 : decode cX6_set 27 = .ok (.invokestatic 147, 3) := by decide +kernel
theorem dX6_set_30 : decode cX6_set 30 = .ok (.if_icmp .le 13, 3) := by decide +kernel
theorem dX6_set_33 : decode cX6_set 33 = .ok (.new 62, 3) := by decide +kernel
theorem dX6_set_36 : decode cX6_set 36 = .ok (.dup, 1) := by decide +kernel
theorem dX6_set_37 : decode cX6_set 37 = .ok (.ldc 150, 2) := by decide +kernel
theorem dX6_set_39 : decode cX6_set 39 = .ok (.invokespecial 66, 3) := by decide +kernel
theorem dX6_set_42 : decode cX6_set 42 = .ok (.athrow, 1) := by decide +kernel
theorem dX6_set_43 : decode cX6_set 43 = .ok (.aload_n 0, 1) := by decide +kernel
theorem dX6_set_44 : decode cX6_set 44 = .ok (.invokevirtual 69, 3) := by decide +kernel
theorem dX6_set_47 : decode cX6_set 47 = .ok (.aload_n 0, 1) := by decide +kernel
theorem dX6_set_48 : decode cX6_set 48 = .ok (.getfield 12, 3) := by decide +kernel
theorem dX6_set_51 : decode cX6_set 51 = .ok (.getfield 152, 3) := by decide +kernel
theorem dX6_set_54 : decode cX6_set 54 = .ok (.iload_n 1, 1) := by decide +kernel
theorem dX6_set_55 : decode cX6_set 55 = .ok (.iaload, 1) := by decide +kernel
theorem dX6_set_56 : decode cX6_set 56 = .ok (.istore_n 3, 1) := by decide +kernel
theorem dX6_set_57 : decode cX6_set 57 = .ok (.aload_n 0, 1) := by decide +kernel
theorem dX6_set_58 : decode cX6_set 58 = .ok (.getfield 12, 3) := by decide +kernel
theorem dX6_set_61 : decode cX6_set 61 = .ok (.getfield 152, 3) := by decide +kernel
theorem dX6_set_64 : decode cX6_set 64 = .ok (.iload_n 1, 1) := by decide +kernel
theorem dX6_set_65 : decode cX6_set 65 = .ok (.iload_n 2, 1) := by decide +kernel
theorem dX6_set_66 : decode cX6_set 66 = .ok (.iastore, 1) := by decide +kernel
theorem dX6_set_67 : decode cX6_set 67 = .ok (.iload_n 1, 1) := by decide +kernel
theorem dX6_set_68 : decode cX6_set 68 = .ok (.iconst 2, 1) := by decide +kernel
theorem dX6_set_69 : decode cX6_set 69 = .ok (.if_icmp .eq 10, 3) := by decide +kernel
theorem dX6_set_72 : decode cX6_set 72 = .ok (.aload_n 0, 1) := by decide +kernel
theorem dX6_set_73 : decode cX6_set 73 = .ok (.getfield 12, 3) := by decide +kernel
theorem dX6_set_76 : decode cX6_set 76 = .ok (.invokevirtual 98, 3) := by decide +kernel
theorem dX6_set_79 : decode cX6_set 79 = .ok (.iload_n 3, 1) := by decide +kernel
theorem dX6_set_80 : decode cX6_set 80 = .ok (.ireturn, 1) := by decide +kernel
theorem dX6_code_0 : decode cX6_code 0 = .ok (.aload_n 0, 1) := by decide +kernel
theorem dX6_code_1 : decode cX6_code 1 = .ok (.invokevirtual 69, 3) := by decide +kernel
theorem dX6_code_4 : decode cX6_code 4 = .ok (.aload_n 0, 1) := by decide +kernel
theorem dX6_code_5 : decode cX6_code 5 = .ok (.getfield 41, 3) := by decide +kernel
theorem dX6_code_8 : decode cX6_code 8 = .ok (.aload_n 0, 1) := by decide +kernel
theorem dX6_code_9 : decode cX6_code 9 = .ok (.getfield 12, 3) := by decide +kernel
theorem dX6_code_12 : decode cX6_code 12 = .ok (.invokevirtual 155, 3) := by decide +kernel
theorem dX6_code_15 : decode cX6_code 15 = .ok (.aload_n 0, 1) := by decide +kernel
theorem dX6_code_16 : decode cX6_code 16 = .ok (.getfield 12, 3) := by decide +kernel
theorem dX6_code_19 : decode cX6_code 19 = .ok (.getfield 158, 3) := by decide +kernel
theorem dX6_code_22 : decode cX6_code 22 = .ok (.ireturn, 1) := by decide +kernel
theorem dX6_lose_0 : decode cX6_lose 0 = .ok (.aload_n 0, 1) := by decide +kernel
theorem dX6_lose_1 : decode cX6_lose 1 = .ok (.iload_n 1, 1) := by decide +kernel
theorem dX6_lose_2 : decode cX6_lose 2 = .ok (.invokevirtual 161, 3) := by decide +kernel
theorem dX6_lose_5 : decode cX6_lose 5 = .ok (.aload_n 0, 1) := by decide +kernel
theorem dX6_lose_6 : decode cX6_lose 6 = .ok (.invokevirtual 69, 3) := by decide +kernel
theorem dX6_lose_9 : decode cX6_lose 9 = .ok (.aload_n 0, 1) := by decide +kernel
theorem dX6_lose_10 : decode cX6_lose 10 = .ok (.getfield 12, 3) := by decide +kernel
theorem dX6_lose_13 : decode cX6_lose 13 = .ok (.getfield 164, 3) := by decide +kernel
theorem dX6_lose_16 : decode cX6_lose 16 = .ok (.iload_n 1, 1) := by decide +kernel
theorem dX6_lose_17 : decode cX6_lose 17 = .ok (.aload_n 0, 1) := by decide +kernel
theorem dX6_lose_18 : decode cX6_lose 18 = .ok (.getfield 12, 3) := by decide +kernel
theorem dX6_lose_21 : decode cX6_lose 21 = .ok (.getfield 164, 3) := by decide +kernel
theorem dX6_lose_24 : decode cX6_lose 24 = .ok (.iload_n 1, 1) := by decide +kernel
theorem dX6_lose_25 : decode cX6_lose 25 = .ok (.baload, 1) := by decide +kernel
theorem dX6_lose_26 : decode cX6_lose 26 = .ok (.ifCond .ne 7, 3) := by decide +kernel
theorem dX6_lose_29 : decode cX6_lose 29 = .ok (.iconst 1, 1) := by decide +kernel
theorem dX6_lose_30 : decode cX6_lose 30 = .ok (.goto 4, 3) := by decide +kernel
theorem dX6_lose_33 : decode cX6_lose 33 = .ok (.iconst 0, 1) := by decide +kernel
theorem dX6_lose_34 : decode cX6_lose 34 = .ok (.bastore, 1) := by decide +kernel
theorem dX6_lose_35 : decode cX6_lose 35 = .ok (.aload_n 0, 1) := by decide +kernel
theorem dX6_lose_36 : decode cX6_lose 36 = .ok (.getfield 12, 3) := by decide +kernel
theorem dX6_lose_39 : decode cX6_lose 39 = .ok (.invokevirtual 167, 3) := by decide +kernel
theorem dX6_lose_42 : decode cX6_lose 42 = .ok (.ireturn, 1) := by decide +kernel
theorem dX6_spoil_0 : decode cX6_spoil 0 = .ok (.aload_n 0, 1) := by decide +kernel
theorem dX6_spoil_1 : decode cX6_spoil 1 = .ok (.iload_n 1, 1) := by decide +kernel
theorem dX6_spoil_2 : decode cX6_spoil 2 = .ok (.iload_n 2, 1) := by decide +kernel
theorem dX6_spoil_3 : decode cX6_spoil 3 = .ok (.invokevirtual 171, 3) := by decide +kernel
theorem dX6_spoil_6 : decode cX6_spoil 6 = .ok (.aload_n 0, 1) := by decide +kernel
theorem dX6_spoil_7 : decode cX6_spoil 7 = .ok (.invokevirtual 69, 3) := by decide +kernel
theorem dX6_spoil_10 : decode cX6_spoil 10 = .ok (.aload_n 0, 1) := by decide +kernel
theorem dX6_spoil_11 : decode cX6_spoil 11 = .ok (.getfield 12, 3) := by decide +kernel
theorem dX6_spoil_14 : decode cX6_spoil 14 = .ok (.iload_n 1, 1) := by decide +kernel
theorem dX6_spoil_15 : decode cX6_spoil 15 = .ok (.iload_n 2, 1) := by decide +kernel
theorem dX6_spoil_16 : decode cX6_spoil 16 = .ok (.invokevirtual 175, 3) := by decide +kernel
theorem dX6_spoil_19 : decode cX6_spoil 19 = .ok (.aload_n 0, 1) := by decide +kernel
theorem dX6_spoil_20 : decode cX6_spoil 20 = .ok (.getfield 12, 3) := by decide +kernel
theorem dX6_spoil_23 : decode cX6_spoil 23 = .ok (.dup, 1) := by decide +kernel
theorem dX6_spoil_24 : decode cX6_spoil 24 = .ok (.getfield 178, 3) := by decide +kernel
theorem dX6_spoil_27 : decode cX6_spoil 27 = .ok (.iconst 1, 1) := by decide +kernel
theorem dX6_spoil_28 : decode cX6_spoil 28 = .ok (.iadd, 1) := by decide +kernel
theorem dX6_spoil_29 : decode cX6_spoil 29 = .ok (.putfield 178, 3) := by decide +kernel
theorem dX6_spoil_32 : decode cX6_spoil 32 = .ok (.aload_n 0, 1) := by decide +kernel
theorem dX6_spoil_33 : decode cX6_spoil 33 = .ok (.getfield 12, 3) := by decide +kernel
theorem dX6_spoil_36 : decode cX6_spoil 36 = .ok (.getfield 181, 3) := by decide +kernel
theorem dX6_spoil_39 : decode cX6_spoil 39 = .ok (.iload_n 1, 1) := by decide +kernel
theorem dX6_spoil_40 : decode cX6_spoil 40 = .ok (.iaload, 1) := by decide +kernel
theorem dX6_spoil_41 : decode cX6_spoil 41 = .ok (.ireturn, 1) := by decide +kernel
theorem dX6_append_0 : decode cX6_append 0 = .ok (.iload_n 1, 1) := by decide +kernel
theorem dX6_append_1 : decode cX6_append 1 = .ok (.bipush 33, 2) := by decide +kernel
theorem dX6_append_3 : decode cX6_append 3 = .ok (.if_icmp .lt 9, 3) := by decide +kernel
theorem dX6_append_6 : decode cX6_append 6 = .ok (.iload_n 1, 1) := by decide +kernel
theorem dX6_append_7 : decode cX6_append 7 = .ok (.bipush 126, 2) := by decide +kernel
theorem dX6_append_9 : decode cX6_append 9 = .ok (.if_icmp .le 13, 3) := by decide +kernel
theorem dX6_append_12 : decode cX6_append 12 = .ok (.new 62, 3) := by decide +kernel
theorem dX6_append_15 : decode cX6_append 15 = .ok (.dup, 1) := by decide +kernel
theorem dX6_append_16 : decode cX6_append 16 = .ok (.ldc 184, 2) := by decide +kernel
theorem dX6_append_18 : decode cX6_append 18 = .ok (.invokespecial 66, 3) := by decide +kernel
theorem dX6_append_21 : decode cX6_append 21 = .ok (.athrow, 1) := by decide +kernel
theorem dX6_append_22 : decode cX6_append 22 = .ok (.aload_n 0, 1) := by decide +kernel
theorem dX6_append_23 : decode cX6_append 23 = .ok (.getfield 34, 3) := by decide +kernel
theorem dX6_append_26 : decode cX6_append 26 = .ok (.invokevirtual 186, 3) := by decide +kernel
theorem dX6_append_29 : decode cX6_append 29 = .ok (.ifCond .eq 13, 3) := by decide +kernel
theorem dX6_append_32 : decode cX6_append 32 = .ok (.new 119, 3) := by decide +kernel
theorem dX6_append_35 : decode cX6_append 35 = .ok (.dup, 1) := by decide +kernel
theorem dX6_append_36 : decode cX6_append 36 = .ok (.ldc 189, 2) := by decide +kernel
theorem dX6_append_38 : decode cX6_append 38 = .ok (.invokespecial 123, 3) := by decide +kernel
theorem dX6_append_41 : decode cX6_append 41 = .ok (.athrow, 1) := by decide +kernel
theorem dX6_append_42 : decode cX6_append 42 = .ok (.aload_n 0, 1) := by decide +kernel
theorem dX6_append_43 : decode cX6_append 43 = .ok (.getfield 34, 3) := by decide +kernel
theorem dX6_append_46 : decode cX6_append 46 = .ok (.iload_n 1, 1) := by decide +kernel
theorem dX6_append_47 : decode cX6_append 47 = .ok (.invokevirtual 191, 3) := by decide +kernel
theorem dX6_append_50 : decode cX6_append 50 = .ok (.aload_n 0, 1) := by decide +kernel
theorem dX6_append_51 : decode cX6_append 51 = .ok (.getfield 34, 3) := by decide +kernel
theorem dX6_append_54 : decode cX6_append 54 = .ok (.getfield 194, 3) := by decide +kernel
theorem dX6_append_57 : decode cX6_append 57 = .ok (.ireturn, 1) := by decide +kernel
theorem dX6_clearBuffer_0 : decode cX6_clearBuffer 0 = .ok (.aload_n 0, 1) := by decide +kernel
theorem dX6_clearBuffer_1 : decode cX6_clearBuffer 1 = .ok (.getfield 34, 3) := by decide +kernel
theorem dX6_clearBuffer_4 : decode cX6_clearBuffer 4 = .ok (.getfield 194, 3) := by decide +kernel
theorem dX6_clearBuffer_7 : decode cX6_clearBuffer 7 = .ok (.istore_n 1, 1) := by decide +kernel
theorem dX6_clearBuffer_8 : decode cX6_clearBuffer 8 = .ok (.aload_n 0, 1) := by decide +kernel
theorem dX6_clearBuffer_9 : decode cX6_clearBuffer 9 = .ok (.getfield 34, 3) := by decide +kernel
theorem dX6_clearBuffer_12 : decode cX6_clearBuffer 12 = .ok (.iconst 0, 1) := by decide +kernel
theorem dX6_clearBuffer_13 : decode cX6_clearBuffer 13 = .ok (.putfield 194, 3) := by decide +kernel
theorem dX6_clearBuffer_16 : decode cX6_clearBuffer 16 = .ok (.iload_n 1, 1) := by decide +kernel
theorem dX6_clearBuffer_17 : decode cX6_clearBuffer 17 = .ok (.ireturn, 1) := by decide +kernel
theorem dX6_firstError_0 : decode cX6_firstError 0 = .ok (.aload_n 0, 1) := by decide +kernel
theorem dX6_firstError_1 : decode cX6_firstError 1 = .ok (.getfield 34, 3) := by decide +kernel
theorem dX6_firstError_4 : decode cX6_firstError 4 = .ok (.invokevirtual 197, 3) := by decide +kernel
theorem dX6_firstError_7 : decode cX6_firstError 7 = .ok (.ireturn, 1) := by decide +kernel
theorem dX6_load_0 : decode cX6_load 0 = .ok (.aload_n 0, 1) := by decide +kernel
theorem dX6_load_1 : decode cX6_load 1 = .ok (.iload_n 1, 1) := by decide +kernel
theorem dX6_load_2 : decode cX6_load 2 = .ok (.invokevirtual 161, 3) := by decide +kernel
theorem dX6_load_5 : decode cX6_load 5 = .ok (.aload_n 0, 1) := by decide +kernel
theorem dX6_load_6 : decode cX6_load 6 = .ok (.getfield 34, 3) := by decide +kernel
theorem dX6_load_9 : decode cX6_load 9 = .ok (.invokevirtual 200, 3) := by decide +kernel
theorem dX6_load_12 : decode cX6_load 12 = .ok (.ifCond .eq 21, 3) := by decide +kernel
theorem dX6_load_15 : decode cX6_load 15 = .ok (.aload_n 0, 1) := by decide +kernel
theorem dX6_load_16 : decode cX6_load 16 = .ok (.getfield 34, 3) := by decide +kernel
theorem dX6_load_19 : decode cX6_load 19 = .ok (.getfield 203, 3) := by decide +kernel
theorem dX6_load_22 : decode cX6_load 22 = .ok (.aload_n 0, 1) := by decide +kernel
theorem dX6_load_23 : decode cX6_load 23 = .ok (.getfield 12, 3) := by decide +kernel
theorem dX6_load_26 : decode cX6_load 26 = .ok (.iload_n 1, 1) := by decide +kernel
theorem dX6_load_27 : decode cX6_load 27 = .ok (.invokevirtual 206, 3) := by decide +kernel
theorem dX6_load_30 : decode cX6_load 30 = .ok (.if_icmp .eq 13, 3) := by decide +kernel
theorem dX6_load_33 : decode cX6_load 33 = .ok (.new 62, 3) := by decide +kernel
theorem dX6_load_36 : decode cX6_load 36 = .ok (.dup, 1) := by decide +kernel
theorem dX6_load_37 : decode cX6_load 37 = .ok (.ldc 209, 2) := by decide +kernel
theorem dX6_load_39 : decode cX6_load 39 = .ok (.invokespecial 66, 3) := by decide +kernel
theorem dX6_load_42 : decode cX6_load 42 = .ok (.athrow, 1) := by decide +kernel
theorem dX6_load_43 : decode cX6_load 43 = .ok (.aload_n 0, 1) := by decide +kernel
theorem dX6_load_44 : decode cX6_load 44 = .ok (.getfield 48, 3) := by decide +kernel
theorem dX6_load_47 : decode cX6_load 47 = .ok (.aload_n 0, 1) := by decide +kernel
theorem dX6_load_48 : decode cX6_load 48 = .ok (.getfield 12, 3) := by decide +kernel
theorem dX6_load_51 : decode cX6_load 51 = .ok (.invokevirtual 124, 3) := by decide +kernel
theorem dX6_load_54 : decode cX6_load 54 = .ok (.aload_n 0, 1) := by decide +kernel
theorem dX6_load_55 : decode cX6_load 55 = .ok (.invokevirtual 69, 3) := by decide +kernel
theorem dX6_load_58 : decode cX6_load 58 = .ok (.aload_n 0, 1) := by decide +kernel
theorem dX6_load_59 : decode cX6_load 59 = .ok (.getfield 12, 3) := by decide +kernel
theorem dX6_load_62 : decode cX6_load 62 = .ok (.iload_n 1, 1) := by decide +kernel
theorem dX6_load_63 : decode cX6_load 63 = .ok (.aload_n 0, 1) := by decide +kernel
theorem dX6_load_64 : decode cX6_load 64 = .ok (.getfield 34, 3) := by decide +kernel
theorem dX6_load_67 : decode cX6_load 67 = .ok (.invokevirtual 211, 3) := by decide +kernel
theorem dX6_load_70 : decode cX6_load 70 = .ok (.aload_n 0, 1) := by decide +kernel
theorem dX6_load_71 : decode cX6_load 71 = .ok (.getfield 34, 3) := by decide +kernel
theorem dX6_load_74 : decode cX6_load 74 = .ok (.iconst 0, 1) := by decide +kernel
theorem dX6_load_75 : decode cX6_load 75 = .ok (.putfield 194, 3) := by decide +kernel
theorem dX6_load_78 : decode cX6_load 78 = .ok (.aload_n 0, 1) := by decide +kernel
theorem dX6_load_79 : decode cX6_load 79 = .ok (.getfield 52, 3) := by decide +kernel
theorem dX6_load_82 : decode cX6_load 82 = .ok (.iconst 0, 1) := by decide +kernel
theorem dX6_load_83 : decode cX6_load 83 = .ok (.putfield 215, 3) := by decide +kernel
theorem dX6_load_86 : decode cX6_load 86 = .ok (.aload_n 0, 1) := by decide +kernel
theorem dX6_load_87 : decode cX6_load 87 = .ok (.getfield 52, 3) := by decide +kernel
theorem dX6_load_90 : decode cX6_load 90 = .ok (.aload_n 0, 1) := by decide +kernel
theorem dX6_load_91 : decode cX6_load 91 = .ok (.getfield 12, 3) := by decide +kernel
theorem dX6_load_94 : decode cX6_load 94 = .ok (.invokevirtual 124, 3) := by decide +kernel
theorem dX6_load_97 : decode cX6_load 97 = .ok (.aload_n 0, 1) := by decide +kernel
theorem dX6_load_98 : decode cX6_load 98 = .ok (.getfield 52, 3) := by decide +kernel
theorem dX6_load_101 : decode cX6_load 101 = .ok (.aload_n 0, 1) := by decide +kernel
theorem dX6_load_102 : decode cX6_load 102 = .ok (.getfield 48, 3) := by decide +kernel
theorem dX6_load_105 : decode cX6_load 105 = .ok (.aload_n 0, 1) := by decide +kernel
theorem dX6_load_106 : decode cX6_load 106 = .ok (.getfield 12, 3) := by decide +kernel
theorem dX6_load_109 : decode cX6_load 109 = .ok (.getfield 72, 3) := by decide +kernel
theorem dX6_load_112 : decode cX6_load 112 = .ok (.invokevirtual 219, 3) := by decide +kernel
theorem dX6_load_115 : decode cX6_load 115 = .ok (.ireturn, 1) := by decide +kernel
theorem dX6_write_0 : decode cX6_write 0 = .ok (.aload_n 0, 1) := by decide +kernel
theorem dX6_write_1 : decode cX6_write 1 = .ok (.iload_n 1, 1) := by decide +kernel
theorem dX6_write_2 : decode cX6_write 2 = .ok (.invokevirtual 161, 3) := by decide +kernel
theorem dX6_write_5 : decode cX6_write 5 = .ok (.aload_n 0, 1) := by decide +kernel
theorem dX6_write_6 : decode cX6_write 6 = .ok (.getfield 34, 3) := by decide +kernel
theorem dX6_write_9 : decode cX6_write 9 = .ok (.aload_n 0, 1) := by decide +kernel
theorem dX6_write_10 : decode cX6_write 10 = .ok (.getfield 12, 3) := by decide +kernel
theorem dX6_write_13 : decode cX6_write 13 = .ok (.iload_n 1, 1) := by decide +kernel
theorem dX6_write_14 : decode cX6_write 14 = .ok (.invokevirtual 223, 3) := by decide +kernel
theorem dX6_write_17 : decode cX6_write 17 = .ok (.aload_n 0, 1) := by decide +kernel
theorem dX6_write_18 : decode cX6_write 18 = .ok (.getfield 34, 3) := by decide +kernel
theorem dX6_write_21 : decode cX6_write 21 = .ok (.getfield 194, 3) := by decide +kernel
theorem dX6_write_24 : decode cX6_write 24 = .ok (.ireturn, 1) := by decide +kernel
theorem dX6_keep_0 : decode cX6_keep 0 = .ok (.aload_n 0, 1) := by decide +kernel
theorem dX6_keep_1 : decode cX6_keep 1 = .ok (.iload_n 1, 1) := by decide +kernel
theorem dX6_keep_2 : decode cX6_keep 2 = .ok (.invokevirtual 227, 3) := by decide +kernel
theorem dX6_keep_5 : decode cX6_keep 5 = .ok (.aload_n 0, 1) := by decide +kernel
theorem dX6_keep_6 : decode cX6_keep 6 = .ok (.getfield 23, 3) := by decide +kernel
theorem dX6_keep_9 : decode cX6_keep 9 = .ok (.iload_n 1, 1) := by decide +kernel
theorem dX6_keep_10 : decode cX6_keep 10 = .ok (.aaload, 1) := by decide +kernel
theorem dX6_keep_11 : decode cX6_keep 11 = .ok (.aload_n 0, 1) := by decide +kernel
theorem dX6_keep_12 : decode cX6_keep 12 = .ok (.getfield 12, 3) := by decide +kernel
theorem dX6_keep_15 : decode cX6_keep 15 = .ok (.invokevirtual 230, 3) := by decide +kernel
theorem dX6_keep_18 : decode cX6_keep 18 = .ok (.aload_n 0, 1) := by decide +kernel
theorem dX6_keep_19 : decode cX6_keep 19 = .ok (.getfield 27, 3) := by decide +kernel
theorem dX6_keep_22 : decode cX6_keep 22 = .ok (.iload_n 1, 1) := by decide +kernel
theorem dX6_keep_23 : decode cX6_keep 23 = .ok (.iconst 1, 1) := by decide +kernel
theorem dX6_keep_24 : decode cX6_keep 24 = .ok (.bastore, 1) := by decide +kernel
theorem dX6_keep_25 : decode cX6_keep 25 = .ok (.aload_n 0, 1) := by decide +kernel
theorem dX6_keep_26 : decode cX6_keep 26 = .ok (.getfield 12, 3) := by decide +kernel
theorem dX6_keep_29 : decode cX6_keep 29 = .ok (.getfield 72, 3) := by decide +kernel
theorem dX6_keep_32 : decode cX6_keep 32 = .ok (.ireturn, 1) := by decide +kernel
theorem dX6_goBack_0 : decode cX6_goBack 0 = .ok (.aload_n 0, 1) := by decide +kernel
theorem dX6_goBack_1 : decode cX6_goBack 1 = .ok (.iload_n 1, 1) := by decide +kernel
theorem dX6_goBack_2 : decode cX6_goBack 2 = .ok (.invokevirtual 227, 3) := by decide +kernel
theorem dX6_goBack_5 : decode cX6_goBack 5 = .ok (.aload_n 0, 1) := by decide +kernel
theorem dX6_goBack_6 : decode cX6_goBack 6 = .ok (.getfield 27, 3) := by decide +kernel
theorem dX6_goBack_9 : decode cX6_goBack 9 = .ok (.iload_n 1, 1) := by decide +kernel
theorem dX6_goBack_10 : decode cX6_goBack 10 = .ok (.baload, 1) := by decide +kernel
theorem dX6_goBack_11 : decode cX6_goBack 11 = .ok (.ifCond .ne 13, 3) := by decide +kernel
theorem dX6_goBack_14 : decode cX6_goBack 14 = .ok (.new 119, 3) := by decide +kernel
theorem dX6_goBack_17 : decode cX6_goBack 17 = .ok (.dup, 1) := by decide +kernel
theorem dX6_goBack_18 : decode cX6_goBack 18 = .ok (.ldc 233, 2) := by decide +kernel
theorem dX6_goBack_20 : decode cX6_goBack 20 = .ok (.invokespecial 123, 3) := by decide +kernel
theorem dX6_goBack_23 : decode cX6_goBack 23 = .ok (.athrow, 1) := by decide +kernel
theorem dX6_goBack_24 : decode cX6_goBack 24 = .ok (.aload_n 0, 1) := by decide +kernel
theorem dX6_goBack_25 : decode cX6_goBack 25 = .ok (.invokevirtual 69, 3) := by decide +kernel
theorem dX6_goBack_28 : decode cX6_goBack 28 = .ok (.aload_n 0, 1) := by decide +kernel
theorem dX6_goBack_29 : decode cX6_goBack 29 = .ok (.getfield 12, 3) := by decide +kernel
theorem dX6_goBack_32 : decode cX6_goBack 32 = .ok (.aload_n 0, 1) := by decide +kernel
theorem dX6_goBack_33 : decode cX6_goBack 33 = .ok (.getfield 23, 3) := by decide +kernel
theorem dX6_goBack_36 : decode cX6_goBack 36 = .ok (.iload_n 1, 1) := by decide +kernel
theorem dX6_goBack_37 : decode cX6_goBack 37 = .ok (.aaload, 1) := by decide +kernel
theorem dX6_goBack_38 : decode cX6_goBack 38 = .ok (.invokevirtual 230, 3) := by decide +kernel
theorem dX6_goBack_41 : decode cX6_goBack 41 = .ok (.aload_n 0, 1) := by decide +kernel
theorem dX6_goBack_42 : decode cX6_goBack 42 = .ok (.getfield 12, 3) := by decide +kernel
theorem dX6_goBack_45 : decode cX6_goBack 45 = .ok (.getfield 72, 3) := by decide +kernel
theorem dX6_goBack_48 : decode cX6_goBack 48 = .ok (.ireturn, 1) := by decide +kernel
theorem dX6_undo_0 : decode cX6_undo 0 = .ok (.aload_n 0, 1) := by decide +kernel
theorem dX6_undo_1 : decode cX6_undo 1 = .ok (.getfield 19, 3) := by decide +kernel
theorem dX6_undo_4 : decode cX6_undo 4 = .ok (.getfield 235, 3) := by decide +kernel
theorem dX6_undo_7 : decode cX6_undo 7 = .ok (.ifCond .ne 13, 3) := by decide +kernel
theorem dX6_undo_10 : decode cX6_undo 10 = .ok (.new 119, 3) := by decide +kernel
theorem dX6_undo_13 : decode cX6_undo 13 = .ok (.dup, 1) := by decide +kernel
theorem dX6_undo_14 : decode cX6_undo 14 = .ok (.ldc 236, 2) := by decide +kernel
theorem dX6_undo_16 : decode cX6_undo 16 = .ok (.invokespecial 123, 3) := by decide +kernel
theorem dX6_undo_19 : decode cX6_undo 19 = .ok (.athrow, 1) := by decide +kernel
theorem dX6_undo_20 : decode cX6_undo 20 = .ok (.aload_n 0, 1) := by decide +kernel
theorem dX6_undo_21 : decode cX6_undo 21 = .ok (.getfield 19, 3) := by decide +kernel
theorem dX6_undo_24 : decode cX6_undo 24 = .ok (.aload_n 0, 1) := by decide +kernel
theorem dX6_undo_25 : decode cX6_undo 25 = .ok (.getfield 12, 3) := by decide +kernel
theorem dX6_undo_28 : decode cX6_undo 28 = .ok (.invokevirtual 238, 3) := by decide +kernel
theorem dX6_undo_31 : decode cX6_undo 31 = .ok (.aload_n 0, 1) := by decide +kernel
theorem dX6_undo_32 : decode cX6_undo 32 = .ok (.getfield 48, 3) := by decide +kernel
theorem dX6_undo_35 : decode cX6_undo 35 = .ok (.iconst 0, 1) := by decide +kernel
theorem dX6_undo_36 : decode cX6_undo 36 = .ok (.putfield 215, 3) := by decide +kernel
theorem dX6_undo_39 : decode cX6_undo 39 = .ok (.aload_n 0, 1) := by decide +kernel
theorem dX6_undo_40 : decode cX6_undo 40 = .ok (.getfield 19, 3) := by decide +kernel
theorem dX6_undo_43 : decode cX6_undo 43 = .ok (.getfield 235, 3) := by decide +kernel
theorem dX6_undo_46 : decode cX6_undo 46 = .ok (.ireturn, 1) := by decide +kernel
theorem dX6_step_0 : decode cX6_step 0 = .ok (.iload_n 1, 1) := by decide +kernel
theorem dX6_step_1 : decode cX6_step 1 = .ok (.invokestatic 241, 3) := by decide +kernel
theorem dX6_step_4 : decode cX6_step 4 = .ok (.ifCond .ne 13, 3) := by decide +kernel
theorem dX6_step_7 : decode cX6_step 7 = .ok (.new 84, 3) := by decide +kernel
theorem dX6_step_10 : decode cX6_step 10 = .ok (.dup, 1) := by decide +kernel
theorem dX6_step_11 : decode cX6_step 11 = .ok (.ldc 244, 2) := by decide +kernel
theorem dX6_step_13 : decode cX6_step 13 = .ok (.invokespecial 88, 3) := by decide +kernel
theorem dX6_step_16 : decode cX6_step 16 = .ok (.athrow, 1) := by decide +kernel
theorem dX6_step_17 : decode cX6_step 17 = .ok (.iload_n 1, 1) := by decide +kernel
theorem dX6_step_18 : decode cX6_step 18 = .ok (.invokestatic 246, 3) := by decide +kernel
theorem dX6_step_21 : decode cX6_step 21 = .ok (.ireturn, 1) := by decide +kernel
theorem dX6_sampleOf_0 : decode cX6_sampleOf 0 = .ok (.aload_n 0, 1) := by decide +kernel
theorem dX6_sampleOf_1 : decode cX6_sampleOf 1 = .ok (.getfield 12, 3) := by decide +kernel
theorem dX6_sampleOf_4 : decode cX6_sampleOf 4 = .ok (.iload_n 1, 1) := by decide +kernel
theorem dX6_sampleOf_5 : decode cX6_sampleOf 5 = .ok (.invokevirtual 80, 3) := by decide +kernel
theorem dX6_sampleOf_8 : decode cX6_sampleOf 8 = .ok (.ifCond .ne 13, 3) := by decide +kernel
theorem dX6_sampleOf_11 : decode cX6_sampleOf 11 = .ok (.new 84, 3) := by decide +kernel
theorem dX6_sampleOf_14 : decode cX6_sampleOf 14 = .ok (.dup, 1) := by decide +kernel
theorem dX6_sampleOf_15 : decode cX6_sampleOf 15 = .ok (.ldc 86, 2) := by decide +kernel
theorem dX6_sampleOf_17 : decode cX6_sampleOf 17 = .ok (.invokespecial 88, 3) := by decide +kernel
theorem dX6_sampleOf_20 : decode cX6_sampleOf 20 = .ok (.athrow, 1) := by decide +kernel
theorem dX6_sampleOf_21 : decode cX6_sampleOf 21 = .ok (.iload_n 2, 1) := by decide +kernel
theorem dX6_sampleOf_22 : decode cX6_sampleOf 22 = .ok (.ifCond .lt 9, 3) := by decide +kernel
theorem dX6_sampleOf_25 : decode cX6_sampleOf 25 = .ok (.iload_n 2, 1) := by decide +kernel
theorem dX6_sampleOf_26 : decode cX6_sampleOf 26 = .ok (.bipush 6, 2) := by decide +kernel
theorem dX6_sampleOf_28 : decode cX6_sampleOf 28 = .ok (.if_icmp .lt 13, 3) := by decide +kernel
theorem dX6_sampleOf_31 : decode cX6_sampleOf 31 = .ok (.new 62, 3) := by decide +kernel
theorem dX6_sampleOf_34 : decode cX6_sampleOf 34 = .ok (.dup, 1) := by decide +kernel
theorem dX6_sampleOf_35 : decode cX6_sampleOf 35 = .ok (.ldc 249, 2) := by decide +kernel
theorem dX6_sampleOf_37 : decode cX6_sampleOf 37 = .ok (.invokespecial 66, 3) := by decide +kernel
theorem dX6_sampleOf_40 : decode cX6_sampleOf 40 = .ok (.athrow, 1) := by decide +kernel
theorem dX6_sampleOf_41 : decode cX6_sampleOf 41 = .ok (.iload_n 2, 1) := by decide +kernel
theorem dX6_sampleOf_42 : decode cX6_sampleOf 42 = .ok (.ifCond .ne 17, 3) := by decide +kernel
theorem dX6_sampleOf_45 : decode cX6_sampleOf 45 = .ok (.aload_n 0, 1) := by decide +kernel
theorem dX6_sampleOf_46 : decode cX6_sampleOf 46 = .ok (.getfield 12, 3) := by decide +kernel
theorem dX6_sampleOf_49 : decode cX6_sampleOf 49 = .ok (.getfield 94, 3) := by decide +kernel
theorem dX6_sampleOf_52 : decode cX6_sampleOf 52 = .ok (.iload_n 1, 1) := by decide +kernel
theorem dX6_sampleOf_53 : decode cX6_sampleOf 53 = .ok (.iaload, 1) := by decide +kernel
theorem dX6_sampleOf_54 : decode cX6_sampleOf 54 = .ok (.sipush 10000, 3) := by decide +kernel
theorem dX6_sampleOf_57 : decode cX6_sampleOf 57 = .ok (.iadd, 1) := by decide +kernel
theorem dX6_sampleOf_58 : decode cX6_sampleOf 58 = .ok (.ireturn, 1) := by decide +kernel
theorem dX6_sampleOf_59 : decode cX6_sampleOf 59 = .ok (.aload_n 0, 1) := by decide +kernel
theorem dX6_sampleOf_60 : decode cX6_sampleOf 60 = .ok (.getfield 12, 3) := by decide +kernel
theorem dX6_sampleOf_63 : decode cX6_sampleOf 63 = .ok (.invokevirtual 115, 3) := by decide +kernel
theorem dX6_sampleOf_66 : decode cX6_sampleOf 66 = .ok (.ifCond .ne 5, 3) := by decide +kernel
theorem dX6_sampleOf_69 : decode cX6_sampleOf 69 = .ok (.iconst (-1), 1) := by decide +kernel
theorem dX6_sampleOf_70 : decode cX6_sampleOf 70 = .ok (.ireturn, 1) := by decide +kernel
theorem dX6_sampleOf_71 : decode cX6_sampleOf 71 = .ok (.aload_n 0, 1) := by decide +kernel
theorem dX6_sampleOf_72 : decode cX6_sampleOf 72 = .ok (.getfield 48, 3) := by decide +kernel
theorem dX6_sampleOf_75 : decode cX6_sampleOf 75 = .ok (.aload_n 0, 1) := by decide +kernel
theorem dX6_sampleOf_76 : decode cX6_sampleOf 76 = .ok (.getfield 12, 3) := by decide +kernel
theorem dX6_sampleOf_79 : decode cX6_sampleOf 79 = .ok (.invokevirtual 124, 3) := by decide +kernel
theorem dX6_sampleOf_82 : decode cX6_sampleOf 82 = .ok (.iload_n 2, 1) := by decide +kernel
theorem dX6_sampleOf_83 : decode cX6_sampleOf 83 = .ok (.tableswitch 77 1 4 #[29, 43, 57, 67], 29) := by decide +kernel
theorem dX6_sampleOf_112 : decode cX6_sampleOf 112 = .ok (.aload_n 0, 1) := by decide +kernel
theorem dX6_sampleOf_113 : decode cX6_sampleOf 113 = .ok (.getfield 48, 3) := by decide +kernel
theorem dX6_sampleOf_116 : decode cX6_sampleOf 116 = .ok (.getfield 132, 3) := by decide +kernel
theorem dX6_sampleOf_119 : decode cX6_sampleOf 119 = .ok (.iload_n 1, 1) := by decide +kernel
theorem dX6_sampleOf_120 : decode cX6_sampleOf 120 = .ok (.iaload, 1) := by decide +kernel
theorem dX6_sampleOf_121 : decode cX6_sampleOf 121 = .ok (.sipush 10000, 3) := by decide +kernel
theorem dX6_sampleOf_124 : decode cX6_sampleOf 124 = .ok (.iadd, 1) := by decide +kernel
theorem dX6_sampleOf_125 : decode cX6_sampleOf 125 = .ok (.ireturn, 1) := by decide +kernel
theorem dX6_sampleOf_126 : decode cX6_sampleOf 126 = .ok (.aload_n 0, 1) := by decide +kernel
theorem dX6_sampleOf_127 : decode cX6_sampleOf 127 = .ok (.getfield 12, 3) := by decide +kernel
theorem dX6_sampleOf_130 : decode cX6_sampleOf 130 = .ok (.getfield 251, 3) := by decide +kernel
theorem dX6_sampleOf_133 : decode cX6_sampleOf 133 = .ok (.iload_n 1, 1) := by decide +kernel
theorem dX6_sampleOf_134 : decode cX6_sampleOf 134 = .ok (.iaload, 1) := by decide +kernel
theorem dX6_sampleOf_135 : decode cX6_sampleOf 135 = .ok (.sipush 10000, 3) := by decide +kernel
theorem dX6_sampleOf_138 : decode cX6_sampleOf 138 = .ok (.iadd, 1) := by decide +kernel
theorem dX6_sampleOf_139 : decode cX6_sampleOf 139 = .ok (.ireturn, 1) := by decide +kernel
theorem dX6_sampleOf_140 : decode cX6_sampleOf 140 = .ok (.aload_n 0, 1) := by decide +kernel
theorem dX6_sampleOf_141 : decode cX6_sampleOf 141 = .ok (.getfield 12, 3) := by decide +kernel
theorem dX6_sampleOf_144 : decode cX6_sampleOf 144 = .ok (.getfield 181, 3) := by decide +kernel
theorem dX6_sampleOf_147 : decode cX6_sampleOf 147 = .ok (.iload_n 1, 1) := by decide +kernel
theorem dX6_sampleOf_148 : decode cX6_sampleOf 148 = .ok (.iaload, 1) := by decide +kernel
theorem dX6_sampleOf_149 : decode cX6_sampleOf 149 = .ok (.ireturn, 1) := by decide +kernel
theorem dX6_sampleOf_150 : decode cX6_sampleOf 150 = .ok (.aload_n 0, 1) := by decide +kernel
theorem dX6_sampleOf_151 : decode cX6_sampleOf 151 = .ok (.getfield 48, 3) := by decide +kernel
theorem dX6_sampleOf_154 : decode cX6_sampleOf 154 = .ok (.getfield 254, 3) := by decide +kernel
theorem dX6_sampleOf_157 : decode cX6_sampleOf 157 = .ok (.iload_n 1, 1) := by decide +kernel
theorem dX6_sampleOf_158 : decode cX6_sampleOf 158 = .ok (.iaload, 1) := by decide +kernel
theorem dX6_sampleOf_159 : decode cX6_sampleOf 159 = .ok (.ireturn, 1) := by decide +kernel
theorem dX6_sampleOf_160 : decode cX6_sampleOf 160 = .ok (.aload_n 0, 1) := by decide +kernel
theorem dX6_sampleOf_161 : decode cX6_sampleOf 161 = .ok (.getfield 12, 3) := by decide +kernel
theorem dX6_sampleOf_164 : decode cX6_sampleOf 164 = .ok (.getfield 94, 3) := by decide +kernel
theorem dX6_sampleOf_167 : decode cX6_sampleOf 167 = .ok (.iload_n 1, 1) := by decide +kernel
theorem dX6_sampleOf_168 : decode cX6_sampleOf 168 = .ok (.iaload, 1) := by decide +kernel
theorem dX6_sampleOf_169 : decode cX6_sampleOf 169 = .ok (.aload_n 0, 1) := by decide +kernel
theorem dX6_sampleOf_170 : decode cX6_sampleOf 170 = .ok (.getfield 48, 3) := by decide +kernel
theorem dX6_sampleOf_173 : decode cX6_sampleOf 173 = .ok (.getfield 132, 3) := by decide +kernel
theorem dX6_sampleOf_176 : decode cX6_sampleOf 176 = .ok (.iload_n 1, 1) := by decide +kernel
theorem dX6_sampleOf_177 : decode cX6_sampleOf 177 = .ok (.iaload, 1) := by decide +kernel
theorem dX6_sampleOf_178 : decode cX6_sampleOf 178 = .ok (.isub, 1) := by decide +kernel
theorem dX6_sampleOf_179 : decode cX6_sampleOf 179 = .ok (.sipush 10000, 3) := by decide +kernel
theorem dX6_sampleOf_182 : decode cX6_sampleOf 182 = .ok (.iadd, 1) := by decide +kernel
theorem dX6_sampleOf_183 : decode cX6_sampleOf 183 = .ok (.ireturn, 1) := by decide +kernel
theorem dX6_blockOf_0 : decode cX6_blockOf 0 = .ok (.aload_n 0, 1) := by decide +kernel
theorem dX6_blockOf_1 : decode cX6_blockOf 1 = .ok (.iload_n 1, 1) := by decide +kernel
theorem dX6_blockOf_2 : decode cX6_blockOf 2 = .ok (.invokevirtual 161, 3) := by decide +kernel
theorem dX6_blockOf_5 : decode cX6_blockOf 5 = .ok (.iload_n 2, 1) := by decide +kernel
theorem dX6_blockOf_6 : decode cX6_blockOf 6 = .ok (.ifCond .lt 9, 3) := by decide +kernel
theorem dX6_blockOf_9 : decode cX6_blockOf 9 = .ok (.iload_n 2, 1) := by decide +kernel
theorem dX6_blockOf_10 : decode cX6_blockOf 10 = .ok (.bipush 6, 2) := by decide +kernel
theorem dX6_blockOf_12 : decode cX6_blockOf 12 = .ok (.if_icmp .lt 13, 3) := by decide +kernel
theorem dX6_blockOf_15 : decode cX6_blockOf 15 = .ok (.new 62, 3) := by decide +kernel
theorem dX6_blockOf_18 : decode cX6_blockOf 18 = .ok (.dup, 1) := by decide +kernel
theorem dX6_blockOf_19 : decode cX6_blockOf 19 = .ok (.ldc 249, 2) := by decide +kernel
theorem dX6_blockOf_21 : decode cX6_blockOf 21 = .ok (.invokespecial 66, 3) := by decide +kernel
theorem dX6_blockOf_24 : decode cX6_blockOf 24 = .ok (.athrow, 1) := by decide +kernel
theorem dX6_blockOf_25 : decode cX6_blockOf 25 = .ok (.iload_n 2, 1) := by decide +kernel
theorem dX6_blockOf_26 : decode cX6_blockOf 26 = .ok (.tableswitch 133 0 4 #[34, 52, 66, 76, 94], 34) := by decide +kernel
theorem dX6_blockOf_60 : decode cX6_blockOf 60 = .ok (.aload_n 0, 1) := by decide +kernel
theorem dX6_blockOf_61 : decode cX6_blockOf 61 = .ok (.getfield 12, 3) := by decide +kernel
theorem dX6_blockOf_64 : decode cX6_blockOf 64 = .ok (.iload_n 1, 1) := by decide +kernel
theorem dX6_blockOf_65 : decode cX6_blockOf 65 = .ok (.invokevirtual 257, 3) := by decide +kernel
theorem dX6_blockOf_68 : decode cX6_blockOf 68 = .ok (.aload_n 0, 1) := by decide +kernel
theorem dX6_blockOf_69 : decode cX6_blockOf 69 = .ok (.getfield 12, 3) := by decide +kernel
theorem dX6_blockOf_72 : decode cX6_blockOf 72 = .ok (.iload_n 1, 1) := by decide +kernel
theorem dX6_blockOf_73 : decode cX6_blockOf 73 = .ok (.invokevirtual 260, 3) := by decide +kernel
theorem dX6_blockOf_76 : decode cX6_blockOf 76 = .ok (.isub, 1) := by decide +kernel
theorem dX6_blockOf_77 : decode cX6_blockOf 77 = .ok (.ireturn, 1) := by decide +kernel
theorem dX6_blockOf_78 : decode cX6_blockOf 78 = .ok (.aload_n 0, 1) := by decide +kernel
theorem dX6_blockOf_79 : decode cX6_blockOf 79 = .ok (.getfield 12, 3) := by decide +kernel
theorem dX6_blockOf_82 : decode cX6_blockOf 82 = .ok (.getfield 263, 3) := by decide +kernel
theorem dX6_blockOf_85 : decode cX6_blockOf 85 = .ok (.iload_n 1, 1) := by decide +kernel
theorem dX6_blockOf_86 : decode cX6_blockOf 86 = .ok (.iaload, 1) := by decide +kernel
theorem dX6_blockOf_87 : decode cX6_blockOf 87 = .ok (.sipush 10000, 3) := by decide +kernel
theorem dX6_blockOf_90 : decode cX6_blockOf 90 = .ok (.iadd, 1) := by decide +kernel
theorem dX6_blockOf_91 : decode cX6_blockOf 91 = .ok (.ireturn, 1) := by decide +kernel
theorem dX6_blockOf_92 : decode cX6_blockOf 92 = .ok (.aload_n 0, 1) := by decide +kernel
theorem dX6_blockOf_93 : decode cX6_blockOf 93 = .ok (.getfield 12, 3) := by decide +kernel
theorem dX6_blockOf_96 : decode cX6_blockOf 96 = .ok (.getfield 266, 3) := by decide +kernel
theorem dX6_blockOf_99 : decode cX6_blockOf 99 = .ok (.iload_n 1, 1) := by decide +kernel
theorem dX6_blockOf_100 : decode cX6_blockOf 100 = .ok (.iaload, 1) := by decide +kernel
theorem dX6_blockOf_101 : decode cX6_blockOf 101 = .ok (.ireturn, 1) := by decide +kernel
theorem dX6_blockOf_102 : decode cX6_blockOf 102 = .ok (.aload_n 0, 1) := by decide +kernel
theorem dX6_blockOf_103 : decode cX6_blockOf 103 = .ok (.getfield 12, 3) := by decide +kernel
theorem dX6_blockOf_106 : decode cX6_blockOf 106 = .ok (.getfield 164, 3) := by decide +kernel
theorem dX6_blockOf_109 : decode cX6_blockOf 109 = .ok (.iload_n 1, 1) := by decide +kernel
theorem dX6_blockOf_110 : decode cX6_blockOf 110 = .ok (.baload, 1) := by decide +kernel
theorem dX6_blockOf_111 : decode cX6_blockOf 111 = .ok (.ifCond .eq 7, 3) := by decide +kernel
theorem dX6_blockOf_114 : decode cX6_blockOf 114 = .ok (.iconst 1, 1) := by decide +kernel
theorem dX6_blockOf_115 : decode cX6_blockOf 115 = .ok (.goto 4, 3) := by decide +kernel
theorem dX6_blockOf_118 : decode cX6_blockOf 118 = .ok (.iconst 0, 1) := by decide +kernel
theorem dX6_blockOf_119 : decode cX6_blockOf 119 = .ok (.ireturn, 1) := by decide +kernel
theorem dX6_blockOf_120 : decode cX6_blockOf 120 = .ok (.aload_n 0, 1) := by decide +kernel
theorem dX6_blockOf_121 : decode cX6_blockOf 121 = .ok (.getfield 48, 3) := by decide +kernel
theorem dX6_blockOf_124 : decode cX6_blockOf 124 = .ok (.aload_n 0, 1) := by decide +kernel
theorem dX6_blockOf_125 : decode cX6_blockOf 125 = .ok (.getfield 12, 3) := by decide +kernel
theorem dX6_blockOf_128 : decode cX6_blockOf 128 = .ok (.invokevirtual 124, 3) := by decide +kernel
theorem dX6_blockOf_131 : decode cX6_blockOf 131 = .ok (.aload_n 0, 1) := by decide +kernel
theorem dX6_blockOf_132 : decode cX6_blockOf 132 = .ok (.getfield 48, 3) := by decide +kernel
theorem dX6_blockOf_135 : decode cX6_blockOf 135 = .ok (.aload_n 0, 1) := by decide +kernel
theorem dX6_blockOf_136 : decode cX6_blockOf 136 = .ok (.getfield 12, 3) := by decide +kernel
theorem dX6_blockOf_139 : decode cX6_blockOf 139 = .ok (.aload_n 0, 1) := by decide +kernel
theorem dX6_blockOf_140 : decode cX6_blockOf 140 = .ok (.getfield 12, 3) := by decide +kernel
theorem dX6_blockOf_143 : decode cX6_blockOf 143 = .ok (.iload_n 1, 1) := by decide +kernel
theorem dX6_blockOf_144 : decode cX6_blockOf 144 = .ok (.invokevirtual 260, 3) := by decide +kernel
theorem dX6_blockOf_147 : decode cX6_blockOf 147 = .ok (.aload_n 0, 1) := by decide +kernel
theorem dX6_blockOf_148 : decode cX6_blockOf 148 = .ok (.getfield 12, 3) := by decide +kernel
theorem dX6_blockOf_151 : decode cX6_blockOf 151 = .ok (.iload_n 1, 1) := by decide +kernel
theorem dX6_blockOf_152 : decode cX6_blockOf 152 = .ok (.invokevirtual 257, 3) := by decide +kernel
theorem dX6_blockOf_155 : decode cX6_blockOf 155 = .ok (.invokevirtual 269, 3) := by decide +kernel
theorem dX6_blockOf_158 : decode cX6_blockOf 158 = .ok (.ireturn, 1) := by decide +kernel
theorem dX6_blockOf_159 : decode cX6_blockOf 159 = .ok (.aload_n 0, 1) := by decide +kernel
theorem dX6_blockOf_160 : decode cX6_blockOf 160 = .ok (.iload_n 1, 1) := by decide +kernel
theorem dX6_blockOf_161 : decode cX6_blockOf 161 = .ok (.invokevirtual 273, 3) := by decide +kernel
theorem dX6_blockOf_164 : decode cX6_blockOf 164 = .ok (.ireturn, 1) := by decide +kernel
theorem dX6_count_0 : decode cX6_count 0 = .ok (.iload_n 1, 1) := by decide +kernel
theorem dX6_count_1 : decode cX6_count 1 = .ok (.ifCond .lt 9, 3) := by decide +kernel
theorem dX6_count_4 : decode cX6_count 4 = .ok (.iload_n 1, 1) := by decide +kernel
theorem dX6_count_5 : decode cX6_count 5 = .ok (.bipush 12, 2) := by decide +kernel
theorem dX6_count_7 : decode cX6_count 7 = .ok (.if_icmp .lt 14, 3) := by decide +kernel
theorem dX6_count_10 : decode cX6_count 10 = .ok (.new 62, 3) := by decide +kernel
theorem dX6_count_13 : decode cX6_count 13 = .ok (.dup, 1) := by decide +kernel
theorem dX6_count_14 : decode cX6_count 14 = .ok (.ldc_w 276, 3) := by decide +kernel
theorem dX6_count_17 : decode cX6_count 17 = .ok (.invokespecial 66, 3) := by decide +kernel
theorem dX6_count_20 : decode cX6_count 20 = .ok (.athrow, 1) := by decide +kernel
theorem dX6_count_21 : decode cX6_count 21 = .ok (.iload_n 1, 1) := by decide +kernel
theorem dX6_count_22 : decode cX6_count 22 = .ok (.tableswitch 126 0 11 #[62, 70, 86, 94, 126, 126, 126, 126, 126, 102, 110, 118], 62) := by decide +kernel
theorem dX6_count_84 : decode cX6_count 84 = .ok (.aload_n 0, 1) := by decide +kernel
theorem dX6_count_85 : decode cX6_count 85 = .ok (.getfield 12, 3) := by decide +kernel
theorem dX6_count_88 : decode cX6_count 88 = .ok (.getfield 72, 3) := by decide +kernel
theorem dX6_count_91 : decode cX6_count 91 = .ok (.ireturn, 1) := by decide +kernel
theorem dX6_count_92 : decode cX6_count 92 = .ok (.aload_n 0, 1) := by decide +kernel
theorem dX6_count_93 : decode cX6_count 93 = .ok (.getfield 12, 3) := by decide +kernel
theorem dX6_count_96 : decode cX6_count 96 = .ok (.invokevirtual 115, 3) := by decide +kernel
theorem dX6_count_99 : decode cX6_count 99 = .ok (.ifCond .eq 7, 3) := by decide +kernel
theorem dX6_count_102 : decode cX6_count 102 = .ok (.iconst 1, 1) := by decide +kernel
theorem dX6_count_103 : decode cX6_count 103 = .ok (.goto 4, 3) := by decide +kernel
theorem dX6_count_106 : decode cX6_count 106 = .ok (.iconst 0, 1) := by decide +kernel
theorem dX6_count_107 : decode cX6_count 107 = .ok (.ireturn, 1) := by decide +kernel
theorem dX6_count_108 : decode cX6_count 108 = .ok (.aload_n 0, 1) := by decide +kernel
theorem dX6_count_109 : decode cX6_count 109 = .ok (.getfield 12, 3) := by decide +kernel
theorem dX6_count_112 : decode cX6_count 112 = .ok (.getfield 158, 3) := by decide +kernel
theorem dX6_count_115 : decode cX6_count 115 = .ok (.ireturn, 1) := by decide +kernel
theorem dX6_count_116 : decode cX6_count 116 = .ok (.aload_n 0, 1) := by decide +kernel
theorem dX6_count_117 : decode cX6_count 117 = .ok (.getfield 12, 3) := by decide +kernel
theorem dX6_count_120 : decode cX6_count 120 = .ok (.invokevirtual 167, 3) := by decide +kernel
theorem dX6_count_123 : decode cX6_count 123 = .ok (.ireturn, 1) := by decide +kernel
theorem dX6_count_124 : decode cX6_count 124 = .ok (.aload_n 0, 1) := by decide +kernel
theorem dX6_count_125 : decode cX6_count 125 = .ok (.getfield 12, 3) := by decide +kernel
theorem dX6_count_128 : decode cX6_count 128 = .ok (.getfield 278, 3) := by decide +kernel
theorem dX6_count_131 : decode cX6_count 131 = .ok (.ireturn, 1) := by decide +kernel
theorem dX6_count_132 : decode cX6_count 132 = .ok (.aload_n 0, 1) := by decide +kernel
theorem dX6_count_133 : decode cX6_count 133 = .ok (.getfield 12, 3) := by decide +kernel
theorem dX6_count_136 : decode cX6_count 136 = .ok (.getfield 178, 3) := by decide +kernel
theorem dX6_count_139 : decode cX6_count 139 = .ok (.ireturn, 1) := by decide +kernel
theorem dX6_count_140 : decode cX6_count 140 = .ok (.aload_n 0, 1) := by decide +kernel
theorem dX6_count_141 : decode cX6_count 141 = .ok (.getfield 19, 3) := by decide +kernel
theorem dX6_count_144 : decode cX6_count 144 = .ok (.getfield 235, 3) := by decide +kernel
theorem dX6_count_147 : decode cX6_count 147 = .ok (.ireturn, 1) := by decide +kernel
theorem dX6_count_148 : decode cX6_count 148 = .ok (.aload_n 0, 1) := by decide +kernel
theorem dX6_count_149 : decode cX6_count 149 = .ok (.getfield 12, 3) := by decide +kernel
theorem dX6_count_152 : decode cX6_count 152 = .ok (.invokevirtual 115, 3) := by decide +kernel
theorem dX6_count_155 : decode cX6_count 155 = .ok (.ifCond .eq 11, 3) := by decide +kernel
theorem dX6_count_158 : decode cX6_count 158 = .ok (.aload_n 0, 1) := by decide +kernel
theorem dX6_count_159 : decode cX6_count 159 = .ok (.iload_n 1, 1) := by decide +kernel
theorem dX6_count_160 : decode cX6_count 160 = .ok (.invokevirtual 281, 3) := by decide +kernel
theorem dX6_count_163 : decode cX6_count 163 = .ok (.goto 4, 3) := by decide +kernel
theorem dX6_count_166 : decode cX6_count 166 = .ok (.iconst 0, 1) := by decide +kernel
theorem dX6_count_167 : decode cX6_count 167 = .ok (.ireturn, 1) := by decide +kernel
theorem dX6_setting_0 : decode cX6_setting 0 = .ok (.iload_n 1, 1) := by decide +kernel
theorem dX6_setting_1 : decode cX6_setting 1 = .ok (.invokestatic 139, 3) := by decide +kernel
theorem dX6_setting_4 : decode cX6_setting 4 = .ok (.ifCond .ne 13, 3) := by decide +kernel
theorem dX6_setting_7 : decode cX6_setting 7 = .ok (.new 84, 3) := by decide +kernel
theorem dX6_setting_10 : decode cX6_setting 10 = .ok (.dup, 1) := by decide +kernel
theorem dX6_setting_11 : decode cX6_setting 11 = .ok (.ldc 142, 2) := by decide +kernel
theorem dX6_setting_13 : decode cX6_setting 13 = .ok (.invokespecial 88, 3) := by decide +kernel
theorem dX6_setting_16 : decode cX6_setting 16 = .ok (.athrow, 1) := by decide +kernel
theorem dX6_setting_17 : decode cX6_setting 17 = .ok (.aload_n 0, 1) := by decide +kernel
theorem dX6_setting_18 : decode cX6_setting 18 = .ok (.getfield 12, 3) := by decide +kernel
theorem dX6_setting_21 : decode cX6_setting 21 = .ok (.getfield 152, 3) := by decide +kernel
theorem dX6_setting_24 : decode cX6_setting 24 = .ok (.iload_n 1, 1) := by decide +kernel
theorem dX6_setting_25 : decode cX6_setting 25 = .ok (.iaload, 1) := by decide +kernel
theorem dX6_setting_26 : decode cX6_setting 26 = .ok (.ireturn, 1) := by decide +kernel
theorem dX6_ifCoded_0 : decode cX6_ifCoded 0 = .ok (.iload_n 1, 1) := by decide +kernel
theorem dX6_ifCoded_1 : decode cX6_ifCoded 1 = .ok (.invokestatic 89, 3) := by decide +kernel
theorem dX6_ifCoded_4 : decode cX6_ifCoded 4 = .ok (.ifCond .eq 10, 3) := by decide +kernel
theorem dX6_ifCoded_7 : decode cX6_ifCoded 7 = .ok (.iload_n 3, 1) := by decide +kernel
theorem dX6_ifCoded_8 : decode cX6_ifCoded 8 = .ok (.invokestatic 89, 3) := by decide +kernel
theorem dX6_ifCoded_11 : decode cX6_ifCoded 11 = .ok (.ifCond .ne 14, 3) := by decide +kernel
theorem dX6_ifCoded_14 : decode cX6_ifCoded 14 = .ok (.new 62, 3) := by decide +kernel
theorem dX6_ifCoded_17 : decode cX6_ifCoded 17 = .ok (.dup, 1) := by decide +kernel
theorem dX6_ifCoded_18 : decode cX6_ifCoded 18 = .ok (.ldc_w 284, 3) := by decide +kernel
theorem dX6_ifCoded_21 : decode cX6_ifCoded 21 = .ok (.invokespecial 66, 3) := by decide +kernel
theorem dX6_ifCoded_24 : decode cX6_ifCoded 24 = .ok (.athrow, 1) := by decide +kernel
theorem dX6_ifCoded_25 : decode cX6_ifCoded 25 = .ok (.iload_n 2, 1) := by decide +kernel
theorem dX6_ifCoded_26 : decode cX6_ifCoded 26 = .ok (.invokestatic 241, 3) := by decide +kernel
theorem dX6_ifCoded_29 : decode cX6_ifCoded 29 = .ok (.ifCond .ne 14, 3) := by decide +kernel
theorem dX6_ifCoded_32 : decode cX6_ifCoded 32 = .ok (.new 62, 3) := by decide +kernel
theorem dX6_ifCoded_35 : decode cX6_ifCoded 35 = .ok (.dup, 1) := by decide +kernel
theorem dX6_ifCoded_36 : decode cX6_ifCoded 36 = .ok (.ldc_w 286, 3) := by decide +kernel
theorem dX6_ifCoded_39 : decode cX6_ifCoded 39 = .ok (.invokespecial 66, 3) := by decide +kernel
theorem dX6_ifCoded_42 : decode cX6_ifCoded 42 = .ok (.athrow, 1) := by decide +kernel
theorem dX6_ifCoded_43 : decode cX6_ifCoded 43 = .ok (.iload 4, 2) := by decide +kernel
theorem dX6_ifCoded_45 : decode cX6_ifCoded 45 = .ok (.ifCond .lt 9, 3) := by decide +kernel
theorem dX6_ifCoded_48 : decode cX6_ifCoded 48 = .ok (.iload 4, 2) := by decide +kernel
theorem dX6_ifCoded_50 : decode cX6_ifCoded 50 = .ok (.iconst 2, 1) := by decide +kernel
theorem dX6_ifCoded_51 : decode cX6_ifCoded 51 = .ok (.if_icmp .le 14, 3) := by decide +kernel
theorem dX6_ifCoded_54 : decode cX6_ifCoded 54 = .ok (.new 62, 3) := by decide +kernel
theorem dX6_ifCoded_57 : decode cX6_ifCoded 57 = .ok (.dup, 1) := by decide +kernel
theorem dX6_ifCoded_58 : decode cX6_ifCoded 58 = .ok (.ldc_w 288, 3) := by decide +kernel
theorem dX6_ifCoded_61 : decode cX6_ifCoded 61 = .ok (.invokespecial 66, 3) := by decide +kernel
theorem dX6_ifCoded_64 : decode cX6_ifCoded 64 = .ok (.athrow, 1) := by decide +kernel
theorem dX6_ifCoded_65 : decode cX6_ifCoded 65 = .ok (.aload_n 0, 1) := by decide +kernel
theorem dX6_ifCoded_66 : decode cX6_ifCoded 66 = .ok (.getfield 58, 3) := by decide +kernel
theorem dX6_ifCoded_69 : decode cX6_ifCoded 69 = .ok (.iload_n 1, 1) := by decide +kernel
theorem dX6_ifCoded_70 : decode cX6_ifCoded 70 = .ok (.iload_n 2, 1) := by decide +kernel
theorem dX6_ifCoded_71 : decode cX6_ifCoded 71 = .ok (.invokevirtual 290, 3) := by decide +kernel
theorem dX6_ifCoded_74 : decode cX6_ifCoded 74 = .ok (.aload_n 0, 1) := by decide +kernel
theorem dX6_ifCoded_75 : decode cX6_ifCoded 75 = .ok (.getfield 58, 3) := by decide +kernel
theorem dX6_ifCoded_78 : decode cX6_ifCoded 78 = .ok (.iload_n 3, 1) := by decide +kernel
theorem dX6_ifCoded_79 : decode cX6_ifCoded 79 = .ok (.invokevirtual 293, 3) := by decide +kernel
theorem dX6_ifCoded_82 : decode cX6_ifCoded 82 = .ok (.istore 5, 2) := by decide +kernel
theorem dX6_ifCoded_84 : decode cX6_ifCoded 84 = .ok (.aload_n 0, 1) := by decide +kernel
theorem dX6_ifCoded_85 : decode cX6_ifCoded 85 = .ok (.getfield 58, 3) := by decide +kernel
theorem dX6_ifCoded_88 : decode cX6_ifCoded 88 = .ok (.iload 5, 2) := by decide +kernel
theorem dX6_ifCoded_90 : decode cX6_ifCoded 90 = .ok (.invokevirtual 296, 3) := by decide +kernel
theorem dX6_ifCoded_93 : decode cX6_ifCoded 93 = .ok (.iload 4, 2) := by decide +kernel
theorem dX6_ifCoded_95 : decode cX6_ifCoded 95 = .ok (.lookupswitch 40 #[(0, 25), (1, 28)], 25) := by decide +kernel
theorem dX6_ifCoded_120 : decode cX6_ifCoded 120 = .ok (.iload 5, 2) := by decide +kernel
theorem dX6_ifCoded_122 : decode cX6_ifCoded 122 = .ok (.ireturn, 1) := by decide +kernel
theorem dX6_ifCoded_123 : decode cX6_ifCoded 123 = .ok (.aload_n 0, 1) := by decide +kernel
theorem dX6_ifCoded_124 : decode cX6_ifCoded 124 = .ok (.getfield 58, 3) := by decide +kernel
theorem dX6_ifCoded_127 : decode cX6_ifCoded 127 = .ok (.getfield 299, 3) := by decide +kernel
theorem dX6_ifCoded_130 : decode cX6_ifCoded 130 = .ok (.sipush 10000, 3) := by decide +kernel
theorem dX6_ifCoded_133 : decode cX6_ifCoded 133 = .ok (.iadd, 1) := by decide +kernel
theorem dX6_ifCoded_134 : decode cX6_ifCoded 134 = .ok (.ireturn, 1) := by decide +kernel
theorem dX6_ifCoded_135 : decode cX6_ifCoded 135 = .ok (.aload_n 0, 1) := by decide +kernel
theorem dX6_ifCoded_136 : decode cX6_ifCoded 136 = .ok (.getfield 58, 3) := by decide +kernel
theorem dX6_ifCoded_139 : decode cX6_ifCoded 139 = .ok (.getfield 302, 3) := by decide +kernel
theorem dX6_ifCoded_142 : decode cX6_ifCoded 142 = .ok (.ireturn, 1) := by decide +kernel
theorem dX6_ifBlock_0 : decode cX6_ifBlock 0 = .ok (.aload_n 0, 1) := by decide +kernel
theorem dX6_ifBlock_1 : decode cX6_ifBlock 1 = .ok (.iload_n 1, 1) := by decide +kernel
theorem dX6_ifBlock_2 : decode cX6_ifBlock 2 = .ok (.iload_n 2, 1) := by decide +kernel
theorem dX6_ifBlock_3 : decode cX6_ifBlock 3 = .ok (.invokevirtual 305, 3) := by decide +kernel
theorem dX6_ifBlock_6 : decode cX6_ifBlock 6 = .ok (.iload_n 3, 1) := by decide +kernel
theorem dX6_ifBlock_7 : decode cX6_ifBlock 7 = .ok (.invokestatic 241, 3) := by decide +kernel
theorem dX6_ifBlock_10 : decode cX6_ifBlock 10 = .ok (.ifCond .ne 14, 3) := by decide +kernel
theorem dX6_ifBlock_13 : decode cX6_ifBlock 13 = .ok (.new 62, 3) := by decide +kernel
theorem dX6_ifBlock_16 : decode cX6_ifBlock 16 = .ok (.dup, 1) := by decide +kernel
theorem dX6_ifBlock_17 : decode cX6_ifBlock 17 = .ok (.ldc_w 286, 3) := by decide +kernel
theorem dX6_ifBlock_20 : decode cX6_ifBlock 20 = .ok (.invokespecial 66, 3) := by decide +kernel
theorem dX6_ifBlock_23 : decode cX6_ifBlock 23 = .ok (.athrow, 1) := by decide +kernel
theorem dX6_ifBlock_24 : decode cX6_ifBlock 24 = .ok (.aload_n 0, 1) := by decide +kernel
theorem dX6_ifBlock_25 : decode cX6_ifBlock 25 = .ok (.getfield 41, 3) := by decide +kernel
theorem dX6_ifBlock_28 : decode cX6_ifBlock 28 = .ok (.aload_n 0, 1) := by decide +kernel
theorem dX6_ifBlock_29 : decode cX6_ifBlock 29 = .ok (.getfield 12, 3) := by decide +kernel
theorem dX6_ifBlock_32 : decode cX6_ifBlock 32 = .ok (.iload_n 1, 1) := by decide +kernel
theorem dX6_ifBlock_33 : decode cX6_ifBlock 33 = .ok (.iload_n 1, 1) := by decide +kernel
theorem dX6_ifBlock_34 : decode cX6_ifBlock 34 = .ok (.iload_n 2, 1) := by decide +kernel
theorem dX6_ifBlock_35 : decode cX6_ifBlock 35 = .ok (.iadd, 1) := by decide +kernel
theorem dX6_ifBlock_36 : decode cX6_ifBlock 36 = .ok (.iload_n 3, 1) := by decide +kernel
theorem dX6_ifBlock_37 : decode cX6_ifBlock 37 = .ok (.invokevirtual 308, 3) := by decide +kernel
theorem dX6_ifBlock_40 : decode cX6_ifBlock 40 = .ok (.ireturn, 1) := by decide +kernel
theorem dX6_bestStep_0 : decode cX6_bestStep 0 = .ok (.aload_n 0, 1) := by decide +kernel
theorem dX6_bestStep_1 : decode cX6_bestStep 1 = .ok (.iload_n 1, 1) := by decide +kernel
theorem dX6_bestStep_2 : decode cX6_bestStep 2 = .ok (.iload_n 2, 1) := by decide +kernel
theorem dX6_bestStep_3 : decode cX6_bestStep 3 = .ok (.invokevirtual 305, 3) := by decide +kernel
theorem dX6_bestStep_6 : decode cX6_bestStep 6 = .ok (.aload_n 0, 1) := by decide +kernel
theorem dX6_bestStep_7 : decode cX6_bestStep 7 = .ok (.getfield 41, 3) := by decide +kernel
theorem dX6_bestStep_10 : decode cX6_bestStep 10 = .ok (.aload_n 0, 1) := by decide +kernel
theorem dX6_bestStep_11 : decode cX6_bestStep 11 = .ok (.getfield 12, 3) := by decide +kernel
theorem dX6_bestStep_14 : decode cX6_bestStep 14 = .ok (.iload_n 1, 1) := by decide +kernel
theorem dX6_bestStep_15 : decode cX6_bestStep 15 = .ok (.iload_n 1, 1) := by decide +kernel
theorem dX6_bestStep_16 : decode cX6_bestStep 16 = .ok (.iload_n 2, 1) := by decide +kernel
theorem dX6_bestStep_17 : decode cX6_bestStep 17 = .ok (.iadd, 1) := by decide +kernel
theorem dX6_bestStep_18 : decode cX6_bestStep 18 = .ok (.invokevirtual 312, 3) := by decide +kernel
theorem dX6_bestStep_21 : decode cX6_bestStep 21 = .ok (.ireturn, 1) := by decide +kernel
theorem dX6_ifSpoiled_0 : decode cX6_ifSpoiled 0 = .ok (.aload_n 0, 1) := by decide +kernel
theorem dX6_ifSpoiled_1 : decode cX6_ifSpoiled 1 = .ok (.iload_n 1, 1) := by decide +kernel
theorem dX6_ifSpoiled_2 : decode cX6_ifSpoiled 2 = .ok (.iload_n 2, 1) := by decide +kernel
theorem dX6_ifSpoiled_3 : decode cX6_ifSpoiled 3 = .ok (.invokevirtual 171, 3) := by decide +kernel
theorem dX6_ifSpoiled_6 : decode cX6_ifSpoiled 6 = .ok (.aload_n 0, 1) := by decide +kernel
theorem dX6_ifSpoiled_7 : decode cX6_ifSpoiled 7 = .ok (.getfield 48, 3) := by decide +kernel
theorem dX6_ifSpoiled_10 : decode cX6_ifSpoiled 10 = .ok (.aload_n 0, 1) := by decide +kernel
theorem dX6_ifSpoiled_11 : decode cX6_ifSpoiled 11 = .ok (.getfield 12, 3) := by decide +kernel
theorem dX6_ifSpoiled_14 : decode cX6_ifSpoiled 14 = .ok (.invokevirtual 124, 3) := by decide +kernel
theorem dX6_ifSpoiled_17 : decode cX6_ifSpoiled 17 = .ok (.aload_n 0, 1) := by decide +kernel
theorem dX6_ifSpoiled_18 : decode cX6_ifSpoiled 18 = .ok (.getfield 12, 3) := by decide +kernel
theorem dX6_ifSpoiled_21 : decode cX6_ifSpoiled 21 = .ok (.iload_n 1, 1) := by decide +kernel
theorem dX6_ifSpoiled_22 : decode cX6_ifSpoiled 22 = .ok (.iload_n 2, 1) := by decide +kernel
theorem dX6_ifSpoiled_23 : decode cX6_ifSpoiled 23 = .ok (.invokevirtual 175, 3) := by decide +kernel
theorem dX6_ifSpoiled_26 : decode cX6_ifSpoiled 26 = .ok (.aload_n 0, 1) := by decide +kernel
theorem dX6_ifSpoiled_27 : decode cX6_ifSpoiled 27 = .ok (.getfield 52, 3) := by decide +kernel
theorem dX6_ifSpoiled_30 : decode cX6_ifSpoiled 30 = .ok (.iconst 0, 1) := by decide +kernel
theorem dX6_ifSpoiled_31 : decode cX6_ifSpoiled 31 = .ok (.putfield 215, 3) := by decide +kernel
theorem dX6_ifSpoiled_34 : decode cX6_ifSpoiled 34 = .ok (.aload_n 0, 1) := by decide +kernel
theorem dX6_ifSpoiled_35 : decode cX6_ifSpoiled 35 = .ok (.getfield 52, 3) := by decide +kernel
theorem dX6_ifSpoiled_38 : decode cX6_ifSpoiled 38 = .ok (.aload_n 0, 1) := by decide +kernel
theorem dX6_ifSpoiled_39 : decode cX6_ifSpoiled 39 = .ok (.getfield 12, 3) := by decide +kernel
theorem dX6_ifSpoiled_42 : decode cX6_ifSpoiled 42 = .ok (.invokevirtual 124, 3) := by decide +kernel
theorem dX6_ifSpoiled_45 : decode cX6_ifSpoiled 45 = .ok (.aload_n 0, 1) := by decide +kernel
theorem dX6_ifSpoiled_46 : decode cX6_ifSpoiled 46 = .ok (.getfield 12, 3) := by decide +kernel
theorem dX6_ifSpoiled_49 : decode cX6_ifSpoiled 49 = .ok (.iload_n 1, 1) := by decide +kernel
theorem dX6_ifSpoiled_50 : decode cX6_ifSpoiled 50 = .ok (.iload_n 2, 1) := by decide +kernel
theorem dX6_ifSpoiled_51 : decode cX6_ifSpoiled 51 = .ok (.invokevirtual 175, 3) := by decide +kernel
theorem dX6_ifSpoiled_54 : decode cX6_ifSpoiled 54 = .ok (.aload_n 0, 1) := by decide +kernel
theorem dX6_ifSpoiled_55 : decode cX6_ifSpoiled 55 = .ok (.getfield 52, 3) := by decide +kernel
theorem dX6_ifSpoiled_58 : decode cX6_ifSpoiled 58 = .ok (.aload_n 0, 1) := by decide +kernel
theorem dX6_ifSpoiled_59 : decode cX6_ifSpoiled 59 = .ok (.getfield 48, 3) := by decide +kernel
theorem dX6_ifSpoiled_62 : decode cX6_ifSpoiled 62 = .ok (.aload_n 0, 1) := by decide +kernel
theorem dX6_ifSpoiled_63 : decode cX6_ifSpoiled 63 = .ok (.getfield 12, 3) := by decide +kernel
theorem dX6_ifSpoiled_66 : decode cX6_ifSpoiled 66 = .ok (.getfield 72, 3) := by decide +kernel
theorem dX6_ifSpoiled_69 : decode cX6_ifSpoiled 69 = .ok (.invokevirtual 219, 3) := by decide +kernel
theorem dX6_ifSpoiled_72 : decode cX6_ifSpoiled 72 = .ok (.ireturn, 1) := by decide +kernel
theorem dX6_meanSquare_0 : decode cX6_meanSquare 0 = .ok (.aload_n 0, 1) := by decide +kernel
theorem dX6_meanSquare_1 : decode cX6_meanSquare 1 = .ok (.getfield 12, 3) := by decide +kernel
theorem dX6_meanSquare_4 : decode cX6_meanSquare 4 = .ok (.invokevirtual 115, 3) := by decide +kernel
theorem dX6_meanSquare_7 : decode cX6_meanSquare 7 = .ok (.ifCond .ne 5, 3) := by decide +kernel
theorem dX6_meanSquare_10 : decode cX6_meanSquare 10 = .ok (.dconst 0, 1) := by decide +kernel
theorem dX6_meanSquare_11 : decode cX6_meanSquare 11 = .ok (.dreturn, 1) := by decide +kernel
theorem dX6_meanSquare_12 : decode cX6_meanSquare 12 = .ok (.aload_n 0, 1) := by decide +kernel
theorem dX6_meanSquare_13 : decode cX6_meanSquare 13 = .ok (.invokevirtual 315, 3) := by decide +kernel
theorem dX6_meanSquare_16 : decode cX6_meanSquare 16 = .ok (.i2d, 1) := by decide +kernel
theorem dX6_meanSquare_17 : decode cX6_meanSquare 17 = .ok (.aload_n 0, 1) := by decide +kernel
theorem dX6_meanSquare_18 : decode cX6_meanSquare 18 = .ok (.getfield 12, 3) := by decide +kernel
theorem dX6_meanSquare_21 : decode cX6_meanSquare 21 = .ok (.getfield 72, 3) := by decide +kernel
theorem dX6_meanSquare_24 : decode cX6_meanSquare 24 = .ok (.i2d, 1) := by decide +kernel
theorem dX6_meanSquare_25 : decode cX6_meanSquare 25 = .ok (.ddiv, 1) := by decide +kernel
theorem dX6_meanSquare_26 : decode cX6_meanSquare 26 = .ok (.dreturn, 1) := by decide +kernel
theorem dX6_loudness_0 : decode cX6_loudness 0 = .ok (.aload_n 0, 1) := by decide +kernel
theorem dX6_loudness_1 : decode cX6_loudness 1 = .ok (.getfield 12, 3) := by decide +kernel
theorem dX6_loudness_4 : decode cX6_loudness 4 = .ok (.invokevirtual 115, 3) := by decide +kernel
theorem dX6_loudness_7 : decode cX6_loudness 7 = .ok (.ifCond .ne 5, 3) := by decide +kernel
theorem dX6_loudness_10 : decode cX6_loudness 10 = .ok (.fconst 0, 1) := by decide +kernel
theorem dX6_loudness_11 : decode cX6_loudness 11 = .ok (.freturn, 1) := by decide +kernel
theorem dX6_loudness_12 : decode cX6_loudness 12 = .ok (.aload_n 0, 1) := by decide +kernel
theorem dX6_loudness_13 : decode cX6_loudness 13 = .ok (.invokevirtual 315, 3) := by decide +kernel
theorem dX6_loudness_16 : decode cX6_loudness 16 = .ok (.istore_n 1, 1) := by decide +kernel
theorem dX6_loudness_17 : decode cX6_loudness 17 = .ok (.iload_n 1, 1) := by decide +kernel
theorem dX6_loudness_18 : decode cX6_loudness 18 = .ok (.ifCond .ne 7, 3) := by decide +kernel
theorem dX6_loudness_21 : decode cX6_loudness 21 = .ok (.ldc_w 318, 3) := by decide +kernel
theorem dX6_loudness_24 : decode cX6_loudness 24 = .ok (.freturn, 1) := by decide +kernel
theorem dX6_loudness_25 : decode cX6_loudness 25 = .ok (.iconst 0, 1) := by decide +kernel
theorem dX6_loudness_26 : decode cX6_loudness 26 = .ok (.istore_n 2, 1) := by decide +kernel
theorem dX6_loudness_27 : decode cX6_loudness 27 = .ok (.iconst 0, 1) := by decide +kernel
theorem dX6_loudness_28 : decode cX6_loudness 28 = .ok (.istore_n 3, 1) := by decide +kernel
theorem dX6_loudness_29 : decode cX6_loudness 29 = .ok (.iload_n 3, 1) := by decide +kernel
theorem dX6_loudness_30 : decode cX6_loudness 30 = .ok (.aload_n 0, 1) := by decide +kernel
theorem dX6_loudness_31 : decode cX6_loudness 31 = .ok (.getfield 12, 3) := by decide +kernel
theorem dX6_loudness_34 : decode cX6_loudness 34 = .ok (.getfield 72, 3) := by decide +kernel
theorem dX6_loudness_37 : decode cX6_loudness 37 = .ok (.if_icmp .ge 31, 3) := by decide +kernel
theorem dX6_loudness_40 : decode cX6_loudness 40 = .ok (.iload_n 2, 1) := by decide +kernel
theorem dX6_loudness_41 : decode cX6_loudness 41 = .ok (.aload_n 0, 1) := by decide +kernel
theorem dX6_loudness_42 : decode cX6_loudness 42 = .ok (.getfield 12, 3) := by decide +kernel
theorem dX6_loudness_45 : decode cX6_loudness 45 = .ok (.getfield 94, 3) := by decide +kernel
theorem dX6_loudness_48 : decode cX6_loudness 48 = .ok (.iload_n 3, 1) := by decide +kernel
theorem dX6_loudness_49 : decode cX6_loudness 49 = .ok (.iaload, 1) := by decide +kernel
theorem dX6_loudness_50 : decode cX6_loudness 50 = .ok (.aload_n 0, 1) := by decide +kernel
theorem dX6_loudness_51 : decode cX6_loudness 51 = .ok (.getfield 12, 3) := by decide +kernel
theorem dX6_loudness_54 : decode cX6_loudness 54 = .ok (.getfield 94, 3) := by decide +kernel
theorem dX6_loudness_57 : decode cX6_loudness 57 = .ok (.iload_n 3, 1) := by decide +kernel
theorem dX6_loudness_58 : decode cX6_loudness 58 = .ok (.iaload, 1) := by decide +kernel
theorem dX6_loudness_59 : decode cX6_loudness 59 = .ok (.imul, 1) := by decide +kernel
theorem dX6_loudness_60 : decode cX6_loudness 60 = .ok (.iadd, 1) := by decide +kernel
theorem dX6_loudness_61 : decode cX6_loudness 61 = .ok (.istore_n 2, 1) := by decide +kernel
theorem dX6_loudness_62 : decode cX6_loudness 62 = .ok (.iinc 3 1, 3) := by decide +kernel
theorem dX6_loudness_65 : decode cX6_loudness 65 = .ok (.goto (-36), 3) := by decide +kernel
theorem dX6_loudness_68 : decode cX6_loudness 68 = .ok (.iload_n 2, 1) := by decide +kernel
theorem dX6_loudness_69 : decode cX6_loudness 69 = .ok (.i2f, 1) := by decide +kernel
theorem dX6_loudness_70 : decode cX6_loudness 70 = .ok (.iload_n 1, 1) := by decide +kernel
theorem dX6_loudness_71 : decode cX6_loudness 71 = .ok (.i2f, 1) := by decide +kernel
theorem dX6_loudness_72 : decode cX6_loudness 72 = .ok (.fdiv, 1) := by decide +kernel
theorem dX6_loudness_73 : decode cX6_loudness 73 = .ok (.freturn, 1) := by decide +kernel
theorem dX6_digest_0 : decode cX6_digest 0 = .ok (.ldc2_w 319, 3) := by decide +kernel
theorem dX6_digest_3 : decode cX6_digest 3 = .ok (.lstore_n 1, 1) := by decide +kernel
theorem dX6_digest_4 : decode cX6_digest 4 = .ok (.iconst 0, 1) := by decide +kernel
theorem dX6_digest_5 : decode cX6_digest 5 = .ok (.istore_n 3, 1) := by decide +kernel
theorem dX6_digest_6 : decode cX6_digest 6 = .ok (.iload_n 3, 1) := by decide +kernel
theorem dX6_digest_7 : decode cX6_digest 7 = .ok (.bipush 12, 2) := by decide +kernel
theorem dX6_digest_9 : decode cX6_digest 9 = .ok (.if_icmp .ge 20, 3) := by decide +kernel
theorem dX6_digest_12 : decode cX6_digest 12 = .ok (.lload_n 1, 1) := by decide +kernel
theorem dX6_digest_13 : decode cX6_digest 13 = .ok (.aload_n 0, 1) := by decide +kernel
theorem dX6_digest_14 : decode cX6_digest 14 = .ok (.iload_n 3, 1) := by decide +kernel
theorem dX6_digest_15 : decode cX6_digest 15 = .ok (.invokevirtual 321, 3) := by decide +kernel
theorem dX6_digest_18 : decode cX6_digest 18 = .ok (.i2l, 1) := by decide +kernel
theorem dX6_digest_19 : decode cX6_digest 19 = .ok (.invokestatic 324, 3) := by decide +kernel
theorem dX6_digest_22 : decode cX6_digest 22 = .ok (.lstore_n 1, 1) := by decide +kernel
theorem dX6_digest_23 : decode cX6_digest 23 = .ok (.iinc 3 1, 3) := by decide +kernel
theorem dX6_digest_26 : decode cX6_digest 26 = .ok (.goto (-20), 3) := by decide +kernel
theorem dX6_digest_29 : decode cX6_digest 29 = .ok (.iconst 0, 1) := by decide +kernel
theorem dX6_digest_30 : decode cX6_digest 30 = .ok (.istore_n 3, 1) := by decide +kernel
theorem dX6_digest_31 : decode cX6_digest 31 = .ok (.iload_n 3, 1) := by decide +kernel
theorem dX6_digest_32 : decode cX6_digest 32 = .ok (.iconst 3, 1) := by decide +kernel
theorem dX6_digest_33 : decode cX6_digest 33 = .ok (.if_icmp .ge 24, 3) := by decide +kernel
theorem dX6_digest_36 : decode cX6_digest 36 = .ok (.lload_n 1, 1) := by decide +kernel
theorem dX6_digest_37 : decode cX6_digest 37 = .ok (.aload_n 0, 1) := by decide +kernel
theorem dX6_digest_38 : decode cX6_digest 38 = .ok (.getfield 12, 3) := by decide +kernel
theorem dX6_digest_41 : decode cX6_digest 41 = .ok (.getfield 152, 3) := by decide +kernel
theorem dX6_digest_44 : decode cX6_digest 44 = .ok (.iload_n 3, 1) := by decide +kernel
theorem dX6_digest_45 : decode cX6_digest 45 = .ok (.iaload, 1) := by decide +kernel
theorem dX6_digest_46 : decode cX6_digest 46 = .ok (.i2l, 1) := by decide +kernel
theorem dX6_digest_47 : decode cX6_digest 47 = .ok (.invokestatic 324, 3) := by decide +kernel
theorem dX6_digest_50 : decode cX6_digest 50 = .ok (.lstore_n 1, 1) := by decide +kernel
theorem dX6_digest_51 : decode cX6_digest 51 = .ok (.iinc 3 1, 3) := by decide +kernel
theorem dX6_digest_54 : decode cX6_digest 54 = .ok (.goto (-23), 3) := by decide +kernel
theorem dX6_digest_57 : decode cX6_digest 57 = .ok (.aload_n 0, 1) := by decide +kernel
theorem dX6_digest_58 : decode cX6_digest 58 = .ok (.lload_n 1, 1) := by decide +kernel
theorem dX6_digest_59 : decode cX6_digest 59 = .ok (.invokevirtual 328, 3) := by decide +kernel
theorem dX6_digest_62 : decode cX6_digest 62 = .ok (.lstore_n 1, 1) := by decide +kernel
theorem dX6_digest_63 : decode cX6_digest 63 = .ok (.aload_n 0, 1) := by decide +kernel
theorem dX6_digest_64 : decode cX6_digest 64 = .ok (.lload_n 1, 1) := by decide +kernel
theorem dX6_digest_65 : decode cX6_digest 65 = .ok (.invokevirtual 332, 3) := by decide +kernel
theorem dX6_digest_68 : decode cX6_digest 68 = .ok (.lstore_n 1, 1) := by decide +kernel
theorem dX6_digest_69 : decode cX6_digest 69 = .ok (.lload_n 1, 1) := by decide +kernel
theorem dX6_digest_70 : decode cX6_digest 70 = .ok (.aload_n 0, 1) := by decide +kernel
theorem dX6_digest_71 : decode cX6_digest 71 = .ok (.invokevirtual 335, 3) := by decide +kernel
theorem dX6_digest_74 : decode cX6_digest 74 = .ok (.invokestatic 339, 3) := by decide +kernel
theorem dX6_digest_77 : decode cX6_digest 77 = .ok (.invokestatic 324, 3) := by decide +kernel
theorem dX6_digest_80 : decode cX6_digest 80 = .ok (.lstore_n 1, 1) := by decide +kernel
theorem dX6_digest_81 : decode cX6_digest 81 = .ok (.lload_n 1, 1) := by decide +kernel
theorem dX6_digest_82 : decode cX6_digest 82 = .ok (.aload_n 0, 1) := by decide +kernel
theorem dX6_digest_83 : decode cX6_digest 83 = .ok (.invokevirtual 343, 3) := by decide +kernel
theorem dX6_digest_86 : decode cX6_digest 86 = .ok (.invokestatic 347, 3) := by decide +kernel
theorem dX6_digest_89 : decode cX6_digest 89 = .ok (.i2l, 1) := by decide +kernel
theorem dX6_digest_90 : decode cX6_digest 90 = .ok (.invokestatic 324, 3) := by decide +kernel
theorem dX6_digest_93 : decode cX6_digest 93 = .ok (.lstore_n 1, 1) := by decide +kernel
theorem dX6_digest_94 : decode cX6_digest 94 = .ok (.iconst 0, 1) := by decide +kernel
theorem dX6_digest_95 : decode cX6_digest 95 = .ok (.istore_n 3, 1) := by decide +kernel
theorem dX6_digest_96 : decode cX6_digest 96 = .ok (.iload_n 3, 1) := by decide +kernel
theorem dX6_digest_97 : decode cX6_digest 97 = .ok (.iconst 2, 1) := by decide +kernel
theorem dX6_digest_98 : decode cX6_digest 98 = .ok (.if_icmp .ge 28, 3) := by decide +kernel
theorem dX6_digest_101 : decode cX6_digest 101 = .ok (.lload_n 1, 1) := by decide +kernel
theorem dX6_digest_102 : decode cX6_digest 102 = .ok (.aload_n 0, 1) := by decide +kernel
theorem dX6_digest_103 : decode cX6_digest 103 = .ok (.getfield 27, 3) := by decide +kernel
theorem dX6_digest_106 : decode cX6_digest 106 = .ok (.iload_n 3, 1) := by decide +kernel
theorem dX6_digest_107 : decode cX6_digest 107 = .ok (.baload, 1) := by decide +kernel
theorem dX6_digest_108 : decode cX6_digest 108 = .ok (.ifCond .eq 7, 3) := by decide +kernel
theorem dX6_digest_111 : decode cX6_digest 111 = .ok (.lconst 1, 1) := by decide +kernel
theorem dX6_digest_112 : decode cX6_digest 112 = .ok (.goto 4, 3) := by decide +kernel
theorem dX6_digest_115 : decode cX6_digest 115 = .ok (.lconst 0, 1) := by decide +kernel
theorem dX6_digest_116 : decode cX6_digest 116 = .ok (.invokestatic 324, 3) := by decide +kernel
theorem dX6_digest_119 : decode cX6_digest 119 = .ok (.lstore_n 1, 1) := by decide +kernel
theorem dX6_digest_120 : decode cX6_digest 120 = .ok (.iinc 3 1, 3) := by decide +kernel
theorem dX6_digest_123 : decode cX6_digest 123 = .ok (.goto (-27), 3) := by decide +kernel
theorem dX6_digest_126 : decode cX6_digest 126 = .ok (.lload_n 1, 1) := by decide +kernel
theorem dX6_digest_127 : decode cX6_digest 127 = .ok (.aload_n 0, 1) := by decide +kernel
theorem dX6_digest_128 : decode cX6_digest 128 = .ok (.getfield 34, 3) := by decide +kernel
theorem dX6_digest_131 : decode cX6_digest 131 = .ok (.getfield 194, 3) := by decide +kernel
theorem dX6_digest_134 : decode cX6_digest 134 = .ok (.i2l, 1) := by decide +kernel
theorem dX6_digest_135 : decode cX6_digest 135 = .ok (.invokestatic 324, 3) := by decide +kernel
theorem dX6_digest_138 : decode cX6_digest 138 = .ok (.lstore_n 1, 1) := by decide +kernel
theorem dX6_digest_139 : decode cX6_digest 139 = .ok (.iconst 0, 1) := by decide +kernel
theorem dX6_digest_140 : decode cX6_digest 140 = .ok (.istore_n 3, 1) := by decide +kernel
theorem dX6_digest_141 : decode cX6_digest 141 = .ok (.iload_n 3, 1) := by decide +kernel
theorem dX6_digest_142 : decode cX6_digest 142 = .ok (.aload_n 0, 1) := by decide +kernel
theorem dX6_digest_143 : decode cX6_digest 143 = .ok (.getfield 34, 3) := by decide +kernel
theorem dX6_digest_146 : decode cX6_digest 146 = .ok (.getfield 194, 3) := by decide +kernel
theorem dX6_digest_149 : decode cX6_digest 149 = .ok (.if_icmp .ge 24, 3) := by decide +kernel
theorem dX6_digest_152 : decode cX6_digest 152 = .ok (.lload_n 1, 1) := by decide +kernel
theorem dX6_digest_153 : decode cX6_digest 153 = .ok (.aload_n 0, 1) := by decide +kernel
theorem dX6_digest_154 : decode cX6_digest 154 = .ok (.getfield 34, 3) := by decide +kernel
theorem dX6_digest_157 : decode cX6_digest 157 = .ok (.getfield 351, 3) := by decide +kernel
theorem dX6_digest_160 : decode cX6_digest 160 = .ok (.iload_n 3, 1) := by decide +kernel
theorem dX6_digest_161 : decode cX6_digest 161 = .ok (.iaload, 1) := by decide +kernel
theorem dX6_digest_162 : decode cX6_digest 162 = .ok (.i2l, 1) := by decide +kernel
theorem dX6_digest_163 : decode cX6_digest 163 = .ok (.invokestatic 324, 3) := by decide +kernel
theorem dX6_digest_166 : decode cX6_digest 166 = .ok (.lstore_n 1, 1) := by decide +kernel
theorem dX6_digest_167 : decode cX6_digest 167 = .ok (.iinc 3 1, 3) := by decide +kernel
theorem dX6_digest_170 : decode cX6_digest 170 = .ok (.goto (-29), 3) := by decide +kernel
theorem dX6_digest_173 : decode cX6_digest 173 = .ok (.lload_n 1, 1) := by decide +kernel
theorem dX6_digest_174 : decode cX6_digest 174 = .ok (.lreturn, 1) := by decide +kernel
theorem dX6_beginChange_0 : decode cX6_beginChange 0 = .ok (.aload_n 0, 1) := by decide +kernel
theorem dX6_beginChange_1 : decode cX6_beginChange 1 = .ok (.getfield 19, 3) := by decide +kernel
theorem dX6_beginChange_4 : decode cX6_beginChange 4 = .ok (.aload_n 0, 1) := by decide +kernel
theorem dX6_beginChange_5 : decode cX6_beginChange 5 = .ok (.getfield 12, 3) := by decide +kernel
theorem dX6_beginChange_8 : decode cX6_beginChange 8 = .ok (.invokevirtual 354, 3) := by decide +kernel
theorem dX6_beginChange_11 : decode cX6_beginChange 11 = .ok (.aload_n 0, 1) := by decide +kernel
theorem dX6_beginChange_12 : decode cX6_beginChange 12 = .ok (.getfield 48, 3) := by decide +kernel
theorem dX6_beginChange_15 : decode cX6_beginChange 15 = .ok (.iconst 0, 1) := by decide +kernel
theorem dX6_beginChange_16 : decode cX6_beginChange 16 = .ok (.putfield 215, 3) := by decide +kernel
theorem dX6_beginChange_19 : decode cX6_beginChange 19 = .ok (.return_, 1) := by decide +kernel
theorem dX6_refuseUnlessBlock_0 : decode cX6_refuseUnlessBlock 0 = .ok (.aload_n 0, 1) := by decide +kernel
theorem dX6_refuseUnlessBlock_1 : decode cX6_refuseUnlessBlock 1 = .ok (.getfield 12, 3) := by decide +kernel
theorem dX6_refuseUnlessBlock_4 : decode cX6_refuseUnlessBlock 4 = .ok (.iload_n 1, 1) := by decide +kernel
theorem dX6_refuseUnlessBlock_5 : decode cX6_refuseUnlessBlock 5 = .ok (.invokevirtual 357, 3) := by decide +kernel
theorem dX6_refuseUnlessBlock_8 : decode cX6_refuseUnlessBlock 8 = .ok (.ifCond .ne 14, 3) := by decide +kernel
theorem dX6_refuseUnlessBlock_11 : decode cX6_refuseUnlessBlock 11 = .ok (.new 84, 3) := by decide +kernel
theorem dX6_refuseUnlessBlock_14 : decode cX6_refuseUnlessBlock 14 = .ok (.dup, 1) := by decide +kernel
theorem dX6_refuseUnlessBlock_15 : decode cX6_refuseUnlessBlock 15 = .ok (.ldc_w 360, 3) := by decide +kernel
theorem dX6_refuseUnlessBlock_18 : decode cX6_refuseUnlessBlock 18 = .ok (.invokespecial 88, 3) := by decide +kernel
theorem dX6_refuseUnlessBlock_21 : decode cX6_refuseUnlessBlock 21 = .ok (.athrow, 1) := by decide +kernel
theorem dX6_refuseUnlessBlock_22 : decode cX6_refuseUnlessBlock 22 = .ok (.return_, 1) := by decide +kernel
theorem dX6_refuseUnlessCodeBit_0 : decode cX6_refuseUnlessCodeBit 0 = .ok (.aload_n 0, 1) := by decide +kernel
theorem dX6_refuseUnlessCodeBit_1 : decode cX6_refuseUnlessCodeBit 1 = .ok (.getfield 12, 3) := by decide +kernel
theorem dX6_refuseUnlessCodeBit_4 : decode cX6_refuseUnlessCodeBit 4 = .ok (.iload_n 1, 1) := by decide +kernel
theorem dX6_refuseUnlessCodeBit_5 : decode cX6_refuseUnlessCodeBit 5 = .ok (.invokevirtual 362, 3) := by decide +kernel
theorem dX6_refuseUnlessCodeBit_8 : decode cX6_refuseUnlessCodeBit 8 = .ok (.ifCond .ne 14, 3) := by decide +kernel
theorem dX6_refuseUnlessCodeBit_11 : decode cX6_refuseUnlessCodeBit 11 = .ok (.new 84, 3) := by decide +kernel
theorem dX6_refuseUnlessCodeBit_14 : decode cX6_refuseUnlessCodeBit 14 = .ok (.dup, 1) := by decide +kernel
theorem dX6_refuseUnlessCodeBit_15 : decode cX6_refuseUnlessCodeBit 15 = .ok (.ldc_w 365, 3) := by decide +kernel
theorem dX6_refuseUnlessCodeBit_18 : decode cX6_refuseUnlessCodeBit 18 = .ok (.invokespecial 88, 3) := by decide +kernel
theorem dX6_refuseUnlessCodeBit_21 : decode cX6_refuseUnlessCodeBit 21 = .ok (.athrow, 1) := by decide +kernel
theorem dX6_refuseUnlessCodeBit_22 : decode cX6_refuseUnlessCodeBit 22 = .ok (.iload_n 2, 1) := by decide +kernel
theorem dX6_refuseUnlessCodeBit_23 : decode cX6_refuseUnlessCodeBit 23 = .ok (.ifCond .lt 8, 3) := by decide +kernel
theorem dX6_refuseUnlessCodeBit_26 : decode cX6_refuseUnlessCodeBit 26 = .ok (.iload_n 2, 1) := by decide +kernel
theorem dX6_refuseUnlessCodeBit_27 : decode cX6_refuseUnlessCodeBit 27 = .ok (.iconst 4, 1) := by decide +kernel
theorem dX6_refuseUnlessCodeBit_28 : decode cX6_refuseUnlessCodeBit 28 = .ok (.if_icmp .lt 14, 3) := by decide +kernel
theorem dX6_refuseUnlessCodeBit_31 : decode cX6_refuseUnlessCodeBit 31 = .ok (.new 62, 3) := by decide +kernel
theorem dX6_refuseUnlessCodeBit_34 : decode cX6_refuseUnlessCodeBit 34 = .ok (.dup, 1) := by decide +kernel
theorem dX6_refuseUnlessCodeBit_35 : decode cX6_refuseUnlessCodeBit 35 = .ok (.ldc_w 367, 3) := by decide +kernel
theorem dX6_refuseUnlessCodeBit_38 : decode cX6_refuseUnlessCodeBit 38 = .ok (.invokespecial 66, 3) := by decide +kernel
theorem dX6_refuseUnlessCodeBit_41 : decode cX6_refuseUnlessCodeBit 41 = .ok (.athrow, 1) := by decide +kernel
theorem dX6_refuseUnlessCodeBit_42 : decode cX6_refuseUnlessCodeBit 42 = .ok (.return_, 1) := by decide +kernel
theorem dX6_refuseUnlessSamples_0 : decode cX6_refuseUnlessSamples 0 = .ok (.aload_n 0, 1) := by decide +kernel
theorem dX6_refuseUnlessSamples_1 : decode cX6_refuseUnlessSamples 1 = .ok (.getfield 12, 3) := by decide +kernel
theorem dX6_refuseUnlessSamples_4 : decode cX6_refuseUnlessSamples 4 = .ok (.iload_n 1, 1) := by decide +kernel
theorem dX6_refuseUnlessSamples_5 : decode cX6_refuseUnlessSamples 5 = .ok (.invokevirtual 80, 3) := by decide +kernel
theorem dX6_refuseUnlessSamples_8 : decode cX6_refuseUnlessSamples 8 = .ok (.ifCond .eq 21, 3) := by decide +kernel
theorem dX6_refuseUnlessSamples_11 : decode cX6_refuseUnlessSamples 11 = .ok (.iload_n 2, 1) := by decide +kernel
theorem dX6_refuseUnlessSamples_12 : decode cX6_refuseUnlessSamples 12 = .ok (.iconst 1, 1) := by decide +kernel
theorem dX6_refuseUnlessSamples_13 : decode cX6_refuseUnlessSamples 13 = .ok (.if_icmp .lt 16, 3) := by decide +kernel
theorem dX6_refuseUnlessSamples_16 : decode cX6_refuseUnlessSamples 16 = .ok (.iload_n 2, 1) := by decide +kernel
theorem dX6_refuseUnlessSamples_17 : decode cX6_refuseUnlessSamples 17 = .ok (.aload_n 0, 1) := by decide +kernel
theorem dX6_refuseUnlessSamples_18 : decode cX6_refuseUnlessSamples 18 = .ok (.getfield 12, 3) := by decide +kernel
theorem dX6_refuseUnlessSamples_21 : decode cX6_refuseUnlessSamples 21 = .ok (.getfield 72, 3) := by decide +kernel
theorem dX6_refuseUnlessSamples_24 : decode cX6_refuseUnlessSamples 24 = .ok (.iload_n 1, 1) := by decide +kernel
theorem dX6_refuseUnlessSamples_25 : decode cX6_refuseUnlessSamples 25 = .ok (.isub, 1) := by decide +kernel
theorem dX6_refuseUnlessSamples_26 : decode cX6_refuseUnlessSamples 26 = .ok (.if_icmp .le 14, 3) := by decide +kernel
theorem dX6_refuseUnlessSamples_29 : decode cX6_refuseUnlessSamples 29 = .ok (.new 84, 3) := by decide +kernel
theorem dX6_refuseUnlessSamples_32 : decode cX6_refuseUnlessSamples 32 = .ok (.dup, 1) := by decide +kernel
theorem dX6_refuseUnlessSamples_33 : decode cX6_refuseUnlessSamples 33 = .ok (.ldc_w 369, 3) := by decide +kernel
theorem dX6_refuseUnlessSamples_36 : decode cX6_refuseUnlessSamples 36 = .ok (.invokespecial 88, 3) := by decide +kernel
theorem dX6_refuseUnlessSamples_39 : decode cX6_refuseUnlessSamples 39 = .ok (.athrow, 1) := by decide +kernel
theorem dX6_refuseUnlessSamples_40 : decode cX6_refuseUnlessSamples 40 = .ok (.return_, 1) := by decide +kernel
theorem dX6_refuseUnlessSlot_0 : decode cX6_refuseUnlessSlot 0 = .ok (.iload_n 1, 1) := by decide +kernel
theorem dX6_refuseUnlessSlot_1 : decode cX6_refuseUnlessSlot 1 = .ok (.ifCond .lt 8, 3) := by decide +kernel
theorem dX6_refuseUnlessSlot_4 : decode cX6_refuseUnlessSlot 4 = .ok (.iload_n 1, 1) := by decide +kernel
theorem dX6_refuseUnlessSlot_5 : decode cX6_refuseUnlessSlot 5 = .ok (.iconst 2, 1) := by decide +kernel
theorem dX6_refuseUnlessSlot_6 : decode cX6_refuseUnlessSlot 6 = .ok (.if_icmp .lt 14, 3) := by decide +kernel
theorem dX6_refuseUnlessSlot_9 : decode cX6_refuseUnlessSlot 9 = .ok (.new 62, 3) := by decide +kernel
theorem dX6_refuseUnlessSlot_12 : decode cX6_refuseUnlessSlot 12 = .ok (.dup, 1) := by decide +kernel
theorem dX6_refuseUnlessSlot_13 : decode cX6_refuseUnlessSlot 13 = .ok (.ldc_w 371, 3) := by decide +kernel
theorem dX6_refuseUnlessSlot_16 : decode cX6_refuseUnlessSlot 16 = .ok (.invokespecial 66, 3) := by decide +kernel
theorem dX6_refuseUnlessSlot_19 : decode cX6_refuseUnlessSlot 19 = .ok (.athrow, 1) := by decide +kernel
theorem dX6_refuseUnlessSlot_20 : decode cX6_refuseUnlessSlot 20 = .ok (.return_, 1) := by decide +kernel
theorem dX6_isValue_0 : decode cX6_isValue 0 = .ok (.iload_n 0, 1) := by decide +kernel
theorem dX6_isValue_1 : decode cX6_isValue 1 = .ok (.sipush (-2048), 3) := by decide +kernel
theorem dX6_isValue_4 : decode cX6_isValue 4 = .ok (.if_icmp .lt 14, 3) := by decide +kernel
theorem dX6_isValue_7 : decode cX6_isValue 7 = .ok (.iload_n 0, 1) := by decide +kernel
theorem dX6_isValue_8 : decode cX6_isValue 8 = .ok (.sipush 2047, 3) := by decide +kernel
theorem dX6_isValue_11 : decode cX6_isValue 11 = .ok (.if_icmp .gt 7, 3) := by decide +kernel
theorem dX6_isValue_14 : decode cX6_isValue 14 = .ok (.iconst 1, 1) := by decide +kernel
theorem dX6_isValue_15 : decode cX6_isValue 15 = .ok (.goto 4, 3) := by decide +kernel
theorem dX6_isValue_18 : decode cX6_isValue 18 = .ok (.iconst 0, 1) := by decide +kernel
theorem dX6_isValue_19 : decode cX6_isValue 19 = .ok (.ireturn, 1) := by decide +kernel
theorem dX6_isNumber_0 : decode cX6_isNumber 0 = .ok (.iload_n 0, 1) := by decide +kernel
theorem dX6_isNumber_1 : decode cX6_isNumber 1 = .ok (.ifCond .lt 13, 3) := by decide +kernel
theorem dX6_isNumber_4 : decode cX6_isNumber 4 = .ok (.iload_n 0, 1) := by decide +kernel
theorem dX6_isNumber_5 : decode cX6_isNumber 5 = .ok (.bipush 48, 2) := by decide +kernel
theorem dX6_isNumber_7 : decode cX6_isNumber 7 = .ok (.if_icmp .gt 7, 3) := by decide +kernel
theorem dX6_isNumber_10 : decode cX6_isNumber 10 = .ok (.iconst 1, 1) := by decide +kernel
theorem dX6_isNumber_11 : decode cX6_isNumber 11 = .ok (.goto 4, 3) := by decide +kernel
theorem dX6_isNumber_14 : decode cX6_isNumber 14 = .ok (.iconst 0, 1) := by decide +kernel
theorem dX6_isNumber_15 : decode cX6_isNumber 15 = .ok (.ireturn, 1) := by decide +kernel
theorem dX6_isSetting_0 : decode cX6_isSetting 0 = .ok (.iload_n 0, 1) := by decide +kernel
theorem dX6_isSetting_1 : decode cX6_isSetting 1 = .ok (.ifCond .lt 12, 3) := by decide +kernel
theorem dX6_isSetting_4 : decode cX6_isSetting 4 = .ok (.iload_n 0, 1) := by decide +kernel
theorem dX6_isSetting_5 : decode cX6_isSetting 5 = .ok (.iconst 3, 1) := by decide +kernel
theorem dX6_isSetting_6 : decode cX6_isSetting 6 = .ok (.if_icmp .ge 7, 3) := by decide +kernel
theorem dX6_isSetting_9 : decode cX6_isSetting 9 = .ok (.iconst 1, 1) := by decide +kernel
theorem dX6_isSetting_10 : decode cX6_isSetting 10 = .ok (.goto 4, 3) := by decide +kernel
theorem dX6_isSetting_13 : decode cX6_isSetting 13 = .ok (.iconst 0, 1) := by decide +kernel
theorem dX6_isSetting_14 : decode cX6_isSetting 14 = .ok (.ireturn, 1) := by decide +kernel
theorem dX6_leastOfSetting_0 : decode cX6_leastOfSetting 0 = .ok (.iload_n 0, 1) := by decide +kernel
theorem dX6_leastOfSetting_1 : decode cX6_leastOfSetting 1 = .ok (.ifCond .ne 7, 3) := by decide +kernel
theorem dX6_leastOfSetting_4 : decode cX6_leastOfSetting 4 = .ok (.iconst 2, 1) := by decide +kernel
theorem dX6_leastOfSetting_5 : decode cX6_leastOfSetting 5 = .ok (.goto 4, 3) := by decide +kernel
theorem dX6_leastOfSetting_8 : decode cX6_leastOfSetting 8 = .ok (.iconst 0, 1) := by decide +kernel
theorem dX6_leastOfSetting_9 : decode cX6_leastOfSetting 9 = .ok (.ireturn, 1) := by decide +kernel
theorem dX6_mostOfSetting_0 : decode cX6_mostOfSetting 0 = .ok (.iload_n 0, 1) := by decide +kernel
theorem dX6_mostOfSetting_1 : decode cX6_mostOfSetting 1 = .ok (.lookupswitch 32 #[(0, 27), (1, 30)], 27) := by decide +kernel
theorem dX6_mostOfSetting_28 : decode cX6_mostOfSetting 28 = .ok (.bipush 16, 2) := by decide +kernel
theorem dX6_mostOfSetting_30 : decode cX6_mostOfSetting 30 = .ok (.ireturn, 1) := by decide +kernel
theorem dX6_mostOfSetting_31 : decode cX6_mostOfSetting 31 = .ok (.iconst 1, 1) := by decide +kernel
theorem dX6_mostOfSetting_32 : decode cX6_mostOfSetting 32 = .ok (.ireturn, 1) := by decide +kernel
theorem dX6_mostOfSetting_33 : decode cX6_mostOfSetting 33 = .ok (.iconst 2, 1) := by decide +kernel
theorem dX6_mostOfSetting_34 : decode cX6_mostOfSetting 34 = .ok (.ireturn, 1) := by decide +kernel
theorem dX6_clip_0 : decode cX6_clip 0 = .ok (.sipush (-2048), 3) := by decide +kernel
theorem dX6_clip_3 : decode cX6_clip 3 = .ok (.sipush 2047, 3) := by decide +kernel
theorem dX6_clip_6 : decode cX6_clip 6 = .ok (.iload_n 0, 1) := by decide +kernel
theorem dX6_clip_7 : decode cX6_clip 7 = .ok (.invokestatic 373, 3) := by decide +kernel
theorem dX6_clip_10 : decode cX6_clip 10 = .ok (.invokestatic 379, 3) := by decide +kernel
theorem dX6_clip_13 : decode cX6_clip 13 = .ok (.ireturn, 1) := by decide +kernel
theorem dX6_shape_0 : decode cX6_shape 0 = .ok (.iload_n 0, 1) := by decide +kernel
theorem dX6_shape_1 : decode cX6_shape 1 = .ok (.lookupswitch 51 #[(0, 27), (1, 41)], 27) := by decide +kernel
theorem dX6_shape_28 : decode cX6_shape 28 = .ok (.iconst 2, 1) := by decide +kernel
theorem dX6_shape_29 : decode cX6_shape 29 = .ok (.iload_n 3, 1) := by decide +kernel
theorem dX6_shape_30 : decode cX6_shape 30 = .ok (.imul, 1) := by decide +kernel
theorem dX6_shape_31 : decode cX6_shape 31 = .ok (.iload_n 2, 1) := by decide +kernel
theorem dX6_shape_32 : decode cX6_shape 32 = .ok (.if_icmp .ge 7, 3) := by decide +kernel
theorem dX6_shape_35 : decode cX6_shape 35 = .ok (.iload_n 1, 1) := by decide +kernel
theorem dX6_shape_36 : decode cX6_shape 36 = .ok (.goto 5, 3) := by decide +kernel
theorem dX6_shape_39 : decode cX6_shape 39 = .ok (.iload_n 1, 1) := by decide +kernel
theorem dX6_shape_40 : decode cX6_shape 40 = .ok (.ineg, 1) := by decide +kernel
theorem dX6_shape_41 : decode cX6_shape 41 = .ok (.ireturn, 1) := by decide +kernel
theorem dX6_shape_42 : decode cX6_shape 42 = .ok (.iload_n 1, 1) := by decide +kernel
theorem dX6_shape_43 : decode cX6_shape 43 = .ok (.iconst 2, 1) := by decide +kernel
theorem dX6_shape_44 : decode cX6_shape 44 = .ok (.iload_n 3, 1) := by decide +kernel
theorem dX6_shape_45 : decode cX6_shape 45 = .ok (.imul, 1) := by decide +kernel
theorem dX6_shape_46 : decode cX6_shape 46 = .ok (.iload_n 2, 1) := by decide +kernel
theorem dX6_shape_47 : decode cX6_shape 47 = .ok (.isub, 1) := by decide +kernel
theorem dX6_shape_48 : decode cX6_shape 48 = .ok (.imul, 1) := by decide +kernel
theorem dX6_shape_49 : decode cX6_shape 49 = .ok (.iload_n 2, 1) := by decide +kernel
theorem dX6_shape_50 : decode cX6_shape 50 = .ok (.idiv, 1) := by decide +kernel
theorem dX6_shape_51 : decode cX6_shape 51 = .ok (.ireturn, 1) := by decide +kernel
theorem dX6_shape_52 : decode cX6_shape 52 = .ok (.iload_n 1, 1) := by decide +kernel
theorem dX6_shape_53 : decode cX6_shape 53 = .ok (.iconst 4, 1) := by decide +kernel
theorem dX6_shape_54 : decode cX6_shape 54 = .ok (.iload_n 3, 1) := by decide +kernel
theorem dX6_shape_55 : decode cX6_shape 55 = .ok (.iload_n 2, 1) := by decide +kernel
theorem dX6_shape_56 : decode cX6_shape 56 = .ok (.iconst 2, 1) := by decide +kernel
theorem dX6_shape_57 : decode cX6_shape 57 = .ok (.idiv, 1) := by decide +kernel
theorem dX6_shape_58 : decode cX6_shape 58 = .ok (.isub, 1) := by decide +kernel
theorem dX6_shape_59 : decode cX6_shape 59 = .ok (.invokestatic 382, 3) := by decide +kernel
theorem dX6_shape_62 : decode cX6_shape 62 = .ok (.imul, 1) := by decide +kernel
theorem dX6_shape_63 : decode cX6_shape 63 = .ok (.iload_n 2, 1) := by decide +kernel
theorem dX6_shape_64 : decode cX6_shape 64 = .ok (.isub, 1) := by decide +kernel
theorem dX6_shape_65 : decode cX6_shape 65 = .ok (.imul, 1) := by decide +kernel
theorem dX6_shape_66 : decode cX6_shape 66 = .ok (.iload_n 2, 1) := by decide +kernel
theorem dX6_shape_67 : decode cX6_shape 67 = .ok (.idiv, 1) := by decide +kernel
theorem dX6_shape_68 : decode cX6_shape 68 = .ok (.ireturn, 1) := by decide +kernel
theorem dX6_copyRow_0 : decode cX6_copyRow 0 = .ok (.aload_n 0, 1) := by decide +kernel
theorem dX6_copyRow_1 : decode cX6_copyRow 1 = .ok (.iconst 0, 1) := by decide +kernel
theorem dX6_copyRow_2 : decode cX6_copyRow 2 = .ok (.aload_n 1, 1) := by decide +kernel
theorem dX6_copyRow_3 : decode cX6_copyRow 3 = .ok (.iconst 0, 1) := by decide +kernel
theorem dX6_copyRow_4 : decode cX6_copyRow 4 = .ok (.aload_n 0, 1) := by decide +kernel
theorem dX6_copyRow_5 : decode cX6_copyRow 5 = .ok (.arraylength, 1) := by decide +kernel
theorem dX6_copyRow_6 : decode cX6_copyRow 6 = .ok (.aload_n 1, 1) := by decide +kernel
theorem dX6_copyRow_7 : decode cX6_copyRow 7 = .ok (.arraylength, 1) := by decide +kernel
theorem dX6_copyRow_8 : decode cX6_copyRow 8 = .ok (.invokestatic 373, 3) := by decide +kernel
theorem dX6_copyRow_11 : decode cX6_copyRow 11 = .ok (.invokestatic 385, 3) := by decide +kernel
theorem dX6_copyRow_14 : decode cX6_copyRow 14 = .ok (.return_, 1) := by decide +kernel
theorem dX6_codedCount_0 : decode cX6_codedCount 0 = .ok (.aload_n 0, 1) := by decide +kernel
theorem dX6_codedCount_1 : decode cX6_codedCount 1 = .ok (.getfield 48, 3) := by decide +kernel
theorem dX6_codedCount_4 : decode cX6_codedCount 4 = .ok (.aload_n 0, 1) := by decide +kernel
theorem dX6_codedCount_5 : decode cX6_codedCount 5 = .ok (.getfield 12, 3) := by decide +kernel
theorem dX6_codedCount_8 : decode cX6_codedCount 8 = .ok (.invokevirtual 124, 3) := by decide +kernel
theorem dX6_codedCount_11 : decode cX6_codedCount 11 = .ok (.iload_n 1, 1) := by decide +kernel
theorem dX6_codedCount_12 : decode cX6_codedCount 12 = .ok (.tableswitch 81 4 7 #[32, 52, 57, 69], 32) := by decide +kernel
theorem dX6_codedCount_44 : decode cX6_codedCount 44 = .ok (.aload_n 0, 1) := by decide +kernel
theorem dX6_codedCount_45 : decode cX6_codedCount 45 = .ok (.getfield 48, 3) := by decide +kernel
theorem dX6_codedCount_48 : decode cX6_codedCount 48 = .ok (.aload_n 0, 1) := by decide +kernel
theorem dX6_codedCount_49 : decode cX6_codedCount 49 = .ok (.getfield 12, 3) := by decide +kernel
theorem dX6_codedCount_52 : decode cX6_codedCount 52 = .ok (.iconst 0, 1) := by decide +kernel
theorem dX6_codedCount_53 : decode cX6_codedCount 53 = .ok (.aload_n 0, 1) := by decide +kernel
theorem dX6_codedCount_54 : decode cX6_codedCount 54 = .ok (.getfield 12, 3) := by decide +kernel
theorem dX6_codedCount_57 : decode cX6_codedCount 57 = .ok (.getfield 72, 3) := by decide +kernel
theorem dX6_codedCount_60 : decode cX6_codedCount 60 = .ok (.invokevirtual 269, 3) := by decide +kernel
theorem dX6_codedCount_63 : decode cX6_codedCount 63 = .ok (.ireturn, 1) := by decide +kernel
theorem dX6_codedCount_64 : decode cX6_codedCount 64 = .ok (.aload_n 0, 1) := by decide +kernel
theorem dX6_codedCount_65 : decode cX6_codedCount 65 = .ok (.invokevirtual 391, 3) := by decide +kernel
theorem dX6_codedCount_68 : decode cX6_codedCount 68 = .ok (.ireturn, 1) := by decide +kernel
theorem dX6_codedCount_69 : decode cX6_codedCount 69 = .ok (.aload_n 0, 1) := by decide +kernel
theorem dX6_codedCount_70 : decode cX6_codedCount 70 = .ok (.getfield 48, 3) := by decide +kernel
theorem dX6_codedCount_73 : decode cX6_codedCount 73 = .ok (.aload_n 0, 1) := by decide +kernel
theorem dX6_codedCount_74 : decode cX6_codedCount 74 = .ok (.getfield 12, 3) := by decide +kernel
theorem dX6_codedCount_77 : decode cX6_codedCount 77 = .ok (.invokevirtual 394, 3) := by decide +kernel
theorem dX6_codedCount_80 : decode cX6_codedCount 80 = .ok (.ireturn, 1) := by decide +kernel
theorem dX6_codedCount_81 : decode cX6_codedCount 81 = .ok (.aload_n 0, 1) := by decide +kernel
theorem dX6_codedCount_82 : decode cX6_codedCount 82 = .ok (.getfield 48, 3) := by decide +kernel
theorem dX6_codedCount_85 : decode cX6_codedCount 85 = .ok (.aload_n 0, 1) := by decide +kernel
theorem dX6_codedCount_86 : decode cX6_codedCount 86 = .ok (.getfield 12, 3) := by decide +kernel
theorem dX6_codedCount_89 : decode cX6_codedCount 89 = .ok (.invokevirtual 128, 3) := by decide +kernel
theorem dX6_codedCount_92 : decode cX6_codedCount 92 = .ok (.ireturn, 1) := by decide +kernel
theorem dX6_codedCount_93 : decode cX6_codedCount 93 = .ok (.bipush 18, 2) := by decide +kernel
theorem dX6_codedCount_95 : decode cX6_codedCount 95 = .ok (.aload_n 0, 1) := by decide +kernel
theorem dX6_codedCount_96 : decode cX6_codedCount 96 = .ok (.getfield 12, 3) := by decide +kernel
theorem dX6_codedCount_99 : decode cX6_codedCount 99 = .ok (.getfield 158, 3) := by decide +kernel
theorem dX6_codedCount_102 : decode cX6_codedCount 102 = .ok (.imul, 1) := by decide +kernel
theorem dX6_codedCount_103 : decode cX6_codedCount 103 = .ok (.iconst 4, 1) := by decide +kernel
theorem dX6_codedCount_104 : decode cX6_codedCount 104 = .ok (.aload_n 0, 1) := by decide +kernel
theorem dX6_codedCount_105 : decode cX6_codedCount 105 = .ok (.getfield 12, 3) := by decide +kernel
theorem dX6_codedCount_108 : decode cX6_codedCount 108 = .ok (.getfield 72, 3) := by decide +kernel
theorem dX6_codedCount_111 : decode cX6_codedCount 111 = .ok (.aload_n 0, 1) := by decide +kernel
theorem dX6_codedCount_112 : decode cX6_codedCount 112 = .ok (.getfield 12, 3) := by decide +kernel
theorem dX6_codedCount_115 : decode cX6_codedCount 115 = .ok (.getfield 158, 3) := by decide +kernel
theorem dX6_codedCount_118 : decode cX6_codedCount 118 = .ok (.isub, 1) := by decide +kernel
theorem dX6_codedCount_119 : decode cX6_codedCount 119 = .ok (.imul, 1) := by decide +kernel
theorem dX6_codedCount_120 : decode cX6_codedCount 120 = .ok (.iadd, 1) := by decide +kernel
theorem dX6_codedCount_121 : decode cX6_codedCount 121 = .ok (.ireturn, 1) := by decide +kernel
theorem dX6_wholeError_0 : decode cX6_wholeError 0 = .ok (.aload_n 0, 1) := by decide +kernel
theorem dX6_wholeError_1 : decode cX6_wholeError 1 = .ok (.getfield 48, 3) := by decide +kernel
theorem dX6_wholeError_4 : decode cX6_wholeError 4 = .ok (.aload_n 0, 1) := by decide +kernel
theorem dX6_wholeError_5 : decode cX6_wholeError 5 = .ok (.getfield 12, 3) := by decide +kernel
theorem dX6_wholeError_8 : decode cX6_wholeError 8 = .ok (.invokevirtual 124, 3) := by decide +kernel
theorem dX6_wholeError_11 : decode cX6_wholeError 11 = .ok (.aload_n 0, 1) := by decide +kernel
theorem dX6_wholeError_12 : decode cX6_wholeError 12 = .ok (.getfield 48, 3) := by decide +kernel
theorem dX6_wholeError_15 : decode cX6_wholeError 15 = .ok (.aload_n 0, 1) := by decide +kernel
theorem dX6_wholeError_16 : decode cX6_wholeError 16 = .ok (.getfield 12, 3) := by decide +kernel
theorem dX6_wholeError_19 : decode cX6_wholeError 19 = .ok (.iconst 0, 1) := by decide +kernel
theorem dX6_wholeError_20 : decode cX6_wholeError 20 = .ok (.aload_n 0, 1) := by decide +kernel
theorem dX6_wholeError_21 : decode cX6_wholeError 21 = .ok (.getfield 12, 3) := by decide +kernel
theorem dX6_wholeError_24 : decode cX6_wholeError 24 = .ok (.getfield 72, 3) := by decide +kernel
theorem dX6_wholeError_27 : decode cX6_wholeError 27 = .ok (.invokevirtual 269, 3) := by decide +kernel
theorem dX6_wholeError_30 : decode cX6_wholeError 30 = .ok (.ireturn, 1) := by decide +kernel
theorem dX6_errorByBlocks_0 : decode cX6_errorByBlocks 0 = .ok (.iconst 0, 1) := by decide +kernel
theorem dX6_errorByBlocks_1 : decode cX6_errorByBlocks 1 = .ok (.istore_n 1, 1) := by decide +kernel
theorem dX6_errorByBlocks_2 : decode cX6_errorByBlocks 2 = .ok (.iconst 0, 1) := by decide +kernel
theorem dX6_errorByBlocks_3 : decode cX6_errorByBlocks 3 = .ok (.istore_n 2, 1) := by decide +kernel
theorem dX6_errorByBlocks_4 : decode cX6_errorByBlocks 4 = .ok (.iload_n 2, 1) := by decide +kernel
theorem dX6_errorByBlocks_5 : decode cX6_errorByBlocks 5 = .ok (.aload_n 0, 1) := by decide +kernel
theorem dX6_errorByBlocks_6 : decode cX6_errorByBlocks 6 = .ok (.getfield 12, 3) := by decide +kernel
theorem dX6_errorByBlocks_9 : decode cX6_errorByBlocks 9 = .ok (.getfield 158, 3) := by decide +kernel
theorem dX6_errorByBlocks_12 : decode cX6_errorByBlocks 12 = .ok (.if_icmp .ge 39, 3) := by decide +kernel
theorem dX6_errorByBlocks_15 : decode cX6_errorByBlocks 15 = .ok (.iload_n 1, 1) := by decide +kernel
theorem dX6_errorByBlocks_16 : decode cX6_errorByBlocks 16 = .ok (.aload_n 0, 1) := by decide +kernel
theorem dX6_errorByBlocks_17 : decode cX6_errorByBlocks 17 = .ok (.getfield 48, 3) := by decide +kernel
theorem dX6_errorByBlocks_20 : decode cX6_errorByBlocks 20 = .ok (.aload_n 0, 1) := by decide +kernel
theorem dX6_errorByBlocks_21 : decode cX6_errorByBlocks 21 = .ok (.getfield 12, 3) := by decide +kernel
theorem dX6_errorByBlocks_24 : decode cX6_errorByBlocks 24 = .ok (.aload_n 0, 1) := by decide +kernel
theorem dX6_errorByBlocks_25 : decode cX6_errorByBlocks 25 = .ok (.getfield 12, 3) := by decide +kernel
theorem dX6_errorByBlocks_28 : decode cX6_errorByBlocks 28 = .ok (.iload_n 2, 1) := by decide +kernel
theorem dX6_errorByBlocks_29 : decode cX6_errorByBlocks 29 = .ok (.invokevirtual 260, 3) := by decide +kernel
theorem dX6_errorByBlocks_32 : decode cX6_errorByBlocks 32 = .ok (.aload_n 0, 1) := by decide +kernel
theorem dX6_errorByBlocks_33 : decode cX6_errorByBlocks 33 = .ok (.getfield 12, 3) := by decide +kernel
theorem dX6_errorByBlocks_36 : decode cX6_errorByBlocks 36 = .ok (.iload_n 2, 1) := by decide +kernel
theorem dX6_errorByBlocks_37 : decode cX6_errorByBlocks 37 = .ok (.invokevirtual 257, 3) := by decide +kernel
theorem dX6_errorByBlocks_40 : decode cX6_errorByBlocks 40 = .ok (.invokevirtual 269, 3) := by decide +kernel
theorem dX6_errorByBlocks_43 : decode cX6_errorByBlocks 43 = .ok (.iadd, 1) := by decide +kernel
theorem dX6_errorByBlocks_44 : decode cX6_errorByBlocks 44 = .ok (.istore_n 1, 1) := by decide +kernel
theorem dX6_errorByBlocks_45 : decode cX6_errorByBlocks 45 = .ok (.iinc 2 1, 3) := by decide +kernel
theorem dX6_errorByBlocks_48 : decode cX6_errorByBlocks 48 = .ok (.goto (-44), 3) := by decide +kernel
theorem dX6_errorByBlocks_51 : decode cX6_errorByBlocks 51 = .ok (.iload_n 1, 1) := by decide +kernel
theorem dX6_errorByBlocks_52 : decode cX6_errorByBlocks 52 = .ok (.ireturn, 1) := by decide +kernel
theorem dX6_leadOf_0 : decode cX6_leadOf 0 = .ok (.aload_n 0, 1) := by decide +kernel
theorem dX6_leadOf_1 : decode cX6_leadOf 1 = .ok (.getfield 58, 3) := by decide +kernel
theorem dX6_leadOf_4 : decode cX6_leadOf 4 = .ok (.aload_n 0, 1) := by decide +kernel
theorem dX6_leadOf_5 : decode cX6_leadOf 5 = .ok (.getfield 12, 3) := by decide +kernel
theorem dX6_leadOf_8 : decode cX6_leadOf 8 = .ok (.getfield 263, 3) := by decide +kernel
theorem dX6_leadOf_11 : decode cX6_leadOf 11 = .ok (.iload_n 1, 1) := by decide +kernel
theorem dX6_leadOf_12 : decode cX6_leadOf 12 = .ok (.iaload, 1) := by decide +kernel
theorem dX6_leadOf_13 : decode cX6_leadOf 13 = .ok (.aload_n 0, 1) := by decide +kernel
theorem dX6_leadOf_14 : decode cX6_leadOf 14 = .ok (.getfield 12, 3) := by decide +kernel
theorem dX6_leadOf_17 : decode cX6_leadOf 17 = .ok (.getfield 266, 3) := by decide +kernel
theorem dX6_leadOf_20 : decode cX6_leadOf 20 = .ok (.iload_n 1, 1) := by decide +kernel
theorem dX6_leadOf_21 : decode cX6_leadOf 21 = .ok (.iaload, 1) := by decide +kernel
theorem dX6_leadOf_22 : decode cX6_leadOf 22 = .ok (.invokevirtual 290, 3) := by decide +kernel
theorem dX6_leadOf_25 : decode cX6_leadOf 25 = .ok (.aload_n 0, 1) := by decide +kernel
theorem dX6_leadOf_26 : decode cX6_leadOf 26 = .ok (.getfield 12, 3) := by decide +kernel
theorem dX6_leadOf_29 : decode cX6_leadOf 29 = .ok (.iload_n 1, 1) := by decide +kernel
theorem dX6_leadOf_30 : decode cX6_leadOf 30 = .ok (.invokevirtual 260, 3) := by decide +kernel
theorem dX6_leadOf_33 : decode cX6_leadOf 33 = .ok (.iconst 1, 1) := by decide +kernel
theorem dX6_leadOf_34 : decode cX6_leadOf 34 = .ok (.iadd, 1) := by decide +kernel
theorem dX6_leadOf_35 : decode cX6_leadOf 35 = .ok (.istore_n 2, 1) := by decide +kernel
theorem dX6_leadOf_36 : decode cX6_leadOf 36 = .ok (.iload_n 2, 1) := by decide +kernel
theorem dX6_leadOf_37 : decode cX6_leadOf 37 = .ok (.aload_n 0, 1) := by decide +kernel
theorem dX6_leadOf_38 : decode cX6_leadOf 38 = .ok (.getfield 12, 3) := by decide +kernel
theorem dX6_leadOf_41 : decode cX6_leadOf 41 = .ok (.iload_n 1, 1) := by decide +kernel
theorem dX6_leadOf_42 : decode cX6_leadOf 42 = .ok (.invokevirtual 257, 3) := by decide +kernel
theorem dX6_leadOf_45 : decode cX6_leadOf 45 = .ok (.if_icmp .ge 25, 3) := by decide +kernel
theorem dX6_leadOf_48 : decode cX6_leadOf 48 = .ok (.aload_n 0, 1) := by decide +kernel
theorem dX6_leadOf_49 : decode cX6_leadOf 49 = .ok (.getfield 58, 3) := by decide +kernel
theorem dX6_leadOf_52 : decode cX6_leadOf 52 = .ok (.aload_n 0, 1) := by decide +kernel
theorem dX6_leadOf_53 : decode cX6_leadOf 53 = .ok (.getfield 12, 3) := by decide +kernel
theorem dX6_leadOf_56 : decode cX6_leadOf 56 = .ok (.getfield 181, 3) := by decide +kernel
theorem dX6_leadOf_59 : decode cX6_leadOf 59 = .ok (.iload_n 2, 1) := by decide +kernel
theorem dX6_leadOf_60 : decode cX6_leadOf 60 = .ok (.iaload, 1) := by decide +kernel
theorem dX6_leadOf_61 : decode cX6_leadOf 61 = .ok (.invokevirtual 296, 3) := by decide +kernel
theorem dX6_leadOf_64 : decode cX6_leadOf 64 = .ok (.iinc 2 1, 3) := by decide +kernel
theorem dX6_leadOf_67 : decode cX6_leadOf 67 = .ok (.goto (-31), 3) := by decide +kernel
theorem dX6_leadOf_70 : decode cX6_leadOf 70 = .ok (.aload_n 0, 1) := by decide +kernel
theorem dX6_leadOf_71 : decode cX6_leadOf 71 = .ok (.getfield 58, 3) := by decide +kernel
theorem dX6_leadOf_74 : decode cX6_leadOf 74 = .ok (.getfield 302, 3) := by decide +kernel
theorem dX6_leadOf_77 : decode cX6_leadOf 77 = .ok (.ireturn, 1) := by decide +kernel
theorem dX6_mix_0 : decode cX6_mix 0 = .ok (.ldc2_w 397, 3) := by decide +kernel
theorem dX6_mix_3 : decode cX6_mix 3 = .ok (.lload_n 0, 1) := by decide +kernel
theorem dX6_mix_4 : decode cX6_mix 4 = .ok (.lmul, 1) := by decide +kernel
theorem dX6_mix_5 : decode cX6_mix 5 = .ok (.lload_n 2, 1) := by decide +kernel
theorem dX6_mix_6 : decode cX6_mix 6 = .ok (.ladd, 1) := by decide +kernel
theorem dX6_mix_7 : decode cX6_mix 7 = .ok (.lreturn, 1) := by decide +kernel
theorem dX6_mixSamplesAndBlocks_0 : decode cX6_mixSamplesAndBlocks 0 = .ok (.lload_n 1, 1) := by decide +kernel
theorem dX6_mixSamplesAndBlocks_1 : decode cX6_mixSamplesAndBlocks 1 = .ok (.lstore_n 3, 1) := by decide +kernel
theorem dX6_mixSamplesAndBlocks_2 : decode cX6_mixSamplesAndBlocks 2 = .ok (.iconst 0, 1) := by decide +kernel
theorem dX6_mixSamplesAndBlocks_3 : decode cX6_mixSamplesAndBlocks 3 = .ok (.istore 5, 2) := by decide +kernel
theorem dX6_mixSamplesAndBlocks_5 : decode cX6_mixSamplesAndBlocks 5 = .ok (.iload 5, 2) := by decide +kernel
theorem dX6_mixSamplesAndBlocks_7 : decode cX6_mixSamplesAndBlocks 7 = .ok (.aload_n 0, 1) := by decide +kernel
theorem dX6_mixSamplesAndBlocks_8 : decode cX6_mixSamplesAndBlocks 8 = .ok (.getfield 12, 3) := by decide +kernel
theorem dX6_mixSamplesAndBlocks_11 : decode cX6_mixSamplesAndBlocks 11 = .ok (.getfield 72, 3) := by decide +kernel
theorem dX6_mixSamplesAndBlocks_14 : decode cX6_mixSamplesAndBlocks 14 = .ok (.if_icmp .ge 39, 3) := by decide +kernel
theorem dX6_mixSamplesAndBlocks_17 : decode cX6_mixSamplesAndBlocks 17 = .ok (.iconst 0, 1) := by decide +kernel
theorem dX6_mixSamplesAndBlocks_18 : decode cX6_mixSamplesAndBlocks 18 = .ok (.istore 6, 2) := by decide +kernel
theorem dX6_mixSamplesAndBlocks_20 : decode cX6_mixSamplesAndBlocks 20 = .ok (.iload 6, 2) := by decide +kernel
theorem dX6_mixSamplesAndBlocks_22 : decode cX6_mixSamplesAndBlocks 22 = .ok (.bipush 6, 2) := by decide +kernel
theorem dX6_mixSamplesAndBlocks_24 : decode cX6_mixSamplesAndBlocks 24 = .ok (.if_icmp .ge 23, 3) := by decide +kernel
theorem dX6_mixSamplesAndBlocks_27 : decode cX6_mixSamplesAndBlocks 27 = .ok (.lload_n 3, 1) := by decide +kernel
theorem dX6_mixSamplesAndBlocks_28 : decode cX6_mixSamplesAndBlocks 28 = .ok (.aload_n 0, 1) := by decide +kernel
theorem dX6_mixSamplesAndBlocks_29 : decode cX6_mixSamplesAndBlocks 29 = .ok (.iload 5, 2) := by decide +kernel
theorem dX6_mixSamplesAndBlocks_31 : decode cX6_mixSamplesAndBlocks 31 = .ok (.iload 6, 2) := by decide +kernel
theorem dX6_mixSamplesAndBlocks_33 : decode cX6_mixSamplesAndBlocks 33 = .ok (.invokevirtual 399, 3) := by decide +kernel
theorem dX6_mixSamplesAndBlocks_36 : decode cX6_mixSamplesAndBlocks 36 = .ok (.i2l, 1) := by decide +kernel
theorem dX6_mixSamplesAndBlocks_37 : decode cX6_mixSamplesAndBlocks 37 = .ok (.invokestatic 324, 3) := by decide +kernel
theorem dX6_mixSamplesAndBlocks_40 : decode cX6_mixSamplesAndBlocks 40 = .ok (.lstore_n 3, 1) := by decide +kernel
theorem dX6_mixSamplesAndBlocks_41 : decode cX6_mixSamplesAndBlocks 41 = .ok (.iinc 6 1, 3) := by decide +kernel
theorem dX6_mixSamplesAndBlocks_44 : decode cX6_mixSamplesAndBlocks 44 = .ok (.goto (-24), 3) := by decide +kernel
theorem dX6_mixSamplesAndBlocks_47 : decode cX6_mixSamplesAndBlocks 47 = .ok (.iinc 5 1, 3) := by decide +kernel
theorem dX6_mixSamplesAndBlocks_50 : decode cX6_mixSamplesAndBlocks 50 = .ok (.goto (-45), 3) := by decide +kernel
theorem dX6_mixSamplesAndBlocks_53 : decode cX6_mixSamplesAndBlocks 53 = .ok (.iconst 0, 1) := by decide +kernel
theorem dX6_mixSamplesAndBlocks_54 : decode cX6_mixSamplesAndBlocks 54 = .ok (.istore 5, 2) := by decide +kernel
theorem dX6_mixSamplesAndBlocks_56 : decode cX6_mixSamplesAndBlocks 56 = .ok (.iload 5, 2) := by decide +kernel
theorem dX6_mixSamplesAndBlocks_58 : decode cX6_mixSamplesAndBlocks 58 = .ok (.aload_n 0, 1) := by decide +kernel
theorem dX6_mixSamplesAndBlocks_59 : decode cX6_mixSamplesAndBlocks 59 = .ok (.getfield 12, 3) := by decide +kernel
theorem dX6_mixSamplesAndBlocks_62 : decode cX6_mixSamplesAndBlocks 62 = .ok (.getfield 158, 3) := by decide +kernel
theorem dX6_mixSamplesAndBlocks_65 : decode cX6_mixSamplesAndBlocks 65 = .ok (.if_icmp .ge 39, 3) := by decide +kernel
theorem dX6_mixSamplesAndBlocks_68 : decode cX6_mixSamplesAndBlocks 68 = .ok (.iconst 0, 1) := by decide +kernel
theorem dX6_mixSamplesAndBlocks_69 : decode cX6_mixSamplesAndBlocks 69 = .ok (.istore 6, 2) := by decide +kernel
theorem dX6_mixSamplesAndBlocks_71 : decode cX6_mixSamplesAndBlocks 71 = .ok (.iload 6, 2) := by decide +kernel
theorem dX6_mixSamplesAndBlocks_73 : decode cX6_mixSamplesAndBlocks 73 = .ok (.bipush 6, 2) := by decide +kernel
theorem dX6_mixSamplesAndBlocks_75 : decode cX6_mixSamplesAndBlocks 75 = .ok (.if_icmp .ge 23, 3) := by decide +kernel
theorem dX6_mixSamplesAndBlocks_78 : decode cX6_mixSamplesAndBlocks 78 = .ok (.lload_n 3, 1) := by decide +kernel
theorem dX6_mixSamplesAndBlocks_79 : decode cX6_mixSamplesAndBlocks 79 = .ok (.aload_n 0, 1) := by decide +kernel
theorem dX6_mixSamplesAndBlocks_80 : decode cX6_mixSamplesAndBlocks 80 = .ok (.iload 5, 2) := by decide +kernel
theorem dX6_mixSamplesAndBlocks_82 : decode cX6_mixSamplesAndBlocks 82 = .ok (.iload 6, 2) := by decide +kernel
theorem dX6_mixSamplesAndBlocks_84 : decode cX6_mixSamplesAndBlocks 84 = .ok (.invokevirtual 402, 3) := by decide +kernel
theorem dX6_mixSamplesAndBlocks_87 : decode cX6_mixSamplesAndBlocks 87 = .ok (.i2l, 1) := by decide +kernel
theorem dX6_mixSamplesAndBlocks_88 : decode cX6_mixSamplesAndBlocks 88 = .ok (.invokestatic 324, 3) := by decide +kernel
theorem dX6_mixSamplesAndBlocks_91 : decode cX6_mixSamplesAndBlocks 91 = .ok (.lstore_n 3, 1) := by decide +kernel
theorem dX6_mixSamplesAndBlocks_92 : decode cX6_mixSamplesAndBlocks 92 = .ok (.iinc 6 1, 3) := by decide +kernel
theorem dX6_mixSamplesAndBlocks_95 : decode cX6_mixSamplesAndBlocks 95 = .ok (.goto (-24), 3) := by decide +kernel
theorem dX6_mixSamplesAndBlocks_98 : decode cX6_mixSamplesAndBlocks 98 = .ok (.iinc 5 1, 3) := by decide +kernel
theorem dX6_mixSamplesAndBlocks_101 : decode cX6_mixSamplesAndBlocks 101 = .ok (.goto (-45), 3) := by decide +kernel
theorem dX6_mixSamplesAndBlocks_104 : decode cX6_mixSamplesAndBlocks 104 = .ok (.lload_n 3, 1) := by decide +kernel
theorem dX6_mixSamplesAndBlocks_105 : decode cX6_mixSamplesAndBlocks 105 = .ok (.lreturn, 1) := by decide +kernel
theorem dX6_mixWhatWouldBe_0 : decode cX6_mixWhatWouldBe 0 = .ok (.lload_n 1, 1) := by decide +kernel
theorem dX6_mixWhatWouldBe_1 : decode cX6_mixWhatWouldBe 1 = .ok (.aload_n 0, 1) := by decide +kernel
theorem dX6_mixWhatWouldBe_2 : decode cX6_mixWhatWouldBe 2 = .ok (.iconst 0, 1) := by decide +kernel
theorem dX6_mixWhatWouldBe_3 : decode cX6_mixWhatWouldBe 3 = .ok (.aload_n 0, 1) := by decide +kernel
theorem dX6_mixWhatWouldBe_4 : decode cX6_mixWhatWouldBe 4 = .ok (.getfield 12, 3) := by decide +kernel
theorem dX6_mixWhatWouldBe_7 : decode cX6_mixWhatWouldBe 7 = .ok (.getfield 72, 3) := by decide +kernel
theorem dX6_mixWhatWouldBe_10 : decode cX6_mixWhatWouldBe 10 = .ok (.invokevirtual 405, 3) := by decide +kernel
theorem dX6_mixWhatWouldBe_13 : decode cX6_mixWhatWouldBe 13 = .ok (.i2l, 1) := by decide +kernel
theorem dX6_mixWhatWouldBe_14 : decode cX6_mixWhatWouldBe 14 = .ok (.invokestatic 324, 3) := by decide +kernel
theorem dX6_mixWhatWouldBe_17 : decode cX6_mixWhatWouldBe 17 = .ok (.lstore_n 3, 1) := by decide +kernel
theorem dX6_mixWhatWouldBe_18 : decode cX6_mixWhatWouldBe 18 = .ok (.iconst 0, 1) := by decide +kernel
theorem dX6_mixWhatWouldBe_19 : decode cX6_mixWhatWouldBe 19 = .ok (.istore 5, 2) := by decide +kernel
theorem dX6_mixWhatWouldBe_21 : decode cX6_mixWhatWouldBe 21 = .ok (.iload 5, 2) := by decide +kernel
theorem dX6_mixWhatWouldBe_23 : decode cX6_mixWhatWouldBe 23 = .ok (.aload_n 0, 1) := by decide +kernel
theorem dX6_mixWhatWouldBe_24 : decode cX6_mixWhatWouldBe 24 = .ok (.getfield 12, 3) := by decide +kernel
theorem dX6_mixWhatWouldBe_27 : decode cX6_mixWhatWouldBe 27 = .ok (.getfield 72, 3) := by decide +kernel
theorem dX6_mixWhatWouldBe_30 : decode cX6_mixWhatWouldBe 30 = .ok (.if_icmp .ge 34, 3) := by decide +kernel
theorem dX6_mixWhatWouldBe_33 : decode cX6_mixWhatWouldBe 33 = .ok (.aload_n 0, 1) := by decide +kernel
theorem dX6_mixWhatWouldBe_34 : decode cX6_mixWhatWouldBe 34 = .ok (.getfield 12, 3) := by decide +kernel
theorem dX6_mixWhatWouldBe_37 : decode cX6_mixWhatWouldBe 37 = .ok (.iload 5, 2) := by decide +kernel
theorem dX6_mixWhatWouldBe_39 : decode cX6_mixWhatWouldBe 39 = .ok (.invokevirtual 362, 3) := by decide +kernel
theorem dX6_mixWhatWouldBe_42 : decode cX6_mixWhatWouldBe 42 = .ok (.ifCond .eq 16, 3) := by decide +kernel
theorem dX6_mixWhatWouldBe_45 : decode cX6_mixWhatWouldBe 45 = .ok (.lload_n 3, 1) := by decide +kernel
theorem dX6_mixWhatWouldBe_46 : decode cX6_mixWhatWouldBe 46 = .ok (.aload_n 0, 1) := by decide +kernel
theorem dX6_mixWhatWouldBe_47 : decode cX6_mixWhatWouldBe 47 = .ok (.iload 5, 2) := by decide +kernel
theorem dX6_mixWhatWouldBe_49 : decode cX6_mixWhatWouldBe 49 = .ok (.iconst 3, 1) := by decide +kernel
theorem dX6_mixWhatWouldBe_50 : decode cX6_mixWhatWouldBe 50 = .ok (.invokevirtual 408, 3) := by decide +kernel
theorem dX6_mixWhatWouldBe_53 : decode cX6_mixWhatWouldBe 53 = .ok (.i2l, 1) := by decide +kernel
theorem dX6_mixWhatWouldBe_54 : decode cX6_mixWhatWouldBe 54 = .ok (.invokestatic 324, 3) := by decide +kernel
theorem dX6_mixWhatWouldBe_57 : decode cX6_mixWhatWouldBe 57 = .ok (.lstore_n 3, 1) := by decide +kernel
theorem dX6_mixWhatWouldBe_58 : decode cX6_mixWhatWouldBe 58 = .ok (.iinc 5 1, 3) := by decide +kernel
theorem dX6_mixWhatWouldBe_61 : decode cX6_mixWhatWouldBe 61 = .ok (.goto (-40), 3) := by decide +kernel
theorem dX6_mixWhatWouldBe_64 : decode cX6_mixWhatWouldBe 64 = .ok (.lload_n 3, 1) := by decide +kernel
theorem dX6_mixWhatWouldBe_65 : decode cX6_mixWhatWouldBe 65 = .ok (.lreturn, 1) := by decide +kernel
theorem dX6_bitsOfDouble_0 : decode cX6_bitsOfDouble 0 = .ok (.dload_n 0, 1) := by decide +kernel
theorem dX6_bitsOfDouble_1 : decode cX6_bitsOfDouble 1 = .ok (.dconst 0, 1) := by decide +kernel
theorem dX6_bitsOfDouble_2 : decode cX6_bitsOfDouble 2 = .ok (.dcmp .l, 1) := by decide +kernel
theorem dX6_bitsOfDouble_3 : decode cX6_bitsOfDouble 3 = .ok (.ifCond .le 15, 3) := by decide +kernel
theorem dX6_bitsOfDouble_6 : decode cX6_bitsOfDouble 6 = .ok (.dload_n 0, 1) := by decide +kernel
theorem dX6_bitsOfDouble_7 : decode cX6_bitsOfDouble 7 = .ok (.bipush 52, 2) := by decide +kernel
theorem dX6_bitsOfDouble_9 : decode cX6_bitsOfDouble 9 = .ok (.sipush 1023, 3) := by decide +kernel
theorem dX6_bitsOfDouble_12 : decode cX6_bitsOfDouble 12 = .ok (.invokestatic 411, 3) := by decide +kernel
theorem dX6_bitsOfDouble_15 : decode cX6_bitsOfDouble 15 = .ok (.goto 4, 3) := by decide +kernel
theorem dX6_bitsOfDouble_18 : decode cX6_bitsOfDouble 18 = .ok (.lconst 0, 1) := by decide +kernel
theorem dX6_bitsOfDouble_19 : decode cX6_bitsOfDouble 19 = .ok (.lreturn, 1) := by decide +kernel
theorem dX6_bitsOfFloat_0 : decode cX6_bitsOfFloat 0 = .ok (.fload_n 0, 1) := by decide +kernel
theorem dX6_bitsOfFloat_1 : decode cX6_bitsOfFloat 1 = .ok (.fconst 0, 1) := by decide +kernel
theorem dX6_bitsOfFloat_2 : decode cX6_bitsOfFloat 2 = .ok (.fcmp .g, 1) := by decide +kernel
theorem dX6_bitsOfFloat_3 : decode cX6_bitsOfFloat 3 = .ok (.ifCond .ge 19, 3) := by decide +kernel
theorem dX6_bitsOfFloat_6 : decode cX6_bitsOfFloat 6 = .ok (.ldc_w 417, 3) := by decide +kernel
theorem dX6_bitsOfFloat_9 : decode cX6_bitsOfFloat 9 = .ok (.fload_n 0, 1) := by decide +kernel
theorem dX6_bitsOfFloat_10 : decode cX6_bitsOfFloat 10 = .ok (.fneg, 1) := by decide +kernel
theorem dX6_bitsOfFloat_11 : decode cX6_bitsOfFloat 11 = .ok (.f2d, 1) := by decide +kernel
theorem dX6_bitsOfFloat_12 : decode cX6_bitsOfFloat 12 = .ok (.bipush 23, 2) := by decide +kernel
theorem dX6_bitsOfFloat_14 : decode cX6_bitsOfFloat 14 = .ok (.bipush 127, 2) := by decide +kernel
theorem dX6_bitsOfFloat_16 : decode cX6_bitsOfFloat 16 = .ok (.invokestatic 411, 3) := by decide +kernel
theorem dX6_bitsOfFloat_19 : decode cX6_bitsOfFloat 19 = .ok (.l2i, 1) := by decide +kernel
theorem dX6_bitsOfFloat_20 : decode cX6_bitsOfFloat 20 = .ok (.iadd, 1) := by decide +kernel
theorem dX6_bitsOfFloat_21 : decode cX6_bitsOfFloat 21 = .ok (.ireturn, 1) := by decide +kernel
theorem dX6_bitsOfFloat_22 : decode cX6_bitsOfFloat 22 = .ok (.fload_n 0, 1) := by decide +kernel
theorem dX6_bitsOfFloat_23 : decode cX6_bitsOfFloat 23 = .ok (.fconst 0, 1) := by decide +kernel
theorem dX6_bitsOfFloat_24 : decode cX6_bitsOfFloat 24 = .ok (.fcmp .l, 1) := by decide +kernel
theorem dX6_bitsOfFloat_25 : decode cX6_bitsOfFloat 25 = .ok (.ifCond .le 16, 3) := by decide +kernel
theorem dX6_bitsOfFloat_28 : decode cX6_bitsOfFloat 28 = .ok (.fload_n 0, 1) := by decide +kernel
theorem dX6_bitsOfFloat_29 : decode cX6_bitsOfFloat 29 = .ok (.f2d, 1) := by decide +kernel
theorem dX6_bitsOfFloat_30 : decode cX6_bitsOfFloat 30 = .ok (.bipush 23, 2) := by decide +kernel
theorem dX6_bitsOfFloat_32 : decode cX6_bitsOfFloat 32 = .ok (.bipush 127, 2) := by decide +kernel
theorem dX6_bitsOfFloat_34 : decode cX6_bitsOfFloat 34 = .ok (.invokestatic 411, 3) := by decide +kernel
theorem dX6_bitsOfFloat_37 : decode cX6_bitsOfFloat 37 = .ok (.l2i, 1) := by decide +kernel
theorem dX6_bitsOfFloat_38 : decode cX6_bitsOfFloat 38 = .ok (.goto 4, 3) := by decide +kernel
theorem dX6_bitsOfFloat_41 : decode cX6_bitsOfFloat 41 = .ok (.iconst 0, 1) := by decide +kernel
theorem dX6_bitsOfFloat_42 : decode cX6_bitsOfFloat 42 = .ok (.ireturn, 1) := by decide +kernel
theorem dX6_bitsOf_0 : decode cX6_bitsOf 0 = .ok (.dload_n 0, 1) := by decide +kernel
theorem dX6_bitsOf_1 : decode cX6_bitsOf 1 = .ok (.dstore 4, 2) := by decide +kernel
theorem dX6_bitsOf_3 : decode cX6_bitsOf 3 = .ok (.iconst 0, 1) := by decide +kernel
theorem dX6_bitsOf_4 : decode cX6_bitsOf 4 = .ok (.istore 6, 2) := by decide +kernel
theorem dX6_bitsOf_6 : decode cX6_bitsOf 6 = .ok (.dload 4, 2) := by decide +kernel
theorem dX6_bitsOf_8 : decode cX6_bitsOf 8 = .ok (.ldc2_w 418, 3) := by decide +kernel
theorem dX6_bitsOf_11 : decode cX6_bitsOf 11 = .ok (.dcmp .l, 1) := by decide +kernel
theorem dX6_bitsOf_12 : decode cX6_bitsOf 12 = .ok (.ifCond .lt 23, 3) := by decide +kernel
theorem dX6_bitsOf_15 : decode cX6_bitsOf 15 = .ok (.iload 6, 2) := by decide +kernel
theorem dX6_bitsOf_17 : decode cX6_bitsOf 17 = .ok (.iload_n 3, 1) := by decide +kernel
theorem dX6_bitsOf_18 : decode cX6_bitsOf 18 = .ok (.if_icmp .ge 17, 3) := by decide +kernel
theorem dX6_bitsOf_21 : decode cX6_bitsOf 21 = .ok (.dload 4, 2) := by decide +kernel
theorem dX6_bitsOf_23 : decode cX6_bitsOf 23 = .ok (.ldc2_w 418, 3) := by decide +kernel
theorem dX6_bitsOf_26 : decode cX6_bitsOf 26 = .ok (.ddiv, 1) := by decide +kernel
theorem dX6_bitsOf_27 : decode cX6_bitsOf 27 = .ok (.dstore 4, 2) := by decide +kernel
theorem dX6_bitsOf_29 : decode cX6_bitsOf 29 = .ok (.iinc 6 1, 3) := by decide +kernel
theorem dX6_bitsOf_32 : decode cX6_bitsOf 32 = .ok (.goto (-26), 3) := by decide +kernel
theorem dX6_bitsOf_35 : decode cX6_bitsOf 35 = .ok (.dload 4, 2) := by decide +kernel
theorem dX6_bitsOf_37 : decode cX6_bitsOf 37 = .ok (.dconst 1, 1) := by decide +kernel
theorem dX6_bitsOf_38 : decode cX6_bitsOf 38 = .ok (.dcmp .g, 1) := by decide +kernel
theorem dX6_bitsOf_39 : decode cX6_bitsOf 39 = .ok (.ifCond .ge 25, 3) := by decide +kernel
theorem dX6_bitsOf_42 : decode cX6_bitsOf 42 = .ok (.iload 6, 2) := by decide +kernel
theorem dX6_bitsOf_44 : decode cX6_bitsOf 44 = .ok (.iconst 1, 1) := by decide +kernel
theorem dX6_bitsOf_45 : decode cX6_bitsOf 45 = .ok (.iload_n 3, 1) := by decide +kernel
theorem dX6_bitsOf_46 : decode cX6_bitsOf 46 = .ok (.isub, 1) := by decide +kernel
theorem dX6_bitsOf_47 : decode cX6_bitsOf 47 = .ok (.if_icmp .le 17, 3) := by decide +kernel
theorem dX6_bitsOf_50 : decode cX6_bitsOf 50 = .ok (.dload 4, 2) := by decide +kernel
theorem dX6_bitsOf_52 : decode cX6_bitsOf 52 = .ok (.ldc2_w 418, 3) := by decide +kernel
theorem dX6_bitsOf_55 : decode cX6_bitsOf 55 = .ok (.dmul, 1) := by decide +kernel
theorem dX6_bitsOf_56 : decode cX6_bitsOf 56 = .ok (.dstore 4, 2) := by decide +kernel
theorem dX6_bitsOf_58 : decode cX6_bitsOf 58 = .ok (.iinc 6 (-1), 3) := by decide +kernel
theorem dX6_bitsOf_61 : decode cX6_bitsOf 61 = .ok (.goto (-26), 3) := by decide +kernel
theorem dX6_bitsOf_64 : decode cX6_bitsOf 64 = .ok (.lconst 1, 1) := by decide +kernel
theorem dX6_bitsOf_65 : decode cX6_bitsOf 65 = .ok (.iload_n 2, 1) := by decide +kernel
theorem dX6_bitsOf_66 : decode cX6_bitsOf 66 = .ok (.lshl, 1) := by decide +kernel
theorem dX6_bitsOf_67 : decode cX6_bitsOf 67 = .ok (.lstore 7, 2) := by decide +kernel
theorem dX6_bitsOf_69 : decode cX6_bitsOf 69 = .ok (.iload 6, 2) := by decide +kernel
theorem dX6_bitsOf_71 : decode cX6_bitsOf 71 = .ok (.iload_n 3, 1) := by decide +kernel
theorem dX6_bitsOf_72 : decode cX6_bitsOf 72 = .ok (.iadd, 1) := by decide +kernel
theorem dX6_bitsOf_73 : decode cX6_bitsOf 73 = .ok (.i2l, 1) := by decide +kernel
theorem dX6_bitsOf_74 : decode cX6_bitsOf 74 = .ok (.lload 7, 2) := by decide +kernel
theorem dX6_bitsOf_76 : decode cX6_bitsOf 76 = .ok (.lmul, 1) := by decide +kernel
theorem dX6_bitsOf_77 : decode cX6_bitsOf 77 = .ok (.dload 4, 2) := by decide +kernel
theorem dX6_bitsOf_79 : decode cX6_bitsOf 79 = .ok (.dconst 1, 1) := by decide +kernel
theorem dX6_bitsOf_80 : decode cX6_bitsOf 80 = .ok (.dsub, 1) := by decide +kernel
theorem dX6_bitsOf_81 : decode cX6_bitsOf 81 = .ok (.lload 7, 2) := by decide +kernel
theorem dX6_bitsOf_83 : decode cX6_bitsOf 83 = .ok (.l2d, 1) := by decide +kernel
theorem dX6_bitsOf_84 : decode cX6_bitsOf 84 = .ok (.dmul, 1) := by decide +kernel
theorem dX6_bitsOf_85 : decode cX6_bitsOf 85 = .ok (.d2l, 1) := by decide +kernel
theorem dX6_bitsOf_86 : decode cX6_bitsOf 86 = .ok (.ladd, 1) := by decide +kernel
theorem dX6_bitsOf_87 : decode cX6_bitsOf 87 = .ok (.lreturn, 1) := by decide +kernel
theorem dJ9_abs_0f7a4_0 : decode cJ9_abs_0f7a4 0 = .ok (.iload_n 0, 1) := by decide +kernel
theorem dJ9_abs_0f7a4_1 : decode cJ9_abs_0f7a4 1 = .ok (.ifCond .ge 8, 3) := by decide +kernel
theorem dJ9_abs_0f7a4_4 : decode cJ9_abs_0f7a4 4 = .ok (.iload_n 0, 1) := by decide +kernel
theorem dJ9_abs_0f7a4_5 : decode cJ9_abs_0f7a4 5 = .ok (.ineg, 1) := by decide +kernel
theorem dJ9_abs_0f7a4_6 : decode cJ9_abs_0f7a4 6 = .ok (.goto 4, 3) := by decide +kernel
theorem dJ9_abs_0f7a4_9 : decode cJ9_abs_0f7a4 9 = .ok (.iload_n 0, 1) := by decide +kernel
theorem dJ9_abs_0f7a4_10 : decode cJ9_abs_0f7a4 10 = .ok (.ireturn, 1) := by decide +kernel
theorem dJ9_max_7cf53_0 : decode cJ9_max_7cf53 0 = .ok (.iload_n 0, 1) := by decide +kernel
theorem dJ9_max_7cf53_1 : decode cJ9_max_7cf53 1 = .ok (.iload_n 1, 1) := by decide +kernel
theorem dJ9_max_7cf53_2 : decode cJ9_max_7cf53 2 = .ok (.if_icmp .lt 7, 3) := by decide +kernel
theorem dJ9_max_7cf53_5 : decode cJ9_max_7cf53 5 = .ok (.iload_n 0, 1) := by decide +kernel
theorem dJ9_max_7cf53_6 : decode cJ9_max_7cf53 6 = .ok (.goto 4, 3) := by decide +kernel
theorem dJ9_max_7cf53_9 : decode cJ9_max_7cf53 9 = .ok (.iload_n 1, 1) := by decide +kernel
theorem dJ9_max_7cf53_10 : decode cJ9_max_7cf53 10 = .ok (.ireturn, 1) := by decide +kernel
theorem dJ9_min_7cf53_0 : decode cJ9_min_7cf53 0 = .ok (.iload_n 0, 1) := by decide +kernel
theorem dJ9_min_7cf53_1 : decode cJ9_min_7cf53 1 = .ok (.iload_n 1, 1) := by decide +kernel
theorem dJ9_min_7cf53_2 : decode cJ9_min_7cf53 2 = .ok (.if_icmp .gt 7, 3) := by decide +kernel
theorem dJ9_min_7cf53_5 : decode cJ9_min_7cf53 5 = .ok (.iload_n 0, 1) := by decide +kernel
theorem dJ9_min_7cf53_6 : decode cJ9_min_7cf53 6 = .ok (.goto 4, 3) := by decide +kernel
theorem dJ9_min_7cf53_9 : decode cJ9_min_7cf53 9 = .ok (.iload_n 1, 1) := by decide +kernel
theorem dJ9_min_7cf53_10 : decode cJ9_min_7cf53 10 = .ok (.ireturn, 1) := by decide +kernel
end
section
theorem dX7_init_0 : decode cX7_init 0 = .ok (.aload_n 0, 1) := by decide +kernel
theorem dX7_init_1 : decode cX7_init 1 = .ok (.invokespecial 1, 3) := by decide +kernel
theorem dX7_init_4 : decode cX7_init 4 = .ok (.aload_n 0, 1) := by decide +kernel
theorem dX7_init_5 : decode cX7_init 5 = .ok (.sipush 295, 3) := by decide +kernel
theorem dX7_init_8 : decode cX7_init 8 = .ok (.newarray .int, 2) := by decide +kernel
theorem dX7_init_10 : decode cX7_init 10 = .ok (.putfield 7, 3) := by decide +kernel
theorem dX7_init_13 : decode cX7_init 13 = .ok (.aload_n 0, 1) := by decide +kernel
theorem dX7_init_14 : decode cX7_init 14 = .ok (.sipush 1770, 3) := by decide +kernel
theorem dX7_init_17 : decode cX7_init 17 = .ok (.newarray .int, 2) := by decide +kernel
theorem dX7_init_19 : decode cX7_init 19 = .ok (.putfield 13, 3) := by decide +kernel
theorem dX7_init_22 : decode cX7_init 22 = .ok (.aload_n 0, 1) := by decide +kernel
theorem dX7_init_23 : decode cX7_init 23 = .ok (.sipush 590, 3) := by decide +kernel
theorem dX7_init_26 : decode cX7_init 26 = .ok (.newarray .int, 2) := by decide +kernel
theorem dX7_init_28 : decode cX7_init 28 = .ok (.putfield 16, 3) := by decide +kernel
theorem dX7_init_31 : decode cX7_init 31 = .ok (.aload_n 0, 1) := by decide +kernel
theorem dX7_init_32 : decode cX7_init 32 = .ok (.iconst 2, 1) := by decide +kernel
theorem dX7_init_33 : decode cX7_init 33 = .ok (.newarray .boolean, 2) := by decide +kernel
theorem dX7_init_35 : decode cX7_init 35 = .ok (.putfield 19, 3) := by decide +kernel
theorem dX7_init_38 : decode cX7_init 38 = .ok (.aload_n 0, 1) := by decide +kernel
theorem dX7_init_39 : decode cX7_init 39 = .ok (.bipush 40, 2) := by decide +kernel
theorem dX7_init_41 : decode cX7_init 41 = .ok (.newarray .int, 2) := by decide +kernel
theorem dX7_init_43 : decode cX7_init 43 = .ok (.putfield 23, 3) := by decide +kernel
theorem dX7_init_46 : decode cX7_init 46 = .ok (.aload_n 0, 1) := by decide +kernel
theorem dX7_init_47 : decode cX7_init 47 = .ok (.bipush 49, 2) := by decide +kernel
theorem dX7_init_49 : decode cX7_init 49 = .ok (.newarray .int, 2) := by decide +kernel
theorem dX7_init_51 : decode cX7_init 51 = .ok (.putfield 26, 3) := by decide +kernel
theorem dX7_init_54 : decode cX7_init 54 = .ok (.aload_n 0, 1) := by decide +kernel
theorem dX7_init_55 : decode cX7_init 55 = .ok (.bipush 64, 2) := by decide +kernel
theorem dX7_init_57 : decode cX7_init 57 = .ok (.newarray .int, 2) := by decide +kernel
theorem dX7_init_59 : decode cX7_init 59 = .ok (.putfield 29, 3) := by decide +kernel
theorem dX7_init_62 : decode cX7_init 62 = .ok (.aload_n 0, 1) := by decide +kernel
theorem dX7_init_63 : decode cX7_init 63 = .ok (.bipush 64, 2) := by decide +kernel
theorem dX7_init_65 : decode cX7_init 65 = .ok (.newarray .int, 2) := by decide +kernel
theorem dX7_init_67 : decode cX7_init 67 = .ok (.putfield 32, 3) := by decide +kernel
theorem dX7_init_70 : decode cX7_init 70 = .ok (.aload_n 0, 1) := by decide +kernel
theorem dX7_init_71 : decode cX7_init 71 = .ok (.bipush 32, 2) := by decide +kernel
theorem dX7_init_73 : decode cX7_init 73 = .ok (.newarray .int, 2) := by decide +kernel
theorem dX7_init_75 : decode cX7_init 75 = .ok (.putfield 35, 3) := by decide +kernel
theorem dX7_init_78 : decode cX7_init 78 = .ok (.aload_n 0, 1) := by decide +kernel
theorem dX7_init_79 : decode cX7_init 79 = .ok (.bipush 64, 2) := by decide +kernel
theorem dX7_init_81 : decode cX7_init 81 = .ok (.newarray .int, 2) := by decide +kernel
theorem dX7_init_83 : decode cX7_init 83 = .ok (.putfield 38, 3) := by decide +kernel
theorem dX7_init_86 : decode cX7_init 86 = .ok (.aload_n 0, 1) := by decide +kernel
theorem dX7_init_87 : decode cX7_init 87 = .ok (.bipush 15, 2) := by decide +kernel
theorem dX7_init_89 : decode cX7_init 89 = .ok (.newarray .int, 2) := by decide +kernel
theorem dX7_init_91 : decode cX7_init 91 = .ok (.putfield 41, 3) := by decide +kernel
theorem dX7_init_94 : decode cX7_init 94 = .ok (.aload_n 0, 1) := by decide +kernel
theorem dX7_init_95 : decode cX7_init 95 = .ok (.getfield 7, 3) := by decide +kernel
theorem dX7_init_98 : decode cX7_init 98 = .ok (.iconst 0, 1) := by decide +kernel
theorem dX7_init_99 : decode cX7_init 99 = .ok (.bipush 32, 2) := by decide +kernel
theorem dX7_init_101 : decode cX7_init 101 = .ok (.iastore, 1) := by decide +kernel
theorem dX7_init_102 : decode cX7_init 102 = .ok (.aload_n 0, 1) := by decide +kernel
theorem dX7_init_103 : decode cX7_init 103 = .ok (.getfield 7, 3) := by decide +kernel
theorem dX7_init_106 : decode cX7_init 106 = .ok (.iconst 2, 1) := by decide +kernel
theorem dX7_init_107 : decode cX7_init 107 = .ok (.bipush 8, 2) := by decide +kernel
theorem dX7_init_109 : decode cX7_init 109 = .ok (.iastore, 1) := by decide +kernel
theorem dX7_init_110 : decode cX7_init 110 = .ok (.aload_n 0, 1) := by decide +kernel
theorem dX7_init_111 : decode cX7_init 111 = .ok (.getfield 26, 3) := by decide +kernel
theorem dX7_init_114 : decode cX7_init 114 = .ok (.iconst 0, 1) := by decide +kernel
theorem dX7_init_115 : decode cX7_init 115 = .ok (.bipush 7, 2) := by decide +kernel
theorem dX7_init_117 : decode cX7_init 117 = .ok (.iastore, 1) := by decide +kernel
theorem dX7_init_118 : decode cX7_init 118 = .ok (.iconst 1, 1) := by decide +kernel
theorem dX7_init_119 : decode cX7_init 119 = .ok (.istore_n 1, 1) := by decide +kernel
theorem dX7_init_120 : decode cX7_init 120 = .ok (.iload_n 1, 1) := by decide +kernel
theorem dX7_init_121 : decode cX7_init 121 = .ok (.bipush 49, 2) := by decide +kernel
theorem dX7_init_123 : decode cX7_init 123 = .ok (.if_icmp .ge 37, 3) := by decide +kernel
theorem dX7_init_126 : decode cX7_init 126 = .ok (.aload_n 0, 1) := by decide +kernel
theorem dX7_init_127 : decode cX7_init 127 = .ok (.getfield 26, 3) := by decide +kernel
theorem dX7_init_130 : decode cX7_init 130 = .ok (.iload_n 1, 1) := by decide +kernel
theorem dX7_init_131 : decode cX7_init 131 = .ok (.aload_n 0, 1) := by decide +kernel
theorem dX7_init_132 : decode cX7_init 132 = .ok (.getfield 26, 3) := by decide +kernel
theorem dX7_init_135 : decode cX7_init 135 = .ok (.iload_n 1, 1) := by decide +kernel
theorem dX7_init_136 : decode cX7_init 136 = .ok (.iconst 1, 1) := by decide +kernel
theorem dX7_init_137 : decode cX7_init 137 = .ok (.isub, 1) := by decide +kernel
theorem dX7_init_138 : decode cX7_init 138 = .ok (.iaload, 1) := by decide +kernel
theorem dX7_init_139 : decode cX7_init 139 = .ok (.aload_n 0, 1) := by decide +kernel
theorem dX7_init_140 : decode cX7_init 140 = .ok (.getfield 26, 3) := by decide +kernel
theorem dX7_init_143 : decode cX7_init 143 = .ok (.iload_n 1, 1) := by decide +kernel
theorem dX7_init_144 : decode cX7_init 144 = .ok (.iconst 1, 1) := by decide +kernel
theorem dX7_init_145 : decode cX7_init 145 = .ok (.isub, 1) := by decide +kernel
theorem dX7_init_146 : decode cX7_init 146 = .ok (.iaload, 1) := by decide +kernel
theorem dX7_init_147 : decode cX7_init 147 = .ok (.bipush 10, 2) := by decide +kernel
theorem dX7_init_149 : decode cX7_init 149 = .ok (.idiv, 1) := by decide +kernel
theorem dX7_init_150 : decode cX7_init 150 = .ok (.iadd, 1) := by decide +kernel
theorem dX7_init_151 : decode cX7_init 151 = .ok (.iconst 1, 1) := by decide +kernel
theorem dX7_init_152 : decode cX7_init 152 = .ok (.iadd, 1) := by decide +kernel
theorem dX7_init_153 : decode cX7_init 153 = .ok (.iastore, 1) := by decide +kernel
theorem dX7_init_154 : decode cX7_init 154 = .ok (.iinc 1 1, 3) := by decide +kernel
theorem dX7_init_157 : decode cX7_init 157 = .ok (.goto (-37), 3) := by decide +kernel
theorem dX7_init_160 : decode cX7_init 160 = .ok (.return_, 1) := by decide +kernel
theorem dX7_thrown_0 : decode cX7_thrown 0 = .ok (.aload_n 0, 1) := by decide +kernel
theorem dX7_thrown_1 : decode cX7_thrown 1 = .ok (.getfield 44, 3) := by decide +kernel
theorem dX7_thrown_4 : decode cX7_thrown 4 = .ok (.ireturn, 1) := by decide +kernel
theorem dX7_in_0 : decode cX7_in 0 = .ok (.iload_n 0, 1) := by decide +kernel
theorem dX7_in_1 : decode cX7_in 1 = .ok (.iload_n 1, 1) := by decide +kernel
theorem dX7_in_2 : decode cX7_in 2 = .ok (.if_icmp .lt 12, 3) := by decide +kernel
theorem dX7_in_5 : decode cX7_in 5 = .ok (.iload_n 0, 1) := by decide +kernel
theorem dX7_in_6 : decode cX7_in 6 = .ok (.iload_n 2, 1) := by decide +kernel
theorem dX7_in_7 : decode cX7_in 7 = .ok (.if_icmp .gt 7, 3) := by decide +kernel
theorem dX7_in_10 : decode cX7_in 10 = .ok (.iconst 1, 1) := by decide +kernel
theorem dX7_in_11 : decode cX7_in 11 = .ok (.goto 4, 3) := by decide +kernel
theorem dX7_in_14 : decode cX7_in 14 = .ok (.iconst 0, 1) := by decide +kernel
theorem dX7_in_15 : decode cX7_in 15 = .ok (.ireturn, 1) := by decide +kernel
theorem dX7_holds_0 : decode cX7_holds 0 = .ok (.aload_n 0, 1) := by decide +kernel
theorem dX7_holds_1 : decode cX7_holds 1 = .ok (.iload_n 1, 1) := by decide +kernel
theorem dX7_holds_2 : decode cX7_holds 2 = .ok (.putfield 44, 3) := by decide +kernel
theorem dX7_holds_5 : decode cX7_holds 5 = .ok (.iload_n 1, 1) := by decide +kernel
theorem dX7_holds_6 : decode cX7_holds 6 = .ok (.ifCond .ne 7, 3) := by decide +kernel
theorem dX7_holds_9 : decode cX7_holds 9 = .ok (.iconst 1, 1) := by decide +kernel
theorem dX7_holds_10 : decode cX7_holds 10 = .ok (.goto 4, 3) := by decide +kernel
theorem dX7_holds_13 : decode cX7_holds 13 = .ok (.iconst 0, 1) := by decide +kernel
theorem dX7_holds_14 : decode cX7_holds 14 = .ok (.ireturn, 1) := by decide +kernel
theorem dX7_save_0 : decode cX7_save 0 = .ok (.aload_n 0, 1) := by decide +kernel
theorem dX7_save_1 : decode cX7_save 1 = .ok (.getfield 48, 3) := by decide +kernel
theorem dX7_save_4 : decode cX7_save 4 = .ok (.bipush 6, 2) := by decide +kernel
theorem dX7_save_6 : decode cX7_save 6 = .ok (.if_icmp .ne 44, 3) := by decide +kernel
theorem dX7_save_9 : decode cX7_save 9 = .ok (.iconst 0, 1) := by decide +kernel
theorem dX7_save_10 : decode cX7_save 10 = .ok (.istore_n 1, 1) := by decide +kernel
theorem dX7_save_11 : decode cX7_save 11 = .ok (.iload_n 1, 1) := by decide +kernel
theorem dX7_save_12 : decode cX7_save 12 = .ok (.sipush 1475, 3) := by decide +kernel
theorem dX7_save_15 : decode cX7_save 15 = .ok (.if_icmp .ge 25, 3) := by decide +kernel
theorem dX7_save_18 : decode cX7_save 18 = .ok (.aload_n 0, 1) := by decide +kernel
theorem dX7_save_19 : decode cX7_save 19 = .ok (.getfield 13, 3) := by decide +kernel
theorem dX7_save_22 : decode cX7_save 22 = .ok (.iload_n 1, 1) := by decide +kernel
theorem dX7_save_23 : decode cX7_save 23 = .ok (.aload_n 0, 1) := by decide +kernel
theorem dX7_save_24 : decode cX7_save 24 = .ok (.getfield 13, 3) := by decide +kernel
theorem dX7_save_27 : decode cX7_save 27 = .ok (.sipush 295, 3) := by decide +kernel
theorem dX7_save_30 : decode cX7_save 30 = .ok (.iload_n 1, 1) := by decide +kernel
theorem dX7_save_31 : decode cX7_save 31 = .ok (.iadd, 1) := by decide +kernel
theorem dX7_save_32 : decode cX7_save 32 = .ok (.iaload, 1) := by decide +kernel
theorem dX7_save_33 : decode cX7_save 33 = .ok (.iastore, 1) := by decide +kernel
theorem dX7_save_34 : decode cX7_save 34 = .ok (.iinc 1 1, 3) := by decide +kernel
theorem dX7_save_37 : decode cX7_save 37 = .ok (.goto (-26), 3) := by decide +kernel
theorem dX7_save_40 : decode cX7_save 40 = .ok (.aload_n 0, 1) := by decide +kernel
theorem dX7_save_41 : decode cX7_save 41 = .ok (.dup, 1) := by decide +kernel
theorem dX7_save_42 : decode cX7_save 42 = .ok (.getfield 48, 3) := by decide +kernel
theorem dX7_save_45 : decode cX7_save 45 = .ok (.iconst 1, 1) := by decide +kernel
theorem dX7_save_46 : decode cX7_save 46 = .ok (.isub, 1) := by decide +kernel
theorem dX7_save_47 : decode cX7_save 47 = .ok (.putfield 48, 3) := by decide +kernel
theorem dX7_save_50 : decode cX7_save 50 = .ok (.iconst 0, 1) := by decide +kernel
theorem dX7_save_51 : decode cX7_save 51 = .ok (.istore_n 1, 1) := by decide +kernel
theorem dX7_save_52 : decode cX7_save 52 = .ok (.iload_n 1, 1) := by decide +kernel
theorem dX7_save_53 : decode cX7_save 53 = .ok (.sipush 295, 3) := by decide +kernel
theorem dX7_save_56 : decode cX7_save 56 = .ok (.if_icmp .ge 30, 3) := by decide +kernel
theorem dX7_save_59 : decode cX7_save 59 = .ok (.aload_n 0, 1) := by decide +kernel
theorem dX7_save_60 : decode cX7_save 60 = .ok (.getfield 13, 3) := by decide +kernel
theorem dX7_save_63 : decode cX7_save 63 = .ok (.sipush 295, 3) := by decide +kernel
theorem dX7_save_66 : decode cX7_save 66 = .ok (.aload_n 0, 1) := by decide +kernel
theorem dX7_save_67 : decode cX7_save 67 = .ok (.getfield 48, 3) := by decide +kernel
theorem dX7_save_70 : decode cX7_save 70 = .ok (.imul, 1) := by decide +kernel
theorem dX7_save_71 : decode cX7_save 71 = .ok (.iload_n 1, 1) := by decide +kernel
theorem dX7_save_72 : decode cX7_save 72 = .ok (.iadd, 1) := by decide +kernel
theorem dX7_save_73 : decode cX7_save 73 = .ok (.aload_n 0, 1) := by decide +kernel
theorem dX7_save_74 : decode cX7_save 74 = .ok (.getfield 7, 3) := by decide +kernel
theorem dX7_save_77 : decode cX7_save 77 = .ok (.iload_n 1, 1) := by decide +kernel
theorem dX7_save_78 : decode cX7_save 78 = .ok (.iaload, 1) := by decide +kernel
theorem dX7_save_79 : decode cX7_save 79 = .ok (.iastore, 1) := by decide +kernel
theorem dX7_save_80 : decode cX7_save 80 = .ok (.iinc 1 1, 3) := by decide +kernel
theorem dX7_save_83 : decode cX7_save 83 = .ok (.goto (-31), 3) := by decide +kernel
theorem dX7_save_86 : decode cX7_save 86 = .ok (.aload_n 0, 1) := by decide +kernel
theorem dX7_save_87 : decode cX7_save 87 = .ok (.dup, 1) := by decide +kernel
theorem dX7_save_88 : decode cX7_save 88 = .ok (.getfield 48, 3) := by decide +kernel
theorem dX7_save_91 : decode cX7_save 91 = .ok (.iconst 1, 1) := by decide +kernel
theorem dX7_save_92 : decode cX7_save 92 = .ok (.iadd, 1) := by decide +kernel
theorem dX7_save_93 : decode cX7_save 93 = .ok (.putfield 48, 3) := by decide +kernel
theorem dX7_save_96 : decode cX7_save 96 = .ok (.return_, 1) := by decide +kernel
theorem dX7_isCoded_0 : decode cX7_isCoded 0 = .ok (.aload_n 0, 1) := by decide +kernel
theorem dX7_isCoded_1 : decode cX7_isCoded 1 = .ok (.getfield 7, 3) := by decide +kernel
theorem dX7_isCoded_4 : decode cX7_isCoded 4 = .ok (.iconst 1, 1) := by decide +kernel
theorem dX7_isCoded_5 : decode cX7_isCoded 5 = .ok (.iaload, 1) := by decide +kernel
theorem dX7_isCoded_6 : decode cX7_isCoded 6 = .ok (.iconst 1, 1) := by decide +kernel
theorem dX7_isCoded_7 : decode cX7_isCoded 7 = .ok (.if_icmp .ne 7, 3) := by decide +kernel
theorem dX7_isCoded_10 : decode cX7_isCoded 10 = .ok (.iconst 1, 1) := by decide +kernel
theorem dX7_isCoded_11 : decode cX7_isCoded 11 = .ok (.goto 4, 3) := by decide +kernel
theorem dX7_isCoded_14 : decode cX7_isCoded 14 = .ok (.iconst 0, 1) := by decide +kernel
theorem dX7_isCoded_15 : decode cX7_isCoded 15 = .ok (.ireturn, 1) := by decide +kernel
theorem dX7_isSample_0 : decode cX7_isSample 0 = .ok (.iload_n 1, 1) := by decide +kernel
theorem dX7_isSample_1 : decode cX7_isSample 1 = .ok (.iconst 0, 1) := by decide +kernel
theorem dX7_isSample_2 : decode cX7_isSample 2 = .ok (.aload_n 0, 1) := by decide +kernel
theorem dX7_isSample_3 : decode cX7_isSample 3 = .ok (.getfield 7, 3) := by decide +kernel
theorem dX7_isSample_6 : decode cX7_isSample 6 = .ok (.iconst 0, 1) := by decide +kernel
theorem dX7_isSample_7 : decode cX7_isSample 7 = .ok (.iaload, 1) := by decide +kernel
theorem dX7_isSample_8 : decode cX7_isSample 8 = .ok (.iconst 1, 1) := by decide +kernel
theorem dX7_isSample_9 : decode cX7_isSample 9 = .ok (.isub, 1) := by decide +kernel
theorem dX7_isSample_10 : decode cX7_isSample 10 = .ok (.invokestatic 51, 3) := by decide +kernel
theorem dX7_isSample_13 : decode cX7_isSample 13 = .ok (.ireturn, 1) := by decide +kernel
theorem dX7_blocks_0 : decode cX7_blocks 0 = .ok (.aload_n 0, 1) := by decide +kernel
theorem dX7_blocks_1 : decode cX7_blocks 1 = .ok (.invokevirtual 55, 3) := by decide +kernel
theorem dX7_blocks_4 : decode cX7_blocks 4 = .ok (.ifCond .eq 28, 3) := by decide +kernel
theorem dX7_blocks_7 : decode cX7_blocks 7 = .ok (.aload_n 0, 1) := by decide +kernel
theorem dX7_blocks_8 : decode cX7_blocks 8 = .ok (.getfield 7, 3) := by decide +kernel
theorem dX7_blocks_11 : decode cX7_blocks 11 = .ok (.iconst 0, 1) := by decide +kernel
theorem dX7_blocks_12 : decode cX7_blocks 12 = .ok (.iaload, 1) := by decide +kernel
theorem dX7_blocks_13 : decode cX7_blocks 13 = .ok (.aload_n 0, 1) := by decide +kernel
theorem dX7_blocks_14 : decode cX7_blocks 14 = .ok (.getfield 7, 3) := by decide +kernel
theorem dX7_blocks_17 : decode cX7_blocks 17 = .ok (.iconst 2, 1) := by decide +kernel
theorem dX7_blocks_18 : decode cX7_blocks 18 = .ok (.iaload, 1) := by decide +kernel
theorem dX7_blocks_19 : decode cX7_blocks 19 = .ok (.iadd, 1) := by decide +kernel
theorem dX7_blocks_20 : decode cX7_blocks 20 = .ok (.iconst 1, 1) := by decide +kernel
theorem dX7_blocks_21 : decode cX7_blocks 21 = .ok (.isub, 1) := by decide +kernel
theorem dX7_blocks_22 : decode cX7_blocks 22 = .ok (.aload_n 0, 1) := by decide +kernel
theorem dX7_blocks_23 : decode cX7_blocks 23 = .ok (.getfield 7, 3) := by decide +kernel
theorem dX7_blocks_26 : decode cX7_blocks 26 = .ok (.iconst 2, 1) := by decide +kernel
theorem dX7_blocks_27 : decode cX7_blocks 27 = .ok (.iaload, 1) := by decide +kernel
theorem dX7_blocks_28 : decode cX7_blocks 28 = .ok (.idiv, 1) := by decide +kernel
theorem dX7_blocks_29 : decode cX7_blocks 29 = .ok (.goto 4, 3) := by decide +kernel
theorem dX7_blocks_32 : decode cX7_blocks 32 = .ok (.iconst 0, 1) := by decide +kernel
theorem dX7_blocks_33 : decode cX7_blocks 33 = .ok (.ireturn, 1) := by decide +kernel
theorem dX7_isBlock_0 : decode cX7_isBlock 0 = .ok (.iload_n 1, 1) := by decide +kernel
theorem dX7_isBlock_1 : decode cX7_isBlock 1 = .ok (.iconst 0, 1) := by decide +kernel
theorem dX7_isBlock_2 : decode cX7_isBlock 2 = .ok (.aload_n 0, 1) := by decide +kernel
theorem dX7_isBlock_3 : decode cX7_isBlock 3 = .ok (.invokevirtual 59, 3) := by decide +kernel
theorem dX7_isBlock_6 : decode cX7_isBlock 6 = .ok (.iconst 1, 1) := by decide +kernel
theorem dX7_isBlock_7 : decode cX7_isBlock 7 = .ok (.isub, 1) := by decide +kernel
theorem dX7_isBlock_8 : decode cX7_isBlock 8 = .ok (.invokestatic 51, 3) := by decide +kernel
theorem dX7_isBlock_11 : decode cX7_isBlock 11 = .ok (.ireturn, 1) := by decide +kernel
theorem dX7_endOf_0 : decode cX7_endOf 0 = .ok (.iload_n 1, 1) := by decide +kernel
theorem dX7_endOf_1 : decode cX7_endOf 1 = .ok (.iconst 1, 1) := by decide +kernel
theorem dX7_endOf_2 : decode cX7_endOf 2 = .ok (.iadd, 1) := by decide +kernel
theorem dX7_endOf_3 : decode cX7_endOf 3 = .ok (.aload_n 0, 1) := by decide +kernel
theorem dX7_endOf_4 : decode cX7_endOf 4 = .ok (.getfield 7, 3) := by decide +kernel
theorem dX7_endOf_7 : decode cX7_endOf 7 = .ok (.iconst 2, 1) := by decide +kernel
theorem dX7_endOf_8 : decode cX7_endOf 8 = .ok (.iaload, 1) := by decide +kernel
theorem dX7_endOf_9 : decode cX7_endOf 9 = .ok (.imul, 1) := by decide +kernel
theorem dX7_endOf_10 : decode cX7_endOf 10 = .ok (.istore_n 2, 1) := by decide +kernel
theorem dX7_endOf_11 : decode cX7_endOf 11 = .ok (.iload_n 2, 1) := by decide +kernel
theorem dX7_endOf_12 : decode cX7_endOf 12 = .ok (.aload_n 0, 1) := by decide +kernel
theorem dX7_endOf_13 : decode cX7_endOf 13 = .ok (.getfield 7, 3) := by decide +kernel
theorem dX7_endOf_16 : decode cX7_endOf 16 = .ok (.iconst 0, 1) := by decide +kernel
theorem dX7_endOf_17 : decode cX7_endOf 17 = .ok (.iaload, 1) := by decide +kernel
theorem dX7_endOf_18 : decode cX7_endOf 18 = .ok (.if_icmp .ge 7, 3) := by decide +kernel
theorem dX7_endOf_21 : decode cX7_endOf 21 = .ok (.iload_n 2, 1) := by decide +kernel
theorem dX7_endOf_22 : decode cX7_endOf 22 = .ok (.goto 9, 3) := by decide +kernel
theorem dX7_endOf_25 : decode cX7_endOf 25 = .ok (.aload_n 0, 1) := by decide +kernel
theorem dX7_endOf_26 : decode cX7_endOf 26 = .ok (.getfield 7, 3) := by decide +kernel
theorem dX7_endOf_29 : decode cX7_endOf 29 = .ok (.iconst 0, 1) := by decide +kernel
theorem dX7_endOf_30 : decode cX7_endOf 30 = .ok (.iaload, 1) := by decide +kernel
theorem dX7_endOf_31 : decode cX7_endOf 31 = .ok (.ireturn, 1) := by decide +kernel
theorem dX7_hasCode_0 : decode cX7_hasCode 0 = .ok (.aload_n 0, 1) := by decide +kernel
theorem dX7_hasCode_1 : decode cX7_hasCode 1 = .ok (.invokevirtual 55, 3) := by decide +kernel
theorem dX7_hasCode_4 : decode cX7_hasCode 4 = .ok (.ifCond .eq 26, 3) := by decide +kernel
theorem dX7_hasCode_7 : decode cX7_hasCode 7 = .ok (.aload_n 0, 1) := by decide +kernel
theorem dX7_hasCode_8 : decode cX7_hasCode 8 = .ok (.iload_n 1, 1) := by decide +kernel
theorem dX7_hasCode_9 : decode cX7_hasCode 9 = .ok (.invokevirtual 63, 3) := by decide +kernel
theorem dX7_hasCode_12 : decode cX7_hasCode 12 = .ok (.ifCond .eq 18, 3) := by decide +kernel
theorem dX7_hasCode_15 : decode cX7_hasCode 15 = .ok (.iload_n 1, 1) := by decide +kernel
theorem dX7_hasCode_16 : decode cX7_hasCode 16 = .ok (.aload_n 0, 1) := by decide +kernel
theorem dX7_hasCode_17 : decode cX7_hasCode 17 = .ok (.getfield 7, 3) := by decide +kernel
theorem dX7_hasCode_20 : decode cX7_hasCode 20 = .ok (.iconst 2, 1) := by decide +kernel
theorem dX7_hasCode_21 : decode cX7_hasCode 21 = .ok (.iaload, 1) := by decide +kernel
theorem dX7_hasCode_22 : decode cX7_hasCode 22 = .ok (.irem, 1) := by decide +kernel
theorem dX7_hasCode_23 : decode cX7_hasCode 23 = .ok (.ifCond .le 7, 3) := by decide +kernel
theorem dX7_hasCode_26 : decode cX7_hasCode 26 = .ok (.iconst 1, 1) := by decide +kernel
theorem dX7_hasCode_27 : decode cX7_hasCode 27 = .ok (.goto 4, 3) := by decide +kernel
theorem dX7_hasCode_30 : decode cX7_hasCode 30 = .ok (.iconst 0, 1) := by decide +kernel
theorem dX7_hasCode_31 : decode cX7_hasCode 31 = .ok (.ireturn, 1) := by decide +kernel
theorem dX7_clipped_0 : decode cX7_clipped 0 = .ok (.iload_n 0, 1) := by decide +kernel
theorem dX7_clipped_1 : decode cX7_clipped 1 = .ok (.sipush (-2048), 3) := by decide +kernel
theorem dX7_clipped_4 : decode cX7_clipped 4 = .ok (.if_icmp .ge 9, 3) := by decide +kernel
theorem dX7_clipped_7 : decode cX7_clipped 7 = .ok (.sipush (-2048), 3) := by decide +kernel
theorem dX7_clipped_10 : decode cX7_clipped 10 = .ok (.goto 17, 3) := by decide +kernel
theorem dX7_clipped_13 : decode cX7_clipped 13 = .ok (.iload_n 0, 1) := by decide +kernel
theorem dX7_clipped_14 : decode cX7_clipped 14 = .ok (.sipush 2047, 3) := by decide +kernel
theorem dX7_clipped_17 : decode cX7_clipped 17 = .ok (.if_icmp .le 9, 3) := by decide +kernel
theorem dX7_clipped_20 : decode cX7_clipped 20 = .ok (.sipush 2047, 3) := by decide +kernel
theorem dX7_clipped_23 : decode cX7_clipped 23 = .ok (.goto 4, 3) := by decide +kernel
theorem dX7_clipped_26 : decode cX7_clipped 26 = .ok (.iload_n 0, 1) := by decide +kernel
theorem dX7_clipped_27 : decode cX7_clipped 27 = .ok (.ireturn, 1) := by decide +kernel
theorem dX7_nextGuess_0 : decode cX7_nextGuess 0 = .ok (.aload_n 0, 1) := by decide +kernel
theorem dX7_nextGuess_1 : decode cX7_nextGuess 1 = .ok (.getfield 26, 3) := by decide +kernel
theorem dX7_nextGuess_4 : decode cX7_nextGuess 4 = .ok (.iload_n 2, 1) := by decide +kernel
theorem dX7_nextGuess_5 : decode cX7_nextGuess 5 = .ok (.iaload, 1) := by decide +kernel
theorem dX7_nextGuess_6 : decode cX7_nextGuess 6 = .ok (.istore 4, 2) := by decide +kernel
theorem dX7_nextGuess_8 : decode cX7_nextGuess 8 = .ok (.iload 4, 2) := by decide +kernel
theorem dX7_nextGuess_10 : decode cX7_nextGuess 10 = .ok (.bipush 8, 2) := by decide +kernel
theorem dX7_nextGuess_12 : decode cX7_nextGuess 12 = .ok (.idiv, 1) := by decide +kernel
theorem dX7_nextGuess_13 : decode cX7_nextGuess 13 = .ok (.istore 5, 2) := by decide +kernel
theorem dX7_nextGuess_15 : decode cX7_nextGuess 15 = .ok (.iload 5, 2) := by decide +kernel
theorem dX7_nextGuess_17 : decode cX7_nextGuess 17 = .ok (.iload_n 3, 1) := by decide +kernel
theorem dX7_nextGuess_18 : decode cX7_nextGuess 18 = .ok (.iconst 4, 1) := by decide +kernel
theorem dX7_nextGuess_19 : decode cX7_nextGuess 19 = .ok (.iand, 1) := by decide +kernel
theorem dX7_nextGuess_20 : decode cX7_nextGuess 20 = .ok (.ifCond .ne 7, 3) := by decide +kernel
theorem dX7_nextGuess_23 : decode cX7_nextGuess 23 = .ok (.iconst 0, 1) := by decide +kernel
theorem dX7_nextGuess_24 : decode cX7_nextGuess 24 = .ok (.goto 5, 3) := by decide +kernel
theorem dX7_nextGuess_27 : decode cX7_nextGuess 27 = .ok (.iload 4, 2) := by decide +kernel
theorem dX7_nextGuess_29 : decode cX7_nextGuess 29 = .ok (.iadd, 1) := by decide +kernel
theorem dX7_nextGuess_30 : decode cX7_nextGuess 30 = .ok (.istore 5, 2) := by decide +kernel
theorem dX7_nextGuess_32 : decode cX7_nextGuess 32 = .ok (.iload 5, 2) := by decide +kernel
theorem dX7_nextGuess_34 : decode cX7_nextGuess 34 = .ok (.iload_n 3, 1) := by decide +kernel
theorem dX7_nextGuess_35 : decode cX7_nextGuess 35 = .ok (.iconst 2, 1) := by decide +kernel
theorem dX7_nextGuess_36 : decode cX7_nextGuess 36 = .ok (.iand, 1) := by decide +kernel
theorem dX7_nextGuess_37 : decode cX7_nextGuess 37 = .ok (.ifCond .ne 7, 3) := by decide +kernel
theorem dX7_nextGuess_40 : decode cX7_nextGuess 40 = .ok (.iconst 0, 1) := by decide +kernel
theorem dX7_nextGuess_41 : decode cX7_nextGuess 41 = .ok (.goto 7, 3) := by decide +kernel
theorem dX7_nextGuess_44 : decode cX7_nextGuess 44 = .ok (.iload 4, 2) := by decide +kernel
theorem dX7_nextGuess_46 : decode cX7_nextGuess 46 = .ok (.iconst 2, 1) := by decide +kernel
theorem dX7_nextGuess_47 : decode cX7_nextGuess 47 = .ok (.idiv, 1) := by decide +kernel
theorem dX7_nextGuess_48 : decode cX7_nextGuess 48 = .ok (.iadd, 1) := by decide +kernel
theorem dX7_nextGuess_49 : decode cX7_nextGuess 49 = .ok (.istore 5, 2) := by decide +kernel
theorem dX7_nextGuess_51 : decode cX7_nextGuess 51 = .ok (.iload 5, 2) := by decide +kernel
theorem dX7_nextGuess_53 : decode cX7_nextGuess 53 = .ok (.iload_n 3, 1) := by decide +kernel
theorem dX7_nextGuess_54 : decode cX7_nextGuess 54 = .ok (.iconst 1, 1) := by decide +kernel
theorem dX7_nextGuess_55 : decode cX7_nextGuess 55 = .ok (.iand, 1) := by decide +kernel
theorem dX7_nextGuess_56 : decode cX7_nextGuess 56 = .ok (.ifCond .ne 7, 3) := by decide +kernel
theorem dX7_nextGuess_59 : decode cX7_nextGuess 59 = .ok (.iconst 0, 1) := by decide +kernel
theorem dX7_nextGuess_60 : decode cX7_nextGuess 60 = .ok (.goto 7, 3) := by decide +kernel
theorem dX7_nextGuess_63 : decode cX7_nextGuess 63 = .ok (.iload 4, 2) := by decide +kernel
theorem dX7_nextGuess_65 : decode cX7_nextGuess 65 = .ok (.iconst 4, 1) := by decide +kernel
theorem dX7_nextGuess_66 : decode cX7_nextGuess 66 = .ok (.idiv, 1) := by decide +kernel
theorem dX7_nextGuess_67 : decode cX7_nextGuess 67 = .ok (.iadd, 1) := by decide +kernel
theorem dX7_nextGuess_68 : decode cX7_nextGuess 68 = .ok (.istore 5, 2) := by decide +kernel
theorem dX7_nextGuess_70 : decode cX7_nextGuess 70 = .ok (.iload_n 3, 1) := by decide +kernel
theorem dX7_nextGuess_71 : decode cX7_nextGuess 71 = .ok (.bipush 8, 2) := by decide +kernel
theorem dX7_nextGuess_73 : decode cX7_nextGuess 73 = .ok (.iand, 1) := by decide +kernel
theorem dX7_nextGuess_74 : decode cX7_nextGuess 74 = .ok (.ifCond .ne 10, 3) := by decide +kernel
theorem dX7_nextGuess_77 : decode cX7_nextGuess 77 = .ok (.iload_n 1, 1) := by decide +kernel
theorem dX7_nextGuess_78 : decode cX7_nextGuess 78 = .ok (.iload 5, 2) := by decide +kernel
theorem dX7_nextGuess_80 : decode cX7_nextGuess 80 = .ok (.iadd, 1) := by decide +kernel
theorem dX7_nextGuess_81 : decode cX7_nextGuess 81 = .ok (.goto 7, 3) := by decide +kernel
theorem dX7_nextGuess_84 : decode cX7_nextGuess 84 = .ok (.iload_n 1, 1) := by decide +kernel
theorem dX7_nextGuess_85 : decode cX7_nextGuess 85 = .ok (.iload 5, 2) := by decide +kernel
theorem dX7_nextGuess_87 : decode cX7_nextGuess 87 = .ok (.isub, 1) := by decide +kernel
theorem dX7_nextGuess_88 : decode cX7_nextGuess 88 = .ok (.invokestatic 67, 3) := by decide +kernel
theorem dX7_nextGuess_91 : decode cX7_nextGuess 91 = .ok (.ireturn, 1) := by decide +kernel
theorem dX7_nextNumber_0 : decode cX7_nextNumber 0 = .ok (.iload_n 1, 1) := by decide +kernel
theorem dX7_nextNumber_1 : decode cX7_nextNumber 1 = .ok (.bipush 7, 2) := by decide +kernel
theorem dX7_nextNumber_3 : decode cX7_nextNumber 3 = .ok (.iand, 1) := by decide +kernel
theorem dX7_nextNumber_4 : decode cX7_nextNumber 4 = .ok (.istore_n 2, 1) := by decide +kernel
theorem dX7_nextNumber_5 : decode cX7_nextNumber 5 = .ok (.iload_n 2, 1) := by decide +kernel
theorem dX7_nextNumber_6 : decode cX7_nextNumber 6 = .ok (.iconst 4, 1) := by decide +kernel
theorem dX7_nextNumber_7 : decode cX7_nextNumber 7 = .ok (.if_icmp .ge 9, 3) := by decide +kernel
theorem dX7_nextNumber_10 : decode cX7_nextNumber 10 = .ok (.iload_n 0, 1) := by decide +kernel
theorem dX7_nextNumber_11 : decode cX7_nextNumber 11 = .ok (.iconst 1, 1) := by decide +kernel
theorem dX7_nextNumber_12 : decode cX7_nextNumber 12 = .ok (.isub, 1) := by decide +kernel
theorem dX7_nextNumber_13 : decode cX7_nextNumber 13 = .ok (.goto 10, 3) := by decide +kernel
theorem dX7_nextNumber_16 : decode cX7_nextNumber 16 = .ok (.iload_n 0, 1) := by decide +kernel
theorem dX7_nextNumber_17 : decode cX7_nextNumber 17 = .ok (.iconst 2, 1) := by decide +kernel
theorem dX7_nextNumber_18 : decode cX7_nextNumber 18 = .ok (.iload_n 2, 1) := by decide +kernel
theorem dX7_nextNumber_19 : decode cX7_nextNumber 19 = .ok (.iconst 3, 1) := by decide +kernel
theorem dX7_nextNumber_20 : decode cX7_nextNumber 20 = .ok (.isub, 1) := by decide +kernel
theorem dX7_nextNumber_21 : decode cX7_nextNumber 21 = .ok (.imul, 1) := by decide +kernel
theorem dX7_nextNumber_22 : decode cX7_nextNumber 22 = .ok (.iadd, 1) := by decide +kernel
theorem dX7_nextNumber_23 : decode cX7_nextNumber 23 = .ok (.istore_n 3, 1) := by decide +kernel
theorem dX7_nextNumber_24 : decode cX7_nextNumber 24 = .ok (.iload_n 3, 1) := by decide +kernel
theorem dX7_nextNumber_25 : decode cX7_nextNumber 25 = .ok (.ifCond .ge 7, 3) := by decide +kernel
theorem dX7_nextNumber_28 : decode cX7_nextNumber 28 = .ok (.iconst 0, 1) := by decide +kernel
theorem dX7_nextNumber_29 : decode cX7_nextNumber 29 = .ok (.goto 15, 3) := by decide +kernel
theorem dX7_nextNumber_32 : decode cX7_nextNumber 32 = .ok (.iload_n 3, 1) := by decide +kernel
theorem dX7_nextNumber_33 : decode cX7_nextNumber 33 = .ok (.bipush 48, 2) := by decide +kernel
theorem dX7_nextNumber_35 : decode cX7_nextNumber 35 = .ok (.if_icmp .le 8, 3) := by decide +kernel
theorem dX7_nextNumber_38 : decode cX7_nextNumber 38 = .ok (.bipush 48, 2) := by decide +kernel
theorem dX7_nextNumber_40 : decode cX7_nextNumber 40 = .ok (.goto 4, 3) := by decide +kernel
theorem dX7_nextNumber_43 : decode cX7_nextNumber 43 = .ok (.iload_n 3, 1) := by decide +kernel
theorem dX7_nextNumber_44 : decode cX7_nextNumber 44 = .ok (.ireturn, 1) := by decide +kernel
theorem dX7_codeFor_0 : decode cX7_codeFor 0 = .ok (.iload_n 3, 1) := by decide +kernel
theorem dX7_codeFor_1 : decode cX7_codeFor 1 = .ok (.iload_n 1, 1) := by decide +kernel
theorem dX7_codeFor_2 : decode cX7_codeFor 2 = .ok (.if_icmp .ge 9, 3) := by decide +kernel
theorem dX7_codeFor_5 : decode cX7_codeFor 5 = .ok (.iload_n 1, 1) := by decide +kernel
theorem dX7_codeFor_6 : decode cX7_codeFor 6 = .ok (.iload_n 3, 1) := by decide +kernel
theorem dX7_codeFor_7 : decode cX7_codeFor 7 = .ok (.isub, 1) := by decide +kernel
theorem dX7_codeFor_8 : decode cX7_codeFor 8 = .ok (.goto 6, 3) := by decide +kernel
theorem dX7_codeFor_11 : decode cX7_codeFor 11 = .ok (.iload_n 3, 1) := by decide +kernel
theorem dX7_codeFor_12 : decode cX7_codeFor 12 = .ok (.iload_n 1, 1) := by decide +kernel
theorem dX7_codeFor_13 : decode cX7_codeFor 13 = .ok (.isub, 1) := by decide +kernel
theorem dX7_codeFor_14 : decode cX7_codeFor 14 = .ok (.istore 4, 2) := by decide +kernel
theorem dX7_codeFor_16 : decode cX7_codeFor 16 = .ok (.iload_n 3, 1) := by decide +kernel
theorem dX7_codeFor_17 : decode cX7_codeFor 17 = .ok (.iload_n 1, 1) := by decide +kernel
theorem dX7_codeFor_18 : decode cX7_codeFor 18 = .ok (.if_icmp .ge 8, 3) := by decide +kernel
theorem dX7_codeFor_21 : decode cX7_codeFor 21 = .ok (.bipush 8, 2) := by decide +kernel
theorem dX7_codeFor_23 : decode cX7_codeFor 23 = .ok (.goto 4, 3) := by decide +kernel
theorem dX7_codeFor_26 : decode cX7_codeFor 26 = .ok (.iconst 0, 1) := by decide +kernel
theorem dX7_codeFor_27 : decode cX7_codeFor 27 = .ok (.istore 5, 2) := by decide +kernel
theorem dX7_codeFor_29 : decode cX7_codeFor 29 = .ok (.aload_n 0, 1) := by decide +kernel
theorem dX7_codeFor_30 : decode cX7_codeFor 30 = .ok (.getfield 26, 3) := by decide +kernel
theorem dX7_codeFor_33 : decode cX7_codeFor 33 = .ok (.iload_n 2, 1) := by decide +kernel
theorem dX7_codeFor_34 : decode cX7_codeFor 34 = .ok (.iaload, 1) := by decide +kernel
theorem dX7_codeFor_35 : decode cX7_codeFor 35 = .ok (.istore 6, 2) := by decide +kernel
theorem dX7_codeFor_37 : decode cX7_codeFor 37 = .ok (.iload 4, 2) := by decide +kernel
theorem dX7_codeFor_39 : decode cX7_codeFor 39 = .ok (.iload 6, 2) := by decide +kernel
theorem dX7_codeFor_41 : decode cX7_codeFor 41 = .ok (.if_icmp .lt 13, 3) := by decide +kernel
theorem dX7_codeFor_44 : decode cX7_codeFor 44 = .ok (.iinc 5 4, 3) := by decide +kernel
theorem dX7_codeFor_47 : decode cX7_codeFor 47 = .ok (.iload 4, 2) := by decide +kernel
theorem dX7_codeFor_49 : decode cX7_codeFor 49 = .ok (.iload 6, 2) := by decide +kernel
theorem dX7_codeFor_51 : decode cX7_codeFor 51 = .ok (.isub, 1) := by decide +kernel
theorem dX7_codeFor_52 : decode cX7_codeFor 52 = .ok (.istore 4, 2) := by decide +kernel
theorem dX7_codeFor_54 : decode cX7_codeFor 54 = .ok (.aload_n 0, 1) := by decide +kernel
theorem dX7_codeFor_55 : decode cX7_codeFor 55 = .ok (.getfield 26, 3) := by decide +kernel
theorem dX7_codeFor_58 : decode cX7_codeFor 58 = .ok (.iload_n 2, 1) := by decide +kernel
theorem dX7_codeFor_59 : decode cX7_codeFor 59 = .ok (.iaload, 1) := by decide +kernel
theorem dX7_codeFor_60 : decode cX7_codeFor 60 = .ok (.iconst 2, 1) := by decide +kernel
theorem dX7_codeFor_61 : decode cX7_codeFor 61 = .ok (.idiv, 1) := by decide +kernel
theorem dX7_codeFor_62 : decode cX7_codeFor 62 = .ok (.istore 6, 2) := by decide +kernel
theorem dX7_codeFor_64 : decode cX7_codeFor 64 = .ok (.iload 4, 2) := by decide +kernel
theorem dX7_codeFor_66 : decode cX7_codeFor 66 = .ok (.iload 6, 2) := by decide +kernel
theorem dX7_codeFor_68 : decode cX7_codeFor 68 = .ok (.if_icmp .lt 13, 3) := by decide +kernel
theorem dX7_codeFor_71 : decode cX7_codeFor 71 = .ok (.iinc 5 2, 3) := by decide +kernel
theorem dX7_codeFor_74 : decode cX7_codeFor 74 = .ok (.iload 4, 2) := by decide +kernel
theorem dX7_codeFor_76 : decode cX7_codeFor 76 = .ok (.iload 6, 2) := by decide +kernel
theorem dX7_codeFor_78 : decode cX7_codeFor 78 = .ok (.isub, 1) := by decide +kernel
theorem dX7_codeFor_79 : decode cX7_codeFor 79 = .ok (.istore 4, 2) := by decide +kernel
theorem dX7_codeFor_81 : decode cX7_codeFor 81 = .ok (.iload 4, 2) := by decide +kernel
theorem dX7_codeFor_83 : decode cX7_codeFor 83 = .ok (.aload_n 0, 1) := by decide +kernel
theorem dX7_codeFor_84 : decode cX7_codeFor 84 = .ok (.getfield 26, 3) := by decide +kernel
theorem dX7_codeFor_87 : decode cX7_codeFor 87 = .ok (.iload_n 2, 1) := by decide +kernel
theorem dX7_codeFor_88 : decode cX7_codeFor 88 = .ok (.iaload, 1) := by decide +kernel
theorem dX7_codeFor_89 : decode cX7_codeFor 89 = .ok (.iconst 4, 1) := by decide +kernel
theorem dX7_codeFor_90 : decode cX7_codeFor 90 = .ok (.idiv, 1) := by decide +kernel
theorem dX7_codeFor_91 : decode cX7_codeFor 91 = .ok (.if_icmp .lt 10, 3) := by decide +kernel
theorem dX7_codeFor_94 : decode cX7_codeFor 94 = .ok (.iload 5, 2) := by decide +kernel
theorem dX7_codeFor_96 : decode cX7_codeFor 96 = .ok (.iconst 1, 1) := by decide +kernel
theorem dX7_codeFor_97 : decode cX7_codeFor 97 = .ok (.iadd, 1) := by decide +kernel
theorem dX7_codeFor_98 : decode cX7_codeFor 98 = .ok (.goto 5, 3) := by decide +kernel
theorem dX7_codeFor_101 : decode cX7_codeFor 101 = .ok (.iload 5, 2) := by decide +kernel
theorem dX7_codeFor_103 : decode cX7_codeFor 103 = .ok (.ireturn, 1) := by decide +kernel
theorem dX7_square_0 : decode cX7_square 0 = .ok (.iload_n 0, 1) := by decide +kernel
theorem dX7_square_1 : decode cX7_square 1 = .ok (.iload_n 0, 1) := by decide +kernel
theorem dX7_square_2 : decode cX7_square 2 = .ok (.imul, 1) := by decide +kernel
theorem dX7_square_3 : decode cX7_square 3 = .ok (.ireturn, 1) := by decide +kernel
theorem dX7_errorOf_0 : decode cX7_errorOf 0 = .ok (.iconst 0, 1) := by decide +kernel
theorem dX7_errorOf_1 : decode cX7_errorOf 1 = .ok (.istore 4, 2) := by decide +kernel
theorem dX7_errorOf_3 : decode cX7_errorOf 3 = .ok (.aload_n 0, 1) := by decide +kernel
theorem dX7_errorOf_4 : decode cX7_errorOf 4 = .ok (.getfield 7, 3) := by decide +kernel
theorem dX7_errorOf_7 : decode cX7_errorOf 7 = .ok (.bipush 7, 2) := by decide +kernel
theorem dX7_errorOf_9 : decode cX7_errorOf 9 = .ok (.iload_n 1, 1) := by decide +kernel
theorem dX7_errorOf_10 : decode cX7_errorOf 10 = .ok (.iadd, 1) := by decide +kernel
theorem dX7_errorOf_11 : decode cX7_errorOf 11 = .ok (.iaload, 1) := by decide +kernel
theorem dX7_errorOf_12 : decode cX7_errorOf 12 = .ok (.istore 5, 2) := by decide +kernel
theorem dX7_errorOf_14 : decode cX7_errorOf 14 = .ok (.iload_n 3, 1) := by decide +kernel
theorem dX7_errorOf_15 : decode cX7_errorOf 15 = .ok (.istore 6, 2) := by decide +kernel
theorem dX7_errorOf_17 : decode cX7_errorOf 17 = .ok (.iload_n 1, 1) := by decide +kernel
theorem dX7_errorOf_18 : decode cX7_errorOf 18 = .ok (.iconst 1, 1) := by decide +kernel
theorem dX7_errorOf_19 : decode cX7_errorOf 19 = .ok (.iadd, 1) := by decide +kernel
theorem dX7_errorOf_20 : decode cX7_errorOf 20 = .ok (.istore 7, 2) := by decide +kernel
theorem dX7_errorOf_22 : decode cX7_errorOf 22 = .ok (.iload 7, 2) := by decide +kernel
theorem dX7_errorOf_24 : decode cX7_errorOf 24 = .ok (.iload_n 1, 1) := by decide +kernel
theorem dX7_errorOf_25 : decode cX7_errorOf 25 = .ok (.iload_n 2, 1) := by decide +kernel
theorem dX7_errorOf_26 : decode cX7_errorOf 26 = .ok (.iadd, 1) := by decide +kernel
theorem dX7_errorOf_27 : decode cX7_errorOf 27 = .ok (.if_icmp .ge 71, 3) := by decide +kernel
theorem dX7_errorOf_30 : decode cX7_errorOf 30 = .ok (.aload_n 0, 1) := by decide +kernel
theorem dX7_errorOf_31 : decode cX7_errorOf 31 = .ok (.iload 5, 2) := by decide +kernel
theorem dX7_errorOf_33 : decode cX7_errorOf 33 = .ok (.iload 6, 2) := by decide +kernel
theorem dX7_errorOf_35 : decode cX7_errorOf 35 = .ok (.aload_n 0, 1) := by decide +kernel
theorem dX7_errorOf_36 : decode cX7_errorOf 36 = .ok (.getfield 7, 3) := by decide +kernel
theorem dX7_errorOf_39 : decode cX7_errorOf 39 = .ok (.bipush 7, 2) := by decide +kernel
theorem dX7_errorOf_41 : decode cX7_errorOf 41 = .ok (.iload 7, 2) := by decide +kernel
theorem dX7_errorOf_43 : decode cX7_errorOf 43 = .ok (.iadd, 1) := by decide +kernel
theorem dX7_errorOf_44 : decode cX7_errorOf 44 = .ok (.iaload, 1) := by decide +kernel
theorem dX7_errorOf_45 : decode cX7_errorOf 45 = .ok (.invokevirtual 71, 3) := by decide +kernel
theorem dX7_errorOf_48 : decode cX7_errorOf 48 = .ok (.istore 8, 2) := by decide +kernel
theorem dX7_errorOf_50 : decode cX7_errorOf 50 = .ok (.aload_n 0, 1) := by decide +kernel
theorem dX7_errorOf_51 : decode cX7_errorOf 51 = .ok (.iload 5, 2) := by decide +kernel
theorem dX7_errorOf_53 : decode cX7_errorOf 53 = .ok (.iload 6, 2) := by decide +kernel
theorem dX7_errorOf_55 : decode cX7_errorOf 55 = .ok (.iload 8, 2) := by decide +kernel
theorem dX7_errorOf_57 : decode cX7_errorOf 57 = .ok (.invokevirtual 75, 3) := by decide +kernel
theorem dX7_errorOf_60 : decode cX7_errorOf 60 = .ok (.istore 5, 2) := by decide +kernel
theorem dX7_errorOf_62 : decode cX7_errorOf 62 = .ok (.iload 6, 2) := by decide +kernel
theorem dX7_errorOf_64 : decode cX7_errorOf 64 = .ok (.iload 8, 2) := by decide +kernel
theorem dX7_errorOf_66 : decode cX7_errorOf 66 = .ok (.invokestatic 78, 3) := by decide +kernel
theorem dX7_errorOf_69 : decode cX7_errorOf 69 = .ok (.istore 6, 2) := by decide +kernel
theorem dX7_errorOf_71 : decode cX7_errorOf 71 = .ok (.iload 4, 2) := by decide +kernel
theorem dX7_errorOf_73 : decode cX7_errorOf 73 = .ok (.aload_n 0, 1) := by decide +kernel
theorem dX7_errorOf_74 : decode cX7_errorOf 74 = .ok (.getfield 7, 3) := by decide +kernel
theorem dX7_errorOf_77 : decode cX7_errorOf 77 = .ok (.bipush 7, 2) := by decide +kernel
theorem dX7_errorOf_79 : decode cX7_errorOf 79 = .ok (.iload 7, 2) := by decide +kernel
theorem dX7_errorOf_81 : decode cX7_errorOf 81 = .ok (.iadd, 1) := by decide +kernel
theorem dX7_errorOf_82 : decode cX7_errorOf 82 = .ok (.iaload, 1) := by decide +kernel
theorem dX7_errorOf_83 : decode cX7_errorOf 83 = .ok (.iload 5, 2) := by decide +kernel
theorem dX7_errorOf_85 : decode cX7_errorOf 85 = .ok (.isub, 1) := by decide +kernel
theorem dX7_errorOf_86 : decode cX7_errorOf 86 = .ok (.invokestatic 82, 3) := by decide +kernel
theorem dX7_errorOf_89 : decode cX7_errorOf 89 = .ok (.iadd, 1) := by decide +kernel
theorem dX7_errorOf_90 : decode cX7_errorOf 90 = .ok (.istore 4, 2) := by decide +kernel
theorem dX7_errorOf_92 : decode cX7_errorOf 92 = .ok (.iinc 7 1, 3) := by decide +kernel
theorem dX7_errorOf_95 : decode cX7_errorOf 95 = .ok (.goto (-73), 3) := by decide +kernel
theorem dX7_errorOf_98 : decode cX7_errorOf 98 = .ok (.iload 4, 2) := by decide +kernel
theorem dX7_errorOf_100 : decode cX7_errorOf 100 = .ok (.ireturn, 1) := by decide +kernel
theorem dX7_best_0 : decode cX7_best 0 = .ok (.bipush 48, 2) := by decide +kernel
theorem dX7_best_2 : decode cX7_best 2 = .ok (.istore_n 3, 1) := by decide +kernel
theorem dX7_best_3 : decode cX7_best 3 = .ok (.bipush 47, 2) := by decide +kernel
theorem dX7_best_5 : decode cX7_best 5 = .ok (.istore 4, 2) := by decide +kernel
theorem dX7_best_7 : decode cX7_best 7 = .ok (.iload 4, 2) := by decide +kernel
theorem dX7_best_9 : decode cX7_best 9 = .ok (.ifCond .lt 34, 3) := by decide +kernel
theorem dX7_best_12 : decode cX7_best 12 = .ok (.aload_n 0, 1) := by decide +kernel
theorem dX7_best_13 : decode cX7_best 13 = .ok (.iload_n 1, 1) := by decide +kernel
theorem dX7_best_14 : decode cX7_best 14 = .ok (.iload_n 2, 1) := by decide +kernel
theorem dX7_best_15 : decode cX7_best 15 = .ok (.iload 4, 2) := by decide +kernel
theorem dX7_best_17 : decode cX7_best 17 = .ok (.invokevirtual 85, 3) := by decide +kernel
theorem dX7_best_20 : decode cX7_best 20 = .ok (.aload_n 0, 1) := by decide +kernel
theorem dX7_best_21 : decode cX7_best 21 = .ok (.iload_n 1, 1) := by decide +kernel
theorem dX7_best_22 : decode cX7_best 22 = .ok (.iload_n 2, 1) := by decide +kernel
theorem dX7_best_23 : decode cX7_best 23 = .ok (.iload_n 3, 1) := by decide +kernel
theorem dX7_best_24 : decode cX7_best 24 = .ok (.invokevirtual 85, 3) := by decide +kernel
theorem dX7_best_27 : decode cX7_best 27 = .ok (.if_icmp .gt 8, 3) := by decide +kernel
theorem dX7_best_30 : decode cX7_best 30 = .ok (.iload 4, 2) := by decide +kernel
theorem dX7_best_32 : decode cX7_best 32 = .ok (.goto 4, 3) := by decide +kernel
theorem dX7_best_35 : decode cX7_best 35 = .ok (.iload_n 3, 1) := by decide +kernel
theorem dX7_best_36 : decode cX7_best 36 = .ok (.istore_n 3, 1) := by decide +kernel
theorem dX7_best_37 : decode cX7_best 37 = .ok (.iinc 4 (-1), 3) := by decide +kernel
theorem dX7_best_40 : decode cX7_best 40 = .ok (.goto (-33), 3) := by decide +kernel
theorem dX7_best_43 : decode cX7_best 43 = .ok (.iload_n 3, 1) := by decide +kernel
theorem dX7_best_44 : decode cX7_best 44 = .ok (.ireturn, 1) := by decide +kernel
theorem dX7_codes_0 : decode cX7_codes 0 = .ok (.iload_n 1, 1) := by decide +kernel
theorem dX7_codes_1 : decode cX7_codes 1 = .ok (.aload_n 0, 1) := by decide +kernel
theorem dX7_codes_2 : decode cX7_codes 2 = .ok (.getfield 7, 3) := by decide +kernel
theorem dX7_codes_5 : decode cX7_codes 5 = .ok (.iconst 2, 1) := by decide +kernel
theorem dX7_codes_6 : decode cX7_codes 6 = .ok (.iaload, 1) := by decide +kernel
theorem dX7_codes_7 : decode cX7_codes 7 = .ok (.imul, 1) := by decide +kernel
theorem dX7_codes_8 : decode cX7_codes 8 = .ok (.istore_n 3, 1) := by decide +kernel
theorem dX7_codes_9 : decode cX7_codes 9 = .ok (.aload_n 0, 1) := by decide +kernel
theorem dX7_codes_10 : decode cX7_codes 10 = .ok (.getfield 7, 3) := by decide +kernel
theorem dX7_codes_13 : decode cX7_codes 13 = .ok (.bipush 7, 2) := by decide +kernel
theorem dX7_codes_15 : decode cX7_codes 15 = .ok (.iload_n 3, 1) := by decide +kernel
theorem dX7_codes_16 : decode cX7_codes 16 = .ok (.iadd, 1) := by decide +kernel
theorem dX7_codes_17 : decode cX7_codes 17 = .ok (.iaload, 1) := by decide +kernel
theorem dX7_codes_18 : decode cX7_codes 18 = .ok (.istore 4, 2) := by decide +kernel
theorem dX7_codes_20 : decode cX7_codes 20 = .ok (.iload_n 2, 1) := by decide +kernel
theorem dX7_codes_21 : decode cX7_codes 21 = .ok (.istore 5, 2) := by decide +kernel
theorem dX7_codes_23 : decode cX7_codes 23 = .ok (.aload_n 0, 1) := by decide +kernel
theorem dX7_codes_24 : decode cX7_codes 24 = .ok (.getfield 7, 3) := by decide +kernel
theorem dX7_codes_27 : decode cX7_codes 27 = .ok (.sipush 199, 3) := by decide +kernel
theorem dX7_codes_30 : decode cX7_codes 30 = .ok (.iload_n 1, 1) := by decide +kernel
theorem dX7_codes_31 : decode cX7_codes 31 = .ok (.iadd, 1) := by decide +kernel
theorem dX7_codes_32 : decode cX7_codes 32 = .ok (.iload 4, 2) := by decide +kernel
theorem dX7_codes_34 : decode cX7_codes 34 = .ok (.iastore, 1) := by decide +kernel
theorem dX7_codes_35 : decode cX7_codes 35 = .ok (.aload_n 0, 1) := by decide +kernel
theorem dX7_codes_36 : decode cX7_codes 36 = .ok (.getfield 7, 3) := by decide +kernel
theorem dX7_codes_39 : decode cX7_codes 39 = .ok (.sipush 231, 3) := by decide +kernel
theorem dX7_codes_42 : decode cX7_codes 42 = .ok (.iload_n 1, 1) := by decide +kernel
theorem dX7_codes_43 : decode cX7_codes 43 = .ok (.iadd, 1) := by decide +kernel
theorem dX7_codes_44 : decode cX7_codes 44 = .ok (.iload_n 2, 1) := by decide +kernel
theorem dX7_codes_45 : decode cX7_codes 45 = .ok (.iastore, 1) := by decide +kernel
theorem dX7_codes_46 : decode cX7_codes 46 = .ok (.aload_n 0, 1) := by decide +kernel
theorem dX7_codes_47 : decode cX7_codes 47 = .ok (.getfield 7, 3) := by decide +kernel
theorem dX7_codes_50 : decode cX7_codes 50 = .ok (.sipush 263, 3) := by decide +kernel
theorem dX7_codes_53 : decode cX7_codes 53 = .ok (.iload_n 1, 1) := by decide +kernel
theorem dX7_codes_54 : decode cX7_codes 54 = .ok (.iadd, 1) := by decide +kernel
theorem dX7_codes_55 : decode cX7_codes 55 = .ok (.iconst 0, 1) := by decide +kernel
theorem dX7_codes_56 : decode cX7_codes 56 = .ok (.iastore, 1) := by decide +kernel
theorem dX7_codes_57 : decode cX7_codes 57 = .ok (.aload_n 0, 1) := by decide +kernel
theorem dX7_codes_58 : decode cX7_codes 58 = .ok (.getfield 7, 3) := by decide +kernel
theorem dX7_codes_61 : decode cX7_codes 61 = .ok (.bipush 71, 2) := by decide +kernel
theorem dX7_codes_63 : decode cX7_codes 63 = .ok (.iload_n 3, 1) := by decide +kernel
theorem dX7_codes_64 : decode cX7_codes 64 = .ok (.iadd, 1) := by decide +kernel
theorem dX7_codes_65 : decode cX7_codes 65 = .ok (.iconst (-1), 1) := by decide +kernel
theorem dX7_codes_66 : decode cX7_codes 66 = .ok (.iastore, 1) := by decide +kernel
theorem dX7_codes_67 : decode cX7_codes 67 = .ok (.aload_n 0, 1) := by decide +kernel
theorem dX7_codes_68 : decode cX7_codes 68 = .ok (.getfield 7, 3) := by decide +kernel
theorem dX7_codes_71 : decode cX7_codes 71 = .ok (.sipush 135, 3) := by decide +kernel
theorem dX7_codes_74 : decode cX7_codes 74 = .ok (.iload_n 3, 1) := by decide +kernel
theorem dX7_codes_75 : decode cX7_codes 75 = .ok (.iadd, 1) := by decide +kernel
theorem dX7_codes_76 : decode cX7_codes 76 = .ok (.iload 4, 2) := by decide +kernel
theorem dX7_codes_78 : decode cX7_codes 78 = .ok (.iastore, 1) := by decide +kernel
theorem dX7_codes_79 : decode cX7_codes 79 = .ok (.iload_n 3, 1) := by decide +kernel
theorem dX7_codes_80 : decode cX7_codes 80 = .ok (.iconst 1, 1) := by decide +kernel
theorem dX7_codes_81 : decode cX7_codes 81 = .ok (.iadd, 1) := by decide +kernel
theorem dX7_codes_82 : decode cX7_codes 82 = .ok (.istore 6, 2) := by decide +kernel
theorem dX7_codes_84 : decode cX7_codes 84 = .ok (.iload 6, 2) := by decide +kernel
theorem dX7_codes_86 : decode cX7_codes 86 = .ok (.aload_n 0, 1) := by decide +kernel
theorem dX7_codes_87 : decode cX7_codes 87 = .ok (.iload_n 1, 1) := by decide +kernel
theorem dX7_codes_88 : decode cX7_codes 88 = .ok (.invokevirtual 88, 3) := by decide +kernel
theorem dX7_codes_91 : decode cX7_codes 91 = .ok (.if_icmp .ge 75, 3) := by decide +kernel
theorem dX7_codes_94 : decode cX7_codes 94 = .ok (.aload_n 0, 1) := by decide +kernel
theorem dX7_codes_95 : decode cX7_codes 95 = .ok (.iload 4, 2) := by decide +kernel
theorem dX7_codes_97 : decode cX7_codes 97 = .ok (.iload 5, 2) := by decide +kernel
theorem dX7_codes_99 : decode cX7_codes 99 = .ok (.aload_n 0, 1) := by decide +kernel
theorem dX7_codes_100 : decode cX7_codes 100 = .ok (.getfield 7, 3) := by decide +kernel
theorem dX7_codes_103 : decode cX7_codes 103 = .ok (.bipush 7, 2) := by decide +kernel
theorem dX7_codes_105 : decode cX7_codes 105 = .ok (.iload 6, 2) := by decide +kernel
theorem dX7_codes_107 : decode cX7_codes 107 = .ok (.iadd, 1) := by decide +kernel
theorem dX7_codes_108 : decode cX7_codes 108 = .ok (.iaload, 1) := by decide +kernel
theorem dX7_codes_109 : decode cX7_codes 109 = .ok (.invokevirtual 71, 3) := by decide +kernel
theorem dX7_codes_112 : decode cX7_codes 112 = .ok (.istore 7, 2) := by decide +kernel
theorem dX7_codes_114 : decode cX7_codes 114 = .ok (.aload_n 0, 1) := by decide +kernel
theorem dX7_codes_115 : decode cX7_codes 115 = .ok (.iload 4, 2) := by decide +kernel
theorem dX7_codes_117 : decode cX7_codes 117 = .ok (.iload 5, 2) := by decide +kernel
theorem dX7_codes_119 : decode cX7_codes 119 = .ok (.iload 7, 2) := by decide +kernel
theorem dX7_codes_121 : decode cX7_codes 121 = .ok (.invokevirtual 75, 3) := by decide +kernel
theorem dX7_codes_124 : decode cX7_codes 124 = .ok (.istore 4, 2) := by decide +kernel
theorem dX7_codes_126 : decode cX7_codes 126 = .ok (.iload 5, 2) := by decide +kernel
theorem dX7_codes_128 : decode cX7_codes 128 = .ok (.iload 7, 2) := by decide +kernel
theorem dX7_codes_130 : decode cX7_codes 130 = .ok (.invokestatic 78, 3) := by decide +kernel
theorem dX7_codes_133 : decode cX7_codes 133 = .ok (.istore 5, 2) := by decide +kernel
theorem dX7_codes_135 : decode cX7_codes 135 = .ok (.aload_n 0, 1) := by decide +kernel
theorem dX7_codes_136 : decode cX7_codes 136 = .ok (.getfield 7, 3) := by decide +kernel
theorem dX7_codes_139 : decode cX7_codes 139 = .ok (.bipush 71, 2) := by decide +kernel
theorem dX7_codes_141 : decode cX7_codes 141 = .ok (.iload 6, 2) := by decide +kernel
theorem dX7_codes_143 : decode cX7_codes 143 = .ok (.iadd, 1) := by decide +kernel
theorem dX7_codes_144 : decode cX7_codes 144 = .ok (.iload 7, 2) := by decide +kernel
theorem dX7_codes_146 : decode cX7_codes 146 = .ok (.iastore, 1) := by decide +kernel
theorem dX7_codes_147 : decode cX7_codes 147 = .ok (.aload_n 0, 1) := by decide +kernel
theorem dX7_codes_148 : decode cX7_codes 148 = .ok (.getfield 7, 3) := by decide +kernel
theorem dX7_codes_151 : decode cX7_codes 151 = .ok (.sipush 135, 3) := by decide +kernel
theorem dX7_codes_154 : decode cX7_codes 154 = .ok (.iload 6, 2) := by decide +kernel
theorem dX7_codes_156 : decode cX7_codes 156 = .ok (.iadd, 1) := by decide +kernel
theorem dX7_codes_157 : decode cX7_codes 157 = .ok (.iload 4, 2) := by decide +kernel
theorem dX7_codes_159 : decode cX7_codes 159 = .ok (.iastore, 1) := by decide +kernel
theorem dX7_codes_160 : decode cX7_codes 160 = .ok (.iinc 6 1, 3) := by decide +kernel
theorem dX7_codes_163 : decode cX7_codes 163 = .ok (.goto (-79), 3) := by decide +kernel
theorem dX7_codes_166 : decode cX7_codes 166 = .ok (.iload 5, 2) := by decide +kernel
theorem dX7_codes_168 : decode cX7_codes 168 = .ok (.ireturn, 1) := by decide +kernel
theorem dX7_filled_0 : decode cX7_filled 0 = .ok (.aload_n 0, 1) := by decide +kernel
theorem dX7_filled_1 : decode cX7_filled 1 = .ok (.getfield 7, 3) := by decide +kernel
theorem dX7_filled_4 : decode cX7_filled 4 = .ok (.iconst 2, 1) := by decide +kernel
theorem dX7_filled_5 : decode cX7_filled 5 = .ok (.iaload, 1) := by decide +kernel
theorem dX7_filled_6 : decode cX7_filled 6 = .ok (.istore_n 2, 1) := by decide +kernel
theorem dX7_filled_7 : decode cX7_filled 7 = .ok (.iload_n 1, 1) := by decide +kernel
theorem dX7_filled_8 : decode cX7_filled 8 = .ok (.iload_n 1, 1) := by decide +kernel
theorem dX7_filled_9 : decode cX7_filled 9 = .ok (.iload_n 2, 1) := by decide +kernel
theorem dX7_filled_10 : decode cX7_filled 10 = .ok (.irem, 1) := by decide +kernel
theorem dX7_filled_11 : decode cX7_filled 11 = .ok (.isub, 1) := by decide +kernel
theorem dX7_filled_12 : decode cX7_filled 12 = .ok (.istore_n 3, 1) := by decide +kernel
theorem dX7_filled_13 : decode cX7_filled 13 = .ok (.iload_n 3, 1) := by decide +kernel
theorem dX7_filled_14 : decode cX7_filled 14 = .ok (.ifCond .eq 13, 3) := by decide +kernel
theorem dX7_filled_17 : decode cX7_filled 17 = .ok (.aload_n 0, 1) := by decide +kernel
theorem dX7_filled_18 : decode cX7_filled 18 = .ok (.getfield 7, 3) := by decide +kernel
theorem dX7_filled_21 : decode cX7_filled 21 = .ok (.iconst 4, 1) := by decide +kernel
theorem dX7_filled_22 : decode cX7_filled 22 = .ok (.iaload, 1) := by decide +kernel
theorem dX7_filled_23 : decode cX7_filled 23 = .ok (.iconst 1, 1) := by decide +kernel
theorem dX7_filled_24 : decode cX7_filled 24 = .ok (.if_icmp .ne 5, 3) := by decide +kernel
theorem dX7_filled_27 : decode cX7_filled 27 = .ok (.iconst 0, 1) := by decide +kernel
theorem dX7_filled_28 : decode cX7_filled 28 = .ok (.ireturn, 1) := by decide +kernel
theorem dX7_filled_29 : decode cX7_filled 29 = .ok (.aload_n 0, 1) := by decide +kernel
theorem dX7_filled_30 : decode cX7_filled 30 = .ok (.getfield 7, 3) := by decide +kernel
theorem dX7_filled_33 : decode cX7_filled 33 = .ok (.iconst 4, 1) := by decide +kernel
theorem dX7_filled_34 : decode cX7_filled 34 = .ok (.iaload, 1) := by decide +kernel
theorem dX7_filled_35 : decode cX7_filled 35 = .ok (.ifCond .ne 14, 3) := by decide +kernel
theorem dX7_filled_38 : decode cX7_filled 38 = .ok (.aload_n 0, 1) := by decide +kernel
theorem dX7_filled_39 : decode cX7_filled 39 = .ok (.getfield 29, 3) := by decide +kernel
theorem dX7_filled_42 : decode cX7_filled 42 = .ok (.iload_n 3, 1) := by decide +kernel
theorem dX7_filled_43 : decode cX7_filled 43 = .ok (.iconst 1, 1) := by decide +kernel
theorem dX7_filled_44 : decode cX7_filled 44 = .ok (.isub, 1) := by decide +kernel
theorem dX7_filled_45 : decode cX7_filled 45 = .ok (.iaload, 1) := by decide +kernel
theorem dX7_filled_46 : decode cX7_filled 46 = .ok (.goto 11, 3) := by decide +kernel
theorem dX7_filled_49 : decode cX7_filled 49 = .ok (.aload_n 0, 1) := by decide +kernel
theorem dX7_filled_50 : decode cX7_filled 50 = .ok (.getfield 29, 3) := by decide +kernel
theorem dX7_filled_53 : decode cX7_filled 53 = .ok (.iload_n 1, 1) := by decide +kernel
theorem dX7_filled_54 : decode cX7_filled 54 = .ok (.iload_n 2, 1) := by decide +kernel
theorem dX7_filled_55 : decode cX7_filled 55 = .ok (.isub, 1) := by decide +kernel
theorem dX7_filled_56 : decode cX7_filled 56 = .ok (.iaload, 1) := by decide +kernel
theorem dX7_filled_57 : decode cX7_filled 57 = .ok (.ireturn, 1) := by decide +kernel
theorem dX7_decodes_0 : decode cX7_decodes 0 = .ok (.iconst 0, 1) := by decide +kernel
theorem dX7_decodes_1 : decode cX7_decodes 1 = .ok (.istore_n 1, 1) := by decide +kernel
theorem dX7_decodes_2 : decode cX7_decodes 2 = .ok (.iconst 0, 1) := by decide +kernel
theorem dX7_decodes_3 : decode cX7_decodes 3 = .ok (.istore_n 2, 1) := by decide +kernel
theorem dX7_decodes_4 : decode cX7_decodes 4 = .ok (.iconst 0, 1) := by decide +kernel
theorem dX7_decodes_5 : decode cX7_decodes 5 = .ok (.istore_n 3, 1) := by decide +kernel
theorem dX7_decodes_6 : decode cX7_decodes 6 = .ok (.iload_n 3, 1) := by decide +kernel
theorem dX7_decodes_7 : decode cX7_decodes 7 = .ok (.aload_n 0, 1) := by decide +kernel
theorem dX7_decodes_8 : decode cX7_decodes 8 = .ok (.getfield 7, 3) := by decide +kernel
theorem dX7_decodes_11 : decode cX7_decodes 11 = .ok (.iconst 0, 1) := by decide +kernel
theorem dX7_decodes_12 : decode cX7_decodes 12 = .ok (.iaload, 1) := by decide +kernel
theorem dX7_decodes_13 : decode cX7_decodes 13 = .ok (.if_icmp .ge 150, 3) := by decide +kernel
theorem dX7_decodes_16 : decode cX7_decodes 16 = .ok (.iload_n 3, 1) := by decide +kernel
theorem dX7_decodes_17 : decode cX7_decodes 17 = .ok (.aload_n 0, 1) := by decide +kernel
theorem dX7_decodes_18 : decode cX7_decodes 18 = .ok (.getfield 7, 3) := by decide +kernel
theorem dX7_decodes_21 : decode cX7_decodes 21 = .ok (.iconst 2, 1) := by decide +kernel
theorem dX7_decodes_22 : decode cX7_decodes 22 = .ok (.iaload, 1) := by decide +kernel
theorem dX7_decodes_23 : decode cX7_decodes 23 = .ok (.idiv, 1) := by decide +kernel
theorem dX7_decodes_24 : decode cX7_decodes 24 = .ok (.istore 4, 2) := by decide +kernel
theorem dX7_decodes_26 : decode cX7_decodes 26 = .ok (.iload_n 3, 1) := by decide +kernel
theorem dX7_decodes_27 : decode cX7_decodes 27 = .ok (.aload_n 0, 1) := by decide +kernel
theorem dX7_decodes_28 : decode cX7_decodes 28 = .ok (.getfield 7, 3) := by decide +kernel
theorem dX7_decodes_31 : decode cX7_decodes 31 = .ok (.iconst 2, 1) := by decide +kernel
theorem dX7_decodes_32 : decode cX7_decodes 32 = .ok (.iaload, 1) := by decide +kernel
theorem dX7_decodes_33 : decode cX7_decodes 33 = .ok (.irem, 1) := by decide +kernel
theorem dX7_decodes_34 : decode cX7_decodes 34 = .ok (.ifCond .ne 7, 3) := by decide +kernel
theorem dX7_decodes_37 : decode cX7_decodes 37 = .ok (.iconst 1, 1) := by decide +kernel
theorem dX7_decodes_38 : decode cX7_decodes 38 = .ok (.goto 4, 3) := by decide +kernel
theorem dX7_decodes_41 : decode cX7_decodes 41 = .ok (.iconst 0, 1) := by decide +kernel
theorem dX7_decodes_42 : decode cX7_decodes 42 = .ok (.istore 5, 2) := by decide +kernel
theorem dX7_decodes_44 : decode cX7_decodes 44 = .ok (.iload 5, 2) := by decide +kernel
theorem dX7_decodes_46 : decode cX7_decodes 46 = .ok (.ifCond .eq 17, 3) := by decide +kernel
theorem dX7_decodes_49 : decode cX7_decodes 49 = .ok (.aload_n 0, 1) := by decide +kernel
theorem dX7_decodes_50 : decode cX7_decodes 50 = .ok (.getfield 7, 3) := by decide +kernel
theorem dX7_decodes_53 : decode cX7_decodes 53 = .ok (.sipush 199, 3) := by decide +kernel
theorem dX7_decodes_56 : decode cX7_decodes 56 = .ok (.iload 4, 2) := by decide +kernel
theorem dX7_decodes_58 : decode cX7_decodes 58 = .ok (.iadd, 1) := by decide +kernel
theorem dX7_decodes_59 : decode cX7_decodes 59 = .ok (.iaload, 1) := by decide +kernel
theorem dX7_decodes_60 : decode cX7_decodes 60 = .ok (.goto 18, 3) := by decide +kernel
theorem dX7_decodes_63 : decode cX7_decodes 63 = .ok (.aload_n 0, 1) := by decide +kernel
theorem dX7_decodes_64 : decode cX7_decodes 64 = .ok (.iload_n 1, 1) := by decide +kernel
theorem dX7_decodes_65 : decode cX7_decodes 65 = .ok (.iload_n 2, 1) := by decide +kernel
theorem dX7_decodes_66 : decode cX7_decodes 66 = .ok (.aload_n 0, 1) := by decide +kernel
theorem dX7_decodes_67 : decode cX7_decodes 67 = .ok (.getfield 7, 3) := by decide +kernel
theorem dX7_decodes_70 : decode cX7_decodes 70 = .ok (.bipush 71, 2) := by decide +kernel
theorem dX7_decodes_72 : decode cX7_decodes 72 = .ok (.iload_n 3, 1) := by decide +kernel
theorem dX7_decodes_73 : decode cX7_decodes 73 = .ok (.iadd, 1) := by decide +kernel
theorem dX7_decodes_74 : decode cX7_decodes 74 = .ok (.iaload, 1) := by decide +kernel
theorem dX7_decodes_75 : decode cX7_decodes 75 = .ok (.invokevirtual 75, 3) := by decide +kernel
theorem dX7_decodes_78 : decode cX7_decodes 78 = .ok (.istore_n 1, 1) := by decide +kernel
theorem dX7_decodes_79 : decode cX7_decodes 79 = .ok (.iload 5, 2) := by decide +kernel
theorem dX7_decodes_81 : decode cX7_decodes 81 = .ok (.ifCond .eq 17, 3) := by decide +kernel
theorem dX7_decodes_84 : decode cX7_decodes 84 = .ok (.aload_n 0, 1) := by decide +kernel
theorem dX7_decodes_85 : decode cX7_decodes 85 = .ok (.getfield 7, 3) := by decide +kernel
theorem dX7_decodes_88 : decode cX7_decodes 88 = .ok (.sipush 231, 3) := by decide +kernel
theorem dX7_decodes_91 : decode cX7_decodes 91 = .ok (.iload 4, 2) := by decide +kernel
theorem dX7_decodes_93 : decode cX7_decodes 93 = .ok (.iadd, 1) := by decide +kernel
theorem dX7_decodes_94 : decode cX7_decodes 94 = .ok (.iaload, 1) := by decide +kernel
theorem dX7_decodes_95 : decode cX7_decodes 95 = .ok (.goto 16, 3) := by decide +kernel
theorem dX7_decodes_98 : decode cX7_decodes 98 = .ok (.iload_n 2, 1) := by decide +kernel
theorem dX7_decodes_99 : decode cX7_decodes 99 = .ok (.aload_n 0, 1) := by decide +kernel
theorem dX7_decodes_100 : decode cX7_decodes 100 = .ok (.getfield 7, 3) := by decide +kernel
theorem dX7_decodes_103 : decode cX7_decodes 103 = .ok (.bipush 71, 2) := by decide +kernel
theorem dX7_decodes_105 : decode cX7_decodes 105 = .ok (.iload_n 3, 1) := by decide +kernel
theorem dX7_decodes_106 : decode cX7_decodes 106 = .ok (.iadd, 1) := by decide +kernel
theorem dX7_decodes_107 : decode cX7_decodes 107 = .ok (.iaload, 1) := by decide +kernel
theorem dX7_decodes_108 : decode cX7_decodes 108 = .ok (.invokestatic 78, 3) := by decide +kernel
theorem dX7_decodes_111 : decode cX7_decodes 111 = .ok (.istore_n 2, 1) := by decide +kernel
theorem dX7_decodes_112 : decode cX7_decodes 112 = .ok (.aload_n 0, 1) := by decide +kernel
theorem dX7_decodes_113 : decode cX7_decodes 113 = .ok (.getfield 29, 3) := by decide +kernel
theorem dX7_decodes_116 : decode cX7_decodes 116 = .ok (.iload_n 3, 1) := by decide +kernel
theorem dX7_decodes_117 : decode cX7_decodes 117 = .ok (.aload_n 0, 1) := by decide +kernel
theorem dX7_decodes_118 : decode cX7_decodes 118 = .ok (.getfield 7, 3) := by decide +kernel
theorem dX7_decodes_121 : decode cX7_decodes 121 = .ok (.sipush 263, 3) := by decide +kernel
theorem dX7_decodes_124 : decode cX7_decodes 124 = .ok (.iload 4, 2) := by decide +kernel
theorem dX7_decodes_126 : decode cX7_decodes 126 = .ok (.iadd, 1) := by decide +kernel
theorem dX7_decodes_127 : decode cX7_decodes 127 = .ok (.iaload, 1) := by decide +kernel
theorem dX7_decodes_128 : decode cX7_decodes 128 = .ok (.iconst 1, 1) := by decide +kernel
theorem dX7_decodes_129 : decode cX7_decodes 129 = .ok (.if_icmp .ne 11, 3) := by decide +kernel
theorem dX7_decodes_132 : decode cX7_decodes 132 = .ok (.aload_n 0, 1) := by decide +kernel
theorem dX7_decodes_133 : decode cX7_decodes 133 = .ok (.iload_n 3, 1) := by decide +kernel
theorem dX7_decodes_134 : decode cX7_decodes 134 = .ok (.invokevirtual 91, 3) := by decide +kernel
theorem dX7_decodes_137 : decode cX7_decodes 137 = .ok (.goto 4, 3) := by decide +kernel
theorem dX7_decodes_140 : decode cX7_decodes 140 = .ok (.iload_n 1, 1) := by decide +kernel
theorem dX7_decodes_141 : decode cX7_decodes 141 = .ok (.iastore, 1) := by decide +kernel
theorem dX7_decodes_142 : decode cX7_decodes 142 = .ok (.aload_n 0, 1) := by decide +kernel
theorem dX7_decodes_143 : decode cX7_decodes 143 = .ok (.getfield 32, 3) := by decide +kernel
theorem dX7_decodes_146 : decode cX7_decodes 146 = .ok (.iload_n 3, 1) := by decide +kernel
theorem dX7_decodes_147 : decode cX7_decodes 147 = .ok (.iload_n 2, 1) := by decide +kernel
theorem dX7_decodes_148 : decode cX7_decodes 148 = .ok (.iastore, 1) := by decide +kernel
theorem dX7_decodes_149 : decode cX7_decodes 149 = .ok (.aload_n 0, 1) := by decide +kernel
theorem dX7_decodes_150 : decode cX7_decodes 150 = .ok (.getfield 35, 3) := by decide +kernel
theorem dX7_decodes_153 : decode cX7_decodes 153 = .ok (.iload 4, 2) := by decide +kernel
theorem dX7_decodes_155 : decode cX7_decodes 155 = .ok (.iload_n 2, 1) := by decide +kernel
theorem dX7_decodes_156 : decode cX7_decodes 156 = .ok (.iastore, 1) := by decide +kernel
theorem dX7_decodes_157 : decode cX7_decodes 157 = .ok (.iinc 3 1, 3) := by decide +kernel
theorem dX7_decodes_160 : decode cX7_decodes 160 = .ok (.goto (-154), 3) := by decide +kernel
theorem dX7_decodes_163 : decode cX7_decodes 163 = .ok (.return_, 1) := by decide +kernel
theorem dX7_decodesBefore_0 : decode cX7_decodesBefore 0 = .ok (.aload_n 0, 1) := by decide +kernel
theorem dX7_decodesBefore_1 : decode cX7_decodesBefore 1 = .ok (.invokevirtual 94, 3) := by decide +kernel
theorem dX7_decodesBefore_4 : decode cX7_decodesBefore 4 = .ok (.iconst 0, 1) := by decide +kernel
theorem dX7_decodesBefore_5 : decode cX7_decodesBefore 5 = .ok (.istore_n 1, 1) := by decide +kernel
theorem dX7_decodesBefore_6 : decode cX7_decodesBefore 6 = .ok (.iload_n 1, 1) := by decide +kernel
theorem dX7_decodesBefore_7 : decode cX7_decodesBefore 7 = .ok (.aload_n 0, 1) := by decide +kernel
theorem dX7_decodesBefore_8 : decode cX7_decodesBefore 8 = .ok (.getfield 7, 3) := by decide +kernel
theorem dX7_decodesBefore_11 : decode cX7_decodesBefore 11 = .ok (.iconst 0, 1) := by decide +kernel
theorem dX7_decodesBefore_12 : decode cX7_decodesBefore 12 = .ok (.iaload, 1) := by decide +kernel
theorem dX7_decodesBefore_13 : decode cX7_decodesBefore 13 = .ok (.if_icmp .ge 21, 3) := by decide +kernel
theorem dX7_decodesBefore_16 : decode cX7_decodesBefore 16 = .ok (.aload_n 0, 1) := by decide +kernel
theorem dX7_decodesBefore_17 : decode cX7_decodesBefore 17 = .ok (.getfield 38, 3) := by decide +kernel
theorem dX7_decodesBefore_20 : decode cX7_decodesBefore 20 = .ok (.iload_n 1, 1) := by decide +kernel
theorem dX7_decodesBefore_21 : decode cX7_decodesBefore 21 = .ok (.aload_n 0, 1) := by decide +kernel
theorem dX7_decodesBefore_22 : decode cX7_decodesBefore 22 = .ok (.getfield 29, 3) := by decide +kernel
theorem dX7_decodesBefore_25 : decode cX7_decodesBefore 25 = .ok (.iload_n 1, 1) := by decide +kernel
theorem dX7_decodesBefore_26 : decode cX7_decodesBefore 26 = .ok (.iaload, 1) := by decide +kernel
theorem dX7_decodesBefore_27 : decode cX7_decodesBefore 27 = .ok (.iastore, 1) := by decide +kernel
theorem dX7_decodesBefore_28 : decode cX7_decodesBefore 28 = .ok (.iinc 1 1, 3) := by decide +kernel
theorem dX7_decodesBefore_31 : decode cX7_decodesBefore 31 = .ok (.goto (-25), 3) := by decide +kernel
theorem dX7_decodesBefore_34 : decode cX7_decodesBefore 34 = .ok (.return_, 1) := by decide +kernel
theorem dX7_others_0 : decode cX7_others 0 = .ok (.aload_n 0, 1) := by decide +kernel
theorem dX7_others_1 : decode cX7_others 1 = .ok (.invokevirtual 94, 3) := by decide +kernel
theorem dX7_others_4 : decode cX7_others 4 = .ok (.iconst 0, 1) := by decide +kernel
theorem dX7_others_5 : decode cX7_others 5 = .ok (.istore_n 1, 1) := by decide +kernel
theorem dX7_others_6 : decode cX7_others 6 = .ok (.iconst 0, 1) := by decide +kernel
theorem dX7_others_7 : decode cX7_others 7 = .ok (.istore_n 2, 1) := by decide +kernel
theorem dX7_others_8 : decode cX7_others 8 = .ok (.iload_n 2, 1) := by decide +kernel
theorem dX7_others_9 : decode cX7_others 9 = .ok (.aload_n 0, 1) := by decide +kernel
theorem dX7_others_10 : decode cX7_others 10 = .ok (.getfield 7, 3) := by decide +kernel
theorem dX7_others_13 : decode cX7_others 13 = .ok (.iconst 0, 1) := by decide +kernel
theorem dX7_others_14 : decode cX7_others 14 = .ok (.iaload, 1) := by decide +kernel
theorem dX7_others_15 : decode cX7_others 15 = .ok (.if_icmp .ge 32, 3) := by decide +kernel
theorem dX7_others_18 : decode cX7_others 18 = .ok (.iload_n 1, 1) := by decide +kernel
theorem dX7_others_19 : decode cX7_others 19 = .ok (.aload_n 0, 1) := by decide +kernel
theorem dX7_others_20 : decode cX7_others 20 = .ok (.getfield 29, 3) := by decide +kernel
theorem dX7_others_23 : decode cX7_others 23 = .ok (.iload_n 2, 1) := by decide +kernel
theorem dX7_others_24 : decode cX7_others 24 = .ok (.iaload, 1) := by decide +kernel
theorem dX7_others_25 : decode cX7_others 25 = .ok (.aload_n 0, 1) := by decide +kernel
theorem dX7_others_26 : decode cX7_others 26 = .ok (.getfield 38, 3) := by decide +kernel
theorem dX7_others_29 : decode cX7_others 29 = .ok (.iload_n 2, 1) := by decide +kernel
theorem dX7_others_30 : decode cX7_others 30 = .ok (.iaload, 1) := by decide +kernel
theorem dX7_others_31 : decode cX7_others 31 = .ok (.if_icmp .ne 7, 3) := by decide +kernel
theorem dX7_others_34 : decode cX7_others 34 = .ok (.iconst 0, 1) := by decide +kernel
theorem dX7_others_35 : decode cX7_others 35 = .ok (.goto 4, 3) := by decide +kernel
theorem dX7_others_38 : decode cX7_others 38 = .ok (.iconst 1, 1) := by decide +kernel
theorem dX7_others_39 : decode cX7_others 39 = .ok (.iadd, 1) := by decide +kernel
theorem dX7_others_40 : decode cX7_others 40 = .ok (.istore_n 1, 1) := by decide +kernel
theorem dX7_others_41 : decode cX7_others 41 = .ok (.iinc 2 1, 3) := by decide +kernel
theorem dX7_others_44 : decode cX7_others 44 = .ok (.goto (-36), 3) := by decide +kernel
theorem dX7_others_47 : decode cX7_others 47 = .ok (.iload_n 1, 1) := by decide +kernel
theorem dX7_others_48 : decode cX7_others 48 = .ok (.ireturn, 1) := by decide +kernel
theorem dX7_errorMade_0 : decode cX7_errorMade 0 = .ok (.iconst 0, 1) := by decide +kernel
theorem dX7_errorMade_1 : decode cX7_errorMade 1 = .ok (.istore_n 3, 1) := by decide +kernel
theorem dX7_errorMade_2 : decode cX7_errorMade 2 = .ok (.iload_n 1, 1) := by decide +kernel
theorem dX7_errorMade_3 : decode cX7_errorMade 3 = .ok (.istore 4, 2) := by decide +kernel
theorem dX7_errorMade_5 : decode cX7_errorMade 5 = .ok (.iload 4, 2) := by decide +kernel
theorem dX7_errorMade_7 : decode cX7_errorMade 7 = .ok (.iload_n 2, 1) := by decide +kernel
theorem dX7_errorMade_8 : decode cX7_errorMade 8 = .ok (.if_icmp .ge 33, 3) := by decide +kernel
theorem dX7_errorMade_11 : decode cX7_errorMade 11 = .ok (.iload_n 3, 1) := by decide +kernel
theorem dX7_errorMade_12 : decode cX7_errorMade 12 = .ok (.aload_n 0, 1) := by decide +kernel
theorem dX7_errorMade_13 : decode cX7_errorMade 13 = .ok (.getfield 7, 3) := by decide +kernel
theorem dX7_errorMade_16 : decode cX7_errorMade 16 = .ok (.bipush 7, 2) := by decide +kernel
theorem dX7_errorMade_18 : decode cX7_errorMade 18 = .ok (.iload 4, 2) := by decide +kernel
theorem dX7_errorMade_20 : decode cX7_errorMade 20 = .ok (.iadd, 1) := by decide +kernel
theorem dX7_errorMade_21 : decode cX7_errorMade 21 = .ok (.iaload, 1) := by decide +kernel
theorem dX7_errorMade_22 : decode cX7_errorMade 22 = .ok (.aload_n 0, 1) := by decide +kernel
theorem dX7_errorMade_23 : decode cX7_errorMade 23 = .ok (.getfield 29, 3) := by decide +kernel
theorem dX7_errorMade_26 : decode cX7_errorMade 26 = .ok (.iload 4, 2) := by decide +kernel
theorem dX7_errorMade_28 : decode cX7_errorMade 28 = .ok (.iaload, 1) := by decide +kernel
theorem dX7_errorMade_29 : decode cX7_errorMade 29 = .ok (.isub, 1) := by decide +kernel
theorem dX7_errorMade_30 : decode cX7_errorMade 30 = .ok (.invokestatic 82, 3) := by decide +kernel
theorem dX7_errorMade_33 : decode cX7_errorMade 33 = .ok (.iadd, 1) := by decide +kernel
theorem dX7_errorMade_34 : decode cX7_errorMade 34 = .ok (.istore_n 3, 1) := by decide +kernel
theorem dX7_errorMade_35 : decode cX7_errorMade 35 = .ok (.iinc 4 1, 3) := by decide +kernel
theorem dX7_errorMade_38 : decode cX7_errorMade 38 = .ok (.goto (-33), 3) := by decide +kernel
theorem dX7_errorMade_41 : decode cX7_errorMade 41 = .ok (.iload_n 3, 1) := by decide +kernel
theorem dX7_errorMade_42 : decode cX7_errorMade 42 = .ok (.ireturn, 1) := by decide +kernel
theorem dX7_notCoded_0 : decode cX7_notCoded 0 = .ok (.aload_n 0, 1) := by decide +kernel
theorem dX7_notCoded_1 : decode cX7_notCoded 1 = .ok (.getfield 7, 3) := by decide +kernel
theorem dX7_notCoded_4 : decode cX7_notCoded 4 = .ok (.iconst 1, 1) := by decide +kernel
theorem dX7_notCoded_5 : decode cX7_notCoded 5 = .ok (.iconst 0, 1) := by decide +kernel
theorem dX7_notCoded_6 : decode cX7_notCoded 6 = .ok (.iastore, 1) := by decide +kernel
theorem dX7_notCoded_7 : decode cX7_notCoded 7 = .ok (.iconst 0, 1) := by decide +kernel
theorem dX7_notCoded_8 : decode cX7_notCoded 8 = .ok (.istore_n 1, 1) := by decide +kernel
theorem dX7_notCoded_9 : decode cX7_notCoded 9 = .ok (.iload_n 1, 1) := by decide +kernel
theorem dX7_notCoded_10 : decode cX7_notCoded 10 = .ok (.bipush 32, 2) := by decide +kernel
theorem dX7_notCoded_12 : decode cX7_notCoded 12 = .ok (.if_icmp .ge 20, 3) := by decide +kernel
theorem dX7_notCoded_15 : decode cX7_notCoded 15 = .ok (.aload_n 0, 1) := by decide +kernel
theorem dX7_notCoded_16 : decode cX7_notCoded 16 = .ok (.getfield 7, 3) := by decide +kernel
theorem dX7_notCoded_19 : decode cX7_notCoded 19 = .ok (.sipush 263, 3) := by decide +kernel
theorem dX7_notCoded_22 : decode cX7_notCoded 22 = .ok (.iload_n 1, 1) := by decide +kernel
theorem dX7_notCoded_23 : decode cX7_notCoded 23 = .ok (.iadd, 1) := by decide +kernel
theorem dX7_notCoded_24 : decode cX7_notCoded 24 = .ok (.iconst 0, 1) := by decide +kernel
theorem dX7_notCoded_25 : decode cX7_notCoded 25 = .ok (.iastore, 1) := by decide +kernel
theorem dX7_notCoded_26 : decode cX7_notCoded 26 = .ok (.iinc 1 1, 3) := by decide +kernel
theorem dX7_notCoded_29 : decode cX7_notCoded 29 = .ok (.goto (-20), 3) := by decide +kernel
theorem dX7_notCoded_32 : decode cX7_notCoded 32 = .ok (.return_, 1) := by decide +kernel
theorem dX7_wave_0 : decode cX7_wave 0 = .ok (.aload_n 0, 1) := by decide +kernel
theorem dX7_wave_1 : decode cX7_wave 1 = .ok (.iload_n 1, 1) := by decide +kernel
theorem dX7_wave_2 : decode cX7_wave 2 = .ok (.iconst 1, 1) := by decide +kernel
theorem dX7_wave_3 : decode cX7_wave 3 = .ok (.bipush 64, 2) := by decide +kernel
theorem dX7_wave_5 : decode cX7_wave 5 = .ok (.invokestatic 51, 3) := by decide +kernel
theorem dX7_wave_8 : decode cX7_wave 8 = .ok (.ifCond .eq 7, 3) := by decide +kernel
theorem dX7_wave_11 : decode cX7_wave 11 = .ok (.iconst 0, 1) := by decide +kernel
theorem dX7_wave_12 : decode cX7_wave 12 = .ok (.goto 4, 3) := by decide +kernel
theorem dX7_wave_15 : decode cX7_wave 15 = .ok (.iconst 1, 1) := by decide +kernel
theorem dX7_wave_16 : decode cX7_wave 16 = .ok (.invokevirtual 97, 3) := by decide +kernel
theorem dX7_wave_19 : decode cX7_wave 19 = .ok (.ifCond .ne 5, 3) := by decide +kernel
theorem dX7_wave_22 : decode cX7_wave 22 = .ok (.iconst 0, 1) := by decide +kernel
theorem dX7_wave_23 : decode cX7_wave 23 = .ok (.ireturn, 1) := by decide +kernel
theorem dX7_wave_24 : decode cX7_wave 24 = .ok (.aload_n 0, 1) := by decide +kernel
theorem dX7_wave_25 : decode cX7_wave 25 = .ok (.invokevirtual 100, 3) := by decide +kernel
theorem dX7_wave_28 : decode cX7_wave 28 = .ok (.aload_n 0, 1) := by decide +kernel
theorem dX7_wave_29 : decode cX7_wave 29 = .ok (.getfield 7, 3) := by decide +kernel
theorem dX7_wave_32 : decode cX7_wave 32 = .ok (.iconst 0, 1) := by decide +kernel
theorem dX7_wave_33 : decode cX7_wave 33 = .ok (.iaload, 1) := by decide +kernel
theorem dX7_wave_34 : decode cX7_wave 34 = .ok (.istore_n 2, 1) := by decide +kernel
theorem dX7_wave_35 : decode cX7_wave 35 = .ok (.aload_n 0, 1) := by decide +kernel
theorem dX7_wave_36 : decode cX7_wave 36 = .ok (.getfield 7, 3) := by decide +kernel
theorem dX7_wave_39 : decode cX7_wave 39 = .ok (.iconst 0, 1) := by decide +kernel
theorem dX7_wave_40 : decode cX7_wave 40 = .ok (.iload_n 1, 1) := by decide +kernel
theorem dX7_wave_41 : decode cX7_wave 41 = .ok (.iastore, 1) := by decide +kernel
theorem dX7_wave_42 : decode cX7_wave 42 = .ok (.iconst 0, 1) := by decide +kernel
theorem dX7_wave_43 : decode cX7_wave 43 = .ok (.istore_n 3, 1) := by decide +kernel
theorem dX7_wave_44 : decode cX7_wave 44 = .ok (.iload_n 3, 1) := by decide +kernel
theorem dX7_wave_45 : decode cX7_wave 45 = .ok (.bipush 64, 2) := by decide +kernel
theorem dX7_wave_47 : decode cX7_wave 47 = .ok (.if_icmp .ge 19, 3) := by decide +kernel
theorem dX7_wave_50 : decode cX7_wave 50 = .ok (.aload_n 0, 1) := by decide +kernel
theorem dX7_wave_51 : decode cX7_wave 51 = .ok (.getfield 7, 3) := by decide +kernel
theorem dX7_wave_54 : decode cX7_wave 54 = .ok (.bipush 7, 2) := by decide +kernel
theorem dX7_wave_56 : decode cX7_wave 56 = .ok (.iload_n 3, 1) := by decide +kernel
theorem dX7_wave_57 : decode cX7_wave 57 = .ok (.iadd, 1) := by decide +kernel
theorem dX7_wave_58 : decode cX7_wave 58 = .ok (.iconst 0, 1) := by decide +kernel
theorem dX7_wave_59 : decode cX7_wave 59 = .ok (.iastore, 1) := by decide +kernel
theorem dX7_wave_60 : decode cX7_wave 60 = .ok (.iinc 3 1, 3) := by decide +kernel
theorem dX7_wave_63 : decode cX7_wave 63 = .ok (.goto (-19), 3) := by decide +kernel
theorem dX7_wave_66 : decode cX7_wave 66 = .ok (.aload_n 0, 1) := by decide +kernel
theorem dX7_wave_67 : decode cX7_wave 67 = .ok (.invokevirtual 103, 3) := by decide +kernel
theorem dX7_wave_70 : decode cX7_wave 70 = .ok (.iload_n 2, 1) := by decide +kernel
theorem dX7_wave_71 : decode cX7_wave 71 = .ok (.ireturn, 1) := by decide +kernel
theorem dX7_sample_0 : decode cX7_sample 0 = .ok (.aload_n 0, 1) := by decide +kernel
theorem dX7_sample_1 : decode cX7_sample 1 = .ok (.aload_n 0, 1) := by decide +kernel
theorem dX7_sample_2 : decode cX7_sample 2 = .ok (.iload_n 1, 1) := by decide +kernel
theorem dX7_sample_3 : decode cX7_sample 3 = .ok (.invokevirtual 63, 3) := by decide +kernel
theorem dX7_sample_6 : decode cX7_sample 6 = .ok (.ifCond .ne 7, 3) := by decide +kernel
theorem dX7_sample_9 : decode cX7_sample 9 = .ok (.iconst 1, 1) := by decide +kernel
theorem dX7_sample_10 : decode cX7_sample 10 = .ok (.goto 21, 3) := by decide +kernel
theorem dX7_sample_13 : decode cX7_sample 13 = .ok (.iload_n 2, 1) := by decide +kernel
theorem dX7_sample_14 : decode cX7_sample 14 = .ok (.sipush (-2048), 3) := by decide +kernel
theorem dX7_sample_17 : decode cX7_sample 17 = .ok (.sipush 2047, 3) := by decide +kernel
theorem dX7_sample_20 : decode cX7_sample 20 = .ok (.invokestatic 51, 3) := by decide +kernel
theorem dX7_sample_23 : decode cX7_sample 23 = .ok (.ifCond .ne 7, 3) := by decide +kernel
theorem dX7_sample_26 : decode cX7_sample 26 = .ok (.iconst 2, 1) := by decide +kernel
theorem dX7_sample_27 : decode cX7_sample 27 = .ok (.goto 4, 3) := by decide +kernel
theorem dX7_sample_30 : decode cX7_sample 30 = .ok (.iconst 0, 1) := by decide +kernel
theorem dX7_sample_31 : decode cX7_sample 31 = .ok (.invokevirtual 97, 3) := by decide +kernel
theorem dX7_sample_34 : decode cX7_sample 34 = .ok (.ifCond .ne 5, 3) := by decide +kernel
theorem dX7_sample_37 : decode cX7_sample 37 = .ok (.iconst 0, 1) := by decide +kernel
theorem dX7_sample_38 : decode cX7_sample 38 = .ok (.ireturn, 1) := by decide +kernel
theorem dX7_sample_39 : decode cX7_sample 39 = .ok (.aload_n 0, 1) := by decide +kernel
theorem dX7_sample_40 : decode cX7_sample 40 = .ok (.invokevirtual 100, 3) := by decide +kernel
theorem dX7_sample_43 : decode cX7_sample 43 = .ok (.aload_n 0, 1) := by decide +kernel
theorem dX7_sample_44 : decode cX7_sample 44 = .ok (.getfield 7, 3) := by decide +kernel
theorem dX7_sample_47 : decode cX7_sample 47 = .ok (.bipush 7, 2) := by decide +kernel
theorem dX7_sample_49 : decode cX7_sample 49 = .ok (.iload_n 1, 1) := by decide +kernel
theorem dX7_sample_50 : decode cX7_sample 50 = .ok (.iadd, 1) := by decide +kernel
theorem dX7_sample_51 : decode cX7_sample 51 = .ok (.iaload, 1) := by decide +kernel
theorem dX7_sample_52 : decode cX7_sample 52 = .ok (.istore_n 3, 1) := by decide +kernel
theorem dX7_sample_53 : decode cX7_sample 53 = .ok (.aload_n 0, 1) := by decide +kernel
theorem dX7_sample_54 : decode cX7_sample 54 = .ok (.getfield 7, 3) := by decide +kernel
theorem dX7_sample_57 : decode cX7_sample 57 = .ok (.bipush 7, 2) := by decide +kernel
theorem dX7_sample_59 : decode cX7_sample 59 = .ok (.iload_n 1, 1) := by decide +kernel
theorem dX7_sample_60 : decode cX7_sample 60 = .ok (.iadd, 1) := by decide +kernel
theorem dX7_sample_61 : decode cX7_sample 61 = .ok (.iload_n 2, 1) := by decide +kernel
theorem dX7_sample_62 : decode cX7_sample 62 = .ok (.iastore, 1) := by decide +kernel
theorem dX7_sample_63 : decode cX7_sample 63 = .ok (.aload_n 0, 1) := by decide +kernel
theorem dX7_sample_64 : decode cX7_sample 64 = .ok (.invokevirtual 103, 3) := by decide +kernel
theorem dX7_sample_67 : decode cX7_sample 67 = .ok (.iload_n 3, 1) := by decide +kernel
theorem dX7_sample_68 : decode cX7_sample 68 = .ok (.sipush 10000, 3) := by decide +kernel
theorem dX7_sample_71 : decode cX7_sample 71 = .ok (.iadd, 1) := by decide +kernel
theorem dX7_sample_72 : decode cX7_sample 72 = .ok (.ireturn, 1) := by decide +kernel
theorem dX7_shape_0 : decode cX7_shape 0 = .ok (.iload_n 0, 1) := by decide +kernel
theorem dX7_shape_1 : decode cX7_shape 1 = .ok (.ifCond .ne 17, 3) := by decide +kernel
theorem dX7_shape_4 : decode cX7_shape 4 = .ok (.iconst 2, 1) := by decide +kernel
theorem dX7_shape_5 : decode cX7_shape 5 = .ok (.iload_n 3, 1) := by decide +kernel
theorem dX7_shape_6 : decode cX7_shape 6 = .ok (.imul, 1) := by decide +kernel
theorem dX7_shape_7 : decode cX7_shape 7 = .ok (.iload_n 2, 1) := by decide +kernel
theorem dX7_shape_8 : decode cX7_shape 8 = .ok (.if_icmp .ge 7, 3) := by decide +kernel
theorem dX7_shape_11 : decode cX7_shape 11 = .ok (.iload_n 1, 1) := by decide +kernel
theorem dX7_shape_12 : decode cX7_shape 12 = .ok (.goto 5, 3) := by decide +kernel
theorem dX7_shape_15 : decode cX7_shape 15 = .ok (.iload_n 1, 1) := by decide +kernel
theorem dX7_shape_16 : decode cX7_shape 16 = .ok (.ineg, 1) := by decide +kernel
theorem dX7_shape_17 : decode cX7_shape 17 = .ok (.ireturn, 1) := by decide +kernel
theorem dX7_shape_18 : decode cX7_shape 18 = .ok (.iload_n 2, 1) := by decide +kernel
theorem dX7_shape_19 : decode cX7_shape 19 = .ok (.iconst 2, 1) := by decide +kernel
theorem dX7_shape_20 : decode cX7_shape 20 = .ok (.idiv, 1) := by decide +kernel
theorem dX7_shape_21 : decode cX7_shape 21 = .ok (.istore 4, 2) := by decide +kernel
theorem dX7_shape_23 : decode cX7_shape 23 = .ok (.iload_n 3, 1) := by decide +kernel
theorem dX7_shape_24 : decode cX7_shape 24 = .ok (.iload 4, 2) := by decide +kernel
theorem dX7_shape_26 : decode cX7_shape 26 = .ok (.if_icmp .ge 10, 3) := by decide +kernel
theorem dX7_shape_29 : decode cX7_shape 29 = .ok (.iload 4, 2) := by decide +kernel
theorem dX7_shape_31 : decode cX7_shape 31 = .ok (.iload_n 3, 1) := by decide +kernel
theorem dX7_shape_32 : decode cX7_shape 32 = .ok (.isub, 1) := by decide +kernel
theorem dX7_shape_33 : decode cX7_shape 33 = .ok (.goto 7, 3) := by decide +kernel
theorem dX7_shape_36 : decode cX7_shape 36 = .ok (.iload_n 3, 1) := by decide +kernel
theorem dX7_shape_37 : decode cX7_shape 37 = .ok (.iload 4, 2) := by decide +kernel
theorem dX7_shape_39 : decode cX7_shape 39 = .ok (.isub, 1) := by decide +kernel
theorem dX7_shape_40 : decode cX7_shape 40 = .ok (.istore 5, 2) := by decide +kernel
theorem dX7_shape_42 : decode cX7_shape 42 = .ok (.iload_n 1, 1) := by decide +kernel
theorem dX7_shape_43 : decode cX7_shape 43 = .ok (.iload_n 0, 1) := by decide +kernel
theorem dX7_shape_44 : decode cX7_shape 44 = .ok (.iconst 1, 1) := by decide +kernel
theorem dX7_shape_45 : decode cX7_shape 45 = .ok (.if_icmp .ne 11, 3) := by decide +kernel
theorem dX7_shape_48 : decode cX7_shape 48 = .ok (.iconst 2, 1) := by decide +kernel
theorem dX7_shape_49 : decode cX7_shape 49 = .ok (.iload_n 3, 1) := by decide +kernel
theorem dX7_shape_50 : decode cX7_shape 50 = .ok (.imul, 1) := by decide +kernel
theorem dX7_shape_51 : decode cX7_shape 51 = .ok (.iload_n 2, 1) := by decide +kernel
theorem dX7_shape_52 : decode cX7_shape 52 = .ok (.isub, 1) := by decide +kernel
theorem dX7_shape_53 : decode cX7_shape 53 = .ok (.goto 9, 3) := by decide +kernel
theorem dX7_shape_56 : decode cX7_shape 56 = .ok (.iconst 4, 1) := by decide +kernel
theorem dX7_shape_57 : decode cX7_shape 57 = .ok (.iload 5, 2) := by decide +kernel
theorem dX7_shape_59 : decode cX7_shape 59 = .ok (.imul, 1) := by decide +kernel
theorem dX7_shape_60 : decode cX7_shape 60 = .ok (.iload_n 2, 1) := by decide +kernel
theorem dX7_shape_61 : decode cX7_shape 61 = .ok (.isub, 1) := by decide +kernel
theorem dX7_shape_62 : decode cX7_shape 62 = .ok (.imul, 1) := by decide +kernel
theorem dX7_shape_63 : decode cX7_shape 63 = .ok (.iload_n 2, 1) := by decide +kernel
theorem dX7_shape_64 : decode cX7_shape 64 = .ok (.idiv, 1) := by decide +kernel
theorem dX7_shape_65 : decode cX7_shape 65 = .ok (.ireturn, 1) := by decide +kernel
theorem dX7_add_0 : decode cX7_add 0 = .ok (.aload_n 0, 1) := by decide +kernel
theorem dX7_add_1 : decode cX7_add 1 = .ok (.iload_n 1, 1) := by decide +kernel
theorem dX7_add_2 : decode cX7_add 2 = .ok (.iconst 0, 1) := by decide +kernel
theorem dX7_add_3 : decode cX7_add 3 = .ok (.iconst 2, 1) := by decide +kernel
theorem dX7_add_4 : decode cX7_add 4 = .ok (.invokestatic 51, 3) := by decide +kernel
theorem dX7_add_7 : decode cX7_add 7 = .ok (.ifCond .eq 28, 3) := by decide +kernel
theorem dX7_add_10 : decode cX7_add 10 = .ok (.iload_n 2, 1) := by decide +kernel
theorem dX7_add_11 : decode cX7_add 11 = .ok (.iconst 0, 1) := by decide +kernel
theorem dX7_add_12 : decode cX7_add 12 = .ok (.sipush 2047, 3) := by decide +kernel
theorem dX7_add_15 : decode cX7_add 15 = .ok (.invokestatic 51, 3) := by decide +kernel
theorem dX7_add_18 : decode cX7_add 18 = .ok (.ifCond .eq 17, 3) := by decide +kernel
theorem dX7_add_21 : decode cX7_add 21 = .ok (.iload_n 3, 1) := by decide +kernel
theorem dX7_add_22 : decode cX7_add 22 = .ok (.iconst 1, 1) := by decide +kernel
theorem dX7_add_23 : decode cX7_add 23 = .ok (.bipush 64, 2) := by decide +kernel
theorem dX7_add_25 : decode cX7_add 25 = .ok (.invokestatic 51, 3) := by decide +kernel
theorem dX7_add_28 : decode cX7_add 28 = .ok (.ifCond .eq 7, 3) := by decide +kernel
theorem dX7_add_31 : decode cX7_add 31 = .ok (.iconst 0, 1) := by decide +kernel
theorem dX7_add_32 : decode cX7_add 32 = .ok (.goto 4, 3) := by decide +kernel
theorem dX7_add_35 : decode cX7_add 35 = .ok (.iconst 1, 1) := by decide +kernel
theorem dX7_add_36 : decode cX7_add 36 = .ok (.invokevirtual 97, 3) := by decide +kernel
theorem dX7_add_39 : decode cX7_add 39 = .ok (.ifCond .ne 5, 3) := by decide +kernel
theorem dX7_add_42 : decode cX7_add 42 = .ok (.iconst 0, 1) := by decide +kernel
theorem dX7_add_43 : decode cX7_add 43 = .ok (.ireturn, 1) := by decide +kernel
theorem dX7_add_44 : decode cX7_add 44 = .ok (.aload_n 0, 1) := by decide +kernel
theorem dX7_add_45 : decode cX7_add 45 = .ok (.invokevirtual 100, 3) := by decide +kernel
theorem dX7_add_48 : decode cX7_add 48 = .ok (.iconst 0, 1) := by decide +kernel
theorem dX7_add_49 : decode cX7_add 49 = .ok (.istore 4, 2) := by decide +kernel
theorem dX7_add_51 : decode cX7_add 51 = .ok (.iconst 0, 1) := by decide +kernel
theorem dX7_add_52 : decode cX7_add 52 = .ok (.istore 5, 2) := by decide +kernel
theorem dX7_add_54 : decode cX7_add 54 = .ok (.iload 5, 2) := by decide +kernel
theorem dX7_add_56 : decode cX7_add 56 = .ok (.aload_n 0, 1) := by decide +kernel
theorem dX7_add_57 : decode cX7_add 57 = .ok (.getfield 7, 3) := by decide +kernel
theorem dX7_add_60 : decode cX7_add 60 = .ok (.iconst 0, 1) := by decide +kernel
theorem dX7_add_61 : decode cX7_add 61 = .ok (.iaload, 1) := by decide +kernel
theorem dX7_add_62 : decode cX7_add 62 = .ok (.if_icmp .ge 67, 3) := by decide +kernel
theorem dX7_add_65 : decode cX7_add 65 = .ok (.aload_n 0, 1) := by decide +kernel
theorem dX7_add_66 : decode cX7_add 66 = .ok (.getfield 7, 3) := by decide +kernel
theorem dX7_add_69 : decode cX7_add 69 = .ok (.bipush 7, 2) := by decide +kernel
theorem dX7_add_71 : decode cX7_add 71 = .ok (.iload 5, 2) := by decide +kernel
theorem dX7_add_73 : decode cX7_add 73 = .ok (.iadd, 1) := by decide +kernel
theorem dX7_add_74 : decode cX7_add 74 = .ok (.iaload, 1) := by decide +kernel
theorem dX7_add_75 : decode cX7_add 75 = .ok (.iload_n 1, 1) := by decide +kernel
theorem dX7_add_76 : decode cX7_add 76 = .ok (.iload_n 2, 1) := by decide +kernel
theorem dX7_add_77 : decode cX7_add 77 = .ok (.iload_n 3, 1) := by decide +kernel
theorem dX7_add_78 : decode cX7_add 78 = .ok (.iload 5, 2) := by decide +kernel
theorem dX7_add_80 : decode cX7_add 80 = .ok (.iload_n 3, 1) := by decide +kernel
theorem dX7_add_81 : decode cX7_add 81 = .ok (.irem, 1) := by decide +kernel
theorem dX7_add_82 : decode cX7_add 82 = .ok (.invokestatic 106, 3) := by decide +kernel
theorem dX7_add_85 : decode cX7_add 85 = .ok (.iadd, 1) := by decide +kernel
theorem dX7_add_86 : decode cX7_add 86 = .ok (.istore 6, 2) := by decide +kernel
theorem dX7_add_88 : decode cX7_add 88 = .ok (.iload 4, 2) := by decide +kernel
theorem dX7_add_90 : decode cX7_add 90 = .ok (.iload 6, 2) := by decide +kernel
theorem dX7_add_92 : decode cX7_add 92 = .ok (.iload 6, 2) := by decide +kernel
theorem dX7_add_94 : decode cX7_add 94 = .ok (.invokestatic 67, 3) := by decide +kernel
theorem dX7_add_97 : decode cX7_add 97 = .ok (.if_icmp .ne 7, 3) := by decide +kernel
theorem dX7_add_100 : decode cX7_add 100 = .ok (.iconst 0, 1) := by decide +kernel
theorem dX7_add_101 : decode cX7_add 101 = .ok (.goto 4, 3) := by decide +kernel
theorem dX7_add_104 : decode cX7_add 104 = .ok (.iconst 1, 1) := by decide +kernel
theorem dX7_add_105 : decode cX7_add 105 = .ok (.iadd, 1) := by decide +kernel
theorem dX7_add_106 : decode cX7_add 106 = .ok (.istore 4, 2) := by decide +kernel
theorem dX7_add_108 : decode cX7_add 108 = .ok (.aload_n 0, 1) := by decide +kernel
theorem dX7_add_109 : decode cX7_add 109 = .ok (.getfield 7, 3) := by decide +kernel
theorem dX7_add_112 : decode cX7_add 112 = .ok (.bipush 7, 2) := by decide +kernel
theorem dX7_add_114 : decode cX7_add 114 = .ok (.iload 5, 2) := by decide +kernel
theorem dX7_add_116 : decode cX7_add 116 = .ok (.iadd, 1) := by decide +kernel
theorem dX7_add_117 : decode cX7_add 117 = .ok (.iload 6, 2) := by decide +kernel
theorem dX7_add_119 : decode cX7_add 119 = .ok (.invokestatic 67, 3) := by decide +kernel
theorem dX7_add_122 : decode cX7_add 122 = .ok (.iastore, 1) := by decide +kernel
theorem dX7_add_123 : decode cX7_add 123 = .ok (.iinc 5 1, 3) := by decide +kernel
theorem dX7_add_126 : decode cX7_add 126 = .ok (.goto (-72), 3) := by decide +kernel
theorem dX7_add_129 : decode cX7_add 129 = .ok (.aload_n 0, 1) := by decide +kernel
theorem dX7_add_130 : decode cX7_add 130 = .ok (.invokevirtual 103, 3) := by decide +kernel
theorem dX7_add_133 : decode cX7_add 133 = .ok (.iload 4, 2) := by decide +kernel
theorem dX7_add_135 : decode cX7_add 135 = .ok (.ireturn, 1) := by decide +kernel
theorem dX7_take_0 : decode cX7_take 0 = .ok (.aload_n 0, 1) := by decide +kernel
theorem dX7_take_1 : decode cX7_take 1 = .ok (.aload_n 0, 1) := by decide +kernel
theorem dX7_take_2 : decode cX7_take 2 = .ok (.invokevirtual 55, 3) := by decide +kernel
theorem dX7_take_5 : decode cX7_take 5 = .ok (.ifCond .eq 7, 3) := by decide +kernel
theorem dX7_take_8 : decode cX7_take 8 = .ok (.iconst 0, 1) := by decide +kernel
theorem dX7_take_9 : decode cX7_take 9 = .ok (.goto 4, 3) := by decide +kernel
theorem dX7_take_12 : decode cX7_take 12 = .ok (.iconst 1, 1) := by decide +kernel
theorem dX7_take_13 : decode cX7_take 13 = .ok (.invokevirtual 97, 3) := by decide +kernel
theorem dX7_take_16 : decode cX7_take 16 = .ok (.ifCond .ne 5, 3) := by decide +kernel
theorem dX7_take_19 : decode cX7_take 19 = .ok (.iconst 0, 1) := by decide +kernel
theorem dX7_take_20 : decode cX7_take 20 = .ok (.ireturn, 1) := by decide +kernel
theorem dX7_take_21 : decode cX7_take 21 = .ok (.aload_n 0, 1) := by decide +kernel
theorem dX7_take_22 : decode cX7_take 22 = .ok (.invokevirtual 100, 3) := by decide +kernel
theorem dX7_take_25 : decode cX7_take 25 = .ok (.aload_n 0, 1) := by decide +kernel
theorem dX7_take_26 : decode cX7_take 26 = .ok (.invokevirtual 94, 3) := by decide +kernel
theorem dX7_take_29 : decode cX7_take 29 = .ok (.iconst 0, 1) := by decide +kernel
theorem dX7_take_30 : decode cX7_take 30 = .ok (.istore_n 1, 1) := by decide +kernel
theorem dX7_take_31 : decode cX7_take 31 = .ok (.iconst 0, 1) := by decide +kernel
theorem dX7_take_32 : decode cX7_take 32 = .ok (.istore_n 2, 1) := by decide +kernel
theorem dX7_take_33 : decode cX7_take 33 = .ok (.iload_n 2, 1) := by decide +kernel
theorem dX7_take_34 : decode cX7_take 34 = .ok (.aload_n 0, 1) := by decide +kernel
theorem dX7_take_35 : decode cX7_take 35 = .ok (.getfield 7, 3) := by decide +kernel
theorem dX7_take_38 : decode cX7_take 38 = .ok (.iconst 0, 1) := by decide +kernel
theorem dX7_take_39 : decode cX7_take 39 = .ok (.iaload, 1) := by decide +kernel
theorem dX7_take_40 : decode cX7_take 40 = .ok (.if_icmp .ge 50, 3) := by decide +kernel
theorem dX7_take_43 : decode cX7_take 43 = .ok (.iload_n 1, 1) := by decide +kernel
theorem dX7_take_44 : decode cX7_take 44 = .ok (.aload_n 0, 1) := by decide +kernel
theorem dX7_take_45 : decode cX7_take 45 = .ok (.getfield 7, 3) := by decide +kernel
theorem dX7_take_48 : decode cX7_take 48 = .ok (.bipush 7, 2) := by decide +kernel
theorem dX7_take_50 : decode cX7_take 50 = .ok (.iload_n 2, 1) := by decide +kernel
theorem dX7_take_51 : decode cX7_take 51 = .ok (.iadd, 1) := by decide +kernel
theorem dX7_take_52 : decode cX7_take 52 = .ok (.iaload, 1) := by decide +kernel
theorem dX7_take_53 : decode cX7_take 53 = .ok (.aload_n 0, 1) := by decide +kernel
theorem dX7_take_54 : decode cX7_take 54 = .ok (.getfield 29, 3) := by decide +kernel
theorem dX7_take_57 : decode cX7_take 57 = .ok (.iload_n 2, 1) := by decide +kernel
theorem dX7_take_58 : decode cX7_take 58 = .ok (.iaload, 1) := by decide +kernel
theorem dX7_take_59 : decode cX7_take 59 = .ok (.if_icmp .ne 7, 3) := by decide +kernel
theorem dX7_take_62 : decode cX7_take 62 = .ok (.iconst 0, 1) := by decide +kernel
theorem dX7_take_63 : decode cX7_take 63 = .ok (.goto 4, 3) := by decide +kernel
theorem dX7_take_66 : decode cX7_take 66 = .ok (.iconst 1, 1) := by decide +kernel
theorem dX7_take_67 : decode cX7_take 67 = .ok (.iadd, 1) := by decide +kernel
theorem dX7_take_68 : decode cX7_take 68 = .ok (.istore_n 1, 1) := by decide +kernel
theorem dX7_take_69 : decode cX7_take 69 = .ok (.aload_n 0, 1) := by decide +kernel
theorem dX7_take_70 : decode cX7_take 70 = .ok (.getfield 7, 3) := by decide +kernel
theorem dX7_take_73 : decode cX7_take 73 = .ok (.bipush 7, 2) := by decide +kernel
theorem dX7_take_75 : decode cX7_take 75 = .ok (.iload_n 2, 1) := by decide +kernel
theorem dX7_take_76 : decode cX7_take 76 = .ok (.iadd, 1) := by decide +kernel
theorem dX7_take_77 : decode cX7_take 77 = .ok (.aload_n 0, 1) := by decide +kernel
theorem dX7_take_78 : decode cX7_take 78 = .ok (.getfield 29, 3) := by decide +kernel
theorem dX7_take_81 : decode cX7_take 81 = .ok (.iload_n 2, 1) := by decide +kernel
theorem dX7_take_82 : decode cX7_take 82 = .ok (.iaload, 1) := by decide +kernel
theorem dX7_take_83 : decode cX7_take 83 = .ok (.iastore, 1) := by decide +kernel
theorem dX7_take_84 : decode cX7_take 84 = .ok (.iinc 2 1, 3) := by decide +kernel
theorem dX7_take_87 : decode cX7_take 87 = .ok (.goto (-54), 3) := by decide +kernel
theorem dX7_take_90 : decode cX7_take 90 = .ok (.aload_n 0, 1) := by decide +kernel
theorem dX7_take_91 : decode cX7_take 91 = .ok (.invokevirtual 103, 3) := by decide +kernel
theorem dX7_take_94 : decode cX7_take 94 = .ok (.iload_n 1, 1) := by decide +kernel
theorem dX7_take_95 : decode cX7_take 95 = .ok (.ireturn, 1) := by decide +kernel
theorem dX7_set_0 : decode cX7_set 0 = .ok (.iload_n 2, 1) := by decide +kernel
theorem dX7_set_1 : decode cX7_set 1 = .ok (.iload_n 1, 1) := by decide +kernel
theorem dX7_set_2 : decode cX7_set 2 = .ok (.ifCond .ne 7, 3) := by decide +kernel
theorem dX7_set_5 : decode cX7_set 5 = .ok (.iconst 2, 1) := by decide +kernel
theorem dX7_set_6 : decode cX7_set 6 = .ok (.goto 4, 3) := by decide +kernel
theorem dX7_set_9 : decode cX7_set 9 = .ok (.iconst 0, 1) := by decide +kernel
theorem dX7_set_10 : decode cX7_set 10 = .ok (.iload_n 1, 1) := by decide +kernel
theorem dX7_set_11 : decode cX7_set 11 = .ok (.ifCond .ne 8, 3) := by decide +kernel
theorem dX7_set_14 : decode cX7_set 14 = .ok (.bipush 16, 2) := by decide +kernel
theorem dX7_set_16 : decode cX7_set 16 = .ok (.goto 4, 3) := by decide +kernel
theorem dX7_set_19 : decode cX7_set 19 = .ok (.iload_n 1, 1) := by decide +kernel
theorem dX7_set_20 : decode cX7_set 20 = .ok (.invokestatic 51, 3) := by decide +kernel
theorem dX7_set_23 : decode cX7_set 23 = .ok (.istore_n 3, 1) := by decide +kernel
theorem dX7_set_24 : decode cX7_set 24 = .ok (.aload_n 0, 1) := by decide +kernel
theorem dX7_set_25 : decode cX7_set 25 = .ok (.iload_n 1, 1) := by decide +kernel
theorem dX7_set_26 : decode cX7_set 26 = .ok (.iconst 0, 1) := by decide +kernel
theorem dX7_set_27 : decode cX7_set 27 = .ok (.iconst 2, 1) := by decide +kernel
theorem dX7_set_28 : decode cX7_set 28 = .ok (.invokestatic 51, 3) := by decide +kernel
theorem dX7_set_31 : decode cX7_set 31 = .ok (.ifCond .ne 7, 3) := by decide +kernel
theorem dX7_set_34 : decode cX7_set 34 = .ok (.iconst 1, 1) := by decide +kernel
theorem dX7_set_35 : decode cX7_set 35 = .ok (.goto 12, 3) := by decide +kernel
theorem dX7_set_38 : decode cX7_set 38 = .ok (.iload_n 3, 1) := by decide +kernel
theorem dX7_set_39 : decode cX7_set 39 = .ok (.ifCond .ne 7, 3) := by decide +kernel
theorem dX7_set_42 : decode cX7_set 42 = .ok (.iconst 2, 1) := by decide +kernel
theorem dX7_set_43 : decode cX7_set 43 = .ok (.goto 4, 3) := by decide +kernel
theorem dX7_set_46 : decode cX7_set 46 = .ok (.iconst 0, 1) := by decide +kernel
theorem dX7_set_47 : decode cX7_set 47 = .ok (.invokevirtual 97, 3) := by decide +kernel
theorem dX7_set_50 : decode cX7_set 50 = .ok (.ifCond .ne 5, 3) := by decide +kernel
theorem dX7_set_53 : decode cX7_set 53 = .ok (.iconst 0, 1) := by decide +kernel
theorem dX7_set_54 : decode cX7_set 54 = .ok (.ireturn, 1) := by decide +kernel
theorem dX7_set_55 : decode cX7_set 55 = .ok (.aload_n 0, 1) := by decide +kernel
theorem dX7_set_56 : decode cX7_set 56 = .ok (.invokevirtual 100, 3) := by decide +kernel
theorem dX7_set_59 : decode cX7_set 59 = .ok (.aload_n 0, 1) := by decide +kernel
theorem dX7_set_60 : decode cX7_set 60 = .ok (.getfield 7, 3) := by decide +kernel
theorem dX7_set_63 : decode cX7_set 63 = .ok (.iconst 2, 1) := by decide +kernel
theorem dX7_set_64 : decode cX7_set 64 = .ok (.iload_n 1, 1) := by decide +kernel
theorem dX7_set_65 : decode cX7_set 65 = .ok (.iadd, 1) := by decide +kernel
theorem dX7_set_66 : decode cX7_set 66 = .ok (.iaload, 1) := by decide +kernel
theorem dX7_set_67 : decode cX7_set 67 = .ok (.istore 4, 2) := by decide +kernel
theorem dX7_set_69 : decode cX7_set 69 = .ok (.aload_n 0, 1) := by decide +kernel
theorem dX7_set_70 : decode cX7_set 70 = .ok (.getfield 7, 3) := by decide +kernel
theorem dX7_set_73 : decode cX7_set 73 = .ok (.iconst 2, 1) := by decide +kernel
theorem dX7_set_74 : decode cX7_set 74 = .ok (.iload_n 1, 1) := by decide +kernel
theorem dX7_set_75 : decode cX7_set 75 = .ok (.iadd, 1) := by decide +kernel
theorem dX7_set_76 : decode cX7_set 76 = .ok (.iload_n 2, 1) := by decide +kernel
theorem dX7_set_77 : decode cX7_set 77 = .ok (.iastore, 1) := by decide +kernel
theorem dX7_set_78 : decode cX7_set 78 = .ok (.iload_n 1, 1) := by decide +kernel
theorem dX7_set_79 : decode cX7_set 79 = .ok (.iconst 2, 1) := by decide +kernel
theorem dX7_set_80 : decode cX7_set 80 = .ok (.if_icmp .ge 7, 3) := by decide +kernel
theorem dX7_set_83 : decode cX7_set 83 = .ok (.aload_n 0, 1) := by decide +kernel
theorem dX7_set_84 : decode cX7_set 84 = .ok (.invokevirtual 103, 3) := by decide +kernel
theorem dX7_set_87 : decode cX7_set 87 = .ok (.iload 4, 2) := by decide +kernel
theorem dX7_set_89 : decode cX7_set 89 = .ok (.ireturn, 1) := by decide +kernel
theorem dX7_code_0 : decode cX7_code 0 = .ok (.aload_n 0, 1) := by decide +kernel
theorem dX7_code_1 : decode cX7_code 1 = .ok (.iconst 0, 1) := by decide +kernel
theorem dX7_code_2 : decode cX7_code 2 = .ok (.putfield 44, 3) := by decide +kernel
theorem dX7_code_5 : decode cX7_code 5 = .ok (.aload_n 0, 1) := by decide +kernel
theorem dX7_code_6 : decode cX7_code 6 = .ok (.invokevirtual 100, 3) := by decide +kernel
theorem dX7_code_9 : decode cX7_code 9 = .ok (.aload_n 0, 1) := by decide +kernel
theorem dX7_code_10 : decode cX7_code 10 = .ok (.getfield 7, 3) := by decide +kernel
theorem dX7_code_13 : decode cX7_code 13 = .ok (.iconst 1, 1) := by decide +kernel
theorem dX7_code_14 : decode cX7_code 14 = .ok (.iconst 1, 1) := by decide +kernel
theorem dX7_code_15 : decode cX7_code 15 = .ok (.iastore, 1) := by decide +kernel
theorem dX7_code_16 : decode cX7_code 16 = .ok (.aload_n 0, 1) := by decide +kernel
theorem dX7_code_17 : decode cX7_code 17 = .ok (.getfield 7, 3) := by decide +kernel
theorem dX7_code_20 : decode cX7_code 20 = .ok (.iconst 5, 1) := by decide +kernel
theorem dX7_code_21 : decode cX7_code 21 = .ok (.dup2, 1) := by decide +kernel
theorem dX7_code_22 : decode cX7_code 22 = .ok (.iaload, 1) := by decide +kernel
theorem dX7_code_23 : decode cX7_code 23 = .ok (.iconst 1, 1) := by decide +kernel
theorem dX7_code_24 : decode cX7_code 24 = .ok (.iadd, 1) := by decide +kernel
theorem dX7_code_25 : decode cX7_code 25 = .ok (.iastore, 1) := by decide +kernel
theorem dX7_code_26 : decode cX7_code 26 = .ok (.iconst 0, 1) := by decide +kernel
theorem dX7_code_27 : decode cX7_code 27 = .ok (.istore_n 1, 1) := by decide +kernel
theorem dX7_code_28 : decode cX7_code 28 = .ok (.iconst 0, 1) := by decide +kernel
theorem dX7_code_29 : decode cX7_code 29 = .ok (.istore_n 2, 1) := by decide +kernel
theorem dX7_code_30 : decode cX7_code 30 = .ok (.iload_n 2, 1) := by decide +kernel
theorem dX7_code_31 : decode cX7_code 31 = .ok (.aload_n 0, 1) := by decide +kernel
theorem dX7_code_32 : decode cX7_code 32 = .ok (.invokevirtual 59, 3) := by decide +kernel
theorem dX7_code_35 : decode cX7_code 35 = .ok (.if_icmp .ge 50, 3) := by decide +kernel
theorem dX7_code_38 : decode cX7_code 38 = .ok (.iload_n 2, 1) := by decide +kernel
theorem dX7_code_39 : decode cX7_code 39 = .ok (.aload_n 0, 1) := by decide +kernel
theorem dX7_code_40 : decode cX7_code 40 = .ok (.getfield 7, 3) := by decide +kernel
theorem dX7_code_43 : decode cX7_code 43 = .ok (.iconst 2, 1) := by decide +kernel
theorem dX7_code_44 : decode cX7_code 44 = .ok (.iaload, 1) := by decide +kernel
theorem dX7_code_45 : decode cX7_code 45 = .ok (.imul, 1) := by decide +kernel
theorem dX7_code_46 : decode cX7_code 46 = .ok (.istore_n 3, 1) := by decide +kernel
theorem dX7_code_47 : decode cX7_code 47 = .ok (.aload_n 0, 1) := by decide +kernel
theorem dX7_code_48 : decode cX7_code 48 = .ok (.iload_n 2, 1) := by decide +kernel
theorem dX7_code_49 : decode cX7_code 49 = .ok (.aload_n 0, 1) := by decide +kernel
theorem dX7_code_50 : decode cX7_code 50 = .ok (.getfield 7, 3) := by decide +kernel
theorem dX7_code_53 : decode cX7_code 53 = .ok (.iconst 3, 1) := by decide +kernel
theorem dX7_code_54 : decode cX7_code 54 = .ok (.iaload, 1) := by decide +kernel
theorem dX7_code_55 : decode cX7_code 55 = .ok (.iconst 1, 1) := by decide +kernel
theorem dX7_code_56 : decode cX7_code 56 = .ok (.if_icmp .ne 18, 3) := by decide +kernel
theorem dX7_code_59 : decode cX7_code 59 = .ok (.aload_n 0, 1) := by decide +kernel
theorem dX7_code_60 : decode cX7_code 60 = .ok (.iload_n 3, 1) := by decide +kernel
theorem dX7_code_61 : decode cX7_code 61 = .ok (.aload_n 0, 1) := by decide +kernel
theorem dX7_code_62 : decode cX7_code 62 = .ok (.iload_n 2, 1) := by decide +kernel
theorem dX7_code_63 : decode cX7_code 63 = .ok (.invokevirtual 88, 3) := by decide +kernel
theorem dX7_code_66 : decode cX7_code 66 = .ok (.iload_n 3, 1) := by decide +kernel
theorem dX7_code_67 : decode cX7_code 67 = .ok (.isub, 1) := by decide +kernel
theorem dX7_code_68 : decode cX7_code 68 = .ok (.invokevirtual 110, 3) := by decide +kernel
theorem dX7_code_71 : decode cX7_code 71 = .ok (.goto 4, 3) := by decide +kernel
theorem dX7_code_74 : decode cX7_code 74 = .ok (.iload_n 1, 1) := by decide +kernel
theorem dX7_code_75 : decode cX7_code 75 = .ok (.invokevirtual 113, 3) := by decide +kernel
theorem dX7_code_78 : decode cX7_code 78 = .ok (.istore_n 1, 1) := by decide +kernel
theorem dX7_code_79 : decode cX7_code 79 = .ok (.iinc 2 1, 3) := by decide +kernel
theorem dX7_code_82 : decode cX7_code 82 = .ok (.goto (-52), 3) := by decide +kernel
theorem dX7_code_85 : decode cX7_code 85 = .ok (.aload_n 0, 1) := by decide +kernel
theorem dX7_code_86 : decode cX7_code 86 = .ok (.invokevirtual 59, 3) := by decide +kernel
theorem dX7_code_89 : decode cX7_code 89 = .ok (.ireturn, 1) := by decide +kernel
theorem dX7_lost_0 : decode cX7_lost 0 = .ok (.iconst 0, 1) := by decide +kernel
theorem dX7_lost_1 : decode cX7_lost 1 = .ok (.istore_n 1, 1) := by decide +kernel
theorem dX7_lost_2 : decode cX7_lost 2 = .ok (.iconst 0, 1) := by decide +kernel
theorem dX7_lost_3 : decode cX7_lost 3 = .ok (.istore_n 2, 1) := by decide +kernel
theorem dX7_lost_4 : decode cX7_lost 4 = .ok (.iload_n 2, 1) := by decide +kernel
theorem dX7_lost_5 : decode cX7_lost 5 = .ok (.aload_n 0, 1) := by decide +kernel
theorem dX7_lost_6 : decode cX7_lost 6 = .ok (.invokevirtual 59, 3) := by decide +kernel
theorem dX7_lost_9 : decode cX7_lost 9 = .ok (.if_icmp .ge 22, 3) := by decide +kernel
theorem dX7_lost_12 : decode cX7_lost 12 = .ok (.iload_n 1, 1) := by decide +kernel
theorem dX7_lost_13 : decode cX7_lost 13 = .ok (.aload_n 0, 1) := by decide +kernel
theorem dX7_lost_14 : decode cX7_lost 14 = .ok (.getfield 7, 3) := by decide +kernel
theorem dX7_lost_17 : decode cX7_lost 17 = .ok (.sipush 263, 3) := by decide +kernel
theorem dX7_lost_20 : decode cX7_lost 20 = .ok (.iload_n 2, 1) := by decide +kernel
theorem dX7_lost_21 : decode cX7_lost 21 = .ok (.iadd, 1) := by decide +kernel
theorem dX7_lost_22 : decode cX7_lost 22 = .ok (.iaload, 1) := by decide +kernel
theorem dX7_lost_23 : decode cX7_lost 23 = .ok (.iadd, 1) := by decide +kernel
theorem dX7_lost_24 : decode cX7_lost 24 = .ok (.istore_n 1, 1) := by decide +kernel
theorem dX7_lost_25 : decode cX7_lost 25 = .ok (.iinc 2 1, 3) := by decide +kernel
theorem dX7_lost_28 : decode cX7_lost 28 = .ok (.goto (-24), 3) := by decide +kernel
theorem dX7_lost_31 : decode cX7_lost 31 = .ok (.iload_n 1, 1) := by decide +kernel
theorem dX7_lost_32 : decode cX7_lost 32 = .ok (.ireturn, 1) := by decide +kernel
theorem dX7_lose_0 : decode cX7_lose 0 = .ok (.aload_n 0, 1) := by decide +kernel
theorem dX7_lose_1 : decode cX7_lose 1 = .ok (.aload_n 0, 1) := by decide +kernel
theorem dX7_lose_2 : decode cX7_lose 2 = .ok (.iload_n 1, 1) := by decide +kernel
theorem dX7_lose_3 : decode cX7_lose 3 = .ok (.invokevirtual 116, 3) := by decide +kernel
theorem dX7_lose_6 : decode cX7_lose 6 = .ok (.ifCond .eq 7, 3) := by decide +kernel
theorem dX7_lose_9 : decode cX7_lose 9 = .ok (.iconst 0, 1) := by decide +kernel
theorem dX7_lose_10 : decode cX7_lose 10 = .ok (.goto 4, 3) := by decide +kernel
theorem dX7_lose_13 : decode cX7_lose 13 = .ok (.iconst 1, 1) := by decide +kernel
theorem dX7_lose_14 : decode cX7_lose 14 = .ok (.invokevirtual 97, 3) := by decide +kernel
theorem dX7_lose_17 : decode cX7_lose 17 = .ok (.ifCond .ne 5, 3) := by decide +kernel
theorem dX7_lose_20 : decode cX7_lose 20 = .ok (.iconst 0, 1) := by decide +kernel
theorem dX7_lose_21 : decode cX7_lose 21 = .ok (.ireturn, 1) := by decide +kernel
theorem dX7_lose_22 : decode cX7_lose 22 = .ok (.aload_n 0, 1) := by decide +kernel
theorem dX7_lose_23 : decode cX7_lose 23 = .ok (.invokevirtual 100, 3) := by decide +kernel
theorem dX7_lose_26 : decode cX7_lose 26 = .ok (.aload_n 0, 1) := by decide +kernel
theorem dX7_lose_27 : decode cX7_lose 27 = .ok (.getfield 7, 3) := by decide +kernel
theorem dX7_lose_30 : decode cX7_lose 30 = .ok (.sipush 263, 3) := by decide +kernel
theorem dX7_lose_33 : decode cX7_lose 33 = .ok (.iload_n 1, 1) := by decide +kernel
theorem dX7_lose_34 : decode cX7_lose 34 = .ok (.iadd, 1) := by decide +kernel
theorem dX7_lose_35 : decode cX7_lose 35 = .ok (.iconst 1, 1) := by decide +kernel
theorem dX7_lose_36 : decode cX7_lose 36 = .ok (.aload_n 0, 1) := by decide +kernel
theorem dX7_lose_37 : decode cX7_lose 37 = .ok (.getfield 7, 3) := by decide +kernel
theorem dX7_lose_40 : decode cX7_lose 40 = .ok (.sipush 263, 3) := by decide +kernel
theorem dX7_lose_43 : decode cX7_lose 43 = .ok (.iload_n 1, 1) := by decide +kernel
theorem dX7_lose_44 : decode cX7_lose 44 = .ok (.iadd, 1) := by decide +kernel
theorem dX7_lose_45 : decode cX7_lose 45 = .ok (.iaload, 1) := by decide +kernel
theorem dX7_lose_46 : decode cX7_lose 46 = .ok (.isub, 1) := by decide +kernel
theorem dX7_lose_47 : decode cX7_lose 47 = .ok (.iastore, 1) := by decide +kernel
theorem dX7_lose_48 : decode cX7_lose 48 = .ok (.aload_n 0, 1) := by decide +kernel
theorem dX7_lose_49 : decode cX7_lose 49 = .ok (.invokevirtual 119, 3) := by decide +kernel
theorem dX7_lose_52 : decode cX7_lose 52 = .ok (.ireturn, 1) := by decide +kernel
theorem dX7_spoil_0 : decode cX7_spoil 0 = .ok (.aload_n 0, 1) := by decide +kernel
theorem dX7_spoil_1 : decode cX7_spoil 1 = .ok (.aload_n 0, 1) := by decide +kernel
theorem dX7_spoil_2 : decode cX7_spoil 2 = .ok (.iload_n 1, 1) := by decide +kernel
theorem dX7_spoil_3 : decode cX7_spoil 3 = .ok (.invokevirtual 122, 3) := by decide +kernel
theorem dX7_spoil_6 : decode cX7_spoil 6 = .ok (.ifCond .ne 7, 3) := by decide +kernel
theorem dX7_spoil_9 : decode cX7_spoil 9 = .ok (.iconst 1, 1) := by decide +kernel
theorem dX7_spoil_10 : decode cX7_spoil 10 = .ok (.goto 17, 3) := by decide +kernel
theorem dX7_spoil_13 : decode cX7_spoil 13 = .ok (.iload_n 2, 1) := by decide +kernel
theorem dX7_spoil_14 : decode cX7_spoil 14 = .ok (.iconst 0, 1) := by decide +kernel
theorem dX7_spoil_15 : decode cX7_spoil 15 = .ok (.iconst 3, 1) := by decide +kernel
theorem dX7_spoil_16 : decode cX7_spoil 16 = .ok (.invokestatic 51, 3) := by decide +kernel
theorem dX7_spoil_19 : decode cX7_spoil 19 = .ok (.ifCond .ne 7, 3) := by decide +kernel
theorem dX7_spoil_22 : decode cX7_spoil 22 = .ok (.iconst 2, 1) := by decide +kernel
theorem dX7_spoil_23 : decode cX7_spoil 23 = .ok (.goto 4, 3) := by decide +kernel
theorem dX7_spoil_26 : decode cX7_spoil 26 = .ok (.iconst 0, 1) := by decide +kernel
theorem dX7_spoil_27 : decode cX7_spoil 27 = .ok (.invokevirtual 97, 3) := by decide +kernel
theorem dX7_spoil_30 : decode cX7_spoil 30 = .ok (.ifCond .ne 5, 3) := by decide +kernel
theorem dX7_spoil_33 : decode cX7_spoil 33 = .ok (.iconst 0, 1) := by decide +kernel
theorem dX7_spoil_34 : decode cX7_spoil 34 = .ok (.ireturn, 1) := by decide +kernel
theorem dX7_spoil_35 : decode cX7_spoil 35 = .ok (.aload_n 0, 1) := by decide +kernel
theorem dX7_spoil_36 : decode cX7_spoil 36 = .ok (.invokevirtual 100, 3) := by decide +kernel
theorem dX7_spoil_39 : decode cX7_spoil 39 = .ok (.aload_n 0, 1) := by decide +kernel
theorem dX7_spoil_40 : decode cX7_spoil 40 = .ok (.getfield 7, 3) := by decide +kernel
theorem dX7_spoil_43 : decode cX7_spoil 43 = .ok (.bipush 71, 2) := by decide +kernel
theorem dX7_spoil_45 : decode cX7_spoil 45 = .ok (.iload_n 1, 1) := by decide +kernel
theorem dX7_spoil_46 : decode cX7_spoil 46 = .ok (.iadd, 1) := by decide +kernel
theorem dX7_spoil_47 : decode cX7_spoil 47 = .ok (.dup2, 1) := by decide +kernel
theorem dX7_spoil_48 : decode cX7_spoil 48 = .ok (.iaload, 1) := by decide +kernel
theorem dX7_spoil_49 : decode cX7_spoil 49 = .ok (.iconst 1, 1) := by decide +kernel
theorem dX7_spoil_50 : decode cX7_spoil 50 = .ok (.iload_n 2, 1) := by decide +kernel
theorem dX7_spoil_51 : decode cX7_spoil 51 = .ok (.ishl, 1) := by decide +kernel
theorem dX7_spoil_52 : decode cX7_spoil 52 = .ok (.ixor, 1) := by decide +kernel
theorem dX7_spoil_53 : decode cX7_spoil 53 = .ok (.iastore, 1) := by decide +kernel
theorem dX7_spoil_54 : decode cX7_spoil 54 = .ok (.aload_n 0, 1) := by decide +kernel
theorem dX7_spoil_55 : decode cX7_spoil 55 = .ok (.getfield 7, 3) := by decide +kernel
theorem dX7_spoil_58 : decode cX7_spoil 58 = .ok (.bipush 6, 2) := by decide +kernel
theorem dX7_spoil_60 : decode cX7_spoil 60 = .ok (.dup2, 1) := by decide +kernel
theorem dX7_spoil_61 : decode cX7_spoil 61 = .ok (.iaload, 1) := by decide +kernel
theorem dX7_spoil_62 : decode cX7_spoil 62 = .ok (.iconst 1, 1) := by decide +kernel
theorem dX7_spoil_63 : decode cX7_spoil 63 = .ok (.iadd, 1) := by decide +kernel
theorem dX7_spoil_64 : decode cX7_spoil 64 = .ok (.iastore, 1) := by decide +kernel
theorem dX7_spoil_65 : decode cX7_spoil 65 = .ok (.aload_n 0, 1) := by decide +kernel
theorem dX7_spoil_66 : decode cX7_spoil 66 = .ok (.getfield 7, 3) := by decide +kernel
theorem dX7_spoil_69 : decode cX7_spoil 69 = .ok (.bipush 71, 2) := by decide +kernel
theorem dX7_spoil_71 : decode cX7_spoil 71 = .ok (.iload_n 1, 1) := by decide +kernel
theorem dX7_spoil_72 : decode cX7_spoil 72 = .ok (.iadd, 1) := by decide +kernel
theorem dX7_spoil_73 : decode cX7_spoil 73 = .ok (.iaload, 1) := by decide +kernel
theorem dX7_spoil_74 : decode cX7_spoil 74 = .ok (.ireturn, 1) := by decide +kernel
theorem dX7_append_0 : decode cX7_append 0 = .ok (.aload_n 0, 1) := by decide +kernel
theorem dX7_append_1 : decode cX7_append 1 = .ok (.iload_n 1, 1) := by decide +kernel
theorem dX7_append_2 : decode cX7_append 2 = .ok (.bipush 33, 2) := by decide +kernel
theorem dX7_append_4 : decode cX7_append 4 = .ok (.bipush 126, 2) := by decide +kernel
theorem dX7_append_6 : decode cX7_append 6 = .ok (.invokestatic 51, 3) := by decide +kernel
theorem dX7_append_9 : decode cX7_append 9 = .ok (.ifCond .ne 7, 3) := by decide +kernel
theorem dX7_append_12 : decode cX7_append 12 = .ok (.iconst 1, 1) := by decide +kernel
theorem dX7_append_13 : decode cX7_append 13 = .ok (.goto 17, 3) := by decide +kernel
theorem dX7_append_16 : decode cX7_append 16 = .ok (.aload_n 0, 1) := by decide +kernel
theorem dX7_append_17 : decode cX7_append 17 = .ok (.getfield 125, 3) := by decide +kernel
theorem dX7_append_20 : decode cX7_append 20 = .ok (.bipush 40, 2) := by decide +kernel
theorem dX7_append_22 : decode cX7_append 22 = .ok (.if_icmp .ne 7, 3) := by decide +kernel
theorem dX7_append_25 : decode cX7_append 25 = .ok (.iconst 2, 1) := by decide +kernel
theorem dX7_append_26 : decode cX7_append 26 = .ok (.goto 4, 3) := by decide +kernel
theorem dX7_append_29 : decode cX7_append 29 = .ok (.iconst 0, 1) := by decide +kernel
theorem dX7_append_30 : decode cX7_append 30 = .ok (.invokevirtual 97, 3) := by decide +kernel
theorem dX7_append_33 : decode cX7_append 33 = .ok (.ifCond .ne 5, 3) := by decide +kernel
theorem dX7_append_36 : decode cX7_append 36 = .ok (.iconst 0, 1) := by decide +kernel
theorem dX7_append_37 : decode cX7_append 37 = .ok (.ireturn, 1) := by decide +kernel
theorem dX7_append_38 : decode cX7_append 38 = .ok (.aload_n 0, 1) := by decide +kernel
theorem dX7_append_39 : decode cX7_append 39 = .ok (.getfield 23, 3) := by decide +kernel
theorem dX7_append_42 : decode cX7_append 42 = .ok (.aload_n 0, 1) := by decide +kernel
theorem dX7_append_43 : decode cX7_append 43 = .ok (.getfield 125, 3) := by decide +kernel
theorem dX7_append_46 : decode cX7_append 46 = .ok (.iload_n 1, 1) := by decide +kernel
theorem dX7_append_47 : decode cX7_append 47 = .ok (.iastore, 1) := by decide +kernel
theorem dX7_append_48 : decode cX7_append 48 = .ok (.aload_n 0, 1) := by decide +kernel
theorem dX7_append_49 : decode cX7_append 49 = .ok (.dup, 1) := by decide +kernel
theorem dX7_append_50 : decode cX7_append 50 = .ok (.getfield 125, 3) := by decide +kernel
theorem dX7_append_53 : decode cX7_append 53 = .ok (.iconst 1, 1) := by decide +kernel
theorem dX7_append_54 : decode cX7_append 54 = .ok (.iadd, 1) := by decide +kernel
theorem dX7_append_55 : decode cX7_append 55 = .ok (.putfield 125, 3) := by decide +kernel
theorem dX7_append_58 : decode cX7_append 58 = .ok (.aload_n 0, 1) := by decide +kernel
theorem dX7_append_59 : decode cX7_append 59 = .ok (.getfield 125, 3) := by decide +kernel
theorem dX7_append_62 : decode cX7_append 62 = .ok (.ireturn, 1) := by decide +kernel
theorem dX7_clearBuffer_0 : decode cX7_clearBuffer 0 = .ok (.aload_n 0, 1) := by decide +kernel
theorem dX7_clearBuffer_1 : decode cX7_clearBuffer 1 = .ok (.iconst 0, 1) := by decide +kernel
theorem dX7_clearBuffer_2 : decode cX7_clearBuffer 2 = .ok (.putfield 44, 3) := by decide +kernel
theorem dX7_clearBuffer_5 : decode cX7_clearBuffer 5 = .ok (.aload_n 0, 1) := by decide +kernel
theorem dX7_clearBuffer_6 : decode cX7_clearBuffer 6 = .ok (.getfield 125, 3) := by decide +kernel
theorem dX7_clearBuffer_9 : decode cX7_clearBuffer 9 = .ok (.istore_n 1, 1) := by decide +kernel
theorem dX7_clearBuffer_10 : decode cX7_clearBuffer 10 = .ok (.aload_n 0, 1) := by decide +kernel
theorem dX7_clearBuffer_11 : decode cX7_clearBuffer 11 = .ok (.iconst 0, 1) := by decide +kernel
theorem dX7_clearBuffer_12 : decode cX7_clearBuffer 12 = .ok (.putfield 125, 3) := by decide +kernel
theorem dX7_clearBuffer_15 : decode cX7_clearBuffer 15 = .ok (.iload_n 1, 1) := by decide +kernel
theorem dX7_clearBuffer_16 : decode cX7_clearBuffer 16 = .ok (.ireturn, 1) := by decide +kernel
theorem dX7_isNext_0 : decode cX7_isNext 0 = .ok (.aload_n 0, 1) := by decide +kernel
theorem dX7_isNext_1 : decode cX7_isNext 1 = .ok (.getfield 128, 3) := by decide +kernel
theorem dX7_isNext_4 : decode cX7_isNext 4 = .ok (.ifCond .ne 35, 3) := by decide +kernel
theorem dX7_isNext_7 : decode cX7_isNext 7 = .ok (.aload_n 0, 1) := by decide +kernel
theorem dX7_isNext_8 : decode cX7_isNext 8 = .ok (.getfield 132, 3) := by decide +kernel
theorem dX7_isNext_11 : decode cX7_isNext 11 = .ok (.aload_n 0, 1) := by decide +kernel
theorem dX7_isNext_12 : decode cX7_isNext 12 = .ok (.getfield 125, 3) := by decide +kernel
theorem dX7_isNext_15 : decode cX7_isNext 15 = .ok (.if_icmp .ge 24, 3) := by decide +kernel
theorem dX7_isNext_18 : decode cX7_isNext 18 = .ok (.aload_n 0, 1) := by decide +kernel
theorem dX7_isNext_19 : decode cX7_isNext 19 = .ok (.getfield 23, 3) := by decide +kernel
theorem dX7_isNext_22 : decode cX7_isNext 22 = .ok (.aload_n 0, 1) := by decide +kernel
theorem dX7_isNext_23 : decode cX7_isNext 23 = .ok (.getfield 132, 3) := by decide +kernel
theorem dX7_isNext_26 : decode cX7_isNext 26 = .ok (.iaload, 1) := by decide +kernel
theorem dX7_isNext_27 : decode cX7_isNext 27 = .ok (.iload_n 1, 1) := by decide +kernel
theorem dX7_isNext_28 : decode cX7_isNext 28 = .ok (.iload_n 2, 1) := by decide +kernel
theorem dX7_isNext_29 : decode cX7_isNext 29 = .ok (.invokestatic 51, 3) := by decide +kernel
theorem dX7_isNext_32 : decode cX7_isNext 32 = .ok (.ifCond .eq 7, 3) := by decide +kernel
theorem dX7_isNext_35 : decode cX7_isNext 35 = .ok (.iconst 1, 1) := by decide +kernel
theorem dX7_isNext_36 : decode cX7_isNext 36 = .ok (.goto 4, 3) := by decide +kernel
theorem dX7_isNext_39 : decode cX7_isNext 39 = .ok (.iconst 0, 1) := by decide +kernel
theorem dX7_isNext_40 : decode cX7_isNext 40 = .ok (.ireturn, 1) := by decide +kernel
theorem dX7_takes_0 : decode cX7_takes 0 = .ok (.aload_n 0, 1) := by decide +kernel
theorem dX7_takes_1 : decode cX7_takes 1 = .ok (.getfield 132, 3) := by decide +kernel
theorem dX7_takes_4 : decode cX7_takes 4 = .ok (.aload_n 0, 1) := by decide +kernel
theorem dX7_takes_5 : decode cX7_takes 5 = .ok (.getfield 125, 3) := by decide +kernel
theorem dX7_takes_8 : decode cX7_takes 8 = .ok (.if_icmp .ge 15, 3) := by decide +kernel
theorem dX7_takes_11 : decode cX7_takes 11 = .ok (.aload_n 0, 1) := by decide +kernel
theorem dX7_takes_12 : decode cX7_takes 12 = .ok (.getfield 23, 3) := by decide +kernel
theorem dX7_takes_15 : decode cX7_takes 15 = .ok (.aload_n 0, 1) := by decide +kernel
theorem dX7_takes_16 : decode cX7_takes 16 = .ok (.getfield 132, 3) := by decide +kernel
theorem dX7_takes_19 : decode cX7_takes 19 = .ok (.iaload, 1) := by decide +kernel
theorem dX7_takes_20 : decode cX7_takes 20 = .ok (.goto 4, 3) := by decide +kernel
theorem dX7_takes_23 : decode cX7_takes 23 = .ok (.iconst 0, 1) := by decide +kernel
theorem dX7_takes_24 : decode cX7_takes 24 = .ok (.istore_n 3, 1) := by decide +kernel
theorem dX7_takes_25 : decode cX7_takes 25 = .ok (.aload_n 0, 1) := by decide +kernel
theorem dX7_takes_26 : decode cX7_takes 26 = .ok (.aload_n 0, 1) := by decide +kernel
theorem dX7_takes_27 : decode cX7_takes 27 = .ok (.getfield 128, 3) := by decide +kernel
theorem dX7_takes_30 : decode cX7_takes 30 = .ok (.ifCond .ne 12, 3) := by decide +kernel
theorem dX7_takes_33 : decode cX7_takes 33 = .ok (.iload_n 3, 1) := by decide +kernel
theorem dX7_takes_34 : decode cX7_takes 34 = .ok (.iload_n 1, 1) := by decide +kernel
theorem dX7_takes_35 : decode cX7_takes 35 = .ok (.iload_n 2, 1) := by decide +kernel
theorem dX7_takes_36 : decode cX7_takes 36 = .ok (.invokestatic 51, 3) := by decide +kernel
theorem dX7_takes_39 : decode cX7_takes 39 = .ok (.ifCond .ne 7, 3) := by decide +kernel
theorem dX7_takes_42 : decode cX7_takes 42 = .ok (.iconst 1, 1) := by decide +kernel
theorem dX7_takes_43 : decode cX7_takes 43 = .ok (.goto 4, 3) := by decide +kernel
theorem dX7_takes_46 : decode cX7_takes 46 = .ok (.iconst 0, 1) := by decide +kernel
theorem dX7_takes_47 : decode cX7_takes 47 = .ok (.putfield 128, 3) := by decide +kernel
theorem dX7_takes_50 : decode cX7_takes 50 = .ok (.aload_n 0, 1) := by decide +kernel
theorem dX7_takes_51 : decode cX7_takes 51 = .ok (.dup, 1) := by decide +kernel
theorem dX7_takes_52 : decode cX7_takes 52 = .ok (.getfield 132, 3) := by decide +kernel
theorem dX7_takes_55 : decode cX7_takes 55 = .ok (.aload_n 0, 1) := by decide +kernel
theorem dX7_takes_56 : decode cX7_takes 56 = .ok (.getfield 128, 3) := by decide +kernel
theorem dX7_takes_59 : decode cX7_takes 59 = .ok (.ifCond .eq 7, 3) := by decide +kernel
theorem dX7_takes_62 : decode cX7_takes 62 = .ok (.iconst 0, 1) := by decide +kernel
theorem dX7_takes_63 : decode cX7_takes 63 = .ok (.goto 4, 3) := by decide +kernel
theorem dX7_takes_66 : decode cX7_takes 66 = .ok (.iconst 1, 1) := by decide +kernel
theorem dX7_takes_67 : decode cX7_takes 67 = .ok (.iadd, 1) := by decide +kernel
theorem dX7_takes_68 : decode cX7_takes 68 = .ok (.putfield 132, 3) := by decide +kernel
theorem dX7_takes_71 : decode cX7_takes 71 = .ok (.iload_n 3, 1) := by decide +kernel
theorem dX7_takes_72 : decode cX7_takes 72 = .ok (.iload_n 1, 1) := by decide +kernel
theorem dX7_takes_73 : decode cX7_takes 73 = .ok (.isub, 1) := by decide +kernel
theorem dX7_takes_74 : decode cX7_takes 74 = .ok (.ireturn, 1) := by decide +kernel
theorem dX7_takesNumber_0 : decode cX7_takesNumber 0 = .ok (.iload_n 1, 1) := by decide +kernel
theorem dX7_takesNumber_1 : decode cX7_takesNumber 1 = .ok (.aload_n 0, 1) := by decide +kernel
theorem dX7_takesNumber_2 : decode cX7_takesNumber 2 = .ok (.bipush 48, 2) := by decide +kernel
theorem dX7_takesNumber_4 : decode cX7_takesNumber 4 = .ok (.iload_n 1, 1) := by decide +kernel
theorem dX7_takesNumber_5 : decode cX7_takesNumber 5 = .ok (.iadd, 1) := by decide +kernel
theorem dX7_takesNumber_6 : decode cX7_takesNumber 6 = .ok (.bipush 57, 2) := by decide +kernel
theorem dX7_takesNumber_8 : decode cX7_takesNumber 8 = .ok (.invokevirtual 135, 3) := by decide +kernel
theorem dX7_takesNumber_11 : decode cX7_takesNumber 11 = .ok (.iadd, 1) := by decide +kernel
theorem dX7_takesNumber_12 : decode cX7_takesNumber 12 = .ok (.istore_n 3, 1) := by decide +kernel
theorem dX7_takesNumber_13 : decode cX7_takesNumber 13 = .ok (.iload_n 3, 1) := by decide +kernel
theorem dX7_takesNumber_14 : decode cX7_takesNumber 14 = .ok (.ifCond .le 7, 3) := by decide +kernel
theorem dX7_takesNumber_17 : decode cX7_takesNumber 17 = .ok (.iconst 1, 1) := by decide +kernel
theorem dX7_takesNumber_18 : decode cX7_takesNumber 18 = .ok (.goto 4, 3) := by decide +kernel
theorem dX7_takesNumber_21 : decode cX7_takesNumber 21 = .ok (.iconst 0, 1) := by decide +kernel
theorem dX7_takesNumber_22 : decode cX7_takesNumber 22 = .ok (.istore 4, 2) := by decide +kernel
theorem dX7_takesNumber_24 : decode cX7_takesNumber 24 = .ok (.iload 4, 2) := by decide +kernel
theorem dX7_takesNumber_26 : decode cX7_takesNumber 26 = .ok (.ifCond .eq 68, 3) := by decide +kernel
theorem dX7_takesNumber_29 : decode cX7_takesNumber 29 = .ok (.aload_n 0, 1) := by decide +kernel
theorem dX7_takesNumber_30 : decode cX7_takesNumber 30 = .ok (.bipush 48, 2) := by decide +kernel
theorem dX7_takesNumber_32 : decode cX7_takesNumber 32 = .ok (.bipush 57, 2) := by decide +kernel
theorem dX7_takesNumber_34 : decode cX7_takesNumber 34 = .ok (.invokevirtual 138, 3) := by decide +kernel
theorem dX7_takesNumber_37 : decode cX7_takesNumber 37 = .ok (.ifCond .eq 28, 3) := by decide +kernel
theorem dX7_takesNumber_40 : decode cX7_takesNumber 40 = .ok (.bipush 10, 2) := by decide +kernel
theorem dX7_takesNumber_42 : decode cX7_takesNumber 42 = .ok (.iload_n 3, 1) := by decide +kernel
theorem dX7_takesNumber_43 : decode cX7_takesNumber 43 = .ok (.imul, 1) := by decide +kernel
theorem dX7_takesNumber_44 : decode cX7_takesNumber 44 = .ok (.aload_n 0, 1) := by decide +kernel
theorem dX7_takesNumber_45 : decode cX7_takesNumber 45 = .ok (.getfield 23, 3) := by decide +kernel
theorem dX7_takesNumber_48 : decode cX7_takesNumber 48 = .ok (.aload_n 0, 1) := by decide +kernel
theorem dX7_takesNumber_49 : decode cX7_takesNumber 49 = .ok (.getfield 132, 3) := by decide +kernel
theorem dX7_takesNumber_52 : decode cX7_takesNumber 52 = .ok (.iaload, 1) := by decide +kernel
theorem dX7_takesNumber_53 : decode cX7_takesNumber 53 = .ok (.iadd, 1) := by decide +kernel
theorem dX7_takesNumber_54 : decode cX7_takesNumber 54 = .ok (.bipush 48, 2) := by decide +kernel
theorem dX7_takesNumber_56 : decode cX7_takesNumber 56 = .ok (.isub, 1) := by decide +kernel
theorem dX7_takesNumber_57 : decode cX7_takesNumber 57 = .ok (.iload_n 2, 1) := by decide +kernel
theorem dX7_takesNumber_58 : decode cX7_takesNumber 58 = .ok (.if_icmp .gt 7, 3) := by decide +kernel
theorem dX7_takesNumber_61 : decode cX7_takesNumber 61 = .ok (.iconst 1, 1) := by decide +kernel
theorem dX7_takesNumber_62 : decode cX7_takesNumber 62 = .ok (.goto 4, 3) := by decide +kernel
theorem dX7_takesNumber_65 : decode cX7_takesNumber 65 = .ok (.iconst 0, 1) := by decide +kernel
theorem dX7_takesNumber_66 : decode cX7_takesNumber 66 = .ok (.istore 4, 2) := by decide +kernel
theorem dX7_takesNumber_68 : decode cX7_takesNumber 68 = .ok (.iload 4, 2) := by decide +kernel
theorem dX7_takesNumber_70 : decode cX7_takesNumber 70 = .ok (.ifCond .eq 19, 3) := by decide +kernel
theorem dX7_takesNumber_73 : decode cX7_takesNumber 73 = .ok (.bipush 10, 2) := by decide +kernel
theorem dX7_takesNumber_75 : decode cX7_takesNumber 75 = .ok (.iload_n 3, 1) := by decide +kernel
theorem dX7_takesNumber_76 : decode cX7_takesNumber 76 = .ok (.imul, 1) := by decide +kernel
theorem dX7_takesNumber_77 : decode cX7_takesNumber 77 = .ok (.aload_n 0, 1) := by decide +kernel
theorem dX7_takesNumber_78 : decode cX7_takesNumber 78 = .ok (.bipush 48, 2) := by decide +kernel
theorem dX7_takesNumber_80 : decode cX7_takesNumber 80 = .ok (.bipush 57, 2) := by decide +kernel
theorem dX7_takesNumber_82 : decode cX7_takesNumber 82 = .ok (.invokevirtual 135, 3) := by decide +kernel
theorem dX7_takesNumber_85 : decode cX7_takesNumber 85 = .ok (.iadd, 1) := by decide +kernel
theorem dX7_takesNumber_86 : decode cX7_takesNumber 86 = .ok (.goto 4, 3) := by decide +kernel
theorem dX7_takesNumber_89 : decode cX7_takesNumber 89 = .ok (.iload_n 3, 1) := by decide +kernel
theorem dX7_takesNumber_90 : decode cX7_takesNumber 90 = .ok (.istore_n 3, 1) := by decide +kernel
theorem dX7_takesNumber_91 : decode cX7_takesNumber 91 = .ok (.goto (-67), 3) := by decide +kernel
theorem dX7_takesNumber_94 : decode cX7_takesNumber 94 = .ok (.iload_n 3, 1) := by decide +kernel
theorem dX7_takesNumber_95 : decode cX7_takesNumber 95 = .ok (.ireturn, 1) := by decide +kernel
theorem dX7_readAll_0 : decode cX7_readAll 0 = .ok (.aload_n 0, 1) := by decide +kernel
theorem dX7_readAll_1 : decode cX7_readAll 1 = .ok (.iconst 0, 1) := by decide +kernel
theorem dX7_readAll_2 : decode cX7_readAll 2 = .ok (.putfield 132, 3) := by decide +kernel
theorem dX7_readAll_5 : decode cX7_readAll 5 = .ok (.aload_n 0, 1) := by decide +kernel
theorem dX7_readAll_6 : decode cX7_readAll 6 = .ok (.iconst 0, 1) := by decide +kernel
theorem dX7_readAll_7 : decode cX7_readAll 7 = .ok (.putfield 128, 3) := by decide +kernel
theorem dX7_readAll_10 : decode cX7_readAll 10 = .ok (.aload_n 0, 1) := by decide +kernel
theorem dX7_readAll_11 : decode cX7_readAll 11 = .ok (.iconst 0, 1) := by decide +kernel
theorem dX7_readAll_12 : decode cX7_readAll 12 = .ok (.putfield 142, 3) := by decide +kernel
theorem dX7_readAll_15 : decode cX7_readAll 15 = .ok (.aload_n 0, 1) := by decide +kernel
theorem dX7_readAll_16 : decode cX7_readAll 16 = .ok (.bipush 45, 2) := by decide +kernel
theorem dX7_readAll_18 : decode cX7_readAll 18 = .ok (.bipush 45, 2) := by decide +kernel
theorem dX7_readAll_20 : decode cX7_readAll 20 = .ok (.invokevirtual 138, 3) := by decide +kernel
theorem dX7_readAll_23 : decode cX7_readAll 23 = .ok (.istore_n 1, 1) := by decide +kernel
theorem dX7_readAll_24 : decode cX7_readAll 24 = .ok (.aload_n 0, 1) := by decide +kernel
theorem dX7_readAll_25 : decode cX7_readAll 25 = .ok (.dup, 1) := by decide +kernel
theorem dX7_readAll_26 : decode cX7_readAll 26 = .ok (.getfield 132, 3) := by decide +kernel
theorem dX7_readAll_29 : decode cX7_readAll 29 = .ok (.iload_n 1, 1) := by decide +kernel
theorem dX7_readAll_30 : decode cX7_readAll 30 = .ok (.ifCond .eq 7, 3) := by decide +kernel
theorem dX7_readAll_33 : decode cX7_readAll 33 = .ok (.iconst 1, 1) := by decide +kernel
theorem dX7_readAll_34 : decode cX7_readAll 34 = .ok (.goto 4, 3) := by decide +kernel
theorem dX7_readAll_37 : decode cX7_readAll 37 = .ok (.iconst 0, 1) := by decide +kernel
theorem dX7_readAll_38 : decode cX7_readAll 38 = .ok (.iadd, 1) := by decide +kernel
theorem dX7_readAll_39 : decode cX7_readAll 39 = .ok (.putfield 132, 3) := by decide +kernel
theorem dX7_readAll_42 : decode cX7_readAll 42 = .ok (.aload_n 0, 1) := by decide +kernel
theorem dX7_readAll_43 : decode cX7_readAll 43 = .ok (.iload_n 1, 1) := by decide +kernel
theorem dX7_readAll_44 : decode cX7_readAll 44 = .ok (.ifCond .eq 15, 3) := by decide +kernel
theorem dX7_readAll_47 : decode cX7_readAll 47 = .ok (.aload_n 0, 1) := by decide +kernel
theorem dX7_readAll_48 : decode cX7_readAll 48 = .ok (.iconst 1, 1) := by decide +kernel
theorem dX7_readAll_49 : decode cX7_readAll 49 = .ok (.sipush 2048, 3) := by decide +kernel
theorem dX7_readAll_52 : decode cX7_readAll 52 = .ok (.invokevirtual 145, 3) := by decide +kernel
theorem dX7_readAll_55 : decode cX7_readAll 55 = .ok (.ineg, 1) := by decide +kernel
theorem dX7_readAll_56 : decode cX7_readAll 56 = .ok (.goto 11, 3) := by decide +kernel
theorem dX7_readAll_59 : decode cX7_readAll 59 = .ok (.aload_n 0, 1) := by decide +kernel
theorem dX7_readAll_60 : decode cX7_readAll 60 = .ok (.iconst 0, 1) := by decide +kernel
theorem dX7_readAll_61 : decode cX7_readAll 61 = .ok (.sipush 2047, 3) := by decide +kernel
theorem dX7_readAll_64 : decode cX7_readAll 64 = .ok (.invokevirtual 145, 3) := by decide +kernel
theorem dX7_readAll_67 : decode cX7_readAll 67 = .ok (.putfield 148, 3) := by decide +kernel
theorem dX7_readAll_70 : decode cX7_readAll 70 = .ok (.aload_n 0, 1) := by decide +kernel
theorem dX7_readAll_71 : decode cX7_readAll 71 = .ok (.bipush 44, 2) := by decide +kernel
theorem dX7_readAll_73 : decode cX7_readAll 73 = .ok (.bipush 44, 2) := by decide +kernel
theorem dX7_readAll_75 : decode cX7_readAll 75 = .ok (.invokevirtual 135, 3) := by decide +kernel
theorem dX7_readAll_78 : decode cX7_readAll 78 = .ok (.istore_n 2, 1) := by decide +kernel
theorem dX7_readAll_79 : decode cX7_readAll 79 = .ok (.aload_n 0, 1) := by decide +kernel
theorem dX7_readAll_80 : decode cX7_readAll 80 = .ok (.aload_n 0, 1) := by decide +kernel
theorem dX7_readAll_81 : decode cX7_readAll 81 = .ok (.iconst 0, 1) := by decide +kernel
theorem dX7_readAll_82 : decode cX7_readAll 82 = .ok (.bipush 48, 2) := by decide +kernel
theorem dX7_readAll_84 : decode cX7_readAll 84 = .ok (.invokevirtual 145, 3) := by decide +kernel
theorem dX7_readAll_87 : decode cX7_readAll 87 = .ok (.putfield 151, 3) := by decide +kernel
theorem dX7_readAll_90 : decode cX7_readAll 90 = .ok (.aload_n 0, 1) := by decide +kernel
theorem dX7_readAll_91 : decode cX7_readAll 91 = .ok (.bipush 58, 2) := by decide +kernel
theorem dX7_readAll_93 : decode cX7_readAll 93 = .ok (.bipush 58, 2) := by decide +kernel
theorem dX7_readAll_95 : decode cX7_readAll 95 = .ok (.invokevirtual 135, 3) := by decide +kernel
theorem dX7_readAll_98 : decode cX7_readAll 98 = .ok (.istore_n 3, 1) := by decide +kernel
theorem dX7_readAll_99 : decode cX7_readAll 99 = .ok (.aload_n 0, 1) := by decide +kernel
theorem dX7_readAll_100 : decode cX7_readAll 100 = .ok (.getfield 128, 3) := by decide +kernel
theorem dX7_readAll_103 : decode cX7_readAll 103 = .ok (.ifCond .ne 102, 3) := by decide +kernel
theorem dX7_readAll_106 : decode cX7_readAll 106 = .ok (.aload_n 0, 1) := by decide +kernel
theorem dX7_readAll_107 : decode cX7_readAll 107 = .ok (.getfield 132, 3) := by decide +kernel
theorem dX7_readAll_110 : decode cX7_readAll 110 = .ok (.aload_n 0, 1) := by decide +kernel
theorem dX7_readAll_111 : decode cX7_readAll 111 = .ok (.getfield 125, 3) := by decide +kernel
theorem dX7_readAll_114 : decode cX7_readAll 114 = .ok (.if_icmp .ge 91, 3) := by decide +kernel
theorem dX7_readAll_117 : decode cX7_readAll 117 = .ok (.aload_n 0, 1) := by decide +kernel
theorem dX7_readAll_118 : decode cX7_readAll 118 = .ok (.bipush 48, 2) := by decide +kernel
theorem dX7_readAll_120 : decode cX7_readAll 120 = .ok (.bipush 57, 2) := by decide +kernel
theorem dX7_readAll_122 : decode cX7_readAll 122 = .ok (.invokevirtual 138, 3) := by decide +kernel
theorem dX7_readAll_125 : decode cX7_readAll 125 = .ok (.istore 4, 2) := by decide +kernel
theorem dX7_readAll_127 : decode cX7_readAll 127 = .ok (.aload_n 0, 1) := by decide +kernel
theorem dX7_readAll_128 : decode cX7_readAll 128 = .ok (.aload_n 0, 1) := by decide +kernel
theorem dX7_readAll_129 : decode cX7_readAll 129 = .ok (.getfield 142, 3) := by decide +kernel
theorem dX7_readAll_132 : decode cX7_readAll 132 = .ok (.bipush 15, 2) := by decide +kernel
theorem dX7_readAll_134 : decode cX7_readAll 134 = .ok (.if_icmp .ne 7, 3) := by decide +kernel
theorem dX7_readAll_137 : decode cX7_readAll 137 = .ok (.iconst 1, 1) := by decide +kernel
theorem dX7_readAll_138 : decode cX7_readAll 138 = .ok (.goto 4, 3) := by decide +kernel
theorem dX7_readAll_141 : decode cX7_readAll 141 = .ok (.iconst 0, 1) := by decide +kernel
theorem dX7_readAll_142 : decode cX7_readAll 142 = .ok (.putfield 128, 3) := by decide +kernel
theorem dX7_readAll_145 : decode cX7_readAll 145 = .ok (.iload 4, 2) := by decide +kernel
theorem dX7_readAll_147 : decode cX7_readAll 147 = .ok (.ifCond .eq 14, 3) := by decide +kernel
theorem dX7_readAll_150 : decode cX7_readAll 150 = .ok (.aload_n 0, 1) := by decide +kernel
theorem dX7_readAll_151 : decode cX7_readAll 151 = .ok (.bipush 48, 2) := by decide +kernel
theorem dX7_readAll_153 : decode cX7_readAll 153 = .ok (.bipush 57, 2) := by decide +kernel
theorem dX7_readAll_155 : decode cX7_readAll 155 = .ok (.invokevirtual 135, 3) := by decide +kernel
theorem dX7_readAll_158 : decode cX7_readAll 158 = .ok (.goto 14, 3) := by decide +kernel
theorem dX7_readAll_161 : decode cX7_readAll 161 = .ok (.bipush 10, 2) := by decide +kernel
theorem dX7_readAll_163 : decode cX7_readAll 163 = .ok (.aload_n 0, 1) := by decide +kernel
theorem dX7_readAll_164 : decode cX7_readAll 164 = .ok (.bipush 97, 2) := by decide +kernel
theorem dX7_readAll_166 : decode cX7_readAll 166 = .ok (.bipush 102, 2) := by decide +kernel
theorem dX7_readAll_168 : decode cX7_readAll 168 = .ok (.invokevirtual 135, 3) := by decide +kernel
theorem dX7_readAll_171 : decode cX7_readAll 171 = .ok (.iadd, 1) := by decide +kernel
theorem dX7_readAll_172 : decode cX7_readAll 172 = .ok (.istore 5, 2) := by decide +kernel
theorem dX7_readAll_174 : decode cX7_readAll 174 = .ok (.aload_n 0, 1) := by decide +kernel
theorem dX7_readAll_175 : decode cX7_readAll 175 = .ok (.getfield 128, 3) := by decide +kernel
theorem dX7_readAll_178 : decode cX7_readAll 178 = .ok (.ifCond .ne 24, 3) := by decide +kernel
theorem dX7_readAll_181 : decode cX7_readAll 181 = .ok (.aload_n 0, 1) := by decide +kernel
theorem dX7_readAll_182 : decode cX7_readAll 182 = .ok (.getfield 41, 3) := by decide +kernel
theorem dX7_readAll_185 : decode cX7_readAll 185 = .ok (.aload_n 0, 1) := by decide +kernel
theorem dX7_readAll_186 : decode cX7_readAll 186 = .ok (.getfield 142, 3) := by decide +kernel
theorem dX7_readAll_189 : decode cX7_readAll 189 = .ok (.iload 5, 2) := by decide +kernel
theorem dX7_readAll_191 : decode cX7_readAll 191 = .ok (.iastore, 1) := by decide +kernel
theorem dX7_readAll_192 : decode cX7_readAll 192 = .ok (.aload_n 0, 1) := by decide +kernel
theorem dX7_readAll_193 : decode cX7_readAll 193 = .ok (.dup, 1) := by decide +kernel
theorem dX7_readAll_194 : decode cX7_readAll 194 = .ok (.getfield 142, 3) := by decide +kernel
theorem dX7_readAll_197 : decode cX7_readAll 197 = .ok (.iconst 1, 1) := by decide +kernel
theorem dX7_readAll_198 : decode cX7_readAll 198 = .ok (.iadd, 1) := by decide +kernel
theorem dX7_readAll_199 : decode cX7_readAll 199 = .ok (.putfield 142, 3) := by decide +kernel
theorem dX7_readAll_202 : decode cX7_readAll 202 = .ok (.goto (-103), 3) := by decide +kernel
theorem dX7_readAll_205 : decode cX7_readAll 205 = .ok (.return_, 1) := by decide +kernel
theorem dX7_firstError_0 : decode cX7_firstError 0 = .ok (.aload_n 0, 1) := by decide +kernel
theorem dX7_firstError_1 : decode cX7_firstError 1 = .ok (.iconst 0, 1) := by decide +kernel
theorem dX7_firstError_2 : decode cX7_firstError 2 = .ok (.putfield 44, 3) := by decide +kernel
theorem dX7_firstError_5 : decode cX7_firstError 5 = .ok (.aload_n 0, 1) := by decide +kernel
theorem dX7_firstError_6 : decode cX7_firstError 6 = .ok (.invokevirtual 154, 3) := by decide +kernel
theorem dX7_firstError_9 : decode cX7_firstError 9 = .ok (.aload_n 0, 1) := by decide +kernel
theorem dX7_firstError_10 : decode cX7_firstError 10 = .ok (.getfield 128, 3) := by decide +kernel
theorem dX7_firstError_13 : decode cX7_firstError 13 = .ok (.ifCond .eq 10, 3) := by decide +kernel
theorem dX7_firstError_16 : decode cX7_firstError 16 = .ok (.aload_n 0, 1) := by decide +kernel
theorem dX7_firstError_17 : decode cX7_firstError 17 = .ok (.getfield 132, 3) := by decide +kernel
theorem dX7_firstError_20 : decode cX7_firstError 20 = .ok (.goto 7, 3) := by decide +kernel
theorem dX7_firstError_23 : decode cX7_firstError 23 = .ok (.aload_n 0, 1) := by decide +kernel
theorem dX7_firstError_24 : decode cX7_firstError 24 = .ok (.getfield 125, 3) := by decide +kernel
theorem dX7_firstError_27 : decode cX7_firstError 27 = .ok (.ireturn, 1) := by decide +kernel
theorem dX7_load_0 : decode cX7_load 0 = .ok (.aload_n 0, 1) := by decide +kernel
theorem dX7_load_1 : decode cX7_load 1 = .ok (.invokevirtual 154, 3) := by decide +kernel
theorem dX7_load_4 : decode cX7_load 4 = .ok (.aload_n 0, 1) := by decide +kernel
theorem dX7_load_5 : decode cX7_load 5 = .ok (.aload_n 0, 1) := by decide +kernel
theorem dX7_load_6 : decode cX7_load 6 = .ok (.iload_n 1, 1) := by decide +kernel
theorem dX7_load_7 : decode cX7_load 7 = .ok (.invokevirtual 116, 3) := by decide +kernel
theorem dX7_load_10 : decode cX7_load 10 = .ok (.ifCond .ne 7, 3) := by decide +kernel
theorem dX7_load_13 : decode cX7_load 13 = .ok (.iconst 1, 1) := by decide +kernel
theorem dX7_load_14 : decode cX7_load 14 = .ok (.goto 38, 3) := by decide +kernel
theorem dX7_load_17 : decode cX7_load 17 = .ok (.aload_n 0, 1) := by decide +kernel
theorem dX7_load_18 : decode cX7_load 18 = .ok (.getfield 128, 3) := by decide +kernel
theorem dX7_load_21 : decode cX7_load 21 = .ok (.ifCond .ne 26, 3) := by decide +kernel
theorem dX7_load_24 : decode cX7_load 24 = .ok (.aload_n 0, 1) := by decide +kernel
theorem dX7_load_25 : decode cX7_load 25 = .ok (.getfield 142, 3) := by decide +kernel
theorem dX7_load_28 : decode cX7_load 28 = .ok (.aload_n 0, 1) := by decide +kernel
theorem dX7_load_29 : decode cX7_load 29 = .ok (.iload_n 1, 1) := by decide +kernel
theorem dX7_load_30 : decode cX7_load 30 = .ok (.invokevirtual 88, 3) := by decide +kernel
theorem dX7_load_33 : decode cX7_load 33 = .ok (.iload_n 1, 1) := by decide +kernel
theorem dX7_load_34 : decode cX7_load 34 = .ok (.aload_n 0, 1) := by decide +kernel
theorem dX7_load_35 : decode cX7_load 35 = .ok (.getfield 7, 3) := by decide +kernel
theorem dX7_load_38 : decode cX7_load 38 = .ok (.iconst 2, 1) := by decide +kernel
theorem dX7_load_39 : decode cX7_load 39 = .ok (.iaload, 1) := by decide +kernel
theorem dX7_load_40 : decode cX7_load 40 = .ok (.imul, 1) := by decide +kernel
theorem dX7_load_41 : decode cX7_load 41 = .ok (.isub, 1) := by decide +kernel
theorem dX7_load_42 : decode cX7_load 42 = .ok (.iconst 1, 1) := by decide +kernel
theorem dX7_load_43 : decode cX7_load 43 = .ok (.isub, 1) := by decide +kernel
theorem dX7_load_44 : decode cX7_load 44 = .ok (.if_icmp .eq 7, 3) := by decide +kernel
theorem dX7_load_47 : decode cX7_load 47 = .ok (.iconst 2, 1) := by decide +kernel
theorem dX7_load_48 : decode cX7_load 48 = .ok (.goto 4, 3) := by decide +kernel
theorem dX7_load_51 : decode cX7_load 51 = .ok (.iconst 0, 1) := by decide +kernel
theorem dX7_load_52 : decode cX7_load 52 = .ok (.invokevirtual 97, 3) := by decide +kernel
theorem dX7_load_55 : decode cX7_load 55 = .ok (.ifCond .ne 5, 3) := by decide +kernel
theorem dX7_load_58 : decode cX7_load 58 = .ok (.iconst 0, 1) := by decide +kernel
theorem dX7_load_59 : decode cX7_load 59 = .ok (.ireturn, 1) := by decide +kernel
theorem dX7_load_60 : decode cX7_load 60 = .ok (.aload_n 0, 1) := by decide +kernel
theorem dX7_load_61 : decode cX7_load 61 = .ok (.invokevirtual 100, 3) := by decide +kernel
theorem dX7_load_64 : decode cX7_load 64 = .ok (.aload_n 0, 1) := by decide +kernel
theorem dX7_load_65 : decode cX7_load 65 = .ok (.invokevirtual 157, 3) := by decide +kernel
theorem dX7_load_68 : decode cX7_load 68 = .ok (.aload_n 0, 1) := by decide +kernel
theorem dX7_load_69 : decode cX7_load 69 = .ok (.getfield 7, 3) := by decide +kernel
theorem dX7_load_72 : decode cX7_load 72 = .ok (.sipush 199, 3) := by decide +kernel
theorem dX7_load_75 : decode cX7_load 75 = .ok (.iload_n 1, 1) := by decide +kernel
theorem dX7_load_76 : decode cX7_load 76 = .ok (.iadd, 1) := by decide +kernel
theorem dX7_load_77 : decode cX7_load 77 = .ok (.aload_n 0, 1) := by decide +kernel
theorem dX7_load_78 : decode cX7_load 78 = .ok (.getfield 148, 3) := by decide +kernel
theorem dX7_load_81 : decode cX7_load 81 = .ok (.iastore, 1) := by decide +kernel
theorem dX7_load_82 : decode cX7_load 82 = .ok (.aload_n 0, 1) := by decide +kernel
theorem dX7_load_83 : decode cX7_load 83 = .ok (.getfield 7, 3) := by decide +kernel
theorem dX7_load_86 : decode cX7_load 86 = .ok (.sipush 231, 3) := by decide +kernel
theorem dX7_load_89 : decode cX7_load 89 = .ok (.iload_n 1, 1) := by decide +kernel
theorem dX7_load_90 : decode cX7_load 90 = .ok (.iadd, 1) := by decide +kernel
theorem dX7_load_91 : decode cX7_load 91 = .ok (.aload_n 0, 1) := by decide +kernel
theorem dX7_load_92 : decode cX7_load 92 = .ok (.getfield 151, 3) := by decide +kernel
theorem dX7_load_95 : decode cX7_load 95 = .ok (.iastore, 1) := by decide +kernel
theorem dX7_load_96 : decode cX7_load 96 = .ok (.aload_n 0, 1) := by decide +kernel
theorem dX7_load_97 : decode cX7_load 97 = .ok (.getfield 7, 3) := by decide +kernel
theorem dX7_load_100 : decode cX7_load 100 = .ok (.sipush 263, 3) := by decide +kernel
theorem dX7_load_103 : decode cX7_load 103 = .ok (.iload_n 1, 1) := by decide +kernel
theorem dX7_load_104 : decode cX7_load 104 = .ok (.iadd, 1) := by decide +kernel
theorem dX7_load_105 : decode cX7_load 105 = .ok (.iconst 0, 1) := by decide +kernel
theorem dX7_load_106 : decode cX7_load 106 = .ok (.iastore, 1) := by decide +kernel
theorem dX7_load_107 : decode cX7_load 107 = .ok (.iconst 0, 1) := by decide +kernel
theorem dX7_load_108 : decode cX7_load 108 = .ok (.istore_n 2, 1) := by decide +kernel
theorem dX7_load_109 : decode cX7_load 109 = .ok (.iload_n 2, 1) := by decide +kernel
theorem dX7_load_110 : decode cX7_load 110 = .ok (.aload_n 0, 1) := by decide +kernel
theorem dX7_load_111 : decode cX7_load 111 = .ok (.getfield 142, 3) := by decide +kernel
theorem dX7_load_114 : decode cX7_load 114 = .ok (.if_icmp .ge 35, 3) := by decide +kernel
theorem dX7_load_117 : decode cX7_load 117 = .ok (.aload_n 0, 1) := by decide +kernel
theorem dX7_load_118 : decode cX7_load 118 = .ok (.getfield 7, 3) := by decide +kernel
theorem dX7_load_121 : decode cX7_load 121 = .ok (.bipush 71, 2) := by decide +kernel
theorem dX7_load_123 : decode cX7_load 123 = .ok (.iload_n 1, 1) := by decide +kernel
theorem dX7_load_124 : decode cX7_load 124 = .ok (.aload_n 0, 1) := by decide +kernel
theorem dX7_load_125 : decode cX7_load 125 = .ok (.getfield 7, 3) := by decide +kernel
theorem dX7_load_128 : decode cX7_load 128 = .ok (.iconst 2, 1) := by decide +kernel
theorem dX7_load_129 : decode cX7_load 129 = .ok (.iaload, 1) := by decide +kernel
theorem dX7_load_130 : decode cX7_load 130 = .ok (.imul, 1) := by decide +kernel
theorem dX7_load_131 : decode cX7_load 131 = .ok (.iadd, 1) := by decide +kernel
theorem dX7_load_132 : decode cX7_load 132 = .ok (.iconst 1, 1) := by decide +kernel
theorem dX7_load_133 : decode cX7_load 133 = .ok (.iadd, 1) := by decide +kernel
theorem dX7_load_134 : decode cX7_load 134 = .ok (.iload_n 2, 1) := by decide +kernel
theorem dX7_load_135 : decode cX7_load 135 = .ok (.iadd, 1) := by decide +kernel
theorem dX7_load_136 : decode cX7_load 136 = .ok (.aload_n 0, 1) := by decide +kernel
theorem dX7_load_137 : decode cX7_load 137 = .ok (.getfield 41, 3) := by decide +kernel
theorem dX7_load_140 : decode cX7_load 140 = .ok (.iload_n 2, 1) := by decide +kernel
theorem dX7_load_141 : decode cX7_load 141 = .ok (.iaload, 1) := by decide +kernel
theorem dX7_load_142 : decode cX7_load 142 = .ok (.iastore, 1) := by decide +kernel
theorem dX7_load_143 : decode cX7_load 143 = .ok (.iinc 2 1, 3) := by decide +kernel
theorem dX7_load_146 : decode cX7_load 146 = .ok (.goto (-37), 3) := by decide +kernel
theorem dX7_load_149 : decode cX7_load 149 = .ok (.aload_n 0, 1) := by decide +kernel
theorem dX7_load_150 : decode cX7_load 150 = .ok (.iconst 0, 1) := by decide +kernel
theorem dX7_load_151 : decode cX7_load 151 = .ok (.putfield 125, 3) := by decide +kernel
theorem dX7_load_154 : decode cX7_load 154 = .ok (.aload_n 0, 1) := by decide +kernel
theorem dX7_load_155 : decode cX7_load 155 = .ok (.invokevirtual 160, 3) := by decide +kernel
theorem dX7_load_158 : decode cX7_load 158 = .ok (.ireturn, 1) := by decide +kernel
theorem dX7_writes_0 : decode cX7_writes 0 = .ok (.aload_n 0, 1) := by decide +kernel
theorem dX7_writes_1 : decode cX7_writes 1 = .ok (.getfield 23, 3) := by decide +kernel
theorem dX7_writes_4 : decode cX7_writes 4 = .ok (.aload_n 0, 1) := by decide +kernel
theorem dX7_writes_5 : decode cX7_writes 5 = .ok (.getfield 125, 3) := by decide +kernel
theorem dX7_writes_8 : decode cX7_writes 8 = .ok (.iload_n 1, 1) := by decide +kernel
theorem dX7_writes_9 : decode cX7_writes 9 = .ok (.iastore, 1) := by decide +kernel
theorem dX7_writes_10 : decode cX7_writes 10 = .ok (.aload_n 0, 1) := by decide +kernel
theorem dX7_writes_11 : decode cX7_writes 11 = .ok (.dup, 1) := by decide +kernel
theorem dX7_writes_12 : decode cX7_writes 12 = .ok (.getfield 125, 3) := by decide +kernel
theorem dX7_writes_15 : decode cX7_writes 15 = .ok (.iconst 1, 1) := by decide +kernel
theorem dX7_writes_16 : decode cX7_writes 16 = .ok (.iadd, 1) := by decide +kernel
theorem dX7_writes_17 : decode cX7_writes 17 = .ok (.putfield 125, 3) := by decide +kernel
theorem dX7_writes_20 : decode cX7_writes 20 = .ok (.return_, 1) := by decide +kernel
theorem dX7_writesNumber_0 : decode cX7_writesNumber 0 = .ok (.iload_n 1, 1) := by decide +kernel
theorem dX7_writesNumber_1 : decode cX7_writesNumber 1 = .ok (.sipush 999, 3) := by decide +kernel
theorem dX7_writesNumber_4 : decode cX7_writesNumber 4 = .ok (.if_icmp .le 9, 3) := by decide +kernel
theorem dX7_writesNumber_7 : decode cX7_writesNumber 7 = .ok (.sipush 1000, 3) := by decide +kernel
theorem dX7_writesNumber_10 : decode cX7_writesNumber 10 = .ok (.goto 26, 3) := by decide +kernel
theorem dX7_writesNumber_13 : decode cX7_writesNumber 13 = .ok (.iload_n 1, 1) := by decide +kernel
theorem dX7_writesNumber_14 : decode cX7_writesNumber 14 = .ok (.bipush 99, 2) := by decide +kernel
theorem dX7_writesNumber_16 : decode cX7_writesNumber 16 = .ok (.if_icmp .le 8, 3) := by decide +kernel
theorem dX7_writesNumber_19 : decode cX7_writesNumber 19 = .ok (.bipush 100, 2) := by decide +kernel
theorem dX7_writesNumber_21 : decode cX7_writesNumber 21 = .ok (.goto 15, 3) := by decide +kernel
theorem dX7_writesNumber_24 : decode cX7_writesNumber 24 = .ok (.iload_n 1, 1) := by decide +kernel
theorem dX7_writesNumber_25 : decode cX7_writesNumber 25 = .ok (.bipush 9, 2) := by decide +kernel
theorem dX7_writesNumber_27 : decode cX7_writesNumber 27 = .ok (.if_icmp .le 8, 3) := by decide +kernel
theorem dX7_writesNumber_30 : decode cX7_writesNumber 30 = .ok (.bipush 10, 2) := by decide +kernel
theorem dX7_writesNumber_32 : decode cX7_writesNumber 32 = .ok (.goto 4, 3) := by decide +kernel
theorem dX7_writesNumber_35 : decode cX7_writesNumber 35 = .ok (.iconst 1, 1) := by decide +kernel
theorem dX7_writesNumber_36 : decode cX7_writesNumber 36 = .ok (.istore_n 2, 1) := by decide +kernel
theorem dX7_writesNumber_37 : decode cX7_writesNumber 37 = .ok (.iload_n 2, 1) := by decide +kernel
theorem dX7_writesNumber_38 : decode cX7_writesNumber 38 = .ok (.ifCond .le 24, 3) := by decide +kernel
theorem dX7_writesNumber_41 : decode cX7_writesNumber 41 = .ok (.aload_n 0, 1) := by decide +kernel
theorem dX7_writesNumber_42 : decode cX7_writesNumber 42 = .ok (.bipush 48, 2) := by decide +kernel
theorem dX7_writesNumber_44 : decode cX7_writesNumber 44 = .ok (.iload_n 1, 1) := by decide +kernel
theorem dX7_writesNumber_45 : decode cX7_writesNumber 45 = .ok (.iload_n 2, 1) := by decide +kernel
theorem dX7_writesNumber_46 : decode cX7_writesNumber 46 = .ok (.idiv, 1) := by decide +kernel
theorem dX7_writesNumber_47 : decode cX7_writesNumber 47 = .ok (.bipush 10, 2) := by decide +kernel
theorem dX7_writesNumber_49 : decode cX7_writesNumber 49 = .ok (.irem, 1) := by decide +kernel
theorem dX7_writesNumber_50 : decode cX7_writesNumber 50 = .ok (.iadd, 1) := by decide +kernel
theorem dX7_writesNumber_51 : decode cX7_writesNumber 51 = .ok (.invokevirtual 163, 3) := by decide +kernel
theorem dX7_writesNumber_54 : decode cX7_writesNumber 54 = .ok (.iload_n 2, 1) := by decide +kernel
theorem dX7_writesNumber_55 : decode cX7_writesNumber 55 = .ok (.bipush 10, 2) := by decide +kernel
theorem dX7_writesNumber_57 : decode cX7_writesNumber 57 = .ok (.idiv, 1) := by decide +kernel
theorem dX7_writesNumber_58 : decode cX7_writesNumber 58 = .ok (.istore_n 2, 1) := by decide +kernel
theorem dX7_writesNumber_59 : decode cX7_writesNumber 59 = .ok (.goto (-22), 3) := by decide +kernel
theorem dX7_writesNumber_62 : decode cX7_writesNumber 62 = .ok (.return_, 1) := by decide +kernel
theorem dX7_write_0 : decode cX7_write 0 = .ok (.aload_n 0, 1) := by decide +kernel
theorem dX7_write_1 : decode cX7_write 1 = .ok (.aload_n 0, 1) := by decide +kernel
theorem dX7_write_2 : decode cX7_write 2 = .ok (.iload_n 1, 1) := by decide +kernel
theorem dX7_write_3 : decode cX7_write 3 = .ok (.invokevirtual 116, 3) := by decide +kernel
theorem dX7_write_6 : decode cX7_write 6 = .ok (.ifCond .eq 7, 3) := by decide +kernel
theorem dX7_write_9 : decode cX7_write 9 = .ok (.iconst 0, 1) := by decide +kernel
theorem dX7_write_10 : decode cX7_write 10 = .ok (.goto 4, 3) := by decide +kernel
theorem dX7_write_13 : decode cX7_write 13 = .ok (.iconst 1, 1) := by decide +kernel
theorem dX7_write_14 : decode cX7_write 14 = .ok (.invokevirtual 97, 3) := by decide +kernel
theorem dX7_write_17 : decode cX7_write 17 = .ok (.ifCond .ne 5, 3) := by decide +kernel
theorem dX7_write_20 : decode cX7_write 20 = .ok (.iconst 0, 1) := by decide +kernel
theorem dX7_write_21 : decode cX7_write 21 = .ok (.ireturn, 1) := by decide +kernel
theorem dX7_write_22 : decode cX7_write 22 = .ok (.aload_n 0, 1) := by decide +kernel
theorem dX7_write_23 : decode cX7_write 23 = .ok (.iconst 0, 1) := by decide +kernel
theorem dX7_write_24 : decode cX7_write 24 = .ok (.putfield 125, 3) := by decide +kernel
theorem dX7_write_27 : decode cX7_write 27 = .ok (.aload_n 0, 1) := by decide +kernel
theorem dX7_write_28 : decode cX7_write 28 = .ok (.getfield 7, 3) := by decide +kernel
theorem dX7_write_31 : decode cX7_write 31 = .ok (.sipush 199, 3) := by decide +kernel
theorem dX7_write_34 : decode cX7_write 34 = .ok (.iload_n 1, 1) := by decide +kernel
theorem dX7_write_35 : decode cX7_write 35 = .ok (.iadd, 1) := by decide +kernel
theorem dX7_write_36 : decode cX7_write 36 = .ok (.iaload, 1) := by decide +kernel
theorem dX7_write_37 : decode cX7_write 37 = .ok (.istore_n 2, 1) := by decide +kernel
theorem dX7_write_38 : decode cX7_write 38 = .ok (.iload_n 2, 1) := by decide +kernel
theorem dX7_write_39 : decode cX7_write 39 = .ok (.ifCond .ge 9, 3) := by decide +kernel
theorem dX7_write_42 : decode cX7_write 42 = .ok (.aload_n 0, 1) := by decide +kernel
theorem dX7_write_43 : decode cX7_write 43 = .ok (.bipush 45, 2) := by decide +kernel
theorem dX7_write_45 : decode cX7_write 45 = .ok (.invokevirtual 163, 3) := by decide +kernel
theorem dX7_write_48 : decode cX7_write 48 = .ok (.aload_n 0, 1) := by decide +kernel
theorem dX7_write_49 : decode cX7_write 49 = .ok (.iload_n 2, 1) := by decide +kernel
theorem dX7_write_50 : decode cX7_write 50 = .ok (.ifCond .ge 8, 3) := by decide +kernel
theorem dX7_write_53 : decode cX7_write 53 = .ok (.iload_n 2, 1) := by decide +kernel
theorem dX7_write_54 : decode cX7_write 54 = .ok (.ineg, 1) := by decide +kernel
theorem dX7_write_55 : decode cX7_write 55 = .ok (.goto 4, 3) := by decide +kernel
theorem dX7_write_58 : decode cX7_write 58 = .ok (.iload_n 2, 1) := by decide +kernel
theorem dX7_write_59 : decode cX7_write 59 = .ok (.invokevirtual 167, 3) := by decide +kernel
theorem dX7_write_62 : decode cX7_write 62 = .ok (.aload_n 0, 1) := by decide +kernel
theorem dX7_write_63 : decode cX7_write 63 = .ok (.bipush 44, 2) := by decide +kernel
theorem dX7_write_65 : decode cX7_write 65 = .ok (.invokevirtual 163, 3) := by decide +kernel
theorem dX7_write_68 : decode cX7_write 68 = .ok (.aload_n 0, 1) := by decide +kernel
theorem dX7_write_69 : decode cX7_write 69 = .ok (.aload_n 0, 1) := by decide +kernel
theorem dX7_write_70 : decode cX7_write 70 = .ok (.getfield 7, 3) := by decide +kernel
theorem dX7_write_73 : decode cX7_write 73 = .ok (.sipush 231, 3) := by decide +kernel
theorem dX7_write_76 : decode cX7_write 76 = .ok (.iload_n 1, 1) := by decide +kernel
theorem dX7_write_77 : decode cX7_write 77 = .ok (.iadd, 1) := by decide +kernel
theorem dX7_write_78 : decode cX7_write 78 = .ok (.iaload, 1) := by decide +kernel
theorem dX7_write_79 : decode cX7_write 79 = .ok (.invokevirtual 167, 3) := by decide +kernel
theorem dX7_write_82 : decode cX7_write 82 = .ok (.aload_n 0, 1) := by decide +kernel
theorem dX7_write_83 : decode cX7_write 83 = .ok (.bipush 58, 2) := by decide +kernel
theorem dX7_write_85 : decode cX7_write 85 = .ok (.invokevirtual 163, 3) := by decide +kernel
theorem dX7_write_88 : decode cX7_write 88 = .ok (.iload_n 1, 1) := by decide +kernel
theorem dX7_write_89 : decode cX7_write 89 = .ok (.aload_n 0, 1) := by decide +kernel
theorem dX7_write_90 : decode cX7_write 90 = .ok (.getfield 7, 3) := by decide +kernel
theorem dX7_write_93 : decode cX7_write 93 = .ok (.iconst 2, 1) := by decide +kernel
theorem dX7_write_94 : decode cX7_write 94 = .ok (.iaload, 1) := by decide +kernel
theorem dX7_write_95 : decode cX7_write 95 = .ok (.imul, 1) := by decide +kernel
theorem dX7_write_96 : decode cX7_write 96 = .ok (.iconst 1, 1) := by decide +kernel
theorem dX7_write_97 : decode cX7_write 97 = .ok (.iadd, 1) := by decide +kernel
theorem dX7_write_98 : decode cX7_write 98 = .ok (.istore_n 3, 1) := by decide +kernel
theorem dX7_write_99 : decode cX7_write 99 = .ok (.iload_n 3, 1) := by decide +kernel
theorem dX7_write_100 : decode cX7_write 100 = .ok (.aload_n 0, 1) := by decide +kernel
theorem dX7_write_101 : decode cX7_write 101 = .ok (.iload_n 1, 1) := by decide +kernel
theorem dX7_write_102 : decode cX7_write 102 = .ok (.invokevirtual 88, 3) := by decide +kernel
theorem dX7_write_105 : decode cX7_write 105 = .ok (.if_icmp .ge 57, 3) := by decide +kernel
theorem dX7_write_108 : decode cX7_write 108 = .ok (.aload_n 0, 1) := by decide +kernel
theorem dX7_write_109 : decode cX7_write 109 = .ok (.aload_n 0, 1) := by decide +kernel
theorem dX7_write_110 : decode cX7_write 110 = .ok (.getfield 7, 3) := by decide +kernel
theorem dX7_write_113 : decode cX7_write 113 = .ok (.bipush 71, 2) := by decide +kernel
theorem dX7_write_115 : decode cX7_write 115 = .ok (.iload_n 3, 1) := by decide +kernel
theorem dX7_write_116 : decode cX7_write 116 = .ok (.iadd, 1) := by decide +kernel
theorem dX7_write_117 : decode cX7_write 117 = .ok (.iaload, 1) := by decide +kernel
theorem dX7_write_118 : decode cX7_write 118 = .ok (.bipush 10, 2) := by decide +kernel
theorem dX7_write_120 : decode cX7_write 120 = .ok (.if_icmp .ge 18, 3) := by decide +kernel
theorem dX7_write_123 : decode cX7_write 123 = .ok (.bipush 48, 2) := by decide +kernel
theorem dX7_write_125 : decode cX7_write 125 = .ok (.aload_n 0, 1) := by decide +kernel
theorem dX7_write_126 : decode cX7_write 126 = .ok (.getfield 7, 3) := by decide +kernel
theorem dX7_write_129 : decode cX7_write 129 = .ok (.bipush 71, 2) := by decide +kernel
theorem dX7_write_131 : decode cX7_write 131 = .ok (.iload_n 3, 1) := by decide +kernel
theorem dX7_write_132 : decode cX7_write 132 = .ok (.iadd, 1) := by decide +kernel
theorem dX7_write_133 : decode cX7_write 133 = .ok (.iaload, 1) := by decide +kernel
theorem dX7_write_134 : decode cX7_write 134 = .ok (.iadd, 1) := by decide +kernel
theorem dX7_write_135 : decode cX7_write 135 = .ok (.goto 18, 3) := by decide +kernel
theorem dX7_write_138 : decode cX7_write 138 = .ok (.bipush 97, 2) := by decide +kernel
theorem dX7_write_140 : decode cX7_write 140 = .ok (.aload_n 0, 1) := by decide +kernel
theorem dX7_write_141 : decode cX7_write 141 = .ok (.getfield 7, 3) := by decide +kernel
theorem dX7_write_144 : decode cX7_write 144 = .ok (.bipush 71, 2) := by decide +kernel
theorem dX7_write_146 : decode cX7_write 146 = .ok (.iload_n 3, 1) := by decide +kernel
theorem dX7_write_147 : decode cX7_write 147 = .ok (.iadd, 1) := by decide +kernel
theorem dX7_write_148 : decode cX7_write 148 = .ok (.iaload, 1) := by decide +kernel
theorem dX7_write_149 : decode cX7_write 149 = .ok (.iadd, 1) := by decide +kernel
theorem dX7_write_150 : decode cX7_write 150 = .ok (.bipush 10, 2) := by decide +kernel
theorem dX7_write_152 : decode cX7_write 152 = .ok (.isub, 1) := by decide +kernel
theorem dX7_write_153 : decode cX7_write 153 = .ok (.invokevirtual 163, 3) := by decide +kernel
theorem dX7_write_156 : decode cX7_write 156 = .ok (.iinc 3 1, 3) := by decide +kernel
theorem dX7_write_159 : decode cX7_write 159 = .ok (.goto (-60), 3) := by decide +kernel
theorem dX7_write_162 : decode cX7_write 162 = .ok (.aload_n 0, 1) := by decide +kernel
theorem dX7_write_163 : decode cX7_write 163 = .ok (.getfield 125, 3) := by decide +kernel
theorem dX7_write_166 : decode cX7_write 166 = .ok (.ireturn, 1) := by decide +kernel
theorem dX7_keep_0 : decode cX7_keep 0 = .ok (.aload_n 0, 1) := by decide +kernel
theorem dX7_keep_1 : decode cX7_keep 1 = .ok (.iload_n 1, 1) := by decide +kernel
theorem dX7_keep_2 : decode cX7_keep 2 = .ok (.iconst 0, 1) := by decide +kernel
theorem dX7_keep_3 : decode cX7_keep 3 = .ok (.iconst 1, 1) := by decide +kernel
theorem dX7_keep_4 : decode cX7_keep 4 = .ok (.invokestatic 51, 3) := by decide +kernel
theorem dX7_keep_7 : decode cX7_keep 7 = .ok (.ifCond .eq 7, 3) := by decide +kernel
theorem dX7_keep_10 : decode cX7_keep 10 = .ok (.iconst 0, 1) := by decide +kernel
theorem dX7_keep_11 : decode cX7_keep 11 = .ok (.goto 4, 3) := by decide +kernel
theorem dX7_keep_14 : decode cX7_keep 14 = .ok (.iconst 1, 1) := by decide +kernel
theorem dX7_keep_15 : decode cX7_keep 15 = .ok (.invokevirtual 97, 3) := by decide +kernel
theorem dX7_keep_18 : decode cX7_keep 18 = .ok (.ifCond .ne 5, 3) := by decide +kernel
theorem dX7_keep_21 : decode cX7_keep 21 = .ok (.iconst 0, 1) := by decide +kernel
theorem dX7_keep_22 : decode cX7_keep 22 = .ok (.ireturn, 1) := by decide +kernel
theorem dX7_keep_23 : decode cX7_keep 23 = .ok (.iconst 0, 1) := by decide +kernel
theorem dX7_keep_24 : decode cX7_keep 24 = .ok (.istore_n 2, 1) := by decide +kernel
theorem dX7_keep_25 : decode cX7_keep 25 = .ok (.iload_n 2, 1) := by decide +kernel
theorem dX7_keep_26 : decode cX7_keep 26 = .ok (.sipush 295, 3) := by decide +kernel
theorem dX7_keep_29 : decode cX7_keep 29 = .ok (.if_icmp .ge 27, 3) := by decide +kernel
theorem dX7_keep_32 : decode cX7_keep 32 = .ok (.aload_n 0, 1) := by decide +kernel
theorem dX7_keep_33 : decode cX7_keep 33 = .ok (.getfield 16, 3) := by decide +kernel
theorem dX7_keep_36 : decode cX7_keep 36 = .ok (.sipush 295, 3) := by decide +kernel
theorem dX7_keep_39 : decode cX7_keep 39 = .ok (.iload_n 1, 1) := by decide +kernel
theorem dX7_keep_40 : decode cX7_keep 40 = .ok (.imul, 1) := by decide +kernel
theorem dX7_keep_41 : decode cX7_keep 41 = .ok (.iload_n 2, 1) := by decide +kernel
theorem dX7_keep_42 : decode cX7_keep 42 = .ok (.iadd, 1) := by decide +kernel
theorem dX7_keep_43 : decode cX7_keep 43 = .ok (.aload_n 0, 1) := by decide +kernel
theorem dX7_keep_44 : decode cX7_keep 44 = .ok (.getfield 7, 3) := by decide +kernel
theorem dX7_keep_47 : decode cX7_keep 47 = .ok (.iload_n 2, 1) := by decide +kernel
theorem dX7_keep_48 : decode cX7_keep 48 = .ok (.iaload, 1) := by decide +kernel
theorem dX7_keep_49 : decode cX7_keep 49 = .ok (.iastore, 1) := by decide +kernel
theorem dX7_keep_50 : decode cX7_keep 50 = .ok (.iinc 2 1, 3) := by decide +kernel
theorem dX7_keep_53 : decode cX7_keep 53 = .ok (.goto (-28), 3) := by decide +kernel
theorem dX7_keep_56 : decode cX7_keep 56 = .ok (.aload_n 0, 1) := by decide +kernel
theorem dX7_keep_57 : decode cX7_keep 57 = .ok (.getfield 19, 3) := by decide +kernel
theorem dX7_keep_60 : decode cX7_keep 60 = .ok (.iload_n 1, 1) := by decide +kernel
theorem dX7_keep_61 : decode cX7_keep 61 = .ok (.iconst 1, 1) := by decide +kernel
theorem dX7_keep_62 : decode cX7_keep 62 = .ok (.bastore, 1) := by decide +kernel
theorem dX7_keep_63 : decode cX7_keep 63 = .ok (.aload_n 0, 1) := by decide +kernel
theorem dX7_keep_64 : decode cX7_keep 64 = .ok (.getfield 7, 3) := by decide +kernel
theorem dX7_keep_67 : decode cX7_keep 67 = .ok (.iconst 0, 1) := by decide +kernel
theorem dX7_keep_68 : decode cX7_keep 68 = .ok (.iaload, 1) := by decide +kernel
theorem dX7_keep_69 : decode cX7_keep 69 = .ok (.ireturn, 1) := by decide +kernel
theorem dX7_goBack_0 : decode cX7_goBack 0 = .ok (.aload_n 0, 1) := by decide +kernel
theorem dX7_goBack_1 : decode cX7_goBack 1 = .ok (.iload_n 1, 1) := by decide +kernel
theorem dX7_goBack_2 : decode cX7_goBack 2 = .ok (.iconst 0, 1) := by decide +kernel
theorem dX7_goBack_3 : decode cX7_goBack 3 = .ok (.iconst 1, 1) := by decide +kernel
theorem dX7_goBack_4 : decode cX7_goBack 4 = .ok (.invokestatic 51, 3) := by decide +kernel
theorem dX7_goBack_7 : decode cX7_goBack 7 = .ok (.ifCond .ne 7, 3) := by decide +kernel
theorem dX7_goBack_10 : decode cX7_goBack 10 = .ok (.iconst 1, 1) := by decide +kernel
theorem dX7_goBack_11 : decode cX7_goBack 11 = .ok (.goto 17, 3) := by decide +kernel
theorem dX7_goBack_14 : decode cX7_goBack 14 = .ok (.aload_n 0, 1) := by decide +kernel
theorem dX7_goBack_15 : decode cX7_goBack 15 = .ok (.getfield 19, 3) := by decide +kernel
theorem dX7_goBack_18 : decode cX7_goBack 18 = .ok (.iload_n 1, 1) := by decide +kernel
theorem dX7_goBack_19 : decode cX7_goBack 19 = .ok (.baload, 1) := by decide +kernel
theorem dX7_goBack_20 : decode cX7_goBack 20 = .ok (.ifCond .ne 7, 3) := by decide +kernel
theorem dX7_goBack_23 : decode cX7_goBack 23 = .ok (.iconst 2, 1) := by decide +kernel
theorem dX7_goBack_24 : decode cX7_goBack 24 = .ok (.goto 4, 3) := by decide +kernel
theorem dX7_goBack_27 : decode cX7_goBack 27 = .ok (.iconst 0, 1) := by decide +kernel
theorem dX7_goBack_28 : decode cX7_goBack 28 = .ok (.invokevirtual 97, 3) := by decide +kernel
theorem dX7_goBack_31 : decode cX7_goBack 31 = .ok (.ifCond .ne 5, 3) := by decide +kernel
theorem dX7_goBack_34 : decode cX7_goBack 34 = .ok (.iconst 0, 1) := by decide +kernel
theorem dX7_goBack_35 : decode cX7_goBack 35 = .ok (.ireturn, 1) := by decide +kernel
theorem dX7_goBack_36 : decode cX7_goBack 36 = .ok (.aload_n 0, 1) := by decide +kernel
theorem dX7_goBack_37 : decode cX7_goBack 37 = .ok (.invokevirtual 100, 3) := by decide +kernel
theorem dX7_goBack_40 : decode cX7_goBack 40 = .ok (.iconst 0, 1) := by decide +kernel
theorem dX7_goBack_41 : decode cX7_goBack 41 = .ok (.istore_n 2, 1) := by decide +kernel
theorem dX7_goBack_42 : decode cX7_goBack 42 = .ok (.iload_n 2, 1) := by decide +kernel
theorem dX7_goBack_43 : decode cX7_goBack 43 = .ok (.sipush 295, 3) := by decide +kernel
theorem dX7_goBack_46 : decode cX7_goBack 46 = .ok (.if_icmp .ge 27, 3) := by decide +kernel
theorem dX7_goBack_49 : decode cX7_goBack 49 = .ok (.aload_n 0, 1) := by decide +kernel
theorem dX7_goBack_50 : decode cX7_goBack 50 = .ok (.getfield 7, 3) := by decide +kernel
theorem dX7_goBack_53 : decode cX7_goBack 53 = .ok (.iload_n 2, 1) := by decide +kernel
theorem dX7_goBack_54 : decode cX7_goBack 54 = .ok (.aload_n 0, 1) := by decide +kernel
theorem dX7_goBack_55 : decode cX7_goBack 55 = .ok (.getfield 16, 3) := by decide +kernel
theorem dX7_goBack_58 : decode cX7_goBack 58 = .ok (.sipush 295, 3) := by decide +kernel
theorem dX7_goBack_61 : decode cX7_goBack 61 = .ok (.iload_n 1, 1) := by decide +kernel
theorem dX7_goBack_62 : decode cX7_goBack 62 = .ok (.imul, 1) := by decide +kernel
theorem dX7_goBack_63 : decode cX7_goBack 63 = .ok (.iload_n 2, 1) := by decide +kernel
theorem dX7_goBack_64 : decode cX7_goBack 64 = .ok (.iadd, 1) := by decide +kernel
theorem dX7_goBack_65 : decode cX7_goBack 65 = .ok (.iaload, 1) := by decide +kernel
theorem dX7_goBack_66 : decode cX7_goBack 66 = .ok (.iastore, 1) := by decide +kernel
theorem dX7_goBack_67 : decode cX7_goBack 67 = .ok (.iinc 2 1, 3) := by decide +kernel
theorem dX7_goBack_70 : decode cX7_goBack 70 = .ok (.goto (-28), 3) := by decide +kernel
theorem dX7_goBack_73 : decode cX7_goBack 73 = .ok (.aload_n 0, 1) := by decide +kernel
theorem dX7_goBack_74 : decode cX7_goBack 74 = .ok (.getfield 7, 3) := by decide +kernel
theorem dX7_goBack_77 : decode cX7_goBack 77 = .ok (.iconst 0, 1) := by decide +kernel
theorem dX7_goBack_78 : decode cX7_goBack 78 = .ok (.iaload, 1) := by decide +kernel
theorem dX7_goBack_79 : decode cX7_goBack 79 = .ok (.ireturn, 1) := by decide +kernel
theorem dX7_undo_0 : decode cX7_undo 0 = .ok (.aload_n 0, 1) := by decide +kernel
theorem dX7_undo_1 : decode cX7_undo 1 = .ok (.aload_n 0, 1) := by decide +kernel
theorem dX7_undo_2 : decode cX7_undo 2 = .ok (.getfield 48, 3) := by decide +kernel
theorem dX7_undo_5 : decode cX7_undo 5 = .ok (.ifCond .le 7, 3) := by decide +kernel
theorem dX7_undo_8 : decode cX7_undo 8 = .ok (.iconst 0, 1) := by decide +kernel
theorem dX7_undo_9 : decode cX7_undo 9 = .ok (.goto 4, 3) := by decide +kernel
theorem dX7_undo_12 : decode cX7_undo 12 = .ok (.iconst 1, 1) := by decide +kernel
theorem dX7_undo_13 : decode cX7_undo 13 = .ok (.invokevirtual 97, 3) := by decide +kernel
theorem dX7_undo_16 : decode cX7_undo 16 = .ok (.ifCond .ne 5, 3) := by decide +kernel
theorem dX7_undo_19 : decode cX7_undo 19 = .ok (.iconst 0, 1) := by decide +kernel
theorem dX7_undo_20 : decode cX7_undo 20 = .ok (.ireturn, 1) := by decide +kernel
theorem dX7_undo_21 : decode cX7_undo 21 = .ok (.aload_n 0, 1) := by decide +kernel
theorem dX7_undo_22 : decode cX7_undo 22 = .ok (.dup, 1) := by decide +kernel
theorem dX7_undo_23 : decode cX7_undo 23 = .ok (.getfield 48, 3) := by decide +kernel
theorem dX7_undo_26 : decode cX7_undo 26 = .ok (.iconst 1, 1) := by decide +kernel
theorem dX7_undo_27 : decode cX7_undo 27 = .ok (.isub, 1) := by decide +kernel
theorem dX7_undo_28 : decode cX7_undo 28 = .ok (.putfield 48, 3) := by decide +kernel
theorem dX7_undo_31 : decode cX7_undo 31 = .ok (.iconst 0, 1) := by decide +kernel
theorem dX7_undo_32 : decode cX7_undo 32 = .ok (.istore_n 1, 1) := by decide +kernel
theorem dX7_undo_33 : decode cX7_undo 33 = .ok (.iload_n 1, 1) := by decide +kernel
theorem dX7_undo_34 : decode cX7_undo 34 = .ok (.sipush 295, 3) := by decide +kernel
theorem dX7_undo_37 : decode cX7_undo 37 = .ok (.if_icmp .ge 30, 3) := by decide +kernel
theorem dX7_undo_40 : decode cX7_undo 40 = .ok (.aload_n 0, 1) := by decide +kernel
theorem dX7_undo_41 : decode cX7_undo 41 = .ok (.getfield 7, 3) := by decide +kernel
theorem dX7_undo_44 : decode cX7_undo 44 = .ok (.iload_n 1, 1) := by decide +kernel
theorem dX7_undo_45 : decode cX7_undo 45 = .ok (.aload_n 0, 1) := by decide +kernel
theorem dX7_undo_46 : decode cX7_undo 46 = .ok (.getfield 13, 3) := by decide +kernel
theorem dX7_undo_49 : decode cX7_undo 49 = .ok (.sipush 295, 3) := by decide +kernel
theorem dX7_undo_52 : decode cX7_undo 52 = .ok (.aload_n 0, 1) := by decide +kernel
theorem dX7_undo_53 : decode cX7_undo 53 = .ok (.getfield 48, 3) := by decide +kernel
theorem dX7_undo_56 : decode cX7_undo 56 = .ok (.imul, 1) := by decide +kernel
theorem dX7_undo_57 : decode cX7_undo 57 = .ok (.iload_n 1, 1) := by decide +kernel
theorem dX7_undo_58 : decode cX7_undo 58 = .ok (.iadd, 1) := by decide +kernel
theorem dX7_undo_59 : decode cX7_undo 59 = .ok (.iaload, 1) := by decide +kernel
theorem dX7_undo_60 : decode cX7_undo 60 = .ok (.iastore, 1) := by decide +kernel
theorem dX7_undo_61 : decode cX7_undo 61 = .ok (.iinc 1 1, 3) := by decide +kernel
theorem dX7_undo_64 : decode cX7_undo 64 = .ok (.goto (-31), 3) := by decide +kernel
theorem dX7_undo_67 : decode cX7_undo 67 = .ok (.aload_n 0, 1) := by decide +kernel
theorem dX7_undo_68 : decode cX7_undo 68 = .ok (.getfield 48, 3) := by decide +kernel
theorem dX7_undo_71 : decode cX7_undo 71 = .ok (.ireturn, 1) := by decide +kernel
theorem dX7_step_0 : decode cX7_step 0 = .ok (.aload_n 0, 1) := by decide +kernel
theorem dX7_step_1 : decode cX7_step 1 = .ok (.iload_n 1, 1) := by decide +kernel
theorem dX7_step_2 : decode cX7_step 2 = .ok (.iconst 0, 1) := by decide +kernel
theorem dX7_step_3 : decode cX7_step 3 = .ok (.bipush 48, 2) := by decide +kernel
theorem dX7_step_5 : decode cX7_step 5 = .ok (.invokestatic 51, 3) := by decide +kernel
theorem dX7_step_8 : decode cX7_step 8 = .ok (.ifCond .eq 7, 3) := by decide +kernel
theorem dX7_step_11 : decode cX7_step 11 = .ok (.iconst 0, 1) := by decide +kernel
theorem dX7_step_12 : decode cX7_step 12 = .ok (.goto 4, 3) := by decide +kernel
theorem dX7_step_15 : decode cX7_step 15 = .ok (.iconst 1, 1) := by decide +kernel
theorem dX7_step_16 : decode cX7_step 16 = .ok (.invokevirtual 97, 3) := by decide +kernel
theorem dX7_step_19 : decode cX7_step 19 = .ok (.ifCond .eq 12, 3) := by decide +kernel
theorem dX7_step_22 : decode cX7_step 22 = .ok (.aload_n 0, 1) := by decide +kernel
theorem dX7_step_23 : decode cX7_step 23 = .ok (.getfield 26, 3) := by decide +kernel
theorem dX7_step_26 : decode cX7_step 26 = .ok (.iload_n 1, 1) := by decide +kernel
theorem dX7_step_27 : decode cX7_step 27 = .ok (.iaload, 1) := by decide +kernel
theorem dX7_step_28 : decode cX7_step 28 = .ok (.goto 4, 3) := by decide +kernel
theorem dX7_step_31 : decode cX7_step 31 = .ok (.iconst 0, 1) := by decide +kernel
theorem dX7_step_32 : decode cX7_step 32 = .ok (.ireturn, 1) := by decide +kernel
theorem dX7_toldOfSample_0 : decode cX7_toldOfSample 0 = .ok (.iload_n 2, 1) := by decide +kernel
theorem dX7_toldOfSample_1 : decode cX7_toldOfSample 1 = .ok (.ifCond .ne 17, 3) := by decide +kernel
theorem dX7_toldOfSample_4 : decode cX7_toldOfSample 4 = .ok (.aload_n 0, 1) := by decide +kernel
theorem dX7_toldOfSample_5 : decode cX7_toldOfSample 5 = .ok (.getfield 7, 3) := by decide +kernel
theorem dX7_toldOfSample_8 : decode cX7_toldOfSample 8 = .ok (.bipush 7, 2) := by decide +kernel
theorem dX7_toldOfSample_10 : decode cX7_toldOfSample 10 = .ok (.iload_n 1, 1) := by decide +kernel
theorem dX7_toldOfSample_11 : decode cX7_toldOfSample 11 = .ok (.iadd, 1) := by decide +kernel
theorem dX7_toldOfSample_12 : decode cX7_toldOfSample 12 = .ok (.iaload, 1) := by decide +kernel
theorem dX7_toldOfSample_13 : decode cX7_toldOfSample 13 = .ok (.sipush 10000, 3) := by decide +kernel
theorem dX7_toldOfSample_16 : decode cX7_toldOfSample 16 = .ok (.iadd, 1) := by decide +kernel
theorem dX7_toldOfSample_17 : decode cX7_toldOfSample 17 = .ok (.ireturn, 1) := by decide +kernel
theorem dX7_toldOfSample_18 : decode cX7_toldOfSample 18 = .ok (.aload_n 0, 1) := by decide +kernel
theorem dX7_toldOfSample_19 : decode cX7_toldOfSample 19 = .ok (.invokevirtual 55, 3) := by decide +kernel
theorem dX7_toldOfSample_22 : decode cX7_toldOfSample 22 = .ok (.ifCond .ne 5, 3) := by decide +kernel
theorem dX7_toldOfSample_25 : decode cX7_toldOfSample 25 = .ok (.iconst (-1), 1) := by decide +kernel
theorem dX7_toldOfSample_26 : decode cX7_toldOfSample 26 = .ok (.ireturn, 1) := by decide +kernel
theorem dX7_toldOfSample_27 : decode cX7_toldOfSample 27 = .ok (.aload_n 0, 1) := by decide +kernel
theorem dX7_toldOfSample_28 : decode cX7_toldOfSample 28 = .ok (.invokevirtual 94, 3) := by decide +kernel
theorem dX7_toldOfSample_31 : decode cX7_toldOfSample 31 = .ok (.iload_n 2, 1) := by decide +kernel
theorem dX7_toldOfSample_32 : decode cX7_toldOfSample 32 = .ok (.tableswitch 112 1 4 #[32, 43, 58, 80], 32) := by decide +kernel
theorem dX7_toldOfSample_64 : decode cX7_toldOfSample 64 = .ok (.aload_n 0, 1) := by decide +kernel
theorem dX7_toldOfSample_65 : decode cX7_toldOfSample 65 = .ok (.getfield 29, 3) := by decide +kernel
theorem dX7_toldOfSample_68 : decode cX7_toldOfSample 68 = .ok (.iload_n 1, 1) := by decide +kernel
theorem dX7_toldOfSample_69 : decode cX7_toldOfSample 69 = .ok (.iaload, 1) := by decide +kernel
theorem dX7_toldOfSample_70 : decode cX7_toldOfSample 70 = .ok (.sipush 10000, 3) := by decide +kernel
theorem dX7_toldOfSample_73 : decode cX7_toldOfSample 73 = .ok (.iadd, 1) := by decide +kernel
theorem dX7_toldOfSample_74 : decode cX7_toldOfSample 74 = .ok (.ireturn, 1) := by decide +kernel
theorem dX7_toldOfSample_75 : decode cX7_toldOfSample 75 = .ok (.aload_n 0, 1) := by decide +kernel
theorem dX7_toldOfSample_76 : decode cX7_toldOfSample 76 = .ok (.getfield 7, 3) := by decide +kernel
theorem dX7_toldOfSample_79 : decode cX7_toldOfSample 79 = .ok (.sipush 135, 3) := by decide +kernel
theorem dX7_toldOfSample_82 : decode cX7_toldOfSample 82 = .ok (.iload_n 1, 1) := by decide +kernel
theorem dX7_toldOfSample_83 : decode cX7_toldOfSample 83 = .ok (.iadd, 1) := by decide +kernel
theorem dX7_toldOfSample_84 : decode cX7_toldOfSample 84 = .ok (.iaload, 1) := by decide +kernel
theorem dX7_toldOfSample_85 : decode cX7_toldOfSample 85 = .ok (.sipush 10000, 3) := by decide +kernel
theorem dX7_toldOfSample_88 : decode cX7_toldOfSample 88 = .ok (.iadd, 1) := by decide +kernel
theorem dX7_toldOfSample_89 : decode cX7_toldOfSample 89 = .ok (.ireturn, 1) := by decide +kernel
theorem dX7_toldOfSample_90 : decode cX7_toldOfSample 90 = .ok (.aload_n 0, 1) := by decide +kernel
theorem dX7_toldOfSample_91 : decode cX7_toldOfSample 91 = .ok (.iload_n 1, 1) := by decide +kernel
theorem dX7_toldOfSample_92 : decode cX7_toldOfSample 92 = .ok (.invokevirtual 122, 3) := by decide +kernel
theorem dX7_toldOfSample_95 : decode cX7_toldOfSample 95 = .ok (.ifCond .eq 15, 3) := by decide +kernel
theorem dX7_toldOfSample_98 : decode cX7_toldOfSample 98 = .ok (.aload_n 0, 1) := by decide +kernel
theorem dX7_toldOfSample_99 : decode cX7_toldOfSample 99 = .ok (.getfield 7, 3) := by decide +kernel
theorem dX7_toldOfSample_102 : decode cX7_toldOfSample 102 = .ok (.bipush 71, 2) := by decide +kernel
theorem dX7_toldOfSample_104 : decode cX7_toldOfSample 104 = .ok (.iload_n 1, 1) := by decide +kernel
theorem dX7_toldOfSample_105 : decode cX7_toldOfSample 105 = .ok (.iadd, 1) := by decide +kernel
theorem dX7_toldOfSample_106 : decode cX7_toldOfSample 106 = .ok (.iaload, 1) := by decide +kernel
theorem dX7_toldOfSample_107 : decode cX7_toldOfSample 107 = .ok (.goto 4, 3) := by decide +kernel
theorem dX7_toldOfSample_110 : decode cX7_toldOfSample 110 = .ok (.iconst (-1), 1) := by decide +kernel
theorem dX7_toldOfSample_111 : decode cX7_toldOfSample 111 = .ok (.ireturn, 1) := by decide +kernel
theorem dX7_toldOfSample_112 : decode cX7_toldOfSample 112 = .ok (.aload_n 0, 1) := by decide +kernel
theorem dX7_toldOfSample_113 : decode cX7_toldOfSample 113 = .ok (.getfield 7, 3) := by decide +kernel
theorem dX7_toldOfSample_116 : decode cX7_toldOfSample 116 = .ok (.sipush 263, 3) := by decide +kernel
theorem dX7_toldOfSample_119 : decode cX7_toldOfSample 119 = .ok (.iload_n 1, 1) := by decide +kernel
theorem dX7_toldOfSample_120 : decode cX7_toldOfSample 120 = .ok (.aload_n 0, 1) := by decide +kernel
theorem dX7_toldOfSample_121 : decode cX7_toldOfSample 121 = .ok (.getfield 7, 3) := by decide +kernel
theorem dX7_toldOfSample_124 : decode cX7_toldOfSample 124 = .ok (.iconst 2, 1) := by decide +kernel
theorem dX7_toldOfSample_125 : decode cX7_toldOfSample 125 = .ok (.iaload, 1) := by decide +kernel
theorem dX7_toldOfSample_126 : decode cX7_toldOfSample 126 = .ok (.idiv, 1) := by decide +kernel
theorem dX7_toldOfSample_127 : decode cX7_toldOfSample 127 = .ok (.iadd, 1) := by decide +kernel
theorem dX7_toldOfSample_128 : decode cX7_toldOfSample 128 = .ok (.iaload, 1) := by decide +kernel
theorem dX7_toldOfSample_129 : decode cX7_toldOfSample 129 = .ok (.iconst 1, 1) := by decide +kernel
theorem dX7_toldOfSample_130 : decode cX7_toldOfSample 130 = .ok (.if_icmp .ne 7, 3) := by decide +kernel
theorem dX7_toldOfSample_133 : decode cX7_toldOfSample 133 = .ok (.iconst (-1), 1) := by decide +kernel
theorem dX7_toldOfSample_134 : decode cX7_toldOfSample 134 = .ok (.goto 9, 3) := by decide +kernel
theorem dX7_toldOfSample_137 : decode cX7_toldOfSample 137 = .ok (.aload_n 0, 1) := by decide +kernel
theorem dX7_toldOfSample_138 : decode cX7_toldOfSample 138 = .ok (.getfield 32, 3) := by decide +kernel
theorem dX7_toldOfSample_141 : decode cX7_toldOfSample 141 = .ok (.iload_n 1, 1) := by decide +kernel
theorem dX7_toldOfSample_142 : decode cX7_toldOfSample 142 = .ok (.iaload, 1) := by decide +kernel
theorem dX7_toldOfSample_143 : decode cX7_toldOfSample 143 = .ok (.ireturn, 1) := by decide +kernel
theorem dX7_toldOfSample_144 : decode cX7_toldOfSample 144 = .ok (.aload_n 0, 1) := by decide +kernel
theorem dX7_toldOfSample_145 : decode cX7_toldOfSample 145 = .ok (.getfield 7, 3) := by decide +kernel
theorem dX7_toldOfSample_148 : decode cX7_toldOfSample 148 = .ok (.bipush 7, 2) := by decide +kernel
theorem dX7_toldOfSample_150 : decode cX7_toldOfSample 150 = .ok (.iload_n 1, 1) := by decide +kernel
theorem dX7_toldOfSample_151 : decode cX7_toldOfSample 151 = .ok (.iadd, 1) := by decide +kernel
theorem dX7_toldOfSample_152 : decode cX7_toldOfSample 152 = .ok (.iaload, 1) := by decide +kernel
theorem dX7_toldOfSample_153 : decode cX7_toldOfSample 153 = .ok (.aload_n 0, 1) := by decide +kernel
theorem dX7_toldOfSample_154 : decode cX7_toldOfSample 154 = .ok (.getfield 29, 3) := by decide +kernel
theorem dX7_toldOfSample_157 : decode cX7_toldOfSample 157 = .ok (.iload_n 1, 1) := by decide +kernel
theorem dX7_toldOfSample_158 : decode cX7_toldOfSample 158 = .ok (.iaload, 1) := by decide +kernel
theorem dX7_toldOfSample_159 : decode cX7_toldOfSample 159 = .ok (.isub, 1) := by decide +kernel
theorem dX7_toldOfSample_160 : decode cX7_toldOfSample 160 = .ok (.sipush 10000, 3) := by decide +kernel
theorem dX7_toldOfSample_163 : decode cX7_toldOfSample 163 = .ok (.iadd, 1) := by decide +kernel
theorem dX7_toldOfSample_164 : decode cX7_toldOfSample 164 = .ok (.ireturn, 1) := by decide +kernel
theorem dX7_sampleOf_0 : decode cX7_sampleOf 0 = .ok (.aload_n 0, 1) := by decide +kernel
theorem dX7_sampleOf_1 : decode cX7_sampleOf 1 = .ok (.aload_n 0, 1) := by decide +kernel
theorem dX7_sampleOf_2 : decode cX7_sampleOf 2 = .ok (.iload_n 1, 1) := by decide +kernel
theorem dX7_sampleOf_3 : decode cX7_sampleOf 3 = .ok (.invokevirtual 63, 3) := by decide +kernel
theorem dX7_sampleOf_6 : decode cX7_sampleOf 6 = .ok (.ifCond .ne 7, 3) := by decide +kernel
theorem dX7_sampleOf_9 : decode cX7_sampleOf 9 = .ok (.iconst 1, 1) := by decide +kernel
theorem dX7_sampleOf_10 : decode cX7_sampleOf 10 = .ok (.goto 17, 3) := by decide +kernel
theorem dX7_sampleOf_13 : decode cX7_sampleOf 13 = .ok (.iload_n 2, 1) := by decide +kernel
theorem dX7_sampleOf_14 : decode cX7_sampleOf 14 = .ok (.iconst 0, 1) := by decide +kernel
theorem dX7_sampleOf_15 : decode cX7_sampleOf 15 = .ok (.iconst 5, 1) := by decide +kernel
theorem dX7_sampleOf_16 : decode cX7_sampleOf 16 = .ok (.invokestatic 51, 3) := by decide +kernel
theorem dX7_sampleOf_19 : decode cX7_sampleOf 19 = .ok (.ifCond .ne 7, 3) := by decide +kernel
theorem dX7_sampleOf_22 : decode cX7_sampleOf 22 = .ok (.iconst 2, 1) := by decide +kernel
theorem dX7_sampleOf_23 : decode cX7_sampleOf 23 = .ok (.goto 4, 3) := by decide +kernel
theorem dX7_sampleOf_26 : decode cX7_sampleOf 26 = .ok (.iconst 0, 1) := by decide +kernel
theorem dX7_sampleOf_27 : decode cX7_sampleOf 27 = .ok (.invokevirtual 97, 3) := by decide +kernel
theorem dX7_sampleOf_30 : decode cX7_sampleOf 30 = .ok (.ifCond .eq 12, 3) := by decide +kernel
theorem dX7_sampleOf_33 : decode cX7_sampleOf 33 = .ok (.aload_n 0, 1) := by decide +kernel
theorem dX7_sampleOf_34 : decode cX7_sampleOf 34 = .ok (.iload_n 1, 1) := by decide +kernel
theorem dX7_sampleOf_35 : decode cX7_sampleOf 35 = .ok (.iload_n 2, 1) := by decide +kernel
theorem dX7_sampleOf_36 : decode cX7_sampleOf 36 = .ok (.invokevirtual 170, 3) := by decide +kernel
theorem dX7_sampleOf_39 : decode cX7_sampleOf 39 = .ok (.goto 4, 3) := by decide +kernel
theorem dX7_sampleOf_42 : decode cX7_sampleOf 42 = .ok (.iconst 0, 1) := by decide +kernel
theorem dX7_sampleOf_43 : decode cX7_sampleOf 43 = .ok (.ireturn, 1) := by decide +kernel
theorem dX7_toldOfBlock_0 : decode cX7_toldOfBlock 0 = .ok (.iload_n 1, 1) := by decide +kernel
theorem dX7_toldOfBlock_1 : decode cX7_toldOfBlock 1 = .ok (.aload_n 0, 1) := by decide +kernel
theorem dX7_toldOfBlock_2 : decode cX7_toldOfBlock 2 = .ok (.getfield 7, 3) := by decide +kernel
theorem dX7_toldOfBlock_5 : decode cX7_toldOfBlock 5 = .ok (.iconst 2, 1) := by decide +kernel
theorem dX7_toldOfBlock_6 : decode cX7_toldOfBlock 6 = .ok (.iaload, 1) := by decide +kernel
theorem dX7_toldOfBlock_7 : decode cX7_toldOfBlock 7 = .ok (.imul, 1) := by decide +kernel
theorem dX7_toldOfBlock_8 : decode cX7_toldOfBlock 8 = .ok (.istore_n 3, 1) := by decide +kernel
theorem dX7_toldOfBlock_9 : decode cX7_toldOfBlock 9 = .ok (.aload_n 0, 1) := by decide +kernel
theorem dX7_toldOfBlock_10 : decode cX7_toldOfBlock 10 = .ok (.invokevirtual 94, 3) := by decide +kernel
theorem dX7_toldOfBlock_13 : decode cX7_toldOfBlock 13 = .ok (.iload_n 2, 1) := by decide +kernel
theorem dX7_toldOfBlock_14 : decode cX7_toldOfBlock 14 = .ok (.tableswitch 90 0 4 #[34, 42, 57, 68, 79], 34) := by decide +kernel
theorem dX7_toldOfBlock_48 : decode cX7_toldOfBlock 48 = .ok (.aload_n 0, 1) := by decide +kernel
theorem dX7_toldOfBlock_49 : decode cX7_toldOfBlock 49 = .ok (.iload_n 1, 1) := by decide +kernel
theorem dX7_toldOfBlock_50 : decode cX7_toldOfBlock 50 = .ok (.invokevirtual 88, 3) := by decide +kernel
theorem dX7_toldOfBlock_53 : decode cX7_toldOfBlock 53 = .ok (.iload_n 3, 1) := by decide +kernel
theorem dX7_toldOfBlock_54 : decode cX7_toldOfBlock 54 = .ok (.isub, 1) := by decide +kernel
theorem dX7_toldOfBlock_55 : decode cX7_toldOfBlock 55 = .ok (.ireturn, 1) := by decide +kernel
theorem dX7_toldOfBlock_56 : decode cX7_toldOfBlock 56 = .ok (.aload_n 0, 1) := by decide +kernel
theorem dX7_toldOfBlock_57 : decode cX7_toldOfBlock 57 = .ok (.getfield 7, 3) := by decide +kernel
theorem dX7_toldOfBlock_60 : decode cX7_toldOfBlock 60 = .ok (.sipush 199, 3) := by decide +kernel
theorem dX7_toldOfBlock_63 : decode cX7_toldOfBlock 63 = .ok (.iload_n 1, 1) := by decide +kernel
theorem dX7_toldOfBlock_64 : decode cX7_toldOfBlock 64 = .ok (.iadd, 1) := by decide +kernel
theorem dX7_toldOfBlock_65 : decode cX7_toldOfBlock 65 = .ok (.iaload, 1) := by decide +kernel
theorem dX7_toldOfBlock_66 : decode cX7_toldOfBlock 66 = .ok (.sipush 10000, 3) := by decide +kernel
theorem dX7_toldOfBlock_69 : decode cX7_toldOfBlock 69 = .ok (.iadd, 1) := by decide +kernel
theorem dX7_toldOfBlock_70 : decode cX7_toldOfBlock 70 = .ok (.ireturn, 1) := by decide +kernel
theorem dX7_toldOfBlock_71 : decode cX7_toldOfBlock 71 = .ok (.aload_n 0, 1) := by decide +kernel
theorem dX7_toldOfBlock_72 : decode cX7_toldOfBlock 72 = .ok (.getfield 7, 3) := by decide +kernel
theorem dX7_toldOfBlock_75 : decode cX7_toldOfBlock 75 = .ok (.sipush 231, 3) := by decide +kernel
theorem dX7_toldOfBlock_78 : decode cX7_toldOfBlock 78 = .ok (.iload_n 1, 1) := by decide +kernel
theorem dX7_toldOfBlock_79 : decode cX7_toldOfBlock 79 = .ok (.iadd, 1) := by decide +kernel
theorem dX7_toldOfBlock_80 : decode cX7_toldOfBlock 80 = .ok (.iaload, 1) := by decide +kernel
theorem dX7_toldOfBlock_81 : decode cX7_toldOfBlock 81 = .ok (.ireturn, 1) := by decide +kernel
theorem dX7_toldOfBlock_82 : decode cX7_toldOfBlock 82 = .ok (.aload_n 0, 1) := by decide +kernel
theorem dX7_toldOfBlock_83 : decode cX7_toldOfBlock 83 = .ok (.getfield 7, 3) := by decide +kernel
theorem dX7_toldOfBlock_86 : decode cX7_toldOfBlock 86 = .ok (.sipush 263, 3) := by decide +kernel
theorem dX7_toldOfBlock_89 : decode cX7_toldOfBlock 89 = .ok (.iload_n 1, 1) := by decide +kernel
theorem dX7_toldOfBlock_90 : decode cX7_toldOfBlock 90 = .ok (.iadd, 1) := by decide +kernel
theorem dX7_toldOfBlock_91 : decode cX7_toldOfBlock 91 = .ok (.iaload, 1) := by decide +kernel
theorem dX7_toldOfBlock_92 : decode cX7_toldOfBlock 92 = .ok (.ireturn, 1) := by decide +kernel
theorem dX7_toldOfBlock_93 : decode cX7_toldOfBlock 93 = .ok (.aload_n 0, 1) := by decide +kernel
theorem dX7_toldOfBlock_94 : decode cX7_toldOfBlock 94 = .ok (.iload_n 3, 1) := by decide +kernel
theorem dX7_toldOfBlock_95 : decode cX7_toldOfBlock 95 = .ok (.aload_n 0, 1) := by decide +kernel
theorem dX7_toldOfBlock_96 : decode cX7_toldOfBlock 96 = .ok (.iload_n 1, 1) := by decide +kernel
theorem dX7_toldOfBlock_97 : decode cX7_toldOfBlock 97 = .ok (.invokevirtual 88, 3) := by decide +kernel
theorem dX7_toldOfBlock_100 : decode cX7_toldOfBlock 100 = .ok (.invokevirtual 173, 3) := by decide +kernel
theorem dX7_toldOfBlock_103 : decode cX7_toldOfBlock 103 = .ok (.ireturn, 1) := by decide +kernel
theorem dX7_toldOfBlock_104 : decode cX7_toldOfBlock 104 = .ok (.aload_n 0, 1) := by decide +kernel
theorem dX7_toldOfBlock_105 : decode cX7_toldOfBlock 105 = .ok (.getfield 35, 3) := by decide +kernel
theorem dX7_toldOfBlock_108 : decode cX7_toldOfBlock 108 = .ok (.iload_n 1, 1) := by decide +kernel
theorem dX7_toldOfBlock_109 : decode cX7_toldOfBlock 109 = .ok (.iaload, 1) := by decide +kernel
theorem dX7_toldOfBlock_110 : decode cX7_toldOfBlock 110 = .ok (.ireturn, 1) := by decide +kernel
theorem dX7_blockOf_0 : decode cX7_blockOf 0 = .ok (.aload_n 0, 1) := by decide +kernel
theorem dX7_blockOf_1 : decode cX7_blockOf 1 = .ok (.aload_n 0, 1) := by decide +kernel
theorem dX7_blockOf_2 : decode cX7_blockOf 2 = .ok (.iload_n 1, 1) := by decide +kernel
theorem dX7_blockOf_3 : decode cX7_blockOf 3 = .ok (.invokevirtual 116, 3) := by decide +kernel
theorem dX7_blockOf_6 : decode cX7_blockOf 6 = .ok (.ifCond .ne 7, 3) := by decide +kernel
theorem dX7_blockOf_9 : decode cX7_blockOf 9 = .ok (.iconst 1, 1) := by decide +kernel
theorem dX7_blockOf_10 : decode cX7_blockOf 10 = .ok (.goto 17, 3) := by decide +kernel
theorem dX7_blockOf_13 : decode cX7_blockOf 13 = .ok (.iload_n 2, 1) := by decide +kernel
theorem dX7_blockOf_14 : decode cX7_blockOf 14 = .ok (.iconst 0, 1) := by decide +kernel
theorem dX7_blockOf_15 : decode cX7_blockOf 15 = .ok (.iconst 5, 1) := by decide +kernel
theorem dX7_blockOf_16 : decode cX7_blockOf 16 = .ok (.invokestatic 51, 3) := by decide +kernel
theorem dX7_blockOf_19 : decode cX7_blockOf 19 = .ok (.ifCond .ne 7, 3) := by decide +kernel
theorem dX7_blockOf_22 : decode cX7_blockOf 22 = .ok (.iconst 2, 1) := by decide +kernel
theorem dX7_blockOf_23 : decode cX7_blockOf 23 = .ok (.goto 4, 3) := by decide +kernel
theorem dX7_blockOf_26 : decode cX7_blockOf 26 = .ok (.iconst 0, 1) := by decide +kernel
theorem dX7_blockOf_27 : decode cX7_blockOf 27 = .ok (.invokevirtual 97, 3) := by decide +kernel
theorem dX7_blockOf_30 : decode cX7_blockOf 30 = .ok (.ifCond .eq 12, 3) := by decide +kernel
theorem dX7_blockOf_33 : decode cX7_blockOf 33 = .ok (.aload_n 0, 1) := by decide +kernel
theorem dX7_blockOf_34 : decode cX7_blockOf 34 = .ok (.iload_n 1, 1) := by decide +kernel
theorem dX7_blockOf_35 : decode cX7_blockOf 35 = .ok (.iload_n 2, 1) := by decide +kernel
theorem dX7_blockOf_36 : decode cX7_blockOf 36 = .ok (.invokevirtual 176, 3) := by decide +kernel
theorem dX7_blockOf_39 : decode cX7_blockOf 39 = .ok (.goto 4, 3) := by decide +kernel
theorem dX7_blockOf_42 : decode cX7_blockOf 42 = .ok (.iconst 0, 1) := by decide +kernel
theorem dX7_blockOf_43 : decode cX7_blockOf 43 = .ok (.ireturn, 1) := by decide +kernel
theorem dX7_greatest_0 : decode cX7_greatest 0 = .ok (.iconst 0, 1) := by decide +kernel
theorem dX7_greatest_1 : decode cX7_greatest 1 = .ok (.istore_n 1, 1) := by decide +kernel
theorem dX7_greatest_2 : decode cX7_greatest 2 = .ok (.iconst 0, 1) := by decide +kernel
theorem dX7_greatest_3 : decode cX7_greatest 3 = .ok (.istore_n 2, 1) := by decide +kernel
theorem dX7_greatest_4 : decode cX7_greatest 4 = .ok (.iload_n 2, 1) := by decide +kernel
theorem dX7_greatest_5 : decode cX7_greatest 5 = .ok (.aload_n 0, 1) := by decide +kernel
theorem dX7_greatest_6 : decode cX7_greatest 6 = .ok (.getfield 7, 3) := by decide +kernel
theorem dX7_greatest_9 : decode cX7_greatest 9 = .ok (.iconst 0, 1) := by decide +kernel
theorem dX7_greatest_10 : decode cX7_greatest 10 = .ok (.iaload, 1) := by decide +kernel
theorem dX7_greatest_11 : decode cX7_greatest 11 = .ok (.if_icmp .ge 74, 3) := by decide +kernel
theorem dX7_greatest_14 : decode cX7_greatest 14 = .ok (.aload_n 0, 1) := by decide +kernel
theorem dX7_greatest_15 : decode cX7_greatest 15 = .ok (.getfield 7, 3) := by decide +kernel
theorem dX7_greatest_18 : decode cX7_greatest 18 = .ok (.bipush 7, 2) := by decide +kernel
theorem dX7_greatest_20 : decode cX7_greatest 20 = .ok (.iload_n 2, 1) := by decide +kernel
theorem dX7_greatest_21 : decode cX7_greatest 21 = .ok (.iadd, 1) := by decide +kernel
theorem dX7_greatest_22 : decode cX7_greatest 22 = .ok (.iaload, 1) := by decide +kernel
theorem dX7_greatest_23 : decode cX7_greatest 23 = .ok (.aload_n 0, 1) := by decide +kernel
theorem dX7_greatest_24 : decode cX7_greatest 24 = .ok (.getfield 29, 3) := by decide +kernel
theorem dX7_greatest_27 : decode cX7_greatest 27 = .ok (.iload_n 2, 1) := by decide +kernel
theorem dX7_greatest_28 : decode cX7_greatest 28 = .ok (.iaload, 1) := by decide +kernel
theorem dX7_greatest_29 : decode cX7_greatest 29 = .ok (.if_icmp .ge 22, 3) := by decide +kernel
theorem dX7_greatest_32 : decode cX7_greatest 32 = .ok (.aload_n 0, 1) := by decide +kernel
theorem dX7_greatest_33 : decode cX7_greatest 33 = .ok (.getfield 29, 3) := by decide +kernel
theorem dX7_greatest_36 : decode cX7_greatest 36 = .ok (.iload_n 2, 1) := by decide +kernel
theorem dX7_greatest_37 : decode cX7_greatest 37 = .ok (.iaload, 1) := by decide +kernel
theorem dX7_greatest_38 : decode cX7_greatest 38 = .ok (.aload_n 0, 1) := by decide +kernel
theorem dX7_greatest_39 : decode cX7_greatest 39 = .ok (.getfield 7, 3) := by decide +kernel
theorem dX7_greatest_42 : decode cX7_greatest 42 = .ok (.bipush 7, 2) := by decide +kernel
theorem dX7_greatest_44 : decode cX7_greatest 44 = .ok (.iload_n 2, 1) := by decide +kernel
theorem dX7_greatest_45 : decode cX7_greatest 45 = .ok (.iadd, 1) := by decide +kernel
theorem dX7_greatest_46 : decode cX7_greatest 46 = .ok (.iaload, 1) := by decide +kernel
theorem dX7_greatest_47 : decode cX7_greatest 47 = .ok (.isub, 1) := by decide +kernel
theorem dX7_greatest_48 : decode cX7_greatest 48 = .ok (.goto 19, 3) := by decide +kernel
theorem dX7_greatest_51 : decode cX7_greatest 51 = .ok (.aload_n 0, 1) := by decide +kernel
theorem dX7_greatest_52 : decode cX7_greatest 52 = .ok (.getfield 7, 3) := by decide +kernel
theorem dX7_greatest_55 : decode cX7_greatest 55 = .ok (.bipush 7, 2) := by decide +kernel
theorem dX7_greatest_57 : decode cX7_greatest 57 = .ok (.iload_n 2, 1) := by decide +kernel
theorem dX7_greatest_58 : decode cX7_greatest 58 = .ok (.iadd, 1) := by decide +kernel
theorem dX7_greatest_59 : decode cX7_greatest 59 = .ok (.iaload, 1) := by decide +kernel
theorem dX7_greatest_60 : decode cX7_greatest 60 = .ok (.aload_n 0, 1) := by decide +kernel
theorem dX7_greatest_61 : decode cX7_greatest 61 = .ok (.getfield 29, 3) := by decide +kernel
theorem dX7_greatest_64 : decode cX7_greatest 64 = .ok (.iload_n 2, 1) := by decide +kernel
theorem dX7_greatest_65 : decode cX7_greatest 65 = .ok (.iaload, 1) := by decide +kernel
theorem dX7_greatest_66 : decode cX7_greatest 66 = .ok (.isub, 1) := by decide +kernel
theorem dX7_greatest_67 : decode cX7_greatest 67 = .ok (.istore_n 3, 1) := by decide +kernel
theorem dX7_greatest_68 : decode cX7_greatest 68 = .ok (.iload_n 3, 1) := by decide +kernel
theorem dX7_greatest_69 : decode cX7_greatest 69 = .ok (.iload_n 1, 1) := by decide +kernel
theorem dX7_greatest_70 : decode cX7_greatest 70 = .ok (.if_icmp .le 7, 3) := by decide +kernel
theorem dX7_greatest_73 : decode cX7_greatest 73 = .ok (.iload_n 3, 1) := by decide +kernel
theorem dX7_greatest_74 : decode cX7_greatest 74 = .ok (.goto 4, 3) := by decide +kernel
theorem dX7_greatest_77 : decode cX7_greatest 77 = .ok (.iload_n 1, 1) := by decide +kernel
theorem dX7_greatest_78 : decode cX7_greatest 78 = .ok (.istore_n 1, 1) := by decide +kernel
theorem dX7_greatest_79 : decode cX7_greatest 79 = .ok (.iinc 2 1, 3) := by decide +kernel
theorem dX7_greatest_82 : decode cX7_greatest 82 = .ok (.goto (-78), 3) := by decide +kernel
theorem dX7_greatest_85 : decode cX7_greatest 85 = .ok (.iload_n 1, 1) := by decide +kernel
theorem dX7_greatest_86 : decode cX7_greatest 86 = .ok (.ireturn, 1) := by decide +kernel
theorem dX7_alike_0 : decode cX7_alike 0 = .ok (.iconst 0, 1) := by decide +kernel
theorem dX7_alike_1 : decode cX7_alike 1 = .ok (.istore_n 1, 1) := by decide +kernel
theorem dX7_alike_2 : decode cX7_alike 2 = .ok (.iconst 0, 1) := by decide +kernel
theorem dX7_alike_3 : decode cX7_alike 3 = .ok (.istore_n 2, 1) := by decide +kernel
theorem dX7_alike_4 : decode cX7_alike 4 = .ok (.iload_n 2, 1) := by decide +kernel
theorem dX7_alike_5 : decode cX7_alike 5 = .ok (.aload_n 0, 1) := by decide +kernel
theorem dX7_alike_6 : decode cX7_alike 6 = .ok (.getfield 7, 3) := by decide +kernel
theorem dX7_alike_9 : decode cX7_alike 9 = .ok (.iconst 0, 1) := by decide +kernel
theorem dX7_alike_10 : decode cX7_alike 10 = .ok (.iaload, 1) := by decide +kernel
theorem dX7_alike_11 : decode cX7_alike 11 = .ok (.if_icmp .ge 35, 3) := by decide +kernel
theorem dX7_alike_14 : decode cX7_alike 14 = .ok (.iload_n 1, 1) := by decide +kernel
theorem dX7_alike_15 : decode cX7_alike 15 = .ok (.aload_n 0, 1) := by decide +kernel
theorem dX7_alike_16 : decode cX7_alike 16 = .ok (.getfield 7, 3) := by decide +kernel
theorem dX7_alike_19 : decode cX7_alike 19 = .ok (.bipush 7, 2) := by decide +kernel
theorem dX7_alike_21 : decode cX7_alike 21 = .ok (.iload_n 2, 1) := by decide +kernel
theorem dX7_alike_22 : decode cX7_alike 22 = .ok (.iadd, 1) := by decide +kernel
theorem dX7_alike_23 : decode cX7_alike 23 = .ok (.iaload, 1) := by decide +kernel
theorem dX7_alike_24 : decode cX7_alike 24 = .ok (.aload_n 0, 1) := by decide +kernel
theorem dX7_alike_25 : decode cX7_alike 25 = .ok (.getfield 29, 3) := by decide +kernel
theorem dX7_alike_28 : decode cX7_alike 28 = .ok (.iload_n 2, 1) := by decide +kernel
theorem dX7_alike_29 : decode cX7_alike 29 = .ok (.iaload, 1) := by decide +kernel
theorem dX7_alike_30 : decode cX7_alike 30 = .ok (.if_icmp .ne 7, 3) := by decide +kernel
theorem dX7_alike_33 : decode cX7_alike 33 = .ok (.iconst 1, 1) := by decide +kernel
theorem dX7_alike_34 : decode cX7_alike 34 = .ok (.goto 4, 3) := by decide +kernel
theorem dX7_alike_37 : decode cX7_alike 37 = .ok (.iconst 0, 1) := by decide +kernel
theorem dX7_alike_38 : decode cX7_alike 38 = .ok (.iadd, 1) := by decide +kernel
theorem dX7_alike_39 : decode cX7_alike 39 = .ok (.istore_n 1, 1) := by decide +kernel
theorem dX7_alike_40 : decode cX7_alike 40 = .ok (.iinc 2 1, 3) := by decide +kernel
theorem dX7_alike_43 : decode cX7_alike 43 = .ok (.goto (-39), 3) := by decide +kernel
theorem dX7_alike_46 : decode cX7_alike 46 = .ok (.iload_n 1, 1) := by decide +kernel
theorem dX7_alike_47 : decode cX7_alike 47 = .ok (.ireturn, 1) := by decide +kernel
theorem dX7_errorOfAll_0 : decode cX7_errorOfAll 0 = .ok (.aload_n 0, 1) := by decide +kernel
theorem dX7_errorOfAll_1 : decode cX7_errorOfAll 1 = .ok (.invokevirtual 94, 3) := by decide +kernel
theorem dX7_errorOfAll_4 : decode cX7_errorOfAll 4 = .ok (.aload_n 0, 1) := by decide +kernel
theorem dX7_errorOfAll_5 : decode cX7_errorOfAll 5 = .ok (.iconst 0, 1) := by decide +kernel
theorem dX7_errorOfAll_6 : decode cX7_errorOfAll 6 = .ok (.aload_n 0, 1) := by decide +kernel
theorem dX7_errorOfAll_7 : decode cX7_errorOfAll 7 = .ok (.getfield 7, 3) := by decide +kernel
theorem dX7_errorOfAll_10 : decode cX7_errorOfAll 10 = .ok (.iconst 0, 1) := by decide +kernel
theorem dX7_errorOfAll_11 : decode cX7_errorOfAll 11 = .ok (.iaload, 1) := by decide +kernel
theorem dX7_errorOfAll_12 : decode cX7_errorOfAll 12 = .ok (.invokevirtual 173, 3) := by decide +kernel
theorem dX7_errorOfAll_15 : decode cX7_errorOfAll 15 = .ok (.ireturn, 1) := by decide +kernel
theorem dX7_counted_0 : decode cX7_counted 0 = .ok (.iload_n 1, 1) := by decide +kernel
theorem dX7_counted_1 : decode cX7_counted 1 = .ok (.iconst 4, 1) := by decide +kernel
theorem dX7_counted_2 : decode cX7_counted 2 = .ok (.bipush 8, 2) := by decide +kernel
theorem dX7_counted_4 : decode cX7_counted 4 = .ok (.invokestatic 51, 3) := by decide +kernel
theorem dX7_counted_7 : decode cX7_counted 7 = .ok (.ifCond .eq 12, 3) := by decide +kernel
theorem dX7_counted_10 : decode cX7_counted 10 = .ok (.aload_n 0, 1) := by decide +kernel
theorem dX7_counted_11 : decode cX7_counted 11 = .ok (.invokevirtual 55, 3) := by decide +kernel
theorem dX7_counted_14 : decode cX7_counted 14 = .ok (.ifCond .ne 5, 3) := by decide +kernel
theorem dX7_counted_17 : decode cX7_counted 17 = .ok (.iconst 0, 1) := by decide +kernel
theorem dX7_counted_18 : decode cX7_counted 18 = .ok (.ireturn, 1) := by decide +kernel
theorem dX7_counted_19 : decode cX7_counted 19 = .ok (.iload_n 1, 1) := by decide +kernel
theorem dX7_counted_20 : decode cX7_counted 20 = .ok (.tableswitch 144 0 10 #[60, 67, 74, 79, 84, 84, 89, 98, 107, 129, 136], 60) := by decide +kernel
theorem dX7_counted_80 : decode cX7_counted 80 = .ok (.aload_n 0, 1) := by decide +kernel
theorem dX7_counted_81 : decode cX7_counted 81 = .ok (.getfield 7, 3) := by decide +kernel
theorem dX7_counted_84 : decode cX7_counted 84 = .ok (.iconst 0, 1) := by decide +kernel
theorem dX7_counted_85 : decode cX7_counted 85 = .ok (.iaload, 1) := by decide +kernel
theorem dX7_counted_86 : decode cX7_counted 86 = .ok (.ireturn, 1) := by decide +kernel
theorem dX7_counted_87 : decode cX7_counted 87 = .ok (.aload_n 0, 1) := by decide +kernel
theorem dX7_counted_88 : decode cX7_counted 88 = .ok (.getfield 7, 3) := by decide +kernel
theorem dX7_counted_91 : decode cX7_counted 91 = .ok (.iconst 1, 1) := by decide +kernel
theorem dX7_counted_92 : decode cX7_counted 92 = .ok (.iaload, 1) := by decide +kernel
theorem dX7_counted_93 : decode cX7_counted 93 = .ok (.ireturn, 1) := by decide +kernel
theorem dX7_counted_94 : decode cX7_counted 94 = .ok (.aload_n 0, 1) := by decide +kernel
theorem dX7_counted_95 : decode cX7_counted 95 = .ok (.invokevirtual 59, 3) := by decide +kernel
theorem dX7_counted_98 : decode cX7_counted 98 = .ok (.ireturn, 1) := by decide +kernel
theorem dX7_counted_99 : decode cX7_counted 99 = .ok (.aload_n 0, 1) := by decide +kernel
theorem dX7_counted_100 : decode cX7_counted 100 = .ok (.invokevirtual 119, 3) := by decide +kernel
theorem dX7_counted_103 : decode cX7_counted 103 = .ok (.ireturn, 1) := by decide +kernel
theorem dX7_counted_104 : decode cX7_counted 104 = .ok (.aload_n 0, 1) := by decide +kernel
theorem dX7_counted_105 : decode cX7_counted 105 = .ok (.invokevirtual 179, 3) := by decide +kernel
theorem dX7_counted_108 : decode cX7_counted 108 = .ok (.ireturn, 1) := by decide +kernel
theorem dX7_counted_109 : decode cX7_counted 109 = .ok (.aload_n 0, 1) := by decide +kernel
theorem dX7_counted_110 : decode cX7_counted 110 = .ok (.invokevirtual 94, 3) := by decide +kernel
theorem dX7_counted_113 : decode cX7_counted 113 = .ok (.aload_n 0, 1) := by decide +kernel
theorem dX7_counted_114 : decode cX7_counted 114 = .ok (.invokevirtual 182, 3) := by decide +kernel
theorem dX7_counted_117 : decode cX7_counted 117 = .ok (.ireturn, 1) := by decide +kernel
theorem dX7_counted_118 : decode cX7_counted 118 = .ok (.aload_n 0, 1) := by decide +kernel
theorem dX7_counted_119 : decode cX7_counted 119 = .ok (.invokevirtual 94, 3) := by decide +kernel
theorem dX7_counted_122 : decode cX7_counted 122 = .ok (.aload_n 0, 1) := by decide +kernel
theorem dX7_counted_123 : decode cX7_counted 123 = .ok (.invokevirtual 185, 3) := by decide +kernel
theorem dX7_counted_126 : decode cX7_counted 126 = .ok (.ireturn, 1) := by decide +kernel
theorem dX7_counted_127 : decode cX7_counted 127 = .ok (.bipush 18, 2) := by decide +kernel
theorem dX7_counted_129 : decode cX7_counted 129 = .ok (.aload_n 0, 1) := by decide +kernel
theorem dX7_counted_130 : decode cX7_counted 130 = .ok (.invokevirtual 59, 3) := by decide +kernel
theorem dX7_counted_133 : decode cX7_counted 133 = .ok (.imul, 1) := by decide +kernel
theorem dX7_counted_134 : decode cX7_counted 134 = .ok (.iconst 4, 1) := by decide +kernel
theorem dX7_counted_135 : decode cX7_counted 135 = .ok (.aload_n 0, 1) := by decide +kernel
theorem dX7_counted_136 : decode cX7_counted 136 = .ok (.getfield 7, 3) := by decide +kernel
theorem dX7_counted_139 : decode cX7_counted 139 = .ok (.iconst 0, 1) := by decide +kernel
theorem dX7_counted_140 : decode cX7_counted 140 = .ok (.iaload, 1) := by decide +kernel
theorem dX7_counted_141 : decode cX7_counted 141 = .ok (.aload_n 0, 1) := by decide +kernel
theorem dX7_counted_142 : decode cX7_counted 142 = .ok (.invokevirtual 59, 3) := by decide +kernel
theorem dX7_counted_145 : decode cX7_counted 145 = .ok (.isub, 1) := by decide +kernel
theorem dX7_counted_146 : decode cX7_counted 146 = .ok (.imul, 1) := by decide +kernel
theorem dX7_counted_147 : decode cX7_counted 147 = .ok (.iadd, 1) := by decide +kernel
theorem dX7_counted_148 : decode cX7_counted 148 = .ok (.ireturn, 1) := by decide +kernel
theorem dX7_counted_149 : decode cX7_counted 149 = .ok (.aload_n 0, 1) := by decide +kernel
theorem dX7_counted_150 : decode cX7_counted 150 = .ok (.getfield 7, 3) := by decide +kernel
theorem dX7_counted_153 : decode cX7_counted 153 = .ok (.iconst 5, 1) := by decide +kernel
theorem dX7_counted_154 : decode cX7_counted 154 = .ok (.iaload, 1) := by decide +kernel
theorem dX7_counted_155 : decode cX7_counted 155 = .ok (.ireturn, 1) := by decide +kernel
theorem dX7_counted_156 : decode cX7_counted 156 = .ok (.aload_n 0, 1) := by decide +kernel
theorem dX7_counted_157 : decode cX7_counted 157 = .ok (.getfield 7, 3) := by decide +kernel
theorem dX7_counted_160 : decode cX7_counted 160 = .ok (.bipush 6, 2) := by decide +kernel
theorem dX7_counted_162 : decode cX7_counted 162 = .ok (.iaload, 1) := by decide +kernel
theorem dX7_counted_163 : decode cX7_counted 163 = .ok (.ireturn, 1) := by decide +kernel
theorem dX7_counted_164 : decode cX7_counted 164 = .ok (.aload_n 0, 1) := by decide +kernel
theorem dX7_counted_165 : decode cX7_counted 165 = .ok (.getfield 48, 3) := by decide +kernel
theorem dX7_counted_168 : decode cX7_counted 168 = .ok (.ireturn, 1) := by decide +kernel
theorem dX7_count_0 : decode cX7_count 0 = .ok (.aload_n 0, 1) := by decide +kernel
theorem dX7_count_1 : decode cX7_count 1 = .ok (.iload_n 1, 1) := by decide +kernel
theorem dX7_count_2 : decode cX7_count 2 = .ok (.iconst 0, 1) := by decide +kernel
theorem dX7_count_3 : decode cX7_count 3 = .ok (.bipush 11, 2) := by decide +kernel
theorem dX7_count_5 : decode cX7_count 5 = .ok (.invokestatic 51, 3) := by decide +kernel
theorem dX7_count_8 : decode cX7_count 8 = .ok (.ifCond .eq 7, 3) := by decide +kernel
theorem dX7_count_11 : decode cX7_count 11 = .ok (.iconst 0, 1) := by decide +kernel
theorem dX7_count_12 : decode cX7_count 12 = .ok (.goto 4, 3) := by decide +kernel
theorem dX7_count_15 : decode cX7_count 15 = .ok (.iconst 1, 1) := by decide +kernel
theorem dX7_count_16 : decode cX7_count 16 = .ok (.invokevirtual 97, 3) := by decide +kernel
theorem dX7_count_19 : decode cX7_count 19 = .ok (.ifCond .eq 11, 3) := by decide +kernel
theorem dX7_count_22 : decode cX7_count 22 = .ok (.aload_n 0, 1) := by decide +kernel
theorem dX7_count_23 : decode cX7_count 23 = .ok (.iload_n 1, 1) := by decide +kernel
theorem dX7_count_24 : decode cX7_count 24 = .ok (.invokevirtual 188, 3) := by decide +kernel
theorem dX7_count_27 : decode cX7_count 27 = .ok (.goto 4, 3) := by decide +kernel
theorem dX7_count_30 : decode cX7_count 30 = .ok (.iconst 0, 1) := by decide +kernel
theorem dX7_count_31 : decode cX7_count 31 = .ok (.ireturn, 1) := by decide +kernel
theorem dX7_setting_0 : decode cX7_setting 0 = .ok (.aload_n 0, 1) := by decide +kernel
theorem dX7_setting_1 : decode cX7_setting 1 = .ok (.iload_n 1, 1) := by decide +kernel
theorem dX7_setting_2 : decode cX7_setting 2 = .ok (.iconst 0, 1) := by decide +kernel
theorem dX7_setting_3 : decode cX7_setting 3 = .ok (.iconst 2, 1) := by decide +kernel
theorem dX7_setting_4 : decode cX7_setting 4 = .ok (.invokestatic 51, 3) := by decide +kernel
theorem dX7_setting_7 : decode cX7_setting 7 = .ok (.ifCond .eq 7, 3) := by decide +kernel
theorem dX7_setting_10 : decode cX7_setting 10 = .ok (.iconst 0, 1) := by decide +kernel
theorem dX7_setting_11 : decode cX7_setting 11 = .ok (.goto 4, 3) := by decide +kernel
theorem dX7_setting_14 : decode cX7_setting 14 = .ok (.iconst 1, 1) := by decide +kernel
theorem dX7_setting_15 : decode cX7_setting 15 = .ok (.invokevirtual 97, 3) := by decide +kernel
theorem dX7_setting_18 : decode cX7_setting 18 = .ok (.ifCond .eq 14, 3) := by decide +kernel
theorem dX7_setting_21 : decode cX7_setting 21 = .ok (.aload_n 0, 1) := by decide +kernel
theorem dX7_setting_22 : decode cX7_setting 22 = .ok (.getfield 7, 3) := by decide +kernel
theorem dX7_setting_25 : decode cX7_setting 25 = .ok (.iconst 2, 1) := by decide +kernel
theorem dX7_setting_26 : decode cX7_setting 26 = .ok (.iload_n 1, 1) := by decide +kernel
theorem dX7_setting_27 : decode cX7_setting 27 = .ok (.iadd, 1) := by decide +kernel
theorem dX7_setting_28 : decode cX7_setting 28 = .ok (.iaload, 1) := by decide +kernel
theorem dX7_setting_29 : decode cX7_setting 29 = .ok (.goto 4, 3) := by decide +kernel
theorem dX7_setting_32 : decode cX7_setting 32 = .ok (.iconst 0, 1) := by decide +kernel
theorem dX7_setting_33 : decode cX7_setting 33 = .ok (.ireturn, 1) := by decide +kernel
theorem dX7_ifCoded_0 : decode cX7_ifCoded 0 = .ok (.iload_n 1, 1) := by decide +kernel
theorem dX7_ifCoded_1 : decode cX7_ifCoded 1 = .ok (.sipush (-2048), 3) := by decide +kernel
theorem dX7_ifCoded_4 : decode cX7_ifCoded 4 = .ok (.sipush 2047, 3) := by decide +kernel
theorem dX7_ifCoded_7 : decode cX7_ifCoded 7 = .ok (.invokestatic 51, 3) := by decide +kernel
theorem dX7_ifCoded_10 : decode cX7_ifCoded 10 = .ok (.ifCond .eq 40, 3) := by decide +kernel
theorem dX7_ifCoded_13 : decode cX7_ifCoded 13 = .ok (.iload_n 2, 1) := by decide +kernel
theorem dX7_ifCoded_14 : decode cX7_ifCoded 14 = .ok (.iconst 0, 1) := by decide +kernel
theorem dX7_ifCoded_15 : decode cX7_ifCoded 15 = .ok (.bipush 48, 2) := by decide +kernel
theorem dX7_ifCoded_17 : decode cX7_ifCoded 17 = .ok (.invokestatic 51, 3) := by decide +kernel
theorem dX7_ifCoded_20 : decode cX7_ifCoded 20 = .ok (.ifCond .eq 30, 3) := by decide +kernel
theorem dX7_ifCoded_23 : decode cX7_ifCoded 23 = .ok (.iload_n 3, 1) := by decide +kernel
theorem dX7_ifCoded_24 : decode cX7_ifCoded 24 = .ok (.sipush (-2048), 3) := by decide +kernel
theorem dX7_ifCoded_27 : decode cX7_ifCoded 27 = .ok (.sipush 2047, 3) := by decide +kernel
theorem dX7_ifCoded_30 : decode cX7_ifCoded 30 = .ok (.invokestatic 51, 3) := by decide +kernel
theorem dX7_ifCoded_33 : decode cX7_ifCoded 33 = .ok (.ifCond .eq 17, 3) := by decide +kernel
theorem dX7_ifCoded_36 : decode cX7_ifCoded 36 = .ok (.iload 4, 2) := by decide +kernel
theorem dX7_ifCoded_38 : decode cX7_ifCoded 38 = .ok (.iconst 0, 1) := by decide +kernel
theorem dX7_ifCoded_39 : decode cX7_ifCoded 39 = .ok (.iconst 2, 1) := by decide +kernel
theorem dX7_ifCoded_40 : decode cX7_ifCoded 40 = .ok (.invokestatic 51, 3) := by decide +kernel
theorem dX7_ifCoded_43 : decode cX7_ifCoded 43 = .ok (.ifCond .eq 7, 3) := by decide +kernel
theorem dX7_ifCoded_46 : decode cX7_ifCoded 46 = .ok (.iconst 1, 1) := by decide +kernel
theorem dX7_ifCoded_47 : decode cX7_ifCoded 47 = .ok (.goto 4, 3) := by decide +kernel
theorem dX7_ifCoded_50 : decode cX7_ifCoded 50 = .ok (.iconst 0, 1) := by decide +kernel
theorem dX7_ifCoded_51 : decode cX7_ifCoded 51 = .ok (.istore 5, 2) := by decide +kernel
theorem dX7_ifCoded_53 : decode cX7_ifCoded 53 = .ok (.aload_n 0, 1) := by decide +kernel
theorem dX7_ifCoded_54 : decode cX7_ifCoded 54 = .ok (.iload 5, 2) := by decide +kernel
theorem dX7_ifCoded_56 : decode cX7_ifCoded 56 = .ok (.ifCond .eq 7, 3) := by decide +kernel
theorem dX7_ifCoded_59 : decode cX7_ifCoded 59 = .ok (.iconst 0, 1) := by decide +kernel
theorem dX7_ifCoded_60 : decode cX7_ifCoded 60 = .ok (.goto 4, 3) := by decide +kernel
theorem dX7_ifCoded_63 : decode cX7_ifCoded 63 = .ok (.iconst 1, 1) := by decide +kernel
theorem dX7_ifCoded_64 : decode cX7_ifCoded 64 = .ok (.invokevirtual 97, 3) := by decide +kernel
theorem dX7_ifCoded_67 : decode cX7_ifCoded 67 = .ok (.ifCond .ne 5, 3) := by decide +kernel
theorem dX7_ifCoded_70 : decode cX7_ifCoded 70 = .ok (.iconst 0, 1) := by decide +kernel
theorem dX7_ifCoded_71 : decode cX7_ifCoded 71 = .ok (.ireturn, 1) := by decide +kernel
theorem dX7_ifCoded_72 : decode cX7_ifCoded 72 = .ok (.aload_n 0, 1) := by decide +kernel
theorem dX7_ifCoded_73 : decode cX7_ifCoded 73 = .ok (.iload_n 1, 1) := by decide +kernel
theorem dX7_ifCoded_74 : decode cX7_ifCoded 74 = .ok (.iload_n 2, 1) := by decide +kernel
theorem dX7_ifCoded_75 : decode cX7_ifCoded 75 = .ok (.iload_n 3, 1) := by decide +kernel
theorem dX7_ifCoded_76 : decode cX7_ifCoded 76 = .ok (.invokevirtual 71, 3) := by decide +kernel
theorem dX7_ifCoded_79 : decode cX7_ifCoded 79 = .ok (.istore 6, 2) := by decide +kernel
theorem dX7_ifCoded_81 : decode cX7_ifCoded 81 = .ok (.iload 4, 2) := by decide +kernel
theorem dX7_ifCoded_83 : decode cX7_ifCoded 83 = .ok (.ifCond .ne 8, 3) := by decide +kernel
theorem dX7_ifCoded_86 : decode cX7_ifCoded 86 = .ok (.iload 6, 2) := by decide +kernel
theorem dX7_ifCoded_88 : decode cX7_ifCoded 88 = .ok (.goto 30, 3) := by decide +kernel
theorem dX7_ifCoded_91 : decode cX7_ifCoded 91 = .ok (.iload 4, 2) := by decide +kernel
theorem dX7_ifCoded_93 : decode cX7_ifCoded 93 = .ok (.iconst 1, 1) := by decide +kernel
theorem dX7_ifCoded_94 : decode cX7_ifCoded 94 = .ok (.if_icmp .ne 18, 3) := by decide +kernel
theorem dX7_ifCoded_97 : decode cX7_ifCoded 97 = .ok (.aload_n 0, 1) := by decide +kernel
theorem dX7_ifCoded_98 : decode cX7_ifCoded 98 = .ok (.iload_n 1, 1) := by decide +kernel
theorem dX7_ifCoded_99 : decode cX7_ifCoded 99 = .ok (.iload_n 2, 1) := by decide +kernel
theorem dX7_ifCoded_100 : decode cX7_ifCoded 100 = .ok (.iload 6, 2) := by decide +kernel
theorem dX7_ifCoded_102 : decode cX7_ifCoded 102 = .ok (.invokevirtual 75, 3) := by decide +kernel
theorem dX7_ifCoded_105 : decode cX7_ifCoded 105 = .ok (.sipush 10000, 3) := by decide +kernel
theorem dX7_ifCoded_108 : decode cX7_ifCoded 108 = .ok (.iadd, 1) := by decide +kernel
theorem dX7_ifCoded_109 : decode cX7_ifCoded 109 = .ok (.goto 9, 3) := by decide +kernel
theorem dX7_ifCoded_112 : decode cX7_ifCoded 112 = .ok (.iload_n 2, 1) := by decide +kernel
theorem dX7_ifCoded_113 : decode cX7_ifCoded 113 = .ok (.iload 6, 2) := by decide +kernel
theorem dX7_ifCoded_115 : decode cX7_ifCoded 115 = .ok (.invokestatic 78, 3) := by decide +kernel
theorem dX7_ifCoded_118 : decode cX7_ifCoded 118 = .ok (.ireturn, 1) := by decide +kernel
theorem dX7_areSamples_0 : decode cX7_areSamples 0 = .ok (.aload_n 0, 1) := by decide +kernel
theorem dX7_areSamples_1 : decode cX7_areSamples 1 = .ok (.iload_n 1, 1) := by decide +kernel
theorem dX7_areSamples_2 : decode cX7_areSamples 2 = .ok (.invokevirtual 63, 3) := by decide +kernel
theorem dX7_areSamples_5 : decode cX7_areSamples 5 = .ok (.ifCond .eq 23, 3) := by decide +kernel
theorem dX7_areSamples_8 : decode cX7_areSamples 8 = .ok (.iload_n 2, 1) := by decide +kernel
theorem dX7_areSamples_9 : decode cX7_areSamples 9 = .ok (.iconst 1, 1) := by decide +kernel
theorem dX7_areSamples_10 : decode cX7_areSamples 10 = .ok (.aload_n 0, 1) := by decide +kernel
theorem dX7_areSamples_11 : decode cX7_areSamples 11 = .ok (.getfield 7, 3) := by decide +kernel
theorem dX7_areSamples_14 : decode cX7_areSamples 14 = .ok (.iconst 0, 1) := by decide +kernel
theorem dX7_areSamples_15 : decode cX7_areSamples 15 = .ok (.iaload, 1) := by decide +kernel
theorem dX7_areSamples_16 : decode cX7_areSamples 16 = .ok (.iload_n 1, 1) := by decide +kernel
theorem dX7_areSamples_17 : decode cX7_areSamples 17 = .ok (.isub, 1) := by decide +kernel
theorem dX7_areSamples_18 : decode cX7_areSamples 18 = .ok (.invokestatic 51, 3) := by decide +kernel
theorem dX7_areSamples_21 : decode cX7_areSamples 21 = .ok (.ifCond .eq 7, 3) := by decide +kernel
theorem dX7_areSamples_24 : decode cX7_areSamples 24 = .ok (.iconst 1, 1) := by decide +kernel
theorem dX7_areSamples_25 : decode cX7_areSamples 25 = .ok (.goto 4, 3) := by decide +kernel
theorem dX7_areSamples_28 : decode cX7_areSamples 28 = .ok (.iconst 0, 1) := by decide +kernel
theorem dX7_areSamples_29 : decode cX7_areSamples 29 = .ok (.ireturn, 1) := by decide +kernel
theorem dX7_ifBlock_0 : decode cX7_ifBlock 0 = .ok (.aload_n 0, 1) := by decide +kernel
theorem dX7_ifBlock_1 : decode cX7_ifBlock 1 = .ok (.aload_n 0, 1) := by decide +kernel
theorem dX7_ifBlock_2 : decode cX7_ifBlock 2 = .ok (.iload_n 1, 1) := by decide +kernel
theorem dX7_ifBlock_3 : decode cX7_ifBlock 3 = .ok (.iload_n 2, 1) := by decide +kernel
theorem dX7_ifBlock_4 : decode cX7_ifBlock 4 = .ok (.invokevirtual 191, 3) := by decide +kernel
theorem dX7_ifBlock_7 : decode cX7_ifBlock 7 = .ok (.ifCond .ne 7, 3) := by decide +kernel
theorem dX7_ifBlock_10 : decode cX7_ifBlock 10 = .ok (.iconst 1, 1) := by decide +kernel
theorem dX7_ifBlock_11 : decode cX7_ifBlock 11 = .ok (.goto 18, 3) := by decide +kernel
theorem dX7_ifBlock_14 : decode cX7_ifBlock 14 = .ok (.iload_n 3, 1) := by decide +kernel
theorem dX7_ifBlock_15 : decode cX7_ifBlock 15 = .ok (.iconst 0, 1) := by decide +kernel
theorem dX7_ifBlock_16 : decode cX7_ifBlock 16 = .ok (.bipush 48, 2) := by decide +kernel
theorem dX7_ifBlock_18 : decode cX7_ifBlock 18 = .ok (.invokestatic 51, 3) := by decide +kernel
theorem dX7_ifBlock_21 : decode cX7_ifBlock 21 = .ok (.ifCond .ne 7, 3) := by decide +kernel
theorem dX7_ifBlock_24 : decode cX7_ifBlock 24 = .ok (.iconst 2, 1) := by decide +kernel
theorem dX7_ifBlock_25 : decode cX7_ifBlock 25 = .ok (.goto 4, 3) := by decide +kernel
theorem dX7_ifBlock_28 : decode cX7_ifBlock 28 = .ok (.iconst 0, 1) := by decide +kernel
theorem dX7_ifBlock_29 : decode cX7_ifBlock 29 = .ok (.invokevirtual 97, 3) := by decide +kernel
theorem dX7_ifBlock_32 : decode cX7_ifBlock 32 = .ok (.ifCond .eq 13, 3) := by decide +kernel
theorem dX7_ifBlock_35 : decode cX7_ifBlock 35 = .ok (.aload_n 0, 1) := by decide +kernel
theorem dX7_ifBlock_36 : decode cX7_ifBlock 36 = .ok (.iload_n 1, 1) := by decide +kernel
theorem dX7_ifBlock_37 : decode cX7_ifBlock 37 = .ok (.iload_n 2, 1) := by decide +kernel
theorem dX7_ifBlock_38 : decode cX7_ifBlock 38 = .ok (.iload_n 3, 1) := by decide +kernel
theorem dX7_ifBlock_39 : decode cX7_ifBlock 39 = .ok (.invokevirtual 85, 3) := by decide +kernel
theorem dX7_ifBlock_42 : decode cX7_ifBlock 42 = .ok (.goto 4, 3) := by decide +kernel
theorem dX7_ifBlock_45 : decode cX7_ifBlock 45 = .ok (.iconst 0, 1) := by decide +kernel
theorem dX7_ifBlock_46 : decode cX7_ifBlock 46 = .ok (.ireturn, 1) := by decide +kernel
theorem dX7_bestStep_0 : decode cX7_bestStep 0 = .ok (.aload_n 0, 1) := by decide +kernel
theorem dX7_bestStep_1 : decode cX7_bestStep 1 = .ok (.aload_n 0, 1) := by decide +kernel
theorem dX7_bestStep_2 : decode cX7_bestStep 2 = .ok (.iload_n 1, 1) := by decide +kernel
theorem dX7_bestStep_3 : decode cX7_bestStep 3 = .ok (.iload_n 2, 1) := by decide +kernel
theorem dX7_bestStep_4 : decode cX7_bestStep 4 = .ok (.invokevirtual 191, 3) := by decide +kernel
theorem dX7_bestStep_7 : decode cX7_bestStep 7 = .ok (.ifCond .eq 7, 3) := by decide +kernel
theorem dX7_bestStep_10 : decode cX7_bestStep 10 = .ok (.iconst 0, 1) := by decide +kernel
theorem dX7_bestStep_11 : decode cX7_bestStep 11 = .ok (.goto 4, 3) := by decide +kernel
theorem dX7_bestStep_14 : decode cX7_bestStep 14 = .ok (.iconst 1, 1) := by decide +kernel
theorem dX7_bestStep_15 : decode cX7_bestStep 15 = .ok (.invokevirtual 97, 3) := by decide +kernel
theorem dX7_bestStep_18 : decode cX7_bestStep 18 = .ok (.ifCond .eq 12, 3) := by decide +kernel
theorem dX7_bestStep_21 : decode cX7_bestStep 21 = .ok (.aload_n 0, 1) := by decide +kernel
theorem dX7_bestStep_22 : decode cX7_bestStep 22 = .ok (.iload_n 1, 1) := by decide +kernel
theorem dX7_bestStep_23 : decode cX7_bestStep 23 = .ok (.iload_n 2, 1) := by decide +kernel
theorem dX7_bestStep_24 : decode cX7_bestStep 24 = .ok (.invokevirtual 110, 3) := by decide +kernel
theorem dX7_bestStep_27 : decode cX7_bestStep 27 = .ok (.goto 4, 3) := by decide +kernel
theorem dX7_bestStep_30 : decode cX7_bestStep 30 = .ok (.iconst 0, 1) := by decide +kernel
theorem dX7_bestStep_31 : decode cX7_bestStep 31 = .ok (.ireturn, 1) := by decide +kernel
theorem dX7_spreads_0 : decode cX7_spreads 0 = .ok (.aload_n 0, 1) := by decide +kernel
theorem dX7_spreads_1 : decode cX7_spreads 1 = .ok (.invokevirtual 157, 3) := by decide +kernel
theorem dX7_spreads_4 : decode cX7_spreads 4 = .ok (.aload_n 0, 1) := by decide +kernel
theorem dX7_spreads_5 : decode cX7_spreads 5 = .ok (.getfield 7, 3) := by decide +kernel
theorem dX7_spreads_8 : decode cX7_spreads 8 = .ok (.bipush 71, 2) := by decide +kernel
theorem dX7_spreads_10 : decode cX7_spreads 10 = .ok (.iload_n 1, 1) := by decide +kernel
theorem dX7_spreads_11 : decode cX7_spreads 11 = .ok (.iadd, 1) := by decide +kernel
theorem dX7_spreads_12 : decode cX7_spreads 12 = .ok (.dup2, 1) := by decide +kernel
theorem dX7_spreads_13 : decode cX7_spreads 13 = .ok (.iaload, 1) := by decide +kernel
theorem dX7_spreads_14 : decode cX7_spreads 14 = .ok (.iconst 1, 1) := by decide +kernel
theorem dX7_spreads_15 : decode cX7_spreads 15 = .ok (.iload_n 2, 1) := by decide +kernel
theorem dX7_spreads_16 : decode cX7_spreads 16 = .ok (.ishl, 1) := by decide +kernel
theorem dX7_spreads_17 : decode cX7_spreads 17 = .ok (.ixor, 1) := by decide +kernel
theorem dX7_spreads_18 : decode cX7_spreads 18 = .ok (.iastore, 1) := by decide +kernel
theorem dX7_spreads_19 : decode cX7_spreads 19 = .ok (.aload_n 0, 1) := by decide +kernel
theorem dX7_spreads_20 : decode cX7_spreads 20 = .ok (.invokevirtual 160, 3) := by decide +kernel
theorem dX7_spreads_23 : decode cX7_spreads 23 = .ok (.istore_n 3, 1) := by decide +kernel
theorem dX7_spreads_24 : decode cX7_spreads 24 = .ok (.aload_n 0, 1) := by decide +kernel
theorem dX7_spreads_25 : decode cX7_spreads 25 = .ok (.getfield 7, 3) := by decide +kernel
theorem dX7_spreads_28 : decode cX7_spreads 28 = .ok (.bipush 71, 2) := by decide +kernel
theorem dX7_spreads_30 : decode cX7_spreads 30 = .ok (.iload_n 1, 1) := by decide +kernel
theorem dX7_spreads_31 : decode cX7_spreads 31 = .ok (.iadd, 1) := by decide +kernel
theorem dX7_spreads_32 : decode cX7_spreads 32 = .ok (.dup2, 1) := by decide +kernel
theorem dX7_spreads_33 : decode cX7_spreads 33 = .ok (.iaload, 1) := by decide +kernel
theorem dX7_spreads_34 : decode cX7_spreads 34 = .ok (.iconst 1, 1) := by decide +kernel
theorem dX7_spreads_35 : decode cX7_spreads 35 = .ok (.iload_n 2, 1) := by decide +kernel
theorem dX7_spreads_36 : decode cX7_spreads 36 = .ok (.ishl, 1) := by decide +kernel
theorem dX7_spreads_37 : decode cX7_spreads 37 = .ok (.ixor, 1) := by decide +kernel
theorem dX7_spreads_38 : decode cX7_spreads 38 = .ok (.iastore, 1) := by decide +kernel
theorem dX7_spreads_39 : decode cX7_spreads 39 = .ok (.iload_n 3, 1) := by decide +kernel
theorem dX7_spreads_40 : decode cX7_spreads 40 = .ok (.ireturn, 1) := by decide +kernel
theorem dX7_ifSpoiled_0 : decode cX7_ifSpoiled 0 = .ok (.aload_n 0, 1) := by decide +kernel
theorem dX7_ifSpoiled_1 : decode cX7_ifSpoiled 1 = .ok (.aload_n 0, 1) := by decide +kernel
theorem dX7_ifSpoiled_2 : decode cX7_ifSpoiled 2 = .ok (.iload_n 1, 1) := by decide +kernel
theorem dX7_ifSpoiled_3 : decode cX7_ifSpoiled 3 = .ok (.invokevirtual 122, 3) := by decide +kernel
theorem dX7_ifSpoiled_6 : decode cX7_ifSpoiled 6 = .ok (.ifCond .ne 7, 3) := by decide +kernel
theorem dX7_ifSpoiled_9 : decode cX7_ifSpoiled 9 = .ok (.iconst 1, 1) := by decide +kernel
theorem dX7_ifSpoiled_10 : decode cX7_ifSpoiled 10 = .ok (.goto 17, 3) := by decide +kernel
theorem dX7_ifSpoiled_13 : decode cX7_ifSpoiled 13 = .ok (.iload_n 2, 1) := by decide +kernel
theorem dX7_ifSpoiled_14 : decode cX7_ifSpoiled 14 = .ok (.iconst 0, 1) := by decide +kernel
theorem dX7_ifSpoiled_15 : decode cX7_ifSpoiled 15 = .ok (.iconst 3, 1) := by decide +kernel
theorem dX7_ifSpoiled_16 : decode cX7_ifSpoiled 16 = .ok (.invokestatic 51, 3) := by decide +kernel
theorem dX7_ifSpoiled_19 : decode cX7_ifSpoiled 19 = .ok (.ifCond .ne 7, 3) := by decide +kernel
theorem dX7_ifSpoiled_22 : decode cX7_ifSpoiled 22 = .ok (.iconst 2, 1) := by decide +kernel
theorem dX7_ifSpoiled_23 : decode cX7_ifSpoiled 23 = .ok (.goto 4, 3) := by decide +kernel
theorem dX7_ifSpoiled_26 : decode cX7_ifSpoiled 26 = .ok (.iconst 0, 1) := by decide +kernel
theorem dX7_ifSpoiled_27 : decode cX7_ifSpoiled 27 = .ok (.invokevirtual 97, 3) := by decide +kernel
theorem dX7_ifSpoiled_30 : decode cX7_ifSpoiled 30 = .ok (.ifCond .eq 12, 3) := by decide +kernel
theorem dX7_ifSpoiled_33 : decode cX7_ifSpoiled 33 = .ok (.aload_n 0, 1) := by decide +kernel
theorem dX7_ifSpoiled_34 : decode cX7_ifSpoiled 34 = .ok (.iload_n 1, 1) := by decide +kernel
theorem dX7_ifSpoiled_35 : decode cX7_ifSpoiled 35 = .ok (.iload_n 2, 1) := by decide +kernel
theorem dX7_ifSpoiled_36 : decode cX7_ifSpoiled 36 = .ok (.invokevirtual 194, 3) := by decide +kernel
theorem dX7_ifSpoiled_39 : decode cX7_ifSpoiled 39 = .ok (.goto 4, 3) := by decide +kernel
theorem dX7_ifSpoiled_42 : decode cX7_ifSpoiled 42 = .ok (.iconst 0, 1) := by decide +kernel
theorem dX7_ifSpoiled_43 : decode cX7_ifSpoiled 43 = .ok (.ireturn, 1) := by decide +kernel
theorem dX7_mean_0 : decode cX7_mean 0 = .ok (.aload_n 0, 1) := by decide +kernel
theorem dX7_mean_1 : decode cX7_mean 1 = .ok (.invokevirtual 55, 3) := by decide +kernel
theorem dX7_mean_4 : decode cX7_mean 4 = .ok (.ifCond .eq 19, 3) := by decide +kernel
theorem dX7_mean_7 : decode cX7_mean 7 = .ok (.aload_n 0, 1) := by decide +kernel
theorem dX7_mean_8 : decode cX7_mean 8 = .ok (.invokevirtual 179, 3) := by decide +kernel
theorem dX7_mean_11 : decode cX7_mean 11 = .ok (.i2d, 1) := by decide +kernel
theorem dX7_mean_12 : decode cX7_mean 12 = .ok (.aload_n 0, 1) := by decide +kernel
theorem dX7_mean_13 : decode cX7_mean 13 = .ok (.getfield 7, 3) := by decide +kernel
theorem dX7_mean_16 : decode cX7_mean 16 = .ok (.iconst 0, 1) := by decide +kernel
theorem dX7_mean_17 : decode cX7_mean 17 = .ok (.iaload, 1) := by decide +kernel
theorem dX7_mean_18 : decode cX7_mean 18 = .ok (.i2d, 1) := by decide +kernel
theorem dX7_mean_19 : decode cX7_mean 19 = .ok (.ddiv, 1) := by decide +kernel
theorem dX7_mean_20 : decode cX7_mean 20 = .ok (.goto 4, 3) := by decide +kernel
theorem dX7_mean_23 : decode cX7_mean 23 = .ok (.dconst 0, 1) := by decide +kernel
theorem dX7_mean_24 : decode cX7_mean 24 = .ok (.dreturn, 1) := by decide +kernel
theorem dX7_meanSquare_0 : decode cX7_meanSquare 0 = .ok (.aload_n 0, 1) := by decide +kernel
theorem dX7_meanSquare_1 : decode cX7_meanSquare 1 = .ok (.iconst 0, 1) := by decide +kernel
theorem dX7_meanSquare_2 : decode cX7_meanSquare 2 = .ok (.putfield 44, 3) := by decide +kernel
theorem dX7_meanSquare_5 : decode cX7_meanSquare 5 = .ok (.aload_n 0, 1) := by decide +kernel
theorem dX7_meanSquare_6 : decode cX7_meanSquare 6 = .ok (.invokevirtual 197, 3) := by decide +kernel
theorem dX7_meanSquare_9 : decode cX7_meanSquare 9 = .ok (.dreturn, 1) := by decide +kernel
theorem dX7_loud_0 : decode cX7_loud 0 = .ok (.aload_n 0, 1) := by decide +kernel
theorem dX7_loud_1 : decode cX7_loud 1 = .ok (.invokevirtual 55, 3) := by decide +kernel
theorem dX7_loud_4 : decode cX7_loud 4 = .ok (.ifCond .ne 5, 3) := by decide +kernel
theorem dX7_loud_7 : decode cX7_loud 7 = .ok (.fconst 0, 1) := by decide +kernel
theorem dX7_loud_8 : decode cX7_loud 8 = .ok (.freturn, 1) := by decide +kernel
theorem dX7_loud_9 : decode cX7_loud 9 = .ok (.aload_n 0, 1) := by decide +kernel
theorem dX7_loud_10 : decode cX7_loud 10 = .ok (.invokevirtual 179, 3) := by decide +kernel
theorem dX7_loud_13 : decode cX7_loud 13 = .ok (.istore_n 1, 1) := by decide +kernel
theorem dX7_loud_14 : decode cX7_loud 14 = .ok (.iconst 0, 1) := by decide +kernel
theorem dX7_loud_15 : decode cX7_loud 15 = .ok (.istore_n 2, 1) := by decide +kernel
theorem dX7_loud_16 : decode cX7_loud 16 = .ok (.iconst 0, 1) := by decide +kernel
theorem dX7_loud_17 : decode cX7_loud 17 = .ok (.istore_n 3, 1) := by decide +kernel
theorem dX7_loud_18 : decode cX7_loud 18 = .ok (.iload_n 3, 1) := by decide +kernel
theorem dX7_loud_19 : decode cX7_loud 19 = .ok (.aload_n 0, 1) := by decide +kernel
theorem dX7_loud_20 : decode cX7_loud 20 = .ok (.getfield 7, 3) := by decide +kernel
theorem dX7_loud_23 : decode cX7_loud 23 = .ok (.iconst 0, 1) := by decide +kernel
theorem dX7_loud_24 : decode cX7_loud 24 = .ok (.iaload, 1) := by decide +kernel
theorem dX7_loud_25 : decode cX7_loud 25 = .ok (.if_icmp .ge 24, 3) := by decide +kernel
theorem dX7_loud_28 : decode cX7_loud 28 = .ok (.iload_n 2, 1) := by decide +kernel
theorem dX7_loud_29 : decode cX7_loud 29 = .ok (.aload_n 0, 1) := by decide +kernel
theorem dX7_loud_30 : decode cX7_loud 30 = .ok (.getfield 7, 3) := by decide +kernel
theorem dX7_loud_33 : decode cX7_loud 33 = .ok (.bipush 7, 2) := by decide +kernel
theorem dX7_loud_35 : decode cX7_loud 35 = .ok (.iload_n 3, 1) := by decide +kernel
theorem dX7_loud_36 : decode cX7_loud 36 = .ok (.iadd, 1) := by decide +kernel
theorem dX7_loud_37 : decode cX7_loud 37 = .ok (.iaload, 1) := by decide +kernel
theorem dX7_loud_38 : decode cX7_loud 38 = .ok (.invokestatic 82, 3) := by decide +kernel
theorem dX7_loud_41 : decode cX7_loud 41 = .ok (.iadd, 1) := by decide +kernel
theorem dX7_loud_42 : decode cX7_loud 42 = .ok (.istore_n 2, 1) := by decide +kernel
theorem dX7_loud_43 : decode cX7_loud 43 = .ok (.iinc 3 1, 3) := by decide +kernel
theorem dX7_loud_46 : decode cX7_loud 46 = .ok (.goto (-28), 3) := by decide +kernel
theorem dX7_loud_49 : decode cX7_loud 49 = .ok (.iload_n 1, 1) := by decide +kernel
theorem dX7_loud_50 : decode cX7_loud 50 = .ok (.ifCond .ne 8, 3) := by decide +kernel
theorem dX7_loud_53 : decode cX7_loud 53 = .ok (.ldc 201, 2) := by decide +kernel
theorem dX7_loud_55 : decode cX7_loud 55 = .ok (.goto 8, 3) := by decide +kernel
theorem dX7_loud_58 : decode cX7_loud 58 = .ok (.iload_n 2, 1) := by decide +kernel
theorem dX7_loud_59 : decode cX7_loud 59 = .ok (.i2f, 1) := by decide +kernel
theorem dX7_loud_60 : decode cX7_loud 60 = .ok (.iload_n 1, 1) := by decide +kernel
theorem dX7_loud_61 : decode cX7_loud 61 = .ok (.i2f, 1) := by decide +kernel
theorem dX7_loud_62 : decode cX7_loud 62 = .ok (.fdiv, 1) := by decide +kernel
theorem dX7_loud_63 : decode cX7_loud 63 = .ok (.freturn, 1) := by decide +kernel
theorem dX7_loudness_0 : decode cX7_loudness 0 = .ok (.aload_n 0, 1) := by decide +kernel
theorem dX7_loudness_1 : decode cX7_loudness 1 = .ok (.iconst 0, 1) := by decide +kernel
theorem dX7_loudness_2 : decode cX7_loudness 2 = .ok (.putfield 44, 3) := by decide +kernel
theorem dX7_loudness_5 : decode cX7_loudness 5 = .ok (.aload_n 0, 1) := by decide +kernel
theorem dX7_loudness_6 : decode cX7_loudness 6 = .ok (.invokevirtual 202, 3) := by decide +kernel
theorem dX7_loudness_9 : decode cX7_loudness 9 = .ok (.freturn, 1) := by decide +kernel
theorem dX7_bitsOf_0 : decode cX7_bitsOf 0 = .ok (.dload_n 0, 1) := by decide +kernel
theorem dX7_bitsOf_1 : decode cX7_bitsOf 1 = .ok (.dconst 0, 1) := by decide +kernel
theorem dX7_bitsOf_2 : decode cX7_bitsOf 2 = .ok (.dcmp .l, 1) := by decide +kernel
theorem dX7_bitsOf_3 : decode cX7_bitsOf 3 = .ok (.ifCond .ne 5, 3) := by decide +kernel
theorem dX7_bitsOf_6 : decode cX7_bitsOf 6 = .ok (.lconst 0, 1) := by decide +kernel
theorem dX7_bitsOf_7 : decode cX7_bitsOf 7 = .ok (.lreturn, 1) := by decide +kernel
theorem dX7_bitsOf_8 : decode cX7_bitsOf 8 = .ok (.ldc2_w 206, 3) := by decide +kernel
theorem dX7_bitsOf_11 : decode cX7_bitsOf 11 = .ok (.lstore_n 2, 1) := by decide +kernel
theorem dX7_bitsOf_12 : decode cX7_bitsOf 12 = .ok (.dload_n 0, 1) := by decide +kernel
theorem dX7_bitsOf_13 : decode cX7_bitsOf 13 = .ok (.dstore 4, 2) := by decide +kernel
theorem dX7_bitsOf_15 : decode cX7_bitsOf 15 = .ok (.dload 4, 2) := by decide +kernel
theorem dX7_bitsOf_17 : decode cX7_bitsOf 17 = .ok (.dconst 1, 1) := by decide +kernel
theorem dX7_bitsOf_18 : decode cX7_bitsOf 18 = .ok (.dcmp .g, 1) := by decide +kernel
theorem dX7_bitsOf_19 : decode cX7_bitsOf 19 = .ok (.ifCond .ge 18, 3) := by decide +kernel
theorem dX7_bitsOf_22 : decode cX7_bitsOf 22 = .ok (.dload 4, 2) := by decide +kernel
theorem dX7_bitsOf_24 : decode cX7_bitsOf 24 = .ok (.ldc2_w 208, 3) := by decide +kernel
theorem dX7_bitsOf_27 : decode cX7_bitsOf 27 = .ok (.dmul, 1) := by decide +kernel
theorem dX7_bitsOf_28 : decode cX7_bitsOf 28 = .ok (.dstore 4, 2) := by decide +kernel
theorem dX7_bitsOf_30 : decode cX7_bitsOf 30 = .ok (.lload_n 2, 1) := by decide +kernel
theorem dX7_bitsOf_31 : decode cX7_bitsOf 31 = .ok (.lconst 1, 1) := by decide +kernel
theorem dX7_bitsOf_32 : decode cX7_bitsOf 32 = .ok (.lsub, 1) := by decide +kernel
theorem dX7_bitsOf_33 : decode cX7_bitsOf 33 = .ok (.lstore_n 2, 1) := by decide +kernel
theorem dX7_bitsOf_34 : decode cX7_bitsOf 34 = .ok (.goto (-19), 3) := by decide +kernel
theorem dX7_bitsOf_37 : decode cX7_bitsOf 37 = .ok (.dload 4, 2) := by decide +kernel
theorem dX7_bitsOf_39 : decode cX7_bitsOf 39 = .ok (.ldc2_w 208, 3) := by decide +kernel
theorem dX7_bitsOf_42 : decode cX7_bitsOf 42 = .ok (.dcmp .l, 1) := by decide +kernel
theorem dX7_bitsOf_43 : decode cX7_bitsOf 43 = .ok (.ifCond .lt 18, 3) := by decide +kernel
theorem dX7_bitsOf_46 : decode cX7_bitsOf 46 = .ok (.dload 4, 2) := by decide +kernel
theorem dX7_bitsOf_48 : decode cX7_bitsOf 48 = .ok (.ldc2_w 210, 3) := by decide +kernel
theorem dX7_bitsOf_51 : decode cX7_bitsOf 51 = .ok (.dmul, 1) := by decide +kernel
theorem dX7_bitsOf_52 : decode cX7_bitsOf 52 = .ok (.dstore 4, 2) := by decide +kernel
theorem dX7_bitsOf_54 : decode cX7_bitsOf 54 = .ok (.lload_n 2, 1) := by decide +kernel
theorem dX7_bitsOf_55 : decode cX7_bitsOf 55 = .ok (.lconst 1, 1) := by decide +kernel
theorem dX7_bitsOf_56 : decode cX7_bitsOf 56 = .ok (.ladd, 1) := by decide +kernel
theorem dX7_bitsOf_57 : decode cX7_bitsOf 57 = .ok (.lstore_n 2, 1) := by decide +kernel
theorem dX7_bitsOf_58 : decode cX7_bitsOf 58 = .ok (.goto (-21), 3) := by decide +kernel
theorem dX7_bitsOf_61 : decode cX7_bitsOf 61 = .ok (.lload_n 2, 1) := by decide +kernel
theorem dX7_bitsOf_62 : decode cX7_bitsOf 62 = .ok (.ldc2_w 212, 3) := by decide +kernel
theorem dX7_bitsOf_65 : decode cX7_bitsOf 65 = .ok (.lmul, 1) := by decide +kernel
theorem dX7_bitsOf_66 : decode cX7_bitsOf 66 = .ok (.dload 4, 2) := by decide +kernel
theorem dX7_bitsOf_68 : decode cX7_bitsOf 68 = .ok (.dconst 1, 1) := by decide +kernel
theorem dX7_bitsOf_69 : decode cX7_bitsOf 69 = .ok (.dsub, 1) := by decide +kernel
theorem dX7_bitsOf_70 : decode cX7_bitsOf 70 = .ok (.ldc2_w 214, 3) := by decide +kernel
theorem dX7_bitsOf_73 : decode cX7_bitsOf 73 = .ok (.dmul, 1) := by decide +kernel
theorem dX7_bitsOf_74 : decode cX7_bitsOf 74 = .ok (.d2l, 1) := by decide +kernel
theorem dX7_bitsOf_75 : decode cX7_bitsOf 75 = .ok (.ladd, 1) := by decide +kernel
theorem dX7_bitsOf_76 : decode cX7_bitsOf 76 = .ok (.lreturn, 1) := by decide +kernel
theorem dX7_floatBitsOf_0 : decode cX7_floatBitsOf 0 = .ok (.fload_n 0, 1) := by decide +kernel
theorem dX7_floatBitsOf_1 : decode cX7_floatBitsOf 1 = .ok (.fconst 0, 1) := by decide +kernel
theorem dX7_floatBitsOf_2 : decode cX7_floatBitsOf 2 = .ok (.fcmp .l, 1) := by decide +kernel
theorem dX7_floatBitsOf_3 : decode cX7_floatBitsOf 3 = .ok (.ifCond .ne 5, 3) := by decide +kernel
theorem dX7_floatBitsOf_6 : decode cX7_floatBitsOf 6 = .ok (.iconst 0, 1) := by decide +kernel
theorem dX7_floatBitsOf_7 : decode cX7_floatBitsOf 7 = .ok (.ireturn, 1) := by decide +kernel
theorem dX7_floatBitsOf_8 : decode cX7_floatBitsOf 8 = .ok (.bipush 127, 2) := by decide +kernel
theorem dX7_floatBitsOf_10 : decode cX7_floatBitsOf 10 = .ok (.istore_n 1, 1) := by decide +kernel
theorem dX7_floatBitsOf_11 : decode cX7_floatBitsOf 11 = .ok (.fload_n 0, 1) := by decide +kernel
theorem dX7_floatBitsOf_12 : decode cX7_floatBitsOf 12 = .ok (.fconst 0, 1) := by decide +kernel
theorem dX7_floatBitsOf_13 : decode cX7_floatBitsOf 13 = .ok (.fcmp .g, 1) := by decide +kernel
theorem dX7_floatBitsOf_14 : decode cX7_floatBitsOf 14 = .ok (.ifCond .ge 8, 3) := by decide +kernel
theorem dX7_floatBitsOf_17 : decode cX7_floatBitsOf 17 = .ok (.fload_n 0, 1) := by decide +kernel
theorem dX7_floatBitsOf_18 : decode cX7_floatBitsOf 18 = .ok (.fneg, 1) := by decide +kernel
theorem dX7_floatBitsOf_19 : decode cX7_floatBitsOf 19 = .ok (.goto 4, 3) := by decide +kernel
theorem dX7_floatBitsOf_22 : decode cX7_floatBitsOf 22 = .ok (.fload_n 0, 1) := by decide +kernel
theorem dX7_floatBitsOf_23 : decode cX7_floatBitsOf 23 = .ok (.fstore_n 2, 1) := by decide +kernel
theorem dX7_floatBitsOf_24 : decode cX7_floatBitsOf 24 = .ok (.fload_n 2, 1) := by decide +kernel
theorem dX7_floatBitsOf_25 : decode cX7_floatBitsOf 25 = .ok (.fconst 1, 1) := by decide +kernel
theorem dX7_floatBitsOf_26 : decode cX7_floatBitsOf 26 = .ok (.fcmp .g, 1) := by decide +kernel
theorem dX7_floatBitsOf_27 : decode cX7_floatBitsOf 27 = .ok (.ifCond .ge 13, 3) := by decide +kernel
theorem dX7_floatBitsOf_30 : decode cX7_floatBitsOf 30 = .ok (.fload_n 2, 1) := by decide +kernel
theorem dX7_floatBitsOf_31 : decode cX7_floatBitsOf 31 = .ok (.fconst 2, 1) := by decide +kernel
theorem dX7_floatBitsOf_32 : decode cX7_floatBitsOf 32 = .ok (.fmul, 1) := by decide +kernel
theorem dX7_floatBitsOf_33 : decode cX7_floatBitsOf 33 = .ok (.fstore_n 2, 1) := by decide +kernel
theorem dX7_floatBitsOf_34 : decode cX7_floatBitsOf 34 = .ok (.iinc 1 (-1), 3) := by decide +kernel
theorem dX7_floatBitsOf_37 : decode cX7_floatBitsOf 37 = .ok (.goto (-13), 3) := by decide +kernel
theorem dX7_floatBitsOf_40 : decode cX7_floatBitsOf 40 = .ok (.fload_n 2, 1) := by decide +kernel
theorem dX7_floatBitsOf_41 : decode cX7_floatBitsOf 41 = .ok (.fconst 2, 1) := by decide +kernel
theorem dX7_floatBitsOf_42 : decode cX7_floatBitsOf 42 = .ok (.fcmp .l, 1) := by decide +kernel
theorem dX7_floatBitsOf_43 : decode cX7_floatBitsOf 43 = .ok (.ifCond .lt 14, 3) := by decide +kernel
theorem dX7_floatBitsOf_46 : decode cX7_floatBitsOf 46 = .ok (.fload_n 2, 1) := by decide +kernel
theorem dX7_floatBitsOf_47 : decode cX7_floatBitsOf 47 = .ok (.ldc 216, 2) := by decide +kernel
theorem dX7_floatBitsOf_49 : decode cX7_floatBitsOf 49 = .ok (.fmul, 1) := by decide +kernel
theorem dX7_floatBitsOf_50 : decode cX7_floatBitsOf 50 = .ok (.fstore_n 2, 1) := by decide +kernel
theorem dX7_floatBitsOf_51 : decode cX7_floatBitsOf 51 = .ok (.iinc 1 1, 3) := by decide +kernel
theorem dX7_floatBitsOf_54 : decode cX7_floatBitsOf 54 = .ok (.goto (-14), 3) := by decide +kernel
theorem dX7_floatBitsOf_57 : decode cX7_floatBitsOf 57 = .ok (.iload_n 1, 1) := by decide +kernel
theorem dX7_floatBitsOf_58 : decode cX7_floatBitsOf 58 = .ok (.ldc 217, 2) := by decide +kernel
theorem dX7_floatBitsOf_60 : decode cX7_floatBitsOf 60 = .ok (.imul, 1) := by decide +kernel
theorem dX7_floatBitsOf_61 : decode cX7_floatBitsOf 61 = .ok (.fload_n 2, 1) := by decide +kernel
theorem dX7_floatBitsOf_62 : decode cX7_floatBitsOf 62 = .ok (.fconst 1, 1) := by decide +kernel
theorem dX7_floatBitsOf_63 : decode cX7_floatBitsOf 63 = .ok (.fsub, 1) := by decide +kernel
theorem dX7_floatBitsOf_64 : decode cX7_floatBitsOf 64 = .ok (.ldc 218, 2) := by decide +kernel
theorem dX7_floatBitsOf_66 : decode cX7_floatBitsOf 66 = .ok (.fmul, 1) := by decide +kernel
theorem dX7_floatBitsOf_67 : decode cX7_floatBitsOf 67 = .ok (.f2i, 1) := by decide +kernel
theorem dX7_floatBitsOf_68 : decode cX7_floatBitsOf 68 = .ok (.iadd, 1) := by decide +kernel
theorem dX7_floatBitsOf_69 : decode cX7_floatBitsOf 69 = .ok (.istore_n 3, 1) := by decide +kernel
theorem dX7_floatBitsOf_70 : decode cX7_floatBitsOf 70 = .ok (.fload_n 0, 1) := by decide +kernel
theorem dX7_floatBitsOf_71 : decode cX7_floatBitsOf 71 = .ok (.fconst 0, 1) := by decide +kernel
theorem dX7_floatBitsOf_72 : decode cX7_floatBitsOf 72 = .ok (.fcmp .g, 1) := by decide +kernel
theorem dX7_floatBitsOf_73 : decode cX7_floatBitsOf 73 = .ok (.ifCond .ge 10, 3) := by decide +kernel
theorem dX7_floatBitsOf_76 : decode cX7_floatBitsOf 76 = .ok (.iload_n 3, 1) := by decide +kernel
theorem dX7_floatBitsOf_77 : decode cX7_floatBitsOf 77 = .ok (.ldc 219, 2) := by decide +kernel
theorem dX7_floatBitsOf_79 : decode cX7_floatBitsOf 79 = .ok (.ior, 1) := by decide +kernel
theorem dX7_floatBitsOf_80 : decode cX7_floatBitsOf 80 = .ok (.goto 4, 3) := by decide +kernel
theorem dX7_floatBitsOf_83 : decode cX7_floatBitsOf 83 = .ok (.iload_n 3, 1) := by decide +kernel
theorem dX7_floatBitsOf_84 : decode cX7_floatBitsOf 84 = .ok (.ireturn, 1) := by decide +kernel
theorem dX7_digestOne_0 : decode cX7_digestOne 0 = .ok (.aload_n 0, 1) := by decide +kernel
theorem dX7_digestOne_1 : decode cX7_digestOne 1 = .ok (.ldc2_w 220, 3) := by decide +kernel
theorem dX7_digestOne_4 : decode cX7_digestOne 4 = .ok (.aload_n 0, 1) := by decide +kernel
theorem dX7_digestOne_5 : decode cX7_digestOne 5 = .ok (.getfield 222, 3) := by decide +kernel
theorem dX7_digestOne_8 : decode cX7_digestOne 8 = .ok (.lmul, 1) := by decide +kernel
theorem dX7_digestOne_9 : decode cX7_digestOne 9 = .ok (.lload_n 1, 1) := by decide +kernel
theorem dX7_digestOne_10 : decode cX7_digestOne 10 = .ok (.ladd, 1) := by decide +kernel
theorem dX7_digestOne_11 : decode cX7_digestOne 11 = .ok (.putfield 222, 3) := by decide +kernel
theorem dX7_digestOne_14 : decode cX7_digestOne 14 = .ok (.return_, 1) := by decide +kernel
theorem dX7_digestWave_0 : decode cX7_digestWave 0 = .ok (.iconst 0, 1) := by decide +kernel
theorem dX7_digestWave_1 : decode cX7_digestWave 1 = .ok (.istore_n 1, 1) := by decide +kernel
theorem dX7_digestWave_2 : decode cX7_digestWave 2 = .ok (.iload_n 1, 1) := by decide +kernel
theorem dX7_digestWave_3 : decode cX7_digestWave 3 = .ok (.aload_n 0, 1) := by decide +kernel
theorem dX7_digestWave_4 : decode cX7_digestWave 4 = .ok (.getfield 7, 3) := by decide +kernel
theorem dX7_digestWave_7 : decode cX7_digestWave 7 = .ok (.iconst 0, 1) := by decide +kernel
theorem dX7_digestWave_8 : decode cX7_digestWave 8 = .ok (.iaload, 1) := by decide +kernel
theorem dX7_digestWave_9 : decode cX7_digestWave 9 = .ok (.if_icmp .ge 34, 3) := by decide +kernel
theorem dX7_digestWave_12 : decode cX7_digestWave 12 = .ok (.iconst 0, 1) := by decide +kernel
theorem dX7_digestWave_13 : decode cX7_digestWave 13 = .ok (.istore_n 2, 1) := by decide +kernel
theorem dX7_digestWave_14 : decode cX7_digestWave 14 = .ok (.iload_n 2, 1) := by decide +kernel
theorem dX7_digestWave_15 : decode cX7_digestWave 15 = .ok (.bipush 6, 2) := by decide +kernel
theorem dX7_digestWave_17 : decode cX7_digestWave 17 = .ok (.if_icmp .ge 20, 3) := by decide +kernel
theorem dX7_digestWave_20 : decode cX7_digestWave 20 = .ok (.aload_n 0, 1) := by decide +kernel
theorem dX7_digestWave_21 : decode cX7_digestWave 21 = .ok (.aload_n 0, 1) := by decide +kernel
theorem dX7_digestWave_22 : decode cX7_digestWave 22 = .ok (.iload_n 1, 1) := by decide +kernel
theorem dX7_digestWave_23 : decode cX7_digestWave 23 = .ok (.iload_n 2, 1) := by decide +kernel
theorem dX7_digestWave_24 : decode cX7_digestWave 24 = .ok (.invokevirtual 170, 3) := by decide +kernel
theorem dX7_digestWave_27 : decode cX7_digestWave 27 = .ok (.i2l, 1) := by decide +kernel
theorem dX7_digestWave_28 : decode cX7_digestWave 28 = .ok (.invokevirtual 226, 3) := by decide +kernel
theorem dX7_digestWave_31 : decode cX7_digestWave 31 = .ok (.iinc 2 1, 3) := by decide +kernel
theorem dX7_digestWave_34 : decode cX7_digestWave 34 = .ok (.goto (-20), 3) := by decide +kernel
theorem dX7_digestWave_37 : decode cX7_digestWave 37 = .ok (.iinc 1 1, 3) := by decide +kernel
theorem dX7_digestWave_40 : decode cX7_digestWave 40 = .ok (.goto (-38), 3) := by decide +kernel
theorem dX7_digestWave_43 : decode cX7_digestWave 43 = .ok (.iconst 0, 1) := by decide +kernel
theorem dX7_digestWave_44 : decode cX7_digestWave 44 = .ok (.istore_n 1, 1) := by decide +kernel
theorem dX7_digestWave_45 : decode cX7_digestWave 45 = .ok (.iload_n 1, 1) := by decide +kernel
theorem dX7_digestWave_46 : decode cX7_digestWave 46 = .ok (.aload_n 0, 1) := by decide +kernel
theorem dX7_digestWave_47 : decode cX7_digestWave 47 = .ok (.invokevirtual 59, 3) := by decide +kernel
theorem dX7_digestWave_50 : decode cX7_digestWave 50 = .ok (.if_icmp .ge 34, 3) := by decide +kernel
theorem dX7_digestWave_53 : decode cX7_digestWave 53 = .ok (.iconst 0, 1) := by decide +kernel
theorem dX7_digestWave_54 : decode cX7_digestWave 54 = .ok (.istore_n 2, 1) := by decide +kernel
theorem dX7_digestWave_55 : decode cX7_digestWave 55 = .ok (.iload_n 2, 1) := by decide +kernel
theorem dX7_digestWave_56 : decode cX7_digestWave 56 = .ok (.bipush 6, 2) := by decide +kernel
theorem dX7_digestWave_58 : decode cX7_digestWave 58 = .ok (.if_icmp .ge 20, 3) := by decide +kernel
theorem dX7_digestWave_61 : decode cX7_digestWave 61 = .ok (.aload_n 0, 1) := by decide +kernel
theorem dX7_digestWave_62 : decode cX7_digestWave 62 = .ok (.aload_n 0, 1) := by decide +kernel
theorem dX7_digestWave_63 : decode cX7_digestWave 63 = .ok (.iload_n 1, 1) := by decide +kernel
theorem dX7_digestWave_64 : decode cX7_digestWave 64 = .ok (.iload_n 2, 1) := by decide +kernel
theorem dX7_digestWave_65 : decode cX7_digestWave 65 = .ok (.invokevirtual 176, 3) := by decide +kernel
theorem dX7_digestWave_68 : decode cX7_digestWave 68 = .ok (.i2l, 1) := by decide +kernel
theorem dX7_digestWave_69 : decode cX7_digestWave 69 = .ok (.invokevirtual 226, 3) := by decide +kernel
theorem dX7_digestWave_72 : decode cX7_digestWave 72 = .ok (.iinc 2 1, 3) := by decide +kernel
theorem dX7_digestWave_75 : decode cX7_digestWave 75 = .ok (.goto (-20), 3) := by decide +kernel
theorem dX7_digestWave_78 : decode cX7_digestWave 78 = .ok (.iinc 1 1, 3) := by decide +kernel
theorem dX7_digestWave_81 : decode cX7_digestWave 81 = .ok (.goto (-36), 3) := by decide +kernel
theorem dX7_digestWave_84 : decode cX7_digestWave 84 = .ok (.aload_n 0, 1) := by decide +kernel
theorem dX7_digestWave_85 : decode cX7_digestWave 85 = .ok (.aload_n 0, 1) := by decide +kernel
theorem dX7_digestWave_86 : decode cX7_digestWave 86 = .ok (.iconst 0, 1) := by decide +kernel
theorem dX7_digestWave_87 : decode cX7_digestWave 87 = .ok (.aload_n 0, 1) := by decide +kernel
theorem dX7_digestWave_88 : decode cX7_digestWave 88 = .ok (.getfield 7, 3) := by decide +kernel
theorem dX7_digestWave_91 : decode cX7_digestWave 91 = .ok (.iconst 0, 1) := by decide +kernel
theorem dX7_digestWave_92 : decode cX7_digestWave 92 = .ok (.iaload, 1) := by decide +kernel
theorem dX7_digestWave_93 : decode cX7_digestWave 93 = .ok (.invokevirtual 110, 3) := by decide +kernel
theorem dX7_digestWave_96 : decode cX7_digestWave 96 = .ok (.i2l, 1) := by decide +kernel
theorem dX7_digestWave_97 : decode cX7_digestWave 97 = .ok (.invokevirtual 226, 3) := by decide +kernel
theorem dX7_digestWave_100 : decode cX7_digestWave 100 = .ok (.iconst 0, 1) := by decide +kernel
theorem dX7_digestWave_101 : decode cX7_digestWave 101 = .ok (.istore_n 1, 1) := by decide +kernel
theorem dX7_digestWave_102 : decode cX7_digestWave 102 = .ok (.iload_n 1, 1) := by decide +kernel
theorem dX7_digestWave_103 : decode cX7_digestWave 103 = .ok (.aload_n 0, 1) := by decide +kernel
theorem dX7_digestWave_104 : decode cX7_digestWave 104 = .ok (.getfield 7, 3) := by decide +kernel
theorem dX7_digestWave_107 : decode cX7_digestWave 107 = .ok (.iconst 0, 1) := by decide +kernel
theorem dX7_digestWave_108 : decode cX7_digestWave 108 = .ok (.iaload, 1) := by decide +kernel
theorem dX7_digestWave_109 : decode cX7_digestWave 109 = .ok (.if_icmp .ge 28, 3) := by decide +kernel
theorem dX7_digestWave_112 : decode cX7_digestWave 112 = .ok (.aload_n 0, 1) := by decide +kernel
theorem dX7_digestWave_113 : decode cX7_digestWave 113 = .ok (.iload_n 1, 1) := by decide +kernel
theorem dX7_digestWave_114 : decode cX7_digestWave 114 = .ok (.invokevirtual 122, 3) := by decide +kernel
theorem dX7_digestWave_117 : decode cX7_digestWave 117 = .ok (.ifCond .eq 14, 3) := by decide +kernel
theorem dX7_digestWave_120 : decode cX7_digestWave 120 = .ok (.aload_n 0, 1) := by decide +kernel
theorem dX7_digestWave_121 : decode cX7_digestWave 121 = .ok (.aload_n 0, 1) := by decide +kernel
theorem dX7_digestWave_122 : decode cX7_digestWave 122 = .ok (.iload_n 1, 1) := by decide +kernel
theorem dX7_digestWave_123 : decode cX7_digestWave 123 = .ok (.iconst 3, 1) := by decide +kernel
theorem dX7_digestWave_124 : decode cX7_digestWave 124 = .ok (.invokevirtual 194, 3) := by decide +kernel
theorem dX7_digestWave_127 : decode cX7_digestWave 127 = .ok (.i2l, 1) := by decide +kernel
theorem dX7_digestWave_128 : decode cX7_digestWave 128 = .ok (.invokevirtual 226, 3) := by decide +kernel
theorem dX7_digestWave_131 : decode cX7_digestWave 131 = .ok (.iinc 1 1, 3) := by decide +kernel
theorem dX7_digestWave_134 : decode cX7_digestWave 134 = .ok (.goto (-32), 3) := by decide +kernel
theorem dX7_digestWave_137 : decode cX7_digestWave 137 = .ok (.return_, 1) := by decide +kernel
theorem dX7_digest_0 : decode cX7_digest 0 = .ok (.aload_n 0, 1) := by decide +kernel
theorem dX7_digest_1 : decode cX7_digest 1 = .ok (.iconst 0, 1) := by decide +kernel
theorem dX7_digest_2 : decode cX7_digest 2 = .ok (.putfield 44, 3) := by decide +kernel
theorem dX7_digest_5 : decode cX7_digest 5 = .ok (.aload_n 0, 1) := by decide +kernel
theorem dX7_digest_6 : decode cX7_digest 6 = .ok (.ldc2_w 230, 3) := by decide +kernel
theorem dX7_digest_9 : decode cX7_digest 9 = .ok (.putfield 222, 3) := by decide +kernel
theorem dX7_digest_12 : decode cX7_digest 12 = .ok (.iconst 0, 1) := by decide +kernel
theorem dX7_digest_13 : decode cX7_digest 13 = .ok (.istore_n 1, 1) := by decide +kernel
theorem dX7_digest_14 : decode cX7_digest 14 = .ok (.iload_n 1, 1) := by decide +kernel
theorem dX7_digest_15 : decode cX7_digest 15 = .ok (.bipush 12, 2) := by decide +kernel
theorem dX7_digest_17 : decode cX7_digest 17 = .ok (.if_icmp .ge 19, 3) := by decide +kernel
theorem dX7_digest_20 : decode cX7_digest 20 = .ok (.aload_n 0, 1) := by decide +kernel
theorem dX7_digest_21 : decode cX7_digest 21 = .ok (.aload_n 0, 1) := by decide +kernel
theorem dX7_digest_22 : decode cX7_digest 22 = .ok (.iload_n 1, 1) := by decide +kernel
theorem dX7_digest_23 : decode cX7_digest 23 = .ok (.invokevirtual 188, 3) := by decide +kernel
theorem dX7_digest_26 : decode cX7_digest 26 = .ok (.i2l, 1) := by decide +kernel
theorem dX7_digest_27 : decode cX7_digest 27 = .ok (.invokevirtual 226, 3) := by decide +kernel
theorem dX7_digest_30 : decode cX7_digest 30 = .ok (.iinc 1 1, 3) := by decide +kernel
theorem dX7_digest_33 : decode cX7_digest 33 = .ok (.goto (-19), 3) := by decide +kernel
theorem dX7_digest_36 : decode cX7_digest 36 = .ok (.iconst 0, 1) := by decide +kernel
theorem dX7_digest_37 : decode cX7_digest 37 = .ok (.istore_n 1, 1) := by decide +kernel
theorem dX7_digest_38 : decode cX7_digest 38 = .ok (.iload_n 1, 1) := by decide +kernel
theorem dX7_digest_39 : decode cX7_digest 39 = .ok (.iconst 3, 1) := by decide +kernel
theorem dX7_digest_40 : decode cX7_digest 40 = .ok (.if_icmp .ge 22, 3) := by decide +kernel
theorem dX7_digest_43 : decode cX7_digest 43 = .ok (.aload_n 0, 1) := by decide +kernel
theorem dX7_digest_44 : decode cX7_digest 44 = .ok (.aload_n 0, 1) := by decide +kernel
theorem dX7_digest_45 : decode cX7_digest 45 = .ok (.getfield 7, 3) := by decide +kernel
theorem dX7_digest_48 : decode cX7_digest 48 = .ok (.iconst 2, 1) := by decide +kernel
theorem dX7_digest_49 : decode cX7_digest 49 = .ok (.iload_n 1, 1) := by decide +kernel
theorem dX7_digest_50 : decode cX7_digest 50 = .ok (.iadd, 1) := by decide +kernel
theorem dX7_digest_51 : decode cX7_digest 51 = .ok (.iaload, 1) := by decide +kernel
theorem dX7_digest_52 : decode cX7_digest 52 = .ok (.i2l, 1) := by decide +kernel
theorem dX7_digest_53 : decode cX7_digest 53 = .ok (.invokevirtual 226, 3) := by decide +kernel
theorem dX7_digest_56 : decode cX7_digest 56 = .ok (.iinc 1 1, 3) := by decide +kernel
theorem dX7_digest_59 : decode cX7_digest 59 = .ok (.goto (-21), 3) := by decide +kernel
theorem dX7_digest_62 : decode cX7_digest 62 = .ok (.aload_n 0, 1) := by decide +kernel
theorem dX7_digest_63 : decode cX7_digest 63 = .ok (.invokevirtual 232, 3) := by decide +kernel
theorem dX7_digest_66 : decode cX7_digest 66 = .ok (.aload_n 0, 1) := by decide +kernel
theorem dX7_digest_67 : decode cX7_digest 67 = .ok (.aload_n 0, 1) := by decide +kernel
theorem dX7_digest_68 : decode cX7_digest 68 = .ok (.invokevirtual 197, 3) := by decide +kernel
theorem dX7_digest_71 : decode cX7_digest 71 = .ok (.invokestatic 235, 3) := by decide +kernel
theorem dX7_digest_74 : decode cX7_digest 74 = .ok (.invokevirtual 226, 3) := by decide +kernel
theorem dX7_digest_77 : decode cX7_digest 77 = .ok (.aload_n 0, 1) := by decide +kernel
theorem dX7_digest_78 : decode cX7_digest 78 = .ok (.aload_n 0, 1) := by decide +kernel
theorem dX7_digest_79 : decode cX7_digest 79 = .ok (.invokevirtual 202, 3) := by decide +kernel
theorem dX7_digest_82 : decode cX7_digest 82 = .ok (.invokestatic 239, 3) := by decide +kernel
theorem dX7_digest_85 : decode cX7_digest 85 = .ok (.i2l, 1) := by decide +kernel
theorem dX7_digest_86 : decode cX7_digest 86 = .ok (.invokevirtual 226, 3) := by decide +kernel
theorem dX7_digest_89 : decode cX7_digest 89 = .ok (.aload_n 0, 1) := by decide +kernel
theorem dX7_digest_90 : decode cX7_digest 90 = .ok (.aload_n 0, 1) := by decide +kernel
theorem dX7_digest_91 : decode cX7_digest 91 = .ok (.getfield 19, 3) := by decide +kernel
theorem dX7_digest_94 : decode cX7_digest 94 = .ok (.iconst 0, 1) := by decide +kernel
theorem dX7_digest_95 : decode cX7_digest 95 = .ok (.baload, 1) := by decide +kernel
theorem dX7_digest_96 : decode cX7_digest 96 = .ok (.ifCond .eq 7, 3) := by decide +kernel
theorem dX7_digest_99 : decode cX7_digest 99 = .ok (.lconst 1, 1) := by decide +kernel
theorem dX7_digest_100 : decode cX7_digest 100 = .ok (.goto 4, 3) := by decide +kernel
theorem dX7_digest_103 : decode cX7_digest 103 = .ok (.lconst 0, 1) := by decide +kernel
theorem dX7_digest_104 : decode cX7_digest 104 = .ok (.invokevirtual 226, 3) := by decide +kernel
theorem dX7_digest_107 : decode cX7_digest 107 = .ok (.aload_n 0, 1) := by decide +kernel
theorem dX7_digest_108 : decode cX7_digest 108 = .ok (.aload_n 0, 1) := by decide +kernel
theorem dX7_digest_109 : decode cX7_digest 109 = .ok (.getfield 19, 3) := by decide +kernel
theorem dX7_digest_112 : decode cX7_digest 112 = .ok (.iconst 1, 1) := by decide +kernel
theorem dX7_digest_113 : decode cX7_digest 113 = .ok (.baload, 1) := by decide +kernel
theorem dX7_digest_114 : decode cX7_digest 114 = .ok (.ifCond .eq 7, 3) := by decide +kernel
theorem dX7_digest_117 : decode cX7_digest 117 = .ok (.lconst 1, 1) := by decide +kernel
theorem dX7_digest_118 : decode cX7_digest 118 = .ok (.goto 4, 3) := by decide +kernel
theorem dX7_digest_121 : decode cX7_digest 121 = .ok (.lconst 0, 1) := by decide +kernel
theorem dX7_digest_122 : decode cX7_digest 122 = .ok (.invokevirtual 226, 3) := by decide +kernel
theorem dX7_digest_125 : decode cX7_digest 125 = .ok (.aload_n 0, 1) := by decide +kernel
theorem dX7_digest_126 : decode cX7_digest 126 = .ok (.aload_n 0, 1) := by decide +kernel
theorem dX7_digest_127 : decode cX7_digest 127 = .ok (.getfield 125, 3) := by decide +kernel
theorem dX7_digest_130 : decode cX7_digest 130 = .ok (.i2l, 1) := by decide +kernel
theorem dX7_digest_131 : decode cX7_digest 131 = .ok (.invokevirtual 226, 3) := by decide +kernel
theorem dX7_digest_134 : decode cX7_digest 134 = .ok (.iconst 0, 1) := by decide +kernel
theorem dX7_digest_135 : decode cX7_digest 135 = .ok (.istore_n 1, 1) := by decide +kernel
theorem dX7_digest_136 : decode cX7_digest 136 = .ok (.iload_n 1, 1) := by decide +kernel
theorem dX7_digest_137 : decode cX7_digest 137 = .ok (.aload_n 0, 1) := by decide +kernel
theorem dX7_digest_138 : decode cX7_digest 138 = .ok (.getfield 125, 3) := by decide +kernel
theorem dX7_digest_141 : decode cX7_digest 141 = .ok (.if_icmp .ge 20, 3) := by decide +kernel
theorem dX7_digest_144 : decode cX7_digest 144 = .ok (.aload_n 0, 1) := by decide +kernel
theorem dX7_digest_145 : decode cX7_digest 145 = .ok (.aload_n 0, 1) := by decide +kernel
theorem dX7_digest_146 : decode cX7_digest 146 = .ok (.getfield 23, 3) := by decide +kernel
theorem dX7_digest_149 : decode cX7_digest 149 = .ok (.iload_n 1, 1) := by decide +kernel
theorem dX7_digest_150 : decode cX7_digest 150 = .ok (.iaload, 1) := by decide +kernel
theorem dX7_digest_151 : decode cX7_digest 151 = .ok (.i2l, 1) := by decide +kernel
theorem dX7_digest_152 : decode cX7_digest 152 = .ok (.invokevirtual 226, 3) := by decide +kernel
theorem dX7_digest_155 : decode cX7_digest 155 = .ok (.iinc 1 1, 3) := by decide +kernel
theorem dX7_digest_158 : decode cX7_digest 158 = .ok (.goto (-22), 3) := by decide +kernel
theorem dX7_digest_161 : decode cX7_digest 161 = .ok (.aload_n 0, 1) := by decide +kernel
theorem dX7_digest_162 : decode cX7_digest 162 = .ok (.getfield 222, 3) := by decide +kernel
theorem dX7_digest_165 : decode cX7_digest 165 = .ok (.lreturn, 1) := by decide +kernel
end
section
theorem dL_wave_0 : decode cL_wave 0 = .ok (.aload_n 2, 1) := by decide +kernel
theorem dL_wave_1 : decode cL_wave 1 = .ok (.iconst 0, 1) := by decide +kernel
theorem dL_wave_2 : decode cL_wave 2 = .ok (.aload_n 0, 1) := by decide +kernel
theorem dL_wave_3 : decode cL_wave 3 = .ok (.iload_n 1, 1) := by decide +kernel
theorem dL_wave_4 : decode cL_wave 4 = .ok (.invokevirtual 7, 3) := by decide +kernel
theorem dL_wave_7 : decode cL_wave 7 = .ok (.i2l, 1) := by decide +kernel
theorem dL_wave_8 : decode cL_wave 8 = .ok (.lastore, 1) := by decide +kernel
theorem dL_wave_9 : decode cL_wave 9 = .ok (.goto 6, 3) := by decide +kernel
theorem dL_wave_12 : decode cL_wave 12 = .ok (.astore_n 3, 1) := by decide +kernel
theorem dL_wave_13 : decode cL_wave 13 = .ok (.iconst 1, 1) := by decide +kernel
theorem dL_wave_14 : decode cL_wave 14 = .ok (.ireturn, 1) := by decide +kernel
theorem dL_wave_15 : decode cL_wave 15 = .ok (.iconst 0, 1) := by decide +kernel
theorem dL_wave_16 : decode cL_wave 16 = .ok (.ireturn, 1) := by decide +kernel
theorem dL_sample_0 : decode cL_sample 0 = .ok (.aload_n 3, 1) := by decide +kernel
theorem dL_sample_1 : decode cL_sample 1 = .ok (.iconst 0, 1) := by decide +kernel
theorem dL_sample_2 : decode cL_sample 2 = .ok (.aload_n 0, 1) := by decide +kernel
theorem dL_sample_3 : decode cL_sample 3 = .ok (.iload_n 1, 1) := by decide +kernel
theorem dL_sample_4 : decode cL_sample 4 = .ok (.iload_n 2, 1) := by decide +kernel
theorem dL_sample_5 : decode cL_sample 5 = .ok (.invokevirtual 15, 3) := by decide +kernel
theorem dL_sample_8 : decode cL_sample 8 = .ok (.i2l, 1) := by decide +kernel
theorem dL_sample_9 : decode cL_sample 9 = .ok (.lastore, 1) := by decide +kernel
theorem dL_sample_10 : decode cL_sample 10 = .ok (.goto 11, 3) := by decide +kernel
theorem dL_sample_13 : decode cL_sample 13 = .ok (.astore 4, 2) := by decide +kernel
theorem dL_sample_15 : decode cL_sample 15 = .ok (.iconst 1, 1) := by decide +kernel
theorem dL_sample_16 : decode cL_sample 16 = .ok (.ireturn, 1) := by decide +kernel
theorem dL_sample_17 : decode cL_sample 17 = .ok (.astore 4, 2) := by decide +kernel
theorem dL_sample_19 : decode cL_sample 19 = .ok (.iconst 2, 1) := by decide +kernel
theorem dL_sample_20 : decode cL_sample 20 = .ok (.ireturn, 1) := by decide +kernel
theorem dL_sample_21 : decode cL_sample 21 = .ok (.iconst 0, 1) := by decide +kernel
theorem dL_sample_22 : decode cL_sample 22 = .ok (.ireturn, 1) := by decide +kernel
theorem dL_add_0 : decode cL_add 0 = .ok (.aload 4, 2) := by decide +kernel
theorem dL_add_2 : decode cL_add 2 = .ok (.iconst 0, 1) := by decide +kernel
theorem dL_add_3 : decode cL_add 3 = .ok (.aload_n 0, 1) := by decide +kernel
theorem dL_add_4 : decode cL_add 4 = .ok (.iload_n 1, 1) := by decide +kernel
theorem dL_add_5 : decode cL_add 5 = .ok (.iload_n 2, 1) := by decide +kernel
theorem dL_add_6 : decode cL_add 6 = .ok (.iload_n 3, 1) := by decide +kernel
theorem dL_add_7 : decode cL_add 7 = .ok (.invokevirtual 21, 3) := by decide +kernel
theorem dL_add_10 : decode cL_add 10 = .ok (.i2l, 1) := by decide +kernel
theorem dL_add_11 : decode cL_add 11 = .ok (.lastore, 1) := by decide +kernel
theorem dL_add_12 : decode cL_add 12 = .ok (.goto 7, 3) := by decide +kernel
theorem dL_add_15 : decode cL_add 15 = .ok (.astore 5, 2) := by decide +kernel
theorem dL_add_17 : decode cL_add 17 = .ok (.iconst 1, 1) := by decide +kernel
theorem dL_add_18 : decode cL_add 18 = .ok (.ireturn, 1) := by decide +kernel
theorem dL_add_19 : decode cL_add 19 = .ok (.iconst 0, 1) := by decide +kernel
theorem dL_add_20 : decode cL_add 20 = .ok (.ireturn, 1) := by decide +kernel
theorem dL_take_0 : decode cL_take 0 = .ok (.aload_n 1, 1) := by decide +kernel
theorem dL_take_1 : decode cL_take 1 = .ok (.iconst 0, 1) := by decide +kernel
theorem dL_take_2 : decode cL_take 2 = .ok (.aload_n 0, 1) := by decide +kernel
theorem dL_take_3 : decode cL_take 3 = .ok (.invokevirtual 25, 3) := by decide +kernel
theorem dL_take_6 : decode cL_take 6 = .ok (.i2l, 1) := by decide +kernel
theorem dL_take_7 : decode cL_take 7 = .ok (.lastore, 1) := by decide +kernel
theorem dL_take_8 : decode cL_take 8 = .ok (.goto 6, 3) := by decide +kernel
theorem dL_take_11 : decode cL_take 11 = .ok (.astore_n 2, 1) := by decide +kernel
theorem dL_take_12 : decode cL_take 12 = .ok (.iconst 1, 1) := by decide +kernel
theorem dL_take_13 : decode cL_take 13 = .ok (.ireturn, 1) := by decide +kernel
theorem dL_take_14 : decode cL_take 14 = .ok (.iconst 0, 1) := by decide +kernel
theorem dL_take_15 : decode cL_take 15 = .ok (.ireturn, 1) := by decide +kernel
theorem dL_set_0 : decode cL_set 0 = .ok (.aload_n 3, 1) := by decide +kernel
theorem dL_set_1 : decode cL_set 1 = .ok (.iconst 0, 1) := by decide +kernel
theorem dL_set_2 : decode cL_set 2 = .ok (.aload_n 0, 1) := by decide +kernel
theorem dL_set_3 : decode cL_set 3 = .ok (.iload_n 1, 1) := by decide +kernel
theorem dL_set_4 : decode cL_set 4 = .ok (.iload_n 2, 1) := by decide +kernel
theorem dL_set_5 : decode cL_set 5 = .ok (.invokevirtual 31, 3) := by decide +kernel
theorem dL_set_8 : decode cL_set 8 = .ok (.i2l, 1) := by decide +kernel
theorem dL_set_9 : decode cL_set 9 = .ok (.lastore, 1) := by decide +kernel
theorem dL_set_10 : decode cL_set 10 = .ok (.goto 11, 3) := by decide +kernel
theorem dL_set_13 : decode cL_set 13 = .ok (.astore 4, 2) := by decide +kernel
theorem dL_set_15 : decode cL_set 15 = .ok (.iconst 1, 1) := by decide +kernel
theorem dL_set_16 : decode cL_set 16 = .ok (.ireturn, 1) := by decide +kernel
theorem dL_set_17 : decode cL_set 17 = .ok (.astore 4, 2) := by decide +kernel
theorem dL_set_19 : decode cL_set 19 = .ok (.iconst 2, 1) := by decide +kernel
theorem dL_set_20 : decode cL_set 20 = .ok (.ireturn, 1) := by decide +kernel
theorem dL_set_21 : decode cL_set 21 = .ok (.iconst 0, 1) := by decide +kernel
theorem dL_set_22 : decode cL_set 22 = .ok (.ireturn, 1) := by decide +kernel
theorem dL_lose_0 : decode cL_lose 0 = .ok (.aload_n 2, 1) := by decide +kernel
theorem dL_lose_1 : decode cL_lose 1 = .ok (.iconst 0, 1) := by decide +kernel
theorem dL_lose_2 : decode cL_lose 2 = .ok (.aload_n 0, 1) := by decide +kernel
theorem dL_lose_3 : decode cL_lose 3 = .ok (.iload_n 1, 1) := by decide +kernel
theorem dL_lose_4 : decode cL_lose 4 = .ok (.invokevirtual 34, 3) := by decide +kernel
theorem dL_lose_7 : decode cL_lose 7 = .ok (.i2l, 1) := by decide +kernel
theorem dL_lose_8 : decode cL_lose 8 = .ok (.lastore, 1) := by decide +kernel
theorem dL_lose_9 : decode cL_lose 9 = .ok (.goto 6, 3) := by decide +kernel
theorem dL_lose_12 : decode cL_lose 12 = .ok (.astore_n 3, 1) := by decide +kernel
theorem dL_lose_13 : decode cL_lose 13 = .ok (.iconst 1, 1) := by decide +kernel
theorem dL_lose_14 : decode cL_lose 14 = .ok (.ireturn, 1) := by decide +kernel
theorem dL_lose_15 : decode cL_lose 15 = .ok (.iconst 0, 1) := by decide +kernel
theorem dL_lose_16 : decode cL_lose 16 = .ok (.ireturn, 1) := by decide +kernel
theorem dL_spoil_0 : decode cL_spoil 0 = .ok (.aload_n 3, 1) := by decide +kernel
theorem dL_spoil_1 : decode cL_spoil 1 = .ok (.iconst 0, 1) := by decide +kernel
theorem dL_spoil_2 : decode cL_spoil 2 = .ok (.aload_n 0, 1) := by decide +kernel
theorem dL_spoil_3 : decode cL_spoil 3 = .ok (.iload_n 1, 1) := by decide +kernel
theorem dL_spoil_4 : decode cL_spoil 4 = .ok (.iload_n 2, 1) := by decide +kernel
theorem dL_spoil_5 : decode cL_spoil 5 = .ok (.invokevirtual 37, 3) := by decide +kernel
theorem dL_spoil_8 : decode cL_spoil 8 = .ok (.i2l, 1) := by decide +kernel
theorem dL_spoil_9 : decode cL_spoil 9 = .ok (.lastore, 1) := by decide +kernel
theorem dL_spoil_10 : decode cL_spoil 10 = .ok (.goto 11, 3) := by decide +kernel
theorem dL_spoil_13 : decode cL_spoil 13 = .ok (.astore 4, 2) := by decide +kernel
theorem dL_spoil_15 : decode cL_spoil 15 = .ok (.iconst 1, 1) := by decide +kernel
theorem dL_spoil_16 : decode cL_spoil 16 = .ok (.ireturn, 1) := by decide +kernel
theorem dL_spoil_17 : decode cL_spoil 17 = .ok (.astore 4, 2) := by decide +kernel
theorem dL_spoil_19 : decode cL_spoil 19 = .ok (.iconst 2, 1) := by decide +kernel
theorem dL_spoil_20 : decode cL_spoil 20 = .ok (.ireturn, 1) := by decide +kernel
theorem dL_spoil_21 : decode cL_spoil 21 = .ok (.iconst 0, 1) := by decide +kernel
theorem dL_spoil_22 : decode cL_spoil 22 = .ok (.ireturn, 1) := by decide +kernel
theorem dL_append_0 : decode cL_append 0 = .ok (.aload_n 2, 1) := by decide +kernel
theorem dL_append_1 : decode cL_append 1 = .ok (.iconst 0, 1) := by decide +kernel
theorem dL_append_2 : decode cL_append 2 = .ok (.aload_n 0, 1) := by decide +kernel
theorem dL_append_3 : decode cL_append 3 = .ok (.iload_n 1, 1) := by decide +kernel
theorem dL_append_4 : decode cL_append 4 = .ok (.invokevirtual 40, 3) := by decide +kernel
theorem dL_append_7 : decode cL_append 7 = .ok (.i2l, 1) := by decide +kernel
theorem dL_append_8 : decode cL_append 8 = .ok (.lastore, 1) := by decide +kernel
theorem dL_append_9 : decode cL_append 9 = .ok (.goto 9, 3) := by decide +kernel
theorem dL_append_12 : decode cL_append 12 = .ok (.astore_n 3, 1) := by decide +kernel
theorem dL_append_13 : decode cL_append 13 = .ok (.iconst 1, 1) := by decide +kernel
theorem dL_append_14 : decode cL_append 14 = .ok (.ireturn, 1) := by decide +kernel
theorem dL_append_15 : decode cL_append 15 = .ok (.astore_n 3, 1) := by decide +kernel
theorem dL_append_16 : decode cL_append 16 = .ok (.iconst 2, 1) := by decide +kernel
theorem dL_append_17 : decode cL_append 17 = .ok (.ireturn, 1) := by decide +kernel
theorem dL_append_18 : decode cL_append 18 = .ok (.iconst 0, 1) := by decide +kernel
theorem dL_append_19 : decode cL_append 19 = .ok (.ireturn, 1) := by decide +kernel
theorem dL_load_0 : decode cL_load 0 = .ok (.aload_n 2, 1) := by decide +kernel
theorem dL_load_1 : decode cL_load 1 = .ok (.iconst 0, 1) := by decide +kernel
theorem dL_load_2 : decode cL_load 2 = .ok (.aload_n 0, 1) := by decide +kernel
theorem dL_load_3 : decode cL_load 3 = .ok (.iload_n 1, 1) := by decide +kernel
theorem dL_load_4 : decode cL_load 4 = .ok (.invokevirtual 43, 3) := by decide +kernel
theorem dL_load_7 : decode cL_load 7 = .ok (.i2l, 1) := by decide +kernel
theorem dL_load_8 : decode cL_load 8 = .ok (.lastore, 1) := by decide +kernel
theorem dL_load_9 : decode cL_load 9 = .ok (.goto 9, 3) := by decide +kernel
theorem dL_load_12 : decode cL_load 12 = .ok (.astore_n 3, 1) := by decide +kernel
theorem dL_load_13 : decode cL_load 13 = .ok (.iconst 1, 1) := by decide +kernel
theorem dL_load_14 : decode cL_load 14 = .ok (.ireturn, 1) := by decide +kernel
theorem dL_load_15 : decode cL_load 15 = .ok (.astore_n 3, 1) := by decide +kernel
theorem dL_load_16 : decode cL_load 16 = .ok (.iconst 2, 1) := by decide +kernel
theorem dL_load_17 : decode cL_load 17 = .ok (.ireturn, 1) := by decide +kernel
theorem dL_load_18 : decode cL_load 18 = .ok (.iconst 0, 1) := by decide +kernel
theorem dL_load_19 : decode cL_load 19 = .ok (.ireturn, 1) := by decide +kernel
theorem dL_write_0 : decode cL_write 0 = .ok (.aload_n 2, 1) := by decide +kernel
theorem dL_write_1 : decode cL_write 1 = .ok (.iconst 0, 1) := by decide +kernel
theorem dL_write_2 : decode cL_write 2 = .ok (.aload_n 0, 1) := by decide +kernel
theorem dL_write_3 : decode cL_write 3 = .ok (.iload_n 1, 1) := by decide +kernel
theorem dL_write_4 : decode cL_write 4 = .ok (.invokevirtual 46, 3) := by decide +kernel
theorem dL_write_7 : decode cL_write 7 = .ok (.i2l, 1) := by decide +kernel
theorem dL_write_8 : decode cL_write 8 = .ok (.lastore, 1) := by decide +kernel
theorem dL_write_9 : decode cL_write 9 = .ok (.goto 6, 3) := by decide +kernel
theorem dL_write_12 : decode cL_write 12 = .ok (.astore_n 3, 1) := by decide +kernel
theorem dL_write_13 : decode cL_write 13 = .ok (.iconst 1, 1) := by decide +kernel
theorem dL_write_14 : decode cL_write 14 = .ok (.ireturn, 1) := by decide +kernel
theorem dL_write_15 : decode cL_write 15 = .ok (.iconst 0, 1) := by decide +kernel
theorem dL_write_16 : decode cL_write 16 = .ok (.ireturn, 1) := by decide +kernel
theorem dL_keep_0 : decode cL_keep 0 = .ok (.aload_n 2, 1) := by decide +kernel
theorem dL_keep_1 : decode cL_keep 1 = .ok (.iconst 0, 1) := by decide +kernel
theorem dL_keep_2 : decode cL_keep 2 = .ok (.aload_n 0, 1) := by decide +kernel
theorem dL_keep_3 : decode cL_keep 3 = .ok (.iload_n 1, 1) := by decide +kernel
theorem dL_keep_4 : decode cL_keep 4 = .ok (.invokevirtual 49, 3) := by decide +kernel
theorem dL_keep_7 : decode cL_keep 7 = .ok (.i2l, 1) := by decide +kernel
theorem dL_keep_8 : decode cL_keep 8 = .ok (.lastore, 1) := by decide +kernel
theorem dL_keep_9 : decode cL_keep 9 = .ok (.goto 6, 3) := by decide +kernel
theorem dL_keep_12 : decode cL_keep 12 = .ok (.astore_n 3, 1) := by decide +kernel
theorem dL_keep_13 : decode cL_keep 13 = .ok (.iconst 1, 1) := by decide +kernel
theorem dL_keep_14 : decode cL_keep 14 = .ok (.ireturn, 1) := by decide +kernel
theorem dL_keep_15 : decode cL_keep 15 = .ok (.iconst 0, 1) := by decide +kernel
theorem dL_keep_16 : decode cL_keep 16 = .ok (.ireturn, 1) := by decide +kernel
theorem dL_goBack_0 : decode cL_goBack 0 = .ok (.aload_n 2, 1) := by decide +kernel
theorem dL_goBack_1 : decode cL_goBack 1 = .ok (.iconst 0, 1) := by decide +kernel
theorem dL_goBack_2 : decode cL_goBack 2 = .ok (.aload_n 0, 1) := by decide +kernel
theorem dL_goBack_3 : decode cL_goBack 3 = .ok (.iload_n 1, 1) := by decide +kernel
theorem dL_goBack_4 : decode cL_goBack 4 = .ok (.invokevirtual 52, 3) := by decide +kernel
theorem dL_goBack_7 : decode cL_goBack 7 = .ok (.i2l, 1) := by decide +kernel
theorem dL_goBack_8 : decode cL_goBack 8 = .ok (.lastore, 1) := by decide +kernel
theorem dL_goBack_9 : decode cL_goBack 9 = .ok (.goto 9, 3) := by decide +kernel
theorem dL_goBack_12 : decode cL_goBack 12 = .ok (.astore_n 3, 1) := by decide +kernel
theorem dL_goBack_13 : decode cL_goBack 13 = .ok (.iconst 1, 1) := by decide +kernel
theorem dL_goBack_14 : decode cL_goBack 14 = .ok (.ireturn, 1) := by decide +kernel
theorem dL_goBack_15 : decode cL_goBack 15 = .ok (.astore_n 3, 1) := by decide +kernel
theorem dL_goBack_16 : decode cL_goBack 16 = .ok (.iconst 2, 1) := by decide +kernel
theorem dL_goBack_17 : decode cL_goBack 17 = .ok (.ireturn, 1) := by decide +kernel
theorem dL_goBack_18 : decode cL_goBack 18 = .ok (.iconst 0, 1) := by decide +kernel
theorem dL_goBack_19 : decode cL_goBack 19 = .ok (.ireturn, 1) := by decide +kernel
theorem dL_undo_0 : decode cL_undo 0 = .ok (.aload_n 1, 1) := by decide +kernel
theorem dL_undo_1 : decode cL_undo 1 = .ok (.iconst 0, 1) := by decide +kernel
theorem dL_undo_2 : decode cL_undo 2 = .ok (.aload_n 0, 1) := by decide +kernel
theorem dL_undo_3 : decode cL_undo 3 = .ok (.invokevirtual 55, 3) := by decide +kernel
theorem dL_undo_6 : decode cL_undo 6 = .ok (.i2l, 1) := by decide +kernel
theorem dL_undo_7 : decode cL_undo 7 = .ok (.lastore, 1) := by decide +kernel
theorem dL_undo_8 : decode cL_undo 8 = .ok (.goto 6, 3) := by decide +kernel
theorem dL_undo_11 : decode cL_undo 11 = .ok (.astore_n 2, 1) := by decide +kernel
theorem dL_undo_12 : decode cL_undo 12 = .ok (.iconst 1, 1) := by decide +kernel
theorem dL_undo_13 : decode cL_undo 13 = .ok (.ireturn, 1) := by decide +kernel
theorem dL_undo_14 : decode cL_undo 14 = .ok (.iconst 0, 1) := by decide +kernel
theorem dL_undo_15 : decode cL_undo 15 = .ok (.ireturn, 1) := by decide +kernel
theorem dL_step_0 : decode cL_step 0 = .ok (.aload_n 2, 1) := by decide +kernel
theorem dL_step_1 : decode cL_step 1 = .ok (.iconst 0, 1) := by decide +kernel
theorem dL_step_2 : decode cL_step 2 = .ok (.aload_n 0, 1) := by decide +kernel
theorem dL_step_3 : decode cL_step 3 = .ok (.iload_n 1, 1) := by decide +kernel
theorem dL_step_4 : decode cL_step 4 = .ok (.invokevirtual 58, 3) := by decide +kernel
theorem dL_step_7 : decode cL_step 7 = .ok (.i2l, 1) := by decide +kernel
theorem dL_step_8 : decode cL_step 8 = .ok (.lastore, 1) := by decide +kernel
theorem dL_step_9 : decode cL_step 9 = .ok (.goto 6, 3) := by decide +kernel
theorem dL_step_12 : decode cL_step 12 = .ok (.astore_n 3, 1) := by decide +kernel
theorem dL_step_13 : decode cL_step 13 = .ok (.iconst 1, 1) := by decide +kernel
theorem dL_step_14 : decode cL_step 14 = .ok (.ireturn, 1) := by decide +kernel
theorem dL_step_15 : decode cL_step 15 = .ok (.iconst 0, 1) := by decide +kernel
theorem dL_step_16 : decode cL_step 16 = .ok (.ireturn, 1) := by decide +kernel
theorem dL_sampleOf_0 : decode cL_sampleOf 0 = .ok (.aload_n 3, 1) := by decide +kernel
theorem dL_sampleOf_1 : decode cL_sampleOf 1 = .ok (.iconst 0, 1) := by decide +kernel
theorem dL_sampleOf_2 : decode cL_sampleOf 2 = .ok (.aload_n 0, 1) := by decide +kernel
theorem dL_sampleOf_3 : decode cL_sampleOf 3 = .ok (.iload_n 1, 1) := by decide +kernel
theorem dL_sampleOf_4 : decode cL_sampleOf 4 = .ok (.iload_n 2, 1) := by decide +kernel
theorem dL_sampleOf_5 : decode cL_sampleOf 5 = .ok (.invokevirtual 61, 3) := by decide +kernel
theorem dL_sampleOf_8 : decode cL_sampleOf 8 = .ok (.i2l, 1) := by decide +kernel
theorem dL_sampleOf_9 : decode cL_sampleOf 9 = .ok (.lastore, 1) := by decide +kernel
theorem dL_sampleOf_10 : decode cL_sampleOf 10 = .ok (.goto 11, 3) := by decide +kernel
theorem dL_sampleOf_13 : decode cL_sampleOf 13 = .ok (.astore 4, 2) := by decide +kernel
theorem dL_sampleOf_15 : decode cL_sampleOf 15 = .ok (.iconst 1, 1) := by decide +kernel
theorem dL_sampleOf_16 : decode cL_sampleOf 16 = .ok (.ireturn, 1) := by decide +kernel
theorem dL_sampleOf_17 : decode cL_sampleOf 17 = .ok (.astore 4, 2) := by decide +kernel
theorem dL_sampleOf_19 : decode cL_sampleOf 19 = .ok (.iconst 2, 1) := by decide +kernel
theorem dL_sampleOf_20 : decode cL_sampleOf 20 = .ok (.ireturn, 1) := by decide +kernel
theorem dL_sampleOf_21 : decode cL_sampleOf 21 = .ok (.iconst 0, 1) := by decide +kernel
theorem dL_sampleOf_22 : decode cL_sampleOf 22 = .ok (.ireturn, 1) := by decide +kernel
theorem dL_blockOf_0 : decode cL_blockOf 0 = .ok (.aload_n 3, 1) := by decide +kernel
theorem dL_blockOf_1 : decode cL_blockOf 1 = .ok (.iconst 0, 1) := by decide +kernel
theorem dL_blockOf_2 : decode cL_blockOf 2 = .ok (.aload_n 0, 1) := by decide +kernel
theorem dL_blockOf_3 : decode cL_blockOf 3 = .ok (.iload_n 1, 1) := by decide +kernel
theorem dL_blockOf_4 : decode cL_blockOf 4 = .ok (.iload_n 2, 1) := by decide +kernel
theorem dL_blockOf_5 : decode cL_blockOf 5 = .ok (.invokevirtual 64, 3) := by decide +kernel
theorem dL_blockOf_8 : decode cL_blockOf 8 = .ok (.i2l, 1) := by decide +kernel
theorem dL_blockOf_9 : decode cL_blockOf 9 = .ok (.lastore, 1) := by decide +kernel
theorem dL_blockOf_10 : decode cL_blockOf 10 = .ok (.goto 11, 3) := by decide +kernel
theorem dL_blockOf_13 : decode cL_blockOf 13 = .ok (.astore 4, 2) := by decide +kernel
theorem dL_blockOf_15 : decode cL_blockOf 15 = .ok (.iconst 1, 1) := by decide +kernel
theorem dL_blockOf_16 : decode cL_blockOf 16 = .ok (.ireturn, 1) := by decide +kernel
theorem dL_blockOf_17 : decode cL_blockOf 17 = .ok (.astore 4, 2) := by decide +kernel
theorem dL_blockOf_19 : decode cL_blockOf 19 = .ok (.iconst 2, 1) := by decide +kernel
theorem dL_blockOf_20 : decode cL_blockOf 20 = .ok (.ireturn, 1) := by decide +kernel
theorem dL_blockOf_21 : decode cL_blockOf 21 = .ok (.iconst 0, 1) := by decide +kernel
theorem dL_blockOf_22 : decode cL_blockOf 22 = .ok (.ireturn, 1) := by decide +kernel
theorem dL_count_0 : decode cL_count 0 = .ok (.aload_n 2, 1) := by decide +kernel
theorem dL_count_1 : decode cL_count 1 = .ok (.iconst 0, 1) := by decide +kernel
theorem dL_count_2 : decode cL_count 2 = .ok (.aload_n 0, 1) := by decide +kernel
theorem dL_count_3 : decode cL_count 3 = .ok (.iload_n 1, 1) := by decide +kernel
theorem dL_count_4 : decode cL_count 4 = .ok (.invokevirtual 67, 3) := by decide +kernel
theorem dL_count_7 : decode cL_count 7 = .ok (.i2l, 1) := by decide +kernel
theorem dL_count_8 : decode cL_count 8 = .ok (.lastore, 1) := by decide +kernel
theorem dL_count_9 : decode cL_count 9 = .ok (.goto 6, 3) := by decide +kernel
theorem dL_count_12 : decode cL_count 12 = .ok (.astore_n 3, 1) := by decide +kernel
theorem dL_count_13 : decode cL_count 13 = .ok (.iconst 1, 1) := by decide +kernel
theorem dL_count_14 : decode cL_count 14 = .ok (.ireturn, 1) := by decide +kernel
theorem dL_count_15 : decode cL_count 15 = .ok (.iconst 0, 1) := by decide +kernel
theorem dL_count_16 : decode cL_count 16 = .ok (.ireturn, 1) := by decide +kernel
theorem dL_setting_0 : decode cL_setting 0 = .ok (.aload_n 2, 1) := by decide +kernel
theorem dL_setting_1 : decode cL_setting 1 = .ok (.iconst 0, 1) := by decide +kernel
theorem dL_setting_2 : decode cL_setting 2 = .ok (.aload_n 0, 1) := by decide +kernel
theorem dL_setting_3 : decode cL_setting 3 = .ok (.iload_n 1, 1) := by decide +kernel
theorem dL_setting_4 : decode cL_setting 4 = .ok (.invokevirtual 70, 3) := by decide +kernel
theorem dL_setting_7 : decode cL_setting 7 = .ok (.i2l, 1) := by decide +kernel
theorem dL_setting_8 : decode cL_setting 8 = .ok (.lastore, 1) := by decide +kernel
theorem dL_setting_9 : decode cL_setting 9 = .ok (.goto 6, 3) := by decide +kernel
theorem dL_setting_12 : decode cL_setting 12 = .ok (.astore_n 3, 1) := by decide +kernel
theorem dL_setting_13 : decode cL_setting 13 = .ok (.iconst 1, 1) := by decide +kernel
theorem dL_setting_14 : decode cL_setting 14 = .ok (.ireturn, 1) := by decide +kernel
theorem dL_setting_15 : decode cL_setting 15 = .ok (.iconst 0, 1) := by decide +kernel
theorem dL_setting_16 : decode cL_setting 16 = .ok (.ireturn, 1) := by decide +kernel
theorem dL_ifCoded_0 : decode cL_ifCoded 0 = .ok (.aload 5, 2) := by decide +kernel
theorem dL_ifCoded_2 : decode cL_ifCoded 2 = .ok (.iconst 0, 1) := by decide +kernel
theorem dL_ifCoded_3 : decode cL_ifCoded 3 = .ok (.aload_n 0, 1) := by decide +kernel
theorem dL_ifCoded_4 : decode cL_ifCoded 4 = .ok (.iload_n 1, 1) := by decide +kernel
theorem dL_ifCoded_5 : decode cL_ifCoded 5 = .ok (.iload_n 2, 1) := by decide +kernel
theorem dL_ifCoded_6 : decode cL_ifCoded 6 = .ok (.iload_n 3, 1) := by decide +kernel
theorem dL_ifCoded_7 : decode cL_ifCoded 7 = .ok (.iload 4, 2) := by decide +kernel
theorem dL_ifCoded_9 : decode cL_ifCoded 9 = .ok (.invokevirtual 73, 3) := by decide +kernel
theorem dL_ifCoded_12 : decode cL_ifCoded 12 = .ok (.i2l, 1) := by decide +kernel
theorem dL_ifCoded_13 : decode cL_ifCoded 13 = .ok (.lastore, 1) := by decide +kernel
theorem dL_ifCoded_14 : decode cL_ifCoded 14 = .ok (.goto 7, 3) := by decide +kernel
theorem dL_ifCoded_17 : decode cL_ifCoded 17 = .ok (.astore 6, 2) := by decide +kernel
theorem dL_ifCoded_19 : decode cL_ifCoded 19 = .ok (.iconst 1, 1) := by decide +kernel
theorem dL_ifCoded_20 : decode cL_ifCoded 20 = .ok (.ireturn, 1) := by decide +kernel
theorem dL_ifCoded_21 : decode cL_ifCoded 21 = .ok (.iconst 0, 1) := by decide +kernel
theorem dL_ifCoded_22 : decode cL_ifCoded 22 = .ok (.ireturn, 1) := by decide +kernel
theorem dL_ifBlock_0 : decode cL_ifBlock 0 = .ok (.aload 4, 2) := by decide +kernel
theorem dL_ifBlock_2 : decode cL_ifBlock 2 = .ok (.iconst 0, 1) := by decide +kernel
theorem dL_ifBlock_3 : decode cL_ifBlock 3 = .ok (.aload_n 0, 1) := by decide +kernel
theorem dL_ifBlock_4 : decode cL_ifBlock 4 = .ok (.iload_n 1, 1) := by decide +kernel
theorem dL_ifBlock_5 : decode cL_ifBlock 5 = .ok (.iload_n 2, 1) := by decide +kernel
theorem dL_ifBlock_6 : decode cL_ifBlock 6 = .ok (.iload_n 3, 1) := by decide +kernel
theorem dL_ifBlock_7 : decode cL_ifBlock 7 = .ok (.invokevirtual 77, 3) := by decide +kernel
theorem dL_ifBlock_10 : decode cL_ifBlock 10 = .ok (.i2l, 1) := by decide +kernel
theorem dL_ifBlock_11 : decode cL_ifBlock 11 = .ok (.lastore, 1) := by decide +kernel
theorem dL_ifBlock_12 : decode cL_ifBlock 12 = .ok (.goto 11, 3) := by decide +kernel
theorem dL_ifBlock_15 : decode cL_ifBlock 15 = .ok (.astore 5, 2) := by decide +kernel
theorem dL_ifBlock_17 : decode cL_ifBlock 17 = .ok (.iconst 1, 1) := by decide +kernel
theorem dL_ifBlock_18 : decode cL_ifBlock 18 = .ok (.ireturn, 1) := by decide +kernel
theorem dL_ifBlock_19 : decode cL_ifBlock 19 = .ok (.astore 5, 2) := by decide +kernel
theorem dL_ifBlock_21 : decode cL_ifBlock 21 = .ok (.iconst 2, 1) := by decide +kernel
theorem dL_ifBlock_22 : decode cL_ifBlock 22 = .ok (.ireturn, 1) := by decide +kernel
theorem dL_ifBlock_23 : decode cL_ifBlock 23 = .ok (.iconst 0, 1) := by decide +kernel
theorem dL_ifBlock_24 : decode cL_ifBlock 24 = .ok (.ireturn, 1) := by decide +kernel
theorem dL_bestStep_0 : decode cL_bestStep 0 = .ok (.aload_n 3, 1) := by decide +kernel
theorem dL_bestStep_1 : decode cL_bestStep 1 = .ok (.iconst 0, 1) := by decide +kernel
theorem dL_bestStep_2 : decode cL_bestStep 2 = .ok (.aload_n 0, 1) := by decide +kernel
theorem dL_bestStep_3 : decode cL_bestStep 3 = .ok (.iload_n 1, 1) := by decide +kernel
theorem dL_bestStep_4 : decode cL_bestStep 4 = .ok (.iload_n 2, 1) := by decide +kernel
theorem dL_bestStep_5 : decode cL_bestStep 5 = .ok (.invokevirtual 80, 3) := by decide +kernel
theorem dL_bestStep_8 : decode cL_bestStep 8 = .ok (.i2l, 1) := by decide +kernel
theorem dL_bestStep_9 : decode cL_bestStep 9 = .ok (.lastore, 1) := by decide +kernel
theorem dL_bestStep_10 : decode cL_bestStep 10 = .ok (.goto 7, 3) := by decide +kernel
theorem dL_bestStep_13 : decode cL_bestStep 13 = .ok (.astore 4, 2) := by decide +kernel
theorem dL_bestStep_15 : decode cL_bestStep 15 = .ok (.iconst 1, 1) := by decide +kernel
theorem dL_bestStep_16 : decode cL_bestStep 16 = .ok (.ireturn, 1) := by decide +kernel
theorem dL_bestStep_17 : decode cL_bestStep 17 = .ok (.iconst 0, 1) := by decide +kernel
theorem dL_bestStep_18 : decode cL_bestStep 18 = .ok (.ireturn, 1) := by decide +kernel
theorem dL_ifSpoiled_0 : decode cL_ifSpoiled 0 = .ok (.aload_n 3, 1) := by decide +kernel
theorem dL_ifSpoiled_1 : decode cL_ifSpoiled 1 = .ok (.iconst 0, 1) := by decide +kernel
theorem dL_ifSpoiled_2 : decode cL_ifSpoiled 2 = .ok (.aload_n 0, 1) := by decide +kernel
theorem dL_ifSpoiled_3 : decode cL_ifSpoiled 3 = .ok (.iload_n 1, 1) := by decide +kernel
theorem dL_ifSpoiled_4 : decode cL_ifSpoiled 4 = .ok (.iload_n 2, 1) := by decide +kernel
theorem dL_ifSpoiled_5 : decode cL_ifSpoiled 5 = .ok (.invokevirtual 83, 3) := by decide +kernel
theorem dL_ifSpoiled_8 : decode cL_ifSpoiled 8 = .ok (.i2l, 1) := by decide +kernel
theorem dL_ifSpoiled_9 : decode cL_ifSpoiled 9 = .ok (.lastore, 1) := by decide +kernel
theorem dL_ifSpoiled_10 : decode cL_ifSpoiled 10 = .ok (.goto 11, 3) := by decide +kernel
theorem dL_ifSpoiled_13 : decode cL_ifSpoiled 13 = .ok (.astore 4, 2) := by decide +kernel
theorem dL_ifSpoiled_15 : decode cL_ifSpoiled 15 = .ok (.iconst 1, 1) := by decide +kernel
theorem dL_ifSpoiled_16 : decode cL_ifSpoiled 16 = .ok (.ireturn, 1) := by decide +kernel
theorem dL_ifSpoiled_17 : decode cL_ifSpoiled 17 = .ok (.astore 4, 2) := by decide +kernel
theorem dL_ifSpoiled_19 : decode cL_ifSpoiled 19 = .ok (.iconst 2, 1) := by decide +kernel
theorem dL_ifSpoiled_20 : decode cL_ifSpoiled 20 = .ok (.ireturn, 1) := by decide +kernel
theorem dL_ifSpoiled_21 : decode cL_ifSpoiled 21 = .ok (.iconst 0, 1) := by decide +kernel
theorem dL_ifSpoiled_22 : decode cL_ifSpoiled 22 = .ok (.ireturn, 1) := by decide +kernel
theorem dL_law_0 : decode cL_law 0 = .ok (.new 8, 3) := by decide +kernel
theorem dL_law_3 : decode cL_law 3 = .ok (.dup, 1) := by decide +kernel
theorem dL_law_4 : decode cL_law 4 = .ok (.invokespecial 86, 3) := by decide +kernel
theorem dL_law_7 : decode cL_law 7 = .ok (.astore_n 1, 1) := by decide +kernel
theorem dL_law_8 : decode cL_law 8 = .ok (.new 87, 3) := by decide +kernel
theorem dL_law_11 : decode cL_law 11 = .ok (.dup, 1) := by decide +kernel
theorem dL_law_12 : decode cL_law 12 = .ok (.invokespecial 89, 3) := by decide +kernel
theorem dL_law_15 : decode cL_law 15 = .ok (.astore_n 2, 1) := by decide +kernel
theorem dL_law_16 : decode cL_law 16 = .ok (.iconst 1, 1) := by decide +kernel
theorem dL_law_17 : decode cL_law 17 = .ok (.newarray .long, 2) := by decide +kernel
theorem dL_law_19 : decode cL_law 19 = .ok (.astore_n 3, 1) := by decide +kernel
theorem dL_law_20 : decode cL_law 20 = .ok (.iconst 0, 1) := by decide +kernel
theorem dL_law_21 : decode cL_law 21 = .ok (.istore 4, 2) := by decide +kernel
theorem dL_law_23 : decode cL_law 23 = .ok (.iload 4, 2) := by decide +kernel
theorem dL_law_25 : decode cL_law 25 = .ok (.aload_n 0, 1) := by decide +kernel
theorem dL_law_26 : decode cL_law 26 = .ok (.arraylength, 1) := by decide +kernel
theorem dL_law_27 : decode cL_law 27 = .ok (.iconst 5, 1) := by decide +kernel
theorem dL_law_28 : decode cL_law 28 = .ok (.isub, 1) := by decide +kernel
theorem dL_law_29 : decode cL_law 29 = .ok (.if_icmp .gt 1654, 3) := by decide +kernel
theorem dL_law_32 : decode cL_law 32 = .ok (.aload_n 0, 1) := by decide +kernel
theorem dL_law_33 : decode cL_law 33 = .ok (.iload 4, 2) := by decide +kernel
theorem dL_law_35 : decode cL_law 35 = .ok (.iaload, 1) := by decide +kernel
theorem dL_law_36 : decode cL_law 36 = .ok (.bipush 31, 2) := by decide +kernel
theorem dL_law_38 : decode cL_law 38 = .ok (.iand, 1) := by decide +kernel
theorem dL_law_39 : decode cL_law 39 = .ok (.tableswitch 1638 0 27 #[125, 181, 249, 329, 373, 441, 454, 510, 578, 634, 647, 660, 716, 772, 828, 884, 928, 984, 1052, 1120, 1176, 1232, 1324, 1404, 1472, 1540, 1581, 1624], 125) := by decide +kernel
theorem dL_law_164 : decode cL_law 164 = .ok (.aload_n 1, 1) := by decide +kernel
theorem dL_law_165 : decode cL_law 165 = .ok (.aload_n 0, 1) := by decide +kernel
theorem dL_law_166 : decode cL_law 166 = .ok (.iload 4, 2) := by decide +kernel
theorem dL_law_168 : decode cL_law 168 = .ok (.iconst 1, 1) := by decide +kernel
theorem dL_law_169 : decode cL_law 169 = .ok (.iadd, 1) := by decide +kernel
theorem dL_law_170 : decode cL_law 170 = .ok (.iaload, 1) := by decide +kernel
theorem dL_law_171 : decode cL_law 171 = .ok (.aload_n 3, 1) := by decide +kernel
theorem dL_law_172 : decode cL_law 172 = .ok (.invokestatic 90, 3) := by decide +kernel
theorem dL_law_175 : decode cL_law 175 = .ok (.istore 5, 2) := by decide +kernel
theorem dL_law_177 : decode cL_law 177 = .ok (.aload_n 2, 1) := by decide +kernel
theorem dL_law_178 : decode cL_law 178 = .ok (.aload_n 0, 1) := by decide +kernel
theorem dL_law_179 : decode cL_law 179 = .ok (.iload 4, 2) := by decide +kernel
theorem dL_law_181 : decode cL_law 181 = .ok (.iconst 1, 1) := by decide +kernel
theorem dL_law_182 : decode cL_law 182 = .ok (.iadd, 1) := by decide +kernel
theorem dL_law_183 : decode cL_law 183 = .ok (.iaload, 1) := by decide +kernel
theorem dL_law_184 : decode cL_law 184 = .ok (.invokevirtual 95, 3) := by decide +kernel
theorem dL_law_187 : decode cL_law 187 = .ok (.istore 6, 2) := by decide +kernel
theorem dL_law_189 : decode cL_law 189 = .ok (.aload_n 2, 1) := by decide +kernel
theorem dL_law_190 : decode cL_law 190 = .ok (.invokevirtual 96, 3) := by decide +kernel
theorem dL_law_193 : decode cL_law 193 = .ok (.iload 5, 2) := by decide +kernel
theorem dL_law_195 : decode cL_law 195 = .ok (.if_icmp .eq 5, 3) := by decide +kernel
theorem dL_law_198 : decode cL_law 198 = .ok (.iconst 0, 1) := by decide +kernel
theorem dL_law_199 : decode cL_law 199 = .ok (.ireturn, 1) := by decide +kernel
theorem dL_law_200 : decode cL_law 200 = .ok (.iload 5, 2) := by decide +kernel
theorem dL_law_202 : decode cL_law 202 = .ok (.ifCond .ne 15, 3) := by decide +kernel
theorem dL_law_205 : decode cL_law 205 = .ok (.aload_n 3, 1) := by decide +kernel
theorem dL_law_206 : decode cL_law 206 = .ok (.iconst 0, 1) := by decide +kernel
theorem dL_law_207 : decode cL_law 207 = .ok (.laload, 1) := by decide +kernel
theorem dL_law_208 : decode cL_law 208 = .ok (.iload 6, 2) := by decide +kernel
theorem dL_law_210 : decode cL_law 210 = .ok (.i2l, 1) := by decide +kernel
theorem dL_law_211 : decode cL_law 211 = .ok (.lcmp, 1) := by decide +kernel
theorem dL_law_212 : decode cL_law 212 = .ok (.ifCond .eq 5, 3) := by decide +kernel
theorem dL_law_215 : decode cL_law 215 = .ok (.iconst 0, 1) := by decide +kernel
theorem dL_law_216 : decode cL_law 216 = .ok (.ireturn, 1) := by decide +kernel
theorem dL_law_217 : decode cL_law 217 = .ok (.goto 1460, 3) := by decide +kernel
theorem dL_law_220 : decode cL_law 220 = .ok (.aload_n 1, 1) := by decide +kernel
theorem dL_law_221 : decode cL_law 221 = .ok (.aload_n 0, 1) := by decide +kernel
theorem dL_law_222 : decode cL_law 222 = .ok (.iload 4, 2) := by decide +kernel
theorem dL_law_224 : decode cL_law 224 = .ok (.iconst 1, 1) := by decide +kernel
theorem dL_law_225 : decode cL_law 225 = .ok (.iadd, 1) := by decide +kernel
theorem dL_law_226 : decode cL_law 226 = .ok (.iaload, 1) := by decide +kernel
theorem dL_law_227 : decode cL_law 227 = .ok (.aload_n 0, 1) := by decide +kernel
theorem dL_law_228 : decode cL_law 228 = .ok (.iload 4, 2) := by decide +kernel
theorem dL_law_230 : decode cL_law 230 = .ok (.iconst 2, 1) := by decide +kernel
theorem dL_law_231 : decode cL_law 231 = .ok (.iadd, 1) := by decide +kernel
theorem dL_law_232 : decode cL_law 232 = .ok (.iaload, 1) := by decide +kernel
theorem dL_law_233 : decode cL_law 233 = .ok (.aload_n 3, 1) := by decide +kernel
theorem dL_law_234 : decode cL_law 234 = .ok (.invokestatic 99, 3) := by decide +kernel
theorem dL_law_237 : decode cL_law 237 = .ok (.istore 5, 2) := by decide +kernel
theorem dL_law_239 : decode cL_law 239 = .ok (.aload_n 2, 1) := by decide +kernel
theorem dL_law_240 : decode cL_law 240 = .ok (.aload_n 0, 1) := by decide +kernel
theorem dL_law_241 : decode cL_law 241 = .ok (.iload 4, 2) := by decide +kernel
theorem dL_law_243 : decode cL_law 243 = .ok (.iconst 1, 1) := by decide +kernel
theorem dL_law_244 : decode cL_law 244 = .ok (.iadd, 1) := by decide +kernel
theorem dL_law_245 : decode cL_law 245 = .ok (.iaload, 1) := by decide +kernel
theorem dL_law_246 : decode cL_law 246 = .ok (.aload_n 0, 1) := by decide +kernel
theorem dL_law_247 : decode cL_law 247 = .ok (.iload 4, 2) := by decide +kernel
theorem dL_law_249 : decode cL_law 249 = .ok (.iconst 2, 1) := by decide +kernel
theorem dL_law_250 : decode cL_law 250 = .ok (.iadd, 1) := by decide +kernel
theorem dL_law_251 : decode cL_law 251 = .ok (.iaload, 1) := by decide +kernel
theorem dL_law_252 : decode cL_law 252 = .ok (.invokevirtual 102, 3) := by decide +kernel
theorem dL_law_255 : decode cL_law 255 = .ok (.istore 6, 2) := by decide +kernel
theorem dL_law_257 : decode cL_law 257 = .ok (.aload_n 2, 1) := by decide +kernel
theorem dL_law_258 : decode cL_law 258 = .ok (.invokevirtual 96, 3) := by decide +kernel
theorem dL_law_261 : decode cL_law 261 = .ok (.iload 5, 2) := by decide +kernel
theorem dL_law_263 : decode cL_law 263 = .ok (.if_icmp .eq 5, 3) := by decide +kernel
theorem dL_law_266 : decode cL_law 266 = .ok (.iconst 0, 1) := by decide +kernel
theorem dL_law_267 : decode cL_law 267 = .ok (.ireturn, 1) := by decide +kernel
theorem dL_law_268 : decode cL_law 268 = .ok (.iload 5, 2) := by decide +kernel
theorem dL_law_270 : decode cL_law 270 = .ok (.ifCond .ne 15, 3) := by decide +kernel
theorem dL_law_273 : decode cL_law 273 = .ok (.aload_n 3, 1) := by decide +kernel
theorem dL_law_274 : decode cL_law 274 = .ok (.iconst 0, 1) := by decide +kernel
theorem dL_law_275 : decode cL_law 275 = .ok (.laload, 1) := by decide +kernel
theorem dL_law_276 : decode cL_law 276 = .ok (.iload 6, 2) := by decide +kernel
theorem dL_law_278 : decode cL_law 278 = .ok (.i2l, 1) := by decide +kernel
theorem dL_law_279 : decode cL_law 279 = .ok (.lcmp, 1) := by decide +kernel
theorem dL_law_280 : decode cL_law 280 = .ok (.ifCond .eq 5, 3) := by decide +kernel
theorem dL_law_283 : decode cL_law 283 = .ok (.iconst 0, 1) := by decide +kernel
theorem dL_law_284 : decode cL_law 284 = .ok (.ireturn, 1) := by decide +kernel
theorem dL_law_285 : decode cL_law 285 = .ok (.goto 1392, 3) := by decide +kernel
theorem dL_law_288 : decode cL_law 288 = .ok (.aload_n 1, 1) := by decide +kernel
theorem dL_law_289 : decode cL_law 289 = .ok (.aload_n 0, 1) := by decide +kernel
theorem dL_law_290 : decode cL_law 290 = .ok (.iload 4, 2) := by decide +kernel
theorem dL_law_292 : decode cL_law 292 = .ok (.iconst 1, 1) := by decide +kernel
theorem dL_law_293 : decode cL_law 293 = .ok (.iadd, 1) := by decide +kernel
theorem dL_law_294 : decode cL_law 294 = .ok (.iaload, 1) := by decide +kernel
theorem dL_law_295 : decode cL_law 295 = .ok (.aload_n 0, 1) := by decide +kernel
theorem dL_law_296 : decode cL_law 296 = .ok (.iload 4, 2) := by decide +kernel
theorem dL_law_298 : decode cL_law 298 = .ok (.iconst 2, 1) := by decide +kernel
theorem dL_law_299 : decode cL_law 299 = .ok (.iadd, 1) := by decide +kernel
theorem dL_law_300 : decode cL_law 300 = .ok (.iaload, 1) := by decide +kernel
theorem dL_law_301 : decode cL_law 301 = .ok (.aload_n 0, 1) := by decide +kernel
theorem dL_law_302 : decode cL_law 302 = .ok (.iload 4, 2) := by decide +kernel
theorem dL_law_304 : decode cL_law 304 = .ok (.iconst 3, 1) := by decide +kernel
theorem dL_law_305 : decode cL_law 305 = .ok (.iadd, 1) := by decide +kernel
theorem dL_law_306 : decode cL_law 306 = .ok (.iaload, 1) := by decide +kernel
theorem dL_law_307 : decode cL_law 307 = .ok (.aload_n 3, 1) := by decide +kernel
theorem dL_law_308 : decode cL_law 308 = .ok (.invokestatic 103, 3) := by decide +kernel
theorem dL_law_311 : decode cL_law 311 = .ok (.istore 5, 2) := by decide +kernel
theorem dL_law_313 : decode cL_law 313 = .ok (.aload_n 2, 1) := by decide +kernel
theorem dL_law_314 : decode cL_law 314 = .ok (.aload_n 0, 1) := by decide +kernel
theorem dL_law_315 : decode cL_law 315 = .ok (.iload 4, 2) := by decide +kernel
theorem dL_law_317 : decode cL_law 317 = .ok (.iconst 1, 1) := by decide +kernel
theorem dL_law_318 : decode cL_law 318 = .ok (.iadd, 1) := by decide +kernel
theorem dL_law_319 : decode cL_law 319 = .ok (.iaload, 1) := by decide +kernel
theorem dL_law_320 : decode cL_law 320 = .ok (.aload_n 0, 1) := by decide +kernel
theorem dL_law_321 : decode cL_law 321 = .ok (.iload 4, 2) := by decide +kernel
theorem dL_law_323 : decode cL_law 323 = .ok (.iconst 2, 1) := by decide +kernel
theorem dL_law_324 : decode cL_law 324 = .ok (.iadd, 1) := by decide +kernel
theorem dL_law_325 : decode cL_law 325 = .ok (.iaload, 1) := by decide +kernel
theorem dL_law_326 : decode cL_law 326 = .ok (.aload_n 0, 1) := by decide +kernel
theorem dL_law_327 : decode cL_law 327 = .ok (.iload 4, 2) := by decide +kernel
theorem dL_law_329 : decode cL_law 329 = .ok (.iconst 3, 1) := by decide +kernel
theorem dL_law_330 : decode cL_law 330 = .ok (.iadd, 1) := by decide +kernel
theorem dL_law_331 : decode cL_law 331 = .ok (.iaload, 1) := by decide +kernel
theorem dL_law_332 : decode cL_law 332 = .ok (.invokevirtual 106, 3) := by decide +kernel
theorem dL_law_335 : decode cL_law 335 = .ok (.istore 6, 2) := by decide +kernel
theorem dL_law_337 : decode cL_law 337 = .ok (.aload_n 2, 1) := by decide +kernel
theorem dL_law_338 : decode cL_law 338 = .ok (.invokevirtual 96, 3) := by decide +kernel
theorem dL_law_341 : decode cL_law 341 = .ok (.iload 5, 2) := by decide +kernel
theorem dL_law_343 : decode cL_law 343 = .ok (.if_icmp .eq 5, 3) := by decide +kernel
theorem dL_law_346 : decode cL_law 346 = .ok (.iconst 0, 1) := by decide +kernel
theorem dL_law_347 : decode cL_law 347 = .ok (.ireturn, 1) := by decide +kernel
theorem dL_law_348 : decode cL_law 348 = .ok (.iload 5, 2) := by decide +kernel
theorem dL_law_350 : decode cL_law 350 = .ok (.ifCond .ne 15, 3) := by decide +kernel
theorem dL_law_353 : decode cL_law 353 = .ok (.aload_n 3, 1) := by decide +kernel
theorem dL_law_354 : decode cL_law 354 = .ok (.iconst 0, 1) := by decide +kernel
theorem dL_law_355 : decode cL_law 355 = .ok (.laload, 1) := by decide +kernel
theorem dL_law_356 : decode cL_law 356 = .ok (.iload 6, 2) := by decide +kernel
theorem dL_law_358 : decode cL_law 358 = .ok (.i2l, 1) := by decide +kernel
theorem dL_law_359 : decode cL_law 359 = .ok (.lcmp, 1) := by decide +kernel
theorem dL_law_360 : decode cL_law 360 = .ok (.ifCond .eq 5, 3) := by decide +kernel
theorem dL_law_363 : decode cL_law 363 = .ok (.iconst 0, 1) := by decide +kernel
theorem dL_law_364 : decode cL_law 364 = .ok (.ireturn, 1) := by decide +kernel
theorem dL_law_365 : decode cL_law 365 = .ok (.goto 1312, 3) := by decide +kernel
theorem dL_law_368 : decode cL_law 368 = .ok (.aload_n 1, 1) := by decide +kernel
theorem dL_law_369 : decode cL_law 369 = .ok (.aload_n 3, 1) := by decide +kernel
theorem dL_law_370 : decode cL_law 370 = .ok (.invokestatic 107, 3) := by decide +kernel
theorem dL_law_373 : decode cL_law 373 = .ok (.istore 5, 2) := by decide +kernel
theorem dL_law_375 : decode cL_law 375 = .ok (.aload_n 2, 1) := by decide +kernel
theorem dL_law_376 : decode cL_law 376 = .ok (.invokevirtual 110, 3) := by decide +kernel
theorem dL_law_379 : decode cL_law 379 = .ok (.istore 6, 2) := by decide +kernel
theorem dL_law_381 : decode cL_law 381 = .ok (.aload_n 2, 1) := by decide +kernel
theorem dL_law_382 : decode cL_law 382 = .ok (.invokevirtual 96, 3) := by decide +kernel
theorem dL_law_385 : decode cL_law 385 = .ok (.iload 5, 2) := by decide +kernel
theorem dL_law_387 : decode cL_law 387 = .ok (.if_icmp .eq 5, 3) := by decide +kernel
theorem dL_law_390 : decode cL_law 390 = .ok (.iconst 0, 1) := by decide +kernel
theorem dL_law_391 : decode cL_law 391 = .ok (.ireturn, 1) := by decide +kernel
theorem dL_law_392 : decode cL_law 392 = .ok (.iload 5, 2) := by decide +kernel
theorem dL_law_394 : decode cL_law 394 = .ok (.ifCond .ne 15, 3) := by decide +kernel
theorem dL_law_397 : decode cL_law 397 = .ok (.aload_n 3, 1) := by decide +kernel
theorem dL_law_398 : decode cL_law 398 = .ok (.iconst 0, 1) := by decide +kernel
theorem dL_law_399 : decode cL_law 399 = .ok (.laload, 1) := by decide +kernel
theorem dL_law_400 : decode cL_law 400 = .ok (.iload 6, 2) := by decide +kernel
theorem dL_law_402 : decode cL_law 402 = .ok (.i2l, 1) := by decide +kernel
theorem dL_law_403 : decode cL_law 403 = .ok (.lcmp, 1) := by decide +kernel
theorem dL_law_404 : decode cL_law 404 = .ok (.ifCond .eq 5, 3) := by decide +kernel
theorem dL_law_407 : decode cL_law 407 = .ok (.iconst 0, 1) := by decide +kernel
theorem dL_law_408 : decode cL_law 408 = .ok (.ireturn, 1) := by decide +kernel
theorem dL_law_409 : decode cL_law 409 = .ok (.goto 1268, 3) := by decide +kernel
theorem dL_law_412 : decode cL_law 412 = .ok (.aload_n 1, 1) := by decide +kernel
theorem dL_law_413 : decode cL_law 413 = .ok (.aload_n 0, 1) := by decide +kernel
theorem dL_law_414 : decode cL_law 414 = .ok (.iload 4, 2) := by decide +kernel
theorem dL_law_416 : decode cL_law 416 = .ok (.iconst 1, 1) := by decide +kernel
theorem dL_law_417 : decode cL_law 417 = .ok (.iadd, 1) := by decide +kernel
theorem dL_law_418 : decode cL_law 418 = .ok (.iaload, 1) := by decide +kernel
theorem dL_law_419 : decode cL_law 419 = .ok (.aload_n 0, 1) := by decide +kernel
theorem dL_law_420 : decode cL_law 420 = .ok (.iload 4, 2) := by decide +kernel
theorem dL_law_422 : decode cL_law 422 = .ok (.iconst 2, 1) := by decide +kernel
theorem dL_law_423 : decode cL_law 423 = .ok (.iadd, 1) := by decide +kernel
theorem dL_law_424 : decode cL_law 424 = .ok (.iaload, 1) := by decide +kernel
theorem dL_law_425 : decode cL_law 425 = .ok (.aload_n 3, 1) := by decide +kernel
theorem dL_law_426 : decode cL_law 426 = .ok (.invokestatic 111, 3) := by decide +kernel
theorem dL_law_429 : decode cL_law 429 = .ok (.istore 5, 2) := by decide +kernel
theorem dL_law_431 : decode cL_law 431 = .ok (.aload_n 2, 1) := by decide +kernel
theorem dL_law_432 : decode cL_law 432 = .ok (.aload_n 0, 1) := by decide +kernel
theorem dL_law_433 : decode cL_law 433 = .ok (.iload 4, 2) := by decide +kernel
theorem dL_law_435 : decode cL_law 435 = .ok (.iconst 1, 1) := by decide +kernel
theorem dL_law_436 : decode cL_law 436 = .ok (.iadd, 1) := by decide +kernel
theorem dL_law_437 : decode cL_law 437 = .ok (.iaload, 1) := by decide +kernel
theorem dL_law_438 : decode cL_law 438 = .ok (.aload_n 0, 1) := by decide +kernel
theorem dL_law_439 : decode cL_law 439 = .ok (.iload 4, 2) := by decide +kernel
theorem dL_law_441 : decode cL_law 441 = .ok (.iconst 2, 1) := by decide +kernel
theorem dL_law_442 : decode cL_law 442 = .ok (.iadd, 1) := by decide +kernel
theorem dL_law_443 : decode cL_law 443 = .ok (.iaload, 1) := by decide +kernel
theorem dL_law_444 : decode cL_law 444 = .ok (.invokevirtual 113, 3) := by decide +kernel
theorem dL_law_447 : decode cL_law 447 = .ok (.istore 6, 2) := by decide +kernel
theorem dL_law_449 : decode cL_law 449 = .ok (.aload_n 2, 1) := by decide +kernel
theorem dL_law_450 : decode cL_law 450 = .ok (.invokevirtual 96, 3) := by decide +kernel
theorem dL_law_453 : decode cL_law 453 = .ok (.iload 5, 2) := by decide +kernel
theorem dL_law_455 : decode cL_law 455 = .ok (.if_icmp .eq 5, 3) := by decide +kernel
theorem dL_law_458 : decode cL_law 458 = .ok (.iconst 0, 1) := by decide +kernel
theorem dL_law_459 : decode cL_law 459 = .ok (.ireturn, 1) := by decide +kernel
theorem dL_law_460 : decode cL_law 460 = .ok (.iload 5, 2) := by decide +kernel
theorem dL_law_462 : decode cL_law 462 = .ok (.ifCond .ne 15, 3) := by decide +kernel
theorem dL_law_465 : decode cL_law 465 = .ok (.aload_n 3, 1) := by decide +kernel
theorem dL_law_466 : decode cL_law 466 = .ok (.iconst 0, 1) := by decide +kernel
theorem dL_law_467 : decode cL_law 467 = .ok (.laload, 1) := by decide +kernel
theorem dL_law_468 : decode cL_law 468 = .ok (.iload 6, 2) := by decide +kernel
theorem dL_law_470 : decode cL_law 470 = .ok (.i2l, 1) := by decide +kernel
theorem dL_law_471 : decode cL_law 471 = .ok (.lcmp, 1) := by decide +kernel
theorem dL_law_472 : decode cL_law 472 = .ok (.ifCond .eq 5, 3) := by decide +kernel
theorem dL_law_475 : decode cL_law 475 = .ok (.iconst 0, 1) := by decide +kernel
theorem dL_law_476 : decode cL_law 476 = .ok (.ireturn, 1) := by decide +kernel
theorem dL_law_477 : decode cL_law 477 = .ok (.goto 1200, 3) := by decide +kernel
theorem dL_law_480 : decode cL_law 480 = .ok (.aload_n 1, 1) := by decide +kernel
theorem dL_law_481 : decode cL_law 481 = .ok (.invokevirtual 114, 3) := by decide +kernel
theorem dL_law_484 : decode cL_law 484 = .ok (.aload_n 2, 1) := by decide +kernel
theorem dL_law_485 : decode cL_law 485 = .ok (.invokevirtual 117, 3) := by decide +kernel
theorem dL_law_488 : decode cL_law 488 = .ok (.if_icmp .eq 1189, 3) := by decide +kernel
theorem dL_law_491 : decode cL_law 491 = .ok (.iconst 0, 1) := by decide +kernel
theorem dL_law_492 : decode cL_law 492 = .ok (.ireturn, 1) := by decide +kernel
theorem dL_law_493 : decode cL_law 493 = .ok (.aload_n 1, 1) := by decide +kernel
theorem dL_law_494 : decode cL_law 494 = .ok (.aload_n 0, 1) := by decide +kernel
theorem dL_law_495 : decode cL_law 495 = .ok (.iload 4, 2) := by decide +kernel
theorem dL_law_497 : decode cL_law 497 = .ok (.iconst 1, 1) := by decide +kernel
theorem dL_law_498 : decode cL_law 498 = .ok (.iadd, 1) := by decide +kernel
theorem dL_law_499 : decode cL_law 499 = .ok (.iaload, 1) := by decide +kernel
theorem dL_law_500 : decode cL_law 500 = .ok (.aload_n 3, 1) := by decide +kernel
theorem dL_law_501 : decode cL_law 501 = .ok (.invokestatic 118, 3) := by decide +kernel
theorem dL_law_504 : decode cL_law 504 = .ok (.istore 5, 2) := by decide +kernel
theorem dL_law_506 : decode cL_law 506 = .ok (.aload_n 2, 1) := by decide +kernel
theorem dL_law_507 : decode cL_law 507 = .ok (.aload_n 0, 1) := by decide +kernel
theorem dL_law_508 : decode cL_law 508 = .ok (.iload 4, 2) := by decide +kernel
theorem dL_law_510 : decode cL_law 510 = .ok (.iconst 1, 1) := by decide +kernel
theorem dL_law_511 : decode cL_law 511 = .ok (.iadd, 1) := by decide +kernel
theorem dL_law_512 : decode cL_law 512 = .ok (.iaload, 1) := by decide +kernel
theorem dL_law_513 : decode cL_law 513 = .ok (.invokevirtual 120, 3) := by decide +kernel
theorem dL_law_516 : decode cL_law 516 = .ok (.istore 6, 2) := by decide +kernel
theorem dL_law_518 : decode cL_law 518 = .ok (.aload_n 2, 1) := by decide +kernel
theorem dL_law_519 : decode cL_law 519 = .ok (.invokevirtual 96, 3) := by decide +kernel
theorem dL_law_522 : decode cL_law 522 = .ok (.iload 5, 2) := by decide +kernel
theorem dL_law_524 : decode cL_law 524 = .ok (.if_icmp .eq 5, 3) := by decide +kernel
theorem dL_law_527 : decode cL_law 527 = .ok (.iconst 0, 1) := by decide +kernel
theorem dL_law_528 : decode cL_law 528 = .ok (.ireturn, 1) := by decide +kernel
theorem dL_law_529 : decode cL_law 529 = .ok (.iload 5, 2) := by decide +kernel
theorem dL_law_531 : decode cL_law 531 = .ok (.ifCond .ne 15, 3) := by decide +kernel
theorem dL_law_534 : decode cL_law 534 = .ok (.aload_n 3, 1) := by decide +kernel
theorem dL_law_535 : decode cL_law 535 = .ok (.iconst 0, 1) := by decide +kernel
theorem dL_law_536 : decode cL_law 536 = .ok (.laload, 1) := by decide +kernel
theorem dL_law_537 : decode cL_law 537 = .ok (.iload 6, 2) := by decide +kernel
theorem dL_law_539 : decode cL_law 539 = .ok (.i2l, 1) := by decide +kernel
theorem dL_law_540 : decode cL_law 540 = .ok (.lcmp, 1) := by decide +kernel
theorem dL_law_541 : decode cL_law 541 = .ok (.ifCond .eq 5, 3) := by decide +kernel
theorem dL_law_544 : decode cL_law 544 = .ok (.iconst 0, 1) := by decide +kernel
theorem dL_law_545 : decode cL_law 545 = .ok (.ireturn, 1) := by decide +kernel
theorem dL_law_546 : decode cL_law 546 = .ok (.goto 1131, 3) := by decide +kernel
theorem dL_law_549 : decode cL_law 549 = .ok (.aload_n 1, 1) := by decide +kernel
theorem dL_law_550 : decode cL_law 550 = .ok (.aload_n 0, 1) := by decide +kernel
theorem dL_law_551 : decode cL_law 551 = .ok (.iload 4, 2) := by decide +kernel
theorem dL_law_553 : decode cL_law 553 = .ok (.iconst 1, 1) := by decide +kernel
theorem dL_law_554 : decode cL_law 554 = .ok (.iadd, 1) := by decide +kernel
theorem dL_law_555 : decode cL_law 555 = .ok (.iaload, 1) := by decide +kernel
theorem dL_law_556 : decode cL_law 556 = .ok (.aload_n 0, 1) := by decide +kernel
theorem dL_law_557 : decode cL_law 557 = .ok (.iload 4, 2) := by decide +kernel
theorem dL_law_559 : decode cL_law 559 = .ok (.iconst 2, 1) := by decide +kernel
theorem dL_law_560 : decode cL_law 560 = .ok (.iadd, 1) := by decide +kernel
theorem dL_law_561 : decode cL_law 561 = .ok (.iaload, 1) := by decide +kernel
theorem dL_law_562 : decode cL_law 562 = .ok (.aload_n 3, 1) := by decide +kernel
theorem dL_law_563 : decode cL_law 563 = .ok (.invokestatic 121, 3) := by decide +kernel
theorem dL_law_566 : decode cL_law 566 = .ok (.istore 5, 2) := by decide +kernel
theorem dL_law_568 : decode cL_law 568 = .ok (.aload_n 2, 1) := by decide +kernel
theorem dL_law_569 : decode cL_law 569 = .ok (.aload_n 0, 1) := by decide +kernel
theorem dL_law_570 : decode cL_law 570 = .ok (.iload 4, 2) := by decide +kernel
theorem dL_law_572 : decode cL_law 572 = .ok (.iconst 1, 1) := by decide +kernel
theorem dL_law_573 : decode cL_law 573 = .ok (.iadd, 1) := by decide +kernel
theorem dL_law_574 : decode cL_law 574 = .ok (.iaload, 1) := by decide +kernel
theorem dL_law_575 : decode cL_law 575 = .ok (.aload_n 0, 1) := by decide +kernel
theorem dL_law_576 : decode cL_law 576 = .ok (.iload 4, 2) := by decide +kernel
theorem dL_law_578 : decode cL_law 578 = .ok (.iconst 2, 1) := by decide +kernel
theorem dL_law_579 : decode cL_law 579 = .ok (.iadd, 1) := by decide +kernel
theorem dL_law_580 : decode cL_law 580 = .ok (.iaload, 1) := by decide +kernel
theorem dL_law_581 : decode cL_law 581 = .ok (.invokevirtual 123, 3) := by decide +kernel
theorem dL_law_584 : decode cL_law 584 = .ok (.istore 6, 2) := by decide +kernel
theorem dL_law_586 : decode cL_law 586 = .ok (.aload_n 2, 1) := by decide +kernel
theorem dL_law_587 : decode cL_law 587 = .ok (.invokevirtual 96, 3) := by decide +kernel
theorem dL_law_590 : decode cL_law 590 = .ok (.iload 5, 2) := by decide +kernel
theorem dL_law_592 : decode cL_law 592 = .ok (.if_icmp .eq 5, 3) := by decide +kernel
theorem dL_law_595 : decode cL_law 595 = .ok (.iconst 0, 1) := by decide +kernel
theorem dL_law_596 : decode cL_law 596 = .ok (.ireturn, 1) := by decide +kernel
theorem dL_law_597 : decode cL_law 597 = .ok (.iload 5, 2) := by decide +kernel
theorem dL_law_599 : decode cL_law 599 = .ok (.ifCond .ne 15, 3) := by decide +kernel
theorem dL_law_602 : decode cL_law 602 = .ok (.aload_n 3, 1) := by decide +kernel
theorem dL_law_603 : decode cL_law 603 = .ok (.iconst 0, 1) := by decide +kernel
theorem dL_law_604 : decode cL_law 604 = .ok (.laload, 1) := by decide +kernel
theorem dL_law_605 : decode cL_law 605 = .ok (.iload 6, 2) := by decide +kernel
theorem dL_law_607 : decode cL_law 607 = .ok (.i2l, 1) := by decide +kernel
theorem dL_law_608 : decode cL_law 608 = .ok (.lcmp, 1) := by decide +kernel
theorem dL_law_609 : decode cL_law 609 = .ok (.ifCond .eq 5, 3) := by decide +kernel
theorem dL_law_612 : decode cL_law 612 = .ok (.iconst 0, 1) := by decide +kernel
theorem dL_law_613 : decode cL_law 613 = .ok (.ireturn, 1) := by decide +kernel
theorem dL_law_614 : decode cL_law 614 = .ok (.goto 1063, 3) := by decide +kernel
theorem dL_law_617 : decode cL_law 617 = .ok (.aload_n 1, 1) := by decide +kernel
theorem dL_law_618 : decode cL_law 618 = .ok (.aload_n 0, 1) := by decide +kernel
theorem dL_law_619 : decode cL_law 619 = .ok (.iload 4, 2) := by decide +kernel
theorem dL_law_621 : decode cL_law 621 = .ok (.iconst 1, 1) := by decide +kernel
theorem dL_law_622 : decode cL_law 622 = .ok (.iadd, 1) := by decide +kernel
theorem dL_law_623 : decode cL_law 623 = .ok (.iaload, 1) := by decide +kernel
theorem dL_law_624 : decode cL_law 624 = .ok (.aload_n 3, 1) := by decide +kernel
theorem dL_law_625 : decode cL_law 625 = .ok (.invokestatic 124, 3) := by decide +kernel
theorem dL_law_628 : decode cL_law 628 = .ok (.istore 5, 2) := by decide +kernel
theorem dL_law_630 : decode cL_law 630 = .ok (.aload_n 2, 1) := by decide +kernel
theorem dL_law_631 : decode cL_law 631 = .ok (.aload_n 0, 1) := by decide +kernel
theorem dL_law_632 : decode cL_law 632 = .ok (.iload 4, 2) := by decide +kernel
theorem dL_law_634 : decode cL_law 634 = .ok (.iconst 1, 1) := by decide +kernel
theorem dL_law_635 : decode cL_law 635 = .ok (.iadd, 1) := by decide +kernel
theorem dL_law_636 : decode cL_law 636 = .ok (.iaload, 1) := by decide +kernel
theorem dL_law_637 : decode cL_law 637 = .ok (.invokevirtual 126, 3) := by decide +kernel
theorem dL_law_640 : decode cL_law 640 = .ok (.istore 6, 2) := by decide +kernel
theorem dL_law_642 : decode cL_law 642 = .ok (.aload_n 2, 1) := by decide +kernel
theorem dL_law_643 : decode cL_law 643 = .ok (.invokevirtual 96, 3) := by decide +kernel
theorem dL_law_646 : decode cL_law 646 = .ok (.iload 5, 2) := by decide +kernel
theorem dL_law_648 : decode cL_law 648 = .ok (.if_icmp .eq 5, 3) := by decide +kernel
theorem dL_law_651 : decode cL_law 651 = .ok (.iconst 0, 1) := by decide +kernel
theorem dL_law_652 : decode cL_law 652 = .ok (.ireturn, 1) := by decide +kernel
theorem dL_law_653 : decode cL_law 653 = .ok (.iload 5, 2) := by decide +kernel
theorem dL_law_655 : decode cL_law 655 = .ok (.ifCond .ne 15, 3) := by decide +kernel
theorem dL_law_658 : decode cL_law 658 = .ok (.aload_n 3, 1) := by decide +kernel
theorem dL_law_659 : decode cL_law 659 = .ok (.iconst 0, 1) := by decide +kernel
theorem dL_law_660 : decode cL_law 660 = .ok (.laload, 1) := by decide +kernel
theorem dL_law_661 : decode cL_law 661 = .ok (.iload 6, 2) := by decide +kernel
theorem dL_law_663 : decode cL_law 663 = .ok (.i2l, 1) := by decide +kernel
theorem dL_law_664 : decode cL_law 664 = .ok (.lcmp, 1) := by decide +kernel
theorem dL_law_665 : decode cL_law 665 = .ok (.ifCond .eq 5, 3) := by decide +kernel
theorem dL_law_668 : decode cL_law 668 = .ok (.iconst 0, 1) := by decide +kernel
theorem dL_law_669 : decode cL_law 669 = .ok (.ireturn, 1) := by decide +kernel
theorem dL_law_670 : decode cL_law 670 = .ok (.goto 1007, 3) := by decide +kernel
theorem dL_law_673 : decode cL_law 673 = .ok (.aload_n 1, 1) := by decide +kernel
theorem dL_law_674 : decode cL_law 674 = .ok (.invokevirtual 127, 3) := by decide +kernel
theorem dL_law_677 : decode cL_law 677 = .ok (.aload_n 2, 1) := by decide +kernel
theorem dL_law_678 : decode cL_law 678 = .ok (.invokevirtual 130, 3) := by decide +kernel
theorem dL_law_681 : decode cL_law 681 = .ok (.if_icmp .eq 996, 3) := by decide +kernel
theorem dL_law_684 : decode cL_law 684 = .ok (.iconst 0, 1) := by decide +kernel
theorem dL_law_685 : decode cL_law 685 = .ok (.ireturn, 1) := by decide +kernel
theorem dL_law_686 : decode cL_law 686 = .ok (.aload_n 1, 1) := by decide +kernel
theorem dL_law_687 : decode cL_law 687 = .ok (.invokevirtual 131, 3) := by decide +kernel
theorem dL_law_690 : decode cL_law 690 = .ok (.aload_n 2, 1) := by decide +kernel
theorem dL_law_691 : decode cL_law 691 = .ok (.invokevirtual 134, 3) := by decide +kernel
theorem dL_law_694 : decode cL_law 694 = .ok (.if_icmp .eq 983, 3) := by decide +kernel
theorem dL_law_697 : decode cL_law 697 = .ok (.iconst 0, 1) := by decide +kernel
theorem dL_law_698 : decode cL_law 698 = .ok (.ireturn, 1) := by decide +kernel
theorem dL_law_699 : decode cL_law 699 = .ok (.aload_n 1, 1) := by decide +kernel
theorem dL_law_700 : decode cL_law 700 = .ok (.aload_n 0, 1) := by decide +kernel
theorem dL_law_701 : decode cL_law 701 = .ok (.iload 4, 2) := by decide +kernel
theorem dL_law_703 : decode cL_law 703 = .ok (.iconst 1, 1) := by decide +kernel
theorem dL_law_704 : decode cL_law 704 = .ok (.iadd, 1) := by decide +kernel
theorem dL_law_705 : decode cL_law 705 = .ok (.iaload, 1) := by decide +kernel
theorem dL_law_706 : decode cL_law 706 = .ok (.aload_n 3, 1) := by decide +kernel
theorem dL_law_707 : decode cL_law 707 = .ok (.invokestatic 135, 3) := by decide +kernel
theorem dL_law_710 : decode cL_law 710 = .ok (.istore 5, 2) := by decide +kernel
theorem dL_law_712 : decode cL_law 712 = .ok (.aload_n 2, 1) := by decide +kernel
theorem dL_law_713 : decode cL_law 713 = .ok (.aload_n 0, 1) := by decide +kernel
theorem dL_law_714 : decode cL_law 714 = .ok (.iload 4, 2) := by decide +kernel
theorem dL_law_716 : decode cL_law 716 = .ok (.iconst 1, 1) := by decide +kernel
theorem dL_law_717 : decode cL_law 717 = .ok (.iadd, 1) := by decide +kernel
theorem dL_law_718 : decode cL_law 718 = .ok (.iaload, 1) := by decide +kernel
theorem dL_law_719 : decode cL_law 719 = .ok (.invokevirtual 137, 3) := by decide +kernel
theorem dL_law_722 : decode cL_law 722 = .ok (.istore 6, 2) := by decide +kernel
theorem dL_law_724 : decode cL_law 724 = .ok (.aload_n 2, 1) := by decide +kernel
theorem dL_law_725 : decode cL_law 725 = .ok (.invokevirtual 96, 3) := by decide +kernel
theorem dL_law_728 : decode cL_law 728 = .ok (.iload 5, 2) := by decide +kernel
theorem dL_law_730 : decode cL_law 730 = .ok (.if_icmp .eq 5, 3) := by decide +kernel
theorem dL_law_733 : decode cL_law 733 = .ok (.iconst 0, 1) := by decide +kernel
theorem dL_law_734 : decode cL_law 734 = .ok (.ireturn, 1) := by decide +kernel
theorem dL_law_735 : decode cL_law 735 = .ok (.iload 5, 2) := by decide +kernel
theorem dL_law_737 : decode cL_law 737 = .ok (.ifCond .ne 15, 3) := by decide +kernel
theorem dL_law_740 : decode cL_law 740 = .ok (.aload_n 3, 1) := by decide +kernel
theorem dL_law_741 : decode cL_law 741 = .ok (.iconst 0, 1) := by decide +kernel
theorem dL_law_742 : decode cL_law 742 = .ok (.laload, 1) := by decide +kernel
theorem dL_law_743 : decode cL_law 743 = .ok (.iload 6, 2) := by decide +kernel
theorem dL_law_745 : decode cL_law 745 = .ok (.i2l, 1) := by decide +kernel
theorem dL_law_746 : decode cL_law 746 = .ok (.lcmp, 1) := by decide +kernel
theorem dL_law_747 : decode cL_law 747 = .ok (.ifCond .eq 5, 3) := by decide +kernel
theorem dL_law_750 : decode cL_law 750 = .ok (.iconst 0, 1) := by decide +kernel
theorem dL_law_751 : decode cL_law 751 = .ok (.ireturn, 1) := by decide +kernel
theorem dL_law_752 : decode cL_law 752 = .ok (.goto 925, 3) := by decide +kernel
theorem dL_law_755 : decode cL_law 755 = .ok (.aload_n 1, 1) := by decide +kernel
theorem dL_law_756 : decode cL_law 756 = .ok (.aload_n 0, 1) := by decide +kernel
theorem dL_law_757 : decode cL_law 757 = .ok (.iload 4, 2) := by decide +kernel
theorem dL_law_759 : decode cL_law 759 = .ok (.iconst 1, 1) := by decide +kernel
theorem dL_law_760 : decode cL_law 760 = .ok (.iadd, 1) := by decide +kernel
theorem dL_law_761 : decode cL_law 761 = .ok (.iaload, 1) := by decide +kernel
theorem dL_law_762 : decode cL_law 762 = .ok (.aload_n 3, 1) := by decide +kernel
theorem dL_law_763 : decode cL_law 763 = .ok (.invokestatic 138, 3) := by decide +kernel
theorem dL_law_766 : decode cL_law 766 = .ok (.istore 5, 2) := by decide +kernel
theorem dL_law_768 : decode cL_law 768 = .ok (.aload_n 2, 1) := by decide +kernel
theorem dL_law_769 : decode cL_law 769 = .ok (.aload_n 0, 1) := by decide +kernel
theorem dL_law_770 : decode cL_law 770 = .ok (.iload 4, 2) := by decide +kernel
theorem dL_law_772 : decode cL_law 772 = .ok (.iconst 1, 1) := by decide +kernel
theorem dL_law_773 : decode cL_law 773 = .ok (.iadd, 1) := by decide +kernel
theorem dL_law_774 : decode cL_law 774 = .ok (.iaload, 1) := by decide +kernel
theorem dL_law_775 : decode cL_law 775 = .ok (.invokevirtual 140, 3) := by decide +kernel
theorem dL_law_778 : decode cL_law 778 = .ok (.istore 6, 2) := by decide +kernel
theorem dL_law_780 : decode cL_law 780 = .ok (.aload_n 2, 1) := by decide +kernel
theorem dL_law_781 : decode cL_law 781 = .ok (.invokevirtual 96, 3) := by decide +kernel
theorem dL_law_784 : decode cL_law 784 = .ok (.iload 5, 2) := by decide +kernel
theorem dL_law_786 : decode cL_law 786 = .ok (.if_icmp .eq 5, 3) := by decide +kernel
theorem dL_law_789 : decode cL_law 789 = .ok (.iconst 0, 1) := by decide +kernel
theorem dL_law_790 : decode cL_law 790 = .ok (.ireturn, 1) := by decide +kernel
theorem dL_law_791 : decode cL_law 791 = .ok (.iload 5, 2) := by decide +kernel
theorem dL_law_793 : decode cL_law 793 = .ok (.ifCond .ne 15, 3) := by decide +kernel
theorem dL_law_796 : decode cL_law 796 = .ok (.aload_n 3, 1) := by decide +kernel
theorem dL_law_797 : decode cL_law 797 = .ok (.iconst 0, 1) := by decide +kernel
theorem dL_law_798 : decode cL_law 798 = .ok (.laload, 1) := by decide +kernel
theorem dL_law_799 : decode cL_law 799 = .ok (.iload 6, 2) := by decide +kernel
theorem dL_law_801 : decode cL_law 801 = .ok (.i2l, 1) := by decide +kernel
theorem dL_law_802 : decode cL_law 802 = .ok (.lcmp, 1) := by decide +kernel
theorem dL_law_803 : decode cL_law 803 = .ok (.ifCond .eq 5, 3) := by decide +kernel
theorem dL_law_806 : decode cL_law 806 = .ok (.iconst 0, 1) := by decide +kernel
theorem dL_law_807 : decode cL_law 807 = .ok (.ireturn, 1) := by decide +kernel
theorem dL_law_808 : decode cL_law 808 = .ok (.goto 869, 3) := by decide +kernel
theorem dL_law_811 : decode cL_law 811 = .ok (.aload_n 1, 1) := by decide +kernel
theorem dL_law_812 : decode cL_law 812 = .ok (.aload_n 0, 1) := by decide +kernel
theorem dL_law_813 : decode cL_law 813 = .ok (.iload 4, 2) := by decide +kernel
theorem dL_law_815 : decode cL_law 815 = .ok (.iconst 1, 1) := by decide +kernel
theorem dL_law_816 : decode cL_law 816 = .ok (.iadd, 1) := by decide +kernel
theorem dL_law_817 : decode cL_law 817 = .ok (.iaload, 1) := by decide +kernel
theorem dL_law_818 : decode cL_law 818 = .ok (.aload_n 3, 1) := by decide +kernel
theorem dL_law_819 : decode cL_law 819 = .ok (.invokestatic 141, 3) := by decide +kernel
theorem dL_law_822 : decode cL_law 822 = .ok (.istore 5, 2) := by decide +kernel
theorem dL_law_824 : decode cL_law 824 = .ok (.aload_n 2, 1) := by decide +kernel
theorem dL_law_825 : decode cL_law 825 = .ok (.aload_n 0, 1) := by decide +kernel
theorem dL_law_826 : decode cL_law 826 = .ok (.iload 4, 2) := by decide +kernel
theorem dL_law_828 : decode cL_law 828 = .ok (.iconst 1, 1) := by decide +kernel
theorem dL_law_829 : decode cL_law 829 = .ok (.iadd, 1) := by decide +kernel
theorem dL_law_830 : decode cL_law 830 = .ok (.iaload, 1) := by decide +kernel
theorem dL_law_831 : decode cL_law 831 = .ok (.invokevirtual 143, 3) := by decide +kernel
theorem dL_law_834 : decode cL_law 834 = .ok (.istore 6, 2) := by decide +kernel
theorem dL_law_836 : decode cL_law 836 = .ok (.aload_n 2, 1) := by decide +kernel
theorem dL_law_837 : decode cL_law 837 = .ok (.invokevirtual 96, 3) := by decide +kernel
theorem dL_law_840 : decode cL_law 840 = .ok (.iload 5, 2) := by decide +kernel
theorem dL_law_842 : decode cL_law 842 = .ok (.if_icmp .eq 5, 3) := by decide +kernel
theorem dL_law_845 : decode cL_law 845 = .ok (.iconst 0, 1) := by decide +kernel
theorem dL_law_846 : decode cL_law 846 = .ok (.ireturn, 1) := by decide +kernel
theorem dL_law_847 : decode cL_law 847 = .ok (.iload 5, 2) := by decide +kernel
theorem dL_law_849 : decode cL_law 849 = .ok (.ifCond .ne 15, 3) := by decide +kernel
theorem dL_law_852 : decode cL_law 852 = .ok (.aload_n 3, 1) := by decide +kernel
theorem dL_law_853 : decode cL_law 853 = .ok (.iconst 0, 1) := by decide +kernel
theorem dL_law_854 : decode cL_law 854 = .ok (.laload, 1) := by decide +kernel
theorem dL_law_855 : decode cL_law 855 = .ok (.iload 6, 2) := by decide +kernel
theorem dL_law_857 : decode cL_law 857 = .ok (.i2l, 1) := by decide +kernel
theorem dL_law_858 : decode cL_law 858 = .ok (.lcmp, 1) := by decide +kernel
theorem dL_law_859 : decode cL_law 859 = .ok (.ifCond .eq 5, 3) := by decide +kernel
theorem dL_law_862 : decode cL_law 862 = .ok (.iconst 0, 1) := by decide +kernel
theorem dL_law_863 : decode cL_law 863 = .ok (.ireturn, 1) := by decide +kernel
theorem dL_law_864 : decode cL_law 864 = .ok (.goto 813, 3) := by decide +kernel
theorem dL_law_867 : decode cL_law 867 = .ok (.aload_n 1, 1) := by decide +kernel
theorem dL_law_868 : decode cL_law 868 = .ok (.aload_n 0, 1) := by decide +kernel
theorem dL_law_869 : decode cL_law 869 = .ok (.iload 4, 2) := by decide +kernel
theorem dL_law_871 : decode cL_law 871 = .ok (.iconst 1, 1) := by decide +kernel
theorem dL_law_872 : decode cL_law 872 = .ok (.iadd, 1) := by decide +kernel
theorem dL_law_873 : decode cL_law 873 = .ok (.iaload, 1) := by decide +kernel
theorem dL_law_874 : decode cL_law 874 = .ok (.aload_n 3, 1) := by decide +kernel
theorem dL_law_875 : decode cL_law 875 = .ok (.invokestatic 144, 3) := by decide +kernel
theorem dL_law_878 : decode cL_law 878 = .ok (.istore 5, 2) := by decide +kernel
theorem dL_law_880 : decode cL_law 880 = .ok (.aload_n 2, 1) := by decide +kernel
theorem dL_law_881 : decode cL_law 881 = .ok (.aload_n 0, 1) := by decide +kernel
theorem dL_law_882 : decode cL_law 882 = .ok (.iload 4, 2) := by decide +kernel
theorem dL_law_884 : decode cL_law 884 = .ok (.iconst 1, 1) := by decide +kernel
theorem dL_law_885 : decode cL_law 885 = .ok (.iadd, 1) := by decide +kernel
theorem dL_law_886 : decode cL_law 886 = .ok (.iaload, 1) := by decide +kernel
theorem dL_law_887 : decode cL_law 887 = .ok (.invokevirtual 146, 3) := by decide +kernel
theorem dL_law_890 : decode cL_law 890 = .ok (.istore 6, 2) := by decide +kernel
theorem dL_law_892 : decode cL_law 892 = .ok (.aload_n 2, 1) := by decide +kernel
theorem dL_law_893 : decode cL_law 893 = .ok (.invokevirtual 96, 3) := by decide +kernel
theorem dL_law_896 : decode cL_law 896 = .ok (.iload 5, 2) := by decide +kernel
theorem dL_law_898 : decode cL_law 898 = .ok (.if_icmp .eq 5, 3) := by decide +kernel
theorem dL_law_901 : decode cL_law 901 = .ok (.iconst 0, 1) := by decide +kernel
theorem dL_law_902 : decode cL_law 902 = .ok (.ireturn, 1) := by decide +kernel
theorem dL_law_903 : decode cL_law 903 = .ok (.iload 5, 2) := by decide +kernel
theorem dL_law_905 : decode cL_law 905 = .ok (.ifCond .ne 15, 3) := by decide +kernel
theorem dL_law_908 : decode cL_law 908 = .ok (.aload_n 3, 1) := by decide +kernel
theorem dL_law_909 : decode cL_law 909 = .ok (.iconst 0, 1) := by decide +kernel
theorem dL_law_910 : decode cL_law 910 = .ok (.laload, 1) := by decide +kernel
theorem dL_law_911 : decode cL_law 911 = .ok (.iload 6, 2) := by decide +kernel
theorem dL_law_913 : decode cL_law 913 = .ok (.i2l, 1) := by decide +kernel
theorem dL_law_914 : decode cL_law 914 = .ok (.lcmp, 1) := by decide +kernel
theorem dL_law_915 : decode cL_law 915 = .ok (.ifCond .eq 5, 3) := by decide +kernel
theorem dL_law_918 : decode cL_law 918 = .ok (.iconst 0, 1) := by decide +kernel
theorem dL_law_919 : decode cL_law 919 = .ok (.ireturn, 1) := by decide +kernel
theorem dL_law_920 : decode cL_law 920 = .ok (.goto 757, 3) := by decide +kernel
theorem dL_law_923 : decode cL_law 923 = .ok (.aload_n 1, 1) := by decide +kernel
theorem dL_law_924 : decode cL_law 924 = .ok (.aload_n 3, 1) := by decide +kernel
theorem dL_law_925 : decode cL_law 925 = .ok (.invokestatic 147, 3) := by decide +kernel
theorem dL_law_928 : decode cL_law 928 = .ok (.istore 5, 2) := by decide +kernel
theorem dL_law_930 : decode cL_law 930 = .ok (.aload_n 2, 1) := by decide +kernel
theorem dL_law_931 : decode cL_law 931 = .ok (.invokevirtual 149, 3) := by decide +kernel
theorem dL_law_934 : decode cL_law 934 = .ok (.istore 6, 2) := by decide +kernel
theorem dL_law_936 : decode cL_law 936 = .ok (.aload_n 2, 1) := by decide +kernel
theorem dL_law_937 : decode cL_law 937 = .ok (.invokevirtual 96, 3) := by decide +kernel
theorem dL_law_940 : decode cL_law 940 = .ok (.iload 5, 2) := by decide +kernel
theorem dL_law_942 : decode cL_law 942 = .ok (.if_icmp .eq 5, 3) := by decide +kernel
theorem dL_law_945 : decode cL_law 945 = .ok (.iconst 0, 1) := by decide +kernel
theorem dL_law_946 : decode cL_law 946 = .ok (.ireturn, 1) := by decide +kernel
theorem dL_law_947 : decode cL_law 947 = .ok (.iload 5, 2) := by decide +kernel
theorem dL_law_949 : decode cL_law 949 = .ok (.ifCond .ne 15, 3) := by decide +kernel
theorem dL_law_952 : decode cL_law 952 = .ok (.aload_n 3, 1) := by decide +kernel
theorem dL_law_953 : decode cL_law 953 = .ok (.iconst 0, 1) := by decide +kernel
theorem dL_law_954 : decode cL_law 954 = .ok (.laload, 1) := by decide +kernel
theorem dL_law_955 : decode cL_law 955 = .ok (.iload 6, 2) := by decide +kernel
theorem dL_law_957 : decode cL_law 957 = .ok (.i2l, 1) := by decide +kernel
theorem dL_law_958 : decode cL_law 958 = .ok (.lcmp, 1) := by decide +kernel
theorem dL_law_959 : decode cL_law 959 = .ok (.ifCond .eq 5, 3) := by decide +kernel
theorem dL_law_962 : decode cL_law 962 = .ok (.iconst 0, 1) := by decide +kernel
theorem dL_law_963 : decode cL_law 963 = .ok (.ireturn, 1) := by decide +kernel
theorem dL_law_964 : decode cL_law 964 = .ok (.goto 713, 3) := by decide +kernel
theorem dL_law_967 : decode cL_law 967 = .ok (.aload_n 1, 1) := by decide +kernel
theorem dL_law_968 : decode cL_law 968 = .ok (.aload_n 0, 1) := by decide +kernel
theorem dL_law_969 : decode cL_law 969 = .ok (.iload 4, 2) := by decide +kernel
theorem dL_law_971 : decode cL_law 971 = .ok (.iconst 1, 1) := by decide +kernel
theorem dL_law_972 : decode cL_law 972 = .ok (.iadd, 1) := by decide +kernel
theorem dL_law_973 : decode cL_law 973 = .ok (.iaload, 1) := by decide +kernel
theorem dL_law_974 : decode cL_law 974 = .ok (.aload_n 3, 1) := by decide +kernel
theorem dL_law_975 : decode cL_law 975 = .ok (.invokestatic 150, 3) := by decide +kernel
theorem dL_law_978 : decode cL_law 978 = .ok (.istore 5, 2) := by decide +kernel
theorem dL_law_980 : decode cL_law 980 = .ok (.aload_n 2, 1) := by decide +kernel
theorem dL_law_981 : decode cL_law 981 = .ok (.aload_n 0, 1) := by decide +kernel
theorem dL_law_982 : decode cL_law 982 = .ok (.iload 4, 2) := by decide +kernel
theorem dL_law_984 : decode cL_law 984 = .ok (.iconst 1, 1) := by decide +kernel
theorem dL_law_985 : decode cL_law 985 = .ok (.iadd, 1) := by decide +kernel
theorem dL_law_986 : decode cL_law 986 = .ok (.iaload, 1) := by decide +kernel
theorem dL_law_987 : decode cL_law 987 = .ok (.invokevirtual 152, 3) := by decide +kernel
theorem dL_law_990 : decode cL_law 990 = .ok (.istore 6, 2) := by decide +kernel
theorem dL_law_992 : decode cL_law 992 = .ok (.aload_n 2, 1) := by decide +kernel
theorem dL_law_993 : decode cL_law 993 = .ok (.invokevirtual 96, 3) := by decide +kernel
theorem dL_law_996 : decode cL_law 996 = .ok (.iload 5, 2) := by decide +kernel
theorem dL_law_998 : decode cL_law 998 = .ok (.if_icmp .eq 5, 3) := by decide +kernel
theorem dL_law_1001 : decode cL_law 1001 = .ok (.iconst 0, 1) := by decide +kernel
theorem dL_law_1002 : decode cL_law 1002 = .ok (.ireturn, 1) := by decide +kernel
theorem dL_law_1003 : decode cL_law 1003 = .ok (.iload 5, 2) := by decide +kernel
theorem dL_law_1005 : decode cL_law 1005 = .ok (.ifCond .ne 15, 3) := by decide +kernel
theorem dL_law_1008 : decode cL_law 1008 = .ok (.aload_n 3, 1) := by decide +kernel
theorem dL_law_1009 : decode cL_law 1009 = .ok (.iconst 0, 1) := by decide +kernel
theorem dL_law_1010 : decode cL_law 1010 = .ok (.laload, 1) := by decide +kernel
theorem dL_law_1011 : decode cL_law 1011 = .ok (.iload 6, 2) := by decide +kernel
theorem dL_law_1013 : decode cL_law 1013 = .ok (.i2l, 1) := by decide +kernel
theorem dL_law_1014 : decode cL_law 1014 = .ok (.lcmp, 1) := by decide +kernel
theorem dL_law_1015 : decode cL_law 1015 = .ok (.ifCond .eq 5, 3) := by decide +kernel
theorem dL_law_1018 : decode cL_law 1018 = .ok (.iconst 0, 1) := by decide +kernel
theorem dL_law_1019 : decode cL_law 1019 = .ok (.ireturn, 1) := by decide +kernel
theorem dL_law_1020 : decode cL_law 1020 = .ok (.goto 657, 3) := by decide +kernel
theorem dL_law_1023 : decode cL_law 1023 = .ok (.aload_n 1, 1) := by decide +kernel
theorem dL_law_1024 : decode cL_law 1024 = .ok (.aload_n 0, 1) := by decide +kernel
theorem dL_law_1025 : decode cL_law 1025 = .ok (.iload 4, 2) := by decide +kernel
theorem dL_law_1027 : decode cL_law 1027 = .ok (.iconst 1, 1) := by decide +kernel
theorem dL_law_1028 : decode cL_law 1028 = .ok (.iadd, 1) := by decide +kernel
theorem dL_law_1029 : decode cL_law 1029 = .ok (.iaload, 1) := by decide +kernel
theorem dL_law_1030 : decode cL_law 1030 = .ok (.aload_n 0, 1) := by decide +kernel
theorem dL_law_1031 : decode cL_law 1031 = .ok (.iload 4, 2) := by decide +kernel
theorem dL_law_1033 : decode cL_law 1033 = .ok (.iconst 2, 1) := by decide +kernel
theorem dL_law_1034 : decode cL_law 1034 = .ok (.iadd, 1) := by decide +kernel
theorem dL_law_1035 : decode cL_law 1035 = .ok (.iaload, 1) := by decide +kernel
theorem dL_law_1036 : decode cL_law 1036 = .ok (.aload_n 3, 1) := by decide +kernel
theorem dL_law_1037 : decode cL_law 1037 = .ok (.invokestatic 153, 3) := by decide +kernel
theorem dL_law_1040 : decode cL_law 1040 = .ok (.istore 5, 2) := by decide +kernel
theorem dL_law_1042 : decode cL_law 1042 = .ok (.aload_n 2, 1) := by decide +kernel
theorem dL_law_1043 : decode cL_law 1043 = .ok (.aload_n 0, 1) := by decide +kernel
theorem dL_law_1044 : decode cL_law 1044 = .ok (.iload 4, 2) := by decide +kernel
theorem dL_law_1046 : decode cL_law 1046 = .ok (.iconst 1, 1) := by decide +kernel
theorem dL_law_1047 : decode cL_law 1047 = .ok (.iadd, 1) := by decide +kernel
theorem dL_law_1048 : decode cL_law 1048 = .ok (.iaload, 1) := by decide +kernel
theorem dL_law_1049 : decode cL_law 1049 = .ok (.aload_n 0, 1) := by decide +kernel
theorem dL_law_1050 : decode cL_law 1050 = .ok (.iload 4, 2) := by decide +kernel
theorem dL_law_1052 : decode cL_law 1052 = .ok (.iconst 2, 1) := by decide +kernel
theorem dL_law_1053 : decode cL_law 1053 = .ok (.iadd, 1) := by decide +kernel
theorem dL_law_1054 : decode cL_law 1054 = .ok (.iaload, 1) := by decide +kernel
theorem dL_law_1055 : decode cL_law 1055 = .ok (.invokevirtual 155, 3) := by decide +kernel
theorem dL_law_1058 : decode cL_law 1058 = .ok (.istore 6, 2) := by decide +kernel
theorem dL_law_1060 : decode cL_law 1060 = .ok (.aload_n 2, 1) := by decide +kernel
theorem dL_law_1061 : decode cL_law 1061 = .ok (.invokevirtual 96, 3) := by decide +kernel
theorem dL_law_1064 : decode cL_law 1064 = .ok (.iload 5, 2) := by decide +kernel
theorem dL_law_1066 : decode cL_law 1066 = .ok (.if_icmp .eq 5, 3) := by decide +kernel
theorem dL_law_1069 : decode cL_law 1069 = .ok (.iconst 0, 1) := by decide +kernel
theorem dL_law_1070 : decode cL_law 1070 = .ok (.ireturn, 1) := by decide +kernel
theorem dL_law_1071 : decode cL_law 1071 = .ok (.iload 5, 2) := by decide +kernel
theorem dL_law_1073 : decode cL_law 1073 = .ok (.ifCond .ne 15, 3) := by decide +kernel
theorem dL_law_1076 : decode cL_law 1076 = .ok (.aload_n 3, 1) := by decide +kernel
theorem dL_law_1077 : decode cL_law 1077 = .ok (.iconst 0, 1) := by decide +kernel
theorem dL_law_1078 : decode cL_law 1078 = .ok (.laload, 1) := by decide +kernel
theorem dL_law_1079 : decode cL_law 1079 = .ok (.iload 6, 2) := by decide +kernel
theorem dL_law_1081 : decode cL_law 1081 = .ok (.i2l, 1) := by decide +kernel
theorem dL_law_1082 : decode cL_law 1082 = .ok (.lcmp, 1) := by decide +kernel
theorem dL_law_1083 : decode cL_law 1083 = .ok (.ifCond .eq 5, 3) := by decide +kernel
theorem dL_law_1086 : decode cL_law 1086 = .ok (.iconst 0, 1) := by decide +kernel
theorem dL_law_1087 : decode cL_law 1087 = .ok (.ireturn, 1) := by decide +kernel
theorem dL_law_1088 : decode cL_law 1088 = .ok (.goto 589, 3) := by decide +kernel
theorem dL_law_1091 : decode cL_law 1091 = .ok (.aload_n 1, 1) := by decide +kernel
theorem dL_law_1092 : decode cL_law 1092 = .ok (.aload_n 0, 1) := by decide +kernel
theorem dL_law_1093 : decode cL_law 1093 = .ok (.iload 4, 2) := by decide +kernel
theorem dL_law_1095 : decode cL_law 1095 = .ok (.iconst 1, 1) := by decide +kernel
theorem dL_law_1096 : decode cL_law 1096 = .ok (.iadd, 1) := by decide +kernel
theorem dL_law_1097 : decode cL_law 1097 = .ok (.iaload, 1) := by decide +kernel
theorem dL_law_1098 : decode cL_law 1098 = .ok (.aload_n 0, 1) := by decide +kernel
theorem dL_law_1099 : decode cL_law 1099 = .ok (.iload 4, 2) := by decide +kernel
theorem dL_law_1101 : decode cL_law 1101 = .ok (.iconst 2, 1) := by decide +kernel
theorem dL_law_1102 : decode cL_law 1102 = .ok (.iadd, 1) := by decide +kernel
theorem dL_law_1103 : decode cL_law 1103 = .ok (.iaload, 1) := by decide +kernel
theorem dL_law_1104 : decode cL_law 1104 = .ok (.aload_n 3, 1) := by decide +kernel
theorem dL_law_1105 : decode cL_law 1105 = .ok (.invokestatic 156, 3) := by decide +kernel
theorem dL_law_1108 : decode cL_law 1108 = .ok (.istore 5, 2) := by decide +kernel
theorem dL_law_1110 : decode cL_law 1110 = .ok (.aload_n 2, 1) := by decide +kernel
theorem dL_law_1111 : decode cL_law 1111 = .ok (.aload_n 0, 1) := by decide +kernel
theorem dL_law_1112 : decode cL_law 1112 = .ok (.iload 4, 2) := by decide +kernel
theorem dL_law_1114 : decode cL_law 1114 = .ok (.iconst 1, 1) := by decide +kernel
theorem dL_law_1115 : decode cL_law 1115 = .ok (.iadd, 1) := by decide +kernel
theorem dL_law_1116 : decode cL_law 1116 = .ok (.iaload, 1) := by decide +kernel
theorem dL_law_1117 : decode cL_law 1117 = .ok (.aload_n 0, 1) := by decide +kernel
theorem dL_law_1118 : decode cL_law 1118 = .ok (.iload 4, 2) := by decide +kernel
theorem dL_law_1120 : decode cL_law 1120 = .ok (.iconst 2, 1) := by decide +kernel
theorem dL_law_1121 : decode cL_law 1121 = .ok (.iadd, 1) := by decide +kernel
theorem dL_law_1122 : decode cL_law 1122 = .ok (.iaload, 1) := by decide +kernel
theorem dL_law_1123 : decode cL_law 1123 = .ok (.invokevirtual 158, 3) := by decide +kernel
theorem dL_law_1126 : decode cL_law 1126 = .ok (.istore 6, 2) := by decide +kernel
theorem dL_law_1128 : decode cL_law 1128 = .ok (.aload_n 2, 1) := by decide +kernel
theorem dL_law_1129 : decode cL_law 1129 = .ok (.invokevirtual 96, 3) := by decide +kernel
theorem dL_law_1132 : decode cL_law 1132 = .ok (.iload 5, 2) := by decide +kernel
theorem dL_law_1134 : decode cL_law 1134 = .ok (.if_icmp .eq 5, 3) := by decide +kernel
theorem dL_law_1137 : decode cL_law 1137 = .ok (.iconst 0, 1) := by decide +kernel
theorem dL_law_1138 : decode cL_law 1138 = .ok (.ireturn, 1) := by decide +kernel
theorem dL_law_1139 : decode cL_law 1139 = .ok (.iload 5, 2) := by decide +kernel
theorem dL_law_1141 : decode cL_law 1141 = .ok (.ifCond .ne 15, 3) := by decide +kernel
theorem dL_law_1144 : decode cL_law 1144 = .ok (.aload_n 3, 1) := by decide +kernel
theorem dL_law_1145 : decode cL_law 1145 = .ok (.iconst 0, 1) := by decide +kernel
theorem dL_law_1146 : decode cL_law 1146 = .ok (.laload, 1) := by decide +kernel
theorem dL_law_1147 : decode cL_law 1147 = .ok (.iload 6, 2) := by decide +kernel
theorem dL_law_1149 : decode cL_law 1149 = .ok (.i2l, 1) := by decide +kernel
theorem dL_law_1150 : decode cL_law 1150 = .ok (.lcmp, 1) := by decide +kernel
theorem dL_law_1151 : decode cL_law 1151 = .ok (.ifCond .eq 5, 3) := by decide +kernel
theorem dL_law_1154 : decode cL_law 1154 = .ok (.iconst 0, 1) := by decide +kernel
theorem dL_law_1155 : decode cL_law 1155 = .ok (.ireturn, 1) := by decide +kernel
theorem dL_law_1156 : decode cL_law 1156 = .ok (.goto 521, 3) := by decide +kernel
theorem dL_law_1159 : decode cL_law 1159 = .ok (.aload_n 1, 1) := by decide +kernel
theorem dL_law_1160 : decode cL_law 1160 = .ok (.aload_n 0, 1) := by decide +kernel
theorem dL_law_1161 : decode cL_law 1161 = .ok (.iload 4, 2) := by decide +kernel
theorem dL_law_1163 : decode cL_law 1163 = .ok (.iconst 1, 1) := by decide +kernel
theorem dL_law_1164 : decode cL_law 1164 = .ok (.iadd, 1) := by decide +kernel
theorem dL_law_1165 : decode cL_law 1165 = .ok (.iaload, 1) := by decide +kernel
theorem dL_law_1166 : decode cL_law 1166 = .ok (.aload_n 3, 1) := by decide +kernel
theorem dL_law_1167 : decode cL_law 1167 = .ok (.invokestatic 159, 3) := by decide +kernel
theorem dL_law_1170 : decode cL_law 1170 = .ok (.istore 5, 2) := by decide +kernel
theorem dL_law_1172 : decode cL_law 1172 = .ok (.aload_n 2, 1) := by decide +kernel
theorem dL_law_1173 : decode cL_law 1173 = .ok (.aload_n 0, 1) := by decide +kernel
theorem dL_law_1174 : decode cL_law 1174 = .ok (.iload 4, 2) := by decide +kernel
theorem dL_law_1176 : decode cL_law 1176 = .ok (.iconst 1, 1) := by decide +kernel
theorem dL_law_1177 : decode cL_law 1177 = .ok (.iadd, 1) := by decide +kernel
theorem dL_law_1178 : decode cL_law 1178 = .ok (.iaload, 1) := by decide +kernel
theorem dL_law_1179 : decode cL_law 1179 = .ok (.invokevirtual 161, 3) := by decide +kernel
theorem dL_law_1182 : decode cL_law 1182 = .ok (.istore 6, 2) := by decide +kernel
theorem dL_law_1184 : decode cL_law 1184 = .ok (.aload_n 2, 1) := by decide +kernel
theorem dL_law_1185 : decode cL_law 1185 = .ok (.invokevirtual 96, 3) := by decide +kernel
theorem dL_law_1188 : decode cL_law 1188 = .ok (.iload 5, 2) := by decide +kernel
theorem dL_law_1190 : decode cL_law 1190 = .ok (.if_icmp .eq 5, 3) := by decide +kernel
theorem dL_law_1193 : decode cL_law 1193 = .ok (.iconst 0, 1) := by decide +kernel
theorem dL_law_1194 : decode cL_law 1194 = .ok (.ireturn, 1) := by decide +kernel
theorem dL_law_1195 : decode cL_law 1195 = .ok (.iload 5, 2) := by decide +kernel
theorem dL_law_1197 : decode cL_law 1197 = .ok (.ifCond .ne 15, 3) := by decide +kernel
theorem dL_law_1200 : decode cL_law 1200 = .ok (.aload_n 3, 1) := by decide +kernel
theorem dL_law_1201 : decode cL_law 1201 = .ok (.iconst 0, 1) := by decide +kernel
theorem dL_law_1202 : decode cL_law 1202 = .ok (.laload, 1) := by decide +kernel
theorem dL_law_1203 : decode cL_law 1203 = .ok (.iload 6, 2) := by decide +kernel
theorem dL_law_1205 : decode cL_law 1205 = .ok (.i2l, 1) := by decide +kernel
theorem dL_law_1206 : decode cL_law 1206 = .ok (.lcmp, 1) := by decide +kernel
theorem dL_law_1207 : decode cL_law 1207 = .ok (.ifCond .eq 5, 3) := by decide +kernel
theorem dL_law_1210 : decode cL_law 1210 = .ok (.iconst 0, 1) := by decide +kernel
theorem dL_law_1211 : decode cL_law 1211 = .ok (.ireturn, 1) := by decide +kernel
theorem dL_law_1212 : decode cL_law 1212 = .ok (.goto 465, 3) := by decide +kernel
theorem dL_law_1215 : decode cL_law 1215 = .ok (.aload_n 1, 1) := by decide +kernel
theorem dL_law_1216 : decode cL_law 1216 = .ok (.aload_n 0, 1) := by decide +kernel
theorem dL_law_1217 : decode cL_law 1217 = .ok (.iload 4, 2) := by decide +kernel
theorem dL_law_1219 : decode cL_law 1219 = .ok (.iconst 1, 1) := by decide +kernel
theorem dL_law_1220 : decode cL_law 1220 = .ok (.iadd, 1) := by decide +kernel
theorem dL_law_1221 : decode cL_law 1221 = .ok (.iaload, 1) := by decide +kernel
theorem dL_law_1222 : decode cL_law 1222 = .ok (.aload_n 3, 1) := by decide +kernel
theorem dL_law_1223 : decode cL_law 1223 = .ok (.invokestatic 162, 3) := by decide +kernel
theorem dL_law_1226 : decode cL_law 1226 = .ok (.istore 5, 2) := by decide +kernel
theorem dL_law_1228 : decode cL_law 1228 = .ok (.aload_n 2, 1) := by decide +kernel
theorem dL_law_1229 : decode cL_law 1229 = .ok (.aload_n 0, 1) := by decide +kernel
theorem dL_law_1230 : decode cL_law 1230 = .ok (.iload 4, 2) := by decide +kernel
theorem dL_law_1232 : decode cL_law 1232 = .ok (.iconst 1, 1) := by decide +kernel
theorem dL_law_1233 : decode cL_law 1233 = .ok (.iadd, 1) := by decide +kernel
theorem dL_law_1234 : decode cL_law 1234 = .ok (.iaload, 1) := by decide +kernel
theorem dL_law_1235 : decode cL_law 1235 = .ok (.invokevirtual 164, 3) := by decide +kernel
theorem dL_law_1238 : decode cL_law 1238 = .ok (.istore 6, 2) := by decide +kernel
theorem dL_law_1240 : decode cL_law 1240 = .ok (.aload_n 2, 1) := by decide +kernel
theorem dL_law_1241 : decode cL_law 1241 = .ok (.invokevirtual 96, 3) := by decide +kernel
theorem dL_law_1244 : decode cL_law 1244 = .ok (.iload 5, 2) := by decide +kernel
theorem dL_law_1246 : decode cL_law 1246 = .ok (.if_icmp .eq 5, 3) := by decide +kernel
theorem dL_law_1249 : decode cL_law 1249 = .ok (.iconst 0, 1) := by decide +kernel
theorem dL_law_1250 : decode cL_law 1250 = .ok (.ireturn, 1) := by decide +kernel
theorem dL_law_1251 : decode cL_law 1251 = .ok (.iload 5, 2) := by decide +kernel
theorem dL_law_1253 : decode cL_law 1253 = .ok (.ifCond .ne 15, 3) := by decide +kernel
theorem dL_law_1256 : decode cL_law 1256 = .ok (.aload_n 3, 1) := by decide +kernel
theorem dL_law_1257 : decode cL_law 1257 = .ok (.iconst 0, 1) := by decide +kernel
theorem dL_law_1258 : decode cL_law 1258 = .ok (.laload, 1) := by decide +kernel
theorem dL_law_1259 : decode cL_law 1259 = .ok (.iload 6, 2) := by decide +kernel
theorem dL_law_1261 : decode cL_law 1261 = .ok (.i2l, 1) := by decide +kernel
theorem dL_law_1262 : decode cL_law 1262 = .ok (.lcmp, 1) := by decide +kernel
theorem dL_law_1263 : decode cL_law 1263 = .ok (.ifCond .eq 5, 3) := by decide +kernel
theorem dL_law_1266 : decode cL_law 1266 = .ok (.iconst 0, 1) := by decide +kernel
theorem dL_law_1267 : decode cL_law 1267 = .ok (.ireturn, 1) := by decide +kernel
theorem dL_law_1268 : decode cL_law 1268 = .ok (.goto 409, 3) := by decide +kernel
theorem dL_law_1271 : decode cL_law 1271 = .ok (.aload_n 1, 1) := by decide +kernel
theorem dL_law_1272 : decode cL_law 1272 = .ok (.aload_n 0, 1) := by decide +kernel
theorem dL_law_1273 : decode cL_law 1273 = .ok (.iload 4, 2) := by decide +kernel
theorem dL_law_1275 : decode cL_law 1275 = .ok (.iconst 1, 1) := by decide +kernel
theorem dL_law_1276 : decode cL_law 1276 = .ok (.iadd, 1) := by decide +kernel
theorem dL_law_1277 : decode cL_law 1277 = .ok (.iaload, 1) := by decide +kernel
theorem dL_law_1278 : decode cL_law 1278 = .ok (.aload_n 0, 1) := by decide +kernel
theorem dL_law_1279 : decode cL_law 1279 = .ok (.iload 4, 2) := by decide +kernel
theorem dL_law_1281 : decode cL_law 1281 = .ok (.iconst 2, 1) := by decide +kernel
theorem dL_law_1282 : decode cL_law 1282 = .ok (.iadd, 1) := by decide +kernel
theorem dL_law_1283 : decode cL_law 1283 = .ok (.iaload, 1) := by decide +kernel
theorem dL_law_1284 : decode cL_law 1284 = .ok (.aload_n 0, 1) := by decide +kernel
theorem dL_law_1285 : decode cL_law 1285 = .ok (.iload 4, 2) := by decide +kernel
theorem dL_law_1287 : decode cL_law 1287 = .ok (.iconst 3, 1) := by decide +kernel
theorem dL_law_1288 : decode cL_law 1288 = .ok (.iadd, 1) := by decide +kernel
theorem dL_law_1289 : decode cL_law 1289 = .ok (.iaload, 1) := by decide +kernel
theorem dL_law_1290 : decode cL_law 1290 = .ok (.aload_n 0, 1) := by decide +kernel
theorem dL_law_1291 : decode cL_law 1291 = .ok (.iload 4, 2) := by decide +kernel
theorem dL_law_1293 : decode cL_law 1293 = .ok (.iconst 4, 1) := by decide +kernel
theorem dL_law_1294 : decode cL_law 1294 = .ok (.iadd, 1) := by decide +kernel
theorem dL_law_1295 : decode cL_law 1295 = .ok (.iaload, 1) := by decide +kernel
theorem dL_law_1296 : decode cL_law 1296 = .ok (.aload_n 3, 1) := by decide +kernel
theorem dL_law_1297 : decode cL_law 1297 = .ok (.invokestatic 165, 3) := by decide +kernel
theorem dL_law_1300 : decode cL_law 1300 = .ok (.istore 5, 2) := by decide +kernel
theorem dL_law_1302 : decode cL_law 1302 = .ok (.aload_n 2, 1) := by decide +kernel
theorem dL_law_1303 : decode cL_law 1303 = .ok (.aload_n 0, 1) := by decide +kernel
theorem dL_law_1304 : decode cL_law 1304 = .ok (.iload 4, 2) := by decide +kernel
theorem dL_law_1306 : decode cL_law 1306 = .ok (.iconst 1, 1) := by decide +kernel
theorem dL_law_1307 : decode cL_law 1307 = .ok (.iadd, 1) := by decide +kernel
theorem dL_law_1308 : decode cL_law 1308 = .ok (.iaload, 1) := by decide +kernel
theorem dL_law_1309 : decode cL_law 1309 = .ok (.aload_n 0, 1) := by decide +kernel
theorem dL_law_1310 : decode cL_law 1310 = .ok (.iload 4, 2) := by decide +kernel
theorem dL_law_1312 : decode cL_law 1312 = .ok (.iconst 2, 1) := by decide +kernel
theorem dL_law_1313 : decode cL_law 1313 = .ok (.iadd, 1) := by decide +kernel
theorem dL_law_1314 : decode cL_law 1314 = .ok (.iaload, 1) := by decide +kernel
theorem dL_law_1315 : decode cL_law 1315 = .ok (.aload_n 0, 1) := by decide +kernel
theorem dL_law_1316 : decode cL_law 1316 = .ok (.iload 4, 2) := by decide +kernel
theorem dL_law_1318 : decode cL_law 1318 = .ok (.iconst 3, 1) := by decide +kernel
theorem dL_law_1319 : decode cL_law 1319 = .ok (.iadd, 1) := by decide +kernel
theorem dL_law_1320 : decode cL_law 1320 = .ok (.iaload, 1) := by decide +kernel
theorem dL_law_1321 : decode cL_law 1321 = .ok (.aload_n 0, 1) := by decide +kernel
theorem dL_law_1322 : decode cL_law 1322 = .ok (.iload 4, 2) := by decide +kernel
theorem dL_law_1324 : decode cL_law 1324 = .ok (.iconst 4, 1) := by decide +kernel
theorem dL_law_1325 : decode cL_law 1325 = .ok (.iadd, 1) := by decide +kernel
theorem dL_law_1326 : decode cL_law 1326 = .ok (.iaload, 1) := by decide +kernel
theorem dL_law_1327 : decode cL_law 1327 = .ok (.invokevirtual 168, 3) := by decide +kernel
theorem dL_law_1330 : decode cL_law 1330 = .ok (.istore 6, 2) := by decide +kernel
theorem dL_law_1332 : decode cL_law 1332 = .ok (.aload_n 2, 1) := by decide +kernel
theorem dL_law_1333 : decode cL_law 1333 = .ok (.invokevirtual 96, 3) := by decide +kernel
theorem dL_law_1336 : decode cL_law 1336 = .ok (.iload 5, 2) := by decide +kernel
theorem dL_law_1338 : decode cL_law 1338 = .ok (.if_icmp .eq 5, 3) := by decide +kernel
theorem dL_law_1341 : decode cL_law 1341 = .ok (.iconst 0, 1) := by decide +kernel
theorem dL_law_1342 : decode cL_law 1342 = .ok (.ireturn, 1) := by decide +kernel
theorem dL_law_1343 : decode cL_law 1343 = .ok (.iload 5, 2) := by decide +kernel
theorem dL_law_1345 : decode cL_law 1345 = .ok (.ifCond .ne 15, 3) := by decide +kernel
theorem dL_law_1348 : decode cL_law 1348 = .ok (.aload_n 3, 1) := by decide +kernel
theorem dL_law_1349 : decode cL_law 1349 = .ok (.iconst 0, 1) := by decide +kernel
theorem dL_law_1350 : decode cL_law 1350 = .ok (.laload, 1) := by decide +kernel
theorem dL_law_1351 : decode cL_law 1351 = .ok (.iload 6, 2) := by decide +kernel
theorem dL_law_1353 : decode cL_law 1353 = .ok (.i2l, 1) := by decide +kernel
theorem dL_law_1354 : decode cL_law 1354 = .ok (.lcmp, 1) := by decide +kernel
theorem dL_law_1355 : decode cL_law 1355 = .ok (.ifCond .eq 5, 3) := by decide +kernel
theorem dL_law_1358 : decode cL_law 1358 = .ok (.iconst 0, 1) := by decide +kernel
theorem dL_law_1359 : decode cL_law 1359 = .ok (.ireturn, 1) := by decide +kernel
theorem dL_law_1360 : decode cL_law 1360 = .ok (.goto 317, 3) := by decide +kernel
theorem dL_law_1363 : decode cL_law 1363 = .ok (.aload_n 1, 1) := by decide +kernel
theorem dL_law_1364 : decode cL_law 1364 = .ok (.aload_n 0, 1) := by decide +kernel
theorem dL_law_1365 : decode cL_law 1365 = .ok (.iload 4, 2) := by decide +kernel
theorem dL_law_1367 : decode cL_law 1367 = .ok (.iconst 1, 1) := by decide +kernel
theorem dL_law_1368 : decode cL_law 1368 = .ok (.iadd, 1) := by decide +kernel
theorem dL_law_1369 : decode cL_law 1369 = .ok (.iaload, 1) := by decide +kernel
theorem dL_law_1370 : decode cL_law 1370 = .ok (.aload_n 0, 1) := by decide +kernel
theorem dL_law_1371 : decode cL_law 1371 = .ok (.iload 4, 2) := by decide +kernel
theorem dL_law_1373 : decode cL_law 1373 = .ok (.iconst 2, 1) := by decide +kernel
theorem dL_law_1374 : decode cL_law 1374 = .ok (.iadd, 1) := by decide +kernel
theorem dL_law_1375 : decode cL_law 1375 = .ok (.iaload, 1) := by decide +kernel
theorem dL_law_1376 : decode cL_law 1376 = .ok (.aload_n 0, 1) := by decide +kernel
theorem dL_law_1377 : decode cL_law 1377 = .ok (.iload 4, 2) := by decide +kernel
theorem dL_law_1379 : decode cL_law 1379 = .ok (.iconst 3, 1) := by decide +kernel
theorem dL_law_1380 : decode cL_law 1380 = .ok (.iadd, 1) := by decide +kernel
theorem dL_law_1381 : decode cL_law 1381 = .ok (.iaload, 1) := by decide +kernel
theorem dL_law_1382 : decode cL_law 1382 = .ok (.aload_n 3, 1) := by decide +kernel
theorem dL_law_1383 : decode cL_law 1383 = .ok (.invokestatic 169, 3) := by decide +kernel
theorem dL_law_1386 : decode cL_law 1386 = .ok (.istore 5, 2) := by decide +kernel
theorem dL_law_1388 : decode cL_law 1388 = .ok (.aload_n 2, 1) := by decide +kernel
theorem dL_law_1389 : decode cL_law 1389 = .ok (.aload_n 0, 1) := by decide +kernel
theorem dL_law_1390 : decode cL_law 1390 = .ok (.iload 4, 2) := by decide +kernel
theorem dL_law_1392 : decode cL_law 1392 = .ok (.iconst 1, 1) := by decide +kernel
theorem dL_law_1393 : decode cL_law 1393 = .ok (.iadd, 1) := by decide +kernel
theorem dL_law_1394 : decode cL_law 1394 = .ok (.iaload, 1) := by decide +kernel
theorem dL_law_1395 : decode cL_law 1395 = .ok (.aload_n 0, 1) := by decide +kernel
theorem dL_law_1396 : decode cL_law 1396 = .ok (.iload 4, 2) := by decide +kernel
theorem dL_law_1398 : decode cL_law 1398 = .ok (.iconst 2, 1) := by decide +kernel
theorem dL_law_1399 : decode cL_law 1399 = .ok (.iadd, 1) := by decide +kernel
theorem dL_law_1400 : decode cL_law 1400 = .ok (.iaload, 1) := by decide +kernel
theorem dL_law_1401 : decode cL_law 1401 = .ok (.aload_n 0, 1) := by decide +kernel
theorem dL_law_1402 : decode cL_law 1402 = .ok (.iload 4, 2) := by decide +kernel
theorem dL_law_1404 : decode cL_law 1404 = .ok (.iconst 3, 1) := by decide +kernel
theorem dL_law_1405 : decode cL_law 1405 = .ok (.iadd, 1) := by decide +kernel
theorem dL_law_1406 : decode cL_law 1406 = .ok (.iaload, 1) := by decide +kernel
theorem dL_law_1407 : decode cL_law 1407 = .ok (.invokevirtual 171, 3) := by decide +kernel
theorem dL_law_1410 : decode cL_law 1410 = .ok (.istore 6, 2) := by decide +kernel
theorem dL_law_1412 : decode cL_law 1412 = .ok (.aload_n 2, 1) := by decide +kernel
theorem dL_law_1413 : decode cL_law 1413 = .ok (.invokevirtual 96, 3) := by decide +kernel
theorem dL_law_1416 : decode cL_law 1416 = .ok (.iload 5, 2) := by decide +kernel
theorem dL_law_1418 : decode cL_law 1418 = .ok (.if_icmp .eq 5, 3) := by decide +kernel
theorem dL_law_1421 : decode cL_law 1421 = .ok (.iconst 0, 1) := by decide +kernel
theorem dL_law_1422 : decode cL_law 1422 = .ok (.ireturn, 1) := by decide +kernel
theorem dL_law_1423 : decode cL_law 1423 = .ok (.iload 5, 2) := by decide +kernel
theorem dL_law_1425 : decode cL_law 1425 = .ok (.ifCond .ne 15, 3) := by decide +kernel
theorem dL_law_1428 : decode cL_law 1428 = .ok (.aload_n 3, 1) := by decide +kernel
theorem dL_law_1429 : decode cL_law 1429 = .ok (.iconst 0, 1) := by decide +kernel
theorem dL_law_1430 : decode cL_law 1430 = .ok (.laload, 1) := by decide +kernel
theorem dL_law_1431 : decode cL_law 1431 = .ok (.iload 6, 2) := by decide +kernel
theorem dL_law_1433 : decode cL_law 1433 = .ok (.i2l, 1) := by decide +kernel
theorem dL_law_1434 : decode cL_law 1434 = .ok (.lcmp, 1) := by decide +kernel
theorem dL_law_1435 : decode cL_law 1435 = .ok (.ifCond .eq 5, 3) := by decide +kernel
theorem dL_law_1438 : decode cL_law 1438 = .ok (.iconst 0, 1) := by decide +kernel
theorem dL_law_1439 : decode cL_law 1439 = .ok (.ireturn, 1) := by decide +kernel
theorem dL_law_1440 : decode cL_law 1440 = .ok (.goto 237, 3) := by decide +kernel
theorem dL_law_1443 : decode cL_law 1443 = .ok (.aload_n 1, 1) := by decide +kernel
theorem dL_law_1444 : decode cL_law 1444 = .ok (.aload_n 0, 1) := by decide +kernel
theorem dL_law_1445 : decode cL_law 1445 = .ok (.iload 4, 2) := by decide +kernel
theorem dL_law_1447 : decode cL_law 1447 = .ok (.iconst 1, 1) := by decide +kernel
theorem dL_law_1448 : decode cL_law 1448 = .ok (.iadd, 1) := by decide +kernel
theorem dL_law_1449 : decode cL_law 1449 = .ok (.iaload, 1) := by decide +kernel
theorem dL_law_1450 : decode cL_law 1450 = .ok (.aload_n 0, 1) := by decide +kernel
theorem dL_law_1451 : decode cL_law 1451 = .ok (.iload 4, 2) := by decide +kernel
theorem dL_law_1453 : decode cL_law 1453 = .ok (.iconst 2, 1) := by decide +kernel
theorem dL_law_1454 : decode cL_law 1454 = .ok (.iadd, 1) := by decide +kernel
theorem dL_law_1455 : decode cL_law 1455 = .ok (.iaload, 1) := by decide +kernel
theorem dL_law_1456 : decode cL_law 1456 = .ok (.aload_n 3, 1) := by decide +kernel
theorem dL_law_1457 : decode cL_law 1457 = .ok (.invokestatic 172, 3) := by decide +kernel
theorem dL_law_1460 : decode cL_law 1460 = .ok (.istore 5, 2) := by decide +kernel
theorem dL_law_1462 : decode cL_law 1462 = .ok (.aload_n 2, 1) := by decide +kernel
theorem dL_law_1463 : decode cL_law 1463 = .ok (.aload_n 0, 1) := by decide +kernel
theorem dL_law_1464 : decode cL_law 1464 = .ok (.iload 4, 2) := by decide +kernel
theorem dL_law_1466 : decode cL_law 1466 = .ok (.iconst 1, 1) := by decide +kernel
theorem dL_law_1467 : decode cL_law 1467 = .ok (.iadd, 1) := by decide +kernel
theorem dL_law_1468 : decode cL_law 1468 = .ok (.iaload, 1) := by decide +kernel
theorem dL_law_1469 : decode cL_law 1469 = .ok (.aload_n 0, 1) := by decide +kernel
theorem dL_law_1470 : decode cL_law 1470 = .ok (.iload 4, 2) := by decide +kernel
theorem dL_law_1472 : decode cL_law 1472 = .ok (.iconst 2, 1) := by decide +kernel
theorem dL_law_1473 : decode cL_law 1473 = .ok (.iadd, 1) := by decide +kernel
theorem dL_law_1474 : decode cL_law 1474 = .ok (.iaload, 1) := by decide +kernel
theorem dL_law_1475 : decode cL_law 1475 = .ok (.invokevirtual 174, 3) := by decide +kernel
theorem dL_law_1478 : decode cL_law 1478 = .ok (.istore 6, 2) := by decide +kernel
theorem dL_law_1480 : decode cL_law 1480 = .ok (.aload_n 2, 1) := by decide +kernel
theorem dL_law_1481 : decode cL_law 1481 = .ok (.invokevirtual 96, 3) := by decide +kernel
theorem dL_law_1484 : decode cL_law 1484 = .ok (.iload 5, 2) := by decide +kernel
theorem dL_law_1486 : decode cL_law 1486 = .ok (.if_icmp .eq 5, 3) := by decide +kernel
theorem dL_law_1489 : decode cL_law 1489 = .ok (.iconst 0, 1) := by decide +kernel
theorem dL_law_1490 : decode cL_law 1490 = .ok (.ireturn, 1) := by decide +kernel
theorem dL_law_1491 : decode cL_law 1491 = .ok (.iload 5, 2) := by decide +kernel
theorem dL_law_1493 : decode cL_law 1493 = .ok (.ifCond .ne 15, 3) := by decide +kernel
theorem dL_law_1496 : decode cL_law 1496 = .ok (.aload_n 3, 1) := by decide +kernel
theorem dL_law_1497 : decode cL_law 1497 = .ok (.iconst 0, 1) := by decide +kernel
theorem dL_law_1498 : decode cL_law 1498 = .ok (.laload, 1) := by decide +kernel
theorem dL_law_1499 : decode cL_law 1499 = .ok (.iload 6, 2) := by decide +kernel
theorem dL_law_1501 : decode cL_law 1501 = .ok (.i2l, 1) := by decide +kernel
theorem dL_law_1502 : decode cL_law 1502 = .ok (.lcmp, 1) := by decide +kernel
theorem dL_law_1503 : decode cL_law 1503 = .ok (.ifCond .eq 5, 3) := by decide +kernel
theorem dL_law_1506 : decode cL_law 1506 = .ok (.iconst 0, 1) := by decide +kernel
theorem dL_law_1507 : decode cL_law 1507 = .ok (.ireturn, 1) := by decide +kernel
theorem dL_law_1508 : decode cL_law 1508 = .ok (.goto 169, 3) := by decide +kernel
theorem dL_law_1511 : decode cL_law 1511 = .ok (.aload_n 1, 1) := by decide +kernel
theorem dL_law_1512 : decode cL_law 1512 = .ok (.aload_n 0, 1) := by decide +kernel
theorem dL_law_1513 : decode cL_law 1513 = .ok (.iload 4, 2) := by decide +kernel
theorem dL_law_1515 : decode cL_law 1515 = .ok (.iconst 1, 1) := by decide +kernel
theorem dL_law_1516 : decode cL_law 1516 = .ok (.iadd, 1) := by decide +kernel
theorem dL_law_1517 : decode cL_law 1517 = .ok (.iaload, 1) := by decide +kernel
theorem dL_law_1518 : decode cL_law 1518 = .ok (.aload_n 0, 1) := by decide +kernel
theorem dL_law_1519 : decode cL_law 1519 = .ok (.iload 4, 2) := by decide +kernel
theorem dL_law_1521 : decode cL_law 1521 = .ok (.iconst 2, 1) := by decide +kernel
theorem dL_law_1522 : decode cL_law 1522 = .ok (.iadd, 1) := by decide +kernel
theorem dL_law_1523 : decode cL_law 1523 = .ok (.iaload, 1) := by decide +kernel
theorem dL_law_1524 : decode cL_law 1524 = .ok (.aload_n 3, 1) := by decide +kernel
theorem dL_law_1525 : decode cL_law 1525 = .ok (.invokestatic 175, 3) := by decide +kernel
theorem dL_law_1528 : decode cL_law 1528 = .ok (.istore 5, 2) := by decide +kernel
theorem dL_law_1530 : decode cL_law 1530 = .ok (.aload_n 2, 1) := by decide +kernel
theorem dL_law_1531 : decode cL_law 1531 = .ok (.aload_n 0, 1) := by decide +kernel
theorem dL_law_1532 : decode cL_law 1532 = .ok (.iload 4, 2) := by decide +kernel
theorem dL_law_1534 : decode cL_law 1534 = .ok (.iconst 1, 1) := by decide +kernel
theorem dL_law_1535 : decode cL_law 1535 = .ok (.iadd, 1) := by decide +kernel
theorem dL_law_1536 : decode cL_law 1536 = .ok (.iaload, 1) := by decide +kernel
theorem dL_law_1537 : decode cL_law 1537 = .ok (.aload_n 0, 1) := by decide +kernel
theorem dL_law_1538 : decode cL_law 1538 = .ok (.iload 4, 2) := by decide +kernel
theorem dL_law_1540 : decode cL_law 1540 = .ok (.iconst 2, 1) := by decide +kernel
theorem dL_law_1541 : decode cL_law 1541 = .ok (.iadd, 1) := by decide +kernel
theorem dL_law_1542 : decode cL_law 1542 = .ok (.iaload, 1) := by decide +kernel
theorem dL_law_1543 : decode cL_law 1543 = .ok (.invokevirtual 177, 3) := by decide +kernel
theorem dL_law_1546 : decode cL_law 1546 = .ok (.istore 6, 2) := by decide +kernel
theorem dL_law_1548 : decode cL_law 1548 = .ok (.aload_n 2, 1) := by decide +kernel
theorem dL_law_1549 : decode cL_law 1549 = .ok (.invokevirtual 96, 3) := by decide +kernel
theorem dL_law_1552 : decode cL_law 1552 = .ok (.iload 5, 2) := by decide +kernel
theorem dL_law_1554 : decode cL_law 1554 = .ok (.if_icmp .eq 5, 3) := by decide +kernel
theorem dL_law_1557 : decode cL_law 1557 = .ok (.iconst 0, 1) := by decide +kernel
theorem dL_law_1558 : decode cL_law 1558 = .ok (.ireturn, 1) := by decide +kernel
theorem dL_law_1559 : decode cL_law 1559 = .ok (.iload 5, 2) := by decide +kernel
theorem dL_law_1561 : decode cL_law 1561 = .ok (.ifCond .ne 15, 3) := by decide +kernel
theorem dL_law_1564 : decode cL_law 1564 = .ok (.aload_n 3, 1) := by decide +kernel
theorem dL_law_1565 : decode cL_law 1565 = .ok (.iconst 0, 1) := by decide +kernel
theorem dL_law_1566 : decode cL_law 1566 = .ok (.laload, 1) := by decide +kernel
theorem dL_law_1567 : decode cL_law 1567 = .ok (.iload 6, 2) := by decide +kernel
theorem dL_law_1569 : decode cL_law 1569 = .ok (.i2l, 1) := by decide +kernel
theorem dL_law_1570 : decode cL_law 1570 = .ok (.lcmp, 1) := by decide +kernel
theorem dL_law_1571 : decode cL_law 1571 = .ok (.ifCond .eq 5, 3) := by decide +kernel
theorem dL_law_1574 : decode cL_law 1574 = .ok (.iconst 0, 1) := by decide +kernel
theorem dL_law_1575 : decode cL_law 1575 = .ok (.ireturn, 1) := by decide +kernel
theorem dL_law_1576 : decode cL_law 1576 = .ok (.goto 101, 3) := by decide +kernel
theorem dL_law_1579 : decode cL_law 1579 = .ok (.aload_n 1, 1) := by decide +kernel
theorem dL_law_1580 : decode cL_law 1580 = .ok (.invokevirtual 178, 3) := by decide +kernel
theorem dL_law_1583 : decode cL_law 1583 = .ok (.dstore 5, 2) := by decide +kernel
theorem dL_law_1585 : decode cL_law 1585 = .ok (.aload_n 2, 1) := by decide +kernel
theorem dL_law_1586 : decode cL_law 1586 = .ok (.invokevirtual 182, 3) := by decide +kernel
theorem dL_law_1589 : decode cL_law 1589 = .ok (.dstore 7, 2) := by decide +kernel
theorem dL_law_1591 : decode cL_law 1591 = .ok (.dload 5, 2) := by decide +kernel
theorem dL_law_1593 : decode cL_law 1593 = .ok (.dload 7, 2) := by decide +kernel
theorem dL_law_1595 : decode cL_law 1595 = .ok (.dcmp .l, 1) := by decide +kernel
theorem dL_law_1596 : decode cL_law 1596 = .ok (.ifCond .eq 21, 3) := by decide +kernel
theorem dL_law_1599 : decode cL_law 1599 = .ok (.dload 5, 2) := by decide +kernel
theorem dL_law_1601 : decode cL_law 1601 = .ok (.dload 5, 2) := by decide +kernel
theorem dL_law_1603 : decode cL_law 1603 = .ok (.dcmp .l, 1) := by decide +kernel
theorem dL_law_1604 : decode cL_law 1604 = .ok (.ifCond .eq 11, 3) := by decide +kernel
theorem dL_law_1607 : decode cL_law 1607 = .ok (.dload 7, 2) := by decide +kernel
theorem dL_law_1609 : decode cL_law 1609 = .ok (.dload 7, 2) := by decide +kernel
theorem dL_law_1611 : decode cL_law 1611 = .ok (.dcmp .l, 1) := by decide +kernel
theorem dL_law_1612 : decode cL_law 1612 = .ok (.ifCond .ne 5, 3) := by decide +kernel
theorem dL_law_1615 : decode cL_law 1615 = .ok (.iconst 0, 1) := by decide +kernel
theorem dL_law_1616 : decode cL_law 1616 = .ok (.ireturn, 1) := by decide +kernel
theorem dL_law_1617 : decode cL_law 1617 = .ok (.goto 60, 3) := by decide +kernel
theorem dL_law_1620 : decode cL_law 1620 = .ok (.aload_n 1, 1) := by decide +kernel
theorem dL_law_1621 : decode cL_law 1621 = .ok (.invokevirtual 183, 3) := by decide +kernel
theorem dL_law_1624 : decode cL_law 1624 = .ok (.f2d, 1) := by decide +kernel
theorem dL_law_1625 : decode cL_law 1625 = .ok (.dstore 5, 2) := by decide +kernel
theorem dL_law_1627 : decode cL_law 1627 = .ok (.aload_n 2, 1) := by decide +kernel
theorem dL_law_1628 : decode cL_law 1628 = .ok (.invokevirtual 187, 3) := by decide +kernel
theorem dL_law_1631 : decode cL_law 1631 = .ok (.f2d, 1) := by decide +kernel
theorem dL_law_1632 : decode cL_law 1632 = .ok (.dstore 7, 2) := by decide +kernel
theorem dL_law_1634 : decode cL_law 1634 = .ok (.dload 5, 2) := by decide +kernel
theorem dL_law_1636 : decode cL_law 1636 = .ok (.dload 7, 2) := by decide +kernel
theorem dL_law_1638 : decode cL_law 1638 = .ok (.dcmp .l, 1) := by decide +kernel
theorem dL_law_1639 : decode cL_law 1639 = .ok (.ifCond .eq 21, 3) := by decide +kernel
theorem dL_law_1642 : decode cL_law 1642 = .ok (.dload 5, 2) := by decide +kernel
theorem dL_law_1644 : decode cL_law 1644 = .ok (.dload 5, 2) := by decide +kernel
theorem dL_law_1646 : decode cL_law 1646 = .ok (.dcmp .l, 1) := by decide +kernel
theorem dL_law_1647 : decode cL_law 1647 = .ok (.ifCond .eq 11, 3) := by decide +kernel
theorem dL_law_1650 : decode cL_law 1650 = .ok (.dload 7, 2) := by decide +kernel
theorem dL_law_1652 : decode cL_law 1652 = .ok (.dload 7, 2) := by decide +kernel
theorem dL_law_1654 : decode cL_law 1654 = .ok (.dcmp .l, 1) := by decide +kernel
theorem dL_law_1655 : decode cL_law 1655 = .ok (.ifCond .ne 5, 3) := by decide +kernel
theorem dL_law_1658 : decode cL_law 1658 = .ok (.iconst 0, 1) := by decide +kernel
theorem dL_law_1659 : decode cL_law 1659 = .ok (.ireturn, 1) := by decide +kernel
theorem dL_law_1660 : decode cL_law 1660 = .ok (.goto 17, 3) := by decide +kernel
theorem dL_law_1663 : decode cL_law 1663 = .ok (.aload_n 1, 1) := by decide +kernel
theorem dL_law_1664 : decode cL_law 1664 = .ok (.invokevirtual 188, 3) := by decide +kernel
theorem dL_law_1667 : decode cL_law 1667 = .ok (.aload_n 2, 1) := by decide +kernel
theorem dL_law_1668 : decode cL_law 1668 = .ok (.invokevirtual 192, 3) := by decide +kernel
theorem dL_law_1671 : decode cL_law 1671 = .ok (.lcmp, 1) := by decide +kernel
theorem dL_law_1672 : decode cL_law 1672 = .ok (.ifCond .eq 5, 3) := by decide +kernel
theorem dL_law_1675 : decode cL_law 1675 = .ok (.iconst 0, 1) := by decide +kernel
theorem dL_law_1676 : decode cL_law 1676 = .ok (.ireturn, 1) := by decide +kernel
theorem dL_law_1677 : decode cL_law 1677 = .ok (.iinc 4 5, 3) := by decide +kernel
theorem dL_law_1680 : decode cL_law 1680 = .ok (.goto (-1657), 3) := by decide +kernel
theorem dL_law_1683 : decode cL_law 1683 = .ok (.iconst 1, 1) := by decide +kernel
theorem dL_law_1684 : decode cL_law 1684 = .ok (.ireturn, 1) := by decide +kernel
end
section
/-! THE WORLD: the class's and the model's cells at places; ints in a store of places and slots -/
abbrev En : Type := va_G × (Nat → ClassId) × (Nat → Nat) × Nat × Nat × (Nat → Nat)
abbrev eD (E : En) : va_G := E.1
abbrev eY (E : En) : Nat → ClassId := E.2.1
abbrev eA (E : En) : Nat → Nat := E.2.2.1
abbrev eB (E : En) : Nat := E.2.2.2.1
abbrev eT (E : En) : Nat := E.2.2.2.2.1
abbrev eS (E : En) : Nat → Nat := E.2.2.2.2.2
abbrev eP (E : En) : Nat → Prop := fun q => eB E ≤ q
abbrev Sg : Type := Nat → Nat → Int32
def up2 (σ : Sg) (q k : Nat) (v : Int32) : Sg := fun a => if a = q then upd (σ q) k v else σ a
theorem up2_self (σ : Sg) (q k : Nat) (v : Int32) : up2 σ q k v q = upd (σ q) k v := if_pos rfl
theorem up2_ne {σ : Sg} {q k a : Nat} {v : Int32} (h : a ≠ q) : up2 σ q k v a = σ a := if_neg h
/-- a whole row anew -/
def upR (σ : Sg) (q : Nat) (f : Nat → Int32) : Sg := fun a => if a = q then f else σ a
theorem upR_self (σ : Sg) (q : Nat) (f : Nat → Int32) : upR σ q f q = f := if_pos rfl
theorem upR_ne {σ : Sg} {q a : Nat} {f : Nat → Int32} (h : a ≠ q) : upR σ q f a = σ a := if_neg h
def cSt (E : En) (σ : Sg) (b : Nat) : Nat → va_E
  | 0 => .inr (4, [.int (σ b 0), .ref (eA E (b + 1)), .ref (eA E (b + 2)), .int (σ b 3), .ref (eA E (b + 3)), .ref (eA E (b + 4)), .ref (eA E (b + 5)), .ref (eA E (b + 6)), .ref (eA E (b + 7)), .int (σ b 9), .int (σ b 10)])
  | 1 => .inl (eY E 0, 64, .inl (σ (b + 1)))
  | 2 => .inl (eY E 0, 3, .inl (σ (b + 2)))
  | 3 => .inl (eY E 0, 32, .inl (σ (b + 3)))
  | 4 => .inl (eY E 0, 32, .inl (σ (b + 4)))
  | 5 => .inl (eY E 1, 32, .inl (σ (b + 5)))
  | 6 => .inl (eY E 0, 64, .inl (σ (b + 6)))
  | _ => .inl (eY E 0, 64, .inl (σ (b + 7)))
def cWk (_ : En) (σ : Sg) (b : Nat) : va_E := .inr (5, [.int (σ b 0), .int (σ b 1)])
def cDc (E : En) (σ : Sg) (b w : Nat) : Nat → va_E
  | 0 => .inr (2, [.ref (eA E (b + 1)), .ref (eA E (b + 2)), .ref (eA E w), .int (σ b 3)])
  | 1 => .inl (eY E 0, 64, .inl (σ (b + 1)))
  | _ => .inl (eY E 0, 64, .inl (σ (b + 2)))
def cFx (E : En) (σ μ : Sg) (dg : Int64) : Nat → va_E
  | 0 => .inr (6, [.ref (eA E 10), .ref (eA E 1), .ref (eA E 3), .ref (eA E 4), .ref (eA E 5), .ref (eA E 8), .ref (eA E 86), .ref (eA E 89), .ref (eA E 85)])
  | 1 => .inr (3, [.ref (eA E 2), .int (σ 1 1)])
  | 2 => .inl (eY E 2, 6, .inr (.inr (.inr (.inr (fun k => some (eA E (10 + 8 * (σ 2 k).toNatClampNeg)))))))
  | 3 => .inl (eY E 2, 2, .inr (.inr (.inr (.inr (fun k => some (eA E (10 + 8 * (1 + k))))))))
  | 4 => .inl (eY E 1, 2, .inl (σ 4))
  | 5 => .inr (0, [.ref (eA E 6), .int (σ 5 1), .int (σ 5 2), .int (σ 5 3), .ref (eA E 7), .int (σ 5 5), .int (σ 5 6), .int (σ 5 7), .int (σ 5 8), .int (σ 5 9)])
  | 6 => .inl (eY E 0, 40, .inl (σ 6))
  | 7 => .inl (eY E 0, 15, .inl (σ 7))
  | 8 => .inr (1, [.ref (eA E 82)])
  | _ => .inr (7, [.int (μ 20 0), .ref (eA E 92), .ref (eA E 93), .int (μ 20 3), .ref (eA E 94), .ref (eA E 95), .ref (eA E 96), .int (μ 20 7), .ref (eA E 97), .ref (eA E 98), .ref (eA E 99), .ref (eA E 100), .ref (eA E 101), .int (μ 20 13), .int (μ 20 14), .int (μ 20 15), .int (μ 20 16), .ref (eA E 102), .int (μ 20 18), .long dg])
def cMd (E : En) (μ : Sg) : Nat → va_E
  | 0 => .inl (eY E 0, 295, .inl (μ 0))
  | 1 => .inl (eY E 0, 1770, .inl (μ 1))
  | 2 => .inl (eY E 0, 590, .inl (μ 2))
  | 3 => .inl (eY E 1, 2, .inl (μ 3))
  | 4 => .inl (eY E 0, 40, .inl (μ 4))
  | 5 => .inl (eY E 0, 49, .inl (μ 5))
  | 6 => .inl (eY E 0, 64, .inl (μ 6))
  | 7 => .inl (eY E 0, 64, .inl (μ 7))
  | 8 => .inl (eY E 0, 32, .inl (μ 8))
  | 9 => .inl (eY E 0, 64, .inl (μ 9))
  | _ => .inl (eY E 0, 15, .inl (μ 10))
def cellOf (E : En) (σ μ : Sg) (dg : Int64) (q : Nat) : va_E :=
  if q < 10 then cFx E σ μ dg q
  else if q < 82 then cSt E σ (10 + 8 * ((q - 10) / 8)) ((q - 10) % 8)
  else if q < 86 then cWk E σ q
  else if q < 92 then cDc E σ (86 + 3 * ((q - 86) / 3)) (82 + (1 + (q - 86) / 3)) ((q - 86) % 3)
  else cMd E μ (q - 92)
theorem c_fx {E : En} {σ μ : Sg} {dg : Int64} {q : Nat} (h : q < 10) : cellOf E σ μ dg q = cFx E σ μ dg q := if_pos h
theorem c_st {E : En} {σ μ : Sg} {dg : Int64} {i : Nat} (hi : i < 9) (j : Nat) (hj : j < 8) : cellOf E σ μ dg (10 + 8 * i + j) = cSt E σ (10 + 8 * i) j := by
  have h1 : (10 + 8 * i + j - 10) / 8 = i := by omega
  have h2 : (10 + 8 * i + j - 10) % 8 = j := by omega
  unfold cellOf
  rw [if_neg (by omega), if_pos (by omega), h1, h2]
theorem c_wk {E : En} {σ μ : Sg} {dg : Int64} {w : Nat} (hw : w < 4) : cellOf E σ μ dg (82 + w) = cWk E σ (82 + w) := by
  unfold cellOf
  rw [if_neg (by omega), if_neg (by omega), if_pos (by omega)]
theorem c_dc {E : En} {σ μ : Sg} {dg : Int64} {d : Nat} (hd : d < 2) (j : Nat) (hj : j < 3) : cellOf E σ μ dg (86 + 3 * d + j) = cDc E σ (86 + 3 * d) (82 + (1 + d)) j := by
  have h1 : (86 + 3 * d + j - 86) / 3 = d := by omega
  have h2 : (86 + 3 * d + j - 86) % 3 = j := by omega
  unfold cellOf
  rw [if_neg (by omega), if_neg (by omega), if_neg (by omega), if_pos (by omega), h1, h2]
theorem c_md {E : En} {σ μ : Sg} {dg : Int64} (j : Nat) : cellOf E σ μ dg (92 + j) = cMd E μ j := by
  unfold cellOf
  rw [if_neg (by omega), if_neg (by omega), if_neg (by omega), if_neg (by omega), show 92 + j - 92 = j by omega]
theorem c_congr {E : En} {σ σ' μ : Sg} {dg : Int64} {k : Nat} (h : σ' k = σ k) : cellOf E σ' μ dg k = cellOf E σ μ dg k := by
  by_cases h1 : k < 10
  · rw [c_fx h1, c_fx h1]
    rcases (show k = 0 ∨ k = 1 ∨ k = 2 ∨ k = 3 ∨ k = 4 ∨ k = 5 ∨ k = 6 ∨ k = 7 ∨ k = 8 ∨ k = 9 by omega) with rfl | rfl | rfl | rfl | rfl | rfl | rfl | rfl | rfl | rfl <;> simp only [cFx, h]
  · by_cases h2 : k < 82
    · obtain ⟨i, j, hj, rfl⟩ : ∃ i j, j < 8 ∧ k = 10 + 8 * i + j := ⟨(k - 10) / 8, (k - 10) % 8, by omega, by omega⟩
      rw [c_st (by omega) j hj, c_st (by omega) j hj]
      rcases (show j = 0 ∨ j = 1 ∨ j = 2 ∨ j = 3 ∨ j = 4 ∨ j = 5 ∨ j = 6 ∨ j = 7 by omega) with rfl | rfl | rfl | rfl | rfl | rfl | rfl | rfl <;> simp only [cSt, Nat.add_zero] at h ⊢ <;> simp only [h]
    · by_cases h3 : k < 86
      · obtain ⟨w, rfl⟩ : ∃ w, k = 82 + w := ⟨k - 82, by omega⟩
        rw [c_wk (by omega), c_wk (by omega)]
        simp only [cWk, h]
      · by_cases h4 : k < 92
        · obtain ⟨d, j, hj, rfl⟩ : ∃ d j, j < 3 ∧ k = 86 + 3 * d + j := ⟨(k - 86) / 3, (k - 86) % 3, by omega, by omega⟩
          rw [c_dc (by omega) j hj, c_dc (by omega) j hj]
          rcases (show j = 0 ∨ j = 1 ∨ j = 2 by omega) with rfl | rfl | rfl <;> simp only [cDc, Nat.add_zero] at h ⊢ <;> simp only [h]
        · obtain ⟨j, rfl⟩ : ∃ j, k = 92 + j := ⟨k - 92, by omega⟩
          rw [c_md, c_md]
theorem c_up2 {E : En} {σ μ : Sg} {dg : Int64} {q s : Nat} {v : Int32} {k : Nat} (h : k ≠ q) : cellOf E (up2 σ q s v) μ dg k = cellOf E σ μ dg k := c_congr (up2_ne h)
theorem c_upR {E : En} {σ μ : Sg} {dg : Int64} {q : Nat} {f : Nat → Int32} {k : Nat} (h : k ≠ q) : cellOf E (upR σ q f) μ dg k = cellOf E σ μ dg k := c_congr (upR_ne h)
def plM (j : Nat) : Nat := if j = 20 then 9 else 92 + j
theorem c_congrM {E : En} {σ μ μ' : Sg} {dg : Int64} {q k : Nat} (hk : k < 103) (h : ∀ j, j ≠ q → μ' j = μ j) (hq : k ≠ plM q) : cellOf E σ μ' dg k = cellOf E σ μ dg k := by
  by_cases h1 : k < 10
  · rw [c_fx h1, c_fx h1]
    rcases (show k = 9 ∨ k = 0 ∨ k = 1 ∨ k = 2 ∨ k = 3 ∨ k = 4 ∨ k = 5 ∨ k = 6 ∨ k = 7 ∨ k = 8 by omega) with rfl | rfl | rfl | rfl | rfl | rfl | rfl | rfl | rfl | rfl
    · have : (20 : Nat) ≠ q := fun e => hq (by subst e; rfl)
      simp only [cFx, h 20 this]
    all_goals rfl
  · by_cases h2 : k < 82
    · obtain ⟨i, j, hj, rfl⟩ : ∃ i j, j < 8 ∧ k = 10 + 8 * i + j := ⟨(k - 10) / 8, (k - 10) % 8, by omega, by omega⟩
      rw [c_st (by omega) j hj, c_st (by omega) j hj]
    · by_cases h3 : k < 86
      · obtain ⟨w, rfl⟩ : ∃ w, k = 82 + w := ⟨k - 82, by omega⟩
        rw [c_wk (by omega), c_wk (by omega)]
      · by_cases h4 : k < 92
        · obtain ⟨d, j, hj, rfl⟩ : ∃ d j, j < 3 ∧ k = 86 + 3 * d + j := ⟨(k - 86) / 3, (k - 86) % 3, by omega, by omega⟩
          rw [c_dc (by omega) j hj, c_dc (by omega) j hj]
        · obtain ⟨j, rfl⟩ : ∃ j, k = 92 + j := ⟨k - 92, by omega⟩
          have hj : j ≠ q := fun e => hq (by subst e; unfold plM; rw [if_neg (by omega)])
          rw [c_md, c_md]
          rcases (show j = 0 ∨ j = 1 ∨ j = 2 ∨ j = 3 ∨ j = 4 ∨ j = 5 ∨ j = 6 ∨ j = 7 ∨ j = 8 ∨ j = 9 ∨ j = 10 by omega) with rfl | rfl | rfl | rfl | rfl | rfl | rfl | rfl | rfl | rfl | rfl <;> simp only [cMd, h _ hj]
theorem c_up2M {E : En} {σ μ : Sg} {dg : Int64} {q s : Nat} {v : Int32} {k : Nat} (hk : k < 103) (hq : k ≠ plM q) : cellOf E σ (up2 μ q s v) dg k = cellOf E σ μ dg k := c_congrM hk (fun _ h => up2_ne h) hq
theorem c_dg {E : En} {σ μ : Sg} {dg dg' : Int64} {k : Nat} (h : k ≠ 9) : cellOf E σ μ dg' k = cellOf E σ μ dg k := by
  by_cases h1 : k < 10
  · rw [c_fx h1, c_fx h1]
    rcases (show k = 0 ∨ k = 1 ∨ k = 2 ∨ k = 3 ∨ k = 4 ∨ k = 5 ∨ k = 6 ∨ k = 7 ∨ k = 8 by omega) with rfl | rfl | rfl | rfl | rfl | rfl | rfl | rfl | rfl <;> rfl
  · unfold cellOf
    rw [if_neg h1, if_neg h1]
def wsOf (E : En) (σ μ : Sg) (dg : Int64) : va_W := (List.range 103).map (fun q => (eA E q, cellOf E σ μ dg q))
theorem ws_get {E : En} {σ μ : Sg} {dg : Int64} {q : Nat} (hq : q < 103) : (wsOf E σ μ dg)[q]? = some (eA E q, cellOf E σ μ dg q) := by
  unfold wsOf
  rw [List.getElem?_map, List.getElem?_range hq]
  rfl
theorem ws_at {E : En} {σ μ : Sg} {dg : Int64} {q : Nat} {z : va_E} (hq : q < 103) (h : cellOf E σ μ dg q = z) : (wsOf E σ μ dg)[q]? = some (eA E q, z) := by rw [ws_get hq, h]
theorem ws_len (E : En) (σ μ : Sg) (dg : Int64) : (wsOf E σ μ dg).length = 103 := by simp [wsOf]
theorem ws_set {E : En} {σ μ σ' μ' : Sg} {dg dg' : Int64} {q : Nat} {z : va_E} (hq : q < 103) (hz : cellOf E σ' μ' dg' q = z) (hne : ∀ k, k < 103 → k ≠ q → cellOf E σ' μ' dg' k = cellOf E σ μ dg k) : (wsOf E σ μ dg).set q (eA E q, z) = wsOf E σ' μ' dg' := by
  apply List.ext_getElem?
  intro k
  by_cases hk : k < 103
  · by_cases hkq : k = q
    · subst hkq
      rw [List.getElem?_set_self (by rw [ws_len]; exact hk), ws_get hk, hz]
    · rw [List.getElem?_set_ne (Ne.symm hkq), ws_get hk, ws_get hk, hne k hk hkq]
  · rw [List.getElem?_eq_none (by rw [List.length_set, ws_len]; omega), List.getElem?_eq_none (by rw [ws_len]; omega)]
abbrev tyOf (E : En) : List (ClassId × FieldType) := [(eY E 0, .int), (eY E 1, .boolean), (eY E 2, .object RX4)]
/-- the tables' words -/
def Tb (s : State) : Prop := ∀ w ∈ lw_tbl, goodWord w = true → w.before #[] s = true
def Kw (w : Cond) : Prop := w ∈ lw_tbl ∧ goodWord w = true
theorem Tb.at {s : State} (h : Tb s) {w : Cond} (k : Kw w) (a : Array Value) : w.before a s = true := word_at (State.WarmedH.refl s) (good_of_word k.2) (h w k.1 k.2)
theorem Tb.warm {s U : State} (hW : s.WarmedH U.vm) (h : Tb s) : Tb U := fun w hm hg => word_at hW (good_of_word hg) (h w hm hg)
def Gd (E : En) : Prop := (∀ i j, i < 103 → j < 103 → eA E i = eA E j → i = j) ∧ ∀ i, i < 103 → eB E ≤ eA E i
theorem Gd.D {E : En} (h : Gd E) (σ μ : Sg) (dg : Int64) : va_D (eP E) (wsOf E σ μ dg) := by
  have key : ∀ (k : Nat) (q : Nat × va_E), (wsOf E σ μ dg)[k]? = some q → k < 103 ∧ q.1 = eA E k := by
    intro k q hk
    have hl := (List.getElem?_eq_some_iff.mp hk).1
    rw [ws_len] at hl
    rw [ws_get hl] at hk
    cases hk
    exact ⟨hl, rfl⟩
  refine ⟨fun i j p q hi hj e => ?_, fun k q hk => ?_⟩
  · obtain ⟨h1, e1⟩ := key i p hi
    obtain ⟨h2, e2⟩ := key j q hj
    exact h.1 i j h1 h2 (by rw [← e1, ← e2]; exact e)
  · obtain ⟨h1, e1⟩ := key k q hk
    show eB E ≤ q.1
    rw [e1]
    exact h.2 k h1
def stepsL : List Int32 := [7, 8, 9, 10, 12, 14, 16, 18, 20, 23, 26, 29, 32, 36, 40, 45, 50, 56, 62, 69, 76, 84, 93, 103, 114, 126, 139, 153, 169, 186, 205, 226, 249, 274, 302, 333, 367, 404, 445, 490, 540, 595, 655, 721, 794, 874, 962, 1059, 1165]
def nwL : List Cond := [.methodLinkNest RX5 35 yX6_clip RX6, .methodLinkNest RX4 47 yX6_copyRow RX6, .declares ⟨"java/lang/RuntimeException", "<init>", "(Ljava/lang/String;)V"⟩, .declares ⟨"java/lang/Exception", "<init>", "(Ljava/lang/String;)V"⟩, .declares ⟨"java/lang/Throwable", "<init>", "(Ljava/lang/String;)V"⟩, .castable "java/lang/IllegalArgumentException" "java/lang/IllegalArgumentException", .castable "java/lang/IndexOutOfBoundsException" "java/lang/IndexOutOfBoundsException", .castable "java/lang/IllegalStateException" "java/lang/IllegalStateException"]
theorem nw_warm {s U : State} (hW : s.WarmedH U.vm) : ∀ w ∈ nwL, va_Nw w s → va_Nw w U := by
  intro w hw h
  simp only [nwL, List.mem_cons, List.not_mem_nil, or_false] at hw
  rcases hw with rfl | rfl | rfl | rfl | rfl | rfl | rfl | rfl
  · exact h.warmM hW
  · exact h.warmM hW
  · exact h.warmD hW
  · exact h.warmD hW
  · exact h.warmD hW
  · exact h.warmC hW
  · exact h.warmC hW
  · exact h.warmC hW
def ncL : List (String × String) := [("java/lang/IllegalArgumentException", "java/lang/IndexOutOfBoundsException"), ("java/lang/IllegalStateException", "java/lang/IllegalArgumentException")]
/-- what the run finds of statics, texts and nest mates -/
def Zs (strs : List (Nat × String)) (E : En) (U : State) (H : Heap) : Prop :=
  (va_Z RX5 "STEPS" "[I" (.ref (eT E)) (eP E) U H ∧ va_T .int (eT E) 49 (fun k => .int (stepsL.getD k 0)) (eP E) U H) ∧
  (vx_Zq Bundle.tN "UNASSIGNED_STACK" Bundle.steD (eP E) U H ∧ vx_Zq Bundle.tN "SUPPRESSED_SENTINEL" Bundle.listD (eP E) U H) ∧
  ((∀ w ∈ nwL, va_Nw w U) ∧ ∀ q ∈ ncL, va_Nc q.1 q.2 U) ∧
  ∀ q ∈ strs, vk_R RX6 q.1 q.2 (eS E q.1) U
theorem Zs.next {strs : List (Nat × String)} {E : En} {s U : State} {H : Heap} (h : Zs strs E s s.heap) (hW : s.WarmedH U.vm) (hU : U.heap = H) (hk : ∀ a : Nat, a < s.heap.size → ¬ eP E a → H[a]? = s.heap[a]?) : Zs strs E U U.heap := by
  rw [hU]
  obtain ⟨⟨h1, h2⟩, ⟨h3, h4⟩, ⟨h5, h6⟩, h7⟩ := h
  exact ⟨⟨va_Z.moved hW.alike (h1.kept hk), va_T.moved hW.alike (h2.kept hk)⟩, ⟨vx_Zq.moved hW.alike (h3.kept hk), vx_Zq.moved hW.alike (h4.kept hk)⟩, ⟨fun w hw => nw_warm hW w hw (h5 w hw), fun q hq => va_Nc.moved hW.alike (h6 q hq)⟩, fun q hq => vk_R.warm hW (h7 q hq)⟩
theorem Zs.call {strs : List (Nat × String)} {E : En} {U : State} {g : JFrame} {mk : MethodId} {a : Array Value} (h : Zs strs E U U.heap) : Zs strs E (U.calling g mk a) (U.calling g mk a).heap := Zs.next (U := U.calling g mk a) h (State.WarmedH.refl U) rfl (fun _ _ _ => rfl)
def strs : List (Nat × String) := [(101, "a kind is 0 to 2"), (103, "a height is 0 to 2047"), (105, "a period is 1 to 64"), (121, "the wave is not coded"), (142, "no such setting"), (150, "the value is out of the setting's range"), (184, "a character code is 33 to 126"), (189, "the buffer is full"), (209, "the buffer does not tell such a block"), (233, "there is no snapshot in the slot"), (236, "there is no saved state"), (244, "no such step"), (249, "no such property"), (276, "no such number"), (284, "a guess and a sample are -2048 to 2047"), (286, "a step's number is 0 to 48"), (288, "no such number to tell"), (360, "no such block"), (365, "no such sample, or it has no code"), (367, "a bit is 0 to 3"), (369, "there are not all these samples"), (371, "a slot is 0 or 1"), (64, "a wave has 1 to 64 samples"), (86, "no such sample"), (92, "a sample is -2048 to 2047")]
/-- what stays as it is all through a method -/
def Ks (E : En) (s : State) : Prop := va_K (eD E) vwCl (tyOf E) s ∧ Tb s ∧ Gd E ∧ Zs strs E s s.heap
/-- the world that a method is called in -/
def Wd (E : En) (σ μ : Sg) (dg : Int64) (U : State) : Prop := Ks E U ∧ va_P (eD E) vwCl (wsOf E σ μ dg) U.heap
/-- the heap as the walk has left it -/
def Wk (E : En) (σ μ : Sg) (dg : Int64) (s : State) (H : Heap) (locs : List Loc) : Prop := va_P (eD E) vwCl (wsOf E σ μ dg) H ∧ va_S (eP E) s.heap H locs
def Wp (E : En) (σ μ : Sg) (dg : Int64) (t : State) : Prop := va_P (eD E) vwCl (wsOf E σ μ dg) t.heap
theorem Wd.call {E : En} {σ μ : Sg} {dg : Int64} {U : State} {g : JFrame} {mk : MethodId} {a : Array Value} (h : Wd E σ μ dg U) : Wd E σ μ dg (U.calling g mk a) := by
  obtain ⟨⟨h1, h2, h3, h4⟩, h5⟩ := h
  exact ⟨⟨va_K.moved (u := U) (U := U.calling g mk a) (Vm.Alike.refl U.vm) h1, Tb.warm (U := U.calling g mk a) (State.WarmedH.refl U) h2, h3, h4.call⟩, h5⟩
theorem Wd.next {E : En} {σ μ : Sg} {dg : Int64} {s U : State} {H : Heap} {locs : List Loc} (hK : Ks E s) (hW : Wk E σ μ dg s H locs) (hU : U.heap = H) (hv : s.WarmedH U.vm) : Wd E σ μ dg U := by
  obtain ⟨h1, h2, h3, h4⟩ := hK
  exact ⟨⟨va_K.moved hv.alike h1, h2.warm hv, h3, h4.next hv hU hW.2.2.1⟩, by rw [hU]; exact hW.1⟩
/-- the head of a method -/
theorem ss_of {E : En} {σ μ : Sg} {dg : Int64} {l : Launch} {y : MethodName} {cc : ByteArray} {n : Nat} {ret : Option FieldType} {rm : Room} {av : List Value} {Qc : Array Value → State → Outcome → State → Prop} {mc ms : Nat} {free : Addr → Prop} (hy : plainName y.cls = true) (hn : (lg_sl av).length ≤ n)
    (body : ∀ (p : Program) (e : Env) (s : State) (m : MethodId) (below : List Frame) (meth : Method) (c : Code), p.tables.exec = Jvm.exec → c.code = cc → meth.sig.returnType = ret → meth.locks = false → c.maxLocals = n → s.vm.findClass y.cls = some m.cls → Ks E s → Wk E σ μ dg s s.heap [] →
      ∀ ls : Array Slot, lv_has ls n (lv_args 0 av) → W p l e rm s m av.toArray below meth c s.heap [] 0 0 (MQ below Qc av.toArray s mc ms free) (F0 m 0 ls [])) : Met l y [.code y cc n ret] rm (va_Pc av (Wd E σ μ dg)) Qc mc ms free := by
  refine Met.ofW (cc := cc) (maxL := n) (ret := ret) hy rfl ?_
  intro p e s m args below meth c s₁ B hml hv
  obtain ⟨rfl, hK, hP⟩ := hv
  rw [lg_entry_eq]
  exact body p e s m below meth c B.exec B.bytes B.returns B.notSynchronized hml (findClass_of_methodNamed B.named) hK ⟨hP, va_S.rf⟩ _ (lv_entry av hn)
section SSR
variable {p : Program} {l : Launch} {e : Env} {R : Room} {s : State} {m : MethodId} {args : Array Value} {below : List Frame} {meth : Method} {c : Code} {H : Heap} {locs : List Loc} {cells slots : Nat} {Q : State → Prop}
variable {cc : ByteArray} {pc : Nat} {ls : Array Slot} {rest : List Value} {E : En} {σ μ : Sg} {dg : Int64}
/-- getfield -/
theorem ss_get (hx : p.tables.exec = Jvm.exec) (hb : c.code = cc) {own : String} (hown : s.vm.findClass own = some m.cls) (hK : Ks E s) (hW : Wk E σ μ dg s H locs) {C : String} {T : u_T} {N ci index q k : Nat} {fs : List Value} {v : Value}
    (hin : ∀ w ∈ u_ws C T N, Kw w) (hc : vwCl[ci]? = some (C, T, N)) (hk : k < N) (hq : q < 103) (he : cellOf E σ μ dg q = .inr (ci, fs)) (hv : fs[k]? = some v) (hl : Kw (.fieldLink own index (T k).1 (T k).2.1 (T k).2.2.1)) (hdg : decode cc pc = .ok (.getfield index, 3))
    (kk : W p l e R s m args below meth c H locs cells slots Q (F0 m (pc + 3) ls (v :: rest))) : W p l e R s m args below meth c H locs cells slots Q (F0 m pc ls (.ref (eA E q) :: rest)) :=
  va_get (C := C) (T := T) (N := N) (Ts := u_ws C T N) hx hb (fun w h => hK.2.1.at (hin w h) args) (fun _ h => h) hown hK.1 hW.1 q (ws_at hq he) hc k hk (hK.2.1.at hl args) (fun _ h => h) hv hdg kk
/-- putfield -/
theorem ss_put (hx : p.tables.exec = Jvm.exec) (hb : c.code = cc) {own : String} (hown : s.vm.findClass own = some m.cls) (hK : Ks E s) (hW : Wk E σ μ dg s H locs) {C : String} {T : u_T} {N ci index q k : Nat} {fs : List Value} {v : Value} {ty0 : Nat → FieldType} {σ' μ' : Sg} {dg' : Int64}
    (hin : ∀ w ∈ u_ws C T N, Kw w) (hty : ∀ k, k < N → parseFieldDescriptor (T k).2.2.1 = some (ty0 k)) (hnm : ∀ a, a < N → ∀ b, b < N → a ≠ b → (T a).2.1 ≠ (T b).2.1) (hc : vwCl[ci]? = some (C, T, N)) (hk : k < N) (hq : q < 103) (he : cellOf E σ μ dg q = .inr (ci, fs)) (hkl : k < fs.length)
    (he' : cellOf E σ' μ' dg' q = .inr (ci, fs.set k v)) (hne : ∀ a, a < 103 → a ≠ q → cellOf E σ' μ' dg' a = cellOf E σ μ dg a) (hfin : (T k).2.2.2 = false) (hn : narrow (ty0 k) v = v) (hfit : fits (ty0 k) v = true) (hl : Kw (.fieldLink own index (T k).1 (T k).2.1 (T k).2.2.1)) (hdg : decode cc pc = .ok (.putfield index, 3))
    (kk : ∀ (H' : Heap) (locs' : List Loc), Wk E σ' μ' dg' s H' locs' → W p l e R s m args below meth c H' locs' cells slots Q (F0 m (pc + 3) ls rest)) : W p l e R s m args below meth c H locs cells slots Q (F0 m pc ls (v :: .ref (eA E q) :: rest)) := by
  refine va_put (C := C) (T := T) (N := N) (Ts := u_ws C T N) hx hb (fun w h => hK.2.1.at (hin w h) args) (fun _ h => h) ty0 hty hnm hown hK.1 hW.1 (hK.2.2.1.D σ μ dg) hW.2 q (ws_at hq he) hc k hk (hK.2.1.at hl args) (fun _ h => h) hfin (hty k hk) hn hfit hkl hdg (fun H' locs' h1 _ h3 => kk H' locs' ⟨?_, h3⟩)
  rw [ws_set hq he' hne] at h1
  exact h1
theorem tys0 {E : En} : (tyOf E)[0]? = some (eY E 0, .int) := rfl
theorem tys1 {E : En} : (tyOf E)[1]? = some (eY E 1, .boolean) := rfl
theorem tys2 {E : En} : (tyOf E)[2]? = some (eY E 2, .object RX4) := rfl
theorem ss_iald (hx : p.tables.exec = Jvm.exec) (hb : c.code = cc) (hK : Ks E s) (hW : Wk E σ μ dg s H locs) {q n : Nat} {f : Nat → Int32} (hq : q < 103) (he : cellOf E σ μ dg q = .inl (eY E 0, n, .inl f)) {i : Int32} (hin : vp_in i n) (hdg : decode cc pc = .ok (.iaload, 1))
    (kk : W p l e R s m args below meth c H locs cells slots Q (F0 m (pc + 1) ls (.int (f i.toNatClampNeg) :: rest))) : W p l e R s m args below meth c H locs cells slots Q (F0 m pc ls (.int i :: .ref (eA E q) :: rest)) :=
  va_iald hx hb hK.1 hW.1 q 0 (ws_at hq he) tys0 hin hdg kk
theorem ss_zald (hx : p.tables.exec = Jvm.exec) (hb : c.code = cc) (hK : Ks E s) (hW : Wk E σ μ dg s H locs) {q n : Nat} {f : Nat → Int32} (hq : q < 103) (he : cellOf E σ μ dg q = .inl (eY E 1, n, .inl f)) {i : Int32} (hin : vp_in i n) (hdg : decode cc pc = .ok (.baload, 1))
    (kk : W p l e R s m args below meth c H locs cells slots Q (F0 m (pc + 1) ls (.int (f i.toNatClampNeg) :: rest))) : W p l e R s m args below meth c H locs cells slots Q (F0 m pc ls (.int i :: .ref (eA E q) :: rest)) :=
  va_zald hx hb hK.1 hW.1 q 1 (ws_at hq he) tys1 hin hdg kk
theorem ss_iast (hx : p.tables.exec = Jvm.exec) (hb : c.code = cc) (hK : Ks E s) (hW : Wk E σ μ dg s H locs) {q n : Nat} {f : Nat → Int32} {σ' μ' : Sg} {i x : Int32} (hq : q < 103) (he : cellOf E σ μ dg q = .inl (eY E 0, n, .inl f)) (he' : cellOf E σ' μ' dg q = .inl (eY E 0, n, .inl (upd f i.toNatClampNeg x))) (hne : ∀ a, a < 103 → a ≠ q → cellOf E σ' μ' dg a = cellOf E σ μ dg a) (hin : vp_in i n) (hdg : decode cc pc = .ok (.iastore, 1))
    (kk : ∀ (H' : Heap) (locs' : List Loc), Wk E σ' μ' dg s H' locs' → W p l e R s m args below meth c H' locs' cells slots Q (F0 m (pc + 1) ls rest)) : W p l e R s m args below meth c H locs cells slots Q (F0 m pc ls (.int x :: .int i :: .ref (eA E q) :: rest)) := by
  refine va_iast hx hb hK.1 hW.1 (hK.2.2.1.D σ μ dg) hW.2 q 0 (ws_at hq he) tys0 hin hdg (fun H' locs' h1 _ h3 => kk H' locs' ⟨?_, h3⟩)
  rw [ws_set hq he' hne] at h1
  exact h1
theorem ss_zast (hx : p.tables.exec = Jvm.exec) (hb : c.code = cc) (hK : Ks E s) (hW : Wk E σ μ dg s H locs) {q n : Nat} {f : Nat → Int32} {σ' μ' : Sg} {i x : Int32} (hq : q < 103) (he : cellOf E σ μ dg q = .inl (eY E 1, n, .inl f)) (he' : cellOf E σ' μ' dg q = .inl (eY E 1, n, .inl (upd f i.toNatClampNeg x))) (hne : ∀ a, a < 103 → a ≠ q → cellOf E σ' μ' dg a = cellOf E σ μ dg a) (hin : vp_in i n) (hbx : vp_nar .boolean x = x) (hdg : decode cc pc = .ok (.bastore, 1))
    (kk : ∀ (H' : Heap) (locs' : List Loc), Wk E σ' μ' dg s H' locs' → W p l e R s m args below meth c H' locs' cells slots Q (F0 m (pc + 1) ls rest)) : W p l e R s m args below meth c H locs cells slots Q (F0 m pc ls (.int x :: .int i :: .ref (eA E q) :: rest)) := by
  refine va_zast hx hb hK.1 hW.1 (hK.2.2.1.D σ μ dg) hW.2 q 1 (ws_at hq he) tys1 hin hdg (fun H' locs' h1 _ h3 => kk H' locs' ⟨?_, h3⟩)
  rw [hbx, ws_set hq he' hne] at h1
  exact h1
/-- reading the class's rows of States: the States have their numbers -/
theorem ss_aald (hx : p.tables.exec = Jvm.exec) (hb : c.code = cc) (hK : Ks E s) (hW : Wk E σ μ dg s H locs) {q n : Nat} {f : Nat → Option Nat} (hq : q < 103) (he : cellOf E σ μ dg q = .inl (eY E 2, n, .inr (.inr (.inr (.inr f))))) {i : Int32} (hin : vp_in i n) {b : Nat} (hf : f i.toNatClampNeg = some b) (hdg : decode cc pc = .ok (.aaload, 1))
    (kk : W p l e R s m args below meth c H locs cells slots Q (F0 m (pc + 1) ls (.ref b :: rest))) : W p l e R s m args below meth c H locs cells slots Q (F0 m pc ls (.int i :: .ref (eA E q) :: rest)) :=
  va_aldq hx hb hK.1 hW.1 q 2 (ws_at hq he) tys2 hin hdg (by rw [hf]; exact kk)
/-- writing one of the saved States' places -/
theorem ss_aast (hx : p.tables.exec = Jvm.exec) (hb : c.code = cc) (hK : Ks E s) (hW : Wk E σ μ dg s H locs) {j : Nat} (hj : j < 9) {i : Int32} (hin : vp_in i 6) (hdg : decode cc pc = .ok (.aastore, 1))
    (kk : ∀ (H' : Heap) (locs' : List Loc), Wk E (up2 σ 2 i.toNatClampNeg (nI j)) μ dg s H' locs' → W p l e R s m args below meth c H' locs' cells slots Q (F0 m (pc + 1) ls rest)) : W p l e R s m args below meth c H locs cells slots Q (F0 m pc ls (.ref (eA E (10 + 8 * j)) :: .int i :: .ref (eA E 2) :: rest)) := by
  refine va_astq hx hb hK.1 hW.1 (hK.2.2.1.D σ μ dg) hW.2 2 2 (10 + 8 * j) 4 (ws_at (by decide) (c_fx (by decide))) tys2 (ws_at (by omega) (c_st hj 0 (by decide))) rfl hin hdg (fun H' locs' h1 _ h3 => kk H' locs' ⟨?_, h3⟩)
  rw [ws_set (σ' := up2 σ 2 i.toNatClampNeg (nI j)) (μ' := μ) (dg' := dg) (by decide) ?_ (fun k _ hk => c_up2 hk)] at h1
  · exact h1
  · rw [c_fx (by decide)]
    simp only [cFx, up2_self]
    congr 2
    congr 1
    congr 1
    congr 1
    congr 1
    congr 1
    funext k
    by_cases hk : k = i.toNatClampNeg
    · subst hk
      simp only [upd, va_up, if_true]
      rw [nI_clamp (n := j) (by omega)]
    · simp only [upd, va_up, if_neg hk]
theorem ss_alen (hx : p.tables.exec = Jvm.exec) (hb : c.code = cc) (hK : Ks E s) (hW : Wk E σ μ dg s H locs) {q t : Nat} {cA : ClassId} {x : vp_A} (hq : q < 103) (he : cellOf E σ μ dg q = .inl (cA, x)) {ty : FieldType} (ht : (tyOf E)[t]? = some (cA, ty)) {v : Int32} (hv : Int32.ofNat x.1 = v) (hdg : decode cc pc = .ok (.arraylength, 1))
    (kk : W p l e R s m args below meth c H locs cells slots Q (F0 m (pc + 1) ls (.int v :: rest))) : W p l e R s m args below meth c H locs cells slots Q (F0 m pc ls (.ref (eA E q) :: rest)) :=
  va_alen hx hb hK.1 hW.1 q t (ws_at hq he) ht hv hdg kk
theorem ss_gets (hx : p.tables.exec = Jvm.exec) (hb : c.code = cc) (hown : s.vm.findClass RX5 = some m.cls) (hK : Ks E s) (hW : Wk E σ μ dg s H locs) {index : Nat} (hl : Kw (.fieldLink RX5 index RX5 "STEPS" "[I")) (hdg : decode cc pc = .ok (.getstatic index, 3))
    (kk : W p l e R s m args below meth c H locs cells slots Q (F0 m (pc + 3) ls (.ref (eT E) :: rest))) : W p l e R s m args below meth c H locs cells slots Q (F0 m pc ls rest) :=
  va_gets hx hb hK.2.2.2.1.1 hW.2 hown (hK.2.1.at hl args) (fun _ h => h) hdg kk
theorem ss_ti (hx : p.tables.exec = Jvm.exec) (hb : c.code = cc) (hK : Ks E s) (hW : Wk E σ μ dg s H locs) {i : Int32} (hin : vp_in i 49) (hdg : decode cc pc = .ok (.iaload, 1))
    (kk : W p l e R s m args below meth c H locs cells slots Q (F0 m (pc + 1) ls (.int (stepsL.getD i.toNatClampNeg 0) :: rest))) : W p l e R s m args below meth c H locs cells slots Q (F0 m pc ls (.int i :: .ref (eT E) :: rest)) :=
  va_ti hx hb hK.2.2.2.1.2 hW.2 hin rfl hdg kk
theorem ss_tlen (hx : p.tables.exec = Jvm.exec) (hb : c.code = cc) (hK : Ks E s) (hW : Wk E σ μ dg s H locs) (hdg : decode cc pc = .ok (.arraylength, 1))
    (kk : W p l e R s m args below meth c H locs cells slots Q (F0 m (pc + 1) ls (.int 49 :: rest))) : W p l e R s m args below meth c H locs cells slots Q (F0 m pc ls (.ref (eT E) :: rest)) :=
  va_tlen hx hb hK.2.2.2.1.2 hW.2 (by decide) hdg kk
end SSR
end
section
/-! results, their inversion -/
def gd {α : Type} (p : Prop) [Decidable p] (k : Option α) : Option α := if p then k else none
theorem gd_inv {α : Type} {p : Prop} [Decidable p] {k : Option α} {r : α} (h : gd p k = some r) : p ∧ k = some r := by
  unfold gd at h
  split at h
  · exact ⟨by assumption, h⟩
  · cases h
theorem gd_of {α : Type} {p : Prop} [Decidable p] (h : p) (k : Option α) : gd p k = k := if_pos h
def bd {α β : Type} (x : Option α) (k : α → Option β) : Option β := match x with
  | some a => k a
  | none => none
theorem bd_inv {α β : Type} {x : Option α} {k : α → Option β} {r : β} (h : bd x k = some r) : ∃ a, x = some a ∧ k a = some r := by
  cases x with
  | none => cases h
  | some a => exact ⟨a, rfl, h⟩
def bo {α β S : Type} (x : Option ((α ⊕ Nat) × S)) (k : α → S → Option β) : Option β := match x with
  | some (.inl a, s) => k a s
  | _ => none
theorem bo_inv {α β S : Type} {x : Option ((α ⊕ Nat) × S)} {k : α → S → Option β} {r : β} (h : bo x k = some r) : ∃ a s, x = some (.inl a, s) ∧ k a s = some r := by
  match x, h with
  | some (.inl a, s), h => exact ⟨a, s, rfl, h⟩
def bx {α β S : Type} (x : Option ((α ⊕ Nat) × S)) (k : α → S → Option ((β ⊕ Nat) × S)) : Option ((β ⊕ Nat) × S) := match x with
  | some (.inl a, s) => k a s
  | some (.inr e, s) => some (.inr e, s)
  | none => none
theorem bx_inv {α β S : Type} {x : Option ((α ⊕ Nat) × S)} {k : α → S → Option ((β ⊕ Nat) × S)} {r : (β ⊕ Nat) × S} (h : bx x k = some r) : (∃ a s, x = some (.inl a, s) ∧ k a s = some r) ∨ ∃ e s, x = some (.inr e, s) ∧ r = (.inr e, s) := by
  match x, h with
  | some (.inl a, s), h => exact Or.inl ⟨a, s, rfl, h⟩
  | some (.inr e, s), h => exact Or.inr ⟨e, s, rfl, (Option.some.inj h).symm⟩
def nm {α β : Type} (e : α) (k : α → β) : β := k e
theorem nm_use {α β : Type} {e x : α} {k : α → β} {r : β} (h : x = e) (hf : nm e k = r) : k x = r := by rw [h]; exact hf
theorem br_p {α : Type} {c : Prop} [Decidable c] {a b r : α} (h : c) (hf : (if c then a else b) = r) : a = r := by rw [if_pos h] at hf; exact hf
theorem br_n {α : Type} {c : Prop} [Decidable c] {a b r : α} (h : ¬ c) (hf : (if c then a else b) = r) : b = r := by rw [if_neg h] at hf; exact hf
abbrev Rm (a b : Nat) : Room := { frames := a, cells := 0, slots := 0, locals := b }
def xc {α : Type} (r : α ⊕ Nat) : Nat := match r with
  | .inl _ => 0
  | .inr _ => 1
def xs6 {α : Type} (r : α ⊕ Nat) : Nat := match r with
  | .inl _ => 0
  | .inr _ => 6
abbrev RmX {α : Type} (r : α ⊕ Nat) (a b : Nat) : Room := { frames := a, cells := xc r, slots := xs6 r, locals := b }
def exN : Nat → String
  | 0 => "java/lang/IllegalArgumentException"
  | 1 => "java/lang/IndexOutOfBoundsException"
  | _ => "java/lang/IllegalStateException"
/-- a callee's words -/
def CB (y : MethodName) (cc : ByteArray) (n : Nat) (ret : Option FieldType) (np : Nat) : Prop := Kw (.initialized y.cls) ∧ Kw (.code y cc n ret) ∧ (y.cls ≠ "java/lang/invoke/MethodHandle" ∧ y.cls ≠ "java/lang/invoke/VarHandle") ∧ (parseMethodDescriptor y.desc).map (fun d => d.parameters.length) = some np
def VB (y : MethodName) (cc : ByteArray) (n : Nat) (ret : Option FieldType) (np : Nat) : Prop := CB y cc n ret np ∧ Kw (.instanceMethod y) ∧ Kw (.selects y.cls y y)
def SB (y : MethodName) (cc : ByteArray) (n : Nat) (ret : Option FieldType) (np : Nat) : Prop := CB y cc n ret np ∧ Kw (.static y)
theorem CB.np {y : MethodName} {cc : ByteArray} {n np : Nat} {ret : Option FieldType} (h : CB y cc n ret np) : ∀ sig, parseMethodDescriptor y.desc = some sig → np = sig.parameters.length := by
  intro sig hs
  have h2 := h.2.2.2
  rw [hs] at h2
  exact (Option.some.inj h2).symm
theorem CB.ws {y : MethodName} {cc : ByteArray} {n np : Nat} {ret : Option FieldType} (h : CB y cc n ret np) {s : State} (hT : Tb s) : ∀ w ∈ [Cond.code y cc n ret], ∀ (a' : Array Value) (U : State), s.WarmedH U.vm → w.before a' U = true := by
  intro w hw a' U hW
  cases List.mem_singleton.mp hw
  exact (Tb.warm hW hT).at h.2.1 a'
section SSC
variable {p : Program} {l : Launch} {e : Env} {R : Room} {s : State} {m : MethodId} {args : Array Value} {below : List Frame} {meth : Method} {c : Code} {H : Heap} {locs : List Loc} {cells slots : Nat} {Q : State → Prop}
variable {cc : ByteArray} {pc : Nat} {ls : Array Slot} {rest : List Value} {E : En} {σ μ : Sg} {dg : Int64}
theorem ss_cwV {y : MethodName} {bytes : ByteArray} {n np idx : Nat} {ret : Option FieldType} {own : String} {rm : Room} (hT : Tb s) (vb : VB y bytes n ret np) (kl : Kw (.methodLink own idx y)) (hR : rm.frames + 1 ≤ R.frames ∧ 8 + (n + 11) + rm.locals ≤ R.locals) : CallW R s args own y.cls idx y bytes n ret [.code y bytes n ret] rm rm.cells rm.slots np :=
  ⟨⟨rfl, rfl, hR.1, hR.2, vb.1.ws hT, List.mem_cons_self, hT.at vb.1.2.1 args, hT.at vb.1.1 args, vb.1.2.2.1, vb.1.np, hT.at kl args⟩, hT.at vb.2.1 args, hT.at vb.2.2 args⟩
theorem ss_cwS {y : MethodName} {bytes : ByteArray} {n np idx : Nat} {ret : Option FieldType} {own : String} {rm : Room} (hT : Tb s) (vb : SB y bytes n ret np) (kl : Kw (.methodLink own idx y)) (hR : rm.frames + 1 ≤ R.frames ∧ 8 + (n + 11) + rm.locals ≤ R.locals) : CallB R s args own idx y bytes n ret [.code y bytes n ret] rm rm.cells rm.slots np ∧ (Cond.static y).before args s = true :=
  ⟨⟨rfl, rfl, hR.1, hR.2, vb.1.ws hT, List.mem_cons_self, hT.at vb.1.2.1 args, hT.at vb.1.1 args, vb.1.2.2.1, vb.1.np, hT.at kl args⟩, hT.at vb.2 args⟩
theorem ss_cwN {y : MethodName} {bytes : ByteArray} {n np idx : Nat} {ret : Option FieldType} {own host : String} {rm : Room} (hT : Tb s) (vb : SB y bytes n ret np) (kl : va_Nw (.methodLinkNest own idx y host) s) (hR : rm.frames + 1 ≤ R.frames ∧ 8 + (n + 11) + rm.locals ≤ R.locals) : va_CN R s args own idx y host bytes n ret [.code y bytes n ret] rm rm.cells rm.slots np ∧ (Cond.static y).before args s = true ∧ True :=
  ⟨⟨⟨rfl, rfl, hR.1, hR.2, vb.1.ws hT, List.mem_cons_self⟩, hT.at vb.1.2.1 args, hT.at vb.1.1 args, vb.1.2.2.1, vb.1.np, va_Nw.use rfl kl⟩, hT.at vb.2 args, trivial⟩
theorem ss_preV {q ci : Nat} {fs : List Value} {C : String} {T : u_T} {N : Nat} {As : List Value} (hK : Ks E s) (hW : Wk E σ μ dg s H locs) (hc : vwCl[ci]? = some (C, T, N)) (hq : q < 103) (he : cellOf E σ μ dg q = .inr (ci, fs)) : PreV s H C (eA E q) (va_Pc (.ref (eA E q) :: As) (Wd E σ μ dg)) As :=
  ⟨fun _ _ _ _ h => ⟨h.1, h.2.call⟩, va_recv (q := (C, T, N)) hK.1 hW.1 hc (ws_at hq he), fun _ hU hv => ⟨rfl, Wd.next hK hW hU hv⟩⟩
theorem ss_preS {As : List Value} (hK : Ks E s) (hW : Wk E σ μ dg s H locs) : PreS s H (va_Pc As (Wd E σ μ dg)) As :=
  ⟨fun _ _ _ _ h => ⟨h.1, h.2.call⟩, fun _ hU hv => ⟨rfl, Wd.next hK hW hU hv⟩⟩
abbrev Qi (E : En) (σ μ : Sg) (dg : Int64) (r0 : Int32) : Array Value → State → Outcome → State → Prop := va_Qi (fun r (_ : Unit) => r = r0) (fun _ t => Wp E σ μ dg t) (eP E)
abbrev Ql (E : En) (σ μ : Sg) (dg : Int64) (r0 : Int64) : Array Value → State → Outcome → State → Prop := va_Ql (fun r (_ : Unit) => r = r0) (fun _ t => Wp E σ μ dg t) (eP E)
abbrev Qf (E : En) (σ μ : Sg) (dg : Int64) (r0 : UInt32) : Array Value → State → Outcome → State → Prop := va_Qf (fun r (_ : Unit) => r = r0) (fun _ t => Wp E σ μ dg t) (eP E)
abbrev Qd (E : En) (σ μ : Sg) (dg : Int64) (r0 : UInt64) : Array Value → State → Outcome → State → Prop := va_Qd (fun r (_ : Unit) => r = r0) (fun _ t => Wp E σ μ dg t) (eP E)
abbrev Qv (E : En) (σ μ : Sg) (dg : Int64) : Array Value → State → Outcome → State → Prop := va_Qv (fun (_ : Unit) => True) (fun _ t => Wp E σ μ dg t) (eP E)
theorem ss_callVi (hx : p.tables.exec = Jvm.exec) (hb : c.code = cc) {nL : Nat} (hml : c.maxLocals = nL) {own : String} (hown : s.vm.findClass own = some m.cls) (hK : Ks E s) (hW : Wk E σ μ dg s H locs) {y : MethodName} {bytes : ByteArray} {n np idx : Nat} {ret : Option FieldType} {fr lo : Nat} {As : List Value} {st0 : List Value} {σ' μ' : Sg} {dg' : Int64} {r0 : Int32} {q ci : Nat} {fs : List Value} {T : u_T} {N : Nat} (vb : VB y bytes n ret np) (kl : Kw (.methodLink own idx y)) (hc : vwCl[ci]? = some (y.cls, T, N)) (hq : q < 103) (he : cellOf E σ μ dg q = .inr (ci, fs)) (hM : Met l y [.code y bytes n ret] (Rm fr lo) (va_Pc (.ref (eA E q) :: As) (Wd E σ μ dg)) (Qi E σ' μ' dg' r0) 0 0 (eP E)) (hst : st0 = As.reverse ++ .ref (eA E q) :: rest) (hdg : decode cc pc = .ok (.invokevirtual idx, 3)) (hnp : As.length = np) (hsz : ls.size = nL) (hroom : (rest.map fun v => v.category).sum ≤ 8) (hR : fr + 1 ≤ R.frames ∧ 8 + (n + 11) + lo ≤ R.locals) (hcs : cells ≤ R.cells ∧ slots ≤ R.slots)
    (kk : ∀ (H' : Heap) (locs' : List Loc), Wk E σ' μ' dg' s H' locs' → W p l e R s m args below meth c H' locs' cells slots Q (F0 m (pc + 3) ls (.int r0 :: rest))) : W p l e R s m args below meth c H locs cells slots Q (F0 m pc ls st0) := by
  subst hst
  exact va_calli (va_runV (Ts := []) (own := own) (rest := rest) ⟨hx, hb, hml, hown, fun _ h => nomatch h⟩ hM (ss_cwV hK.2.1 vb kl hR) (ss_preV hK hW hc hq he) rfl hnp hsz rfl (lv_room hroom) hdg hcs) hW.2 (fun _ _ h => h) (fun _ h => h) (fun _ _ t H1 locs1 ht _ hr hB _ _ hS => by
    subst hr
    exact kk H1 locs1 ⟨by rw [← ht]; exact hB, hS⟩)
theorem ss_callSi (hx : p.tables.exec = Jvm.exec) (hb : c.code = cc) {nL : Nat} (hml : c.maxLocals = nL) {own : String} (hown : s.vm.findClass own = some m.cls) (hK : Ks E s) (hW : Wk E σ μ dg s H locs) {y : MethodName} {bytes : ByteArray} {n np idx : Nat} {ret : Option FieldType} {fr lo : Nat} {As : List Value} {st0 : List Value} {σ' μ' : Sg} {dg' : Int64} {r0 : Int32} (vb : SB y bytes n ret np) (kl : Kw (.methodLink own idx y)) (hM : Met l y [.code y bytes n ret] (Rm fr lo) (va_Pc As (Wd E σ μ dg)) (Qi E σ' μ' dg' r0) 0 0 (eP E)) (hst : st0 = As.reverse ++ rest) (hdg : decode cc pc = .ok (.invokestatic idx, 3)) (hnp : As.length = np) (hsz : ls.size = nL) (hroom : (rest.map fun v => v.category).sum ≤ 8) (hR : fr + 1 ≤ R.frames ∧ 8 + (n + 11) + lo ≤ R.locals) (hcs : cells ≤ R.cells ∧ slots ≤ R.slots)
    (kk : ∀ (H' : Heap) (locs' : List Loc), Wk E σ' μ' dg' s H' locs' → W p l e R s m args below meth c H' locs' cells slots Q (F0 m (pc + 3) ls (.int r0 :: rest))) : W p l e R s m args below meth c H locs cells slots Q (F0 m pc ls st0) := by
  subst hst
  exact va_calli (va_runS (Ts := []) (own := own) (rest := rest) ⟨hx, hb, hml, hown, fun _ h => nomatch h⟩ hM (ss_cwS hK.2.1 vb kl hR) (ss_preS hK hW) rfl hnp hsz rfl (lv_room hroom) hdg hcs) hW.2 (fun _ _ h => h) (fun _ h => h) (fun _ _ t H1 locs1 ht _ hr hB _ _ hS => by
    subst hr
    exact kk H1 locs1 ⟨by rw [← ht]; exact hB, hS⟩)
theorem ss_callNi (hx : p.tables.exec = Jvm.exec) (hb : c.code = cc) {nL : Nat} (hml : c.maxLocals = nL) {own : String} (hown : s.vm.findClass own = some m.cls) (hK : Ks E s) (hW : Wk E σ μ dg s H locs) {y : MethodName} {bytes : ByteArray} {n np idx : Nat} {ret : Option FieldType} {fr lo : Nat} {As : List Value} {st0 : List Value} {σ' μ' : Sg} {dg' : Int64} {r0 : Int32} {host : String} (vb : SB y bytes n ret np) (kl : va_Nw (.methodLinkNest own idx y host) s) (hM : Met l y [.code y bytes n ret] (Rm fr lo) (va_Pc As (Wd E σ μ dg)) (Qi E σ' μ' dg' r0) 0 0 (eP E)) (hst : st0 = As.reverse ++ rest) (hdg : decode cc pc = .ok (.invokestatic idx, 3)) (hnp : As.length = np) (hsz : ls.size = nL) (hroom : (rest.map fun v => v.category).sum ≤ 8) (hR : fr + 1 ≤ R.frames ∧ 8 + (n + 11) + lo ≤ R.locals) (hcs : cells ≤ R.cells ∧ slots ≤ R.slots)
    (kk : ∀ (H' : Heap) (locs' : List Loc), Wk E σ' μ' dg' s H' locs' → W p l e R s m args below meth c H' locs' cells slots Q (F0 m (pc + 3) ls (.int r0 :: rest))) : W p l e R s m args below meth c H locs cells slots Q (F0 m pc ls st0) := by
  subst hst
  exact va_calli (va_runSN (Ts := []) (own := own) (rest := rest) ⟨hx, hb, hml, hown, fun _ h => nomatch h⟩ hM (ss_cwN hK.2.1 vb kl hR) (ss_preS hK hW) rfl hnp hsz rfl (lv_room hroom) hdg hcs) hW.2 (fun _ _ h => h) (fun _ h => h) (fun _ _ t H1 locs1 ht _ hr hB _ _ hS => by
    subst hr
    exact kk H1 locs1 ⟨by rw [← ht]; exact hB, hS⟩)
theorem ss_callVl (hx : p.tables.exec = Jvm.exec) (hb : c.code = cc) {nL : Nat} (hml : c.maxLocals = nL) {own : String} (hown : s.vm.findClass own = some m.cls) (hK : Ks E s) (hW : Wk E σ μ dg s H locs) {y : MethodName} {bytes : ByteArray} {n np idx : Nat} {ret : Option FieldType} {fr lo : Nat} {As : List Value} {st0 : List Value} {σ' μ' : Sg} {dg' : Int64} {r0 : Int64} {q ci : Nat} {fs : List Value} {T : u_T} {N : Nat} (vb : VB y bytes n ret np) (kl : Kw (.methodLink own idx y)) (hc : vwCl[ci]? = some (y.cls, T, N)) (hq : q < 103) (he : cellOf E σ μ dg q = .inr (ci, fs)) (hM : Met l y [.code y bytes n ret] (Rm fr lo) (va_Pc (.ref (eA E q) :: As) (Wd E σ μ dg)) (Ql E σ' μ' dg' r0) 0 0 (eP E)) (hst : st0 = As.reverse ++ .ref (eA E q) :: rest) (hdg : decode cc pc = .ok (.invokevirtual idx, 3)) (hnp : As.length = np) (hsz : ls.size = nL) (hroom : (rest.map fun v => v.category).sum ≤ 8) (hR : fr + 1 ≤ R.frames ∧ 8 + (n + 11) + lo ≤ R.locals) (hcs : cells ≤ R.cells ∧ slots ≤ R.slots)
    (kk : ∀ (H' : Heap) (locs' : List Loc), Wk E σ' μ' dg' s H' locs' → W p l e R s m args below meth c H' locs' cells slots Q (F0 m (pc + 3) ls (.long r0 :: rest))) : W p l e R s m args below meth c H locs cells slots Q (F0 m pc ls st0) := by
  subst hst
  exact va_calll (va_runV (Ts := []) (own := own) (rest := rest) ⟨hx, hb, hml, hown, fun _ h => nomatch h⟩ hM (ss_cwV hK.2.1 vb kl hR) (ss_preV hK hW hc hq he) rfl hnp hsz rfl (lv_room hroom) hdg hcs) hW.2 (fun _ _ h => h) (fun _ h => h) (fun _ _ t H1 locs1 ht _ hr hB _ _ hS => by
    subst hr
    exact kk H1 locs1 ⟨by rw [← ht]; exact hB, hS⟩)
theorem ss_callSl (hx : p.tables.exec = Jvm.exec) (hb : c.code = cc) {nL : Nat} (hml : c.maxLocals = nL) {own : String} (hown : s.vm.findClass own = some m.cls) (hK : Ks E s) (hW : Wk E σ μ dg s H locs) {y : MethodName} {bytes : ByteArray} {n np idx : Nat} {ret : Option FieldType} {fr lo : Nat} {As : List Value} {st0 : List Value} {σ' μ' : Sg} {dg' : Int64} {r0 : Int64} (vb : SB y bytes n ret np) (kl : Kw (.methodLink own idx y)) (hM : Met l y [.code y bytes n ret] (Rm fr lo) (va_Pc As (Wd E σ μ dg)) (Ql E σ' μ' dg' r0) 0 0 (eP E)) (hst : st0 = As.reverse ++ rest) (hdg : decode cc pc = .ok (.invokestatic idx, 3)) (hnp : As.length = np) (hsz : ls.size = nL) (hroom : (rest.map fun v => v.category).sum ≤ 8) (hR : fr + 1 ≤ R.frames ∧ 8 + (n + 11) + lo ≤ R.locals) (hcs : cells ≤ R.cells ∧ slots ≤ R.slots)
    (kk : ∀ (H' : Heap) (locs' : List Loc), Wk E σ' μ' dg' s H' locs' → W p l e R s m args below meth c H' locs' cells slots Q (F0 m (pc + 3) ls (.long r0 :: rest))) : W p l e R s m args below meth c H locs cells slots Q (F0 m pc ls st0) := by
  subst hst
  exact va_calll (va_runS (Ts := []) (own := own) (rest := rest) ⟨hx, hb, hml, hown, fun _ h => nomatch h⟩ hM (ss_cwS hK.2.1 vb kl hR) (ss_preS hK hW) rfl hnp hsz rfl (lv_room hroom) hdg hcs) hW.2 (fun _ _ h => h) (fun _ h => h) (fun _ _ t H1 locs1 ht _ hr hB _ _ hS => by
    subst hr
    exact kk H1 locs1 ⟨by rw [← ht]; exact hB, hS⟩)
theorem ss_callVf (hx : p.tables.exec = Jvm.exec) (hb : c.code = cc) {nL : Nat} (hml : c.maxLocals = nL) {own : String} (hown : s.vm.findClass own = some m.cls) (hK : Ks E s) (hW : Wk E σ μ dg s H locs) {y : MethodName} {bytes : ByteArray} {n np idx : Nat} {ret : Option FieldType} {fr lo : Nat} {As : List Value} {st0 : List Value} {σ' μ' : Sg} {dg' : Int64} {r0 : UInt32} {q ci : Nat} {fs : List Value} {T : u_T} {N : Nat} (vb : VB y bytes n ret np) (kl : Kw (.methodLink own idx y)) (hc : vwCl[ci]? = some (y.cls, T, N)) (hq : q < 103) (he : cellOf E σ μ dg q = .inr (ci, fs)) (hM : Met l y [.code y bytes n ret] (Rm fr lo) (va_Pc (.ref (eA E q) :: As) (Wd E σ μ dg)) (Qf E σ' μ' dg' r0) 0 0 (eP E)) (hst : st0 = As.reverse ++ .ref (eA E q) :: rest) (hdg : decode cc pc = .ok (.invokevirtual idx, 3)) (hnp : As.length = np) (hsz : ls.size = nL) (hroom : (rest.map fun v => v.category).sum ≤ 8) (hR : fr + 1 ≤ R.frames ∧ 8 + (n + 11) + lo ≤ R.locals) (hcs : cells ≤ R.cells ∧ slots ≤ R.slots)
    (kk : ∀ (H' : Heap) (locs' : List Loc), Wk E σ' μ' dg' s H' locs' → W p l e R s m args below meth c H' locs' cells slots Q (F0 m (pc + 3) ls (.float r0 :: rest))) : W p l e R s m args below meth c H locs cells slots Q (F0 m pc ls st0) := by
  subst hst
  exact va_callf (va_runV (Ts := []) (own := own) (rest := rest) ⟨hx, hb, hml, hown, fun _ h => nomatch h⟩ hM (ss_cwV hK.2.1 vb kl hR) (ss_preV hK hW hc hq he) rfl hnp hsz rfl (lv_room hroom) hdg hcs) hW.2 (fun _ _ h => h) (fun _ h => h) (fun _ _ t H1 locs1 ht _ hr hB _ _ hS => by
    subst hr
    exact kk H1 locs1 ⟨by rw [← ht]; exact hB, hS⟩)
theorem ss_callSf (hx : p.tables.exec = Jvm.exec) (hb : c.code = cc) {nL : Nat} (hml : c.maxLocals = nL) {own : String} (hown : s.vm.findClass own = some m.cls) (hK : Ks E s) (hW : Wk E σ μ dg s H locs) {y : MethodName} {bytes : ByteArray} {n np idx : Nat} {ret : Option FieldType} {fr lo : Nat} {As : List Value} {st0 : List Value} {σ' μ' : Sg} {dg' : Int64} {r0 : UInt32} (vb : SB y bytes n ret np) (kl : Kw (.methodLink own idx y)) (hM : Met l y [.code y bytes n ret] (Rm fr lo) (va_Pc As (Wd E σ μ dg)) (Qf E σ' μ' dg' r0) 0 0 (eP E)) (hst : st0 = As.reverse ++ rest) (hdg : decode cc pc = .ok (.invokestatic idx, 3)) (hnp : As.length = np) (hsz : ls.size = nL) (hroom : (rest.map fun v => v.category).sum ≤ 8) (hR : fr + 1 ≤ R.frames ∧ 8 + (n + 11) + lo ≤ R.locals) (hcs : cells ≤ R.cells ∧ slots ≤ R.slots)
    (kk : ∀ (H' : Heap) (locs' : List Loc), Wk E σ' μ' dg' s H' locs' → W p l e R s m args below meth c H' locs' cells slots Q (F0 m (pc + 3) ls (.float r0 :: rest))) : W p l e R s m args below meth c H locs cells slots Q (F0 m pc ls st0) := by
  subst hst
  exact va_callf (va_runS (Ts := []) (own := own) (rest := rest) ⟨hx, hb, hml, hown, fun _ h => nomatch h⟩ hM (ss_cwS hK.2.1 vb kl hR) (ss_preS hK hW) rfl hnp hsz rfl (lv_room hroom) hdg hcs) hW.2 (fun _ _ h => h) (fun _ h => h) (fun _ _ t H1 locs1 ht _ hr hB _ _ hS => by
    subst hr
    exact kk H1 locs1 ⟨by rw [← ht]; exact hB, hS⟩)
theorem ss_callVd (hx : p.tables.exec = Jvm.exec) (hb : c.code = cc) {nL : Nat} (hml : c.maxLocals = nL) {own : String} (hown : s.vm.findClass own = some m.cls) (hK : Ks E s) (hW : Wk E σ μ dg s H locs) {y : MethodName} {bytes : ByteArray} {n np idx : Nat} {ret : Option FieldType} {fr lo : Nat} {As : List Value} {st0 : List Value} {σ' μ' : Sg} {dg' : Int64} {r0 : UInt64} {q ci : Nat} {fs : List Value} {T : u_T} {N : Nat} (vb : VB y bytes n ret np) (kl : Kw (.methodLink own idx y)) (hc : vwCl[ci]? = some (y.cls, T, N)) (hq : q < 103) (he : cellOf E σ μ dg q = .inr (ci, fs)) (hM : Met l y [.code y bytes n ret] (Rm fr lo) (va_Pc (.ref (eA E q) :: As) (Wd E σ μ dg)) (Qd E σ' μ' dg' r0) 0 0 (eP E)) (hst : st0 = As.reverse ++ .ref (eA E q) :: rest) (hdg : decode cc pc = .ok (.invokevirtual idx, 3)) (hnp : As.length = np) (hsz : ls.size = nL) (hroom : (rest.map fun v => v.category).sum ≤ 8) (hR : fr + 1 ≤ R.frames ∧ 8 + (n + 11) + lo ≤ R.locals) (hcs : cells ≤ R.cells ∧ slots ≤ R.slots)
    (kk : ∀ (H' : Heap) (locs' : List Loc), Wk E σ' μ' dg' s H' locs' → W p l e R s m args below meth c H' locs' cells slots Q (F0 m (pc + 3) ls (.double r0 :: rest))) : W p l e R s m args below meth c H locs cells slots Q (F0 m pc ls st0) := by
  subst hst
  exact va_calld (va_runV (Ts := []) (own := own) (rest := rest) ⟨hx, hb, hml, hown, fun _ h => nomatch h⟩ hM (ss_cwV hK.2.1 vb kl hR) (ss_preV hK hW hc hq he) rfl hnp hsz rfl (lv_room hroom) hdg hcs) hW.2 (fun _ _ h => h) (fun _ h => h) (fun _ _ t H1 locs1 ht _ hr hB _ _ hS => by
    subst hr
    exact kk H1 locs1 ⟨by rw [← ht]; exact hB, hS⟩)
theorem ss_callSd (hx : p.tables.exec = Jvm.exec) (hb : c.code = cc) {nL : Nat} (hml : c.maxLocals = nL) {own : String} (hown : s.vm.findClass own = some m.cls) (hK : Ks E s) (hW : Wk E σ μ dg s H locs) {y : MethodName} {bytes : ByteArray} {n np idx : Nat} {ret : Option FieldType} {fr lo : Nat} {As : List Value} {st0 : List Value} {σ' μ' : Sg} {dg' : Int64} {r0 : UInt64} (vb : SB y bytes n ret np) (kl : Kw (.methodLink own idx y)) (hM : Met l y [.code y bytes n ret] (Rm fr lo) (va_Pc As (Wd E σ μ dg)) (Qd E σ' μ' dg' r0) 0 0 (eP E)) (hst : st0 = As.reverse ++ rest) (hdg : decode cc pc = .ok (.invokestatic idx, 3)) (hnp : As.length = np) (hsz : ls.size = nL) (hroom : (rest.map fun v => v.category).sum ≤ 8) (hR : fr + 1 ≤ R.frames ∧ 8 + (n + 11) + lo ≤ R.locals) (hcs : cells ≤ R.cells ∧ slots ≤ R.slots)
    (kk : ∀ (H' : Heap) (locs' : List Loc), Wk E σ' μ' dg' s H' locs' → W p l e R s m args below meth c H' locs' cells slots Q (F0 m (pc + 3) ls (.double r0 :: rest))) : W p l e R s m args below meth c H locs cells slots Q (F0 m pc ls st0) := by
  subst hst
  exact va_calld (va_runS (Ts := []) (own := own) (rest := rest) ⟨hx, hb, hml, hown, fun _ h => nomatch h⟩ hM (ss_cwS hK.2.1 vb kl hR) (ss_preS hK hW) rfl hnp hsz rfl (lv_room hroom) hdg hcs) hW.2 (fun _ _ h => h) (fun _ h => h) (fun _ _ t H1 locs1 ht _ hr hB _ _ hS => by
    subst hr
    exact kk H1 locs1 ⟨by rw [← ht]; exact hB, hS⟩)
theorem ss_callVv (hx : p.tables.exec = Jvm.exec) (hb : c.code = cc) {nL : Nat} (hml : c.maxLocals = nL) {own : String} (hown : s.vm.findClass own = some m.cls) (hK : Ks E s) (hW : Wk E σ μ dg s H locs) {y : MethodName} {bytes : ByteArray} {n np idx : Nat} {ret : Option FieldType} {fr lo : Nat} {As : List Value} {st0 : List Value} {σ' μ' : Sg} {dg' : Int64} {q ci : Nat} {fs : List Value} {T : u_T} {N : Nat} (vb : VB y bytes n ret np) (kl : Kw (.methodLink own idx y)) (hc : vwCl[ci]? = some (y.cls, T, N)) (hq : q < 103) (he : cellOf E σ μ dg q = .inr (ci, fs)) (hM : Met l y [.code y bytes n ret] (Rm fr lo) (va_Pc (.ref (eA E q) :: As) (Wd E σ μ dg)) (Qv E σ' μ' dg') 0 0 (eP E)) (hst : st0 = As.reverse ++ .ref (eA E q) :: rest) (hdg : decode cc pc = .ok (.invokevirtual idx, 3)) (hnp : As.length = np) (hsz : ls.size = nL) (hroom : (rest.map fun v => v.category).sum ≤ 8) (hR : fr + 1 ≤ R.frames ∧ 8 + (n + 11) + lo ≤ R.locals) (hcs : cells ≤ R.cells ∧ slots ≤ R.slots)
    (kk : ∀ (H' : Heap) (locs' : List Loc), Wk E σ' μ' dg' s H' locs' → W p l e R s m args below meth c H' locs' cells slots Q (F0 m (pc + 3) ls rest)) : W p l e R s m args below meth c H locs cells slots Q (F0 m pc ls st0) := by
  subst hst
  exact va_callv (va_runV (Ts := []) (own := own) (rest := rest) ⟨hx, hb, hml, hown, fun _ h => nomatch h⟩ hM (ss_cwV hK.2.1 vb kl hR) (ss_preV hK hW hc hq he) rfl hnp hsz rfl (lv_room hroom) hdg hcs) hW.2 (fun _ _ h => h) (fun _ h => h) (fun _ t H1 locs1 ht _ _ hB _ _ hS => kk H1 locs1 ⟨by rw [← ht]; exact hB, hS⟩)
theorem ss_callSv (hx : p.tables.exec = Jvm.exec) (hb : c.code = cc) {nL : Nat} (hml : c.maxLocals = nL) {own : String} (hown : s.vm.findClass own = some m.cls) (hK : Ks E s) (hW : Wk E σ μ dg s H locs) {y : MethodName} {bytes : ByteArray} {n np idx : Nat} {ret : Option FieldType} {fr lo : Nat} {As : List Value} {st0 : List Value} {σ' μ' : Sg} {dg' : Int64} (vb : SB y bytes n ret np) (kl : Kw (.methodLink own idx y)) (hM : Met l y [.code y bytes n ret] (Rm fr lo) (va_Pc As (Wd E σ μ dg)) (Qv E σ' μ' dg') 0 0 (eP E)) (hst : st0 = As.reverse ++ rest) (hdg : decode cc pc = .ok (.invokestatic idx, 3)) (hnp : As.length = np) (hsz : ls.size = nL) (hroom : (rest.map fun v => v.category).sum ≤ 8) (hR : fr + 1 ≤ R.frames ∧ 8 + (n + 11) + lo ≤ R.locals) (hcs : cells ≤ R.cells ∧ slots ≤ R.slots)
    (kk : ∀ (H' : Heap) (locs' : List Loc), Wk E σ' μ' dg' s H' locs' → W p l e R s m args below meth c H' locs' cells slots Q (F0 m (pc + 3) ls rest)) : W p l e R s m args below meth c H locs cells slots Q (F0 m pc ls st0) := by
  subst hst
  exact va_callv (va_runS (Ts := []) (own := own) (rest := rest) ⟨hx, hb, hml, hown, fun _ h => nomatch h⟩ hM (ss_cwS hK.2.1 vb kl hR) (ss_preS hK hW) rfl hnp hsz rfl (lv_room hroom) hdg hcs) hW.2 (fun _ _ h => h) (fun _ h => h) (fun _ t H1 locs1 ht _ _ hB _ _ hS => kk H1 locs1 ⟨by rw [← ht]; exact hB, hS⟩)
theorem ss_callNv (hx : p.tables.exec = Jvm.exec) (hb : c.code = cc) {nL : Nat} (hml : c.maxLocals = nL) {own : String} (hown : s.vm.findClass own = some m.cls) (hK : Ks E s) (hW : Wk E σ μ dg s H locs) {y : MethodName} {bytes : ByteArray} {n np idx : Nat} {ret : Option FieldType} {fr lo : Nat} {As : List Value} {st0 : List Value} {σ' μ' : Sg} {dg' : Int64} {host : String} (vb : SB y bytes n ret np) (kl : va_Nw (.methodLinkNest own idx y host) s) (hM : Met l y [.code y bytes n ret] (Rm fr lo) (va_Pc As (Wd E σ μ dg)) (Qv E σ' μ' dg') 0 0 (eP E)) (hst : st0 = As.reverse ++ rest) (hdg : decode cc pc = .ok (.invokestatic idx, 3)) (hnp : As.length = np) (hsz : ls.size = nL) (hroom : (rest.map fun v => v.category).sum ≤ 8) (hR : fr + 1 ≤ R.frames ∧ 8 + (n + 11) + lo ≤ R.locals) (hcs : cells ≤ R.cells ∧ slots ≤ R.slots)
    (kk : ∀ (H' : Heap) (locs' : List Loc), Wk E σ' μ' dg' s H' locs' → W p l e R s m args below meth c H' locs' cells slots Q (F0 m (pc + 3) ls rest)) : W p l e R s m args below meth c H locs cells slots Q (F0 m pc ls st0) := by
  subst hst
  exact va_callv (va_runSN (Ts := []) (own := own) (rest := rest) ⟨hx, hb, hml, hown, fun _ h => nomatch h⟩ hM (ss_cwN hK.2.1 vb kl hR) (ss_preS hK hW) rfl hnp hsz rfl (lv_room hroom) hdg hcs) hW.2 (fun _ _ h => h) (fun _ h => h) (fun _ t H1 locs1 ht _ _ hB _ _ hS => kk H1 locs1 ⟨by rw [← ht]; exact hB, hS⟩)
theorem ss_iret (hx : p.tables.exec = Jvm.exec) (hb : c.code = cc) (hr : meth.sig.returnType = some .int) (hlk : meth.locks = false) (hW : Wk E σ μ dg s H locs) {r0 r1 : Int32} (h01 : r1 = r0) (hdg : decode cc pc = .ok (.ireturn, 1)) : W p l e R s m args below meth c H locs 0 0 (MQ below (Qi E σ μ dg r0) args s 0 0 (eP E)) (F0 m pc ls [.int r1]) :=
  W.iret hx hb hr (fun t ht _ => ⟨⟨r1, (), rfl, h01, by show va_P _ _ _ t.heap; rw [ht]; exact hW.1⟩, hW.2.F ht⟩) hW.2.2.2 hdg hlk
theorem ss_lret (hx : p.tables.exec = Jvm.exec) (hb : c.code = cc) (hr : meth.sig.returnType = some .long) (hlk : meth.locks = false) (hW : Wk E σ μ dg s H locs) {r0 r1 : Int64} (h01 : r1 = r0) (hdg : decode cc pc = .ok (.lreturn, 1)) : W p l e R s m args below meth c H locs 0 0 (MQ below (Ql E σ μ dg r0) args s 0 0 (eP E)) (F0 m pc ls [.long r1]) :=
  W.lret hx hb hr (fun t ht _ => ⟨⟨r1, (), rfl, h01, by show va_P _ _ _ t.heap; rw [ht]; exact hW.1⟩, hW.2.F ht⟩) hW.2.2.2 hdg hlk
theorem ss_fret (hx : p.tables.exec = Jvm.exec) (hb : c.code = cc) (hr : meth.sig.returnType = some .float) (hlk : meth.locks = false) (hW : Wk E σ μ dg s H locs) {r0 r1 : UInt32} (h01 : r1 = r0) (hdg : decode cc pc = .ok (.freturn, 1)) : W p l e R s m args below meth c H locs 0 0 (MQ below (Qf E σ μ dg r0) args s 0 0 (eP E)) (F0 m pc ls [.float r1]) :=
  W.fret hx hb hr (fun t ht _ => ⟨⟨r1, (), rfl, h01, by show va_P _ _ _ t.heap; rw [ht]; exact hW.1⟩, hW.2.F ht⟩) hW.2.2.2 hdg hlk
theorem ss_dret (hx : p.tables.exec = Jvm.exec) (hb : c.code = cc) (hr : meth.sig.returnType = some .double) (hlk : meth.locks = false) (hW : Wk E σ μ dg s H locs) {r0 r1 : UInt64} (h01 : r1 = r0) (hdg : decode cc pc = .ok (.dreturn, 1)) : W p l e R s m args below meth c H locs 0 0 (MQ below (Qd E σ μ dg r0) args s 0 0 (eP E)) (F0 m pc ls [.double r1]) :=
  W.dret hx hb hr (fun t ht _ => ⟨⟨r1, (), rfl, h01, by show va_P _ _ _ t.heap; rw [ht]; exact hW.1⟩, hW.2.F ht⟩) hW.2.2.2 hdg hlk
theorem ss_zret (hx : p.tables.exec = Jvm.exec) (hb : c.code = cc) (hr : meth.sig.returnType = some .boolean) (hlk : meth.locks = false) (hW : Wk E σ μ dg s H locs) {r0 r1 : Int32} (h01 : r1 = r0) (hn : narrow .boolean (.int r1) = .int r1) (hdg : decode cc pc = .ok (.ireturn, 1)) : W p l e R s m args below meth c H locs 0 0 (MQ below (Qi E σ μ dg r0) args s 0 0 (eP E)) (F0 m pc ls [.int r1]) :=
  W.zret hx hb hr hn (fun t ht _ => ⟨⟨r1, (), rfl, h01, by show va_P _ _ _ t.heap; rw [ht]; exact hW.1⟩, hW.2.F ht⟩) hW.2.2.2 hdg hlk
theorem ss_vret (hx : p.tables.exec = Jvm.exec) (hb : c.code = cc) (hr : meth.sig.returnType = none) (hlk : meth.locks = false) (hW : Wk E σ μ dg s H locs) (hdg : decode cc pc = .ok (.return_, 1)) : W p l e R s m args below meth c H locs 0 0 (MQ below (Qv E σ μ dg) args s 0 0 (eP E)) (F0 m pc ls []) :=
  W.vret hx hb hr (fun t ht _ => ⟨⟨(), rfl, trivial, by show va_P _ _ _ t.heap; rw [ht]; exact hW.1⟩, hW.2.F ht⟩) hW.2.2.2 hdg hlk
theorem ss_max (hx : p.tables.exec = Jvm.exec) (hb : c.code = cc) {nL : Nat} (hml : c.maxLocals = nL) (hsz : ls.size = nL) {own : String} (hown : s.vm.findClass own = some m.cls) (hK : Ks E s) {idx : Nat} (kl : Kw (.methodLink own idx Lib.Math.max.name)) (k1 : Kw (.static Lib.Math.max.name)) (k2 : Kw (.initialized "java/lang/Math")) (k3 : Kw (.code Lib.Math.max.name Lib.Math.max.code 2 (some .int))) (hR : 1 ≤ R.frames ∧ (rest.map fun v => v.category).sum + 13 ≤ R.locals) (hcs : cells ≤ R.cells ∧ slots ≤ R.slots) {x y : Int32} (hdg : decode cc pc = .ok (.invokestatic idx, 3))
    (kk : W p l e R s m args below meth c H locs cells slots Q (F0 m (pc + 3) ls (.int (if x < y then y else x) :: rest))) : W p l e R s m args below meth c H locs cells slots Q (F0 m pc ls (.int y :: .int x :: rest)) :=
  va_mmax hx hb (hml.trans hsz.symm) hown (hK.2.1.at kl args) (hK.2.1.at k1 args) (hK.2.1.at k2 args) (hK.2.1.at k3 args) hR.1 hR.2 hcs.1 hcs.2 hdg kk
theorem ss_min (hx : p.tables.exec = Jvm.exec) (hb : c.code = cc) {nL : Nat} (hml : c.maxLocals = nL) (hsz : ls.size = nL) {own : String} (hown : s.vm.findClass own = some m.cls) (hK : Ks E s) {idx : Nat} (kl : Kw (.methodLink own idx Lib.Math.min.name)) (k1 : Kw (.static Lib.Math.min.name)) (k2 : Kw (.initialized "java/lang/Math")) (k3 : Kw (.code Lib.Math.min.name Lib.Math.min.code 2 (some .int))) (hR : 1 ≤ R.frames ∧ (rest.map fun v => v.category).sum + 13 ≤ R.locals) (hcs : cells ≤ R.cells ∧ slots ≤ R.slots) {x y : Int32} (hdg : decode cc pc = .ok (.invokestatic idx, 3))
    (kk : W p l e R s m args below meth c H locs cells slots Q (F0 m (pc + 3) ls (.int (if y < x then y else x) :: rest))) : W p l e R s m args below meth c H locs cells slots Q (F0 m pc ls (.int y :: .int x :: rest)) :=
  va_mmin hx hb (hml.trans hsz.symm) hown (hK.2.1.at kl args) (hK.2.1.at k1 args) (hK.2.1.at k2 args) (hK.2.1.at k3 args) hR.1 hR.2 hcs.1 hcs.2 hdg kk
theorem ss_abs (hx : p.tables.exec = Jvm.exec) (hb : c.code = cc) {nL : Nat} (hml : c.maxLocals = nL) (hsz : ls.size = nL) {own : String} (hown : s.vm.findClass own = some m.cls) (hK : Ks E s) {idx : Nat} (kl : Kw (.methodLink own idx Lib.Math.abs.name)) (k1 : Kw (.static Lib.Math.abs.name)) (k2 : Kw (.initialized "java/lang/Math")) (k3 : Kw (.code Lib.Math.abs.name Lib.Math.abs.code 1 (some .int))) (hR : 1 ≤ R.frames ∧ (rest.map fun v => v.category).sum + 13 ≤ R.locals) (hcs : cells ≤ R.cells ∧ slots ≤ R.slots) {x : Int32} (hdg : decode cc pc = .ok (.invokestatic idx, 3))
    (kk : W p l e R s m args below meth c H locs cells slots Q (F0 m (pc + 3) ls (.int (if 0 ≤ x then x else 0 - x) :: rest))) : W p l e R s m args below meth c H locs cells slots Q (F0 m pc ls (.int x :: rest)) :=
  va_mabs hx hb (hml.trans hsz.symm) hown (hK.2.1.at kl args) (hK.2.1.at k1 args) (hK.2.1.at k2 args) (hK.2.1.at k3 args) hR.1 hR.2 hcs.1 hcs.2 hdg kk
end SSC
end
section
/-! methods that may throw -/
def mxI (x y : Int32) : Int32 := if x < y then y else x
def mnI (x y : Int32) : Int32 := if y < x then y else x
def abI (x : Int32) : Int32 := if 0 ≤ x then x else 0 - x
def bd2 {α β γ : Type} (x : Option (α × β)) (k : α → β → Option γ) : Option γ := match x with
  | some (a, b) => k a b
  | none => none
theorem bd2_inv {α β γ : Type} {x : Option (α × β)} {k : α → β → Option γ} {r : γ} (h : bd2 x k = some r) : ∃ a b, x = some (a, b) ∧ k a b = some r := by
  match x, h with
  | some (a, b), h => exact ⟨a, b, rfl, h⟩
def bd3 {α β δ γ : Type} (x : Option (α × β × δ)) (k : α → β → δ → Option γ) : Option γ := match x with
  | some (a, b, d) => k a b d
  | none => none
theorem bd3_inv {α β δ γ : Type} {x : Option (α × β × δ)} {k : α → β → δ → Option γ} {r : γ} (h : bd3 x k = some r) : ∃ a b d, x = some (a, b, d) ∧ k a b d = some r := by
  match x, h with
  | some (a, b, d), h => exact ⟨a, b, d, rfl, h⟩
theorem zb_n {v : Int32} (h : v = 0 ∨ v = 1) : narrow .boolean (.int v) = .int v := by
  rcases h with rfl | rfl <;> rfl
theorem zb_f {v : Int32} (h : v = 0 ∨ v = 1) : fits .boolean (.int v) = true := by
  rcases h with rfl | rfl <;> rfl
theorem zb_v {v : Int32} (h : v = 0 ∨ v = 1) : vp_nar .boolean v = v := by
  rcases h with rfl | rfl <;> rfl
theorem sw_ne {x k : Int32} {n : Int} (h : ¬ x = k) (hk : k.toInt = n) : x.toInt ≠ n := fun e => h (Int32.toInt_inj.mp (e.trans hk.symm))
abbrev Qxi (E : En) (σ μ : Sg) (dg : Int64) (res : Int32 ⊕ Nat) : Array Value → State → Outcome → State → Prop := va_Qi (fun r (_ : Unit) => res = .inl r) (fun _ t => Wp E σ μ dg t) (eP E)
abbrev Qxv (E : En) (σ μ : Sg) (dg : Int64) (res : Unit ⊕ Nat) : Array Value → State → Outcome → State → Prop := va_Qv (fun (_ : Unit) => res = .inl ()) (fun _ t => Wp E σ μ dg t) (eP E)
abbrev Xx {α : Type} (E : En) (σ μ : Sg) (dg : Int64) (res : α ⊕ Nat) : String → State → State → Prop := vx_X (fun (_ : Unit) => True) (fun nm _ t => (∃ k, res = .inr k ∧ nm = exN k) ∧ Wp E σ μ dg t) (eP E)
theorem ss_ofX {α : Type} {res : α ⊕ Nat} {E : En} {σ μ : Sg} {dg : Int64} {l : Launch} {y : MethodName} {cc : ByteArray} {n fr lo : Nat} {ret : Option FieldType} {av : List Value} {Qc : Array Value → State → Outcome → State → Prop} {XC : String → State → State → Prop} {mc ms : Nat} {free : Addr → Prop} (hy : plainName y.cls = true) (hn : (lg_sl av).length ≤ n)
    (body : ∀ (p : Program) (e : Env) (s : State) (m : MethodId) (below : List Frame) (meth : Method) (c : Code), p.tables.exec = Jvm.exec → c.code = cc → meth.sig.returnType = ret → meth.locks = false → c.maxLocals = n → s.vm.findClass y.cls = some m.cls → (∀ x ∈ c.exceptionTable.toList, False) → Ks E s → Wk E σ μ dg s s.heap [] →
      ∀ ls : Array Slot, lv_has ls n (lv_args 0 av) → W p l e (RmX res fr lo) s m av.toArray below meth c s.heap [] 0 0 (vx_MQ below Qc XC av.toArray s mc ms free) (F0 m 0 ls [])) : vx_Met l y [.code y cc n ret] (RmX res fr lo) (va_Pc av (Wd E σ μ dg)) Qc XC mc ms free := by
  refine vx_ofW (cc := cc) (maxL := n) (ret := ret) hy rfl ?_
  intro p e s m args below meth c s₁ B hml hex hv
  obtain ⟨rfl, hK, hP⟩ := hv
  rw [lg_entry_eq]
  exact body p e s m below meth c B.exec B.bytes B.returns B.notSynchronized hml (findClass_of_methodNamed B.named) hex hK ⟨hP, va_S.rf⟩ _ (lv_entry av hn)
section SSX
variable {p : Program} {l : Launch} {e : Env} {R : Room} {s : State} {m : MethodId} {args : Array Value} {below : List Frame} {meth : Method} {c : Code} {H : Heap} {locs : List Loc} {cells slots : Nat} {Q : State → Prop}
variable {cc : ByteArray} {pc : Nat} {ls : Array Slot} {rest : List Value} {E : En} {σ μ : Sg} {dg : Int64}
theorem ss_xcwV {α : Type} {res : α ⊕ Nat} {y : MethodName} {bytes : ByteArray} {n np idx fr lo : Nat} {ret : Option FieldType} {own : String} (hT : Tb s) (vb : VB y bytes n ret np) (kl : Kw (.methodLink own idx y)) (hR : fr + 1 ≤ R.frames ∧ 8 + (n + 11) + lo ≤ R.locals) : CallW R s args own y.cls idx y bytes n ret [.code y bytes n ret] (RmX res fr lo) (xc res) (xs6 res) np :=
  ss_cwV (rm := RmX res fr lo) hT vb kl hR
/-- a call that is known to return -/
theorem ss_xcallVi (hx : p.tables.exec = Jvm.exec) (hb : c.code = cc) {nL : Nat} (hml : c.maxLocals = nL) {own : String} (hown : s.vm.findClass own = some m.cls) (hK : Ks E s) (hW : Wk E σ μ dg s H locs) {y : MethodName} {bytes : ByteArray} {n np idx : Nat} {ret : Option FieldType} {fr lo : Nat} {As : List Value} {st0 : List Value} {σ' μ' : Sg} {dg' : Int64} {r0 : Int32} {q ci : Nat} {fs : List Value} {T : u_T} {N : Nat} (vb : VB y bytes n ret np) (kl : Kw (.methodLink own idx y)) (hc : vwCl[ci]? = some (y.cls, T, N)) (hq : q < 103) (he : cellOf E σ μ dg q = .inr (ci, fs))
    (hM : vx_Met l y [.code y bytes n ret] (RmX (.inl r0 : Int32 ⊕ Nat) fr lo) (va_Pc (.ref (eA E q) :: As) (Wd E σ μ dg)) (Qxi E σ' μ' dg' (.inl r0)) (Xx E σ' μ' dg' (.inl r0 : Int32 ⊕ Nat)) (xc (.inl r0 : Int32 ⊕ Nat)) (xs6 (.inl r0 : Int32 ⊕ Nat)) (eP E)) (hst : st0 = As.reverse ++ .ref (eA E q) :: rest) (hdg : decode cc pc = .ok (.invokevirtual idx, 3)) (hnp : As.length = np) (hsz : ls.size = nL) (hroom : (rest.map fun v => v.category).sum ≤ 8) (hR : fr + 1 ≤ R.frames ∧ 8 + (n + 11) + lo ≤ R.locals) (hcs : cells ≤ R.cells ∧ slots ≤ R.slots)
    (kk : ∀ (H' : Heap) (locs' : List Loc), Wk E σ' μ' dg' s H' locs' → W p l e R s m args below meth c H' locs' cells slots Q (F0 m (pc + 3) ls (.int r0 :: rest))) : W p l e R s m args below meth c H locs cells slots Q (F0 m pc ls st0) := by
  subst hst
  exact vx_calli (vx_runV (Ts := []) (own := own) (rest := rest) ⟨hx, hb, hml, hown, fun _ h => nomatch h⟩ hM (ss_xcwV hK.2.1 vb kl hR) (ss_preV hK hW hc hq he) rfl hnp hsz rfl (lv_room hroom) hdg hcs) hW.2 (fun _ _ h => h) (fun _ h => h) (fun _ _ h => h)
    (fun _ _ _ _ _ _ _ _ _ _ hB => by obtain ⟨⟨k, hk, -⟩, -⟩ := hB; cases hk)
    (fun r _ t H1 locs1 ht _ hr hB _ _ hS => by
      cases hr
      exact kk H1 locs1 ⟨by rw [← ht]; exact hB, hS⟩)
theorem ss_xcallVv (hx : p.tables.exec = Jvm.exec) (hb : c.code = cc) {nL : Nat} (hml : c.maxLocals = nL) {own : String} (hown : s.vm.findClass own = some m.cls) (hK : Ks E s) (hW : Wk E σ μ dg s H locs) {y : MethodName} {bytes : ByteArray} {n np idx : Nat} {ret : Option FieldType} {fr lo : Nat} {As : List Value} {st0 : List Value} {σ' μ' : Sg} {dg' : Int64} {r0 : Unit} {q ci : Nat} {fs : List Value} {T : u_T} {N : Nat} (vb : VB y bytes n ret np) (kl : Kw (.methodLink own idx y)) (hc : vwCl[ci]? = some (y.cls, T, N)) (hq : q < 103) (he : cellOf E σ μ dg q = .inr (ci, fs))
    (hM : vx_Met l y [.code y bytes n ret] (RmX (.inl r0 : Unit ⊕ Nat) fr lo) (va_Pc (.ref (eA E q) :: As) (Wd E σ μ dg)) (Qxv E σ' μ' dg' (.inl r0)) (Xx E σ' μ' dg' (.inl r0 : Unit ⊕ Nat)) (xc (.inl r0 : Unit ⊕ Nat)) (xs6 (.inl r0 : Unit ⊕ Nat)) (eP E)) (hst : st0 = As.reverse ++ .ref (eA E q) :: rest) (hdg : decode cc pc = .ok (.invokevirtual idx, 3)) (hnp : As.length = np) (hsz : ls.size = nL) (hroom : (rest.map fun v => v.category).sum ≤ 8) (hR : fr + 1 ≤ R.frames ∧ 8 + (n + 11) + lo ≤ R.locals) (hcs : cells ≤ R.cells ∧ slots ≤ R.slots)
    (kk : ∀ (H' : Heap) (locs' : List Loc), Wk E σ' μ' dg' s H' locs' → W p l e R s m args below meth c H' locs' cells slots Q (F0 m (pc + 3) ls rest)) : W p l e R s m args below meth c H locs cells slots Q (F0 m pc ls st0) := by
  subst hst
  exact vx_callv (vx_runV (Ts := []) (own := own) (rest := rest) ⟨hx, hb, hml, hown, fun _ h => nomatch h⟩ hM (ss_xcwV hK.2.1 vb kl hR) (ss_preV hK hW hc hq he) rfl hnp hsz rfl (lv_room hroom) hdg hcs) hW.2 (fun _ _ h => h) (fun _ h => h) (fun _ _ h => h)
    (fun _ _ _ _ _ _ _ _ _ _ hB => by obtain ⟨⟨k, hk, -⟩, -⟩ := hB; cases hk)
    (fun _ t H1 locs1 ht _ _ hB _ _ hS => kk H1 locs1 ⟨by rw [← ht]; exact hB, hS⟩)
/-- a call that is known to throw, not caught here -/
theorem ss_xthrVi {β : Type} {Qc : Array Value → State → Outcome → State → Prop} (hx : p.tables.exec = Jvm.exec) (hb : c.code = cc) (hlk : meth.locks = false) (hex : ∀ x ∈ c.exceptionTable.toList, False) {nL : Nat} (hml : c.maxLocals = nL) {own : String} (hown : s.vm.findClass own = some m.cls) (hK : Ks E s) (hW : Wk E σ μ dg s H locs) {y : MethodName} {bytes : ByteArray} {n np idx : Nat} {ret : Option FieldType} {fr lo : Nat} {As : List Value} {st0 : List Value} {σ' μ' : Sg} {dg' : Int64} {k0 : Nat} {q ci : Nat} {fs : List Value} {T : u_T} {N : Nat} (vb : VB y bytes n ret np) (kl : Kw (.methodLink own idx y)) (hc : vwCl[ci]? = some (y.cls, T, N)) (hq : q < 103) (he : cellOf E σ μ dg q = .inr (ci, fs))
    (hM : vx_Met l y [.code y bytes n ret] (RmX (.inr k0 : Int32 ⊕ Nat) fr lo) (va_Pc (.ref (eA E q) :: As) (Wd E σ μ dg)) (Qxi E σ' μ' dg' (.inr k0)) (Xx E σ' μ' dg' (.inr k0 : Int32 ⊕ Nat)) (xc (.inr k0 : Int32 ⊕ Nat)) (xs6 (.inr k0 : Int32 ⊕ Nat)) (eP E)) (hst : st0 = As.reverse ++ .ref (eA E q) :: rest) (hdg : decode cc pc = .ok (.invokevirtual idx, 3)) (hnp : As.length = np) (hsz : ls.size = nL) (hroom : (rest.map fun v => v.category).sum ≤ 8) (hR : fr + 1 ≤ R.frames ∧ 8 + (n + 11) + lo ≤ R.locals) (hcs : 1 ≤ R.cells ∧ 6 ≤ R.slots) :
    W p l e R s m args below meth c H locs 0 0 (vx_MQ below Qc (Xx E σ' μ' dg' (.inr k0 : β ⊕ Nat)) args s (xc (.inr k0 : β ⊕ Nat)) (xs6 (.inr k0 : β ⊕ Nat)) (eP E)) (F0 m pc ls st0) := by
  subst hst
  exact vx_calli (vx_runV (Ts := []) (own := own) (rest := rest) ⟨hx, hb, hml, hown, fun _ h => nomatch h⟩ hM (ss_xcwV hK.2.1 vb kl hR) (ss_preV hK hW hc hq he) rfl hnp hsz rfl (lv_room hroom) hdg hcs) hW.2 (fun _ _ h => h) (fun _ h => h) (fun _ _ h => h)
    (fun nm ce q9 _ t H1 locs1 ht _ _ hB _ _ hS hce hcv hcl => vx_out (E := nm) (fun x hx => (hex x hx).elim) hlk hce hcv hcl (fun t2 ht2 _ => ⟨(), trivial, ⟨by obtain ⟨⟨k, hk, e⟩, -⟩ := hB; cases hk; exact ⟨_, rfl, e⟩, by show va_P _ _ _ t2.heap; rw [ht2, ← ht]; exact hB.2⟩, hS.F ht2⟩) hS.2.2 (Nat.le_refl _) (Nat.le_refl _))
    (fun r _ t H1 locs1 ht _ hr hB _ _ hS => nomatch hr)
theorem ss_xthrVv {β : Type} {Qc : Array Value → State → Outcome → State → Prop} (hx : p.tables.exec = Jvm.exec) (hb : c.code = cc) (hlk : meth.locks = false) (hex : ∀ x ∈ c.exceptionTable.toList, False) {nL : Nat} (hml : c.maxLocals = nL) {own : String} (hown : s.vm.findClass own = some m.cls) (hK : Ks E s) (hW : Wk E σ μ dg s H locs) {y : MethodName} {bytes : ByteArray} {n np idx : Nat} {ret : Option FieldType} {fr lo : Nat} {As : List Value} {st0 : List Value} {σ' μ' : Sg} {dg' : Int64} {k0 : Nat} {q ci : Nat} {fs : List Value} {T : u_T} {N : Nat} (vb : VB y bytes n ret np) (kl : Kw (.methodLink own idx y)) (hc : vwCl[ci]? = some (y.cls, T, N)) (hq : q < 103) (he : cellOf E σ μ dg q = .inr (ci, fs))
    (hM : vx_Met l y [.code y bytes n ret] (RmX (.inr k0 : Unit ⊕ Nat) fr lo) (va_Pc (.ref (eA E q) :: As) (Wd E σ μ dg)) (Qxv E σ' μ' dg' (.inr k0)) (Xx E σ' μ' dg' (.inr k0 : Unit ⊕ Nat)) (xc (.inr k0 : Unit ⊕ Nat)) (xs6 (.inr k0 : Unit ⊕ Nat)) (eP E)) (hst : st0 = As.reverse ++ .ref (eA E q) :: rest) (hdg : decode cc pc = .ok (.invokevirtual idx, 3)) (hnp : As.length = np) (hsz : ls.size = nL) (hroom : (rest.map fun v => v.category).sum ≤ 8) (hR : fr + 1 ≤ R.frames ∧ 8 + (n + 11) + lo ≤ R.locals) (hcs : 1 ≤ R.cells ∧ 6 ≤ R.slots) :
    W p l e R s m args below meth c H locs 0 0 (vx_MQ below Qc (Xx E σ' μ' dg' (.inr k0 : β ⊕ Nat)) args s (xc (.inr k0 : β ⊕ Nat)) (xs6 (.inr k0 : β ⊕ Nat)) (eP E)) (F0 m pc ls st0) := by
  subst hst
  exact vx_callv (vx_runV (Ts := []) (own := own) (rest := rest) ⟨hx, hb, hml, hown, fun _ h => nomatch h⟩ hM (ss_xcwV hK.2.1 vb kl hR) (ss_preV hK hW hc hq he) rfl hnp hsz rfl (lv_room hroom) hdg hcs) hW.2 (fun _ _ h => h) (fun _ h => h) (fun _ _ h => h)
    (fun nm ce q9 _ t H1 locs1 ht _ _ hB _ _ hS hce hcv hcl => vx_out (E := nm) (fun x hx => (hex x hx).elim) hlk hce hcv hcl (fun t2 ht2 _ => ⟨(), trivial, ⟨by obtain ⟨⟨k, hk, e⟩, -⟩ := hB; cases hk; exact ⟨_, rfl, e⟩, by show va_P _ _ _ t2.heap; rw [ht2, ← ht]; exact hB.2⟩, hS.F ht2⟩) hS.2.2 (Nat.le_refl _) (Nat.le_refl _))
    (fun _ t H1 locs1 ht _ hr hB _ _ hS => nomatch hr)
theorem ss_ixret {XC : String → State → State → Prop} (hx : p.tables.exec = Jvm.exec) (hb : c.code = cc) (hr : meth.sig.returnType = some .int) (hlk : meth.locks = false) (hW : Wk E σ μ dg s H locs) {r1 : Int32} (hdg : decode cc pc = .ok (.ireturn, 1)) : W p l e R s m args below meth c H locs 0 0 (vx_MQ below (Qxi E σ μ dg (.inl r1)) XC args s (xc (.inl r1 : Int32 ⊕ Nat)) (xs6 (.inl r1 : Int32 ⊕ Nat)) (eP E)) (F0 m pc ls [.int r1]) :=
  vx_ret (W.iret hx hb hr (fun t ht _ => ⟨⟨r1, (), rfl, rfl, by show va_P _ _ _ t.heap; rw [ht]; exact hW.1⟩, hW.2.F ht⟩) hW.2.2.2 hdg hlk)
theorem ss_vxret {XC : String → State → State → Prop} (hx : p.tables.exec = Jvm.exec) (hb : c.code = cc) (hr : meth.sig.returnType = none) (hlk : meth.locks = false) (hW : Wk E σ μ dg s H locs) (hdg : decode cc pc = .ok (.return_, 1)) : W p l e R s m args below meth c H locs 0 0 (vx_MQ below (Qxv E σ μ dg (.inl ())) XC args s (xc (.inl () : Unit ⊕ Nat)) (xs6 (.inl () : Unit ⊕ Nat)) (eP E)) (F0 m pc ls []) :=
  vx_ret (W.vret hx hb hr (fun t ht _ => ⟨⟨(), rfl, rfl, by show va_P _ _ _ t.heap; rw [ht]; exact hW.1⟩, hW.2.F ht⟩) hW.2.2.2 hdg hlk)
end SSX
def exNm : List String := ["java/lang/RuntimeException", "java/lang/Exception"]
/-- the words of a throw -/
def ThB (k0 ic : Nat) : Prop := (∀ w ∈ (vx_atS RX6 ic (exN k0) exNm).filter goodWord, w ∈ lw_tbl) ∧ (∀ w ∈ (vx_atS RX6 ic (exN k0) exNm).filter (fun w => !goodWord w), w ∈ nwL) ∧ (∀ w ∈ vx_atS RX6 ic (exN k0) exNm, vx_ot w = true) ∧ Bundle.fit (exN k0) = true ∧ Kw (.initialized (exN k0))
theorem th_at {k0 ic : Nat} (h : ThB k0 ic) {E : En} {s : State} (hK : Ks E s) (args : Array Value) : ∀ w ∈ vx_atS RX6 ic (exN k0) exNm, w.before args s = true := by
  intro w hw
  by_cases g : goodWord w = true
  · exact hK.2.1.at ⟨h.1 w (List.mem_filter.mpr ⟨hw, g⟩), g⟩ args
  · have h1 : va_Nw w s := hK.2.2.2.2.2.1.1 w (h.2.1 w (List.mem_filter.mpr ⟨hw, by simpa using g⟩))
    have h2 := h.2.2.1 w hw
    simp only [vx_ot, Bool.or_eq_true] at h2
    rcases h2 with h2 | h2
    · exact va_Nw.use h2 h1
    · exact absurd h2 g
theorem th_good {k0 ic ik : Nat} (h : ThB k0 ic) : ∀ w ∈ Cond.classLink RX6 ik (exN k0) :: Cond.initialized (exN k0) :: vx_atS RX6 ic (exN k0) exNm, vx_ot w = true := by
  intro w hw
  rcases List.mem_cons.mp hw with rfl | hw
  · rfl
  · rcases List.mem_cons.mp hw with rfl | hw
    · rfl
    · exact h.2.2.1 w hw
theorem exNm_fit : ∀ n ∈ exNm, Bundle.fit n = true := by decide +kernel
section SST
variable {p : Program} {l : Launch} {e : Env} {R : Room} {s : State} {m : MethodId} {args : Array Value} {below : List Frame} {meth : Method} {c : Code} {H : Heap} {locs : List Loc}
variable {cc : ByteArray} {pc : Nat} {ls : Array Slot} {rest : List Value} {E : En} {σ μ : Sg} {dg : Int64}
theorem ss_thX {β : Type} {k0 : Nat} (hW : Wk E σ μ dg s H locs) : ∀ t : State, s.vm.Alike t.vm → H.size ≤ t.heap.size → (∀ q : Nat, q < H.size → t.heap[q]? = H[q]?) → Xx E σ μ dg (.inr k0 : β ⊕ Nat) (exN k0) s t := by
  intro t _ h1 h2
  exact ⟨(), trivial, ⟨⟨k0, rfl, rfl⟩, hW.1.kept (fun k q hk => h2 q.1 (hW.1 k q hk).lt)⟩, Nat.le_trans hW.2.1 h1, fun q a b => (h2 q (Nat.lt_of_lt_of_le a hW.2.1)).trans (hW.2.2.1 q a b)⟩
theorem ss_throwS {β : Type} {Qc : Array Value → State → Outcome → State → Prop} (hx : p.tables.exec = Jvm.exec) (hb : c.code = cc) (hfl : l.stackTraces = false) (hlk : meth.locks = false) (hex : ∀ x ∈ c.exceptionTable.toList, False) {nL : Nat} (hml : c.maxLocals = nL) (hsz : ls.size = nL) (hown : s.vm.findClass RX6 = some m.cls) (hK : Ks E s) (hW : Wk E σ μ dg s H locs) {k0 ik is ic : Nat} {text : String} (hs : (is, text) ∈ strs) (kl : Kw (.classLink RX6 ik (exN k0))) (hat : ThB k0 ic)
    (d0 : decode cc pc = .ok (.new ik, 3)) (d3 : decode cc (pc + 3) = .ok (.dup, 1)) (d4 : decode cc (pc + 4) = .ok (.ldc is, 2)) (d6 : decode cc (pc + 6) = .ok (.invokespecial ic, 3)) (d9 : decode cc (pc + 9) = .ok (.athrow, 1)) (hRf : 5 < R.frames) (hRl : (rest.map fun v => v.category).sum + 82 ≤ R.locals) (hcs : 1 ≤ R.cells ∧ 6 ≤ R.slots) :
    W p l e R s m args below meth c H locs 0 0 (vx_MQ below Qc (Xx E σ μ dg (.inr k0 : β ⊕ Nat)) args s (xc (.inr k0 : β ⊕ Nat)) (xs6 (.inr k0 : β ⊕ Nat)) (eP E)) (F0 m pc ls rest) :=
  vx_throwS (A := eP E) (names := exNm) hx hb hfl hown hat.2.2.2.1 exNm_fit (hK.2.1.at kl args) (hK.2.1.at hat.2.2.2.2 args) (hK.2.2.2.2.2.2 _ hs) (th_at hat hK args) (th_good hat) hK.2.2.2.2.1.1 hK.2.2.2.2.1.2 hW.2 (hsz.trans hml.symm) d0 d3 d4 d6 d9 (fun x hx => (hex x hx).elim) hRf hRl (by omega) (by omega) hlk (ss_thX hW) hW.2.2.2 (Nat.le_refl _) (Nat.le_refl _)
theorem ss_throwW {β : Type} {Qc : Array Value → State → Outcome → State → Prop} (hx : p.tables.exec = Jvm.exec) (hb : c.code = cc) (hfl : l.stackTraces = false) (hlk : meth.locks = false) (hex : ∀ x ∈ c.exceptionTable.toList, False) {nL : Nat} (hml : c.maxLocals = nL) (hsz : ls.size = nL) (hown : s.vm.findClass RX6 = some m.cls) (hK : Ks E s) (hW : Wk E σ μ dg s H locs) {k0 ik is ic : Nat} {text : String} (hs : (is, text) ∈ strs) (kl : Kw (.classLink RX6 ik (exN k0))) (hat : ThB k0 ic)
    (d0 : decode cc pc = .ok (.new ik, 3)) (d3 : decode cc (pc + 3) = .ok (.dup, 1)) (d4 : decode cc (pc + 4) = .ok (.ldc_w is, 3)) (d6 : decode cc (pc + 7) = .ok (.invokespecial ic, 3)) (d9 : decode cc (pc + 10) = .ok (.athrow, 1)) (hRf : 5 < R.frames) (hRl : (rest.map fun v => v.category).sum + 82 ≤ R.locals) (hcs : 1 ≤ R.cells ∧ 6 ≤ R.slots) :
    W p l e R s m args below meth c H locs 0 0 (vx_MQ below Qc (Xx E σ μ dg (.inr k0 : β ⊕ Nat)) args s (xc (.inr k0 : β ⊕ Nat)) (xs6 (.inr k0 : β ⊕ Nat)) (eP E)) (F0 m pc ls rest) :=
  vx_throwSW (A := eP E) (names := exNm) hx hb hfl hown hat.2.2.2.1 exNm_fit (hK.2.1.at kl args) (hK.2.1.at hat.2.2.2.2 args) (hK.2.2.2.2.2.2 _ hs) (th_at hat hK args) (th_good hat) hK.2.2.2.2.1.1 hK.2.2.2.2.1.2 hW.2 (hsz.trans hml.symm) d0 d3 d4 d6 d9 (fun x hx => (hex x hx).elim) hRf hRl (by omega) (by omega) hlk (ss_thX hW) hW.2.2.2 (Nat.le_refl _) (Nat.le_refl _)
end SST
end
