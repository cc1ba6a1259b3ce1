section
-- ===== PART A: goes FIRST, ahead of the names: the tables' words, and 'selects' of the private methods out of them =====
/-- a private method of a class that the tables say can be made, by its rows of tables_1 -/
def lw_okq (q : MethodName × Nat) : Prop := (q.1.cls ≠ "java/lang/invoke/MethodHandle" ∧ q.1.cls ≠ "java/lang/invoke/VarHandle") ∧ Cond.instantiable q.1.cls q.2 ∈ tables_1 ∧ Cond.privateMethod q.1 ∈ tables_1 ∧ Cond.instanceMethod q.1 ∈ tables_1
theorem lw_p0 : lw_okq (⟨"BeatWords", "refresh", "()V"⟩, 17) := ⟨⟨by decide +kernel, by decide +kernel⟩, List.mem_of_getElem? (i := 8) (by decide +kernel), List.mem_of_getElem? (i := 234) (by decide +kernel), List.mem_of_getElem? (i := 235) (by decide +kernel)⟩
theorem lw_p1 : lw_okq (⟨"BeatWords$Cut", "make", "([II[I)V"⟩, 12) := ⟨⟨by decide +kernel, by decide +kernel⟩, List.mem_of_getElem? (i := 40) (by decide +kernel), List.mem_of_getElem? (i := 238) (by decide +kernel), List.mem_of_getElem? (i := 239) (by decide +kernel)⟩
theorem lw_p2 : lw_okq (⟨"BeatWords$Cut", "addWord", "([III[I)V"⟩, 12) := ⟨⟨by decide +kernel, by decide +kernel⟩, List.mem_of_getElem? (i := 40) (by decide +kernel), List.mem_of_getElem? (i := 249) (by decide +kernel), List.mem_of_getElem? (i := 250) (by decide +kernel)⟩
theorem lw_p3 : lw_okq (⟨"BeatWords$Cut", "endSyllable", "(III)V"⟩, 12) := ⟨⟨by decide +kernel, by decide +kernel⟩, List.mem_of_getElem? (i := 40) (by decide +kernel), List.mem_of_getElem? (i := 257) (by decide +kernel), List.mem_of_getElem? (i := 258) (by decide +kernel)⟩
theorem lw_p4 : lw_okq (⟨"BeatWords$Cut", "beginSyllable", "(II)V"⟩, 12) := ⟨⟨by decide +kernel, by decide +kernel⟩, List.mem_of_getElem? (i := 40) (by decide +kernel), List.mem_of_getElem? (i := 264) (by decide +kernel), List.mem_of_getElem? (i := 265) (by decide +kernel)⟩
theorem lw_p5 : lw_okq (⟨"BeatWords$Cut", "lookUp", "(LBeatWords$Lexicon;[I)V"⟩, 12) := ⟨⟨by decide +kernel, by decide +kernel⟩, List.mem_of_getElem? (i := 40) (by decide +kernel), List.mem_of_getElem? (i := 268) (by decide +kernel), List.mem_of_getElem? (i := 269) (by decide +kernel)⟩
theorem lw_p6 : lw_okq (⟨"BeatWords$Lexicon", "find", "([III)I"⟩, 4) := ⟨⟨by decide +kernel, by decide +kernel⟩, List.mem_of_getElem? (i := 16) (by decide +kernel), List.mem_of_getElem? (i := 272) (by decide +kernel), List.mem_of_getElem? (i := 273) (by decide +kernel)⟩
theorem lw_p7 : lw_okq (⟨"BeatWords$Lexicon", "isText", "(I[III)Z"⟩, 4) := ⟨⟨by decide +kernel, by decide +kernel⟩, List.mem_of_getElem? (i := 16) (by decide +kernel), List.mem_of_getElem? (i := 277) (by decide +kernel), List.mem_of_getElem? (i := 278) (by decide +kernel)⟩
theorem lw_p8 : lw_okq (⟨"BeatWords$Stress", "make", "(LBeatWords$Cut;[I)V"⟩, 11) := ⟨⟨by decide +kernel, by decide +kernel⟩, List.mem_of_getElem? (i := 102) (by decide +kernel), List.mem_of_getElem? (i := 281) (by decide +kernel), List.mem_of_getElem? (i := 282) (by decide +kernel)⟩
theorem lw_p9 : lw_okq (⟨"BeatWords$Stress", "layForward", "(LBeatWords$Cut;[III)V"⟩, 11) := ⟨⟨by decide +kernel, by decide +kernel⟩, List.mem_of_getElem? (i := 102) (by decide +kernel), List.mem_of_getElem? (i := 287) (by decide +kernel), List.mem_of_getElem? (i := 288) (by decide +kernel)⟩
theorem lw_p10 : lw_okq (⟨"BeatWords$Cut", "isHeavy", "(I)Z"⟩, 12) := ⟨⟨by decide +kernel, by decide +kernel⟩, List.mem_of_getElem? (i := 40) (by decide +kernel), List.mem_of_getElem? (i := 294) (by decide +kernel), List.mem_of_getElem? (i := 295) (by decide +kernel)⟩
theorem lw_p11 : lw_okq (⟨"BeatWords$Stress", "addFoot", "(III)V"⟩, 11) := ⟨⟨by decide +kernel, by decide +kernel⟩, List.mem_of_getElem? (i := 102) (by decide +kernel), List.mem_of_getElem? (i := 298) (by decide +kernel), List.mem_of_getElem? (i := 299) (by decide +kernel)⟩
theorem lw_p12 : lw_okq (⟨"BeatWords$Stress", "layBackward", "(LBeatWords$Cut;[III)V"⟩, 11) := ⟨⟨by decide +kernel, by decide +kernel⟩, List.mem_of_getElem? (i := 102) (by decide +kernel), List.mem_of_getElem? (i := 302) (by decide +kernel), List.mem_of_getElem? (i := 303) (by decide +kernel)⟩
theorem lw_p13 : lw_okq (⟨"BeatWords$Stress", "numberFeet", "(II)I"⟩, 11) := ⟨⟨by decide +kernel, by decide +kernel⟩, List.mem_of_getElem? (i := 102) (by decide +kernel), List.mem_of_getElem? (i := 309) (by decide +kernel), List.mem_of_getElem? (i := 310) (by decide +kernel)⟩
theorem lw_p14 : lw_okq (⟨"BeatWords$Stress", "giveBeats", "(LBeatWords$Cut;III)V"⟩, 11) := ⟨⟨by decide +kernel, by decide +kernel⟩, List.mem_of_getElem? (i := 102) (by decide +kernel), List.mem_of_getElem? (i := 313) (by decide +kernel), List.mem_of_getElem? (i := 314) (by decide +kernel)⟩
theorem lw_p15 : lw_okq (⟨"BeatWords$Cut", "isMarked", "(I)Z"⟩, 12) := ⟨⟨by decide +kernel, by decide +kernel⟩, List.mem_of_getElem? (i := 40) (by decide +kernel), List.mem_of_getElem? (i := 317) (by decide +kernel), List.mem_of_getElem? (i := 318) (by decide +kernel)⟩
def lw_privs_1 : List (MethodName × Nat) := [(⟨"BeatWords", "refresh", "()V"⟩, 17), (⟨"BeatWords$Cut", "make", "([II[I)V"⟩, 12), (⟨"BeatWords$Cut", "addWord", "([III[I)V"⟩, 12), (⟨"BeatWords$Cut", "endSyllable", "(III)V"⟩, 12), (⟨"BeatWords$Cut", "beginSyllable", "(II)V"⟩, 12), (⟨"BeatWords$Cut", "lookUp", "(LBeatWords$Lexicon;[I)V"⟩, 12), (⟨"BeatWords$Lexicon", "find", "([III)I"⟩, 4), (⟨"BeatWords$Lexicon", "isText", "(I[III)Z"⟩, 4), (⟨"BeatWords$Stress", "make", "(LBeatWords$Cut;[I)V"⟩, 11), (⟨"BeatWords$Stress", "layForward", "(LBeatWords$Cut;[III)V"⟩, 11), (⟨"BeatWords$Cut", "isHeavy", "(I)Z"⟩, 12), (⟨"BeatWords$Stress", "addFoot", "(III)V"⟩, 11), (⟨"BeatWords$Stress", "layBackward", "(LBeatWords$Cut;[III)V"⟩, 11), (⟨"BeatWords$Stress", "numberFeet", "(II)I"⟩, 11), (⟨"BeatWords$Stress", "giveBeats", "(LBeatWords$Cut;III)V"⟩, 11), (⟨"BeatWords$Cut", "isMarked", "(I)Z"⟩, 12)]
theorem lw_r1 : ∀ q ∈ lw_privs_1, lw_okq q := List.forall_mem_cons.mpr ⟨lw_p0, List.forall_mem_cons.mpr ⟨lw_p1, List.forall_mem_cons.mpr ⟨lw_p2, List.forall_mem_cons.mpr ⟨lw_p3, List.forall_mem_cons.mpr ⟨lw_p4, List.forall_mem_cons.mpr ⟨lw_p5, List.forall_mem_cons.mpr ⟨lw_p6, List.forall_mem_cons.mpr ⟨lw_p7, List.forall_mem_cons.mpr ⟨lw_p8, List.forall_mem_cons.mpr ⟨lw_p9, List.forall_mem_cons.mpr ⟨lw_p10, List.forall_mem_cons.mpr ⟨lw_p11, List.forall_mem_cons.mpr ⟨lw_p12, List.forall_mem_cons.mpr ⟨lw_p13, List.forall_mem_cons.mpr ⟨lw_p14, List.forall_mem_cons.mpr ⟨lw_p15, fun _ h => absurd h List.not_mem_nil⟩⟩⟩⟩⟩⟩⟩⟩⟩⟩⟩⟩⟩⟩⟩⟩
theorem lw_p16 : lw_okq (⟨"BeatWords$Stress", "mainOfFeet", "(LBeatWords$Cut;III)I"⟩, 11) := ⟨⟨by decide +kernel, by decide +kernel⟩, List.mem_of_getElem? (i := 102) (by decide +kernel), List.mem_of_getElem? (i := 321) (by decide +kernel), List.mem_of_getElem? (i := 322) (by decide +kernel)⟩
theorem lw_p17 : lw_okq (⟨"BeatWords$Stress", "hear", "(LBeatWords$Cut;I)V"⟩, 11) := ⟨⟨by decide +kernel, by decide +kernel⟩, List.mem_of_getElem? (i := 102) (by decide +kernel), List.mem_of_getElem? (i := 325) (by decide +kernel), List.mem_of_getElem? (i := 326) (by decide +kernel)⟩
theorem lw_p18 : lw_okq (⟨"BeatWords$Stress", "firstLoose", "(LBeatWords$Cut;II)I"⟩, 11) := ⟨⟨by decide +kernel, by decide +kernel⟩, List.mem_of_getElem? (i := 102) (by decide +kernel), List.mem_of_getElem? (i := 329) (by decide +kernel), List.mem_of_getElem? (i := 330) (by decide +kernel)⟩
theorem lw_p19 : lw_okq (⟨"BeatWords$Stress", "isStuck", "(LBeatWords$Cut;II)Z"⟩, 11) := ⟨⟨by decide +kernel, by decide +kernel⟩, List.mem_of_getElem? (i := 102) (by decide +kernel), List.mem_of_getElem? (i := 336) (by decide +kernel), List.mem_of_getElem? (i := 337) (by decide +kernel)⟩
theorem lw_p20 : lw_okq (⟨"BeatWords$Stress", "lesserAhead", "(LBeatWords$Cut;I)I"⟩, 11) := ⟨⟨by decide +kernel, by decide +kernel⟩, List.mem_of_getElem? (i := 102) (by decide +kernel), List.mem_of_getElem? (i := 340) (by decide +kernel), List.mem_of_getElem? (i := 341) (by decide +kernel)⟩
theorem lw_p21 : lw_okq (⟨"BeatWords$Stress", "lesserBehind", "(LBeatWords$Cut;I)I"⟩, 11) := ⟨⟨by decide +kernel, by decide +kernel⟩, List.mem_of_getElem? (i := 102) (by decide +kernel), List.mem_of_getElem? (i := 344) (by decide +kernel), List.mem_of_getElem? (i := 345) (by decide +kernel)⟩
theorem lw_p22 : lw_okq (⟨"BeatWords$Stress", "settle", "(LBeatWords$Cut;II)I"⟩, 11) := ⟨⟨by decide +kernel, by decide +kernel⟩, List.mem_of_getElem? (i := 102) (by decide +kernel), List.mem_of_getElem? (i := 348) (by decide +kernel), List.mem_of_getElem? (i := 349) (by decide +kernel)⟩
theorem lw_p23 : lw_okq (⟨"BeatWords$Stress", "listClashes", "(LBeatWords$Cut;I)V"⟩, 11) := ⟨⟨by decide +kernel, by decide +kernel⟩, List.mem_of_getElem? (i := 102) (by decide +kernel), List.mem_of_getElem? (i := 355) (by decide +kernel), List.mem_of_getElem? (i := 356) (by decide +kernel)⟩
theorem lw_p24 : lw_okq (⟨"BeatWords", "show", "()V"⟩, 17) := ⟨⟨by decide +kernel, by decide +kernel⟩, List.mem_of_getElem? (i := 8) (by decide +kernel), List.mem_of_getElem? (i := 359) (by decide +kernel), List.mem_of_getElem? (i := 360) (by decide +kernel)⟩
theorem lw_p25 : lw_okq (⟨"BeatWords", "showByte", "(I)V"⟩, 17) := ⟨⟨by decide +kernel, by decide +kernel⟩, List.mem_of_getElem? (i := 8) (by decide +kernel), List.mem_of_getElem? (i := 363) (by decide +kernel), List.mem_of_getElem? (i := 364) (by decide +kernel)⟩
theorem lw_p26 : lw_okq (⟨"BeatWords", "changed", "()V"⟩, 17) := ⟨⟨by decide +kernel, by decide +kernel⟩, List.mem_of_getElem? (i := 8) (by decide +kernel), List.mem_of_getElem? (i := 373) (by decide +kernel), List.mem_of_getElem? (i := 374) (by decide +kernel)⟩
theorem lw_p27 : lw_okq (⟨"BeatWords", "ofWord", "(II)I"⟩, 17) := ⟨⟨by decide +kernel, by decide +kernel⟩, List.mem_of_getElem? (i := 8) (by decide +kernel), List.mem_of_getElem? (i := 381) (by decide +kernel), List.mem_of_getElem? (i := 382) (by decide +kernel)⟩
theorem lw_p28 : lw_okq (⟨"BeatWords$Stress", "mainBeat", "(LBeatWords$Cut;[II)I"⟩, 11) := ⟨⟨by decide +kernel, by decide +kernel⟩, List.mem_of_getElem? (i := 102) (by decide +kernel), List.mem_of_getElem? (i := 385) (by decide +kernel), List.mem_of_getElem? (i := 386) (by decide +kernel)⟩
theorem lw_p29 : lw_okq (⟨"BeatWords", "ofSyllable", "(II)I"⟩, 17) := ⟨⟨by decide +kernel, by decide +kernel⟩, List.mem_of_getElem? (i := 8) (by decide +kernel), List.mem_of_getElem? (i := 394) (by decide +kernel), List.mem_of_getElem? (i := 395) (by decide +kernel)⟩
theorem lw_p30 : lw_okq (⟨"BeatWords$Lexicon", "add", "([IIII)Z"⟩, 4) := ⟨⟨by decide +kernel, by decide +kernel⟩, List.mem_of_getElem? (i := 16) (by decide +kernel), List.mem_of_getElem? (i := 402) (by decide +kernel), List.mem_of_getElem? (i := 403) (by decide +kernel)⟩
theorem lw_p31 : lw_okq (⟨"BeatWords", "ofHearing", "(I)I"⟩, 17) := ⟨⟨by decide +kernel, by decide +kernel⟩, List.mem_of_getElem? (i := 8) (by decide +kernel), List.mem_of_getElem? (i := 416) (by decide +kernel), List.mem_of_getElem? (i := 417) (by decide +kernel)⟩
def lw_privs_2 : List (MethodName × Nat) := [(⟨"BeatWords$Stress", "mainOfFeet", "(LBeatWords$Cut;III)I"⟩, 11), (⟨"BeatWords$Stress", "hear", "(LBeatWords$Cut;I)V"⟩, 11), (⟨"BeatWords$Stress", "firstLoose", "(LBeatWords$Cut;II)I"⟩, 11), (⟨"BeatWords$Stress", "isStuck", "(LBeatWords$Cut;II)Z"⟩, 11), (⟨"BeatWords$Stress", "lesserAhead", "(LBeatWords$Cut;I)I"⟩, 11), (⟨"BeatWords$Stress", "lesserBehind", "(LBeatWords$Cut;I)I"⟩, 11), (⟨"BeatWords$Stress", "settle", "(LBeatWords$Cut;II)I"⟩, 11), (⟨"BeatWords$Stress", "listClashes", "(LBeatWords$Cut;I)V"⟩, 11), (⟨"BeatWords", "show", "()V"⟩, 17), (⟨"BeatWords", "showByte", "(I)V"⟩, 17), (⟨"BeatWords", "changed", "()V"⟩, 17), (⟨"BeatWords", "ofWord", "(II)I"⟩, 17), (⟨"BeatWords$Stress", "mainBeat", "(LBeatWords$Cut;[II)I"⟩, 11), (⟨"BeatWords", "ofSyllable", "(II)I"⟩, 17), (⟨"BeatWords$Lexicon", "add", "([IIII)Z"⟩, 4), (⟨"BeatWords", "ofHearing", "(I)I"⟩, 17)]
theorem lw_r2 : ∀ q ∈ lw_privs_2, lw_okq q := List.forall_mem_cons.mpr ⟨lw_p16, List.forall_mem_cons.mpr ⟨lw_p17, List.forall_mem_cons.mpr ⟨lw_p18, List.forall_mem_cons.mpr ⟨lw_p19, List.forall_mem_cons.mpr ⟨lw_p20, List.forall_mem_cons.mpr ⟨lw_p21, List.forall_mem_cons.mpr ⟨lw_p22, List.forall_mem_cons.mpr ⟨lw_p23, List.forall_mem_cons.mpr ⟨lw_p24, List.forall_mem_cons.mpr ⟨lw_p25, List.forall_mem_cons.mpr ⟨lw_p26, List.forall_mem_cons.mpr ⟨lw_p27, List.forall_mem_cons.mpr ⟨lw_p28, List.forall_mem_cons.mpr ⟨lw_p29, List.forall_mem_cons.mpr ⟨lw_p30, List.forall_mem_cons.mpr ⟨lw_p31, fun _ h => absurd h List.not_mem_nil⟩⟩⟩⟩⟩⟩⟩⟩⟩⟩⟩⟩⟩⟩⟩⟩
theorem lw_p32 : lw_okq (⟨"BeatWords", "heardBeats", "()I"⟩, 17) := ⟨⟨by decide +kernel, by decide +kernel⟩, List.mem_of_getElem? (i := 8) (by decide +kernel), List.mem_of_getElem? (i := 424) (by decide +kernel), List.mem_of_getElem? (i := 425) (by decide +kernel)⟩
theorem lw_p33 : lw_okq (⟨"BeatWords$Stress", "likeTold", "(LBeatWords$Cut;[I)I"⟩, 11) := ⟨⟨by decide +kernel, by decide +kernel⟩, List.mem_of_getElem? (i := 102) (by decide +kernel), List.mem_of_getElem? (i := 432) (by decide +kernel), List.mem_of_getElem? (i := 433) (by decide +kernel)⟩
theorem lw_p34 : lw_okq (⟨"BeatWords", "seekNearest", "()V"⟩, 17) := ⟨⟨by decide +kernel, by decide +kernel⟩, List.mem_of_getElem? (i := 8) (by decide +kernel), List.mem_of_getElem? (i := 440) (by decide +kernel), List.mem_of_getElem? (i := 441) (by decide +kernel)⟩
theorem lw_p35 : lw_okq (⟨"BeatWords", "ofNearest", "(I)I"⟩, 17) := ⟨⟨by decide +kernel, by decide +kernel⟩, List.mem_of_getElem? (i := 8) (by decide +kernel), List.mem_of_getElem? (i := 447) (by decide +kernel), List.mem_of_getElem? (i := 448) (by decide +kernel)⟩
theorem lw_p36 : lw_okq (⟨"BeatWords", "shareBits", "(I)I"⟩, 17) := ⟨⟨by decide +kernel, by decide +kernel⟩, List.mem_of_getElem? (i := 8) (by decide +kernel), List.mem_of_getElem? (i := 459) (by decide +kernel), List.mem_of_getElem? (i := 460) (by decide +kernel)⟩
theorem lw_p37 : lw_okq (⟨"BeatWords$Cut", "heavyOnes", "()I"⟩, 12) := ⟨⟨by decide +kernel, by decide +kernel⟩, List.mem_of_getElem? (i := 40) (by decide +kernel), List.mem_of_getElem? (i := 467) (by decide +kernel), List.mem_of_getElem? (i := 468) (by decide +kernel)⟩
theorem lw_p38 : lw_okq (⟨"BeatWords", "morasOf", "(Z)I"⟩, 17) := ⟨⟨by decide +kernel, by decide +kernel⟩, List.mem_of_getElem? (i := 8) (by decide +kernel), List.mem_of_getElem? (i := 472) (by decide +kernel), List.mem_of_getElem? (i := 473) (by decide +kernel)⟩
theorem lw_p39 : lw_okq (⟨"BeatWords", "countOf", "(I)I"⟩, 17) := ⟨⟨by decide +kernel, by decide +kernel⟩, List.mem_of_getElem? (i := 8) (by decide +kernel), List.mem_of_getElem? (i := 484) (by decide +kernel), List.mem_of_getElem? (i := 485) (by decide +kernel)⟩
theorem lw_p40 : lw_okq (⟨"BeatWords", "feetOfAll", "()I"⟩, 17) := ⟨⟨by decide +kernel, by decide +kernel⟩, List.mem_of_getElem? (i := 8) (by decide +kernel), List.mem_of_getElem? (i := 488) (by decide +kernel), List.mem_of_getElem? (i := 489) (by decide +kernel)⟩
theorem lw_p41 : lw_okq (⟨"BeatWords", "textChanged", "()V"⟩, 17) := ⟨⟨by decide +kernel, by decide +kernel⟩, List.mem_of_getElem? (i := 8) (by decide +kernel), List.mem_of_getElem? (i := 513) (by decide +kernel), List.mem_of_getElem? (i := 514) (by decide +kernel)⟩
def lw_privs_3 : List (MethodName × Nat) := [(⟨"BeatWords", "heardBeats", "()I"⟩, 17), (⟨"BeatWords$Stress", "likeTold", "(LBeatWords$Cut;[I)I"⟩, 11), (⟨"BeatWords", "seekNearest", "()V"⟩, 17), (⟨"BeatWords", "ofNearest", "(I)I"⟩, 17), (⟨"BeatWords", "shareBits", "(I)I"⟩, 17), (⟨"BeatWords$Cut", "heavyOnes", "()I"⟩, 12), (⟨"BeatWords", "morasOf", "(Z)I"⟩, 17), (⟨"BeatWords", "countOf", "(I)I"⟩, 17), (⟨"BeatWords", "feetOfAll", "()I"⟩, 17), (⟨"BeatWords", "textChanged", "()V"⟩, 17)]
theorem lw_r3 : ∀ q ∈ lw_privs_3, lw_okq q := List.forall_mem_cons.mpr ⟨lw_p32, List.forall_mem_cons.mpr ⟨lw_p33, List.forall_mem_cons.mpr ⟨lw_p34, List.forall_mem_cons.mpr ⟨lw_p35, List.forall_mem_cons.mpr ⟨lw_p36, List.forall_mem_cons.mpr ⟨lw_p37, List.forall_mem_cons.mpr ⟨lw_p38, List.forall_mem_cons.mpr ⟨lw_p39, List.forall_mem_cons.mpr ⟨lw_p40, List.forall_mem_cons.mpr ⟨lw_p41, fun _ h => absurd h List.not_mem_nil⟩⟩⟩⟩⟩⟩⟩⟩⟩⟩
def lw_privs : List (MethodName × Nat) := lw_privs_1 ++ (lw_privs_2 ++ (lw_privs_3))
def lw_tbl : List Cond := k2_sels lw_privs ++ tables_1
theorem lw_privs_ok : ∀ q ∈ lw_privs, lw_okq q := by
  show ∀ q ∈ lw_privs_1 ++ (lw_privs_2 ++ (lw_privs_3)), lw_okq q
  exact List.forall_mem_append.mpr ⟨lw_r1, List.forall_mem_append.mpr ⟨lw_r2, lw_r3⟩⟩
/-- the streams that the claim lets the run draw from -/
abbrev lw_cs : List Choice := [Jvm.Choice.named "NaN.bits"]
theorem lw_bits : nanBits ∈ lw_cs := by first | decide | exact List.mem_cons_self | simp [lw_cs, nanBits]
-- ===== end of PART A; then your names; then what follows =====
end
section
/-! names and tables of the abstract machine: printed by wip/whole/gen_tables.py out of javap's listing and the tables of the statement -/
def am_nth {α : Type} : List α → Nat → Option α
  | [], _ => none
  | x :: _, 0 => some x
  | _ :: l, n + 1 => am_nth l n
def am_R0 : String := "BeatWords$Cut"
def am_R1 : String := "BeatWords$Lexicon"
def am_R2 : String := "BeatWords$Sheet"
def am_R3 : String := "BeatWords$Stress"
def am_R4 : String := "BeatWords"
def am_R5 : String := "BeatWords$Sheet"
def am_R6 : String := "BeatWordsLaw"
def am_T0 : u_T := fun k => match k with
  | 0 => ("BeatWords$Cut", "wordStart", "[I", true)
  | 1 => ("BeatWords$Cut", "wordEnd", "[I", true)
  | 2 => ("BeatWords$Cut", "wordFirst", "[I", true)
  | 3 => ("BeatWords$Cut", "wordSize", "[I", true)
  | 4 => ("BeatWords$Cut", "wordMark", "[I", true)
  | 5 => ("BeatWords$Cut", "wordOf", "[I", true)
  | 6 => ("BeatWords$Cut", "start", "[I", true)
  | 7 => ("BeatWords$Cut", "end", "[I", true)
  | 8 => ("BeatWords$Cut", "moras", "[I", true)
  | 9 => ("BeatWords$Cut", "flaw", "I", false)
  | 10 => ("BeatWords$Cut", "words", "I", false)
  | _ => ("BeatWords$Cut", "syllables", "I", false)
def am_ty0 : Nat → FieldType := fun k => match k with
  | 0 => .array .int
  | 1 => .array .int
  | 2 => .array .int
  | 3 => .array .int
  | 4 => .array .int
  | 5 => .array .int
  | 6 => .array .int
  | 7 => .array .int
  | 8 => .array .int
  | 9 => .int
  | 10 => .int
  | _ => .int
theorem am_nm0 : ∀ a, a < 12 → ∀ b, b < 12 → a ≠ b → (am_T0 a).2.1 ≠ (am_T0 b).2.1 := by decide +kernel
theorem am_tyok0 : ∀ k, k < 12 → parseFieldDescriptor (am_T0 k).2.2.1 = some (am_ty0 k) := by decide +kernel
def am_T1 : u_T := fun k => match k with
  | 0 => ("BeatWords$Lexicon", "letters", "[I", true)
  | 1 => ("BeatWords$Lexicon", "lengths", "[I", true)
  | 2 => ("BeatWords$Lexicon", "places", "[I", true)
  | _ => ("BeatWords$Lexicon", "size", "I", false)
def am_ty1 : Nat → FieldType := fun k => match k with
  | 0 => .array .int
  | 1 => .array .int
  | 2 => .array .int
  | _ => .int
theorem am_nm1 : ∀ a, a < 4 → ∀ b, b < 4 → a ≠ b → (am_T1 a).2.1 ≠ (am_T1 b).2.1 := by decide +kernel
theorem am_tyok1 : ∀ k, k < 4 → parseFieldDescriptor (am_T1 k).2.2.1 = some (am_ty1 k) := by decide +kernel
def am_T2 : u_T := fun k => match k with
  | 0 => ("BeatWords$Sheet", "whole", "[I", true)
  | 1 => ("BeatWords$Sheet", "parts", "[F", true)
  | 2 => ("BeatWords$Sheet", "lost", "Z", false)
  | 3 => ("BeatWords$Sheet", "form", "I", false)
  | _ => ("BeatWords$Sheet", "size", "I", false)
def am_ty2 : Nat → FieldType := fun k => match k with
  | 0 => .array .int
  | 1 => .array .float
  | 2 => .boolean
  | 3 => .int
  | _ => .int
theorem am_nm2 : ∀ a, a < 5 → ∀ b, b < 5 → a ≠ b → (am_T2 a).2.1 ≠ (am_T2 b).2.1 := by decide +kernel
theorem am_tyok2 : ∀ k, k < 5 → parseFieldDescriptor (am_T2 k).2.2.1 = some (am_ty2 k) := by decide +kernel
def am_T3 : u_T := fun k => match k with
  | 0 => ("BeatWords$Stress", "footSize", "[I", true)
  | 1 => ("BeatWords$Stress", "footBeat", "[I", true)
  | 2 => ("BeatWords$Stress", "footOf", "[I", true)
  | 3 => ("BeatWords$Stress", "beat", "[I", true)
  | 4 => ("BeatWords$Stress", "heardBeat", "[I", true)
  | 5 => ("BeatWords$Stress", "clashing", "[I", true)
  | 6 => ("BeatWords$Stress", "feet", "[I", true)
  | 7 => ("BeatWords$Stress", "clashes", "I", false)
  | 8 => ("BeatWords$Stress", "heardClashes", "I", false)
  | 9 => ("BeatWords$Stress", "stuck", "I", false)
  | _ => ("BeatWords$Stress", "moves", "I", false)
def am_ty3 : Nat → FieldType := fun k => match k with
  | 0 => .array .int
  | 1 => .array .int
  | 2 => .array .int
  | 3 => .array .int
  | 4 => .array .int
  | 5 => .array .int
  | 6 => .array .int
  | 7 => .int
  | 8 => .int
  | 9 => .int
  | _ => .int
theorem am_nm3 : ∀ a, a < 11 → ∀ b, b < 11 → a ≠ b → (am_T3 a).2.1 ≠ (am_T3 b).2.1 := by decide +kernel
theorem am_tyok3 : ∀ k, k < 11 → parseFieldDescriptor (am_T3 k).2.2.1 = some (am_ty3 k) := by decide +kernel
def am_T4 : u_T := fun k => match k with
  | 0 => ("BeatWords", "bytes", "[I", true)
  | 1 => ("BeatWords", "ways", "[I", true)
  | 2 => ("BeatWords", "trialWays", "[I", true)
  | 3 => ("BeatWords", "told", "[I", true)
  | 4 => ("BeatWords", "shown", "[I", true)
  | 5 => ("BeatWords", "lexicon", "LBeatWords$Lexicon;", true)
  | 6 => ("BeatWords", "sheets", "[LBeatWords$Sheet;", true)
  | 7 => ("BeatWords", "cut", "LBeatWords$Cut;", true)
  | 8 => ("BeatWords", "now", "LBeatWords$Stress;", true)
  | 9 => ("BeatWords", "trial", "LBeatWords$Stress;", true)
  | 10 => ("BeatWords", "length", "I", false)
  | 11 => ("BeatWords", "shownLength", "I", false)
  | 12 => ("BeatWords", "latestFinding", "I", false)
  | 13 => ("BeatWords", "nearestFootWays", "I", false)
  | 14 => ("BeatWords", "nearestCount", "I", false)
  | 15 => ("BeatWords", "stale", "Z", false)
  | _ => ("BeatWords", "nearestStale", "Z", false)
def am_ty4 : Nat → FieldType := fun k => match k with
  | 0 => .array .int
  | 1 => .array .int
  | 2 => .array .int
  | 3 => .array .int
  | 4 => .array .int
  | 5 => .object "BeatWords$Lexicon"
  | 6 => .array (.object "BeatWords$Sheet")
  | 7 => .object "BeatWords$Cut"
  | 8 => .object "BeatWords$Stress"
  | 9 => .object "BeatWords$Stress"
  | 10 => .int
  | 11 => .int
  | 12 => .int
  | 13 => .int
  | 14 => .int
  | 15 => .boolean
  | _ => .boolean
theorem am_nm4 : ∀ a, a < 17 → ∀ b, b < 17 → a ≠ b → (am_T4 a).2.1 ≠ (am_T4 b).2.1 := by decide +kernel
theorem am_tyok4 : ∀ k, k < 17 → parseFieldDescriptor (am_T4 k).2.2.1 = some (am_ty4 k) := by decide +kernel
def am_T5 : u_T := fun k => match k with
  | 0 => ("BeatWords$Sheet", "whole", "[I", true)
  | 1 => ("BeatWords$Sheet", "parts", "[F", true)
  | 2 => ("BeatWords$Sheet", "lost", "Z", false)
  | 3 => ("BeatWords$Sheet", "form", "I", false)
  | _ => ("BeatWords$Sheet", "size", "I", false)
def am_ty5 : Nat → FieldType := fun k => match k with
  | 0 => .array .int
  | 1 => .array .float
  | 2 => .boolean
  | 3 => .int
  | _ => .int
theorem am_nm5 : ∀ a, a < 5 → ∀ b, b < 5 → a ≠ b → (am_T5 a).2.1 ≠ (am_T5 b).2.1 := by decide +kernel
theorem am_tyok5 : ∀ k, k < 5 → parseFieldDescriptor (am_T5 k).2.2.1 = some (am_ty5 k) := by decide +kernel
abbrev am_Cl : List vw_C := [(am_R0, am_T0, 12), (am_R1, am_T1, 4), (am_R2, am_T2, 5), (am_R3, am_T3, 11), (am_R4, am_T4, 17), (am_R5, am_T5, 5)]
def am_cn : Nat → String := fun k => match k with
  | 0 => am_R0
  | 1 => am_R1
  | 2 => am_R2
  | 3 => am_R3
  | 4 => am_R4
  | 5 => am_R5
  | _ => am_R6
def am_Tf : Nat → u_T := fun k => match k with
  | 0 => am_T0
  | 1 => am_T1
  | 2 => am_T2
  | 3 => am_T3
  | 4 => am_T4
  | _ => am_T5
def am_tyf : Nat → Nat → FieldType := fun k => match k with
  | 0 => am_ty0
  | 1 => am_ty1
  | 2 => am_ty2
  | 3 => am_ty3
  | 4 => am_ty4
  | _ => am_ty5
def am_N : Nat → Nat := fun k => match k with
  | 0 => 12
  | 1 => 4
  | 2 => 5
  | 3 => 11
  | 4 => 17
  | 5 => 5
  | _ => 0
def am_fks : List (List Nat) := [[1, 1, 1, 1, 1, 1, 1, 1, 1, 0, 0, 0], [1, 1, 1, 0], [1, 1, 2, 0, 0], [1, 1, 1, 1, 1, 1, 1, 0, 0, 0, 0], [1, 1, 1, 1, 1, 1, 1, 1, 1, 1, 0, 0, 0, 0, 0, 2, 2], [1, 1, 2, 0, 0]]
def am_fk (ci fi : Nat) : Nat := match am_nth am_fks ci with
  | some l => (match am_nth l fi with | some k => k | none => 9)
  | none => 9
def am_own_l : List Nat := [4, 4, 4, 4, 4, 4, 4, 4, 4, 4, 4, 4, 4, 4, 4, 4, 4, 4, 4, 4, 4, 4, 4, 4, 4, 4, 4, 4, 4, 4, 4, 4, 4, 4, 4, 4, 4, 4, 4, 4, 4, 4, 4, 4, 4, 4, 4, 4, 4, 4, 4, 4, 1, 1, 1, 1, 4, 2, 4, 4, 4, 4, 4, 4, 4, 0, 0, 0, 0, 0, 0, 0, 0, 0, 0, 0, 3, 3, 3, 3, 3, 3, 3, 3, 3, 3, 3, 3, 3, 3, 3, 3, 3, 3, 3, 3, 4, 6, 4, 4, 6, 6, 6, 6, 4, 4, 4, 4, 4, 4, 4, 4, 4, 4, 4, 4, 4, 4, 4, 4, 4, 4, 4, 4, 4, 4, 4, 4, 4, 4, 4, 4, 4, 4, 4, 4, 4, 4, 4, 4, 4, 4, 4, 4, 4, 4, 4, 4, 4, 4, 4, 4, 4, 4, 4, 4, 4, 4, 4, 4, 4, 4, 4, 4, 4, 4, 4, 4, 4, 4, 4, 4, 4, 4, 4, 4, 4, 4, 4, 4, 6]
def am_own (k : Nat) : Nat := match am_nth am_own_l k with | some v => v | none => 99
def am_na_l : List Nat := [0, 1, 2, 2, 0, 2, 2, 2, 2, 2, 1, 2, 1, 2, 0, 0, 1, 0, 1, 1, 2, 2, 2, 2, 2, 2, 1, 2, 2, 3, 1, 2, 2, 2, 0, 0, 0, 0, 1, 2, 0, 1, 2, 2, 1, 1, 0, 0, 1, 1, 2, 2, 0, 3, 4, 4, 2, 0, 2, 2, 2, 2, 2, 2, 2, 0, 3, 2, 4, 4, 2, 3, 2, 1, 1, 0, 0, 2, 4, 4, 4, 4, 3, 2, 4, 4, 2, 4, 3, 3, 3, 2, 2, 2, 3, 2, 2, 3, 2, 2, 2, 2, 1, 6, 2, 2, 2, 2, 2, 2, 2, 2, 2, 2, 2, 2, 2, 2, 2, 2, 2, 2, 2, 2, 2, 2, 2, 2, 2, 2, 2, 2, 2, 2, 2, 2, 2, 2, 2, 2, 2, 2, 2, 2, 2, 2, 2, 2, 2, 2, 2, 2, 2, 2, 2, 2, 2, 2, 2, 2, 2, 2, 2, 2, 2, 2, 2, 2, 2, 2, 2, 2, 2, 2, 2, 2, 2, 2, 2, 2, 1]
def am_na (k : Nat) : Nat := match am_nth am_na_l k with | some v => v | none => 0
def am_st_l : List Bool := [false, false, true, true, false, false, false, false, false, true, false, true, false, true, false, false, false, false, false, false, true, true, true, true, true, true, false, true, true, true, true, true, true, true, false, false, false, false, false, true, false, false, false, false, false, false, false, false, false, false, true, true, false, false, false, false, true, false, true, true, true, true, true, true, true, false, false, true, false, true, false, false, false, false, false, false, false, false, false, false, true, true, false, false, false, false, false, true, false, false, false, false, false, false, false, false, true, true, true, true, true, true, true, true, true, true, true, true, true, true, true, true, true, true, true, true, true, true, true, true, true, true, true, true, true, true, true, true, true, true, true, true, true, true, true, true, true, true, true, true, true, true, true, true, true, true, true, true, true, true, true, true, true, true, true, true, true, true, true, true, true, true, true, true, true, true, true, true, true, true, true, true, true, true, true, true, true, true, true, true, true]
def am_st (k : Nat) : Bool := match am_nth am_st_l k with | some v => v | none => true
def am_in_l : List Bool := [true, false, false, false, false, false, false, false, false, false, false, false, false, false, false, false, false, false, false, false, false, false, false, false, false, false, false, false, false, false, false, false, false, false, false, false, false, false, false, false, false, false, false, false, false, false, false, false, false, false, false, false, true, false, false, false, false, true, false, false, false, false, false, false, false, true, false, false, false, false, false, false, false, false, false, false, true, false, false, false, false, false, false, false, false, false, false, false, false, false, false, false, false, false, false, false, false, false, false, false, false, false, false, false, false, false, false, false, false, false, false, false, false, false, false, false, false, false, false, false, false, false, false, false, false, false, false, false, false, false, false, false, false, false, false, false, false, false, false, false, false, false, false, false, false, false, false, false, false, false, false, false, false, false, false, false, false, false, false, false, false, false, false, false, false, false, false, false, false, false, false, false, false, false, false, false, false, false, false, false, false]
def am_in (k : Nat) : Bool := match am_nth am_in_l k with | some v => v | none => false
def am_L_l : List Nat := [2, 2, 2, 2, 1, 4, 3, 3, 3, 2, 2, 2, 2, 2, 2, 1, 2, 2, 2, 2, 2, 2, 2, 2, 2, 2, 2, 2, 2, 3, 1, 2, 2, 2, 1, 2, 1, 5, 2, 2, 3, 2, 3, 3, 2, 2, 3, 3, 4, 2, 5, 2, 1, 5, 6, 7, 2, 1, 2, 2, 2, 2, 2, 2, 2, 1, 6, 5, 10, 6, 3, 5, 5, 3, 2, 3, 1, 7, 9, 9, 5, 6, 4, 7, 11, 9, 7, 5, 6, 4, 7, 5, 6, 5, 7, 5, 2, 6, 2, 2, 2, 2, 1, 14, 2, 2, 2, 2, 2, 2, 2, 2, 2, 2, 2, 2, 2, 2, 2, 2, 2, 2, 2, 2, 2, 2, 2, 2, 2, 2, 2, 2, 2, 2, 2, 2, 2, 2, 2, 2, 2, 2, 2, 2, 2, 2, 2, 2, 2, 2, 2, 2, 2, 2, 2, 2, 2, 2, 2, 2, 2, 2, 2, 2, 2, 2, 2, 2, 2, 2, 2, 2, 2, 2, 2, 2, 2, 2, 2, 2, 19]
def am_L (k : Nat) : Nat := match am_nth am_L_l k with | some v => v | none => 0
def am_b1 (k : Nat) : Nat := match k with
  | 0 => 48
  | 52 => 3
  | 57 => 2
  | 65 => 9
  | 76 => 7
  | 180 => 600000
  | _ => 0
def am_b2 (k : Nat) : Nat := match k with
  | 0 => 2402
  | 52 => 372
  | 57 => 120
  | 65 => 390
  | 76 => 390
  | 180 => 7302249
  | _ => 0
def am_bud (k : Nat) : Nat × Nat := (am_b1 k, am_b2 k)
def am_fr_l : List Nat := [2, 2, 0, 0, 6, 1, 6, 6, 6, 0, 6, 0, 6, 0, 6, 6, 6, 6, 6, 6, 0, 0, 0, 0, 0, 0, 6, 0, 0, 0, 0, 0, 0, 0, 0, 1, 5, 2, 1, 0, 5, 1, 2, 1, 0, 3, 1, 1, 1, 3, 0, 0, 1, 2, 1, 3, 0, 1, 0, 0, 0, 0, 0, 0, 0, 1, 3, 1, 2, 1, 1, 1, 3, 1, 1, 2, 1, 4, 3, 3, 2, 2, 1, 1, 2, 1, 4, 1, 3, 2, 2, 1, 1, 3, 1, 1, 0, 0, 0, 0, 0, 0, 0, 3, 0, 0, 0, 0, 0, 0, 0, 0, 0, 0, 0, 0, 0, 0, 0, 0, 0, 0, 0, 0, 0, 0, 0, 0, 0, 0, 0, 0, 0, 0, 0, 0, 0, 0, 0, 0, 0, 0, 0, 0, 0, 0, 0, 0, 0, 0, 0, 0, 0, 0, 0, 0, 0, 0, 0, 0, 0, 0, 0, 0, 0, 0, 0, 0, 0, 0, 0, 0, 0, 0, 0, 0, 0, 0, 0, 0, 9]
def am_fr (k : Nat) : Nat := match am_nth am_fr_l k with | some v => v | none => 0
def am_lo_l : List Nat := [41, 43, 0, 0, 141, 22, 141, 141, 141, 0, 141, 0, 141, 0, 141, 141, 143, 143, 141, 141, 0, 0, 0, 0, 0, 0, 141, 0, 0, 0, 0, 0, 0, 0, 0, 22, 121, 43, 22, 0, 121, 21, 47, 21, 0, 64, 21, 21, 21, 64, 0, 0, 21, 46, 21, 70, 0, 21, 0, 0, 0, 0, 0, 0, 0, 21, 75, 21, 46, 21, 22, 22, 70, 21, 21, 42, 21, 95, 66, 67, 42, 42, 22, 22, 49, 21, 94, 21, 69, 46, 46, 21, 21, 69, 21, 21, 0, 0, 0, 0, 0, 0, 0, 64, 0, 0, 0, 0, 0, 0, 0, 0, 0, 0, 0, 0, 0, 0, 0, 0, 0, 0, 0, 0, 0, 0, 0, 0, 0, 0, 0, 0, 0, 0, 0, 0, 0, 0, 0, 0, 0, 0, 0, 0, 0, 0, 0, 0, 0, 0, 0, 0, 0, 0, 0, 0, 0, 0, 0, 0, 0, 0, 0, 0, 0, 0, 0, 0, 0, 0, 0, 0, 0, 0, 0, 0, 0, 0, 0, 0, 328]
def am_lo (k : Nat) : Nat := match am_nth am_lo_l k with | some v => v | none => 0
def am_y_l : List MethodName := [⟨"BeatWords", "<init>", "()V"⟩, ⟨"BeatWords", "type", "(I)I"⟩, ⟨"BeatWords", "at", "([II)I"⟩, ⟨"BeatWords", "at", "([II)I"⟩, ⟨"BeatWords", "flaw", "()I"⟩, ⟨"BeatWords", "way", "(II)I"⟩, ⟨"BeatWords", "word", "(II)I"⟩, ⟨"BeatWords", "syllable", "(II)I"⟩, ⟨"BeatWords", "mark", "(II)I"⟩, ⟨"BeatWords", "at", "([II)I"⟩, ⟨"BeatWords", "marked", "(I)I"⟩, ⟨"BeatWords", "at", "([II)I"⟩, ⟨"BeatWords", "heard", "(I)I"⟩, ⟨"BeatWords", "at", "([II)I"⟩, ⟨"BeatWords", "copyHeard", "()I"⟩, ⟨"BeatWords", "near", "()I"⟩, ⟨"BeatWords", "nearest", "(I)I"⟩, ⟨"BeatWords", "learn", "()I"⟩, ⟨"BeatWords", "share", "(I)I"⟩, ⟨"BeatWords", "text", "(I)I"⟩, ⟨"BeatWords", "at", "([II)I"⟩, ⟨"BeatWords", "at", "([II)I"⟩, ⟨"BeatWords", "at", "([II)I"⟩, ⟨"BeatWords", "at", "([II)I"⟩, ⟨"BeatWords", "at", "([II)I"⟩, ⟨"BeatWords", "at", "([II)I"⟩, ⟨"BeatWords", "count", "(I)I"⟩, ⟨"BeatWords", "at", "([II)I"⟩, ⟨"BeatWords", "at", "([II)I"⟩, ⟨"BeatWords", "set", "([III)V"⟩, ⟨"BeatWords", "isVowel", "(I)Z"⟩, ⟨"BeatWords", "at", "([II)I"⟩, ⟨"BeatWords", "at", "([II)I"⟩, ⟨"BeatWords", "at", "([II)I"⟩, ⟨"BeatWords", "changed", "()V"⟩, ⟨"BeatWords", "textChanged", "()V"⟩, ⟨"BeatWords", "refresh", "()V"⟩, ⟨"BeatWords", "show", "()V"⟩, ⟨"BeatWords", "showByte", "(I)V"⟩, ⟨"BeatWords", "footWay", "(II)I"⟩, ⟨"BeatWords", "seekNearest", "()V"⟩, ⟨"BeatWords", "ofNearest", "(I)I"⟩, ⟨"BeatWords", "ofWord", "(II)I"⟩, ⟨"BeatWords", "ofSyllable", "(II)I"⟩, ⟨"BeatWords", "ofHearing", "(I)I"⟩, ⟨"BeatWords", "countOf", "(I)I"⟩, ⟨"BeatWords", "feetOfAll", "()I"⟩, ⟨"BeatWords", "heardBeats", "()I"⟩, ⟨"BeatWords", "morasOf", "(Z)I"⟩, ⟨"BeatWords", "shareBits", "(I)I"⟩, ⟨"BeatWords", "bitsOf", "(II)I"⟩, ⟨"BeatWords", "at", "([II)I"⟩, ⟨"BeatWords$Lexicon", "<init>", "()V"⟩, ⟨"BeatWords$Lexicon", "find", "([III)I"⟩, ⟨"BeatWords$Lexicon", "isText", "(I[III)Z"⟩, ⟨"BeatWords$Lexicon", "add", "([IIII)Z"⟩, ⟨"BeatWords", "at", "([II)I"⟩, ⟨"BeatWords$Sheet", "<init>", "()V"⟩, ⟨"BeatWords", "at", "([II)I"⟩, ⟨"BeatWords", "at", "([II)I"⟩, ⟨"BeatWords", "at", "([II)I"⟩, ⟨"BeatWords", "at", "([II)I"⟩, ⟨"BeatWords", "at", "([II)I"⟩, ⟨"BeatWords", "at", "([II)I"⟩, ⟨"BeatWords", "at", "([II)I"⟩, ⟨"BeatWords$Cut", "<init>", "()V"⟩, ⟨"BeatWords$Cut", "make", "([II[I)V"⟩, ⟨"BeatWords$Cut", "firstFlaw", "([II)I"⟩, ⟨"BeatWords$Cut", "addWord", "([III[I)V"⟩, ⟨"BeatWords$Cut", "nucleusSize", "([IIII)I"⟩, ⟨"BeatWords$Cut", "beginSyllable", "(II)V"⟩, ⟨"BeatWords$Cut", "endSyllable", "(III)V"⟩, ⟨"BeatWords$Cut", "lookUp", "(LBeatWords$Lexicon;[I)V"⟩, ⟨"BeatWords$Cut", "isMarked", "(I)Z"⟩, ⟨"BeatWords$Cut", "isHeavy", "(I)Z"⟩, ⟨"BeatWords$Cut", "heavyOnes", "()I"⟩, ⟨"BeatWords$Stress", "<init>", "()V"⟩, ⟨"BeatWords$Stress", "make", "(LBeatWords$Cut;[I)V"⟩, ⟨"BeatWords$Stress", "layForward", "(LBeatWords$Cut;[III)V"⟩, ⟨"BeatWords$Stress", "layBackward", "(LBeatWords$Cut;[III)V"⟩, ⟨"BeatWords$Stress", "sizeForward", "(LBeatWords$Cut;III)I"⟩, ⟨"BeatWords$Stress", "sizeBackward", "(LBeatWords$Cut;III)I"⟩, ⟨"BeatWords$Stress", "addFoot", "(III)V"⟩, ⟨"BeatWords$Stress", "numberFeet", "(II)I"⟩, ⟨"BeatWords$Stress", "giveBeats", "(LBeatWords$Cut;III)V"⟩, ⟨"BeatWords$Stress", "mainOfFeet", "(LBeatWords$Cut;III)I"⟩, ⟨"BeatWords$Stress", "hear", "(LBeatWords$Cut;I)V"⟩, ⟨"BeatWords$Stress", "clashesWith", "(LBeatWords$Cut;[III)I"⟩, ⟨"BeatWords$Stress", "firstLoose", "(LBeatWords$Cut;II)I"⟩, ⟨"BeatWords$Stress", "isStuck", "(LBeatWords$Cut;II)Z"⟩, ⟨"BeatWords$Stress", "settle", "(LBeatWords$Cut;II)I"⟩, ⟨"BeatWords$Stress", "lesserAhead", "(LBeatWords$Cut;I)I"⟩, ⟨"BeatWords$Stress", "lesserBehind", "(LBeatWords$Cut;I)I"⟩, ⟨"BeatWords$Stress", "listClashes", "(LBeatWords$Cut;I)V"⟩, ⟨"BeatWords$Stress", "mainBeat", "(LBeatWords$Cut;[II)I"⟩, ⟨"BeatWords$Stress", "likeTold", "(LBeatWords$Cut;[I)I"⟩, ⟨"BeatWords", "at", "([II)I"⟩, ⟨"BeatWordsLaw", "in", "(JJJ)Z"⟩, ⟨"BeatWords", "at", "([II)I"⟩, ⟨"BeatWords", "at", "([II)I"⟩, ⟨"BeatWordsLaw", "cell", "([II)I"⟩, ⟨"BeatWordsLaw", "low", "(II)I"⟩, ⟨"BeatWordsLaw", "isVowel", "(I)Z"⟩, ⟨"BeatWordsLaw", "told", "(LBeatWords;[III[I[I)Z"⟩, ⟨"BeatWords", "at", "([II)I"⟩, ⟨"BeatWords", "at", "([II)I"⟩, ⟨"BeatWords", "at", "([II)I"⟩, ⟨"BeatWords", "at", "([II)I"⟩, ⟨"BeatWords", "at", "([II)I"⟩, ⟨"BeatWords", "at", "([II)I"⟩, ⟨"BeatWords", "at", "([II)I"⟩, ⟨"BeatWords", "at", "([II)I"⟩, ⟨"BeatWords", "at", "([II)I"⟩, ⟨"BeatWords", "at", "([II)I"⟩, ⟨"BeatWords", "at", "([II)I"⟩, ⟨"BeatWords", "at", "([II)I"⟩, ⟨"BeatWords", "at", "([II)I"⟩, ⟨"BeatWords", "at", "([II)I"⟩, ⟨"BeatWords", "at", "([II)I"⟩, ⟨"BeatWords", "at", "([II)I"⟩, ⟨"BeatWords", "at", "([II)I"⟩, ⟨"BeatWords", "at", "([II)I"⟩, ⟨"BeatWords", "at", "([II)I"⟩, ⟨"BeatWords", "at", "([II)I"⟩, ⟨"BeatWords", "at", "([II)I"⟩, ⟨"BeatWords", "at", "([II)I"⟩, ⟨"BeatWords", "at", "([II)I"⟩, ⟨"BeatWords", "at", "([II)I"⟩, ⟨"BeatWords", "at", "([II)I"⟩, ⟨"BeatWords", "at", "([II)I"⟩, ⟨"BeatWords", "at", "([II)I"⟩, ⟨"BeatWords", "at", "([II)I"⟩, ⟨"BeatWords", "at", "([II)I"⟩, ⟨"BeatWords", "at", "([II)I"⟩, ⟨"BeatWords", "at", "([II)I"⟩, ⟨"BeatWords", "at", "([II)I"⟩, ⟨"BeatWords", "at", "([II)I"⟩, ⟨"BeatWords", "at", "([II)I"⟩, ⟨"BeatWords", "at", "([II)I"⟩, ⟨"BeatWords", "at", "([II)I"⟩, ⟨"BeatWords", "at", "([II)I"⟩, ⟨"BeatWords", "at", "([II)I"⟩, ⟨"BeatWords", "at", "([II)I"⟩, ⟨"BeatWords", "at", "([II)I"⟩, ⟨"BeatWords", "at", "([II)I"⟩, ⟨"BeatWords", "at", "([II)I"⟩, ⟨"BeatWords", "at", "([II)I"⟩, ⟨"BeatWords", "at", "([II)I"⟩, ⟨"BeatWords", "at", "([II)I"⟩, ⟨"BeatWords", "at", "([II)I"⟩, ⟨"BeatWords", "at", "([II)I"⟩, ⟨"BeatWords", "at", "([II)I"⟩, ⟨"BeatWords", "at", "([II)I"⟩, ⟨"BeatWords", "at", "([II)I"⟩, ⟨"BeatWords", "at", "([II)I"⟩, ⟨"BeatWords", "at", "([II)I"⟩, ⟨"BeatWords", "at", "([II)I"⟩, ⟨"BeatWords", "at", "([II)I"⟩, ⟨"BeatWords", "at", "([II)I"⟩, ⟨"BeatWords", "at", "([II)I"⟩, ⟨"BeatWords", "at", "([II)I"⟩, ⟨"BeatWords", "at", "([II)I"⟩, ⟨"BeatWords", "at", "([II)I"⟩, ⟨"BeatWords", "at", "([II)I"⟩, ⟨"BeatWords", "at", "([II)I"⟩, ⟨"BeatWords", "at", "([II)I"⟩, ⟨"BeatWords", "at", "([II)I"⟩, ⟨"BeatWords", "at", "([II)I"⟩, ⟨"BeatWords", "at", "([II)I"⟩, ⟨"BeatWords", "at", "([II)I"⟩, ⟨"BeatWords", "at", "([II)I"⟩, ⟨"BeatWords", "at", "([II)I"⟩, ⟨"BeatWords", "at", "([II)I"⟩, ⟨"BeatWords", "at", "([II)I"⟩, ⟨"BeatWords", "at", "([II)I"⟩, ⟨"BeatWords", "at", "([II)I"⟩, ⟨"BeatWords", "at", "([II)I"⟩, ⟨"BeatWords", "at", "([II)I"⟩, ⟨"BeatWords", "at", "([II)I"⟩, ⟨"BeatWords", "at", "([II)I"⟩, x]
def am_y (k : Nat) : MethodName := match am_nth am_y_l k with | some v => v | none => x
def am_b_l : List ByteArray := [prog_1_method_1_code, prog_1_method_2_code, prog_1_method_29_code, prog_1_method_29_code, prog_1_method_5_code, prog_1_method_6_code, prog_1_method_7_code, prog_1_method_8_code, prog_1_method_9_code, prog_1_method_29_code, prog_1_method_11_code, prog_1_method_29_code, prog_1_method_13_code, prog_1_method_29_code, prog_1_method_15_code, prog_1_method_16_code, prog_1_method_17_code, prog_1_method_18_code, prog_1_method_19_code, prog_1_method_20_code, prog_1_method_29_code, prog_1_method_29_code, prog_1_method_29_code, prog_1_method_29_code, prog_1_method_29_code, prog_1_method_29_code, prog_1_method_27_code, prog_1_method_29_code, prog_1_method_29_code, prog_1_method_30_code, prog_1_method_31_code, prog_1_method_29_code, prog_1_method_29_code, prog_1_method_29_code, prog_1_method_35_code, prog_1_method_36_code, prog_1_method_37_code, prog_1_method_38_code, prog_1_method_39_code, prog_1_method_40_code, prog_1_method_41_code, prog_1_method_42_code, prog_1_method_43_code, prog_1_method_44_code, prog_1_method_45_code, prog_1_method_46_code, prog_1_method_47_code, prog_1_method_48_code, prog_1_method_49_code, prog_1_method_50_code, prog_1_method_51_code, prog_1_method_29_code, prog_3_method_1_code, prog_3_method_2_code, prog_3_method_3_code, prog_3_method_4_code, prog_1_method_29_code, prog_4_method_1_code, prog_1_method_29_code, prog_1_method_29_code, prog_1_method_29_code, prog_1_method_29_code, prog_1_method_29_code, prog_1_method_29_code, prog_1_method_29_code, prog_2_method_1_code, prog_2_method_2_code, prog_2_method_3_code, prog_2_method_4_code, prog_2_method_5_code, prog_2_method_6_code, prog_2_method_7_code, prog_2_method_8_code, prog_2_method_9_code, prog_2_method_10_code, prog_2_method_11_code, prog_5_method_1_code, prog_5_method_2_code, prog_5_method_3_code, prog_5_method_4_code, prog_5_method_5_code, prog_5_method_6_code, prog_5_method_7_code, prog_5_method_8_code, prog_5_method_9_code, prog_5_method_10_code, prog_5_method_11_code, prog_5_method_12_code, prog_5_method_13_code, prog_5_method_14_code, prog_5_method_15_code, prog_5_method_16_code, prog_5_method_17_code, prog_5_method_18_code, prog_5_method_19_code, prog_5_method_20_code, prog_1_method_29_code, method_4_code, prog_1_method_29_code, prog_1_method_29_code, method_2_code, method_3_code, method_5_code, method_6_code, prog_1_method_29_code, prog_1_method_29_code, prog_1_method_29_code, prog_1_method_29_code, prog_1_method_29_code, prog_1_method_29_code, prog_1_method_29_code, prog_1_method_29_code, prog_1_method_29_code, prog_1_method_29_code, prog_1_method_29_code, prog_1_method_29_code, prog_1_method_29_code, prog_1_method_29_code, prog_1_method_29_code, prog_1_method_29_code, prog_1_method_29_code, prog_1_method_29_code, prog_1_method_29_code, prog_1_method_29_code, prog_1_method_29_code, prog_1_method_29_code, prog_1_method_29_code, prog_1_method_29_code, prog_1_method_29_code, prog_1_method_29_code, prog_1_method_29_code, prog_1_method_29_code, prog_1_method_29_code, prog_1_method_29_code, prog_1_method_29_code, prog_1_method_29_code, prog_1_method_29_code, prog_1_method_29_code, prog_1_method_29_code, prog_1_method_29_code, prog_1_method_29_code, prog_1_method_29_code, prog_1_method_29_code, prog_1_method_29_code, prog_1_method_29_code, prog_1_method_29_code, prog_1_method_29_code, prog_1_method_29_code, prog_1_method_29_code, prog_1_method_29_code, prog_1_method_29_code, prog_1_method_29_code, prog_1_method_29_code, prog_1_method_29_code, prog_1_method_29_code, prog_1_method_29_code, prog_1_method_29_code, prog_1_method_29_code, prog_1_method_29_code, prog_1_method_29_code, prog_1_method_29_code, prog_1_method_29_code, prog_1_method_29_code, prog_1_method_29_code, prog_1_method_29_code, prog_1_method_29_code, prog_1_method_29_code, prog_1_method_29_code, prog_1_method_29_code, prog_1_method_29_code, prog_1_method_29_code, prog_1_method_29_code, prog_1_method_29_code, prog_1_method_29_code, prog_1_method_29_code, prog_1_method_29_code, prog_1_method_29_code, prog_1_method_29_code, prog_1_method_29_code, prog_1_method_29_code, code]
def am_b (k : Nat) : ByteArray := match am_nth am_b_l k with | some v => v | none => code
def am_ret_l : List (Option FieldType) := [none, some .int, some .int, some .int, some .int, some .int, some .int, some .int, some .int, some .int, some .int, some .int, some .int, some .int, some .int, some .int, some .int, some .int, some .int, some .int, some .int, some .int, some .int, some .int, some .int, some .int, some .int, some .int, some .int, none, some .boolean, some .int, some .int, some .int, none, none, none, none, none, some .int, none, some .int, some .int, some .int, some .int, some .int, some .int, some .int, some .int, some .int, some .int, some .int, none, some .int, some .boolean, some .boolean, some .int, none, some .int, some .int, some .int, some .int, some .int, some .int, some .int, none, none, some .int, none, some .int, none, none, none, some .boolean, some .boolean, some .int, none, none, none, none, some .int, some .int, none, some .int, none, some .int, none, some .int, some .int, some .boolean, some .int, some .int, some .int, none, some .int, some .int, some .int, some .boolean, some .int, some .int, some .int, some .int, some .boolean, some .boolean, some .int, some .int, some .int, some .int, some .int, some .int, some .int, some .int, some .int, some .int, some .int, some .int, some .int, some .int, some .int, some .int, some .int, some .int, some .int, some .int, some .int, some .int, some .int, some .int, some .int, some .int, some .int, some .int, some .int, some .int, some .int, some .int, some .int, some .int, some .int, some .int, some .int, some .int, some .int, some .int, some .int, some .int, some .int, some .int, some .int, some .int, some .int, some .int, some .int, some .int, some .int, some .int, some .int, some .int, some .int, some .int, some .int, some .int, some .int, some .int, some .int, some .int, some .int, some .int, some .int, some .int, some .int, some .int, some .int, some .int, some .int, some .int, some .int, some .int, some .int, some .int, ret]
def am_ret (k : Nat) : (Option FieldType) := match am_nth am_ret_l k with | some v => v | none => none
abbrev am_SW : Type := Int × List Nat × Nat × List Int × Int × Nat
def am_sws : List am_SW := [
  (4, [2, 6, 12], 18, [(27 : Int), (32 : Int), (39 : Int)], 45, 27),
  (0, [2, 8, 14, 20, 30, 40], 49, [(39 : Int), (51 : Int), (63 : Int), (75 : Int), (95 : Int), (115 : Int)], 132, 39),
  (0, [2, 8, 14, 26, 32, 38, 44, 50], 55, [(47 : Int), (59 : Int), (71 : Int), (95 : Int), (107 : Int), (119 : Int), (131 : Int), (143 : Int)], 152, 47),
  (0, [2, 6, 10, 14], 18, [(31 : Int), (39 : Int), (47 : Int), (55 : Int)], 63, 31),
  (0, [2, 5, 9, 13, 16, 20, 24, 27, 31], 34, [(51 : Int), (56 : Int), (64 : Int), (72 : Int), (77 : Int), (85 : Int), (93 : Int), (98 : Int), (104 : Int)], 109, 51),
  (0, [2, 14, 22], 30, [(27 : Int), (53 : Int), (71 : Int)], 85, 27)]
def am_swt (a : Nat) (x : Int) : Nat := match am_nth am_sws a with
  | some (lo, tg, d, _) => if lo ≤ x then (match am_nth tg (x - lo).toNat with | some t => t | none => d) else d
  | none => 0
abbrev am_Row : Type := Nat × Nat × Nat × Int × Nat × Nat
/-- BeatWords.<init>()V -/
def am_c0 : List am_Row := [(0, 13, 0, 0, 0, 0), (1, 76, 0, 0, 1, 54), (4, 13, 0, 0, 0, 0), (5, 2, 0, 60, 0, 0), (7, 88, 0, 0, 0, 0), (9, 59, 4, 0, 9, 219), (12, 13, 0, 0, 0, 0), (13, 2, 0, 9, 0, 0), (15, 88, 0, 0, 0, 0), (17, 59, 4, 1, 13, 220), (20, 13, 0, 0, 0, 0), (21, 2, 0, 9, 0, 0), (23, 88, 0, 0, 0, 0), (25, 59, 4, 2, 16, 221), (28, 13, 0, 0, 0, 0), (29, 2, 0, 60, 0, 0), (31, 88, 0, 0, 0, 0), (33, 59, 4, 3, 19, 222), (36, 13, 0, 0, 0, 0), (37, 3, 0, 180, 0, 0), (40, 88, 0, 0, 0, 0), (42, 59, 4, 4, 22, 223), (45, 13, 0, 0, 0, 0), (46, 87, 1, 0, 25, 57), (49, 85, 0, 0, 0, 0), (50, 75, 52, 0, 27, 59), (53, 59, 4, 5, 28, 224), (56, 13, 0, 0, 0, 0), (57, 1, 0, 4, 0, 0), (58, 91, 2, 0, 32, 79), (61, 59, 4, 6, 34, 225), (64, 13, 0, 0, 0, 0), (65, 87, 0, 0, 38, 81), (68, 85, 0, 0, 0, 0), (69, 75, 65, 0, 40, 83), (72, 59, 4, 7, 41, 226), (75, 13, 0, 0, 0, 0), (76, 87, 3, 0, 45, 143), (79, 85, 0, 0, 0, 0), (80, 75, 76, 0, 47, 145), (83, 59, 4, 8, 48, 227), (86, 13, 0, 0, 0, 0), (87, 87, 3, 0, 45, 143), (90, 85, 0, 0, 0, 0), (91, 75, 76, 0, 47, 145), (94, 59, 4, 9, 52, 228), (97, 13, 0, 0, 0, 0), (98, 1, 0, 1, 0, 0), (99, 57, 4, 15, 55, 234), (102, 13, 0, 0, 0, 0), (103, 1, 0, 1, 0, 0), (104, 57, 4, 16, 59, 235), (107, 1, 0, 0, 0, 0), (108, 14, 1, 0, 0, 0), (109, 10, 1, 0, 0, 0), (110, 2, 0, 9, 0, 0), (112, 49, 66, 24, 0, 0), (115, 13, 0, 0, 0, 0), (116, 55, 4, 1, 13, 220), (119, 10, 1, 0, 0, 0), (120, 60, 0, 0, 62, 191), (123, 10, 1, 0, 0, 0), (124, 72, 28, 0, 65, 193), (127, 72, 29, 0, 69, 196), (130, 18, 1, 1, 0, 0), (133, 39, 54, -24, 0, 0), (136, 1, 0, 0, 0, 0), (137, 14, 1, 0, 0, 0), (138, 10, 1, 0, 0, 0), (139, 13, 0, 0, 0, 0), (140, 55, 4, 6, 34, 225), (143, 67, 0, 0, 0, 0), (144, 49, 82, 22, 0, 0), (147, 13, 0, 0, 0, 0), (148, 55, 4, 6, 34, 225), (151, 10, 1, 0, 0, 0), (152, 87, 2, 0, 32, 79), (155, 85, 0, 0, 0, 0), (156, 75, 57, 0, 73, 200), (159, 69, 0, 0, 0, 0), (160, 18, 1, 1, 0, 0), (163, 39, 68, -25, 0, 0), (166, 83, 0, 0, 0, 0)]
/-- BeatWords.type(I)I -/
def am_c1 : List am_Row := [(0, 10, 1, 0, 0, 0), (1, 42, 5, 10, 0, 0), (4, 10, 1, 0, 0, 0), (5, 3, 0, 255, 0, 0), (8, 51, 7, 6, 0, 0), (11, 2, 0, -2, 0, 0), (13, 79, 0, 0, 0, 0), (14, 13, 0, 0, 0, 0), (15, 55, 4, 10, 74, 229), (18, 2, 0, 60, 0, 0), (20, 48, 13, 6, 0, 0), (23, 2, 0, -4, 0, 0), (25, 79, 0, 0, 0, 0), (26, 13, 0, 0, 0, 0), (27, 55, 4, 0, 9, 219), (30, 13, 0, 0, 0, 0), (31, 55, 4, 10, 74, 229), (34, 10, 1, 0, 0, 0), (35, 72, 29, 0, 69, 196), (38, 13, 0, 0, 0, 0), (39, 85, 0, 0, 0, 0), (40, 55, 4, 10, 74, 229), (43, 1, 0, 1, 0, 0), (44, 19, 0, 0, 0, 0), (45, 57, 4, 10, 74, 229), (48, 13, 0, 0, 0, 0), (49, 70, 35, 0, 78, 554), (52, 13, 0, 0, 0, 0), (53, 55, 4, 10, 74, 229), (56, 79, 0, 0, 0, 0)]
/-- BeatWords.at([II)I -/
def am_c2 : List am_Row := [(0, 13, 0, 0, 0, 0), (1, 52, 12, 19, 0, 0), (4, 10, 1, 0, 0, 0), (5, 42, 12, 15, 0, 0), (8, 10, 1, 0, 0, 0), (9, 13, 0, 0, 0, 0), (10, 67, 0, 0, 0, 0), (11, 49, 12, 9, 0, 0), (14, 13, 0, 0, 0, 0), (15, 10, 1, 0, 0, 0), (16, 61, 0, 0, 0, 0), (17, 39, 13, 4, 0, 0), (20, 1, 0, 0, 0, 0), (21, 79, 0, 0, 0, 0)]
/-- BeatWords.at([II)I -/
def am_c3 : List am_Row := [(0, 13, 0, 0, 0, 0), (1, 52, 12, 19, 0, 0), (4, 10, 1, 0, 0, 0), (5, 42, 12, 15, 0, 0), (8, 10, 1, 0, 0, 0), (9, 13, 0, 0, 0, 0), (10, 67, 0, 0, 0, 0), (11, 49, 12, 9, 0, 0), (14, 13, 0, 0, 0, 0), (15, 10, 1, 0, 0, 0), (16, 61, 0, 0, 0, 0), (17, 39, 13, 4, 0, 0), (20, 1, 0, 0, 0, 0), (21, 79, 0, 0, 0, 0)]
/-- BeatWords.flaw()I -/
def am_c4 : List am_Row := [(0, 13, 0, 0, 0, 0), (1, 70, 36, 0, 101, 275), (4, 13, 0, 0, 0, 0), (5, 55, 4, 7, 41, 226), (8, 56, 0, 9, 104, 111), (11, 79, 0, 0, 0, 0)]
/-- BeatWords.way(II)I -/
def am_c5 : List am_Row := [(0, 10, 1, 0, 0, 0), (1, 42, 15, 31, 0, 0), (4, 10, 1, 0, 0, 0), (5, 2, 0, 9, 0, 0), (7, 49, 15, 25, 0, 0), (10, 10, 2, 0, 0, 0), (11, 60, 0, 0, 62, 191), (14, 10, 1, 0, 0, 0), (15, 72, 28, 0, 65, 193), (18, 48, 15, 14, 0, 0), (21, 10, 2, 0, 0, 0), (22, 60, 1, 0, 107, 412), (25, 10, 1, 0, 0, 0), (26, 72, 28, 0, 65, 193), (29, 51, 17, 6, 0, 0), (32, 2, 0, -2, 0, 0), (34, 79, 0, 0, 0, 0), (35, 13, 0, 0, 0, 0), (36, 55, 4, 1, 13, 220), (39, 10, 1, 0, 0, 0), (40, 72, 28, 0, 65, 193), (43, 14, 3, 0, 0, 0), (44, 13, 0, 0, 0, 0), (45, 55, 4, 1, 13, 220), (48, 10, 1, 0, 0, 0), (49, 10, 2, 0, 0, 0), (50, 72, 29, 0, 69, 196), (53, 13, 0, 0, 0, 0), (54, 70, 34, 0, 110, 414), (57, 10, 3, 0, 0, 0), (58, 79, 0, 0, 0, 0)]
/-- BeatWords.word(II)I -/
def am_c6 : List am_Row := [(0, 13, 0, 0, 0, 0), (1, 70, 36, 0, 101, 275), (4, 10, 1, 0, 0, 0), (5, 42, 9, 14, 0, 0), (8, 10, 1, 0, 0, 0), (9, 13, 0, 0, 0, 0), (10, 55, 4, 7, 41, 226), (13, 56, 0, 10, 113, 114), (16, 48, 11, 6, 0, 0), (19, 2, 0, -2, 0, 0), (21, 79, 0, 0, 0, 0), (22, 13, 0, 0, 0, 0), (23, 10, 1, 0, 0, 0), (24, 10, 2, 0, 0, 0), (25, 70, 42, 0, 116, 422), (28, 79, 0, 0, 0, 0)]
/-- BeatWords.syllable(II)I -/
def am_c7 : List am_Row := [(0, 13, 0, 0, 0, 0), (1, 70, 36, 0, 101, 275), (4, 10, 1, 0, 0, 0), (5, 42, 9, 14, 0, 0), (8, 10, 1, 0, 0, 0), (9, 13, 0, 0, 0, 0), (10, 55, 4, 7, 41, 226), (13, 56, 0, 11, 120, 117), (16, 48, 11, 6, 0, 0), (19, 2, 0, -2, 0, 0), (21, 79, 0, 0, 0, 0), (22, 13, 0, 0, 0, 0), (23, 10, 1, 0, 0, 0), (24, 10, 2, 0, 0, 0), (25, 70, 43, 0, 123, 435), (28, 79, 0, 0, 0, 0)]
/-- BeatWords.mark(II)I -/
def am_c8 : List am_Row := [(0, 13, 0, 0, 0, 0), (1, 70, 36, 0, 101, 275), (4, 10, 1, 0, 0, 0), (5, 42, 18, 33, 0, 0), (8, 10, 1, 0, 0, 0), (9, 13, 0, 0, 0, 0), (10, 55, 4, 7, 41, 226), (13, 56, 0, 10, 113, 114), (16, 49, 18, 22, 0, 0), (19, 10, 2, 0, 0, 0), (20, 42, 18, 18, 0, 0), (23, 10, 2, 0, 0, 0), (24, 13, 0, 0, 0, 0), (25, 55, 4, 7, 41, 226), (28, 56, 0, 3, 126, 96), (31, 10, 1, 0, 0, 0), (32, 72, 28, 0, 65, 193), (35, 48, 20, 6, 0, 0), (38, 2, 0, -2, 0, 0), (40, 79, 0, 0, 0, 0), (41, 13, 0, 0, 0, 0), (42, 55, 4, 5, 28, 224), (45, 13, 0, 0, 0, 0), (46, 55, 4, 0, 9, 219), (49, 13, 0, 0, 0, 0), (50, 55, 4, 7, 41, 226), (53, 56, 0, 0, 129, 88), (56, 10, 1, 0, 0, 0), (57, 72, 28, 0, 65, 193), (60, 13, 0, 0, 0, 0), (61, 55, 4, 7, 41, 226), (64, 56, 0, 1, 132, 90), (67, 10, 1, 0, 0, 0), (68, 72, 28, 0, 65, 193), (71, 10, 2, 0, 0, 0), (72, 71, 55, 0, 135, 443), (75, 41, 39, 6, 0, 0), (78, 2, 0, -4, 0, 0), (80, 79, 0, 0, 0, 0), (81, 13, 0, 0, 0, 0), (82, 70, 34, 0, 110, 414), (85, 13, 0, 0, 0, 0), (86, 55, 4, 5, 28, 224), (89, 56, 1, 3, 139, 68), (92, 79, 0, 0, 0, 0)]
/-- BeatWords.at([II)I -/
def am_c9 : List am_Row := [(0, 13, 0, 0, 0, 0), (1, 52, 12, 19, 0, 0), (4, 10, 1, 0, 0, 0), (5, 42, 12, 15, 0, 0), (8, 10, 1, 0, 0, 0), (9, 13, 0, 0, 0, 0), (10, 67, 0, 0, 0, 0), (11, 49, 12, 9, 0, 0), (14, 13, 0, 0, 0, 0), (15, 10, 1, 0, 0, 0), (16, 61, 0, 0, 0, 0), (17, 39, 13, 4, 0, 0), (20, 1, 0, 0, 0, 0), (21, 79, 0, 0, 0, 0)]
/-- BeatWords.marked(I)I -/
def am_c10 : List am_Row := [(0, 13, 0, 0, 0, 0), (1, 70, 36, 0, 101, 275), (4, 10, 1, 0, 0, 0), (5, 42, 9, 14, 0, 0), (8, 10, 1, 0, 0, 0), (9, 13, 0, 0, 0, 0), (10, 55, 4, 7, 41, 226), (13, 56, 0, 10, 113, 114), (16, 48, 11, 6, 0, 0), (19, 2, 0, -2, 0, 0), (21, 79, 0, 0, 0, 0), (22, 13, 0, 0, 0, 0), (23, 55, 4, 7, 41, 226), (26, 56, 0, 4, 148, 99), (29, 10, 1, 0, 0, 0), (30, 72, 28, 0, 65, 193), (33, 79, 0, 0, 0, 0)]
/-- BeatWords.at([II)I -/
def am_c11 : List am_Row := [(0, 13, 0, 0, 0, 0), (1, 52, 12, 19, 0, 0), (4, 10, 1, 0, 0, 0), (5, 42, 12, 15, 0, 0), (8, 10, 1, 0, 0, 0), (9, 13, 0, 0, 0, 0), (10, 67, 0, 0, 0, 0), (11, 49, 12, 9, 0, 0), (14, 13, 0, 0, 0, 0), (15, 10, 1, 0, 0, 0), (16, 61, 0, 0, 0, 0), (17, 39, 13, 4, 0, 0), (20, 1, 0, 0, 0, 0), (21, 79, 0, 0, 0, 0)]
/-- BeatWords.heard(I)I -/
def am_c12 : List am_Row := [(0, 13, 0, 0, 0, 0), (1, 70, 36, 0, 101, 275), (4, 13, 0, 0, 0, 0), (5, 10, 1, 0, 0, 0), (6, 70, 44, 0, 157, 457), (9, 79, 0, 0, 0, 0)]
/-- BeatWords.at([II)I -/
def am_c13 : List am_Row := [(0, 13, 0, 0, 0, 0), (1, 52, 12, 19, 0, 0), (4, 10, 1, 0, 0, 0), (5, 42, 12, 15, 0, 0), (8, 10, 1, 0, 0, 0), (9, 13, 0, 0, 0, 0), (10, 67, 0, 0, 0, 0), (11, 49, 12, 9, 0, 0), (14, 13, 0, 0, 0, 0), (15, 10, 1, 0, 0, 0), (16, 61, 0, 0, 0, 0), (17, 39, 13, 4, 0, 0), (20, 1, 0, 0, 0, 0), (21, 79, 0, 0, 0, 0)]
/-- BeatWords.copyHeard()I -/
def am_c14 : List am_Row := [(0, 13, 0, 0, 0, 0), (1, 70, 36, 0, 101, 275), (4, 1, 0, 0, 0, 0), (5, 14, 1, 0, 0, 0), (6, 10, 1, 0, 0, 0), (7, 13, 0, 0, 0, 0), (8, 55, 4, 7, 41, 226), (11, 56, 0, 11, 120, 117), (14, 49, 20, 28, 0, 0), (17, 13, 0, 0, 0, 0), (18, 55, 4, 3, 19, 222), (21, 10, 1, 0, 0, 0), (22, 13, 0, 0, 0, 0), (23, 55, 4, 8, 48, 227), (26, 56, 3, 4, 160, 156), (29, 10, 1, 0, 0, 0), (30, 72, 28, 0, 65, 193), (33, 72, 29, 0, 69, 196), (36, 18, 1, 1, 0, 0), (39, 39, 4, -33, 0, 0), (42, 13, 0, 0, 0, 0), (43, 1, 0, 1, 0, 0), (44, 57, 4, 16, 59, 235), (47, 13, 0, 0, 0, 0), (48, 70, 47, 0, 163, 465), (51, 79, 0, 0, 0, 0)]
/-- BeatWords.near()I -/
def am_c15 : List am_Row := [(0, 13, 0, 0, 0, 0), (1, 70, 36, 0, 101, 275), (4, 13, 0, 0, 0, 0), (5, 55, 4, 8, 48, 227), (8, 13, 0, 0, 0, 0), (9, 55, 4, 7, 41, 226), (12, 13, 0, 0, 0, 0), (13, 55, 4, 3, 19, 222), (16, 71, 95, 0, 167, 473), (19, 79, 0, 0, 0, 0)]
/-- BeatWords.nearest(I)I -/
def am_c16 : List am_Row := [(0, 10, 1, 0, 0, 0), (1, 42, 5, 8, 0, 0), (4, 10, 1, 0, 0, 0), (5, 1, 0, 4, 0, 0), (6, 51, 7, 6, 0, 0), (9, 2, 0, -2, 0, 0), (11, 79, 0, 0, 0, 0), (12, 13, 0, 0, 0, 0), (13, 70, 36, 0, 101, 275), (16, 13, 0, 0, 0, 0), (17, 70, 40, 0, 171, 481), (20, 13, 0, 0, 0, 0), (21, 10, 1, 0, 0, 0), (22, 70, 41, 0, 174, 488), (25, 79, 0, 0, 0, 0)]
/-- BeatWords.learn()I -/
def am_c17 : List am_Row := [(0, 13, 0, 0, 0, 0), (1, 70, 36, 0, 101, 275), (4, 13, 0, 0, 0, 0), (5, 70, 40, 0, 171, 481), (8, 1, 0, 4, 0, 0), (9, 14, 1, 0, 0, 0), (10, 10, 1, 0, 0, 0), (11, 2, 0, 7, 0, 0), (13, 50, 19, 25, 0, 0), (16, 13, 0, 0, 0, 0), (17, 55, 4, 1, 13, 220), (20, 10, 1, 0, 0, 0), (21, 13, 0, 0, 0, 0), (22, 55, 4, 13, 177, 232), (25, 10, 1, 0, 0, 0), (26, 72, 39, 0, 180, 485), (29, 72, 29, 0, 69, 196), (32, 18, 1, 1, 0, 0), (35, 39, 6, -25, 0, 0), (38, 13, 0, 0, 0, 0), (39, 70, 34, 0, 110, 414), (42, 13, 0, 0, 0, 0), (43, 55, 4, 14, 183, 233), (46, 79, 0, 0, 0, 0)]
/-- BeatWords.share(I)I -/
def am_c18 : List am_Row := [(0, 13, 0, 0, 0, 0), (1, 70, 36, 0, 101, 275), (4, 13, 0, 0, 0, 0), (5, 10, 1, 0, 0, 0), (6, 70, 49, 0, 186, 500), (9, 79, 0, 0, 0, 0)]
/-- BeatWords.text(I)I -/
def am_c19 : List am_Row := [(0, 13, 0, 0, 0, 0), (1, 70, 36, 0, 101, 275), (4, 10, 1, 0, 0, 0), (5, 1, 0, -1, 0, 0), (6, 47, 8, 8, 0, 0), (9, 13, 0, 0, 0, 0), (10, 55, 4, 11, 189, 230), (13, 79, 0, 0, 0, 0), (14, 10, 1, 0, 0, 0), (15, 42, 14, 11, 0, 0), (18, 10, 1, 0, 0, 0), (19, 13, 0, 0, 0, 0), (20, 55, 4, 11, 189, 230), (23, 48, 16, 6, 0, 0), (26, 2, 0, -2, 0, 0), (28, 79, 0, 0, 0, 0), (29, 13, 0, 0, 0, 0), (30, 55, 4, 4, 22, 223), (33, 10, 1, 0, 0, 0), (34, 72, 28, 0, 65, 193), (37, 79, 0, 0, 0, 0)]
/-- BeatWords.at([II)I -/
def am_c20 : List am_Row := [(0, 13, 0, 0, 0, 0), (1, 52, 12, 19, 0, 0), (4, 10, 1, 0, 0, 0), (5, 42, 12, 15, 0, 0), (8, 10, 1, 0, 0, 0), (9, 13, 0, 0, 0, 0), (10, 67, 0, 0, 0, 0), (11, 49, 12, 9, 0, 0), (14, 13, 0, 0, 0, 0), (15, 10, 1, 0, 0, 0), (16, 61, 0, 0, 0, 0), (17, 39, 13, 4, 0, 0), (20, 1, 0, 0, 0, 0), (21, 79, 0, 0, 0, 0)]
/-- BeatWords.at([II)I -/
def am_c21 : List am_Row := [(0, 13, 0, 0, 0, 0), (1, 52, 12, 19, 0, 0), (4, 10, 1, 0, 0, 0), (5, 42, 12, 15, 0, 0), (8, 10, 1, 0, 0, 0), (9, 13, 0, 0, 0, 0), (10, 67, 0, 0, 0, 0), (11, 49, 12, 9, 0, 0), (14, 13, 0, 0, 0, 0), (15, 10, 1, 0, 0, 0), (16, 61, 0, 0, 0, 0), (17, 39, 13, 4, 0, 0), (20, 1, 0, 0, 0, 0), (21, 79, 0, 0, 0, 0)]
/-- BeatWords.at([II)I -/
def am_c22 : List am_Row := [(0, 13, 0, 0, 0, 0), (1, 52, 12, 19, 0, 0), (4, 10, 1, 0, 0, 0), (5, 42, 12, 15, 0, 0), (8, 10, 1, 0, 0, 0), (9, 13, 0, 0, 0, 0), (10, 67, 0, 0, 0, 0), (11, 49, 12, 9, 0, 0), (14, 13, 0, 0, 0, 0), (15, 10, 1, 0, 0, 0), (16, 61, 0, 0, 0, 0), (17, 39, 13, 4, 0, 0), (20, 1, 0, 0, 0, 0), (21, 79, 0, 0, 0, 0)]
/-- BeatWords.at([II)I -/
def am_c23 : List am_Row := [(0, 13, 0, 0, 0, 0), (1, 52, 12, 19, 0, 0), (4, 10, 1, 0, 0, 0), (5, 42, 12, 15, 0, 0), (8, 10, 1, 0, 0, 0), (9, 13, 0, 0, 0, 0), (10, 67, 0, 0, 0, 0), (11, 49, 12, 9, 0, 0), (14, 13, 0, 0, 0, 0), (15, 10, 1, 0, 0, 0), (16, 61, 0, 0, 0, 0), (17, 39, 13, 4, 0, 0), (20, 1, 0, 0, 0, 0), (21, 79, 0, 0, 0, 0)]
/-- BeatWords.at([II)I -/
def am_c24 : List am_Row := [(0, 13, 0, 0, 0, 0), (1, 52, 12, 19, 0, 0), (4, 10, 1, 0, 0, 0), (5, 42, 12, 15, 0, 0), (8, 10, 1, 0, 0, 0), (9, 13, 0, 0, 0, 0), (10, 67, 0, 0, 0, 0), (11, 49, 12, 9, 0, 0), (14, 13, 0, 0, 0, 0), (15, 10, 1, 0, 0, 0), (16, 61, 0, 0, 0, 0), (17, 39, 13, 4, 0, 0), (20, 1, 0, 0, 0, 0), (21, 79, 0, 0, 0, 0)]
/-- BeatWords.at([II)I -/
def am_c25 : List am_Row := [(0, 13, 0, 0, 0, 0), (1, 52, 12, 19, 0, 0), (4, 10, 1, 0, 0, 0), (5, 42, 12, 15, 0, 0), (8, 10, 1, 0, 0, 0), (9, 13, 0, 0, 0, 0), (10, 67, 0, 0, 0, 0), (11, 49, 12, 9, 0, 0), (14, 13, 0, 0, 0, 0), (15, 10, 1, 0, 0, 0), (16, 61, 0, 0, 0, 0), (17, 39, 13, 4, 0, 0), (20, 1, 0, 0, 0, 0), (21, 79, 0, 0, 0, 0)]
/-- BeatWords.count(I)I -/
def am_c26 : List am_Row := [(0, 13, 0, 0, 0, 0), (1, 70, 36, 0, 101, 275), (4, 13, 0, 0, 0, 0), (5, 10, 1, 0, 0, 0), (6, 70, 45, 0, 224, 525), (9, 79, 0, 0, 0, 0)]
/-- BeatWords.at([II)I -/
def am_c27 : List am_Row := [(0, 13, 0, 0, 0, 0), (1, 52, 12, 19, 0, 0), (4, 10, 1, 0, 0, 0), (5, 42, 12, 15, 0, 0), (8, 10, 1, 0, 0, 0), (9, 13, 0, 0, 0, 0), (10, 67, 0, 0, 0, 0), (11, 49, 12, 9, 0, 0), (14, 13, 0, 0, 0, 0), (15, 10, 1, 0, 0, 0), (16, 61, 0, 0, 0, 0), (17, 39, 13, 4, 0, 0), (20, 1, 0, 0, 0, 0), (21, 79, 0, 0, 0, 0)]
/-- BeatWords.at([II)I -/
def am_c28 : List am_Row := [(0, 13, 0, 0, 0, 0), (1, 52, 12, 19, 0, 0), (4, 10, 1, 0, 0, 0), (5, 42, 12, 15, 0, 0), (8, 10, 1, 0, 0, 0), (9, 13, 0, 0, 0, 0), (10, 67, 0, 0, 0, 0), (11, 49, 12, 9, 0, 0), (14, 13, 0, 0, 0, 0), (15, 10, 1, 0, 0, 0), (16, 61, 0, 0, 0, 0), (17, 39, 13, 4, 0, 0), (20, 1, 0, 0, 0, 0), (21, 79, 0, 0, 0, 0)]
/-- BeatWords.set([III)V -/
def am_c29 : List am_Row := [(0, 13, 0, 0, 0, 0), (1, 52, 12, 17, 0, 0), (4, 10, 1, 0, 0, 0), (5, 42, 12, 13, 0, 0), (8, 10, 1, 0, 0, 0), (9, 13, 0, 0, 0, 0), (10, 67, 0, 0, 0, 0), (11, 49, 12, 7, 0, 0), (14, 13, 0, 0, 0, 0), (15, 10, 1, 0, 0, 0), (16, 10, 2, 0, 0, 0), (17, 62, 0, 0, 0, 0), (18, 83, 0, 0, 0, 0)]
/-- BeatWords.isVowel(I)Z -/
def am_c30 : List am_Row := [(0, 10, 0, 0, 0, 0), (1, 2, 0, 97, 0, 0), (3, 46, 15, 27, 0, 0), (6, 10, 0, 0, 0, 0), (7, 2, 0, 101, 0, 0), (9, 46, 15, 21, 0, 0), (12, 10, 0, 0, 0, 0), (13, 2, 0, 105, 0, 0), (15, 46, 15, 15, 0, 0), (18, 10, 0, 0, 0, 0), (19, 2, 0, 111, 0, 0), (21, 46, 15, 9, 0, 0), (24, 10, 0, 0, 0, 0), (25, 2, 0, 117, 0, 0), (27, 47, 17, 7, 0, 0), (30, 1, 0, 1, 0, 0), (31, 39, 18, 4, 0, 0), (34, 1, 0, 0, 0, 0), (35, 84, 0, 0, 0, 0)]
/-- BeatWords.at([II)I -/
def am_c31 : List am_Row := [(0, 13, 0, 0, 0, 0), (1, 52, 12, 19, 0, 0), (4, 10, 1, 0, 0, 0), (5, 42, 12, 15, 0, 0), (8, 10, 1, 0, 0, 0), (9, 13, 0, 0, 0, 0), (10, 67, 0, 0, 0, 0), (11, 49, 12, 9, 0, 0), (14, 13, 0, 0, 0, 0), (15, 10, 1, 0, 0, 0), (16, 61, 0, 0, 0, 0), (17, 39, 13, 4, 0, 0), (20, 1, 0, 0, 0, 0), (21, 79, 0, 0, 0, 0)]
/-- BeatWords.at([II)I -/
def am_c32 : List am_Row := [(0, 13, 0, 0, 0, 0), (1, 52, 12, 19, 0, 0), (4, 10, 1, 0, 0, 0), (5, 42, 12, 15, 0, 0), (8, 10, 1, 0, 0, 0), (9, 13, 0, 0, 0, 0), (10, 67, 0, 0, 0, 0), (11, 49, 12, 9, 0, 0), (14, 13, 0, 0, 0, 0), (15, 10, 1, 0, 0, 0), (16, 61, 0, 0, 0, 0), (17, 39, 13, 4, 0, 0), (20, 1, 0, 0, 0, 0), (21, 79, 0, 0, 0, 0)]
/-- BeatWords.at([II)I -/
def am_c33 : List am_Row := [(0, 13, 0, 0, 0, 0), (1, 52, 12, 19, 0, 0), (4, 10, 1, 0, 0, 0), (5, 42, 12, 15, 0, 0), (8, 10, 1, 0, 0, 0), (9, 13, 0, 0, 0, 0), (10, 67, 0, 0, 0, 0), (11, 49, 12, 9, 0, 0), (14, 13, 0, 0, 0, 0), (15, 10, 1, 0, 0, 0), (16, 61, 0, 0, 0, 0), (17, 39, 13, 4, 0, 0), (20, 1, 0, 0, 0, 0), (21, 79, 0, 0, 0, 0)]
/-- BeatWords.changed()V -/
def am_c34 : List am_Row := [(0, 13, 0, 0, 0, 0), (1, 1, 0, 1, 0, 0), (2, 57, 4, 15, 55, 234), (5, 13, 0, 0, 0, 0), (6, 1, 0, 1, 0, 0), (7, 57, 4, 16, 59, 235), (10, 83, 0, 0, 0, 0)]
/-- BeatWords.textChanged()V -/
def am_c35 : List am_Row := [(0, 1, 0, 0, 0, 0), (1, 14, 1, 0, 0, 0), (2, 10, 1, 0, 0, 0), (3, 2, 0, 60, 0, 0), (5, 49, 12, 18, 0, 0), (8, 13, 0, 0, 0, 0), (9, 55, 4, 3, 19, 222), (12, 10, 1, 0, 0, 0), (13, 1, 0, 0, 0, 0), (14, 72, 29, 0, 69, 196), (17, 18, 1, 1, 0, 0), (20, 39, 2, -18, 0, 0), (23, 13, 0, 0, 0, 0), (24, 70, 34, 0, 110, 414), (27, 83, 0, 0, 0, 0)]
/-- BeatWords.refresh()V -/
def am_c36 : List am_Row := [(0, 13, 0, 0, 0, 0), (1, 55, 4, 15, 55, 234), (4, 41, 4, 4, 0, 0), (7, 83, 0, 0, 0, 0), (8, 13, 0, 0, 0, 0), (9, 1, 0, 0, 0, 0), (10, 57, 4, 15, 55, 234), (13, 13, 0, 0, 0, 0), (14, 55, 4, 7, 41, 226), (17, 13, 0, 0, 0, 0), (18, 55, 4, 0, 9, 219), (21, 13, 0, 0, 0, 0), (22, 55, 4, 10, 74, 229), (25, 13, 0, 0, 0, 0), (26, 55, 4, 1, 13, 220), (29, 71, 66, 0, 238, 279), (32, 13, 0, 0, 0, 0), (33, 55, 4, 7, 41, 226), (36, 13, 0, 0, 0, 0), (37, 55, 4, 5, 28, 224), (40, 13, 0, 0, 0, 0), (41, 55, 4, 0, 9, 219), (44, 71, 72, 0, 242, 309), (47, 13, 0, 0, 0, 0), (48, 55, 4, 8, 48, 227), (51, 13, 0, 0, 0, 0), (52, 55, 4, 7, 41, 226), (55, 13, 0, 0, 0, 0), (56, 55, 4, 1, 13, 220), (59, 71, 77, 0, 246, 322), (62, 13, 0, 0, 0, 0), (63, 55, 4, 8, 48, 227), (66, 13, 0, 0, 0, 0), (67, 55, 4, 7, 41, 226), (70, 13, 0, 0, 0, 0), (71, 55, 4, 1, 13, 220), (74, 2, 0, 8, 0, 0), (76, 72, 28, 0, 65, 193), (79, 71, 86, 0, 249, 366), (82, 13, 0, 0, 0, 0), (83, 55, 4, 8, 48, 227), (86, 13, 0, 0, 0, 0), (87, 55, 4, 7, 41, 226), (90, 13, 0, 0, 0, 0), (91, 55, 4, 1, 13, 220), (94, 2, 0, 8, 0, 0), (96, 72, 28, 0, 65, 193), (99, 71, 93, 0, 253, 396), (102, 13, 0, 0, 0, 0), (103, 70, 37, 0, 256, 400), (106, 83, 0, 0, 0, 0)]
/-- BeatWords.show()V -/
def am_c37 : List am_Row := [(0, 13, 0, 0, 0, 0), (1, 1, 0, 0, 0, 0), (2, 57, 4, 11, 189, 230), (5, 1, 0, 0, 0, 0), (6, 14, 1, 0, 0, 0), (7, 10, 1, 0, 0, 0), (8, 13, 0, 0, 0, 0), (9, 55, 4, 7, 41, 226), (12, 56, 0, 11, 120, 117), (15, 49, 71, 135, 0, 0), (18, 13, 0, 0, 0, 0), (19, 55, 4, 7, 41, 226), (22, 56, 0, 5, 259, 102), (25, 10, 1, 0, 0, 0), (26, 72, 28, 0, 65, 193), (29, 14, 2, 0, 0, 0), (30, 10, 1, 0, 0, 0), (31, 13, 0, 0, 0, 0), (32, 55, 4, 7, 41, 226), (35, 56, 0, 2, 262, 93), (38, 10, 2, 0, 0, 0), (39, 72, 28, 0, 65, 193), (42, 51, 27, 12, 0, 0), (45, 13, 0, 0, 0, 0), (46, 2, 0, 46, 0, 0), (48, 70, 38, 0, 265, 404), (51, 39, 32, 13, 0, 0), (54, 10, 2, 0, 0, 0), (55, 45, 32, 9, 0, 0), (58, 13, 0, 0, 0, 0), (59, 2, 0, 32, 0, 0), (61, 70, 38, 0, 265, 404), (64, 13, 0, 0, 0, 0), (65, 55, 4, 8, 48, 227), (68, 56, 3, 4, 160, 156), (71, 10, 1, 0, 0, 0), (72, 72, 28, 0, 65, 193), (75, 14, 3, 0, 0, 0), (76, 10, 3, 0, 0, 0), (77, 45, 48, 19, 0, 0), (80, 13, 0, 0, 0, 0), (81, 10, 3, 0, 0, 0), (82, 1, 0, 2, 0, 0), (83, 47, 46, 8, 0, 0), (86, 2, 0, 39, 0, 0), (88, 39, 47, 5, 0, 0), (91, 2, 0, 44, 0, 0), (93, 70, 38, 0, 265, 404), (96, 13, 0, 0, 0, 0), (97, 55, 4, 7, 41, 226), (100, 56, 0, 6, 268, 104), (103, 10, 1, 0, 0, 0), (104, 72, 28, 0, 65, 193), (107, 14, 4, 0, 0, 0), (109, 10, 4, 0, 0, 0), (111, 13, 0, 0, 0, 0), (112, 55, 4, 7, 41, 226), (115, 56, 0, 7, 271, 106), (118, 10, 1, 0, 0, 0), (119, 72, 28, 0, 65, 193), (122, 49, 69, 22, 0, 0), (125, 13, 0, 0, 0, 0), (126, 13, 0, 0, 0, 0), (127, 55, 4, 0, 9, 219), (130, 10, 4, 0, 0, 0), (132, 72, 28, 0, 65, 193), (135, 70, 38, 0, 265, 404), (138, 18, 4, 1, 0, 0), (141, 39, 54, -32, 0, 0), (144, 18, 1, 1, 0, 0), (147, 39, 5, -140, 0, 0), (150, 83, 0, 0, 0, 0)]
/-- BeatWords.showByte(I)V -/
def am_c38 : List am_Row := [(0, 13, 0, 0, 0, 0), (1, 55, 4, 4, 22, 223), (4, 13, 0, 0, 0, 0), (5, 55, 4, 11, 189, 230), (8, 10, 1, 0, 0, 0), (9, 72, 29, 0, 69, 196), (12, 13, 0, 0, 0, 0), (13, 85, 0, 0, 0, 0), (14, 55, 4, 11, 189, 230), (17, 1, 0, 1, 0, 0), (18, 19, 0, 0, 0, 0), (19, 57, 4, 11, 189, 230), (22, 83, 0, 0, 0, 0)]
/-- BeatWords.footWay(II)I -/
def am_c39 : List am_Row := [(0, 10, 1, 0, 0, 0), (1, 54, 0, 0, 0, 0), (28, 10, 0, 0, 0, 0), (29, 2, 0, 12, 0, 0), (31, 22, 0, 0, 0, 0), (32, 79, 0, 0, 0, 0), (33, 10, 0, 0, 0, 0), (34, 2, 0, 6, 0, 0), (36, 22, 0, 0, 0, 0), (37, 1, 0, 2, 0, 0), (38, 23, 0, 0, 0, 0), (39, 79, 0, 0, 0, 0), (40, 10, 0, 0, 0, 0), (41, 1, 0, 3, 0, 0), (42, 22, 0, 0, 0, 0), (43, 1, 0, 2, 0, 0), (44, 23, 0, 0, 0, 0), (45, 79, 0, 0, 0, 0), (46, 10, 0, 0, 0, 0), (47, 1, 0, 3, 0, 0), (48, 23, 0, 0, 0, 0), (49, 79, 0, 0, 0, 0)]
/-- BeatWords.seekNearest()V -/
def am_c40 : List am_Row := [(0, 13, 0, 0, 0, 0), (1, 55, 4, 16, 59, 235), (4, 41, 4, 4, 0, 0), (7, 83, 0, 0, 0, 0), (8, 13, 0, 0, 0, 0), (9, 1, 0, 0, 0, 0), (10, 57, 4, 16, 59, 235), (13, 1, 0, 0, 0, 0), (14, 14, 1, 0, 0, 0), (15, 10, 1, 0, 0, 0), (16, 2, 0, 9, 0, 0), (18, 49, 22, 25, 0, 0), (21, 13, 0, 0, 0, 0), (22, 55, 4, 2, 16, 221), (25, 10, 1, 0, 0, 0), (26, 13, 0, 0, 0, 0), (27, 55, 4, 1, 13, 220), (30, 10, 1, 0, 0, 0), (31, 72, 28, 0, 65, 193), (34, 72, 29, 0, 69, 196), (37, 18, 1, 1, 0, 0), (40, 39, 9, -25, 0, 0), (43, 13, 0, 0, 0, 0), (44, 1, 0, -1, 0, 0), (45, 57, 4, 14, 183, 233), (48, 1, 0, 0, 0, 0), (49, 14, 1, 0, 0, 0), (50, 10, 1, 0, 0, 0), (51, 2, 0, 36, 0, 0), (53, 49, 80, 105, 0, 0), (56, 1, 0, 4, 0, 0), (57, 14, 2, 0, 0, 0), (58, 10, 2, 0, 0, 0), (59, 2, 0, 7, 0, 0), (61, 50, 44, 22, 0, 0), (64, 13, 0, 0, 0, 0), (65, 55, 4, 2, 16, 221), (68, 10, 2, 0, 0, 0), (69, 10, 1, 0, 0, 0), (70, 10, 2, 0, 0, 0), (71, 72, 39, 0, 180, 485), (74, 72, 29, 0, 69, 196), (77, 18, 2, 1, 0, 0), (80, 39, 32, -22, 0, 0), (83, 13, 0, 0, 0, 0), (84, 55, 4, 9, 52, 228), (87, 13, 0, 0, 0, 0), (88, 55, 4, 7, 41, 226), (91, 13, 0, 0, 0, 0), (92, 55, 4, 2, 16, 221), (95, 71, 77, 0, 246, 322), (98, 13, 0, 0, 0, 0), (99, 55, 4, 9, 52, 228), (102, 13, 0, 0, 0, 0), (103, 55, 4, 7, 41, 226), (106, 13, 0, 0, 0, 0), (107, 55, 4, 1, 13, 220), (110, 2, 0, 8, 0, 0), (112, 72, 28, 0, 65, 193), (115, 71, 86, 0, 249, 366), (118, 13, 0, 0, 0, 0), (119, 55, 4, 9, 52, 228), (122, 13, 0, 0, 0, 0), (123, 55, 4, 7, 41, 226), (126, 13, 0, 0, 0, 0), (127, 55, 4, 3, 19, 222), (130, 71, 95, 0, 167, 473), (133, 14, 2, 0, 0, 0), (134, 10, 2, 0, 0, 0), (135, 13, 0, 0, 0, 0), (136, 55, 4, 14, 183, 233), (139, 51, 78, 13, 0, 0), (142, 13, 0, 0, 0, 0), (143, 10, 2, 0, 0, 0), (144, 57, 4, 14, 183, 233), (147, 13, 0, 0, 0, 0), (148, 10, 1, 0, 0, 0), (149, 57, 4, 13, 177, 232), (152, 18, 1, 1, 0, 0), (155, 39, 27, -105, 0, 0), (158, 83, 0, 0, 0, 0)]
/-- BeatWords.ofNearest(I)I -/
def am_c41 : List am_Row := [(0, 10, 1, 0, 0, 0), (1, 1, 0, 4, 0, 0), (2, 47, 6, 10, 0, 0), (5, 13, 0, 0, 0, 0), (6, 55, 4, 14, 183, 233), (9, 39, 12, 13, 0, 0), (12, 13, 0, 0, 0, 0), (13, 55, 4, 13, 177, 232), (16, 1, 0, 4, 0, 0), (17, 10, 1, 0, 0, 0), (18, 19, 0, 0, 0, 0), (19, 72, 39, 0, 180, 485), (22, 79, 0, 0, 0, 0)]
/-- BeatWords.ofWord(II)I -/
def am_c42 : List am_Row := [(0, 10, 2, 0, 0, 0), (1, 54, 1, 0, 0, 0), (40, 13, 0, 0, 0, 0), (41, 55, 4, 7, 41, 226), (44, 56, 0, 2, 262, 93), (47, 10, 1, 0, 0, 0), (48, 72, 28, 0, 65, 193), (51, 79, 0, 0, 0, 0), (52, 13, 0, 0, 0, 0), (53, 55, 4, 7, 41, 226), (56, 56, 0, 3, 126, 96), (59, 10, 1, 0, 0, 0), (60, 72, 28, 0, 65, 193), (63, 79, 0, 0, 0, 0), (64, 13, 0, 0, 0, 0), (65, 55, 4, 8, 48, 227), (68, 56, 3, 6, 274, 159), (71, 10, 1, 0, 0, 0), (72, 72, 28, 0, 65, 193), (75, 79, 0, 0, 0, 0), (76, 13, 0, 0, 0, 0), (77, 55, 4, 8, 48, 227), (80, 13, 0, 0, 0, 0), (81, 55, 4, 7, 41, 226), (84, 13, 0, 0, 0, 0), (85, 55, 4, 8, 48, 227), (88, 56, 3, 3, 277, 154), (91, 10, 1, 0, 0, 0), (92, 71, 94, 0, 280, 426), (95, 79, 0, 0, 0, 0), (96, 13, 0, 0, 0, 0), (97, 55, 4, 8, 48, 227), (100, 13, 0, 0, 0, 0), (101, 55, 4, 7, 41, 226), (104, 13, 0, 0, 0, 0), (105, 55, 4, 8, 48, 227), (108, 56, 3, 4, 160, 156), (111, 10, 1, 0, 0, 0), (112, 71, 94, 0, 280, 426), (115, 79, 0, 0, 0, 0), (116, 13, 0, 0, 0, 0), (117, 55, 4, 7, 41, 226), (120, 10, 1, 0, 0, 0), (121, 71, 73, 0, 284, 430), (124, 40, 47, 7, 0, 0), (127, 1, 0, 1, 0, 0), (128, 39, 48, 4, 0, 0), (131, 1, 0, 0, 0, 0), (132, 79, 0, 0, 0, 0), (133, 2, 0, -2, 0, 0), (135, 79, 0, 0, 0, 0)]
/-- BeatWords.ofSyllable(II)I -/
def am_c43 : List am_Row := [(0, 10, 2, 0, 0, 0), (1, 54, 2, 0, 0, 0), (48, 13, 0, 0, 0, 0), (49, 55, 4, 7, 41, 226), (52, 56, 0, 5, 259, 102), (55, 10, 1, 0, 0, 0), (56, 72, 28, 0, 65, 193), (59, 79, 0, 0, 0, 0), (60, 13, 0, 0, 0, 0), (61, 55, 4, 7, 41, 226), (64, 56, 0, 6, 268, 104), (67, 10, 1, 0, 0, 0), (68, 72, 28, 0, 65, 193), (71, 79, 0, 0, 0, 0), (72, 13, 0, 0, 0, 0), (73, 55, 4, 7, 41, 226), (76, 56, 0, 7, 271, 106), (79, 10, 1, 0, 0, 0), (80, 72, 28, 0, 65, 193), (83, 13, 0, 0, 0, 0), (84, 55, 4, 7, 41, 226), (87, 56, 0, 6, 268, 104), (90, 10, 1, 0, 0, 0), (91, 72, 28, 0, 65, 193), (94, 20, 0, 0, 0, 0), (95, 79, 0, 0, 0, 0), (96, 13, 0, 0, 0, 0), (97, 55, 4, 7, 41, 226), (100, 56, 0, 8, 221, 109), (103, 10, 1, 0, 0, 0), (104, 72, 28, 0, 65, 193), (107, 79, 0, 0, 0, 0), (108, 13, 0, 0, 0, 0), (109, 55, 4, 8, 48, 227), (112, 56, 3, 2, 287, 152), (115, 10, 1, 0, 0, 0), (116, 72, 28, 0, 65, 193), (119, 79, 0, 0, 0, 0), (120, 13, 0, 0, 0, 0), (121, 55, 4, 8, 48, 227), (124, 56, 3, 3, 277, 154), (127, 10, 1, 0, 0, 0), (128, 72, 28, 0, 65, 193), (131, 79, 0, 0, 0, 0), (132, 13, 0, 0, 0, 0), (133, 55, 4, 8, 48, 227), (136, 56, 3, 4, 160, 156), (139, 10, 1, 0, 0, 0), (140, 72, 28, 0, 65, 193), (143, 79, 0, 0, 0, 0), (144, 13, 0, 0, 0, 0), (145, 55, 4, 3, 19, 222), (148, 10, 1, 0, 0, 0), (149, 72, 28, 0, 65, 193), (152, 79, 0, 0, 0, 0), (153, 2, 0, -2, 0, 0), (155, 79, 0, 0, 0, 0)]
/-- BeatWords.ofHearing(I)I -/
def am_c44 : List am_Row := [(0, 10, 1, 0, 0, 0), (1, 54, 3, 0, 0, 0), (32, 13, 0, 0, 0, 0), (33, 55, 4, 8, 48, 227), (36, 56, 3, 10, 290, 167), (39, 79, 0, 0, 0, 0), (40, 13, 0, 0, 0, 0), (41, 55, 4, 8, 48, 227), (44, 56, 3, 9, 293, 165), (47, 79, 0, 0, 0, 0), (48, 13, 0, 0, 0, 0), (49, 55, 4, 8, 48, 227), (52, 56, 3, 7, 151, 161), (55, 79, 0, 0, 0, 0), (56, 13, 0, 0, 0, 0), (57, 55, 4, 8, 48, 227), (60, 56, 3, 8, 296, 163), (63, 79, 0, 0, 0, 0), (64, 2, 0, -2, 0, 0), (66, 79, 0, 0, 0, 0)]
/-- BeatWords.countOf(I)I -/
def am_c45 : List am_Row := [(0, 10, 1, 0, 0, 0), (1, 54, 4, 0, 0, 0), (52, 13, 0, 0, 0, 0), (53, 55, 4, 10, 74, 229), (56, 79, 0, 0, 0, 0), (57, 13, 0, 0, 0, 0), (58, 55, 4, 7, 41, 226), (61, 56, 0, 10, 113, 114), (64, 79, 0, 0, 0, 0), (65, 13, 0, 0, 0, 0), (66, 55, 4, 7, 41, 226), (69, 56, 0, 11, 120, 117), (72, 79, 0, 0, 0, 0), (73, 13, 0, 0, 0, 0), (74, 70, 46, 0, 299, 529), (77, 79, 0, 0, 0, 0), (78, 13, 0, 0, 0, 0), (79, 55, 4, 7, 41, 226), (82, 71, 75, 0, 302, 508), (85, 79, 0, 0, 0, 0), (86, 13, 0, 0, 0, 0), (87, 55, 4, 5, 28, 224), (90, 56, 1, 3, 139, 68), (93, 79, 0, 0, 0, 0), (94, 13, 0, 0, 0, 0), (95, 70, 47, 0, 163, 465), (98, 79, 0, 0, 0, 0), (99, 13, 0, 0, 0, 0), (100, 1, 0, 0, 0, 0), (101, 70, 48, 0, 305, 513), (104, 79, 0, 0, 0, 0), (105, 13, 0, 0, 0, 0), (106, 55, 4, 12, 235, 231), (109, 79, 0, 0, 0, 0), (110, 2, 0, -2, 0, 0), (112, 79, 0, 0, 0, 0)]
/-- BeatWords.feetOfAll()I -/
def am_c46 : List am_Row := [(0, 1, 0, 0, 0, 0), (1, 14, 1, 0, 0, 0), (2, 1, 0, 0, 0, 0), (3, 14, 2, 0, 0, 0), (4, 10, 2, 0, 0, 0), (5, 13, 0, 0, 0, 0), (6, 55, 4, 7, 41, 226), (9, 56, 0, 10, 113, 114), (12, 49, 19, 23, 0, 0), (15, 10, 1, 0, 0, 0), (16, 13, 0, 0, 0, 0), (17, 55, 4, 8, 48, 227), (20, 56, 3, 6, 274, 159), (23, 10, 2, 0, 0, 0), (24, 72, 28, 0, 65, 193), (27, 19, 0, 0, 0, 0), (28, 14, 1, 0, 0, 0), (29, 18, 2, 1, 0, 0), (32, 39, 4, -28, 0, 0), (35, 10, 1, 0, 0, 0), (36, 79, 0, 0, 0, 0)]
/-- BeatWords.heardBeats()I -/
def am_c47 : List am_Row := [(0, 1, 0, 0, 0, 0), (1, 14, 1, 0, 0, 0), (2, 1, 0, 0, 0, 0), (3, 14, 2, 0, 0, 0), (4, 10, 2, 0, 0, 0), (5, 13, 0, 0, 0, 0), (6, 55, 4, 7, 41, 226), (9, 56, 0, 11, 120, 117), (12, 49, 18, 26, 0, 0), (15, 13, 0, 0, 0, 0), (16, 55, 4, 8, 48, 227), (19, 56, 3, 4, 160, 156), (22, 10, 2, 0, 0, 0), (23, 72, 28, 0, 65, 193), (26, 40, 16, 6, 0, 0), (29, 18, 1, 1, 0, 0), (32, 18, 2, 1, 0, 0), (35, 39, 4, -31, 0, 0), (38, 10, 1, 0, 0, 0), (39, 79, 0, 0, 0, 0)]
/-- BeatWords.morasOf(Z)I -/
def am_c48 : List am_Row := [(0, 1, 0, 0, 0, 0), (1, 14, 2, 0, 0, 0), (2, 1, 0, 0, 0, 0), (3, 14, 3, 0, 0, 0), (4, 10, 3, 0, 0, 0), (5, 13, 0, 0, 0, 0), (6, 55, 4, 7, 41, 226), (9, 56, 0, 11, 120, 117), (12, 49, 27, 41, 0, 0), (15, 10, 1, 0, 0, 0), (16, 40, 17, 17, 0, 0), (19, 13, 0, 0, 0, 0), (20, 55, 4, 8, 48, 227), (23, 56, 3, 4, 160, 156), (26, 10, 3, 0, 0, 0), (27, 72, 28, 0, 65, 193), (30, 40, 25, 17, 0, 0), (33, 10, 2, 0, 0, 0), (34, 13, 0, 0, 0, 0), (35, 55, 4, 7, 41, 226), (38, 56, 0, 8, 221, 109), (41, 10, 3, 0, 0, 0), (42, 72, 28, 0, 65, 193), (45, 19, 0, 0, 0, 0), (46, 14, 2, 0, 0, 0), (47, 18, 3, 1, 0, 0), (50, 39, 4, -46, 0, 0), (53, 10, 2, 0, 0, 0), (54, 79, 0, 0, 0, 0)]
/-- BeatWords.shareBits(I)I -/
def am_c49 : List am_Row := [(0, 10, 1, 0, 0, 0), (1, 54, 5, 0, 0, 0), (28, 13, 0, 0, 0, 0), (29, 55, 4, 8, 48, 227), (32, 13, 0, 0, 0, 0), (33, 55, 4, 7, 41, 226), (36, 13, 0, 0, 0, 0), (37, 55, 4, 3, 19, 222), (40, 71, 95, 0, 167, 473), (43, 13, 0, 0, 0, 0), (44, 55, 4, 7, 41, 226), (47, 56, 0, 11, 120, 117), (50, 72, 50, 0, 309, 504), (53, 79, 0, 0, 0, 0), (54, 13, 0, 0, 0, 0), (55, 55, 4, 7, 41, 226), (58, 71, 75, 0, 302, 508), (61, 13, 0, 0, 0, 0), (62, 55, 4, 7, 41, 226), (65, 56, 0, 11, 120, 117), (68, 72, 50, 0, 309, 504), (71, 79, 0, 0, 0, 0), (72, 13, 0, 0, 0, 0), (73, 1, 0, 1, 0, 0), (74, 70, 48, 0, 305, 513), (77, 13, 0, 0, 0, 0), (78, 1, 0, 0, 0, 0), (79, 70, 48, 0, 305, 513), (82, 72, 50, 0, 309, 504), (85, 79, 0, 0, 0, 0), (86, 1, 0, 0, 0, 0), (87, 79, 0, 0, 0, 0)]
/-- BeatWords.bitsOf(II)I -/
def am_c50 : List am_Row := [(0, 10, 0, 0, 0, 0), (1, 45, 4, 7, 0, 0), (4, 10, 1, 0, 0, 0), (5, 44, 6, 5, 0, 0), (8, 1, 0, 0, 0, 0), (9, 79, 0, 0, 0, 0), (10, 10, 0, 0, 0, 0), (11, 30, 0, 0, 0, 0), (12, 10, 1, 0, 0, 0), (13, 30, 0, 0, 0, 0), (14, 36, 0, 0, 0, 0), (15, 16, 2, 0, 0, 0), (16, 2, 0, 127, 0, 0), (18, 14, 3, 0, 0, 0), (19, 1, 0, 0, 0, 0), (20, 14, 4, 0, 0, 0), (22, 10, 4, 0, 0, 0), (24, 2, 0, 126, 0, 0), (26, 49, 30, 22, 0, 0), (29, 12, 2, 0, 0, 0), (30, 6, 0, 0, 0, 0), (31, 38, 1, 0, 0, 0), (32, 43, 30, 16, 0, 0), (35, 12, 2, 0, 0, 0), (36, 7, 0, 0, 0, 0), (37, 35, 0, 0, 0, 0), (38, 16, 2, 0, 0, 0), (39, 18, 3, -1, 0, 0), (42, 18, 4, 1, 0, 0), (45, 39, 16, -23, 0, 0), (48, 10, 3, 0, 0, 0), (49, 2, 0, 23, 0, 0), (51, 27, 0, 0, 0, 0), (52, 12, 2, 0, 0, 0), (53, 6, 0, 0, 0, 0), (54, 37, 0, 0, 0, 0), (55, 8, 1258291200, 0, 312, 507), (58, 35, 0, 0, 0, 0), (59, 31, 0, 0, 0, 0), (60, 26, 0, 0, 0, 0), (61, 79, 0, 0, 0, 0)]
/-- BeatWords.at([II)I -/
def am_c51 : List am_Row := [(0, 13, 0, 0, 0, 0), (1, 52, 12, 19, 0, 0), (4, 10, 1, 0, 0, 0), (5, 42, 12, 15, 0, 0), (8, 10, 1, 0, 0, 0), (9, 13, 0, 0, 0, 0), (10, 67, 0, 0, 0, 0), (11, 49, 12, 9, 0, 0), (14, 13, 0, 0, 0, 0), (15, 10, 1, 0, 0, 0), (16, 61, 0, 0, 0, 0), (17, 39, 13, 4, 0, 0), (20, 1, 0, 0, 0, 0), (21, 79, 0, 0, 0, 0)]
/-- BeatWords$Lexicon.<init>()V -/
def am_c52 : List am_Row := [(0, 13, 0, 0, 0, 0), (1, 76, 0, 0, 3, 62), (4, 13, 0, 0, 0, 0), (5, 3, 0, 360, 0, 0), (8, 88, 0, 0, 0, 0), (10, 59, 1, 0, 9, 63), (13, 13, 0, 0, 0, 0), (14, 2, 0, 6, 0, 0), (16, 88, 0, 0, 0, 0), (18, 59, 1, 1, 15, 64), (21, 13, 0, 0, 0, 0), (22, 2, 0, 6, 0, 0), (24, 88, 0, 0, 0, 0), (26, 59, 1, 2, 18, 65), (29, 83, 0, 0, 0, 0)]
/-- BeatWords$Lexicon.find([III)I -/
def am_c53 : List am_Row := [(0, 1, 0, 0, 0, 0), (1, 14, 4, 0, 0, 0), (3, 10, 4, 0, 0, 0), (5, 13, 0, 0, 0, 0), (6, 55, 1, 3, 21, 67), (9, 49, 25, 39, 0, 0), (12, 13, 0, 0, 0, 0), (13, 55, 1, 1, 15, 64), (16, 10, 4, 0, 0, 0), (18, 73, 28, 0, 25, 317), (21, 10, 3, 0, 0, 0), (22, 10, 2, 0, 0, 0), (23, 20, 0, 0, 0, 0), (24, 47, 23, 18, 0, 0), (27, 13, 0, 0, 0, 0), (28, 10, 4, 0, 0, 0), (30, 13, 1, 0, 0, 0), (31, 10, 2, 0, 0, 0), (32, 10, 3, 0, 0, 0), (33, 70, 54, 0, 29, 318), (36, 40, 23, 6, 0, 0), (39, 10, 4, 0, 0, 0), (41, 79, 0, 0, 0, 0), (42, 18, 4, 1, 0, 0), (45, 39, 2, -42, 0, 0), (48, 1, 0, -1, 0, 0), (49, 79, 0, 0, 0, 0)]
/-- BeatWords$Lexicon.isText(I[III)Z -/
def am_c54 : List am_Row := [(0, 10, 3, 0, 0, 0), (1, 14, 5, 0, 0, 0), (3, 10, 5, 0, 0, 0), (5, 10, 4, 0, 0, 0), (7, 49, 23, 36, 0, 0), (10, 13, 0, 0, 0, 0), (11, 55, 1, 0, 9, 63), (14, 10, 1, 0, 0, 0), (15, 2, 0, 60, 0, 0), (17, 21, 0, 0, 0, 0), (18, 10, 5, 0, 0, 0), (20, 19, 0, 0, 0, 0), (21, 10, 3, 0, 0, 0), (22, 20, 0, 0, 0, 0), (23, 73, 28, 0, 25, 317), (26, 13, 2, 0, 0, 0), (27, 10, 5, 0, 0, 0), (29, 73, 28, 0, 25, 317), (32, 46, 21, 5, 0, 0), (35, 1, 0, 0, 0, 0), (36, 84, 0, 0, 0, 0), (37, 18, 5, 1, 0, 0), (40, 39, 2, -37, 0, 0), (43, 1, 0, 1, 0, 0), (44, 84, 0, 0, 0, 0)]
/-- BeatWords$Lexicon.add([IIII)Z -/
def am_c55 : List am_Row := [(0, 13, 0, 0, 0, 0), (1, 13, 1, 0, 0, 0), (2, 10, 2, 0, 0, 0), (3, 10, 3, 0, 0, 0), (4, 70, 53, 0, 33, 447), (7, 14, 5, 0, 0, 0), (9, 10, 5, 0, 0, 0), (11, 1, 0, -1, 0, 0), (12, 47, 51, 80, 0, 0), (15, 13, 0, 0, 0, 0), (16, 55, 1, 3, 21, 67), (19, 2, 0, 6, 0, 0), (21, 48, 15, 5, 0, 0), (24, 1, 0, 0, 0, 0), (25, 84, 0, 0, 0, 0), (26, 13, 0, 0, 0, 0), (27, 55, 1, 3, 21, 67), (30, 14, 5, 0, 0, 0), (32, 13, 0, 0, 0, 0), (33, 85, 0, 0, 0, 0), (34, 55, 1, 3, 21, 67), (37, 1, 0, 1, 0, 0), (38, 19, 0, 0, 0, 0), (39, 57, 1, 3, 21, 67), (42, 13, 0, 0, 0, 0), (43, 55, 1, 1, 15, 64), (46, 10, 5, 0, 0, 0), (48, 10, 3, 0, 0, 0), (49, 10, 2, 0, 0, 0), (50, 20, 0, 0, 0, 0), (51, 73, 29, 0, 37, 448), (54, 10, 2, 0, 0, 0), (55, 14, 6, 0, 0, 0), (57, 10, 6, 0, 0, 0), (59, 10, 3, 0, 0, 0), (60, 49, 51, 32, 0, 0), (63, 13, 0, 0, 0, 0), (64, 55, 1, 0, 9, 63), (67, 10, 5, 0, 0, 0), (69, 2, 0, 60, 0, 0), (71, 21, 0, 0, 0, 0), (72, 10, 6, 0, 0, 0), (74, 19, 0, 0, 0, 0), (75, 10, 2, 0, 0, 0), (76, 20, 0, 0, 0, 0), (77, 13, 1, 0, 0, 0), (78, 10, 6, 0, 0, 0), (80, 73, 28, 0, 25, 317), (83, 73, 29, 0, 37, 448), (86, 18, 6, 1, 0, 0), (89, 39, 33, -32, 0, 0), (92, 13, 0, 0, 0, 0), (93, 55, 1, 2, 18, 65), (96, 10, 5, 0, 0, 0), (98, 10, 4, 0, 0, 0), (100, 73, 29, 0, 37, 448), (103, 1, 0, 1, 0, 0), (104, 84, 0, 0, 0, 0)]
/-- BeatWords.at([II)I -/
def am_c56 : List am_Row := [(0, 13, 0, 0, 0, 0), (1, 52, 12, 19, 0, 0), (4, 10, 1, 0, 0, 0), (5, 42, 12, 15, 0, 0), (8, 10, 1, 0, 0, 0), (9, 13, 0, 0, 0, 0), (10, 67, 0, 0, 0, 0), (11, 49, 12, 9, 0, 0), (14, 13, 0, 0, 0, 0), (15, 10, 1, 0, 0, 0), (16, 61, 0, 0, 0, 0), (17, 39, 13, 4, 0, 0), (20, 1, 0, 0, 0, 0), (21, 79, 0, 0, 0, 0)]
/-- BeatWords$Sheet.<init>()V -/
def am_c57 : List am_Row := [(0, 13, 0, 0, 0, 0), (1, 76, 0, 0, 3, 203), (4, 13, 0, 0, 0, 0), (5, 2, 0, 60, 0, 0), (7, 88, 0, 0, 0, 0), (9, 59, 2, 0, 9, 204), (12, 13, 0, 0, 0, 0), (13, 2, 0, 60, 0, 0), (15, 88, 2, 0, 0, 0), (17, 59, 2, 1, 15, 205), (20, 13, 0, 0, 0, 0), (21, 1, 0, 1, 0, 0), (22, 57, 2, 2, 19, 206), (25, 83, 0, 0, 0, 0)]
/-- BeatWords.at([II)I -/
def am_c58 : List am_Row := [(0, 13, 0, 0, 0, 0), (1, 52, 12, 19, 0, 0), (4, 10, 1, 0, 0, 0), (5, 42, 12, 15, 0, 0), (8, 10, 1, 0, 0, 0), (9, 13, 0, 0, 0, 0), (10, 67, 0, 0, 0, 0), (11, 49, 12, 9, 0, 0), (14, 13, 0, 0, 0, 0), (15, 10, 1, 0, 0, 0), (16, 61, 0, 0, 0, 0), (17, 39, 13, 4, 0, 0), (20, 1, 0, 0, 0, 0), (21, 79, 0, 0, 0, 0)]
/-- BeatWords.at([II)I -/
def am_c59 : List am_Row := [(0, 13, 0, 0, 0, 0), (1, 52, 12, 19, 0, 0), (4, 10, 1, 0, 0, 0), (5, 42, 12, 15, 0, 0), (8, 10, 1, 0, 0, 0), (9, 13, 0, 0, 0, 0), (10, 67, 0, 0, 0, 0), (11, 49, 12, 9, 0, 0), (14, 13, 0, 0, 0, 0), (15, 10, 1, 0, 0, 0), (16, 61, 0, 0, 0, 0), (17, 39, 13, 4, 0, 0), (20, 1, 0, 0, 0, 0), (21, 79, 0, 0, 0, 0)]
/-- BeatWords.at([II)I -/
def am_c60 : List am_Row := [(0, 13, 0, 0, 0, 0), (1, 52, 12, 19, 0, 0), (4, 10, 1, 0, 0, 0), (5, 42, 12, 15, 0, 0), (8, 10, 1, 0, 0, 0), (9, 13, 0, 0, 0, 0), (10, 67, 0, 0, 0, 0), (11, 49, 12, 9, 0, 0), (14, 13, 0, 0, 0, 0), (15, 10, 1, 0, 0, 0), (16, 61, 0, 0, 0, 0), (17, 39, 13, 4, 0, 0), (20, 1, 0, 0, 0, 0), (21, 79, 0, 0, 0, 0)]
/-- BeatWords.at([II)I -/
def am_c61 : List am_Row := [(0, 13, 0, 0, 0, 0), (1, 52, 12, 19, 0, 0), (4, 10, 1, 0, 0, 0), (5, 42, 12, 15, 0, 0), (8, 10, 1, 0, 0, 0), (9, 13, 0, 0, 0, 0), (10, 67, 0, 0, 0, 0), (11, 49, 12, 9, 0, 0), (14, 13, 0, 0, 0, 0), (15, 10, 1, 0, 0, 0), (16, 61, 0, 0, 0, 0), (17, 39, 13, 4, 0, 0), (20, 1, 0, 0, 0, 0), (21, 79, 0, 0, 0, 0)]
/-- BeatWords.at([II)I -/
def am_c62 : List am_Row := [(0, 13, 0, 0, 0, 0), (1, 52, 12, 19, 0, 0), (4, 10, 1, 0, 0, 0), (5, 42, 12, 15, 0, 0), (8, 10, 1, 0, 0, 0), (9, 13, 0, 0, 0, 0), (10, 67, 0, 0, 0, 0), (11, 49, 12, 9, 0, 0), (14, 13, 0, 0, 0, 0), (15, 10, 1, 0, 0, 0), (16, 61, 0, 0, 0, 0), (17, 39, 13, 4, 0, 0), (20, 1, 0, 0, 0, 0), (21, 79, 0, 0, 0, 0)]
/-- BeatWords.at([II)I -/
def am_c63 : List am_Row := [(0, 13, 0, 0, 0, 0), (1, 52, 12, 19, 0, 0), (4, 10, 1, 0, 0, 0), (5, 42, 12, 15, 0, 0), (8, 10, 1, 0, 0, 0), (9, 13, 0, 0, 0, 0), (10, 67, 0, 0, 0, 0), (11, 49, 12, 9, 0, 0), (14, 13, 0, 0, 0, 0), (15, 10, 1, 0, 0, 0), (16, 61, 0, 0, 0, 0), (17, 39, 13, 4, 0, 0), (20, 1, 0, 0, 0, 0), (21, 79, 0, 0, 0, 0)]
/-- BeatWords.at([II)I -/
def am_c64 : List am_Row := [(0, 13, 0, 0, 0, 0), (1, 52, 12, 19, 0, 0), (4, 10, 1, 0, 0, 0), (5, 42, 12, 15, 0, 0), (8, 10, 1, 0, 0, 0), (9, 13, 0, 0, 0, 0), (10, 67, 0, 0, 0, 0), (11, 49, 12, 9, 0, 0), (14, 13, 0, 0, 0, 0), (15, 10, 1, 0, 0, 0), (16, 61, 0, 0, 0, 0), (17, 39, 13, 4, 0, 0), (20, 1, 0, 0, 0, 0), (21, 79, 0, 0, 0, 0)]
/-- BeatWords$Cut.<init>()V -/
def am_c65 : List am_Row := [(0, 13, 0, 0, 0, 0), (1, 76, 0, 0, 3, 86), (4, 13, 0, 0, 0, 0), (5, 2, 0, 30, 0, 0), (7, 88, 0, 0, 0, 0), (9, 59, 0, 0, 9, 87), (12, 13, 0, 0, 0, 0), (13, 2, 0, 30, 0, 0), (15, 88, 0, 0, 0, 0), (17, 59, 0, 1, 15, 89), (20, 13, 0, 0, 0, 0), (21, 2, 0, 30, 0, 0), (23, 88, 0, 0, 0, 0), (25, 59, 0, 2, 18, 91), (28, 13, 0, 0, 0, 0), (29, 2, 0, 30, 0, 0), (31, 88, 0, 0, 0, 0), (33, 59, 0, 3, 21, 94), (36, 13, 0, 0, 0, 0), (37, 2, 0, 30, 0, 0), (39, 88, 0, 0, 0, 0), (41, 59, 0, 4, 24, 97), (44, 13, 0, 0, 0, 0), (45, 2, 0, 60, 0, 0), (47, 88, 0, 0, 0, 0), (49, 59, 0, 5, 27, 100), (52, 13, 0, 0, 0, 0), (53, 2, 0, 60, 0, 0), (55, 88, 0, 0, 0, 0), (57, 59, 0, 6, 30, 103), (60, 13, 0, 0, 0, 0), (61, 2, 0, 60, 0, 0), (63, 88, 0, 0, 0, 0), (65, 59, 0, 7, 33, 105), (68, 13, 0, 0, 0, 0), (69, 2, 0, 60, 0, 0), (71, 88, 0, 0, 0, 0), (73, 59, 0, 8, 36, 107), (76, 83, 0, 0, 0, 0)]
/-- BeatWords$Cut.make([II[I)V -/
def am_c66 : List am_Row := [(0, 13, 0, 0, 0, 0), (1, 1, 0, 0, 0, 0), (2, 57, 0, 10, 39, 112), (5, 13, 0, 0, 0, 0), (6, 1, 0, 0, 0, 0), (7, 57, 0, 11, 43, 116), (10, 13, 0, 0, 0, 0), (11, 13, 1, 0, 0, 0), (12, 10, 2, 0, 0, 0), (13, 72, 67, 0, 46, 283), (16, 57, 0, 9, 50, 110), (19, 13, 0, 0, 0, 0), (20, 55, 0, 9, 50, 110), (23, 1, 0, -1, 0, 0), (24, 46, 16, 4, 0, 0), (27, 83, 0, 0, 0, 0), (28, 1, 0, 0, 0, 0), (29, 14, 4, 0, 0, 0), (31, 1, 0, 0, 0, 0), (32, 14, 5, 0, 0, 0), (34, 10, 5, 0, 0, 0), (36, 10, 2, 0, 0, 0), (37, 50, 43, 42, 0, 0), (40, 10, 5, 0, 0, 0), (42, 10, 2, 0, 0, 0), (43, 46, 31, 14, 0, 0), (46, 13, 1, 0, 0, 0), (47, 10, 5, 0, 0, 0), (49, 73, 28, 0, 53, 286), (52, 2, 0, 32, 0, 0), (54, 47, 41, 19, 0, 0), (57, 13, 0, 0, 0, 0), (58, 13, 1, 0, 0, 0), (59, 10, 4, 0, 0, 0), (61, 10, 5, 0, 0, 0), (63, 13, 3, 0, 0, 0), (64, 70, 68, 0, 56, 290), (67, 10, 5, 0, 0, 0), (69, 1, 0, 1, 0, 0), (70, 19, 0, 0, 0, 0), (71, 14, 4, 0, 0, 0), (73, 18, 5, 1, 0, 0), (76, 39, 20, -42, 0, 0), (79, 83, 0, 0, 0, 0)]
/-- BeatWords$Cut.firstFlaw([II)I -/
def am_c67 : List am_Row := [(0, 1, 0, 0, 0, 0), (1, 14, 2, 0, 0, 0), (2, 1, 0, 0, 0, 0), (3, 14, 3, 0, 0, 0), (4, 10, 3, 0, 0, 0), (5, 10, 1, 0, 0, 0), (6, 49, 36, 60, 0, 0), (9, 13, 0, 0, 0, 0), (10, 10, 3, 0, 0, 0), (11, 73, 28, 0, 53, 286), (14, 14, 4, 0, 0, 0), (16, 10, 4, 0, 0, 0), (18, 2, 0, 32, 0, 0), (20, 47, 21, 14, 0, 0), (23, 10, 2, 0, 0, 0), (24, 41, 18, 5, 0, 0), (27, 10, 3, 0, 0, 0), (28, 79, 0, 0, 0, 0), (29, 1, 0, 0, 0, 0), (30, 14, 2, 0, 0, 0), (31, 39, 34, 29, 0, 0), (34, 10, 4, 0, 0, 0), (36, 2, 0, 97, 0, 0), (38, 48, 27, 10, 0, 0), (41, 10, 4, 0, 0, 0), (43, 2, 0, 122, 0, 0), (45, 51, 29, 5, 0, 0), (48, 10, 3, 0, 0, 0), (49, 79, 0, 0, 0, 0), (50, 10, 4, 0, 0, 0), (52, 73, 30, 0, 60, 287), (55, 40, 34, 5, 0, 0), (58, 1, 0, 1, 0, 0), (59, 14, 2, 0, 0, 0), (60, 18, 3, 1, 0, 0), (63, 39, 4, -59, 0, 0), (66, 10, 2, 0, 0, 0), (67, 40, 40, 7, 0, 0), (70, 1, 0, -1, 0, 0), (71, 39, 41, 4, 0, 0), (74, 10, 1, 0, 0, 0), (75, 79, 0, 0, 0, 0)]
/-- BeatWords$Cut.addWord([III[I)V -/
def am_c68 : List am_Row := [(0, 13, 0, 0, 0, 0), (1, 55, 0, 0, 9, 87), (4, 13, 0, 0, 0, 0), (5, 55, 0, 10, 39, 112), (8, 10, 2, 0, 0, 0), (9, 73, 29, 0, 64, 294), (12, 13, 0, 0, 0, 0), (13, 55, 0, 1, 15, 89), (16, 13, 0, 0, 0, 0), (17, 55, 0, 10, 39, 112), (20, 10, 3, 0, 0, 0), (21, 73, 29, 0, 64, 294), (24, 13, 0, 0, 0, 0), (25, 55, 0, 2, 18, 91), (28, 13, 0, 0, 0, 0), (29, 55, 0, 10, 39, 112), (32, 13, 0, 0, 0, 0), (33, 55, 0, 11, 43, 116), (36, 73, 29, 0, 64, 294), (39, 13, 0, 0, 0, 0), (40, 55, 0, 11, 43, 116), (43, 14, 5, 0, 0, 0), (45, 10, 2, 0, 0, 0), (46, 14, 6, 0, 0, 0), (48, 10, 2, 0, 0, 0), (49, 14, 7, 0, 0, 0), (51, 10, 7, 0, 0, 0), (53, 10, 3, 0, 0, 0), (54, 49, 81, 109, 0, 0), (57, 10, 7, 0, 0, 0), (59, 10, 6, 0, 0, 0), (61, 48, 79, 96, 0, 0), (64, 13, 1, 0, 0, 0), (65, 10, 7, 0, 0, 0), (67, 73, 28, 0, 53, 286), (70, 73, 30, 0, 60, 287), (73, 41, 38, 6, 0, 0), (76, 39, 79, 81, 0, 0), (79, 10, 2, 0, 0, 0), (80, 14, 8, 0, 0, 0), (82, 13, 0, 0, 0, 0), (83, 55, 0, 11, 43, 116), (86, 10, 5, 0, 0, 0), (88, 51, 63, 39, 0, 0), (91, 10, 7, 0, 0, 0), (93, 13, 4, 0, 0, 0), (95, 1, 0, 1, 0, 0), (96, 73, 28, 0, 53, 286), (99, 10, 7, 0, 0, 0), (101, 10, 6, 0, 0, 0), (103, 20, 0, 0, 0, 0), (104, 77, 0, 0, 68, 295), (107, 20, 0, 0, 0, 0), (108, 14, 8, 0, 0, 0), (110, 13, 0, 0, 0, 0), (111, 10, 8, 0, 0, 0), (113, 10, 8, 0, 0, 0), (115, 10, 6, 0, 0, 0), (117, 20, 0, 0, 0, 0), (118, 13, 4, 0, 0, 0), (120, 1, 0, 2, 0, 0), (121, 73, 28, 0, 53, 286), (124, 70, 71, 0, 74, 298), (127, 13, 1, 0, 0, 0), (128, 10, 7, 0, 0, 0), (130, 10, 3, 0, 0, 0), (131, 13, 4, 0, 0, 0), (133, 1, 0, 0, 0, 0), (134, 73, 28, 0, 53, 286), (137, 72, 69, 0, 78, 302), (140, 14, 9, 0, 0, 0), (142, 13, 0, 0, 0, 0), (143, 10, 8, 0, 0, 0), (145, 10, 9, 0, 0, 0), (147, 70, 70, 0, 82, 305), (150, 10, 7, 0, 0, 0), (152, 10, 9, 0, 0, 0), (154, 19, 0, 0, 0, 0), (155, 14, 6, 0, 0, 0), (157, 18, 7, 1, 0, 0), (160, 39, 26, -109, 0, 0), (163, 13, 4, 0, 0, 0), (165, 1, 0, 3, 0, 0), (166, 73, 28, 0, 53, 286), (169, 1, 0, 1, 0, 0), (170, 47, 95, 20, 0, 0), (173, 13, 1, 0, 0, 0), (174, 10, 3, 0, 0, 0), (175, 1, 0, 1, 0, 0), (176, 20, 0, 0, 0, 0), (177, 73, 28, 0, 53, 286), (180, 73, 30, 0, 60, 287), (183, 41, 95, 7, 0, 0), (186, 1, 0, 1, 0, 0), (187, 39, 96, 4, 0, 0), (190, 1, 0, 0, 0, 0), (191, 14, 7, 0, 0, 0), (193, 10, 3, 0, 0, 0), (194, 10, 6, 0, 0, 0), (196, 20, 0, 0, 0, 0), (197, 10, 7, 0, 0, 0), (199, 40, 104, 7, 0, 0), (202, 1, 0, 1, 0, 0), (203, 39, 105, 4, 0, 0), (206, 1, 0, 0, 0, 0), (207, 20, 0, 0, 0, 0), (208, 14, 8, 0, 0, 0), (210, 13, 0, 0, 0, 0), (211, 10, 3, 0, 0, 0), (212, 10, 8, 0, 0, 0), (214, 13, 4, 0, 0, 0), (216, 1, 0, 2, 0, 0), (217, 73, 28, 0, 53, 286), (220, 70, 71, 0, 74, 298), (223, 13, 0, 0, 0, 0), (224, 55, 0, 3, 21, 94), (227, 13, 0, 0, 0, 0), (228, 55, 0, 10, 39, 112), (231, 13, 0, 0, 0, 0), (232, 55, 0, 11, 43, 116), (235, 10, 5, 0, 0, 0), (237, 20, 0, 0, 0, 0), (238, 73, 29, 0, 64, 294), (241, 13, 0, 0, 0, 0), (242, 85, 0, 0, 0, 0), (243, 55, 0, 10, 39, 112), (246, 1, 0, 1, 0, 0), (247, 19, 0, 0, 0, 0), (248, 57, 0, 10, 39, 112), (251, 83, 0, 0, 0, 0)]
/-- BeatWords$Cut.nucleusSize([IIII)I -/
def am_c69 : List am_Row := [(0, 10, 1, 0, 0, 0), (1, 1, 0, 1, 0, 0), (2, 19, 0, 0, 0, 0), (3, 10, 2, 0, 0, 0), (4, 48, 7, 5, 0, 0), (7, 1, 0, 1, 0, 0), (8, 79, 0, 0, 0, 0), (9, 13, 0, 0, 0, 0), (10, 10, 1, 0, 0, 0), (11, 1, 0, 1, 0, 0), (12, 19, 0, 0, 0, 0), (13, 73, 28, 0, 53, 286), (16, 14, 4, 0, 0, 0), (18, 10, 3, 0, 0, 0), (19, 1, 0, 1, 0, 0), (20, 47, 24, 21, 0, 0), (23, 10, 4, 0, 0, 0), (25, 2, 0, 105, 0, 0), (27, 46, 22, 10, 0, 0), (30, 10, 4, 0, 0, 0), (32, 2, 0, 117, 0, 0), (34, 47, 24, 7, 0, 0), (37, 1, 0, 1, 0, 0), (38, 39, 25, 4, 0, 0), (41, 1, 0, 0, 0, 0), (42, 14, 5, 0, 0, 0), (44, 10, 5, 0, 0, 0), (46, 41, 33, 13, 0, 0), (49, 10, 4, 0, 0, 0), (51, 13, 0, 0, 0, 0), (52, 10, 1, 0, 0, 0), (53, 73, 28, 0, 53, 286), (56, 47, 35, 7, 0, 0), (59, 1, 0, 2, 0, 0), (60, 39, 36, 4, 0, 0), (63, 1, 0, 1, 0, 0), (64, 79, 0, 0, 0, 0)]
/-- BeatWords$Cut.beginSyllable(II)V -/
def am_c70 : List am_Row := [(0, 13, 0, 0, 0, 0), (1, 55, 0, 5, 27, 100), (4, 13, 0, 0, 0, 0), (5, 55, 0, 11, 43, 116), (8, 13, 0, 0, 0, 0), (9, 55, 0, 10, 39, 112), (12, 73, 29, 0, 64, 294), (15, 13, 0, 0, 0, 0), (16, 55, 0, 6, 30, 103), (19, 13, 0, 0, 0, 0), (20, 55, 0, 11, 43, 116), (23, 10, 1, 0, 0, 0), (24, 73, 29, 0, 64, 294), (27, 13, 0, 0, 0, 0), (28, 55, 0, 8, 36, 107), (31, 13, 0, 0, 0, 0), (32, 55, 0, 11, 43, 116), (35, 10, 2, 0, 0, 0), (36, 73, 29, 0, 64, 294), (39, 13, 0, 0, 0, 0), (40, 85, 0, 0, 0, 0), (41, 55, 0, 11, 43, 116), (44, 1, 0, 1, 0, 0), (45, 19, 0, 0, 0, 0), (46, 57, 0, 11, 43, 116), (49, 83, 0, 0, 0, 0)]
/-- BeatWords$Cut.endSyllable(III)V -/
def am_c71 : List am_Row := [(0, 13, 0, 0, 0, 0), (1, 55, 0, 11, 43, 116), (4, 1, 0, 1, 0, 0), (5, 20, 0, 0, 0, 0), (6, 14, 4, 0, 0, 0), (8, 13, 0, 0, 0, 0), (9, 55, 0, 7, 33, 105), (12, 10, 4, 0, 0, 0), (14, 10, 1, 0, 0, 0), (15, 73, 29, 0, 64, 294), (18, 13, 0, 0, 0, 0), (19, 55, 0, 8, 36, 107), (22, 10, 4, 0, 0, 0), (24, 13, 0, 0, 0, 0), (25, 55, 0, 8, 36, 107), (28, 10, 4, 0, 0, 0), (30, 73, 28, 0, 53, 286), (33, 10, 3, 0, 0, 0), (34, 10, 2, 0, 0, 0), (35, 77, 0, 0, 68, 295), (38, 19, 0, 0, 0, 0), (39, 73, 29, 0, 64, 294), (42, 83, 0, 0, 0, 0)]
/-- BeatWords$Cut.lookUp(LBeatWords$Lexicon;[I)V -/
def am_c72 : List am_Row := [(0, 1, 0, 0, 0, 0), (1, 14, 3, 0, 0, 0), (2, 10, 3, 0, 0, 0), (3, 13, 0, 0, 0, 0), (4, 55, 0, 10, 39, 112), (7, 49, 33, 59, 0, 0), (10, 13, 1, 0, 0, 0), (11, 13, 2, 0, 0, 0), (12, 13, 0, 0, 0, 0), (13, 55, 0, 0, 9, 87), (16, 10, 3, 0, 0, 0), (17, 73, 28, 0, 53, 286), (20, 13, 0, 0, 0, 0), (21, 55, 0, 1, 15, 89), (24, 10, 3, 0, 0, 0), (25, 73, 28, 0, 53, 286), (28, 71, 53, 0, 86, 313), (31, 14, 4, 0, 0, 0), (33, 13, 0, 0, 0, 0), (34, 55, 0, 4, 24, 97), (37, 10, 3, 0, 0, 0), (38, 10, 4, 0, 0, 0), (40, 1, 0, -1, 0, 0), (41, 47, 26, 7, 0, 0), (44, 1, 0, -1, 0, 0), (45, 39, 30, 12, 0, 0), (48, 13, 1, 0, 0, 0), (49, 56, 1, 2, 92, 66), (52, 10, 4, 0, 0, 0), (54, 73, 28, 0, 53, 286), (57, 73, 29, 0, 64, 294), (60, 18, 3, 1, 0, 0), (63, 39, 2, -61, 0, 0), (66, 83, 0, 0, 0, 0)]
/-- BeatWords$Cut.isMarked(I)Z -/
def am_c73 : List am_Row := [(0, 13, 0, 0, 0, 0), (1, 55, 0, 4, 24, 97), (4, 10, 1, 0, 0, 0), (5, 73, 28, 0, 53, 286), (8, 14, 2, 0, 0, 0), (9, 10, 2, 0, 0, 0), (10, 1, 0, -1, 0, 0), (11, 46, 16, 19, 0, 0), (14, 10, 2, 0, 0, 0), (15, 13, 0, 0, 0, 0), (16, 55, 0, 3, 21, 94), (19, 10, 1, 0, 0, 0), (20, 73, 28, 0, 53, 286), (23, 49, 16, 7, 0, 0), (26, 1, 0, 1, 0, 0), (27, 39, 17, 4, 0, 0), (30, 1, 0, 0, 0, 0), (31, 84, 0, 0, 0, 0)]
/-- BeatWords$Cut.isHeavy(I)Z -/
def am_c74 : List am_Row := [(0, 13, 0, 0, 0, 0), (1, 55, 0, 8, 36, 107), (4, 10, 1, 0, 0, 0), (5, 73, 28, 0, 53, 286), (8, 1, 0, 2, 0, 0), (9, 48, 8, 7, 0, 0), (12, 1, 0, 1, 0, 0), (13, 39, 9, 4, 0, 0), (16, 1, 0, 0, 0, 0), (17, 84, 0, 0, 0, 0)]
/-- BeatWords$Cut.heavyOnes()I -/
def am_c75 : List am_Row := [(0, 1, 0, 0, 0, 0), (1, 14, 1, 0, 0, 0), (2, 1, 0, 0, 0, 0), (3, 14, 2, 0, 0, 0), (4, 10, 2, 0, 0, 0), (5, 13, 0, 0, 0, 0), (6, 55, 0, 11, 43, 116), (9, 49, 15, 20, 0, 0), (12, 13, 0, 0, 0, 0), (13, 10, 2, 0, 0, 0), (14, 70, 74, 0, 95, 512), (17, 40, 13, 6, 0, 0), (20, 18, 1, 1, 0, 0), (23, 18, 2, 1, 0, 0), (26, 39, 4, -22, 0, 0), (29, 10, 1, 0, 0, 0), (30, 79, 0, 0, 0, 0)]
/-- BeatWords$Stress.<init>()V -/
def am_c76 : List am_Row := [(0, 13, 0, 0, 0, 0), (1, 76, 0, 0, 3, 148), (4, 13, 0, 0, 0, 0), (5, 2, 0, 60, 0, 0), (7, 88, 0, 0, 0, 0), (9, 59, 3, 0, 9, 149), (12, 13, 0, 0, 0, 0), (13, 2, 0, 60, 0, 0), (15, 88, 0, 0, 0, 0), (17, 59, 3, 1, 15, 150), (20, 13, 0, 0, 0, 0), (21, 2, 0, 60, 0, 0), (23, 88, 0, 0, 0, 0), (25, 59, 3, 2, 18, 151), (28, 13, 0, 0, 0, 0), (29, 2, 0, 60, 0, 0), (31, 88, 0, 0, 0, 0), (33, 59, 3, 3, 21, 153), (36, 13, 0, 0, 0, 0), (37, 2, 0, 60, 0, 0), (39, 88, 0, 0, 0, 0), (41, 59, 3, 4, 24, 155), (44, 13, 0, 0, 0, 0), (45, 2, 0, 60, 0, 0), (47, 88, 0, 0, 0, 0), (49, 59, 3, 5, 27, 157), (52, 13, 0, 0, 0, 0), (53, 2, 0, 30, 0, 0), (55, 88, 0, 0, 0, 0), (57, 59, 3, 6, 30, 158), (60, 83, 0, 0, 0, 0)]
/-- BeatWords$Stress.make(LBeatWords$Cut;[I)V -/
def am_c77 : List am_Row := [(0, 1, 0, 0, 0, 0), (1, 14, 3, 0, 0, 0), (2, 10, 3, 0, 0, 0), (3, 13, 1, 0, 0, 0), (4, 56, 0, 11, 33, 115), (7, 49, 23, 36, 0, 0), (10, 13, 0, 0, 0, 0), (11, 55, 3, 0, 9, 149), (14, 10, 3, 0, 0, 0), (15, 1, 0, 0, 0, 0), (16, 73, 29, 0, 39, 326), (19, 13, 0, 0, 0, 0), (20, 55, 3, 2, 18, 151), (23, 10, 3, 0, 0, 0), (24, 1, 0, -1, 0, 0), (25, 73, 29, 0, 39, 326), (28, 13, 0, 0, 0, 0), (29, 55, 3, 3, 21, 153), (32, 10, 3, 0, 0, 0), (33, 1, 0, 0, 0, 0), (34, 73, 29, 0, 39, 326), (37, 18, 3, 1, 0, 0), (40, 39, 2, -38, 0, 0), (43, 1, 0, 0, 0, 0), (44, 14, 3, 0, 0, 0), (45, 10, 3, 0, 0, 0), (46, 13, 1, 0, 0, 0), (47, 56, 0, 10, 43, 113), (50, 49, 119, 175, 0, 0), (53, 13, 1, 0, 0, 0), (54, 56, 0, 2, 46, 92), (57, 10, 3, 0, 0, 0), (58, 73, 28, 0, 49, 327), (61, 14, 4, 0, 0, 0), (63, 13, 1, 0, 0, 0), (64, 56, 0, 3, 53, 95), (67, 10, 3, 0, 0, 0), (68, 73, 28, 0, 49, 327), (71, 14, 5, 0, 0, 0), (73, 10, 4, 0, 0, 0), (75, 13, 2, 0, 0, 0), (76, 1, 0, 3, 0, 0), (77, 73, 28, 0, 49, 327), (80, 1, 0, 2, 0, 0), (81, 47, 52, 16, 0, 0), (84, 10, 5, 0, 0, 0), (86, 1, 0, 1, 0, 0), (87, 51, 52, 10, 0, 0), (90, 10, 5, 0, 0, 0), (92, 1, 0, 1, 0, 0), (93, 20, 0, 0, 0, 0), (94, 39, 53, 5, 0, 0), (97, 10, 5, 0, 0, 0), (99, 19, 0, 0, 0, 0), (100, 14, 6, 0, 0, 0), (102, 13, 2, 0, 0, 0), (103, 1, 0, 5, 0, 0), (104, 73, 28, 0, 49, 327), (107, 41, 66, 16, 0, 0), (110, 13, 0, 0, 0, 0), (111, 13, 1, 0, 0, 0), (112, 13, 2, 0, 0, 0), (113, 10, 4, 0, 0, 0), (115, 10, 6, 0, 0, 0), (117, 70, 78, 0, 56, 328), (120, 39, 72, 13, 0, 0), (123, 13, 0, 0, 0, 0), (124, 13, 1, 0, 0, 0), (125, 13, 2, 0, 0, 0), (126, 10, 4, 0, 0, 0), (128, 10, 6, 0, 0, 0), (130, 70, 79, 0, 60, 343), (133, 13, 0, 0, 0, 0), (134, 55, 3, 6, 30, 158), (137, 10, 3, 0, 0, 0), (138, 13, 0, 0, 0, 0), (139, 10, 4, 0, 0, 0), (141, 10, 6, 0, 0, 0), (143, 70, 83, 0, 63, 350), (146, 73, 29, 0, 39, 326), (149, 13, 0, 0, 0, 0), (150, 55, 3, 6, 30, 158), (153, 10, 3, 0, 0, 0), (154, 73, 28, 0, 49, 327), (157, 41, 109, 48, 0, 0), (160, 13, 0, 0, 0, 0), (161, 13, 2, 0, 0, 0), (162, 2, 0, 7, 0, 0), (164, 73, 28, 0, 49, 327), (167, 1, 0, 1, 0, 0), (168, 47, 95, 10, 0, 0), (171, 10, 6, 0, 0, 0), (173, 1, 0, 1, 0, 0), (174, 20, 0, 0, 0, 0), (175, 39, 96, 5, 0, 0), (178, 10, 4, 0, 0, 0), (180, 1, 0, 1, 0, 0), (181, 13, 2, 0, 0, 0), (182, 1, 0, 4, 0, 0), (183, 73, 28, 0, 49, 327), (186, 70, 82, 0, 67, 339), (189, 13, 0, 0, 0, 0), (190, 55, 3, 6, 30, 158), (193, 10, 3, 0, 0, 0), (194, 13, 0, 0, 0, 0), (195, 10, 4, 0, 0, 0), (197, 10, 6, 0, 0, 0), (199, 70, 83, 0, 63, 350), (202, 73, 29, 0, 39, 326), (205, 13, 0, 0, 0, 0), (206, 13, 1, 0, 0, 0), (207, 10, 3, 0, 0, 0), (208, 10, 6, 0, 0, 0), (210, 13, 2, 0, 0, 0), (211, 2, 0, 7, 0, 0), (213, 73, 28, 0, 49, 327), (216, 70, 84, 0, 71, 354), (219, 18, 3, 1, 0, 0), (222, 39, 25, -177, 0, 0), (225, 83, 0, 0, 0, 0)]
/-- BeatWords$Stress.layForward(LBeatWords$Cut;[III)V -/
def am_c78 : List am_Row := [(0, 13, 2, 0, 0, 0), (1, 1, 0, 4, 0, 0), (2, 73, 28, 0, 49, 327), (5, 14, 5, 0, 0, 0), (7, 10, 3, 0, 0, 0), (8, 14, 6, 0, 0, 0), (10, 10, 3, 0, 0, 0), (11, 14, 7, 0, 0, 0), (13, 10, 7, 0, 0, 0), (15, 10, 4, 0, 0, 0), (17, 49, 43, 70, 0, 0), (20, 10, 7, 0, 0, 0), (22, 10, 6, 0, 0, 0), (24, 49, 15, 6, 0, 0), (27, 39, 41, 54, 0, 0), (30, 13, 1, 0, 0, 0), (31, 10, 5, 0, 0, 0), (33, 10, 7, 0, 0, 0), (35, 10, 4, 0, 0, 0), (37, 72, 80, 0, 75, 332), (40, 14, 8, 0, 0, 0), (42, 10, 8, 0, 0, 0), (44, 41, 32, 20, 0, 0), (47, 13, 2, 0, 0, 0), (48, 2, 0, 6, 0, 0), (50, 73, 28, 0, 49, 327), (53, 1, 0, 1, 0, 0), (54, 47, 30, 7, 0, 0), (57, 1, 0, 1, 0, 0), (58, 39, 31, 4, 0, 0), (61, 1, 0, 0, 0, 0), (62, 14, 8, 0, 0, 0), (64, 13, 0, 0, 0, 0), (65, 10, 7, 0, 0, 0), (67, 10, 8, 0, 0, 0), (69, 10, 5, 0, 0, 0), (71, 70, 82, 0, 67, 339), (74, 10, 7, 0, 0, 0), (76, 10, 8, 0, 0, 0), (78, 19, 0, 0, 0, 0), (79, 14, 6, 0, 0, 0), (81, 18, 7, 1, 0, 0), (84, 39, 8, -71, 0, 0), (87, 83, 0, 0, 0, 0)]
/-- BeatWords$Stress.layBackward(LBeatWords$Cut;[III)V -/
def am_c79 : List am_Row := [(0, 13, 2, 0, 0, 0), (1, 1, 0, 4, 0, 0), (2, 73, 28, 0, 49, 327), (5, 14, 5, 0, 0, 0), (7, 10, 4, 0, 0, 0), (9, 14, 6, 0, 0, 0), (11, 10, 4, 0, 0, 0), (13, 1, 0, 1, 0, 0), (14, 20, 0, 0, 0, 0), (15, 14, 7, 0, 0, 0), (17, 10, 7, 0, 0, 0), (19, 10, 3, 0, 0, 0), (20, 48, 47, 71, 0, 0), (23, 10, 7, 0, 0, 0), (25, 10, 6, 0, 0, 0), (27, 48, 17, 6, 0, 0), (30, 39, 45, 55, 0, 0), (33, 13, 1, 0, 0, 0), (34, 10, 5, 0, 0, 0), (36, 10, 7, 0, 0, 0), (38, 10, 3, 0, 0, 0), (39, 72, 81, 0, 79, 347), (42, 14, 8, 0, 0, 0), (44, 10, 8, 0, 0, 0), (46, 41, 34, 20, 0, 0), (49, 13, 2, 0, 0, 0), (50, 2, 0, 6, 0, 0), (52, 73, 28, 0, 49, 327), (55, 1, 0, 1, 0, 0), (56, 47, 32, 7, 0, 0), (59, 1, 0, 1, 0, 0), (60, 39, 33, 4, 0, 0), (63, 1, 0, 0, 0, 0), (64, 14, 8, 0, 0, 0), (66, 10, 7, 0, 0, 0), (68, 1, 0, 1, 0, 0), (69, 19, 0, 0, 0, 0), (70, 10, 8, 0, 0, 0), (72, 20, 0, 0, 0, 0), (73, 14, 6, 0, 0, 0), (75, 13, 0, 0, 0, 0), (76, 10, 6, 0, 0, 0), (78, 10, 8, 0, 0, 0), (80, 10, 5, 0, 0, 0), (82, 70, 82, 0, 67, 339), (85, 18, 7, -1, 0, 0), (88, 39, 10, -71, 0, 0), (91, 83, 0, 0, 0, 0)]
/-- BeatWords$Stress.sizeForward(LBeatWords$Cut;III)I -/
def am_c80 : List am_Row := [(0, 10, 2, 0, 0, 0), (1, 1, 0, 1, 0, 0), (2, 19, 0, 0, 0, 0), (3, 10, 3, 0, 0, 0), (4, 49, 7, 7, 0, 0), (7, 1, 0, 1, 0, 0), (8, 39, 8, 4, 0, 0), (11, 1, 0, 0, 0, 0), (12, 14, 4, 0, 0, 0), (14, 10, 1, 0, 0, 0), (15, 40, 17, 13, 0, 0), (18, 13, 0, 0, 0, 0), (19, 10, 2, 0, 0, 0), (20, 71, 74, 0, 82, 335), (23, 40, 17, 5, 0, 0), (26, 1, 0, 1, 0, 0), (27, 79, 0, 0, 0, 0), (28, 10, 1, 0, 0, 0), (29, 1, 0, 1, 0, 0), (30, 47, 32, 24, 0, 0), (33, 10, 4, 0, 0, 0), (35, 40, 30, 17, 0, 0), (38, 13, 0, 0, 0, 0), (39, 10, 2, 0, 0, 0), (40, 1, 0, 1, 0, 0), (41, 19, 0, 0, 0, 0), (42, 71, 74, 0, 82, 335), (45, 41, 30, 7, 0, 0), (48, 1, 0, 2, 0, 0), (49, 39, 31, 4, 0, 0), (52, 1, 0, 0, 0, 0), (53, 79, 0, 0, 0, 0), (54, 10, 4, 0, 0, 0), (56, 40, 36, 7, 0, 0), (59, 1, 0, 2, 0, 0), (60, 39, 37, 4, 0, 0), (63, 1, 0, 0, 0, 0), (64, 79, 0, 0, 0, 0)]
/-- BeatWords$Stress.sizeBackward(LBeatWords$Cut;III)I -/
def am_c81 : List am_Row := [(0, 10, 2, 0, 0, 0), (1, 10, 3, 0, 0, 0), (2, 51, 5, 7, 0, 0), (5, 1, 0, 1, 0, 0), (6, 39, 6, 4, 0, 0), (9, 1, 0, 0, 0, 0), (10, 14, 4, 0, 0, 0), (12, 10, 1, 0, 0, 0), (13, 41, 15, 14, 0, 0), (16, 10, 4, 0, 0, 0), (18, 40, 13, 7, 0, 0), (21, 1, 0, 2, 0, 0), (22, 39, 14, 4, 0, 0), (25, 1, 0, 0, 0, 0), (26, 79, 0, 0, 0, 0), (27, 10, 4, 0, 0, 0), (29, 40, 25, 17, 0, 0), (32, 13, 0, 0, 0, 0), (33, 10, 2, 0, 0, 0), (34, 1, 0, 1, 0, 0), (35, 20, 0, 0, 0, 0), (36, 71, 74, 0, 82, 335), (39, 41, 25, 7, 0, 0), (42, 1, 0, 1, 0, 0), (43, 39, 26, 4, 0, 0), (46, 1, 0, 0, 0, 0), (47, 14, 5, 0, 0, 0), (49, 10, 1, 0, 0, 0), (50, 1, 0, 1, 0, 0), (51, 47, 42, 26, 0, 0), (54, 13, 0, 0, 0, 0), (55, 10, 2, 0, 0, 0), (56, 71, 74, 0, 82, 335), (59, 40, 36, 7, 0, 0), (62, 1, 0, 1, 0, 0), (63, 39, 41, 13, 0, 0), (66, 10, 5, 0, 0, 0), (68, 40, 40, 7, 0, 0), (71, 1, 0, 2, 0, 0), (72, 39, 41, 4, 0, 0), (75, 1, 0, 0, 0, 0), (76, 79, 0, 0, 0, 0), (77, 10, 5, 0, 0, 0), (79, 40, 46, 7, 0, 0), (82, 1, 0, 2, 0, 0), (83, 39, 53, 16, 0, 0), (86, 13, 0, 0, 0, 0), (87, 10, 2, 0, 0, 0), (88, 71, 74, 0, 82, 335), (91, 40, 52, 7, 0, 0), (94, 1, 0, 1, 0, 0), (95, 39, 53, 4, 0, 0), (98, 1, 0, 0, 0, 0), (99, 79, 0, 0, 0, 0)]
/-- BeatWords$Stress.addFoot(III)V -/
def am_c82 : List am_Row := [(0, 10, 2, 0, 0, 0), (1, 45, 21, 34, 0, 0), (4, 13, 0, 0, 0, 0), (5, 55, 3, 0, 9, 149), (8, 10, 1, 0, 0, 0), (9, 10, 2, 0, 0, 0), (10, 73, 29, 0, 39, 326), (13, 13, 0, 0, 0, 0), (14, 55, 3, 1, 15, 150), (17, 10, 1, 0, 0, 0), (18, 10, 3, 0, 0, 0), (19, 1, 0, 2, 0, 0), (20, 47, 19, 11, 0, 0), (23, 10, 1, 0, 0, 0), (24, 10, 2, 0, 0, 0), (25, 19, 0, 0, 0, 0), (26, 1, 0, 1, 0, 0), (27, 20, 0, 0, 0, 0), (28, 39, 20, 4, 0, 0), (31, 10, 1, 0, 0, 0), (32, 73, 29, 0, 39, 326), (35, 83, 0, 0, 0, 0)]
/-- BeatWords$Stress.numberFeet(II)I -/
def am_c83 : List am_Row := [(0, 1, 0, 0, 0, 0), (1, 14, 3, 0, 0, 0), (2, 10, 1, 0, 0, 0), (3, 14, 4, 0, 0, 0), (5, 10, 4, 0, 0, 0), (7, 10, 2, 0, 0, 0), (8, 49, 31, 57, 0, 0), (11, 13, 0, 0, 0, 0), (12, 55, 3, 0, 9, 149), (15, 10, 4, 0, 0, 0), (17, 73, 28, 0, 49, 327), (20, 14, 5, 0, 0, 0), (22, 10, 5, 0, 0, 0), (24, 45, 29, 35, 0, 0), (27, 1, 0, 0, 0, 0), (28, 14, 6, 0, 0, 0), (30, 10, 6, 0, 0, 0), (32, 10, 5, 0, 0, 0), (34, 49, 28, 22, 0, 0), (37, 13, 0, 0, 0, 0), (38, 55, 3, 2, 18, 151), (41, 10, 4, 0, 0, 0), (43, 10, 6, 0, 0, 0), (45, 19, 0, 0, 0, 0), (46, 10, 3, 0, 0, 0), (47, 73, 29, 0, 39, 326), (50, 18, 6, 1, 0, 0), (53, 39, 16, -23, 0, 0), (56, 18, 3, 1, 0, 0), (59, 18, 4, 1, 0, 0), (62, 39, 4, -57, 0, 0), (65, 10, 3, 0, 0, 0), (66, 79, 0, 0, 0, 0)]
/-- BeatWords$Stress.giveBeats(LBeatWords$Cut;III)V -/
def am_c84 : List am_Row := [(0, 13, 1, 0, 0, 0), (1, 56, 0, 2, 46, 92), (4, 10, 2, 0, 0, 0), (5, 73, 28, 0, 49, 327), (8, 14, 5, 0, 0, 0), (10, 13, 1, 0, 0, 0), (11, 10, 2, 0, 0, 0), (12, 71, 73, 0, 86, 358), (15, 14, 6, 0, 0, 0), (17, 10, 6, 0, 0, 0), (19, 40, 18, 17, 0, 0), (22, 10, 5, 0, 0, 0), (24, 13, 1, 0, 0, 0), (25, 56, 0, 4, 89, 98), (28, 10, 2, 0, 0, 0), (29, 73, 28, 0, 49, 327), (32, 19, 0, 0, 0, 0), (33, 39, 24, 13, 0, 0), (36, 13, 0, 0, 0, 0), (37, 13, 1, 0, 0, 0), (38, 10, 5, 0, 0, 0), (40, 10, 3, 0, 0, 0), (41, 10, 4, 0, 0, 0), (43, 70, 85, 0, 92, 362), (46, 14, 7, 0, 0, 0), (48, 10, 5, 0, 0, 0), (50, 14, 8, 0, 0, 0), (52, 10, 8, 0, 0, 0), (54, 10, 3, 0, 0, 0), (55, 49, 67, 81, 0, 0), (58, 13, 0, 0, 0, 0), (59, 55, 3, 0, 9, 149), (62, 10, 8, 0, 0, 0), (64, 73, 28, 0, 49, 327), (67, 45, 65, 63, 0, 0), (70, 13, 0, 0, 0, 0), (71, 55, 3, 1, 15, 150), (74, 10, 8, 0, 0, 0), (76, 73, 28, 0, 49, 327), (79, 14, 9, 0, 0, 0), (81, 10, 9, 0, 0, 0), (83, 10, 7, 0, 0, 0), (85, 1, 0, 1, 0, 0), (86, 20, 0, 0, 0, 0), (87, 46, 50, 12, 0, 0), (90, 10, 9, 0, 0, 0), (92, 10, 7, 0, 0, 0), (94, 1, 0, 1, 0, 0), (95, 19, 0, 0, 0, 0), (96, 47, 52, 7, 0, 0), (99, 1, 0, 1, 0, 0), (100, 39, 53, 4, 0, 0), (103, 1, 0, 0, 0, 0), (104, 14, 10, 0, 0, 0), (106, 13, 0, 0, 0, 0), (107, 55, 3, 3, 21, 153), (110, 10, 9, 0, 0, 0), (112, 10, 6, 0, 0, 0), (114, 40, 63, 12, 0, 0), (117, 10, 10, 0, 0, 0), (119, 40, 63, 7, 0, 0), (122, 1, 0, 0, 0, 0), (123, 39, 64, 4, 0, 0), (126, 1, 0, 1, 0, 0), (127, 73, 29, 0, 39, 326), (130, 18, 8, 1, 0, 0), (133, 39, 27, -81, 0, 0), (136, 13, 0, 0, 0, 0), (137, 55, 3, 3, 21, 153), (140, 10, 7, 0, 0, 0), (142, 1, 0, 2, 0, 0), (143, 73, 29, 0, 39, 326), (146, 83, 0, 0, 0, 0)]
/-- BeatWords$Stress.mainOfFeet(LBeatWords$Cut;III)I -/
def am_c85 : List am_Row := [(0, 1, 0, -1, 0, 0), (1, 14, 5, 0, 0, 0), (3, 10, 2, 0, 0, 0), (4, 14, 6, 0, 0, 0), (6, 10, 6, 0, 0, 0), (8, 10, 3, 0, 0, 0), (9, 49, 46, 90, 0, 0), (12, 13, 0, 0, 0, 0), (13, 55, 3, 0, 9, 149), (16, 10, 6, 0, 0, 0), (18, 73, 28, 0, 49, 327), (21, 41, 13, 6, 0, 0), (24, 39, 44, 69, 0, 0), (27, 13, 0, 0, 0, 0), (28, 55, 3, 1, 15, 150), (31, 10, 6, 0, 0, 0), (33, 73, 28, 0, 49, 327), (36, 14, 7, 0, 0, 0), (38, 13, 1, 0, 0, 0), (39, 56, 0, 8, 95, 108), (42, 10, 7, 0, 0, 0), (44, 73, 28, 0, 49, 327), (47, 13, 1, 0, 0, 0), (48, 56, 0, 8, 95, 108), (51, 10, 5, 0, 0, 0), (53, 73, 28, 0, 49, 327), (56, 51, 29, 7, 0, 0), (59, 1, 0, 1, 0, 0), (60, 39, 30, 4, 0, 0), (63, 1, 0, 0, 0, 0), (64, 14, 8, 0, 0, 0), (66, 10, 5, 0, 0, 0), (68, 1, 0, -1, 0, 0), (69, 46, 42, 20, 0, 0), (72, 10, 4, 0, 0, 0), (74, 1, 0, 1, 0, 0), (75, 46, 42, 14, 0, 0), (78, 10, 4, 0, 0, 0), (80, 1, 0, 2, 0, 0), (81, 47, 44, 12, 0, 0), (84, 10, 8, 0, 0, 0), (86, 40, 44, 7, 0, 0), (89, 10, 7, 0, 0, 0), (91, 14, 5, 0, 0, 0), (93, 18, 6, 1, 0, 0), (96, 39, 4, -90, 0, 0), (99, 10, 5, 0, 0, 0), (101, 79, 0, 0, 0, 0)]
/-- BeatWords$Stress.hear(LBeatWords$Cut;I)V -/
def am_c86 : List am_Row := [(0, 1, 0, 0, 0, 0), (1, 14, 3, 0, 0, 0), (2, 10, 3, 0, 0, 0), (3, 13, 1, 0, 0, 0), (4, 56, 0, 11, 33, 115), (7, 49, 16, 25, 0, 0), (10, 13, 0, 0, 0, 0), (11, 55, 3, 4, 24, 155), (14, 10, 3, 0, 0, 0), (15, 13, 0, 0, 0, 0), (16, 55, 3, 3, 21, 153), (19, 10, 3, 0, 0, 0), (20, 73, 28, 0, 49, 327), (23, 73, 29, 0, 39, 326), (26, 18, 3, 1, 0, 0), (29, 39, 2, -27, 0, 0), (32, 13, 0, 0, 0, 0), (33, 1, 0, 0, 0, 0), (34, 57, 3, 10, 98, 166), (37, 1, 0, 0, 0, 0), (38, 14, 3, 0, 0, 0), (39, 1, 0, 0, 0, 0), (40, 14, 4, 0, 0, 0), (42, 10, 4, 0, 0, 0), (44, 2, 0, 60, 0, 0), (46, 49, 61, 64, 0, 0), (49, 13, 0, 0, 0, 0), (50, 13, 1, 0, 0, 0), (51, 10, 3, 0, 0, 0), (52, 10, 2, 0, 0, 0), (53, 70, 88, 0, 101, 370), (56, 14, 5, 0, 0, 0), (58, 10, 5, 0, 0, 0), (60, 1, 0, -1, 0, 0), (61, 47, 36, 4, 0, 0), (64, 83, 0, 0, 0, 0), (65, 13, 0, 0, 0, 0), (66, 13, 1, 0, 0, 0), (67, 10, 5, 0, 0, 0), (69, 13, 1, 0, 0, 0), (70, 13, 0, 0, 0, 0), (71, 55, 3, 4, 24, 155), (74, 10, 5, 0, 0, 0), (76, 10, 2, 0, 0, 0), (77, 72, 87, 0, 105, 374), (80, 70, 90, 0, 109, 389), (83, 14, 6, 0, 0, 0), (85, 1, 0, 0, 0, 0), (86, 10, 6, 0, 0, 0), (88, 10, 2, 0, 0, 0), (89, 20, 0, 0, 0, 0), (90, 78, 0, 0, 112, 393), (93, 14, 3, 0, 0, 0), (94, 13, 0, 0, 0, 0), (95, 85, 0, 0, 0, 0), (96, 55, 3, 10, 98, 166), (99, 1, 0, 1, 0, 0), (100, 19, 0, 0, 0, 0), (101, 57, 3, 10, 98, 166), (104, 18, 4, 1, 0, 0), (107, 39, 23, -65, 0, 0), (110, 83, 0, 0, 0, 0)]
/-- BeatWords$Stress.clashesWith(LBeatWords$Cut;[III)I -/
def am_c87 : List am_Row := [(0, 13, 1, 0, 0, 0), (1, 10, 2, 0, 0, 0), (2, 73, 28, 0, 49, 327), (5, 41, 6, 5, 0, 0), (8, 1, 0, -1, 0, 0), (9, 79, 0, 0, 0, 0), (10, 10, 2, 0, 0, 0), (11, 1, 0, 1, 0, 0), (12, 19, 0, 0, 0, 0), (13, 14, 4, 0, 0, 0), (15, 10, 4, 0, 0, 0), (17, 10, 2, 0, 0, 0), (18, 10, 3, 0, 0, 0), (19, 19, 0, 0, 0, 0), (20, 50, 27, 30, 0, 0), (23, 10, 4, 0, 0, 0), (25, 13, 0, 0, 0, 0), (26, 56, 0, 11, 33, 115), (29, 49, 27, 21, 0, 0), (32, 13, 1, 0, 0, 0), (33, 10, 4, 0, 0, 0), (35, 73, 28, 0, 49, 327), (38, 40, 25, 6, 0, 0), (41, 10, 4, 0, 0, 0), (43, 79, 0, 0, 0, 0), (44, 18, 4, 1, 0, 0), (47, 39, 10, -32, 0, 0), (50, 1, 0, -1, 0, 0), (51, 79, 0, 0, 0, 0)]
/-- BeatWords$Stress.firstLoose(LBeatWords$Cut;II)I -/
def am_c88 : List am_Row := [(0, 10, 2, 0, 0, 0), (1, 14, 4, 0, 0, 0), (3, 10, 4, 0, 0, 0), (5, 13, 1, 0, 0, 0), (6, 56, 0, 11, 33, 115), (9, 49, 26, 43, 0, 0), (12, 13, 1, 0, 0, 0), (13, 13, 0, 0, 0, 0), (14, 55, 3, 4, 24, 155), (17, 10, 4, 0, 0, 0), (19, 10, 3, 0, 0, 0), (20, 72, 87, 0, 105, 374), (23, 14, 5, 0, 0, 0), (25, 10, 5, 0, 0, 0), (27, 1, 0, -1, 0, 0), (28, 46, 24, 18, 0, 0), (31, 13, 0, 0, 0, 0), (32, 13, 1, 0, 0, 0), (33, 10, 4, 0, 0, 0), (35, 10, 5, 0, 0, 0), (37, 70, 89, 0, 117, 377), (40, 41, 24, 6, 0, 0), (43, 10, 4, 0, 0, 0), (45, 79, 0, 0, 0, 0), (46, 18, 4, 1, 0, 0), (49, 39, 2, -46, 0, 0), (52, 1, 0, -1, 0, 0), (53, 79, 0, 0, 0, 0)]
/-- BeatWords$Stress.isStuck(LBeatWords$Cut;II)Z -/
def am_c89 : List am_Row := [(0, 13, 0, 0, 0, 0), (1, 55, 3, 4, 24, 155), (4, 10, 2, 0, 0, 0), (5, 73, 28, 0, 49, 327), (8, 1, 0, 2, 0, 0), (9, 47, 26, 39, 0, 0), (12, 13, 0, 0, 0, 0), (13, 55, 3, 4, 24, 155), (16, 10, 3, 0, 0, 0), (17, 73, 28, 0, 49, 327), (20, 1, 0, 2, 0, 0), (21, 47, 26, 27, 0, 0), (24, 13, 0, 0, 0, 0), (25, 13, 1, 0, 0, 0), (26, 10, 2, 0, 0, 0), (27, 70, 91, 0, 121, 381), (30, 1, 0, -1, 0, 0), (31, 47, 26, 17, 0, 0), (34, 13, 0, 0, 0, 0), (35, 13, 1, 0, 0, 0), (36, 10, 3, 0, 0, 0), (37, 70, 92, 0, 125, 385), (40, 1, 0, -1, 0, 0), (41, 47, 26, 7, 0, 0), (44, 1, 0, 1, 0, 0), (45, 39, 27, 4, 0, 0), (48, 1, 0, 0, 0, 0), (49, 84, 0, 0, 0, 0)]
/-- BeatWords$Stress.settle(LBeatWords$Cut;II)I -/
def am_c90 : List am_Row := [(0, 13, 0, 0, 0, 0), (1, 55, 3, 4, 24, 155), (4, 10, 2, 0, 0, 0), (5, 73, 28, 0, 49, 327), (8, 14, 4, 0, 0, 0), (10, 13, 0, 0, 0, 0), (11, 55, 3, 4, 24, 155), (14, 10, 3, 0, 0, 0), (15, 73, 28, 0, 49, 327), (18, 14, 5, 0, 0, 0), (20, 10, 4, 0, 0, 0), (22, 10, 5, 0, 0, 0), (24, 48, 19, 15, 0, 0), (27, 10, 4, 0, 0, 0), (29, 1, 0, 1, 0, 0), (30, 47, 26, 20, 0, 0), (33, 10, 5, 0, 0, 0), (35, 1, 0, 1, 0, 0), (36, 47, 26, 14, 0, 0), (39, 13, 0, 0, 0, 0), (40, 55, 3, 4, 24, 155), (43, 10, 2, 0, 0, 0), (44, 1, 0, 0, 0, 0), (45, 73, 29, 0, 39, 326), (48, 10, 2, 0, 0, 0), (49, 79, 0, 0, 0, 0), (50, 10, 4, 0, 0, 0), (52, 10, 5, 0, 0, 0), (54, 51, 36, 14, 0, 0), (57, 13, 0, 0, 0, 0), (58, 55, 3, 4, 24, 155), (61, 10, 3, 0, 0, 0), (62, 1, 0, 0, 0, 0), (63, 73, 29, 0, 39, 326), (66, 10, 3, 0, 0, 0), (67, 79, 0, 0, 0, 0), (68, 13, 0, 0, 0, 0), (69, 13, 1, 0, 0, 0), (70, 10, 2, 0, 0, 0), (71, 70, 91, 0, 121, 381), (74, 14, 6, 0, 0, 0), (76, 10, 6, 0, 0, 0), (78, 1, 0, -1, 0, 0), (79, 46, 56, 25, 0, 0), (82, 13, 0, 0, 0, 0), (83, 55, 3, 4, 24, 155), (86, 10, 6, 0, 0, 0), (88, 1, 0, 2, 0, 0), (89, 73, 29, 0, 39, 326), (92, 13, 0, 0, 0, 0), (93, 55, 3, 4, 24, 155), (96, 10, 2, 0, 0, 0), (97, 1, 0, 0, 0, 0), (98, 73, 29, 0, 39, 326), (101, 10, 6, 0, 0, 0), (103, 79, 0, 0, 0, 0), (104, 13, 0, 0, 0, 0), (105, 55, 3, 4, 24, 155), (108, 13, 0, 0, 0, 0), (109, 13, 1, 0, 0, 0), (110, 10, 3, 0, 0, 0), (111, 70, 92, 0, 125, 385), (114, 1, 0, 2, 0, 0), (115, 73, 29, 0, 39, 326), (118, 13, 0, 0, 0, 0), (119, 55, 3, 4, 24, 155), (122, 10, 3, 0, 0, 0), (123, 1, 0, 0, 0, 0), (124, 73, 29, 0, 39, 326), (127, 10, 3, 0, 0, 0), (128, 79, 0, 0, 0, 0)]
/-- BeatWords$Stress.lesserAhead(LBeatWords$Cut;I)I -/
def am_c91 : List am_Row := [(0, 13, 1, 0, 0, 0), (1, 56, 0, 2, 46, 92), (4, 13, 1, 0, 0, 0), (5, 56, 0, 5, 128, 101), (8, 10, 2, 0, 0, 0), (9, 73, 28, 0, 49, 327), (12, 73, 28, 0, 49, 327), (15, 14, 3, 0, 0, 0), (16, 10, 2, 0, 0, 0), (17, 1, 0, 1, 0, 0), (18, 20, 0, 0, 0, 0), (19, 14, 4, 0, 0, 0), (21, 10, 4, 0, 0, 0), (23, 10, 3, 0, 0, 0), (24, 48, 25, 25, 0, 0), (27, 13, 0, 0, 0, 0), (28, 55, 3, 4, 24, 155), (31, 10, 4, 0, 0, 0), (33, 73, 28, 0, 49, 327), (36, 1, 0, 1, 0, 0), (37, 47, 23, 6, 0, 0), (40, 10, 4, 0, 0, 0), (42, 79, 0, 0, 0, 0), (43, 18, 4, -1, 0, 0), (46, 39, 12, -25, 0, 0), (49, 1, 0, -1, 0, 0), (50, 79, 0, 0, 0, 0)]
/-- BeatWords$Stress.lesserBehind(LBeatWords$Cut;I)I -/
def am_c92 : List am_Row := [(0, 13, 1, 0, 0, 0), (1, 56, 0, 5, 128, 101), (4, 10, 2, 0, 0, 0), (5, 73, 28, 0, 49, 327), (8, 14, 3, 0, 0, 0), (9, 13, 1, 0, 0, 0), (10, 56, 0, 2, 46, 92), (13, 10, 3, 0, 0, 0), (14, 73, 28, 0, 49, 327), (17, 13, 1, 0, 0, 0), (18, 56, 0, 3, 53, 95), (21, 10, 3, 0, 0, 0), (22, 73, 28, 0, 49, 327), (25, 19, 0, 0, 0, 0), (26, 14, 4, 0, 0, 0), (28, 10, 2, 0, 0, 0), (29, 1, 0, 1, 0, 0), (30, 19, 0, 0, 0, 0), (31, 14, 5, 0, 0, 0), (33, 10, 5, 0, 0, 0), (35, 10, 4, 0, 0, 0), (37, 49, 32, 25, 0, 0), (40, 13, 0, 0, 0, 0), (41, 55, 3, 4, 24, 155), (44, 10, 5, 0, 0, 0), (46, 73, 28, 0, 49, 327), (49, 1, 0, 1, 0, 0), (50, 47, 30, 6, 0, 0), (53, 10, 5, 0, 0, 0), (55, 79, 0, 0, 0, 0), (56, 18, 5, 1, 0, 0), (59, 39, 19, -26, 0, 0), (62, 1, 0, -1, 0, 0), (63, 79, 0, 0, 0, 0)]
/-- BeatWords$Stress.listClashes(LBeatWords$Cut;I)V -/
def am_c93 : List am_Row := [(0, 13, 0, 0, 0, 0), (1, 1, 0, 0, 0, 0), (2, 57, 3, 7, 131, 160), (5, 13, 0, 0, 0, 0), (6, 1, 0, 0, 0, 0), (7, 57, 3, 8, 134, 162), (10, 13, 0, 0, 0, 0), (11, 1, 0, 0, 0, 0), (12, 57, 3, 9, 137, 164), (15, 1, 0, 0, 0, 0), (16, 14, 3, 0, 0, 0), (17, 10, 3, 0, 0, 0), (18, 13, 1, 0, 0, 0), (19, 56, 0, 11, 33, 115), (22, 49, 65, 94, 0, 0), (25, 13, 1, 0, 0, 0), (26, 13, 0, 0, 0, 0), (27, 55, 3, 3, 21, 153), (30, 10, 3, 0, 0, 0), (31, 10, 2, 0, 0, 0), (32, 72, 87, 0, 105, 374), (35, 1, 0, -1, 0, 0), (36, 46, 35, 25, 0, 0), (39, 13, 0, 0, 0, 0), (40, 55, 3, 5, 27, 157), (43, 13, 0, 0, 0, 0), (44, 55, 3, 7, 131, 160), (47, 10, 3, 0, 0, 0), (48, 73, 29, 0, 39, 326), (51, 13, 0, 0, 0, 0), (52, 85, 0, 0, 0, 0), (53, 55, 3, 7, 131, 160), (56, 1, 0, 1, 0, 0), (57, 19, 0, 0, 0, 0), (58, 57, 3, 7, 131, 160), (61, 13, 1, 0, 0, 0), (62, 13, 0, 0, 0, 0), (63, 55, 3, 4, 24, 155), (66, 10, 3, 0, 0, 0), (67, 10, 2, 0, 0, 0), (68, 72, 87, 0, 105, 374), (71, 14, 4, 0, 0, 0), (73, 10, 4, 0, 0, 0), (75, 1, 0, -1, 0, 0), (76, 46, 63, 34, 0, 0), (79, 13, 0, 0, 0, 0), (80, 85, 0, 0, 0, 0), (81, 55, 3, 8, 134, 162), (84, 1, 0, 1, 0, 0), (85, 19, 0, 0, 0, 0), (86, 57, 3, 8, 134, 162), (89, 13, 0, 0, 0, 0), (90, 13, 1, 0, 0, 0), (91, 10, 3, 0, 0, 0), (92, 10, 4, 0, 0, 0), (94, 70, 89, 0, 117, 377), (97, 40, 63, 13, 0, 0), (100, 13, 0, 0, 0, 0), (101, 85, 0, 0, 0, 0), (102, 55, 3, 9, 137, 164), (105, 1, 0, 1, 0, 0), (106, 19, 0, 0, 0, 0), (107, 57, 3, 9, 137, 164), (110, 18, 3, 1, 0, 0), (113, 39, 11, -96, 0, 0), (116, 83, 0, 0, 0, 0)]
/-- BeatWords$Stress.mainBeat(LBeatWords$Cut;[II)I -/
def am_c94 : List am_Row := [(0, 13, 1, 0, 0, 0), (1, 56, 0, 2, 46, 92), (4, 10, 3, 0, 0, 0), (5, 73, 28, 0, 49, 327), (8, 14, 4, 0, 0, 0), (10, 10, 4, 0, 0, 0), (12, 13, 1, 0, 0, 0), (13, 56, 0, 3, 53, 95), (16, 10, 3, 0, 0, 0), (17, 73, 28, 0, 49, 327), (20, 19, 0, 0, 0, 0), (21, 14, 5, 0, 0, 0), (23, 10, 4, 0, 0, 0), (25, 14, 6, 0, 0, 0), (27, 10, 6, 0, 0, 0), (29, 10, 5, 0, 0, 0), (31, 49, 26, 22, 0, 0), (34, 13, 2, 0, 0, 0), (35, 10, 6, 0, 0, 0), (37, 73, 28, 0, 49, 327), (40, 1, 0, 2, 0, 0), (41, 47, 24, 6, 0, 0), (44, 10, 6, 0, 0, 0), (46, 79, 0, 0, 0, 0), (47, 18, 6, 1, 0, 0), (50, 39, 14, -23, 0, 0), (53, 1, 0, -1, 0, 0), (54, 79, 0, 0, 0, 0)]
/-- BeatWords$Stress.likeTold(LBeatWords$Cut;[I)I -/
def am_c95 : List am_Row := [(0, 1, 0, 0, 0, 0), (1, 14, 3, 0, 0, 0), (2, 1, 0, 0, 0, 0), (3, 14, 4, 0, 0, 0), (5, 10, 4, 0, 0, 0), (7, 13, 1, 0, 0, 0), (8, 56, 0, 11, 33, 115), (11, 49, 19, 30, 0, 0), (14, 13, 0, 0, 0, 0), (15, 55, 3, 4, 24, 155), (18, 10, 4, 0, 0, 0), (20, 73, 28, 0, 49, 327), (23, 13, 2, 0, 0, 0), (24, 10, 4, 0, 0, 0), (26, 73, 28, 0, 49, 327), (29, 47, 17, 6, 0, 0), (32, 18, 3, 1, 0, 0), (35, 18, 4, 1, 0, 0), (38, 39, 4, -33, 0, 0), (41, 10, 3, 0, 0, 0), (42, 79, 0, 0, 0, 0)]
/-- BeatWords.at([II)I -/
def am_c96 : List am_Row := [(0, 13, 0, 0, 0, 0), (1, 52, 12, 19, 0, 0), (4, 10, 1, 0, 0, 0), (5, 42, 12, 15, 0, 0), (8, 10, 1, 0, 0, 0), (9, 13, 0, 0, 0, 0), (10, 67, 0, 0, 0, 0), (11, 49, 12, 9, 0, 0), (14, 13, 0, 0, 0, 0), (15, 10, 1, 0, 0, 0), (16, 61, 0, 0, 0, 0), (17, 39, 13, 4, 0, 0), (20, 1, 0, 0, 0, 0), (21, 79, 0, 0, 0, 0)]
/-- BeatWordsLaw.in(JJJ)Z -/
def am_c97 : List am_Row := [(0, 11, 0, 0, 0, 0), (1, 11, 2, 0, 0, 0), (2, 34, 0, 0, 0, 0), (3, 42, 10, 14, 0, 0), (6, 11, 0, 0, 0, 0), (7, 11, 4, 0, 0, 0), (9, 34, 0, 0, 0, 0), (10, 44, 10, 7, 0, 0), (13, 1, 0, 1, 0, 0), (14, 39, 11, 4, 0, 0), (17, 1, 0, 0, 0, 0), (18, 84, 0, 0, 0, 0)]
/-- BeatWords.at([II)I -/
def am_c98 : List am_Row := [(0, 13, 0, 0, 0, 0), (1, 52, 12, 19, 0, 0), (4, 10, 1, 0, 0, 0), (5, 42, 12, 15, 0, 0), (8, 10, 1, 0, 0, 0), (9, 13, 0, 0, 0, 0), (10, 67, 0, 0, 0, 0), (11, 49, 12, 9, 0, 0), (14, 13, 0, 0, 0, 0), (15, 10, 1, 0, 0, 0), (16, 61, 0, 0, 0, 0), (17, 39, 13, 4, 0, 0), (20, 1, 0, 0, 0, 0), (21, 79, 0, 0, 0, 0)]
/-- BeatWords.at([II)I -/
def am_c99 : List am_Row := [(0, 13, 0, 0, 0, 0), (1, 52, 12, 19, 0, 0), (4, 10, 1, 0, 0, 0), (5, 42, 12, 15, 0, 0), (8, 10, 1, 0, 0, 0), (9, 13, 0, 0, 0, 0), (10, 67, 0, 0, 0, 0), (11, 49, 12, 9, 0, 0), (14, 13, 0, 0, 0, 0), (15, 10, 1, 0, 0, 0), (16, 61, 0, 0, 0, 0), (17, 39, 13, 4, 0, 0), (20, 1, 0, 0, 0, 0), (21, 79, 0, 0, 0, 0)]
/-- BeatWordsLaw.cell([II)I -/
def am_c100 : List am_Row := [(0, 10, 1, 0, 0, 0), (1, 13, 0, 0, 0, 0), (2, 67, 0, 0, 0, 0), (3, 49, 8, 9, 0, 0), (6, 13, 0, 0, 0, 0), (7, 10, 1, 0, 0, 0), (8, 61, 0, 0, 0, 0), (9, 39, 13, 9, 0, 0), (12, 4, 0, 40503, 7, 536), (14, 10, 1, 0, 0, 0), (15, 1, 0, 3, 0, 0), (16, 19, 0, 0, 0, 0), (17, 21, 0, 0, 0, 0), (18, 79, 0, 0, 0, 0)]
/-- BeatWordsLaw.low(II)I -/
def am_c101 : List am_Row := [(0, 10, 0, 0, 0, 0), (1, 4, 0, 2147483647, 8, 540), (3, 25, 0, 0, 0, 0), (4, 10, 1, 0, 0, 0), (5, 23, 0, 0, 0, 0), (6, 79, 0, 0, 0, 0)]
/-- BeatWordsLaw.isVowel(I)Z -/
def am_c102 : List am_Row := [(0, 10, 0, 0, 0, 0), (1, 2, 0, 97, 0, 0), (3, 46, 15, 27, 0, 0), (6, 10, 0, 0, 0, 0), (7, 2, 0, 101, 0, 0), (9, 46, 15, 21, 0, 0), (12, 10, 0, 0, 0, 0), (13, 2, 0, 105, 0, 0), (15, 46, 15, 15, 0, 0), (18, 10, 0, 0, 0, 0), (19, 2, 0, 111, 0, 0), (21, 46, 15, 9, 0, 0), (24, 10, 0, 0, 0, 0), (25, 2, 0, 117, 0, 0), (27, 47, 17, 7, 0, 0), (30, 1, 0, 1, 0, 0), (31, 39, 18, 4, 0, 0), (34, 1, 0, 0, 0, 0), (35, 84, 0, 0, 0, 0)]
/-- BeatWordsLaw.told(LBeatWords;[III[I[I)Z -/
def am_c103 : List am_Row := [(0, 1, 0, 0, 0, 0), (1, 14, 6, 0, 0, 0), (3, 1, 0, 1, 0, 0), (4, 14, 7, 0, 0, 0), (6, 1, 0, 0, 0, 0), (7, 14, 8, 0, 0, 0), (9, 1, 0, 0, 0, 0), (10, 14, 9, 0, 0, 0), (12, 10, 9, 0, 0, 0), (14, 10, 3, 0, 0, 0), (15, 49, 131, 235, 0, 0), (18, 13, 1, 0, 0, 0), (19, 10, 2, 0, 0, 0), (20, 10, 9, 0, 0, 0), (22, 1, 0, 3, 0, 0), (23, 22, 0, 0, 0, 0), (24, 19, 0, 0, 0, 0), (25, 72, 100, 0, 9, 533), (28, 2, 0, 10, 0, 0), (30, 10, 9, 0, 0, 0), (32, 1, 0, 3, 0, 0), (33, 23, 0, 0, 0, 0), (34, 21, 0, 0, 0, 0), (35, 90, 0, 0, 0, 0), (36, 14, 10, 0, 0, 0), (38, 10, 10, 0, 0, 0), (40, 2, 0, 8, 0, 0), (42, 72, 101, 0, 15, 537), (45, 14, 11, 0, 0, 0), (47, 10, 11, 0, 0, 0), (49, 1, 0, 4, 0, 0), (50, 49, 42, 19, 0, 0), (53, 2, 0, 97, 0, 0), (55, 10, 10, 0, 0, 0), (57, 1, 0, 3, 0, 0), (58, 90, 0, 0, 0, 0), (59, 1, 0, 5, 0, 0), (60, 72, 101, 0, 15, 537), (63, 1, 0, 4, 0, 0), (64, 21, 0, 0, 0, 0), (65, 19, 0, 0, 0, 0), (66, 39, 54, 27, 0, 0), (69, 10, 11, 0, 0, 0), (71, 2, 0, 7, 0, 0), (73, 49, 53, 18, 0, 0), (76, 2, 0, 98, 0, 0), (78, 10, 10, 0, 0, 0), (80, 1, 0, 3, 0, 0), (81, 90, 0, 0, 0, 0), (82, 2, 0, 20, 0, 0), (84, 72, 101, 0, 15, 537), (87, 19, 0, 0, 0, 0), (88, 39, 54, 5, 0, 0), (91, 2, 0, 32, 0, 0), (93, 14, 12, 0, 0, 0), (95, 10, 11, 0, 0, 0), (97, 1, 0, 4, 0, 0), (98, 49, 95, 75, 0, 0), (101, 10, 10, 0, 0, 0), (103, 1, 0, 3, 0, 0), (104, 90, 0, 0, 0, 0), (105, 1, 0, 5, 0, 0), (106, 72, 101, 0, 15, 537), (109, 41, 66, 8, 0, 0), (112, 2, 0, 97, 0, 0), (114, 39, 96, 61, 0, 0), (117, 10, 10, 0, 0, 0), (119, 1, 0, 3, 0, 0), (120, 90, 0, 0, 0, 0), (121, 1, 0, 5, 0, 0), (122, 72, 101, 0, 15, 537), (125, 1, 0, 1, 0, 0), (126, 47, 75, 8, 0, 0), (129, 2, 0, 101, 0, 0), (131, 39, 96, 44, 0, 0), (134, 10, 10, 0, 0, 0), (136, 1, 0, 3, 0, 0), (137, 90, 0, 0, 0, 0), (138, 1, 0, 5, 0, 0), (139, 72, 101, 0, 15, 537), (142, 1, 0, 2, 0, 0), (143, 47, 84, 8, 0, 0), (146, 2, 0, 105, 0, 0), (148, 39, 96, 27, 0, 0), (151, 10, 10, 0, 0, 0), (153, 1, 0, 3, 0, 0), (154, 90, 0, 0, 0, 0), (155, 1, 0, 5, 0, 0), (156, 72, 101, 0, 15, 537), (159, 1, 0, 3, 0, 0), (160, 47, 93, 8, 0, 0), (163, 2, 0, 111, 0, 0), (165, 39, 96, 10, 0, 0), (168, 2, 0, 117, 0, 0), (170, 39, 96, 5, 0, 0), (173, 10, 12, 0, 0, 0), (175, 14, 12, 0, 0, 0), (177, 10, 12, 0, 0, 0), (179, 2, 0, 32, 0, 0), (181, 47, 102, 7, 0, 0), (184, 1, 0, 1, 0, 0), (185, 39, 103, 4, 0, 0), (188, 1, 0, 0, 0, 0), (189, 14, 13, 0, 0, 0), (191, 10, 13, 0, 0, 0), (193, 40, 113, 16, 0, 0), (196, 10, 8, 0, 0, 0), (198, 40, 129, 46, 0, 0), (201, 10, 9, 0, 0, 0), (203, 1, 0, 2, 0, 0), (204, 19, 0, 0, 0, 0), (205, 10, 3, 0, 0, 0), (206, 49, 129, 38, 0, 0), (209, 13, 4, 0, 0, 0), (211, 10, 6, 0, 0, 0), (213, 10, 12, 0, 0, 0), (215, 62, 0, 0, 0, 0), (216, 18, 6, 1, 0, 0), (219, 10, 13, 0, 0, 0), (221, 41, 127, 20, 0, 0), (224, 10, 8, 0, 0, 0), (226, 41, 125, 11, 0, 0), (229, 10, 12, 0, 0, 0), (231, 72, 102, 0, 19, 544), (234, 40, 127, 7, 0, 0), (237, 1, 0, 1, 0, 0), (238, 39, 128, 4, 0, 0), (241, 1, 0, 0, 0, 0), (242, 14, 8, 0, 0, 0), (244, 18, 9, 1, 0, 0), (247, 39, 8, -235, 0, 0), (250, 10, 8, 0, 0, 0), (252, 41, 141, 20, 0, 0), (255, 10, 6, 0, 0, 0), (257, 2, 0, 60, 0, 0), (259, 49, 141, 13, 0, 0), (262, 13, 4, 0, 0, 0), (264, 10, 6, 0, 0, 0), (266, 2, 0, 97, 0, 0), (268, 62, 0, 0, 0, 0), (269, 18, 6, 1, 0, 0), (272, 13, 4, 0, 0, 0), (274, 2, 0, 60, 0, 0), (276, 10, 6, 0, 0, 0), (278, 62, 0, 0, 0, 0), (279, 1, 0, 0, 0, 0), (280, 14, 9, 0, 0, 0), (282, 10, 9, 0, 0, 0), (284, 10, 6, 0, 0, 0), (286, 49, 167, 37, 0, 0), (289, 10, 7, 0, 0, 0), (291, 40, 167, 32, 0, 0), (294, 13, 0, 0, 0, 0), (295, 13, 4, 0, 0, 0), (297, 10, 9, 0, 0, 0), (299, 61, 0, 0, 0, 0), (300, 70, 1, 0, 23, 550), (303, 10, 9, 0, 0, 0), (305, 1, 0, 1, 0, 0), (306, 19, 0, 0, 0, 0), (307, 47, 163, 7, 0, 0), (310, 1, 0, 1, 0, 0), (311, 39, 164, 4, 0, 0), (314, 1, 0, 0, 0, 0), (315, 14, 7, 0, 0, 0), (317, 18, 9, 1, 0, 0), (320, 39, 147, -38, 0, 0), (323, 13, 1, 0, 0, 0), (324, 10, 2, 0, 0, 0), (325, 2, 0, 21, 0, 0), (327, 19, 0, 0, 0, 0), (328, 72, 100, 0, 9, 533), (331, 14, 9, 0, 0, 0), (333, 1, 0, 0, 0, 0), (334, 14, 10, 0, 0, 0), (336, 10, 10, 0, 0, 0), (338, 2, 0, 9, 0, 0), (340, 49, 233, 112, 0, 0), (343, 10, 7, 0, 0, 0), (345, 40, 233, 107, 0, 0), (348, 10, 10, 0, 0, 0), (350, 1, 0, 1, 0, 0), (351, 47, 185, 7, 0, 0), (354, 1, 0, 1, 0, 0), (355, 39, 186, 4, 0, 0), (358, 1, 0, 0, 0, 0), (359, 14, 11, 0, 0, 0), (361, 10, 10, 0, 0, 0), (363, 40, 198, 22, 0, 0), (366, 10, 10, 0, 0, 0), (368, 1, 0, 1, 0, 0), (369, 46, 198, 16, 0, 0), (372, 10, 10, 0, 0, 0), (374, 1, 0, 5, 0, 0), (375, 46, 198, 10, 0, 0), (378, 10, 10, 0, 0, 0), (380, 2, 0, 6, 0, 0), (382, 47, 200, 7, 0, 0), (385, 1, 0, 2, 0, 0), (386, 39, 206, 15, 0, 0), (389, 10, 10, 0, 0, 0), (391, 2, 0, 8, 0, 0), (393, 47, 205, 7, 0, 0), (396, 1, 0, 4, 0, 0), (397, 39, 206, 4, 0, 0), (400, 1, 0, 3, 0, 0), (401, 14, 12, 0, 0, 0), (403, 13, 5, 0, 0, 0), (405, 10, 10, 0, 0, 0), (407, 10, 11, 0, 0, 0), (409, 10, 9, 0, 0, 0), (411, 1, 0, 3, 0, 0), (412, 10, 10, 0, 0, 0), (414, 21, 0, 0, 0, 0), (415, 90, 0, 0, 0, 0), (416, 10, 12, 0, 0, 0), (418, 72, 101, 0, 15, 537), (421, 19, 0, 0, 0, 0), (422, 62, 0, 0, 0, 0), (423, 13, 0, 0, 0, 0), (424, 10, 10, 0, 0, 0), (426, 13, 5, 0, 0, 0), (428, 10, 10, 0, 0, 0), (430, 61, 0, 0, 0, 0), (431, 70, 5, 0, 29, 408), (434, 10, 11, 0, 0, 0), (436, 47, 229, 7, 0, 0), (439, 1, 0, 1, 0, 0), (440, 39, 230, 4, 0, 0), (443, 1, 0, 0, 0, 0), (444, 14, 7, 0, 0, 0), (446, 18, 10, 1, 0, 0), (449, 39, 175, -113, 0, 0), (452, 10, 7, 0, 0, 0), (454, 84, 0, 0, 0, 0)]
/-- BeatWords.at([II)I -/
def am_c104 : List am_Row := [(0, 13, 0, 0, 0, 0), (1, 52, 12, 19, 0, 0), (4, 10, 1, 0, 0, 0), (5, 42, 12, 15, 0, 0), (8, 10, 1, 0, 0, 0), (9, 13, 0, 0, 0, 0), (10, 67, 0, 0, 0, 0), (11, 49, 12, 9, 0, 0), (14, 13, 0, 0, 0, 0), (15, 10, 1, 0, 0, 0), (16, 61, 0, 0, 0, 0), (17, 39, 13, 4, 0, 0), (20, 1, 0, 0, 0, 0), (21, 79, 0, 0, 0, 0)]
/-- BeatWords.at([II)I -/
def am_c105 : List am_Row := [(0, 13, 0, 0, 0, 0), (1, 52, 12, 19, 0, 0), (4, 10, 1, 0, 0, 0), (5, 42, 12, 15, 0, 0), (8, 10, 1, 0, 0, 0), (9, 13, 0, 0, 0, 0), (10, 67, 0, 0, 0, 0), (11, 49, 12, 9, 0, 0), (14, 13, 0, 0, 0, 0), (15, 10, 1, 0, 0, 0), (16, 61, 0, 0, 0, 0), (17, 39, 13, 4, 0, 0), (20, 1, 0, 0, 0, 0), (21, 79, 0, 0, 0, 0)]
/-- BeatWords.at([II)I -/
def am_c106 : List am_Row := [(0, 13, 0, 0, 0, 0), (1, 52, 12, 19, 0, 0), (4, 10, 1, 0, 0, 0), (5, 42, 12, 15, 0, 0), (8, 10, 1, 0, 0, 0), (9, 13, 0, 0, 0, 0), (10, 67, 0, 0, 0, 0), (11, 49, 12, 9, 0, 0), (14, 13, 0, 0, 0, 0), (15, 10, 1, 0, 0, 0), (16, 61, 0, 0, 0, 0), (17, 39, 13, 4, 0, 0), (20, 1, 0, 0, 0, 0), (21, 79, 0, 0, 0, 0)]
/-- BeatWords.at([II)I -/
def am_c107 : List am_Row := [(0, 13, 0, 0, 0, 0), (1, 52, 12, 19, 0, 0), (4, 10, 1, 0, 0, 0), (5, 42, 12, 15, 0, 0), (8, 10, 1, 0, 0, 0), (9, 13, 0, 0, 0, 0), (10, 67, 0, 0, 0, 0), (11, 49, 12, 9, 0, 0), (14, 13, 0, 0, 0, 0), (15, 10, 1, 0, 0, 0), (16, 61, 0, 0, 0, 0), (17, 39, 13, 4, 0, 0), (20, 1, 0, 0, 0, 0), (21, 79, 0, 0, 0, 0)]
/-- BeatWords.at([II)I -/
def am_c108 : List am_Row := [(0, 13, 0, 0, 0, 0), (1, 52, 12, 19, 0, 0), (4, 10, 1, 0, 0, 0), (5, 42, 12, 15, 0, 0), (8, 10, 1, 0, 0, 0), (9, 13, 0, 0, 0, 0), (10, 67, 0, 0, 0, 0), (11, 49, 12, 9, 0, 0), (14, 13, 0, 0, 0, 0), (15, 10, 1, 0, 0, 0), (16, 61, 0, 0, 0, 0), (17, 39, 13, 4, 0, 0), (20, 1, 0, 0, 0, 0), (21, 79, 0, 0, 0, 0)]
/-- BeatWords.at([II)I -/
def am_c109 : List am_Row := [(0, 13, 0, 0, 0, 0), (1, 52, 12, 19, 0, 0), (4, 10, 1, 0, 0, 0), (5, 42, 12, 15, 0, 0), (8, 10, 1, 0, 0, 0), (9, 13, 0, 0, 0, 0), (10, 67, 0, 0, 0, 0), (11, 49, 12, 9, 0, 0), (14, 13, 0, 0, 0, 0), (15, 10, 1, 0, 0, 0), (16, 61, 0, 0, 0, 0), (17, 39, 13, 4, 0, 0), (20, 1, 0, 0, 0, 0), (21, 79, 0, 0, 0, 0)]
/-- BeatWords.at([II)I -/
def am_c110 : List am_Row := [(0, 13, 0, 0, 0, 0), (1, 52, 12, 19, 0, 0), (4, 10, 1, 0, 0, 0), (5, 42, 12, 15, 0, 0), (8, 10, 1, 0, 0, 0), (9, 13, 0, 0, 0, 0), (10, 67, 0, 0, 0, 0), (11, 49, 12, 9, 0, 0), (14, 13, 0, 0, 0, 0), (15, 10, 1, 0, 0, 0), (16, 61, 0, 0, 0, 0), (17, 39, 13, 4, 0, 0), (20, 1, 0, 0, 0, 0), (21, 79, 0, 0, 0, 0)]
/-- BeatWords.at([II)I -/
def am_c111 : List am_Row := [(0, 13, 0, 0, 0, 0), (1, 52, 12, 19, 0, 0), (4, 10, 1, 0, 0, 0), (5, 42, 12, 15, 0, 0), (8, 10, 1, 0, 0, 0), (9, 13, 0, 0, 0, 0), (10, 67, 0, 0, 0, 0), (11, 49, 12, 9, 0, 0), (14, 13, 0, 0, 0, 0), (15, 10, 1, 0, 0, 0), (16, 61, 0, 0, 0, 0), (17, 39, 13, 4, 0, 0), (20, 1, 0, 0, 0, 0), (21, 79, 0, 0, 0, 0)]
/-- BeatWords.at([II)I -/
def am_c112 : List am_Row := [(0, 13, 0, 0, 0, 0), (1, 52, 12, 19, 0, 0), (4, 10, 1, 0, 0, 0), (5, 42, 12, 15, 0, 0), (8, 10, 1, 0, 0, 0), (9, 13, 0, 0, 0, 0), (10, 67, 0, 0, 0, 0), (11, 49, 12, 9, 0, 0), (14, 13, 0, 0, 0, 0), (15, 10, 1, 0, 0, 0), (16, 61, 0, 0, 0, 0), (17, 39, 13, 4, 0, 0), (20, 1, 0, 0, 0, 0), (21, 79, 0, 0, 0, 0)]
/-- BeatWords.at([II)I -/
def am_c113 : List am_Row := [(0, 13, 0, 0, 0, 0), (1, 52, 12, 19, 0, 0), (4, 10, 1, 0, 0, 0), (5, 42, 12, 15, 0, 0), (8, 10, 1, 0, 0, 0), (9, 13, 0, 0, 0, 0), (10, 67, 0, 0, 0, 0), (11, 49, 12, 9, 0, 0), (14, 13, 0, 0, 0, 0), (15, 10, 1, 0, 0, 0), (16, 61, 0, 0, 0, 0), (17, 39, 13, 4, 0, 0), (20, 1, 0, 0, 0, 0), (21, 79, 0, 0, 0, 0)]
/-- BeatWords.at([II)I -/
def am_c114 : List am_Row := [(0, 13, 0, 0, 0, 0), (1, 52, 12, 19, 0, 0), (4, 10, 1, 0, 0, 0), (5, 42, 12, 15, 0, 0), (8, 10, 1, 0, 0, 0), (9, 13, 0, 0, 0, 0), (10, 67, 0, 0, 0, 0), (11, 49, 12, 9, 0, 0), (14, 13, 0, 0, 0, 0), (15, 10, 1, 0, 0, 0), (16, 61, 0, 0, 0, 0), (17, 39, 13, 4, 0, 0), (20, 1, 0, 0, 0, 0), (21, 79, 0, 0, 0, 0)]
/-- BeatWords.at([II)I -/
def am_c115 : List am_Row := [(0, 13, 0, 0, 0, 0), (1, 52, 12, 19, 0, 0), (4, 10, 1, 0, 0, 0), (5, 42, 12, 15, 0, 0), (8, 10, 1, 0, 0, 0), (9, 13, 0, 0, 0, 0), (10, 67, 0, 0, 0, 0), (11, 49, 12, 9, 0, 0), (14, 13, 0, 0, 0, 0), (15, 10, 1, 0, 0, 0), (16, 61, 0, 0, 0, 0), (17, 39, 13, 4, 0, 0), (20, 1, 0, 0, 0, 0), (21, 79, 0, 0, 0, 0)]
/-- BeatWords.at([II)I -/
def am_c116 : List am_Row := [(0, 13, 0, 0, 0, 0), (1, 52, 12, 19, 0, 0), (4, 10, 1, 0, 0, 0), (5, 42, 12, 15, 0, 0), (8, 10, 1, 0, 0, 0), (9, 13, 0, 0, 0, 0), (10, 67, 0, 0, 0, 0), (11, 49, 12, 9, 0, 0), (14, 13, 0, 0, 0, 0), (15, 10, 1, 0, 0, 0), (16, 61, 0, 0, 0, 0), (17, 39, 13, 4, 0, 0), (20, 1, 0, 0, 0, 0), (21, 79, 0, 0, 0, 0)]
/-- BeatWords.at([II)I -/
def am_c117 : List am_Row := [(0, 13, 0, 0, 0, 0), (1, 52, 12, 19, 0, 0), (4, 10, 1, 0, 0, 0), (5, 42, 12, 15, 0, 0), (8, 10, 1, 0, 0, 0), (9, 13, 0, 0, 0, 0), (10, 67, 0, 0, 0, 0), (11, 49, 12, 9, 0, 0), (14, 13, 0, 0, 0, 0), (15, 10, 1, 0, 0, 0), (16, 61, 0, 0, 0, 0), (17, 39, 13, 4, 0, 0), (20, 1, 0, 0, 0, 0), (21, 79, 0, 0, 0, 0)]
/-- BeatWords.at([II)I -/
def am_c118 : List am_Row := [(0, 13, 0, 0, 0, 0), (1, 52, 12, 19, 0, 0), (4, 10, 1, 0, 0, 0), (5, 42, 12, 15, 0, 0), (8, 10, 1, 0, 0, 0), (9, 13, 0, 0, 0, 0), (10, 67, 0, 0, 0, 0), (11, 49, 12, 9, 0, 0), (14, 13, 0, 0, 0, 0), (15, 10, 1, 0, 0, 0), (16, 61, 0, 0, 0, 0), (17, 39, 13, 4, 0, 0), (20, 1, 0, 0, 0, 0), (21, 79, 0, 0, 0, 0)]
/-- BeatWords.at([II)I -/
def am_c119 : List am_Row := [(0, 13, 0, 0, 0, 0), (1, 52, 12, 19, 0, 0), (4, 10, 1, 0, 0, 0), (5, 42, 12, 15, 0, 0), (8, 10, 1, 0, 0, 0), (9, 13, 0, 0, 0, 0), (10, 67, 0, 0, 0, 0), (11, 49, 12, 9, 0, 0), (14, 13, 0, 0, 0, 0), (15, 10, 1, 0, 0, 0), (16, 61, 0, 0, 0, 0), (17, 39, 13, 4, 0, 0), (20, 1, 0, 0, 0, 0), (21, 79, 0, 0, 0, 0)]
/-- BeatWords.at([II)I -/
def am_c120 : List am_Row := [(0, 13, 0, 0, 0, 0), (1, 52, 12, 19, 0, 0), (4, 10, 1, 0, 0, 0), (5, 42, 12, 15, 0, 0), (8, 10, 1, 0, 0, 0), (9, 13, 0, 0, 0, 0), (10, 67, 0, 0, 0, 0), (11, 49, 12, 9, 0, 0), (14, 13, 0, 0, 0, 0), (15, 10, 1, 0, 0, 0), (16, 61, 0, 0, 0, 0), (17, 39, 13, 4, 0, 0), (20, 1, 0, 0, 0, 0), (21, 79, 0, 0, 0, 0)]
/-- BeatWords.at([II)I -/
def am_c121 : List am_Row := [(0, 13, 0, 0, 0, 0), (1, 52, 12, 19, 0, 0), (4, 10, 1, 0, 0, 0), (5, 42, 12, 15, 0, 0), (8, 10, 1, 0, 0, 0), (9, 13, 0, 0, 0, 0), (10, 67, 0, 0, 0, 0), (11, 49, 12, 9, 0, 0), (14, 13, 0, 0, 0, 0), (15, 10, 1, 0, 0, 0), (16, 61, 0, 0, 0, 0), (17, 39, 13, 4, 0, 0), (20, 1, 0, 0, 0, 0), (21, 79, 0, 0, 0, 0)]
/-- BeatWords.at([II)I -/
def am_c122 : List am_Row := [(0, 13, 0, 0, 0, 0), (1, 52, 12, 19, 0, 0), (4, 10, 1, 0, 0, 0), (5, 42, 12, 15, 0, 0), (8, 10, 1, 0, 0, 0), (9, 13, 0, 0, 0, 0), (10, 67, 0, 0, 0, 0), (11, 49, 12, 9, 0, 0), (14, 13, 0, 0, 0, 0), (15, 10, 1, 0, 0, 0), (16, 61, 0, 0, 0, 0), (17, 39, 13, 4, 0, 0), (20, 1, 0, 0, 0, 0), (21, 79, 0, 0, 0, 0)]
/-- BeatWords.at([II)I -/
def am_c123 : List am_Row := [(0, 13, 0, 0, 0, 0), (1, 52, 12, 19, 0, 0), (4, 10, 1, 0, 0, 0), (5, 42, 12, 15, 0, 0), (8, 10, 1, 0, 0, 0), (9, 13, 0, 0, 0, 0), (10, 67, 0, 0, 0, 0), (11, 49, 12, 9, 0, 0), (14, 13, 0, 0, 0, 0), (15, 10, 1, 0, 0, 0), (16, 61, 0, 0, 0, 0), (17, 39, 13, 4, 0, 0), (20, 1, 0, 0, 0, 0), (21, 79, 0, 0, 0, 0)]
/-- BeatWords.at([II)I -/
def am_c124 : List am_Row := [(0, 13, 0, 0, 0, 0), (1, 52, 12, 19, 0, 0), (4, 10, 1, 0, 0, 0), (5, 42, 12, 15, 0, 0), (8, 10, 1, 0, 0, 0), (9, 13, 0, 0, 0, 0), (10, 67, 0, 0, 0, 0), (11, 49, 12, 9, 0, 0), (14, 13, 0, 0, 0, 0), (15, 10, 1, 0, 0, 0), (16, 61, 0, 0, 0, 0), (17, 39, 13, 4, 0, 0), (20, 1, 0, 0, 0, 0), (21, 79, 0, 0, 0, 0)]
/-- BeatWords.at([II)I -/
def am_c125 : List am_Row := [(0, 13, 0, 0, 0, 0), (1, 52, 12, 19, 0, 0), (4, 10, 1, 0, 0, 0), (5, 42, 12, 15, 0, 0), (8, 10, 1, 0, 0, 0), (9, 13, 0, 0, 0, 0), (10, 67, 0, 0, 0, 0), (11, 49, 12, 9, 0, 0), (14, 13, 0, 0, 0, 0), (15, 10, 1, 0, 0, 0), (16, 61, 0, 0, 0, 0), (17, 39, 13, 4, 0, 0), (20, 1, 0, 0, 0, 0), (21, 79, 0, 0, 0, 0)]
/-- BeatWords.at([II)I -/
def am_c126 : List am_Row := [(0, 13, 0, 0, 0, 0), (1, 52, 12, 19, 0, 0), (4, 10, 1, 0, 0, 0), (5, 42, 12, 15, 0, 0), (8, 10, 1, 0, 0, 0), (9, 13, 0, 0, 0, 0), (10, 67, 0, 0, 0, 0), (11, 49, 12, 9, 0, 0), (14, 13, 0, 0, 0, 0), (15, 10, 1, 0, 0, 0), (16, 61, 0, 0, 0, 0), (17, 39, 13, 4, 0, 0), (20, 1, 0, 0, 0, 0), (21, 79, 0, 0, 0, 0)]
/-- BeatWords.at([II)I -/
def am_c127 : List am_Row := [(0, 13, 0, 0, 0, 0), (1, 52, 12, 19, 0, 0), (4, 10, 1, 0, 0, 0), (5, 42, 12, 15, 0, 0), (8, 10, 1, 0, 0, 0), (9, 13, 0, 0, 0, 0), (10, 67, 0, 0, 0, 0), (11, 49, 12, 9, 0, 0), (14, 13, 0, 0, 0, 0), (15, 10, 1, 0, 0, 0), (16, 61, 0, 0, 0, 0), (17, 39, 13, 4, 0, 0), (20, 1, 0, 0, 0, 0), (21, 79, 0, 0, 0, 0)]
/-- BeatWords.at([II)I -/
def am_c128 : List am_Row := [(0, 13, 0, 0, 0, 0), (1, 52, 12, 19, 0, 0), (4, 10, 1, 0, 0, 0), (5, 42, 12, 15, 0, 0), (8, 10, 1, 0, 0, 0), (9, 13, 0, 0, 0, 0), (10, 67, 0, 0, 0, 0), (11, 49, 12, 9, 0, 0), (14, 13, 0, 0, 0, 0), (15, 10, 1, 0, 0, 0), (16, 61, 0, 0, 0, 0), (17, 39, 13, 4, 0, 0), (20, 1, 0, 0, 0, 0), (21, 79, 0, 0, 0, 0)]
/-- BeatWords.at([II)I -/
def am_c129 : List am_Row := [(0, 13, 0, 0, 0, 0), (1, 52, 12, 19, 0, 0), (4, 10, 1, 0, 0, 0), (5, 42, 12, 15, 0, 0), (8, 10, 1, 0, 0, 0), (9, 13, 0, 0, 0, 0), (10, 67, 0, 0, 0, 0), (11, 49, 12, 9, 0, 0), (14, 13, 0, 0, 0, 0), (15, 10, 1, 0, 0, 0), (16, 61, 0, 0, 0, 0), (17, 39, 13, 4, 0, 0), (20, 1, 0, 0, 0, 0), (21, 79, 0, 0, 0, 0)]
/-- BeatWords.at([II)I -/
def am_c130 : List am_Row := [(0, 13, 0, 0, 0, 0), (1, 52, 12, 19, 0, 0), (4, 10, 1, 0, 0, 0), (5, 42, 12, 15, 0, 0), (8, 10, 1, 0, 0, 0), (9, 13, 0, 0, 0, 0), (10, 67, 0, 0, 0, 0), (11, 49, 12, 9, 0, 0), (14, 13, 0, 0, 0, 0), (15, 10, 1, 0, 0, 0), (16, 61, 0, 0, 0, 0), (17, 39, 13, 4, 0, 0), (20, 1, 0, 0, 0, 0), (21, 79, 0, 0, 0, 0)]
/-- BeatWords.at([II)I -/
def am_c131 : List am_Row := [(0, 13, 0, 0, 0, 0), (1, 52, 12, 19, 0, 0), (4, 10, 1, 0, 0, 0), (5, 42, 12, 15, 0, 0), (8, 10, 1, 0, 0, 0), (9, 13, 0, 0, 0, 0), (10, 67, 0, 0, 0, 0), (11, 49, 12, 9, 0, 0), (14, 13, 0, 0, 0, 0), (15, 10, 1, 0, 0, 0), (16, 61, 0, 0, 0, 0), (17, 39, 13, 4, 0, 0), (20, 1, 0, 0, 0, 0), (21, 79, 0, 0, 0, 0)]
/-- BeatWords.at([II)I -/
def am_c132 : List am_Row := [(0, 13, 0, 0, 0, 0), (1, 52, 12, 19, 0, 0), (4, 10, 1, 0, 0, 0), (5, 42, 12, 15, 0, 0), (8, 10, 1, 0, 0, 0), (9, 13, 0, 0, 0, 0), (10, 67, 0, 0, 0, 0), (11, 49, 12, 9, 0, 0), (14, 13, 0, 0, 0, 0), (15, 10, 1, 0, 0, 0), (16, 61, 0, 0, 0, 0), (17, 39, 13, 4, 0, 0), (20, 1, 0, 0, 0, 0), (21, 79, 0, 0, 0, 0)]
/-- BeatWords.at([II)I -/
def am_c133 : List am_Row := [(0, 13, 0, 0, 0, 0), (1, 52, 12, 19, 0, 0), (4, 10, 1, 0, 0, 0), (5, 42, 12, 15, 0, 0), (8, 10, 1, 0, 0, 0), (9, 13, 0, 0, 0, 0), (10, 67, 0, 0, 0, 0), (11, 49, 12, 9, 0, 0), (14, 13, 0, 0, 0, 0), (15, 10, 1, 0, 0, 0), (16, 61, 0, 0, 0, 0), (17, 39, 13, 4, 0, 0), (20, 1, 0, 0, 0, 0), (21, 79, 0, 0, 0, 0)]
/-- BeatWords.at([II)I -/
def am_c134 : List am_Row := [(0, 13, 0, 0, 0, 0), (1, 52, 12, 19, 0, 0), (4, 10, 1, 0, 0, 0), (5, 42, 12, 15, 0, 0), (8, 10, 1, 0, 0, 0), (9, 13, 0, 0, 0, 0), (10, 67, 0, 0, 0, 0), (11, 49, 12, 9, 0, 0), (14, 13, 0, 0, 0, 0), (15, 10, 1, 0, 0, 0), (16, 61, 0, 0, 0, 0), (17, 39, 13, 4, 0, 0), (20, 1, 0, 0, 0, 0), (21, 79, 0, 0, 0, 0)]
/-- BeatWords.at([II)I -/
def am_c135 : List am_Row := [(0, 13, 0, 0, 0, 0), (1, 52, 12, 19, 0, 0), (4, 10, 1, 0, 0, 0), (5, 42, 12, 15, 0, 0), (8, 10, 1, 0, 0, 0), (9, 13, 0, 0, 0, 0), (10, 67, 0, 0, 0, 0), (11, 49, 12, 9, 0, 0), (14, 13, 0, 0, 0, 0), (15, 10, 1, 0, 0, 0), (16, 61, 0, 0, 0, 0), (17, 39, 13, 4, 0, 0), (20, 1, 0, 0, 0, 0), (21, 79, 0, 0, 0, 0)]
/-- BeatWords.at([II)I -/
def am_c136 : List am_Row := [(0, 13, 0, 0, 0, 0), (1, 52, 12, 19, 0, 0), (4, 10, 1, 0, 0, 0), (5, 42, 12, 15, 0, 0), (8, 10, 1, 0, 0, 0), (9, 13, 0, 0, 0, 0), (10, 67, 0, 0, 0, 0), (11, 49, 12, 9, 0, 0), (14, 13, 0, 0, 0, 0), (15, 10, 1, 0, 0, 0), (16, 61, 0, 0, 0, 0), (17, 39, 13, 4, 0, 0), (20, 1, 0, 0, 0, 0), (21, 79, 0, 0, 0, 0)]
/-- BeatWords.at([II)I -/
def am_c137 : List am_Row := [(0, 13, 0, 0, 0, 0), (1, 52, 12, 19, 0, 0), (4, 10, 1, 0, 0, 0), (5, 42, 12, 15, 0, 0), (8, 10, 1, 0, 0, 0), (9, 13, 0, 0, 0, 0), (10, 67, 0, 0, 0, 0), (11, 49, 12, 9, 0, 0), (14, 13, 0, 0, 0, 0), (15, 10, 1, 0, 0, 0), (16, 61, 0, 0, 0, 0), (17, 39, 13, 4, 0, 0), (20, 1, 0, 0, 0, 0), (21, 79, 0, 0, 0, 0)]
/-- BeatWords.at([II)I -/
def am_c138 : List am_Row := [(0, 13, 0, 0, 0, 0), (1, 52, 12, 19, 0, 0), (4, 10, 1, 0, 0, 0), (5, 42, 12, 15, 0, 0), (8, 10, 1, 0, 0, 0), (9, 13, 0, 0, 0, 0), (10, 67, 0, 0, 0, 0), (11, 49, 12, 9, 0, 0), (14, 13, 0, 0, 0, 0), (15, 10, 1, 0, 0, 0), (16, 61, 0, 0, 0, 0), (17, 39, 13, 4, 0, 0), (20, 1, 0, 0, 0, 0), (21, 79, 0, 0, 0, 0)]
/-- BeatWords.at([II)I -/
def am_c139 : List am_Row := [(0, 13, 0, 0, 0, 0), (1, 52, 12, 19, 0, 0), (4, 10, 1, 0, 0, 0), (5, 42, 12, 15, 0, 0), (8, 10, 1, 0, 0, 0), (9, 13, 0, 0, 0, 0), (10, 67, 0, 0, 0, 0), (11, 49, 12, 9, 0, 0), (14, 13, 0, 0, 0, 0), (15, 10, 1, 0, 0, 0), (16, 61, 0, 0, 0, 0), (17, 39, 13, 4, 0, 0), (20, 1, 0, 0, 0, 0), (21, 79, 0, 0, 0, 0)]
/-- BeatWords.at([II)I -/
def am_c140 : List am_Row := [(0, 13, 0, 0, 0, 0), (1, 52, 12, 19, 0, 0), (4, 10, 1, 0, 0, 0), (5, 42, 12, 15, 0, 0), (8, 10, 1, 0, 0, 0), (9, 13, 0, 0, 0, 0), (10, 67, 0, 0, 0, 0), (11, 49, 12, 9, 0, 0), (14, 13, 0, 0, 0, 0), (15, 10, 1, 0, 0, 0), (16, 61, 0, 0, 0, 0), (17, 39, 13, 4, 0, 0), (20, 1, 0, 0, 0, 0), (21, 79, 0, 0, 0, 0)]
/-- BeatWords.at([II)I -/
def am_c141 : List am_Row := [(0, 13, 0, 0, 0, 0), (1, 52, 12, 19, 0, 0), (4, 10, 1, 0, 0, 0), (5, 42, 12, 15, 0, 0), (8, 10, 1, 0, 0, 0), (9, 13, 0, 0, 0, 0), (10, 67, 0, 0, 0, 0), (11, 49, 12, 9, 0, 0), (14, 13, 0, 0, 0, 0), (15, 10, 1, 0, 0, 0), (16, 61, 0, 0, 0, 0), (17, 39, 13, 4, 0, 0), (20, 1, 0, 0, 0, 0), (21, 79, 0, 0, 0, 0)]
/-- BeatWords.at([II)I -/
def am_c142 : List am_Row := [(0, 13, 0, 0, 0, 0), (1, 52, 12, 19, 0, 0), (4, 10, 1, 0, 0, 0), (5, 42, 12, 15, 0, 0), (8, 10, 1, 0, 0, 0), (9, 13, 0, 0, 0, 0), (10, 67, 0, 0, 0, 0), (11, 49, 12, 9, 0, 0), (14, 13, 0, 0, 0, 0), (15, 10, 1, 0, 0, 0), (16, 61, 0, 0, 0, 0), (17, 39, 13, 4, 0, 0), (20, 1, 0, 0, 0, 0), (21, 79, 0, 0, 0, 0)]
/-- BeatWords.at([II)I -/
def am_c143 : List am_Row := [(0, 13, 0, 0, 0, 0), (1, 52, 12, 19, 0, 0), (4, 10, 1, 0, 0, 0), (5, 42, 12, 15, 0, 0), (8, 10, 1, 0, 0, 0), (9, 13, 0, 0, 0, 0), (10, 67, 0, 0, 0, 0), (11, 49, 12, 9, 0, 0), (14, 13, 0, 0, 0, 0), (15, 10, 1, 0, 0, 0), (16, 61, 0, 0, 0, 0), (17, 39, 13, 4, 0, 0), (20, 1, 0, 0, 0, 0), (21, 79, 0, 0, 0, 0)]
/-- BeatWords.at([II)I -/
def am_c144 : List am_Row := [(0, 13, 0, 0, 0, 0), (1, 52, 12, 19, 0, 0), (4, 10, 1, 0, 0, 0), (5, 42, 12, 15, 0, 0), (8, 10, 1, 0, 0, 0), (9, 13, 0, 0, 0, 0), (10, 67, 0, 0, 0, 0), (11, 49, 12, 9, 0, 0), (14, 13, 0, 0, 0, 0), (15, 10, 1, 0, 0, 0), (16, 61, 0, 0, 0, 0), (17, 39, 13, 4, 0, 0), (20, 1, 0, 0, 0, 0), (21, 79, 0, 0, 0, 0)]
/-- BeatWords.at([II)I -/
def am_c145 : List am_Row := [(0, 13, 0, 0, 0, 0), (1, 52, 12, 19, 0, 0), (4, 10, 1, 0, 0, 0), (5, 42, 12, 15, 0, 0), (8, 10, 1, 0, 0, 0), (9, 13, 0, 0, 0, 0), (10, 67, 0, 0, 0, 0), (11, 49, 12, 9, 0, 0), (14, 13, 0, 0, 0, 0), (15, 10, 1, 0, 0, 0), (16, 61, 0, 0, 0, 0), (17, 39, 13, 4, 0, 0), (20, 1, 0, 0, 0, 0), (21, 79, 0, 0, 0, 0)]
/-- BeatWords.at([II)I -/
def am_c146 : List am_Row := [(0, 13, 0, 0, 0, 0), (1, 52, 12, 19, 0, 0), (4, 10, 1, 0, 0, 0), (5, 42, 12, 15, 0, 0), (8, 10, 1, 0, 0, 0), (9, 13, 0, 0, 0, 0), (10, 67, 0, 0, 0, 0), (11, 49, 12, 9, 0, 0), (14, 13, 0, 0, 0, 0), (15, 10, 1, 0, 0, 0), (16, 61, 0, 0, 0, 0), (17, 39, 13, 4, 0, 0), (20, 1, 0, 0, 0, 0), (21, 79, 0, 0, 0, 0)]
/-- BeatWords.at([II)I -/
def am_c147 : List am_Row := [(0, 13, 0, 0, 0, 0), (1, 52, 12, 19, 0, 0), (4, 10, 1, 0, 0, 0), (5, 42, 12, 15, 0, 0), (8, 10, 1, 0, 0, 0), (9, 13, 0, 0, 0, 0), (10, 67, 0, 0, 0, 0), (11, 49, 12, 9, 0, 0), (14, 13, 0, 0, 0, 0), (15, 10, 1, 0, 0, 0), (16, 61, 0, 0, 0, 0), (17, 39, 13, 4, 0, 0), (20, 1, 0, 0, 0, 0), (21, 79, 0, 0, 0, 0)]
/-- BeatWords.at([II)I -/
def am_c148 : List am_Row := [(0, 13, 0, 0, 0, 0), (1, 52, 12, 19, 0, 0), (4, 10, 1, 0, 0, 0), (5, 42, 12, 15, 0, 0), (8, 10, 1, 0, 0, 0), (9, 13, 0, 0, 0, 0), (10, 67, 0, 0, 0, 0), (11, 49, 12, 9, 0, 0), (14, 13, 0, 0, 0, 0), (15, 10, 1, 0, 0, 0), (16, 61, 0, 0, 0, 0), (17, 39, 13, 4, 0, 0), (20, 1, 0, 0, 0, 0), (21, 79, 0, 0, 0, 0)]
/-- BeatWords.at([II)I -/
def am_c149 : List am_Row := [(0, 13, 0, 0, 0, 0), (1, 52, 12, 19, 0, 0), (4, 10, 1, 0, 0, 0), (5, 42, 12, 15, 0, 0), (8, 10, 1, 0, 0, 0), (9, 13, 0, 0, 0, 0), (10, 67, 0, 0, 0, 0), (11, 49, 12, 9, 0, 0), (14, 13, 0, 0, 0, 0), (15, 10, 1, 0, 0, 0), (16, 61, 0, 0, 0, 0), (17, 39, 13, 4, 0, 0), (20, 1, 0, 0, 0, 0), (21, 79, 0, 0, 0, 0)]
/-- BeatWords.at([II)I -/
def am_c150 : List am_Row := [(0, 13, 0, 0, 0, 0), (1, 52, 12, 19, 0, 0), (4, 10, 1, 0, 0, 0), (5, 42, 12, 15, 0, 0), (8, 10, 1, 0, 0, 0), (9, 13, 0, 0, 0, 0), (10, 67, 0, 0, 0, 0), (11, 49, 12, 9, 0, 0), (14, 13, 0, 0, 0, 0), (15, 10, 1, 0, 0, 0), (16, 61, 0, 0, 0, 0), (17, 39, 13, 4, 0, 0), (20, 1, 0, 0, 0, 0), (21, 79, 0, 0, 0, 0)]
/-- BeatWords.at([II)I -/
def am_c151 : List am_Row := [(0, 13, 0, 0, 0, 0), (1, 52, 12, 19, 0, 0), (4, 10, 1, 0, 0, 0), (5, 42, 12, 15, 0, 0), (8, 10, 1, 0, 0, 0), (9, 13, 0, 0, 0, 0), (10, 67, 0, 0, 0, 0), (11, 49, 12, 9, 0, 0), (14, 13, 0, 0, 0, 0), (15, 10, 1, 0, 0, 0), (16, 61, 0, 0, 0, 0), (17, 39, 13, 4, 0, 0), (20, 1, 0, 0, 0, 0), (21, 79, 0, 0, 0, 0)]
/-- BeatWords.at([II)I -/
def am_c152 : List am_Row := [(0, 13, 0, 0, 0, 0), (1, 52, 12, 19, 0, 0), (4, 10, 1, 0, 0, 0), (5, 42, 12, 15, 0, 0), (8, 10, 1, 0, 0, 0), (9, 13, 0, 0, 0, 0), (10, 67, 0, 0, 0, 0), (11, 49, 12, 9, 0, 0), (14, 13, 0, 0, 0, 0), (15, 10, 1, 0, 0, 0), (16, 61, 0, 0, 0, 0), (17, 39, 13, 4, 0, 0), (20, 1, 0, 0, 0, 0), (21, 79, 0, 0, 0, 0)]
/-- BeatWords.at([II)I -/
def am_c153 : List am_Row := [(0, 13, 0, 0, 0, 0), (1, 52, 12, 19, 0, 0), (4, 10, 1, 0, 0, 0), (5, 42, 12, 15, 0, 0), (8, 10, 1, 0, 0, 0), (9, 13, 0, 0, 0, 0), (10, 67, 0, 0, 0, 0), (11, 49, 12, 9, 0, 0), (14, 13, 0, 0, 0, 0), (15, 10, 1, 0, 0, 0), (16, 61, 0, 0, 0, 0), (17, 39, 13, 4, 0, 0), (20, 1, 0, 0, 0, 0), (21, 79, 0, 0, 0, 0)]
/-- BeatWords.at([II)I -/
def am_c154 : List am_Row := [(0, 13, 0, 0, 0, 0), (1, 52, 12, 19, 0, 0), (4, 10, 1, 0, 0, 0), (5, 42, 12, 15, 0, 0), (8, 10, 1, 0, 0, 0), (9, 13, 0, 0, 0, 0), (10, 67, 0, 0, 0, 0), (11, 49, 12, 9, 0, 0), (14, 13, 0, 0, 0, 0), (15, 10, 1, 0, 0, 0), (16, 61, 0, 0, 0, 0), (17, 39, 13, 4, 0, 0), (20, 1, 0, 0, 0, 0), (21, 79, 0, 0, 0, 0)]
/-- BeatWords.at([II)I -/
def am_c155 : List am_Row := [(0, 13, 0, 0, 0, 0), (1, 52, 12, 19, 0, 0), (4, 10, 1, 0, 0, 0), (5, 42, 12, 15, 0, 0), (8, 10, 1, 0, 0, 0), (9, 13, 0, 0, 0, 0), (10, 67, 0, 0, 0, 0), (11, 49, 12, 9, 0, 0), (14, 13, 0, 0, 0, 0), (15, 10, 1, 0, 0, 0), (16, 61, 0, 0, 0, 0), (17, 39, 13, 4, 0, 0), (20, 1, 0, 0, 0, 0), (21, 79, 0, 0, 0, 0)]
/-- BeatWords.at([II)I -/
def am_c156 : List am_Row := [(0, 13, 0, 0, 0, 0), (1, 52, 12, 19, 0, 0), (4, 10, 1, 0, 0, 0), (5, 42, 12, 15, 0, 0), (8, 10, 1, 0, 0, 0), (9, 13, 0, 0, 0, 0), (10, 67, 0, 0, 0, 0), (11, 49, 12, 9, 0, 0), (14, 13, 0, 0, 0, 0), (15, 10, 1, 0, 0, 0), (16, 61, 0, 0, 0, 0), (17, 39, 13, 4, 0, 0), (20, 1, 0, 0, 0, 0), (21, 79, 0, 0, 0, 0)]
/-- BeatWords.at([II)I -/
def am_c157 : List am_Row := [(0, 13, 0, 0, 0, 0), (1, 52, 12, 19, 0, 0), (4, 10, 1, 0, 0, 0), (5, 42, 12, 15, 0, 0), (8, 10, 1, 0, 0, 0), (9, 13, 0, 0, 0, 0), (10, 67, 0, 0, 0, 0), (11, 49, 12, 9, 0, 0), (14, 13, 0, 0, 0, 0), (15, 10, 1, 0, 0, 0), (16, 61, 0, 0, 0, 0), (17, 39, 13, 4, 0, 0), (20, 1, 0, 0, 0, 0), (21, 79, 0, 0, 0, 0)]
/-- BeatWords.at([II)I -/
def am_c158 : List am_Row := [(0, 13, 0, 0, 0, 0), (1, 52, 12, 19, 0, 0), (4, 10, 1, 0, 0, 0), (5, 42, 12, 15, 0, 0), (8, 10, 1, 0, 0, 0), (9, 13, 0, 0, 0, 0), (10, 67, 0, 0, 0, 0), (11, 49, 12, 9, 0, 0), (14, 13, 0, 0, 0, 0), (15, 10, 1, 0, 0, 0), (16, 61, 0, 0, 0, 0), (17, 39, 13, 4, 0, 0), (20, 1, 0, 0, 0, 0), (21, 79, 0, 0, 0, 0)]
/-- BeatWords.at([II)I -/
def am_c159 : List am_Row := [(0, 13, 0, 0, 0, 0), (1, 52, 12, 19, 0, 0), (4, 10, 1, 0, 0, 0), (5, 42, 12, 15, 0, 0), (8, 10, 1, 0, 0, 0), (9, 13, 0, 0, 0, 0), (10, 67, 0, 0, 0, 0), (11, 49, 12, 9, 0, 0), (14, 13, 0, 0, 0, 0), (15, 10, 1, 0, 0, 0), (16, 61, 0, 0, 0, 0), (17, 39, 13, 4, 0, 0), (20, 1, 0, 0, 0, 0), (21, 79, 0, 0, 0, 0)]
/-- BeatWords.at([II)I -/
def am_c160 : List am_Row := [(0, 13, 0, 0, 0, 0), (1, 52, 12, 19, 0, 0), (4, 10, 1, 0, 0, 0), (5, 42, 12, 15, 0, 0), (8, 10, 1, 0, 0, 0), (9, 13, 0, 0, 0, 0), (10, 67, 0, 0, 0, 0), (11, 49, 12, 9, 0, 0), (14, 13, 0, 0, 0, 0), (15, 10, 1, 0, 0, 0), (16, 61, 0, 0, 0, 0), (17, 39, 13, 4, 0, 0), (20, 1, 0, 0, 0, 0), (21, 79, 0, 0, 0, 0)]
/-- BeatWords.at([II)I -/
def am_c161 : List am_Row := [(0, 13, 0, 0, 0, 0), (1, 52, 12, 19, 0, 0), (4, 10, 1, 0, 0, 0), (5, 42, 12, 15, 0, 0), (8, 10, 1, 0, 0, 0), (9, 13, 0, 0, 0, 0), (10, 67, 0, 0, 0, 0), (11, 49, 12, 9, 0, 0), (14, 13, 0, 0, 0, 0), (15, 10, 1, 0, 0, 0), (16, 61, 0, 0, 0, 0), (17, 39, 13, 4, 0, 0), (20, 1, 0, 0, 0, 0), (21, 79, 0, 0, 0, 0)]
/-- BeatWords.at([II)I -/
def am_c162 : List am_Row := [(0, 13, 0, 0, 0, 0), (1, 52, 12, 19, 0, 0), (4, 10, 1, 0, 0, 0), (5, 42, 12, 15, 0, 0), (8, 10, 1, 0, 0, 0), (9, 13, 0, 0, 0, 0), (10, 67, 0, 0, 0, 0), (11, 49, 12, 9, 0, 0), (14, 13, 0, 0, 0, 0), (15, 10, 1, 0, 0, 0), (16, 61, 0, 0, 0, 0), (17, 39, 13, 4, 0, 0), (20, 1, 0, 0, 0, 0), (21, 79, 0, 0, 0, 0)]
/-- BeatWords.at([II)I -/
def am_c163 : List am_Row := [(0, 13, 0, 0, 0, 0), (1, 52, 12, 19, 0, 0), (4, 10, 1, 0, 0, 0), (5, 42, 12, 15, 0, 0), (8, 10, 1, 0, 0, 0), (9, 13, 0, 0, 0, 0), (10, 67, 0, 0, 0, 0), (11, 49, 12, 9, 0, 0), (14, 13, 0, 0, 0, 0), (15, 10, 1, 0, 0, 0), (16, 61, 0, 0, 0, 0), (17, 39, 13, 4, 0, 0), (20, 1, 0, 0, 0, 0), (21, 79, 0, 0, 0, 0)]
/-- BeatWords.at([II)I -/
def am_c164 : List am_Row := [(0, 13, 0, 0, 0, 0), (1, 52, 12, 19, 0, 0), (4, 10, 1, 0, 0, 0), (5, 42, 12, 15, 0, 0), (8, 10, 1, 0, 0, 0), (9, 13, 0, 0, 0, 0), (10, 67, 0, 0, 0, 0), (11, 49, 12, 9, 0, 0), (14, 13, 0, 0, 0, 0), (15, 10, 1, 0, 0, 0), (16, 61, 0, 0, 0, 0), (17, 39, 13, 4, 0, 0), (20, 1, 0, 0, 0, 0), (21, 79, 0, 0, 0, 0)]
/-- BeatWords.at([II)I -/
def am_c165 : List am_Row := [(0, 13, 0, 0, 0, 0), (1, 52, 12, 19, 0, 0), (4, 10, 1, 0, 0, 0), (5, 42, 12, 15, 0, 0), (8, 10, 1, 0, 0, 0), (9, 13, 0, 0, 0, 0), (10, 67, 0, 0, 0, 0), (11, 49, 12, 9, 0, 0), (14, 13, 0, 0, 0, 0), (15, 10, 1, 0, 0, 0), (16, 61, 0, 0, 0, 0), (17, 39, 13, 4, 0, 0), (20, 1, 0, 0, 0, 0), (21, 79, 0, 0, 0, 0)]
/-- BeatWords.at([II)I -/
def am_c166 : List am_Row := [(0, 13, 0, 0, 0, 0), (1, 52, 12, 19, 0, 0), (4, 10, 1, 0, 0, 0), (5, 42, 12, 15, 0, 0), (8, 10, 1, 0, 0, 0), (9, 13, 0, 0, 0, 0), (10, 67, 0, 0, 0, 0), (11, 49, 12, 9, 0, 0), (14, 13, 0, 0, 0, 0), (15, 10, 1, 0, 0, 0), (16, 61, 0, 0, 0, 0), (17, 39, 13, 4, 0, 0), (20, 1, 0, 0, 0, 0), (21, 79, 0, 0, 0, 0)]
/-- BeatWords.at([II)I -/
def am_c167 : List am_Row := [(0, 13, 0, 0, 0, 0), (1, 52, 12, 19, 0, 0), (4, 10, 1, 0, 0, 0), (5, 42, 12, 15, 0, 0), (8, 10, 1, 0, 0, 0), (9, 13, 0, 0, 0, 0), (10, 67, 0, 0, 0, 0), (11, 49, 12, 9, 0, 0), (14, 13, 0, 0, 0, 0), (15, 10, 1, 0, 0, 0), (16, 61, 0, 0, 0, 0), (17, 39, 13, 4, 0, 0), (20, 1, 0, 0, 0, 0), (21, 79, 0, 0, 0, 0)]
/-- BeatWords.at([II)I -/
def am_c168 : List am_Row := [(0, 13, 0, 0, 0, 0), (1, 52, 12, 19, 0, 0), (4, 10, 1, 0, 0, 0), (5, 42, 12, 15, 0, 0), (8, 10, 1, 0, 0, 0), (9, 13, 0, 0, 0, 0), (10, 67, 0, 0, 0, 0), (11, 49, 12, 9, 0, 0), (14, 13, 0, 0, 0, 0), (15, 10, 1, 0, 0, 0), (16, 61, 0, 0, 0, 0), (17, 39, 13, 4, 0, 0), (20, 1, 0, 0, 0, 0), (21, 79, 0, 0, 0, 0)]
/-- BeatWords.at([II)I -/
def am_c169 : List am_Row := [(0, 13, 0, 0, 0, 0), (1, 52, 12, 19, 0, 0), (4, 10, 1, 0, 0, 0), (5, 42, 12, 15, 0, 0), (8, 10, 1, 0, 0, 0), (9, 13, 0, 0, 0, 0), (10, 67, 0, 0, 0, 0), (11, 49, 12, 9, 0, 0), (14, 13, 0, 0, 0, 0), (15, 10, 1, 0, 0, 0), (16, 61, 0, 0, 0, 0), (17, 39, 13, 4, 0, 0), (20, 1, 0, 0, 0, 0), (21, 79, 0, 0, 0, 0)]
/-- BeatWords.at([II)I -/
def am_c170 : List am_Row := [(0, 13, 0, 0, 0, 0), (1, 52, 12, 19, 0, 0), (4, 10, 1, 0, 0, 0), (5, 42, 12, 15, 0, 0), (8, 10, 1, 0, 0, 0), (9, 13, 0, 0, 0, 0), (10, 67, 0, 0, 0, 0), (11, 49, 12, 9, 0, 0), (14, 13, 0, 0, 0, 0), (15, 10, 1, 0, 0, 0), (16, 61, 0, 0, 0, 0), (17, 39, 13, 4, 0, 0), (20, 1, 0, 0, 0, 0), (21, 79, 0, 0, 0, 0)]
/-- BeatWords.at([II)I -/
def am_c171 : List am_Row := [(0, 13, 0, 0, 0, 0), (1, 52, 12, 19, 0, 0), (4, 10, 1, 0, 0, 0), (5, 42, 12, 15, 0, 0), (8, 10, 1, 0, 0, 0), (9, 13, 0, 0, 0, 0), (10, 67, 0, 0, 0, 0), (11, 49, 12, 9, 0, 0), (14, 13, 0, 0, 0, 0), (15, 10, 1, 0, 0, 0), (16, 61, 0, 0, 0, 0), (17, 39, 13, 4, 0, 0), (20, 1, 0, 0, 0, 0), (21, 79, 0, 0, 0, 0)]
/-- BeatWords.at([II)I -/
def am_c172 : List am_Row := [(0, 13, 0, 0, 0, 0), (1, 52, 12, 19, 0, 0), (4, 10, 1, 0, 0, 0), (5, 42, 12, 15, 0, 0), (8, 10, 1, 0, 0, 0), (9, 13, 0, 0, 0, 0), (10, 67, 0, 0, 0, 0), (11, 49, 12, 9, 0, 0), (14, 13, 0, 0, 0, 0), (15, 10, 1, 0, 0, 0), (16, 61, 0, 0, 0, 0), (17, 39, 13, 4, 0, 0), (20, 1, 0, 0, 0, 0), (21, 79, 0, 0, 0, 0)]
/-- BeatWords.at([II)I -/
def am_c173 : List am_Row := [(0, 13, 0, 0, 0, 0), (1, 52, 12, 19, 0, 0), (4, 10, 1, 0, 0, 0), (5, 42, 12, 15, 0, 0), (8, 10, 1, 0, 0, 0), (9, 13, 0, 0, 0, 0), (10, 67, 0, 0, 0, 0), (11, 49, 12, 9, 0, 0), (14, 13, 0, 0, 0, 0), (15, 10, 1, 0, 0, 0), (16, 61, 0, 0, 0, 0), (17, 39, 13, 4, 0, 0), (20, 1, 0, 0, 0, 0), (21, 79, 0, 0, 0, 0)]
/-- BeatWords.at([II)I -/
def am_c174 : List am_Row := [(0, 13, 0, 0, 0, 0), (1, 52, 12, 19, 0, 0), (4, 10, 1, 0, 0, 0), (5, 42, 12, 15, 0, 0), (8, 10, 1, 0, 0, 0), (9, 13, 0, 0, 0, 0), (10, 67, 0, 0, 0, 0), (11, 49, 12, 9, 0, 0), (14, 13, 0, 0, 0, 0), (15, 10, 1, 0, 0, 0), (16, 61, 0, 0, 0, 0), (17, 39, 13, 4, 0, 0), (20, 1, 0, 0, 0, 0), (21, 79, 0, 0, 0, 0)]
/-- BeatWords.at([II)I -/
def am_c175 : List am_Row := [(0, 13, 0, 0, 0, 0), (1, 52, 12, 19, 0, 0), (4, 10, 1, 0, 0, 0), (5, 42, 12, 15, 0, 0), (8, 10, 1, 0, 0, 0), (9, 13, 0, 0, 0, 0), (10, 67, 0, 0, 0, 0), (11, 49, 12, 9, 0, 0), (14, 13, 0, 0, 0, 0), (15, 10, 1, 0, 0, 0), (16, 61, 0, 0, 0, 0), (17, 39, 13, 4, 0, 0), (20, 1, 0, 0, 0, 0), (21, 79, 0, 0, 0, 0)]
/-- BeatWords.at([II)I -/
def am_c176 : List am_Row := [(0, 13, 0, 0, 0, 0), (1, 52, 12, 19, 0, 0), (4, 10, 1, 0, 0, 0), (5, 42, 12, 15, 0, 0), (8, 10, 1, 0, 0, 0), (9, 13, 0, 0, 0, 0), (10, 67, 0, 0, 0, 0), (11, 49, 12, 9, 0, 0), (14, 13, 0, 0, 0, 0), (15, 10, 1, 0, 0, 0), (16, 61, 0, 0, 0, 0), (17, 39, 13, 4, 0, 0), (20, 1, 0, 0, 0, 0), (21, 79, 0, 0, 0, 0)]
/-- BeatWords.at([II)I -/
def am_c177 : List am_Row := [(0, 13, 0, 0, 0, 0), (1, 52, 12, 19, 0, 0), (4, 10, 1, 0, 0, 0), (5, 42, 12, 15, 0, 0), (8, 10, 1, 0, 0, 0), (9, 13, 0, 0, 0, 0), (10, 67, 0, 0, 0, 0), (11, 49, 12, 9, 0, 0), (14, 13, 0, 0, 0, 0), (15, 10, 1, 0, 0, 0), (16, 61, 0, 0, 0, 0), (17, 39, 13, 4, 0, 0), (20, 1, 0, 0, 0, 0), (21, 79, 0, 0, 0, 0)]
/-- BeatWords.at([II)I -/
def am_c178 : List am_Row := [(0, 13, 0, 0, 0, 0), (1, 52, 12, 19, 0, 0), (4, 10, 1, 0, 0, 0), (5, 42, 12, 15, 0, 0), (8, 10, 1, 0, 0, 0), (9, 13, 0, 0, 0, 0), (10, 67, 0, 0, 0, 0), (11, 49, 12, 9, 0, 0), (14, 13, 0, 0, 0, 0), (15, 10, 1, 0, 0, 0), (16, 61, 0, 0, 0, 0), (17, 39, 13, 4, 0, 0), (20, 1, 0, 0, 0, 0), (21, 79, 0, 0, 0, 0)]
/-- BeatWords.at([II)I -/
def am_c179 : List am_Row := [(0, 13, 0, 0, 0, 0), (1, 52, 12, 19, 0, 0), (4, 10, 1, 0, 0, 0), (5, 42, 12, 15, 0, 0), (8, 10, 1, 0, 0, 0), (9, 13, 0, 0, 0, 0), (10, 67, 0, 0, 0, 0), (11, 49, 12, 9, 0, 0), (14, 13, 0, 0, 0, 0), (15, 10, 1, 0, 0, 0), (16, 61, 0, 0, 0, 0), (17, 39, 13, 4, 0, 0), (20, 1, 0, 0, 0, 0), (21, 79, 0, 0, 0, 0)]
/-- BeatWordsLaw.law([I)Z -/
def am_c180 : List am_Row := [(0, 87, 4, 0, 24, 49), (3, 85, 0, 0, 0, 0), (4, 74, 0, 0, 32, 51), (7, 17, 1, 0, 0, 0), (8, 2, 0, 62, 0, 0), (10, 88, 0, 0, 0, 0), (12, 17, 2, 0, 0, 0), (13, 2, 0, 9, 0, 0), (15, 88, 0, 0, 0, 0), (17, 17, 3, 0, 0, 0), (18, 13, 1, 0, 0, 0), (19, 13, 0, 0, 0, 0), (20, 1, 0, 0, 0, 0), (21, 2, 0, 54, 0, 0), (23, 13, 2, 0, 0, 0), (24, 13, 3, 0, 0, 0), (25, 72, 103, 0, 33, 547), (28, 40, 24, 15, 0, 0), (31, 13, 1, 0, 0, 0), (32, 70, 4, 0, 37, 271), (35, 1, 0, -1, 0, 0), (36, 47, 24, 7, 0, 0), (39, 1, 0, 1, 0, 0), (40, 39, 25, 4, 0, 0), (43, 1, 0, 0, 0, 0), (44, 14, 4, 0, 0, 0), (46, 13, 1, 0, 0, 0), (47, 1, 0, 1, 0, 0), (48, 70, 26, 0, 41, 521), (51, 14, 5, 0, 0, 0), (53, 13, 1, 0, 0, 0), (54, 1, 0, 2, 0, 0), (55, 70, 26, 0, 41, 521), (58, 14, 6, 0, 0, 0), (60, 10, 4, 0, 0, 0), (62, 40, 43, 19, 0, 0), (65, 10, 5, 0, 0, 0), (67, 45, 43, 14, 0, 0), (70, 10, 6, 0, 0, 0), (72, 10, 5, 0, 0, 0), (74, 48, 43, 7, 0, 0), (77, 1, 0, 1, 0, 0), (78, 39, 44, 4, 0, 0), (81, 1, 0, 0, 0, 0), (82, 14, 4, 0, 0, 0), (84, 1, 0, 0, 0, 0), (85, 14, 7, 0, 0, 0), (87, 10, 7, 0, 0, 0), (89, 1, 0, 2, 0, 0), (90, 49, 661, 1204, 0, 0), (93, 10, 4, 0, 0, 0), (95, 40, 661, 1199, 0, 0), (98, 1, 0, 0, 0, 0), (99, 14, 8, 0, 0, 0), (101, 1, 0, 0, 0, 0), (102, 14, 9, 0, 0, 0), (104, 1, 0, 0, 0, 0), (105, 14, 10, 0, 0, 0), (107, 10, 10, 0, 0, 0), (109, 10, 5, 0, 0, 0), (111, 49, 272, 418, 0, 0), (114, 10, 4, 0, 0, 0), (116, 40, 272, 413, 0, 0), (119, 13, 1, 0, 0, 0), (120, 10, 10, 0, 0, 0), (122, 1, 0, 0, 0, 0), (123, 70, 6, 0, 44, 418), (126, 10, 8, 0, 0, 0), (128, 47, 90, 44, 0, 0), (131, 13, 1, 0, 0, 0), (132, 10, 10, 0, 0, 0), (134, 1, 0, 1, 0, 0), (135, 70, 6, 0, 44, 418), (138, 45, 90, 34, 0, 0), (141, 13, 1, 0, 0, 0), (142, 10, 10, 0, 0, 0), (144, 1, 0, 2, 0, 0), (145, 70, 6, 0, 44, 418), (148, 45, 90, 24, 0, 0), (151, 13, 1, 0, 0, 0), (152, 10, 10, 0, 0, 0), (154, 1, 0, 2, 0, 0), (155, 70, 6, 0, 44, 418), (158, 13, 1, 0, 0, 0), (159, 10, 10, 0, 0, 0), (161, 1, 0, 1, 0, 0), (162, 70, 6, 0, 44, 418), (165, 50, 90, 7, 0, 0), (168, 1, 0, 1, 0, 0), (169, 39, 91, 4, 0, 0), (172, 1, 0, 0, 0, 0), (173, 14, 4, 0, 0, 0), (175, 1, 0, 0, 0, 0), (176, 14, 11, 0, 0, 0), (178, 1, 0, 0, 0, 0), (179, 14, 12, 0, 0, 0), (181, 1, 0, 0, 0, 0), (182, 14, 13, 0, 0, 0), (184, 10, 13, 0, 0, 0), (186, 13, 1, 0, 0, 0), (187, 10, 10, 0, 0, 0), (189, 1, 0, 1, 0, 0), (190, 70, 6, 0, 44, 418), (193, 49, 247, 285, 0, 0), (196, 10, 4, 0, 0, 0), (198, 40, 247, 280, 0, 0), (201, 13, 1, 0, 0, 0), (202, 10, 8, 0, 0, 0), (204, 1, 0, 2, 0, 0), (205, 70, 7, 0, 47, 431), (208, 14, 14, 0, 0, 0), (210, 1, 0, 0, 0, 0), (211, 14, 15, 0, 0, 0), (213, 10, 9, 0, 0, 0), (215, 14, 16, 0, 0, 0), (217, 10, 16, 0, 0, 0), (219, 10, 9, 0, 0, 0), (221, 10, 14, 0, 0, 0), (223, 19, 0, 0, 0, 0), (224, 49, 133, 31, 0, 0), (227, 10, 15, 0, 0, 0), (229, 41, 127, 13, 0, 0), (232, 13, 2, 0, 0, 0), (233, 10, 16, 0, 0, 0), (235, 61, 0, 0, 0, 0), (236, 72, 102, 0, 19, 544), (239, 40, 129, 7, 0, 0), (242, 1, 0, 1, 0, 0), (243, 39, 130, 4, 0, 0), (246, 1, 0, 0, 0, 0), (247, 14, 15, 0, 0, 0), (249, 18, 16, 1, 0, 0), (252, 39, 115, -35, 0, 0), (255, 13, 1, 0, 0, 0), (256, 10, 8, 0, 0, 0), (258, 1, 0, 0, 0, 0), (259, 70, 7, 0, 47, 431), (262, 10, 10, 0, 0, 0), (264, 47, 184, 93, 0, 0), (267, 13, 1, 0, 0, 0), (268, 10, 8, 0, 0, 0), (270, 1, 0, 1, 0, 0), (271, 70, 7, 0, 47, 431), (274, 10, 9, 0, 0, 0), (276, 47, 184, 81, 0, 0), (279, 10, 15, 0, 0, 0), (281, 40, 184, 76, 0, 0), (284, 13, 1, 0, 0, 0), (285, 10, 8, 0, 0, 0), (287, 1, 0, 3, 0, 0), (288, 70, 7, 0, 47, 431), (291, 45, 184, 66, 0, 0), (294, 13, 1, 0, 0, 0), (295, 10, 8, 0, 0, 0), (297, 1, 0, 4, 0, 0), (298, 70, 7, 0, 47, 431), (301, 29, 0, 0, 0, 0), (302, 9, 0, -1, 50, 558), (305, 13, 1, 0, 0, 0), (306, 10, 10, 0, 0, 0), (308, 1, 0, 2, 0, 0), (309, 70, 6, 0, 44, 418), (312, 1, 0, 1, 0, 0), (313, 20, 0, 0, 0, 0), (314, 29, 0, 0, 0, 0), (315, 72, 97, 0, 52, 541), (318, 40, 184, 39, 0, 0), (321, 13, 1, 0, 0, 0), (322, 10, 8, 0, 0, 0), (324, 2, 0, 6, 0, 0), (326, 70, 7, 0, 47, 431), (329, 42, 184, 28, 0, 0), (332, 13, 1, 0, 0, 0), (333, 10, 8, 0, 0, 0), (335, 1, 0, 5, 0, 0), (336, 70, 7, 0, 47, 431), (339, 44, 182, 14, 0, 0), (342, 13, 1, 0, 0, 0), (343, 10, 8, 0, 0, 0), (345, 2, 0, 6, 0, 0), (347, 70, 7, 0, 47, 431), (350, 41, 184, 7, 0, 0), (353, 1, 0, 1, 0, 0), (354, 39, 185, 4, 0, 0), (357, 1, 0, 0, 0, 0), (358, 14, 4, 0, 0, 0), (360, 10, 11, 0, 0, 0), (362, 13, 1, 0, 0, 0), (363, 10, 8, 0, 0, 0), (365, 1, 0, 5, 0, 0), (366, 70, 7, 0, 47, 431), (369, 1, 0, 2, 0, 0), (370, 47, 195, 7, 0, 0), (373, 1, 0, 1, 0, 0), (374, 39, 196, 4, 0, 0), (377, 1, 0, 0, 0, 0), (378, 19, 0, 0, 0, 0), (379, 14, 11, 0, 0, 0), (381, 10, 12, 0, 0, 0), (383, 13, 1, 0, 0, 0), (384, 10, 8, 0, 0, 0), (386, 2, 0, 6, 0, 0), (388, 70, 7, 0, 47, 431), (391, 1, 0, 2, 0, 0), (392, 47, 207, 7, 0, 0), (395, 1, 0, 1, 0, 0), (396, 39, 208, 4, 0, 0), (399, 1, 0, 0, 0, 0), (400, 19, 0, 0, 0, 0), (401, 14, 12, 0, 0, 0), (403, 10, 4, 0, 0, 0), (405, 40, 238, 54, 0, 0), (408, 13, 1, 0, 0, 0), (409, 10, 8, 0, 0, 0), (411, 1, 0, 5, 0, 0), (412, 70, 7, 0, 47, 431), (415, 1, 0, 2, 0, 0), (416, 47, 224, 15, 0, 0), (419, 13, 1, 0, 0, 0), (420, 10, 10, 0, 0, 0), (422, 1, 0, 3, 0, 0), (423, 70, 6, 0, 44, 418), (426, 10, 8, 0, 0, 0), (428, 47, 238, 31, 0, 0), (431, 13, 1, 0, 0, 0), (432, 10, 8, 0, 0, 0), (434, 2, 0, 6, 0, 0), (436, 70, 7, 0, 47, 431), (439, 1, 0, 2, 0, 0), (440, 47, 236, 15, 0, 0), (443, 13, 1, 0, 0, 0), (444, 10, 10, 0, 0, 0), (446, 1, 0, 4, 0, 0), (447, 70, 6, 0, 44, 418), (450, 10, 8, 0, 0, 0), (452, 47, 238, 7, 0, 0), (455, 1, 0, 1, 0, 0), (456, 39, 239, 4, 0, 0), (459, 1, 0, 0, 0, 0), (460, 14, 4, 0, 0, 0), (462, 10, 9, 0, 0, 0), (464, 10, 14, 0, 0, 0), (466, 19, 0, 0, 0, 0), (467, 14, 9, 0, 0, 0), (469, 18, 8, 1, 0, 0), (472, 18, 13, 1, 0, 0), (475, 39, 98, -291, 0, 0), (478, 10, 4, 0, 0, 0), (480, 40, 267, 37, 0, 0), (483, 10, 11, 0, 0, 0), (485, 1, 0, 1, 0, 0), (486, 47, 267, 31, 0, 0), (489, 10, 12, 0, 0, 0), (491, 1, 0, 1, 0, 0), (492, 47, 267, 25, 0, 0), (495, 10, 9, 0, 0, 0), (497, 13, 2, 0, 0, 0), (498, 2, 0, 60, 0, 0), (500, 61, 0, 0, 0, 0), (501, 46, 265, 12, 0, 0), (504, 13, 2, 0, 0, 0), (505, 10, 9, 0, 0, 0), (507, 61, 0, 0, 0, 0), (508, 2, 0, 32, 0, 0), (510, 47, 267, 7, 0, 0), (513, 1, 0, 1, 0, 0), (514, 39, 268, 4, 0, 0), (517, 1, 0, 0, 0, 0), (518, 14, 4, 0, 0, 0), (520, 18, 9, 1, 0, 0), (523, 18, 10, 1, 0, 0), (526, 39, 58, -419, 0, 0), (529, 10, 4, 0, 0, 0), (531, 40, 286, 25, 0, 0), (534, 10, 8, 0, 0, 0), (536, 10, 6, 0, 0, 0), (538, 47, 286, 18, 0, 0), (541, 10, 9, 0, 0, 0), (543, 13, 2, 0, 0, 0), (544, 2, 0, 60, 0, 0), (546, 61, 0, 0, 0, 0), (547, 1, 0, 1, 0, 0), (548, 19, 0, 0, 0, 0), (549, 47, 286, 7, 0, 0), (552, 1, 0, 1, 0, 0), (553, 39, 287, 4, 0, 0), (556, 1, 0, 0, 0, 0), (557, 14, 4, 0, 0, 0), (559, 1, 0, -1, 0, 0), (560, 14, 10, 0, 0, 0), (562, 1, 0, 0, 0, 0), (563, 14, 11, 0, 0, 0), (565, 1, 0, 0, 0, 0), (566, 14, 12, 0, 0, 0), (568, 1, 0, 0, 0, 0), (569, 14, 13, 0, 0, 0), (571, 10, 13, 0, 0, 0), (573, 10, 6, 0, 0, 0), (575, 49, 401, 211, 0, 0), (578, 10, 4, 0, 0, 0), (580, 40, 401, 206, 0, 0), (583, 13, 1, 0, 0, 0), (584, 10, 13, 0, 0, 0), (586, 2, 0, 6, 0, 0), (588, 70, 7, 0, 47, 431), (591, 45, 399, 189, 0, 0), (594, 18, 12, 1, 0, 0), (597, 10, 10, 0, 0, 0), (599, 42, 397, 177, 0, 0), (602, 10, 13, 0, 0, 0), (604, 10, 10, 0, 0, 0), (606, 20, 0, 0, 0, 0), (607, 13, 3, 0, 0, 0), (608, 2, 0, 8, 0, 0), (610, 61, 0, 0, 0, 0), (611, 50, 397, 165, 0, 0), (614, 18, 11, 1, 0, 0), (617, 13, 1, 0, 0, 0), (618, 10, 13, 0, 0, 0), (620, 2, 0, 6, 0, 0), (622, 70, 7, 0, 47, 431), (625, 1, 0, 2, 0, 0), (626, 47, 340, 36, 0, 0), (629, 13, 1, 0, 0, 0), (630, 10, 10, 0, 0, 0), (632, 2, 0, 6, 0, 0), (634, 70, 7, 0, 47, 431), (637, 1, 0, 2, 0, 0), (638, 47, 340, 24, 0, 0), (641, 13, 1, 0, 0, 0), (642, 10, 13, 0, 0, 0), (644, 1, 0, 0, 0, 0), (645, 70, 7, 0, 47, 431), (648, 13, 1, 0, 0, 0), (649, 10, 10, 0, 0, 0), (651, 1, 0, 0, 0, 0), (652, 70, 7, 0, 47, 431), (655, 46, 340, 7, 0, 0), (658, 1, 0, 1, 0, 0), (659, 39, 341, 4, 0, 0), (662, 1, 0, 0, 0, 0), (663, 14, 4, 0, 0, 0), (665, 13, 1, 0, 0, 0), (666, 13, 1, 0, 0, 0), (667, 10, 10, 0, 0, 0), (669, 1, 0, 0, 0, 0), (670, 70, 7, 0, 47, 431), (673, 1, 0, 0, 0, 0), (674, 70, 6, 0, 44, 418), (677, 14, 14, 0, 0, 0), (679, 10, 14, 0, 0, 0), (681, 10, 10, 0, 0, 0), (683, 49, 367, 33, 0, 0), (686, 10, 4, 0, 0, 0), (688, 40, 367, 28, 0, 0), (691, 13, 1, 0, 0, 0), (692, 10, 14, 0, 0, 0), (694, 2, 0, 6, 0, 0), (696, 70, 7, 0, 47, 431), (699, 1, 0, 1, 0, 0), (700, 46, 363, 7, 0, 0), (703, 1, 0, 1, 0, 0), (704, 39, 364, 4, 0, 0), (707, 1, 0, 0, 0, 0), (708, 14, 4, 0, 0, 0), (710, 18, 14, 1, 0, 0), (713, 39, 350, -34, 0, 0), (716, 10, 13, 0, 0, 0), (718, 1, 0, 1, 0, 0), (719, 19, 0, 0, 0, 0), (720, 14, 14, 0, 0, 0), (722, 10, 14, 0, 0, 0), (724, 10, 6, 0, 0, 0), (726, 49, 397, 50, 0, 0), (729, 10, 4, 0, 0, 0), (731, 40, 397, 45, 0, 0), (734, 13, 1, 0, 0, 0), (735, 10, 14, 0, 0, 0), (737, 1, 0, 0, 0, 0), (738, 70, 7, 0, 47, 431), (741, 13, 1, 0, 0, 0), (742, 10, 13, 0, 0, 0), (744, 1, 0, 0, 0, 0), (745, 70, 7, 0, 47, 431), (748, 47, 397, 28, 0, 0), (751, 13, 1, 0, 0, 0), (752, 10, 14, 0, 0, 0), (754, 2, 0, 6, 0, 0), (756, 70, 7, 0, 47, 431), (759, 1, 0, 1, 0, 0), (760, 46, 393, 7, 0, 0), (763, 1, 0, 1, 0, 0), (764, 39, 394, 4, 0, 0), (767, 1, 0, 0, 0, 0), (768, 14, 4, 0, 0, 0), (770, 18, 14, 1, 0, 0), (773, 39, 371, -51, 0, 0), (776, 10, 13, 0, 0, 0), (778, 14, 10, 0, 0, 0), (780, 18, 13, 1, 0, 0), (783, 39, 296, -212, 0, 0), (786, 10, 4, 0, 0, 0), (788, 40, 436, 69, 0, 0), (791, 13, 1, 0, 0, 0), (792, 1, 0, 1, 0, 0), (793, 70, 12, 0, 56, 453), (796, 10, 11, 0, 0, 0), (798, 47, 436, 59, 0, 0), (801, 13, 1, 0, 0, 0), (802, 1, 0, 3, 0, 0), (803, 70, 12, 0, 56, 453), (806, 10, 11, 0, 0, 0), (808, 47, 436, 49, 0, 0), (811, 13, 1, 0, 0, 0), (812, 2, 0, 6, 0, 0), (814, 70, 26, 0, 41, 521), (817, 10, 12, 0, 0, 0), (819, 47, 436, 38, 0, 0), (822, 13, 1, 0, 0, 0), (823, 1, 0, 2, 0, 0), (824, 70, 12, 0, 56, 453), (827, 44, 426, 11, 0, 0), (830, 13, 1, 0, 0, 0), (831, 1, 0, 0, 0, 0), (832, 70, 12, 0, 56, 453), (835, 41, 436, 22, 0, 0), (838, 13, 3, 0, 0, 0), (839, 2, 0, 8, 0, 0), (841, 61, 0, 0, 0, 0), (842, 44, 434, 11, 0, 0), (845, 13, 1, 0, 0, 0), (846, 1, 0, 2, 0, 0), (847, 70, 12, 0, 56, 453), (850, 41, 436, 7, 0, 0), (853, 1, 0, 1, 0, 0), (854, 39, 437, 4, 0, 0), (857, 1, 0, 0, 0, 0), (858, 14, 4, 0, 0, 0), (860, 13, 1, 0, 0, 0), (861, 1, 0, -1, 0, 0), (862, 70, 19, 0, 59, 517), (865, 14, 13, 0, 0, 0), (867, 1, 0, 0, 0, 0), (868, 14, 14, 0, 0, 0), (870, 1, 0, 0, 0, 0), (871, 14, 15, 0, 0, 0), (873, 1, 0, 0, 0, 0), (874, 14, 16, 0, 0, 0), (876, 10, 16, 0, 0, 0), (878, 10, 13, 0, 0, 0), (880, 49, 508, 119, 0, 0), (883, 10, 4, 0, 0, 0), (885, 40, 508, 114, 0, 0), (888, 13, 1, 0, 0, 0), (889, 10, 16, 0, 0, 0), (891, 70, 19, 0, 59, 517), (894, 14, 17, 0, 0, 0), (896, 10, 17, 0, 0, 0), (898, 2, 0, 39, 0, 0), (900, 46, 466, 17, 0, 0), (903, 10, 17, 0, 0, 0), (905, 2, 0, 44, 0, 0), (907, 46, 466, 10, 0, 0), (910, 10, 17, 0, 0, 0), (912, 2, 0, 46, 0, 0), (914, 47, 468, 7, 0, 0), (917, 1, 0, 1, 0, 0), (918, 39, 469, 4, 0, 0), (921, 1, 0, 0, 0, 0), (922, 14, 18, 0, 0, 0), (924, 10, 15, 0, 0, 0), (926, 10, 17, 0, 0, 0), (928, 2, 0, 39, 0, 0), (930, 46, 477, 10, 0, 0), (933, 10, 17, 0, 0, 0), (935, 2, 0, 44, 0, 0), (937, 47, 479, 7, 0, 0), (940, 1, 0, 1, 0, 0), (941, 39, 480, 4, 0, 0), (944, 1, 0, 0, 0, 0), (945, 19, 0, 0, 0, 0), (946, 14, 15, 0, 0, 0), (948, 10, 18, 0, 0, 0), (950, 41, 494, 21, 0, 0), (953, 10, 14, 0, 0, 0), (955, 13, 2, 0, 0, 0), (956, 2, 0, 60, 0, 0), (958, 61, 0, 0, 0, 0), (959, 49, 496, 16, 0, 0), (962, 10, 17, 0, 0, 0), (964, 13, 2, 0, 0, 0), (965, 10, 14, 0, 0, 0), (967, 61, 0, 0, 0, 0), (968, 47, 496, 7, 0, 0), (971, 1, 0, 1, 0, 0), (972, 39, 497, 4, 0, 0), (975, 1, 0, 0, 0, 0), (976, 14, 4, 0, 0, 0), (978, 10, 14, 0, 0, 0), (980, 10, 18, 0, 0, 0), (982, 40, 503, 7, 0, 0), (985, 1, 0, 0, 0, 0), (986, 39, 504, 4, 0, 0), (989, 1, 0, 1, 0, 0), (990, 19, 0, 0, 0, 0), (991, 14, 14, 0, 0, 0), (993, 18, 16, 1, 0, 0), (996, 39, 448, -120, 0, 0), (999, 10, 4, 0, 0, 0), (1001, 40, 531, 41, 0, 0), (1004, 10, 14, 0, 0, 0), (1006, 13, 2, 0, 0, 0), (1007, 2, 0, 60, 0, 0), (1009, 61, 0, 0, 0, 0), (1010, 47, 531, 32, 0, 0), (1013, 10, 15, 0, 0, 0), (1015, 10, 12, 0, 0, 0), (1017, 47, 531, 25, 0, 0), (1020, 10, 13, 0, 0, 0), (1022, 13, 2, 0, 0, 0), (1023, 2, 0, 60, 0, 0), (1025, 61, 0, 0, 0, 0), (1026, 10, 15, 0, 0, 0), (1028, 19, 0, 0, 0, 0), (1029, 10, 6, 0, 0, 0), (1031, 19, 0, 0, 0, 0), (1032, 10, 5, 0, 0, 0), (1034, 20, 0, 0, 0, 0), (1035, 47, 531, 7, 0, 0), (1038, 1, 0, 1, 0, 0), (1039, 39, 532, 4, 0, 0), (1042, 1, 0, 0, 0, 0), (1043, 14, 4, 0, 0, 0), (1045, 10, 4, 0, 0, 0), (1047, 40, 555, 45, 0, 0), (1050, 13, 1, 0, 0, 0), (1051, 70, 14, 0, 62, 461), (1054, 10, 12, 0, 0, 0), (1056, 47, 555, 36, 0, 0), (1059, 13, 1, 0, 0, 0), (1060, 70, 15, 0, 65, 469), (1063, 10, 6, 0, 0, 0), (1065, 47, 555, 27, 0, 0), (1068, 13, 1, 0, 0, 0), (1069, 1, 0, 4, 0, 0), (1070, 70, 16, 0, 68, 477), (1073, 10, 6, 0, 0, 0), (1075, 47, 555, 17, 0, 0), (1078, 13, 1, 0, 0, 0), (1079, 1, 0, 0, 0, 0), (1080, 70, 18, 0, 71, 496), (1083, 4, 0, 1065353216, 74, 559), (1085, 47, 555, 7, 0, 0), (1088, 1, 0, 1, 0, 0), (1089, 39, 556, 4, 0, 0), (1092, 1, 0, 0, 0, 0), (1093, 14, 4, 0, 0, 0), (1095, 13, 1, 0, 0, 0), (1096, 1, 0, 0, 0, 0), (1097, 70, 16, 0, 68, 477), (1100, 14, 16, 0, 0, 0), (1102, 10, 4, 0, 0, 0), (1104, 40, 602, 75, 0, 0), (1107, 13, 1, 0, 0, 0), (1108, 70, 17, 0, 75, 492), (1111, 10, 6, 0, 0, 0), (1113, 47, 602, 66, 0, 0), (1116, 13, 1, 0, 0, 0), (1117, 70, 15, 0, 65, 469), (1120, 10, 6, 0, 0, 0), (1122, 47, 602, 57, 0, 0), (1125, 13, 1, 0, 0, 0), (1126, 1, 0, 4, 0, 0), (1127, 13, 3, 0, 0, 0), (1128, 1, 0, 4, 0, 0), (1129, 61, 0, 0, 0, 0), (1130, 70, 5, 0, 29, 408), (1133, 10, 16, 0, 0, 0), (1135, 47, 602, 44, 0, 0), (1138, 13, 1, 0, 0, 0), (1139, 1, 0, 5, 0, 0), (1140, 13, 3, 0, 0, 0), (1141, 1, 0, 5, 0, 0), (1142, 61, 0, 0, 0, 0), (1143, 70, 5, 0, 29, 408), (1146, 42, 602, 33, 0, 0), (1149, 13, 1, 0, 0, 0), (1150, 2, 0, 6, 0, 0), (1152, 13, 3, 0, 0, 0), (1153, 2, 0, 6, 0, 0), (1155, 61, 0, 0, 0, 0), (1156, 70, 5, 0, 29, 408), (1159, 42, 602, 20, 0, 0), (1162, 13, 1, 0, 0, 0), (1163, 2, 0, 7, 0, 0), (1165, 13, 3, 0, 0, 0), (1166, 2, 0, 7, 0, 0), (1168, 61, 0, 0, 0, 0), (1169, 70, 5, 0, 29, 408), (1172, 42, 602, 7, 0, 0), (1175, 1, 0, 1, 0, 0), (1176, 39, 603, 4, 0, 0), (1179, 1, 0, 0, 0, 0), (1180, 14, 4, 0, 0, 0), (1182, 13, 0, 0, 0, 0), (1183, 2, 0, 22, 0, 0), (1185, 10, 7, 0, 0, 0), (1187, 19, 0, 0, 0, 0), (1188, 72, 100, 0, 9, 533), (1191, 10, 5, 0, 0, 0), (1193, 72, 101, 0, 15, 537), (1196, 14, 17, 0, 0, 0), (1198, 13, 0, 0, 0, 0), (1199, 2, 0, 22, 0, 0), (1201, 10, 7, 0, 0, 0), (1203, 19, 0, 0, 0, 0), (1204, 72, 100, 0, 9, 533), (1207, 2, 0, 6, 0, 0), (1209, 90, 0, 0, 0, 0), (1210, 13, 1, 0, 0, 0), (1211, 10, 17, 0, 0, 0), (1213, 1, 0, 1, 0, 0), (1214, 70, 6, 0, 44, 418), (1217, 72, 101, 0, 15, 537), (1220, 14, 18, 0, 0, 0), (1222, 10, 4, 0, 0, 0), (1224, 40, 657, 61, 0, 0), (1227, 13, 1, 0, 0, 0), (1228, 10, 17, 0, 0, 0), (1230, 10, 18, 0, 0, 0), (1232, 70, 8, 0, 78, 439), (1235, 1, 0, 1, 0, 0), (1236, 48, 657, 49, 0, 0), (1239, 13, 1, 0, 0, 0), (1240, 10, 17, 0, 0, 0), (1242, 70, 10, 0, 81, 449), (1245, 10, 18, 0, 0, 0), (1247, 47, 657, 38, 0, 0), (1250, 13, 1, 0, 0, 0), (1251, 10, 17, 0, 0, 0), (1253, 1, 0, 3, 0, 0), (1254, 70, 6, 0, 44, 418), (1257, 13, 1, 0, 0, 0), (1258, 10, 17, 0, 0, 0), (1260, 1, 0, 0, 0, 0), (1261, 70, 6, 0, 44, 418), (1264, 10, 18, 0, 0, 0), (1266, 19, 0, 0, 0, 0), (1267, 47, 657, 18, 0, 0), (1270, 13, 1, 0, 0, 0), (1271, 10, 17, 0, 0, 0), (1273, 1, 0, 5, 0, 0), (1274, 70, 6, 0, 44, 418), (1277, 1, 0, 1, 0, 0), (1278, 47, 657, 7, 0, 0), (1281, 1, 0, 1, 0, 0), (1282, 39, 658, 4, 0, 0), (1285, 1, 0, 0, 0, 0), (1286, 14, 4, 0, 0, 0), (1288, 18, 7, 1, 0, 0), (1291, 39, 47, -1204, 0, 0), (1294, 10, 4, 0, 0, 0), (1296, 89, 0, 0, 0, 0)]
def am_code : List (List am_Row) := [am_c0, am_c1, am_c2, am_c3, am_c4, am_c5, am_c6, am_c7, am_c8, am_c9, am_c10, am_c11, am_c12, am_c13, am_c14, am_c15, am_c16, am_c17, am_c18, am_c19, am_c20, am_c21, am_c22, am_c23, am_c24, am_c25, am_c26, am_c27, am_c28, am_c29, am_c30, am_c31, am_c32, am_c33, am_c34, am_c35, am_c36, am_c37, am_c38, am_c39, am_c40, am_c41, am_c42, am_c43, am_c44, am_c45, am_c46, am_c47, am_c48, am_c49, am_c50, am_c51, am_c52, am_c53, am_c54, am_c55, am_c56, am_c57, am_c58, am_c59, am_c60, am_c61, am_c62, am_c63, am_c64, am_c65, am_c66, am_c67, am_c68, am_c69, am_c70, am_c71, am_c72, am_c73, am_c74, am_c75, am_c76, am_c77, am_c78, am_c79, am_c80, am_c81, am_c82, am_c83, am_c84, am_c85, am_c86, am_c87, am_c88, am_c89, am_c90, am_c91, am_c92, am_c93, am_c94, am_c95, am_c96, am_c97, am_c98, am_c99, am_c100, am_c101, am_c102, am_c103, am_c104, am_c105, am_c106, am_c107, am_c108, am_c109, am_c110, am_c111, am_c112, am_c113, am_c114, am_c115, am_c116, am_c117, am_c118, am_c119, am_c120, am_c121, am_c122, am_c123, am_c124, am_c125, am_c126, am_c127, am_c128, am_c129, am_c130, am_c131, am_c132, am_c133, am_c134, am_c135, am_c136, am_c137, am_c138, am_c139, am_c140, am_c141, am_c142, am_c143, am_c144, am_c145, am_c146, am_c147, am_c148, am_c149, am_c150, am_c151, am_c152, am_c153, am_c154, am_c155, am_c156, am_c157, am_c158, am_c159, am_c160, am_c161, am_c162, am_c163, am_c164, am_c165, am_c166, am_c167, am_c168, am_c169, am_c170, am_c171, am_c172, am_c173, am_c174, am_c175, am_c176, am_c177, am_c178, am_c179, am_c180]
def am_row (k ip : Nat) : Option am_Row := match am_nth am_code k with | some c => am_nth c ip | none => none
def am_pc (k ip : Nat) : Nat := match am_row k ip with | some r => r.1 | none => 0
def am_mpl : List (Nat × Nat × Nat) := [(53, 52, 0), (553, 551, 552), (195, 194, 0), (195, 194, 0), (274, 272, 273), (411, 409, 410), (421, 419, 420), (434, 432, 433), (442, 440, 441), (195, 194, 0), (452, 450, 451), (195, 194, 0), (456, 454, 455), (195, 194, 0), (464, 462, 463), (472, 470, 471), (480, 478, 479), (495, 493, 494), (499, 497, 498), (520, 518, 519), (195, 194, 0), (195, 194, 0), (195, 194, 0), (195, 194, 0), (195, 194, 0), (195, 194, 0), (524, 522, 523), (195, 194, 0), (195, 194, 0), (198, 197, 0), (289, 288, 0), (195, 194, 0), (195, 194, 0), (195, 194, 0), (417, 416, 26), (557, 556, 41), (278, 277, 0), (403, 402, 24), (407, 406, 25), (487, 486, 0), (484, 483, 34), (491, 490, 35), (425, 424, 27), (438, 437, 29), (460, 459, 31), (528, 527, 39), (532, 531, 40), (468, 467, 32), (516, 515, 38), (503, 502, 36), (506, 505, 0), (195, 194, 0), (61, 60, 0), (316, 315, 6), (321, 320, 7), (446, 445, 30), (195, 194, 0), (202, 201, 0), (195, 194, 0), (195, 194, 0), (195, 194, 0), (195, 194, 0), (195, 194, 0), (195, 194, 0), (195, 194, 0), (85, 84, 0), (282, 281, 1), (285, 284, 0), (293, 292, 2), (304, 303, 0), (308, 307, 4), (301, 300, 3), (312, 311, 5), (361, 360, 15), (338, 337, 10), (511, 510, 37), (147, 146, 0), (325, 324, 8), (331, 330, 9), (346, 345, 12), (334, 333, 0), (349, 348, 0), (342, 341, 11), (353, 352, 13), (357, 356, 14), (365, 364, 16), (369, 368, 17), (376, 375, 0), (373, 372, 18), (380, 379, 19), (392, 391, 22), (384, 383, 20), (388, 387, 21), (399, 398, 23), (429, 428, 28), (476, 475, 33), (195, 194, 0), (543, 542, 0), (195, 194, 0), (195, 194, 0), (535, 534, 0), (539, 538, 0), (546, 545, 0), (549, 548, 0), (195, 194, 0), (195, 194, 0), (195, 194, 0), (195, 194, 0), (195, 194, 0), (195, 194, 0), (195, 194, 0), (195, 194, 0), (195, 194, 0), (195, 194, 0), (195, 194, 0), (195, 194, 0), (195, 194, 0), (195, 194, 0), (195, 194, 0), (195, 194, 0), (195, 194, 0), (195, 194, 0), (195, 194, 0), (195, 194, 0), (195, 194, 0), (195, 194, 0), (195, 194, 0), (195, 194, 0), (195, 194, 0), (195, 194, 0), (195, 194, 0), (195, 194, 0), (195, 194, 0), (195, 194, 0), (195, 194, 0), (195, 194, 0), (195, 194, 0), (195, 194, 0), (195, 194, 0), (195, 194, 0), (195, 194, 0), (195, 194, 0), (195, 194, 0), (195, 194, 0), (195, 194, 0), (195, 194, 0), (195, 194, 0), (195, 194, 0), (195, 194, 0), (195, 194, 0), (195, 194, 0), (195, 194, 0), (195, 194, 0), (195, 194, 0), (195, 194, 0), (195, 194, 0), (195, 194, 0), (195, 194, 0), (195, 194, 0), (195, 194, 0), (195, 194, 0), (195, 194, 0), (195, 194, 0), (195, 194, 0), (195, 194, 0), (195, 194, 0), (195, 194, 0), (195, 194, 0), (195, 194, 0), (195, 194, 0), (195, 194, 0), (195, 194, 0), (195, 194, 0), (195, 194, 0), (195, 194, 0), (195, 194, 0), (195, 194, 0), (195, 194, 0), (195, 194, 0), (195, 194, 0), (0, 0, 0)]
def am_ipl : List Nat := [45, 44, 47, 46, 43, 47, 42]
end
section
/-! what a row of the tables stands for, and that the tables are those of the machine's code (kernel) -/
def am_ld4 (n1 n2 : Instr) (a : Nat) : Option (Instr × Nat) := if a < 4 then some (n1, 1) else some (n2, 2)
def am_toI (op a : Nat) (b : Int) (cp : Nat) : Option (Instr × Nat) :=
  match op with
  | 0 => some (.aconst_null, 1)
  | 1 => some (.iconst b, 1)
  | 2 => some (.bipush b, 2)
  | 3 => some (.sipush b, 3)
  | 4 => if cp < 256 then some (.ldc cp, 2) else some (.ldc_w cp, 3)
  | 5 => some (.fconst 0, 1)
  | 6 => some (.fconst 1, 1)
  | 7 => some (.fconst 2, 1)
  | 8 => if cp < 256 then some (.ldc cp, 2) else some (.ldc_w cp, 3)
  | 9 => some (.ldc2_w cp, 3)
  | 10 => am_ld4 (.iload_n (Fin.ofNat 4 a)) (.iload a) a
  | 11 => am_ld4 (.lload_n (Fin.ofNat 4 a)) (.lload a) a
  | 12 => am_ld4 (.fload_n (Fin.ofNat 4 a)) (.fload a) a
  | 13 => am_ld4 (.aload_n (Fin.ofNat 4 a)) (.aload a) a
  | 14 => am_ld4 (.istore_n (Fin.ofNat 4 a)) (.istore a) a
  | 15 => am_ld4 (.lstore_n (Fin.ofNat 4 a)) (.lstore a) a
  | 16 => am_ld4 (.fstore_n (Fin.ofNat 4 a)) (.fstore a) a
  | 17 => am_ld4 (.astore_n (Fin.ofNat 4 a)) (.astore a) a
  | 18 => some (.iinc a b, 3)
  | 19 => some (.iadd, 1)
  | 20 => some (.isub, 1)
  | 21 => some (.imul, 1)
  | 22 => some (.idiv, 1)
  | 23 => some (.irem, 1)
  | 24 => some (.ineg, 1)
  | 25 => some (.iand, 1)
  | 26 => some (.ior, 1)
  | 27 => some (.ishl, 1)
  | 28 => some (.i2b, 1)
  | 29 => some (.i2l, 1)
  | 30 => some (.i2f, 1)
  | 31 => some (.f2i, 1)
  | 32 => some (.ladd, 1)
  | 33 => some (.lmul, 1)
  | 34 => some (.lcmp, 1)
  | 35 => some (.fmul, 1)
  | 36 => some (.fdiv, 1)
  | 37 => some (.fsub, 1)
  | 38 => if a = 0 then some (.fcmp .l, 1) else some (.fcmp .g, 1)
  | 39 => some (.goto b, 3)
  | 40 => some (.ifCond .eq b, 3)
  | 41 => some (.ifCond .ne b, 3)
  | 42 => some (.ifCond .lt b, 3)
  | 43 => some (.ifCond .ge b, 3)
  | 44 => some (.ifCond .gt b, 3)
  | 45 => some (.ifCond .le b, 3)
  | 46 => some (.if_icmp .eq b, 3)
  | 47 => some (.if_icmp .ne b, 3)
  | 48 => some (.if_icmp .lt b, 3)
  | 49 => some (.if_icmp .ge b, 3)
  | 50 => some (.if_icmp .gt b, 3)
  | 51 => some (.if_icmp .le b, 3)
  | 52 => some (.ifnull b, 3)
  | 53 => some (.ifnonnull b, 3)
  | 54 => match am_nth am_sws a with
    | some (lo, _, _, of, dd, ln) => some (.tableswitch dd lo (lo + of.length - 1) of.toArray, ln)
    | none => none
  | 55 => some (.getfield cp, 3)
  | 56 => some (.getfield cp, 3)
  | 57 => some (.putfield cp, 3)
  | 58 => some (.putfield cp, 3)
  | 59 => some (.putfield cp, 3)
  | 60 => some (.getstatic cp, 3)
  | 61 => some (.iaload, 1)
  | 62 => some (.iastore, 1)
  | 63 => some (.baload, 1)
  | 64 => some (.bastore, 1)
  | 65 => some (.faload, 1)
  | 66 => some (.fastore, 1)
  | 67 => some (.arraylength, 1)
  | 68 => some (.aaload, 1)
  | 69 => some (.aastore, 1)
  | 70 => some (.invokevirtual cp, 3)
  | 71 => some (.invokevirtual cp, 3)
  | 72 => some (.invokestatic cp, 3)
  | 73 => some (.invokestatic cp, 3)
  | 74 => some (.invokespecial cp, 3)
  | 75 => some (.invokespecial cp, 3)
  | 76 => some (.invokespecial cp, 3)
  | 77 => some (.invokestatic cp, 3)
  | 78 => some (.invokestatic cp, 3)
  | 79 => some (.ireturn, 1)
  | 80 => some (.lreturn, 1)
  | 81 => some (.freturn, 1)
  | 82 => some (.areturn, 1)
  | 83 => some (.return_, 1)
  | 84 => some (.ireturn, 1)
  | 85 => some (.dup, 1)
  | 86 => some (.pop, 1)
  | 87 => some (.new cp, 3)
  | 88 => if a = 0 then some (.newarray .int, 2) else if a = 1 then some (.newarray .int, 2) else some (.newarray .float, 2)
  | 89 => some (.ireturn, 1)
  | 90 => some (.ishr, 1)
  | 91 => some (.anewarray cp, 3)
  | _ => none
/-- the word of the tables that an instruction's link needs -/
def am_word (k op a : Nat) (b : Int) (cp : Nat) : Option Jvm.Cond :=
  match op with
  | 4 => some (.constant (am_cn (am_own k)) cp (Int32.ofInt b))
  | 8 => some (.constantFloat (am_cn (am_own k)) cp (UInt32.ofNat a))
  | 9 => some (.constantLong (am_cn (am_own k)) cp (Int64.ofInt b))
  | 55 => some (.fieldLink (am_cn (am_own k)) cp (am_cn a) (am_Tf a b.toNat).2.1 (am_Tf a b.toNat).2.2.1)
  | 56 => some (.fieldLinkNest (am_cn (am_own k)) cp (am_cn a) (am_Tf a b.toNat).2.1 (am_Tf a b.toNat).2.2.1 "BeatWords")
  | 57 => some (.fieldLink (am_cn (am_own k)) cp (am_cn a) (am_Tf a b.toNat).2.1 (am_Tf a b.toNat).2.2.1)
  | 58 => some (.fieldLinkNest (am_cn (am_own k)) cp (am_cn a) (am_Tf a b.toNat).2.1 (am_Tf a b.toNat).2.2.1 "BeatWords")
  | 59 => some (.fieldLink (am_cn (am_own k)) cp (am_cn a) (am_Tf a b.toNat).2.1 (am_Tf a b.toNat).2.2.1)
  | 60 => some (.fieldLink (am_cn (am_own k)) cp "BeatWords" (if a = 0 then "LEAST_WAYS" else "MOST_WAYS") "[I")
  | 70 => some (.methodLink (am_cn (am_own k)) cp (am_y a))
  | 71 => some (.methodLinkNest (am_cn (am_own k)) cp (am_y a) "BeatWords")
  | 72 => some (.methodLink (am_cn (am_own k)) cp (am_y a))
  | 73 => some (.methodLinkNest (am_cn (am_own k)) cp (am_y a) "BeatWords")
  | 74 => some (.methodLink (am_cn (am_own k)) cp (am_y a))
  | 75 => some (.methodLinkNest (am_cn (am_own k)) cp (am_y a) "BeatWords")
  | 76 => some (.methodLink (am_cn (am_own k)) cp Lib.objectInit)
  | 77 => some (.methodLink (am_cn (am_own k)) cp Lib.Math.min.name)
  | 78 => some (.methodLink (am_cn (am_own k)) cp Lib.Math.max.name)
  | 87 => some (.classLink (am_cn (am_own k)) cp (am_cn a))
  | 91 => some (.classLink (am_cn (am_own k)) cp (am_cn a))
  | _ => none
def am_len (op a : Nat) (b : Int) (cp : Nat) : Nat := match am_toI op a b cp with | some x => x.2 | none => 0
/-- all that must hold of a row beside its decoding and its link -/
def am_side (k op a : Nat) (b : Int) : Bool :=
  match op with
  | 14 => decide (a < am_L k)
  | 15 => decide (a + 1 < am_L k)
  | 16 => decide (a < am_L k)
  | 17 => decide (a < am_L k)
  | 18 => decide (a < am_L k)
  | 55 => decide (b.toNat < am_N a ∧ a < 6)
  | 56 => decide (b.toNat < am_N a ∧ a < 6)
  | 57 => decide (b.toNat < am_N a ∧ a < 6 ∧ (am_Tf a b.toNat).2.2.2 = false)
  | 58 => decide (b.toNat < am_N a ∧ a < 6 ∧ (am_Tf a b.toNat).2.2.2 = false)
  | 59 => decide (b.toNat < am_N a ∧ a < 6 ∧ (am_Tf a b.toNat).2.2.2 = true ∧ am_own k = a ∧ am_in k = true)
  | 60 => decide (a < 2)
  | 70 => decide (a < 180 ∧ am_st a = false ∧ am_in a = false ∧ am_fr a + 1 ≤ am_fr k ∧ 8 + (am_L a + 11) + am_lo a ≤ am_lo k)
  | 71 => decide (a < 180 ∧ am_st a = false ∧ am_in a = false ∧ am_fr a + 1 ≤ am_fr k ∧ 8 + (am_L a + 11) + am_lo a ≤ am_lo k)
  | 72 => decide (a < 180 ∧ am_st a = true ∧ am_own a = am_own k ∧ am_fr a + 1 ≤ am_fr k ∧ 8 + (am_L a + 11) + am_lo a ≤ am_lo k)
  | 73 => decide (a < 180 ∧ am_st a = true ∧ am_fr a + 1 ≤ am_fr k ∧ 8 + (am_L a + 11) + am_lo a ≤ am_lo k)
  | 74 => decide (a < 180 ∧ am_st a = false ∧ am_in a = true ∧ am_ret a = none ∧ am_fr a + 1 ≤ am_fr k ∧ 8 + (am_L a + 11) + am_lo a ≤ am_lo k)
  | 75 => decide (a < 180 ∧ am_st a = false ∧ am_in a = true ∧ am_ret a = none ∧ am_fr a + 1 ≤ am_fr k ∧ 8 + (am_L a + 11) + am_lo a ≤ am_lo k)
  | 76 => decide (1 ≤ am_fr k ∧ 21 ≤ am_lo k)
  | 77 => decide (1 ≤ am_fr k ∧ 21 ≤ am_lo k)
  | 78 => decide (1 ≤ am_fr k ∧ 21 ≤ am_lo k)
  | 79 => decide (am_ret k = some .int)
  | 80 => decide (am_ret k = some .long)
  | 81 => decide (am_ret k = some .float)
  | 82 => decide (am_ret k = some (.object "BeatWords$Sheet"))
  | 83 => decide (am_ret k = none)
  | 84 => decide (am_ret k = some .boolean)
  | 87 => decide (a < 6)
  | 89 => decide (am_ret k = some .boolean ∧ k = 180)
  | 91 => decide (a = 2)
  | _ => true
def am_pcl (c : List am_Row) (i : Nat) : Nat := match am_nth c i with | some r => r.1 | none => 0
def am_jump (c : List am_Row) (pc op a : Nat) (b : Int) : Bool :=
  if 39 ≤ op ∧ op ≤ 53 then decide ((pc : Int) + b = (am_pcl c a : Int))
  else if op = 54 then (match am_nth am_sws a with
    | some (_, tg, d, of, dd, _) => decide (tg.length = of.length ∧ (tg.map (fun t => (am_pcl c t : Int))) = of.map (fun o => (pc : Int) + o) ∧ (pc : Int) + dd = (am_pcl c d : Int))
    | none => false)
  else true
def am_term (op : Nat) : Bool := op == 39 || op == 54 || op == 89 || (79 ≤ op && op ≤ 84)
def am_rowOK (k : Nat) (c : List am_Row) (ip : Nat) (r : am_Row) : Bool :=
  match r with
  | (pc, op, a, b, cp, pl) =>
    (match am_toI op a b cp with
      | some il => decide (decode (am_b k) pc = .ok il)
      | none => false)
    && ((am_term op || decide (am_pcl c (ip + 1) = pc + am_len op a b cp))
    && (am_jump c pc op a b
    && ((match am_word k op a b cp with
      | some w => decide (am_nth lw_tbl pl = some w)
      | none => true)
    && am_side k op a b)))
def am_all (k : Nat) (c : List am_Row) : Nat → List am_Row → Bool
  | _, [] => true
  | ip, r :: l => am_rowOK k c ip r && am_all k c (ip + 1) l
end
section
/-! every row of every method (kernel) -/
theorem am_ok0 : am_all 0 am_c0 0 am_c0 = true := by decide +kernel
theorem am_ok1 : am_all 1 am_c1 0 am_c1 = true := by decide +kernel
theorem am_ok2 : am_all 2 am_c2 0 am_c2 = true := by decide +kernel
theorem am_ok3 : am_all 3 am_c3 0 am_c3 = true := by decide +kernel
theorem am_ok4 : am_all 4 am_c4 0 am_c4 = true := by decide +kernel
theorem am_ok5 : am_all 5 am_c5 0 am_c5 = true := by decide +kernel
theorem am_ok6 : am_all 6 am_c6 0 am_c6 = true := by decide +kernel
theorem am_ok7 : am_all 7 am_c7 0 am_c7 = true := by decide +kernel
theorem am_ok8 : am_all 8 am_c8 0 am_c8 = true := by decide +kernel
theorem am_ok9 : am_all 9 am_c9 0 am_c9 = true := by decide +kernel
theorem am_ok10 : am_all 10 am_c10 0 am_c10 = true := by decide +kernel
theorem am_ok11 : am_all 11 am_c11 0 am_c11 = true := by decide +kernel
theorem am_ok12 : am_all 12 am_c12 0 am_c12 = true := by decide +kernel
theorem am_ok13 : am_all 13 am_c13 0 am_c13 = true := by decide +kernel
theorem am_ok14 : am_all 14 am_c14 0 am_c14 = true := by decide +kernel
theorem am_ok15 : am_all 15 am_c15 0 am_c15 = true := by decide +kernel
theorem am_ok16 : am_all 16 am_c16 0 am_c16 = true := by decide +kernel
theorem am_ok17 : am_all 17 am_c17 0 am_c17 = true := by decide +kernel
theorem am_ok18 : am_all 18 am_c18 0 am_c18 = true := by decide +kernel
theorem am_ok19 : am_all 19 am_c19 0 am_c19 = true := by decide +kernel
theorem am_ok20 : am_all 20 am_c20 0 am_c20 = true := by decide +kernel
theorem am_ok21 : am_all 21 am_c21 0 am_c21 = true := by decide +kernel
theorem am_ok22 : am_all 22 am_c22 0 am_c22 = true := by decide +kernel
theorem am_ok23 : am_all 23 am_c23 0 am_c23 = true := by decide +kernel
theorem am_ok24 : am_all 24 am_c24 0 am_c24 = true := by decide +kernel
theorem am_ok25 : am_all 25 am_c25 0 am_c25 = true := by decide +kernel
theorem am_ok26 : am_all 26 am_c26 0 am_c26 = true := by decide +kernel
theorem am_ok27 : am_all 27 am_c27 0 am_c27 = true := by decide +kernel
theorem am_ok28 : am_all 28 am_c28 0 am_c28 = true := by decide +kernel
theorem am_ok29 : am_all 29 am_c29 0 am_c29 = true := by decide +kernel
theorem am_ok30 : am_all 30 am_c30 0 am_c30 = true := by decide +kernel
theorem am_ok31 : am_all 31 am_c31 0 am_c31 = true := by decide +kernel
theorem am_ok32 : am_all 32 am_c32 0 am_c32 = true := by decide +kernel
theorem am_ok33 : am_all 33 am_c33 0 am_c33 = true := by decide +kernel
theorem am_ok34 : am_all 34 am_c34 0 am_c34 = true := by decide +kernel
theorem am_ok35 : am_all 35 am_c35 0 am_c35 = true := by decide +kernel
theorem am_ok36 : am_all 36 am_c36 0 am_c36 = true := by decide +kernel
theorem am_ok37 : am_all 37 am_c37 0 am_c37 = true := by decide +kernel
theorem am_ok38 : am_all 38 am_c38 0 am_c38 = true := by decide +kernel
theorem am_ok39 : am_all 39 am_c39 0 am_c39 = true := by decide +kernel
theorem am_ok40 : am_all 40 am_c40 0 am_c40 = true := by decide +kernel
theorem am_ok41 : am_all 41 am_c41 0 am_c41 = true := by decide +kernel
theorem am_ok42 : am_all 42 am_c42 0 am_c42 = true := by decide +kernel
theorem am_ok43 : am_all 43 am_c43 0 am_c43 = true := by decide +kernel
theorem am_ok44 : am_all 44 am_c44 0 am_c44 = true := by decide +kernel
theorem am_ok45 : am_all 45 am_c45 0 am_c45 = true := by decide +kernel
theorem am_ok46 : am_all 46 am_c46 0 am_c46 = true := by decide +kernel
theorem am_ok47 : am_all 47 am_c47 0 am_c47 = true := by decide +kernel
theorem am_ok48 : am_all 48 am_c48 0 am_c48 = true := by decide +kernel
theorem am_ok49 : am_all 49 am_c49 0 am_c49 = true := by decide +kernel
theorem am_ok50 : am_all 50 am_c50 0 am_c50 = true := by decide +kernel
theorem am_ok51 : am_all 51 am_c51 0 am_c51 = true := by decide +kernel
theorem am_ok52 : am_all 52 am_c52 0 am_c52 = true := by decide +kernel
theorem am_ok53 : am_all 53 am_c53 0 am_c53 = true := by decide +kernel
theorem am_ok54 : am_all 54 am_c54 0 am_c54 = true := by decide +kernel
theorem am_ok55 : am_all 55 am_c55 0 am_c55 = true := by decide +kernel
theorem am_ok56 : am_all 56 am_c56 0 am_c56 = true := by decide +kernel
theorem am_ok57 : am_all 57 am_c57 0 am_c57 = true := by decide +kernel
theorem am_ok58 : am_all 58 am_c58 0 am_c58 = true := by decide +kernel
theorem am_ok59 : am_all 59 am_c59 0 am_c59 = true := by decide +kernel
end
section
/-! every row of every method (kernel) -/
theorem am_ok60 : am_all 60 am_c60 0 am_c60 = true := by decide +kernel
theorem am_ok61 : am_all 61 am_c61 0 am_c61 = true := by decide +kernel
theorem am_ok62 : am_all 62 am_c62 0 am_c62 = true := by decide +kernel
theorem am_ok63 : am_all 63 am_c63 0 am_c63 = true := by decide +kernel
theorem am_ok64 : am_all 64 am_c64 0 am_c64 = true := by decide +kernel
theorem am_ok65 : am_all 65 am_c65 0 am_c65 = true := by decide +kernel
theorem am_ok66 : am_all 66 am_c66 0 am_c66 = true := by decide +kernel
theorem am_ok67 : am_all 67 am_c67 0 am_c67 = true := by decide +kernel
theorem am_ok68 : am_all 68 am_c68 0 am_c68 = true := by decide +kernel
theorem am_ok69 : am_all 69 am_c69 0 am_c69 = true := by decide +kernel
theorem am_ok70 : am_all 70 am_c70 0 am_c70 = true := by decide +kernel
theorem am_ok71 : am_all 71 am_c71 0 am_c71 = true := by decide +kernel
theorem am_ok72 : am_all 72 am_c72 0 am_c72 = true := by decide +kernel
theorem am_ok73 : am_all 73 am_c73 0 am_c73 = true := by decide +kernel
theorem am_ok74 : am_all 74 am_c74 0 am_c74 = true := by decide +kernel
theorem am_ok75 : am_all 75 am_c75 0 am_c75 = true := by decide +kernel
theorem am_ok76 : am_all 76 am_c76 0 am_c76 = true := by decide +kernel
theorem am_ok77 : am_all 77 am_c77 0 am_c77 = true := by decide +kernel
theorem am_ok78 : am_all 78 am_c78 0 am_c78 = true := by decide +kernel
theorem am_ok79 : am_all 79 am_c79 0 am_c79 = true := by decide +kernel
theorem am_ok80 : am_all 80 am_c80 0 am_c80 = true := by decide +kernel
theorem am_ok81 : am_all 81 am_c81 0 am_c81 = true := by decide +kernel
theorem am_ok82 : am_all 82 am_c82 0 am_c82 = true := by decide +kernel
theorem am_ok83 : am_all 83 am_c83 0 am_c83 = true := by decide +kernel
theorem am_ok84 : am_all 84 am_c84 0 am_c84 = true := by decide +kernel
theorem am_ok85 : am_all 85 am_c85 0 am_c85 = true := by decide +kernel
theorem am_ok86 : am_all 86 am_c86 0 am_c86 = true := by decide +kernel
theorem am_ok87 : am_all 87 am_c87 0 am_c87 = true := by decide +kernel
theorem am_ok88 : am_all 88 am_c88 0 am_c88 = true := by decide +kernel
theorem am_ok89 : am_all 89 am_c89 0 am_c89 = true := by decide +kernel
theorem am_ok90 : am_all 90 am_c90 0 am_c90 = true := by decide +kernel
theorem am_ok91 : am_all 91 am_c91 0 am_c91 = true := by decide +kernel
theorem am_ok92 : am_all 92 am_c92 0 am_c92 = true := by decide +kernel
theorem am_ok93 : am_all 93 am_c93 0 am_c93 = true := by decide +kernel
theorem am_ok94 : am_all 94 am_c94 0 am_c94 = true := by decide +kernel
theorem am_ok95 : am_all 95 am_c95 0 am_c95 = true := by decide +kernel
theorem am_ok96 : am_all 96 am_c96 0 am_c96 = true := by decide +kernel
theorem am_ok97 : am_all 97 am_c97 0 am_c97 = true := by decide +kernel
theorem am_ok98 : am_all 98 am_c98 0 am_c98 = true := by decide +kernel
theorem am_ok99 : am_all 99 am_c99 0 am_c99 = true := by decide +kernel
theorem am_ok100 : am_all 100 am_c100 0 am_c100 = true := by decide +kernel
theorem am_ok101 : am_all 101 am_c101 0 am_c101 = true := by decide +kernel
theorem am_ok102 : am_all 102 am_c102 0 am_c102 = true := by decide +kernel
theorem am_ok103 : am_all 103 am_c103 0 am_c103 = true := by decide +kernel
theorem am_ok104 : am_all 104 am_c104 0 am_c104 = true := by decide +kernel
theorem am_ok105 : am_all 105 am_c105 0 am_c105 = true := by decide +kernel
theorem am_ok106 : am_all 106 am_c106 0 am_c106 = true := by decide +kernel
theorem am_ok107 : am_all 107 am_c107 0 am_c107 = true := by decide +kernel
theorem am_ok108 : am_all 108 am_c108 0 am_c108 = true := by decide +kernel
theorem am_ok109 : am_all 109 am_c109 0 am_c109 = true := by decide +kernel
theorem am_ok110 : am_all 110 am_c110 0 am_c110 = true := by decide +kernel
theorem am_ok111 : am_all 111 am_c111 0 am_c111 = true := by decide +kernel
theorem am_ok112 : am_all 112 am_c112 0 am_c112 = true := by decide +kernel
theorem am_ok113 : am_all 113 am_c113 0 am_c113 = true := by decide +kernel
theorem am_ok114 : am_all 114 am_c114 0 am_c114 = true := by decide +kernel
theorem am_ok115 : am_all 115 am_c115 0 am_c115 = true := by decide +kernel
theorem am_ok116 : am_all 116 am_c116 0 am_c116 = true := by decide +kernel
theorem am_ok117 : am_all 117 am_c117 0 am_c117 = true := by decide +kernel
theorem am_ok118 : am_all 118 am_c118 0 am_c118 = true := by decide +kernel
theorem am_ok119 : am_all 119 am_c119 0 am_c119 = true := by decide +kernel
end
section
/-! every row of every method (kernel) -/
theorem am_ok120 : am_all 120 am_c120 0 am_c120 = true := by decide +kernel
theorem am_ok121 : am_all 121 am_c121 0 am_c121 = true := by decide +kernel
theorem am_ok122 : am_all 122 am_c122 0 am_c122 = true := by decide +kernel
theorem am_ok123 : am_all 123 am_c123 0 am_c123 = true := by decide +kernel
theorem am_ok124 : am_all 124 am_c124 0 am_c124 = true := by decide +kernel
theorem am_ok125 : am_all 125 am_c125 0 am_c125 = true := by decide +kernel
theorem am_ok126 : am_all 126 am_c126 0 am_c126 = true := by decide +kernel
theorem am_ok127 : am_all 127 am_c127 0 am_c127 = true := by decide +kernel
theorem am_ok128 : am_all 128 am_c128 0 am_c128 = true := by decide +kernel
theorem am_ok129 : am_all 129 am_c129 0 am_c129 = true := by decide +kernel
theorem am_ok130 : am_all 130 am_c130 0 am_c130 = true := by decide +kernel
theorem am_ok131 : am_all 131 am_c131 0 am_c131 = true := by decide +kernel
theorem am_ok132 : am_all 132 am_c132 0 am_c132 = true := by decide +kernel
theorem am_ok133 : am_all 133 am_c133 0 am_c133 = true := by decide +kernel
theorem am_ok134 : am_all 134 am_c134 0 am_c134 = true := by decide +kernel
theorem am_ok135 : am_all 135 am_c135 0 am_c135 = true := by decide +kernel
theorem am_ok136 : am_all 136 am_c136 0 am_c136 = true := by decide +kernel
theorem am_ok137 : am_all 137 am_c137 0 am_c137 = true := by decide +kernel
theorem am_ok138 : am_all 138 am_c138 0 am_c138 = true := by decide +kernel
theorem am_ok139 : am_all 139 am_c139 0 am_c139 = true := by decide +kernel
theorem am_ok140 : am_all 140 am_c140 0 am_c140 = true := by decide +kernel
theorem am_ok141 : am_all 141 am_c141 0 am_c141 = true := by decide +kernel
theorem am_ok142 : am_all 142 am_c142 0 am_c142 = true := by decide +kernel
theorem am_ok143 : am_all 143 am_c143 0 am_c143 = true := by decide +kernel
theorem am_ok144 : am_all 144 am_c144 0 am_c144 = true := by decide +kernel
theorem am_ok145 : am_all 145 am_c145 0 am_c145 = true := by decide +kernel
theorem am_ok146 : am_all 146 am_c146 0 am_c146 = true := by decide +kernel
theorem am_ok147 : am_all 147 am_c147 0 am_c147 = true := by decide +kernel
theorem am_ok148 : am_all 148 am_c148 0 am_c148 = true := by decide +kernel
theorem am_ok149 : am_all 149 am_c149 0 am_c149 = true := by decide +kernel
theorem am_ok150 : am_all 150 am_c150 0 am_c150 = true := by decide +kernel
theorem am_ok151 : am_all 151 am_c151 0 am_c151 = true := by decide +kernel
theorem am_ok152 : am_all 152 am_c152 0 am_c152 = true := by decide +kernel
theorem am_ok153 : am_all 153 am_c153 0 am_c153 = true := by decide +kernel
theorem am_ok154 : am_all 154 am_c154 0 am_c154 = true := by decide +kernel
theorem am_ok155 : am_all 155 am_c155 0 am_c155 = true := by decide +kernel
theorem am_ok156 : am_all 156 am_c156 0 am_c156 = true := by decide +kernel
theorem am_ok157 : am_all 157 am_c157 0 am_c157 = true := by decide +kernel
theorem am_ok158 : am_all 158 am_c158 0 am_c158 = true := by decide +kernel
theorem am_ok159 : am_all 159 am_c159 0 am_c159 = true := by decide +kernel
theorem am_ok160 : am_all 160 am_c160 0 am_c160 = true := by decide +kernel
theorem am_ok161 : am_all 161 am_c161 0 am_c161 = true := by decide +kernel
theorem am_ok162 : am_all 162 am_c162 0 am_c162 = true := by decide +kernel
theorem am_ok163 : am_all 163 am_c163 0 am_c163 = true := by decide +kernel
theorem am_ok164 : am_all 164 am_c164 0 am_c164 = true := by decide +kernel
theorem am_ok165 : am_all 165 am_c165 0 am_c165 = true := by decide +kernel
theorem am_ok166 : am_all 166 am_c166 0 am_c166 = true := by decide +kernel
theorem am_ok167 : am_all 167 am_c167 0 am_c167 = true := by decide +kernel
theorem am_ok168 : am_all 168 am_c168 0 am_c168 = true := by decide +kernel
theorem am_ok169 : am_all 169 am_c169 0 am_c169 = true := by decide +kernel
theorem am_ok170 : am_all 170 am_c170 0 am_c170 = true := by decide +kernel
theorem am_ok171 : am_all 171 am_c171 0 am_c171 = true := by decide +kernel
theorem am_ok172 : am_all 172 am_c172 0 am_c172 = true := by decide +kernel
theorem am_ok173 : am_all 173 am_c173 0 am_c173 = true := by decide +kernel
theorem am_ok174 : am_all 174 am_c174 0 am_c174 = true := by decide +kernel
theorem am_ok175 : am_all 175 am_c175 0 am_c175 = true := by decide +kernel
theorem am_ok176 : am_all 176 am_c176 0 am_c176 = true := by decide +kernel
theorem am_ok177 : am_all 177 am_c177 0 am_c177 = true := by decide +kernel
theorem am_ok178 : am_all 178 am_c178 0 am_c178 = true := by decide +kernel
theorem am_ok179 : am_all 179 am_c179 0 am_c179 = true := by decide +kernel
end
section
/-! the law's rows, by pieces (kernel) -/
theorem am_all_app {k : Nat} {c : List am_Row} : ∀ {l1 l2 : List am_Row} {i j : Nat}, am_all k c i l1 = true → i + l1.length = j → am_all k c j l2 = true → am_all k c i (l1 ++ l2) = true
  | [], _, i, j, _, h, h2 => by
    have h3 : i = j := h
    rw [h3]
    exact h2
  | r :: l, l2, i, j, h, h1, h2 => by
    have h3 := Bool.and_eq_true _ _ ▸ h
    have h4 := am_all_app (l2 := l2) (j := j) h3.2 (by simp at h1; omega) h2
    show (am_rowOK k c i r && am_all k c (i + 1) (l ++ l2)) = true
    rw [h3.1, h4]
    rfl
def am_lw0 : List am_Row := [(0, 87, 4, 0, 24, 49), (3, 85, 0, 0, 0, 0), (4, 74, 0, 0, 32, 51), (7, 17, 1, 0, 0, 0), (8, 2, 0, 62, 0, 0), (10, 88, 0, 0, 0, 0), (12, 17, 2, 0, 0, 0), (13, 2, 0, 9, 0, 0), (15, 88, 0, 0, 0, 0), (17, 17, 3, 0, 0, 0), (18, 13, 1, 0, 0, 0), (19, 13, 0, 0, 0, 0), (20, 1, 0, 0, 0, 0), (21, 2, 0, 54, 0, 0), (23, 13, 2, 0, 0, 0), (24, 13, 3, 0, 0, 0), (25, 72, 103, 0, 33, 547), (28, 40, 24, 15, 0, 0), (31, 13, 1, 0, 0, 0), (32, 70, 4, 0, 37, 271), (35, 1, 0, -1, 0, 0), (36, 47, 24, 7, 0, 0), (39, 1, 0, 1, 0, 0), (40, 39, 25, 4, 0, 0), (43, 1, 0, 0, 0, 0), (44, 14, 4, 0, 0, 0), (46, 13, 1, 0, 0, 0), (47, 1, 0, 1, 0, 0), (48, 70, 26, 0, 41, 521), (51, 14, 5, 0, 0, 0), (53, 13, 1, 0, 0, 0), (54, 1, 0, 2, 0, 0), (55, 70, 26, 0, 41, 521), (58, 14, 6, 0, 0, 0), (60, 10, 4, 0, 0, 0), (62, 40, 43, 19, 0, 0), (65, 10, 5, 0, 0, 0), (67, 45, 43, 14, 0, 0), (70, 10, 6, 0, 0, 0), (72, 10, 5, 0, 0, 0), (74, 48, 43, 7, 0, 0), (77, 1, 0, 1, 0, 0), (78, 39, 44, 4, 0, 0), (81, 1, 0, 0, 0, 0), (82, 14, 4, 0, 0, 0), (84, 1, 0, 0, 0, 0), (85, 14, 7, 0, 0, 0), (87, 10, 7, 0, 0, 0)]
def am_lw1 : List am_Row := [(89, 1, 0, 2, 0, 0), (90, 49, 661, 1204, 0, 0), (93, 10, 4, 0, 0, 0), (95, 40, 661, 1199, 0, 0), (98, 1, 0, 0, 0, 0), (99, 14, 8, 0, 0, 0), (101, 1, 0, 0, 0, 0), (102, 14, 9, 0, 0, 0), (104, 1, 0, 0, 0, 0), (105, 14, 10, 0, 0, 0), (107, 10, 10, 0, 0, 0), (109, 10, 5, 0, 0, 0), (111, 49, 272, 418, 0, 0), (114, 10, 4, 0, 0, 0), (116, 40, 272, 413, 0, 0), (119, 13, 1, 0, 0, 0), (120, 10, 10, 0, 0, 0), (122, 1, 0, 0, 0, 0), (123, 70, 6, 0, 44, 418), (126, 10, 8, 0, 0, 0), (128, 47, 90, 44, 0, 0), (131, 13, 1, 0, 0, 0), (132, 10, 10, 0, 0, 0), (134, 1, 0, 1, 0, 0), (135, 70, 6, 0, 44, 418), (138, 45, 90, 34, 0, 0), (141, 13, 1, 0, 0, 0), (142, 10, 10, 0, 0, 0), (144, 1, 0, 2, 0, 0), (145, 70, 6, 0, 44, 418), (148, 45, 90, 24, 0, 0), (151, 13, 1, 0, 0, 0), (152, 10, 10, 0, 0, 0), (154, 1, 0, 2, 0, 0), (155, 70, 6, 0, 44, 418), (158, 13, 1, 0, 0, 0), (159, 10, 10, 0, 0, 0), (161, 1, 0, 1, 0, 0), (162, 70, 6, 0, 44, 418), (165, 50, 90, 7, 0, 0), (168, 1, 0, 1, 0, 0), (169, 39, 91, 4, 0, 0), (172, 1, 0, 0, 0, 0), (173, 14, 4, 0, 0, 0), (175, 1, 0, 0, 0, 0), (176, 14, 11, 0, 0, 0), (178, 1, 0, 0, 0, 0), (179, 14, 12, 0, 0, 0)]
def am_lw2 : List am_Row := [(181, 1, 0, 0, 0, 0), (182, 14, 13, 0, 0, 0), (184, 10, 13, 0, 0, 0), (186, 13, 1, 0, 0, 0), (187, 10, 10, 0, 0, 0), (189, 1, 0, 1, 0, 0), (190, 70, 6, 0, 44, 418), (193, 49, 247, 285, 0, 0), (196, 10, 4, 0, 0, 0), (198, 40, 247, 280, 0, 0), (201, 13, 1, 0, 0, 0), (202, 10, 8, 0, 0, 0), (204, 1, 0, 2, 0, 0), (205, 70, 7, 0, 47, 431), (208, 14, 14, 0, 0, 0), (210, 1, 0, 0, 0, 0), (211, 14, 15, 0, 0, 0), (213, 10, 9, 0, 0, 0), (215, 14, 16, 0, 0, 0), (217, 10, 16, 0, 0, 0), (219, 10, 9, 0, 0, 0), (221, 10, 14, 0, 0, 0), (223, 19, 0, 0, 0, 0), (224, 49, 133, 31, 0, 0), (227, 10, 15, 0, 0, 0), (229, 41, 127, 13, 0, 0), (232, 13, 2, 0, 0, 0), (233, 10, 16, 0, 0, 0), (235, 61, 0, 0, 0, 0), (236, 72, 102, 0, 19, 544), (239, 40, 129, 7, 0, 0), (242, 1, 0, 1, 0, 0), (243, 39, 130, 4, 0, 0), (246, 1, 0, 0, 0, 0), (247, 14, 15, 0, 0, 0), (249, 18, 16, 1, 0, 0), (252, 39, 115, -35, 0, 0), (255, 13, 1, 0, 0, 0), (256, 10, 8, 0, 0, 0), (258, 1, 0, 0, 0, 0), (259, 70, 7, 0, 47, 431), (262, 10, 10, 0, 0, 0), (264, 47, 184, 93, 0, 0), (267, 13, 1, 0, 0, 0), (268, 10, 8, 0, 0, 0), (270, 1, 0, 1, 0, 0), (271, 70, 7, 0, 47, 431), (274, 10, 9, 0, 0, 0)]
def am_lw3 : List am_Row := [(276, 47, 184, 81, 0, 0), (279, 10, 15, 0, 0, 0), (281, 40, 184, 76, 0, 0), (284, 13, 1, 0, 0, 0), (285, 10, 8, 0, 0, 0), (287, 1, 0, 3, 0, 0), (288, 70, 7, 0, 47, 431), (291, 45, 184, 66, 0, 0), (294, 13, 1, 0, 0, 0), (295, 10, 8, 0, 0, 0), (297, 1, 0, 4, 0, 0), (298, 70, 7, 0, 47, 431), (301, 29, 0, 0, 0, 0), (302, 9, 0, -1, 50, 558), (305, 13, 1, 0, 0, 0), (306, 10, 10, 0, 0, 0), (308, 1, 0, 2, 0, 0), (309, 70, 6, 0, 44, 418), (312, 1, 0, 1, 0, 0), (313, 20, 0, 0, 0, 0), (314, 29, 0, 0, 0, 0), (315, 72, 97, 0, 52, 541), (318, 40, 184, 39, 0, 0), (321, 13, 1, 0, 0, 0), (322, 10, 8, 0, 0, 0), (324, 2, 0, 6, 0, 0), (326, 70, 7, 0, 47, 431), (329, 42, 184, 28, 0, 0), (332, 13, 1, 0, 0, 0), (333, 10, 8, 0, 0, 0), (335, 1, 0, 5, 0, 0), (336, 70, 7, 0, 47, 431), (339, 44, 182, 14, 0, 0), (342, 13, 1, 0, 0, 0), (343, 10, 8, 0, 0, 0), (345, 2, 0, 6, 0, 0), (347, 70, 7, 0, 47, 431), (350, 41, 184, 7, 0, 0), (353, 1, 0, 1, 0, 0), (354, 39, 185, 4, 0, 0), (357, 1, 0, 0, 0, 0), (358, 14, 4, 0, 0, 0), (360, 10, 11, 0, 0, 0), (362, 13, 1, 0, 0, 0), (363, 10, 8, 0, 0, 0), (365, 1, 0, 5, 0, 0), (366, 70, 7, 0, 47, 431), (369, 1, 0, 2, 0, 0)]
def am_lw4 : List am_Row := [(370, 47, 195, 7, 0, 0), (373, 1, 0, 1, 0, 0), (374, 39, 196, 4, 0, 0), (377, 1, 0, 0, 0, 0), (378, 19, 0, 0, 0, 0), (379, 14, 11, 0, 0, 0), (381, 10, 12, 0, 0, 0), (383, 13, 1, 0, 0, 0), (384, 10, 8, 0, 0, 0), (386, 2, 0, 6, 0, 0), (388, 70, 7, 0, 47, 431), (391, 1, 0, 2, 0, 0), (392, 47, 207, 7, 0, 0), (395, 1, 0, 1, 0, 0), (396, 39, 208, 4, 0, 0), (399, 1, 0, 0, 0, 0), (400, 19, 0, 0, 0, 0), (401, 14, 12, 0, 0, 0), (403, 10, 4, 0, 0, 0), (405, 40, 238, 54, 0, 0), (408, 13, 1, 0, 0, 0), (409, 10, 8, 0, 0, 0), (411, 1, 0, 5, 0, 0), (412, 70, 7, 0, 47, 431), (415, 1, 0, 2, 0, 0), (416, 47, 224, 15, 0, 0), (419, 13, 1, 0, 0, 0), (420, 10, 10, 0, 0, 0), (422, 1, 0, 3, 0, 0), (423, 70, 6, 0, 44, 418), (426, 10, 8, 0, 0, 0), (428, 47, 238, 31, 0, 0), (431, 13, 1, 0, 0, 0), (432, 10, 8, 0, 0, 0), (434, 2, 0, 6, 0, 0), (436, 70, 7, 0, 47, 431), (439, 1, 0, 2, 0, 0), (440, 47, 236, 15, 0, 0), (443, 13, 1, 0, 0, 0), (444, 10, 10, 0, 0, 0), (446, 1, 0, 4, 0, 0), (447, 70, 6, 0, 44, 418), (450, 10, 8, 0, 0, 0), (452, 47, 238, 7, 0, 0), (455, 1, 0, 1, 0, 0), (456, 39, 239, 4, 0, 0), (459, 1, 0, 0, 0, 0), (460, 14, 4, 0, 0, 0)]
def am_lw5 : List am_Row := [(462, 10, 9, 0, 0, 0), (464, 10, 14, 0, 0, 0), (466, 19, 0, 0, 0, 0), (467, 14, 9, 0, 0, 0), (469, 18, 8, 1, 0, 0), (472, 18, 13, 1, 0, 0), (475, 39, 98, -291, 0, 0), (478, 10, 4, 0, 0, 0), (480, 40, 267, 37, 0, 0), (483, 10, 11, 0, 0, 0), (485, 1, 0, 1, 0, 0), (486, 47, 267, 31, 0, 0), (489, 10, 12, 0, 0, 0), (491, 1, 0, 1, 0, 0), (492, 47, 267, 25, 0, 0), (495, 10, 9, 0, 0, 0), (497, 13, 2, 0, 0, 0), (498, 2, 0, 60, 0, 0), (500, 61, 0, 0, 0, 0), (501, 46, 265, 12, 0, 0), (504, 13, 2, 0, 0, 0), (505, 10, 9, 0, 0, 0), (507, 61, 0, 0, 0, 0), (508, 2, 0, 32, 0, 0), (510, 47, 267, 7, 0, 0), (513, 1, 0, 1, 0, 0), (514, 39, 268, 4, 0, 0), (517, 1, 0, 0, 0, 0), (518, 14, 4, 0, 0, 0), (520, 18, 9, 1, 0, 0), (523, 18, 10, 1, 0, 0), (526, 39, 58, -419, 0, 0), (529, 10, 4, 0, 0, 0), (531, 40, 286, 25, 0, 0), (534, 10, 8, 0, 0, 0), (536, 10, 6, 0, 0, 0), (538, 47, 286, 18, 0, 0), (541, 10, 9, 0, 0, 0), (543, 13, 2, 0, 0, 0), (544, 2, 0, 60, 0, 0), (546, 61, 0, 0, 0, 0), (547, 1, 0, 1, 0, 0), (548, 19, 0, 0, 0, 0), (549, 47, 286, 7, 0, 0), (552, 1, 0, 1, 0, 0), (553, 39, 287, 4, 0, 0), (556, 1, 0, 0, 0, 0), (557, 14, 4, 0, 0, 0)]
def am_lw6 : List am_Row := [(559, 1, 0, -1, 0, 0), (560, 14, 10, 0, 0, 0), (562, 1, 0, 0, 0, 0), (563, 14, 11, 0, 0, 0), (565, 1, 0, 0, 0, 0), (566, 14, 12, 0, 0, 0), (568, 1, 0, 0, 0, 0), (569, 14, 13, 0, 0, 0), (571, 10, 13, 0, 0, 0), (573, 10, 6, 0, 0, 0), (575, 49, 401, 211, 0, 0), (578, 10, 4, 0, 0, 0), (580, 40, 401, 206, 0, 0), (583, 13, 1, 0, 0, 0), (584, 10, 13, 0, 0, 0), (586, 2, 0, 6, 0, 0), (588, 70, 7, 0, 47, 431), (591, 45, 399, 189, 0, 0), (594, 18, 12, 1, 0, 0), (597, 10, 10, 0, 0, 0), (599, 42, 397, 177, 0, 0), (602, 10, 13, 0, 0, 0), (604, 10, 10, 0, 0, 0), (606, 20, 0, 0, 0, 0), (607, 13, 3, 0, 0, 0), (608, 2, 0, 8, 0, 0), (610, 61, 0, 0, 0, 0), (611, 50, 397, 165, 0, 0), (614, 18, 11, 1, 0, 0), (617, 13, 1, 0, 0, 0), (618, 10, 13, 0, 0, 0), (620, 2, 0, 6, 0, 0), (622, 70, 7, 0, 47, 431), (625, 1, 0, 2, 0, 0), (626, 47, 340, 36, 0, 0), (629, 13, 1, 0, 0, 0), (630, 10, 10, 0, 0, 0), (632, 2, 0, 6, 0, 0), (634, 70, 7, 0, 47, 431), (637, 1, 0, 2, 0, 0), (638, 47, 340, 24, 0, 0), (641, 13, 1, 0, 0, 0), (642, 10, 13, 0, 0, 0), (644, 1, 0, 0, 0, 0), (645, 70, 7, 0, 47, 431), (648, 13, 1, 0, 0, 0), (649, 10, 10, 0, 0, 0), (651, 1, 0, 0, 0, 0)]
def am_lw7 : List am_Row := [(652, 70, 7, 0, 47, 431), (655, 46, 340, 7, 0, 0), (658, 1, 0, 1, 0, 0), (659, 39, 341, 4, 0, 0), (662, 1, 0, 0, 0, 0), (663, 14, 4, 0, 0, 0), (665, 13, 1, 0, 0, 0), (666, 13, 1, 0, 0, 0), (667, 10, 10, 0, 0, 0), (669, 1, 0, 0, 0, 0), (670, 70, 7, 0, 47, 431), (673, 1, 0, 0, 0, 0), (674, 70, 6, 0, 44, 418), (677, 14, 14, 0, 0, 0), (679, 10, 14, 0, 0, 0), (681, 10, 10, 0, 0, 0), (683, 49, 367, 33, 0, 0), (686, 10, 4, 0, 0, 0), (688, 40, 367, 28, 0, 0), (691, 13, 1, 0, 0, 0), (692, 10, 14, 0, 0, 0), (694, 2, 0, 6, 0, 0), (696, 70, 7, 0, 47, 431), (699, 1, 0, 1, 0, 0), (700, 46, 363, 7, 0, 0), (703, 1, 0, 1, 0, 0), (704, 39, 364, 4, 0, 0), (707, 1, 0, 0, 0, 0), (708, 14, 4, 0, 0, 0), (710, 18, 14, 1, 0, 0), (713, 39, 350, -34, 0, 0), (716, 10, 13, 0, 0, 0), (718, 1, 0, 1, 0, 0), (719, 19, 0, 0, 0, 0), (720, 14, 14, 0, 0, 0), (722, 10, 14, 0, 0, 0), (724, 10, 6, 0, 0, 0), (726, 49, 397, 50, 0, 0), (729, 10, 4, 0, 0, 0), (731, 40, 397, 45, 0, 0), (734, 13, 1, 0, 0, 0), (735, 10, 14, 0, 0, 0), (737, 1, 0, 0, 0, 0), (738, 70, 7, 0, 47, 431), (741, 13, 1, 0, 0, 0), (742, 10, 13, 0, 0, 0), (744, 1, 0, 0, 0, 0), (745, 70, 7, 0, 47, 431)]
def am_lw8 : List am_Row := [(748, 47, 397, 28, 0, 0), (751, 13, 1, 0, 0, 0), (752, 10, 14, 0, 0, 0), (754, 2, 0, 6, 0, 0), (756, 70, 7, 0, 47, 431), (759, 1, 0, 1, 0, 0), (760, 46, 393, 7, 0, 0), (763, 1, 0, 1, 0, 0), (764, 39, 394, 4, 0, 0), (767, 1, 0, 0, 0, 0), (768, 14, 4, 0, 0, 0), (770, 18, 14, 1, 0, 0), (773, 39, 371, -51, 0, 0), (776, 10, 13, 0, 0, 0), (778, 14, 10, 0, 0, 0), (780, 18, 13, 1, 0, 0), (783, 39, 296, -212, 0, 0), (786, 10, 4, 0, 0, 0), (788, 40, 436, 69, 0, 0), (791, 13, 1, 0, 0, 0), (792, 1, 0, 1, 0, 0), (793, 70, 12, 0, 56, 453), (796, 10, 11, 0, 0, 0), (798, 47, 436, 59, 0, 0), (801, 13, 1, 0, 0, 0), (802, 1, 0, 3, 0, 0), (803, 70, 12, 0, 56, 453), (806, 10, 11, 0, 0, 0), (808, 47, 436, 49, 0, 0), (811, 13, 1, 0, 0, 0), (812, 2, 0, 6, 0, 0), (814, 70, 26, 0, 41, 521), (817, 10, 12, 0, 0, 0), (819, 47, 436, 38, 0, 0), (822, 13, 1, 0, 0, 0), (823, 1, 0, 2, 0, 0), (824, 70, 12, 0, 56, 453), (827, 44, 426, 11, 0, 0), (830, 13, 1, 0, 0, 0), (831, 1, 0, 0, 0, 0), (832, 70, 12, 0, 56, 453), (835, 41, 436, 22, 0, 0), (838, 13, 3, 0, 0, 0), (839, 2, 0, 8, 0, 0), (841, 61, 0, 0, 0, 0), (842, 44, 434, 11, 0, 0), (845, 13, 1, 0, 0, 0), (846, 1, 0, 2, 0, 0)]
def am_lw9 : List am_Row := [(847, 70, 12, 0, 56, 453), (850, 41, 436, 7, 0, 0), (853, 1, 0, 1, 0, 0), (854, 39, 437, 4, 0, 0), (857, 1, 0, 0, 0, 0), (858, 14, 4, 0, 0, 0), (860, 13, 1, 0, 0, 0), (861, 1, 0, -1, 0, 0), (862, 70, 19, 0, 59, 517), (865, 14, 13, 0, 0, 0), (867, 1, 0, 0, 0, 0), (868, 14, 14, 0, 0, 0), (870, 1, 0, 0, 0, 0), (871, 14, 15, 0, 0, 0), (873, 1, 0, 0, 0, 0), (874, 14, 16, 0, 0, 0), (876, 10, 16, 0, 0, 0), (878, 10, 13, 0, 0, 0), (880, 49, 508, 119, 0, 0), (883, 10, 4, 0, 0, 0), (885, 40, 508, 114, 0, 0), (888, 13, 1, 0, 0, 0), (889, 10, 16, 0, 0, 0), (891, 70, 19, 0, 59, 517), (894, 14, 17, 0, 0, 0), (896, 10, 17, 0, 0, 0), (898, 2, 0, 39, 0, 0), (900, 46, 466, 17, 0, 0), (903, 10, 17, 0, 0, 0), (905, 2, 0, 44, 0, 0), (907, 46, 466, 10, 0, 0), (910, 10, 17, 0, 0, 0), (912, 2, 0, 46, 0, 0), (914, 47, 468, 7, 0, 0), (917, 1, 0, 1, 0, 0), (918, 39, 469, 4, 0, 0), (921, 1, 0, 0, 0, 0), (922, 14, 18, 0, 0, 0), (924, 10, 15, 0, 0, 0), (926, 10, 17, 0, 0, 0), (928, 2, 0, 39, 0, 0), (930, 46, 477, 10, 0, 0), (933, 10, 17, 0, 0, 0), (935, 2, 0, 44, 0, 0), (937, 47, 479, 7, 0, 0), (940, 1, 0, 1, 0, 0), (941, 39, 480, 4, 0, 0), (944, 1, 0, 0, 0, 0)]
def am_lw10 : List am_Row := [(945, 19, 0, 0, 0, 0), (946, 14, 15, 0, 0, 0), (948, 10, 18, 0, 0, 0), (950, 41, 494, 21, 0, 0), (953, 10, 14, 0, 0, 0), (955, 13, 2, 0, 0, 0), (956, 2, 0, 60, 0, 0), (958, 61, 0, 0, 0, 0), (959, 49, 496, 16, 0, 0), (962, 10, 17, 0, 0, 0), (964, 13, 2, 0, 0, 0), (965, 10, 14, 0, 0, 0), (967, 61, 0, 0, 0, 0), (968, 47, 496, 7, 0, 0), (971, 1, 0, 1, 0, 0), (972, 39, 497, 4, 0, 0), (975, 1, 0, 0, 0, 0), (976, 14, 4, 0, 0, 0), (978, 10, 14, 0, 0, 0), (980, 10, 18, 0, 0, 0), (982, 40, 503, 7, 0, 0), (985, 1, 0, 0, 0, 0), (986, 39, 504, 4, 0, 0), (989, 1, 0, 1, 0, 0), (990, 19, 0, 0, 0, 0), (991, 14, 14, 0, 0, 0), (993, 18, 16, 1, 0, 0), (996, 39, 448, -120, 0, 0), (999, 10, 4, 0, 0, 0), (1001, 40, 531, 41, 0, 0), (1004, 10, 14, 0, 0, 0), (1006, 13, 2, 0, 0, 0), (1007, 2, 0, 60, 0, 0), (1009, 61, 0, 0, 0, 0), (1010, 47, 531, 32, 0, 0), (1013, 10, 15, 0, 0, 0), (1015, 10, 12, 0, 0, 0), (1017, 47, 531, 25, 0, 0), (1020, 10, 13, 0, 0, 0), (1022, 13, 2, 0, 0, 0), (1023, 2, 0, 60, 0, 0), (1025, 61, 0, 0, 0, 0), (1026, 10, 15, 0, 0, 0), (1028, 19, 0, 0, 0, 0), (1029, 10, 6, 0, 0, 0), (1031, 19, 0, 0, 0, 0), (1032, 10, 5, 0, 0, 0), (1034, 20, 0, 0, 0, 0)]
def am_lw11 : List am_Row := [(1035, 47, 531, 7, 0, 0), (1038, 1, 0, 1, 0, 0), (1039, 39, 532, 4, 0, 0), (1042, 1, 0, 0, 0, 0), (1043, 14, 4, 0, 0, 0), (1045, 10, 4, 0, 0, 0), (1047, 40, 555, 45, 0, 0), (1050, 13, 1, 0, 0, 0), (1051, 70, 14, 0, 62, 461), (1054, 10, 12, 0, 0, 0), (1056, 47, 555, 36, 0, 0), (1059, 13, 1, 0, 0, 0), (1060, 70, 15, 0, 65, 469), (1063, 10, 6, 0, 0, 0), (1065, 47, 555, 27, 0, 0), (1068, 13, 1, 0, 0, 0), (1069, 1, 0, 4, 0, 0), (1070, 70, 16, 0, 68, 477), (1073, 10, 6, 0, 0, 0), (1075, 47, 555, 17, 0, 0), (1078, 13, 1, 0, 0, 0), (1079, 1, 0, 0, 0, 0), (1080, 70, 18, 0, 71, 496), (1083, 4, 0, 1065353216, 74, 559), (1085, 47, 555, 7, 0, 0), (1088, 1, 0, 1, 0, 0), (1089, 39, 556, 4, 0, 0), (1092, 1, 0, 0, 0, 0), (1093, 14, 4, 0, 0, 0), (1095, 13, 1, 0, 0, 0), (1096, 1, 0, 0, 0, 0), (1097, 70, 16, 0, 68, 477), (1100, 14, 16, 0, 0, 0), (1102, 10, 4, 0, 0, 0), (1104, 40, 602, 75, 0, 0), (1107, 13, 1, 0, 0, 0), (1108, 70, 17, 0, 75, 492), (1111, 10, 6, 0, 0, 0), (1113, 47, 602, 66, 0, 0), (1116, 13, 1, 0, 0, 0), (1117, 70, 15, 0, 65, 469), (1120, 10, 6, 0, 0, 0), (1122, 47, 602, 57, 0, 0), (1125, 13, 1, 0, 0, 0), (1126, 1, 0, 4, 0, 0), (1127, 13, 3, 0, 0, 0), (1128, 1, 0, 4, 0, 0), (1129, 61, 0, 0, 0, 0)]
def am_lw12 : List am_Row := [(1130, 70, 5, 0, 29, 408), (1133, 10, 16, 0, 0, 0), (1135, 47, 602, 44, 0, 0), (1138, 13, 1, 0, 0, 0), (1139, 1, 0, 5, 0, 0), (1140, 13, 3, 0, 0, 0), (1141, 1, 0, 5, 0, 0), (1142, 61, 0, 0, 0, 0), (1143, 70, 5, 0, 29, 408), (1146, 42, 602, 33, 0, 0), (1149, 13, 1, 0, 0, 0), (1150, 2, 0, 6, 0, 0), (1152, 13, 3, 0, 0, 0), (1153, 2, 0, 6, 0, 0), (1155, 61, 0, 0, 0, 0), (1156, 70, 5, 0, 29, 408), (1159, 42, 602, 20, 0, 0), (1162, 13, 1, 0, 0, 0), (1163, 2, 0, 7, 0, 0), (1165, 13, 3, 0, 0, 0), (1166, 2, 0, 7, 0, 0), (1168, 61, 0, 0, 0, 0), (1169, 70, 5, 0, 29, 408), (1172, 42, 602, 7, 0, 0), (1175, 1, 0, 1, 0, 0), (1176, 39, 603, 4, 0, 0), (1179, 1, 0, 0, 0, 0), (1180, 14, 4, 0, 0, 0), (1182, 13, 0, 0, 0, 0), (1183, 2, 0, 22, 0, 0), (1185, 10, 7, 0, 0, 0), (1187, 19, 0, 0, 0, 0), (1188, 72, 100, 0, 9, 533), (1191, 10, 5, 0, 0, 0), (1193, 72, 101, 0, 15, 537), (1196, 14, 17, 0, 0, 0), (1198, 13, 0, 0, 0, 0), (1199, 2, 0, 22, 0, 0), (1201, 10, 7, 0, 0, 0), (1203, 19, 0, 0, 0, 0), (1204, 72, 100, 0, 9, 533), (1207, 2, 0, 6, 0, 0), (1209, 90, 0, 0, 0, 0), (1210, 13, 1, 0, 0, 0), (1211, 10, 17, 0, 0, 0), (1213, 1, 0, 1, 0, 0), (1214, 70, 6, 0, 44, 418), (1217, 72, 101, 0, 15, 537)]
def am_lw13 : List am_Row := [(1220, 14, 18, 0, 0, 0), (1222, 10, 4, 0, 0, 0), (1224, 40, 657, 61, 0, 0), (1227, 13, 1, 0, 0, 0), (1228, 10, 17, 0, 0, 0), (1230, 10, 18, 0, 0, 0), (1232, 70, 8, 0, 78, 439), (1235, 1, 0, 1, 0, 0), (1236, 48, 657, 49, 0, 0), (1239, 13, 1, 0, 0, 0), (1240, 10, 17, 0, 0, 0), (1242, 70, 10, 0, 81, 449), (1245, 10, 18, 0, 0, 0), (1247, 47, 657, 38, 0, 0), (1250, 13, 1, 0, 0, 0), (1251, 10, 17, 0, 0, 0), (1253, 1, 0, 3, 0, 0), (1254, 70, 6, 0, 44, 418), (1257, 13, 1, 0, 0, 0), (1258, 10, 17, 0, 0, 0), (1260, 1, 0, 0, 0, 0), (1261, 70, 6, 0, 44, 418), (1264, 10, 18, 0, 0, 0), (1266, 19, 0, 0, 0, 0), (1267, 47, 657, 18, 0, 0), (1270, 13, 1, 0, 0, 0), (1271, 10, 17, 0, 0, 0), (1273, 1, 0, 5, 0, 0), (1274, 70, 6, 0, 44, 418), (1277, 1, 0, 1, 0, 0), (1278, 47, 657, 7, 0, 0), (1281, 1, 0, 1, 0, 0), (1282, 39, 658, 4, 0, 0), (1285, 1, 0, 0, 0, 0), (1286, 14, 4, 0, 0, 0), (1288, 18, 7, 1, 0, 0), (1291, 39, 47, -1204, 0, 0), (1294, 10, 4, 0, 0, 0), (1296, 89, 0, 0, 0, 0)]
theorem am_okl0 : am_all 180 am_c180 0 am_lw0 = true := by decide +kernel
theorem am_okl1 : am_all 180 am_c180 48 am_lw1 = true := by decide +kernel
theorem am_okl2 : am_all 180 am_c180 96 am_lw2 = true := by decide +kernel
theorem am_okl3 : am_all 180 am_c180 144 am_lw3 = true := by decide +kernel
theorem am_okl4 : am_all 180 am_c180 192 am_lw4 = true := by decide +kernel
theorem am_okl5 : am_all 180 am_c180 240 am_lw5 = true := by decide +kernel
end
section
/-! the law's rows, on -/
theorem am_okl6 : am_all 180 am_c180 288 am_lw6 = true := by decide +kernel
theorem am_okl7 : am_all 180 am_c180 336 am_lw7 = true := by decide +kernel
theorem am_okl8 : am_all 180 am_c180 384 am_lw8 = true := by decide +kernel
theorem am_okl9 : am_all 180 am_c180 432 am_lw9 = true := by decide +kernel
end
section
/-! the law's rows, on -/
theorem am_okl10 : am_all 180 am_c180 480 am_lw10 = true := by decide +kernel
theorem am_okl11 : am_all 180 am_c180 528 am_lw11 = true := by decide +kernel
theorem am_okl12 : am_all 180 am_c180 576 am_lw12 = true := by decide +kernel
theorem am_okl13 : am_all 180 am_c180 624 am_lw13 = true := by decide +kernel
set_option maxRecDepth 1000000 in
theorem am_lw_eq : am_c180 = am_lw0 ++ (am_lw1 ++ (am_lw2 ++ (am_lw3 ++ (am_lw4 ++ (am_lw5 ++ (am_lw6 ++ (am_lw7 ++ (am_lw8 ++ (am_lw9 ++ (am_lw10 ++ (am_lw11 ++ (am_lw12 ++ (am_lw13))))))))))))) := by rfl
set_option maxRecDepth 1000000 in
theorem am_ok180 : am_all 180 am_c180 0 am_c180 = true := by
  have h : am_all 180 am_c180 0 (am_lw0 ++ (am_lw1 ++ (am_lw2 ++ (am_lw3 ++ (am_lw4 ++ (am_lw5 ++ (am_lw6 ++ (am_lw7 ++ (am_lw8 ++ (am_lw9 ++ (am_lw10 ++ (am_lw11 ++ (am_lw12 ++ (am_lw13)))))))))))))) = true := (am_all_app am_okl0 rfl (am_all_app am_okl1 rfl (am_all_app am_okl2 rfl (am_all_app am_okl3 rfl (am_all_app am_okl4 rfl (am_all_app am_okl5 rfl (am_all_app am_okl6 rfl (am_all_app am_okl7 rfl (am_all_app am_okl8 rfl (am_all_app am_okl9 rfl (am_all_app am_okl10 rfl (am_all_app am_okl11 rfl (am_all_app am_okl12 rfl am_okl13)))))))))))))
  rw [← am_lw_eq] at h
  exact h
end
section
/-! all rows, one theorem; the methods' own words (kernel) -/
set_option maxRecDepth 100000 in
theorem am_rows_ok : ∀ k c, am_nth am_code k = some c → am_all k c 0 c = true := by
  intro k c h
  match k, h with
  | 0, h => cases (show some am_c0 = some c from h); exact am_ok0
  | 1, h => cases (show some am_c1 = some c from h); exact am_ok1
  | 2, h => cases (show some am_c2 = some c from h); exact am_ok2
  | 3, h => cases (show some am_c3 = some c from h); exact am_ok3
  | 4, h => cases (show some am_c4 = some c from h); exact am_ok4
  | 5, h => cases (show some am_c5 = some c from h); exact am_ok5
  | 6, h => cases (show some am_c6 = some c from h); exact am_ok6
  | 7, h => cases (show some am_c7 = some c from h); exact am_ok7
  | 8, h => cases (show some am_c8 = some c from h); exact am_ok8
  | 9, h => cases (show some am_c9 = some c from h); exact am_ok9
  | 10, h => cases (show some am_c10 = some c from h); exact am_ok10
  | 11, h => cases (show some am_c11 = some c from h); exact am_ok11
  | 12, h => cases (show some am_c12 = some c from h); exact am_ok12
  | 13, h => cases (show some am_c13 = some c from h); exact am_ok13
  | 14, h => cases (show some am_c14 = some c from h); exact am_ok14
  | 15, h => cases (show some am_c15 = some c from h); exact am_ok15
  | 16, h => cases (show some am_c16 = some c from h); exact am_ok16
  | 17, h => cases (show some am_c17 = some c from h); exact am_ok17
  | 18, h => cases (show some am_c18 = some c from h); exact am_ok18
  | 19, h => cases (show some am_c19 = some c from h); exact am_ok19
  | 20, h => cases (show some am_c20 = some c from h); exact am_ok20
  | 21, h => cases (show some am_c21 = some c from h); exact am_ok21
  | 22, h => cases (show some am_c22 = some c from h); exact am_ok22
  | 23, h => cases (show some am_c23 = some c from h); exact am_ok23
  | 24, h => cases (show some am_c24 = some c from h); exact am_ok24
  | 25, h => cases (show some am_c25 = some c from h); exact am_ok25
  | 26, h => cases (show some am_c26 = some c from h); exact am_ok26
  | 27, h => cases (show some am_c27 = some c from h); exact am_ok27
  | 28, h => cases (show some am_c28 = some c from h); exact am_ok28
  | 29, h => cases (show some am_c29 = some c from h); exact am_ok29
  | 30, h => cases (show some am_c30 = some c from h); exact am_ok30
  | 31, h => cases (show some am_c31 = some c from h); exact am_ok31
  | 32, h => cases (show some am_c32 = some c from h); exact am_ok32
  | 33, h => cases (show some am_c33 = some c from h); exact am_ok33
  | 34, h => cases (show some am_c34 = some c from h); exact am_ok34
  | 35, h => cases (show some am_c35 = some c from h); exact am_ok35
  | 36, h => cases (show some am_c36 = some c from h); exact am_ok36
  | 37, h => cases (show some am_c37 = some c from h); exact am_ok37
  | 38, h => cases (show some am_c38 = some c from h); exact am_ok38
  | 39, h => cases (show some am_c39 = some c from h); exact am_ok39
  | 40, h => cases (show some am_c40 = some c from h); exact am_ok40
  | 41, h => cases (show some am_c41 = some c from h); exact am_ok41
  | 42, h => cases (show some am_c42 = some c from h); exact am_ok42
  | 43, h => cases (show some am_c43 = some c from h); exact am_ok43
  | 44, h => cases (show some am_c44 = some c from h); exact am_ok44
  | 45, h => cases (show some am_c45 = some c from h); exact am_ok45
  | 46, h => cases (show some am_c46 = some c from h); exact am_ok46
  | 47, h => cases (show some am_c47 = some c from h); exact am_ok47
  | 48, h => cases (show some am_c48 = some c from h); exact am_ok48
  | 49, h => cases (show some am_c49 = some c from h); exact am_ok49
  | 50, h => cases (show some am_c50 = some c from h); exact am_ok50
  | 51, h => cases (show some am_c51 = some c from h); exact am_ok51
  | 52, h => cases (show some am_c52 = some c from h); exact am_ok52
  | 53, h => cases (show some am_c53 = some c from h); exact am_ok53
  | 54, h => cases (show some am_c54 = some c from h); exact am_ok54
  | 55, h => cases (show some am_c55 = some c from h); exact am_ok55
  | 56, h => cases (show some am_c56 = some c from h); exact am_ok56
  | 57, h => cases (show some am_c57 = some c from h); exact am_ok57
  | 58, h => cases (show some am_c58 = some c from h); exact am_ok58
  | 59, h => cases (show some am_c59 = some c from h); exact am_ok59
  | 60, h => cases (show some am_c60 = some c from h); exact am_ok60
  | 61, h => cases (show some am_c61 = some c from h); exact am_ok61
  | 62, h => cases (show some am_c62 = some c from h); exact am_ok62
  | 63, h => cases (show some am_c63 = some c from h); exact am_ok63
  | 64, h => cases (show some am_c64 = some c from h); exact am_ok64
  | 65, h => cases (show some am_c65 = some c from h); exact am_ok65
  | 66, h => cases (show some am_c66 = some c from h); exact am_ok66
  | 67, h => cases (show some am_c67 = some c from h); exact am_ok67
  | 68, h => cases (show some am_c68 = some c from h); exact am_ok68
  | 69, h => cases (show some am_c69 = some c from h); exact am_ok69
  | 70, h => cases (show some am_c70 = some c from h); exact am_ok70
  | 71, h => cases (show some am_c71 = some c from h); exact am_ok71
  | 72, h => cases (show some am_c72 = some c from h); exact am_ok72
  | 73, h => cases (show some am_c73 = some c from h); exact am_ok73
  | 74, h => cases (show some am_c74 = some c from h); exact am_ok74
  | 75, h => cases (show some am_c75 = some c from h); exact am_ok75
  | 76, h => cases (show some am_c76 = some c from h); exact am_ok76
  | 77, h => cases (show some am_c77 = some c from h); exact am_ok77
  | 78, h => cases (show some am_c78 = some c from h); exact am_ok78
  | 79, h => cases (show some am_c79 = some c from h); exact am_ok79
  | 80, h => cases (show some am_c80 = some c from h); exact am_ok80
  | 81, h => cases (show some am_c81 = some c from h); exact am_ok81
  | 82, h => cases (show some am_c82 = some c from h); exact am_ok82
  | 83, h => cases (show some am_c83 = some c from h); exact am_ok83
  | 84, h => cases (show some am_c84 = some c from h); exact am_ok84
  | 85, h => cases (show some am_c85 = some c from h); exact am_ok85
  | 86, h => cases (show some am_c86 = some c from h); exact am_ok86
  | 87, h => cases (show some am_c87 = some c from h); exact am_ok87
  | 88, h => cases (show some am_c88 = some c from h); exact am_ok88
  | 89, h => cases (show some am_c89 = some c from h); exact am_ok89
  | 90, h => cases (show some am_c90 = some c from h); exact am_ok90
  | 91, h => cases (show some am_c91 = some c from h); exact am_ok91
  | 92, h => cases (show some am_c92 = some c from h); exact am_ok92
  | 93, h => cases (show some am_c93 = some c from h); exact am_ok93
  | 94, h => cases (show some am_c94 = some c from h); exact am_ok94
  | 95, h => cases (show some am_c95 = some c from h); exact am_ok95
  | 96, h => cases (show some am_c96 = some c from h); exact am_ok96
  | 97, h => cases (show some am_c97 = some c from h); exact am_ok97
  | 98, h => cases (show some am_c98 = some c from h); exact am_ok98
  | 99, h => cases (show some am_c99 = some c from h); exact am_ok99
  | 100, h => cases (show some am_c100 = some c from h); exact am_ok100
  | 101, h => cases (show some am_c101 = some c from h); exact am_ok101
  | 102, h => cases (show some am_c102 = some c from h); exact am_ok102
  | 103, h => cases (show some am_c103 = some c from h); exact am_ok103
  | 104, h => cases (show some am_c104 = some c from h); exact am_ok104
  | 105, h => cases (show some am_c105 = some c from h); exact am_ok105
  | 106, h => cases (show some am_c106 = some c from h); exact am_ok106
  | 107, h => cases (show some am_c107 = some c from h); exact am_ok107
  | 108, h => cases (show some am_c108 = some c from h); exact am_ok108
  | 109, h => cases (show some am_c109 = some c from h); exact am_ok109
  | 110, h => cases (show some am_c110 = some c from h); exact am_ok110
  | 111, h => cases (show some am_c111 = some c from h); exact am_ok111
  | 112, h => cases (show some am_c112 = some c from h); exact am_ok112
  | 113, h => cases (show some am_c113 = some c from h); exact am_ok113
  | 114, h => cases (show some am_c114 = some c from h); exact am_ok114
  | 115, h => cases (show some am_c115 = some c from h); exact am_ok115
  | 116, h => cases (show some am_c116 = some c from h); exact am_ok116
  | 117, h => cases (show some am_c117 = some c from h); exact am_ok117
  | 118, h => cases (show some am_c118 = some c from h); exact am_ok118
  | 119, h => cases (show some am_c119 = some c from h); exact am_ok119
  | 120, h => cases (show some am_c120 = some c from h); exact am_ok120
  | 121, h => cases (show some am_c121 = some c from h); exact am_ok121
  | 122, h => cases (show some am_c122 = some c from h); exact am_ok122
  | 123, h => cases (show some am_c123 = some c from h); exact am_ok123
  | 124, h => cases (show some am_c124 = some c from h); exact am_ok124
  | 125, h => cases (show some am_c125 = some c from h); exact am_ok125
  | 126, h => cases (show some am_c126 = some c from h); exact am_ok126
  | 127, h => cases (show some am_c127 = some c from h); exact am_ok127
  | 128, h => cases (show some am_c128 = some c from h); exact am_ok128
  | 129, h => cases (show some am_c129 = some c from h); exact am_ok129
  | 130, h => cases (show some am_c130 = some c from h); exact am_ok130
  | 131, h => cases (show some am_c131 = some c from h); exact am_ok131
  | 132, h => cases (show some am_c132 = some c from h); exact am_ok132
  | 133, h => cases (show some am_c133 = some c from h); exact am_ok133
  | 134, h => cases (show some am_c134 = some c from h); exact am_ok134
  | 135, h => cases (show some am_c135 = some c from h); exact am_ok135
  | 136, h => cases (show some am_c136 = some c from h); exact am_ok136
  | 137, h => cases (show some am_c137 = some c from h); exact am_ok137
  | 138, h => cases (show some am_c138 = some c from h); exact am_ok138
  | 139, h => cases (show some am_c139 = some c from h); exact am_ok139
  | 140, h => cases (show some am_c140 = some c from h); exact am_ok140
  | 141, h => cases (show some am_c141 = some c from h); exact am_ok141
  | 142, h => cases (show some am_c142 = some c from h); exact am_ok142
  | 143, h => cases (show some am_c143 = some c from h); exact am_ok143
  | 144, h => cases (show some am_c144 = some c from h); exact am_ok144
  | 145, h => cases (show some am_c145 = some c from h); exact am_ok145
  | 146, h => cases (show some am_c146 = some c from h); exact am_ok146
  | 147, h => cases (show some am_c147 = some c from h); exact am_ok147
  | 148, h => cases (show some am_c148 = some c from h); exact am_ok148
  | 149, h => cases (show some am_c149 = some c from h); exact am_ok149
  | 150, h => cases (show some am_c150 = some c from h); exact am_ok150
  | 151, h => cases (show some am_c151 = some c from h); exact am_ok151
  | 152, h => cases (show some am_c152 = some c from h); exact am_ok152
  | 153, h => cases (show some am_c153 = some c from h); exact am_ok153
  | 154, h => cases (show some am_c154 = some c from h); exact am_ok154
  | 155, h => cases (show some am_c155 = some c from h); exact am_ok155
  | 156, h => cases (show some am_c156 = some c from h); exact am_ok156
  | 157, h => cases (show some am_c157 = some c from h); exact am_ok157
  | 158, h => cases (show some am_c158 = some c from h); exact am_ok158
  | 159, h => cases (show some am_c159 = some c from h); exact am_ok159
  | 160, h => cases (show some am_c160 = some c from h); exact am_ok160
  | 161, h => cases (show some am_c161 = some c from h); exact am_ok161
  | 162, h => cases (show some am_c162 = some c from h); exact am_ok162
  | 163, h => cases (show some am_c163 = some c from h); exact am_ok163
  | 164, h => cases (show some am_c164 = some c from h); exact am_ok164
  | 165, h => cases (show some am_c165 = some c from h); exact am_ok165
  | 166, h => cases (show some am_c166 = some c from h); exact am_ok166
  | 167, h => cases (show some am_c167 = some c from h); exact am_ok167
  | 168, h => cases (show some am_c168 = some c from h); exact am_ok168
  | 169, h => cases (show some am_c169 = some c from h); exact am_ok169
  | 170, h => cases (show some am_c170 = some c from h); exact am_ok170
  | 171, h => cases (show some am_c171 = some c from h); exact am_ok171
  | 172, h => cases (show some am_c172 = some c from h); exact am_ok172
  | 173, h => cases (show some am_c173 = some c from h); exact am_ok173
  | 174, h => cases (show some am_c174 = some c from h); exact am_ok174
  | 175, h => cases (show some am_c175 = some c from h); exact am_ok175
  | 176, h => cases (show some am_c176 = some c from h); exact am_ok176
  | 177, h => cases (show some am_c177 = some c from h); exact am_ok177
  | 178, h => cases (show some am_c178 = some c from h); exact am_ok178
  | 179, h => cases (show some am_c179 = some c from h); exact am_ok179
  | 180, h => cases (show some am_c180 = some c from h); exact am_ok180
  | k + 181, h => cases (show (none : Option (List am_Row)) = some c from h)
theorem am_all_at {k : Nat} {c : List am_Row} : ∀ {l : List am_Row} {i0 i : Nat} {r : am_Row}, am_all k c i0 l = true → am_nth l i = some r → am_rowOK k c (i0 + i) r = true
  | [], _, _, _, _, h => by cases h
  | _ :: _, _, 0, _, h, h2 => by
    cases h2
    exact (Bool.and_eq_true _ _ ▸ h).1
  | _ :: _, i0, i + 1, _, h, h2 => by
    have h3 := am_all_at (Bool.and_eq_true _ _ ▸ h).2 (show am_nth _ i = some _ from h2)
    rwa [show i0 + 1 + i = i0 + (i + 1) by omega] at h3
/-- what the kernel checked of a row -/
theorem am_row_at {k ip : Nat} {r : am_Row} (h : am_row k ip = some r) : ∃ c, am_nth am_code k = some c ∧ am_nth c ip = some r ∧ am_rowOK k c ip r = true := by
  unfold am_row at h
  cases hc : am_nth am_code k with
  | none => rw [hc] at h; cases h
  | some c =>
    rw [hc] at h
    refine ⟨c, rfl, h, ?_⟩
    have h2 := am_all_at (am_rows_ok k c hc) h
    rwa [Nat.zero_add] at h2
theorem am_pcl_eq {k : Nat} {c : List am_Row} (h : am_nth am_code k = some c) (i : Nat) : am_pcl c i = am_pc k i := by
  unfold am_pcl am_pc am_row
  simp only [h]
  cases am_nth c i <;> rfl
theorem am_mem {α : Type} : ∀ {l : List α} {i : Nat} {w : α}, am_nth l i = some w → w ∈ l
  | [], _, _, h => by cases h
  | _ :: _, 0, _, h => by cases h; exact List.mem_cons_self
  | _ :: l, i + 1, _, h => List.mem_cons_of_mem _ (am_mem (show am_nth l i = some _ from h))
/-- the words that every method's contract stands on -/
def am_good : List Jvm.Cond := lw_tbl.filter goodWord
theorem am_good_of {i : Nat} {w : Jvm.Cond} (h : am_nth lw_tbl i = some w) (hg : goodWord w = true) : w ∈ am_good := List.mem_filter.mpr ⟨am_mem h, hg⟩
theorem am_good_in : GoodIn am_good am_good := fun w h => ⟨h, good_of_word (List.mem_filter.mp h).2⟩
def am_mOK (k : Nat) : Bool :=
  decide (plainName (am_y k).cls = true) && (decide ((am_y k).cls = am_cn (am_own k)) && (decide (am_own k < 7 ∧ (am_st k = false → am_own k < 6))
  && (decide ((parseMethodDescriptor (am_y k).desc).map (fun d => d.parameters.length) = some (am_na k))
  && (decide ((am_y k).cls ≠ "java/lang/invoke/MethodHandle" ∧ (am_y k).cls ≠ "java/lang/invoke/VarHandle")
  && (match am_nth am_mpl k with
    | some (_, p2, p3) => decide (am_nth lw_tbl p2 = some (if am_st k = true then Jvm.Cond.static (am_y k) else Jvm.Cond.instanceMethod (am_y k)))
        && ((am_st k || am_in k) || decide (am_nth lw_tbl p3 = some (Jvm.Cond.selects (am_y k).cls (am_y k) (am_y k))))
    | none => false)
  && (decide (am_in k = true → (am_y k).name = "<init>") && true)))))
def am_upto (f : Nat → Bool) : Nat → Bool
  | 0 => true
  | n + 1 => f n && am_upto f n
theorem am_upto_at {f : Nat → Bool} : ∀ {n k : Nat}, am_upto f n = true → k < n → f k = true
  | 0, _, _, h => absurd h (Nat.not_lt_zero _)
  | n + 1, k, h, hk => by
    have h2 := Bool.and_eq_true _ _ ▸ h
    rcases Nat.lt_or_ge k n with q | q
    · exact am_upto_at h2.2 q
    · rw [show k = n by omega]; exact h2.1
theorem am_ms_ok : am_upto am_mOK 180 = true := by decide +kernel
theorem am_init_ok : ∀ ci, ci < 7 → am_nth lw_tbl ((am_nth am_ipl ci).getD 0) = some (Jvm.Cond.initialized (am_cn ci)) := by decide +kernel
def am_codeW (k : Nat) : Jvm.Cond := Jvm.Cond.code (am_y k) (am_b k) (am_L k) (am_ret k)
def am_pcd (k : Nat) : Nat := match am_nth am_mpl k with | some p => p.1 | none => 0
set_option maxRecDepth 1000000 in
theorem am_cd0 : am_nth lw_tbl (am_pcd 0) = some (am_codeW 0) := by rfl
set_option maxRecDepth 1000000 in
theorem am_cd1 : am_nth lw_tbl (am_pcd 1) = some (am_codeW 1) := by rfl
set_option maxRecDepth 1000000 in
theorem am_cd2 : am_nth lw_tbl (am_pcd 2) = some (am_codeW 2) := by rfl
set_option maxRecDepth 1000000 in
theorem am_cd3 : am_nth lw_tbl (am_pcd 3) = some (am_codeW 3) := by rfl
set_option maxRecDepth 1000000 in
theorem am_cd4 : am_nth lw_tbl (am_pcd 4) = some (am_codeW 4) := by rfl
set_option maxRecDepth 1000000 in
theorem am_cd5 : am_nth lw_tbl (am_pcd 5) = some (am_codeW 5) := by rfl
set_option maxRecDepth 1000000 in
theorem am_cd6 : am_nth lw_tbl (am_pcd 6) = some (am_codeW 6) := by rfl
set_option maxRecDepth 1000000 in
theorem am_cd7 : am_nth lw_tbl (am_pcd 7) = some (am_codeW 7) := by rfl
set_option maxRecDepth 1000000 in
theorem am_cd8 : am_nth lw_tbl (am_pcd 8) = some (am_codeW 8) := by rfl
set_option maxRecDepth 1000000 in
theorem am_cd9 : am_nth lw_tbl (am_pcd 9) = some (am_codeW 9) := by rfl
set_option maxRecDepth 1000000 in
theorem am_cd10 : am_nth lw_tbl (am_pcd 10) = some (am_codeW 10) := by rfl
set_option maxRecDepth 1000000 in
theorem am_cd11 : am_nth lw_tbl (am_pcd 11) = some (am_codeW 11) := by rfl
set_option maxRecDepth 1000000 in
theorem am_cd12 : am_nth lw_tbl (am_pcd 12) = some (am_codeW 12) := by rfl
set_option maxRecDepth 1000000 in
theorem am_cd13 : am_nth lw_tbl (am_pcd 13) = some (am_codeW 13) := by rfl
set_option maxRecDepth 1000000 in
theorem am_cd14 : am_nth lw_tbl (am_pcd 14) = some (am_codeW 14) := by rfl
set_option maxRecDepth 1000000 in
theorem am_cd15 : am_nth lw_tbl (am_pcd 15) = some (am_codeW 15) := by rfl
set_option maxRecDepth 1000000 in
theorem am_cd16 : am_nth lw_tbl (am_pcd 16) = some (am_codeW 16) := by rfl
set_option maxRecDepth 1000000 in
theorem am_cd17 : am_nth lw_tbl (am_pcd 17) = some (am_codeW 17) := by rfl
set_option maxRecDepth 1000000 in
theorem am_cd18 : am_nth lw_tbl (am_pcd 18) = some (am_codeW 18) := by rfl
set_option maxRecDepth 1000000 in
theorem am_cd19 : am_nth lw_tbl (am_pcd 19) = some (am_codeW 19) := by rfl
set_option maxRecDepth 1000000 in
theorem am_cd20 : am_nth lw_tbl (am_pcd 20) = some (am_codeW 20) := by rfl
set_option maxRecDepth 1000000 in
theorem am_cd21 : am_nth lw_tbl (am_pcd 21) = some (am_codeW 21) := by rfl
set_option maxRecDepth 1000000 in
theorem am_cd22 : am_nth lw_tbl (am_pcd 22) = some (am_codeW 22) := by rfl
set_option maxRecDepth 1000000 in
theorem am_cd23 : am_nth lw_tbl (am_pcd 23) = some (am_codeW 23) := by rfl
set_option maxRecDepth 1000000 in
theorem am_cd24 : am_nth lw_tbl (am_pcd 24) = some (am_codeW 24) := by rfl
set_option maxRecDepth 1000000 in
theorem am_cd25 : am_nth lw_tbl (am_pcd 25) = some (am_codeW 25) := by rfl
set_option maxRecDepth 1000000 in
theorem am_cd26 : am_nth lw_tbl (am_pcd 26) = some (am_codeW 26) := by rfl
set_option maxRecDepth 1000000 in
theorem am_cd27 : am_nth lw_tbl (am_pcd 27) = some (am_codeW 27) := by rfl
set_option maxRecDepth 1000000 in
theorem am_cd28 : am_nth lw_tbl (am_pcd 28) = some (am_codeW 28) := by rfl
set_option maxRecDepth 1000000 in
theorem am_cd29 : am_nth lw_tbl (am_pcd 29) = some (am_codeW 29) := by rfl
set_option maxRecDepth 1000000 in
theorem am_cd30 : am_nth lw_tbl (am_pcd 30) = some (am_codeW 30) := by rfl
set_option maxRecDepth 1000000 in
theorem am_cd31 : am_nth lw_tbl (am_pcd 31) = some (am_codeW 31) := by rfl
set_option maxRecDepth 1000000 in
theorem am_cd32 : am_nth lw_tbl (am_pcd 32) = some (am_codeW 32) := by rfl
set_option maxRecDepth 1000000 in
theorem am_cd33 : am_nth lw_tbl (am_pcd 33) = some (am_codeW 33) := by rfl
set_option maxRecDepth 1000000 in
theorem am_cd34 : am_nth lw_tbl (am_pcd 34) = some (am_codeW 34) := by rfl
set_option maxRecDepth 1000000 in
theorem am_cd35 : am_nth lw_tbl (am_pcd 35) = some (am_codeW 35) := by rfl
set_option maxRecDepth 1000000 in
theorem am_cd36 : am_nth lw_tbl (am_pcd 36) = some (am_codeW 36) := by rfl
set_option maxRecDepth 1000000 in
theorem am_cd37 : am_nth lw_tbl (am_pcd 37) = some (am_codeW 37) := by rfl
set_option maxRecDepth 1000000 in
theorem am_cd38 : am_nth lw_tbl (am_pcd 38) = some (am_codeW 38) := by rfl
set_option maxRecDepth 1000000 in
theorem am_cd39 : am_nth lw_tbl (am_pcd 39) = some (am_codeW 39) := by rfl
set_option maxRecDepth 1000000 in
theorem am_cd40 : am_nth lw_tbl (am_pcd 40) = some (am_codeW 40) := by rfl
set_option maxRecDepth 1000000 in
theorem am_cd41 : am_nth lw_tbl (am_pcd 41) = some (am_codeW 41) := by rfl
set_option maxRecDepth 1000000 in
theorem am_cd42 : am_nth lw_tbl (am_pcd 42) = some (am_codeW 42) := by rfl
set_option maxRecDepth 1000000 in
theorem am_cd43 : am_nth lw_tbl (am_pcd 43) = some (am_codeW 43) := by rfl
set_option maxRecDepth 1000000 in
theorem am_cd44 : am_nth lw_tbl (am_pcd 44) = some (am_codeW 44) := by rfl
set_option maxRecDepth 1000000 in
theorem am_cd45 : am_nth lw_tbl (am_pcd 45) = some (am_codeW 45) := by rfl
set_option maxRecDepth 1000000 in
theorem am_cd46 : am_nth lw_tbl (am_pcd 46) = some (am_codeW 46) := by rfl
set_option maxRecDepth 1000000 in
theorem am_cd47 : am_nth lw_tbl (am_pcd 47) = some (am_codeW 47) := by rfl
set_option maxRecDepth 1000000 in
theorem am_cd48 : am_nth lw_tbl (am_pcd 48) = some (am_codeW 48) := by rfl
set_option maxRecDepth 1000000 in
theorem am_cd49 : am_nth lw_tbl (am_pcd 49) = some (am_codeW 49) := by rfl
set_option maxRecDepth 1000000 in
theorem am_cd50 : am_nth lw_tbl (am_pcd 50) = some (am_codeW 50) := by rfl
set_option maxRecDepth 1000000 in
theorem am_cd51 : am_nth lw_tbl (am_pcd 51) = some (am_codeW 51) := by rfl
set_option maxRecDepth 1000000 in
theorem am_cd52 : am_nth lw_tbl (am_pcd 52) = some (am_codeW 52) := by rfl
set_option maxRecDepth 1000000 in
theorem am_cd53 : am_nth lw_tbl (am_pcd 53) = some (am_codeW 53) := by rfl
set_option maxRecDepth 1000000 in
theorem am_cd54 : am_nth lw_tbl (am_pcd 54) = some (am_codeW 54) := by rfl
set_option maxRecDepth 1000000 in
theorem am_cd55 : am_nth lw_tbl (am_pcd 55) = some (am_codeW 55) := by rfl
set_option maxRecDepth 1000000 in
theorem am_cd56 : am_nth lw_tbl (am_pcd 56) = some (am_codeW 56) := by rfl
set_option maxRecDepth 1000000 in
theorem am_cd57 : am_nth lw_tbl (am_pcd 57) = some (am_codeW 57) := by rfl
set_option maxRecDepth 1000000 in
theorem am_cd58 : am_nth lw_tbl (am_pcd 58) = some (am_codeW 58) := by rfl
set_option maxRecDepth 1000000 in
theorem am_cd59 : am_nth lw_tbl (am_pcd 59) = some (am_codeW 59) := by rfl
set_option maxRecDepth 1000000 in
theorem am_cd60 : am_nth lw_tbl (am_pcd 60) = some (am_codeW 60) := by rfl
set_option maxRecDepth 1000000 in
theorem am_cd61 : am_nth lw_tbl (am_pcd 61) = some (am_codeW 61) := by rfl
set_option maxRecDepth 1000000 in
theorem am_cd62 : am_nth lw_tbl (am_pcd 62) = some (am_codeW 62) := by rfl
set_option maxRecDepth 1000000 in
theorem am_cd63 : am_nth lw_tbl (am_pcd 63) = some (am_codeW 63) := by rfl
set_option maxRecDepth 1000000 in
theorem am_cd64 : am_nth lw_tbl (am_pcd 64) = some (am_codeW 64) := by rfl
set_option maxRecDepth 1000000 in
theorem am_cd65 : am_nth lw_tbl (am_pcd 65) = some (am_codeW 65) := by rfl
set_option maxRecDepth 1000000 in
theorem am_cd66 : am_nth lw_tbl (am_pcd 66) = some (am_codeW 66) := by rfl
set_option maxRecDepth 1000000 in
theorem am_cd67 : am_nth lw_tbl (am_pcd 67) = some (am_codeW 67) := by rfl
set_option maxRecDepth 1000000 in
theorem am_cd68 : am_nth lw_tbl (am_pcd 68) = some (am_codeW 68) := by rfl
set_option maxRecDepth 1000000 in
theorem am_cd69 : am_nth lw_tbl (am_pcd 69) = some (am_codeW 69) := by rfl
set_option maxRecDepth 1000000 in
theorem am_cd70 : am_nth lw_tbl (am_pcd 70) = some (am_codeW 70) := by rfl
set_option maxRecDepth 1000000 in
theorem am_cd71 : am_nth lw_tbl (am_pcd 71) = some (am_codeW 71) := by rfl
set_option maxRecDepth 1000000 in
theorem am_cd72 : am_nth lw_tbl (am_pcd 72) = some (am_codeW 72) := by rfl
set_option maxRecDepth 1000000 in
theorem am_cd73 : am_nth lw_tbl (am_pcd 73) = some (am_codeW 73) := by rfl
set_option maxRecDepth 1000000 in
theorem am_cd74 : am_nth lw_tbl (am_pcd 74) = some (am_codeW 74) := by rfl
set_option maxRecDepth 1000000 in
theorem am_cd75 : am_nth lw_tbl (am_pcd 75) = some (am_codeW 75) := by rfl
set_option maxRecDepth 1000000 in
theorem am_cd76 : am_nth lw_tbl (am_pcd 76) = some (am_codeW 76) := by rfl
set_option maxRecDepth 1000000 in
theorem am_cd77 : am_nth lw_tbl (am_pcd 77) = some (am_codeW 77) := by rfl
set_option maxRecDepth 1000000 in
theorem am_cd78 : am_nth lw_tbl (am_pcd 78) = some (am_codeW 78) := by rfl
set_option maxRecDepth 1000000 in
theorem am_cd79 : am_nth lw_tbl (am_pcd 79) = some (am_codeW 79) := by rfl
set_option maxRecDepth 1000000 in
theorem am_cd80 : am_nth lw_tbl (am_pcd 80) = some (am_codeW 80) := by rfl
set_option maxRecDepth 1000000 in
theorem am_cd81 : am_nth lw_tbl (am_pcd 81) = some (am_codeW 81) := by rfl
set_option maxRecDepth 1000000 in
theorem am_cd82 : am_nth lw_tbl (am_pcd 82) = some (am_codeW 82) := by rfl
set_option maxRecDepth 1000000 in
theorem am_cd83 : am_nth lw_tbl (am_pcd 83) = some (am_codeW 83) := by rfl
set_option maxRecDepth 1000000 in
theorem am_cd84 : am_nth lw_tbl (am_pcd 84) = some (am_codeW 84) := by rfl
set_option maxRecDepth 1000000 in
theorem am_cd85 : am_nth lw_tbl (am_pcd 85) = some (am_codeW 85) := by rfl
set_option maxRecDepth 1000000 in
theorem am_cd86 : am_nth lw_tbl (am_pcd 86) = some (am_codeW 86) := by rfl
set_option maxRecDepth 1000000 in
theorem am_cd87 : am_nth lw_tbl (am_pcd 87) = some (am_codeW 87) := by rfl
set_option maxRecDepth 1000000 in
theorem am_cd88 : am_nth lw_tbl (am_pcd 88) = some (am_codeW 88) := by rfl
set_option maxRecDepth 1000000 in
theorem am_cd89 : am_nth lw_tbl (am_pcd 89) = some (am_codeW 89) := by rfl
set_option maxRecDepth 1000000 in
theorem am_cd90 : am_nth lw_tbl (am_pcd 90) = some (am_codeW 90) := by rfl
set_option maxRecDepth 1000000 in
theorem am_cd91 : am_nth lw_tbl (am_pcd 91) = some (am_codeW 91) := by rfl
set_option maxRecDepth 1000000 in
theorem am_cd92 : am_nth lw_tbl (am_pcd 92) = some (am_codeW 92) := by rfl
set_option maxRecDepth 1000000 in
theorem am_cd93 : am_nth lw_tbl (am_pcd 93) = some (am_codeW 93) := by rfl
set_option maxRecDepth 1000000 in
theorem am_cd94 : am_nth lw_tbl (am_pcd 94) = some (am_codeW 94) := by rfl
set_option maxRecDepth 1000000 in
theorem am_cd95 : am_nth lw_tbl (am_pcd 95) = some (am_codeW 95) := by rfl
set_option maxRecDepth 1000000 in
theorem am_cd96 : am_nth lw_tbl (am_pcd 96) = some (am_codeW 96) := by rfl
set_option maxRecDepth 1000000 in
theorem am_cd97 : am_nth lw_tbl (am_pcd 97) = some (am_codeW 97) := by rfl
set_option maxRecDepth 1000000 in
theorem am_cd98 : am_nth lw_tbl (am_pcd 98) = some (am_codeW 98) := by rfl
set_option maxRecDepth 1000000 in
theorem am_cd99 : am_nth lw_tbl (am_pcd 99) = some (am_codeW 99) := by rfl
set_option maxRecDepth 1000000 in
theorem am_cd100 : am_nth lw_tbl (am_pcd 100) = some (am_codeW 100) := by rfl
set_option maxRecDepth 1000000 in
theorem am_cd101 : am_nth lw_tbl (am_pcd 101) = some (am_codeW 101) := by rfl
set_option maxRecDepth 1000000 in
theorem am_cd102 : am_nth lw_tbl (am_pcd 102) = some (am_codeW 102) := by rfl
set_option maxRecDepth 1000000 in
theorem am_cd103 : am_nth lw_tbl (am_pcd 103) = some (am_codeW 103) := by rfl
set_option maxRecDepth 1000000 in
theorem am_cd104 : am_nth lw_tbl (am_pcd 104) = some (am_codeW 104) := by rfl
set_option maxRecDepth 1000000 in
theorem am_cd105 : am_nth lw_tbl (am_pcd 105) = some (am_codeW 105) := by rfl
set_option maxRecDepth 1000000 in
theorem am_cd106 : am_nth lw_tbl (am_pcd 106) = some (am_codeW 106) := by rfl
set_option maxRecDepth 1000000 in
theorem am_cd107 : am_nth lw_tbl (am_pcd 107) = some (am_codeW 107) := by rfl
set_option maxRecDepth 1000000 in
theorem am_cd108 : am_nth lw_tbl (am_pcd 108) = some (am_codeW 108) := by rfl
set_option maxRecDepth 1000000 in
theorem am_cd109 : am_nth lw_tbl (am_pcd 109) = some (am_codeW 109) := by rfl
set_option maxRecDepth 1000000 in
theorem am_cd110 : am_nth lw_tbl (am_pcd 110) = some (am_codeW 110) := by rfl
set_option maxRecDepth 1000000 in
theorem am_cd111 : am_nth lw_tbl (am_pcd 111) = some (am_codeW 111) := by rfl
set_option maxRecDepth 1000000 in
theorem am_cd112 : am_nth lw_tbl (am_pcd 112) = some (am_codeW 112) := by rfl
set_option maxRecDepth 1000000 in
theorem am_cd113 : am_nth lw_tbl (am_pcd 113) = some (am_codeW 113) := by rfl
set_option maxRecDepth 1000000 in
theorem am_cd114 : am_nth lw_tbl (am_pcd 114) = some (am_codeW 114) := by rfl
set_option maxRecDepth 1000000 in
theorem am_cd115 : am_nth lw_tbl (am_pcd 115) = some (am_codeW 115) := by rfl
set_option maxRecDepth 1000000 in
theorem am_cd116 : am_nth lw_tbl (am_pcd 116) = some (am_codeW 116) := by rfl
set_option maxRecDepth 1000000 in
theorem am_cd117 : am_nth lw_tbl (am_pcd 117) = some (am_codeW 117) := by rfl
set_option maxRecDepth 1000000 in
theorem am_cd118 : am_nth lw_tbl (am_pcd 118) = some (am_codeW 118) := by rfl
set_option maxRecDepth 1000000 in
theorem am_cd119 : am_nth lw_tbl (am_pcd 119) = some (am_codeW 119) := by rfl
set_option maxRecDepth 1000000 in
theorem am_cd120 : am_nth lw_tbl (am_pcd 120) = some (am_codeW 120) := by rfl
set_option maxRecDepth 1000000 in
theorem am_cd121 : am_nth lw_tbl (am_pcd 121) = some (am_codeW 121) := by rfl
set_option maxRecDepth 1000000 in
theorem am_cd122 : am_nth lw_tbl (am_pcd 122) = some (am_codeW 122) := by rfl
set_option maxRecDepth 1000000 in
theorem am_cd123 : am_nth lw_tbl (am_pcd 123) = some (am_codeW 123) := by rfl
set_option maxRecDepth 1000000 in
theorem am_cd124 : am_nth lw_tbl (am_pcd 124) = some (am_codeW 124) := by rfl
set_option maxRecDepth 1000000 in
theorem am_cd125 : am_nth lw_tbl (am_pcd 125) = some (am_codeW 125) := by rfl
set_option maxRecDepth 1000000 in
theorem am_cd126 : am_nth lw_tbl (am_pcd 126) = some (am_codeW 126) := by rfl
set_option maxRecDepth 1000000 in
theorem am_cd127 : am_nth lw_tbl (am_pcd 127) = some (am_codeW 127) := by rfl
set_option maxRecDepth 1000000 in
theorem am_cd128 : am_nth lw_tbl (am_pcd 128) = some (am_codeW 128) := by rfl
set_option maxRecDepth 1000000 in
theorem am_cd129 : am_nth lw_tbl (am_pcd 129) = some (am_codeW 129) := by rfl
set_option maxRecDepth 1000000 in
theorem am_cd130 : am_nth lw_tbl (am_pcd 130) = some (am_codeW 130) := by rfl
set_option maxRecDepth 1000000 in
theorem am_cd131 : am_nth lw_tbl (am_pcd 131) = some (am_codeW 131) := by rfl
set_option maxRecDepth 1000000 in
theorem am_cd132 : am_nth lw_tbl (am_pcd 132) = some (am_codeW 132) := by rfl
set_option maxRecDepth 1000000 in
theorem am_cd133 : am_nth lw_tbl (am_pcd 133) = some (am_codeW 133) := by rfl
set_option maxRecDepth 1000000 in
theorem am_cd134 : am_nth lw_tbl (am_pcd 134) = some (am_codeW 134) := by rfl
set_option maxRecDepth 1000000 in
theorem am_cd135 : am_nth lw_tbl (am_pcd 135) = some (am_codeW 135) := by rfl
set_option maxRecDepth 1000000 in
theorem am_cd136 : am_nth lw_tbl (am_pcd 136) = some (am_codeW 136) := by rfl
set_option maxRecDepth 1000000 in
theorem am_cd137 : am_nth lw_tbl (am_pcd 137) = some (am_codeW 137) := by rfl
set_option maxRecDepth 1000000 in
theorem am_cd138 : am_nth lw_tbl (am_pcd 138) = some (am_codeW 138) := by rfl
set_option maxRecDepth 1000000 in
theorem am_cd139 : am_nth lw_tbl (am_pcd 139) = some (am_codeW 139) := by rfl
set_option maxRecDepth 1000000 in
theorem am_cd140 : am_nth lw_tbl (am_pcd 140) = some (am_codeW 140) := by rfl
set_option maxRecDepth 1000000 in
theorem am_cd141 : am_nth lw_tbl (am_pcd 141) = some (am_codeW 141) := by rfl
set_option maxRecDepth 1000000 in
theorem am_cd142 : am_nth lw_tbl (am_pcd 142) = some (am_codeW 142) := by rfl
set_option maxRecDepth 1000000 in
theorem am_cd143 : am_nth lw_tbl (am_pcd 143) = some (am_codeW 143) := by rfl
set_option maxRecDepth 1000000 in
theorem am_cd144 : am_nth lw_tbl (am_pcd 144) = some (am_codeW 144) := by rfl
set_option maxRecDepth 1000000 in
theorem am_cd145 : am_nth lw_tbl (am_pcd 145) = some (am_codeW 145) := by rfl
set_option maxRecDepth 1000000 in
theorem am_cd146 : am_nth lw_tbl (am_pcd 146) = some (am_codeW 146) := by rfl
set_option maxRecDepth 1000000 in
theorem am_cd147 : am_nth lw_tbl (am_pcd 147) = some (am_codeW 147) := by rfl
set_option maxRecDepth 1000000 in
theorem am_cd148 : am_nth lw_tbl (am_pcd 148) = some (am_codeW 148) := by rfl
set_option maxRecDepth 1000000 in
theorem am_cd149 : am_nth lw_tbl (am_pcd 149) = some (am_codeW 149) := by rfl
set_option maxRecDepth 1000000 in
theorem am_cd150 : am_nth lw_tbl (am_pcd 150) = some (am_codeW 150) := by rfl
set_option maxRecDepth 1000000 in
theorem am_cd151 : am_nth lw_tbl (am_pcd 151) = some (am_codeW 151) := by rfl
set_option maxRecDepth 1000000 in
theorem am_cd152 : am_nth lw_tbl (am_pcd 152) = some (am_codeW 152) := by rfl
set_option maxRecDepth 1000000 in
theorem am_cd153 : am_nth lw_tbl (am_pcd 153) = some (am_codeW 153) := by rfl
set_option maxRecDepth 1000000 in
theorem am_cd154 : am_nth lw_tbl (am_pcd 154) = some (am_codeW 154) := by rfl
set_option maxRecDepth 1000000 in
theorem am_cd155 : am_nth lw_tbl (am_pcd 155) = some (am_codeW 155) := by rfl
set_option maxRecDepth 1000000 in
theorem am_cd156 : am_nth lw_tbl (am_pcd 156) = some (am_codeW 156) := by rfl
set_option maxRecDepth 1000000 in
theorem am_cd157 : am_nth lw_tbl (am_pcd 157) = some (am_codeW 157) := by rfl
set_option maxRecDepth 1000000 in
theorem am_cd158 : am_nth lw_tbl (am_pcd 158) = some (am_codeW 158) := by rfl
set_option maxRecDepth 1000000 in
theorem am_cd159 : am_nth lw_tbl (am_pcd 159) = some (am_codeW 159) := by rfl
set_option maxRecDepth 1000000 in
theorem am_cd160 : am_nth lw_tbl (am_pcd 160) = some (am_codeW 160) := by rfl
set_option maxRecDepth 1000000 in
theorem am_cd161 : am_nth lw_tbl (am_pcd 161) = some (am_codeW 161) := by rfl
set_option maxRecDepth 1000000 in
theorem am_cd162 : am_nth lw_tbl (am_pcd 162) = some (am_codeW 162) := by rfl
set_option maxRecDepth 1000000 in
theorem am_cd163 : am_nth lw_tbl (am_pcd 163) = some (am_codeW 163) := by rfl
set_option maxRecDepth 1000000 in
theorem am_cd164 : am_nth lw_tbl (am_pcd 164) = some (am_codeW 164) := by rfl
set_option maxRecDepth 1000000 in
theorem am_cd165 : am_nth lw_tbl (am_pcd 165) = some (am_codeW 165) := by rfl
set_option maxRecDepth 1000000 in
theorem am_cd166 : am_nth lw_tbl (am_pcd 166) = some (am_codeW 166) := by rfl
set_option maxRecDepth 1000000 in
theorem am_cd167 : am_nth lw_tbl (am_pcd 167) = some (am_codeW 167) := by rfl
set_option maxRecDepth 1000000 in
theorem am_cd168 : am_nth lw_tbl (am_pcd 168) = some (am_codeW 168) := by rfl
set_option maxRecDepth 1000000 in
theorem am_cd169 : am_nth lw_tbl (am_pcd 169) = some (am_codeW 169) := by rfl
set_option maxRecDepth 1000000 in
theorem am_cd170 : am_nth lw_tbl (am_pcd 170) = some (am_codeW 170) := by rfl
set_option maxRecDepth 1000000 in
theorem am_cd171 : am_nth lw_tbl (am_pcd 171) = some (am_codeW 171) := by rfl
set_option maxRecDepth 1000000 in
theorem am_cd172 : am_nth lw_tbl (am_pcd 172) = some (am_codeW 172) := by rfl
set_option maxRecDepth 1000000 in
theorem am_cd173 : am_nth lw_tbl (am_pcd 173) = some (am_codeW 173) := by rfl
set_option maxRecDepth 1000000 in
theorem am_cd174 : am_nth lw_tbl (am_pcd 174) = some (am_codeW 174) := by rfl
set_option maxRecDepth 1000000 in
theorem am_cd175 : am_nth lw_tbl (am_pcd 175) = some (am_codeW 175) := by rfl
set_option maxRecDepth 1000000 in
theorem am_cd176 : am_nth lw_tbl (am_pcd 176) = some (am_codeW 176) := by rfl
set_option maxRecDepth 1000000 in
theorem am_cd177 : am_nth lw_tbl (am_pcd 177) = some (am_codeW 177) := by rfl
set_option maxRecDepth 1000000 in
theorem am_cd178 : am_nth lw_tbl (am_pcd 178) = some (am_codeW 178) := by rfl
set_option maxRecDepth 1000000 in
theorem am_cd179 : am_nth lw_tbl (am_pcd 179) = some (am_codeW 179) := by rfl
theorem am_code_ok : ∀ k, k < 180 → am_nth lw_tbl (am_pcd k) = some (am_codeW k) := by
  intro k hk
  match k, hk with
  | 0, _ => exact am_cd0
  | 1, _ => exact am_cd1
  | 2, _ => exact am_cd2
  | 3, _ => exact am_cd3
  | 4, _ => exact am_cd4
  | 5, _ => exact am_cd5
  | 6, _ => exact am_cd6
  | 7, _ => exact am_cd7
  | 8, _ => exact am_cd8
  | 9, _ => exact am_cd9
  | 10, _ => exact am_cd10
  | 11, _ => exact am_cd11
  | 12, _ => exact am_cd12
  | 13, _ => exact am_cd13
  | 14, _ => exact am_cd14
  | 15, _ => exact am_cd15
  | 16, _ => exact am_cd16
  | 17, _ => exact am_cd17
  | 18, _ => exact am_cd18
  | 19, _ => exact am_cd19
  | 20, _ => exact am_cd20
  | 21, _ => exact am_cd21
  | 22, _ => exact am_cd22
  | 23, _ => exact am_cd23
  | 24, _ => exact am_cd24
  | 25, _ => exact am_cd25
  | 26, _ => exact am_cd26
  | 27, _ => exact am_cd27
  | 28, _ => exact am_cd28
  | 29, _ => exact am_cd29
  | 30, _ => exact am_cd30
  | 31, _ => exact am_cd31
  | 32, _ => exact am_cd32
  | 33, _ => exact am_cd33
  | 34, _ => exact am_cd34
  | 35, _ => exact am_cd35
  | 36, _ => exact am_cd36
  | 37, _ => exact am_cd37
  | 38, _ => exact am_cd38
  | 39, _ => exact am_cd39
  | 40, _ => exact am_cd40
  | 41, _ => exact am_cd41
  | 42, _ => exact am_cd42
  | 43, _ => exact am_cd43
  | 44, _ => exact am_cd44
  | 45, _ => exact am_cd45
  | 46, _ => exact am_cd46
  | 47, _ => exact am_cd47
  | 48, _ => exact am_cd48
  | 49, _ => exact am_cd49
  | 50, _ => exact am_cd50
  | 51, _ => exact am_cd51
  | 52, _ => exact am_cd52
  | 53, _ => exact am_cd53
  | 54, _ => exact am_cd54
  | 55, _ => exact am_cd55
  | 56, _ => exact am_cd56
  | 57, _ => exact am_cd57
  | 58, _ => exact am_cd58
  | 59, _ => exact am_cd59
  | 60, _ => exact am_cd60
  | 61, _ => exact am_cd61
  | 62, _ => exact am_cd62
  | 63, _ => exact am_cd63
  | 64, _ => exact am_cd64
  | 65, _ => exact am_cd65
  | 66, _ => exact am_cd66
  | 67, _ => exact am_cd67
  | 68, _ => exact am_cd68
  | 69, _ => exact am_cd69
  | 70, _ => exact am_cd70
  | 71, _ => exact am_cd71
  | 72, _ => exact am_cd72
  | 73, _ => exact am_cd73
  | 74, _ => exact am_cd74
  | 75, _ => exact am_cd75
  | 76, _ => exact am_cd76
  | 77, _ => exact am_cd77
  | 78, _ => exact am_cd78
  | 79, _ => exact am_cd79
  | 80, _ => exact am_cd80
  | 81, _ => exact am_cd81
  | 82, _ => exact am_cd82
  | 83, _ => exact am_cd83
  | 84, _ => exact am_cd84
  | 85, _ => exact am_cd85
  | 86, _ => exact am_cd86
  | 87, _ => exact am_cd87
  | 88, _ => exact am_cd88
  | 89, _ => exact am_cd89
  | 90, _ => exact am_cd90
  | 91, _ => exact am_cd91
  | 92, _ => exact am_cd92
  | 93, _ => exact am_cd93
  | 94, _ => exact am_cd94
  | 95, _ => exact am_cd95
  | 96, _ => exact am_cd96
  | 97, _ => exact am_cd97
  | 98, _ => exact am_cd98
  | 99, _ => exact am_cd99
  | 100, _ => exact am_cd100
  | 101, _ => exact am_cd101
  | 102, _ => exact am_cd102
  | 103, _ => exact am_cd103
  | 104, _ => exact am_cd104
  | 105, _ => exact am_cd105
  | 106, _ => exact am_cd106
  | 107, _ => exact am_cd107
  | 108, _ => exact am_cd108
  | 109, _ => exact am_cd109
  | 110, _ => exact am_cd110
  | 111, _ => exact am_cd111
  | 112, _ => exact am_cd112
  | 113, _ => exact am_cd113
  | 114, _ => exact am_cd114
  | 115, _ => exact am_cd115
  | 116, _ => exact am_cd116
  | 117, _ => exact am_cd117
  | 118, _ => exact am_cd118
  | 119, _ => exact am_cd119
  | 120, _ => exact am_cd120
  | 121, _ => exact am_cd121
  | 122, _ => exact am_cd122
  | 123, _ => exact am_cd123
  | 124, _ => exact am_cd124
  | 125, _ => exact am_cd125
  | 126, _ => exact am_cd126
  | 127, _ => exact am_cd127
  | 128, _ => exact am_cd128
  | 129, _ => exact am_cd129
  | 130, _ => exact am_cd130
  | 131, _ => exact am_cd131
  | 132, _ => exact am_cd132
  | 133, _ => exact am_cd133
  | 134, _ => exact am_cd134
  | 135, _ => exact am_cd135
  | 136, _ => exact am_cd136
  | 137, _ => exact am_cd137
  | 138, _ => exact am_cd138
  | 139, _ => exact am_cd139
  | 140, _ => exact am_cd140
  | 141, _ => exact am_cd141
  | 142, _ => exact am_cd142
  | 143, _ => exact am_cd143
  | 144, _ => exact am_cd144
  | 145, _ => exact am_cd145
  | 146, _ => exact am_cd146
  | 147, _ => exact am_cd147
  | 148, _ => exact am_cd148
  | 149, _ => exact am_cd149
  | 150, _ => exact am_cd150
  | 151, _ => exact am_cd151
  | 152, _ => exact am_cd152
  | 153, _ => exact am_cd153
  | 154, _ => exact am_cd154
  | 155, _ => exact am_cd155
  | 156, _ => exact am_cd156
  | 157, _ => exact am_cd157
  | 158, _ => exact am_cd158
  | 159, _ => exact am_cd159
  | 160, _ => exact am_cd160
  | 161, _ => exact am_cd161
  | 162, _ => exact am_cd162
  | 163, _ => exact am_cd163
  | 164, _ => exact am_cd164
  | 165, _ => exact am_cd165
  | 166, _ => exact am_cd166
  | 167, _ => exact am_cd167
  | 168, _ => exact am_cd168
  | 169, _ => exact am_cd169
  | 170, _ => exact am_cd170
  | 171, _ => exact am_cd171
  | 172, _ => exact am_cd172
  | 173, _ => exact am_cd173
  | 174, _ => exact am_cd174
  | 175, _ => exact am_cd175
  | 176, _ => exact am_cd176
  | 177, _ => exact am_cd177
  | 178, _ => exact am_cd178
  | 179, _ => exact am_cd179
  | k + 180, h => exact absurd h (by omega)
end
section
/-! THE ABSTRACT MACHINE: the same bytecode over whole numbers (Int, kept in range), cells numbered from 0 on, and predicates of the end. am_X k s Q: from the state s of method k the machine comes to a return, and Q holds there. -/
abbrev am_V : Type := Int ⊕ (Option Nat ⊕ (UInt32 ⊕ Int64))
abbrev amI (x : Int) : am_V := Sum.inl x
abbrev amA (r : Option Nat) : am_V := Sum.inr (Sum.inl r)
abbrev amR (a : Nat) : am_V := Sum.inr (Sum.inl (some a))
abbrev amN : am_V := Sum.inr (Sum.inl none)
abbrev amF (x : UInt32) : am_V := Sum.inr (Sum.inr (Sum.inl x))
abbrev amL (x : Int64) : am_V := Sum.inr (Sum.inr (Sum.inr x))
/-- cells (their tag, their size), whole numbers, floats, references -/
abbrev am_M : Type := List (Nat × Nat) × (Nat → Nat → Int) × (Nat → Nat → UInt32) × (Nat → Nat → Option Nat)
def am_up {α : Type} (f : Nat → Nat → α) (a i : Nat) (v : α) : Nat → Nat → α := fun b => if b = a then (fun j => if j = i then v else f a j) else f b
def am_clr {α : Type} (f : Nat → Nat → α) (a : Nat) (d : α) : Nat → Nat → α := fun b => if b = a then (fun _ => d) else f b
abbrev am_Q : Type := Option am_V → am_M → Prop
abbrev am_LS : Type := List (Option am_V)
abbrev am_St : Type := Nat × (Nat × Nat) × am_LS × List am_V × am_M
abbrev am_P : Type := Nat → am_St → am_Q → Prop
abbrev am_E : Type := Nat → Nat × (Nat → Int)
abbrev am_rg (z : Int) : Prop := -2147483648 ≤ z ∧ z ≤ 2147483647
abbrev am_R : Type := am_St ⊕ ((Prop × am_St) ⊕ ((Prop × am_St × am_St) ⊕ ((Prop × Option am_V × am_M) ⊕ (Nat × am_St × (Option am_V → am_M → am_St)))))
abbrev amGo (s : am_St) : Option am_R := some (Sum.inl s)
abbrev amNd (c : Prop) (s : am_St) : Option am_R := some (Sum.inr (Sum.inl (c, s)))
abbrev amBr (c : Prop) (s1 s2 : am_St) : Option am_R := some (Sum.inr (Sum.inr (Sum.inl (c, s1, s2))))
abbrev amRt (c : Prop) (r : Option am_V) (m : am_M) : Option am_R := some (Sum.inr (Sum.inr (Sum.inr (Sum.inl (c, r, m)))))
abbrev amCl (k : Nat) (s : am_St) (co : Option am_V → am_M → am_St) : Option am_R := some (Sum.inr (Sum.inr (Sum.inr (Sum.inr (k, s, co)))))
def am_run (K : am_P) (k : Nat) (Q : am_Q) : Option am_R → Prop
  | none => False
  | some (.inl s) => K k s Q
  | some (.inr (.inl (c, s))) => c ∧ K k s Q
  | some (.inr (.inr (.inl (c, s1, s2)))) => (c → K k s1 Q) ∧ (¬ c → K k s2 Q)
  | some (.inr (.inr (.inr (.inl (c, r, m))))) => c ∧ Q r m
  | some (.inr (.inr (.inr (.inr (k', s', co))))) => K k' s' (fun r m => K k (co r m) Q)
def am_put : am_LS → Nat → Option am_V → am_LS
  | [], _, _ => []
  | _ :: l, 0, v => v :: l
  | x :: l, n + 1, v => x :: am_put l n v
def am_okp (ls : am_LS) : Nat → Bool
  | 0 => true
  | n + 1 => match am_nth ls n with
    | some (some (.inr (.inr (.inr _)))) => false
    | _ => true
def am_cat : am_V → Nat
  | .inr (.inr (.inr _)) => 2
  | _ => 1
def am_cats : List am_V → Nat
  | [] => 0
  | v :: l => am_cat v + am_cats l
def am_pop : Nat → List am_V → List am_V → Option (List am_V × List am_V)
  | 0, acc, st => some (acc, st)
  | n + 1, acc, v :: st => am_pop n (v :: acc) st
  | _ + 1, _, [] => none
def am_exp : List am_V → am_LS
  | [] => []
  | .inr (.inr (.inr x)) :: l => some (amL x) :: none :: am_exp l
  | v :: l => some v :: am_exp l
def am_args (vs : List am_V) (n : Nat) : am_LS := am_exp vs ++ List.replicate (n - (am_exp vs).length) none
def am_push (r : Option am_V) (st : List am_V) : List am_V := match r with
  | some v => v :: st
  | none => st
/-- a row of whole numbers: its length, its items -/
def am_arr (E : am_E) (m : am_M) (q : Nat) : Option (Nat × (Nat → Int)) :=
  match Nat.blt q 1000 with
  | true => (match am_nth m.1 q with
    | some (t, n) => (match Nat.beq t 10 with
      | true => some (n, m.2.1 q)
      | false => none)
    | none => none)
  | false => (match Nat.blt (q - 1000) 3 with
    | true => some (E (q - 1000))
    | false => none)
/-- a cell of the world with the tag t: its size -/
def am_tag (m : am_M) (q t : Nat) : Option Nat :=
  match Nat.blt q 1000 with
  | true => (match am_nth m.1 q with
    | some (t', n) => (match Nat.beq t' t with
      | true => some n
      | false => none)
    | none => none)
  | false => none
abbrev am_O : Type := am_E → Nat → Int → Nat → Nat × Nat → am_LS → List am_V → am_M → Option am_R
def am_oF : am_O := fun _ _ _ _ _ _ _ _ => none
def am_o0 : am_O := fun _ _ _ ip bd ls st m => amGo (ip + 1, bd, ls, amN :: st, m)
def am_o1 : am_O := fun _ _ b ip bd ls st m => amNd (am_rg b) (ip + 1, bd, ls, amI b :: st, m)
def am_o2 : am_O := fun _ _ b ip bd ls st m => amNd (-128 ≤ b ∧ b ≤ 127) (ip + 1, bd, ls, amI b :: st, m)
def am_o3 : am_O := fun _ _ b ip bd ls st m => amNd (-32768 ≤ b ∧ b ≤ 32767) (ip + 1, bd, ls, amI b :: st, m)
def am_o5 : am_O := fun _ _ _ ip bd ls st m => amGo (ip + 1, bd, ls, amF FP.fconst0 :: st, m)
def am_o6 : am_O := fun _ _ _ ip bd ls st m => amGo (ip + 1, bd, ls, amF FP.fconst1 :: st, m)
def am_o7 : am_O := fun _ _ _ ip bd ls st m => amGo (ip + 1, bd, ls, amF FP.fconst2 :: st, m)
def am_o8 : am_O := fun _ a _ ip bd ls st m => amGo (ip + 1, bd, ls, amF (UInt32.ofNat a) :: st, m)
def am_o9 : am_O := fun _ _ b ip bd ls st m => amGo (ip + 1, bd, ls, amL (Int64.ofInt b) :: st, m)
def am_o10 : am_O := fun _ a _ ip bd ls st m => match am_nth ls a with
  | some (some (.inl x)) => amGo (ip + 1, bd, ls, amI x :: st, m)
  | _ => none
def am_o11 : am_O := fun _ a _ ip bd ls st m => match am_nth ls a with
  | some (some (.inr (.inr (.inr x)))) => amGo (ip + 1, bd, ls, amL x :: st, m)
  | _ => none
def am_o12 : am_O := fun _ a _ ip bd ls st m => match am_nth ls a with
  | some (some (.inr (.inr (.inl x)))) => amGo (ip + 1, bd, ls, amF x :: st, m)
  | _ => none
def am_o13 : am_O := fun _ a _ ip bd ls st m => match am_nth ls a with
  | some (some (.inr (.inl r))) => amGo (ip + 1, bd, ls, amA r :: st, m)
  | _ => none
def am_o14 : am_O := fun _ a _ ip bd ls st m => match st with
  | .inl x :: st => (match am_okp ls a with
    | true => amGo (ip + 1, bd, am_put ls a (some (amI x)), st, m)
    | false => none)
  | _ => none
def am_o15 : am_O := fun _ a _ ip bd ls st m => match st with
  | .inr (.inr (.inr x)) :: st => (match am_okp ls a with
    | true => amGo (ip + 1, bd, am_put (am_put ls a (some (amL x))) (a + 1) none, st, m)
    | false => none)
  | _ => none
def am_o16 : am_O := fun _ a _ ip bd ls st m => match st with
  | .inr (.inr (.inl x)) :: st => (match am_okp ls a with
    | true => amGo (ip + 1, bd, am_put ls a (some (amF x)), st, m)
    | false => none)
  | _ => none
def am_o17 : am_O := fun _ a _ ip bd ls st m => match st with
  | .inr (.inl r) :: st => (match am_okp ls a with
    | true => amGo (ip + 1, bd, am_put ls a (some (amA r)), st, m)
    | false => none)
  | _ => none
def am_o18 : am_O := fun _ a b ip bd ls st m => match am_nth ls a with
  | some (some (.inl x)) => (match am_okp ls a with
    | true => amNd (am_rg (x + b)) (ip + 1, bd, am_put ls a (some (amI (x + b))), st, m)
    | false => none)
  | _ => none
def am_o19 : am_O := fun _ _ _ ip bd ls st m => match st with
  | .inl y :: .inl x :: st => amNd (am_rg (x + y)) (ip + 1, bd, ls, amI (x + y) :: st, m)
  | _ => none
def am_o20 : am_O := fun _ _ _ ip bd ls st m => match st with
  | .inl y :: .inl x :: st => amNd (am_rg (x - y)) (ip + 1, bd, ls, amI (x - y) :: st, m)
  | _ => none
def am_o21 : am_O := fun _ _ _ ip bd ls st m => match st with
  | .inl y :: .inl x :: st => amNd (am_rg (x * y)) (ip + 1, bd, ls, amI (x * y) :: st, m)
  | _ => none
def am_o22 : am_O := fun _ _ _ ip bd ls st m => match st with
  | .inl y :: .inl x :: st => amNd (0 ≤ x ∧ 0 < y) (ip + 1, bd, ls, amI (x / y) :: st, m)
  | _ => none
def am_o23 : am_O := fun _ _ _ ip bd ls st m => match st with
  | .inl y :: .inl x :: st => amNd (0 ≤ x ∧ 0 < y) (ip + 1, bd, ls, amI (x % y) :: st, m)
  | _ => none
def am_o24 : am_O := fun _ _ _ ip bd ls st m => match st with
  | .inl x :: st => amNd (am_rg (-x)) (ip + 1, bd, ls, amI (-x) :: st, m)
  | _ => none
def am_and (x y : Int) : Int := (Int32.ofInt x &&& Int32.ofInt y).toInt
def am_or (x y : Int) : Int := (Int32.ofInt x ||| Int32.ofInt y).toInt
def am_shl (x y : Int) : Int := (Int32.ofInt x <<< (Int32.ofInt y &&& 31)).toInt
def am_shr (x y : Int) : Int := (Int32.ofInt x >>> (Int32.ofInt y &&& 31)).toInt
def am_i2b (x : Int) : Int := (Int32.ofInt x).toInt8.toInt32.toInt
def am_i2l (x : Int) : Int64 := (Int32.ofInt x).toInt64
def am_i2f (x : Int) : UInt32 := FP.i2f (Int32.ofInt x)
def am_f2i (x : UInt32) : Int := (FP.f2i x).toInt
def am_lcm (x y : Int64) : Int := (lg_cmp x y).toInt
def am_fcm (op : CmpOp) (x y : UInt32) : Int := (Op.cmpValue (FP.fcmp x y) op).toInt
def am_o25 : am_O := fun _ _ _ ip bd ls st m => match st with
  | .inl y :: .inl x :: st => amGo (ip + 1, bd, ls, amI (am_and x y) :: st, m)
  | _ => none
def am_o26 : am_O := fun _ _ _ ip bd ls st m => match st with
  | .inl y :: .inl x :: st => amGo (ip + 1, bd, ls, amI (am_or x y) :: st, m)
  | _ => none
def am_o27 : am_O := fun _ _ _ ip bd ls st m => match st with
  | .inl y :: .inl x :: st => amGo (ip + 1, bd, ls, amI (am_shl x y) :: st, m)
  | _ => none
def am_o90 : am_O := fun _ _ _ ip bd ls st m => match st with
  | .inl y :: .inl x :: st => amGo (ip + 1, bd, ls, amI (am_shr x y) :: st, m)
  | _ => none
def am_o28 : am_O := fun _ _ _ ip bd ls st m => match st with
  | .inl x :: st => amGo (ip + 1, bd, ls, amI (am_i2b x) :: st, m)
  | _ => none
def am_o29 : am_O := fun _ _ _ ip bd ls st m => match st with
  | .inl x :: st => amGo (ip + 1, bd, ls, amL (am_i2l x) :: st, m)
  | _ => none
def am_o30 : am_O := fun _ _ _ ip bd ls st m => match st with
  | .inl x :: st => amGo (ip + 1, bd, ls, amF (am_i2f x) :: st, m)
  | _ => none
def am_o31 : am_O := fun _ _ _ ip bd ls st m => match st with
  | .inr (.inr (.inl x)) :: st => amGo (ip + 1, bd, ls, amI (am_f2i x) :: st, m)
  | _ => none
def am_o32 : am_O := fun _ _ _ ip bd ls st m => match st with
  | .inr (.inr (.inr y)) :: .inr (.inr (.inr x)) :: st => amGo (ip + 1, bd, ls, amL (x + y) :: st, m)
  | _ => none
def am_o33 : am_O := fun _ _ _ ip bd ls st m => match st with
  | .inr (.inr (.inr y)) :: .inr (.inr (.inr x)) :: st => amGo (ip + 1, bd, ls, amL (x * y) :: st, m)
  | _ => none
def am_o34 : am_O := fun _ _ _ ip bd ls st m => match st with
  | .inr (.inr (.inr y)) :: .inr (.inr (.inr x)) :: st => amGo (ip + 1, bd, ls, amI (am_lcm x y) :: st, m)
  | _ => none
def am_o35 : am_O := fun _ _ _ ip bd ls st m => match st with
  | .inr (.inr (.inl y)) :: .inr (.inr (.inl x)) :: st => amNd (vf_n32 (FP.fmul x y)) (ip + 1, bd, ls, amF (FP.fmul x y) :: st, m)
  | _ => none
def am_o36 : am_O := fun _ _ _ ip bd ls st m => match st with
  | .inr (.inr (.inl y)) :: .inr (.inr (.inl x)) :: st => amNd (vf_n32 (FP.fdiv x y)) (ip + 1, bd, ls, amF (FP.fdiv x y) :: st, m)
  | _ => none
def am_o37 : am_O := fun _ _ _ ip bd ls st m => match st with
  | .inr (.inr (.inl y)) :: .inr (.inr (.inl x)) :: st => amNd (vf_n32 (FP.fsub x y)) (ip + 1, bd, ls, amF (FP.fsub x y) :: st, m)
  | _ => none
def am_o38 : am_O := fun _ a _ ip bd ls st m => match st with
  | .inr (.inr (.inl y)) :: .inr (.inr (.inl x)) :: st => amGo (ip + 1, bd, ls, amI (am_fcm (if a = 0 then .l else .g) x y) :: st, m)
  | _ => none
def am_o39 : am_O := fun _ a _ _ bd ls st m => amGo (a, bd, ls, st, m)
def am_o40 : am_O := fun _ a _ ip bd ls st m => match st with
  | .inl x :: st => amBr (x = 0) (a, bd, ls, st, m) (ip + 1, bd, ls, st, m)
  | _ => none
def am_o41 : am_O := fun _ a _ ip bd ls st m => match st with
  | .inl x :: st => amBr (x = 0) (ip + 1, bd, ls, st, m) (a, bd, ls, st, m)
  | _ => none
def am_o42 : am_O := fun _ a _ ip bd ls st m => match st with
  | .inl x :: st => amBr (x < 0) (a, bd, ls, st, m) (ip + 1, bd, ls, st, m)
  | _ => none
def am_o43 : am_O := fun _ a _ ip bd ls st m => match st with
  | .inl x :: st => amBr (x < 0) (ip + 1, bd, ls, st, m) (a, bd, ls, st, m)
  | _ => none
def am_o44 : am_O := fun _ a _ ip bd ls st m => match st with
  | .inl x :: st => amBr (0 < x) (a, bd, ls, st, m) (ip + 1, bd, ls, st, m)
  | _ => none
def am_o45 : am_O := fun _ a _ ip bd ls st m => match st with
  | .inl x :: st => amBr (0 < x) (ip + 1, bd, ls, st, m) (a, bd, ls, st, m)
  | _ => none
def am_o46 : am_O := fun _ a _ ip bd ls st m => match st with
  | .inl y :: .inl x :: st => amBr (x = y) (a, bd, ls, st, m) (ip + 1, bd, ls, st, m)
  | _ => none
def am_o47 : am_O := fun _ a _ ip bd ls st m => match st with
  | .inl y :: .inl x :: st => amBr (x = y) (ip + 1, bd, ls, st, m) (a, bd, ls, st, m)
  | _ => none
def am_o48 : am_O := fun _ a _ ip bd ls st m => match st with
  | .inl y :: .inl x :: st => amBr (x < y) (a, bd, ls, st, m) (ip + 1, bd, ls, st, m)
  | _ => none
def am_o49 : am_O := fun _ a _ ip bd ls st m => match st with
  | .inl y :: .inl x :: st => amBr (x < y) (ip + 1, bd, ls, st, m) (a, bd, ls, st, m)
  | _ => none
def am_o50 : am_O := fun _ a _ ip bd ls st m => match st with
  | .inl y :: .inl x :: st => amBr (y < x) (a, bd, ls, st, m) (ip + 1, bd, ls, st, m)
  | _ => none
def am_o51 : am_O := fun _ a _ ip bd ls st m => match st with
  | .inl y :: .inl x :: st => amBr (y < x) (ip + 1, bd, ls, st, m) (a, bd, ls, st, m)
  | _ => none
def am_o52 : am_O := fun _ a _ ip bd ls st m => match st with
  | .inr (.inl r) :: st => (match r with
    | none => amGo (a, bd, ls, st, m)
    | some _ => amGo (ip + 1, bd, ls, st, m))
  | _ => none
def am_o53 : am_O := fun _ a _ ip bd ls st m => match st with
  | .inr (.inl r) :: st => (match r with
    | none => amGo (ip + 1, bd, ls, st, m)
    | some _ => amGo (a, bd, ls, st, m))
  | _ => none
def am_o54 : am_O := fun _ a _ _ bd ls st m => match st with
  | .inl x :: st => amGo (am_swt a x, bd, ls, st, m)
  | _ => none
def am_o55 : am_O := fun _ a b ip bd ls st m => match st with
  | .inr (.inl (some q)) :: st => (match am_tag m q a with
    | some _ => (match am_fk a b.toNat with
      | 1 => amGo (ip + 1, bd, ls, amA (m.2.2.2 q b.toNat) :: st, m)
      | _ => amGo (ip + 1, bd, ls, amI (m.2.1 q b.toNat) :: st, m))
    | none => none)
  | _ => none
def am_o57 : am_O := fun _ a b ip bd ls st m => match st with
  | .inl x :: .inr (.inl (some q)) :: st => (match am_tag m q a with
    | some _ => (match am_fk a b.toNat with
      | 0 => amGo (ip + 1, bd, ls, st, (m.1, am_up m.2.1 q b.toNat x, m.2.2.1, m.2.2.2))
      | 2 => amNd (x = 0 ∨ x = 1) (ip + 1, bd, ls, st, (m.1, am_up m.2.1 q b.toNat x, m.2.2.1, m.2.2.2))
      | _ => none)
    | none => none)
  | _ => none
def am_o59 : am_O := fun _ a b ip bd ls st m => match st with
  | .inr (.inl (some r)) :: .inr (.inl (some q)) :: st => (match am_tag m q a with
    | some _ => (match am_fk a b.toNat with
      | 1 => amGo (ip + 1, bd, ls, st, (m.1, m.2.1, m.2.2.1, am_up m.2.2.2 q b.toNat (some r)))
      | _ => none)
    | none => none)
  | _ => none
def am_o60 : am_O := fun _ a _ ip bd ls st m => amGo (ip + 1, bd, ls, amR (1000 + a) :: st, m)
def am_o61 : am_O := fun E _ _ ip bd ls st m => match st with
  | .inl j :: .inr (.inl (some q)) :: st => (match am_arr E m q with
    | some (n, f) => amNd (0 ≤ j ∧ j < n) (ip + 1, bd, ls, amI (f j.toNat) :: st, m)
    | none => none)
  | _ => none
def am_o62 : am_O := fun _ _ _ ip bd ls st m => match st with
  | .inl x :: .inl j :: .inr (.inl (some q)) :: st => (match am_tag m q 10 with
    | some n => amNd (0 ≤ j ∧ j < n) (ip + 1, bd, ls, st, (m.1, am_up m.2.1 q j.toNat x, m.2.2.1, m.2.2.2))
    | none => none)
  | _ => none
def am_o63 : am_O := fun _ _ _ ip bd ls st m => match st with
  | .inl j :: .inr (.inl (some q)) :: st => (match am_tag m q 11 with
    | some n => amNd (0 ≤ j ∧ j < n) (ip + 1, bd, ls, amI (m.2.1 q j.toNat) :: st, m)
    | none => none)
  | _ => none
def am_o64 : am_O := fun _ _ _ ip bd ls st m => match st with
  | .inl x :: .inl j :: .inr (.inl (some q)) :: st => (match am_tag m q 11 with
    | some n => amNd ((0 ≤ j ∧ j < n) ∧ (x = 0 ∨ x = 1)) (ip + 1, bd, ls, st, (m.1, am_up m.2.1 q j.toNat x, m.2.2.1, m.2.2.2))
    | none => none)
  | _ => none
def am_o65 : am_O := fun _ _ _ ip bd ls st m => match st with
  | .inl j :: .inr (.inl (some q)) :: st => (match am_tag m q 12 with
    | some n => amNd (0 ≤ j ∧ j < n) (ip + 1, bd, ls, amF (m.2.2.1 q j.toNat) :: st, m)
    | none => none)
  | _ => none
def am_o66 : am_O := fun _ _ _ ip bd ls st m => match st with
  | .inr (.inr (.inl x)) :: .inl j :: .inr (.inl (some q)) :: st => (match am_tag m q 12 with
    | some n => amNd (0 ≤ j ∧ j < n) (ip + 1, bd, ls, st, (m.1, m.2.1, am_up m.2.2.1 q j.toNat x, m.2.2.2))
    | none => none)
  | _ => none
def am_alen (E : am_E) (m : am_M) (q : Nat) : Option Nat :=
  match Nat.blt q 1000 with
  | true => (match am_nth m.1 q with
    | some (t, n) => (match Nat.ble 10 t && Nat.ble t 13 with
      | true => some n
      | false => none)
    | none => none)
  | false => (match Nat.blt (q - 1000) 3 with
    | true => some (E (q - 1000)).1
    | false => none)
def am_o67 : am_O := fun E _ _ ip bd ls st m => match st with
  | .inr (.inl (some q)) :: st => (match am_alen E m q with
    | some n => amNd (n < 2147483648) (ip + 1, bd, ls, amI n :: st, m)
    | none => none)
  | _ => none
def am_o68 : am_O := fun _ _ _ ip bd ls st m => match st with
  | .inl j :: .inr (.inl (some q)) :: st => (match am_tag m q 13 with
    | some n => amNd (0 ≤ j ∧ j < n) (ip + 1, bd, ls, amA (m.2.2.2 q j.toNat) :: st, m)
    | none => none)
  | _ => none
def am_o69 : am_O := fun _ _ _ ip bd ls st m => match st with
  | .inr (.inl (some r)) :: .inl j :: .inr (.inl (some q)) :: st => (match am_tag m q 13 with
    | some n => (match am_tag m r 2 with
      | some _ => amNd (0 ≤ j ∧ j < n) (ip + 1, bd, ls, st, (m.1, m.2.1, m.2.2.1, am_up m.2.2.2 q j.toNat (some r)))
      | none => none)
    | none => none)
  | _ => none
def am_fits (bd : Nat × Nat) (a : Nat) (st vs : List am_V) : Bool := Nat.ble (am_b1 a) bd.1 && (Nat.ble (am_b2 a) bd.2 && (Nat.ble (am_cats st) 8 && Nat.ble (am_exp vs).length (am_L a)))
def am_o70 : am_O := fun _ a _ ip bd ls st m => match am_pop (am_na a) [] st with
  | some (vs, st) => (match st with
    | .inr (.inl (some q)) :: st => (match am_tag m q (am_own a) with
      | some _ => (match am_fits bd a st (amR q :: vs) with
        | true => amCl a (0, am_bud a, am_args (amR q :: vs) (am_L a), [], m) (fun r m' => (ip + 1, (bd.1 - am_b1 a, bd.2 - am_b2 a), ls, am_push r st, m'))
        | false => none)
      | none => none)
    | _ => none)
  | none => none
def am_o72 : am_O := fun _ a _ ip bd ls st m => match am_pop (am_na a) [] st with
  | some (vs, st) => (match am_fits bd a st vs with
    | true => amCl a (0, am_bud a, am_args vs (am_L a), [], m) (fun r m' => (ip + 1, (bd.1 - am_b1 a, bd.2 - am_b2 a), ls, am_push r st, m'))
    | false => none)
  | none => none
def am_o74 : am_O := fun _ a _ ip bd ls st m => match am_pop (am_na a) [] st with
  | some (vs, st) => (match st with
    | .inr (.inl (some q)) :: st => (match am_fits bd a st (amR q :: vs) with
        | true => amCl a (0, am_bud a, am_args (amR q :: vs) (am_L a), [], m) (fun r m' => (ip + 1, (bd.1 - am_b1 a, bd.2 - am_b2 a), ls, am_push r st, m'))
        | false => none)
    | _ => none)
  | none => none
def am_o76 : am_O := fun _ _ _ ip bd ls st m => match st with
  | .inr (.inl (some _)) :: st => (match Nat.ble (am_cats st) 8 with
    | true => amGo (ip + 1, bd, ls, st, m)
    | false => none)
  | _ => none
def am_o77 : am_O := fun _ _ _ ip bd ls st m => match st with
  | .inl y :: .inl x :: st => (match Nat.ble (am_cats st) 8 with
    | true => amGo (ip + 1, bd, ls, amI (if y < x then y else x) :: st, m)
    | false => none)
  | _ => none
def am_o78 : am_O := fun _ _ _ ip bd ls st m => match st with
  | .inl y :: .inl x :: st => (match Nat.ble (am_cats st) 8 with
    | true => amGo (ip + 1, bd, ls, amI (if x < y then y else x) :: st, m)
    | false => none)
  | _ => none
def am_o79 : am_O := fun _ _ _ _ bd _ st m => match st with
  | [.inl x] => (match Nat.beq bd.1 0 with
    | true => amRt True (some (amI x)) m
    | false => none)
  | _ => none
def am_o80 : am_O := fun _ _ _ _ bd _ st m => match st with
  | [.inr (.inr (.inr x))] => (match Nat.beq bd.1 0 with
    | true => amRt True (some (amL x)) m
    | false => none)
  | _ => none
def am_o81 : am_O := fun _ _ _ _ bd _ st m => match st with
  | [.inr (.inr (.inl x))] => (match Nat.beq bd.1 0 with
    | true => amRt True (some (amF x)) m
    | false => none)
  | _ => none
def am_o82 : am_O := fun _ _ _ _ bd _ st m => match st with
  | [.inr (.inl r)] => (match Nat.beq bd.1 0 with
    | true => amRt True (some (amA r)) m
    | false => none)
  | _ => none
def am_o83 : am_O := fun _ _ _ _ bd _ st m => match st with
  | [] => (match Nat.beq bd.1 0 with
    | true => amRt True none m
    | false => none)
  | _ => none
def am_o84 : am_O := fun _ _ _ _ bd _ st m => match st with
  | [.inl x] => (match Nat.beq bd.1 0 with
    | true => amRt (x = 0 ∨ x = 1) (some (amI x)) m
    | false => none)
  | _ => none
def am_o85 : am_O := fun _ _ _ ip bd ls st m => match st with
  | v :: st => (match Nat.beq (am_cat v) 1 with
    | true => amGo (ip + 1, bd, ls, v :: v :: st, m)
    | false => none)
  | _ => none
def am_o86 : am_O := fun _ _ _ ip bd ls st m => match st with
  | v :: st => (match Nat.beq (am_cat v) 1 with
    | true => amGo (ip + 1, bd, ls, st, m)
    | false => none)
  | _ => none
def am_mk (m : am_M) (t n : Nat) : am_M := (m.1 ++ [(t, n)], am_clr m.2.1 m.1.length 0, am_clr m.2.2.1 m.1.length 0, am_clr m.2.2.2 m.1.length none)
def am_o87 : am_O := fun _ a _ ip bd ls st m => match Nat.ble 1 bd.1 && (Nat.ble (am_N a) bd.2 && Nat.blt m.1.length 999) with
  | true => amGo (ip + 1, (bd.1 - 1, bd.2 - am_N a), ls, amR m.1.length :: st, am_mk m a 0)
  | false => none
def am_o88 : am_O := fun _ a _ ip bd ls st m => match st with
  | .inl n :: st => (match Nat.ble 1 bd.1 && (Nat.ble n.toNat bd.2 && (Nat.blt m.1.length 999 && Nat.blt a 3)) with
    | true => amNd (0 ≤ n ∧ n ≤ 100000) (ip + 1, (bd.1 - 1, bd.2 - n.toNat), ls, amR m.1.length :: st, am_mk m (10 + a) n.toNat)
    | false => none)
  | _ => none
/-- the law's own return: what it may still make is left -/
def am_o89 : am_O := fun _ _ _ _ _ _ st m => match st with
  | [.inl x] => amRt (x = 0 ∨ x = 1) (some (amI x)) m
  | _ => none
def am_o91 : am_O := fun _ _ _ ip bd ls st m => match st with
  | .inl n :: st => (match Nat.ble 1 bd.1 && (Nat.ble n.toNat bd.2 && Nat.blt m.1.length 999) with
    | true => amNd (0 ≤ n ∧ n ≤ 100000) (ip + 1, (bd.1 - 1, bd.2 - n.toNat), ls, amR m.1.length :: st, am_mk m 13 n.toNat)
    | false => none)
  | _ => none
def am_ops : List am_O := [am_o0, am_o1, am_o2, am_o3, am_o1, am_o5, am_o6, am_o7, am_o8, am_o9, am_o10, am_o11, am_o12, am_o13, am_o14, am_o15, am_o16, am_o17, am_o18, am_o19, am_o20, am_o21, am_o22, am_o23, am_o24, am_o25, am_o26, am_o27, am_o28, am_o29, am_o30, am_o31, am_o32, am_o33, am_o34, am_o35, am_o36, am_o37, am_o38, am_o39, am_o40, am_o41, am_o42, am_o43, am_o44, am_o45, am_o46, am_o47, am_o48, am_o49, am_o50, am_o51, am_o52, am_o53, am_o54, am_o55, am_o55, am_o57, am_o57, am_o59, am_o60, am_o61, am_o62, am_oF, am_oF, am_o65, am_o66, am_o67, am_o68, am_o69, am_o70, am_o70, am_o72, am_o72, am_o74, am_o74, am_o76, am_o77, am_o78, am_o79, am_o80, am_o81, am_o82, am_o83, am_o84, am_o85, am_o86, am_o87, am_o88, am_o89, am_o90, am_o91]
def am_step (E : am_E) (K : am_P) (k : Nat) (s : am_St) (Q : am_Q) : Prop :=
  match am_row k s.1 with
  | some (_, op, a, b, _, _) => (match am_nth am_ops op with
    | some f => am_run K k Q (f E a b s.1 s.2.1 s.2.2.1 s.2.2.2.1 s.2.2.2.2)
    | none => False)
  | none => False
def am_mono (P : am_P) : Prop := ∀ (k : Nat) (s : am_St) (Q Q' : am_Q), (∀ r m, Q r m → Q' r m) → P k s Q → P k s Q'
/-- what is known of locals may be forgotten -/
def am_ref : am_LS → am_LS → Prop
  | [], [] => True
  | none :: l, _ :: l' => am_ref l l'
  | some v :: l, w :: l' => w = some v ∧ am_ref l l'
  | _, _ => False
def am_forg (P : am_P) : Prop := ∀ (k ip : Nat) (bd : Nat × Nat) (ls ls' : am_LS) (st : List am_V) (m : am_M) (Q : am_Q), am_ref ls ls' → P k (ip, bd, ls, st, m) Q → P k (ip, bd, ls', st, m) Q
def am_X (E : am_E) : am_P := fun k s Q => ∀ P : am_P, am_mono P → am_forg P → (∀ k s Q, am_step E P k s Q → P k s Q) → P k s Q
theorem am_run_K {K K' : am_P} (h : ∀ k s Q, K k s Q → K' k s Q) (hm : am_mono K') {k : Nat} {Q : am_Q} : ∀ {r : Option am_R}, am_run K k Q r → am_run K' k Q r
  | none, h0 => h0
  | some (.inl _), h0 => h _ _ _ h0
  | some (.inr (.inl _)), h0 => ⟨h0.1, h _ _ _ h0.2⟩
  | some (.inr (.inr (.inl _))), h0 => ⟨fun c => h _ _ _ (h0.1 c), fun c => h _ _ _ (h0.2 c)⟩
  | some (.inr (.inr (.inr (.inl _)))), h0 => h0
  | some (.inr (.inr (.inr (.inr _)))), h0 => hm _ _ _ _ (fun _ _ => h _ _ _) (h _ _ _ h0)
theorem am_run_Q {K : am_P} (hm : am_mono K) {k : Nat} {Q Q' : am_Q} (hQ : ∀ r m, Q r m → Q' r m) : ∀ {r : Option am_R}, am_run K k Q r → am_run K k Q' r
  | none, h0 => h0
  | some (.inl _), h0 => hm _ _ _ _ hQ h0
  | some (.inr (.inl _)), h0 => ⟨h0.1, hm _ _ _ _ hQ h0.2⟩
  | some (.inr (.inr (.inl _))), h0 => ⟨fun c => hm _ _ _ _ hQ (h0.1 c), fun c => hm _ _ _ _ hQ (h0.2 c)⟩
  | some (.inr (.inr (.inr (.inl _)))), h0 => ⟨h0.1, hQ _ _ h0.2⟩
  | some (.inr (.inr (.inr (.inr _)))), h0 => hm _ _ _ _ (fun _ _ => hm _ _ _ _ hQ) h0
theorem am_step_K {E : am_E} {K K' : am_P} (h : ∀ k s Q, K k s Q → K' k s Q) (hm : am_mono K') {k : Nat} {s : am_St} {Q : am_Q} (h0 : am_step E K k s Q) : am_step E K' k s Q := by
  unfold am_step at h0 ⊢
  split at h0
  · split at h0
    · exact am_run_K h hm h0
    · exact h0
  · exact h0
theorem am_step_Q {E : am_E} {K : am_P} (hm : am_mono K) : am_mono (am_step E K) := by
  intro k s Q Q' hQ h0
  unfold am_step at h0 ⊢
  split at h0
  · split at h0
    · exact am_run_Q hm hQ h0
    · exact h0
  · exact h0
theorem am_X_mono (E : am_E) : am_mono (am_X E) := fun _ _ _ _ hQ h P hm hf hc => hm _ _ _ _ hQ (h P hm hf hc)
theorem am_X_forg (E : am_E) : am_forg (am_X E) := fun _ _ _ _ _ _ _ _ hr h P hm hf hc => hf _ _ _ _ _ _ _ _ hr (h P hm hf hc)
theorem am_X_fold {E : am_E} {k : Nat} {s : am_St} {Q : am_Q} (h : am_step E (am_X E) k s Q) : am_X E k s Q :=
  fun P hm hf hc => hc _ _ _ (am_step_K (fun _ _ _ h => h P hm hf hc) hm h)
/-- n steps at once -/
def am_wp (E : am_E) (K : am_P) : Nat → am_P
  | 0 => K
  | n + 1 => fun k s Q => am_step E (am_wp E K n) k s Q
theorem am_wp_mono {E : am_E} {K : am_P} (hm : am_mono K) : ∀ n, am_mono (am_wp E K n)
  | 0 => hm
  | n + 1 => am_step_Q (am_wp_mono hm n)
theorem am_seg {E : am_E} : ∀ (n : Nat) {k : Nat} {s : am_St} {Q : am_Q}, am_wp E (am_X E) n k s Q → am_X E k s Q
  | 0, _, _, _, h => h
  | n + 1, _, _, _, h => am_X_fold (am_step_K (fun _ _ _ h => am_seg n h) (am_X_mono E) h)
end
section
/-! what the abstract machine's numbers stand for in the machine's heap -/
theorem am_ti {x : Int} (h : am_rg x) : (Int32.ofInt x).toInt = x := Int32.toInt_ofInt_of_le h.1 (by have := h.2; omega)
theorem am_clN {x : Int} (h : am_rg x) : (Int32.ofInt x).toNatClampNeg = x.toNat := by
  show (Int32.ofInt x).toInt.toNat = _
  rw [am_ti h]
theorem am_vin {x : Int} {n : Nat} (h : am_rg x) : vp_in (Int32.ofInt x) n ↔ 0 ≤ x ∧ x < n := by rw [vp_in_iff, am_ti h]
theorem am_lt32 {x y : Int} (hx : am_rg x) (hy : am_rg y) : Int32.ofInt x < Int32.ofInt y ↔ x < y := by
  rw [Int32.lt_iff_toInt_lt, am_ti hx, am_ti hy]
theorem am_le32 {x y : Int} (hx : am_rg x) (hy : am_rg y) : Int32.ofInt x ≤ Int32.ofInt y ↔ x ≤ y := by
  rw [Int32.le_iff_toInt_le, am_ti hx, am_ti hy]
theorem am_eq32 {x y : Int} (hx : am_rg x) (hy : am_rg y) : Int32.ofInt x = Int32.ofInt y ↔ x = y := by
  rw [← Int32.toInt_inj, am_ti hx, am_ti hy]
theorem am_ofTi (x : Int32) : Int32.ofInt x.toInt = x := Int32.ofInt_toInt x
theorem am_rg32 (x : Int32) : am_rg x.toInt := by
  have h1 := Int32.le_toInt x
  have h2 := Int32.toInt_lt x
  constructor <;> omega
theorem am_nth_eq {α : Type} : ∀ (l : List α) (i : Nat), am_nth l i = l[i]?
  | [], _ => by simp [am_nth]
  | x :: l, 0 => by simp [am_nth]
  | x :: l, i + 1 => by simp [am_nth, am_nth_eq l i]
def am_ok : am_V → Prop
  | .inl x => am_rg x
  | _ => True
def am_ra (base : Nat) (sa : Nat → Nat) (a : Nat) : Nat := if a < 1000 then base + a else sa (a - 1000)
def am_en (base : Nat) (sa : Nat → Nat) : am_V → Value
  | .inl x => .int (Int32.ofInt x)
  | .inr (.inl r) => va_rf (r.map (am_ra base sa))
  | .inr (.inr (.inl f)) => .float f
  | .inr (.inr (.inr v)) => .long v
abbrev am_CS : Type := ClassId × ClassId × ClassId × ClassId
def am_fd (base : Nat) (sa : Nat → Nat) (k : Nat) (x : Int) (r : Option Nat) : Value := if k = 1 then va_rf (r.map (am_ra base sa)) else .int (Int32.ofInt x)
def am_cf (base : Nat) (sa : Nat → Nat) (cs : am_CS) (t n : Nat) (gi : Nat → Int) (gf : Nat → UInt32) (gr : Nat → Option Nat) : va_E :=
  if t = 10 then .inl (cs.1, n, .inl (fun j => Int32.ofInt (gi j)))
  else if t = 11 then .inl (cs.2.1, n, .inl (fun j => Int32.ofInt (gi j)))
  else if t = 12 then .inl (cs.2.2.1, n, .inr (.inr (.inl gf)))
  else if t = 13 then .inl (cs.2.2.2, n, .inr (.inr (.inr (.inr (fun j => (gr j).map (am_ra base sa))))))
  else .inr (t, (List.range (am_N t)).map (fun j => am_fd base sa (am_fk t j) (gi j) (gr j)))
def am_cell (base : Nat) (sa : Nat → Nat) (cs : am_CS) (m : am_M) (q : Nat) : va_E := match am_nth m.1 q with
  | some (t, n) => am_cf base sa cs t n (m.2.1 q) (m.2.2.1 q) (m.2.2.2 q)
  | none => .inr (99, [])
def am_ws (base : Nat) (sa : Nat → Nat) (cs : am_CS) (m : am_M) : va_W := (List.range m.1.length).map (fun q => (base + q, am_cell base sa cs m q))
def am_tys (cs : am_CS) : List (ClassId × FieldType) := [(cs.1, .int), (cs.2.1, .int), (cs.2.2.1, .float), (cs.2.2.2, .object "BeatWords$Sheet")]
section REP
variable {base : Nat} {sa : Nat → Nat} {cs : am_CS} {m m' : am_M} {q : Nat}
theorem am_ws_len : (am_ws base sa cs m).length = m.1.length := by simp [am_ws]
theorem am_ws_at (hq : q < m.1.length) : (am_ws base sa cs m)[q]? = some (base + q, am_cell base sa cs m q) := by
  simp [am_ws, hq]
theorem am_ws_of {p : Nat × va_E} (h : (am_ws base sa cs m)[q]? = some p) : q < m.1.length ∧ p = (base + q, am_cell base sa cs m q) := by
  have h1 : q < m.1.length := by
    have h2 := (List.getElem?_eq_some_iff.mp h).1
    rwa [am_ws_len] at h2
  exact ⟨h1, Option.some.inj (h.symm.trans (am_ws_at h1))⟩
theorem am_ws_D : va_D (fun x => base ≤ x) (am_ws base sa cs m) := by
  refine ⟨fun i j p r h1 h2 h3 => ?_, fun i p h => ?_⟩
  · obtain ⟨-, rfl⟩ := am_ws_of h1
    obtain ⟨-, rfl⟩ := am_ws_of h2
    have h4 : base + i = base + j := h3
    omega
  · obtain ⟨-, rfl⟩ := am_ws_of h
    exact Nat.le_add_right _ _
theorem am_ws_set {e : va_E} (h1 : m'.1 = m.1) (hq : q < m.1.length) (he : am_cell base sa cs m' q = e) (ho : ∀ j, j ≠ q → am_cell base sa cs m' j = am_cell base sa cs m j) :
    (am_ws base sa cs m).set q (base + q, e) = am_ws base sa cs m' := by
  refine List.ext_getElem? fun i => ?_
  by_cases hi : i < m.1.length
  · rw [am_ws_at (m := m') (by rw [h1]; exact hi), List.getElem?_set]
    by_cases hqi : q = i
    · subst hqi
      rw [if_pos rfl, if_pos (by rw [am_ws_len]; exact hi), he]
    · rw [if_neg hqi, am_ws_at hi, ho i (Ne.symm hqi)]
  · rw [List.getElem?_eq_none (by rw [List.length_set, am_ws_len]; omega), List.getElem?_eq_none (by rw [am_ws_len, h1]; omega)]
theorem am_ws_app {e : va_E} {t n : Nat} (h1 : m'.1 = m.1 ++ [(t, n)]) (he : am_cell base sa cs m' m.1.length = e) (ho : ∀ j, j < m.1.length → am_cell base sa cs m' j = am_cell base sa cs m j) :
    am_ws base sa cs m ++ [(base + m.1.length, e)] = am_ws base sa cs m' := by
  refine List.ext_getElem? fun i => ?_
  have hl : m'.1.length = m.1.length + 1 := by rw [h1]; simp
  rcases Nat.lt_trichotomy i m.1.length with hi | hi | hi
  · rw [List.getElem?_append_left (by rw [am_ws_len]; exact hi), am_ws_at hi, am_ws_at (by omega), ho i hi]
  · subst hi
    rw [List.getElem?_append_right (by rw [am_ws_len]; exact Nat.le_refl _), am_ws_len, Nat.sub_self, am_ws_at (m := m') (by omega), he]
    rfl
  · rw [List.getElem?_eq_none (by rw [List.length_append, am_ws_len]; simp; omega), List.getElem?_eq_none (by rw [am_ws_len]; omega)]
theorem am_tag_of {t n : Nat} (h : am_tag m q t = some n) : q < 1000 ∧ am_nth m.1 q = some (t, n) ∧ q < m.1.length := by
  unfold am_tag at h
  split at h
  · rename_i h1
    split at h
    · rename_i t' n' h2
      split at h
      · rename_i h3
        have h4 : t' = t := Nat.eq_of_beq_eq_true h3
        cases h
        subst h4
        refine ⟨by simpa using h1, h2, ?_⟩
        rw [am_nth_eq] at h2
        exact (List.getElem?_eq_some_iff.mp h2).1
      · cases h
    · cases h
  · cases h
theorem am_ra_lt (h : q < 1000) : am_ra base sa q = base + q := by simp [am_ra, h]
theorem am_cell_of {t n : Nat} (h : am_nth m.1 q = some (t, n)) : am_cell base sa cs m q = am_cf base sa cs t n (m.2.1 q) (m.2.2.1 q) (m.2.2.2 q) := by
  simp [am_cell, h]
theorem am_up_ne {α : Type} {f : Nat → Nat → α} {a i b : Nat} {v : α} (h : b ≠ a) : am_up f a i v b = f b := by simp [am_up, h]
theorem am_up_eq {α : Type} {f : Nat → Nat → α} {a i : Nat} {v : α} : am_up f a i v a = fun j => if j = i then v else f a j := by simp [am_up]
theorem am_clr_ne {α : Type} {f : Nat → Nat → α} {a b : Nat} {v : α} (h : b ≠ a) : am_clr f a v b = f b := by simp [am_clr, h]
theorem am_clr_eq {α : Type} {f : Nat → Nat → α} {a : Nat} {v : α} : am_clr f a v a = fun _ => v := by simp [am_clr]
end REP
/-- the locals as the kit's rows have them -/
def am_lv (base : Nat) (sa : Nat → Nat) : Nat → am_LS → List (Nat × Value)
  | _, [] => []
  | i, some v :: l => (i, am_en base sa v) :: am_lv base sa (i + 1) l
  | i, none :: l => am_lv base sa (i + 1) l
theorem am_lv_mem {base : Nat} {sa : Nat → Nat} {j : Nat} {w : Value} : ∀ {ls : am_LS} {i : Nat}, (j, w) ∈ am_lv base sa i ls ↔ ∃ n v, j = i + n ∧ am_nth ls n = some (some v) ∧ w = am_en base sa v
  | [], i => by simp [am_lv, am_nth]
  | some u :: l, i => by
    rw [am_lv, List.mem_cons, am_lv_mem]
    constructor
    · rintro (h | ⟨n, v, h1, h2, h3⟩)
      · cases h
        exact ⟨0, u, rfl, rfl, rfl⟩
      · exact ⟨n + 1, v, by omega, h2, h3⟩
    · rintro ⟨n, v, h1, h2, h3⟩
      cases n with
      | zero =>
        cases h2
        exact Or.inl (by rw [h1, h3]; rfl)
      | succ n => exact Or.inr ⟨n, v, by omega, h2, h3⟩
  | none :: l, i => by
    rw [am_lv, am_lv_mem]
    constructor
    · rintro ⟨n, v, h1, h2, h3⟩
      exact ⟨n + 1, v, by omega, h2, h3⟩
    · rintro ⟨n, v, h1, h2, h3⟩
      cases n with
      | zero => cases h2
      | succ n => exact ⟨n, v, by omega, h2, h3⟩
theorem am_lv_get {base : Nat} {sa : Nat → Nat} {lsA : Array Slot} {nL : Nat} {ls : am_LS} {i : Nat} {v : am_V} (h : lv_has lsA nL (am_lv base sa 0 ls)) (hv : am_nth ls i = some (some v)) : lsA[i]? = some (.val (am_en base sa v)) :=
  h.2.2 (i, am_en base sa v) (am_lv_mem.mpr ⟨i, v, by omega, hv, rfl⟩)
theorem am_put_nth {v : Option am_V} : ∀ {ls : am_LS} {i j : Nat}, am_nth (am_put ls i v) j = if j = i ∧ i < ls.length then some v else am_nth ls j
  | [], _, _ => by simp [am_put, am_nth]
  | _ :: l, 0, 0 => by simp [am_put, am_nth]
  | _ :: l, 0, j + 1 => by simp [am_put, am_nth]
  | _ :: l, i + 1, 0 => by simp [am_put, am_nth]
  | _ :: l, i + 1, j + 1 => by
    have h := am_put_nth (v := v) (ls := l) (i := i) (j := j)
    simp [am_put, am_nth, h]
theorem am_put_len {v : Option am_V} : ∀ {ls : am_LS} {i : Nat}, (am_put ls i v).length = ls.length
  | [], _ => rfl
  | _ :: l, 0 => rfl
  | _ :: l, i + 1 => by simp [am_put, am_put_len]
theorem am_okp_of {ls : am_LS} {i n : Nat} {x : Int64} (h : am_okp ls i = true) (hi : n + 1 = i) (hv : am_nth ls n = some (some (amL x))) : False := by
  subst hi
  simp [am_okp, hv] at h
theorem am_en_cat {base : Nat} {sa : Nat → Nat} (v : am_V) : (am_en base sa v).category = am_cat v := by
  rcases v with x | r | f | x
  · rfl
  · cases r <;> rfl
  · rfl
  · rfl
theorem am_cats_map {base : Nat} {sa : Nat → Nat} : ∀ (st : List am_V), ((st.map (am_en base sa)).map fun v => v.category).sum = am_cats st
  | [] => rfl
  | v :: st => by
    simp only [List.map_cons, List.sum_cons, am_cats, am_en_cat, am_cats_map st]
/-- a store of a value of one slot -/
theorem am_lv_st1 {base : Nat} {sa : Nat → Nat} {lsA : Array Slot} {nL i : Nat} {ls : am_LS} {v : am_V} (ho : am_okp ls i = true) (h : lv_has lsA nL ((i, am_en base sa v) :: (am_lv base sa 0 ls).filter (fun q => !(q.1 == i) && !(q.1 + 1 == i && q.2.category == 2)))) :
    lv_has lsA nL (am_lv base sa 0 (am_put ls i (some v))) := by
  refine ⟨h.1, h.2.1, fun q hq => h.2.2 q ?_⟩
  obtain ⟨j, w⟩ := q
  obtain ⟨n, u, h1, h2, h3⟩ := am_lv_mem.mp hq
  rw [Nat.zero_add] at h1
  subst h1
  rw [am_put_nth] at h2
  split at h2
  · rename_i h4
    cases h2
    rw [h3, h4.1]
    exact List.mem_cons_self
  · rename_i h4
    have h5 : j < ls.length := by
      rw [am_nth_eq] at h2
      exact (List.getElem?_eq_some_iff.mp h2).1
    by_cases h6 : j = i
    · exact absurd ⟨h6, by omega⟩ h4
    · refine List.mem_cons_of_mem _ (List.mem_filter.mpr ⟨am_lv_mem.mpr ⟨j, u, by omega, h2, h3⟩, ?_⟩)
      simp only [Bool.and_eq_true, Bool.not_eq_true', Bool.and_eq_false_iff, beq_eq_false_iff_ne]
      refine ⟨h6, ?_⟩
      by_cases h7 : j + 1 = i
      · right
        rw [h3, am_en_cat]
        rcases u with x | r | f | x
        · simp [am_cat]
        · simp [am_cat]
        · simp [am_cat]
        · exact (am_okp_of ho h7 h2).elim
      · exact Or.inl h7
theorem am_lv_st2 {base : Nat} {sa : Nat → Nat} {lsA : Array Slot} {nL i : Nat} {ls : am_LS} {x : Int64} (ho : am_okp ls i = true) (h : lv_has lsA nL ((i, Value.long x) :: (am_lv base sa 0 ls).filter (fun q => !(q.1 == i) && (!(q.1 == i + 1) && !(q.1 + 1 == i && q.2.category == 2))))) :
    lv_has lsA nL (am_lv base sa 0 (am_put (am_put ls i (some (amL x))) (i + 1) none)) := by
  refine ⟨h.1, h.2.1, fun q hq => h.2.2 q ?_⟩
  obtain ⟨j, w⟩ := q
  obtain ⟨n, u, h1, h2, h3⟩ := am_lv_mem.mp hq
  rw [Nat.zero_add] at h1
  subst h1
  rw [am_put_nth] at h2
  split at h2
  · cases h2
  · rename_i h8
    rw [am_put_nth] at h2
    split at h2
    · rename_i h4
      cases h2
      rw [h3, h4.1]
      exact List.mem_cons_self
    · rename_i h4
      have h5 : j < ls.length := by
        rw [am_nth_eq] at h2
        exact (List.getElem?_eq_some_iff.mp h2).1
      rw [am_put_len] at h8
      have h6 : j ≠ i := fun e => h4 ⟨e, by omega⟩
      have h9 : j ≠ i + 1 := fun e => h8 ⟨e, by omega⟩
      refine List.mem_cons_of_mem _ (List.mem_filter.mpr ⟨am_lv_mem.mpr ⟨j, u, by omega, h2, h3⟩, ?_⟩)
      simp only [Bool.and_eq_true, Bool.not_eq_true', Bool.and_eq_false_iff, beq_eq_false_iff_ne]
      refine ⟨h6, h9, ?_⟩
      by_cases h7 : j + 1 = i
      · right
        rw [h3, am_en_cat]
        rcases u with x | r | f | x
        · simp [am_cat]
        · simp [am_cat]
        · simp [am_cat]
        · exact (am_okp_of ho h7 h2).elim
      · exact Or.inl h7
/-- the locals at a method's entry -/
theorem am_lv_args {base : Nat} {sa : Nat → Nat} {n j : Nat} {v : am_V} : ∀ {vs : List am_V} {i : Nat}, am_nth (am_exp vs ++ List.replicate n none) j = some (some v) → (i + j, am_en base sa v) ∈ lv_args i (vs.map (am_en base sa))
  | [], i, h => by
    simp only [am_exp, List.nil_append, am_nth_eq, List.getElem?_replicate] at h
    split at h <;> simp at h
  | u :: vs, i, h => by
    have hcase : am_cat u = 2 ∨ am_cat u = 1 := by rcases u with x | r | f | x <;> simp [am_cat]
    rcases hcase with hc | hc
    · have hu : ∃ x, u = amL x := by
        rcases u with x | r | f | x
        · simp [am_cat] at hc
        · simp [am_cat] at hc
        · simp [am_cat] at hc
        · exact ⟨x, rfl⟩
      obtain ⟨x, rfl⟩ := hu
      rw [List.map_cons, lv_args]
      cases j with
      | zero =>
        have h2 : v = amL x := by
          have h3 : some (some (amL x)) = some (some v) := h
          cases h3; rfl
        subst h2
        exact List.mem_cons_self
      | succ j =>
        cases j with
        | zero =>
          have h3 : (some none : Option (Option am_V)) = some (some v) := h
          cases h3
        | succ j =>
          refine List.mem_cons_of_mem _ ?_
          have h4 := am_lv_args (base := base) (sa := sa) (vs := vs) (i := i + 2) (j := j) h
          rw [show i + (j + 1 + 1) = i + 2 + j by omega]
          exact h4
    · have he : am_exp (u :: vs) = some u :: am_exp vs := by
        rcases u with x | r | f | x
        · rfl
        · rfl
        · rfl
        · simp [am_cat] at hc
      rw [he] at h
      rw [List.map_cons, lv_args, am_en_cat, hc, if_neg (by decide)]
      cases j with
      | zero =>
        have h3 : some (some u) = some (some v) := h
        cases h3
        exact List.mem_cons_self
      | succ j =>
        refine List.mem_cons_of_mem _ ?_
        have h4 := am_lv_args (base := base) (sa := sa) (vs := vs) (i := i + 1) (j := j) h
        rw [show i + (j + 1) = i + 1 + j by omega]
        exact h4
theorem am_exp_len {base : Nat} {sa : Nat → Nat} : ∀ (vs : List am_V), (lg_sl (vs.map (am_en base sa))).length = (am_exp vs).length
  | [] => rfl
  | u :: vs => by
    have h := am_exp_len (base := base) (sa := sa) vs
    rcases u with x | r | f | x
    · simp [lg_sl, am_exp, am_en, Value.category] at h ⊢; exact h
    · cases r
      · simp [lg_sl, am_exp, am_en, Value.category, va_rf] at h ⊢; exact h
      · simp [lg_sl, am_exp, am_en, Value.category, va_rf] at h ⊢; exact h
    · simp [lg_sl, am_exp, am_en, Value.category] at h ⊢; exact h
    · simp [lg_sl, am_exp, am_en, Value.category] at h ⊢; exact h
end
section
/-! THE ABSTRACT MACHINE IS SOUND, the frame of it: what the abstract state stands for, and the predicate that is closed under its steps -/
def am_A (base : Nat) : Nat → Prop := fun q => base ≤ q
def am_RP (base : Nat) (sa : Nat → Nat) (cs : am_CS) (D : va_G) (m : am_M) (H : Heap) : Prop :=
  H.size = base + m.1.length ∧ m.1.length ≤ 999 ∧ va_P D am_Cl (am_ws base sa cs m) H ∧ ∀ a i, am_rg (m.2.1 a i)
def am_isNest : Jvm.Cond → Bool
  | .fieldLinkNest .. => true
  | .methodLinkNest .. => true
  | _ => false
def am_nest : List Jvm.Cond := lw_tbl.filter am_isNest
theorem am_nest_of {i : Nat} {w : Jvm.Cond} (h : am_nth lw_tbl i = some w) (hg : am_isNest w = true) : w ∈ am_nest := List.mem_filter.mpr ⟨am_mem h, hg⟩
def am_GS (base : Nat) (sa : Nat → Nat) (cs : am_CS) (D : va_G) (E : am_E) (U : State) (H : Heap) : Prop :=
  va_K D am_Cl (am_tys cs) U ∧ (∀ w ∈ am_nest, va_Nw w U) ∧ va_AO "BeatWords$Sheet" U
  ∧ (∀ j, j < 3 → va_T .int (sa j) (E j).1 (fun i => .int (Int32.ofInt ((E j).2 i))) (am_A base) U H)
  ∧ va_Z "BeatWords" "LEAST_WAYS" "[I" (.ref (sa 0)) (am_A base) U H ∧ va_Z "BeatWords" "MOST_WAYS" "[I" (.ref (sa 1)) (am_A base) U H
def am_EO (E : am_E) : Prop := ∀ j, j < 3 → (E j).1 < 2147483648 ∧ ∀ i, am_rg ((E j).2 i)
theorem am_GS.to {base : Nat} {sa : Nat → Nat} {cs : am_CS} {D : va_G} {E : am_E} {u U : State} {H H1 : Heap} (hW : u.WarmedH U.vm) (hq : ∀ a : Nat, a < H.size → ¬ am_A base a → H1[a]? = H[a]?) (h : am_GS base sa cs D E u H) : am_GS base sa cs D E U H1 := by
  obtain ⟨h1, h2, h3, h4, h5, h6⟩ := h
  refine ⟨va_K.moved hW.alike h1, fun w hw => ?_, h3.moved hW.alike, fun j hj => ((h4 j hj).moved hW.alike).kept hq, (h5.moved hW.alike).kept hq, (h6.moved hW.alike).kept hq⟩
  have hn := (List.mem_filter.mp hw).2
  have h0 := h2 w hw
  cases w with
  | fieldLinkNest a i b n d g => exact va_Nw.warmF hW h0
  | methodLinkNest a i y g => exact va_Nw.warmM hW h0
  | _ => cases hn
theorem am_GS.same {base : Nat} {sa : Nat → Nat} {cs : am_CS} {D : va_G} {E : am_E} {u U : State} {H : Heap} (hv : u.vm = U.vm) (h : am_GS base sa cs D E u H) : am_GS base sa cs D E U H := by
  have hal : u.vm.Alike U.vm := by rw [hv]; exact Vm.Alike.refl _
  obtain ⟨h1, h2, h3, h4, h5, h6⟩ := h
  refine ⟨va_K.moved hal h1, fun w hw => ?_, h3.moved hal, fun j hj => (h4 j hj).moved hal, h5.moved hal, h6.moved hal⟩
  have hn := (List.mem_filter.mp hw).2
  have h0 := h2 w hw
  cases w with
  | fieldLinkNest a i b n d g => exact va_Nw.same rfl hv h0
  | methodLinkNest a i y g => exact va_Nw.same rfl hv h0
  | _ => cases hn
def am_rm (k : Nat) : Room := { frames := am_fr k, cells := am_b1 k, slots := am_b2 k, locals := am_lo k }
def am_wsM (k : Nat) : List Jvm.Cond := Jvm.Cond.code (am_y k) (am_b k) (am_L k) (am_ret k) :: am_good
def am_QM (base : Nat) (sa : Nat → Nat) (cs : am_CS) (D : va_G) (k : Nat) (Q : am_Q) : Array Value → State → Outcome → State → Prop := fun _ st oc t =>
  (∃ (r : Option am_V) (m : am_M), oc = .returned (r.map (am_en base sa)) ∧ (∀ v, r = some v → am_ok v) ∧ Q r m ∧ am_RP base sa cs D m t.heap ∧ (k < 180 → t.heap.size = st.heap.size + am_b1 k)) ∧ va_F (am_A base) st t
def am_CX (p : Program) (S : State) (mm : MethodId) (args : Array Value) (meth : Method) (c : Code) (k : Nat) : Prop :=
  p.tables.exec = Jvm.exec ∧ c.code = am_b k ∧ meth.sig.returnType = am_ret k ∧ c.maxLocals = am_L k ∧ S.vm.findClass (am_cn (am_own k)) = some mm.cls ∧ (∀ w ∈ am_good, w.before args S = true) ∧ meth.locks = false ∧ (am_in k = true → meth.name = "<init>")
def am_Inv (base : Nat) (sa : Nat → Nat) (cs : am_CS) (D : va_G) (E : am_E) (k : Nat) (s : am_St) (p : Program) (S : State) (mm : MethodId) (args : Array Value) (meth : Method) (c : Code) (H : Heap) (locs : List Loc) (cells slots : Nat) (lsA : Array Slot) : Prop :=
  am_CX p S mm args meth c k ∧ am_GS base sa cs D E S S.heap ∧ va_S (am_A base) S.heap H locs ∧ base ≤ S.heap.size ∧ am_RP base sa cs D s.2.2.2.2 H ∧ H.size = S.heap.size + cells
  ∧ lv_has lsA (am_L k) (am_lv base sa 0 s.2.2.1) ∧ (∀ n v, am_nth s.2.2.1 n = some (some v) → am_ok v) ∧ (∀ v ∈ s.2.2.2.1, am_ok v) ∧ cells + s.2.1.1 = am_b1 k ∧ slots + s.2.1.2 ≤ am_b2 k
def am_Sd (l : Launch) (base : Nat) (sa : Nat → Nat) (cs : am_CS) (D : va_G) (E : am_E) : am_P := fun k s Q =>
  ∀ (p : Program) (e : Env) (S : State) (mm : MethodId) (args : Array Value) (below : List Frame) (meth : Method) (c : Code) (H : Heap) (locs : List Loc) (cells slots : Nat) (lsA : Array Slot),
    am_Inv base sa cs D E k s p S mm args meth c H locs cells slots lsA →
    W p l e (am_rm k) S mm args below meth c H locs cells slots (MQ below (am_QM base sa cs D k Q) args S (am_b1 k) (am_b2 k) (am_A base)) (F0 mm (am_pc k s.1) lsA (s.2.2.2.1.map (am_en base sa)))
theorem am_MQ_mono {base : Nat} {sa : Nat → Nat} {cs : am_CS} {D : va_G} {k : Nat} {Q Q' : am_Q} (hQ : ∀ r m, Q r m → Q' r m) {below : List Frame} {a : Array Value} {s : State} {mc ms : Nat} {free : Addr → Prop} {t : State} (h : MQ below (am_QM base sa cs D k Q) a s mc ms free t) : MQ below (am_QM base sa cs D k Q') a s mc ms free t := by
  obtain ⟨o, h1, h2, ⟨⟨r, m, q1, q2, q3, q4⟩, h4⟩, h5⟩ := h
  exact ⟨o, h1, h2, ⟨⟨r, m, q1, q2, hQ _ _ q3, q4⟩, h4⟩, h5⟩
section SDW
variable {p : Program} {l : Launch} {e : Env} {R : Room} {s : State} {m : MethodId} {args : Array Value} {below : List Frame} {meth : Method} {c : Code} {H : Heap} {locs : List Loc} {cells slots : Nat} {Q Q' : State → Prop}
theorem am_W_mono (hQ : ∀ t, Q t → Q' t) {g : JFrame} (h : W p l e R s m args below meth c H locs cells slots Q g) : W p l e R s m args below meth c H locs cells slots Q' g := by
  intro T hT X
  obtain ⟨t, h1, h2⟩ := h T hT X
  exact ⟨t, h1, hQ t h2⟩
theorem am_W_siz {g : JFrame} (kk : H.size ≤ s.heap.size + cells → W p l e R s m args below meth c H locs cells slots Q g) : W p l e R s m args below meth c H locs cells slots Q g :=
  fun T hT X => kk (by rw [← hT]; exact X.heapSize) T hT X
theorem am_ldcwf {cc : ByteArray} {pc : Nat} {ls : Array Slot} {rest : List Value} (hexec : p.tables.exec = Jvm.exec) (hb : c.code = cc) {own : String} {index : Nat} {v : UInt32} (hown : s.vm.findClass own = some m.cls) (hconst : (Jvm.Cond.constantFloat own index v).before args s = true) (hdg : decode cc pc = .ok (.ldc_w index, 3)) (k : W p l e R s m args below meth c H locs cells slots Q (F0 m (pc + 3) ls (.float v :: rest))) : W p l e R s m args below meth c H locs cells slots Q (F0 m pc ls rest) := by
  obtain ⟨kk, cf, hk, hcf, hcp⟩ := Cond.constantFloat_spec hown hconst
  intro T hT X
  obtain ⟨t, a, b⟩ := k T hT X
  obtain ⟨k', hk', he⟩ := X.warmed.alike.2.2 _ _ hk
  refine ⟨t, ?_, b⟩
  jvm_step X.here [hexec, hb, hdg, ldc_w.wp_float (s := T) (f := F0 m pc ls rest) X.here.top hk' (by rw [he]; exact hcf) hcp]
  exact a
end SDW
section SDC
variable {l : Launch} {base : Nat} {sa : Nat → Nat} {cs : am_CS} {D : va_G} {E : am_E}
theorem am_intro {k ip pc : Nat} {bd : Nat × Nat} {ls : am_LS} {st : List am_V} {m : am_M} {Q : am_Q} (hpc : am_pc k ip = pc)
    (h : ∀ (p : Program) (e : Env) (S : State) (mm : MethodId) (args : Array Value) (below : List Frame) (meth : Method) (c : Code) (H : Heap) (locs : List Loc) (cells slots : Nat) (lsA : Array Slot),
      am_Inv base sa cs D E k (ip, bd, ls, st, m) p S mm args meth c H locs cells slots lsA →
      W p l e (am_rm k) S mm args below meth c H locs cells slots (MQ below (am_QM base sa cs D k Q) args S (am_b1 k) (am_b2 k) (am_A base)) (F0 mm pc lsA (st.map (am_en base sa)))) : am_Sd l base sa cs D E k (ip, bd, ls, st, m) Q := by
  subst hpc
  exact h
theorem am_fin {k pc : Nat} {s : am_St} {Q : am_Q} {p : Program} {e : Env} {S : State} {mm : MethodId} {args : Array Value} {below : List Frame} {meth : Method} {c : Code} {H : Heap} {locs : List Loc} {cells slots : Nat} {lsA : Array Slot} {st : List Value}
    (hK : am_Sd l base sa cs D E k s Q) (hI : am_Inv base sa cs D E k s p S mm args meth c H locs cells slots lsA) (hp : am_pc k s.1 = pc) (hst : s.2.2.2.1.map (am_en base sa) = st) :
    W p l e (am_rm k) S mm args below meth c H locs cells slots (MQ below (am_QM base sa cs D k Q) args S (am_b1 k) (am_b2 k) (am_A base)) (F0 mm pc lsA st) := by
  subst hp
  subst hst
  exact hK p e S mm args below meth c H locs cells slots lsA hI
end SDC
theorem am_Sd_mono (l : Launch) (base : Nat) (sa : Nat → Nat) (cs : am_CS) (D : va_G) (E : am_E) : am_mono (am_Sd l base sa cs D E) :=
  fun _ _ _ _ hQ h p e S mm args below meth c H locs cells slots lsA hI => am_W_mono (fun _ => am_MQ_mono hQ) (h p e S mm args below meth c H locs cells slots lsA hI)
/-- what the kernel's check says of a row, opened -/
theorem am_dec {k ip pc op a cp pl : Nat} {b : Int} (h : am_row k ip = some (pc, op, a, b, cp, pl)) : (∃ il, am_toI op a b cp = some il ∧ decode (am_b k) pc = .ok il ∧ (am_term op = false → am_pc k (ip + 1) = pc + il.2)) ∧ am_pc k ip = pc
    ∧ am_side k op a b = true ∧ (∀ w, am_word k op a b cp = some w → am_nth lw_tbl pl = some w)
    ∧ (39 ≤ op ∧ op ≤ 53 → (pc : Int) + b = (am_pc k a : Int))
    ∧ (op = 54 → ∃ lo tg d of dd ln, am_nth am_sws a = some (lo, tg, d, of, dd, ln) ∧ tg.length = of.length ∧ (tg.map (fun t => (am_pc k t : Int))) = of.map (fun o => (pc : Int) + o) ∧ (pc : Int) + dd = (am_pc k d : Int)) := by
  obtain ⟨c, hc, hr, hok⟩ := am_row_at h
  have hp : ∀ i, am_pcl c i = am_pc k i := am_pcl_eq hc
  simp only [am_rowOK, Bool.and_eq_true] at hok
  obtain ⟨h1, h2, h3, h4, h5⟩ := hok
  refine ⟨?_, by simp [am_pc, h], h5, ?_, ?_, ?_⟩
  · cases ht : am_toI op a b cp with
    | none => rw [ht] at h1; cases h1
    | some il =>
      rw [ht] at h1
      refine ⟨il, rfl, of_decide_eq_true h1, fun hterm => ?_⟩
      rw [hterm, Bool.false_or] at h2
      have h6 := of_decide_eq_true h2
      rw [hp, am_len, ht] at h6
      exact h6
  · intro w hw
    rw [hw] at h4
    exact of_decide_eq_true h4
  · intro hr2
    unfold am_jump at h3
    rw [if_pos hr2] at h3
    have h6 := of_decide_eq_true h3
    rwa [hp] at h6
  · intro ho
    subst ho
    unfold am_jump at h3
    rw [if_neg (by omega), if_pos rfl] at h3
    cases hs : am_nth am_sws a with
    | none => rw [hs] at h3; cases h3
    | some v =>
      obtain ⟨lo, tg, d, of, dd, ln⟩ := v
      rw [hs] at h3
      have h6 := of_decide_eq_true h3
      refine ⟨lo, tg, d, of, dd, ln, rfl, h6.1, ?_, ?_⟩
      · have h7 := h6.2.1
        simp only [hp] at h7
        exact h7
      · have h7 := h6.2.2
        rwa [hp] at h7
abbrev am_OpS (l : Launch) (base : Nat) (sa : Nat → Nat) (cs : am_CS) (D : va_G) (E : am_E) (n : Nat) (f : am_O) : Prop :=
  ∀ (k ip pc a : Nat) (b : Int) (cp pl : Nat), am_row k ip = some (pc, n, a, b, cp, pl) → ∀ (bd : Nat × Nat) (ls : am_LS) (st : List am_V) (m : am_M) (Q : am_Q), am_run (am_Sd l base sa cs D E) k Q (f E a b ip bd ls st m) → am_Sd l base sa cs D E k (ip, bd, ls, st, m) Q
end
section
/-! the steps that touch no cell -/
theorem am_bi {b : Int} (h : -128 ≤ b ∧ b ≤ 127) : (Int8.ofInt b).toInt32 = Int32.ofInt b := by
  rw [← Int32.toInt_inj, Int8.toInt_toInt32, Int8.toInt_ofInt_of_le h.1 (by omega), Int32.toInt_ofInt_of_le (by omega) (by omega)]
theorem am_si {b : Int} (h : -32768 ≤ b ∧ b ≤ 32767) : (Int16.ofInt b).toInt32 = Int32.ofInt b := by
  rw [← Int32.toInt_inj, Int16.toInt_toInt32, Int16.toInt_ofInt_of_le h.1 (by omega), Int32.toInt_ofInt_of_le (by omega) (by omega)]
theorem am_rg8 {b : Int} (h : -128 ≤ b ∧ b ≤ 127) : am_rg b := by constructor <;> omega
theorem am_rg16 {b : Int} (h : -32768 ≤ b ∧ b ≤ 32767) : am_rg b := by constructor <;> omega
theorem am_rg0 : am_rg 0 := by constructor <;> decide
theorem am_f4 {a : Nat} (h : a < 4) : ((Fin.ofNat 4 a : Fin 4) : Nat) = a := Nat.mod_eq_of_lt h
theorem am_okL {ls : am_LS} {i : Nat} {v : am_V} (h : ∀ n u, am_nth ls n = some (some u) → am_ok u) (hv : am_ok v) : ∀ n u, am_nth (am_put ls i (some v)) n = some (some u) → am_ok u := by
  intro n u hu
  rw [am_put_nth] at hu
  split at hu
  · cases hu; exact hv
  · exact h n u hu
theorem am_okL2 {ls : am_LS} {i : Nat} {x : Int64} (h : ∀ n u, am_nth ls n = some (some u) → am_ok u) : ∀ n u, am_nth (am_put (am_put ls i (some (amL x))) (i + 1) none) n = some (some u) → am_ok u := by
  intro n u hu
  rw [am_put_nth] at hu
  split at hu
  · cases hu
  · exact am_okL (v := amL x) h trivial n u hu
theorem am_lv_idx {base : Nat} {sa : Nat → Nat} {ls : am_LS} {i : Nat} {v : am_V} (hv : am_nth ls i = some (some v)) : ∃ kk : Nat, (am_lv base sa 0 ls)[kk]? = some (i, am_en base sa v) :=
  List.getElem?_of_mem (am_lv_mem.mpr ⟨i, v, by omega, hv, rfl⟩)
theorem am_ne0 {y x : Int} (hy : am_rg y) (h : 0 ≤ x ∧ 0 < y) : ¬ Int32.ofInt y = 0 := by
  intro e
  have h2 := (am_eq32 hy am_rg0).mp e
  omega
theorem am_div32 {x y : Int} (hx : am_rg x) (hy : am_rg y) (h : 0 ≤ x ∧ 0 < y) : am_rg (x / y) ∧ Int32.ofInt (x / y) = Int32.ofInt x / Int32.ofInt y := by
  have h1 : 0 ≤ x / y := Int.ediv_nonneg h.1 (by omega)
  have h2 : x / y ≤ x := Int.ediv_le_self y h.1
  refine ⟨⟨by omega, by have := hx.2; omega⟩, ?_⟩
  rw [← Int32.toInt_inj, Int32.toInt_div, am_ti hx, am_ti hy, am_ti ⟨by omega, by have := hx.2; omega⟩, Int.tdiv_eq_ediv_of_nonneg h.1]
  rw [Int.bmod_eq_of_le (by have := hx.2; simp; omega) (by have := hx.2; simp; omega)]
theorem am_rem32 {x y : Int} (hx : am_rg x) (hy : am_rg y) (h : 0 ≤ x ∧ 0 < y) : am_rg (x % y) ∧ Int32.ofInt (x % y) = Int32.ofInt x - Int32.ofInt x / Int32.ofInt y * Int32.ofInt y := by
  have h1 : 0 ≤ x % y := Int.emod_nonneg x (by omega)
  have h2 : x % y < y := Int.emod_lt_of_pos x h.2
  refine ⟨⟨by omega, by have := hy.2; omega⟩, ?_⟩
  rw [← (am_div32 hx hy h).2, ← Int32.ofInt_mul, ← Int32.ofInt_sub]
  congr 1
  have h3 := Int.emod_add_mul_ediv x y
  have h4 : x / y * y = y * (x / y) := Int.mul_comm _ _
  omega
theorem am_nlt {x y : Int32} {A : Prop} (h : x < y ↔ A) (hle : y ≤ x) : ¬ A := fun ha => by
  have h1 := h.mpr ha
  rw [Int32.lt_iff_toInt_lt] at h1
  rw [Int32.le_iff_toInt_le] at hle
  omega
theorem am_ylt {x y : Int32} {A : Prop} (h : x < y ↔ A) (hle : ¬ y ≤ x) : A := h.mp (by
  rw [Int32.le_iff_toInt_le] at hle
  rw [Int32.lt_iff_toInt_lt]
  omega)
theorem am_swof {k pc t j : Nat} {tg : List Nat} {of : List Int} (h : (tg.map (fun t => (am_pc k t : Int))) = of.map (fun o => (pc : Int) + o)) (ht : tg[j]? = some t) : of[j]? = some ((am_pc k t : Int) - pc) := by
  have h1 : (of.map (fun o => (pc : Int) + o))[j]? = some (am_pc k t : Int) := by rw [← h]; simp [ht]
  rw [List.getElem?_map] at h1
  obtain ⟨o, h2, h3⟩ := Option.map_eq_some_iff.mp h1
  rw [h2]
  congr 1
  omega
section SND1
variable {l : Launch} {base : Nat} {sa : Nat → Nat} {cs : am_CS} {D : va_G} {E : am_E}
set_option maxHeartbeats 1000000 in
theorem am_s0 : am_OpS l base sa cs D E 0 am_o0 := by
  intro k ip pc a b cp pl hrow bd ls st m Q h
  obtain ⟨⟨il, ht, hd, hn⟩, hpc, hside, hword, hjmp, hsw⟩ := am_dec hrow
  unfold am_o0 at h
  obtain rfl := Option.some.inj ht
  refine am_intro hpc ?_
  intro p e S mm args below meth c H locs cells slots lsA hI
  obtain ⟨hC, hG, hS, hB, hR, hz, hL, hkL, hkS, hc1, hc2⟩ := id hI
  obtain ⟨hx, hb, hr, hml, hown, hts, hlk, hini⟩ := id hC
  refine lv_null hx hb hd ?_
  exact am_fin h ⟨hC, hG, hS, hB, hR, hz, hL, hkL, List.forall_mem_cons.mpr ⟨trivial, hkS⟩, hc1, hc2⟩ (hn rfl) (by rfl)
set_option maxHeartbeats 1000000 in
theorem am_s1 : am_OpS l base sa cs D E 1 am_o1 := by
  intro k ip pc a b cp pl hrow bd ls st m Q h
  obtain ⟨⟨il, ht, hd, hn⟩, hpc, hside, hword, hjmp, hsw⟩ := am_dec hrow
  unfold am_o1 at h
  obtain rfl := Option.some.inj ht
  refine am_intro hpc ?_
  intro p e S mm args below meth c H locs cells slots lsA hI
  obtain ⟨hC, hG, hS, hB, hR, hz, hL, hkL, hkS, hc1, hc2⟩ := id hI
  obtain ⟨hx, hb, hr, hml, hown, hts, hlk, hini⟩ := id hC
  refine lv_iconst hx hb hd rfl ?_
  exact am_fin h.2 ⟨hC, hG, hS, hB, hR, hz, hL, hkL, List.forall_mem_cons.mpr ⟨h.1, hkS⟩, hc1, hc2⟩ (hn rfl) (by rfl)
set_option maxHeartbeats 1000000 in
theorem am_s2 : am_OpS l base sa cs D E 2 am_o2 := by
  intro k ip pc a b cp pl hrow bd ls st m Q h
  obtain ⟨⟨il, ht, hd, hn⟩, hpc, hside, hword, hjmp, hsw⟩ := am_dec hrow
  unfold am_o2 at h
  obtain rfl := Option.some.inj ht
  refine am_intro hpc ?_
  intro p e S mm args below meth c H locs cells slots lsA hI
  obtain ⟨hC, hG, hS, hB, hR, hz, hL, hkL, hkS, hc1, hc2⟩ := id hI
  obtain ⟨hx, hb, hr, hml, hown, hts, hlk, hini⟩ := id hC
  refine lv_bipush hx hb hd (am_bi h.1) ?_
  exact am_fin h.2 ⟨hC, hG, hS, hB, hR, hz, hL, hkL, List.forall_mem_cons.mpr ⟨am_rg8 h.1, hkS⟩, hc1, hc2⟩ (hn rfl) (by rfl)
set_option maxHeartbeats 1000000 in
theorem am_s3 : am_OpS l base sa cs D E 3 am_o3 := by
  intro k ip pc a b cp pl hrow bd ls st m Q h
  obtain ⟨⟨il, ht, hd, hn⟩, hpc, hside, hword, hjmp, hsw⟩ := am_dec hrow
  unfold am_o3 at h
  obtain rfl := Option.some.inj ht
  refine am_intro hpc ?_
  intro p e S mm args below meth c H locs cells slots lsA hI
  obtain ⟨hC, hG, hS, hB, hR, hz, hL, hkL, hkS, hc1, hc2⟩ := id hI
  obtain ⟨hx, hb, hr, hml, hown, hts, hlk, hini⟩ := id hC
  refine lv_sipush hx hb hd (am_si h.1) ?_
  exact am_fin h.2 ⟨hC, hG, hS, hB, hR, hz, hL, hkL, List.forall_mem_cons.mpr ⟨am_rg16 h.1, hkS⟩, hc1, hc2⟩ (hn rfl) (by rfl)
set_option maxHeartbeats 1000000 in
theorem am_s4 : am_OpS l base sa cs D E 4 am_o1 := by
  intro k ip pc a b cp pl hrow bd ls st m Q h
  obtain ⟨⟨il, ht, hd, hn⟩, hpc, hside, hword, hjmp, hsw⟩ := am_dec hrow
  unfold am_o1 at h
  have hw := am_good_of (hword _ rfl) rfl
  refine am_intro hpc ?_
  intro p e S mm args below meth c H locs cells slots lsA hI
  obtain ⟨hC, hG, hS, hB, hR, hz, hL, hkL, hkS, hc1, hc2⟩ := id hI
  obtain ⟨hx, hb, hr, hml, hown, hts, hlk, hini⟩ := id hC
  simp only [am_toI] at ht
  split at ht
  · obtain rfl := Option.some.inj ht
    exact lv_ldc hx hb hown (hts _ hw) hd (am_fin h.2 ⟨hC, hG, hS, hB, hR, hz, hL, hkL, List.forall_mem_cons.mpr ⟨h.1, hkS⟩, hc1, hc2⟩ (hn rfl) rfl)
  · obtain rfl := Option.some.inj ht
    exact lv_ldcw hx hb hown (hts _ hw) hd (am_fin h.2 ⟨hC, hG, hS, hB, hR, hz, hL, hkL, List.forall_mem_cons.mpr ⟨h.1, hkS⟩, hc1, hc2⟩ (hn rfl) rfl)
set_option maxHeartbeats 1000000 in
theorem am_s5 : am_OpS l base sa cs D E 5 am_o5 := by
  intro k ip pc a b cp pl hrow bd ls st m Q h
  obtain ⟨⟨il, ht, hd, hn⟩, hpc, hside, hword, hjmp, hsw⟩ := am_dec hrow
  unfold am_o5 at h
  obtain rfl := Option.some.inj ht
  refine am_intro hpc ?_
  intro p e S mm args below meth c H locs cells slots lsA hI
  obtain ⟨hC, hG, hS, hB, hR, hz, hL, hkL, hkS, hc1, hc2⟩ := id hI
  obtain ⟨hx, hb, hr, hml, hown, hts, hlk, hini⟩ := id hC
  refine lv_fconst0 hx hb hd ?_
  exact am_fin h ⟨hC, hG, hS, hB, hR, hz, hL, hkL, List.forall_mem_cons.mpr ⟨trivial, hkS⟩, hc1, hc2⟩ (hn rfl) (by rfl)
set_option maxHeartbeats 1000000 in
theorem am_s6 : am_OpS l base sa cs D E 6 am_o6 := by
  intro k ip pc a b cp pl hrow bd ls st m Q h
  obtain ⟨⟨il, ht, hd, hn⟩, hpc, hside, hword, hjmp, hsw⟩ := am_dec hrow
  unfold am_o6 at h
  obtain rfl := Option.some.inj ht
  refine am_intro hpc ?_
  intro p e S mm args below meth c H locs cells slots lsA hI
  obtain ⟨hC, hG, hS, hB, hR, hz, hL, hkL, hkS, hc1, hc2⟩ := id hI
  obtain ⟨hx, hb, hr, hml, hown, hts, hlk, hini⟩ := id hC
  refine lv_fconst1 hx hb hd ?_
  exact am_fin h ⟨hC, hG, hS, hB, hR, hz, hL, hkL, List.forall_mem_cons.mpr ⟨trivial, hkS⟩, hc1, hc2⟩ (hn rfl) (by rfl)
set_option maxHeartbeats 1000000 in
theorem am_s7 : am_OpS l base sa cs D E 7 am_o7 := by
  intro k ip pc a b cp pl hrow bd ls st m Q h
  obtain ⟨⟨il, ht, hd, hn⟩, hpc, hside, hword, hjmp, hsw⟩ := am_dec hrow
  unfold am_o7 at h
  obtain rfl := Option.some.inj ht
  refine am_intro hpc ?_
  intro p e S mm args below meth c H locs cells slots lsA hI
  obtain ⟨hC, hG, hS, hB, hR, hz, hL, hkL, hkS, hc1, hc2⟩ := id hI
  obtain ⟨hx, hb, hr, hml, hown, hts, hlk, hini⟩ := id hC
  refine lv_fconst2 hx hb hd ?_
  exact am_fin h ⟨hC, hG, hS, hB, hR, hz, hL, hkL, List.forall_mem_cons.mpr ⟨trivial, hkS⟩, hc1, hc2⟩ (hn rfl) (by rfl)
set_option maxHeartbeats 1000000 in
theorem am_s8 : am_OpS l base sa cs D E 8 am_o8 := by
  intro k ip pc a b cp pl hrow bd ls st m Q h
  obtain ⟨⟨il, ht, hd, hn⟩, hpc, hside, hword, hjmp, hsw⟩ := am_dec hrow
  unfold am_o8 at h
  have hw := am_good_of (hword _ rfl) rfl
  refine am_intro hpc ?_
  intro p e S mm args below meth c H locs cells slots lsA hI
  obtain ⟨hC, hG, hS, hB, hR, hz, hL, hkL, hkS, hc1, hc2⟩ := id hI
  obtain ⟨hx, hb, hr, hml, hown, hts, hlk, hini⟩ := id hC
  simp only [am_toI] at ht
  split at ht
  · obtain rfl := Option.some.inj ht
    exact lv_ldcf hx hb hown (hts _ hw) hd (am_fin h ⟨hC, hG, hS, hB, hR, hz, hL, hkL, List.forall_mem_cons.mpr ⟨trivial, hkS⟩, hc1, hc2⟩ (hn rfl) rfl)
  · obtain rfl := Option.some.inj ht
    exact am_ldcwf hx hb hown (hts _ hw) hd (am_fin h ⟨hC, hG, hS, hB, hR, hz, hL, hkL, List.forall_mem_cons.mpr ⟨trivial, hkS⟩, hc1, hc2⟩ (hn rfl) rfl)
set_option maxHeartbeats 1000000 in
theorem am_s9 : am_OpS l base sa cs D E 9 am_o9 := by
  intro k ip pc a b cp pl hrow bd ls st m Q h
  obtain ⟨⟨il, ht, hd, hn⟩, hpc, hside, hword, hjmp, hsw⟩ := am_dec hrow
  unfold am_o9 at h
  obtain rfl := Option.some.inj ht
  have hw := am_good_of (hword _ rfl) rfl
  refine am_intro hpc ?_
  intro p e S mm args below meth c H locs cells slots lsA hI
  obtain ⟨hC, hG, hS, hB, hR, hz, hL, hkL, hkS, hc1, hc2⟩ := id hI
  obtain ⟨hx, hb, hr, hml, hown, hts, hlk, hini⟩ := id hC
  exact lv_ldc2 hx hb hown (hts _ hw) hd (am_fin h ⟨hC, hG, hS, hB, hR, hz, hL, hkL, List.forall_mem_cons.mpr ⟨trivial, hkS⟩, hc1, hc2⟩ (hn rfl) rfl)
set_option maxHeartbeats 1000000 in
theorem am_s10 : am_OpS l base sa cs D E 10 am_o10 := by
  intro k ip pc a b cp pl hrow bd ls st m Q h
  obtain ⟨⟨il, ht, hd, hn⟩, hpc, hside, hword, hjmp, hsw⟩ := am_dec hrow
  unfold am_o10 at h
  split at h
  next x hv =>
    refine am_intro hpc ?_
    intro p e S mm args below meth c H locs cells slots lsA hI
    obtain ⟨hC, hG, hS, hB, hR, hz, hL, hkL, hkS, hc1, hc2⟩ := id hI
    obtain ⟨hx, hb, hr, hml, hown, hts, hlk, hini⟩ := id hC
    simp only [am_toI, am_ld4] at ht
    split at ht
    · rename_i ha
      obtain rfl := Option.some.inj ht
      exact lv_iload_n hx hb hd (am_f4 ha) (am_lv_get hL hv) (am_fin h ⟨hC, hG, hS, hB, hR, hz, hL, hkL, List.forall_mem_cons.mpr ⟨hkL a _ hv, hkS⟩, hc1, hc2⟩ (hn rfl) rfl)
    · obtain rfl := Option.some.inj ht
      exact lv_iload hx hb hd (am_lv_get hL hv) (am_fin h ⟨hC, hG, hS, hB, hR, hz, hL, hkL, List.forall_mem_cons.mpr ⟨hkL a _ hv, hkS⟩, hc1, hc2⟩ (hn rfl) rfl)
  all_goals exact h.elim
set_option maxHeartbeats 1000000 in
theorem am_s11 : am_OpS l base sa cs D E 11 am_o11 := by
  intro k ip pc a b cp pl hrow bd ls st m Q h
  obtain ⟨⟨il, ht, hd, hn⟩, hpc, hside, hword, hjmp, hsw⟩ := am_dec hrow
  unfold am_o11 at h
  split at h
  next x hv =>
    refine am_intro hpc ?_
    intro p e S mm args below meth c H locs cells slots lsA hI
    obtain ⟨hC, hG, hS, hB, hR, hz, hL, hkL, hkS, hc1, hc2⟩ := id hI
    obtain ⟨hx, hb, hr, hml, hown, hts, hlk, hini⟩ := id hC
    simp only [am_toI, am_ld4] at ht
    split at ht
    · rename_i ha
      obtain rfl := Option.some.inj ht
      exact lv_lload_n hx hb hd (am_f4 ha) (am_lv_get hL hv) (am_fin h ⟨hC, hG, hS, hB, hR, hz, hL, hkL, List.forall_mem_cons.mpr ⟨trivial, hkS⟩, hc1, hc2⟩ (hn rfl) rfl)
    · obtain rfl := Option.some.inj ht
      exact lv_lload hx hb hd (am_lv_get hL hv) (am_fin h ⟨hC, hG, hS, hB, hR, hz, hL, hkL, List.forall_mem_cons.mpr ⟨trivial, hkS⟩, hc1, hc2⟩ (hn rfl) rfl)
  all_goals exact h.elim
set_option maxHeartbeats 1000000 in
theorem am_s12 : am_OpS l base sa cs D E 12 am_o12 := by
  intro k ip pc a b cp pl hrow bd ls st m Q h
  obtain ⟨⟨il, ht, hd, hn⟩, hpc, hside, hword, hjmp, hsw⟩ := am_dec hrow
  unfold am_o12 at h
  split at h
  next x hv =>
    refine am_intro hpc ?_
    intro p e S mm args below meth c H locs cells slots lsA hI
    obtain ⟨hC, hG, hS, hB, hR, hz, hL, hkL, hkS, hc1, hc2⟩ := id hI
    obtain ⟨hx, hb, hr, hml, hown, hts, hlk, hini⟩ := id hC
    simp only [am_toI, am_ld4] at ht
    split at ht
    · rename_i ha
      obtain rfl := Option.some.inj ht
      exact lv_fload_n hx hb hd (am_f4 ha) (am_lv_get hL hv) (am_fin h ⟨hC, hG, hS, hB, hR, hz, hL, hkL, List.forall_mem_cons.mpr ⟨trivial, hkS⟩, hc1, hc2⟩ (hn rfl) rfl)
    · obtain rfl := Option.some.inj ht
      exact lv_fload hx hb hd (am_lv_get hL hv) (am_fin h ⟨hC, hG, hS, hB, hR, hz, hL, hkL, List.forall_mem_cons.mpr ⟨trivial, hkS⟩, hc1, hc2⟩ (hn rfl) rfl)
  all_goals exact h.elim
set_option maxHeartbeats 1000000 in
theorem am_s13 : am_OpS l base sa cs D E 13 am_o13 := by
  intro k ip pc a b cp pl hrow bd ls st m Q h
  obtain ⟨⟨il, ht, hd, hn⟩, hpc, hside, hword, hjmp, hsw⟩ := am_dec hrow
  unfold am_o13 at h
  split at h
  next x hv =>
    refine am_intro hpc ?_
    intro p e S mm args below meth c H locs cells slots lsA hI
    obtain ⟨hC, hG, hS, hB, hR, hz, hL, hkL, hkS, hc1, hc2⟩ := id hI
    obtain ⟨hx, hb, hr, hml, hown, hts, hlk, hini⟩ := id hC
    simp only [am_toI, am_ld4] at ht
    split at ht
    · rename_i ha
      obtain rfl := Option.some.inj ht
      cases x with
      | none => exact lv_aload_nN hx hb hd (am_f4 ha) (am_lv_get hL hv) (am_fin h ⟨hC, hG, hS, hB, hR, hz, hL, hkL, List.forall_mem_cons.mpr ⟨trivial, hkS⟩, hc1, hc2⟩ (hn rfl) rfl)
      | some x => exact lv_aload_n hx hb hd (am_f4 ha) (am_lv_get hL hv) (am_fin h ⟨hC, hG, hS, hB, hR, hz, hL, hkL, List.forall_mem_cons.mpr ⟨trivial, hkS⟩, hc1, hc2⟩ (hn rfl) rfl)
    · obtain rfl := Option.some.inj ht
      cases x with
      | none => exact lv_aloadN hx hb hd (am_lv_get hL hv) (am_fin h ⟨hC, hG, hS, hB, hR, hz, hL, hkL, List.forall_mem_cons.mpr ⟨trivial, hkS⟩, hc1, hc2⟩ (hn rfl) rfl)
      | some x => exact lv_aload hx hb hd (am_lv_get hL hv) (am_fin h ⟨hC, hG, hS, hB, hR, hz, hL, hkL, List.forall_mem_cons.mpr ⟨trivial, hkS⟩, hc1, hc2⟩ (hn rfl) rfl)
  all_goals exact h.elim
set_option maxHeartbeats 1000000 in
theorem am_s14 : am_OpS l base sa cs D E 14 am_o14 := by
  intro k ip pc a b cp pl hrow bd ls st m Q h
  obtain ⟨⟨il, ht, hd, hn⟩, hpc, hside, hword, hjmp, hsw⟩ := am_dec hrow
  unfold am_o14 at h
  split at h
  next x st =>
    split at h
    next ho =>
      refine am_intro hpc ?_
      intro p e S mm args below meth c H locs cells slots lsA hI
      obtain ⟨hC, hG, hS, hB, hR, hz, hL, hkL, hkS, hc1, hc2⟩ := id hI
      obtain ⟨hx, hb, hr, hml, hown, hts, hlk, hini⟩ := id hC
      have hxx := (List.forall_mem_cons.mp hkS).1
      have hk := (List.forall_mem_cons.mp hkS).2
      have hlt := of_decide_eq_true hside
      simp only [am_toI, am_ld4] at ht
      split at ht
      · rename_i ha
        obtain rfl := Option.some.inj ht
        exact lv_istore_n hx hb hd (am_f4 ha) hL hlt rfl (fun lsA2 hL2 => am_fin h ⟨hC, hG, hS, hB, hR, hz, am_lv_st1 (v := amI x) ho hL2, am_okL hkL hxx, hk, hc1, hc2⟩ (hn rfl) rfl)
      · obtain rfl := Option.some.inj ht
        exact lv_istore hx hb hd hL hlt rfl (fun lsA2 hL2 => am_fin h ⟨hC, hG, hS, hB, hR, hz, am_lv_st1 (v := amI x) ho hL2, am_okL hkL hxx, hk, hc1, hc2⟩ (hn rfl) rfl)
    all_goals exact h.elim
  all_goals exact h.elim
set_option maxHeartbeats 1000000 in
theorem am_s15 : am_OpS l base sa cs D E 15 am_o15 := by
  intro k ip pc a b cp pl hrow bd ls st m Q h
  obtain ⟨⟨il, ht, hd, hn⟩, hpc, hside, hword, hjmp, hsw⟩ := am_dec hrow
  unfold am_o15 at h
  split at h
  next x st =>
    split at h
    next ho =>
      refine am_intro hpc ?_
      intro p e S mm args below meth c H locs cells slots lsA hI
      obtain ⟨hC, hG, hS, hB, hR, hz, hL, hkL, hkS, hc1, hc2⟩ := id hI
      obtain ⟨hx, hb, hr, hml, hown, hts, hlk, hini⟩ := id hC
      have hxx := (List.forall_mem_cons.mp hkS).1
      have hk := (List.forall_mem_cons.mp hkS).2
      have hlt := of_decide_eq_true hside
      simp only [am_toI, am_ld4] at ht
      split at ht
      · rename_i ha
        obtain rfl := Option.some.inj ht
        exact lv_lstore_n hx hb hd (am_f4 ha) hL hlt rfl (fun lsA2 hL2 => am_fin h ⟨hC, hG, hS, hB, hR, hz, am_lv_st2 ho hL2, am_okL2 hkL, hk, hc1, hc2⟩ (hn rfl) rfl)
      · obtain rfl := Option.some.inj ht
        exact lv_lstore hx hb hd hL hlt rfl (fun lsA2 hL2 => am_fin h ⟨hC, hG, hS, hB, hR, hz, am_lv_st2 ho hL2, am_okL2 hkL, hk, hc1, hc2⟩ (hn rfl) rfl)
    all_goals exact h.elim
  all_goals exact h.elim
set_option maxHeartbeats 1000000 in
theorem am_s16 : am_OpS l base sa cs D E 16 am_o16 := by
  intro k ip pc a b cp pl hrow bd ls st m Q h
  obtain ⟨⟨il, ht, hd, hn⟩, hpc, hside, hword, hjmp, hsw⟩ := am_dec hrow
  unfold am_o16 at h
  split at h
  next x st =>
    split at h
    next ho =>
      refine am_intro hpc ?_
      intro p e S mm args below meth c H locs cells slots lsA hI
      obtain ⟨hC, hG, hS, hB, hR, hz, hL, hkL, hkS, hc1, hc2⟩ := id hI
      obtain ⟨hx, hb, hr, hml, hown, hts, hlk, hini⟩ := id hC
      have hxx := (List.forall_mem_cons.mp hkS).1
      have hk := (List.forall_mem_cons.mp hkS).2
      have hlt := of_decide_eq_true hside
      simp only [am_toI, am_ld4] at ht
      split at ht
      · rename_i ha
        obtain rfl := Option.some.inj ht
        exact lv_fstore_n hx hb hd (am_f4 ha) hL hlt rfl (fun lsA2 hL2 => am_fin h ⟨hC, hG, hS, hB, hR, hz, am_lv_st1 (v := amF x) ho hL2, am_okL hkL trivial, hk, hc1, hc2⟩ (hn rfl) rfl)
      · obtain rfl := Option.some.inj ht
        exact lv_fstore hx hb hd hL hlt rfl (fun lsA2 hL2 => am_fin h ⟨hC, hG, hS, hB, hR, hz, am_lv_st1 (v := amF x) ho hL2, am_okL hkL trivial, hk, hc1, hc2⟩ (hn rfl) rfl)
    all_goals exact h.elim
  all_goals exact h.elim
set_option maxHeartbeats 1000000 in
theorem am_s17 : am_OpS l base sa cs D E 17 am_o17 := by
  intro k ip pc a b cp pl hrow bd ls st m Q h
  obtain ⟨⟨il, ht, hd, hn⟩, hpc, hside, hword, hjmp, hsw⟩ := am_dec hrow
  unfold am_o17 at h
  split at h
  next x st =>
    split at h
    next ho =>
      refine am_intro hpc ?_
      intro p e S mm args below meth c H locs cells slots lsA hI
      obtain ⟨hC, hG, hS, hB, hR, hz, hL, hkL, hkS, hc1, hc2⟩ := id hI
      obtain ⟨hx, hb, hr, hml, hown, hts, hlk, hini⟩ := id hC
      have hxx := (List.forall_mem_cons.mp hkS).1
      have hk := (List.forall_mem_cons.mp hkS).2
      have hlt := of_decide_eq_true hside
      simp only [am_toI, am_ld4] at ht
      split at ht
      · rename_i ha
        obtain rfl := Option.some.inj ht
        cases x with
        | none => exact lv_astore_nN hx hb hd (am_f4 ha) hL hlt rfl (fun lsA2 hL2 => am_fin h ⟨hC, hG, hS, hB, hR, hz, am_lv_st1 (v := amN) ho hL2, am_okL hkL trivial, hk, hc1, hc2⟩ (hn rfl) rfl)
        | some x => exact lv_astore_n hx hb hd (am_f4 ha) hL hlt rfl (fun lsA2 hL2 => am_fin h ⟨hC, hG, hS, hB, hR, hz, am_lv_st1 (v := amR x) ho hL2, am_okL hkL trivial, hk, hc1, hc2⟩ (hn rfl) rfl)
      · obtain rfl := Option.some.inj ht
        cases x with
        | none => exact lv_astoreN hx hb hd hL hlt rfl (fun lsA2 hL2 => am_fin h ⟨hC, hG, hS, hB, hR, hz, am_lv_st1 (v := amN) ho hL2, am_okL hkL trivial, hk, hc1, hc2⟩ (hn rfl) rfl)
        | some x => exact lv_astore hx hb hd hL hlt rfl (fun lsA2 hL2 => am_fin h ⟨hC, hG, hS, hB, hR, hz, am_lv_st1 (v := amR x) ho hL2, am_okL hkL trivial, hk, hc1, hc2⟩ (hn rfl) rfl)
    all_goals exact h.elim
  all_goals exact h.elim
set_option maxHeartbeats 1000000 in
theorem am_s18 : am_OpS l base sa cs D E 18 am_o18 := by
  intro k ip pc a b cp pl hrow bd ls st m Q h
  obtain ⟨⟨il, ht, hd, hn⟩, hpc, hside, hword, hjmp, hsw⟩ := am_dec hrow
  unfold am_o18 at h
  obtain rfl := Option.some.inj ht
  split at h
  next x hv =>
    split at h
    next ho =>
      refine am_intro hpc ?_
      intro p e S mm args below meth c H locs cells slots lsA hI
      obtain ⟨hC, hG, hS, hB, hR, hz, hL, hkL, hkS, hc1, hc2⟩ := id hI
      obtain ⟨hx, hb, hr, hml, hown, hts, hlk, hini⟩ := id hC
      have hlt := of_decide_eq_true hside
      obtain ⟨kk, hkk⟩ := am_lv_idx (base := base) (sa := sa) hv
      exact lv_iinc hx hb hd hL hkk (Int32.ofInt_add ..).symm hlt rfl (fun lsA2 hL2 => am_fin h.2 ⟨hC, hG, hS, hB, hR, hz, am_lv_st1 (v := amI (x + b)) ho hL2, am_okL hkL h.1, hkS, hc1, hc2⟩ (hn rfl) rfl)
    all_goals exact h.elim
  all_goals exact h.elim
set_option maxHeartbeats 1000000 in
theorem am_s19 : am_OpS l base sa cs D E 19 am_o19 := by
  intro k ip pc a b cp pl hrow bd ls st m Q h
  obtain ⟨⟨il, ht, hd, hn⟩, hpc, hside, hword, hjmp, hsw⟩ := am_dec hrow
  unfold am_o19 at h
  obtain rfl := Option.some.inj ht
  split at h
  next y x st =>
    refine am_intro hpc ?_
    intro p e S mm args below meth c H locs cells slots lsA hI
    obtain ⟨hC, hG, hS, hB, hR, hz, hL, hkL, hkS, hc1, hc2⟩ := id hI
    obtain ⟨hx, hb, hr, hml, hown, hts, hlk, hini⟩ := id hC
    have vy := (List.forall_mem_cons.mp hkS).1
    have hk0 := (List.forall_mem_cons.mp hkS).2
    have vx := (List.forall_mem_cons.mp hk0).1
    have hk1 := (List.forall_mem_cons.mp hk0).2
    refine lv_iadd hx hb hd ?_
    exact am_fin h.2 ⟨hC, hG, hS, hB, hR, hz, hL, hkL, List.forall_mem_cons.mpr ⟨h.1, hk1⟩, hc1, hc2⟩ (hn rfl) (by simp [am_en, Int32.ofInt_add])
  all_goals exact h.elim
set_option maxHeartbeats 1000000 in
theorem am_s20 : am_OpS l base sa cs D E 20 am_o20 := by
  intro k ip pc a b cp pl hrow bd ls st m Q h
  obtain ⟨⟨il, ht, hd, hn⟩, hpc, hside, hword, hjmp, hsw⟩ := am_dec hrow
  unfold am_o20 at h
  obtain rfl := Option.some.inj ht
  split at h
  next y x st =>
    refine am_intro hpc ?_
    intro p e S mm args below meth c H locs cells slots lsA hI
    obtain ⟨hC, hG, hS, hB, hR, hz, hL, hkL, hkS, hc1, hc2⟩ := id hI
    obtain ⟨hx, hb, hr, hml, hown, hts, hlk, hini⟩ := id hC
    have vy := (List.forall_mem_cons.mp hkS).1
    have hk0 := (List.forall_mem_cons.mp hkS).2
    have vx := (List.forall_mem_cons.mp hk0).1
    have hk1 := (List.forall_mem_cons.mp hk0).2
    refine lv_isub hx hb hd ?_
    exact am_fin h.2 ⟨hC, hG, hS, hB, hR, hz, hL, hkL, List.forall_mem_cons.mpr ⟨h.1, hk1⟩, hc1, hc2⟩ (hn rfl) (by simp [am_en, Int32.ofInt_sub])
  all_goals exact h.elim
set_option maxHeartbeats 1000000 in
theorem am_s21 : am_OpS l base sa cs D E 21 am_o21 := by
  intro k ip pc a b cp pl hrow bd ls st m Q h
  obtain ⟨⟨il, ht, hd, hn⟩, hpc, hside, hword, hjmp, hsw⟩ := am_dec hrow
  unfold am_o21 at h
  obtain rfl := Option.some.inj ht
  split at h
  next y x st =>
    refine am_intro hpc ?_
    intro p e S mm args below meth c H locs cells slots lsA hI
    obtain ⟨hC, hG, hS, hB, hR, hz, hL, hkL, hkS, hc1, hc2⟩ := id hI
    obtain ⟨hx, hb, hr, hml, hown, hts, hlk, hini⟩ := id hC
    have vy := (List.forall_mem_cons.mp hkS).1
    have hk0 := (List.forall_mem_cons.mp hkS).2
    have vx := (List.forall_mem_cons.mp hk0).1
    have hk1 := (List.forall_mem_cons.mp hk0).2
    refine lv_imul hx hb hd ?_
    exact am_fin h.2 ⟨hC, hG, hS, hB, hR, hz, hL, hkL, List.forall_mem_cons.mpr ⟨h.1, hk1⟩, hc1, hc2⟩ (hn rfl) (by simp [am_en, Int32.ofInt_mul])
  all_goals exact h.elim
set_option maxHeartbeats 1000000 in
theorem am_s22 : am_OpS l base sa cs D E 22 am_o22 := by
  intro k ip pc a b cp pl hrow bd ls st m Q h
  obtain ⟨⟨il, ht, hd, hn⟩, hpc, hside, hword, hjmp, hsw⟩ := am_dec hrow
  unfold am_o22 at h
  obtain rfl := Option.some.inj ht
  split at h
  next y x st =>
    refine am_intro hpc ?_
    intro p e S mm args below meth c H locs cells slots lsA hI
    obtain ⟨hC, hG, hS, hB, hR, hz, hL, hkL, hkS, hc1, hc2⟩ := id hI
    obtain ⟨hx, hb, hr, hml, hown, hts, hlk, hini⟩ := id hC
    have vy := (List.forall_mem_cons.mp hkS).1
    have hk0 := (List.forall_mem_cons.mp hkS).2
    have vx := (List.forall_mem_cons.mp hk0).1
    have hk1 := (List.forall_mem_cons.mp hk0).2
    refine lv_idiv hx hb hd (am_ne0 vy h.1) ?_
    exact am_fin h.2 ⟨hC, hG, hS, hB, hR, hz, hL, hkL, List.forall_mem_cons.mpr ⟨(am_div32 vx vy h.1).1, hk1⟩, hc1, hc2⟩ (hn rfl) (by simp only [List.map_cons, am_en, (am_div32 vx vy h.1).2])
  all_goals exact h.elim
set_option maxHeartbeats 1000000 in
theorem am_s23 : am_OpS l base sa cs D E 23 am_o23 := by
  intro k ip pc a b cp pl hrow bd ls st m Q h
  obtain ⟨⟨il, ht, hd, hn⟩, hpc, hside, hword, hjmp, hsw⟩ := am_dec hrow
  unfold am_o23 at h
  obtain rfl := Option.some.inj ht
  split at h
  next y x st =>
    refine am_intro hpc ?_
    intro p e S mm args below meth c H locs cells slots lsA hI
    obtain ⟨hC, hG, hS, hB, hR, hz, hL, hkL, hkS, hc1, hc2⟩ := id hI
    obtain ⟨hx, hb, hr, hml, hown, hts, hlk, hini⟩ := id hC
    have vy := (List.forall_mem_cons.mp hkS).1
    have hk0 := (List.forall_mem_cons.mp hkS).2
    have vx := (List.forall_mem_cons.mp hk0).1
    have hk1 := (List.forall_mem_cons.mp hk0).2
    refine lv_irem hx hb hd (am_ne0 vy h.1) ?_
    exact am_fin h.2 ⟨hC, hG, hS, hB, hR, hz, hL, hkL, List.forall_mem_cons.mpr ⟨(am_rem32 vx vy h.1).1, hk1⟩, hc1, hc2⟩ (hn rfl) (by simp only [List.map_cons, am_en, (am_rem32 vx vy h.1).2])
  all_goals exact h.elim
set_option maxHeartbeats 1000000 in
theorem am_s24 : am_OpS l base sa cs D E 24 am_o24 := by
  intro k ip pc a b cp pl hrow bd ls st m Q h
  obtain ⟨⟨il, ht, hd, hn⟩, hpc, hside, hword, hjmp, hsw⟩ := am_dec hrow
  unfold am_o24 at h
  obtain rfl := Option.some.inj ht
  split at h
  next x st =>
    refine am_intro hpc ?_
    intro p e S mm args below meth c H locs cells slots lsA hI
    obtain ⟨hC, hG, hS, hB, hR, hz, hL, hkL, hkS, hc1, hc2⟩ := id hI
    obtain ⟨hx, hb, hr, hml, hown, hts, hlk, hini⟩ := id hC
    have vx := (List.forall_mem_cons.mp hkS).1
    have hk0 := (List.forall_mem_cons.mp hkS).2
    refine lv_ineg hx hb hd ?_
    exact am_fin h.2 ⟨hC, hG, hS, hB, hR, hz, hL, hkL, List.forall_mem_cons.mpr ⟨h.1, hk0⟩, hc1, hc2⟩ (hn rfl) (by simp [am_en, Int32.ofInt_neg])
  all_goals exact h.elim
set_option maxHeartbeats 1000000 in
theorem am_s25 : am_OpS l base sa cs D E 25 am_o25 := by
  intro k ip pc a b cp pl hrow bd ls st m Q h
  obtain ⟨⟨il, ht, hd, hn⟩, hpc, hside, hword, hjmp, hsw⟩ := am_dec hrow
  unfold am_o25 at h
  obtain rfl := Option.some.inj ht
  split at h
  next y x st =>
    refine am_intro hpc ?_
    intro p e S mm args below meth c H locs cells slots lsA hI
    obtain ⟨hC, hG, hS, hB, hR, hz, hL, hkL, hkS, hc1, hc2⟩ := id hI
    obtain ⟨hx, hb, hr, hml, hown, hts, hlk, hini⟩ := id hC
    have vy := (List.forall_mem_cons.mp hkS).1
    have hk0 := (List.forall_mem_cons.mp hkS).2
    have vx := (List.forall_mem_cons.mp hk0).1
    have hk1 := (List.forall_mem_cons.mp hk0).2
    refine lv_iand hx hb hd ?_
    exact am_fin h ⟨hC, hG, hS, hB, hR, hz, hL, hkL, List.forall_mem_cons.mpr ⟨am_rg32 _, hk1⟩, hc1, hc2⟩ (hn rfl) (by simp [am_en, am_and, am_ofTi])
  all_goals exact h.elim
set_option maxHeartbeats 1000000 in
theorem am_s26 : am_OpS l base sa cs D E 26 am_o26 := by
  intro k ip pc a b cp pl hrow bd ls st m Q h
  obtain ⟨⟨il, ht, hd, hn⟩, hpc, hside, hword, hjmp, hsw⟩ := am_dec hrow
  unfold am_o26 at h
  obtain rfl := Option.some.inj ht
  split at h
  next y x st =>
    refine am_intro hpc ?_
    intro p e S mm args below meth c H locs cells slots lsA hI
    obtain ⟨hC, hG, hS, hB, hR, hz, hL, hkL, hkS, hc1, hc2⟩ := id hI
    obtain ⟨hx, hb, hr, hml, hown, hts, hlk, hini⟩ := id hC
    have vy := (List.forall_mem_cons.mp hkS).1
    have hk0 := (List.forall_mem_cons.mp hkS).2
    have vx := (List.forall_mem_cons.mp hk0).1
    have hk1 := (List.forall_mem_cons.mp hk0).2
    refine lv_ior hx hb hd ?_
    exact am_fin h ⟨hC, hG, hS, hB, hR, hz, hL, hkL, List.forall_mem_cons.mpr ⟨am_rg32 _, hk1⟩, hc1, hc2⟩ (hn rfl) (by simp [am_en, am_or, am_ofTi])
  all_goals exact h.elim
set_option maxHeartbeats 1000000 in
theorem am_s27 : am_OpS l base sa cs D E 27 am_o27 := by
  intro k ip pc a b cp pl hrow bd ls st m Q h
  obtain ⟨⟨il, ht, hd, hn⟩, hpc, hside, hword, hjmp, hsw⟩ := am_dec hrow
  unfold am_o27 at h
  obtain rfl := Option.some.inj ht
  split at h
  next y x st =>
    refine am_intro hpc ?_
    intro p e S mm args below meth c H locs cells slots lsA hI
    obtain ⟨hC, hG, hS, hB, hR, hz, hL, hkL, hkS, hc1, hc2⟩ := id hI
    obtain ⟨hx, hb, hr, hml, hown, hts, hlk, hini⟩ := id hC
    have vy := (List.forall_mem_cons.mp hkS).1
    have hk0 := (List.forall_mem_cons.mp hkS).2
    have vx := (List.forall_mem_cons.mp hk0).1
    have hk1 := (List.forall_mem_cons.mp hk0).2
    refine lv_ishl hx hb hd ?_
    exact am_fin h ⟨hC, hG, hS, hB, hR, hz, hL, hkL, List.forall_mem_cons.mpr ⟨am_rg32 _, hk1⟩, hc1, hc2⟩ (hn rfl) (by simp [am_en, am_shl, am_ofTi])
  all_goals exact h.elim
theorem am_s90 : am_OpS l base sa cs D E 90 am_o90 := by
  intro k ip pc a b cp pl hrow bd ls st m Q h
  obtain ⟨⟨il, ht, hd, hn⟩, hpc, hside, hword, hjmp, hsw⟩ := am_dec hrow
  unfold am_o90 at h
  obtain rfl := Option.some.inj ht
  split at h
  next y x st =>
    refine am_intro hpc ?_
    intro p e S mm args below meth c H locs cells slots lsA hI
    obtain ⟨hC, hG, hS, hB, hR, hz, hL, hkL, hkS, hc1, hc2⟩ := id hI
    obtain ⟨hx, hb, hr, hml, hown, hts, hlk, hini⟩ := id hC
    have vy := (List.forall_mem_cons.mp hkS).1
    have hk0 := (List.forall_mem_cons.mp hkS).2
    have vx := (List.forall_mem_cons.mp hk0).1
    have hk1 := (List.forall_mem_cons.mp hk0).2
    refine lv_ishr hx hb hd ?_
    exact am_fin h ⟨hC, hG, hS, hB, hR, hz, hL, hkL, List.forall_mem_cons.mpr ⟨am_rg32 _, hk1⟩, hc1, hc2⟩ (hn rfl) (by simp [am_en, am_shr, am_ofTi])
  all_goals exact h.elim
set_option maxHeartbeats 1000000 in
theorem am_s28 : am_OpS l base sa cs D E 28 am_o28 := by
  intro k ip pc a b cp pl hrow bd ls st m Q h
  obtain ⟨⟨il, ht, hd, hn⟩, hpc, hside, hword, hjmp, hsw⟩ := am_dec hrow
  unfold am_o28 at h
  obtain rfl := Option.some.inj ht
  split at h
  next x st =>
    refine am_intro hpc ?_
    intro p e S mm args below meth c H locs cells slots lsA hI
    obtain ⟨hC, hG, hS, hB, hR, hz, hL, hkL, hkS, hc1, hc2⟩ := id hI
    obtain ⟨hx, hb, hr, hml, hown, hts, hlk, hini⟩ := id hC
    have vx := (List.forall_mem_cons.mp hkS).1
    have hk0 := (List.forall_mem_cons.mp hkS).2
    refine lv_i2b hx hb hd rfl ?_
    exact am_fin h ⟨hC, hG, hS, hB, hR, hz, hL, hkL, List.forall_mem_cons.mpr ⟨am_rg32 _, hk0⟩, hc1, hc2⟩ (hn rfl) (by simp only [List.map_cons, am_en, am_i2b, am_ofTi])
  all_goals exact h.elim
set_option maxHeartbeats 1000000 in
theorem am_s29 : am_OpS l base sa cs D E 29 am_o29 := by
  intro k ip pc a b cp pl hrow bd ls st m Q h
  obtain ⟨⟨il, ht, hd, hn⟩, hpc, hside, hword, hjmp, hsw⟩ := am_dec hrow
  unfold am_o29 at h
  obtain rfl := Option.some.inj ht
  split at h
  next x st =>
    refine am_intro hpc ?_
    intro p e S mm args below meth c H locs cells slots lsA hI
    obtain ⟨hC, hG, hS, hB, hR, hz, hL, hkL, hkS, hc1, hc2⟩ := id hI
    obtain ⟨hx, hb, hr, hml, hown, hts, hlk, hini⟩ := id hC
    have vx := (List.forall_mem_cons.mp hkS).1
    have hk0 := (List.forall_mem_cons.mp hkS).2
    refine lv_i2l hx hb hd rfl ?_
    exact am_fin h ⟨hC, hG, hS, hB, hR, hz, hL, hkL, List.forall_mem_cons.mpr ⟨trivial, hk0⟩, hc1, hc2⟩ (hn rfl) (by rfl)
  all_goals exact h.elim
set_option maxHeartbeats 1000000 in
theorem am_s30 : am_OpS l base sa cs D E 30 am_o30 := by
  intro k ip pc a b cp pl hrow bd ls st m Q h
  obtain ⟨⟨il, ht, hd, hn⟩, hpc, hside, hword, hjmp, hsw⟩ := am_dec hrow
  unfold am_o30 at h
  obtain rfl := Option.some.inj ht
  split at h
  next x st =>
    refine am_intro hpc ?_
    intro p e S mm args below meth c H locs cells slots lsA hI
    obtain ⟨hC, hG, hS, hB, hR, hz, hL, hkL, hkS, hc1, hc2⟩ := id hI
    obtain ⟨hx, hb, hr, hml, hown, hts, hlk, hini⟩ := id hC
    have vx := (List.forall_mem_cons.mp hkS).1
    have hk0 := (List.forall_mem_cons.mp hkS).2
    refine lv_i2f hx hb hd ?_
    exact am_fin h ⟨hC, hG, hS, hB, hR, hz, hL, hkL, List.forall_mem_cons.mpr ⟨trivial, hk0⟩, hc1, hc2⟩ (hn rfl) (by rfl)
  all_goals exact h.elim
set_option maxHeartbeats 1000000 in
theorem am_s31 : am_OpS l base sa cs D E 31 am_o31 := by
  intro k ip pc a b cp pl hrow bd ls st m Q h
  obtain ⟨⟨il, ht, hd, hn⟩, hpc, hside, hword, hjmp, hsw⟩ := am_dec hrow
  unfold am_o31 at h
  obtain rfl := Option.some.inj ht
  split at h
  next x st =>
    refine am_intro hpc ?_
    intro p e S mm args below meth c H locs cells slots lsA hI
    obtain ⟨hC, hG, hS, hB, hR, hz, hL, hkL, hkS, hc1, hc2⟩ := id hI
    obtain ⟨hx, hb, hr, hml, hown, hts, hlk, hini⟩ := id hC
    have vx := (List.forall_mem_cons.mp hkS).1
    have hk0 := (List.forall_mem_cons.mp hkS).2
    refine lv_f2i hx hb hd ?_
    exact am_fin h ⟨hC, hG, hS, hB, hR, hz, hL, hkL, List.forall_mem_cons.mpr ⟨am_rg32 _, hk0⟩, hc1, hc2⟩ (hn rfl) (by simp [am_en, am_f2i, am_ofTi])
  all_goals exact h.elim
set_option maxHeartbeats 1000000 in
theorem am_s32 : am_OpS l base sa cs D E 32 am_o32 := by
  intro k ip pc a b cp pl hrow bd ls st m Q h
  obtain ⟨⟨il, ht, hd, hn⟩, hpc, hside, hword, hjmp, hsw⟩ := am_dec hrow
  unfold am_o32 at h
  obtain rfl := Option.some.inj ht
  split at h
  next y x st =>
    refine am_intro hpc ?_
    intro p e S mm args below meth c H locs cells slots lsA hI
    obtain ⟨hC, hG, hS, hB, hR, hz, hL, hkL, hkS, hc1, hc2⟩ := id hI
    obtain ⟨hx, hb, hr, hml, hown, hts, hlk, hini⟩ := id hC
    have vy := (List.forall_mem_cons.mp hkS).1
    have hk0 := (List.forall_mem_cons.mp hkS).2
    have vx := (List.forall_mem_cons.mp hk0).1
    have hk1 := (List.forall_mem_cons.mp hk0).2
    refine lv_ladd hx hb hd ?_
    exact am_fin h ⟨hC, hG, hS, hB, hR, hz, hL, hkL, List.forall_mem_cons.mpr ⟨trivial, hk1⟩, hc1, hc2⟩ (hn rfl) (by rfl)
  all_goals exact h.elim
set_option maxHeartbeats 1000000 in
theorem am_s33 : am_OpS l base sa cs D E 33 am_o33 := by
  intro k ip pc a b cp pl hrow bd ls st m Q h
  obtain ⟨⟨il, ht, hd, hn⟩, hpc, hside, hword, hjmp, hsw⟩ := am_dec hrow
  unfold am_o33 at h
  obtain rfl := Option.some.inj ht
  split at h
  next y x st =>
    refine am_intro hpc ?_
    intro p e S mm args below meth c H locs cells slots lsA hI
    obtain ⟨hC, hG, hS, hB, hR, hz, hL, hkL, hkS, hc1, hc2⟩ := id hI
    obtain ⟨hx, hb, hr, hml, hown, hts, hlk, hini⟩ := id hC
    have vy := (List.forall_mem_cons.mp hkS).1
    have hk0 := (List.forall_mem_cons.mp hkS).2
    have vx := (List.forall_mem_cons.mp hk0).1
    have hk1 := (List.forall_mem_cons.mp hk0).2
    refine lv_lmul hx hb hd ?_
    exact am_fin h ⟨hC, hG, hS, hB, hR, hz, hL, hkL, List.forall_mem_cons.mpr ⟨trivial, hk1⟩, hc1, hc2⟩ (hn rfl) (by rfl)
  all_goals exact h.elim
set_option maxHeartbeats 1000000 in
theorem am_s34 : am_OpS l base sa cs D E 34 am_o34 := by
  intro k ip pc a b cp pl hrow bd ls st m Q h
  obtain ⟨⟨il, ht, hd, hn⟩, hpc, hside, hword, hjmp, hsw⟩ := am_dec hrow
  unfold am_o34 at h
  obtain rfl := Option.some.inj ht
  split at h
  next y x st =>
    refine am_intro hpc ?_
    intro p e S mm args below meth c H locs cells slots lsA hI
    obtain ⟨hC, hG, hS, hB, hR, hz, hL, hkL, hkS, hc1, hc2⟩ := id hI
    obtain ⟨hx, hb, hr, hml, hown, hts, hlk, hini⟩ := id hC
    have vy := (List.forall_mem_cons.mp hkS).1
    have hk0 := (List.forall_mem_cons.mp hkS).2
    have vx := (List.forall_mem_cons.mp hk0).1
    have hk1 := (List.forall_mem_cons.mp hk0).2
    refine W.lcmp hx hb hd ?_
    exact am_fin h ⟨hC, hG, hS, hB, hR, hz, hL, hkL, List.forall_mem_cons.mpr ⟨am_rg32 _, hk1⟩, hc1, hc2⟩ (hn rfl) (by simp [am_en, am_lcm, am_ofTi])
  all_goals exact h.elim
set_option maxHeartbeats 1000000 in
theorem am_s35 : am_OpS l base sa cs D E 35 am_o35 := by
  intro k ip pc a b cp pl hrow bd ls st m Q h
  obtain ⟨⟨il, ht, hd, hn⟩, hpc, hside, hword, hjmp, hsw⟩ := am_dec hrow
  unfold am_o35 at h
  obtain rfl := Option.some.inj ht
  split at h
  next y x st =>
    refine am_intro hpc ?_
    intro p e S mm args below meth c H locs cells slots lsA hI
    obtain ⟨hC, hG, hS, hB, hR, hz, hL, hkL, hkS, hc1, hc2⟩ := id hI
    obtain ⟨hx, hb, hr, hml, hown, hts, hlk, hini⟩ := id hC
    have vy := (List.forall_mem_cons.mp hkS).1
    have hk0 := (List.forall_mem_cons.mp hkS).2
    have vx := (List.forall_mem_cons.mp hk0).1
    have hk1 := (List.forall_mem_cons.mp hk0).2
    refine lv_fmul hx hb hd h.1 ?_
    exact am_fin h.2 ⟨hC, hG, hS, hB, hR, hz, hL, hkL, List.forall_mem_cons.mpr ⟨trivial, hk1⟩, hc1, hc2⟩ (hn rfl) (by rfl)
  all_goals exact h.elim
set_option maxHeartbeats 1000000 in
theorem am_s36 : am_OpS l base sa cs D E 36 am_o36 := by
  intro k ip pc a b cp pl hrow bd ls st m Q h
  obtain ⟨⟨il, ht, hd, hn⟩, hpc, hside, hword, hjmp, hsw⟩ := am_dec hrow
  unfold am_o36 at h
  obtain rfl := Option.some.inj ht
  split at h
  next y x st =>
    refine am_intro hpc ?_
    intro p e S mm args below meth c H locs cells slots lsA hI
    obtain ⟨hC, hG, hS, hB, hR, hz, hL, hkL, hkS, hc1, hc2⟩ := id hI
    obtain ⟨hx, hb, hr, hml, hown, hts, hlk, hini⟩ := id hC
    have vy := (List.forall_mem_cons.mp hkS).1
    have hk0 := (List.forall_mem_cons.mp hkS).2
    have vx := (List.forall_mem_cons.mp hk0).1
    have hk1 := (List.forall_mem_cons.mp hk0).2
    refine lv_fdiv hx hb hd h.1 ?_
    exact am_fin h.2 ⟨hC, hG, hS, hB, hR, hz, hL, hkL, List.forall_mem_cons.mpr ⟨trivial, hk1⟩, hc1, hc2⟩ (hn rfl) (by rfl)
  all_goals exact h.elim
set_option maxHeartbeats 1000000 in
theorem am_s37 : am_OpS l base sa cs D E 37 am_o37 := by
  intro k ip pc a b cp pl hrow bd ls st m Q h
  obtain ⟨⟨il, ht, hd, hn⟩, hpc, hside, hword, hjmp, hsw⟩ := am_dec hrow
  unfold am_o37 at h
  obtain rfl := Option.some.inj ht
  split at h
  next y x st =>
    refine am_intro hpc ?_
    intro p e S mm args below meth c H locs cells slots lsA hI
    obtain ⟨hC, hG, hS, hB, hR, hz, hL, hkL, hkS, hc1, hc2⟩ := id hI
    obtain ⟨hx, hb, hr, hml, hown, hts, hlk, hini⟩ := id hC
    have vy := (List.forall_mem_cons.mp hkS).1
    have hk0 := (List.forall_mem_cons.mp hkS).2
    have vx := (List.forall_mem_cons.mp hk0).1
    have hk1 := (List.forall_mem_cons.mp hk0).2
    refine lv_fsub hx hb hd h.1 ?_
    exact am_fin h.2 ⟨hC, hG, hS, hB, hR, hz, hL, hkL, List.forall_mem_cons.mpr ⟨trivial, hk1⟩, hc1, hc2⟩ (hn rfl) (by rfl)
  all_goals exact h.elim
set_option maxHeartbeats 1000000 in
theorem am_s38 : am_OpS l base sa cs D E 38 am_o38 := by
  intro k ip pc a b cp pl hrow bd ls st m Q h
  obtain ⟨⟨il, ht, hd, hn⟩, hpc, hside, hword, hjmp, hsw⟩ := am_dec hrow
  unfold am_o38 at h
  split at h
  next y x st =>
    refine am_intro hpc ?_
    intro p e S mm args below meth c H locs cells slots lsA hI
    obtain ⟨hC, hG, hS, hB, hR, hz, hL, hkL, hkS, hc1, hc2⟩ := id hI
    obtain ⟨hx, hb, hr, hml, hown, hts, hlk, hini⟩ := id hC
    have hk1 := (List.forall_mem_cons.mp (List.forall_mem_cons.mp hkS).2).2
    simp only [am_toI] at ht
    split at ht
    · rename_i ha
      obtain rfl := Option.some.inj ht
      refine lv_fcmp hx hb hd ?_
      exact am_fin h ⟨hC, hG, hS, hB, hR, hz, hL, hkL, List.forall_mem_cons.mpr ⟨am_rg32 _, hk1⟩, hc1, hc2⟩ (hn rfl) (by simp [am_en, am_fcm, am_ofTi, ha])
    · rename_i ha
      obtain rfl := Option.some.inj ht
      refine lv_fcmp hx hb hd ?_
      exact am_fin h ⟨hC, hG, hS, hB, hR, hz, hL, hkL, List.forall_mem_cons.mpr ⟨am_rg32 _, hk1⟩, hc1, hc2⟩ (hn rfl) (by simp [am_en, am_fcm, am_ofTi, ha])
  all_goals exact h.elim
set_option maxHeartbeats 1000000 in
theorem am_s39 : am_OpS l base sa cs D E 39 am_o39 := by
  intro k ip pc a b cp pl hrow bd ls st m Q h
  obtain ⟨⟨il, ht, hd, hn⟩, hpc, hside, hword, hjmp, hsw⟩ := am_dec hrow
  unfold am_o39 at h
  obtain rfl := Option.some.inj ht
  refine am_intro hpc ?_
  intro p e S mm args below meth c H locs cells slots lsA hI
  obtain ⟨hC, hG, hS, hB, hR, hz, hL, hkL, hkS, hc1, hc2⟩ := id hI
  obtain ⟨hx, hb, hr, hml, hown, hts, hlk, hini⟩ := id hC
  exact lv_goto hx hb hd (hjmp (by decide)) (am_fin h ⟨hC, hG, hS, hB, hR, hz, hL, hkL, hkS, hc1, hc2⟩ rfl rfl)
set_option maxHeartbeats 1000000 in
theorem am_s40 : am_OpS l base sa cs D E 40 am_o40 := by
  intro k ip pc a b cp pl hrow bd ls st m Q h
  obtain ⟨⟨il, ht, hd, hn⟩, hpc, hside, hword, hjmp, hsw⟩ := am_dec hrow
  unfold am_o40 at h
  obtain rfl := Option.some.inj ht
  split at h
  next x st =>
    refine am_intro hpc ?_
    intro p e S mm args below meth c H locs cells slots lsA hI
    obtain ⟨hC, hG, hS, hB, hR, hz, hL, hkL, hkS, hc1, hc2⟩ := id hI
    obtain ⟨hx, hb, hr, hml, hown, hts, hlk, hini⟩ := id hC
    have vx := (List.forall_mem_cons.mp hkS).1
    have hk := (List.forall_mem_cons.mp hkS).2
    exact lv_if_eq hx hb hd (hjmp (by decide)) (fun cc => am_fin (h.1 ((am_eq32 vx am_rg0).mp cc)) ⟨hC, hG, hS, hB, hR, hz, hL, hkL, hk, hc1, hc2⟩ rfl rfl) (fun cc => am_fin (h.2 (fun z => cc ((am_eq32 vx am_rg0).mpr z))) ⟨hC, hG, hS, hB, hR, hz, hL, hkL, hk, hc1, hc2⟩ (hn rfl) rfl)
  all_goals exact h.elim
set_option maxHeartbeats 1000000 in
theorem am_s41 : am_OpS l base sa cs D E 41 am_o41 := by
  intro k ip pc a b cp pl hrow bd ls st m Q h
  obtain ⟨⟨il, ht, hd, hn⟩, hpc, hside, hword, hjmp, hsw⟩ := am_dec hrow
  unfold am_o41 at h
  obtain rfl := Option.some.inj ht
  split at h
  next x st =>
    refine am_intro hpc ?_
    intro p e S mm args below meth c H locs cells slots lsA hI
    obtain ⟨hC, hG, hS, hB, hR, hz, hL, hkL, hkS, hc1, hc2⟩ := id hI
    obtain ⟨hx, hb, hr, hml, hown, hts, hlk, hini⟩ := id hC
    have vx := (List.forall_mem_cons.mp hkS).1
    have hk := (List.forall_mem_cons.mp hkS).2
    exact lv_if_ne hx hb hd (hjmp (by decide)) (fun cc => am_fin (h.2 (fun z => cc ((am_eq32 vx am_rg0).mpr z))) ⟨hC, hG, hS, hB, hR, hz, hL, hkL, hk, hc1, hc2⟩ rfl rfl) (fun cc => am_fin (h.1 ((am_eq32 vx am_rg0).mp cc)) ⟨hC, hG, hS, hB, hR, hz, hL, hkL, hk, hc1, hc2⟩ (hn rfl) rfl)
  all_goals exact h.elim
set_option maxHeartbeats 1000000 in
theorem am_s42 : am_OpS l base sa cs D E 42 am_o42 := by
  intro k ip pc a b cp pl hrow bd ls st m Q h
  obtain ⟨⟨il, ht, hd, hn⟩, hpc, hside, hword, hjmp, hsw⟩ := am_dec hrow
  unfold am_o42 at h
  obtain rfl := Option.some.inj ht
  split at h
  next x st =>
    refine am_intro hpc ?_
    intro p e S mm args below meth c H locs cells slots lsA hI
    obtain ⟨hC, hG, hS, hB, hR, hz, hL, hkL, hkS, hc1, hc2⟩ := id hI
    obtain ⟨hx, hb, hr, hml, hown, hts, hlk, hini⟩ := id hC
    have vx := (List.forall_mem_cons.mp hkS).1
    have hk := (List.forall_mem_cons.mp hkS).2
    exact lv_if_lt hx hb hd (hjmp (by decide)) (fun cc => am_fin (h.1 ((am_lt32 vx am_rg0).mp cc)) ⟨hC, hG, hS, hB, hR, hz, hL, hkL, hk, hc1, hc2⟩ rfl rfl) (fun cc => am_fin (h.2 (fun z => cc ((am_lt32 vx am_rg0).mpr z))) ⟨hC, hG, hS, hB, hR, hz, hL, hkL, hk, hc1, hc2⟩ (hn rfl) rfl)
  all_goals exact h.elim
set_option maxHeartbeats 1000000 in
theorem am_s43 : am_OpS l base sa cs D E 43 am_o43 := by
  intro k ip pc a b cp pl hrow bd ls st m Q h
  obtain ⟨⟨il, ht, hd, hn⟩, hpc, hside, hword, hjmp, hsw⟩ := am_dec hrow
  unfold am_o43 at h
  obtain rfl := Option.some.inj ht
  split at h
  next x st =>
    refine am_intro hpc ?_
    intro p e S mm args below meth c H locs cells slots lsA hI
    obtain ⟨hC, hG, hS, hB, hR, hz, hL, hkL, hkS, hc1, hc2⟩ := id hI
    obtain ⟨hx, hb, hr, hml, hown, hts, hlk, hini⟩ := id hC
    have vx := (List.forall_mem_cons.mp hkS).1
    have hk := (List.forall_mem_cons.mp hkS).2
    exact lv_if_ge hx hb hd (hjmp (by decide)) (fun cc => am_fin (h.2 (am_nlt (am_lt32 vx am_rg0) cc)) ⟨hC, hG, hS, hB, hR, hz, hL, hkL, hk, hc1, hc2⟩ rfl rfl) (fun cc => am_fin (h.1 (am_ylt (am_lt32 vx am_rg0) cc)) ⟨hC, hG, hS, hB, hR, hz, hL, hkL, hk, hc1, hc2⟩ (hn rfl) rfl)
  all_goals exact h.elim
set_option maxHeartbeats 1000000 in
theorem am_s44 : am_OpS l base sa cs D E 44 am_o44 := by
  intro k ip pc a b cp pl hrow bd ls st m Q h
  obtain ⟨⟨il, ht, hd, hn⟩, hpc, hside, hword, hjmp, hsw⟩ := am_dec hrow
  unfold am_o44 at h
  obtain rfl := Option.some.inj ht
  split at h
  next x st =>
    refine am_intro hpc ?_
    intro p e S mm args below meth c H locs cells slots lsA hI
    obtain ⟨hC, hG, hS, hB, hR, hz, hL, hkL, hkS, hc1, hc2⟩ := id hI
    obtain ⟨hx, hb, hr, hml, hown, hts, hlk, hini⟩ := id hC
    have vx := (List.forall_mem_cons.mp hkS).1
    have hk := (List.forall_mem_cons.mp hkS).2
    exact lv_if_gt hx hb hd (hjmp (by decide)) (fun cc => am_fin (h.1 ((am_lt32 am_rg0 vx).mp cc)) ⟨hC, hG, hS, hB, hR, hz, hL, hkL, hk, hc1, hc2⟩ rfl rfl) (fun cc => am_fin (h.2 (fun z => cc ((am_lt32 am_rg0 vx).mpr z))) ⟨hC, hG, hS, hB, hR, hz, hL, hkL, hk, hc1, hc2⟩ (hn rfl) rfl)
  all_goals exact h.elim
set_option maxHeartbeats 1000000 in
theorem am_s45 : am_OpS l base sa cs D E 45 am_o45 := by
  intro k ip pc a b cp pl hrow bd ls st m Q h
  obtain ⟨⟨il, ht, hd, hn⟩, hpc, hside, hword, hjmp, hsw⟩ := am_dec hrow
  unfold am_o45 at h
  obtain rfl := Option.some.inj ht
  split at h
  next x st =>
    refine am_intro hpc ?_
    intro p e S mm args below meth c H locs cells slots lsA hI
    obtain ⟨hC, hG, hS, hB, hR, hz, hL, hkL, hkS, hc1, hc2⟩ := id hI
    obtain ⟨hx, hb, hr, hml, hown, hts, hlk, hini⟩ := id hC
    have vx := (List.forall_mem_cons.mp hkS).1
    have hk := (List.forall_mem_cons.mp hkS).2
    exact lv_if_le hx hb hd (hjmp (by decide)) (fun cc => am_fin (h.2 (am_nlt (am_lt32 am_rg0 vx) cc)) ⟨hC, hG, hS, hB, hR, hz, hL, hkL, hk, hc1, hc2⟩ rfl rfl) (fun cc => am_fin (h.1 (am_ylt (am_lt32 am_rg0 vx) cc)) ⟨hC, hG, hS, hB, hR, hz, hL, hkL, hk, hc1, hc2⟩ (hn rfl) rfl)
  all_goals exact h.elim
set_option maxHeartbeats 1000000 in
theorem am_s46 : am_OpS l base sa cs D E 46 am_o46 := by
  intro k ip pc a b cp pl hrow bd ls st m Q h
  obtain ⟨⟨il, ht, hd, hn⟩, hpc, hside, hword, hjmp, hsw⟩ := am_dec hrow
  unfold am_o46 at h
  obtain rfl := Option.some.inj ht
  split at h
  next y x st =>
    refine am_intro hpc ?_
    intro p e S mm args below meth c H locs cells slots lsA hI
    obtain ⟨hC, hG, hS, hB, hR, hz, hL, hkL, hkS, hc1, hc2⟩ := id hI
    obtain ⟨hx, hb, hr, hml, hown, hts, hlk, hini⟩ := id hC
    have vy := (List.forall_mem_cons.mp hkS).1
    have vx := (List.forall_mem_cons.mp (List.forall_mem_cons.mp hkS).2).1
    have hk := (List.forall_mem_cons.mp (List.forall_mem_cons.mp hkS).2).2
    exact lv_icmp_eq hx hb hd (hjmp (by decide)) (fun cc => am_fin (h.1 ((am_eq32 vx vy).mp cc)) ⟨hC, hG, hS, hB, hR, hz, hL, hkL, hk, hc1, hc2⟩ rfl rfl) (fun cc => am_fin (h.2 (fun z => cc ((am_eq32 vx vy).mpr z))) ⟨hC, hG, hS, hB, hR, hz, hL, hkL, hk, hc1, hc2⟩ (hn rfl) rfl)
  all_goals exact h.elim
set_option maxHeartbeats 1000000 in
theorem am_s47 : am_OpS l base sa cs D E 47 am_o47 := by
  intro k ip pc a b cp pl hrow bd ls st m Q h
  obtain ⟨⟨il, ht, hd, hn⟩, hpc, hside, hword, hjmp, hsw⟩ := am_dec hrow
  unfold am_o47 at h
  obtain rfl := Option.some.inj ht
  split at h
  next y x st =>
    refine am_intro hpc ?_
    intro p e S mm args below meth c H locs cells slots lsA hI
    obtain ⟨hC, hG, hS, hB, hR, hz, hL, hkL, hkS, hc1, hc2⟩ := id hI
    obtain ⟨hx, hb, hr, hml, hown, hts, hlk, hini⟩ := id hC
    have vy := (List.forall_mem_cons.mp hkS).1
    have vx := (List.forall_mem_cons.mp (List.forall_mem_cons.mp hkS).2).1
    have hk := (List.forall_mem_cons.mp (List.forall_mem_cons.mp hkS).2).2
    exact lv_icmp_ne hx hb hd (hjmp (by decide)) (fun cc => am_fin (h.2 (fun z => cc ((am_eq32 vx vy).mpr z))) ⟨hC, hG, hS, hB, hR, hz, hL, hkL, hk, hc1, hc2⟩ rfl rfl) (fun cc => am_fin (h.1 ((am_eq32 vx vy).mp cc)) ⟨hC, hG, hS, hB, hR, hz, hL, hkL, hk, hc1, hc2⟩ (hn rfl) rfl)
  all_goals exact h.elim
set_option maxHeartbeats 1000000 in
theorem am_s48 : am_OpS l base sa cs D E 48 am_o48 := by
  intro k ip pc a b cp pl hrow bd ls st m Q h
  obtain ⟨⟨il, ht, hd, hn⟩, hpc, hside, hword, hjmp, hsw⟩ := am_dec hrow
  unfold am_o48 at h
  obtain rfl := Option.some.inj ht
  split at h
  next y x st =>
    refine am_intro hpc ?_
    intro p e S mm args below meth c H locs cells slots lsA hI
    obtain ⟨hC, hG, hS, hB, hR, hz, hL, hkL, hkS, hc1, hc2⟩ := id hI
    obtain ⟨hx, hb, hr, hml, hown, hts, hlk, hini⟩ := id hC
    have vy := (List.forall_mem_cons.mp hkS).1
    have vx := (List.forall_mem_cons.mp (List.forall_mem_cons.mp hkS).2).1
    have hk := (List.forall_mem_cons.mp (List.forall_mem_cons.mp hkS).2).2
    exact lv_icmp_lt hx hb hd (hjmp (by decide)) (fun cc => am_fin (h.1 ((am_lt32 vx vy).mp cc)) ⟨hC, hG, hS, hB, hR, hz, hL, hkL, hk, hc1, hc2⟩ rfl rfl) (fun cc => am_fin (h.2 (fun z => cc ((am_lt32 vx vy).mpr z))) ⟨hC, hG, hS, hB, hR, hz, hL, hkL, hk, hc1, hc2⟩ (hn rfl) rfl)
  all_goals exact h.elim
set_option maxHeartbeats 1000000 in
theorem am_s49 : am_OpS l base sa cs D E 49 am_o49 := by
  intro k ip pc a b cp pl hrow bd ls st m Q h
  obtain ⟨⟨il, ht, hd, hn⟩, hpc, hside, hword, hjmp, hsw⟩ := am_dec hrow
  unfold am_o49 at h
  obtain rfl := Option.some.inj ht
  split at h
  next y x st =>
    refine am_intro hpc ?_
    intro p e S mm args below meth c H locs cells slots lsA hI
    obtain ⟨hC, hG, hS, hB, hR, hz, hL, hkL, hkS, hc1, hc2⟩ := id hI
    obtain ⟨hx, hb, hr, hml, hown, hts, hlk, hini⟩ := id hC
    have vy := (List.forall_mem_cons.mp hkS).1
    have vx := (List.forall_mem_cons.mp (List.forall_mem_cons.mp hkS).2).1
    have hk := (List.forall_mem_cons.mp (List.forall_mem_cons.mp hkS).2).2
    exact lv_icmp_ge hx hb hd (hjmp (by decide)) (fun cc => am_fin (h.2 (am_nlt (am_lt32 vx vy) cc)) ⟨hC, hG, hS, hB, hR, hz, hL, hkL, hk, hc1, hc2⟩ rfl rfl) (fun cc => am_fin (h.1 (am_ylt (am_lt32 vx vy) cc)) ⟨hC, hG, hS, hB, hR, hz, hL, hkL, hk, hc1, hc2⟩ (hn rfl) rfl)
  all_goals exact h.elim
set_option maxHeartbeats 1000000 in
theorem am_s50 : am_OpS l base sa cs D E 50 am_o50 := by
  intro k ip pc a b cp pl hrow bd ls st m Q h
  obtain ⟨⟨il, ht, hd, hn⟩, hpc, hside, hword, hjmp, hsw⟩ := am_dec hrow
  unfold am_o50 at h
  obtain rfl := Option.some.inj ht
  split at h
  next y x st =>
    refine am_intro hpc ?_
    intro p e S mm args below meth c H locs cells slots lsA hI
    obtain ⟨hC, hG, hS, hB, hR, hz, hL, hkL, hkS, hc1, hc2⟩ := id hI
    obtain ⟨hx, hb, hr, hml, hown, hts, hlk, hini⟩ := id hC
    have vy := (List.forall_mem_cons.mp hkS).1
    have vx := (List.forall_mem_cons.mp (List.forall_mem_cons.mp hkS).2).1
    have hk := (List.forall_mem_cons.mp (List.forall_mem_cons.mp hkS).2).2
    exact lv_icmp_gt hx hb hd (hjmp (by decide)) (fun cc => am_fin (h.1 ((am_lt32 vy vx).mp cc)) ⟨hC, hG, hS, hB, hR, hz, hL, hkL, hk, hc1, hc2⟩ rfl rfl) (fun cc => am_fin (h.2 (fun z => cc ((am_lt32 vy vx).mpr z))) ⟨hC, hG, hS, hB, hR, hz, hL, hkL, hk, hc1, hc2⟩ (hn rfl) rfl)
  all_goals exact h.elim
set_option maxHeartbeats 1000000 in
theorem am_s51 : am_OpS l base sa cs D E 51 am_o51 := by
  intro k ip pc a b cp pl hrow bd ls st m Q h
  obtain ⟨⟨il, ht, hd, hn⟩, hpc, hside, hword, hjmp, hsw⟩ := am_dec hrow
  unfold am_o51 at h
  obtain rfl := Option.some.inj ht
  split at h
  next y x st =>
    refine am_intro hpc ?_
    intro p e S mm args below meth c H locs cells slots lsA hI
    obtain ⟨hC, hG, hS, hB, hR, hz, hL, hkL, hkS, hc1, hc2⟩ := id hI
    obtain ⟨hx, hb, hr, hml, hown, hts, hlk, hini⟩ := id hC
    have vy := (List.forall_mem_cons.mp hkS).1
    have vx := (List.forall_mem_cons.mp (List.forall_mem_cons.mp hkS).2).1
    have hk := (List.forall_mem_cons.mp (List.forall_mem_cons.mp hkS).2).2
    exact lv_icmp_le hx hb hd (hjmp (by decide)) (fun cc => am_fin (h.2 (am_nlt (am_lt32 vy vx) cc)) ⟨hC, hG, hS, hB, hR, hz, hL, hkL, hk, hc1, hc2⟩ rfl rfl) (fun cc => am_fin (h.1 (am_ylt (am_lt32 vy vx) cc)) ⟨hC, hG, hS, hB, hR, hz, hL, hkL, hk, hc1, hc2⟩ (hn rfl) rfl)
  all_goals exact h.elim
set_option maxHeartbeats 1000000 in
theorem am_s52 : am_OpS l base sa cs D E 52 am_o52 := by
  intro k ip pc a b cp pl hrow bd ls st m Q h
  obtain ⟨⟨il, ht, hd, hn⟩, hpc, hside, hword, hjmp, hsw⟩ := am_dec hrow
  unfold am_o52 at h
  obtain rfl := Option.some.inj ht
  split at h
  next r st =>
    split at h
    · refine am_intro hpc ?_
      intro p e S mm args below meth c H locs cells slots lsA hI
      obtain ⟨hC, hG, hS, hB, hR, hz, hL, hkL, hkS, hc1, hc2⟩ := id hI
      obtain ⟨hx, hb, hr, hml, hown, hts, hlk, hini⟩ := id hC
      have hk := (List.forall_mem_cons.mp hkS).2
      exact lv_ifnullN hx hb hd (hjmp (by decide)) (am_fin h ⟨hC, hG, hS, hB, hR, hz, hL, hkL, hk, hc1, hc2⟩ rfl rfl)
    · refine am_intro hpc ?_
      intro p e S mm args below meth c H locs cells slots lsA hI
      obtain ⟨hC, hG, hS, hB, hR, hz, hL, hkL, hkS, hc1, hc2⟩ := id hI
      obtain ⟨hx, hb, hr, hml, hown, hts, hlk, hini⟩ := id hC
      have hk := (List.forall_mem_cons.mp hkS).2
      exact lv_ifnull hx hb hd (am_fin h ⟨hC, hG, hS, hB, hR, hz, hL, hkL, hk, hc1, hc2⟩ (hn rfl) rfl)
  all_goals exact h.elim
set_option maxHeartbeats 1000000 in
theorem am_s53 : am_OpS l base sa cs D E 53 am_o53 := by
  intro k ip pc a b cp pl hrow bd ls st m Q h
  obtain ⟨⟨il, ht, hd, hn⟩, hpc, hside, hword, hjmp, hsw⟩ := am_dec hrow
  unfold am_o53 at h
  obtain rfl := Option.some.inj ht
  split at h
  next r st =>
    split at h
    · refine am_intro hpc ?_
      intro p e S mm args below meth c H locs cells slots lsA hI
      obtain ⟨hC, hG, hS, hB, hR, hz, hL, hkL, hkS, hc1, hc2⟩ := id hI
      obtain ⟨hx, hb, hr, hml, hown, hts, hlk, hini⟩ := id hC
      have hk := (List.forall_mem_cons.mp hkS).2
      exact lv_ifnonnullN hx hb hd (am_fin h ⟨hC, hG, hS, hB, hR, hz, hL, hkL, hk, hc1, hc2⟩ (hn rfl) rfl)
    · refine am_intro hpc ?_
      intro p e S mm args below meth c H locs cells slots lsA hI
      obtain ⟨hC, hG, hS, hB, hR, hz, hL, hkL, hkS, hc1, hc2⟩ := id hI
      obtain ⟨hx, hb, hr, hml, hown, hts, hlk, hini⟩ := id hC
      have hk := (List.forall_mem_cons.mp hkS).2
      exact lv_ifnonnull hx hb hd (hjmp (by decide)) (am_fin h ⟨hC, hG, hS, hB, hR, hz, hL, hkL, hk, hc1, hc2⟩ rfl rfl)
  all_goals exact h.elim
set_option maxHeartbeats 1000000 in
theorem am_s54 : am_OpS l base sa cs D E 54 am_o54 := by
  intro k ip pc a b cp pl hrow bd ls st m Q h
  obtain ⟨⟨il, ht, hd, hn⟩, hpc, hside, hword, hjmp, hsw⟩ := am_dec hrow
  unfold am_o54 at h
  split at h
  next x st =>
    refine am_intro hpc ?_
    intro p e S mm args below meth c H locs cells slots lsA hI
    obtain ⟨hC, hG, hS, hB, hR, hz, hL, hkL, hkS, hc1, hc2⟩ := id hI
    obtain ⟨hx, hb, hr, hml, hown, hts, hlk, hini⟩ := id hC
    have vx := (List.forall_mem_cons.mp hkS).1
    have hk := (List.forall_mem_cons.mp hkS).2
    obtain ⟨lo, tg, d, of, dd, ln, e1, e2, e3, e4⟩ := hsw rfl
    simp only [am_toI, e1] at ht
    obtain rfl := Option.some.inj ht
    simp only [am_swt, e1] at h
    by_cases hlo : lo ≤ x
    · rw [if_pos hlo] at h
      cases hj : am_nth tg (x - lo).toNat with
      | none =>
        simp only [hj] at h
        have hj2 : tg.length ≤ (x - lo).toNat := by
          rw [am_nth_eq] at hj
          exact List.getElem?_eq_none_iff.mp hj
        exact lv_tableOut hx hb hd (Or.inr (by rw [am_ti vx]; omega)) e4 (am_fin h ⟨hC, hG, hS, hB, hR, hz, hL, hkL, hk, hc1, hc2⟩ rfl rfl)
      | some t =>
        simp only [hj] at h
        have hj2 : (x - lo).toNat < tg.length := by
          rw [am_nth_eq] at hj
          exact (List.getElem?_eq_some_iff.mp hj).1
        have hof : of[(x - lo).toNat]? = some ((am_pc k t : Int) - pc) := am_swof e3 (by rw [← am_nth_eq]; exact hj)
        exact lv_tableIn (off := (am_pc k t : Int) - pc) (tgt := am_pc k t) hx hb hd (by rw [am_ti vx]; omega) (by rw [am_ti vx]; omega) (by rw [am_ti vx]; simpa using hof) (by omega) (am_fin h ⟨hC, hG, hS, hB, hR, hz, hL, hkL, hk, hc1, hc2⟩ rfl rfl)
    · rw [if_neg hlo] at h
      exact lv_tableOut hx hb hd (Or.inl (by rw [am_ti vx]; omega)) e4 (am_fin h ⟨hC, hG, hS, hB, hR, hz, hL, hkL, hk, hc1, hc2⟩ rfl rfl)
  all_goals exact h.elim
end SND1
end
section
def am_lpl : List (List Nat) := [[118, 120, 122, 124, 126, 128, 130, 132, 134, 136, 138, 140], [69, 71, 73, 75], [207, 209, 211, 213, 215], [168, 170, 172, 174, 176, 178, 180, 182, 184, 186, 188], [236, 238, 240, 242, 244, 246, 248, 250, 252, 254, 256, 258, 260, 262, 264, 266, 268], [207, 209, 211, 213, 215]]
def am_inl : List Nat := [82, 58, 199, 144, 50, 199]
def am_xpl : List Nat := [55, 56, 296, 297, 394, 395, 48, 78, 78, 218]
/-! facts of the classes and of the JDK's two methods (kernel) -/
theorem am_lay_ok : am_upto (fun ci => am_upto (fun j => decide (am_nth lw_tbl ((am_nth ((am_nth am_lpl ci).getD []) j).getD 0) = some (u_lay (am_cn ci) (am_Tf ci) j))) (am_N ci)) 6 = true := by decide +kernel
theorem am_lay_in {ci : Nat} (h : ci < 6) : ∀ w ∈ u_ws (am_cn ci) (am_Tf ci) (am_N ci), w ∈ am_good := by
  intro w hw
  obtain ⟨j, hj, rfl⟩ := List.mem_map.mp hw
  have h1 := am_upto_at am_lay_ok h
  have h2 := of_decide_eq_true (am_upto_at h1 (List.mem_range.mp hj))
  refine am_good_of h2 ?_
  unfold u_lay
  split <;> rfl
theorem am_inl_ok : am_upto (fun ci => decide (am_nth lw_tbl ((am_nth am_inl ci).getD 0) = some (Jvm.Cond.instantiable (am_cn ci) (am_N ci)))) 6 = true := by decide +kernel
theorem am_inst_in {ci : Nat} (h : ci < 6) : Jvm.Cond.instantiable (am_cn ci) (am_N ci) ∈ am_good := am_good_of (of_decide_eq_true (am_upto_at am_inl_ok h)) rfl
theorem am_init_in {ci : Nat} (h : ci < 7) : Jvm.Cond.initialized (am_cn ci) ∈ am_good := am_good_of (am_init_ok ci h) rfl
theorem am_decl : ∀ ci, ci < 6 → ∀ k, k < am_N ci → (am_Tf ci k).1 = am_cn ci := by decide +kernel
theorem am_isI : ∀ ci, ci < 6 → ∀ k, k < am_N ci → am_fk ci k = 0 → am_tyf ci k = .int := by decide +kernel
theorem am_isZ : ∀ ci, ci < 6 → ∀ k, k < am_N ci → am_fk ci k = 2 → am_tyf ci k = .boolean := by decide +kernel
def am_isref : FieldType → Bool
  | .array _ => true
  | .object _ => true
  | _ => false
theorem am_isQ : ∀ ci, ci < 6 → ∀ k, k < am_N ci → am_fk ci k = 1 → am_isref (am_tyf ci k) = true := by decide +kernel
theorem am_dflt : ∀ ci, ci < 6 → ∀ k, k < am_N ci → defaultValue (am_tyf ci k) = if am_fk ci k = 1 then .null else .int 0 := by decide +kernel
theorem am_tyok (ci : Nat) (h : ci < 6) : ∀ k, k < am_N ci → parseFieldDescriptor (am_Tf ci k).2.2.1 = some (am_tyf ci k) := by
  match ci, h with
  | 0, _ => exact am_tyok0
  | 1, _ => exact am_tyok1
  | 2, _ => exact am_tyok2
  | 3, _ => exact am_tyok3
  | 4, _ => exact am_tyok4
  | 5, _ => exact am_tyok5
theorem am_nmok (ci : Nat) (h : ci < 6) : ∀ a, a < am_N ci → ∀ b, b < am_N ci → a ≠ b → (am_Tf ci a).2.1 ≠ (am_Tf ci b).2.1 := by
  match ci, h with
  | 0, _ => exact am_nm0
  | 1, _ => exact am_nm1
  | 2, _ => exact am_nm2
  | 3, _ => exact am_nm3
  | 4, _ => exact am_nm4
  | 5, _ => exact am_nm5
theorem am_Cl_at (ci : Nat) (h : ci < 6) : am_Cl[ci]? = some (am_cn ci, am_Tf ci, am_N ci) := by
  match ci, h with
  | 0, _ => rfl
  | 1, _ => rfl
  | 2, _ => rfl
  | 3, _ => rfl
  | 4, _ => rfl
  | 5, _ => rfl
def am_xw (i : Nat) : Nat := (am_nth am_xpl i).getD 0
theorem am_x0 : am_nth lw_tbl (am_xw 0) = some (.instanceMethod Lib.objectInit) := by decide +kernel
theorem am_x1 : am_nth lw_tbl (am_xw 1) = some (.code Lib.objectInit ⟨#[0xb1]⟩ 1 none) := by decide +kernel
theorem am_x2 : am_nth lw_tbl (am_xw 2) = some (.static Lib.Math.min.name) := by decide +kernel
theorem am_x3 : am_nth lw_tbl (am_xw 3) = some (.code Lib.Math.min.name Lib.Math.min.code 2 (some .int)) := by decide +kernel
theorem am_x4 : am_nth lw_tbl (am_xw 4) = some (.static Lib.Math.max.name) := by decide +kernel
theorem am_x5 : am_nth lw_tbl (am_xw 5) = some (.code Lib.Math.max.name Lib.Math.max.code 2 (some .int)) := by decide +kernel
theorem am_x6 : am_nth lw_tbl (am_xw 6) = some (.initialized "java/lang/Math") := by decide +kernel
theorem am_x7 : am_nth lw_tbl (am_xw 7) = some (.arrayClass .int) := by decide +kernel
theorem am_x8 : am_nth lw_tbl (am_xw 8) = some (.arrayClass .int) := by decide +kernel
theorem am_x9 : am_nth lw_tbl (am_xw 9) = some (.arrayClass .float) := by decide +kernel
theorem am_pc0 : am_upto (fun k => decide (am_pc k 0 = 0)) 181 = true := by decide +kernel
/-! the steps that read and write cells -/
section SND2
variable {l : Launch} {base : Nat} {sa : Nat → Nat} {cs : am_CS} {D : va_G} {E : am_E}
theorem am_cf_obj {t n : Nat} {gi : Nat → Int} {gf : Nat → UInt32} {gr : Nat → Option Nat} (h : t < 6) : am_cf base sa cs t n gi gf gr = .inr (t, (List.range (am_N t)).map (fun j => am_fd base sa (am_fk t j) (gi j) (gr j))) := by
  unfold am_cf
  rw [if_neg (by omega), if_neg (by omega), if_neg (by omega), if_neg (by omega)]
theorem am_obj_at {m : am_M} {q t n : Nat} (ht : am_tag m q t = some n) (h : t < 6) : (am_ws base sa cs m)[q]? = some (am_ra base sa q, .inr (t, (List.range (am_N t)).map (fun j => am_fd base sa (am_fk t j) (m.2.1 q j) (m.2.2.2 q j)))) := by
  obtain ⟨h1, h2, h3⟩ := am_tag_of ht
  rw [am_ws_at h3, am_cell_of h2, am_cf_obj h, am_ra_lt h1]
theorem am_arr_at {m : am_M} {q n : Nat} (ht : am_tag m q 10 = some n) : (am_ws base sa cs m)[q]? = some (am_ra base sa q, .inl (cs.1, n, .inl (fun j => Int32.ofInt (m.2.1 q j)))) := by
  obtain ⟨h1, h2, h3⟩ := am_tag_of ht
  rw [am_ws_at h3, am_cell_of h2, am_ra_lt h1]
  rfl
theorem am_arz_at {m : am_M} {q n : Nat} (ht : am_tag m q 11 = some n) : (am_ws base sa cs m)[q]? = some (am_ra base sa q, .inl (cs.2.1, n, .inl (fun j => Int32.ofInt (m.2.1 q j)))) := by
  obtain ⟨h1, h2, h3⟩ := am_tag_of ht
  rw [am_ws_at h3, am_cell_of h2, am_ra_lt h1]
  rfl
theorem am_arf_at {m : am_M} {q n : Nat} (ht : am_tag m q 12 = some n) : (am_ws base sa cs m)[q]? = some (am_ra base sa q, .inl (cs.2.2.1, n, .inr (.inr (.inl (m.2.2.1 q))))) := by
  obtain ⟨h1, h2, h3⟩ := am_tag_of ht
  rw [am_ws_at h3, am_cell_of h2, am_ra_lt h1]
  rfl
theorem am_arq_at {m : am_M} {q n : Nat} (ht : am_tag m q 13 = some n) : (am_ws base sa cs m)[q]? = some (am_ra base sa q, .inl (cs.2.2.2, n, .inr (.inr (.inr (.inr (fun j => (m.2.2.2 q j).map (am_ra base sa))))))) := by
  obtain ⟨h1, h2, h3⟩ := am_tag_of ht
  rw [am_ws_at h3, am_cell_of h2, am_ra_lt h1]
  rfl
theorem am_fld_at {t k : Nat} {f : Nat → Value} (h : k < am_N t) : ((List.range (am_N t)).map f)[k]? = some (f k) := by simp [h]
theorem am_fset {N k : Nat} {f g : Nat → Value} {v : Value} (hk : g k = v) (ho : ∀ j, j ≠ k → g j = f j) : ((List.range N).map f).set k v = (List.range N).map g := by
  refine List.ext_getElem? fun i => ?_
  rw [List.getElem?_set]
  by_cases hi : k = i
  · subst hi
    by_cases hl : k < N
    · simp [hl, hk]
    · simp [hl]
  · rw [if_neg hi]
    by_cases hl : i < N
    · simp [hl, ho i (Ne.symm hi)]
    · simp [hl]
/-- behind a write: the heap has the size that it had -/
theorem am_wrote {m m' : am_M} {q : Nat} {H H1 : Heap} {S : State} {cells : Nat} (hR : am_RP base sa cs D m H) (hz : H.size = S.heap.size + cells) (h1 : m'.1 = m.1) (hq : q < m.1.length)
    (hP1 : va_P D am_Cl (am_ws base sa cs m') H1) (hrg : ∀ a i, am_rg (m'.2.1 a i)) (hz1 : H1.size ≤ S.heap.size + cells) : am_RP base sa cs D m' H1 ∧ H1.size = S.heap.size + cells := by
  have h2 : m.1.length - 1 < m'.1.length := by rw [h1]; omega
  have h3 := (hP1 _ _ (am_ws_at h2)).lt
  have h4 : base + (m.1.length - 1) < H1.size := h3
  have h5 := hR.1
  have h6 : H1.size = S.heap.size + cells := by omega
  exact ⟨⟨by rw [h1]; omega, by rw [h1]; exact hR.2.1, hP1, hrg⟩, h6⟩
theorem am_rg_up {g : Nat → Nat → Int} {a i : Nat} {x : Int} (h : ∀ a i, am_rg (g a i)) (hx : am_rg x) : ∀ b j, am_rg (am_up g a i x b j) := by
  intro b j
  unfold am_up
  split
  · show am_rg (if j = i then x else g a j)
    split
    · exact hx
    · exact h a j
  · exact h b j
theorem am_cell_ne {m m' : am_M} {q : Nat} (h1 : m'.1 = m.1) (hi : ∀ j, j ≠ q → m'.2.1 j = m.2.1 j) (hf : ∀ j, j ≠ q → m'.2.2.1 j = m.2.2.1 j) (hr : ∀ j, j ≠ q → m'.2.2.2 j = m.2.2.2 j) : ∀ j, j ≠ q → am_cell base sa cs m' j = am_cell base sa cs m j := by
  intro j hj
  unfold am_cell
  rw [h1, hi j hj, hf j hj, hr j hj]
theorem am_fd_q {r : Option Nat} {x : Int} : am_fd base sa 1 x r = am_en base sa (amA r) := rfl
theorem am_fd_i {k : Nat} {r : Option Nat} {x : Int} (h : k ≠ 1) : am_fd base sa k x r = am_en base sa (amI x) := by simp [am_fd, h, am_en]
theorem am_s55g {k ip pc a cp pl : Nat} {b : Int} {il : Instr × Nat} (hd : decode (am_b k) pc = .ok (.getfield cp, 3)) (hn : am_pc k (ip + 1) = pc + 3) (hpc : am_pc k ip = pc) (hb6 : b.toNat < am_N a ∧ a < 6) (nest : Bool)
    (hw : if nest = true then Jvm.Cond.fieldLinkNest (am_cn (am_own k)) cp (am_cn a) (am_Tf a b.toNat).2.1 (am_Tf a b.toNat).2.2.1 "BeatWords" ∈ am_nest else Jvm.Cond.fieldLink (am_cn (am_own k)) cp (am_cn a) (am_Tf a b.toNat).2.1 (am_Tf a b.toNat).2.2.1 ∈ am_good)
    {bd : Nat × Nat} {ls : am_LS} {st : List am_V} {m : am_M} {Q : am_Q} (h : am_run (am_Sd l base sa cs D E) k Q (am_o55 E a b ip bd ls st m)) : am_Sd l base sa cs D E k (ip, bd, ls, st, m) Q := by
  unfold am_o55 at h
  split at h
  next q st =>
    split at h
    next n htag =>
      refine am_intro hpc ?_
      intro p e S mm args below meth c H locs cells slots lsA hI
      obtain ⟨hC, hG, hS, hB, hR, hz, hL, hkL, hkS, hc1, hc2⟩ := id hI
      obtain ⟨hx, hb, hr, hml, hown, hts, hlk, hini⟩ := id hC
      have hk := (List.forall_mem_cons.mp hkS).2
      have hq := (am_tag_of htag).1
      have he := am_obj_at (base := base) (sa := sa) (cs := cs) htag hb6.2
      have hsame : ∀ y, S.fieldFound? (am_Tf a b.toNat).1 (am_Tf a b.toNat).2.1 (am_Tf a b.toNat).2.2.1 = some y → S.fieldFound? (am_cn a) (am_Tf a b.toNat).2.1 (am_Tf a b.toNat).2.2.1 = some y := fun y hy => by rw [am_decl a hb6.2 _ hb6.1] at hy; exact hy
      have kk : W p l e (am_rm k) S mm args below meth c H locs cells slots (MQ below (am_QM base sa cs D k Q) args S (am_b1 k) (am_b2 k) (am_A base)) (F0 mm (pc + 3) lsA (am_fd base sa (am_fk a b.toNat) (m.2.1 q b.toNat) (m.2.2.2 q b.toNat) :: st.map (am_en base sa))) := by
        by_cases h1 : am_fk a b.toNat = 1
        · rw [h1] at h ⊢
          exact am_fin h ⟨hC, hG, hS, hB, hR, hz, hL, hkL, List.forall_mem_cons.mpr ⟨trivial, hk⟩, hc1, hc2⟩ hn rfl
        · rw [am_fd_i h1]
          have h2 : am_Sd l base sa cs D E k (ip + 1, bd, ls, amI (m.2.1 q b.toNat) :: st, m) Q := by
            split at h
            · rename_i h3; exact absurd h3 h1
            · exact h
          exact am_fin h2 ⟨hC, hG, hS, hB, hR, hz, hL, hkL, List.forall_mem_cons.mpr ⟨hR.2.2.2 _ _, hk⟩, hc1, hc2⟩ hn rfl
      have hg : (am_ra base sa q) = am_ra base sa q := rfl
      show W p l e (am_rm k) S mm args below meth c H locs cells slots _ (F0 mm pc lsA (.ref (am_ra base sa q) :: st.map (am_en base sa)))
      cases nest with
      | false => exact va_get hx hb hts (am_lay_in hb6.2) hown hG.1 hR.2.2.1 q he (am_Cl_at a hb6.2) b.toNat hb6.1 (hts _ hw) hsame (am_fld_at hb6.1) hd kk
      | true => exact va_getN hx hb hts (am_lay_in hb6.2) hown hG.1 hR.2.2.1 q he (am_Cl_at a hb6.2) b.toNat hb6.1 (va_Nw.use rfl (hG.2.1 _ hw)) hsame (am_fld_at hb6.1) hd kk
    all_goals exact h.elim
  all_goals exact h.elim
theorem am_s55 : am_OpS l base sa cs D E 55 am_o55 := by
  intro k ip pc a b cp pl hrow bd ls st m Q h
  obtain ⟨⟨il, ht, hd, hn⟩, hpc, hside, hword, hjmp, hsw⟩ := am_dec hrow
  obtain rfl := Option.some.inj ht
  exact am_s55g (il := (.getfield cp, 3)) (pl := pl) hd (hn rfl) hpc (of_decide_eq_true hside) false (am_good_of (hword _ rfl) rfl) h
theorem am_s56 : am_OpS l base sa cs D E 56 am_o55 := by
  intro k ip pc a b cp pl hrow bd ls st m Q h
  obtain ⟨⟨il, ht, hd, hn⟩, hpc, hside, hword, hjmp, hsw⟩ := am_dec hrow
  obtain rfl := Option.some.inj ht
  exact am_s55g (il := (.getfield cp, 3)) (pl := pl) hd (hn rfl) hpc (of_decide_eq_true hside) true (am_nest_of (hword _ rfl) rfl) h
theorem am_nz {x : Int} (h : x = 0 ∨ x = 1) : narrow .boolean (.int (Int32.ofInt x)) = .int (Int32.ofInt x) ∧ fits .boolean (.int (Int32.ofInt x)) = true ∧ vp_nar .boolean (Int32.ofInt x) = Int32.ofInt x := by
  rcases h with rfl | rfl <;> decide
theorem am_s57g {k ip pc a cp pl : Nat} {b : Int} (hd : decode (am_b k) pc = .ok (.putfield cp, 3)) (hn : am_pc k (ip + 1) = pc + 3) (hpc : am_pc k ip = pc) (hb6 : b.toNat < am_N a ∧ a < 6 ∧ (am_Tf a b.toNat).2.2.2 = false) (nest : Bool)
    (hw : if nest = true then Jvm.Cond.fieldLinkNest (am_cn (am_own k)) cp (am_cn a) (am_Tf a b.toNat).2.1 (am_Tf a b.toNat).2.2.1 "BeatWords" ∈ am_nest else Jvm.Cond.fieldLink (am_cn (am_own k)) cp (am_cn a) (am_Tf a b.toNat).2.1 (am_Tf a b.toNat).2.2.1 ∈ am_good)
    {bd : Nat × Nat} {ls : am_LS} {st : List am_V} {m : am_M} {Q : am_Q} (h : am_run (am_Sd l base sa cs D E) k Q (am_o57 E a b ip bd ls st m)) : am_Sd l base sa cs D E k (ip, bd, ls, st, m) Q := by
  unfold am_o57 at h
  split at h
  next x q st =>
    split at h
    next n htag =>
      refine am_intro hpc ?_
      intro p e S mm args below meth c H locs cells slots lsA hI
      obtain ⟨hC, hG, hS, hB, hR, hz, hL, hkL, hkS, hc1, hc2⟩ := id hI
      obtain ⟨hx, hb, hr, hml, hown, hts, hlk, hini⟩ := id hC
      have vx : am_rg x := (List.forall_mem_cons.mp hkS).1
      have hk := (List.forall_mem_cons.mp (List.forall_mem_cons.mp hkS).2).2
      have hq := (am_tag_of htag)
      have he := am_obj_at (base := base) (sa := sa) (cs := cs) htag hb6.2.1
      have hsame : ∀ y, S.fieldFound? (am_Tf a b.toNat).1 (am_Tf a b.toNat).2.1 (am_Tf a b.toNat).2.2.1 = some y → S.fieldFound? (am_cn a) (am_Tf a b.toNat).2.1 (am_Tf a b.toNat).2.2.1 = some y := fun y hy => by rw [am_decl a hb6.2.1 _ hb6.1] at hy; exact hy
      have hkind : (am_fk a b.toNat ≠ 1) ∧ narrow (am_tyf a b.toNat) (.int (Int32.ofInt x)) = .int (Int32.ofInt x) ∧ fits (am_tyf a b.toNat) (.int (Int32.ofInt x)) = true ∧ am_Sd l base sa cs D E k (ip + 1, bd, ls, st, (m.1, am_up m.2.1 q b.toNat x, m.2.2.1, m.2.2.2)) Q := by
        split at h
        · rename_i h1
          have h2 := am_isI a hb6.2.1 _ hb6.1 h1
          exact ⟨by omega, by rw [h2]; rfl, by rw [h2]; rfl, h⟩
        · rename_i h1
          have h2 := am_isZ a hb6.2.1 _ hb6.1 h1
          exact ⟨by omega, by rw [h2]; exact (am_nz h.1).1, by rw [h2]; exact (am_nz h.1).2.1, h.2⟩
        · exact h.elim
      obtain ⟨hk1, hnar, hfit, hnext⟩ := hkind
      have hset : (am_ws base sa cs m).set q (am_ra base sa q, .inr (a, ((List.range (am_N a)).map (fun j => am_fd base sa (am_fk a j) (m.2.1 q j) (m.2.2.2 q j))).set b.toNat (.int (Int32.ofInt x)))) = am_ws base sa cs (m.1, am_up m.2.1 q b.toNat x, m.2.2.1, m.2.2.2) := by
        rw [am_ra_lt hq.1]
        refine am_ws_set rfl hq.2.2 ?_ (am_cell_ne rfl (fun j hj => am_up_ne hj) (fun _ _ => rfl) (fun _ _ => rfl))
        rw [am_cell_of (m := (m.1, am_up m.2.1 q b.toNat x, m.2.2.1, m.2.2.2)) hq.2.1, am_cf_obj hb6.2.1]
        congr 2
        refine (am_fset ?_ ?_).symm
        · show am_fd base sa _ (am_up m.2.1 q b.toNat x q b.toNat) _ = _
          rw [am_up_eq, am_fd_i hk1]
          simp [am_en]
        · intro j hj
          show am_fd base sa _ (am_up m.2.1 q b.toNat x q j) _ = _
          rw [am_up_eq]
          simp [hj]
      have kk : ∀ (H1 : Heap) (locs1 : List Loc), va_P D am_Cl ((am_ws base sa cs m).set q (am_ra base sa q, .inr (a, ((List.range (am_N a)).map (fun j => am_fd base sa (am_fk a j) (m.2.1 q j) (m.2.2.2 q j))).set b.toNat (.int (Int32.ofInt x))))) H1 → va_D (am_A base) ((am_ws base sa cs m).set q (am_ra base sa q, .inr (a, ((List.range (am_N a)).map (fun j => am_fd base sa (am_fk a j) (m.2.1 q j) (m.2.2.2 q j))).set b.toNat (.int (Int32.ofInt x))))) → va_S (am_A base) S.heap H1 locs1 →
          W p l e (am_rm k) S mm args below meth c H1 locs1 cells slots (MQ below (am_QM base sa cs D k Q) args S (am_b1 k) (am_b2 k) (am_A base)) (F0 mm (pc + 3) lsA (st.map (am_en base sa))) := by
        intro H1 locs1 hP1 _ hS1
        rw [hset] at hP1
        refine am_W_siz fun hz1 => ?_
        obtain ⟨hR1, hz2⟩ := am_wrote (m' := (m.1, am_up m.2.1 q b.toNat x, m.2.2.1, m.2.2.2)) hR hz rfl hq.2.2 hP1 (am_rg_up hR.2.2.2 vx) hz1
        exact am_fin hnext ⟨hC, hG, hS1, hB, hR1, hz2, hL, hkL, hk, hc1, hc2⟩ hn rfl
      show W p l e (am_rm k) S mm args below meth c H locs cells slots _ (F0 mm pc lsA (.int (Int32.ofInt x) :: .ref (am_ra base sa q) :: st.map (am_en base sa)))
      cases nest with
      | false => exact va_put hx hb hts (am_lay_in hb6.2.1) (am_tyf a) (am_tyok a hb6.2.1) (am_nmok a hb6.2.1) hown hG.1 hR.2.2.1 am_ws_D hS q he (am_Cl_at a hb6.2.1) b.toNat hb6.1 (hts _ hw) hsame hb6.2.2 (am_tyok a hb6.2.1 _ hb6.1) hnar hfit (by simp [hb6.1]) hd kk
      | true => exact va_putN hx hb hts (am_lay_in hb6.2.1) (am_tyf a) (am_tyok a hb6.2.1) (am_nmok a hb6.2.1) hown hG.1 hR.2.2.1 am_ws_D hS q he (am_Cl_at a hb6.2.1) b.toNat hb6.1 (va_Nw.use rfl (hG.2.1 _ hw)) hsame hb6.2.2 (am_tyok a hb6.2.1 _ hb6.1) hnar hfit (by simp [hb6.1]) hd kk
    all_goals exact h.elim
  all_goals exact h.elim
theorem am_s57 : am_OpS l base sa cs D E 57 am_o57 := by
  intro k ip pc a b cp pl hrow bd ls st m Q h
  obtain ⟨⟨il, ht, hd, hn⟩, hpc, hside, hword, hjmp, hsw⟩ := am_dec hrow
  obtain rfl := Option.some.inj ht
  exact am_s57g (pl := pl) hd (hn rfl) hpc (of_decide_eq_true hside) false (am_good_of (hword _ rfl) rfl) h
theorem am_s58 : am_OpS l base sa cs D E 58 am_o57 := by
  intro k ip pc a b cp pl hrow bd ls st m Q h
  obtain ⟨⟨il, ht, hd, hn⟩, hpc, hside, hword, hjmp, hsw⟩ := am_dec hrow
  obtain rfl := Option.some.inj ht
  exact am_s57g (pl := pl) hd (hn rfl) hpc (of_decide_eq_true hside) true (am_nest_of (hword _ rfl) rfl) h
end SND2
end
section
/-! cells, on -/
section SND3
variable {l : Launch} {base : Nat} {sa : Nat → Nat} {cs : am_CS} {D : va_G} {E : am_E}
set_option maxHeartbeats 1000000 in
theorem am_s59 : am_OpS l base sa cs D E 59 am_o59 := by
  intro k ip pc a b cp pl hrow bd ls st m Q h
  obtain ⟨⟨il, ht, hd, hn⟩, hpc, hside, hword, hjmp, hsw⟩ := am_dec hrow
  unfold am_o59 at h
  obtain rfl := Option.some.inj ht
  have hb6 := of_decide_eq_true hside
  have hw := am_good_of (hword _ rfl) rfl
  split at h
  next r q st =>
    split at h
    next n htag =>
      split at h
      next hkd =>
        refine am_intro hpc ?_
        intro p e S mm args below meth c H locs cells slots lsA hI
        obtain ⟨hC, hG, hS, hB, hR, hz, hL, hkL, hkS, hc1, hc2⟩ := id hI
        obtain ⟨hx, hb, hr, hml, hown, hts, hlk, hini⟩ := id hC
        have hk := (List.forall_mem_cons.mp (List.forall_mem_cons.mp hkS).2).2
        have hq := (am_tag_of htag)
        have he := am_obj_at (base := base) (sa := sa) (cs := cs) htag hb6.2.1
        have hsame : ∀ y, S.fieldFound? (am_Tf a b.toNat).1 (am_Tf a b.toNat).2.1 (am_Tf a b.toNat).2.2.1 = some y → S.fieldFound? (am_cn a) (am_Tf a b.toNat).2.1 (am_Tf a b.toNat).2.2.1 = some y := fun y hy => by rw [am_decl a hb6.2.1 _ hb6.1] at hy; exact hy
        have hrf := am_isQ a hb6.2.1 _ hb6.1 hkd
        have hnar : narrow (am_tyf a b.toNat) (.ref (am_ra base sa r)) = .ref (am_ra base sa r) := by
          cases hty : am_tyf a b.toNat <;> rw [hty] at hrf <;> first | rfl | cases hrf
        have hfit : fits (am_tyf a b.toNat) (.ref (am_ra base sa r)) = true := by
          cases hty : am_tyf a b.toNat <;> rw [hty] at hrf <;> first | rfl | cases hrf
        have hset : (am_ws base sa cs m).set q (am_ra base sa q, .inr (a, ((List.range (am_N a)).map (fun j => am_fd base sa (am_fk a j) (m.2.1 q j) (m.2.2.2 q j))).set b.toNat (.ref (am_ra base sa r)))) = am_ws base sa cs (m.1, m.2.1, m.2.2.1, am_up m.2.2.2 q b.toNat (some r)) := by
          rw [am_ra_lt hq.1]
          refine am_ws_set rfl hq.2.2 ?_ (am_cell_ne rfl (fun _ _ => rfl) (fun _ _ => rfl) (fun j hj => am_up_ne hj))
          rw [am_cell_of (m := (m.1, m.2.1, m.2.2.1, am_up m.2.2.2 q b.toNat (some r))) hq.2.1, am_cf_obj hb6.2.1]
          congr 2
          refine (am_fset ?_ ?_).symm
          · show am_fd base sa _ _ (am_up m.2.2.2 q b.toNat (some r) q b.toNat) = _
            rw [am_up_eq, hkd]
            simp [am_fd, va_rf]
          · intro j hj
            show am_fd base sa _ _ (am_up m.2.2.2 q b.toNat (some r) q j) = _
            rw [am_up_eq]
            simp [hj]
        refine va_putF hx hb hts (am_lay_in hb6.2.1) (am_tyf a) (am_tyok a hb6.2.1) (am_nmok a hb6.2.1) hown hG.1 hR.2.2.1 am_ws_D hS q he (am_Cl_at a hb6.2.1) b.toNat hb6.1 (hts _ hw) hsame hb6.2.2.1 (hini hb6.2.2.2.2) (by rw [hb6.2.2.2.1]; exact am_decl a hb6.2.1 _ hb6.1) (am_tyok a hb6.2.1 _ hb6.1) hnar hfit (by simp [hb6.1]) hd (fun H1 locs1 hP1 _ hS1 => ?_)
        have hP1 : va_P D am_Cl (am_ws base sa cs (m.1, m.2.1, m.2.2.1, am_up m.2.2.2 q b.toNat (some r))) H1 := by
          rw [← hset]
          exact hP1
        refine am_W_siz fun hz1 => ?_
        obtain ⟨hR1, hz2⟩ := am_wrote (m' := (m.1, m.2.1, m.2.2.1, am_up m.2.2.2 q b.toNat (some r))) hR hz rfl hq.2.2 hP1 hR.2.2.2 hz1
        exact am_fin h ⟨hC, hG, hS1, hB, hR1, hz2, hL, hkL, hk, hc1, hc2⟩ (hn rfl) rfl
      all_goals exact h.elim
    all_goals exact h.elim
  all_goals exact h.elim
set_option maxHeartbeats 1000000 in
theorem am_s60 : am_OpS l base sa cs D E 60 am_o60 := by
  intro k ip pc a b cp pl hrow bd ls st m Q h
  obtain ⟨⟨il, ht, hd, hn⟩, hpc, hside, hword, hjmp, hsw⟩ := am_dec hrow
  unfold am_o60 at h
  obtain rfl := Option.some.inj ht
  have ha := of_decide_eq_true hside
  have hw := am_good_of (hword _ rfl) rfl
  refine am_intro hpc ?_
  intro p e S mm args below meth c H locs cells slots lsA hI
  obtain ⟨hC, hG, hS, hB, hR, hz, hL, hkL, hkS, hc1, hc2⟩ := id hI
  obtain ⟨hx, hb, hr, hml, hown, hts, hlk, hini⟩ := id hC
  have hk2 : ∀ v ∈ amR (1000 + a) :: st, am_ok v := List.forall_mem_cons.mpr ⟨trivial, hkS⟩
  have hsa : am_ra base sa (1000 + a) = sa a := by
    unfold am_ra
    rw [if_neg (by omega), Nat.add_sub_cancel_left]
  have kk := am_fin (p := p) (e := e) (S := S) (mm := mm) (args := args) (below := below) (meth := meth) (c := c) (H := H) (locs := locs) (cells := cells) (slots := slots) (lsA := lsA) h ⟨hC, hG, hS, hB, hR, hz, hL, hkL, hk2, hc1, hc2⟩ (hn rfl) rfl
  have hen : am_en base sa (amR (1000 + a)) = .ref (sa a) := by rw [← hsa]; rfl
  rw [List.map_cons, hen] at kk
  have ha2 : a = 0 ∨ a = 1 := by omega
  rcases ha2 with rfl | rfl
  · exact va_gets hx hb hG.2.2.2.2.1 hS hown (hts _ hw) (fun _ hy => hy) hd kk
  · exact va_gets hx hb hG.2.2.2.2.2 hS hown (hts _ hw) (fun _ hy => hy) hd kk
theorem am_arr_of {m : am_M} {q n : Nat} {f : Nat → Int} (h : am_arr E m q = some (n, f)) : (am_tag m q 10 = some n ∧ f = m.2.1 q) ∨ (1000 ≤ q ∧ q - 1000 < 3 ∧ (E (q - 1000)) = (n, f)) := by
  unfold am_arr at h
  unfold am_tag
  split at h
  · rename_i h1
    split at h
    · rename_i t n2 h2
      try simp only [h1, h2]
      split at h
      · rename_i h3
        cases h
        refine Or.inl ⟨?_, rfl⟩
        try simp only [h3]
      · cases h
    · cases h
  · rename_i h1
    split at h
    · rename_i h2
      refine Or.inr ⟨?_, by simpa using h2, Option.some.inj h⟩
      have h9 : ¬ q < 1000 := fun hh => by
        rw [Nat.blt_eq.mpr hh] at h1
        cases h1
      omega
    · cases h
set_option maxHeartbeats 1000000 in
theorem am_s61 (hE : am_EO E) : am_OpS l base sa cs D E 61 am_o61 := by
  intro k ip pc a b cp pl hrow bd ls st m Q h
  obtain ⟨⟨il, ht, hd, hn⟩, hpc, hside, hword, hjmp, hsw⟩ := am_dec hrow
  unfold am_o61 at h
  obtain rfl := Option.some.inj ht
  split at h
  next j q st =>
    split at h
    next n f harr =>
      refine am_intro hpc ?_
      intro p e S mm args below meth c H locs cells slots lsA hI
      obtain ⟨hC, hG, hS, hB, hR, hz, hL, hkL, hkS, hc1, hc2⟩ := id hI
      obtain ⟨hx, hb, hr, hml, hown, hts, hlk, hini⟩ := id hC
      have vj : am_rg j := (List.forall_mem_cons.mp hkS).1
      have hk := (List.forall_mem_cons.mp (List.forall_mem_cons.mp hkS).2).2
      have hcl := am_clN vj
      rcases am_arr_of harr with ⟨htag, rfl⟩ | ⟨q1, q2, q3⟩
      · have he := am_arr_at (base := base) (sa := sa) (cs := cs) htag
        refine va_iald hx hb hG.1 hR.2.2.1 q 0 he rfl ((am_vin vj).mpr h.1) hd ?_
        rw [hcl]
        exact am_fin h.2 ⟨hC, hG, hS, hB, hR, hz, hL, hkL, List.forall_mem_cons.mpr ⟨hR.2.2.2 _ _, hk⟩, hc1, hc2⟩ (hn rfl) rfl
      · have hT := hG.2.2.2.1 _ q2
        have hra : am_ra base sa q = sa (q - 1000) := by
          unfold am_ra
          rw [if_neg (by omega)]
        rw [q3] at hT
        have hen : am_en base sa (Sum.inr (Sum.inl (some q))) = .ref (sa (q - 1000)) := by rw [← hra]; rfl
        rw [List.map_cons, List.map_cons, hen]
        have hok : am_rg (f j.toNat) := by
          have h5 := (hE _ q2).2 j.toNat
          rw [q3] at h5
          exact h5
        refine va_ti hx hb hT hS ((am_vin vj).mpr h.1) rfl hd ?_
        rw [hcl]
        exact am_fin h.2 ⟨hC, hG, hS, hB, hR, hz, hL, hkL, List.forall_mem_cons.mpr ⟨hok, hk⟩, hc1, hc2⟩ (hn rfl) rfl
    all_goals exact h.elim
  all_goals exact h.elim
set_option maxHeartbeats 1000000 in
theorem am_s65 : am_OpS l base sa cs D E 65 am_o65 := by
  intro k ip pc a b cp pl hrow bd ls st m Q h
  obtain ⟨⟨il, ht, hd, hn⟩, hpc, hside, hword, hjmp, hsw⟩ := am_dec hrow
  unfold am_o65 at h
  obtain rfl := Option.some.inj ht
  split at h
  next j q st =>
    split at h
    next n htag =>
      refine am_intro hpc ?_
      intro p e S mm args below meth c H locs cells slots lsA hI
      obtain ⟨hC, hG, hS, hB, hR, hz, hL, hkL, hkS, hc1, hc2⟩ := id hI
      obtain ⟨hx, hb, hr, hml, hown, hts, hlk, hini⟩ := id hC
      have vj : am_rg j := (List.forall_mem_cons.mp hkS).1
      have hk := (List.forall_mem_cons.mp (List.forall_mem_cons.mp hkS).2).2
      have hcl := am_clN vj
      have he := am_arf_at (base := base) (sa := sa) (cs := cs) htag
      refine va_fald hx hb hG.1 hR.2.2.1 q 2 he rfl ((am_vin vj).mpr h.1) hd ?_
      rw [hcl]
      exact am_fin h.2 ⟨hC, hG, hS, hB, hR, hz, hL, hkL, List.forall_mem_cons.mpr ⟨trivial, hk⟩, hc1, hc2⟩ (hn rfl) rfl
    all_goals exact h.elim
  all_goals exact h.elim
set_option maxHeartbeats 1000000 in
theorem am_s68 : am_OpS l base sa cs D E 68 am_o68 := by
  intro k ip pc a b cp pl hrow bd ls st m Q h
  obtain ⟨⟨il, ht, hd, hn⟩, hpc, hside, hword, hjmp, hsw⟩ := am_dec hrow
  unfold am_o68 at h
  obtain rfl := Option.some.inj ht
  split at h
  next j q st =>
    split at h
    next n htag =>
      refine am_intro hpc ?_
      intro p e S mm args below meth c H locs cells slots lsA hI
      obtain ⟨hC, hG, hS, hB, hR, hz, hL, hkL, hkS, hc1, hc2⟩ := id hI
      obtain ⟨hx, hb, hr, hml, hown, hts, hlk, hini⟩ := id hC
      have vj : am_rg j := (List.forall_mem_cons.mp hkS).1
      have hk := (List.forall_mem_cons.mp (List.forall_mem_cons.mp hkS).2).2
      have hcl := am_clN vj
      have he := am_arq_at (base := base) (sa := sa) (cs := cs) htag
      refine va_aldq hx hb hG.1 hR.2.2.1 q 3 he rfl ((am_vin vj).mpr h.1) hd ?_
      rw [hcl]
      exact am_fin h.2 ⟨hC, hG, hS, hB, hR, hz, hL, hkL, List.forall_mem_cons.mpr ⟨trivial, hk⟩, hc1, hc2⟩ (hn rfl) rfl
    all_goals exact h.elim
  all_goals exact h.elim
set_option maxHeartbeats 1000000 in
theorem am_s62 : am_OpS l base sa cs D E 62 am_o62 := by
  intro k ip pc a b cp pl hrow bd ls st m Q h
  obtain ⟨⟨il, ht, hd, hn⟩, hpc, hside, hword, hjmp, hsw⟩ := am_dec hrow
  unfold am_o62 at h
  obtain rfl := Option.some.inj ht
  split at h
  next x j q st =>
    split at h
    next n htag =>
      refine am_intro hpc ?_
      intro p e S mm args below meth c H locs cells slots lsA hI
      obtain ⟨hC, hG, hS, hB, hR, hz, hL, hkL, hkS, hc1, hc2⟩ := id hI
      obtain ⟨hx, hb, hr, hml, hown, hts, hlk, hini⟩ := id hC
      have vx := (List.forall_mem_cons.mp hkS).1
      have vj : am_rg j := (List.forall_mem_cons.mp (List.forall_mem_cons.mp hkS).2).1
      have hk := (List.forall_mem_cons.mp (List.forall_mem_cons.mp (List.forall_mem_cons.mp hkS).2).2).2
      have hcl := am_clN vj
      have hq := am_tag_of htag
      have he := am_arr_at (base := base) (sa := sa) (cs := cs) htag
      refine va_iast hx hb hG.1 hR.2.2.1 am_ws_D hS q 0 he rfl ((am_vin vj).mpr h.1) hd (fun H1 locs1 hP1 _ hS1 => ?_)
      rw [hcl] at hP1
      have hset : (am_ws base sa cs m).set q (am_ra base sa q, .inl (cs.1, n, .inl (upd (fun j => Int32.ofInt (m.2.1 q j)) j.toNat (Int32.ofInt x)))) = am_ws base sa cs (m.1, am_up m.2.1 q j.toNat x, m.2.2.1, m.2.2.2) := by
        rw [am_ra_lt hq.1]
        refine am_ws_set rfl hq.2.2 ?_ (am_cell_ne rfl (fun j hj => by first | rfl | exact am_up_ne hj) (fun j hj => by first | rfl | exact am_up_ne hj) (fun j hj => by first | rfl | exact am_up_ne hj))
        rw [am_cell_of (m := (m.1, am_up m.2.1 q j.toNat x, m.2.2.1, m.2.2.2)) hq.2.1]
        show am_cf _ _ _ _ _ _ _ _ = _
        unfold am_cf
        simp only [am_up_eq]
        simp
        funext i
        by_cases hi : i = j.toNat
        · simp [hi, upd, vf_upd]
        · simp [hi, upd, vf_upd]
      rw [hset] at hP1
      refine am_W_siz fun hz1 => ?_
      obtain ⟨hR1, hz2⟩ := am_wrote (m' := (m.1, am_up m.2.1 q j.toNat x, m.2.2.1, m.2.2.2)) hR hz rfl hq.2.2 hP1 (am_rg_up hR.2.2.2 vx) hz1
      exact am_fin h.2 ⟨hC, hG, hS1, hB, hR1, hz2, hL, hkL, hk, hc1, hc2⟩ (hn rfl) rfl
    all_goals exact h.elim
  all_goals exact h.elim
set_option maxHeartbeats 1000000 in
theorem am_s66 : am_OpS l base sa cs D E 66 am_o66 := by
  intro k ip pc a b cp pl hrow bd ls st m Q h
  obtain ⟨⟨il, ht, hd, hn⟩, hpc, hside, hword, hjmp, hsw⟩ := am_dec hrow
  unfold am_o66 at h
  obtain rfl := Option.some.inj ht
  split at h
  next x j q st =>
    split at h
    next n htag =>
      refine am_intro hpc ?_
      intro p e S mm args below meth c H locs cells slots lsA hI
      obtain ⟨hC, hG, hS, hB, hR, hz, hL, hkL, hkS, hc1, hc2⟩ := id hI
      obtain ⟨hx, hb, hr, hml, hown, hts, hlk, hini⟩ := id hC
      have vx := (List.forall_mem_cons.mp hkS).1
      have vj : am_rg j := (List.forall_mem_cons.mp (List.forall_mem_cons.mp hkS).2).1
      have hk := (List.forall_mem_cons.mp (List.forall_mem_cons.mp (List.forall_mem_cons.mp hkS).2).2).2
      have hcl := am_clN vj
      have hq := am_tag_of htag
      have he := am_arf_at (base := base) (sa := sa) (cs := cs) htag
      refine va_fast hx hb hG.1 hR.2.2.1 am_ws_D hS q 2 he rfl ((am_vin vj).mpr h.1) hd (fun H1 locs1 hP1 _ hS1 => ?_)
      rw [hcl] at hP1
      have hset : (am_ws base sa cs m).set q (am_ra base sa q, .inl (cs.2.2.1, n, .inr (.inr (.inl (vf_upd (m.2.2.1 q) j.toNat x))))) = am_ws base sa cs (m.1, m.2.1, am_up m.2.2.1 q j.toNat x, m.2.2.2) := by
        rw [am_ra_lt hq.1]
        refine am_ws_set rfl hq.2.2 ?_ (am_cell_ne rfl (fun j hj => by first | rfl | exact am_up_ne hj) (fun j hj => by first | rfl | exact am_up_ne hj) (fun j hj => by first | rfl | exact am_up_ne hj))
        rw [am_cell_of (m := (m.1, m.2.1, am_up m.2.2.1 q j.toNat x, m.2.2.2)) hq.2.1]
        show am_cf _ _ _ _ _ _ _ _ = _
        unfold am_cf
        simp only [am_up_eq]
        simp
        funext i
        by_cases hi : i = j.toNat
        · simp [hi, upd, vf_upd]
        · simp [hi, upd, vf_upd]
      rw [hset] at hP1
      refine am_W_siz fun hz1 => ?_
      obtain ⟨hR1, hz2⟩ := am_wrote (m' := (m.1, m.2.1, am_up m.2.2.1 q j.toNat x, m.2.2.2)) hR hz rfl hq.2.2 hP1 hR.2.2.2 hz1
      exact am_fin h.2 ⟨hC, hG, hS1, hB, hR1, hz2, hL, hkL, hk, hc1, hc2⟩ (hn rfl) rfl
    all_goals exact h.elim
  all_goals exact h.elim
theorem am_alen_of {m : am_M} {q n : Nat} (h : am_alen E m q = some n) : (∃ t, 10 ≤ t ∧ t ≤ 13 ∧ am_tag m q t = some n) ∨ (1000 ≤ q ∧ q - 1000 < 3 ∧ (E (q - 1000)).1 = n) := by
  unfold am_alen at h
  split at h
  · rename_i h1
    split at h
    · rename_i t n2 h2
      split at h
      · rename_i h3
        cases h
        simp only [Bool.and_eq_true, Nat.ble_eq] at h3
        refine Or.inl ⟨t, h3.1, h3.2, ?_⟩
        unfold am_tag
        simp [h1, h2]
      · cases h
    · cases h
  · rename_i h1
    split at h
    · rename_i h2
      refine Or.inr ⟨?_, by simpa using h2, Option.some.inj h⟩
      have h9 : ¬ q < 1000 := fun hh => by
        rw [Nat.blt_eq.mpr hh] at h1
        cases h1
      omega
    · cases h
set_option maxHeartbeats 1000000 in
theorem am_s67 : am_OpS l base sa cs D E 67 am_o67 := by
  intro k ip pc a b cp pl hrow bd ls st m Q h
  obtain ⟨⟨il, ht, hd, hn⟩, hpc, hside, hword, hjmp, hsw⟩ := am_dec hrow
  unfold am_o67 at h
  obtain rfl := Option.some.inj ht
  split at h
  next q st =>
    split at h
    next n halen =>
      refine am_intro hpc ?_
      intro p e S mm args below meth c H locs cells slots lsA hI
      obtain ⟨hC, hG, hS, hB, hR, hz, hL, hkL, hkS, hc1, hc2⟩ := id hI
      obtain ⟨hx, hb, hr, hml, hown, hts, hlk, hini⟩ := id hC
      have hk := (List.forall_mem_cons.mp hkS).2
      have hok : am_rg (n : Int) := ⟨by omega, by have := h.1; omega⟩
      have kk := am_fin (p := p) (e := e) (S := S) (mm := mm) (args := args) (below := below) (meth := meth) (c := c) (H := H) (locs := locs) (cells := cells) (slots := slots) (lsA := lsA) h.2 ⟨hC, hG, hS, hB, hR, hz, hL, hkL, List.forall_mem_cons.mpr ⟨hok, hk⟩, hc1, hc2⟩ (hn rfl) rfl
      have hval : Int32.ofNat n = Int32.ofInt (n : Int) := by first | rfl | exact (Int32.ofInt_natCast n).symm | simp [Int32.ofInt, Int32.ofNat]
      rcases am_alen_of halen with ⟨t, t1, t2, htag⟩ | ⟨q1, q2, q3⟩
      · have ht4 : t = 10 ∨ t = 11 ∨ t = 12 ∨ t = 13 := by omega
        rcases ht4 with rfl | rfl | rfl | rfl
        · exact va_alen hx hb hG.1 hR.2.2.1 q 0 (am_arr_at (base := base) (sa := sa) (cs := cs) htag) (ty := .int) rfl hval hd kk
        · exact va_alen hx hb hG.1 hR.2.2.1 q 1 (am_arz_at (base := base) (sa := sa) (cs := cs) htag) (ty := .int) rfl hval hd kk
        · exact va_alen hx hb hG.1 hR.2.2.1 q 2 (am_arf_at (base := base) (sa := sa) (cs := cs) htag) (ty := .float) rfl hval hd kk
        · exact va_alen hx hb hG.1 hR.2.2.1 q 3 (am_arq_at (base := base) (sa := sa) (cs := cs) htag) (ty := .object "BeatWords$Sheet") rfl hval hd kk
      · have hT := hG.2.2.2.1 _ q2
        have hra : am_ra base sa q = sa (q - 1000) := by
          unfold am_ra
          rw [if_neg (by omega)]
        have hen : am_en base sa (Sum.inr (Sum.inl (some q))) = .ref (sa (q - 1000)) := by rw [← hra]; rfl
        rw [List.map_cons, hen]
        exact va_tlen hx hb hT hS (by rw [q3]; exact hval) hd kk
    all_goals exact h.elim
  all_goals exact h.elim
set_option maxHeartbeats 1000000 in
theorem am_s69 : am_OpS l base sa cs D E 69 am_o69 := by
  intro k ip pc a b cp pl hrow bd ls st m Q h
  obtain ⟨⟨il, ht, hd, hn⟩, hpc, hside, hword, hjmp, hsw⟩ := am_dec hrow
  unfold am_o69 at h
  obtain rfl := Option.some.inj ht
  split at h
  next r j q st =>
    split at h
    next n htag =>
      split at h
      next n2 htagr =>
        refine am_intro hpc ?_
        intro p e S mm args below meth c H locs cells slots lsA hI
        obtain ⟨hC, hG, hS, hB, hR, hz, hL, hkL, hkS, hc1, hc2⟩ := id hI
        obtain ⟨hx, hb, hr, hml, hown, hts, hlk, hini⟩ := id hC
        have vj : am_rg j := (List.forall_mem_cons.mp (List.forall_mem_cons.mp hkS).2).1
        have hk := (List.forall_mem_cons.mp (List.forall_mem_cons.mp (List.forall_mem_cons.mp hkS).2).2).2
        have hcl := am_clN vj
        have hq := am_tag_of htag
        have he := am_arq_at (base := base) (sa := sa) (cs := cs) htag
        have her := am_obj_at (base := base) (sa := sa) (cs := cs) htagr (by omega)
        refine va_astq hx hb hG.1 hR.2.2.1 am_ws_D hS q 3 r 2 he rfl her (am_Cl_at 2 (by omega)) ((am_vin vj).mpr h.1) hd (fun H1 locs1 hP1 _ hS1 => ?_)
        rw [hcl] at hP1
        have hset : (am_ws base sa cs m).set q (am_ra base sa q, .inl (cs.2.2.2, n, .inr (.inr (.inr (.inr (va_up (fun j => (m.2.2.2 q j).map (am_ra base sa)) j.toNat (some (am_ra base sa r)))))))) = am_ws base sa cs (m.1, m.2.1, m.2.2.1, am_up m.2.2.2 q j.toNat (some r)) := by
          rw [am_ra_lt hq.1]
          refine am_ws_set rfl hq.2.2 ?_ (am_cell_ne rfl (fun _ _ => rfl) (fun _ _ => rfl) (fun j hj => am_up_ne hj))
          rw [am_cell_of (m := (m.1, m.2.1, m.2.2.1, am_up m.2.2.2 q j.toNat (some r))) hq.2.1]
          show am_cf _ _ _ _ _ _ _ _ = _
          unfold am_cf
          simp only [am_up_eq]
          simp
          funext i
          by_cases hi : i = j.toNat
          · simp [hi, va_up]
          · simp [hi, va_up]
        rw [hset] at hP1
        refine am_W_siz fun hz1 => ?_
        obtain ⟨hR1, hz2⟩ := am_wrote (m' := (m.1, m.2.1, m.2.2.1, am_up m.2.2.2 q j.toNat (some r))) hR hz rfl hq.2.2 hP1 hR.2.2.2 hz1
        exact am_fin h.2 ⟨hC, hG, hS1, hB, hR1, hz2, hL, hkL, hk, hc1, hc2⟩ (hn rfl) rfl
      all_goals exact h.elim
    all_goals exact h.elim
  all_goals exact h.elim
set_option maxHeartbeats 1000000 in
theorem am_s85 : am_OpS l base sa cs D E 85 am_o85 := by
  intro k ip pc a b cp pl hrow bd ls st m Q h
  obtain ⟨⟨il, ht, hd, hn⟩, hpc, hside, hword, hjmp, hsw⟩ := am_dec hrow
  unfold am_o85 at h
  obtain rfl := Option.some.inj ht
  split at h
  next v st =>
    split at h
    next hcat =>
      refine am_intro hpc ?_
      intro p e S mm args below meth c H locs cells slots lsA hI
      obtain ⟨hC, hG, hS, hB, hR, hz, hL, hkL, hkS, hc1, hc2⟩ := id hI
      obtain ⟨hx, hb, hr, hml, hown, hts, hlk, hini⟩ := id hC
      have hv := (List.forall_mem_cons.mp hkS).1
      have hk := (List.forall_mem_cons.mp hkS).2
      have hc : (am_en base sa v).category = 1 := by rw [am_en_cat]; exact Nat.eq_of_beq_eq_true hcat
      exact lv_dup hx hb hd hc (am_fin h ⟨hC, hG, hS, hB, hR, hz, hL, hkL, List.forall_mem_cons.mpr ⟨hv, List.forall_mem_cons.mpr ⟨hv, hk⟩⟩, hc1, hc2⟩ (hn rfl) rfl)
    all_goals exact h.elim
  all_goals exact h.elim
set_option maxHeartbeats 1000000 in
theorem am_s86 : am_OpS l base sa cs D E 86 am_o86 := by
  intro k ip pc a b cp pl hrow bd ls st m Q h
  obtain ⟨⟨il, ht, hd, hn⟩, hpc, hside, hword, hjmp, hsw⟩ := am_dec hrow
  unfold am_o86 at h
  obtain rfl := Option.some.inj ht
  split at h
  next v st =>
    split at h
    next hcat =>
      refine am_intro hpc ?_
      intro p e S mm args below meth c H locs cells slots lsA hI
      obtain ⟨hC, hG, hS, hB, hR, hz, hL, hkL, hkS, hc1, hc2⟩ := id hI
      obtain ⟨hx, hb, hr, hml, hown, hts, hlk, hini⟩ := id hC
      have hv := (List.forall_mem_cons.mp hkS).1
      have hk := (List.forall_mem_cons.mp hkS).2
      have hc : (am_en base sa v).category = 1 := by rw [am_en_cat]; exact Nat.eq_of_beq_eq_true hcat
      exact lv_pop hx hb hd hc (am_fin h ⟨hC, hG, hS, hB, hR, hz, hL, hkL, hk, hc1, hc2⟩ (hn rfl) rfl)
    all_goals exact h.elim
  all_goals exact h.elim
end SND3
end
section
/-! calls, ends, and what is made -/
theorem am_pop_len : ∀ (n : Nat) (acc st vs rest : List am_V), am_pop n acc st = some (vs, rest) → vs.reverse ++ rest = acc.reverse ++ st ∧ vs.length = n + acc.length
  | 0, acc, st, vs, rest, h => by
    cases h
    exact ⟨rfl, by omega⟩
  | n + 1, acc, v :: st, vs, rest, h => by
    obtain ⟨h1, h2⟩ := am_pop_len n (v :: acc) st vs rest h
    refine ⟨by rw [h1]; simp, by rw [h2]; simp; omega⟩
  | n + 1, acc, [], vs, rest, h => by cases h
theorem am_pop_of {n : Nat} {st vs rest : List am_V} (h : am_pop n [] st = some (vs, rest)) : st = vs.reverse ++ rest ∧ vs.length = n := by
  obtain ⟨h1, h2⟩ := am_pop_len n [] st vs rest h
  exact ⟨by simpa using h1.symm, by simpa using h2⟩
theorem am_mfacts {k : Nat} (hk : k < 180) : plainName (am_y k).cls = true ∧ (am_y k).cls = am_cn (am_own k) ∧ (am_own k < 7 ∧ (am_st k = false → am_own k < 6)) ∧ (parseMethodDescriptor (am_y k).desc).map (fun d => d.parameters.length) = some (am_na k)
    ∧ ((am_y k).cls ≠ "java/lang/invoke/MethodHandle" ∧ (am_y k).cls ≠ "java/lang/invoke/VarHandle") ∧ (if am_st k = true then Jvm.Cond.static (am_y k) else Jvm.Cond.instanceMethod (am_y k)) ∈ am_good
    ∧ (am_st k = false → am_in k = false → Jvm.Cond.selects (am_y k).cls (am_y k) (am_y k) ∈ am_good) ∧ (am_in k = true → (am_y k).name = "<init>") ∧ am_codeW k ∈ am_good := by
  have h := am_upto_at am_ms_ok hk
  simp only [am_mOK, Bool.and_eq_true] at h
  obtain ⟨h1, h2, h3, h4, ⟨h5, h6⟩, h7, -⟩ := h
  refine ⟨of_decide_eq_true h1, of_decide_eq_true h2, of_decide_eq_true h3, of_decide_eq_true h4, of_decide_eq_true h5, ?_, ?_, of_decide_eq_true h7, am_good_of (am_code_ok k hk) rfl⟩
  · split at h6
    · simp only [Bool.and_eq_true] at h6
      refine am_good_of (of_decide_eq_true h6.1) ?_
      split <;> rfl
    · cases h6
  · intro hs hi
    split at h6
    · simp only [Bool.and_eq_true, hs, hi, Bool.false_or] at h6
      exact am_good_of (of_decide_eq_true h6.2) rfl
    · cases h6
theorem am_wsM_good {k : Nat} (hk : k < 180) : GoodIn am_good (am_wsM k) := by
  intro w hw
  rcases List.mem_cons.mp hw with rfl | h
  · exact am_good_in _ (am_mfacts hk).2.2.2.2.2.2.2.2
  · exact am_good_in w h
theorem am_exp_in : ∀ {vs : List am_V} {n : Nat} {v : am_V}, am_nth (am_exp vs) n = some (some v) → v ∈ vs
  | [], _, _, h => by cases h
  | u :: vs, n, v, h => by
    rcases u with x | r | f | x
    · cases n with
      | zero => cases h; exact List.mem_cons_self
      | succ n => exact List.mem_cons_of_mem _ (am_exp_in (n := n) h)
    · cases n with
      | zero => cases h; exact List.mem_cons_self
      | succ n => exact List.mem_cons_of_mem _ (am_exp_in (n := n) h)
    · cases n with
      | zero => cases h; exact List.mem_cons_self
      | succ n => exact List.mem_cons_of_mem _ (am_exp_in (n := n) h)
    · cases n with
      | zero => cases h; exact List.mem_cons_self
      | succ n =>
        cases n with
        | zero => cases h
        | succ n => exact List.mem_cons_of_mem _ (am_exp_in (n := n) h)
theorem am_args_in {vs : List am_V} {k n : Nat} {v : am_V} (h : am_nth (am_args vs k) n = some (some v)) : v ∈ vs := by
  unfold am_args at h
  rw [am_nth_eq] at h
  by_cases hl : n < (am_exp vs).length
  · rw [List.getElem?_append_left hl, ← am_nth_eq] at h
    exact am_exp_in h
  · rw [List.getElem?_append_right (by omega), List.getElem?_replicate] at h
    split at h <;> cases h
section SND4
variable {l : Launch} {base : Nat} {sa : Nat → Nat} {cs : am_CS} {D : va_G} {E : am_E}
abbrev am_PcW (base : Nat) (sa : Nat → Nat) (cs : am_CS) (D : va_G) (E : am_E) (m : am_M) : State → Prop := fun U => am_GS base sa cs D E U U.heap ∧ am_RP base sa cs D m U.heap ∧ base ≤ U.heap.size
/-- a method's contract, out of the predicate at its entry -/
theorem am_met {k : Nat} (hk : k < 180) {vs : List am_V} {m : am_M} {Q : am_Q} (h : am_Sd l base sa cs D E k (0, am_bud k, am_args vs (am_L k), [], m) Q) (hok : ∀ v ∈ vs, am_ok v) (hlen : (am_exp vs).length ≤ am_L k) :
    Met l (am_y k) (am_wsM k) (am_rm k) (va_Pc (vs.map (am_en base sa)) (am_PcW base sa cs D E m)) (am_QM base sa cs D k Q) (am_b1 k) (am_b2 k) (am_A base) := by
  obtain ⟨f1, f2, f3, f4, f5, f6, f7, f8, f9⟩ := am_mfacts hk
  refine Met.ofW (cc := am_b k) (maxL := am_L k) (ret := am_ret k) f1 rfl ?_
  intro p e s mm args below meth c s₁ B hml hv
  obtain ⟨rfl, hG, hR, hB⟩ := hv
  have hts0 := atoms_spec (ws := am_wsM k) B.pre
  have hts : ∀ w ∈ am_good, w.before (vs.map (am_en base sa)).toArray s = true := fun w hw => hts0 w (List.mem_cons_of_mem _ hw)
  have hown : s.vm.findClass (am_cn (am_own k)) = some mm.cls := by rw [← f2]; exact findClass_of_methodNamed B.named
  have hnm : meth.name = (am_y k).name := (name_of_methodNamed B.named B.method).1
  have hl0 := lv_entry (vs.map (am_en base sa)) (n := am_L k) (by rw [am_exp_len]; exact hlen)
  rw [lg_entry_eq]
  generalize (lg_sl (vs.map (am_en base sa)) ++ List.replicate (am_L k - (lg_sl (vs.map (am_en base sa))).length) Slot.unset).toArray = lsA at hl0 ⊢
  have hl : lv_has lsA (am_L k) (am_lv base sa 0 (am_args vs (am_L k))) := by
    refine ⟨hl0.1, hl0.2.1, fun q hq => hl0.2.2 q ?_⟩
    obtain ⟨j, w⟩ := q
    obtain ⟨n, v, h1, h2, h3⟩ := am_lv_mem.mp hq
    have h4 := am_lv_args (base := base) (sa := sa) (i := 0) h2
    rw [h1, h3]
    exact h4
  have hpc : am_pc k 0 = 0 := of_decide_eq_true (am_upto_at am_pc0 (by omega))
  have hokL : ∀ n v, am_nth (am_args vs (am_L k)) n = some (some v) → am_ok v := by
    intro n v hv
    have h4 : v ∈ vs := am_args_in hv
    exact hok v h4
  have hW := h p e s mm _ below meth c s.heap [] 0 0 lsA ⟨⟨B.exec, B.bytes, B.returns, hml, hown, hts, B.notSynchronized, fun hi => by rw [hnm]; exact f8 hi⟩, hG, va_S.rf, hB, hR, rfl, hl, hokL, fun v hv => (List.not_mem_nil hv).elim, Nat.zero_add _, Nat.le_of_eq (Nat.zero_add _)⟩
  have hW2 : W p l e (am_rm k) s mm (vs.map (am_en base sa)).toArray below meth c s.heap [] 0 0 (MQ below (am_QM base sa cs D k Q) (vs.map (am_en base sa)).toArray s (am_b1 k) (am_b2 k) (am_A base)) (F0 mm (am_pc k 0) lsA []) := hW
  rw [hpc] at hW2
  exact hW2
section CR
variable {p : Program} {e : Env} {R : Room} {s : State} {m : MethodId} {args : Array Value} {below : List Frame} {meth : Method} {c : Code} {H : Heap} {locs : List Loc} {cells slots mc ms : Nat} {QQ : State → Prop} {pc : Nat} {ls : Array Slot} {rest st0 : List Value} {a : Array Value}
theorem am_callR {k' : Nat} (hk' : k' < 180) {Q' : am_Q} (hr : va_Run p l e R s m args below meth c H locs cells slots mc ms (F0 m pc ls st0) rest (am_QM base sa cs D k' Q' a) (am_A base)) (hS : va_S (am_A base) s.heap H locs)
    (kk : ∀ (r : Option am_V) (m' : am_M) (H1 : Heap) (locs1 : List Loc), (∀ v, r = some v → am_ok v) → Q' r m' → am_RP base sa cs D m' H1 → H1.size = H.size + am_b1 k' → va_S (am_A base) s.heap H1 locs1 → W p l e R s m args below meth c H1 locs1 (cells + mc) (slots + ms) QQ (F0 m (pc + 3) ls ((r.map (am_en base sa)).toList ++ rest))) :
    W p l e R s m args below meth c H locs cells slots QQ (F0 m pc ls st0) := by
  intro T hT X
  obtain ⟨v, st₀, t, T', L, h0, X', hL, e1, e2, ⟨⟨r, m', hv, hp, hq, hrp, hsz⟩, hz, hk⟩, st⟩ := hr T hT X
  cases hv
  rw [h0] at hz hk
  have hsz2 := hsz hk'
  rw [h0] at hsz2
  obtain ⟨t2, a1, b1⟩ := kk r m' T'.heap (locs ++ L) hp hq (by rw [e1]; exact hrp) (by rw [e1]; exact hsz2)
    ⟨Nat.le_trans hS.1 (by rw [e1]; exact hz), fun q h1 h2 => by rw [e1, hk q (Nat.lt_of_lt_of_le h1 hS.1) h2]; exact hS.2.1 q h1 h2, fun q hq2 => by
      rcases List.mem_append.mp hq2 with h | h
      · exact hS.2.2 q h
      · exact hL q h⟩ T' rfl X'
  exact ⟨t2, st t2 a1, b1⟩
end CR
theorem am_blind {vs : List am_V} {m : am_M} : FrameBlind (va_Pc (vs.map (am_en base sa)) (am_PcW base sa cs D E m)) := by
  intro a U g mk h
  obtain ⟨h1, h2, h3, h4⟩ := h
  exact ⟨h1, am_GS.same (u := U) (U := U.calling g mk a) (H := U.heap) rfl h2, h3, h4⟩
theorem am_pcW {vs : List am_V} {m : am_M} {S : State} {H : Heap} {locs : List Loc} (hG : am_GS base sa cs D E S S.heap) (hS : va_S (am_A base) S.heap H locs) (hB : base ≤ S.heap.size) (hR : am_RP base sa cs D m H) : ∀ U : State, U.heap = H → S.WarmedH U.vm → va_Pc (vs.map (am_en base sa)) (am_PcW base sa cs D E m) (vs.map (am_en base sa)).toArray U := by
  intro U hU hW
  refine ⟨rfl, ?_, by rw [hU]; exact hR, by rw [hU]; exact Nat.le_trans hB hS.1⟩
  rw [hU]
  exact hG.to hW hS.2.1
theorem am_push_map (r : Option am_V) (st : List am_V) : (am_push r st).map (am_en base sa) = (r.map (am_en base sa)).toList ++ st.map (am_en base sa) := by
  cases r <;> rfl
theorem am_okpush {r : Option am_V} {st : List am_V} (hr : ∀ v, r = some v → am_ok v) (hs : ∀ v ∈ st, am_ok v) : ∀ v ∈ am_push r st, am_ok v := by
  cases r with
  | none => exact hs
  | some u => exact List.forall_mem_cons.mpr ⟨hr u rfl, hs⟩
theorem am_fits_of {bd : Nat × Nat} {a : Nat} {st vs : List am_V} (h : am_fits bd a st vs = true) : am_b1 a ≤ bd.1 ∧ am_b2 a ≤ bd.2 ∧ am_cats st ≤ 8 ∧ (am_exp vs).length ≤ am_L a := by
  simpa [am_fits, Nat.ble_eq] using h
/-- behind a call: the invariant of the caller -/
theorem am_after {k a ip : Nat} {bd : Nat × Nat} {ls : am_LS} {st st' : List am_V} {m m' : am_M} {r : Option am_V} {p : Program} {S : State} {mm : MethodId} {args : Array Value} {meth : Method} {c : Code} {H H1 : Heap} {locs locs1 : List Loc} {cells slots : Nat} {lsA : Array Slot}
    (hI : am_Inv base sa cs D E k (ip, bd, ls, st, m) p S mm args meth c H locs cells slots lsA) (hb1 : am_b1 a ≤ bd.1) (hb2 : am_b2 a ≤ bd.2) (hr : ∀ v, r = some v → am_ok v) (hs : ∀ v ∈ st', am_ok v) (hR1 : am_RP base sa cs D m' H1) (hz1 : H1.size = H.size + am_b1 a) (hS1 : va_S (am_A base) S.heap H1 locs1) :
    am_Inv base sa cs D E k (ip + 1, (bd.1 - am_b1 a, bd.2 - am_b2 a), ls, am_push r st', m') p S mm args meth c H1 locs1 (cells + am_b1 a) (slots + am_b2 a) lsA := by
  obtain ⟨hC, hG, hS, hB, hR, hz, hL, hkL, hkS, hc1, hc2⟩ := hI
  have hc1' : cells + bd.1 = am_b1 k := hc1
  have hc2' : slots + bd.2 ≤ am_b2 k := hc2
  refine ⟨hC, hG, hS1, hB, hR1, by omega, hL, hkL, am_okpush hr hs, ?_, ?_⟩
  · show cells + am_b1 a + (bd.1 - am_b1 a) = am_b1 k
    omega
  · show slots + am_b2 a + (bd.2 - am_b2 a) ≤ am_b2 k
    omega
set_option maxHeartbeats 1000000 in
theorem am_s70 : am_OpS l base sa cs D E 70 am_o70 := by
  intro k ip pc a b cp pl hrow bd ls st m Q h
  obtain ⟨⟨il, ht, hd, hn⟩, hpc, hside, hword, hjmp, hsw⟩ := am_dec hrow
  obtain rfl := Option.some.inj ht
  unfold am_o70 at h
  have hsd := of_decide_eq_true hside
  have hw := am_good_of (hword _ rfl) rfl
  split at h
  next vs st2 hpop =>
    obtain ⟨rfl, hvl⟩ := am_pop_of hpop
    split at h
    next q st =>
      split at h
      next nn htag =>
        split at h
        next hfit =>
          refine am_intro hpc ?_
          intro p e S mm args below meth c H locs cells slots lsA hI
          obtain ⟨hC, hG, hS, hB, hR, hz, hL, hkL, hkS, hc1, hc2⟩ := id hI
          obtain ⟨hx, hb, hr, hml, hown, hts, hlk, hini⟩ := id hC
          obtain ⟨f1, f2, f3, f4, f5, f6, f7, f8, f9⟩ := am_mfacts hsd.1; have f30 := f3.1
          obtain ⟨g1, g2, g3, g4⟩ := am_fits_of hfit
          have hc1' : cells + bd.1 = am_b1 k := hc1
          have hc2' : slots + bd.2 ≤ am_b2 k := hc2
          have hCF : CallFix p mm c (am_b k) (am_L k) S args am_good (am_cn (am_own k)) := ⟨hx, hb, hml, hown, hts⟩
          have hfit2 : cells + am_b1 a ≤ (am_rm k).cells ∧ slots + am_b2 a ≤ (am_rm k).slots := ⟨by show cells + am_b1 a ≤ am_b1 k; omega, by show slots + am_b2 a ≤ am_b2 k; omega⟩
          have hcat : 2 * (F0 mm pc lsA (st.map (am_en base sa))).monitorRoom + (((st.map (am_en base sa))).map fun v => v.category).sum ≤ 8 := lv_room (by rw [am_cats_map]; exact g3)
          have hkv : ∀ v ∈ amR q :: vs, am_ok v := List.forall_mem_cons.mpr ⟨trivial, fun v hv => hkS v (List.mem_append_left _ (List.mem_reverse.mpr hv))⟩
          have hk : ∀ v ∈ st, am_ok v := fun v hv => hkS v (List.mem_append_right _ (List.mem_cons_of_mem _ hv))
          have hM := am_met (l := l) (base := base) (sa := sa) (cs := cs) (D := D) (E := E) hsd.1 h hkv g4
          rw [hsd.2.1] at f6
          simp only [Bool.false_eq_true, if_false] at f6
          have hen : am_en base sa (amR q) = .ref (am_ra base sa q) := rfl
          have hpcw := am_pcW (vs := amR q :: vs) hG hS hB hR
          have f7 := f7 hsd.2.1 hsd.2.2.1
          have hrecv := va_recv hG.1 hR.2.2.1 (am_Cl_at (am_own a) (f3.2 hsd.2.1)) (am_obj_at (base := base) (sa := sa) (cs := cs) htag (f3.2 hsd.2.1))
          have hp : PreV S H (am_y a).cls (am_ra base sa q) (va_Pc ((amR q :: vs).map (am_en base sa)) (am_PcW base sa cs D E m)) (vs.map (am_en base sa)) := ⟨am_blind, by rw [f2]; exact hrecv, hpcw⟩
          have hT : GoodIn am_good (wsV (am_cn (am_own k)) cp (am_y a).cls (am_y a) (am_wsM a)) := by
            intro w hw2
            rcases List.mem_append.mp hw2 with h3 | h3
            · refine am_good_in w ?_
              simp only [List.mem_cons, List.not_mem_nil, or_false] at h3
              rcases h3 with rfl | rfl | rfl | rfl
              · exact hw
              · exact f6
              · exact f7
              · rw [f2]; exact am_init_in (by omega)
            · exact am_wsM_good hsd.1 w h3
          have cw := cwV (R := am_rm k) (rm := am_rm a) (mc := am_b1 a) (ms := am_b2 a) (am_na a) hts hT rfl rfl rfl ⟨rfl, f5.1, f5.2, f4⟩ ⟨hsd.2.2.2.1, hsd.2.2.2.2⟩
          refine am_callR hsd.1 (va_runV hCF hM cw hp rfl (by simp [hvl]) hL.1 (by simp [hen]) hcat hd hfit2) hS (fun r m2 H1 locs1 hok2 h2 hR1 hz1 hS1 => ?_)
          exact am_fin h2 (am_after hI g1 g2 hok2 hk hR1 hz1 hS1) (hn rfl) (am_push_map r st)
        all_goals exact h.elim
      all_goals exact h.elim
    all_goals exact h.elim
  all_goals exact h.elim
set_option maxHeartbeats 1000000 in
theorem am_s71 : am_OpS l base sa cs D E 71 am_o70 := by
  intro k ip pc a b cp pl hrow bd ls st m Q h
  obtain ⟨⟨il, ht, hd, hn⟩, hpc, hside, hword, hjmp, hsw⟩ := am_dec hrow
  obtain rfl := Option.some.inj ht
  unfold am_o70 at h
  have hsd := of_decide_eq_true hside
  have hw := am_nest_of (hword _ rfl) rfl
  split at h
  next vs st2 hpop =>
    obtain ⟨rfl, hvl⟩ := am_pop_of hpop
    split at h
    next q st =>
      split at h
      next nn htag =>
        split at h
        next hfit =>
          refine am_intro hpc ?_
          intro p e S mm args below meth c H locs cells slots lsA hI
          obtain ⟨hC, hG, hS, hB, hR, hz, hL, hkL, hkS, hc1, hc2⟩ := id hI
          obtain ⟨hx, hb, hr, hml, hown, hts, hlk, hini⟩ := id hC
          obtain ⟨f1, f2, f3, f4, f5, f6, f7, f8, f9⟩ := am_mfacts hsd.1; have f30 := f3.1
          obtain ⟨g1, g2, g3, g4⟩ := am_fits_of hfit
          have hc1' : cells + bd.1 = am_b1 k := hc1
          have hc2' : slots + bd.2 ≤ am_b2 k := hc2
          have hCF : CallFix p mm c (am_b k) (am_L k) S args am_good (am_cn (am_own k)) := ⟨hx, hb, hml, hown, hts⟩
          have hfit2 : cells + am_b1 a ≤ (am_rm k).cells ∧ slots + am_b2 a ≤ (am_rm k).slots := ⟨by show cells + am_b1 a ≤ am_b1 k; omega, by show slots + am_b2 a ≤ am_b2 k; omega⟩
          have hcat : 2 * (F0 mm pc lsA (st.map (am_en base sa))).monitorRoom + (((st.map (am_en base sa))).map fun v => v.category).sum ≤ 8 := lv_room (by rw [am_cats_map]; exact g3)
          have hkv : ∀ v ∈ amR q :: vs, am_ok v := List.forall_mem_cons.mpr ⟨trivial, fun v hv => hkS v (List.mem_append_left _ (List.mem_reverse.mpr hv))⟩
          have hk : ∀ v ∈ st, am_ok v := fun v hv => hkS v (List.mem_append_right _ (List.mem_cons_of_mem _ hv))
          have hM := am_met (l := l) (base := base) (sa := sa) (cs := cs) (D := D) (E := E) hsd.1 h hkv g4
          rw [hsd.2.1] at f6
          simp only [Bool.false_eq_true, if_false] at f6
          have hen : am_en base sa (amR q) = .ref (am_ra base sa q) := rfl
          have hpcw := am_pcW (vs := amR q :: vs) hG hS hB hR
          have f7 := f7 hsd.2.1 hsd.2.2.1
          have hrecv := va_recv hG.1 hR.2.2.1 (am_Cl_at (am_own a) (f3.2 hsd.2.1)) (am_obj_at (base := base) (sa := sa) (cs := cs) htag (f3.2 hsd.2.1))
          have hp : PreV S H (am_y a).cls (am_ra base sa q) (va_Pc ((amR q :: vs).map (am_en base sa)) (am_PcW base sa cs D E m)) (vs.map (am_en base sa)) := ⟨am_blind, by rw [f2]; exact hrecv, hpcw⟩
          have cw := va_cnB (R := am_rm k) (rm := am_rm a) (mc := am_b1 a) (ms := am_b2 a) (ret := am_ret a) (am_na a) hts (am_wsM_good hsd.1) rfl rfl rfl (hG.2.1 _ hw) (by rw [f2]; exact hts _ (am_init_in (by omega))) ⟨f5.1, f5.2, f4⟩ ⟨hsd.2.2.2.1, hsd.2.2.2.2⟩
          refine am_callR hsd.1 (va_runVN hCF hM ⟨cw, hts _ f6, hts _ f7⟩ hp rfl (by simp [hvl]) hL.1 (by simp [hen]) hcat hd hfit2) hS (fun r m2 H1 locs1 hok2 h2 hR1 hz1 hS1 => ?_)
          exact am_fin h2 (am_after hI g1 g2 hok2 hk hR1 hz1 hS1) (hn rfl) (am_push_map r st)
        all_goals exact h.elim
      all_goals exact h.elim
    all_goals exact h.elim
  all_goals exact h.elim
set_option maxHeartbeats 1000000 in
theorem am_s72 : am_OpS l base sa cs D E 72 am_o72 := by
  intro k ip pc a b cp pl hrow bd ls st m Q h
  obtain ⟨⟨il, ht, hd, hn⟩, hpc, hside, hword, hjmp, hsw⟩ := am_dec hrow
  obtain rfl := Option.some.inj ht
  unfold am_o72 at h
  have hsd := of_decide_eq_true hside
  have hw := am_good_of (hword _ rfl) rfl
  split at h
  next vs st2 hpop =>
    obtain ⟨rfl, hvl⟩ := am_pop_of hpop
    split at h
    next hfit =>
      refine am_intro hpc ?_
      intro p e S mm args below meth c H locs cells slots lsA hI
      obtain ⟨hC, hG, hS, hB, hR, hz, hL, hkL, hkS, hc1, hc2⟩ := id hI
      obtain ⟨hx, hb, hr, hml, hown, hts, hlk, hini⟩ := id hC
      obtain ⟨f1, f2, f3, f4, f5, f6, f7, f8, f9⟩ := am_mfacts hsd.1; have f30 := f3.1
      obtain ⟨g1, g2, g3, g4⟩ := am_fits_of hfit
      have hc1' : cells + bd.1 = am_b1 k := hc1
      have hc2' : slots + bd.2 ≤ am_b2 k := hc2
      have hCF : CallFix p mm c (am_b k) (am_L k) S args am_good (am_cn (am_own k)) := ⟨hx, hb, hml, hown, hts⟩
      have hfit2 : cells + am_b1 a ≤ (am_rm k).cells ∧ slots + am_b2 a ≤ (am_rm k).slots := ⟨by show cells + am_b1 a ≤ am_b1 k; omega, by show slots + am_b2 a ≤ am_b2 k; omega⟩
      have hcat : 2 * (F0 mm pc lsA (st2.map (am_en base sa))).monitorRoom + (((st2.map (am_en base sa))).map fun v => v.category).sum ≤ 8 := lv_room (by rw [am_cats_map]; exact g3)
      have hkv : ∀ v ∈ vs, am_ok v := fun v hv => hkS v (List.mem_append_left _ (List.mem_reverse.mpr hv))
      have hk : ∀ v ∈ st2, am_ok v := fun v hv => hkS v (List.mem_append_right _ hv)
      have hM := am_met (l := l) (base := base) (sa := sa) (cs := cs) (D := D) (E := E) hsd.1 h hkv g4
      rw [hsd.2.1] at f6
      simp only [if_true] at f6
      have hT : GoodIn am_good (wsS (am_cn (am_own k)) cp (am_y a) (am_wsM a)) := by
        intro w hw2
        rcases List.mem_append.mp hw2 with h3 | h3
        · refine am_good_in w ?_
          simp only [List.mem_cons, List.not_mem_nil, or_false] at h3
          rcases h3 with rfl | rfl | rfl
          · exact hw
          · exact f6
          · rw [← hsd.2.2.1]; exact am_init_in (by omega)
        · exact am_wsM_good hsd.1 w h3
      have cw := cwS (R := am_rm k) (rm := am_rm a) (mc := am_b1 a) (ms := am_b2 a) (am_na a) hts hT rfl rfl rfl ⟨by rw [f2, hsd.2.2.1], f5.1, f5.2, f4⟩ ⟨hsd.2.2.2.1, hsd.2.2.2.2⟩
      refine am_callR hsd.1 (va_runS hCF hM cw ⟨am_blind, am_pcW hG hS hB hR⟩ rfl (by simp [hvl]) hL.1 (by simp) hcat hd hfit2) hS (fun r m2 H1 locs1 hok2 h2 hR1 hz1 hS1 => ?_)
      exact am_fin h2 (am_after hI g1 g2 hok2 hk hR1 hz1 hS1) (hn rfl) (am_push_map r st2)
    all_goals exact h.elim
  all_goals exact h.elim
set_option maxHeartbeats 1000000 in
theorem am_s73 : am_OpS l base sa cs D E 73 am_o72 := by
  intro k ip pc a b cp pl hrow bd ls st m Q h
  obtain ⟨⟨il, ht, hd, hn⟩, hpc, hside, hword, hjmp, hsw⟩ := am_dec hrow
  obtain rfl := Option.some.inj ht
  unfold am_o72 at h
  have hsd := of_decide_eq_true hside
  have hw := am_nest_of (hword _ rfl) rfl
  split at h
  next vs st2 hpop =>
    obtain ⟨rfl, hvl⟩ := am_pop_of hpop
    split at h
    next hfit =>
      refine am_intro hpc ?_
      intro p e S mm args below meth c H locs cells slots lsA hI
      obtain ⟨hC, hG, hS, hB, hR, hz, hL, hkL, hkS, hc1, hc2⟩ := id hI
      obtain ⟨hx, hb, hr, hml, hown, hts, hlk, hini⟩ := id hC
      obtain ⟨f1, f2, f3, f4, f5, f6, f7, f8, f9⟩ := am_mfacts hsd.1; have f30 := f3.1
      obtain ⟨g1, g2, g3, g4⟩ := am_fits_of hfit
      have hc1' : cells + bd.1 = am_b1 k := hc1
      have hc2' : slots + bd.2 ≤ am_b2 k := hc2
      have hCF : CallFix p mm c (am_b k) (am_L k) S args am_good (am_cn (am_own k)) := ⟨hx, hb, hml, hown, hts⟩
      have hfit2 : cells + am_b1 a ≤ (am_rm k).cells ∧ slots + am_b2 a ≤ (am_rm k).slots := ⟨by show cells + am_b1 a ≤ am_b1 k; omega, by show slots + am_b2 a ≤ am_b2 k; omega⟩
      have hcat : 2 * (F0 mm pc lsA (st2.map (am_en base sa))).monitorRoom + (((st2.map (am_en base sa))).map fun v => v.category).sum ≤ 8 := lv_room (by rw [am_cats_map]; exact g3)
      have hkv : ∀ v ∈ vs, am_ok v := fun v hv => hkS v (List.mem_append_left _ (List.mem_reverse.mpr hv))
      have hk : ∀ v ∈ st2, am_ok v := fun v hv => hkS v (List.mem_append_right _ hv)
      have hM := am_met (l := l) (base := base) (sa := sa) (cs := cs) (D := D) (E := E) hsd.1 h hkv g4
      rw [hsd.2.1] at f6
      simp only [if_true] at f6
      have cw := va_cnB (R := am_rm k) (rm := am_rm a) (mc := am_b1 a) (ms := am_b2 a) (ret := am_ret a) (am_na a) hts (am_wsM_good hsd.1) rfl rfl rfl (hG.2.1 _ hw) (by rw [f2]; exact hts _ (am_init_in (by omega))) ⟨f5.1, f5.2, f4⟩ ⟨hsd.2.2.1, hsd.2.2.2⟩
      refine am_callR hsd.1 (va_runSN hCF hM ⟨cw, hts _ f6, trivial⟩ ⟨am_blind, am_pcW hG hS hB hR⟩ rfl (by simp [hvl]) hL.1 (by simp) hcat hd hfit2) hS (fun r m2 H1 locs1 hok2 h2 hR1 hz1 hS1 => ?_)
      exact am_fin h2 (am_after hI g1 g2 hok2 hk hR1 hz1 hS1) (hn rfl) (am_push_map r st2)
    all_goals exact h.elim
  all_goals exact h.elim
set_option maxHeartbeats 1000000 in
theorem am_s74 : am_OpS l base sa cs D E 74 am_o74 := by
  intro k ip pc a b cp pl hrow bd ls st m Q h
  obtain ⟨⟨il, ht, hd, hn⟩, hpc, hside, hword, hjmp, hsw⟩ := am_dec hrow
  obtain rfl := Option.some.inj ht
  unfold am_o74 at h
  have hsd := of_decide_eq_true hside
  have hw := am_good_of (hword _ rfl) rfl
  split at h
  next vs st2 hpop =>
    obtain ⟨rfl, hvl⟩ := am_pop_of hpop
    split at h
    next q st =>
      split at h
      next hfit =>
        refine am_intro hpc ?_
        intro p e S mm args below meth c H locs cells slots lsA hI
        obtain ⟨hC, hG, hS, hB, hR, hz, hL, hkL, hkS, hc1, hc2⟩ := id hI
        obtain ⟨hx, hb, hr, hml, hown, hts, hlk, hini⟩ := id hC
        obtain ⟨f1, f2, f3, f4, f5, f6, f7, f8, f9⟩ := am_mfacts hsd.1; have f30 := f3.1
        obtain ⟨g1, g2, g3, g4⟩ := am_fits_of hfit
        have hc1' : cells + bd.1 = am_b1 k := hc1
        have hc2' : slots + bd.2 ≤ am_b2 k := hc2
        have hCF : CallFix p mm c (am_b k) (am_L k) S args am_good (am_cn (am_own k)) := ⟨hx, hb, hml, hown, hts⟩
        have hfit2 : cells + am_b1 a ≤ (am_rm k).cells ∧ slots + am_b2 a ≤ (am_rm k).slots := ⟨by show cells + am_b1 a ≤ am_b1 k; omega, by show slots + am_b2 a ≤ am_b2 k; omega⟩
        have hcat : 2 * (F0 mm pc lsA (st.map (am_en base sa))).monitorRoom + (((st.map (am_en base sa))).map fun v => v.category).sum ≤ 8 := lv_room (by rw [am_cats_map]; exact g3)
        have hkv : ∀ v ∈ amR q :: vs, am_ok v := List.forall_mem_cons.mpr ⟨trivial, fun v hv => hkS v (List.mem_append_left _ (List.mem_reverse.mpr hv))⟩
        have hk : ∀ v ∈ st, am_ok v := fun v hv => hkS v (List.mem_append_right _ (List.mem_cons_of_mem _ hv))
        have hM := am_met (l := l) (base := base) (sa := sa) (cs := cs) (D := D) (E := E) hsd.1 h hkv g4
        rw [hsd.2.1] at f6
        simp only [Bool.false_eq_true, if_false] at f6
        have hen : am_en base sa (amR q) = .ref (am_ra base sa q) := rfl
        have hpcw := am_pcW (vs := amR q :: vs) hG hS hB hR
        have hret : am_wsM a = Jvm.Cond.code (am_y a) (am_b a) (am_L a) none :: am_good := by rw [← hsd.2.2.2.1]; rfl
        have hp : PreS S H (va_Pc ((amR q :: vs).map (am_en base sa)) (am_PcW base sa cs D E m)) (.ref (am_ra base sa q) :: vs.map (am_en base sa)) := ⟨am_blind, hpcw⟩
        have cw := callB_of (R := am_rm k) (rm := am_rm a) (mc := am_b1 a) (ms := am_b2 a) (own := am_cn (am_own k)) (index := cp) (am_na a) hts (am_wsM_good hsd.1) hret rfl rfl (by rw [f2]; exact hts _ (am_init_in (by omega))) (hts _ hw) ⟨f5.1, f5.2, f4⟩ ⟨hsd.2.2.2.2.1, hsd.2.2.2.2.2⟩
        refine am_callR hsd.1 (va_runI hCF hM ⟨cw, f8 hsd.2.2.1, hts _ f6⟩ hp rfl (by simp [hvl]) hL.1 (by simp [hen]) hcat hd hfit2) hS (fun r m2 H1 locs1 hok2 h2 hR1 hz1 hS1 => ?_)
        exact am_fin h2 (am_after hI g1 g2 hok2 hk hR1 hz1 hS1) (hn rfl) (am_push_map r st)
      all_goals exact h.elim
    all_goals exact h.elim
  all_goals exact h.elim
set_option maxHeartbeats 1000000 in
theorem am_s75 : am_OpS l base sa cs D E 75 am_o74 := by
  intro k ip pc a b cp pl hrow bd ls st m Q h
  obtain ⟨⟨il, ht, hd, hn⟩, hpc, hside, hword, hjmp, hsw⟩ := am_dec hrow
  obtain rfl := Option.some.inj ht
  unfold am_o74 at h
  have hsd := of_decide_eq_true hside
  have hw := am_nest_of (hword _ rfl) rfl
  split at h
  next vs st2 hpop =>
    obtain ⟨rfl, hvl⟩ := am_pop_of hpop
    split at h
    next q st =>
      split at h
      next hfit =>
        refine am_intro hpc ?_
        intro p e S mm args below meth c H locs cells slots lsA hI
        obtain ⟨hC, hG, hS, hB, hR, hz, hL, hkL, hkS, hc1, hc2⟩ := id hI
        obtain ⟨hx, hb, hr, hml, hown, hts, hlk, hini⟩ := id hC
        obtain ⟨f1, f2, f3, f4, f5, f6, f7, f8, f9⟩ := am_mfacts hsd.1; have f30 := f3.1
        obtain ⟨g1, g2, g3, g4⟩ := am_fits_of hfit
        have hc1' : cells + bd.1 = am_b1 k := hc1
        have hc2' : slots + bd.2 ≤ am_b2 k := hc2
        have hCF : CallFix p mm c (am_b k) (am_L k) S args am_good (am_cn (am_own k)) := ⟨hx, hb, hml, hown, hts⟩
        have hfit2 : cells + am_b1 a ≤ (am_rm k).cells ∧ slots + am_b2 a ≤ (am_rm k).slots := ⟨by show cells + am_b1 a ≤ am_b1 k; omega, by show slots + am_b2 a ≤ am_b2 k; omega⟩
        have hcat : 2 * (F0 mm pc lsA (st.map (am_en base sa))).monitorRoom + (((st.map (am_en base sa))).map fun v => v.category).sum ≤ 8 := lv_room (by rw [am_cats_map]; exact g3)
        have hkv : ∀ v ∈ amR q :: vs, am_ok v := List.forall_mem_cons.mpr ⟨trivial, fun v hv => hkS v (List.mem_append_left _ (List.mem_reverse.mpr hv))⟩
        have hk : ∀ v ∈ st, am_ok v := fun v hv => hkS v (List.mem_append_right _ (List.mem_cons_of_mem _ hv))
        have hM := am_met (l := l) (base := base) (sa := sa) (cs := cs) (D := D) (E := E) hsd.1 h hkv g4
        rw [hsd.2.1] at f6
        simp only [Bool.false_eq_true, if_false] at f6
        have hen : am_en base sa (amR q) = .ref (am_ra base sa q) := rfl
        have hpcw := am_pcW (vs := amR q :: vs) hG hS hB hR
        have hret : am_wsM a = Jvm.Cond.code (am_y a) (am_b a) (am_L a) none :: am_good := by rw [← hsd.2.2.2.1]; rfl
        have hp : PreS S H (va_Pc ((amR q :: vs).map (am_en base sa)) (am_PcW base sa cs D E m)) (.ref (am_ra base sa q) :: vs.map (am_en base sa)) := ⟨am_blind, hpcw⟩
        have cw := va_cnB (R := am_rm k) (rm := am_rm a) (mc := am_b1 a) (ms := am_b2 a) (am_na a) hts (am_wsM_good hsd.1) hret rfl rfl (hG.2.1 _ hw) (by rw [f2]; exact hts _ (am_init_in (by omega))) ⟨f5.1, f5.2, f4⟩ ⟨hsd.2.2.2.2.1, hsd.2.2.2.2.2⟩
        refine am_callR hsd.1 (va_runIN hCF hM ⟨cw, f8 hsd.2.2.1, hts _ f6⟩ hp rfl (by simp [hvl]) hL.1 (by simp [hen]) hcat hd hfit2) hS (fun r m2 H1 locs1 hok2 h2 hR1 hz1 hS1 => ?_)
        exact am_fin h2 (am_after hI g1 g2 hok2 hk hR1 hz1 hS1) (hn rfl) (am_push_map r st)
      all_goals exact h.elim
    all_goals exact h.elim
  all_goals exact h.elim
end SND4
end
section
/-! ends, and what is made -/
section SND5
variable {l : Launch} {base : Nat} {sa : Nat → Nat} {cs : am_CS} {D : va_G} {E : am_E}

/-- behind what is made: the new cell is the next one, and the heap grew by one -/
theorem am_made {m m' : am_M} {t n q0 : Nat} {e0 : va_E} {H H1 : Heap} {S : State} {cells : Nat} (hR : am_RP base sa cs D m H) (hz : H.size = S.heap.size + cells) (hlen : m.1.length < 999) (h1 : m'.1 = m.1 ++ [(t, n)])
    (hP1 : va_P D am_Cl (am_ws base sa cs m ++ [(q0, e0)]) H1) (hD1 : va_D (am_A base) (am_ws base sa cs m ++ [(q0, e0)])) (he : am_cell base sa cs m' m.1.length = e0) (ho : ∀ j, j < m.1.length → am_cell base sa cs m' j = am_cell base sa cs m j)
    (hrg : ∀ a i, am_rg (m'.2.1 a i)) (hz1 : H1.size ≤ S.heap.size + (cells + 1)) : q0 = base + m.1.length ∧ am_RP base sa cs D m' H1 ∧ H1.size = S.heap.size + (cells + 1) := by
  have hl : (am_ws base sa cs m).length = m.1.length := am_ws_len
  have hlast : (am_ws base sa cs m ++ [(q0, e0)])[m.1.length]? = some (q0, e0) := by
    rw [List.getElem?_append_right (by omega), hl, Nat.sub_self]
    rfl
  have hlt : q0 < H1.size := (hP1 _ _ hlast).lt
  have hge : base ≤ q0 := hD1.2 _ _ hlast
  have hR0 := hR.1
  have hq : q0 = base + m.1.length := by
    by_cases hx : q0 < base + m.1.length
    · have hj : q0 - base < m.1.length := by omega
      have h4 : (am_ws base sa cs m ++ [(q0, e0)])[q0 - base]? = some (base + (q0 - base), am_cell base sa cs m (q0 - base)) := by
        rw [List.getElem?_append_left (by omega), am_ws_at hj]
      have h5 := hD1.1 _ _ _ _ h4 hlast (by show base + (q0 - base) = q0; omega)
      omega
    · omega
  subst hq
  have hws := am_ws_app (base := base) (sa := sa) (cs := cs) h1 he ho
  rw [hws] at hP1
  have hl2 : m'.1.length = m.1.length + 1 := by rw [h1]; simp
  exact ⟨rfl, ⟨by omega, by omega, hP1, hrg⟩, by omega⟩
theorem am_mk_cell {m : am_M} {t n : Nat} : ∀ j, j < m.1.length → am_cell base sa cs (am_mk m t n) j = am_cell base sa cs m j := by
  intro j hj
  unfold am_cell am_mk
  simp only [am_nth_eq]
  rw [List.getElem?_append_left hj, am_clr_ne (by omega), am_clr_ne (by omega), am_clr_ne (by omega)]
theorem am_mk_new {m : am_M} {t n : Nat} : am_cell base sa cs (am_mk m t n) m.1.length = am_cf base sa cs t n (fun _ => 0) (fun _ => 0) (fun _ => none) := by
  unfold am_cell am_mk
  simp only [am_nth_eq]
  rw [List.getElem?_append_right (Nat.le_refl _), Nat.sub_self, am_clr_eq, am_clr_eq, am_clr_eq]
  rfl
theorem am_mk_rg {m : am_M} {t n : Nat} (h : ∀ a i, am_rg (m.2.1 a i)) : ∀ a i, am_rg ((am_mk m t n).2.1 a i) := by
  intro a i
  show am_rg (am_clr m.2.1 m.1.length 0 a i)
  unfold am_clr
  split
  · exact am_rg0
  · exact h a i
set_option maxHeartbeats 1000000 in
theorem am_s76 : am_OpS l base sa cs D E 76 am_o76 := by
  intro k ip pc a b cp pl hrow bd ls st m Q h
  obtain ⟨⟨il, ht, hd, hn⟩, hpc, hside, hword, hjmp, hsw⟩ := am_dec hrow
  unfold am_o76 at h
  obtain rfl := Option.some.inj ht
  have hsd := of_decide_eq_true hside
  have hw := am_good_of (hword _ rfl) rfl
  split at h
  next q st =>
    split at h
    next hcat =>
      refine am_intro hpc ?_
      intro p e S mm args below meth c H locs cells slots lsA hI
      obtain ⟨hC, hG, hS, hB, hR, hz, hL, hkL, hkS, hc1, hc2⟩ := id hI
      obtain ⟨hx, hb, hr, hml, hown, hts, hlk, hini⟩ := id hC
      have hk := (List.forall_mem_cons.mp hkS).2
      have g3 : am_cats st ≤ 8 := Nat.ble_eq.mp hcat
      refine W.objInit hx hb hown (hts _ hw) (hts _ (am_good_of am_x0 rfl)) (hts _ (am_good_of am_x1 rfl)) rfl (hL.1.trans hml.symm) (rest := st.map (am_en base sa)) rfl hd hsd.1 ?_ ?_
      · have h8 : 2 * (F0 mm pc lsA (st.map (am_en base sa))).monitorRoom + (((st.map (am_en base sa))).map fun v => v.category).sum ≤ 8 := lv_room (by rw [am_cats_map]; exact g3)
        have h9 := hsd.2
        show 2 * (F0 mm pc lsA (st.map (am_en base sa))).monitorRoom + (((st.map (am_en base sa))).map fun v => v.category).sum + 12 ≤ am_lo k
        omega
      · exact am_fin h ⟨hC, hG, hS, hB, hR, hz, hL, hkL, hk, hc1, hc2⟩ (hn rfl) rfl
    all_goals exact h.elim
  all_goals exact h.elim
set_option maxHeartbeats 1000000 in
theorem am_s77 : am_OpS l base sa cs D E 77 am_o77 := by
  intro k ip pc a b cp pl hrow bd ls st m Q h
  obtain ⟨⟨il, ht, hd, hn⟩, hpc, hside, hword, hjmp, hsw⟩ := am_dec hrow
  unfold am_o77 at h
  obtain rfl := Option.some.inj ht
  have hsd := of_decide_eq_true hside
  have hw := am_good_of (hword _ rfl) rfl
  split at h
  next y x st =>
    split at h
    next hcat =>
      refine am_intro hpc ?_
      intro p e S mm args below meth c H locs cells slots lsA hI
      obtain ⟨hC, hG, hS, hB, hR, hz, hL, hkL, hkS, hc1, hc2⟩ := id hI
      obtain ⟨hx, hb, hr, hml, hown, hts, hlk, hini⟩ := id hC
      have vy : am_rg y := (List.forall_mem_cons.mp hkS).1
      have vx : am_rg x := (List.forall_mem_cons.mp (List.forall_mem_cons.mp hkS).2).1
      have hk := (List.forall_mem_cons.mp (List.forall_mem_cons.mp hkS).2).2
      have g3 : am_cats st ≤ 8 := Nat.ble_eq.mp hcat
      have hc1' : cells + bd.1 = am_b1 k := hc1
      have hc2' : slots + bd.2 ≤ am_b2 k := hc2
      refine va_mmin hx hb (hml.trans hL.1.symm) hown (hts _ hw) (hts _ (am_good_of am_x2 rfl)) (hts _ (am_good_of am_x6 rfl)) (hts _ (am_good_of am_x3 rfl)) hsd.1 ?_ ?_ ?_ hd ?_
      · rw [am_cats_map]
        have h9 := hsd.2
        show am_cats st + 13 ≤ am_lo k
        omega
      · show cells ≤ am_b1 k
        omega
      · show slots ≤ am_b2 k
        omega
      · have hok : am_rg (if y < x then y else x) := by split <;> assumption
        refine am_fin h ⟨hC, hG, hS, hB, hR, hz, hL, hkL, List.forall_mem_cons.mpr ⟨hok, hk⟩, hc1, hc2⟩ (hn rfl) ?_
        show Value.int (Int32.ofInt (if y < x then y else x)) :: _ = _
        congr 2
        by_cases hh : y < x
        · rw [if_pos hh, if_pos ((am_lt32 vy vx).mpr hh)]
        · rw [if_neg hh, if_neg (fun z => hh ((am_lt32 vy vx).mp z))]
    all_goals exact h.elim
  all_goals exact h.elim
set_option maxHeartbeats 1000000 in
theorem am_s78 : am_OpS l base sa cs D E 78 am_o78 := by
  intro k ip pc a b cp pl hrow bd ls st m Q h
  obtain ⟨⟨il, ht, hd, hn⟩, hpc, hside, hword, hjmp, hsw⟩ := am_dec hrow
  unfold am_o78 at h
  obtain rfl := Option.some.inj ht
  have hsd := of_decide_eq_true hside
  have hw := am_good_of (hword _ rfl) rfl
  split at h
  next y x st =>
    split at h
    next hcat =>
      refine am_intro hpc ?_
      intro p e S mm args below meth c H locs cells slots lsA hI
      obtain ⟨hC, hG, hS, hB, hR, hz, hL, hkL, hkS, hc1, hc2⟩ := id hI
      obtain ⟨hx, hb, hr, hml, hown, hts, hlk, hini⟩ := id hC
      have vy : am_rg y := (List.forall_mem_cons.mp hkS).1
      have vx : am_rg x := (List.forall_mem_cons.mp (List.forall_mem_cons.mp hkS).2).1
      have hk := (List.forall_mem_cons.mp (List.forall_mem_cons.mp hkS).2).2
      have g3 : am_cats st ≤ 8 := Nat.ble_eq.mp hcat
      have hc1' : cells + bd.1 = am_b1 k := hc1
      have hc2' : slots + bd.2 ≤ am_b2 k := hc2
      refine va_mmax hx hb (hml.trans hL.1.symm) hown (hts _ hw) (hts _ (am_good_of am_x4 rfl)) (hts _ (am_good_of am_x6 rfl)) (hts _ (am_good_of am_x5 rfl)) hsd.1 ?_ ?_ ?_ hd ?_
      · rw [am_cats_map]
        have h9 := hsd.2
        show am_cats st + 13 ≤ am_lo k
        omega
      · show cells ≤ am_b1 k
        omega
      · show slots ≤ am_b2 k
        omega
      · have hok : am_rg (if x < y then y else x) := by split <;> assumption
        refine am_fin h ⟨hC, hG, hS, hB, hR, hz, hL, hkL, List.forall_mem_cons.mpr ⟨hok, hk⟩, hc1, hc2⟩ (hn rfl) ?_
        show Value.int (Int32.ofInt (if x < y then y else x)) :: _ = _
        congr 2
        by_cases hh : x < y
        · rw [if_pos hh, if_pos ((am_lt32 vx vy).mpr hh)]
        · rw [if_neg hh, if_neg (fun z => hh ((am_lt32 vx vy).mp z))]
    all_goals exact h.elim
  all_goals exact h.elim
set_option maxHeartbeats 1000000 in
theorem am_s79 : am_OpS l base sa cs D E 79 am_o79 := by
  intro k ip pc a b cp pl hrow bd ls st m Q h
  obtain ⟨⟨il, ht, hd, hn⟩, hpc, hside, hword, hjmp, hsw⟩ := am_dec hrow
  unfold am_o79 at h
  obtain rfl := Option.some.inj ht
  have hsd := of_decide_eq_true hside
  split at h
  next x =>
    split at h
    next hbd =>
      refine am_intro hpc ?_
      intro p e S mm args below meth c H locs cells slots lsA hI
      obtain ⟨hC, hG, hS, hB, hR, hz, hL, hkL, hkS, hc1, hc2⟩ := id hI
      obtain ⟨hx, hb, hr, hml, hown, hts, hlk, hini⟩ := id hC
      have hbd0 : bd.1 = 0 := Nat.eq_of_beq_eq_true hbd
      have hc1' : cells + bd.1 = am_b1 k := hc1
      have hc2' : slots + bd.2 ≤ am_b2 k := hc2
      have vx : am_rg x := (List.forall_mem_cons.mp hkS).1
      refine W.widen (k := am_b1 k) (n := am_b2 k) (by omega) (by omega) ?_
      exact W.iret hx hb (hr.trans hsd) (fun t ht _ => ⟨⟨some (amI x), m, rfl, fun v hv => (by cases hv; exact vx), h.2, by rw [ht]; exact hR, fun _ => by rw [ht]; omega⟩, hS.F ht⟩) hS.2.2 hd hlk
    all_goals exact h.elim
  all_goals exact h.elim
set_option maxHeartbeats 1000000 in
theorem am_s80 : am_OpS l base sa cs D E 80 am_o80 := by
  intro k ip pc a b cp pl hrow bd ls st m Q h
  obtain ⟨⟨il, ht, hd, hn⟩, hpc, hside, hword, hjmp, hsw⟩ := am_dec hrow
  unfold am_o80 at h
  obtain rfl := Option.some.inj ht
  have hsd := of_decide_eq_true hside
  split at h
  next x =>
    split at h
    next hbd =>
      refine am_intro hpc ?_
      intro p e S mm args below meth c H locs cells slots lsA hI
      obtain ⟨hC, hG, hS, hB, hR, hz, hL, hkL, hkS, hc1, hc2⟩ := id hI
      obtain ⟨hx, hb, hr, hml, hown, hts, hlk, hini⟩ := id hC
      have hbd0 : bd.1 = 0 := Nat.eq_of_beq_eq_true hbd
      have hc1' : cells + bd.1 = am_b1 k := hc1
      have hc2' : slots + bd.2 ≤ am_b2 k := hc2
      refine W.widen (k := am_b1 k) (n := am_b2 k) (by omega) (by omega) ?_
      exact W.lret hx hb (hr.trans hsd) (fun t ht _ => ⟨⟨some (amL x), m, rfl, fun v hv => (by cases hv; trivial), h.2, by rw [ht]; exact hR, fun _ => by rw [ht]; omega⟩, hS.F ht⟩) hS.2.2 hd hlk
    all_goals exact h.elim
  all_goals exact h.elim
set_option maxHeartbeats 1000000 in
theorem am_s81 : am_OpS l base sa cs D E 81 am_o81 := by
  intro k ip pc a b cp pl hrow bd ls st m Q h
  obtain ⟨⟨il, ht, hd, hn⟩, hpc, hside, hword, hjmp, hsw⟩ := am_dec hrow
  unfold am_o81 at h
  obtain rfl := Option.some.inj ht
  have hsd := of_decide_eq_true hside
  split at h
  next x =>
    split at h
    next hbd =>
      refine am_intro hpc ?_
      intro p e S mm args below meth c H locs cells slots lsA hI
      obtain ⟨hC, hG, hS, hB, hR, hz, hL, hkL, hkS, hc1, hc2⟩ := id hI
      obtain ⟨hx, hb, hr, hml, hown, hts, hlk, hini⟩ := id hC
      have hbd0 : bd.1 = 0 := Nat.eq_of_beq_eq_true hbd
      have hc1' : cells + bd.1 = am_b1 k := hc1
      have hc2' : slots + bd.2 ≤ am_b2 k := hc2
      refine W.widen (k := am_b1 k) (n := am_b2 k) (by omega) (by omega) ?_
      exact W.fret hx hb (hr.trans hsd) (fun t ht _ => ⟨⟨some (amF x), m, rfl, fun v hv => (by cases hv; trivial), h.2, by rw [ht]; exact hR, fun _ => by rw [ht]; omega⟩, hS.F ht⟩) hS.2.2 hd hlk
    all_goals exact h.elim
  all_goals exact h.elim
set_option maxHeartbeats 1000000 in
theorem am_s82 : am_OpS l base sa cs D E 82 am_o82 := by
  intro k ip pc a b cp pl hrow bd ls st m Q h
  obtain ⟨⟨il, ht, hd, hn⟩, hpc, hside, hword, hjmp, hsw⟩ := am_dec hrow
  unfold am_o82 at h
  obtain rfl := Option.some.inj ht
  have hsd := of_decide_eq_true hside
  split at h
  next r =>
    split at h
    next hbd =>
      refine am_intro hpc ?_
      intro p e S mm args below meth c H locs cells slots lsA hI
      obtain ⟨hC, hG, hS, hB, hR, hz, hL, hkL, hkS, hc1, hc2⟩ := id hI
      obtain ⟨hx, hb, hr, hml, hown, hts, hlk, hini⟩ := id hC
      have hbd0 : bd.1 = 0 := Nat.eq_of_beq_eq_true hbd
      have hc1' : cells + bd.1 = am_b1 k := hc1
      have hc2' : slots + bd.2 ≤ am_b2 k := hc2
      refine W.widen (k := am_b1 k) (n := am_b2 k) (by omega) (by omega) ?_
      exact W.aret hx hb (hr.trans hsd) (Or.inl ⟨_, rfl⟩) (va_rf_or _) (fun t ht _ => ⟨⟨some (amA r), m, rfl, fun v hv => (by cases hv; trivial), h.2, by rw [ht]; exact hR, fun _ => by rw [ht]; omega⟩, hS.F ht⟩) hS.2.2 hd hlk
    all_goals exact h.elim
  all_goals exact h.elim
set_option maxHeartbeats 1000000 in
theorem am_s83 : am_OpS l base sa cs D E 83 am_o83 := by
  intro k ip pc a b cp pl hrow bd ls st m Q h
  obtain ⟨⟨il, ht, hd, hn⟩, hpc, hside, hword, hjmp, hsw⟩ := am_dec hrow
  unfold am_o83 at h
  obtain rfl := Option.some.inj ht
  have hsd := of_decide_eq_true hside
  split at h
  next =>
    split at h
    next hbd =>
      refine am_intro hpc ?_
      intro p e S mm args below meth c H locs cells slots lsA hI
      obtain ⟨hC, hG, hS, hB, hR, hz, hL, hkL, hkS, hc1, hc2⟩ := id hI
      obtain ⟨hx, hb, hr, hml, hown, hts, hlk, hini⟩ := id hC
      have hbd0 : bd.1 = 0 := Nat.eq_of_beq_eq_true hbd
      have hc1' : cells + bd.1 = am_b1 k := hc1
      have hc2' : slots + bd.2 ≤ am_b2 k := hc2
      refine W.widen (k := am_b1 k) (n := am_b2 k) (by omega) (by omega) ?_
      exact W.vret hx hb (hr.trans hsd) (fun t ht _ => ⟨⟨none, m, rfl, fun v hv => (by cases hv), h.2, by rw [ht]; exact hR, fun _ => by rw [ht]; omega⟩, hS.F ht⟩) hS.2.2 hd hlk
    all_goals exact h.elim
  all_goals exact h.elim
set_option maxHeartbeats 1000000 in
theorem am_s84 : am_OpS l base sa cs D E 84 am_o84 := by
  intro k ip pc a b cp pl hrow bd ls st m Q h
  obtain ⟨⟨il, ht, hd, hn⟩, hpc, hside, hword, hjmp, hsw⟩ := am_dec hrow
  unfold am_o84 at h
  obtain rfl := Option.some.inj ht
  have hsd := of_decide_eq_true hside
  split at h
  next x =>
    split at h
    next hbd =>
      refine am_intro hpc ?_
      intro p e S mm args below meth c H locs cells slots lsA hI
      obtain ⟨hC, hG, hS, hB, hR, hz, hL, hkL, hkS, hc1, hc2⟩ := id hI
      obtain ⟨hx, hb, hr, hml, hown, hts, hlk, hini⟩ := id hC
      have hbd0 : bd.1 = 0 := Nat.eq_of_beq_eq_true hbd
      have hc1' : cells + bd.1 = am_b1 k := hc1
      have hc2' : slots + bd.2 ≤ am_b2 k := hc2
      have vx : am_rg x := (List.forall_mem_cons.mp hkS).1
      refine W.widen (k := am_b1 k) (n := am_b2 k) (by omega) (by omega) ?_
      exact W.zret hx hb (hr.trans hsd) (am_nz h.1).1 (fun t ht _ => ⟨⟨some (amI x), m, rfl, fun v hv => (by cases hv; exact vx), h.2, by rw [ht]; exact hR, fun _ => by rw [ht]; omega⟩, hS.F ht⟩) hS.2.2 hd hlk
    all_goals exact h.elim
  all_goals exact h.elim
set_option maxHeartbeats 1000000 in
theorem am_s89 : am_OpS l base sa cs D E 89 am_o89 := by
  intro k ip pc a b cp pl hrow bd ls st m Q h
  obtain ⟨⟨il, ht, hd, hn⟩, hpc, hside, hword, hjmp, hsw⟩ := am_dec hrow
  unfold am_o89 at h
  obtain rfl := Option.some.inj ht
  have hsd := of_decide_eq_true hside
  split at h
  next x =>
    refine am_intro hpc ?_
    intro p e S mm args below meth c H locs cells slots lsA hI
    obtain ⟨hC, hG, hS, hB, hR, hz, hL, hkL, hkS, hc1, hc2⟩ := id hI
    obtain ⟨hx, hb, hr, hml, hown, hts, hlk, hini⟩ := id hC
    have hc1' : cells + bd.1 = am_b1 k := hc1
    have hc2' : slots + bd.2 ≤ am_b2 k := hc2
    have vx : am_rg x := (List.forall_mem_cons.mp hkS).1
    refine W.widen (k := am_b1 k) (n := am_b2 k) (by omega) (by omega) ?_
    exact W.zret hx hb (hr.trans hsd.1) (am_nz h.1).1 (fun t ht _ => ⟨⟨some (amI x), m, rfl, fun v hv => (by cases hv; exact vx), h.2, by rw [ht]; exact hR, fun hh => absurd hsd.2 (by omega)⟩, hS.F ht⟩) hS.2.2 hd hlk
  all_goals exact h.elim
set_option maxHeartbeats 1000000 in
theorem am_s87 : am_OpS l base sa cs D E 87 am_o87 := by
  intro k ip pc a b cp pl hrow bd ls st m Q h
  obtain ⟨⟨il, ht, hd, hn⟩, hpc, hside, hword, hjmp, hsw⟩ := am_dec hrow
  unfold am_o87 at h
  obtain rfl := Option.some.inj ht
  have hsd := of_decide_eq_true hside
  have hw := am_good_of (hword _ rfl) rfl
  split at h
  next hfit =>
    simp only [Bool.and_eq_true, Nat.ble_eq, Nat.blt_eq] at hfit
    refine am_intro hpc ?_
    intro p e S mm args below meth c H locs cells slots lsA hI
    obtain ⟨hC, hG, hS, hB, hR, hz, hL, hkL, hkS, hc1, hc2⟩ := id hI
    obtain ⟨hx, hb, hr, hml, hown, hts, hlk, hini⟩ := id hC
    have hc1' : cells + bd.1 = am_b1 k := hc1
    have hc2' : slots + bd.2 ≤ am_b2 k := hc2
    refine va_new hx hb hts (am_lay_in hsd) (am_tyf a) (am_tyok a hsd) hown (hts _ hw) (hts _ (am_inst_in hsd)) (hts _ (am_init_in (by omega))) hG.1 hR.2.2.1 am_ws_D hS (fun q hq => Nat.le_trans hB hq) (am_Cl_at a hsd)
      (fs := (List.range (am_N a)).map (fun j => am_fd base sa (am_fk a j) 0 none)) ?_ ?_ ?_ hd (fun q0 H1 hP1 hD1 hS1 => ?_)
    · intro j hj
      rw [am_dflt a hsd j hj]
      show _ = ((List.range (am_N a)).map (fun j => am_fd base sa (am_fk a j) 0 none)).getD j .null
      rw [List.getD_eq_getElem?_getD, am_fld_at hj]
      rfl
    · show cells + 1 ≤ am_b1 k
      omega
    · show slots + am_N a ≤ am_b2 k
      omega
    · refine am_W_siz fun hz1 => ?_
      obtain ⟨hq, hR1, hz2⟩ := am_made (m' := am_mk m a 0) (t := a) (n := 0) hR hz hfit.2.2 rfl hP1 hD1 (by rw [am_mk_new, am_cf_obj hsd]) am_mk_cell (am_mk_rg hR.2.2.2) hz1
      subst hq
      refine am_fin h ⟨hC, hG, hS1, hB, hR1, hz2, hL, hkL, List.forall_mem_cons.mpr ⟨trivial, hkS⟩, ?_, ?_⟩ (hn rfl) ?_
      · show cells + 1 + (bd.1 - 1) = am_b1 k
        omega
      · show slots + am_N a + (bd.2 - am_N a) ≤ am_b2 k
        omega
      · show va_rf (some (am_ra base sa m.1.length)) :: _ = _
        rw [am_ra_lt (by omega)]
        rfl
  all_goals exact h.elim
set_option maxHeartbeats 1000000 in
theorem am_s88 : am_OpS l base sa cs D E 88 am_o88 := by
  intro k ip pc a b cp pl hrow bd ls st m Q h
  obtain ⟨⟨il, ht, hd, hn⟩, hpc, hside, hword, hjmp, hsw⟩ := am_dec hrow
  unfold am_o88 at h
  split at h
  next n st =>
    split at h
    next hfit =>
      simp only [Bool.and_eq_true, Nat.ble_eq, Nat.blt_eq] at hfit
      refine am_intro hpc ?_
      intro p e S mm args below meth c H locs cells slots lsA hI
      obtain ⟨hC, hG, hS, hB, hR, hz, hL, hkL, hkS, hc1, hc2⟩ := id hI
      obtain ⟨hx, hb, hr, hml, hown, hts, hlk, hini⟩ := id hC
      have hc1' : cells + bd.1 = am_b1 k := hc1
      have hc2' : slots + bd.2 ≤ am_b2 k := hc2
      have vn : am_rg n := (List.forall_mem_cons.mp hkS).1
      have hk := (List.forall_mem_cons.mp hkS).2
      have hn0 : ¬ Int32.ofInt n < 0 := fun z => by
        have h5 := (am_lt32 vn am_rg0).mp z
        have h6 := h.1.1
        omega
      have hcl := am_clN vn
      have h7 := h.1.2
      have ha3 : a = 0 ∨ a = 1 ∨ a = 2 := by have := hfit.2.2.2; omega
      rcases ha3 with rfl | rfl | rfl
      · obtain rfl := Option.some.inj ht
        have hbytes : n.toNat * componentBytes (.int : FieldType) ≤ 536870912 := by
          show n.toNat * 4 ≤ 536870912
          omega
        refine va_newa (atype := .int) hx hb (hts _ (am_good_of am_x7 rfl)) (ty := .int) rfl hG.1 hR.2.2.1 am_ws_D hS (fun q hq => Nat.le_trans hB hq) (N' := n.toNat) (a0 := (n.toNat, .inl (fun _ => 0))) (fun _ => rfl) hn0 hcl hbytes ?_ ?_ hd (fun q0 cA H1 hK1 hP1 hD1 hS1 => ?_)
        · show cells + 1 ≤ am_b1 k
          omega
        · show slots + n.toNat ≤ am_b2 k
          omega
        · have hcA : cA = cs.1 := by
            have e1 := (hK1.2 4 _ rfl).2
            have e2 := (hG.1.2 0 _ rfl).2
            exact Option.some.inj (e1.symm.trans e2)
          subst hcA
          refine am_W_siz fun hz1 => ?_
          obtain ⟨hq, hR1, hz2⟩ := am_made (m' := am_mk m (10 + 0) n.toNat) (t := 10 + 0) (n := n.toNat) hR hz hfit.2.2.1 rfl hP1 hD1 (by rw [am_mk_new]; rfl) am_mk_cell (am_mk_rg hR.2.2.2) hz1
          subst hq
          refine am_fin h.2 ⟨hC, hG, hS1, hB, hR1, hz2, hL, hkL, List.forall_mem_cons.mpr ⟨trivial, hk⟩, ?_, ?_⟩ (hn rfl) ?_
          · show cells + 1 + (bd.1 - 1) = am_b1 k
            omega
          · show slots + n.toNat + (bd.2 - n.toNat) ≤ am_b2 k
            omega
          · show va_rf (some (am_ra base sa m.1.length)) :: _ = _
            rw [am_ra_lt (by omega)]
            rfl
      · obtain rfl := Option.some.inj ht
        have hbytes : n.toNat * componentBytes (.int : FieldType) ≤ 536870912 := by
          show n.toNat * 4 ≤ 536870912
          omega
        refine va_newa (atype := .int) hx hb (hts _ (am_good_of am_x8 rfl)) (ty := .int) rfl hG.1 hR.2.2.1 am_ws_D hS (fun q hq => Nat.le_trans hB hq) (N' := n.toNat) (a0 := (n.toNat, .inl (fun _ => 0))) (fun _ => rfl) hn0 hcl hbytes ?_ ?_ hd (fun q0 cA H1 hK1 hP1 hD1 hS1 => ?_)
        · show cells + 1 ≤ am_b1 k
          omega
        · show slots + n.toNat ≤ am_b2 k
          omega
        · have hcA : cA = cs.2.1 := by
            have e1 := (hK1.2 4 _ rfl).2
            have e2 := (hG.1.2 1 _ rfl).2
            exact Option.some.inj (e1.symm.trans e2)
          subst hcA
          refine am_W_siz fun hz1 => ?_
          obtain ⟨hq, hR1, hz2⟩ := am_made (m' := am_mk m (10 + 1) n.toNat) (t := 10 + 1) (n := n.toNat) hR hz hfit.2.2.1 rfl hP1 hD1 (by rw [am_mk_new]; rfl) am_mk_cell (am_mk_rg hR.2.2.2) hz1
          subst hq
          refine am_fin h.2 ⟨hC, hG, hS1, hB, hR1, hz2, hL, hkL, List.forall_mem_cons.mpr ⟨trivial, hk⟩, ?_, ?_⟩ (hn rfl) ?_
          · show cells + 1 + (bd.1 - 1) = am_b1 k
            omega
          · show slots + n.toNat + (bd.2 - n.toNat) ≤ am_b2 k
            omega
          · show va_rf (some (am_ra base sa m.1.length)) :: _ = _
            rw [am_ra_lt (by omega)]
            rfl
      · obtain rfl := Option.some.inj ht
        have hbytes : n.toNat * componentBytes (.float : FieldType) ≤ 536870912 := by
          show n.toNat * 4 ≤ 536870912
          omega
        refine va_newa (atype := .float) hx hb (hts _ (am_good_of am_x9 rfl)) (ty := .float) rfl hG.1 hR.2.2.1 am_ws_D hS (fun q hq => Nat.le_trans hB hq) (N' := n.toNat) (a0 := (n.toNat, .inr (.inr (.inl (fun _ => 0))))) (fun _ => rfl) hn0 hcl hbytes ?_ ?_ hd (fun q0 cA H1 hK1 hP1 hD1 hS1 => ?_)
        · show cells + 1 ≤ am_b1 k
          omega
        · show slots + n.toNat ≤ am_b2 k
          omega
        · have hcA : cA = cs.2.2.1 := by
            have e1 := (hK1.2 4 _ rfl).2
            have e2 := (hG.1.2 2 _ rfl).2
            exact Option.some.inj (e1.symm.trans e2)
          subst hcA
          refine am_W_siz fun hz1 => ?_
          obtain ⟨hq, hR1, hz2⟩ := am_made (m' := am_mk m (10 + 2) n.toNat) (t := 10 + 2) (n := n.toNat) hR hz hfit.2.2.1 rfl hP1 hD1 (by rw [am_mk_new]; rfl) am_mk_cell (am_mk_rg hR.2.2.2) hz1
          subst hq
          refine am_fin h.2 ⟨hC, hG, hS1, hB, hR1, hz2, hL, hkL, List.forall_mem_cons.mpr ⟨trivial, hk⟩, ?_, ?_⟩ (hn rfl) ?_
          · show cells + 1 + (bd.1 - 1) = am_b1 k
            omega
          · show slots + n.toNat + (bd.2 - n.toNat) ≤ am_b2 k
            omega
          · show va_rf (some (am_ra base sa m.1.length)) :: _ = _
            rw [am_ra_lt (by omega)]
            rfl
    all_goals exact h.elim
  all_goals exact h.elim
set_option maxHeartbeats 1000000 in
theorem am_s91 : am_OpS l base sa cs D E 91 am_o91 := by
  intro k ip pc a b cp pl hrow bd ls st m Q h
  obtain ⟨⟨il, ht, hd, hn⟩, hpc, hside, hword, hjmp, hsw⟩ := am_dec hrow
  unfold am_o91 at h
  obtain rfl := Option.some.inj ht
  have hsd := of_decide_eq_true hside
  have hw := am_good_of (hword _ rfl) rfl
  split at h
  next n st =>
    split at h
    next hfit =>
      simp only [Bool.and_eq_true, Nat.ble_eq, Nat.blt_eq] at hfit
      refine am_intro hpc ?_
      intro p e S mm args below meth c H locs cells slots lsA hI
      obtain ⟨hC, hG, hS, hB, hR, hz, hL, hkL, hkS, hc1, hc2⟩ := id hI
      obtain ⟨hx, hb, hr, hml, hown, hts, hlk, hini⟩ := id hC
      have hc1' : cells + bd.1 = am_b1 k := hc1
      have hc2' : slots + bd.2 ≤ am_b2 k := hc2
      have vn : am_rg n := (List.forall_mem_cons.mp hkS).1
      have hk := (List.forall_mem_cons.mp hkS).2
      have hn0 : ¬ Int32.ofInt n < 0 := fun z => by
        have h5 := (am_lt32 vn am_rg0).mp z
        have h6 := h.1.1
        omega
      have hcl := am_clN vn
      have h7 := h.1.2
      subst hsd
      refine va_newq hx hb hown (hts _ hw) hG.2.2.1 hG.1 hR.2.2.1 am_ws_D hS (fun q hq => Nat.le_trans hB hq) (N' := n.toNat) hn0 hcl (by omega) ?_ ?_ hd (fun q0 cA H1 hK1 hP1 hD1 hS1 => ?_)
      · show cells + 1 ≤ am_b1 k
        omega
      · show slots + n.toNat ≤ am_b2 k
        omega
      · have hcA : cA = cs.2.2.2 := by
          obtain ⟨_, _, _, _, _, e1⟩ := (hK1.2 4 _ rfl).2
          obtain ⟨_, _, _, _, _, e2⟩ := (hG.1.2 3 _ rfl).2
          exact Option.some.inj (e1.symm.trans e2)
        subst hcA
        refine am_W_siz fun hz1 => ?_
        obtain ⟨hq, hR1, hz2⟩ := am_made (m' := am_mk m 13 n.toNat) (t := 13) (n := n.toNat) hR hz hfit.2.2 rfl hP1 hD1 (by rw [am_mk_new]; rfl) am_mk_cell (am_mk_rg hR.2.2.2) hz1
        subst hq
        refine am_fin h.2 ⟨hC, hG, hS1, hB, hR1, hz2, hL, hkL, List.forall_mem_cons.mpr ⟨trivial, hk⟩, ?_, ?_⟩ (hn rfl) ?_
        · show cells + 1 + (bd.1 - 1) = am_b1 k
          omega
        · show slots + n.toNat + (bd.2 - n.toNat) ≤ am_b2 k
          omega
        · show va_rf (some (am_ra base sa m.1.length)) :: _ = _
          rw [am_ra_lt (by omega)]
          rfl
    all_goals exact h.elim
  all_goals exact h.elim
/-- every operation is sound -/
theorem am_ops_ok (hE : am_EO E) : ∀ n f, am_nth am_ops n = some f → am_OpS l base sa cs D E n f := by
  intro n f h
  match n, h with
  | 0, h => cases (show some am_o0 = some f from h); exact am_s0
  | 1, h => cases (show some am_o1 = some f from h); exact am_s1
  | 2, h => cases (show some am_o2 = some f from h); exact am_s2
  | 3, h => cases (show some am_o3 = some f from h); exact am_s3
  | 4, h => cases (show some am_o1 = some f from h); exact am_s4
  | 5, h => cases (show some am_o5 = some f from h); exact am_s5
  | 6, h => cases (show some am_o6 = some f from h); exact am_s6
  | 7, h => cases (show some am_o7 = some f from h); exact am_s7
  | 8, h => cases (show some am_o8 = some f from h); exact am_s8
  | 9, h => cases (show some am_o9 = some f from h); exact am_s9
  | 10, h => cases (show some am_o10 = some f from h); exact am_s10
  | 11, h => cases (show some am_o11 = some f from h); exact am_s11
  | 12, h => cases (show some am_o12 = some f from h); exact am_s12
  | 13, h => cases (show some am_o13 = some f from h); exact am_s13
  | 14, h => cases (show some am_o14 = some f from h); exact am_s14
  | 15, h => cases (show some am_o15 = some f from h); exact am_s15
  | 16, h => cases (show some am_o16 = some f from h); exact am_s16
  | 17, h => cases (show some am_o17 = some f from h); exact am_s17
  | 18, h => cases (show some am_o18 = some f from h); exact am_s18
  | 19, h => cases (show some am_o19 = some f from h); exact am_s19
  | 20, h => cases (show some am_o20 = some f from h); exact am_s20
  | 21, h => cases (show some am_o21 = some f from h); exact am_s21
  | 22, h => cases (show some am_o22 = some f from h); exact am_s22
  | 23, h => cases (show some am_o23 = some f from h); exact am_s23
  | 24, h => cases (show some am_o24 = some f from h); exact am_s24
  | 25, h => cases (show some am_o25 = some f from h); exact am_s25
  | 26, h => cases (show some am_o26 = some f from h); exact am_s26
  | 27, h => cases (show some am_o27 = some f from h); exact am_s27
  | 28, h => cases (show some am_o28 = some f from h); exact am_s28
  | 29, h => cases (show some am_o29 = some f from h); exact am_s29
  | 30, h => cases (show some am_o30 = some f from h); exact am_s30
  | 31, h => cases (show some am_o31 = some f from h); exact am_s31
  | 32, h => cases (show some am_o32 = some f from h); exact am_s32
  | 33, h => cases (show some am_o33 = some f from h); exact am_s33
  | 34, h => cases (show some am_o34 = some f from h); exact am_s34
  | 35, h => cases (show some am_o35 = some f from h); exact am_s35
  | 36, h => cases (show some am_o36 = some f from h); exact am_s36
  | 37, h => cases (show some am_o37 = some f from h); exact am_s37
  | 38, h => cases (show some am_o38 = some f from h); exact am_s38
  | 39, h => cases (show some am_o39 = some f from h); exact am_s39
  | 40, h => cases (show some am_o40 = some f from h); exact am_s40
  | 41, h => cases (show some am_o41 = some f from h); exact am_s41
  | 42, h => cases (show some am_o42 = some f from h); exact am_s42
  | 43, h => cases (show some am_o43 = some f from h); exact am_s43
  | 44, h => cases (show some am_o44 = some f from h); exact am_s44
  | 45, h => cases (show some am_o45 = some f from h); exact am_s45
  | 46, h => cases (show some am_o46 = some f from h); exact am_s46
  | 47, h => cases (show some am_o47 = some f from h); exact am_s47
  | 48, h => cases (show some am_o48 = some f from h); exact am_s48
  | 49, h => cases (show some am_o49 = some f from h); exact am_s49
  | 50, h => cases (show some am_o50 = some f from h); exact am_s50
  | 51, h => cases (show some am_o51 = some f from h); exact am_s51
  | 52, h => cases (show some am_o52 = some f from h); exact am_s52
  | 53, h => cases (show some am_o53 = some f from h); exact am_s53
  | 54, h => cases (show some am_o54 = some f from h); exact am_s54
  | 55, h => cases (show some am_o55 = some f from h); exact am_s55
  | 56, h => cases (show some am_o55 = some f from h); exact am_s56
  | 57, h => cases (show some am_o57 = some f from h); exact am_s57
  | 58, h => cases (show some am_o57 = some f from h); exact am_s58
  | 59, h => cases (show some am_o59 = some f from h); exact am_s59
  | 60, h => cases (show some am_o60 = some f from h); exact am_s60
  | 61, h => cases (show some am_o61 = some f from h); exact am_s61 hE
  | 62, h => cases (show some am_o62 = some f from h); exact am_s62
  | 63, h => cases (show some am_oF = some f from h); exact fun _ _ _ _ _ _ _ _ _ _ _ _ _ h => h.elim
  | 64, h => cases (show some am_oF = some f from h); exact fun _ _ _ _ _ _ _ _ _ _ _ _ _ h => h.elim
  | 65, h => cases (show some am_o65 = some f from h); exact am_s65
  | 66, h => cases (show some am_o66 = some f from h); exact am_s66
  | 67, h => cases (show some am_o67 = some f from h); exact am_s67
  | 68, h => cases (show some am_o68 = some f from h); exact am_s68
  | 69, h => cases (show some am_o69 = some f from h); exact am_s69
  | 70, h => cases (show some am_o70 = some f from h); exact am_s70
  | 71, h => cases (show some am_o70 = some f from h); exact am_s71
  | 72, h => cases (show some am_o72 = some f from h); exact am_s72
  | 73, h => cases (show some am_o72 = some f from h); exact am_s73
  | 74, h => cases (show some am_o74 = some f from h); exact am_s74
  | 75, h => cases (show some am_o74 = some f from h); exact am_s75
  | 76, h => cases (show some am_o76 = some f from h); exact am_s76
  | 77, h => cases (show some am_o77 = some f from h); exact am_s77
  | 78, h => cases (show some am_o78 = some f from h); exact am_s78
  | 79, h => cases (show some am_o79 = some f from h); exact am_s79
  | 80, h => cases (show some am_o80 = some f from h); exact am_s80
  | 81, h => cases (show some am_o81 = some f from h); exact am_s81
  | 82, h => cases (show some am_o82 = some f from h); exact am_s82
  | 83, h => cases (show some am_o83 = some f from h); exact am_s83
  | 84, h => cases (show some am_o84 = some f from h); exact am_s84
  | 85, h => cases (show some am_o85 = some f from h); exact am_s85
  | 86, h => cases (show some am_o86 = some f from h); exact am_s86
  | 87, h => cases (show some am_o87 = some f from h); exact am_s87
  | 88, h => cases (show some am_o88 = some f from h); exact am_s88
  | 89, h => cases (show some am_o89 = some f from h); exact am_s89
  | 90, h => cases (show some am_o90 = some f from h); exact am_s90
  | 91, h => cases (show some am_o91 = some f from h); exact am_s91
  | n + 92, h => cases (show (none : Option am_O) = some f from h)
theorem am_ref_nth : ∀ {l l2 : am_LS} {n : Nat} {v : am_V}, am_ref l l2 → am_nth l n = some (some v) → am_nth l2 n = some (some v)
  | [], _, _, _, _, h => by cases h
  | none :: l, [], _, _, hr, _ => hr.elim
  | none :: l, _ :: l2, 0, _, _, h => by cases h
  | none :: l, _ :: l2, n + 1, _, hr, h => am_ref_nth (l := l) (l2 := l2) (n := n) hr h
  | some u :: l, [], _, _, hr, _ => hr.elim
  | some u :: l, w :: l2, 0, _, hr, h => by
    obtain rfl := hr.1
    exact h
  | some u :: l, w :: l2, n + 1, _, hr, h => am_ref_nth (l := l) (l2 := l2) (n := n) hr.2 h
theorem am_Sd_forg : am_forg (am_Sd l base sa cs D E) := by
  intro k ip bd ls ls2 st m Q hr h p e S mm args below meth c H locs cells slots lsA hI
  obtain ⟨hC, hG, hS, hB, hR, hz, hL, hkL, hkS, hc1, hc2⟩ := hI
  refine h p e S mm args below meth c H locs cells slots lsA ⟨hC, hG, hS, hB, hR, hz, ⟨hL.1, hL.2.1, fun q hq => hL.2.2 q ?_⟩, fun n v hv => hkL n v (am_ref_nth hr hv), hkS, hc1, hc2⟩
  obtain ⟨j, w⟩ := q
  obtain ⟨n, v, h1, h2, h3⟩ := am_lv_mem.mp hq
  exact am_lv_mem.mpr ⟨n, v, h1, am_ref_nth hr h2, h3⟩
/-- THE ABSTRACT MACHINE IS SOUND -/
theorem am_sound (hE : am_EO E) {k : Nat} {s : am_St} {Q : am_Q} (h : am_X E k s Q) : am_Sd l base sa cs D E k s Q := by
  refine h _ (am_Sd_mono l base sa cs D E) am_Sd_forg ?_
  intro k s Q hs
  unfold am_step at hs
  split at hs
  · rename_i pc op a b cp pl hrow
    split at hs
    · rename_i f hf
      exact am_ops_ok hE op f hf k s.1 pc a b cp pl hrow _ _ _ _ _ hs
    · exact hs.elim
  · exact hs.elim
end SND5
end
