section
/-- a private method of a class that the tables say can be made, by its rows of tables_1 -/
def lw_okq (q : MethodName × Nat) : Prop := (q.1.cls ≠ "java/lang/invoke/MethodHandle" ∧ q.1.cls ≠ "java/lang/invoke/VarHandle") ∧ Cond.instantiable q.1.cls q.2 ∈ tables_1 ∧ Cond.privateMethod q.1 ∈ tables_1 ∧ Cond.instanceMethod q.1 ∈ tables_1
theorem lw_p0 : lw_okq (⟨"FrameReel$Reader", "startsAsFile", "()Z"⟩, 11) := ⟨⟨by decide +kernel, by decide +kernel⟩, List.mem_of_getElem? (i := 64) (by decide +kernel), List.mem_of_getElem? (i := 377) (by decide +kernel), List.mem_of_getElem? (i := 378) (by decide +kernel)⟩
theorem lw_p1 : lw_okq (⟨"FrameReel$Reader", "chunkFault", "()I"⟩, 11) := ⟨⟨by decide +kernel, by decide +kernel⟩, List.mem_of_getElem? (i := 64) (by decide +kernel), List.mem_of_getElem? (i := 388) (by decide +kernel), List.mem_of_getElem? (i := 389) (by decide +kernel)⟩
theorem lw_p2 : lw_okq (⟨"FrameReel$Unpacker", "startsAsPacked", "()Z"⟩, 9) := ⟨⟨by decide +kernel, by decide +kernel⟩, List.mem_of_getElem? (i := 70) (by decide +kernel), List.mem_of_getElem? (i := 411) (by decide +kernel), List.mem_of_getElem? (i := 412) (by decide +kernel)⟩
theorem lw_p3 : lw_okq (⟨"FrameReel$Unpacker", "copyPlain", "()Z"⟩, 9) := ⟨⟨by decide +kernel, by decide +kernel⟩, List.mem_of_getElem? (i := 70) (by decide +kernel), List.mem_of_getElem? (i := 420) (by decide +kernel), List.mem_of_getElem? (i := 421) (by decide +kernel)⟩
theorem lw_p4 : lw_okq (⟨"FrameReel$Unpacker", "hasCodes", "(I)Z"⟩, 9) := ⟨⟨by decide +kernel, by decide +kernel⟩, List.mem_of_getElem? (i := 70) (by decide +kernel), List.mem_of_getElem? (i := 435) (by decide +kernel), List.mem_of_getElem? (i := 436) (by decide +kernel)⟩
theorem lw_p5 : lw_okq (⟨"FrameReel$Unpacker", "fixCodes", "()V"⟩, 9) := ⟨⟨by decide +kernel, by decide +kernel⟩, List.mem_of_getElem? (i := 70) (by decide +kernel), List.mem_of_getElem? (i := 439) (by decide +kernel), List.mem_of_getElem? (i := 440) (by decide +kernel)⟩
theorem lw_p6 : lw_okq (⟨"FrameReel$Unpacker", "takeTellers", "()Z"⟩, 9) := ⟨⟨by decide +kernel, by decide +kernel⟩, List.mem_of_getElem? (i := 70) (by decide +kernel), List.mem_of_getElem? (i := 450) (by decide +kernel), List.mem_of_getElem? (i := 451) (by decide +kernel)⟩
theorem lw_p7 : lw_okq (⟨"FrameReel$Unpacker", "takeLengths", "()Z"⟩, 9) := ⟨⟨by decide +kernel, by decide +kernel⟩, List.mem_of_getElem? (i := 70) (by decide +kernel), List.mem_of_getElem? (i := 457) (by decide +kernel), List.mem_of_getElem? (i := 458) (by decide +kernel)⟩
theorem lw_p8 : lw_okq (⟨"FrameReel$Unpacker", "buildCodes", "()Z"⟩, 9) := ⟨⟨by decide +kernel, by decide +kernel⟩, List.mem_of_getElem? (i := 70) (by decide +kernel), List.mem_of_getElem? (i := 469) (by decide +kernel), List.mem_of_getElem? (i := 470) (by decide +kernel)⟩
theorem lw_p9 : lw_okq (⟨"FrameReel$Unpacker", "unpackCoded", "()Z"⟩, 9) := ⟨⟨by decide +kernel, by decide +kernel⟩, List.mem_of_getElem? (i := 70) (by decide +kernel), List.mem_of_getElem? (i := 477) (by decide +kernel), List.mem_of_getElem? (i := 478) (by decide +kernel)⟩
theorem lw_p10 : lw_okq (⟨"FrameReel$Unpacker", "copyMatch", "(I)Z"⟩, 9) := ⟨⟨by decide +kernel, by decide +kernel⟩, List.mem_of_getElem? (i := 70) (by decide +kernel), List.mem_of_getElem? (i := 482) (by decide +kernel), List.mem_of_getElem? (i := 483) (by decide +kernel)⟩
theorem lw_p11 : lw_okq (⟨"FrameReel$Unpacker", "endsWithSum", "()Z"⟩, 9) := ⟨⟨by decide +kernel, by decide +kernel⟩, List.mem_of_getElem? (i := 70) (by decide +kernel), List.mem_of_getElem? (i := 494) (by decide +kernel), List.mem_of_getElem? (i := 495) (by decide +kernel)⟩
theorem lw_p12 : lw_okq (⟨"FrameReel$Reader", "takesChunk", "(II)Z"⟩, 11) := ⟨⟨by decide +kernel, by decide +kernel⟩, List.mem_of_getElem? (i := 64) (by decide +kernel), List.mem_of_getElem? (i := 520) (by decide +kernel), List.mem_of_getElem? (i := 521) (by decide +kernel)⟩
theorem lw_p13 : lw_okq (⟨"FrameReel$Reader", "takesHead", "(I)Z"⟩, 11) := ⟨⟨by decide +kernel, by decide +kernel⟩, List.mem_of_getElem? (i := 64) (by decide +kernel), List.mem_of_getElem? (i := 525) (by decide +kernel), List.mem_of_getElem? (i := 526) (by decide +kernel)⟩
theorem lw_p14 : lw_okq (⟨"FrameReel$Reader", "takesCounts", "(I)Z"⟩, 11) := ⟨⟨by decide +kernel, by decide +kernel⟩, List.mem_of_getElem? (i := 64) (by decide +kernel), List.mem_of_getElem? (i := 533) (by decide +kernel), List.mem_of_getElem? (i := 534) (by decide +kernel)⟩
theorem lw_p15 : lw_okq (⟨"FrameReel$Reader", "takesControl", "(I)Z"⟩, 11) := ⟨⟨by decide +kernel, by decide +kernel⟩, List.mem_of_getElem? (i := 64) (by decide +kernel), List.mem_of_getElem? (i := 537) (by decide +kernel), List.mem_of_getElem? (i := 538) (by decide +kernel)⟩
def lw_privs_1 : List (MethodName × Nat) := [(⟨"FrameReel$Reader", "startsAsFile", "()Z"⟩, 11), (⟨"FrameReel$Reader", "chunkFault", "()I"⟩, 11), (⟨"FrameReel$Unpacker", "startsAsPacked", "()Z"⟩, 9), (⟨"FrameReel$Unpacker", "copyPlain", "()Z"⟩, 9), (⟨"FrameReel$Unpacker", "hasCodes", "(I)Z"⟩, 9), (⟨"FrameReel$Unpacker", "fixCodes", "()V"⟩, 9), (⟨"FrameReel$Unpacker", "takeTellers", "()Z"⟩, 9), (⟨"FrameReel$Unpacker", "takeLengths", "()Z"⟩, 9), (⟨"FrameReel$Unpacker", "buildCodes", "()Z"⟩, 9), (⟨"FrameReel$Unpacker", "unpackCoded", "()Z"⟩, 9), (⟨"FrameReel$Unpacker", "copyMatch", "(I)Z"⟩, 9), (⟨"FrameReel$Unpacker", "endsWithSum", "()Z"⟩, 9), (⟨"FrameReel$Reader", "takesChunk", "(II)Z"⟩, 11), (⟨"FrameReel$Reader", "takesHead", "(I)Z"⟩, 11), (⟨"FrameReel$Reader", "takesCounts", "(I)Z"⟩, 11), (⟨"FrameReel$Reader", "takesControl", "(I)Z"⟩, 11)]
theorem lw_r1 : ∀ q ∈ lw_privs_1, lw_okq q := List.forall_mem_cons.mpr ⟨lw_p0, List.forall_mem_cons.mpr ⟨lw_p1, List.forall_mem_cons.mpr ⟨lw_p2, List.forall_mem_cons.mpr ⟨lw_p3, List.forall_mem_cons.mpr ⟨lw_p4, List.forall_mem_cons.mpr ⟨lw_p5, List.forall_mem_cons.mpr ⟨lw_p6, List.forall_mem_cons.mpr ⟨lw_p7, List.forall_mem_cons.mpr ⟨lw_p8, List.forall_mem_cons.mpr ⟨lw_p9, List.forall_mem_cons.mpr ⟨lw_p10, List.forall_mem_cons.mpr ⟨lw_p11, List.forall_mem_cons.mpr ⟨lw_p12, List.forall_mem_cons.mpr ⟨lw_p13, List.forall_mem_cons.mpr ⟨lw_p14, List.forall_mem_cons.mpr ⟨lw_p15, fun _ h => absurd h List.not_mem_nil⟩⟩⟩⟩⟩⟩⟩⟩⟩⟩⟩⟩⟩⟩⟩⟩
theorem lw_p16 : lw_okq (⟨"FrameReel$Reader", "takesSerial", "(I)Z"⟩, 11) := ⟨⟨by decide +kernel, by decide +kernel⟩, List.mem_of_getElem? (i := 64) (by decide +kernel), List.mem_of_getElem? (i := 542) (by decide +kernel), List.mem_of_getElem? (i := 543) (by decide +kernel)⟩
theorem lw_p17 : lw_okq (⟨"FrameReel$Reader", "takesDefaultData", "(I)Z"⟩, 11) := ⟨⟨by decide +kernel, by decide +kernel⟩, List.mem_of_getElem? (i := 64) (by decide +kernel), List.mem_of_getElem? (i := 558) (by decide +kernel), List.mem_of_getElem? (i := 559) (by decide +kernel)⟩
theorem lw_p18 : lw_okq (⟨"FrameReel$Reader", "takesFrameData", "(I)Z"⟩, 11) := ⟨⟨by decide +kernel, by decide +kernel⟩, List.mem_of_getElem? (i := 64) (by decide +kernel), List.mem_of_getElem? (i := 568) (by decide +kernel), List.mem_of_getElem? (i := 569) (by decide +kernel)⟩
theorem lw_p19 : lw_okq (⟨"FrameReel$Reader", "mayBeLeftOut", "(I)Z"⟩, 11) := ⟨⟨by decide +kernel, by decide +kernel⟩, List.mem_of_getElem? (i := 64) (by decide +kernel), List.mem_of_getElem? (i := 572) (by decide +kernel), List.mem_of_getElem? (i := 573) (by decide +kernel)⟩
theorem lw_p20 : lw_okq (⟨"FrameReel", "paintable", "(I)LFrameReel$Picture;"⟩, 6) := ⟨⟨by decide +kernel, by decide +kernel⟩, List.mem_of_getElem? (i := 22) (by decide +kernel), List.mem_of_getElem? (i := 609) (by decide +kernel), List.mem_of_getElem? (i := 610) (by decide +kernel)⟩
theorem lw_p21 : lw_okq (⟨"FrameReel$Screen", "draw", "(LFrameReel$Picture;)V"⟩, 4) := ⟨⟨by decide +kernel, by decide +kernel⟩, List.mem_of_getElem? (i := 306) (by decide +kernel), List.mem_of_getElem? (i := 646) (by decide +kernel), List.mem_of_getElem? (i := 647) (by decide +kernel)⟩
theorem lw_p22 : lw_okq (⟨"FrameReel$Screen", "dispose", "(LFrameReel$Picture;)V"⟩, 4) := ⟨⟨by decide +kernel, by decide +kernel⟩, List.mem_of_getElem? (i := 306) (by decide +kernel), List.mem_of_getElem? (i := 653) (by decide +kernel), List.mem_of_getElem? (i := 654) (by decide +kernel)⟩
theorem lw_p23 : lw_okq (⟨"FrameReel$Writer", "addHead", "(LFrameReel$Reel;)V"⟩, 4) := ⟨⟨by decide +kernel, by decide +kernel⟩, List.mem_of_getElem? (i := 284) (by decide +kernel), List.mem_of_getElem? (i := 674) (by decide +kernel), List.mem_of_getElem? (i := 675) (by decide +kernel)⟩
theorem lw_p24 : lw_okq (⟨"FrameReel$Writer", "openChunk", "(II)V"⟩, 4) := ⟨⟨by decide +kernel, by decide +kernel⟩, List.mem_of_getElem? (i := 284) (by decide +kernel), List.mem_of_getElem? (i := 679) (by decide +kernel), List.mem_of_getElem? (i := 680) (by decide +kernel)⟩
theorem lw_p25 : lw_okq (⟨"FrameReel$Writer", "closeChunk", "()V"⟩, 4) := ⟨⟨by decide +kernel, by decide +kernel⟩, List.mem_of_getElem? (i := 284) (by decide +kernel), List.mem_of_getElem? (i := 685) (by decide +kernel), List.mem_of_getElem? (i := 686) (by decide +kernel)⟩
theorem lw_p26 : lw_okq (⟨"FrameReel$Writer", "addControl", "(LFrameReel$Picture;)V"⟩, 4) := ⟨⟨by decide +kernel, by decide +kernel⟩, List.mem_of_getElem? (i := 284) (by decide +kernel), List.mem_of_getElem? (i := 691) (by decide +kernel), List.mem_of_getElem? (i := 692) (by decide +kernel)⟩
theorem lw_p27 : lw_okq (⟨"FrameReel$Writer", "addSerial", "()V"⟩, 4) := ⟨⟨by decide +kernel, by decide +kernel⟩, List.mem_of_getElem? (i := 284) (by decide +kernel), List.mem_of_getElem? (i := 696) (by decide +kernel), List.mem_of_getElem? (i := 697) (by decide +kernel)⟩
theorem lw_p28 : lw_okq (⟨"FrameReel$Writer", "addDefaultData", "(LFrameReel$Picture;)V"⟩, 4) := ⟨⟨by decide +kernel, by decide +kernel⟩, List.mem_of_getElem? (i := 284) (by decide +kernel), List.mem_of_getElem? (i := 702) (by decide +kernel), List.mem_of_getElem? (i := 703) (by decide +kernel)⟩
theorem lw_p29 : lw_okq (⟨"FrameReel$Writer", "addPacked", "(LFrameReel$Picture;)V"⟩, 4) := ⟨⟨by decide +kernel, by decide +kernel⟩, List.mem_of_getElem? (i := 284) (by decide +kernel), List.mem_of_getElem? (i := 710) (by decide +kernel), List.mem_of_getElem? (i := 711) (by decide +kernel)⟩
theorem lw_p30 : lw_okq (⟨"FrameReel$Writer", "addFrameData", "(LFrameReel$Picture;)V"⟩, 4) := ⟨⟨by decide +kernel, by decide +kernel⟩, List.mem_of_getElem? (i := 284) (by decide +kernel), List.mem_of_getElem? (i := 715) (by decide +kernel), List.mem_of_getElem? (i := 716) (by decide +kernel)⟩
theorem lw_p31 : lw_okq (⟨"java/lang/Throwable", "fillInStackTrace", "(I)Ljava/lang/Throwable;"⟩, 6) := ⟨⟨by decide +kernel, by decide +kernel⟩, List.mem_of_getElem? (i := 774) (by decide +kernel), List.mem_of_getElem? (i := 772) (by decide +kernel), List.mem_of_getElem? (i := 773) (by decide +kernel)⟩
def lw_privs_2 : List (MethodName × Nat) := [(⟨"FrameReel$Reader", "takesSerial", "(I)Z"⟩, 11), (⟨"FrameReel$Reader", "takesDefaultData", "(I)Z"⟩, 11), (⟨"FrameReel$Reader", "takesFrameData", "(I)Z"⟩, 11), (⟨"FrameReel$Reader", "mayBeLeftOut", "(I)Z"⟩, 11), (⟨"FrameReel", "paintable", "(I)LFrameReel$Picture;"⟩, 6), (⟨"FrameReel$Screen", "draw", "(LFrameReel$Picture;)V"⟩, 4), (⟨"FrameReel$Screen", "dispose", "(LFrameReel$Picture;)V"⟩, 4), (⟨"FrameReel$Writer", "addHead", "(LFrameReel$Reel;)V"⟩, 4), (⟨"FrameReel$Writer", "openChunk", "(II)V"⟩, 4), (⟨"FrameReel$Writer", "closeChunk", "()V"⟩, 4), (⟨"FrameReel$Writer", "addControl", "(LFrameReel$Picture;)V"⟩, 4), (⟨"FrameReel$Writer", "addSerial", "()V"⟩, 4), (⟨"FrameReel$Writer", "addDefaultData", "(LFrameReel$Picture;)V"⟩, 4), (⟨"FrameReel$Writer", "addPacked", "(LFrameReel$Picture;)V"⟩, 4), (⟨"FrameReel$Writer", "addFrameData", "(LFrameReel$Picture;)V"⟩, 4), (⟨"java/lang/Throwable", "fillInStackTrace", "(I)Ljava/lang/Throwable;"⟩, 6)]
theorem lw_r2 : ∀ q ∈ lw_privs_2, lw_okq q := List.forall_mem_cons.mpr ⟨lw_p16, List.forall_mem_cons.mpr ⟨lw_p17, List.forall_mem_cons.mpr ⟨lw_p18, List.forall_mem_cons.mpr ⟨lw_p19, List.forall_mem_cons.mpr ⟨lw_p20, List.forall_mem_cons.mpr ⟨lw_p21, List.forall_mem_cons.mpr ⟨lw_p22, List.forall_mem_cons.mpr ⟨lw_p23, List.forall_mem_cons.mpr ⟨lw_p24, List.forall_mem_cons.mpr ⟨lw_p25, List.forall_mem_cons.mpr ⟨lw_p26, List.forall_mem_cons.mpr ⟨lw_p27, List.forall_mem_cons.mpr ⟨lw_p28, List.forall_mem_cons.mpr ⟨lw_p29, List.forall_mem_cons.mpr ⟨lw_p30, List.forall_mem_cons.mpr ⟨lw_p31, fun _ h => absurd h List.not_mem_nil⟩⟩⟩⟩⟩⟩⟩⟩⟩⟩⟩⟩⟩⟩⟩⟩
theorem lw_p32 : lw_okq (⟨"FrameReelModel", "readAll", "()I"⟩, 32) := ⟨⟨by decide +kernel, by decide +kernel⟩, List.mem_of_getElem? (i := 799) (by decide +kernel), List.mem_of_getElem? (i := 919) (by decide +kernel), List.mem_of_getElem? (i := 920) (by decide +kernel)⟩
theorem lw_p33 : lw_okq (⟨"FrameReelModel", "byteAt", "(I)I"⟩, 32) := ⟨⟨by decide +kernel, by decide +kernel⟩, List.mem_of_getElem? (i := 799) (by decide +kernel), List.mem_of_getElem? (i := 923) (by decide +kernel), List.mem_of_getElem? (i := 924) (by decide +kernel)⟩
theorem lw_p34 : lw_okq (⟨"FrameReelModel", "number", "(I)I"⟩, 32) := ⟨⟨by decide +kernel, by decide +kernel⟩, List.mem_of_getElem? (i := 799) (by decide +kernel), List.mem_of_getElem? (i := 930) (by decide +kernel), List.mem_of_getElem? (i := 931) (by decide +kernel)⟩
theorem lw_p35 : lw_okq (⟨"FrameReelModel", "isType", "(IIIII)Z"⟩, 32) := ⟨⟨by decide +kernel, by decide +kernel⟩, List.mem_of_getElem? (i := 799) (by decide +kernel), List.mem_of_getElem? (i := 938) (by decide +kernel), List.mem_of_getElem? (i := 939) (by decide +kernel)⟩
theorem lw_p36 : lw_okq (⟨"FrameReelModel", "finishPicture", "()I"⟩, 32) := ⟨⟨by decide +kernel, by decide +kernel⟩, List.mem_of_getElem? (i := 799) (by decide +kernel), List.mem_of_getElem? (i := 942) (by decide +kernel), List.mem_of_getElem? (i := 943) (by decide +kernel)⟩
theorem lw_p37 : lw_okq (⟨"FrameReelModel", "unpack", "()Z"⟩, 32) := ⟨⟨by decide +kernel, by decide +kernel⟩, List.mem_of_getElem? (i := 799) (by decide +kernel), List.mem_of_getElem? (i := 946) (by decide +kernel), List.mem_of_getElem? (i := 947) (by decide +kernel)⟩
theorem lw_p38 : lw_okq (⟨"FrameReelModel", "bits", "(I)I"⟩, 32) := ⟨⟨by decide +kernel, by decide +kernel⟩, List.mem_of_getElem? (i := 799) (by decide +kernel), List.mem_of_getElem? (i := 950) (by decide +kernel), List.mem_of_getElem? (i := 951) (by decide +kernel)⟩
theorem lw_p39 : lw_okq (⟨"FrameReelModel", "plain", "()V"⟩, 32) := ⟨⟨by decide +kernel, by decide +kernel⟩, List.mem_of_getElem? (i := 799) (by decide +kernel), List.mem_of_getElem? (i := 954) (by decide +kernel), List.mem_of_getElem? (i := 955) (by decide +kernel)⟩
theorem lw_p40 : lw_okq (⟨"FrameReelModel", "evenOut", "()V"⟩, 32) := ⟨⟨by decide +kernel, by decide +kernel⟩, List.mem_of_getElem? (i := 799) (by decide +kernel), List.mem_of_getElem? (i := 958) (by decide +kernel), List.mem_of_getElem? (i := 959) (by decide +kernel)⟩
theorem lw_p41 : lw_okq (⟨"FrameReelModel", "emit", "(I)V"⟩, 32) := ⟨⟨by decide +kernel, by decide +kernel⟩, List.mem_of_getElem? (i := 799) (by decide +kernel), List.mem_of_getElem? (i := 963) (by decide +kernel), List.mem_of_getElem? (i := 964) (by decide +kernel)⟩
theorem lw_p42 : lw_okq (⟨"FrameReelModel", "fixed", "()V"⟩, 32) := ⟨⟨by decide +kernel, by decide +kernel⟩, List.mem_of_getElem? (i := 799) (by decide +kernel), List.mem_of_getElem? (i := 967) (by decide +kernel), List.mem_of_getElem? (i := 968) (by decide +kernel)⟩
theorem lw_p43 : lw_okq (⟨"FrameReelModel", "makeCodes", "(IIZ)V"⟩, 32) := ⟨⟨by decide +kernel, by decide +kernel⟩, List.mem_of_getElem? (i := 799) (by decide +kernel), List.mem_of_getElem? (i := 971) (by decide +kernel), List.mem_of_getElem? (i := 972) (by decide +kernel)⟩
theorem lw_p44 : lw_okq (⟨"FrameReelModel", "coded", "(II)V"⟩, 32) := ⟨⟨by decide +kernel, by decide +kernel⟩, List.mem_of_getElem? (i := 799) (by decide +kernel), List.mem_of_getElem? (i := 976) (by decide +kernel), List.mem_of_getElem? (i := 977) (by decide +kernel)⟩
theorem lw_p45 : lw_okq (⟨"FrameReelModel", "symbol", "(II)I"⟩, 32) := ⟨⟨by decide +kernel, by decide +kernel⟩, List.mem_of_getElem? (i := 799) (by decide +kernel), List.mem_of_getElem? (i := 980) (by decide +kernel), List.mem_of_getElem? (i := 981) (by decide +kernel)⟩
theorem lw_p46 : lw_okq (⟨"FrameReelModel", "match", "(II)V"⟩, 32) := ⟨⟨by decide +kernel, by decide +kernel⟩, List.mem_of_getElem? (i := 799) (by decide +kernel), List.mem_of_getElem? (i := 984) (by decide +kernel), List.mem_of_getElem? (i := 985) (by decide +kernel)⟩
theorem lw_p47 : lw_okq (⟨"FrameReelModel", "told", "()V"⟩, 32) := ⟨⟨by decide +kernel, by decide +kernel⟩, List.mem_of_getElem? (i := 799) (by decide +kernel), List.mem_of_getElem? (i := 1000) (by decide +kernel), List.mem_of_getElem? (i := 1001) (by decide +kernel)⟩
def lw_privs_3 : List (MethodName × Nat) := [(⟨"FrameReelModel", "readAll", "()I"⟩, 32), (⟨"FrameReelModel", "byteAt", "(I)I"⟩, 32), (⟨"FrameReelModel", "number", "(I)I"⟩, 32), (⟨"FrameReelModel", "isType", "(IIIII)Z"⟩, 32), (⟨"FrameReelModel", "finishPicture", "()I"⟩, 32), (⟨"FrameReelModel", "unpack", "()Z"⟩, 32), (⟨"FrameReelModel", "bits", "(I)I"⟩, 32), (⟨"FrameReelModel", "plain", "()V"⟩, 32), (⟨"FrameReelModel", "evenOut", "()V"⟩, 32), (⟨"FrameReelModel", "emit", "(I)V"⟩, 32), (⟨"FrameReelModel", "fixed", "()V"⟩, 32), (⟨"FrameReelModel", "makeCodes", "(IIZ)V"⟩, 32), (⟨"FrameReelModel", "coded", "(II)V"⟩, 32), (⟨"FrameReelModel", "symbol", "(II)I"⟩, 32), (⟨"FrameReelModel", "match", "(II)V"⟩, 32), (⟨"FrameReelModel", "told", "()V"⟩, 32)]
theorem lw_r3 : ∀ q ∈ lw_privs_3, lw_okq q := List.forall_mem_cons.mpr ⟨lw_p32, List.forall_mem_cons.mpr ⟨lw_p33, List.forall_mem_cons.mpr ⟨lw_p34, List.forall_mem_cons.mpr ⟨lw_p35, List.forall_mem_cons.mpr ⟨lw_p36, List.forall_mem_cons.mpr ⟨lw_p37, List.forall_mem_cons.mpr ⟨lw_p38, List.forall_mem_cons.mpr ⟨lw_p39, List.forall_mem_cons.mpr ⟨lw_p40, List.forall_mem_cons.mpr ⟨lw_p41, List.forall_mem_cons.mpr ⟨lw_p42, List.forall_mem_cons.mpr ⟨lw_p43, List.forall_mem_cons.mpr ⟨lw_p44, List.forall_mem_cons.mpr ⟨lw_p45, List.forall_mem_cons.mpr ⟨lw_p46, List.forall_mem_cons.mpr ⟨lw_p47, fun _ h => absurd h List.not_mem_nil⟩⟩⟩⟩⟩⟩⟩⟩⟩⟩⟩⟩⟩⟩⟩⟩
theorem lw_p48 : lw_okq (⟨"FrameReelModel", "region", "(III)I"⟩, 32) := ⟨⟨by decide +kernel, by decide +kernel⟩, List.mem_of_getElem? (i := 799) (by decide +kernel), List.mem_of_getElem? (i := 1008) (by decide +kernel), List.mem_of_getElem? (i := 1009) (by decide +kernel)⟩
theorem lw_p49 : lw_okq (⟨"FrameReelModel", "unfilter", "(III)Z"⟩, 32) := ⟨⟨by decide +kernel, by decide +kernel⟩, List.mem_of_getElem? (i := 799) (by decide +kernel), List.mem_of_getElem? (i := 1012) (by decide +kernel), List.mem_of_getElem? (i := 1013) (by decide +kernel)⟩
theorem lw_p50 : lw_okq (⟨"FrameReelModel", "takeHead", "(II)Z"⟩, 32) := ⟨⟨by decide +kernel, by decide +kernel⟩, List.mem_of_getElem? (i := 799) (by decide +kernel), List.mem_of_getElem? (i := 1019) (by decide +kernel), List.mem_of_getElem? (i := 1020) (by decide +kernel)⟩
theorem lw_p51 : lw_okq (⟨"FrameReelModel", "takeChunk", "(II)Z"⟩, 32) := ⟨⟨by decide +kernel, by decide +kernel⟩, List.mem_of_getElem? (i := 799) (by decide +kernel), List.mem_of_getElem? (i := 1023) (by decide +kernel), List.mem_of_getElem? (i := 1024) (by decide +kernel)⟩
theorem lw_p52 : lw_okq (⟨"FrameReelModel", "append", "(II)V"⟩, 32) := ⟨⟨by decide +kernel, by decide +kernel⟩, List.mem_of_getElem? (i := 799) (by decide +kernel), List.mem_of_getElem? (i := 1027) (by decide +kernel), List.mem_of_getElem? (i := 1028) (by decide +kernel)⟩
theorem lw_p53 : lw_okq (⟨"FrameReelModel", "takeCount", "(II)Z"⟩, 32) := ⟨⟨by decide +kernel, by decide +kernel⟩, List.mem_of_getElem? (i := 799) (by decide +kernel), List.mem_of_getElem? (i := 1031) (by decide +kernel), List.mem_of_getElem? (i := 1032) (by decide +kernel)⟩
theorem lw_p54 : lw_okq (⟨"FrameReelModel", "takeControl", "(II)Z"⟩, 32) := ⟨⟨by decide +kernel, by decide +kernel⟩, List.mem_of_getElem? (i := 799) (by decide +kernel), List.mem_of_getElem? (i := 1035) (by decide +kernel), List.mem_of_getElem? (i := 1036) (by decide +kernel)⟩
theorem lw_p55 : lw_okq (⟨"FrameReelModel", "isRegion", "(IIIII)Z"⟩, 32) := ⟨⟨by decide +kernel, by decide +kernel⟩, List.mem_of_getElem? (i := 799) (by decide +kernel), List.mem_of_getElem? (i := 1039) (by decide +kernel), List.mem_of_getElem? (i := 1040) (by decide +kernel)⟩
theorem lw_p56 : lw_okq (⟨"FrameReelModel", "setRegion", "(IIIIIIII)V"⟩, 32) := ⟨⟨by decide +kernel, by decide +kernel⟩, List.mem_of_getElem? (i := 799) (by decide +kernel), List.mem_of_getElem? (i := 1043) (by decide +kernel), List.mem_of_getElem? (i := 1044) (by decide +kernel)⟩
theorem lw_p57 : lw_okq (⟨"FrameReelModel", "wipe", "(I)V"⟩, 32) := ⟨⟨by decide +kernel, by decide +kernel⟩, List.mem_of_getElem? (i := 799) (by decide +kernel), List.mem_of_getElem? (i := 1058) (by decide +kernel), List.mem_of_getElem? (i := 1059) (by decide +kernel)⟩
theorem lw_p58 : lw_okq (⟨"FrameReelModel", "lay", "(I)V"⟩, 32) := ⟨⟨by decide +kernel, by decide +kernel⟩, List.mem_of_getElem? (i := 799) (by decide +kernel), List.mem_of_getElem? (i := 1082) (by decide +kernel), List.mem_of_getElem? (i := 1083) (by decide +kernel)⟩
theorem lw_p59 : lw_okq (⟨"FrameReelModel", "dispose", "(I)V"⟩, 32) := ⟨⟨by decide +kernel, by decide +kernel⟩, List.mem_of_getElem? (i := 799) (by decide +kernel), List.mem_of_getElem? (i := 1089) (by decide +kernel), List.mem_of_getElem? (i := 1090) (by decide +kernel)⟩
theorem lw_p60 : lw_okq (⟨"FrameReelModel", "put", "(I)V"⟩, 32) := ⟨⟨by decide +kernel, by decide +kernel⟩, List.mem_of_getElem? (i := 799) (by decide +kernel), List.mem_of_getElem? (i := 1101) (by decide +kernel), List.mem_of_getElem? (i := 1102) (by decide +kernel)⟩
theorem lw_p61 : lw_okq (⟨"FrameReelModel", "beginChunk", "(IIII)I"⟩, 32) := ⟨⟨by decide +kernel, by decide +kernel⟩, List.mem_of_getElem? (i := 799) (by decide +kernel), List.mem_of_getElem? (i := 1105) (by decide +kernel), List.mem_of_getElem? (i := 1106) (by decide +kernel)⟩
theorem lw_p62 : lw_okq (⟨"FrameReelModel", "putNumber", "(I)V"⟩, 32) := ⟨⟨by decide +kernel, by decide +kernel⟩, List.mem_of_getElem? (i := 799) (by decide +kernel), List.mem_of_getElem? (i := 1109) (by decide +kernel), List.mem_of_getElem? (i := 1110) (by decide +kernel)⟩
theorem lw_p63 : lw_okq (⟨"FrameReelModel", "endChunk", "(I)V"⟩, 32) := ⟨⟨by decide +kernel, by decide +kernel⟩, List.mem_of_getElem? (i := 799) (by decide +kernel), List.mem_of_getElem? (i := 1113) (by decide +kernel), List.mem_of_getElem? (i := 1114) (by decide +kernel)⟩
def lw_privs_4 : List (MethodName × Nat) := [(⟨"FrameReelModel", "region", "(III)I"⟩, 32), (⟨"FrameReelModel", "unfilter", "(III)Z"⟩, 32), (⟨"FrameReelModel", "takeHead", "(II)Z"⟩, 32), (⟨"FrameReelModel", "takeChunk", "(II)Z"⟩, 32), (⟨"FrameReelModel", "append", "(II)V"⟩, 32), (⟨"FrameReelModel", "takeCount", "(II)Z"⟩, 32), (⟨"FrameReelModel", "takeControl", "(II)Z"⟩, 32), (⟨"FrameReelModel", "isRegion", "(IIIII)Z"⟩, 32), (⟨"FrameReelModel", "setRegion", "(IIIIIIII)V"⟩, 32), (⟨"FrameReelModel", "wipe", "(I)V"⟩, 32), (⟨"FrameReelModel", "lay", "(I)V"⟩, 32), (⟨"FrameReelModel", "dispose", "(I)V"⟩, 32), (⟨"FrameReelModel", "put", "(I)V"⟩, 32), (⟨"FrameReelModel", "beginChunk", "(IIII)I"⟩, 32), (⟨"FrameReelModel", "putNumber", "(I)V"⟩, 32), (⟨"FrameReelModel", "endChunk", "(I)V"⟩, 32)]
theorem lw_r4 : ∀ q ∈ lw_privs_4, lw_okq q := List.forall_mem_cons.mpr ⟨lw_p48, List.forall_mem_cons.mpr ⟨lw_p49, List.forall_mem_cons.mpr ⟨lw_p50, List.forall_mem_cons.mpr ⟨lw_p51, List.forall_mem_cons.mpr ⟨lw_p52, List.forall_mem_cons.mpr ⟨lw_p53, List.forall_mem_cons.mpr ⟨lw_p54, List.forall_mem_cons.mpr ⟨lw_p55, List.forall_mem_cons.mpr ⟨lw_p56, List.forall_mem_cons.mpr ⟨lw_p57, List.forall_mem_cons.mpr ⟨lw_p58, List.forall_mem_cons.mpr ⟨lw_p59, List.forall_mem_cons.mpr ⟨lw_p60, List.forall_mem_cons.mpr ⟨lw_p61, List.forall_mem_cons.mpr ⟨lw_p62, List.forall_mem_cons.mpr ⟨lw_p63, fun _ h => absurd h List.not_mem_nil⟩⟩⟩⟩⟩⟩⟩⟩⟩⟩⟩⟩⟩⟩⟩⟩
theorem lw_p64 : lw_okq (⟨"FrameReelModel", "putControl", "(II)V"⟩, 32) := ⟨⟨by decide +kernel, by decide +kernel⟩, List.mem_of_getElem? (i := 799) (by decide +kernel), List.mem_of_getElem? (i := 1117) (by decide +kernel), List.mem_of_getElem? (i := 1118) (by decide +kernel)⟩
theorem lw_p65 : lw_okq (⟨"FrameReelModel", "putPicture", "(III)V"⟩, 32) := ⟨⟨by decide +kernel, by decide +kernel⟩, List.mem_of_getElem? (i := 799) (by decide +kernel), List.mem_of_getElem? (i := 1121) (by decide +kernel), List.mem_of_getElem? (i := 1122) (by decide +kernel)⟩
def lw_privs_5 : List (MethodName × Nat) := [(⟨"FrameReelModel", "putControl", "(II)V"⟩, 32), (⟨"FrameReelModel", "putPicture", "(III)V"⟩, 32)]
theorem lw_r5 : ∀ q ∈ lw_privs_5, lw_okq q := List.forall_mem_cons.mpr ⟨lw_p64, List.forall_mem_cons.mpr ⟨lw_p65, fun _ h => absurd h List.not_mem_nil⟩⟩
def lw_privs : List (MethodName × Nat) := lw_privs_1 ++ (lw_privs_2 ++ (lw_privs_3 ++ (lw_privs_4 ++ (lw_privs_5))))
def lw_tbl : List Cond := k2_sels lw_privs ++ tables_1
theorem lw_privs_ok : ∀ q ∈ lw_privs, lw_okq q := by
  show ∀ q ∈ lw_privs_1 ++ (lw_privs_2 ++ (lw_privs_3 ++ (lw_privs_4 ++ (lw_privs_5)))), lw_okq q
  exact List.forall_mem_append.mpr ⟨lw_r1, List.forall_mem_append.mpr ⟨lw_r2, List.forall_mem_append.mpr ⟨lw_r3, List.forall_mem_append.mpr ⟨lw_r4, lw_r5⟩⟩⟩⟩
/-! ===== BEGIN words of one list among another's, by their places ===== -/
theorem goodIn_r {big : List Cond} (ws : List Cond) (ps : List Nat) (hp : ws = ps.filterMap (fun i => big[i]?)) (h : ws.all goodWord = true) : GoodIn big ws := by
  intro w hw
  have h1 := List.all_eq_true.mp h w hw
  rw [hp] at hw
  obtain ⟨i, -, hi⟩ := List.mem_filterMap.mp hw
  have hm : w ∈ big := by first | exact List.mem_of_getElem? hi | exact List.getElem?_mem hi
  exact ⟨hm, good_of_word h1⟩
theorem goodIn_app {big a b : List Cond} (ha : GoodIn big a) (hb : GoodIn big b) : GoodIn big (a ++ b) := fun w h => (List.mem_append.mp h).elim (ha w) (hb w)
theorem goodIn_ca {big a b : List Cond} {c : Cond} (ha : GoodIn big (c :: a)) (hb : GoodIn big b) : GoodIn big (c :: (a ++ b)) := fun w h => (List.mem_cons.mp h).elim (fun e => ha w (List.mem_cons.mpr (Or.inl e))) (fun h => (List.mem_append.mp h).elim (fun h => ha w (List.mem_cons.mpr (Or.inr h))) (hb w))
theorem goodIn_sub {big ws : List Cond} (hm : ∀ w ∈ ws, w ∈ big) (h : ws.all goodWord = true) : GoodIn big ws := fun w hw => ⟨hm w hw, good_of_word (List.all_eq_true.mp h w hw)⟩
/-! ===== END ===== -/
end
section
def RX0 : String := "FrameReel$Bits"
def TX0 : u_T := fun k => match k with
  | 0 => ("FrameReel$Bits", "source", "LFrameReel$Bytes;", true)
  | _ => ("FrameReel$Bits", "at", "I", false)
def tyX0 : Nat → FieldType := fun k => match k with
  | 0 => .object "FrameReel$Bytes"
  | _ => .int
abbrev wsX00 : List Cond := u_ws RX0 TX0 2
theorem nmX0 : ∀ a, a < 2 → ∀ b, b < 2 → a ≠ b → (TX0 a).2.1 ≠ (TX0 b).2.1 := by decide +kernel
theorem tyX0_ok : ∀ k, k < 2 → parseFieldDescriptor (TX0 k).2.2.1 = some (tyX0 k) := by decide +kernel
abbrev cX0_init : ByteArray := prog_2_method_1_code
def yX0_init : MethodName := ⟨RX0, "<init>", "(LFrameReel$Bytes;)V"⟩
abbrev cX0_take : ByteArray := prog_2_method_2_code
def yX0_take : MethodName := ⟨RX0, "take", "(I)I"⟩
abbrev cX0_symbol : ByteArray := prog_2_method_3_code
def yX0_symbol : MethodName := ⟨RX0, "symbol", "(LFrameReel$Codes;)I"⟩
abbrev cX0_skipToByte : ByteArray := prog_2_method_4_code
def yX0_skipToByte : MethodName := ⟨RX0, "skipToByte", "()V"⟩
def RX1 : String := "FrameReel$Bytes"
def TX1 : u_T := fun k => match k with
  | 0 => ("FrameReel$Bytes", "cells", "[B", true)
  | _ => ("FrameReel$Bytes", "size", "I", false)
def tyX1 : Nat → FieldType := fun k => match k with
  | 0 => .array .byte
  | _ => .int
abbrev wsX10 : List Cond := u_ws RX1 TX1 2
theorem nmX1 : ∀ a, a < 2 → ∀ b, b < 2 → a ≠ b → (TX1 a).2.1 ≠ (TX1 b).2.1 := by decide +kernel
theorem tyX1_ok : ∀ k, k < 2 → parseFieldDescriptor (TX1 k).2.2.1 = some (tyX1 k) := by decide +kernel
abbrev cX1_init : ByteArray := prog_3_method_1_code
def yX1_init : MethodName := ⟨RX1, "<init>", "(I)V"⟩
abbrev cX1_clear : ByteArray := prog_3_method_2_code
def yX1_clear : MethodName := ⟨RX1, "clear", "()V"⟩
abbrev cX1_fits : ByteArray := prog_3_method_3_code
def yX1_fits : MethodName := ⟨RX1, "fits", "(I)Z"⟩
abbrev cX1_add : ByteArray := prog_3_method_4_code
def yX1_add : MethodName := ⟨RX1, "add", "(I)V"⟩
abbrev cX1_addNumber : ByteArray := prog_3_method_5_code
def yX1_addNumber : MethodName := ⟨RX1, "addNumber", "(I)V"⟩
abbrev cX1_addPart : ByteArray := prog_3_method_6_code
def yX1_addPart : MethodName := ⟨RX1, "addPart", "(LFrameReel$Bytes;II)V"⟩
abbrev cX1_at : ByteArray := prog_3_method_7_code
def yX1_at : MethodName := ⟨RX1, "at", "(I)I"⟩
abbrev cX1_number : ByteArray := prog_3_method_8_code
def yX1_number : MethodName := ⟨RX1, "number", "(I)I"⟩
def RX2 : String := "FrameReel$Codes"
def TX2 : u_T := fun k => match k with
  | 0 => ("FrameReel$Codes", "counts", "[I", true)
  | 1 => ("FrameReel$Codes", "starts", "[I", true)
  | 2 => ("FrameReel$Codes", "symbols", "[I", true)
  | _ => ("FrameReel$Codes", "used", "I", false)
def tyX2 : Nat → FieldType := fun k => match k with
  | 0 => .array .int
  | 1 => .array .int
  | 2 => .array .int
  | _ => .int
abbrev wsX20 : List Cond := u_ws RX2 TX2 4
theorem nmX2 : ∀ a, a < 4 → ∀ b, b < 4 → a ≠ b → (TX2 a).2.1 ≠ (TX2 b).2.1 := by decide +kernel
theorem tyX2_ok : ∀ k, k < 4 → parseFieldDescriptor (TX2 k).2.2.1 = some (tyX2 k) := by decide +kernel
abbrev cX2_init : ByteArray := prog_4_method_1_code
def yX2_init : MethodName := ⟨RX2, "<init>", "()V"⟩
abbrev cX2_build : ByteArray := prog_4_method_2_code
def yX2_build : MethodName := ⟨RX2, "build", "([III)I"⟩
abbrev cX2_isNoneOrOneBit : ByteArray := prog_4_method_3_code
def yX2_isNoneOrOneBit : MethodName := ⟨RX2, "isNoneOrOneBit", "()Z"⟩
def RX3 : String := "FrameReel$Picture"
def TX3 : u_T := fun k => match k with
  | 0 => ("FrameReel$Picture", "pixels", "[I", true)
  | 1 => ("FrameReel$Picture", "width", "I", false)
  | 2 => ("FrameReel$Picture", "height", "I", false)
  | 3 => ("FrameReel$Picture", "x", "I", false)
  | 4 => ("FrameReel$Picture", "y", "I", false)
  | 5 => ("FrameReel$Picture", "dispose", "I", false)
  | _ => ("FrameReel$Picture", "blend", "I", false)
def tyX3 : Nat → FieldType := fun k => match k with
  | 0 => .array .int
  | 1 => .int
  | 2 => .int
  | 3 => .int
  | 4 => .int
  | 5 => .int
  | _ => .int
abbrev wsX30 : List Cond := u_ws RX3 TX3 7
theorem nmX3 : ∀ a, a < 7 → ∀ b, b < 7 → a ≠ b → (TX3 a).2.1 ≠ (TX3 b).2.1 := by decide +kernel
theorem tyX3_ok : ∀ k, k < 7 → parseFieldDescriptor (TX3 k).2.2.1 = some (tyX3 k) := by decide +kernel
abbrev cX3_init : ByteArray := prog_5_method_1_code
def yX3_init : MethodName := ⟨RX3, "<init>", "()V"⟩
abbrev cX3_clear : ByteArray := prog_5_method_2_code
def yX3_clear : MethodName := ⟨RX3, "clear", "()V"⟩
abbrev cX3_fact : ByteArray := prog_5_method_3_code
def yX3_fact : MethodName := ⟨RX3, "fact", "(I)I"⟩
def RX4 : String := "FrameReel$Reader"
def TX4 : u_T := fun k => match k with
  | 0 => ("FrameReel$Reader", "tape", "LFrameReel$Bytes;", true)
  | 1 => ("FrameReel$Reader", "sums", "LFrameReel$Sums;", true)
  | 2 => ("FrameReel$Reader", "unpacker", "LFrameReel$Unpacker;", true)
  | 3 => ("FrameReel$Reader", "reel", "LFrameReel$Reel;", false)
  | 4 => ("FrameReel$Reader", "picture", "LFrameReel$Picture;", false)
  | 5 => ("FrameReel$Reader", "faultPlace", "I", false)
  | 6 => ("FrameReel$Reader", "at", "I", false)
  | 7 => ("FrameReel$Reader", "before", "I", false)
  | 8 => ("FrameReel$Reader", "serial", "I", false)
  | 9 => ("FrameReel$Reader", "told", "I", false)
  | _ => ("FrameReel$Reader", "hasData", "Z", false)
def tyX4 : Nat → FieldType := fun k => match k with
  | 0 => .object "FrameReel$Bytes"
  | 1 => .object "FrameReel$Sums"
  | 2 => .object "FrameReel$Unpacker"
  | 3 => .object "FrameReel$Reel"
  | 4 => .object "FrameReel$Picture"
  | 5 => .int
  | 6 => .int
  | 7 => .int
  | 8 => .int
  | 9 => .int
  | _ => .boolean
abbrev wsX40 : List Cond := u_ws RX4 TX4 11
theorem nmX4 : ∀ a, a < 11 → ∀ b, b < 11 → a ≠ b → (TX4 a).2.1 ≠ (TX4 b).2.1 := by decide +kernel
theorem tyX4_ok : ∀ k, k < 11 → parseFieldDescriptor (TX4 k).2.2.1 = some (tyX4 k) := by decide +kernel
abbrev cX4_init : ByteArray := prog_6_method_1_code
def yX4_init : MethodName := ⟨RX4, "<init>", "(LFrameReel$Bytes;LFrameReel$Sums;)V"⟩
abbrev cX4_exchange : ByteArray := prog_6_method_2_code
def yX4_exchange : MethodName := ⟨RX4, "exchange", "(LFrameReel$Reel;)LFrameReel$Reel;"⟩
abbrev cX4_run : ByteArray := prog_6_method_3_code
def yX4_run : MethodName := ⟨RX4, "run", "()I"⟩
abbrev cX4_startsAsFile : ByteArray := prog_6_method_4_code
def yX4_startsAsFile : MethodName := ⟨RX4, "startsAsFile", "()Z"⟩
abbrev cX4_chunkFault : ByteArray := prog_6_method_5_code
def yX4_chunkFault : MethodName := ⟨RX4, "chunkFault", "()I"⟩
abbrev cX4_takesChunk : ByteArray := prog_6_method_6_code
def yX4_takesChunk : MethodName := ⟨RX4, "takesChunk", "(II)Z"⟩
abbrev cX4_takesHead : ByteArray := prog_6_method_7_code
def yX4_takesHead : MethodName := ⟨RX4, "takesHead", "(I)Z"⟩
abbrev cX4_takesCounts : ByteArray := prog_6_method_8_code
def yX4_takesCounts : MethodName := ⟨RX4, "takesCounts", "(I)Z"⟩
abbrev cX4_takesControl : ByteArray := prog_6_method_9_code
def yX4_takesControl : MethodName := ⟨RX4, "takesControl", "(I)Z"⟩
abbrev cX4_takesSerial : ByteArray := prog_6_method_10_code
def yX4_takesSerial : MethodName := ⟨RX4, "takesSerial", "(I)Z"⟩
abbrev cX4_takesDefaultData : ByteArray := prog_6_method_11_code
def yX4_takesDefaultData : MethodName := ⟨RX4, "takesDefaultData", "(I)Z"⟩
abbrev cX4_takesFrameData : ByteArray := prog_6_method_12_code
def yX4_takesFrameData : MethodName := ⟨RX4, "takesFrameData", "(I)Z"⟩
abbrev cX4_mayBeLeftOut : ByteArray := prog_6_method_13_code
def yX4_mayBeLeftOut : MethodName := ⟨RX4, "mayBeLeftOut", "(I)Z"⟩
def RX5 : String := "FrameReel$Reel"
def TX5 : u_T := fun k => match k with
  | 0 => ("FrameReel$Reel", "frames", "[LFrameReel$Picture;", true)
  | 1 => ("FrameReel$Reel", "own", "LFrameReel$Picture;", true)
  | 2 => ("FrameReel$Reel", "there", "Z", false)
  | 3 => ("FrameReel$Reel", "firstIsDefault", "Z", false)
  | 4 => ("FrameReel$Reel", "width", "I", false)
  | 5 => ("FrameReel$Reel", "height", "I", false)
  | 6 => ("FrameReel$Reel", "plays", "I", false)
  | _ => ("FrameReel$Reel", "count", "I", false)
def tyX5 : Nat → FieldType := fun k => match k with
  | 0 => .array (.object "FrameReel$Picture")
  | 1 => .object "FrameReel$Picture"
  | 2 => .boolean
  | 3 => .boolean
  | 4 => .int
  | 5 => .int
  | 6 => .int
  | _ => .int
abbrev wsX50 : List Cond := u_ws RX5 TX5 8
theorem nmX5 : ∀ a, a < 8 → ∀ b, b < 8 → a ≠ b → (TX5 a).2.1 ≠ (TX5 b).2.1 := by decide +kernel
theorem tyX5_ok : ∀ k, k < 8 → parseFieldDescriptor (TX5 k).2.2.1 = some (tyX5 k) := by decide +kernel
abbrev cX5_init : ByteArray := prog_7_method_1_code
def yX5_init : MethodName := ⟨RX5, "<init>", "()V"⟩
abbrev cX5_start : ByteArray := prog_7_method_2_code
def yX5_start : MethodName := ⟨RX5, "start", "(II)V"⟩
abbrev cX5_allows : ByteArray := prog_7_method_3_code
def yX5_allows : MethodName := ⟨RX5, "allows", "(IIIIII)Z"⟩
abbrev cX5_add : ByteArray := prog_7_method_4_code
def yX5_add : MethodName := ⟨RX5, "add", "(IIIIII)V"⟩
abbrev cX5_hasFrame : ByteArray := prog_7_method_5_code
def yX5_hasFrame : MethodName := ⟨RX5, "hasFrame", "(I)Z"⟩
abbrev cX5_firstIsCanvas : ByteArray := prog_7_method_6_code
def yX5_firstIsCanvas : MethodName := ⟨RX5, "firstIsCanvas", "()Z"⟩
abbrev cX5_defaultPicture : ByteArray := prog_7_method_7_code
def yX5_defaultPicture : MethodName := ⟨RX5, "defaultPicture", "()LFrameReel$Picture;"⟩
abbrev cX5_fact : ByteArray := prog_7_method_8_code
def yX5_fact : MethodName := ⟨RX5, "fact", "(I)I"⟩
def RX6 : String := "FrameReel$Rows"
def TX6 : u_T := fun k => match k with
  | _ => ("", "", "", false)
def tyX6 : Nat → FieldType := fun k => match k with
  | _ => .int
abbrev wsX60 : List Cond := u_ws RX6 TX6 0
theorem nmX6 : ∀ a, a < 0 → ∀ b, b < 0 → a ≠ b → (TX6 a).2.1 ≠ (TX6 b).2.1 := by decide +kernel
theorem tyX6_ok : ∀ k, k < 0 → parseFieldDescriptor (TX6 k).2.2.1 = some (tyX6 k) := by decide +kernel
abbrev cX6_fill : ByteArray := prog_8_method_2_code
def yX6_fill : MethodName := ⟨RX6, "fill", "(LFrameReel$Picture;LFrameReel$Bytes;)Z"⟩
abbrev cX6_unfilter : ByteArray := prog_8_method_3_code
def yX6_unfilter : MethodName := ⟨RX6, "unfilter", "(LFrameReel$Bytes;III)V"⟩
abbrev cX6_guess : ByteArray := prog_8_method_4_code
def yX6_guess : MethodName := ⟨RX6, "guess", "(IIII)I"⟩
abbrev cX6_nearest : ByteArray := prog_8_method_5_code
def yX6_nearest : MethodName := ⟨RX6, "nearest", "(III)I"⟩
def RX7 : String := "FrameReel$Screen"
def TX7 : u_T := fun k => match k with
  | 0 => ("FrameReel$Screen", "pixels", "[I", true)
  | 1 => ("FrameReel$Screen", "saved", "[I", true)
  | 2 => ("FrameReel$Screen", "width", "I", false)
  | _ => ("FrameReel$Screen", "height", "I", false)
def tyX7 : Nat → FieldType := fun k => match k with
  | 0 => .array .int
  | 1 => .array .int
  | 2 => .int
  | _ => .int
abbrev wsX70 : List Cond := u_ws RX7 TX7 4
theorem nmX7 : ∀ a, a < 4 → ∀ b, b < 4 → a ≠ b → (TX7 a).2.1 ≠ (TX7 b).2.1 := by decide +kernel
theorem tyX7_ok : ∀ k, k < 4 → parseFieldDescriptor (TX7 k).2.2.1 = some (tyX7 k) := by decide +kernel
abbrev cX7_init : ByteArray := prog_9_method_1_code
def yX7_init : MethodName := ⟨RX7, "<init>", "()V"⟩
abbrev cX7_forget : ByteArray := prog_9_method_2_code
def yX7_forget : MethodName := ⟨RX7, "forget", "()V"⟩
abbrev cX7_has : ByteArray := prog_9_method_3_code
def yX7_has : MethodName := ⟨RX7, "has", "(II)Z"⟩
abbrev cX7_copy : ByteArray := prog_9_method_4_code
def yX7_copy : MethodName := ⟨RX7, "copy", "(LFrameReel$Picture;)V"⟩
abbrev cX7_compose : ByteArray := prog_9_method_5_code
def yX7_compose : MethodName := ⟨RX7, "compose", "(LFrameReel$Reel;I)V"⟩
abbrev cX7_draw : ByteArray := prog_9_method_6_code
def yX7_draw : MethodName := ⟨RX7, "draw", "(LFrameReel$Picture;)V"⟩
abbrev cX7_dispose : ByteArray := prog_9_method_7_code
def yX7_dispose : MethodName := ⟨RX7, "dispose", "(LFrameReel$Picture;)V"⟩
abbrev cX7_blended : ByteArray := prog_9_method_8_code
def yX7_blended : MethodName := ⟨RX7, "blended", "(II)I"⟩
def RX8 : String := "FrameReel$Sums"
def TX8 : u_T := fun k => match k with
  | _ => ("FrameReel$Sums", "table", "[I", true)
def tyX8 : Nat → FieldType := fun k => match k with
  | _ => .array .int
abbrev wsX80 : List Cond := u_ws RX8 TX8 1
theorem nmX8 : ∀ a, a < 1 → ∀ b, b < 1 → a ≠ b → (TX8 a).2.1 ≠ (TX8 b).2.1 := by decide +kernel
theorem tyX8_ok : ∀ k, k < 1 → parseFieldDescriptor (TX8 k).2.2.1 = some (tyX8 k) := by decide +kernel
abbrev cX8_init : ByteArray := prog_10_method_1_code
def yX8_init : MethodName := ⟨RX8, "<init>", "()V"⟩
abbrev cX8_ofChunk : ByteArray := prog_10_method_2_code
def yX8_ofChunk : MethodName := ⟨RX8, "ofChunk", "(LFrameReel$Bytes;II)I"⟩
abbrev cX8_ofRaw : ByteArray := prog_10_method_3_code
def yX8_ofRaw : MethodName := ⟨RX8, "ofRaw", "(LFrameReel$Bytes;II)I"⟩
def RX9 : String := "FrameReel$Unpacker"
def TX9 : u_T := fun k => match k with
  | 0 => ("FrameReel$Unpacker", "packed", "LFrameReel$Bytes;", true)
  | 1 => ("FrameReel$Unpacker", "raw", "LFrameReel$Bytes;", true)
  | 2 => ("FrameReel$Unpacker", "bits", "LFrameReel$Bits;", true)
  | 3 => ("FrameReel$Unpacker", "tellers", "LFrameReel$Codes;", true)
  | 4 => ("FrameReel$Unpacker", "symbols", "LFrameReel$Codes;", true)
  | 5 => ("FrameReel$Unpacker", "distances", "LFrameReel$Codes;", true)
  | 6 => ("FrameReel$Unpacker", "lengths", "[I", true)
  | 7 => ("FrameReel$Unpacker", "symbolCount", "I", false)
  | _ => ("FrameReel$Unpacker", "distanceCount", "I", false)
def tyX9 : Nat → FieldType := fun k => match k with
  | 0 => .object "FrameReel$Bytes"
  | 1 => .object "FrameReel$Bytes"
  | 2 => .object "FrameReel$Bits"
  | 3 => .object "FrameReel$Codes"
  | 4 => .object "FrameReel$Codes"
  | 5 => .object "FrameReel$Codes"
  | 6 => .array .int
  | 7 => .int
  | _ => .int
abbrev wsX90 : List Cond := u_ws RX9 TX9 9
theorem nmX9 : ∀ a, a < 9 → ∀ b, b < 9 → a ≠ b → (TX9 a).2.1 ≠ (TX9 b).2.1 := by decide +kernel
theorem tyX9_ok : ∀ k, k < 9 → parseFieldDescriptor (TX9 k).2.2.1 = some (tyX9 k) := by decide +kernel
abbrev cX9_init : ByteArray := prog_11_method_1_code
def yX9_init : MethodName := ⟨RX9, "<init>", "()V"⟩
abbrev cX9_unpack : ByteArray := prog_11_method_2_code
def yX9_unpack : MethodName := ⟨RX9, "unpack", "()Z"⟩
abbrev cX9_startsAsPacked : ByteArray := prog_11_method_3_code
def yX9_startsAsPacked : MethodName := ⟨RX9, "startsAsPacked", "()Z"⟩
abbrev cX9_hasCodes : ByteArray := prog_11_method_4_code
def yX9_hasCodes : MethodName := ⟨RX9, "hasCodes", "(I)Z"⟩
abbrev cX9_endsWithSum : ByteArray := prog_11_method_5_code
def yX9_endsWithSum : MethodName := ⟨RX9, "endsWithSum", "()Z"⟩
abbrev cX9_copyPlain : ByteArray := prog_11_method_6_code
def yX9_copyPlain : MethodName := ⟨RX9, "copyPlain", "()Z"⟩
abbrev cX9_fixCodes : ByteArray := prog_11_method_7_code
def yX9_fixCodes : MethodName := ⟨RX9, "fixCodes", "()V"⟩
abbrev cX9_takeTellers : ByteArray := prog_11_method_8_code
def yX9_takeTellers : MethodName := ⟨RX9, "takeTellers", "()Z"⟩
abbrev cX9_takeLengths : ByteArray := prog_11_method_9_code
def yX9_takeLengths : MethodName := ⟨RX9, "takeLengths", "()Z"⟩
abbrev cX9_buildCodes : ByteArray := prog_11_method_10_code
def yX9_buildCodes : MethodName := ⟨RX9, "buildCodes", "()Z"⟩
abbrev cX9_unpackCoded : ByteArray := prog_11_method_11_code
def yX9_unpackCoded : MethodName := ⟨RX9, "unpackCoded", "()Z"⟩
abbrev cX9_copyMatch : ByteArray := prog_11_method_12_code
def yX9_copyMatch : MethodName := ⟨RX9, "copyMatch", "(I)Z"⟩
def RX10 : String := "FrameReel$Writer"
def TX10 : u_T := fun k => match k with
  | 0 => ("FrameReel$Writer", "file", "LFrameReel$Bytes;", true)
  | 1 => ("FrameReel$Writer", "sums", "LFrameReel$Sums;", true)
  | 2 => ("FrameReel$Writer", "typeAt", "I", false)
  | _ => ("FrameReel$Writer", "serial", "I", false)
def tyX10 : Nat → FieldType := fun k => match k with
  | 0 => .object "FrameReel$Bytes"
  | 1 => .object "FrameReel$Sums"
  | 2 => .int
  | _ => .int
abbrev wsX100 : List Cond := u_ws RX10 TX10 4
theorem nmX10 : ∀ a, a < 4 → ∀ b, b < 4 → a ≠ b → (TX10 a).2.1 ≠ (TX10 b).2.1 := by decide +kernel
theorem tyX10_ok : ∀ k, k < 4 → parseFieldDescriptor (TX10 k).2.2.1 = some (tyX10 k) := by decide +kernel
abbrev cX10_init : ByteArray := prog_12_method_1_code
def yX10_init : MethodName := ⟨RX10, "<init>", "(LFrameReel$Sums;)V"⟩
abbrev cX10_run : ByteArray := prog_12_method_2_code
def yX10_run : MethodName := ⟨RX10, "run", "(LFrameReel$Reel;)V"⟩
abbrev cX10_openChunk : ByteArray := prog_12_method_3_code
def yX10_openChunk : MethodName := ⟨RX10, "openChunk", "(II)V"⟩
abbrev cX10_closeChunk : ByteArray := prog_12_method_4_code
def yX10_closeChunk : MethodName := ⟨RX10, "closeChunk", "()V"⟩
abbrev cX10_addHead : ByteArray := prog_12_method_5_code
def yX10_addHead : MethodName := ⟨RX10, "addHead", "(LFrameReel$Reel;)V"⟩
abbrev cX10_addSerial : ByteArray := prog_12_method_6_code
def yX10_addSerial : MethodName := ⟨RX10, "addSerial", "()V"⟩
abbrev cX10_addControl : ByteArray := prog_12_method_7_code
def yX10_addControl : MethodName := ⟨RX10, "addControl", "(LFrameReel$Picture;)V"⟩
abbrev cX10_addDefaultData : ByteArray := prog_12_method_8_code
def yX10_addDefaultData : MethodName := ⟨RX10, "addDefaultData", "(LFrameReel$Picture;)V"⟩
abbrev cX10_addFrameData : ByteArray := prog_12_method_9_code
def yX10_addFrameData : MethodName := ⟨RX10, "addFrameData", "(LFrameReel$Picture;)V"⟩
abbrev cX10_rawSize : ByteArray := prog_12_method_10_code
def yX10_rawSize : MethodName := ⟨RX10, "rawSize", "(LFrameReel$Picture;)I"⟩
abbrev cX10_addPacked : ByteArray := prog_12_method_11_code
def yX10_addPacked : MethodName := ⟨RX10, "addPacked", "(LFrameReel$Picture;)V"⟩
def RX11 : String := "FrameReel"
def TX11 : u_T := fun k => match k with
  | 0 => ("FrameReel", "tape", "LFrameReel$Bytes;", true)
  | 1 => ("FrameReel", "reader", "LFrameReel$Reader;", true)
  | 2 => ("FrameReel", "writer", "LFrameReel$Writer;", true)
  | 3 => ("FrameReel", "screen", "LFrameReel$Screen;", true)
  | 4 => ("FrameReel", "reel", "LFrameReel$Reel;", false)
  | _ => ("FrameReel", "faultPlace", "I", false)
def tyX11 : Nat → FieldType := fun k => match k with
  | 0 => .object "FrameReel$Bytes"
  | 1 => .object "FrameReel$Reader"
  | 2 => .object "FrameReel$Writer"
  | 3 => .object "FrameReel$Screen"
  | 4 => .object "FrameReel$Reel"
  | _ => .int
abbrev wsX110 : List Cond := u_ws RX11 TX11 6
theorem nmX11 : ∀ a, a < 6 → ∀ b, b < 6 → a ≠ b → (TX11 a).2.1 ≠ (TX11 b).2.1 := by decide +kernel
theorem tyX11_ok : ∀ k, k < 6 → parseFieldDescriptor (TX11 k).2.2.1 = some (tyX11 k) := by decide +kernel
abbrev cX11_init : ByteArray := prog_1_method_1_code
def yX11_init : MethodName := ⟨RX11, "<init>", "()V"⟩
abbrev cX11_type : ByteArray := prog_1_method_2_code
def yX11_type : MethodName := ⟨RX11, "type", "(II)I"⟩
abbrev cX11_words : ByteArray := prog_1_method_3_code
def yX11_words : MethodName := ⟨RX11, "words", "(IIII)I"⟩
abbrev cX11_read : ByteArray := prog_1_method_4_code
def yX11_read : MethodName := ⟨RX11, "read", "()I"⟩
abbrev cX11_place : ByteArray := prog_1_method_5_code
def yX11_place : MethodName := ⟨RX11, "place", "()I"⟩
abbrev cX11_begin : ByteArray := prog_1_method_6_code
def yX11_begin : MethodName := ⟨RX11, "begin", "(III)I"⟩
abbrev cX11_frame : ByteArray := prog_1_method_7_code
def yX11_frame : MethodName := ⟨RX11, "frame", "(IIIIII)I"⟩
abbrev cX11_paint : ByteArray := prog_1_method_8_code
def yX11_paint : MethodName := ⟨RX11, "paint", "(IIII)I"⟩
abbrev cX11_paintable : ByteArray := prog_1_method_9_code
def yX11_paintable : MethodName := ⟨RX11, "paintable", "(I)LFrameReel$Picture;"⟩
abbrev cX11_first : ByteArray := prog_1_method_10_code
def yX11_first : MethodName := ⟨RX11, "first", "(Z)I"⟩
abbrev cX11_about : ByteArray := prog_1_method_11_code
def yX11_about : MethodName := ⟨RX11, "about", "(II)I"⟩
abbrev cX11_show : ByteArray := prog_1_method_12_code
def yX11_show : MethodName := ⟨RX11, "show", "(I)I"⟩
abbrev cX11_pixel : ByteArray := prog_1_method_13_code
def yX11_pixel : MethodName := ⟨RX11, "pixel", "(II)I"⟩
abbrev cX11_write : ByteArray := prog_1_method_14_code
def yX11_write : MethodName := ⟨RX11, "write", "()I"⟩
abbrev cX11_out : ByteArray := prog_1_method_15_code
def yX11_out : MethodName := ⟨RX11, "out", "(I)I"⟩
def RX12 : String := "FrameReelModel"
def TX12 : u_T := fun k => match k with
  | 0 => ("FrameReelModel", "thrown", "I", false)
  | 1 => ("FrameReelModel", "taped", "I", false)
  | 2 => ("FrameReelModel", "tape", "[B", true)
  | 3 => ("FrameReelModel", "place", "I", false)
  | 4 => ("FrameReelModel", "about", "[I", true)
  | 5 => ("FrameReelModel", "regions", "[I", true)
  | 6 => ("FrameReelModel", "pixels", "[I", true)
  | 7 => ("FrameReelModel", "shown", "Z", false)
  | 8 => ("FrameReelModel", "shownWidth", "I", false)
  | 9 => ("FrameReelModel", "shownHeight", "I", false)
  | 10 => ("FrameReelModel", "canvas", "[I", true)
  | 11 => ("FrameReelModel", "before", "[I", true)
  | 12 => ("FrameReelModel", "outSize", "I", false)
  | 13 => ("FrameReelModel", "out", "[B", true)
  | 14 => ("FrameReelModel", "packed", "I", false)
  | 15 => ("FrameReelModel", "pack", "[B", true)
  | 16 => ("FrameReelModel", "at", "I", false)
  | 17 => ("FrameReelModel", "bit", "I", false)
  | 18 => ("FrameReelModel", "bad", "Z", false)
  | 19 => ("FrameReelModel", "madeSize", "I", false)
  | 20 => ("FrameReelModel", "made", "[B", true)
  | 21 => ("FrameReelModel", "lengths", "[I", true)
  | 22 => ("FrameReelModel", "codes", "[I", true)
  | 23 => ("FrameReelModel", "hasActl", "Z", false)
  | 24 => ("FrameReelModel", "fctls", "I", false)
  | 25 => ("FrameReelModel", "wants", "I", false)
  | 26 => ("FrameReelModel", "serial", "I", false)
  | 27 => ("FrameReelModel", "hasIdat", "Z", false)
  | 28 => ("FrameReelModel", "idatOver", "Z", false)
  | 29 => ("FrameReelModel", "firstIs", "Z", false)
  | 30 => ("FrameReelModel", "open", "I", false)
  | _ => ("FrameReelModel", "waits", "Z", false)
def tyX12 : Nat → FieldType := fun k => match k with
  | 0 => .int
  | 1 => .int
  | 2 => .array .byte
  | 3 => .int
  | 4 => .array .int
  | 5 => .array .int
  | 6 => .array .int
  | 7 => .boolean
  | 8 => .int
  | 9 => .int
  | 10 => .array .int
  | 11 => .array .int
  | 12 => .int
  | 13 => .array .byte
  | 14 => .int
  | 15 => .array .byte
  | 16 => .int
  | 17 => .int
  | 18 => .boolean
  | 19 => .int
  | 20 => .array .byte
  | 21 => .array .int
  | 22 => .array .int
  | 23 => .boolean
  | 24 => .int
  | 25 => .int
  | 26 => .int
  | 27 => .boolean
  | 28 => .boolean
  | 29 => .boolean
  | 30 => .int
  | _ => .boolean
abbrev wsX120 : List Cond := u_ws RX12 TX12 32
theorem nmX12 : ∀ a, a < 32 → ∀ b, b < 32 → a ≠ b → (TX12 a).2.1 ≠ (TX12 b).2.1 := by decide +kernel
theorem tyX12_ok : ∀ k, k < 32 → parseFieldDescriptor (TX12 k).2.2.1 = some (tyX12 k) := by decide +kernel
abbrev cX12_init : ByteArray := prog_14_method_1_code
def yX12_init : MethodName := ⟨RX12, "<init>", "()V"⟩
abbrev cX12_thrown : ByteArray := prog_14_method_2_code
def yX12_thrown : MethodName := ⟨RX12, "thrown", "()I"⟩
abbrev cX12_type : ByteArray := prog_14_method_3_code
def yX12_type : MethodName := ⟨RX12, "type", "(II)I"⟩
abbrev cX12_words : ByteArray := prog_14_method_4_code
def yX12_words : MethodName := ⟨RX12, "words", "(IIII)I"⟩
abbrev cX12_byteAt : ByteArray := prog_14_method_5_code
def yX12_byteAt : MethodName := ⟨RX12, "byteAt", "(I)I"⟩
abbrev cX12_number : ByteArray := prog_14_method_6_code
def yX12_number : MethodName := ⟨RX12, "number", "(I)I"⟩
abbrev cX12_nextSum : ByteArray := prog_14_method_7_code
def yX12_nextSum : MethodName := ⟨RX12, "nextSum", "(II)I"⟩
abbrev cX12_bits : ByteArray := prog_14_method_8_code
def yX12_bits : MethodName := ⟨RX12, "bits", "(I)I"⟩
abbrev cX12_evenOut : ByteArray := prog_14_method_9_code
def yX12_evenOut : MethodName := ⟨RX12, "evenOut", "()V"⟩
abbrev cX12_emit : ByteArray := prog_14_method_10_code
def yX12_emit : MethodName := ⟨RX12, "emit", "(I)V"⟩
abbrev cX12_makeCodes : ByteArray := prog_14_method_11_code
def yX12_makeCodes : MethodName := ⟨RX12, "makeCodes", "(IIZ)V"⟩
abbrev cX12_symbol : ByteArray := prog_14_method_12_code
def yX12_symbol : MethodName := ⟨RX12, "symbol", "(II)I"⟩
abbrev cX12_lengthBits : ByteArray := prog_14_method_13_code
def yX12_lengthBits : MethodName := ⟨RX12, "lengthBits", "(I)I"⟩
abbrev cX12_lengthBase : ByteArray := prog_14_method_14_code
def yX12_lengthBase : MethodName := ⟨RX12, "lengthBase", "(I)I"⟩
abbrev cX12_distanceBits : ByteArray := prog_14_method_15_code
def yX12_distanceBits : MethodName := ⟨RX12, "distanceBits", "(I)I"⟩
abbrev cX12_distanceBase : ByteArray := prog_14_method_16_code
def yX12_distanceBase : MethodName := ⟨RX12, "distanceBase", "(I)I"⟩
abbrev cX12_match : ByteArray := prog_14_method_17_code
def yX12_match : MethodName := ⟨RX12, "match", "(II)V"⟩
abbrev cX12_coded : ByteArray := prog_14_method_18_code
def yX12_coded : MethodName := ⟨RX12, "coded", "(II)V"⟩
abbrev cX12_plain : ByteArray := prog_14_method_19_code
def yX12_plain : MethodName := ⟨RX12, "plain", "()V"⟩
abbrev cX12_fixed : ByteArray := prog_14_method_20_code
def yX12_fixed : MethodName := ⟨RX12, "fixed", "()V"⟩
abbrev cX12_orderOf : ByteArray := prog_14_method_21_code
def yX12_orderOf : MethodName := ⟨RX12, "orderOf", "(I)I"⟩
abbrev cX12_told : ByteArray := prog_14_method_22_code
def yX12_told : MethodName := ⟨RX12, "told", "()V"⟩
abbrev cX12_unpack : ByteArray := prog_14_method_23_code
def yX12_unpack : MethodName := ⟨RX12, "unpack", "()Z"⟩
abbrev cX12_nearest : ByteArray := prog_14_method_24_code
def yX12_nearest : MethodName := ⟨RX12, "nearest", "(III)I"⟩
abbrev cX12_unfilter : ByteArray := prog_14_method_25_code
def yX12_unfilter : MethodName := ⟨RX12, "unfilter", "(III)Z"⟩
abbrev cX12_isType : ByteArray := prog_14_method_26_code
def yX12_isType : MethodName := ⟨RX12, "isType", "(IIIII)Z"⟩
abbrev cX12_isLetter : ByteArray := prog_14_method_27_code
def yX12_isLetter : MethodName := ⟨RX12, "isLetter", "(I)Z"⟩
abbrev cX12_append : ByteArray := prog_14_method_28_code
def yX12_append : MethodName := ⟨RX12, "append", "(II)V"⟩
abbrev cX12_region : ByteArray := prog_14_method_29_code
def yX12_region : MethodName := ⟨RX12, "region", "(III)I"⟩
abbrev cX12_takeHead : ByteArray := prog_14_method_30_code
def yX12_takeHead : MethodName := ⟨RX12, "takeHead", "(II)Z"⟩
abbrev cX12_takeCount : ByteArray := prog_14_method_31_code
def yX12_takeCount : MethodName := ⟨RX12, "takeCount", "(II)Z"⟩
abbrev cX12_takeControl : ByteArray := prog_14_method_32_code
def yX12_takeControl : MethodName := ⟨RX12, "takeControl", "(II)Z"⟩
abbrev cX12_isRegion : ByteArray := prog_14_method_33_code
def yX12_isRegion : MethodName := ⟨RX12, "isRegion", "(IIIII)Z"⟩
abbrev cX12_setRegion : ByteArray := prog_14_method_34_code
def yX12_setRegion : MethodName := ⟨RX12, "setRegion", "(IIIIIIII)V"⟩
abbrev cX12_finishPicture : ByteArray := prog_14_method_35_code
def yX12_finishPicture : MethodName := ⟨RX12, "finishPicture", "()I"⟩
abbrev cX12_takeChunk : ByteArray := prog_14_method_36_code
def yX12_takeChunk : MethodName := ⟨RX12, "takeChunk", "(II)Z"⟩
abbrev cX12_mark : ByteArray := prog_14_method_37_code
def yX12_mark : MethodName := ⟨RX12, "mark", "(I)I"⟩
abbrev cX12_readAll : ByteArray := prog_14_method_38_code
def yX12_readAll : MethodName := ⟨RX12, "readAll", "()I"⟩
abbrev cX12_read : ByteArray := prog_14_method_39_code
def yX12_read : MethodName := ⟨RX12, "read", "()I"⟩
abbrev cX12_place : ByteArray := prog_14_method_40_code
def yX12_place : MethodName := ⟨RX12, "place", "()I"⟩
abbrev cX12_begin : ByteArray := prog_14_method_41_code
def yX12_begin : MethodName := ⟨RX12, "begin", "(III)I"⟩
abbrev cX12_wipe : ByteArray := prog_14_method_42_code
def yX12_wipe : MethodName := ⟨RX12, "wipe", "(I)V"⟩
abbrev cX12_frame : ByteArray := prog_14_method_43_code
def yX12_frame : MethodName := ⟨RX12, "frame", "(IIIIII)I"⟩
abbrev cX12_paint : ByteArray := prog_14_method_44_code
def yX12_paint : MethodName := ⟨RX12, "paint", "(IIII)I"⟩
abbrev cX12_first : ByteArray := prog_14_method_45_code
def yX12_first : MethodName := ⟨RX12, "first", "(Z)I"⟩
abbrev cX12_about : ByteArray := prog_14_method_46_code
def yX12_about : MethodName := ⟨RX12, "about", "(II)I"⟩
abbrev cX12_over : ByteArray := prog_14_method_47_code
def yX12_over : MethodName := ⟨RX12, "over", "(II)I"⟩
abbrev cX12_lay : ByteArray := prog_14_method_48_code
def yX12_lay : MethodName := ⟨RX12, "lay", "(I)V"⟩
abbrev cX12_dispose : ByteArray := prog_14_method_49_code
def yX12_dispose : MethodName := ⟨RX12, "dispose", "(I)V"⟩
abbrev cX12_show : ByteArray := prog_14_method_50_code
def yX12_show : MethodName := ⟨RX12, "show", "(I)I"⟩
abbrev cX12_pixel : ByteArray := prog_14_method_51_code
def yX12_pixel : MethodName := ⟨RX12, "pixel", "(II)I"⟩
abbrev cX12_put : ByteArray := prog_14_method_52_code
def yX12_put : MethodName := ⟨RX12, "put", "(I)V"⟩
abbrev cX12_putNumber : ByteArray := prog_14_method_53_code
def yX12_putNumber : MethodName := ⟨RX12, "putNumber", "(I)V"⟩
abbrev cX12_beginChunk : ByteArray := prog_14_method_54_code
def yX12_beginChunk : MethodName := ⟨RX12, "beginChunk", "(IIII)I"⟩
abbrev cX12_endChunk : ByteArray := prog_14_method_55_code
def yX12_endChunk : MethodName := ⟨RX12, "endChunk", "(I)V"⟩
abbrev cX12_putControl : ByteArray := prog_14_method_56_code
def yX12_putControl : MethodName := ⟨RX12, "putControl", "(II)V"⟩
abbrev cX12_putPicture : ByteArray := prog_14_method_57_code
def yX12_putPicture : MethodName := ⟨RX12, "putPicture", "(III)V"⟩
abbrev cX12_write : ByteArray := prog_14_method_58_code
def yX12_write : MethodName := ⟨RX12, "write", "()I"⟩
abbrev cX12_out : ByteArray := prog_14_method_59_code
def yX12_out : MethodName := ⟨RX12, "out", "(I)I"⟩
def RJ9 : String := "java/lang/Math"
def TJ9 : u_T := fun k => match k with
  | _ => ("", "", "", false)
def tyJ9 : Nat → FieldType := fun k => match k with
  | _ => .int
abbrev wsJ90 : List Cond := u_ws RJ9 TJ9 0
theorem nmJ9 : ∀ a, a < 0 → ∀ b, b < 0 → a ≠ b → (TJ9 a).2.1 ≠ (TJ9 b).2.1 := by decide +kernel
theorem tyJ9_ok : ∀ k, k < 0 → parseFieldDescriptor (TJ9 k).2.2.1 = some (tyJ9 k) := by decide +kernel
abbrev cJ9_abs_0f7a4 : ByteArray := prog_17_method_59_code
def yJ9_abs_0f7a4 : MethodName := ⟨RJ9, "abs", "(I)I"⟩
def RJ10 : String := "java/lang/System"
def TJ10 : u_T := fun k => match k with
  | _ => ("", "", "", false)
def tyJ10 : Nat → FieldType := fun k => match k with
  | _ => .int
abbrev wsJ100 : List Cond := u_ws RJ10 TJ10 0
theorem nmJ10 : ∀ a, a < 0 → ∀ b, b < 0 → a ≠ b → (TJ10 a).2.1 ≠ (TJ10 b).2.1 := by decide +kernel
theorem tyJ10_ok : ∀ k, k < 0 → parseFieldDescriptor (TJ10 k).2.2.1 = some (tyJ10 k) := by decide +kernel
def RJ7 : String := "java/util/Arrays"
def TJ7 : u_T := fun k => match k with
  | _ => ("", "", "", false)
def tyJ7 : Nat → FieldType := fun k => match k with
  | _ => .int
abbrev wsJ70 : List Cond := u_ws RJ7 TJ7 0
theorem nmJ7 : ∀ a, a < 0 → ∀ b, b < 0 → a ≠ b → (TJ7 a).2.1 ≠ (TJ7 b).2.1 := by decide +kernel
theorem tyJ7_ok : ∀ k, k < 0 → parseFieldDescriptor (TJ7 k).2.2.1 = some (tyJ7 k) := by decide +kernel
abbrev cJ7_fill_53178 : ByteArray := prog_21_method_103_code
def yJ7_fill_53178 : MethodName := ⟨RJ7, "fill", "([II)V"⟩
def RL : String := "FrameReelLaw"
abbrev cL_pixel : ByteArray := method_3_code
def yL_pixel : MethodName := ⟨RL, "pixel", "(LFrameReel;II[J)I"⟩
abbrev cL_law : ByteArray := code
def yL_law : MethodName := ⟨RL, "law", "([I)Z"⟩
def wsL_law0_r1 : List Cond := [Cond.classLink RL 8 RX11, Cond.instantiable RX11 6, Cond.initialized RX11, Cond.classLink RL 16 RX12, Cond.instantiable RX12 32, Cond.initialized RX12, Cond.arrayClass .long, Cond.methodLink RL 15 yX11_init, Cond.instanceMethod yX11_init, Cond.code yX11_init cX11_init 2 none, Cond.methodLink RX11 1 objectInit, Cond.instanceMethod objectInit, Cond.code objectInit ⟨#[0xb1]⟩ 1 none, Cond.classLink RX11 7 RX8, Cond.instantiable RX8 1, Cond.initialized RX8, Cond.classLink RX11 10 RX1, Cond.instantiable RX1 2, Cond.initialized RX1, Cond.fieldLink RX11 17 "FrameReel" "tape" "LFrameReel$Bytes;", Cond.classLink RX11 21 RX4, Cond.instantiable RX4 11, Cond.initialized RX4, Cond.fieldLink RX11 26 "FrameReel" "reader" "LFrameReel$Reader;"]
def wsL_law0_r2 : List Cond := [Cond.classLink RX11 30 RX10, Cond.instantiable RX10 4, Cond.initialized RX10, Cond.fieldLink RX11 35 "FrameReel" "writer" "LFrameReel$Writer;", Cond.classLink RX11 39 RX7, Cond.instantiable RX7 4, Cond.initialized RX7, Cond.fieldLink RX11 42 "FrameReel" "screen" "LFrameReel$Screen;", Cond.classLink RX11 46 RX5, Cond.instantiable RX5 8, Cond.initialized RX5, Cond.fieldLink RX11 49 "FrameReel" "reel" "LFrameReel$Reel;", Cond.fieldLink RX11 53 "FrameReel" "faultPlace" "I", Cond.methodLink RX11 9 yX8_init, Cond.instanceMethod yX8_init, Cond.code yX8_init cX8_init 4 none, Cond.methodLink RX8 1 objectInit, Cond.arrayClass .int, Cond.fieldLink RX8 7 "FrameReel$Sums" "table" "[I", Cond.constant RX8 13 (-306674912), Cond.methodLink RX11 14 yX1_init, Cond.instanceMethod yX1_init, Cond.code yX1_init cX1_init 2 none, Cond.methodLink RX1 3 objectInit]
def wsL_law0_r3 : List Cond := [Cond.arrayClass .byte, Cond.fieldLink RX1 9 "FrameReel$Bytes" "cells" "[B", Cond.methodLink RX11 23 yX4_init, Cond.instanceMethod yX4_init, Cond.code yX4_init cX4_init 3 none, Cond.methodLink RX4 3 objectInit, Cond.classLink RX4 9 RX9, Cond.instantiable RX9 9, Cond.initialized RX9, Cond.fieldLink RX4 12 "FrameReel$Reader" "unpacker" "LFrameReel$Unpacker;", Cond.classLink RX4 18 RX5, Cond.fieldLink RX4 21 "FrameReel$Reader" "reel" "LFrameReel$Reel;", Cond.fieldLink RX4 29 "FrameReel$Reader" "picture" "LFrameReel$Picture;", Cond.fieldLink RX4 32 "FrameReel$Reader" "tape" "LFrameReel$Bytes;", Cond.fieldLink RX4 36 "FrameReel$Reader" "sums" "LFrameReel$Sums;", Cond.instanceMethod yX9_init, Cond.code yX9_init cX9_init 1 none, Cond.methodLink RX9 3 objectInit, Cond.classLink RX9 9 RX1, Cond.fieldLink RX9 14 "FrameReel$Unpacker" "packed" "LFrameReel$Bytes;", Cond.fieldLink RX9 20 "FrameReel$Unpacker" "raw" "LFrameReel$Bytes;", Cond.classLink RX9 23 RX0, Cond.instantiable RX0 2, Cond.initialized RX0]
def wsL_law0_r4 : List Cond := [Cond.fieldLink RX9 28 "FrameReel$Unpacker" "bits" "LFrameReel$Bits;", Cond.classLink RX9 32 RX2, Cond.instantiable RX2 4, Cond.initialized RX2, Cond.fieldLink RX9 35 "FrameReel$Unpacker" "tellers" "LFrameReel$Codes;", Cond.fieldLink RX9 39 "FrameReel$Unpacker" "symbols" "LFrameReel$Codes;", Cond.fieldLink RX9 42 "FrameReel$Unpacker" "distances" "LFrameReel$Codes;", Cond.fieldLink RX9 45 "FrameReel$Unpacker" "lengths" "[I", Cond.methodLink RX9 11 yX1_init, Cond.methodLink RX9 25 yX0_init, Cond.instanceMethod yX0_init, Cond.code yX0_init cX0_init 2 none, Cond.methodLink RX0 3 objectInit, Cond.fieldLink RX0 9 "FrameReel$Bits" "source" "LFrameReel$Bytes;", Cond.instanceMethod yX2_init, Cond.code yX2_init cX2_init 1 none, Cond.methodLink RX2 3 objectInit, Cond.fieldLink RX2 11 "FrameReel$Codes" "counts" "[I", Cond.fieldLink RX2 15 "FrameReel$Codes" "starts" "[I", Cond.fieldLink RX2 18 "FrameReel$Codes" "symbols" "[I", Cond.methodLink RX4 20 yX5_init, Cond.instanceMethod yX5_init, Cond.code yX5_init cX5_init 2 none, Cond.methodLink RX5 3 objectInit]
def wsL_law0_r5 : List Cond := [Cond.classLink RX5 9 RX3, Cond.fieldLink RX5 11 "FrameReel$Reel" "frames" "[LFrameReel$Picture;", Cond.instantiable RX3 7, Cond.initialized RX3, Cond.fieldLink RX5 18 "FrameReel$Reel" "own" "LFrameReel$Picture;", Cond.instanceMethod yX3_init, Cond.code yX3_init cX3_init 1 none, Cond.methodLink RX3 3 objectInit, Cond.fieldLink RX3 9 "FrameReel$Picture" "pixels" "[I", Cond.methodLink RX11 32 yX10_init, Cond.instanceMethod yX10_init, Cond.code yX10_init cX10_init 2 none, Cond.methodLink RX10 3 objectInit, Cond.classLink RX10 9 RX1, Cond.fieldLink RX10 14 "FrameReel$Writer" "file" "LFrameReel$Bytes;", Cond.fieldLink RX10 20 "FrameReel$Writer" "sums" "LFrameReel$Sums;", Cond.methodLink RX10 11 yX1_init, Cond.instanceMethod yX7_init, Cond.code yX7_init cX7_init 1 none, Cond.methodLink RX7 3 objectInit, Cond.fieldLink RX7 9 "FrameReel$Screen" "pixels" "[I", Cond.fieldLink RX7 15 "FrameReel$Screen" "saved" "[I", Cond.methodLink RX11 48 yX5_init, Cond.methodLink RL 18 yX12_init]
def wsL_law0_r6 : List Cond := [Cond.instanceMethod yX12_init, Cond.code yX12_init cX12_init 1 none, Cond.methodLink RX12 1 objectInit, Cond.fieldLink RX12 7 "FrameReelModel" "tape" "[B", Cond.fieldLink RX12 13 "FrameReelModel" "place" "I", Cond.fieldLink RX12 17 "FrameReelModel" "about" "[I", Cond.fieldLink RX12 21 "FrameReelModel" "regions" "[I", Cond.fieldLink RX12 24 "FrameReelModel" "pixels" "[I", Cond.fieldLink RX12 27 "FrameReelModel" "canvas" "[I", Cond.fieldLink RX12 30 "FrameReelModel" "before" "[I", Cond.fieldLink RX12 33 "FrameReelModel" "out" "[B", Cond.fieldLink RX12 36 "FrameReelModel" "pack" "[B", Cond.fieldLink RX12 39 "FrameReelModel" "made" "[B", Cond.fieldLink RX12 42 "FrameReelModel" "lengths" "[I", Cond.fieldLink RX12 45 "FrameReelModel" "codes" "[I", Cond.fieldLink RX12 48 "FrameReelModel" "taped" "I", Cond.methodLink RL 19 yX11_type, Cond.instanceMethod yX11_type, Cond.selects RX11 yX11_type yX11_type, Cond.code yX11_type cX11_type 4 (some .int), Cond.methodLink RX11 57 yX1_fits, Cond.instanceMethod yX1_fits, Cond.selects RX1 yX1_fits yX1_fits, Cond.code yX1_fits cX1_fits 2 (some .boolean)]
def wsL_law0_r7 : List Cond := [Cond.fieldLink RX1 15 "FrameReel$Bytes" "size" "I", Cond.methodLink RX11 61 yX1_add, Cond.instanceMethod yX1_add, Cond.selects RX1 yX1_add yX1_add, Cond.code yX1_add cX1_add 2 none, Cond.methodLink RL 22 yX12_type, Cond.instanceMethod yX12_type, Cond.selects RX12 yX12_type yX12_type, Cond.code yX12_type cX12_type 4 (some .int), Cond.fieldLink RX12 51 "FrameReelModel" "thrown" "I", Cond.methodLink RL 23 yX11_words, Cond.instanceMethod yX11_words, Cond.selects RX11 yX11_words yX11_words, Cond.code yX11_words cX11_words 5 (some .int), Cond.methodLink RX11 67 yX1_addNumber, Cond.instanceMethod yX1_addNumber, Cond.selects RX1 yX1_addNumber yX1_addNumber, Cond.code yX1_addNumber cX1_addNumber 2 none, Cond.methodLink RX1 19 yX1_add, Cond.methodLink RL 27 yX12_words, Cond.instanceMethod yX12_words, Cond.selects RX12 yX12_words yX12_words, Cond.code yX12_words cX12_words 5 (some .int), Cond.methodLink RX12 54 yX12_type]
def wsL_law0_r8 : List Cond := [Cond.methodLink RL 28 yX11_read, Cond.instanceMethod yX11_read, Cond.selects RX11 yX11_read yX11_read, Cond.code yX11_read cX11_read 2 (some .int), Cond.methodLink RX11 70 yX4_run, Cond.instanceMethod yX4_run, Cond.selects RX4 yX4_run yX4_run, Cond.code yX4_run cX4_run 3 (some .int), Cond.fieldLink RX4 40 "FrameReel$Reader" "before" "I", Cond.fieldLink RX4 44 "FrameReel$Reader" "serial" "I", Cond.fieldLink RX4 47 "FrameReel$Reader" "told" "I", Cond.fieldLink RX4 50 "FrameReel$Reader" "hasData" "Z", Cond.fieldLink RX4 58 "FrameReel$Reader" "at" "I", Cond.constant RX4 61 (1229278788), Cond.fieldLink RX4 66 "FrameReel$Reader" "faultPlace" "I", Cond.methodLink RX4 54 yX4_startsAsFile, Cond.instanceMethod yX4_startsAsFile, Cond.selects RX4 yX4_startsAsFile yX4_startsAsFile, Cond.code yX4_startsAsFile cX4_startsAsFile 3 (some .boolean), Cond.constant RX4 74 (-1991225785), Cond.constant RX4 75 (218765834), Cond.methodLink RX4 76 yX1_at, Cond.instanceMethod yX1_at, Cond.selects RX1 yX1_at yX1_at]
def wsL_law0_r9 : List Cond := [Cond.code yX1_at cX1_at 2 (some .int), Cond.methodLink RX4 62 yX4_chunkFault, Cond.instanceMethod yX4_chunkFault, Cond.selects RX4 yX4_chunkFault yX4_chunkFault, Cond.code yX4_chunkFault cX4_chunkFault 5 (some .int), Cond.constant RX4 88 (1229209940), Cond.constant RX4 89 (1717846356), Cond.methodLink RX4 79 yX1_number, Cond.instanceMethod yX1_number, Cond.selects RX1 yX1_number yX1_number, Cond.code yX1_number cX1_number 2 (some .int), Cond.methodLink RX4 82 yX8_ofChunk, Cond.instanceMethod yX8_ofChunk, Cond.selects RX8 yX8_ofChunk yX8_ofChunk, Cond.code yX8_ofChunk cX8_ofChunk 6 (some .int), Cond.methodLink RX8 14 yX1_at, Cond.methodLink RX4 90 yX9_unpack, Cond.instanceMethod yX9_unpack, Cond.selects RX9 yX9_unpack yX9_unpack, Cond.code yX9_unpack cX9_unpack 6 (some .boolean), Cond.methodLink RX9 49 yX1_clear, Cond.instanceMethod yX1_clear, Cond.selects RX1 yX1_clear yX1_clear, Cond.code yX1_clear cX1_clear 1 none]
def wsL_law0_r10 : List Cond := [Cond.methodLink RX9 52 yX9_startsAsPacked, Cond.instanceMethod yX9_startsAsPacked, Cond.selects RX9 yX9_startsAsPacked yX9_startsAsPacked, Cond.code yX9_startsAsPacked cX9_startsAsPacked 2 (some .boolean), Cond.methodLink RX9 80 yX1_at, Cond.methodLink RX9 63 yX0_take, Cond.instanceMethod yX0_take, Cond.selects RX0 yX0_take yX0_take, Cond.code yX0_take cX0_take 4 (some .int), Cond.fieldLink RX0 21 "FrameReel$Bits" "at" "I", Cond.methodLink RX9 67 yX9_copyPlain, Cond.instanceMethod yX9_copyPlain, Cond.selects RX9 yX9_copyPlain yX9_copyPlain, Cond.code yX9_copyPlain cX9_copyPlain 4 (some .boolean), Cond.constant RX9 106 (65535), Cond.methodLink RX9 94 yX0_skipToByte, Cond.instanceMethod yX0_skipToByte, Cond.selects RX0 yX0_skipToByte yX0_skipToByte, Cond.code yX0_skipToByte cX0_skipToByte 1 none, Cond.methodLink RX9 107 yX1_fits, Cond.methodLink RX9 110 yX1_addPart, Cond.instanceMethod yX1_addPart, Cond.selects RX1 yX1_addPart yX1_addPart, Cond.code yX1_addPart cX1_addPart 5 none]
def wsL_law0_r11 : List Cond := [Cond.methodLink RX1 23 yX1_at, Cond.methodLink RX9 70 yX9_hasCodes, Cond.instanceMethod yX9_hasCodes, Cond.selects RX9 yX9_hasCodes yX9_hasCodes, Cond.code yX9_hasCodes cX9_hasCodes 2 (some .boolean), Cond.methodLink RX9 82 yX9_fixCodes, Cond.instanceMethod yX9_fixCodes, Cond.selects RX9 yX9_fixCodes yX9_fixCodes, Cond.code yX9_fixCodes cX9_fixCodes 2 none, Cond.methodLink RX9 114 yX2_build, Cond.instanceMethod yX2_build, Cond.selects RX2 yX2_build yX2_build, Cond.code yX2_build cX2_build 7 (some .int), Cond.fieldLink RX2 27 "FrameReel$Codes" "used" "I", Cond.methodLink RX2 21 yJ7_fill_53178, Cond.static yJ7_fill_53178, Cond.initialized RJ7, Cond.code yJ7_fill_53178 cJ7_fill_53178 4 none, Cond.methodLink RX9 85 yX9_takeTellers, Cond.instanceMethod yX9_takeTellers, Cond.selects RX9 yX9_takeTellers yX9_takeTellers, Cond.code yX9_takeTellers cX9_takeTellers 5 (some .boolean), Cond.fieldLink RX9 118 "FrameReel$Unpacker" "symbolCount" "I", Cond.fieldLink RX9 121 "FrameReel$Unpacker" "distanceCount" "I"]
def wsL_law0_r12 : List Cond := [Cond.fieldLink RX9 130 "FrameReel$Unpacker" "TELLER_ORDER" "[I", Cond.methodLink RX9 124 yJ7_fill_53178, Cond.methodLink RX9 88 yX9_takeLengths, Cond.instanceMethod yX9_takeLengths, Cond.selects RX9 yX9_takeLengths yX9_takeLengths, Cond.code yX9_takeLengths cX9_takeLengths 10 (some .boolean), Cond.fieldLink RX9 137 "FrameReel$Unpacker" "REPEAT_BITS" "[I", Cond.fieldLink RX9 140 "FrameReel$Unpacker" "REPEAT_BASES" "[I", Cond.methodLink RX9 133 yX0_symbol, Cond.instanceMethod yX0_symbol, Cond.selects RX0 yX0_symbol yX0_symbol, Cond.code yX0_symbol cX0_symbol 8 (some .int), Cond.methodLink RX9 91 yX9_buildCodes, Cond.instanceMethod yX9_buildCodes, Cond.selects RX9 yX9_buildCodes yX9_buildCodes, Cond.code yX9_buildCodes cX9_buildCodes 2 (some .boolean), Cond.methodLink RX9 143 yX2_isNoneOrOneBit, Cond.instanceMethod yX2_isNoneOrOneBit, Cond.selects RX2 yX2_isNoneOrOneBit yX2_isNoneOrOneBit, Cond.code yX2_isNoneOrOneBit cX2_isNoneOrOneBit 1 (some .boolean), Cond.methodLink RX9 74 yX9_unpackCoded, Cond.instanceMethod yX9_unpackCoded, Cond.selects RX9 yX9_unpackCoded yX9_unpackCoded, Cond.code yX9_unpackCoded cX9_unpackCoded 3 (some .boolean)]
def wsL_law0_r13 : List Cond := [Cond.methodLink RX9 146 yX1_add, Cond.methodLink RX9 149 yX9_copyMatch, Cond.instanceMethod yX9_copyMatch, Cond.selects RX9 yX9_copyMatch yX9_copyMatch, Cond.code yX9_copyMatch cX9_copyMatch 8 (some .boolean), Cond.fieldLink RX9 152 "FrameReel$Unpacker" "LENGTH_BASES" "[I", Cond.fieldLink RX9 155 "FrameReel$Unpacker" "LENGTH_BITS" "[I", Cond.fieldLink RX9 158 "FrameReel$Unpacker" "DISTANCE_BASES" "[I", Cond.fieldLink RX9 161 "FrameReel$Unpacker" "DISTANCE_BITS" "[I", Cond.methodLink RX9 77 yX9_endsWithSum, Cond.instanceMethod yX9_endsWithSum, Cond.selects RX9 yX9_endsWithSum yX9_endsWithSum, Cond.code yX9_endsWithSum cX9_endsWithSum 2 (some .boolean), Cond.methodLink RX9 97 yX1_number, Cond.methodLink RX9 100 yX8_ofRaw, Cond.static yX8_ofRaw, Cond.code yX8_ofRaw cX8_ofRaw 6 (some .int), Cond.constant RX8 20 (65521), Cond.methodLink RX4 96 yX6_fill, Cond.static yX6_fill, Cond.initialized RX6, Cond.code yX6_fill cX6_fill 6 (some .boolean), Cond.methodLink RX6 21 yX1_at, Cond.methodLink RX6 25 yX6_unfilter]
def wsL_law0_r14 : List Cond := [Cond.static yX6_unfilter, Cond.code yX6_unfilter cX6_unfilter 10 none, Cond.methodLink RX6 42 yX6_guess, Cond.static yX6_guess, Cond.code yX6_guess cX6_guess 4 (some .int), Cond.methodLink RX6 46 yX6_nearest, Cond.static yX6_nearest, Cond.code yX6_nearest cX6_nearest 6 (some .int), Cond.methodLink RX6 50 Lib.Math.abs.name, Cond.static Lib.Math.abs.name, Cond.initialized "java/lang/Math", Cond.code Lib.Math.abs.name Lib.Math.abs.code 1 (some .int), Cond.methodLink RX6 35 yX1_number, Cond.methodLink RX4 102 yX4_takesChunk, Cond.instanceMethod yX4_takesChunk, Cond.selects RX4 yX4_takesChunk yX4_takesChunk, Cond.code yX4_takesChunk cX4_takesChunk 3 (some .boolean), Cond.constant RX4 106 (1229472850), Cond.constant RX4 123 (1717785676), Cond.methodLink RX4 107 yX4_takesHead, Cond.instanceMethod yX4_takesHead, Cond.selects RX4 yX4_takesHead yX4_takesHead, Cond.code yX4_takesHead cX4_takesHead 4 (some .boolean), Cond.methodLink RX4 130 yX5_start]
def wsL_law0_r15 : List Cond := [Cond.instanceMethod yX5_start, Cond.selects RX5 yX5_start yX5_start, Cond.code yX5_start cX5_start 3 none, Cond.fieldLink RX5 22 "FrameReel$Reel" "there" "Z", Cond.fieldLink RX5 26 "FrameReel$Reel" "firstIsDefault" "Z", Cond.fieldLink RX5 29 "FrameReel$Reel" "width" "I", Cond.fieldLink RX5 33 "FrameReel$Reel" "height" "I", Cond.fieldLink RX5 38 "FrameReel$Reel" "count" "I", Cond.methodLink RX4 111 yX4_takesCounts, Cond.instanceMethod yX4_takesCounts, Cond.selects RX4 yX4_takesCounts yX4_takesCounts, Cond.code yX4_takesCounts cX4_takesCounts 3 (some .boolean), Cond.methodLink RX4 114 yX4_takesControl, Cond.instanceMethod yX4_takesControl, Cond.selects RX4 yX4_takesControl yX4_takesControl, Cond.code yX4_takesControl cX4_takesControl 8 (some .boolean), Cond.methodLink RX4 137 yX4_takesSerial, Cond.instanceMethod yX4_takesSerial, Cond.selects RX4 yX4_takesSerial yX4_takesSerial, Cond.code yX4_takesSerial cX4_takesSerial 3 (some .boolean), Cond.methodLink RX4 140 yX5_allows, Cond.instanceMethod yX5_allows, Cond.selects RX5 yX5_allows yX5_allows, Cond.code yX5_allows cX5_allows 7 (some .boolean)]
def wsL_law0_r16 : List Cond := [Cond.methodLink RX4 144 yX5_add, Cond.instanceMethod yX5_add, Cond.selects RX5 yX5_add yX5_add, Cond.code yX5_add cX5_add 8 none, Cond.methodLink RX4 151 yX5_firstIsCanvas, Cond.instanceMethod yX5_firstIsCanvas, Cond.selects RX5 yX5_firstIsCanvas yX5_firstIsCanvas, Cond.code yX5_firstIsCanvas cX5_firstIsCanvas 1 (some .boolean), Cond.methodLink RX4 117 yX4_takesDefaultData, Cond.instanceMethod yX4_takesDefaultData, Cond.selects RX4 yX4_takesDefaultData yX4_takesDefaultData, Cond.code yX4_takesDefaultData cX4_takesDefaultData 2 (some .boolean), Cond.methodLink RX4 154 yX5_defaultPicture, Cond.instanceMethod yX5_defaultPicture, Cond.selects RX5 yX5_defaultPicture yX5_defaultPicture, Cond.code yX5_defaultPicture cX5_defaultPicture 1 (some (.object "FrameReel$Picture")), Cond.methodLink RX4 161 yX1_clear, Cond.methodLink RX4 164 yX1_addPart, Cond.methodLink RX4 120 yX4_takesFrameData, Cond.instanceMethod yX4_takesFrameData, Cond.selects RX4 yX4_takesFrameData yX4_takesFrameData, Cond.code yX4_takesFrameData cX4_takesFrameData 2 (some .boolean), Cond.methodLink RX4 127 yX4_mayBeLeftOut, Cond.instanceMethod yX4_mayBeLeftOut]
def wsL_law0_r17 : List Cond := [Cond.selects RX4 yX4_mayBeLeftOut yX4_mayBeLeftOut, Cond.code yX4_mayBeLeftOut cX4_mayBeLeftOut 5 (some .boolean), Cond.methodLink RX11 74 yX1_clear, Cond.methodLink RX11 78 yX4_exchange, Cond.instanceMethod yX4_exchange, Cond.selects RX4 yX4_exchange yX4_exchange, Cond.code yX4_exchange cX4_exchange 3 (some (.object "FrameReel$Reel")), Cond.methodLink RX11 82 yX7_forget, Cond.instanceMethod yX7_forget, Cond.selects RX7 yX7_forget yX7_forget, Cond.code yX7_forget cX7_forget 1 none, Cond.fieldLink RX7 18 "FrameReel$Screen" "width" "I", Cond.fieldLink RX7 22 "FrameReel$Screen" "height" "I", Cond.methodLink RL 32 yX12_read, Cond.instanceMethod yX12_read, Cond.selects RX12 yX12_read yX12_read, Cond.code yX12_read cX12_read 3 (some .int), Cond.fieldLink RX12 160 "FrameReelModel" "firstIs" "Z", Cond.fieldLink RX12 219 "FrameReelModel" "shown" "Z", Cond.methodLink RX12 216 yX12_readAll, Cond.instanceMethod yX12_readAll, Cond.selects RX12 yX12_readAll yX12_readAll, Cond.code yX12_readAll cX12_readAll 9 (some .int), Cond.fieldLink RX12 137 "FrameReelModel" "hasActl" "Z"]
def wsL_law0_r18 : List Cond := [Cond.fieldLink RX12 146 "FrameReelModel" "fctls" "I", Cond.fieldLink RX12 143 "FrameReelModel" "wants" "I", Cond.fieldLink RX12 149 "FrameReelModel" "serial" "I", Cond.fieldLink RX12 140 "FrameReelModel" "hasIdat" "Z", Cond.fieldLink RX12 183 "FrameReelModel" "idatOver" "Z", Cond.fieldLink RX12 166 "FrameReelModel" "open" "I", Cond.fieldLink RX12 163 "FrameReelModel" "waits" "Z", Cond.methodLink RX12 58 yX12_byteAt, Cond.instanceMethod yX12_byteAt, Cond.selects RX12 yX12_byteAt yX12_byteAt, Cond.code yX12_byteAt cX12_byteAt 2 (some .int), Cond.methodLink RX12 200 yX12_mark, Cond.static yX12_mark, Cond.code yX12_mark cX12_mark 1 (some .int), Cond.methodLink RX12 134 yX12_number, Cond.instanceMethod yX12_number, Cond.selects RX12 yX12_number yX12_number, Cond.code yX12_number cX12_number 2 (some .int), Cond.methodLink RX12 203 yX12_nextSum, Cond.static yX12_nextSum, Cond.code yX12_nextSum cX12_nextSum 4 (some .int), Cond.constant RX12 62 (-306674912), Cond.methodLink RX12 180 yX12_isType, Cond.instanceMethod yX12_isType]
def wsL_law0_r19 : List Cond := [Cond.selects RX12 yX12_isType yX12_isType, Cond.code yX12_isType cX12_isType 6 (some .boolean), Cond.methodLink RX12 206 yX12_finishPicture, Cond.instanceMethod yX12_finishPicture, Cond.selects RX12 yX12_finishPicture yX12_finishPicture, Cond.code yX12_finishPicture cX12_finishPicture 4 (some .int), Cond.methodLink RX12 169 yX12_unpack, Cond.instanceMethod yX12_unpack, Cond.selects RX12 yX12_unpack yX12_unpack, Cond.code yX12_unpack cX12_unpack 7 (some .boolean), Cond.fieldLink RX12 63 "FrameReelModel" "at" "I", Cond.fieldLink RX12 73 "FrameReelModel" "bit" "I", Cond.fieldLink RX12 66 "FrameReelModel" "packed" "I", Cond.fieldLink RX12 69 "FrameReelModel" "bad" "Z", Cond.fieldLink RX12 76 "FrameReelModel" "madeSize" "I", Cond.constant RX12 129 (65521), Cond.methodLink RX12 80 yX12_bits, Cond.instanceMethod yX12_bits, Cond.selects RX12 yX12_bits yX12_bits, Cond.code yX12_bits cX12_bits 4 (some .int), Cond.methodLink RX12 120 yX12_plain, Cond.instanceMethod yX12_plain, Cond.selects RX12 yX12_plain yX12_plain, Cond.code yX12_plain cX12_plain 5 none]
def wsL_law0_r20 : List Cond := [Cond.constant RX12 109 (65535), Cond.methodLink RX12 106 yX12_evenOut, Cond.instanceMethod yX12_evenOut, Cond.selects RX12 yX12_evenOut yX12_evenOut, Cond.code yX12_evenOut cX12_evenOut 1 none, Cond.methodLink RX12 98 yX12_emit, Cond.instanceMethod yX12_emit, Cond.selects RX12 yX12_emit yX12_emit, Cond.code yX12_emit cX12_emit 2 none, Cond.methodLink RX12 123 yX12_fixed, Cond.instanceMethod yX12_fixed, Cond.selects RX12 yX12_fixed yX12_fixed, Cond.code yX12_fixed cX12_fixed 2 none, Cond.methodLink RX12 110 yX12_makeCodes, Cond.instanceMethod yX12_makeCodes, Cond.selects RX12 yX12_makeCodes yX12_makeCodes, Cond.code yX12_makeCodes cX12_makeCodes 9 none, Cond.constant RX12 79 (32768), Cond.methodLink RX12 114 yX12_coded, Cond.instanceMethod yX12_coded, Cond.selects RX12 yX12_coded yX12_coded, Cond.code yX12_coded cX12_coded 5 none, Cond.methodLink RX12 92 yX12_symbol, Cond.instanceMethod yX12_symbol]
def wsL_law0_r21 : List Cond := [Cond.selects RX12 yX12_symbol yX12_symbol, Cond.code yX12_symbol cX12_symbol 6 (some .int), Cond.methodLink RX12 102 yX12_match, Cond.instanceMethod yX12_match, Cond.selects RX12 yX12_match yX12_match, Cond.code yX12_match cX12_match 7 none, Cond.methodLink RX12 89 yX12_lengthBase, Cond.static yX12_lengthBase, Cond.code yX12_lengthBase cX12_lengthBase 3 (some .int), Cond.methodLink RX12 83 yX12_lengthBits, Cond.static yX12_lengthBits, Cond.code yX12_lengthBits cX12_lengthBits 1 (some .int), Cond.methodLink RX12 95 yX12_distanceBase, Cond.static yX12_distanceBase, Cond.code yX12_distanceBase cX12_distanceBase 3 (some .int), Cond.methodLink RX12 86 yX12_distanceBits, Cond.static yX12_distanceBits, Cond.code yX12_distanceBits cX12_distanceBits 1 (some .int), Cond.methodLink RX12 126 yX12_told, Cond.instanceMethod yX12_told, Cond.selects RX12 yX12_told yX12_told, Cond.code yX12_told cX12_told 10 none, Cond.methodLink RX12 117 yX12_orderOf, Cond.static yX12_orderOf]
def wsL_law0_r22 : List Cond := [Cond.code yX12_orderOf cX12_orderOf 1 (some .int), Cond.methodLink RX12 173 yX12_region, Cond.instanceMethod yX12_region, Cond.selects RX12 yX12_region yX12_region, Cond.code yX12_region cX12_region 4 (some .int), Cond.methodLink RX12 176 yX12_unfilter, Cond.instanceMethod yX12_unfilter, Cond.selects RX12 yX12_unfilter yX12_unfilter, Cond.code yX12_unfilter cX12_unfilter 12 (some .boolean), Cond.methodLink RX12 130 yX12_nearest, Cond.static yX12_nearest, Cond.code yX12_nearest cX12_nearest 7 (some .int), Cond.methodLink RX12 210 yX12_takeHead, Cond.instanceMethod yX12_takeHead, Cond.selects RX12 yX12_takeHead yX12_takeHead, Cond.code yX12_takeHead cX12_takeHead 5 (some .boolean), Cond.methodLink RX12 213 yX12_takeChunk, Cond.instanceMethod yX12_takeChunk, Cond.selects RX12 yX12_takeChunk yX12_takeChunk, Cond.code yX12_takeChunk cX12_takeChunk 7 (some .boolean), Cond.methodLink RX12 186 yX12_append, Cond.instanceMethod yX12_append, Cond.selects RX12 yX12_append yX12_append, Cond.code yX12_append cX12_append 4 none]
def wsL_law0_r23 : List Cond := [Cond.methodLink RX12 189 yX12_takeCount, Cond.instanceMethod yX12_takeCount, Cond.selects RX12 yX12_takeCount yX12_takeCount, Cond.code yX12_takeCount cX12_takeCount 3 (some .boolean), Cond.methodLink RX12 193 yX12_takeControl, Cond.instanceMethod yX12_takeControl, Cond.selects RX12 yX12_takeControl yX12_takeControl, Cond.code yX12_takeControl cX12_takeControl 9 (some .boolean), Cond.methodLink RX12 152 yX12_isRegion, Cond.instanceMethod yX12_isRegion, Cond.selects RX12 yX12_isRegion yX12_isRegion, Cond.code yX12_isRegion cX12_isRegion 8 (some .boolean), Cond.methodLink RX12 156 yX12_setRegion, Cond.instanceMethod yX12_setRegion, Cond.selects RX12 yX12_setRegion yX12_setRegion, Cond.code yX12_setRegion cX12_setRegion 10 none, Cond.methodLink RX12 196 yX12_isLetter, Cond.static yX12_isLetter, Cond.code yX12_isLetter cX12_isLetter 1 (some .boolean), Cond.methodLink RL 33 yX11_place, Cond.instanceMethod yX11_place, Cond.selects RX11 yX11_place yX11_place, Cond.code yX11_place cX11_place 1 (some .int), Cond.methodLink RL 36 yX12_place]
def wsL_law0_r24 : List Cond := [Cond.instanceMethod yX12_place, Cond.selects RX12 yX12_place yX12_place, Cond.code yX12_place cX12_place 1 (some .int), Cond.methodLink RL 37 yX11_begin, Cond.instanceMethod yX11_begin, Cond.selects RX11 yX11_begin yX11_begin, Cond.code yX11_begin cX11_begin 4 (some .int), Cond.methodLink RX11 88 yX5_start, Cond.methodLink RX11 99 yX3_clear, Cond.instanceMethod yX3_clear, Cond.selects RX3 yX3_clear yX3_clear, Cond.code yX3_clear cX3_clear 1 none, Cond.methodLink RX3 15 yJ7_fill_53178, Cond.methodLink RL 41 yX12_begin, Cond.instanceMethod yX12_begin, Cond.selects RX12 yX12_begin yX12_begin, Cond.code yX12_begin cX12_begin 4 (some .int), Cond.methodLink RX12 222 yX12_wipe, Cond.instanceMethod yX12_wipe, Cond.selects RX12 yX12_wipe yX12_wipe, Cond.code yX12_wipe cX12_wipe 3 none, Cond.methodLink RL 42 yX11_frame, Cond.instanceMethod yX11_frame, Cond.selects RX11 yX11_frame yX11_frame]
def wsL_law0_r25 : List Cond := [Cond.code yX11_frame cX11_frame 7 (some .int), Cond.methodLink RX11 106 yX5_allows, Cond.methodLink RX11 110 yX5_add, Cond.methodLink RL 46 yX12_frame, Cond.instanceMethod yX12_frame, Cond.selects RX12 yX12_frame yX12_frame, Cond.code yX12_frame cX12_frame 7 (some .int), Cond.methodLink RL 47 yX11_paint, Cond.instanceMethod yX11_paint, Cond.selects RX11 yX11_paint yX11_paint, Cond.code yX11_paint cX11_paint 6 (some .int), Cond.methodLink RX11 117 yX11_paintable, Cond.instanceMethod yX11_paintable, Cond.selects RX11 yX11_paintable yX11_paintable, Cond.code yX11_paintable cX11_paintable 2 (some (.object "FrameReel$Picture")), Cond.methodLink RX11 131 yX5_hasFrame, Cond.instanceMethod yX5_hasFrame, Cond.selects RX5 yX5_hasFrame yX5_hasFrame, Cond.code yX5_hasFrame cX5_hasFrame 2 (some .boolean), Cond.methodLink RL 50 yX12_paint, Cond.instanceMethod yX12_paint, Cond.selects RX12 yX12_paint yX12_paint, Cond.code yX12_paint cX12_paint 8 (some .int), Cond.methodLink RL 51 yX11_first]
def wsL_law0_r26 : List Cond := [Cond.instanceMethod yX11_first, Cond.selects RX11 yX11_first yX11_first, Cond.code yX11_first cX11_first 2 (some .int), Cond.methodLink RX11 137 yX5_firstIsCanvas, Cond.methodLink RL 55 yX12_first, Cond.instanceMethod yX12_first, Cond.selects RX12 yX12_first yX12_first, Cond.code yX12_first cX12_first 2 (some .int), Cond.methodLink RL 56 yX11_about, Cond.instanceMethod yX11_about, Cond.selects RX11 yX11_about yX11_about, Cond.code yX11_about cX11_about 3 (some .int), Cond.methodLink RX11 141 yX5_fact, Cond.instanceMethod yX5_fact, Cond.selects RX5 yX5_fact yX5_fact, Cond.code yX5_fact cX5_fact 2 (some .int), Cond.fieldLink RX5 53 "FrameReel$Reel" "plays" "I", Cond.methodLink RX11 145 yX3_fact, Cond.instanceMethod yX3_fact, Cond.selects RX3 yX3_fact yX3_fact, Cond.code yX3_fact cX3_fact 2 (some .int), Cond.fieldLink RX3 21 "FrameReel$Picture" "width" "I", Cond.fieldLink RX3 25 "FrameReel$Picture" "height" "I", Cond.fieldLink RX3 28 "FrameReel$Picture" "x" "I"]
def wsL_law0_r27 : List Cond := [Cond.fieldLink RX3 31 "FrameReel$Picture" "y" "I", Cond.fieldLink RX3 34 "FrameReel$Picture" "dispose" "I", Cond.fieldLink RX3 37 "FrameReel$Picture" "blend" "I", Cond.methodLink RL 59 yX12_about, Cond.instanceMethod yX12_about, Cond.selects RX12 yX12_about yX12_about, Cond.code yX12_about cX12_about 3 (some .int), Cond.methodLink RL 60 yX11_show, Cond.instanceMethod yX11_show, Cond.selects RX11 yX11_show yX11_show, Cond.code yX11_show cX11_show 2 (some .int), Cond.methodLink RX11 146 yX7_compose, Cond.instanceMethod yX7_compose, Cond.selects RX7 yX7_compose yX7_compose, Cond.code yX7_compose cX7_compose 5 none, Cond.methodLink RX7 30 arraycopyName, Cond.native arraycopyName, Cond.static arraycopyName, Cond.initialized "java/lang/System", Cond.methodLink RX7 40 yJ7_fill_53178, Cond.methodLink RX7 50 yX7_draw, Cond.instanceMethod yX7_draw, Cond.selects RX7 yX7_draw yX7_draw, Cond.code yX7_draw cX7_draw 6 none]
def wsL_law0_r28 : List Cond := [Cond.methodLink RX7 66 yX7_blended, Cond.static yX7_blended, Cond.code yX7_blended cX7_blended 9 (some .int), Cond.methodLink RX7 54 yX7_dispose, Cond.instanceMethod yX7_dispose, Cond.selects RX7 yX7_dispose yX7_dispose, Cond.code yX7_dispose cX7_dispose 5 none, Cond.methodLink RX11 150 yX5_defaultPicture, Cond.methodLink RX11 154 yX7_copy, Cond.instanceMethod yX7_copy, Cond.selects RX7 yX7_copy yX7_copy, Cond.code yX7_copy cX7_copy 2 none, Cond.methodLink RL 64 yX12_show, Cond.instanceMethod yX12_show, Cond.selects RX12 yX12_show yX12_show, Cond.code yX12_show cX12_show 4 (some .int), Cond.fieldLink RX12 225 "FrameReelModel" "shownWidth" "I", Cond.fieldLink RX12 231 "FrameReelModel" "shownHeight" "I", Cond.methodLink RX12 234 yX12_lay, Cond.instanceMethod yX12_lay, Cond.selects RX12 yX12_lay yX12_lay, Cond.code yX12_lay cX12_lay 7 none, Cond.methodLink RX12 228 yX12_over, Cond.static yX12_over]
def wsL_law0_r29 : List Cond := [Cond.code yX12_over cX12_over 8 (some .int), Cond.methodLink RX12 237 yX12_dispose, Cond.instanceMethod yX12_dispose, Cond.selects RX12 yX12_dispose yX12_dispose, Cond.code yX12_dispose cX12_dispose 7 none, Cond.methodLink RL 65 yL_pixel, Cond.static yL_pixel, Cond.initialized RL, Cond.codeWith yL_pixel cL_pixel 5 (some .int) [(0, 10, 13, 13)], Cond.classLink RL 13 "java/lang/IndexOutOfBoundsException", Cond.methodLink RL 7 yX11_pixel, Cond.instanceMethod yX11_pixel, Cond.selects RX11 yX11_pixel yX11_pixel, Cond.code yX11_pixel cX11_pixel 3 (some .int), Cond.classLink RX11 162 "java/lang/IndexOutOfBoundsException", Cond.initialized "java/lang/IndexOutOfBoundsException", Cond.methodLink RX11 158 yX7_has, Cond.instanceMethod yX7_has, Cond.selects RX7 yX7_has yX7_has, Cond.code yX7_has cX7_has 3 (some .boolean), Cond.methodLink RL 70 yX12_pixel, Cond.instanceMethod yX12_pixel, Cond.selects RX12 yX12_pixel yX12_pixel, Cond.code yX12_pixel cX12_pixel 3 (some .int)]
def wsL_law0_r30 : List Cond := [Cond.methodLink RL 71 yX12_thrown, Cond.instanceMethod yX12_thrown, Cond.selects RX12 yX12_thrown yX12_thrown, Cond.code yX12_thrown cX12_thrown 1 (some .int), Cond.methodLink RL 74 yX11_write, Cond.instanceMethod yX11_write, Cond.selects RX11 yX11_write yX11_write, Cond.code yX11_write cX11_write 1 (some .int), Cond.methodLink RX11 167 yX10_run, Cond.instanceMethod yX10_run, Cond.selects RX10 yX10_run yX10_run, Cond.code yX10_run cX10_run 3 none, Cond.fieldLink RX10 27 "FrameReel$Writer" "serial" "I", Cond.constant RX10 31 (-1991225785), Cond.constant RX10 35 (218765834), Cond.constant RX10 40 (1633899596), Cond.constant RX10 78 (1229278788), Cond.methodLink RX10 24 yX1_clear, Cond.methodLink RX10 32 yX1_addNumber, Cond.methodLink RX10 36 yX10_addHead, Cond.instanceMethod yX10_addHead, Cond.selects RX10 yX10_addHead yX10_addHead, Cond.code yX10_addHead cX10_addHead 2 none, Cond.constant RX10 91 (1229472850)]
def wsL_law0_r31 : List Cond := [Cond.constant RX10 98 (134610944), Cond.methodLink RX10 41 yX10_openChunk, Cond.instanceMethod yX10_openChunk, Cond.selects RX10 yX10_openChunk yX10_openChunk, Cond.code yX10_openChunk cX10_openChunk 3 none, Cond.fieldLink RX10 82 "FrameReel$Writer" "typeAt" "I", Cond.methodLink RX10 99 yX1_add, Cond.methodLink RX10 53 yX10_closeChunk, Cond.instanceMethod yX10_closeChunk, Cond.selects RX10 yX10_closeChunk yX10_closeChunk, Cond.code yX10_closeChunk cX10_closeChunk 1 none, Cond.methodLink RX10 85 yX8_ofChunk, Cond.methodLink RX10 64 yX10_addControl, Cond.instanceMethod yX10_addControl, Cond.selects RX10 yX10_addControl yX10_addControl, Cond.code yX10_addControl cX10_addControl 2 none, Cond.constant RX10 102 (1717785676), Cond.constant RX10 116 (65546), Cond.methodLink RX10 103 yX10_addSerial, Cond.instanceMethod yX10_addSerial, Cond.selects RX10 yX10_addSerial yX10_addSerial, Cond.code yX10_addSerial cX10_addSerial 1 none, Cond.methodLink RX10 68 yX5_defaultPicture, Cond.methodLink RX10 72 yX10_addDefaultData]
def wsL_law0_r32 : List Cond := [Cond.instanceMethod yX10_addDefaultData, Cond.selects RX10 yX10_addDefaultData yX10_addDefaultData, Cond.code yX10_addDefaultData cX10_addDefaultData 2 none, Cond.constant RX10 127 (1229209940), Cond.methodLink RX10 123 yX10_rawSize, Cond.static yX10_rawSize, Cond.code yX10_rawSize cX10_rawSize 1 (some .int), Cond.methodLink RX10 128 yX10_addPacked, Cond.instanceMethod yX10_addPacked, Cond.selects RX10 yX10_addPacked yX10_addPacked, Cond.code yX10_addPacked cX10_addPacked 6 none, Cond.methodLink RX10 138 yX8_ofRaw, Cond.methodLink RX10 75 yX10_addFrameData, Cond.instanceMethod yX10_addFrameData, Cond.selects RX10 yX10_addFrameData yX10_addFrameData, Cond.code yX10_addFrameData cX10_addFrameData 2 none, Cond.constant RX10 131 (1717846356), Cond.methodLink RL 77 yX12_write, Cond.instanceMethod yX12_write, Cond.selects RX12 yX12_write yX12_write, Cond.code yX12_write cX12_write 4 (some .int), Cond.fieldLink RX12 240 "FrameReelModel" "outSize" "I", Cond.methodLink RX12 243 yX12_put, Cond.instanceMethod yX12_put]
def wsL_law0_r33 : List Cond := [Cond.selects RX12 yX12_put yX12_put, Cond.code yX12_put cX12_put 2 none, Cond.methodLink RX12 249 yX12_beginChunk, Cond.instanceMethod yX12_beginChunk, Cond.selects RX12 yX12_beginChunk yX12_beginChunk, Cond.code yX12_beginChunk cX12_beginChunk 6 (some .int), Cond.methodLink RX12 246 yX12_putNumber, Cond.instanceMethod yX12_putNumber, Cond.selects RX12 yX12_putNumber yX12_putNumber, Cond.code yX12_putNumber cX12_putNumber 2 none, Cond.methodLink RX12 253 yX12_endChunk, Cond.instanceMethod yX12_endChunk, Cond.selects RX12 yX12_endChunk yX12_endChunk, Cond.code yX12_endChunk cX12_endChunk 5 none, Cond.methodLink RX12 256 yX12_putControl, Cond.instanceMethod yX12_putControl, Cond.selects RX12 yX12_putControl yX12_putControl, Cond.code yX12_putControl cX12_putControl 5 none, Cond.methodLink RX12 259 yX12_putPicture, Cond.instanceMethod yX12_putPicture, Cond.selects RX12 yX12_putPicture yX12_putPicture, Cond.code yX12_putPicture cX12_putPicture 9 none, Cond.methodLink RL 78 yX11_out, Cond.instanceMethod yX11_out]
def wsL_law0_r34 : List Cond := [Cond.selects RX11 yX11_out yX11_out, Cond.code yX11_out cX11_out 2 (some .int), Cond.methodLink RX11 173 yX1_at, Cond.methodLink RL 81 yX12_out, Cond.instanceMethod yX12_out, Cond.selects RX12 yX12_out yX12_out, Cond.code yX12_out cX12_out 2 (some .int)]
def wsL_law0 : List Cond := (wsL_law0_r1 ++ (wsL_law0_r2 ++ (wsL_law0_r3 ++ (wsL_law0_r4 ++ (wsL_law0_r5 ++ (wsL_law0_r6 ++ (wsL_law0_r7 ++ (wsL_law0_r8 ++ (wsL_law0_r9 ++ (wsL_law0_r10 ++ (wsL_law0_r11 ++ (wsL_law0_r12 ++ (wsL_law0_r13 ++ (wsL_law0_r14 ++ (wsL_law0_r15 ++ (wsL_law0_r16 ++ (wsL_law0_r17 ++ (wsL_law0_r18 ++ (wsL_law0_r19 ++ (wsL_law0_r20 ++ (wsL_law0_r21 ++ (wsL_law0_r22 ++ (wsL_law0_r23 ++ (wsL_law0_r24 ++ (wsL_law0_r25 ++ (wsL_law0_r26 ++ (wsL_law0_r27 ++ (wsL_law0_r28 ++ (wsL_law0_r29 ++ (wsL_law0_r30 ++ (wsL_law0_r31 ++ (wsL_law0_r32 ++ (wsL_law0_r33 ++ wsL_law0_r34))))))))))))))))))))))))))))))))) ++ wsX110 ++ wsX120 ++ wsX80 ++ wsX10 ++ wsX40 ++ wsX100 ++ wsX70 ++ wsX50 ++ wsX90 ++ wsX00 ++ wsX20 ++ wsX30 ++ ([] : List Cond)
theorem zinX0 : ∀ w ∈ wsX00, w ∈ wsL_law0 := fun _ h => List.mem_append_left _ (List.mem_append_left _ (List.mem_append_left _ (List.mem_append_right _ h)))
theorem zinX1 : ∀ w ∈ wsX10, w ∈ wsL_law0 := fun _ h => List.mem_append_left _ (List.mem_append_left _ (List.mem_append_left _ (List.mem_append_left _ (List.mem_append_left _ (List.mem_append_left _ (List.mem_append_left _ (List.mem_append_left _ (List.mem_append_left _ (List.mem_append_right _ h)))))))))
theorem zinX2 : ∀ w ∈ wsX20, w ∈ wsL_law0 := fun _ h => List.mem_append_left _ (List.mem_append_left _ (List.mem_append_right _ h))
theorem zinX3 : ∀ w ∈ wsX30, w ∈ wsL_law0 := fun _ h => List.mem_append_left _ (List.mem_append_right _ h)
theorem zinX4 : ∀ w ∈ wsX40, w ∈ wsL_law0 := fun _ h => List.mem_append_left _ (List.mem_append_left _ (List.mem_append_left _ (List.mem_append_left _ (List.mem_append_left _ (List.mem_append_left _ (List.mem_append_left _ (List.mem_append_left _ (List.mem_append_right _ h))))))))
theorem zinX5 : ∀ w ∈ wsX50, w ∈ wsL_law0 := fun _ h => List.mem_append_left _ (List.mem_append_left _ (List.mem_append_left _ (List.mem_append_left _ (List.mem_append_left _ (List.mem_append_right _ h)))))
theorem zinX7 : ∀ w ∈ wsX70, w ∈ wsL_law0 := fun _ h => List.mem_append_left _ (List.mem_append_left _ (List.mem_append_left _ (List.mem_append_left _ (List.mem_append_left _ (List.mem_append_left _ (List.mem_append_right _ h))))))
theorem zinX8 : ∀ w ∈ wsX80, w ∈ wsL_law0 := fun _ h => List.mem_append_left _ (List.mem_append_left _ (List.mem_append_left _ (List.mem_append_left _ (List.mem_append_left _ (List.mem_append_left _ (List.mem_append_left _ (List.mem_append_left _ (List.mem_append_left _ (List.mem_append_left _ (List.mem_append_right _ h))))))))))
theorem zinX9 : ∀ w ∈ wsX90, w ∈ wsL_law0 := fun _ h => List.mem_append_left _ (List.mem_append_left _ (List.mem_append_left _ (List.mem_append_left _ (List.mem_append_right _ h))))
theorem zinX10 : ∀ w ∈ wsX100, w ∈ wsL_law0 := fun _ h => List.mem_append_left _ (List.mem_append_left _ (List.mem_append_left _ (List.mem_append_left _ (List.mem_append_left _ (List.mem_append_left _ (List.mem_append_left _ (List.mem_append_right _ h)))))))
theorem zinX11 : ∀ w ∈ wsX110, w ∈ wsL_law0 := fun _ h => List.mem_append_left _ (List.mem_append_left _ (List.mem_append_left _ (List.mem_append_left _ (List.mem_append_left _ (List.mem_append_left _ (List.mem_append_left _ (List.mem_append_left _ (List.mem_append_left _ (List.mem_append_left _ (List.mem_append_left _ (List.mem_append_left _ (List.mem_append_right _ h))))))))))))
theorem zinX12 : ∀ w ∈ wsX120, w ∈ wsL_law0 := fun _ h => List.mem_append_left _ (List.mem_append_left _ (List.mem_append_left _ (List.mem_append_left _ (List.mem_append_left _ (List.mem_append_left _ (List.mem_append_left _ (List.mem_append_left _ (List.mem_append_left _ (List.mem_append_left _ (List.mem_append_left _ (List.mem_append_right _ h)))))))))))
abbrev vwCl : List vw_C := [(RX0, TX0, 2), (RX1, TX1, 2), (RX2, TX2, 4), (RX3, TX3, 7), (RX4, TX4, 11), (RX5, TX5, 8), (RX7, TX7, 4), (RX8, TX8, 1), (RX9, TX9, 9), (RX10, TX10, 4), (RX11, TX11, 6), (RX12, TX12, 32)]
def znf : List (String × Nat × String × String × String × String) := [("FrameReel$Bits", 24, "FrameReel$Bytes", "cells", "[B", "FrameReel"), ("FrameReel$Rows", 38, "FrameReel$Bytes", "cells", "[B", "FrameReel"), ("FrameReel$Bits", 15, "FrameReel$Bytes", "size", "I", "FrameReel"), ("FrameReel$Rows", 13, "FrameReel$Bytes", "size", "I", "FrameReel"), ("FrameReel$Unpacker", 60, "FrameReel$Bytes", "size", "I", "FrameReel"), ("FrameReel", 64, "FrameReel$Bytes", "size", "I", "FrameReel"), ("FrameReel$Writer", 79, "FrameReel$Bytes", "size", "I", "FrameReel"), ("FrameReel$Reader", 69, "FrameReel$Bytes", "size", "I", "FrameReel"), ("FrameReel$Unpacker", 56, "FrameReel$Bits", "at", "I", "FrameReel"), ("FrameReel$Bits", 30, "FrameReel$Codes", "counts", "[I", "FrameReel"), ("FrameReel$Bits", 34, "FrameReel$Codes", "symbols", "[I", "FrameReel"), ("FrameReel$Reader", 158, "FrameReel$Unpacker", "packed", "LFrameReel$Bytes;", "FrameReel"), ("FrameReel$Reader", 93, "FrameReel$Unpacker", "raw", "LFrameReel$Bytes;", "FrameReel"), ("FrameReel$Rows", 31, "FrameReel$Picture", "pixels", "[I", "FrameReel"), ("FrameReel$Screen", 29, "FrameReel$Picture", "pixels", "[I", "FrameReel"), ("FrameReel", 127, "FrameReel$Picture", "pixels", "[I", "FrameReel"), ("FrameReel$Writer", 134, "FrameReel$Picture", "pixels", "[I", "FrameReel"), ("FrameReel$Rows", 7, "FrameReel$Picture", "width", "I", "FrameReel"), ("FrameReel$Reel", 36, "FrameReel$Picture", "width", "I", "FrameReel"), ("FrameReel$Screen", 25, "FrameReel$Picture", "width", "I", "FrameReel"), ("FrameReel$Writer", 106, "FrameReel$Picture", "width", "I", "FrameReel"), ("FrameReel", 121, "FrameReel$Picture", "width", "I", "FrameReel"), ("FrameReel$Rows", 18, "FrameReel$Picture", "height", "I", "FrameReel"), ("FrameReel$Reel", 37, "FrameReel$Picture", "height", "I", "FrameReel"), ("FrameReel$Screen", 28, "FrameReel$Picture", "height", "I", "FrameReel"), ("FrameReel$Writer", 109, "FrameReel$Picture", "height", "I", "FrameReel"), ("FrameReel", 124, "FrameReel$Picture", "height", "I", "FrameReel"), ("FrameReel$Reel", 41, "FrameReel$Picture", "x", "I", "FrameReel"), ("FrameReel$Screen", 60, "FrameReel$Picture", "x", "I", "FrameReel"), ("FrameReel$Writer", 110, "FrameReel$Picture", "x", "I", "FrameReel"), ("FrameReel$Reel", 44, "FrameReel$Picture", "y", "I", "FrameReel"), ("FrameReel$Screen", 57, "FrameReel$Picture", "y", "I", "FrameReel"), ("FrameReel$Writer", 113, "FrameReel$Picture", "y", "I", "FrameReel"), ("FrameReel$Reel", 47, "FrameReel$Picture", "dispose", "I", "FrameReel"), ("FrameReel$Screen", 70, "FrameReel$Picture", "dispose", "I", "FrameReel"), ("FrameReel$Writer", 117, "FrameReel$Picture", "dispose", "I", "FrameReel"), ("FrameReel$Reel", 50, "FrameReel$Picture", "blend", "I", "FrameReel"), ("FrameReel$Screen", 63, "FrameReel$Picture", "blend", "I", "FrameReel"), ("FrameReel$Writer", 120, "FrameReel$Picture", "blend", "I", "FrameReel"), ("FrameReel$Writer", 60, "FrameReel$Reel", "frames", "[LFrameReel$Picture;", "FrameReel"), ("FrameReel$Screen", 46, "FrameReel$Reel", "frames", "[LFrameReel$Picture;", "FrameReel"), ("FrameReel", 113, "FrameReel$Reel", "frames", "[LFrameReel$Picture;", "FrameReel"), ("FrameReel$Reader", 168, "FrameReel$Reel", "frames", "[LFrameReel$Picture;", "FrameReel"), ("FrameReel$Reader", 25, "FrameReel$Reel", "own", "LFrameReel$Picture;", "FrameReel"), ("FrameReel", 95, "FrameReel$Reel", "own", "LFrameReel$Picture;", "FrameReel"), ("FrameReel", 102, "FrameReel$Reel", "there", "Z", "FrameReel"), ("FrameReel$Writer", 56, "FrameReel$Reel", "firstIsDefault", "Z", "FrameReel"), ("FrameReel", 134, "FrameReel$Reel", "firstIsDefault", "Z", "FrameReel"), ("FrameReel$Reader", 148, "FrameReel$Reel", "firstIsDefault", "Z", "FrameReel"), ("FrameReel$Screen", 36, "FrameReel$Reel", "width", "I", "FrameReel"), ("FrameReel$Writer", 92, "FrameReel$Reel", "width", "I", "FrameReel"), ("FrameReel$Screen", 39, "FrameReel$Reel", "height", "I", "FrameReel"), ("FrameReel$Writer", 95, "FrameReel$Reel", "height", "I", "FrameReel"), ("FrameReel$Writer", 50, "FrameReel$Reel", "plays", "I", "FrameReel"), ("FrameReel", 92, "FrameReel$Reel", "plays", "I", "FrameReel"), ("FrameReel$Reader", 134, "FrameReel$Reel", "plays", "I", "FrameReel"), ("FrameReel$Writer", 45, "FrameReel$Reel", "count", "I", "FrameReel"), ("FrameReel", 85, "FrameReel$Reel", "count", "I", "FrameReel"), ("FrameReel$Reader", 124, "FrameReel$Reel", "count", "I", "FrameReel"), ("FrameReel", 77, "FrameReel$Reader", "faultPlace", "I", "FrameReel"), ("FrameReel", 170, "FrameReel$Writer", "file", "LFrameReel$Bytes;", "FrameReel"), ("FrameReel", 165, "FrameReel$Screen", "pixels", "[I", "FrameReel"), ("FrameReel", 166, "FrameReel$Screen", "width", "I", "FrameReel")]
def znm : List (String × Nat × MethodName × String) := [("FrameReel$Reader", 11, ⟨"FrameReel$Unpacker", "<init>", "()V"⟩, "FrameReel"), ("FrameReel$Unpacker", 34, ⟨"FrameReel$Codes", "<init>", "()V"⟩, "FrameReel"), ("FrameReel$Reel", 17, ⟨"FrameReel$Picture", "<init>", "()V"⟩, "FrameReel"), ("FrameReel", 41, ⟨"FrameReel$Screen", "<init>", "()V"⟩, "FrameReel")]
end
section
/-! THE STATE: what the cells hold, as functions of the address. Kinds: 0 nothing of ours; 1 + ci an object of class ci of vwCl; 20 bytes, 21 ints, 22 references to pictures, 23 longs. -/
abbrev zS : Type := (Nat → Nat) × (Nat → Nat) × (Nat → Nat → Int32) × (Nat → Nat → Option Nat) × (Nat → Nat → Int64) × Nat
def zk (σ : zS) : Nat → Nat := σ.1
def zn (σ : zS) : Nat → Nat := σ.2.1
def zi (σ : zS) : Nat → Nat → Int32 := σ.2.2.1
def zr (σ : zS) : Nat → Nat → Option Nat := σ.2.2.2.1
def zl (σ : zS) : Nat → Nat → Int64 := σ.2.2.2.2.1
def zx (σ : zS) : Nat := σ.2.2.2.2.2
def zup {α : Type} (f : Nat → Nat → α) (a k : Nat) (v : α) : Nat → Nat → α := fun b j => if b = a ∧ j = k then v else f b j
def zuI (σ : zS) (a k : Nat) (v : Int32) : zS := (σ.1, σ.2.1, zup σ.2.2.1 a k v, σ.2.2.2)
def zuR (σ : zS) (a k : Nat) (v : Option Nat) : zS := (σ.1, σ.2.1, σ.2.2.1, zup σ.2.2.2.1 a k v, σ.2.2.2.2)
def zuL (σ : zS) (a k : Nat) (v : Int64) : zS := (σ.1, σ.2.1, σ.2.2.1, σ.2.2.2.1, zup σ.2.2.2.2.1 a k v, σ.2.2.2.2.2)
/-- a new cell of kind q with n places -/
def zuN (σ : zS) (q n : Nat) : zS := (va_up σ.1 σ.2.2.2.2.2 q, va_up σ.2.1 σ.2.2.2.2.2 n, (fun b j => if b = σ.2.2.2.2.2 then 0 else σ.2.2.1 b j), (fun b j => if b = σ.2.2.2.2.2 then none else σ.2.2.2.1 b j), (fun b j => if b = σ.2.2.2.2.2 then 0 else σ.2.2.2.2.1 b j), σ.2.2.2.2.2 + 1)
def zref (t : FieldType) : Bool := match t with
  | .object _ => true
  | .array _ => true
  | _ => false
def zty (ci : Nat) : Nat → FieldType := match ci with
  | 0 => tyX0
  | 1 => tyX1
  | 2 => tyX2
  | 3 => tyX3
  | 4 => tyX4
  | 5 => tyX5
  | 6 => tyX7
  | 7 => tyX8
  | 8 => tyX9
  | 9 => tyX10
  | 10 => tyX11
  | _ => tyX12
def zV (σ : zS) (ci a k : Nat) : Value := if zref (zty ci k) = true then va_rf (zr σ a k) else .int (zi σ a k)
abbrev zCs : Type := ClassId × ClassId × ClassId × ClassId
def zrep (D : va_G) (cs : zCs) (z0 : Nat) (σ : zS) (H : Heap) : Prop :=
  H.size = zx σ ∧ z0 ≤ zx σ ∧ (∀ a, zk σ a ≠ 0 → z0 ≤ a ∧ a < zx σ) ∧
  (∀ (ci : Nat) (q : vw_C), vwCl[ci]? = some q → ∀ a, zk σ a = ci + 1 → t_OB a (D.1 ci) q.2.2 (D.2 ci) H (zV σ ci a)) ∧
  (∀ a, zk σ a = 20 → H[a]? = some (arrV cs.1 (zn σ a) (fun j => .int (zi σ a j)))) ∧
  (∀ a, zk σ a = 21 → H[a]? = some (arrV cs.2.1 (zn σ a) (fun j => .int (zi σ a j)))) ∧
  (∀ a, zk σ a = 22 → H[a]? = some (arrV cs.2.2.1 (zn σ a) (fun j => va_rf (zr σ a j)))) ∧
  (∀ a, zk σ a = 23 → H[a]? = some (arrV cs.2.2.2 (zn σ a) (fun j => .long (zl σ a j))))
/-- the tables of Unpacker -/
def zt0 : List Int32 := [16, 17, 18, 0, 8, 7, 9, 6, 10, 5, 11, 4, 12, 3, 13, 2, 14, 1, 15]
def zt1 : List Int32 := [1, 3, 3, 11]
def zt2 : List Int32 := [0, 2, 3, 7]
def zt3 : List Int32 := [3, 4, 5, 6, 7, 8, 9, 10, 11, 13, 15, 17, 19, 23, 27, 31, 35, 43, 51, 59, 67, 83, 99, 115, 131, 163, 195, 227, 258]
def zt4 : List Int32 := [0, 0, 0, 0, 0, 0, 0, 0, 1, 1, 1, 1, 2, 2, 2, 2, 3, 3, 3, 3, 4, 4, 4, 4, 5, 5, 5, 5, 0]
def zt5 : List Int32 := [1, 2, 3, 4, 5, 7, 9, 13, 17, 25, 33, 49, 65, 97, 129, 193, 257, 385, 513, 769, 1025, 1537, 2049, 3073, 4097, 6145, 8193, 12289, 16385, 24577]
def zt6 : List Int32 := [0, 0, 0, 0, 1, 1, 2, 2, 3, 3, 4, 4, 5, 5, 6, 6, 7, 7, 8, 8, 9, 9, 10, 10, 11, 11, 12, 12, 13, 13]
def ztabs : List (String × List Int32) := [("TELLER_ORDER", zt0), ("REPEAT_BASES", zt1), ("REPEAT_BITS", zt2), ("LENGTH_BASES", zt3), ("LENGTH_BITS", zt4), ("DISTANCE_BASES", zt5), ("DISTANCE_BITS", zt6)]
def zst (A : Nat → Prop) (U : State) (H : Heap) : Prop := ∀ q ∈ ztabs, ∃ t : Nat, va_Z "FrameReel$Unpacker" q.1 "[I" (.ref t) A U H ∧ va_T .int t q.2.length (fun j => .int (q.2.getD j 0)) A U H
/-- what the tables say: classes, array classes, nest mates, static tables -/
def zK (D : va_G) (cs : zCs) (z0 : Nat) (U : State) : Prop :=
  va_K D vwCl [(cs.1, .byte), (cs.2.1, .int), (cs.2.2.1, .object "FrameReel$Picture"), (cs.2.2.2, .long)] U ∧
  (∀ f ∈ znf, va_Nw (.fieldLinkNest f.1 f.2.1 f.2.2.1 f.2.2.2.1 f.2.2.2.2.1 f.2.2.2.2.2) U) ∧ (∀ f ∈ znm, va_Nw (.methodLinkNest f.1 f.2.1 f.2.2.1 f.2.2.2) U) ∧ zst (fun q => z0 ≤ q) U U.heap ∧ z0 ≤ U.heap.size
theorem zK_moved {D : va_G} {cs : zCs} {z0 : Nat} {s U : State} (h : zK D cs z0 s) (hW : s.WarmedH U.vm) (hsz : s.heap.size ≤ U.heap.size) (hq : ∀ q : Nat, q < s.heap.size → ¬ z0 ≤ q → U.heap[q]? = s.heap[q]?) : zK D cs z0 U := by
  obtain ⟨h1, h2, h3, h4, h5⟩ := h
  refine ⟨va_K.moved hW.alike h1, fun f hf => va_Nw.warmF hW (h2 f hf), fun f hf => va_Nw.warmM hW (h3 f hf), fun q hm => ?_, Nat.le_trans h5 hsz⟩
  obtain ⟨t, a, b⟩ := h4 q hm
  exact ⟨t, (a.moved hW.alike).kept hq, (b.moved hW.alike).kept hq⟩
/-- the walk's surroundings -/
abbrev zG : Type := Program × Launch × Env × Room × State × MethodId × Array Value × List Frame × Method × Code × (State → Prop) × va_G × zCs × Nat
abbrev zgp (Γ : zG) : Program := Γ.1
abbrev zgl (Γ : zG) : Launch := Γ.2.1
abbrev zge (Γ : zG) : Env := Γ.2.2.1
abbrev zgR (Γ : zG) : Room := Γ.2.2.2.1
abbrev zgs (Γ : zG) : State := Γ.2.2.2.2.1
abbrev zgm (Γ : zG) : MethodId := Γ.2.2.2.2.2.1
abbrev zga (Γ : zG) : Array Value := Γ.2.2.2.2.2.2.1
abbrev zgb (Γ : zG) : List Frame := Γ.2.2.2.2.2.2.2.1
abbrev zgt (Γ : zG) : Method := Γ.2.2.2.2.2.2.2.2.1
abbrev zgc (Γ : zG) : Code := Γ.2.2.2.2.2.2.2.2.2.1
abbrev zgQ (Γ : zG) : State → Prop := Γ.2.2.2.2.2.2.2.2.2.2.1
abbrev zgD (Γ : zG) : va_G := Γ.2.2.2.2.2.2.2.2.2.2.2.1
abbrev zgC (Γ : zG) : zCs := Γ.2.2.2.2.2.2.2.2.2.2.2.2.1
abbrev zgz (Γ : zG) : Nat := Γ.2.2.2.2.2.2.2.2.2.2.2.2.2
abbrev zW (Γ : zG) (H : Heap) (locs : List Loc) (k n : Nat) (g : JFrame) : Prop := W (zgp Γ) (zgl Γ) (zge Γ) (zgR Γ) (zgs Γ) (zgm Γ) (zga Γ) (zgb Γ) (zgt Γ) (zgc Γ) H locs k n (zgQ Γ) g
/-- at pc, with this state, these locals and this stack, the machine comes to its end -/
def zJ (Γ : zG) (nL k n : Nat) (σ : zS) (pc : Nat) (lv : List (Nat × Value)) (st : List Value) : Prop :=
  ∀ (H : Heap) (locs : List Loc) (ls : Array Slot), zrep (zgD Γ) (zgC Γ) (zgz Γ) σ H → va_S (fun q => zgz Γ ≤ q) (zgs Γ).heap H locs → lv_has ls nL lv → zW Γ H locs k n (F0 (zgm Γ) pc ls st)
/-- what the walk knows -/
def zE (Γ : zG) (cc : ByteArray) (own : String) (nL : Nat) (rm : Room) : Prop :=
  (zgp Γ).tables.exec = Jvm.exec ∧ (zgc Γ).code = cc ∧ (zgs Γ).vm.findClass own = some (zgm Γ).cls ∧ (zgc Γ).maxLocals = nL ∧ (∀ w ∈ wsL_law0, w.before (zga Γ) (zgs Γ) = true) ∧ zK (zgD Γ) (zgC Γ) (zgz Γ) (zgs Γ) ∧ zgR Γ = rm
section ZE
variable {Γ : zG} {cc : ByteArray} {own : String} {nL : Nat} {rm : Room}
theorem zE.hx (E : zE Γ cc own nL rm) : (zgp Γ).tables.exec = Jvm.exec := E.1
theorem zE.hb (E : zE Γ cc own nL rm) : (zgc Γ).code = cc := E.2.1
theorem zE.ho (E : zE Γ cc own nL rm) : (zgs Γ).vm.findClass own = some (zgm Γ).cls := E.2.2.1
theorem zE.hm (E : zE Γ cc own nL rm) : (zgc Γ).maxLocals = nL := E.2.2.2.1
theorem zE.ht (E : zE Γ cc own nL rm) : ∀ w ∈ wsL_law0, w.before (zga Γ) (zgs Γ) = true := E.2.2.2.2.1
theorem zE.hK (E : zE Γ cc own nL rm) : zK (zgD Γ) (zgC Γ) (zgz Γ) (zgs Γ) := E.2.2.2.2.2.1
theorem zE.hR (E : zE Γ cc own nL rm) : zgR Γ = rm := E.2.2.2.2.2.2
end ZE
/-- a class's facts -/
def zC (ci : Nat) (C : String) (T : u_T) (N : Nat) : Prop := vwCl[ci]? = some (C, T, N) ∧ (∀ w ∈ u_ws C T N, w ∈ wsL_law0) ∧ (∀ k, k < N → parseFieldDescriptor (T k).2.2.1 = some (zty ci k)) ∧ (∀ a, a < N → ∀ b, b < N → a ≠ b → (T a).2.1 ≠ (T b).2.1)
theorem zc0 : zC 0 RX0 TX0 2 := ⟨rfl, zinX0, tyX0_ok, nmX0⟩
theorem zc1 : zC 1 RX1 TX1 2 := ⟨rfl, zinX1, tyX1_ok, nmX1⟩
theorem zc2 : zC 2 RX2 TX2 4 := ⟨rfl, zinX2, tyX2_ok, nmX2⟩
theorem zc3 : zC 3 RX3 TX3 7 := ⟨rfl, zinX3, tyX3_ok, nmX3⟩
theorem zc4 : zC 4 RX4 TX4 11 := ⟨rfl, zinX4, tyX4_ok, nmX4⟩
theorem zc5 : zC 5 RX5 TX5 8 := ⟨rfl, zinX5, tyX5_ok, nmX5⟩
theorem zc6 : zC 6 RX7 TX7 4 := ⟨rfl, zinX7, tyX7_ok, nmX7⟩
theorem zc7 : zC 7 RX8 TX8 1 := ⟨rfl, zinX8, tyX8_ok, nmX8⟩
theorem zc8 : zC 8 RX9 TX9 9 := ⟨rfl, zinX9, tyX9_ok, nmX9⟩
theorem zc9 : zC 9 RX10 TX10 4 := ⟨rfl, zinX10, tyX10_ok, nmX10⟩
theorem zc10 : zC 10 RX11 TX11 6 := ⟨rfl, zinX11, tyX11_ok, nmX11⟩
theorem zc11 : zC 11 RX12 TX12 32 := ⟨rfl, zinX12, tyX12_ok, nmX12⟩
end
section
section ZROWS
variable {Γ : zG} {cc : ByteArray} {own : String} {rm : Room} {nL k n pc : Nat} {σ : zS} {lv lv2 : List (Nat × Value)} {st : List Value}
theorem zj_iconst (E : zE Γ cc own nL rm) {c : Int} {v : Int32} (hd : decode cc pc = .ok (.iconst c, 1)) (hv : Int32.ofInt c = v) (kk : zJ Γ nL k n σ (pc + 1) lv (.int v :: st)) : zJ Γ nL k n σ pc lv st := fun H locs ls hP hS hl => lv_iconst E.hx E.hb hd hv (kk H locs ls hP hS hl)
theorem zj_bipush (E : zE Γ cc own nL rm) {c : Int} {v : Int32} (hd : decode cc pc = .ok (.bipush c, 2)) (hv : (Int8.ofInt c).toInt32 = v) (kk : zJ Γ nL k n σ (pc + 2) lv (.int v :: st)) : zJ Γ nL k n σ pc lv st := fun H locs ls hP hS hl => lv_bipush E.hx E.hb hd hv (kk H locs ls hP hS hl)
theorem zj_sipush (E : zE Γ cc own nL rm) {c : Int} {v : Int32} (hd : decode cc pc = .ok (.sipush c, 3)) (hv : (Int16.ofInt c).toInt32 = v) (kk : zJ Γ nL k n σ (pc + 3) lv (.int v :: st)) : zJ Γ nL k n σ pc lv st := fun H locs ls hP hS hl => lv_sipush E.hx E.hb hd hv (kk H locs ls hP hS hl)
theorem zj_ldc (E : zE Γ cc own nL rm) {i : Nat} {v : Int32} (hw : Cond.constant own i v ∈ wsL_law0) (hd : decode cc pc = .ok (.ldc i, 2)) (kk : zJ Γ nL k n σ (pc + 2) lv (.int v :: st)) : zJ Γ nL k n σ pc lv st := fun H locs ls hP hS hl => lv_ldc E.hx E.hb E.ho (E.ht _ hw) hd (kk H locs ls hP hS hl)
theorem zj_iload_n (E : zE Γ cc own nL rm) {f : Fin 4} {i : Nat} {x : Int32} (hd : decode cc pc = .ok (.iload_n f, 1)) (hi : (f : Nat) = i) (q : Nat) (hq : lv[q]? = some (i, .int x)) (kk : zJ Γ nL k n σ (pc + 1) lv (.int x :: st)) : zJ Γ nL k n σ pc lv st := fun H locs ls hP hS hl => lv_iload_n E.hx E.hb hd hi (lv_at hl q hq) (kk H locs ls hP hS hl)
theorem zj_iload (E : zE Γ cc own nL rm) {i : Nat} {x : Int32} (hd : decode cc pc = .ok (.iload i, 2)) (q : Nat) (hq : lv[q]? = some (i, .int x)) (kk : zJ Γ nL k n σ (pc + 2) lv (.int x :: st)) : zJ Γ nL k n σ pc lv st := fun H locs ls hP hS hl => lv_iload E.hx E.hb hd (lv_at hl q hq) (kk H locs ls hP hS hl)
theorem zj_aload_n (E : zE Γ cc own nL rm) {f : Fin 4} {i x : Nat} (hd : decode cc pc = .ok (.aload_n f, 1)) (hi : (f : Nat) = i) (q : Nat) (hq : lv[q]? = some (i, .ref x)) (kk : zJ Γ nL k n σ (pc + 1) lv (.ref x :: st)) : zJ Γ nL k n σ pc lv st := fun H locs ls hP hS hl => lv_aload_n E.hx E.hb hd hi (lv_at hl q hq) (kk H locs ls hP hS hl)
theorem zj_aload (E : zE Γ cc own nL rm) {i x : Nat} (hd : decode cc pc = .ok (.aload i, 2)) (q : Nat) (hq : lv[q]? = some (i, .ref x)) (kk : zJ Γ nL k n σ (pc + 2) lv (.ref x :: st)) : zJ Γ nL k n σ pc lv st := fun H locs ls hP hS hl => lv_aload E.hx E.hb hd (lv_at hl q hq) (kk H locs ls hP hS hl)
theorem zj_istore_n (E : zE Γ cc own nL rm) {i : Nat} {x : Int32} {f : Fin 4} (hd : decode cc pc = .ok (.istore_n f, 1)) (hi : (f : Nat) = i) (hn : i < nL) (hl2 : (i, Value.int x) :: lv.filter (fun q => !(q.1 == i) && !(q.1 + 1 == i && q.2.category == 2)) = lv2) (kk : zJ Γ nL k n σ (pc + 1) lv2 st) : zJ Γ nL k n σ pc lv (.int x :: st) := fun H locs ls hP hS hl => lv_istore_n E.hx E.hb hd hi hl hn hl2 (fun ls' h' => kk H locs ls' hP hS h')
theorem zj_astore_n (E : zE Γ cc own nL rm) {i x : Nat} {f : Fin 4} (hd : decode cc pc = .ok (.astore_n f, 1)) (hi : (f : Nat) = i) (hn : i < nL) (hl2 : (i, Value.ref x) :: lv.filter (fun q => !(q.1 == i) && !(q.1 + 1 == i && q.2.category == 2)) = lv2) (kk : zJ Γ nL k n σ (pc + 1) lv2 st) : zJ Γ nL k n σ pc lv (.ref x :: st) := fun H locs ls hP hS hl => lv_astore_n E.hx E.hb hd hi hl hn hl2 (fun ls' h' => kk H locs ls' hP hS h')
theorem zj_istore (E : zE Γ cc own nL rm) {i : Nat} {x : Int32} (hd : decode cc pc = .ok (.istore i, 2)) (hn : i < nL) (hl2 : (i, Value.int x) :: lv.filter (fun q => !(q.1 == i) && !(q.1 + 1 == i && q.2.category == 2)) = lv2) (kk : zJ Γ nL k n σ (pc + 2) lv2 st) : zJ Γ nL k n σ pc lv (.int x :: st) := fun H locs ls hP hS hl => lv_istore E.hx E.hb hd hl hn hl2 (fun ls' h' => kk H locs ls' hP hS h')
theorem zj_astore (E : zE Γ cc own nL rm) {i x : Nat} (hd : decode cc pc = .ok (.astore i, 2)) (hn : i < nL) (hl2 : (i, Value.ref x) :: lv.filter (fun q => !(q.1 == i) && !(q.1 + 1 == i && q.2.category == 2)) = lv2) (kk : zJ Γ nL k n σ (pc + 2) lv2 st) : zJ Γ nL k n σ pc lv (.ref x :: st) := fun H locs ls hP hS hl => lv_astore E.hx E.hb hd hl hn hl2 (fun ls' h' => kk H locs ls' hP hS h')
theorem zj_iinc (E : zE Γ cc own nL rm) {i : Nat} {c : Int} {x : Int32} (hd : decode cc pc = .ok (.iinc i c, 3)) (q : Nat) (hq : lv[q]? = some (i, .int x)) (v : Int32) (hv : v = x + Int32.ofInt c) (hn : i < nL) (hl2 : (i, Value.int v) :: lv.filter (fun q => !(q.1 == i) && !(q.1 + 1 == i && q.2.category == 2)) = lv2) (kk : zJ Γ nL k n σ (pc + 3) lv2 st) : zJ Γ nL k n σ pc lv st := fun H locs ls hP hS hl => lv_iinc E.hx E.hb hd hl hq hv.symm hn hl2 (fun ls' h' => kk H locs ls' hP hS h')
theorem zj_top {x : Int32} (y : Int32) (hy : y = x) (kk : zJ Γ nL k n σ pc lv (.int y :: st)) : zJ Γ nL k n σ pc lv (.int x :: st) := hy ▸ kk
theorem zj_lv (qs : List Nat) (h : lv_pick lv qs = lv2) (kk : zJ Γ nL k n σ pc lv2 st) : zJ Γ nL k n σ pc lv st := fun H locs ls hP hS hl => kk H locs ls hP hS (lv_sub hl qs h)
theorem zj_iadd (E : zE Γ cc own nL rm) {x y : Int32} (hd : decode cc pc = .ok (.iadd, 1)) (kk : zJ Γ nL k n σ (pc + 1) lv (.int (x + y) :: st)) : zJ Γ nL k n σ pc lv (.int y :: .int x :: st) := fun H locs ls hP hS hl => lv_iadd E.hx E.hb hd (kk H locs ls hP hS hl)
theorem zj_isub (E : zE Γ cc own nL rm) {x y : Int32} (hd : decode cc pc = .ok (.isub, 1)) (kk : zJ Γ nL k n σ (pc + 1) lv (.int (x - y) :: st)) : zJ Γ nL k n σ pc lv (.int y :: .int x :: st) := fun H locs ls hP hS hl => lv_isub E.hx E.hb hd (kk H locs ls hP hS hl)
theorem zj_imul (E : zE Γ cc own nL rm) {x y : Int32} (hd : decode cc pc = .ok (.imul, 1)) (kk : zJ Γ nL k n σ (pc + 1) lv (.int (x * y) :: st)) : zJ Γ nL k n σ pc lv (.int y :: .int x :: st) := fun H locs ls hP hS hl => lv_imul E.hx E.hb hd (kk H locs ls hP hS hl)
theorem zj_iand (E : zE Γ cc own nL rm) {x y : Int32} (hd : decode cc pc = .ok (.iand, 1)) (kk : zJ Γ nL k n σ (pc + 1) lv (.int (x &&& y) :: st)) : zJ Γ nL k n σ pc lv (.int y :: .int x :: st) := fun H locs ls hP hS hl => lv_iand E.hx E.hb hd (kk H locs ls hP hS hl)
theorem zj_ior (E : zE Γ cc own nL rm) {x y : Int32} (hd : decode cc pc = .ok (.ior, 1)) (kk : zJ Γ nL k n σ (pc + 1) lv (.int (x ||| y) :: st)) : zJ Γ nL k n σ pc lv (.int y :: .int x :: st) := fun H locs ls hP hS hl => lv_ior E.hx E.hb hd (kk H locs ls hP hS hl)
theorem zj_ixor (E : zE Γ cc own nL rm) {x y : Int32} (hd : decode cc pc = .ok (.ixor, 1)) (kk : zJ Γ nL k n σ (pc + 1) lv (.int (x ^^^ y) :: st)) : zJ Γ nL k n σ pc lv (.int y :: .int x :: st) := fun H locs ls hP hS hl => lv_ixor E.hx E.hb hd (kk H locs ls hP hS hl)
theorem zj_ishl (E : zE Γ cc own nL rm) {x y : Int32} (hd : decode cc pc = .ok (.ishl, 1)) (kk : zJ Γ nL k n σ (pc + 1) lv (.int (x <<< (y &&& 31)) :: st)) : zJ Γ nL k n σ pc lv (.int y :: .int x :: st) := fun H locs ls hP hS hl => lv_ishl E.hx E.hb hd (kk H locs ls hP hS hl)
theorem zj_ishr (E : zE Γ cc own nL rm) {x y : Int32} (hd : decode cc pc = .ok (.ishr, 1)) (kk : zJ Γ nL k n σ (pc + 1) lv (.int (x >>> (y &&& 31)) :: st)) : zJ Γ nL k n σ pc lv (.int y :: .int x :: st) := fun H locs ls hP hS hl => lv_ishr E.hx E.hb hd (kk H locs ls hP hS hl)
theorem zj_iushr (E : zE Γ cc own nL rm) {x y : Int32} (hd : decode cc pc = .ok (.iushr, 1)) (kk : zJ Γ nL k n σ (pc + 1) lv (.int ((x.toUInt32 >>> (y.toUInt32 &&& Int32.toUInt32 31)).toInt32) :: st)) : zJ Γ nL k n σ pc lv (.int y :: .int x :: st) := fun H locs ls hP hS hl => lv_iushr E.hx E.hb hd rfl (kk H locs ls hP hS hl)
theorem zj_idiv (E : zE Γ cc own nL rm) {x y : Int32} (hd : decode cc pc = .ok (.idiv, 1)) (hne : ¬ y = 0) (kk : zJ Γ nL k n σ (pc + 1) lv (.int (x / y) :: st)) : zJ Γ nL k n σ pc lv (.int y :: .int x :: st) := fun H locs ls hP hS hl => lv_idiv E.hx E.hb hd hne (kk H locs ls hP hS hl)
theorem zj_irem (E : zE Γ cc own nL rm) {x y : Int32} (hd : decode cc pc = .ok (.irem, 1)) (hne : ¬ y = 0) (kk : zJ Γ nL k n σ (pc + 1) lv (.int (x - x / y * y) :: st)) : zJ Γ nL k n σ pc lv (.int y :: .int x :: st) := fun H locs ls hP hS hl => lv_irem E.hx E.hb hd hne (kk H locs ls hP hS hl)
theorem zj_ineg (E : zE Γ cc own nL rm) {x : Int32} (hd : decode cc pc = .ok (.ineg, 1)) (kk : zJ Γ nL k n σ (pc + 1) lv (.int (-x) :: st)) : zJ Γ nL k n σ pc lv (.int x :: st) := fun H locs ls hP hS hl => lv_ineg E.hx E.hb hd (kk H locs ls hP hS hl)
theorem zj_i2b (E : zE Γ cc own nL rm) {x : Int32} (hd : decode cc pc = .ok (.i2b, 1)) (kk : zJ Γ nL k n σ (pc + 1) lv (.int (x.toInt8.toInt32) :: st)) : zJ Γ nL k n σ pc lv (.int x :: st) := fun H locs ls hP hS hl => lv_i2b E.hx E.hb hd rfl (kk H locs ls hP hS hl)
theorem zj_dup (E : zE Γ cc own nL rm) {a : Value} (hd : decode cc pc = .ok (.dup, 1)) (ha : a.category = 1) (kk : zJ Γ nL k n σ (pc + 1) lv (a :: a :: st)) : zJ Γ nL k n σ pc lv (a :: st) := fun H locs ls hP hS hl => lv_dup E.hx E.hb hd ha (kk H locs ls hP hS hl)
theorem zj_pop (E : zE Γ cc own nL rm) {a : Value} (hd : decode cc pc = .ok (.pop, 1)) (ha : a.category = 1) (kk : zJ Γ nL k n σ (pc + 1) lv st) : zJ Γ nL k n σ pc lv (a :: st) := fun H locs ls hP hS hl => lv_pop E.hx E.hb hd ha (kk H locs ls hP hS hl)
theorem zj_dup2 (E : zE Γ cc own nL rm) {a b : Value} (hd : decode cc pc = .ok (.dup2, 1)) (ha : a.category = 1) (hb : b.category = 1) (kk : zJ Γ nL k n σ (pc + 1) lv (a :: b :: a :: b :: st)) : zJ Γ nL k n σ pc lv (a :: b :: st) := fun H locs ls hP hS hl => lv_dup2_11 E.hx E.hb hd ha hb (kk H locs ls hP hS hl)
theorem zj_goto (E : zE Γ cc own nL rm) {off : Int} {tgt : Nat} (hd : decode cc pc = .ok (.goto off, 3)) (ht : (pc : Int) + off = (tgt : Int)) (kk : zJ Γ nL k n σ tgt lv st) : zJ Γ nL k n σ pc lv st := fun H locs ls hP hS hl => lv_goto E.hx E.hb hd ht (kk H locs ls hP hS hl)
theorem zj_if_eq (E : zE Γ cc own nL rm) {ρ : Type} {f g : Option ρ} {R : ρ} {x : Int32} {off : Int} {tgt : Nat} (hd : decode cc pc = .ok (.ifCond .eq off, 3)) (ht : (pc : Int) + off = (tgt : Int)) (h : (if x = 0 then f else g) = some R) (kt : f = some R → zJ Γ nL k n σ tgt lv st) (kf : g = some R → zJ Γ nL k n σ (pc + 3) lv st) : zJ Γ nL k n σ pc lv (.int x :: st) := fun H locs ls hP hS hl => lv_if_eq E.hx E.hb hd ht (fun c => kt (by rw [if_pos c] at h; exact h) H locs ls hP hS hl) (fun c => kf (by rw [if_neg c] at h; exact h) H locs ls hP hS hl)
theorem zj_if_ne (E : zE Γ cc own nL rm) {ρ : Type} {f g : Option ρ} {R : ρ} {x : Int32} {off : Int} {tgt : Nat} (hd : decode cc pc = .ok (.ifCond .ne off, 3)) (ht : (pc : Int) + off = (tgt : Int)) (h : (if x = 0 then g else f) = some R) (kt : f = some R → zJ Γ nL k n σ tgt lv st) (kf : g = some R → zJ Γ nL k n σ (pc + 3) lv st) : zJ Γ nL k n σ pc lv (.int x :: st) := fun H locs ls hP hS hl => lv_if_ne E.hx E.hb hd ht (fun c => kt (by rw [if_neg c] at h; exact h) H locs ls hP hS hl) (fun c => kf (by rw [if_pos c] at h; exact h) H locs ls hP hS hl)
theorem zj_if_lt (E : zE Γ cc own nL rm) {ρ : Type} {f g : Option ρ} {R : ρ} {x : Int32} {off : Int} {tgt : Nat} (hd : decode cc pc = .ok (.ifCond .lt off, 3)) (ht : (pc : Int) + off = (tgt : Int)) (h : (if x < 0 then f else g) = some R) (kt : f = some R → zJ Γ nL k n σ tgt lv st) (kf : g = some R → zJ Γ nL k n σ (pc + 3) lv st) : zJ Γ nL k n σ pc lv (.int x :: st) := fun H locs ls hP hS hl => lv_if_lt E.hx E.hb hd ht (fun c => kt (by rw [if_pos c] at h; exact h) H locs ls hP hS hl) (fun c => kf (by rw [if_neg c] at h; exact h) H locs ls hP hS hl)
theorem zj_if_ge (E : zE Γ cc own nL rm) {ρ : Type} {f g : Option ρ} {R : ρ} {x : Int32} {off : Int} {tgt : Nat} (hd : decode cc pc = .ok (.ifCond .ge off, 3)) (ht : (pc : Int) + off = (tgt : Int)) (h : (if 0 ≤ x then f else g) = some R) (kt : f = some R → zJ Γ nL k n σ tgt lv st) (kf : g = some R → zJ Γ nL k n σ (pc + 3) lv st) : zJ Γ nL k n σ pc lv (.int x :: st) := fun H locs ls hP hS hl => lv_if_ge E.hx E.hb hd ht (fun c => kt (by rw [if_pos c] at h; exact h) H locs ls hP hS hl) (fun c => kf (by rw [if_neg c] at h; exact h) H locs ls hP hS hl)
theorem zj_if_gt (E : zE Γ cc own nL rm) {ρ : Type} {f g : Option ρ} {R : ρ} {x : Int32} {off : Int} {tgt : Nat} (hd : decode cc pc = .ok (.ifCond .gt off, 3)) (ht : (pc : Int) + off = (tgt : Int)) (h : (if 0 < x then f else g) = some R) (kt : f = some R → zJ Γ nL k n σ tgt lv st) (kf : g = some R → zJ Γ nL k n σ (pc + 3) lv st) : zJ Γ nL k n σ pc lv (.int x :: st) := fun H locs ls hP hS hl => lv_if_gt E.hx E.hb hd ht (fun c => kt (by rw [if_pos c] at h; exact h) H locs ls hP hS hl) (fun c => kf (by rw [if_neg c] at h; exact h) H locs ls hP hS hl)
theorem zj_if_le (E : zE Γ cc own nL rm) {ρ : Type} {f g : Option ρ} {R : ρ} {x : Int32} {off : Int} {tgt : Nat} (hd : decode cc pc = .ok (.ifCond .le off, 3)) (ht : (pc : Int) + off = (tgt : Int)) (h : (if x ≤ 0 then f else g) = some R) (kt : f = some R → zJ Γ nL k n σ tgt lv st) (kf : g = some R → zJ Γ nL k n σ (pc + 3) lv st) : zJ Γ nL k n σ pc lv (.int x :: st) := fun H locs ls hP hS hl => lv_if_le E.hx E.hb hd ht (fun c => kt (by rw [if_pos c] at h; exact h) H locs ls hP hS hl) (fun c => kf (by rw [if_neg c] at h; exact h) H locs ls hP hS hl)
theorem zj_icmp_eq (E : zE Γ cc own nL rm) {ρ : Type} {f g : Option ρ} {R : ρ} {x y : Int32} {off : Int} {tgt : Nat} (hd : decode cc pc = .ok (.if_icmp .eq off, 3)) (ht : (pc : Int) + off = (tgt : Int)) (h : (if x = y then f else g) = some R) (kt : f = some R → zJ Γ nL k n σ tgt lv st) (kf : g = some R → zJ Γ nL k n σ (pc + 3) lv st) : zJ Γ nL k n σ pc lv (.int y :: .int x :: st) := fun H locs ls hP hS hl => lv_icmp_eq E.hx E.hb hd ht (fun c => kt (by rw [if_pos c] at h; exact h) H locs ls hP hS hl) (fun c => kf (by rw [if_neg c] at h; exact h) H locs ls hP hS hl)
theorem zj_icmp_ne (E : zE Γ cc own nL rm) {ρ : Type} {f g : Option ρ} {R : ρ} {x y : Int32} {off : Int} {tgt : Nat} (hd : decode cc pc = .ok (.if_icmp .ne off, 3)) (ht : (pc : Int) + off = (tgt : Int)) (h : (if x = y then g else f) = some R) (kt : f = some R → zJ Γ nL k n σ tgt lv st) (kf : g = some R → zJ Γ nL k n σ (pc + 3) lv st) : zJ Γ nL k n σ pc lv (.int y :: .int x :: st) := fun H locs ls hP hS hl => lv_icmp_ne E.hx E.hb hd ht (fun c => kt (by rw [if_neg c] at h; exact h) H locs ls hP hS hl) (fun c => kf (by rw [if_pos c] at h; exact h) H locs ls hP hS hl)
theorem zj_icmp_lt (E : zE Γ cc own nL rm) {ρ : Type} {f g : Option ρ} {R : ρ} {x y : Int32} {off : Int} {tgt : Nat} (hd : decode cc pc = .ok (.if_icmp .lt off, 3)) (ht : (pc : Int) + off = (tgt : Int)) (h : (if x < y then f else g) = some R) (kt : f = some R → zJ Γ nL k n σ tgt lv st) (kf : g = some R → zJ Γ nL k n σ (pc + 3) lv st) : zJ Γ nL k n σ pc lv (.int y :: .int x :: st) := fun H locs ls hP hS hl => lv_icmp_lt E.hx E.hb hd ht (fun c => kt (by rw [if_pos c] at h; exact h) H locs ls hP hS hl) (fun c => kf (by rw [if_neg c] at h; exact h) H locs ls hP hS hl)
theorem zj_icmp_ge (E : zE Γ cc own nL rm) {ρ : Type} {f g : Option ρ} {R : ρ} {x y : Int32} {off : Int} {tgt : Nat} (hd : decode cc pc = .ok (.if_icmp .ge off, 3)) (ht : (pc : Int) + off = (tgt : Int)) (h : (if y ≤ x then f else g) = some R) (kt : f = some R → zJ Γ nL k n σ tgt lv st) (kf : g = some R → zJ Γ nL k n σ (pc + 3) lv st) : zJ Γ nL k n σ pc lv (.int y :: .int x :: st) := fun H locs ls hP hS hl => lv_icmp_ge E.hx E.hb hd ht (fun c => kt (by rw [if_pos c] at h; exact h) H locs ls hP hS hl) (fun c => kf (by rw [if_neg c] at h; exact h) H locs ls hP hS hl)
theorem zj_icmp_gt (E : zE Γ cc own nL rm) {ρ : Type} {f g : Option ρ} {R : ρ} {x y : Int32} {off : Int} {tgt : Nat} (hd : decode cc pc = .ok (.if_icmp .gt off, 3)) (ht : (pc : Int) + off = (tgt : Int)) (h : (if y < x then f else g) = some R) (kt : f = some R → zJ Γ nL k n σ tgt lv st) (kf : g = some R → zJ Γ nL k n σ (pc + 3) lv st) : zJ Γ nL k n σ pc lv (.int y :: .int x :: st) := fun H locs ls hP hS hl => lv_icmp_gt E.hx E.hb hd ht (fun c => kt (by rw [if_pos c] at h; exact h) H locs ls hP hS hl) (fun c => kf (by rw [if_neg c] at h; exact h) H locs ls hP hS hl)
theorem zj_icmp_le (E : zE Γ cc own nL rm) {ρ : Type} {f g : Option ρ} {R : ρ} {x y : Int32} {off : Int} {tgt : Nat} (hd : decode cc pc = .ok (.if_icmp .le off, 3)) (ht : (pc : Int) + off = (tgt : Int)) (h : (if x ≤ y then f else g) = some R) (kt : f = some R → zJ Γ nL k n σ tgt lv st) (kf : g = some R → zJ Γ nL k n σ (pc + 3) lv st) : zJ Γ nL k n σ pc lv (.int y :: .int x :: st) := fun H locs ls hP hS hl => lv_icmp_le E.hx E.hb hd ht (fun c => kt (by rw [if_pos c] at h; exact h) H locs ls hP hS hl) (fun c => kf (by rw [if_neg c] at h; exact h) H locs ls hP hS hl)
/-- the decompiled function's own steps -/
def oL {α ρ : Type} (e : α) (f : α → Option ρ) : Option ρ := f e
theorem oL_some {α ρ : Type} {e : α} {f : α → Option ρ} {R : ρ} (h : oL e f = some R) : f e = some R := h
def oA {ρ : Type} (p : Prop) [Decidable p] (f : Option ρ) : Option ρ := if p then f else none
theorem oA_some {ρ : Type} {p : Prop} [Decidable p] {f : Option ρ} {R : ρ} (h : oA p f = some R) : p ∧ f = some R := by
  unfold oA at h
  by_cases hp : p
  · rw [if_pos hp] at h; exact ⟨hp, h⟩
  · rw [if_neg hp] at h; cases h
def oR {ρ : Type} (x : Option Nat) (f : Nat → Option ρ) : Option ρ := match x with
  | none => none
  | some a => f a
theorem oR_some {ρ : Type} {x : Option Nat} {f : Nat → Option ρ} {R : ρ} (h : oR x f = some R) : ∃ a, x = some a ∧ f a = some R := by
  cases x with
  | none => cases h
  | some a => exact ⟨a, rfl, h⟩
def oB {α ρ : Type} (x : Option α) (f : α → Option ρ) : Option ρ := match x with
  | none => none
  | some a => f a
theorem oB_some {α ρ : Type} {x : Option α} {f : α → Option ρ} {R : ρ} (h : oB x f = some R) : ∃ a, x = some a ∧ f a = some R := by
  cases x with
  | none => cases h
  | some a => exact ⟨a, rfl, h⟩
def zin (i : Int32) (n : Nat) : Prop := 0 ≤ i ∧ i.toNatClampNeg < n
theorem zin_vp {i : Int32} {n : Nat} (h : zin i n) : vp_in i n := by
  intro q
  rcases q with q | q
  · exact absurd h.1 (Int32.not_le.mpr q)
  · exact absurd h.2 (Nat.not_lt.mpr q)
def oGI {ρ : Type} (σ : zS) (c a k : Nat) (f : Int32 → Option ρ) : Option ρ := if zk σ a = c then f (zi σ a k) else none
def oGR {ρ : Type} (σ : zS) (c a k : Nat) (f : Nat → Option ρ) : Option ρ := if zk σ a = c then oR (zr σ a k) f else none
def oPI {ρ : Type} (σ : zS) (c a k : Nat) (v : Int32) (f : zS → Option ρ) : Option ρ := if zk σ a = c then f (zuI σ a k v) else none
def oPZ {ρ : Type} (σ : zS) (c a k : Nat) (v : Int32) (f : zS → Option ρ) : Option ρ := if zk σ a = c ∧ (v = 0 ∨ v = 1) then f (zuI σ a k v) else none
def oPR {ρ : Type} (σ : zS) (c a k b : Nat) (f : zS → Option ρ) : Option ρ := if zk σ a = c then f (zuR σ a k (some b)) else none
def oLd {ρ : Type} (σ : zS) (c a : Nat) (i : Int32) (f : Int32 → Option ρ) : Option ρ := if zk σ a = c ∧ 0 ≤ i ∧ i.toNatClampNeg < zn σ a then f (zi σ a i.toNatClampNeg) else none
def oSt {ρ : Type} (σ : zS) (c a : Nat) (i v : Int32) (f : zS → Option ρ) : Option ρ := if zk σ a = c ∧ 0 ≤ i ∧ i.toNatClampNeg < zn σ a then f (zuI σ a i.toNatClampNeg v) else none
def oLr {ρ : Type} (σ : zS) (a : Nat) (i : Int32) (f : Nat → Option ρ) : Option ρ := if zk σ a = 22 ∧ 0 ≤ i ∧ i.toNatClampNeg < zn σ a then oR (zr σ a i.toNatClampNeg) f else none
def oLt {ρ : Type} (t : List Int32) (i : Int32) (f : Int32 → Option ρ) : Option ρ := if 0 ≤ i ∧ i.toNatClampNeg < t.length then f (t.getD i.toNatClampNeg 0) else none
def oLn {ρ : Type} (σ : zS) (c a : Nat) (f : Int32 → Option ρ) : Option ρ := if zk σ a = c then f (nI (zn σ a)) else none
/-- a loop, with fuel -/
def zloop {α β : Type} : Nat → (α → Option (α ⊕ β)) → α → Option β
  | 0, _, _ => none
  | n + 1, body, x => match body x with
    | none => none
    | some (.inl y) => zloop n body y
    | some (.inr b) => some b
def zF : Nat := 100000
theorem zj_loop {α β : Type} {body : α → Option (α ⊕ β)} {Jx : α → Prop} {X : β → Prop} (hs : ∀ x y, body x = some y → Sum.elim Jx X y → Jx x) : ∀ (n : Nat) (x : α) (b : β), zloop n body x = some b → X b → Jx x := by
  intro n
  induction n with
  | zero => intro x b h; cases h
  | succ n ih =>
    intro x b h hX
    cases hy : body x with
    | none => rw [zloop, hy] at h; cases h
    | some y =>
      rw [zloop, hy] at h
      cases y with
      | inl x2 => exact hs x _ hy (ih x2 b h hX)
      | inr b2 =>
        cases h
        exact hs x _ hy hX
end ZROWS
end
section
/-! ROWS THAT READ AND WRITE CELLS -/
theorem zty_ref {ci k : Nat} {t : FieldType} (h : zty ci k = t) (b : Bool) (hb : zref t = b) : zref (zty ci k) = b := by rw [h]; exact hb
section ZHEAP
variable {Γ : zG} {cc : ByteArray} {own : String} {rm : Room} {nL k n pc : Nat} {σ : zS} {lv : List (Nat × Value)} {st : List Value} {ρ : Type} {R : ρ}
theorem zfs_at {V : Nat → Value} {N j : Nat} (h : j < N) : ((List.range N).map V)[j]? = some (V j) := by
  rw [List.getElem?_map, List.getElem?_range h]; rfl
theorem zfs_V {V : Nat → Value} {N j : Nat} (h : j < N) : vp_V ((List.range N).map V) j = V j := by
  unfold vp_V
  rw [List.getD_eq_getElem?_getD, zfs_at h]; rfl
/-- one object as a list's world -/
theorem zone {D : va_G} {cs : zCs} {z0 : Nat} {H : Heap} {ci a : Nat} {C : String} {T : u_T} {N : Nat} (hP : zrep D cs z0 σ H) (hc : vwCl[ci]? = some (C, T, N)) (ha : zk σ a = ci + 1) : va_P D vwCl [(a, .inr (ci, (List.range N).map (zV σ ci a)))] H := by
  intro j q hq
  have hz : j < 1 := (List.getElem?_eq_some_iff.mp hq).1
  have hj : j = 0 := by omega
  subst hj
  cases hq
  exact ⟨_, hc, (hP.2.2.2.1 ci _ hc a ha).to (fun i hi => (zfs_V hi).symm)⟩
theorem zs_getI (E : zE Γ cc own nL rm) {ci : Nat} {C : String} {T : u_T} {N : Nat} (hC : zC ci C T N) (j : Nat) (hj : j < N) {idx a : Nat} (hw : Cond.fieldLink own idx (T j).1 (T j).2.1 (T j).2.2.1 ∈ wsL_law0) (ht : zref (zty ci j) = false) (hd : decode cc pc = .ok (.getfield idx, 3)) {f : Int32 → Option ρ} (h : oGI σ (ci + 1) a j f = some R) (kk : ∀ x, f x = some R → zJ Γ nL k n σ (pc + 3) lv (.int x :: st)) : zJ Γ nL k n σ pc lv (.ref a :: st) := by
  intro H locs ls hP hS hl
  unfold oGI at h
  by_cases hk : zk σ a = ci + 1
  · rw [if_pos hk] at h
    exact va_get E.hx E.hb E.ht hC.2.1 E.ho E.hK.1 (zone hP hC.1 hk) 0 rfl hC.1 j hj (E.ht _ hw) (fun _ h9 => h9) (v := .int (zi σ a j)) (by rw [zfs_at hj]; simp [zV, ht]) hd (kk _ h H locs ls hP hS hl)
  · rw [if_neg hk] at h; cases h
theorem zs_getR (E : zE Γ cc own nL rm) {ci : Nat} {C : String} {T : u_T} {N : Nat} (hC : zC ci C T N) (j : Nat) (hj : j < N) {idx a : Nat} (hw : Cond.fieldLink own idx (T j).1 (T j).2.1 (T j).2.2.1 ∈ wsL_law0) (ht : zref (zty ci j) = true) (hd : decode cc pc = .ok (.getfield idx, 3)) {f : Nat → Option ρ} (h : oGR σ (ci + 1) a j f = some R) (kk : ∀ x, f x = some R → zJ Γ nL k n σ (pc + 3) lv (.ref x :: st)) : zJ Γ nL k n σ pc lv (.ref a :: st) := by
  intro H locs ls hP hS hl
  unfold oGR at h
  by_cases hk : zk σ a = ci + 1
  · rw [if_pos hk] at h
    obtain ⟨b, eb, h⟩ := oR_some h
    exact va_get E.hx E.hb E.ht hC.2.1 E.ho E.hK.1 (zone hP hC.1 hk) 0 rfl hC.1 j hj (E.ht _ hw) (fun _ h9 => h9) (v := .ref b) (by rw [zfs_at hj]; simp [zV, ht, eb, va_rf]) hd (kk _ h H locs ls hP hS hl)
  · rw [if_neg hk] at h; cases h
theorem zs_getIN (E : zE Γ cc own nL rm) {ci : Nat} {C host : String} {T : u_T} {N : Nat} (hC : zC ci C T N) (j : Nat) (hj : j < N) {idx a : Nat} (hw : (own, idx, (T j).1, (T j).2.1, (T j).2.2.1, host) ∈ znf) (ht : zref (zty ci j) = false) (hd : decode cc pc = .ok (.getfield idx, 3)) {f : Int32 → Option ρ} (h : oGI σ (ci + 1) a j f = some R) (kk : ∀ x, f x = some R → zJ Γ nL k n σ (pc + 3) lv (.int x :: st)) : zJ Γ nL k n σ pc lv (.ref a :: st) := by
  intro H locs ls hP hS hl
  unfold oGI at h
  by_cases hk : zk σ a = ci + 1
  · rw [if_pos hk] at h
    exact va_getN E.hx E.hb E.ht hC.2.1 E.ho E.hK.1 (zone hP hC.1 hk) 0 rfl hC.1 j hj (va_Nw.use rfl (E.hK.2.1 _ hw)) (fun _ h9 => h9) (v := .int (zi σ a j)) (by rw [zfs_at hj]; simp [zV, ht]) hd (kk _ h H locs ls hP hS hl)
  · rw [if_neg hk] at h; cases h
theorem zs_getRN (E : zE Γ cc own nL rm) {ci : Nat} {C host : String} {T : u_T} {N : Nat} (hC : zC ci C T N) (j : Nat) (hj : j < N) {idx a : Nat} (hw : (own, idx, (T j).1, (T j).2.1, (T j).2.2.1, host) ∈ znf) (ht : zref (zty ci j) = true) (hd : decode cc pc = .ok (.getfield idx, 3)) {f : Nat → Option ρ} (h : oGR σ (ci + 1) a j f = some R) (kk : ∀ x, f x = some R → zJ Γ nL k n σ (pc + 3) lv (.ref x :: st)) : zJ Γ nL k n σ pc lv (.ref a :: st) := by
  intro H locs ls hP hS hl
  unfold oGR at h
  by_cases hk : zk σ a = ci + 1
  · rw [if_pos hk] at h
    obtain ⟨b, eb, h⟩ := oR_some h
    exact va_getN E.hx E.hb E.ht hC.2.1 E.ho E.hK.1 (zone hP hC.1 hk) 0 rfl hC.1 j hj (va_Nw.use rfl (E.hK.2.1 _ hw)) (fun _ h9 => h9) (v := .ref b) (by rw [zfs_at hj]; simp [zV, ht, eb, va_rf]) hd (kk _ h H locs ls hP hS hl)
  · rw [if_neg hk] at h; cases h
/-- two cells of different kinds lie apart -/
theorem zkne {a b x y : Nat} (ha : zk σ a = x) (hb : zk σ b = y) (h : x ≠ y) : a ≠ b := fun e => h (by rw [← ha, ← hb, e])
/-- a state after one cell has changed: the cell itself anew, all others as they were -/
theorem zrep_set {D : va_G} {cs : zCs} {z0 : Nat} {σ' : zS} {H H' : Heap} {a : Nat} (hP : zrep D cs z0 σ H) (ek : zk σ' = zk σ) (en : zn σ' = zn σ) (ex : zx σ' = zx σ)
    (eo : ∀ b j, b ≠ a → zi σ' b j = zi σ b j ∧ zr σ' b j = zr σ b j ∧ zl σ' b j = zl σ b j) (z : H'.size = H.size) (o : ∀ q, q ≠ a → H'[q]? = H[q]?)
    (g1 : ∀ (ci : Nat) (q : vw_C), vwCl[ci]? = some q → zk σ a = ci + 1 → t_OB a (D.1 ci) q.2.2 (D.2 ci) H' (zV σ' ci a))
    (g2 : zk σ a = 20 → H'[a]? = some (arrV cs.1 (zn σ a) (fun j => .int (zi σ' a j))))
    (g3 : zk σ a = 21 → H'[a]? = some (arrV cs.2.1 (zn σ a) (fun j => .int (zi σ' a j))))
    (g4 : zk σ a = 22 → H'[a]? = some (arrV cs.2.2.1 (zn σ a) (fun j => va_rf (zr σ' a j))))
    (g5 : zk σ a = 23 → H'[a]? = some (arrV cs.2.2.2 (zn σ a) (fun j => .long (zl σ' a j)))) : zrep D cs z0 σ' H' := by
  obtain ⟨h1, h2, h3, h4, h5, h6, h7, h8⟩ := hP
  refine ⟨by rw [z, ex]; exact h1, by rw [ex]; exact h2, by rw [ek, ex]; exact h3, ?_, ?_, ?_, ?_, ?_⟩
  · intro ci q hq b hb
    rw [ek] at hb
    by_cases e : b = a
    · subst e; exact g1 ci q hq hb
    · refine ((h4 ci q hq b hb).kept (o b e)).to (fun j _ => ?_)
      unfold zV
      rw [(eo b j e).1, (eo b j e).2.1]
  · intro b hb
    rw [ek] at hb
    by_cases e : b = a
    · subst e; rw [en]; exact g2 hb
    · rw [o b e, h5 b hb, en, show (fun j => Value.int (zi σ' b j)) = fun j => Value.int (zi σ b j) from funext fun j => by rw [(eo b j e).1]]
  · intro b hb
    rw [ek] at hb
    by_cases e : b = a
    · subst e; rw [en]; exact g3 hb
    · rw [o b e, h6 b hb, en, show (fun j => Value.int (zi σ' b j)) = fun j => Value.int (zi σ b j) from funext fun j => by rw [(eo b j e).1]]
  · intro b hb
    rw [ek] at hb
    by_cases e : b = a
    · subst e; rw [en]; exact g4 hb
    · rw [o b e, h7 b hb, en, show (fun j => va_rf (zr σ' b j)) = fun j => va_rf (zr σ b j) from funext fun j => by rw [(eo b j e).2.1]]
  · intro b hb
    rw [ek] at hb
    by_cases e : b = a
    · subst e; rw [en]; exact g5 hb
    · rw [o b e, h8 b hb, en, show (fun j => Value.long (zl σ' b j)) = fun j => Value.long (zl σ b j) from funext fun j => by rw [(eo b j e).2.2]]
theorem vwCl_lt {ci : Nat} {q : vw_C} (h : vwCl[ci]? = some q) : ci < 12 := (List.getElem?_eq_some_iff.mp h).1
theorem zuI_ne {a b i j : Nat} {v : Int32} (h : b ≠ a) : zi (zuI σ a i v) b j = zi σ b j := by
  show zup _ _ _ _ _ _ = _
  unfold zup
  rw [if_neg (fun q => h q.1)]; rfl
theorem zuR_ne {a b i j : Nat} {v : Option Nat} (h : b ≠ a) : zr (zuR σ a i v) b j = zr σ b j := by
  show zup _ _ _ _ _ _ = _
  unfold zup
  rw [if_neg (fun q => h q.1)]; rfl
theorem zuL_ne {a b i j : Nat} {v : Int64} (h : b ≠ a) : zl (zuL σ a i v) b j = zl σ b j := by
  show zup _ _ _ _ _ _ = _
  unfold zup
  rw [if_neg (fun q => h q.1)]; rfl
theorem zuI_at {a i j : Nat} {v : Int32} : zi (zuI σ a i v) a j = if j = i then v else zi σ a j := by
  show zup _ _ _ _ _ _ = _
  unfold zup
  by_cases e : j = i
  · rw [if_pos ⟨rfl, e⟩, if_pos e]
  · rw [if_neg (fun q => e q.2), if_neg e]; rfl
theorem zuR_at {a i j : Nat} {v : Option Nat} : zr (zuR σ a i v) a j = if j = i then v else zr σ a j := by
  show zup _ _ _ _ _ _ = _
  unfold zup
  by_cases e : j = i
  · rw [if_pos ⟨rfl, e⟩, if_pos e]
  · rw [if_neg (fun q => e q.2), if_neg e]; rfl
theorem zuL_at {a i j : Nat} {v : Int64} : zl (zuL σ a i v) a j = if j = i then v else zl σ a j := by
  show zup _ _ _ _ _ _ = _
  unfold zup
  by_cases e : j = i
  · rw [if_pos ⟨rfl, e⟩, if_pos e]
  · rw [if_neg (fun q => e q.2), if_neg e]; rfl
/-- an object's field set -/
theorem zrep_fld {D : va_G} {cs : zCs} {z0 : Nat} {σ' : zS} {H H' : Heap} {ci a j : Nat} {C : String} {T : u_T} {N : Nat} {v : Value} (hP : zrep D cs z0 σ H) (hc : vwCl[ci]? = some (C, T, N)) (ha : zk σ a = ci + 1) (ek : zk σ' = zk σ) (en : zn σ' = zn σ) (ex : zx σ' = zx σ)
    (eo : ∀ b i, b ≠ a → zi σ' b i = zi σ b i ∧ zr σ' b i = zr σ b i ∧ zl σ' b i = zl σ b i) (z : H'.size = H.size) (o : ∀ q, q ≠ a → H'[q]? = H[q]?)
    (hB : t_OB a (D.1 ci) N (D.2 ci) H' (updV (zV σ ci a) j v)) (hv : zV σ' ci a j = v) (hu : ∀ i, i ≠ j → zV σ' ci a i = zV σ ci a i) : zrep D cs z0 σ' H' := by
  have hlt := vwCl_lt hc
  refine zrep_set hP ek en ex eo z o ?_ (fun h => by omega) (fun h => by omega) (fun h => by omega) (fun h => by omega)
  intro ci' q hq hk
  have e : ci' = ci := by omega
  subst e
  cases hq.symm.trans hc
  refine hB.to (fun i _ => ?_)
  unfold updV
  by_cases e : i = j
  · rw [if_pos e, e, hv]
  · rw [if_neg e, hu i e]
theorem zS_put {z0 a j : Nat} {H0 H H' : Heap} {locs : List Loc} (hS : va_S (fun q => z0 ≤ q) H0 H locs) (z : H'.size = H.size) (o : ∀ q, q ≠ a → H'[q]? = H[q]?) (ha : z0 ≤ a) : va_S (fun q => z0 ≤ q) H0 H' (locs ++ [⟨a, j⟩]) := hS.put z o ha
/-- a field of an object is set: the general row -/
theorem zput {σ' : zS} (E : zE Γ cc own nL rm) {ci : Nat} {C : String} {T : u_T} {N : Nat} (hC : zC ci C T N) (j : Nat) (hj : j < N) {idx a : Nat} {v : Value} (hw : Cond.fieldLink own idx (T j).1 (T j).2.1 (T j).2.2.1 ∈ wsL_law0) (hfin : (T j).2.2.2 = false) (hn : narrow (zty ci j) v = v) (hf : fits (zty ci j) v = true) (ha : zk σ a = ci + 1)
    (ek : zk σ' = zk σ) (en : zn σ' = zn σ) (ex : zx σ' = zx σ) (eo : ∀ b i, b ≠ a → zi σ' b i = zi σ b i ∧ zr σ' b i = zr σ b i ∧ zl σ' b i = zl σ b i) (hv : zV σ' ci a j = v) (hu : ∀ i, i ≠ j → zV σ' ci a i = zV σ ci a i)
    (hd : decode cc pc = .ok (.putfield idx, 3)) (kk : zJ Γ nL k n σ' (pc + 3) lv st) : zJ Γ nL k n σ pc lv (v :: .ref a :: st) := by
  intro H locs ls hP hS hl
  obtain ⟨hc, hin, hty, hnm⟩ := hC
  have hK := E.hK.1
  have hap := va_apart (own := own) E.ht hin (zty ci) hty hnm hK hc
  obtain ⟨cell, q1, q2, q3, q4⟩ := hP.2.2.2.1 ci _ hc a ha
  obtain ⟨hS0, hfc, kC, hkC, hkind⟩ := hK.1 ci _ hc
  obtain ⟨cf, kf, fi, f, hi, hsl⟩ := hS0 j hj
  have hlay := E.ht _ (hin _ (u_in_lay hj))
  unfold u_lay at hlay
  rw [if_neg (by rw [hfin]; decide)] at hlay
  have hst := (u_facts hfc hkC (u_lays E.ht hin hj) hi).1
  have h6 := u_store hfc hkC hkind hlay hi (hty j hj) hn hf
  refine W.putK E.hx E.hb (f := f) ⟨E.ho, E.ht _ hw, ⟨_, _, _, hi⟩, hst⟩ (by rw [q2]; exact h6) q1 q3 (by rw [hsl]; exact k2_hasslot (q4 j hj)) rfl rfl hd fun H' e1 e2 e3 => ?_
  rw [hsl] at e1 ⊢
  exact kk H' _ ls (zrep_fld hP hc ha ek en ex eo e2 e3 ⟨_, e1, q2, q3, t_set q4 hap hj v⟩ hv hu) (zS_put hS e2 e3 (hP.2.2.1 a (by rw [ha]; omega)).1) hl
theorem zputN {σ' : zS} (E : zE Γ cc own nL rm) {ci : Nat} {C host : String} {T : u_T} {N : Nat} (hC : zC ci C T N) (j : Nat) (hj : j < N) {idx a : Nat} {v : Value} (hw : (own, idx, (T j).1, (T j).2.1, (T j).2.2.1, host) ∈ znf) (hfin : (T j).2.2.2 = false) (hn : narrow (zty ci j) v = v) (hf : fits (zty ci j) v = true) (ha : zk σ a = ci + 1)
    (ek : zk σ' = zk σ) (en : zn σ' = zn σ) (ex : zx σ' = zx σ) (eo : ∀ b i, b ≠ a → zi σ' b i = zi σ b i ∧ zr σ' b i = zr σ b i ∧ zl σ' b i = zl σ b i) (hv : zV σ' ci a j = v) (hu : ∀ i, i ≠ j → zV σ' ci a i = zV σ ci a i)
    (hd : decode cc pc = .ok (.putfield idx, 3)) (kk : zJ Γ nL k n σ' (pc + 3) lv st) : zJ Γ nL k n σ pc lv (v :: .ref a :: st) := by
  intro H locs ls hP hS hl
  obtain ⟨hc, hin, hty, hnm⟩ := hC
  have hK := E.hK.1
  have hap := va_apart (own := own) E.ht hin (zty ci) hty hnm hK hc
  obtain ⟨cell, q1, q2, q3, q4⟩ := hP.2.2.2.1 ci _ hc a ha
  obtain ⟨hS0, hfc, kC, hkC, hkind⟩ := hK.1 ci _ hc
  obtain ⟨cf, kf, fi, f, hi, hsl⟩ := hS0 j hj
  have hlay := E.ht _ (hin _ (u_in_lay hj))
  unfold u_lay at hlay
  rw [if_neg (by rw [hfin]; decide)] at hlay
  have hst := (u_facts hfc hkC (u_lays E.ht hin hj) hi).1
  have h6 := u_store hfc hkC hkind hlay hi (hty j hj) hn hf
  refine va_WputK E.hx E.hb (f := f) E.ho (va_Nw.use rfl (E.hK.2.1 _ hw)) hi hst (by rw [q2]; exact h6) q1 q3 (by rw [hsl]; exact k2_hasslot (q4 j hj)) rfl rfl hd fun H' e1 e2 e3 => ?_
  rw [hsl] at e1 ⊢
  exact kk H' _ ls (zrep_fld hP hc ha ek en ex eo e2 e3 ⟨_, e1, q2, q3, t_set q4 hap hj v⟩ hv hu) (zS_put hS e2 e3 (hP.2.2.1 a (by rw [ha]; omega)).1) hl
end ZHEAP
end
section
section ZHEAP2
variable {Γ : zG} {cc : ByteArray} {own : String} {rm : Room} {nL k n pc : Nat} {σ : zS} {lv : List (Nat × Value)} {st : List Value} {ρ : Type} {R : ρ}
theorem zV_I {ci a j : Nat} (h : zref (zty ci j) = false) : zV σ ci a j = .int (zi σ a j) := by simp [zV, h]
theorem zV_R {ci a j : Nat} (h : zref (zty ci j) = true) : zV σ ci a j = va_rf (zr σ a j) := by simp [zV, h]
theorem zV_uI {ci a j : Nat} {v : Int32} (h : zref (zty ci j) = false) : zV (zuI σ a j v) ci a j = .int v := by rw [zV_I h, zuI_at, if_pos rfl]
theorem zV_uR {ci a j b : Nat} (h : zref (zty ci j) = true) : zV (zuR σ a j (some b)) ci a j = .ref b := by rw [zV_R h, zuR_at, if_pos rfl]; rfl
theorem zV_uIn {ci a i j : Nat} {v : Int32} (h : i ≠ j) : zV (zuI σ a j v) ci a i = zV σ ci a i := by
  unfold zV
  rw [zuI_at, if_neg h]; rfl
theorem zV_uRn {ci a i j : Nat} {v : Option Nat} (h : i ≠ j) : zV (zuR σ a j v) ci a i = zV σ ci a i := by
  unfold zV
  rw [zuR_at, if_neg h]; rfl
theorem zeoI {a j : Nat} {v : Int32} : ∀ b i, b ≠ a → zi (zuI σ a j v) b i = zi σ b i ∧ zr (zuI σ a j v) b i = zr σ b i ∧ zl (zuI σ a j v) b i = zl σ b i := fun _ _ h => ⟨zuI_ne h, rfl, rfl⟩
theorem zeoR {a j : Nat} {v : Option Nat} : ∀ b i, b ≠ a → zi (zuR σ a j v) b i = zi σ b i ∧ zr (zuR σ a j v) b i = zr σ b i ∧ zl (zuR σ a j v) b i = zl σ b i := fun _ _ h => ⟨rfl, zuR_ne h, rfl⟩
theorem zeoL {a j : Nat} {v : Int64} : ∀ b i, b ≠ a → zi (zuL σ a j v) b i = zi σ b i ∧ zr (zuL σ a j v) b i = zr σ b i ∧ zl (zuL σ a j v) b i = zl σ b i := fun _ _ h => ⟨rfl, rfl, zuL_ne h⟩
theorem zs_putI (E : zE Γ cc own nL rm) {ci : Nat} {C : String} {T : u_T} {N : Nat} (hC : zC ci C T N) (j : Nat) (hj : j < N) {idx a : Nat} {v : Int32} (hw : Cond.fieldLink own idx (T j).1 (T j).2.1 (T j).2.2.1 ∈ wsL_law0) (hfin : (T j).2.2.2 = false) (ht : zty ci j = .int) (hd : decode cc pc = .ok (.putfield idx, 3)) {f : zS → Option ρ} (h : oPI σ (ci + 1) a j v f = some R) (kk : ∀ σ, f σ = some R → zJ Γ nL k n σ (pc + 3) lv st) : zJ Γ nL k n σ pc lv (.int v :: .ref a :: st) := by
  unfold oPI at h
  by_cases hk : zk σ a = ci + 1
  · rw [if_pos hk] at h
    exact zput (σ' := zuI σ a j v) E hC j hj hw hfin (by rw [ht]; rfl) (by rw [ht]; rfl) hk rfl rfl rfl zeoI (zV_uI (by rw [ht]; rfl)) (fun _ h => zV_uIn h) hd (kk _ h)
  · rw [if_neg hk] at h; cases h
theorem zs_putIN (E : zE Γ cc own nL rm) {ci : Nat} {C host : String} {T : u_T} {N : Nat} (hC : zC ci C T N) (j : Nat) (hj : j < N) {idx a : Nat} {v : Int32} (hw : (own, idx, (T j).1, (T j).2.1, (T j).2.2.1, host) ∈ znf) (hfin : (T j).2.2.2 = false) (ht : zty ci j = .int) (hd : decode cc pc = .ok (.putfield idx, 3)) {f : zS → Option ρ} (h : oPI σ (ci + 1) a j v f = some R) (kk : ∀ σ, f σ = some R → zJ Γ nL k n σ (pc + 3) lv st) : zJ Γ nL k n σ pc lv (.int v :: .ref a :: st) := by
  unfold oPI at h
  by_cases hk : zk σ a = ci + 1
  · rw [if_pos hk] at h
    exact zputN (σ' := zuI σ a j v) E hC j hj hw hfin (by rw [ht]; rfl) (by rw [ht]; rfl) hk rfl rfl rfl zeoI (zV_uI (by rw [ht]; rfl)) (fun _ h => zV_uIn h) hd (kk _ h)
  · rw [if_neg hk] at h; cases h
theorem zbool {v : Int32} (h : v = 0 ∨ v = 1) : narrow .boolean (.int v) = .int v ∧ fits .boolean (.int v) = true := by
  rcases h with rfl | rfl <;> exact ⟨by decide +kernel, by decide +kernel⟩
theorem zs_putZ (E : zE Γ cc own nL rm) {ci : Nat} {C : String} {T : u_T} {N : Nat} (hC : zC ci C T N) (j : Nat) (hj : j < N) {idx a : Nat} {v : Int32} (hw : Cond.fieldLink own idx (T j).1 (T j).2.1 (T j).2.2.1 ∈ wsL_law0) (hfin : (T j).2.2.2 = false) (ht : zty ci j = .boolean) (hd : decode cc pc = .ok (.putfield idx, 3)) {f : zS → Option ρ} (h : oPZ σ (ci + 1) a j v f = some R) (kk : ∀ σ, f σ = some R → zJ Γ nL k n σ (pc + 3) lv st) : zJ Γ nL k n σ pc lv (.int v :: .ref a :: st) := by
  unfold oPZ at h
  by_cases hk : zk σ a = ci + 1 ∧ (v = 0 ∨ v = 1)
  · rw [if_pos hk] at h
    exact zput (σ' := zuI σ a j v) E hC j hj hw hfin (by rw [ht]; exact (zbool hk.2).1) (by rw [ht]; exact (zbool hk.2).2) hk.1 rfl rfl rfl zeoI (zV_uI (by rw [ht]; rfl)) (fun _ h => zV_uIn h) hd (kk _ h)
  · rw [if_neg hk] at h; cases h
theorem zs_putZN (E : zE Γ cc own nL rm) {ci : Nat} {C host : String} {T : u_T} {N : Nat} (hC : zC ci C T N) (j : Nat) (hj : j < N) {idx a : Nat} {v : Int32} (hw : (own, idx, (T j).1, (T j).2.1, (T j).2.2.1, host) ∈ znf) (hfin : (T j).2.2.2 = false) (ht : zty ci j = .boolean) (hd : decode cc pc = .ok (.putfield idx, 3)) {f : zS → Option ρ} (h : oPZ σ (ci + 1) a j v f = some R) (kk : ∀ σ, f σ = some R → zJ Γ nL k n σ (pc + 3) lv st) : zJ Γ nL k n σ pc lv (.int v :: .ref a :: st) := by
  unfold oPZ at h
  by_cases hk : zk σ a = ci + 1 ∧ (v = 0 ∨ v = 1)
  · rw [if_pos hk] at h
    exact zputN (σ' := zuI σ a j v) E hC j hj hw hfin (by rw [ht]; exact (zbool hk.2).1) (by rw [ht]; exact (zbool hk.2).2) hk.1 rfl rfl rfl zeoI (zV_uI (by rw [ht]; rfl)) (fun _ h => zV_uIn h) hd (kk _ h)
  · rw [if_neg hk] at h; cases h
theorem zref_fits {t : FieldType} {b : Nat} (h : zref t = true) : narrow t (.ref b) = .ref b ∧ fits t (.ref b) = true := by
  cases t <;> first | (cases h; done) | exact ⟨rfl, rfl⟩
theorem zs_putR (E : zE Γ cc own nL rm) {ci : Nat} {C : String} {T : u_T} {N : Nat} (hC : zC ci C T N) (j : Nat) (hj : j < N) {idx a b : Nat} (hw : Cond.fieldLink own idx (T j).1 (T j).2.1 (T j).2.2.1 ∈ wsL_law0) (hfin : (T j).2.2.2 = false) (ht : zref (zty ci j) = true) (hd : decode cc pc = .ok (.putfield idx, 3)) {f : zS → Option ρ} (h : oPR σ (ci + 1) a j b f = some R) (kk : ∀ σ, f σ = some R → zJ Γ nL k n σ (pc + 3) lv st) : zJ Γ nL k n σ pc lv (.ref b :: .ref a :: st) := by
  unfold oPR at h
  by_cases hk : zk σ a = ci + 1
  · rw [if_pos hk] at h
    exact zput (σ' := zuR σ a j (some b)) E hC j hj hw hfin (zref_fits ht).1 (zref_fits ht).2 hk rfl rfl rfl zeoR (zV_uR ht) (fun _ h => zV_uRn h) hd (kk _ h)
  · rw [if_neg hk] at h; cases h
/-! arrays -/
theorem zarr_of (E : zE Γ cc own nL rm) {t0 : Nat} {cA : ClassId} {ty : FieldType} (h : ([((zgC Γ).1, .byte), ((zgC Γ).2.1, .int), ((zgC Γ).2.2.1, .object "FrameReel$Picture"), ((zgC Γ).2.2.2, .long)] : List (ClassId × FieldType))[t0]? = some (cA, ty)) (N : Nat) (V : Nat → Value) : (zgs Γ).isArrayOf (arrV cA N V) ty := (E.hK.1.2 t0 _ h).1 N V
theorem zs_iald (E : zE Γ cc own nL rm) {a : Nat} {i : Int32} (hd : decode cc pc = .ok (.iaload, 1)) {f : Int32 → Option ρ} (h : oLd σ 21 a i f = some R) (kk : ∀ x, f x = some R → zJ Γ nL k n σ (pc + 1) lv (.int x :: st)) : zJ Γ nL k n σ pc lv (.int i :: .ref a :: st) := by
  intro H locs ls hP hS hl
  unfold oLd at h
  by_cases hk : zk σ a = 21 ∧ 0 ≤ i ∧ i.toNatClampNeg < zn σ a
  · rw [if_pos hk] at h
    refine W.iald E.hx E.hb (hP.2.2.2.2.2.1 a hk.1) (zarr_of E (t0 := 1) rfl _ _) (by intro q; cases q) (by rw [arrV_size]; exact zin_vp hk.2) (arrV_read _ _ hk.2.2) rfl rfl hd (kk _ h H locs ls hP hS hl)
  · rw [if_neg hk] at h; cases h
theorem zs_bald (E : zE Γ cc own nL rm) {a : Nat} {i : Int32} (hd : decode cc pc = .ok (.baload, 1)) {f : Int32 → Option ρ} (h : oLd σ 20 a i f = some R) (kk : ∀ x, f x = some R → zJ Γ nL k n σ (pc + 1) lv (.int x :: st)) : zJ Γ nL k n σ pc lv (.int i :: .ref a :: st) := by
  intro H locs ls hP hS hl
  unfold oLd at h
  by_cases hk : zk σ a = 20 ∧ 0 ≤ i ∧ i.toNatClampNeg < zn σ a
  · rw [if_pos hk] at h
    refine W.bald E.hx E.hb (hP.2.2.2.2.1 a hk.1) (zarr_of E (t0 := 0) rfl _ _) (by intro q; cases q) (by rw [arrV_size]; exact zin_vp hk.2) (arrV_read _ _ hk.2.2) rfl rfl hd (kk _ h H locs ls hP hS hl)
  · rw [if_neg hk] at h; cases h
theorem zs_aald (E : zE Γ cc own nL rm) {a : Nat} {i : Int32} (hd : decode cc pc = .ok (.aaload, 1)) {f : Nat → Option ρ} (h : oLr σ a i f = some R) (kk : ∀ x, f x = some R → zJ Γ nL k n σ (pc + 1) lv (.ref x :: st)) : zJ Γ nL k n σ pc lv (.int i :: .ref a :: st) := by
  intro H locs ls hP hS hl
  unfold oLr at h
  by_cases hk : zk σ a = 22 ∧ 0 ≤ i ∧ i.toNatClampNeg < zn σ a
  · rw [if_pos hk] at h
    obtain ⟨b, eb, h⟩ := oR_some h
    refine W.aald E.hx E.hb (v := .ref b) (hP.2.2.2.2.2.2.1 a hk.1) (zarr_of E (t0 := 2) rfl _ _) rfl (by intro q; cases q) (by rw [arrV_size]; exact zin_vp hk.2) (by rw [arrV_read _ _ hk.2.2, eb]; rfl) rfl rfl hd (kk _ h H locs ls hP hS hl)
  · rw [if_neg hk] at h; cases h
theorem zarr_set {cI : ClassId} {N j : Nat} {f : Nat → Value} {v : Value} (hj : j < N) : (arrV cI N f).setSlot j v = arrV cI N (updV f j v) := by
  unfold arrV Cell.setSlot
  congr 1
  apply Array.ext_getElem?
  intro i
  rw [Array.getElem?_setIfInBounds]
  by_cases e : j = i
  · subst e; simp [updV, hj]
  · rw [if_neg e]
    by_cases hi : i < N
    · simp [updV, hi, Ne.symm e]
    · simp [hi]
theorem zs_iast (E : zE Γ cc own nL rm) {a : Nat} {i v : Int32} (hd : decode cc pc = .ok (.iastore, 1)) {f : zS → Option ρ} (h : oSt σ 21 a i v f = some R) (kk : ∀ σ, f σ = some R → zJ Γ nL k n σ (pc + 1) lv st) : zJ Γ nL k n σ pc lv (.int v :: .int i :: .ref a :: st) := by
  intro H locs ls hP hS hl
  unfold oSt at h
  by_cases hk : zk σ a = 21 ∧ 0 ≤ i ∧ i.toNatClampNeg < zn σ a
  · rw [if_pos hk] at h
    refine W.iast E.hx E.hb (hP.2.2.2.2.2.1 a hk.1) (zarr_of E (t0 := 1) rfl _ _) (by intro q; cases q) (by rw [arrV_size]; exact zin_vp hk.2) rfl rfl hd fun H' e1 e2 e3 => ?_
    rw [zarr_set hk.2.2] at e1
    refine kk _ h H' _ ls (zrep_set (a := a) hP rfl rfl rfl zeoI e2 e3 (fun ci q hq hz => ?_) (fun hz => by omega) (fun _ => ?_) (fun hz => by omega) (fun hz => by omega)) (zS_put hS e2 e3 (hP.2.2.1 a (by rw [hk.1]; decide)).1) hl
    · have := vwCl_lt hq; omega
    · rw [e1]
      congr 2
      funext j
      rw [zuI_at]
      unfold updV
      by_cases e : j = i.toNatClampNeg
      · rw [if_pos e, if_pos e]
      · rw [if_neg e, if_neg e]
  · rw [if_neg hk] at h; cases h
theorem zs_bast (E : zE Γ cc own nL rm) {a : Nat} {i v : Int32} (hd : decode cc pc = .ok (.bastore, 1)) {f : zS → Option ρ} (h : oSt σ 20 a i v.toInt8.toInt32 f = some R) (kk : ∀ σ, f σ = some R → zJ Γ nL k n σ (pc + 1) lv st) : zJ Γ nL k n σ pc lv (.int v :: .int i :: .ref a :: st) := by
  intro H locs ls hP hS hl
  unfold oSt at h
  by_cases hk : zk σ a = 20 ∧ 0 ≤ i ∧ i.toNatClampNeg < zn σ a
  · rw [if_pos hk] at h
    refine W.bast E.hx E.hb (hP.2.2.2.2.1 a hk.1) (zarr_of E (t0 := 0) rfl _ _) (by intro q; cases q) (by rw [arrV_size]; exact zin_vp hk.2) rfl rfl hd fun H' e1 e2 e3 => ?_
    rw [zarr_set hk.2.2, narrow_byte] at e1
    refine kk _ h H' _ ls (zrep_set (a := a) hP rfl rfl rfl zeoI e2 e3 (fun ci q hq hz => ?_) (fun _ => ?_) (fun hz => by omega) (fun hz => by omega) (fun hz => by omega)) (zS_put hS e2 e3 (hP.2.2.1 a (by rw [hk.1]; decide)).1) hl
    · have := vwCl_lt hq; omega
    · rw [e1]
      congr 2
      funext j
      rw [zuI_at]
      unfold updV
      by_cases e : j = i.toNatClampNeg
      · rw [if_pos e, if_pos e]
      · rw [if_neg e, if_neg e]
  · rw [if_neg hk] at h; cases h
theorem zs_lenB (E : zE Γ cc own nL rm) {a : Nat} (hd : decode cc pc = .ok (.arraylength, 1)) {f : Int32 → Option ρ} (h : oLn σ 20 a f = some R) (kk : ∀ x, f x = some R → zJ Γ nL k n σ (pc + 1) lv (.int x :: st)) : zJ Γ nL k n σ pc lv (.ref a :: st) := by
  intro H locs ls hP hS hl
  unfold oLn at h
  by_cases hk : zk σ a = 20
  · rw [if_pos hk] at h
    exact W.alen E.hx E.hb (hP.2.2.2.2.1 a hk) (zarr_of E (t0 := 0) rfl _ _) (by rw [arrV_size]; rfl) rfl rfl hd (kk _ h H locs ls hP hS hl)
  · rw [if_neg hk] at h; cases h
theorem zs_lenI (E : zE Γ cc own nL rm) {a : Nat} (hd : decode cc pc = .ok (.arraylength, 1)) {f : Int32 → Option ρ} (h : oLn σ 21 a f = some R) (kk : ∀ x, f x = some R → zJ Γ nL k n σ (pc + 1) lv (.int x :: st)) : zJ Γ nL k n σ pc lv (.ref a :: st) := by
  intro H locs ls hP hS hl
  unfold oLn at h
  by_cases hk : zk σ a = 21
  · rw [if_pos hk] at h
    exact W.alen E.hx E.hb (hP.2.2.2.2.2.1 a hk) (zarr_of E (t0 := 1) rfl _ _) (by rw [arrV_size]; rfl) rfl rfl hd (kk _ h H locs ls hP hS hl)
  · rw [if_neg hk] at h; cases h
/-! the static tables: the reference t comes with what it holds -/
def ztb (Γ : zG) (t : Nat) (l : List Int32) : Prop := va_T .int t l.length (fun j => .int (l.getD j 0)) (fun q => zgz Γ ≤ q) (zgs Γ) (zgs Γ).heap
theorem zs_tab (E : zE Γ cc own nL rm) {nm : String} {l : List Int32} (hm : (nm, l) ∈ ztabs) {idx : Nat} (hw : Cond.fieldLink own idx "FrameReel$Unpacker" nm "[I" ∈ wsL_law0) (hd : decode cc pc = .ok (.getstatic idx, 3)) (kk : ∀ t, ztb Γ t l → zJ Γ nL k n σ (pc + 3) lv (.ref t :: st)) : zJ Γ nL k n σ pc lv st := by
  intro H locs ls hP hS hl
  obtain ⟨t, h1, h2⟩ := E.hK.2.2.2.1 _ hm
  exact va_gets E.hx E.hb h1 hS E.ho (E.ht _ hw) (fun _ h => h) hd (kk t h2 H locs ls hP hS hl)
theorem zs_tld (E : zE Γ cc own nL rm) {t : Nat} {l : List Int32} (hT : ztb Γ t l) {i : Int32} (hd : decode cc pc = .ok (.iaload, 1)) {f : Int32 → Option ρ} (h : oLt l i f = some R) (kk : ∀ x, f x = some R → zJ Γ nL k n σ (pc + 1) lv (.int x :: st)) : zJ Γ nL k n σ pc lv (.int i :: .ref t :: st) := by
  intro H locs ls hP hS hl
  unfold oLt at h
  by_cases hk : 0 ≤ i ∧ i.toNatClampNeg < l.length
  · rw [if_pos hk] at h
    exact va_ti E.hx E.hb hT hS (zin_vp hk) rfl hd (kk _ h H locs ls hP hS hl)
  · rw [if_neg hk] at h; cases h
theorem zs_tln (E : zE Γ cc own nL rm) {t : Nat} {l : List Int32} (hT : ztb Γ t l) {v : Int32} (hv : Int32.ofNat l.length = v) (hd : decode cc pc = .ok (.arraylength, 1)) (kk : zJ Γ nL k n σ (pc + 1) lv (.int v :: st)) : zJ Γ nL k n σ pc lv (.ref t :: st) := fun H locs ls hP hS hl => va_tlen E.hx E.hb hT hS hv hd (kk H locs ls hP hS hl)
end ZHEAP2
end
section
theorem zallgood : wsL_law0.all goodWord = true := by decide +kernel
theorem zGood {l : List Cond} (h : ∀ w ∈ l, w ∈ wsL_law0) : GoodIn wsL_law0 l := fun w hw => ⟨h w hw, good_of_word (List.all_eq_true.mp zallgood w (h w hw))⟩
def zQ (D : va_G) (cs : zCs) (z0 : Nat) (v : Option Value) (σ' : zS) : Array Value → State → Outcome → State → Prop := fun _ st oc t => oc = .returned v ∧ zrep D cs z0 σ' t.heap ∧ va_F (fun q => z0 ≤ q) st t
def zP (D : va_G) (cs : zCs) (z0 : Nat) (as : List Value) (σ : zS) : Array Value → State → Prop := va_Pc as (fun U => zrep D cs z0 σ U.heap ∧ zK D cs z0 U)
/-- a method's contract: called with these arguments at this state it returns v, and the state is σ' -/
def zM (l : Launch) (D : va_G) (cs : zCs) (z0 : Nat) (y : MethodName) (bytes : ByteArray) (maxL : Nat) (ret : Option FieldType) (rm : Room) (as : List Value) (σ : zS) (v : Option Value) (σ' : zS) (mc ms : Nat) : Prop :=
  Met l y (Cond.code y bytes maxL ret :: wsL_law0) rm (zP D cs z0 as σ) (zQ D cs z0 v σ') mc ms (fun q => z0 ≤ q)
theorem zK_calling {D : va_G} {cs : zCs} {z0 : Nat} {U : State} {g : JFrame} {mk : MethodId} {a : Array Value} (h : zK D cs z0 U) : zK D cs z0 (U.calling g mk a) := by
  obtain ⟨h1, h2, h3, h4, h5⟩ := h
  refine ⟨va_K.moved (u := U) (U := U.calling g mk a) (Vm.Alike.refl U.vm) h1, fun f hf => va_Nw.same rfl (u := U) (U := U.calling g mk a) rfl (h2 f hf), fun f hf => va_Nw.same rfl (u := U) (U := U.calling g mk a) rfl (h3 f hf), fun q hm => ?_, h5⟩
  obtain ⟨t, a1, b1⟩ := h4 q hm
  exact ⟨t, va_Z.moved (u := U) (U := U.calling g mk a) (Vm.Alike.refl U.vm) a1, va_T.moved (u := U) (U := U.calling g mk a) (Vm.Alike.refl U.vm) b1⟩
theorem zP_blind {D : va_G} {cs : zCs} {z0 : Nat} {as : List Value} {σ : zS} : FrameBlind (zP D cs z0 as σ) := fun _ _ _ _ h => ⟨h.1, h.2.1, zK_calling h.2.2⟩
/-- a callee's words: of an object's method, a static one, a constructor -/
def zYV (C : String) (y : MethodName) (bytes : ByteArray) (maxL : Nat) (ret : Option FieldType) (np : Nat) : Prop := Cond.instanceMethod y ∈ wsL_law0 ∧ Cond.selects C y y ∈ wsL_law0 ∧ Cond.initialized C ∈ wsL_law0 ∧ Cond.code y bytes maxL ret ∈ wsL_law0 ∧ (y.cls = C ∧ y.cls ≠ "java/lang/invoke/MethodHandle" ∧ y.cls ≠ "java/lang/invoke/VarHandle" ∧ (parseMethodDescriptor y.desc).map (fun d => d.parameters.length) = some np)
def zYS (y : MethodName) (bytes : ByteArray) (maxL : Nat) (ret : Option FieldType) (np : Nat) : Prop := Cond.static y ∈ wsL_law0 ∧ Cond.initialized y.cls ∈ wsL_law0 ∧ Cond.code y bytes maxL ret ∈ wsL_law0 ∧ (y.cls ≠ "java/lang/invoke/MethodHandle" ∧ y.cls ≠ "java/lang/invoke/VarHandle" ∧ (parseMethodDescriptor y.desc).map (fun d => d.parameters.length) = some np)
def zYI (y : MethodName) (bytes : ByteArray) (maxL : Nat) (np : Nat) : Prop := Cond.instanceMethod y ∈ wsL_law0 ∧ Cond.initialized y.cls ∈ wsL_law0 ∧ Cond.code y bytes maxL none ∈ wsL_law0 ∧ y.name = "<init>" ∧ (y.cls ≠ "java/lang/invoke/MethodHandle" ∧ y.cls ≠ "java/lang/invoke/VarHandle" ∧ (parseMethodDescriptor y.desc).map (fun d => d.parameters.length) = some np)
section ZCALLS
variable {Γ : zG} {cc : ByteArray} {own : String} {rm : Room} {nL k n pc : Nat} {σ : zS} {lv : List (Nat × Value)} {st : List Value} {ρ : Type} {R : ρ}
theorem zs_call {mc ms : Nat} {v : Option Value} {σ' : zS} {st0 rest : List Value} {a : Array Value}
    (hr : ∀ (H : Heap) (locs : List Loc) (ls : Array Slot), zrep (zgD Γ) (zgC Γ) (zgz Γ) σ H → va_S (fun q => zgz Γ ≤ q) (zgs Γ).heap H locs → lv_has ls nL lv → va_Run (zgp Γ) (zgl Γ) (zge Γ) (zgR Γ) (zgs Γ) (zgm Γ) (zga Γ) (zgb Γ) (zgt Γ) (zgc Γ) H locs k n mc ms (F0 (zgm Γ) pc ls st0) rest (zQ (zgD Γ) (zgC Γ) (zgz Γ) v σ' a) (fun q => zgz Γ ≤ q))
    (kk : zJ Γ nL (k + mc) (n + ms) σ' (pc + 3) lv (v.toList ++ rest)) : zJ Γ nL k n σ pc lv st0 := by
  intro H locs ls hP hS hl T hT X
  obtain ⟨v', st₀, t, T', L, h0, X', hL, e1, e2, ⟨hv, hB, hz, hk⟩, stp⟩ := hr H locs ls hP hS hl T hT X
  cases hv
  rw [h0] at hz hk
  obtain ⟨t2, a1, b1⟩ := kk T'.heap (locs ++ L) ls (by rw [e1]; exact hB)
    ⟨Nat.le_trans hS.1 (by rw [e1]; exact hz), fun q h1 h2 => by rw [e1, hk q (Nat.lt_of_lt_of_le h1 hS.1) h2]; exact hS.2.1 q h1 h2, fun q hq => by
      rcases List.mem_append.mp hq with h | h
      · exact hS.2.2 q h
      · exact hL q h⟩ hl T' rfl X'
  exact ⟨t2, stp t2 a1, b1⟩
theorem zpre (E : zE Γ cc own nL rm) {H : Heap} {locs : List Loc} {as : List Value} (hP : zrep (zgD Γ) (zgC Γ) (zgz Γ) σ H) (hS : va_S (fun q => zgz Γ ≤ q) (zgs Γ).heap H locs) : ∀ U : State, U.heap = H → (zgs Γ).WarmedH U.vm → zP (zgD Γ) (zgC Γ) (zgz Γ) as σ as.toArray U := by
  intro U hU hW
  refine ⟨rfl, by rw [hU]; exact hP, zK_moved E.hK hW (by rw [hU]; exact hS.1) (fun q h1 h2 => by rw [hU]; exact hS.2.1 q h1 h2)⟩
theorem zfix (E : zE Γ cc own nL rm) : CallFix (zgp Γ) (zgm Γ) (zgc Γ) cc nL (zgs Γ) (zga Γ) wsL_law0 own := ⟨E.hx, E.hb, E.hm, E.ho, E.ht⟩
theorem zrecv (E : zE Γ cc own nL rm) {H : Heap} {ci b : Nat} {C : String} {T : u_T} {N : Nat} (hP : zrep (zgD Γ) (zgC Γ) (zgz Γ) σ H) (hC : zC ci C T N) (hb : zk σ b = ci + 1) : ∃ cell : Cell, H[b]? = some cell ∧ cell.vm.isStatics = false ∧ (zgs Γ).vm.findClass C = some cell.cls := va_recv E.hK.1 (zone hP hC.1 hb) hC.1 (q0 := 0) rfl
theorem zs_callV (E : zE Γ cc own nL rm) {ci b idx np : Nat} {C : String} {T : u_T} {N : Nat} (hC : zC ci C T N) {y : MethodName} {bytes : ByteArray} {maxL : Nat} {ret : Option FieldType} {rc : Room} {As rest : List Value} {v : Option Value} {σ' : zS} {mc ms : Nat}
    (hY : zYV C y bytes maxL ret np) (hw : Cond.methodLink own idx y ∈ wsL_law0) (hM : zM (zgl Γ) (zgD Γ) (zgC Γ) (zgz Γ) y bytes maxL ret rc (.ref b :: As) σ v σ' mc ms) (hrc : rc.cells = mc) (hrs : rc.slots = ms)
    (hb : zk σ b = ci + 1) (hn : As.length = np) (hroom : rc.frames + 1 ≤ rm.frames ∧ 8 + (maxL + 11) + rc.locals ≤ rm.locals) (hcs : k + mc ≤ rm.cells ∧ n + ms ≤ rm.slots) (hcat : (rest.map fun v => v.category).sum ≤ 8)
    (hd : decode cc pc = .ok (.invokevirtual idx, 3)) {st0 : List Value} (hst : As.reverse ++ .ref b :: rest = st0) (kk : zJ Γ nL (k + mc) (n + ms) σ' (pc + 3) lv (v.toList ++ rest)) : zJ Γ nL k n σ pc lv st0 := by
  subst hst
  obtain ⟨y1, y2, y3, y4, y5⟩ := hY
  refine zs_call (a := (Value.ref b :: As).toArray) (fun H locs ls hP hS hl => va_runV (zfix E) hM (cwV np E.ht (zGood ?_) rfl hrc hrs y5 (by rw [E.hR]; exact hroom)) ⟨zP_blind, zrecv E hP hC hb, zpre E hP hS⟩ rfl hn hl.1 rfl (lv_room hcat) hd (by rw [E.hR]; exact hcs)) kk
  intro w hw'
  unfold wsV at hw'
  rcases List.mem_append.mp hw' with h | h
  · simp only [List.mem_cons, List.not_mem_nil, or_false] at h
    rcases h with rfl | rfl | rfl | rfl <;> assumption
  · rcases List.mem_cons.mp h with rfl | h
    · exact y4
    · exact h
theorem zs_callS (E : zE Γ cc own nL rm) {idx np : Nat} {y : MethodName} {bytes : ByteArray} {maxL : Nat} {ret : Option FieldType} {rc : Room} {As rest : List Value} {v : Option Value} {σ' : zS} {mc ms : Nat}
    (hY : zYS y bytes maxL ret np) (hw : Cond.methodLink own idx y ∈ wsL_law0) (hM : zM (zgl Γ) (zgD Γ) (zgC Γ) (zgz Γ) y bytes maxL ret rc As σ v σ' mc ms) (hrc : rc.cells = mc) (hrs : rc.slots = ms)
    (hn : As.length = np) (hroom : rc.frames + 1 ≤ rm.frames ∧ 8 + (maxL + 11) + rc.locals ≤ rm.locals) (hcs : k + mc ≤ rm.cells ∧ n + ms ≤ rm.slots) (hcat : (rest.map fun v => v.category).sum ≤ 8)
    (hd : decode cc pc = .ok (.invokestatic idx, 3)) {st0 : List Value} (hst : As.reverse ++ rest = st0) (kk : zJ Γ nL (k + mc) (n + ms) σ' (pc + 3) lv (v.toList ++ rest)) : zJ Γ nL k n σ pc lv st0 := by
  subst hst
  obtain ⟨y1, y2, y3, y4⟩ := hY
  refine zs_call (a := As.toArray) (fun H locs ls hP hS hl => va_runS (zfix E) hM (va_cwS np E.ht (zGood ?_) rfl hrc hrs y4 (by rw [E.hR]; exact hroom)) ⟨zP_blind, zpre E hP hS⟩ rfl hn hl.1 rfl (lv_room hcat) hd (by rw [E.hR]; exact hcs)) kk
  intro w hw'
  unfold va_wsS at hw'
  rcases List.mem_append.mp hw' with h | h
  · simp only [List.mem_cons, List.not_mem_nil, or_false] at h
    rcases h with rfl | rfl | rfl <;> assumption
  · rcases List.mem_cons.mp h with rfl | h
    · exact y3
    · exact h
theorem zs_callI (E : zE Γ cc own nL rm) {b idx np : Nat} {y : MethodName} {bytes : ByteArray} {maxL : Nat} {rc : Room} {As rest : List Value} {v : Option Value} {σ' : zS} {mc ms : Nat}
    (hY : zYI y bytes maxL np) (hw : Cond.methodLink own idx y ∈ wsL_law0) (hM : zM (zgl Γ) (zgD Γ) (zgC Γ) (zgz Γ) y bytes maxL none rc (.ref b :: As) σ v σ' mc ms) (hrc : rc.cells = mc) (hrs : rc.slots = ms)
    (hn : As.length = np) (hroom : rc.frames + 1 ≤ rm.frames ∧ 8 + (maxL + 11) + rc.locals ≤ rm.locals) (hcs : k + mc ≤ rm.cells ∧ n + ms ≤ rm.slots) (hcat : (rest.map fun v => v.category).sum ≤ 8)
    (hd : decode cc pc = .ok (.invokespecial idx, 3)) {st0 : List Value} (hst : As.reverse ++ .ref b :: rest = st0) (kk : zJ Γ nL (k + mc) (n + ms) σ' (pc + 3) lv (v.toList ++ rest)) : zJ Γ nL k n σ pc lv st0 := by
  subst hst
  obtain ⟨y1, y2, y3, y4, y5⟩ := hY
  refine zs_call (a := (Value.ref b :: As).toArray) (fun H locs ls hP hS hl => va_runI (zfix E) hM (cwI np E.ht (zGood ?_) rfl hrc hrs (E.ht _ y2) (E.ht _ hw) (E.ht _ y1) y4 y5 (by rw [E.hR]; exact hroom)) ⟨zP_blind, zpre E hP hS⟩ rfl hn hl.1 rfl (lv_room hcat) hd (by rw [E.hR]; exact hcs)) kk
  intro w h
  rcases List.mem_cons.mp h with rfl | h
  · exact y3
  · exact h
theorem zs_callIN (E : zE Γ cc own nL rm) {b idx np : Nat} {y : MethodName} {host : String} {bytes : ByteArray} {maxL : Nat} {rc : Room} {As rest : List Value} {v : Option Value} {σ' : zS} {mc ms : Nat}
    (hY : zYI y bytes maxL np) (hw : (own, idx, y, host) ∈ znm) (hM : zM (zgl Γ) (zgD Γ) (zgC Γ) (zgz Γ) y bytes maxL none rc (.ref b :: As) σ v σ' mc ms) (hrc : rc.cells = mc) (hrs : rc.slots = ms)
    (hn : As.length = np) (hroom : rc.frames + 1 ≤ rm.frames ∧ 8 + (maxL + 11) + rc.locals ≤ rm.locals) (hcs : k + mc ≤ rm.cells ∧ n + ms ≤ rm.slots) (hcat : (rest.map fun v => v.category).sum ≤ 8)
    (hd : decode cc pc = .ok (.invokespecial idx, 3)) {st0 : List Value} (hst : As.reverse ++ .ref b :: rest = st0) (kk : zJ Γ nL (k + mc) (n + ms) σ' (pc + 3) lv (v.toList ++ rest)) : zJ Γ nL k n σ pc lv st0 := by
  subst hst
  obtain ⟨y1, y2, y3, y4, y5⟩ := hY
  refine zs_call (a := (Value.ref b :: As).toArray) (fun H locs ls hP hS hl => va_runIN (zfix E) hM ⟨va_cnB np E.ht (zGood ?_) rfl hrc hrs (E.hK.2.2.1 _ hw) (E.ht _ y2) y5 (by rw [E.hR]; exact hroom), y4, E.ht _ y1⟩ ⟨zP_blind, zpre E hP hS⟩ rfl hn hl.1 rfl (lv_room hcat) hd (by rw [E.hR]; exact hcs)) kk
  intro w h
  rcases List.mem_cons.mp h with rfl | h
  · exact y3
  · exact h
/-! the end of a method -/
def zretd (bytes : ByteArray) (pc : Nat) (v : Option Value) : Prop := match v with
  | none => decode bytes pc = .ok (.return_, 1)
  | some (.int _) => decode bytes pc = .ok (.ireturn, 1)
  | some (.ref _) => decode bytes pc = .ok (.areturn, 1)
  | some .null => decode bytes pc = .ok (.areturn, 1)
  | _ => False
def zRet (Γ : zG) (bytes : ByteArray) (nL mc ms : Nat) (v : Option Value) (σ' : zS) : Prop := ∀ (pc : Nat) (lv : List (Nat × Value)), zretd bytes pc v → zJ Γ nL mc ms σ' pc lv v.toList
def zvt (ret : Option FieldType) (v : Option Value) : Prop := match v with
  | none => ret = none
  | some (.int b) => ret = some .int ∨ (ret = some .boolean ∧ (b = 0 ∨ b = 1))
  | some (.ref _) => ∃ C, ret = some (.object C)
  | some .null => ∃ C, ret = some (.object C)
  | _ => False
theorem zM_of {l : Launch} {D : va_G} {cs : zCs} {z0 : Nat} {y : MethodName} {bytes : ByteArray} {maxL : Nat} {ret : Option FieldType} {rc : Room} {as : List Value} {σ : zS} {v : Option Value} {σ' : zS} {mc ms : Nat} {own : String} {lv : List (Nat × Value)}
    (hy : plainName y.cls = true) (hown : y.cls = own) (hv : zvt ret v) (hlen : (lg_sl as).length ≤ maxL) (hlv : lv_args 0 as = lv)
    (body : ∀ Γ : zG, zgl Γ = l → zgD Γ = D → zgC Γ = cs → zgz Γ = z0 → zE Γ bytes own maxL rc → (zgt Γ).name = y.name → zRet Γ bytes maxL mc ms v σ' → zJ Γ maxL 0 0 σ 0 lv []) : zM l D cs z0 y bytes maxL ret rc as σ v σ' mc ms := by
  refine Met.ofW (cc := bytes) (maxL := maxL) (ret := ret) hy rfl ?_
  intro p e s m args below meth c s₁ B hml hv'
  obtain ⟨rfl, hP, hK⟩ := hv'
  have hts := atoms_spec (ws := Cond.code y bytes maxL ret :: wsL_law0) B.pre
  have hl := lv_entry as (n := maxL) hlen
  rw [hlv] at hl
  have hlocks := B.notSynchronized
  have hr := B.returns
  rw [lg_entry_eq]
  refine body (p, l, e, rc, s, m, as.toArray, below, meth, c, MQ below (zQ D cs z0 v σ') as.toArray s mc ms (fun q => z0 ≤ q), D, cs, z0) rfl rfl rfl rfl ⟨B.exec, B.bytes, by rw [← hown]; exact findClass_of_methodNamed B.named, hml, fun w hw => hts w (List.mem_cons_of_mem _ hw), hK, rfl⟩ (name_of_methodNamed B.named B.method).1 ?_ _ _ _ hP va_S.rf hl
  intro pc lv hd H locs ls hP hS hl
  have hq : ∀ t : State, t.heap = H → s.WarmedH t.vm → zQ D cs z0 v σ' as.toArray s (.returned v) t := fun t ht _ => ⟨rfl, by rw [ht]; exact hP, hS.F ht⟩
  match v, hv, hd, hq with
  | none, hv, hd, hq => exact W.vret B.exec B.bytes (by rw [hr]; exact hv) hq hS.2.2 hd
  | some (.int b), hv, hd, hq =>
    rcases hv with hv | ⟨hv, hb⟩
    · exact W.iret B.exec B.bytes (by rw [hr]; exact hv) hq hS.2.2 hd
    · exact W.zret B.exec B.bytes (by rw [hr]; exact hv) (zbool hb).1 hq hS.2.2 hd
  | some (.ref a), hv, hd, hq =>
    obtain ⟨C, hv⟩ := hv
    exact W.aret B.exec B.bytes (by rw [hr]; exact hv) (Or.inl ⟨C, rfl⟩) (Or.inr ⟨a, rfl⟩) hq hS.2.2 hd
  | some .null, hv, hd, hq =>
    obtain ⟨C, hv⟩ := hv
    exact W.aret B.exec B.bytes (by rw [hr]; exact hv) (Or.inl ⟨C, rfl⟩) (Or.inl rfl) hq hS.2.2 hd
end ZCALLS
end
section
/-! MORE ROWS: names for stored values, switches, null, arraycopy, abs -/
def oC {α ρ : Type} (x : Option (α × zS)) (f : α → zS → Option ρ) : Option ρ := match x with
  | none => none
  | some a => f a.1 a.2
theorem oC_some {α ρ : Type} {x : Option (α × zS)} {f : α → zS → Option ρ} {R : ρ} (h : oC x f = some R) : ∃ a s, x = some (a, s) ∧ f a s = some R := by
  cases x with
  | none => cases h
  | some a => exact ⟨a.1, a.2, rfl, h⟩
def oS {α β ρ : Type} (x : α ⊕ β) (f : α → Option ρ) (g : β → Option ρ) : Option ρ := match x with
  | .inl a => f a
  | .inr b => g b
def oN {ρ : Type} (x : Option Nat) (f : Option ρ) (g : Nat → Option ρ) : Option ρ := match x with
  | none => f
  | some a => g a
def zcp (f : Nat → Nat → Int32) (s sp d dp n : Nat) : Nat → Nat → Int32 := fun b j => if b = d ∧ dp ≤ j ∧ j < dp + n then f s (sp + (j - dp)) else f b j
def zuC (σ : zS) (s sp d dp n : Nat) : zS := (σ.1, σ.2.1, zcp σ.2.2.1 s sp d dp n, σ.2.2.2)
def oCp {ρ : Type} (σ : zS) (s : Nat) (sp : Int32) (d : Nat) (dp n : Int32) (f : zS → Option ρ) : Option ρ := if zk σ s = 21 ∧ zk σ d = 21 ∧ 0 ≤ sp ∧ 0 ≤ dp ∧ 0 ≤ n ∧ sp.toNatClampNeg + n.toNatClampNeg ≤ zn σ s ∧ dp.toNatClampNeg + n.toNatClampNeg ≤ zn σ d then f (zuC σ s sp.toNatClampNeg d dp.toNatClampNeg n.toNatClampNeg) else none
def zabs (x : Int32) : Int32 := if 0 ≤ x then x else 0 - x
section ZMORE
variable {Γ : zG} {cc : ByteArray} {own : String} {rm : Room} {nL k n pc : Nat} {σ : zS} {lv : List (Nat × Value)} {st : List Value} {ρ : Type} {R : ρ}
theorem zs_istore_n (E : zE Γ cc own nL rm) {i : Nat} {x : Int32} {fi : Fin 4} {lv2 : Int32 → List (Nat × Value)} (hd : decode cc pc = .ok (.istore_n fi, 1)) (hi : (fi : Nat) = i) (hn : i < nL) (hl2 : ∀ v, (i, Value.int v) :: lv.filter (fun q => !(q.1 == i) && !(q.1 + 1 == i && q.2.category == 2)) = lv2 v) {f : Int32 → Option ρ} (h : oL x f = some R) (kk : ∀ v, f v = some R → zJ Γ nL k n σ (pc + 1) (lv2 v) st) : zJ Γ nL k n σ pc lv (.int x :: st) := zj_istore_n E hd hi hn (hl2 x) (kk x h)
theorem zs_istore (E : zE Γ cc own nL rm) {i : Nat} {x : Int32} {lv2 : Int32 → List (Nat × Value)} (hd : decode cc pc = .ok (.istore i, 2)) (hn : i < nL) (hl2 : ∀ v, (i, Value.int v) :: lv.filter (fun q => !(q.1 == i) && !(q.1 + 1 == i && q.2.category == 2)) = lv2 v) {f : Int32 → Option ρ} (h : oL x f = some R) (kk : ∀ v, f v = some R → zJ Γ nL k n σ (pc + 2) (lv2 v) st) : zJ Γ nL k n σ pc lv (.int x :: st) := zj_istore E hd hn (hl2 x) (kk x h)
theorem zs_iinc (E : zE Γ cc own nL rm) {i : Nat} {c : Int} {x c' : Int32} {lv2 : Int32 → List (Nat × Value)} (hd : decode cc pc = .ok (.iinc i c, 3)) (q : Nat) (hq : lv[q]? = some (i, .int x)) (hc : c' = Int32.ofInt c) (hn : i < nL) (hl2 : ∀ v, (i, Value.int v) :: lv.filter (fun q => !(q.1 == i) && !(q.1 + 1 == i && q.2.category == 2)) = lv2 v) {f : Int32 → Option ρ} (h : oL (x + c') f = some R) (kk : ∀ v, f v = some R → zJ Γ nL k n σ (pc + 3) (lv2 v) st) : zJ Γ nL k n σ pc lv st := zj_iinc E hd q hq (x + c') (by rw [hc]) hn (hl2 _) (kk _ h)
theorem zj_tIn (E : zE Γ cc own nL rm) {x a : Int32} {dflt lo hi : Int} {offs : Array Int} {len : Nat} {off : Int} {tgt : Nat} (e : x = a) (hd : decode cc pc = .ok (.tableswitch dflt lo hi offs, len)) (h1 : ¬ a.toInt < lo) (h2 : ¬ hi < a.toInt) (ho : offs[(a.toInt - lo).toNat]? = some off) (ht : (pc : Int) + off = (tgt : Int)) (kk : zJ Γ nL k n σ tgt lv st) : zJ Γ nL k n σ pc lv (.int x :: st) := by
  subst e
  exact fun H locs ls hP hS hl => lv_tableIn E.hx E.hb hd h1 h2 ho ht (kk H locs ls hP hS hl)
theorem zj_tOut (E : zE Γ cc own nL rm) {x : Int32} {dflt lo hi : Int} {offs : Array Int} {len : Nat} {tgt : Nat} (hd : decode cc pc = .ok (.tableswitch dflt lo hi offs, len)) (h : x.toInt < lo ∨ hi < x.toInt) (ht : (pc : Int) + dflt = (tgt : Int)) (kk : zJ Γ nL k n σ tgt lv st) : zJ Γ nL k n σ pc lv (.int x :: st) :=
  fun H locs ls hP hS hl => lv_tableOut E.hx E.hb hd h ht (kk H locs ls hP hS hl)
theorem zj_lIn (E : zE Γ cc own nL rm) {x a : Int32} {dflt : Int} {ps : Array (Int × Int)} {len : Nat} {off : Int} {tgt : Nat} (e : x = a) (hd : decode cc pc = .ok (.lookupswitch dflt ps, len)) (hp : (ps.toList.zip (ps.toList.drop 1)).all (fun (a, next) => a.1 < next.1) = true) (ho : Op.lookupswitch.offset ps.toList dflt a.toInt = off) (ht : (pc : Int) + off = (tgt : Int)) (kk : zJ Γ nL k n σ tgt lv st) : zJ Γ nL k n σ pc lv (.int x :: st) := by
  subst e
  exact fun H locs ls hP hS hl => lv_lookup E.hx E.hb hd hp ho ht (kk H locs ls hP hS hl)
theorem zj_lOut (E : zE Γ cc own nL rm) {x : Int32} {dflt : Int} {ps : Array (Int × Int)} {len : Nat} {tgt : Nat} (hd : decode cc pc = .ok (.lookupswitch dflt ps, len)) (hp : (ps.toList.zip (ps.toList.drop 1)).all (fun (a, next) => a.1 < next.1) = true) (ho : Op.lookupswitch.offset ps.toList dflt x.toInt = dflt) (ht : (pc : Int) + dflt = (tgt : Int)) (kk : zJ Γ nL k n σ tgt lv st) : zJ Γ nL k n σ pc lv (.int x :: st) :=
  fun H locs ls hP hS hl => lv_lookup E.hx E.hb hd hp ho ht (kk H locs ls hP hS hl)
theorem zs_abs (E : zE Γ cc own nL rm) {idx : Nat} {x : Int32} (hw : Cond.methodLink own idx Lib.Math.abs.name ∈ wsL_law0) (hs : Cond.static Lib.Math.abs.name ∈ wsL_law0) (hi : Cond.initialized "java/lang/Math" ∈ wsL_law0) (hc : Cond.code Lib.Math.abs.name Lib.Math.abs.code 1 (some .int) ∈ wsL_law0) (h1 : 1 ≤ rm.frames) (h2 : (st.map fun v => v.category).sum + 13 ≤ rm.locals) (hd : decode cc pc = .ok (.invokestatic idx, 3)) (hcs : k ≤ rm.cells ∧ n ≤ rm.slots) {f : Int32 → Option ρ} (h : oL (zabs x) f = some R) (kk : ∀ v, f v = some R → zJ Γ nL k n σ (pc + 3) lv (.int v :: st)) : zJ Γ nL k n σ pc lv (.int x :: st) := by
  intro H locs ls hP hS hl
  refine va_mabs E.hx E.hb (by rw [E.hm, hl.1]) E.ho (E.ht _ hw) (E.ht _ hs) (E.ht _ hi) (E.ht _ hc) (by rw [E.hR]; exact h1) (by rw [E.hR]; exact h2) (by rw [E.hR]; exact hcs.1) (by rw [E.hR]; exact hcs.2) hd ?_
  exact kk _ h H locs ls hP hS hl
theorem zuC_ne {s sp d dp m b j : Nat} (h : b ≠ d) : zi (zuC σ s sp d dp m) b j = zi σ b j := by
  show zcp _ _ _ _ _ _ _ _ = _
  unfold zcp
  rw [if_neg (fun q => h q.1)]; rfl
theorem zuC_at {s sp d dp m j : Nat} : zi (zuC σ s sp d dp m) d j = va_cpy (zi σ s) (zi σ d) sp dp m j := by
  show zcp _ _ _ _ _ _ _ _ = _
  unfold zcp va_cpy
  by_cases e : dp ≤ j ∧ j < dp + m
  · rw [if_pos ⟨rfl, e⟩, if_pos e]; rfl
  · rw [if_neg (fun q => e q.2), if_neg e]; rfl
theorem znn {z : Int32} (h : 0 ≤ z) : ¬ z < 0 ∧ z.toInt = (z.toNatClampNeg : Int) := by
  have hz : ¬ z < 0 := Int32.not_lt.mpr h
  refine ⟨hz, ?_⟩
  have hz0 : (0 : Int) ≤ z.toInt := by simpa using Int32.le_iff_toInt_le.mp h
  show z.toInt = ((z.toInt.toNat : Nat) : Int)
  omega
theorem zs_copy (E : zE Γ cc own nL rm) {idx s d : Nat} {sp dp m : Int32} (hw : Cond.methodLink own idx arraycopyName ∈ wsL_law0) (hnat : Cond.native arraycopyName ∈ wsL_law0) (hs : Cond.static arraycopyName ∈ wsL_law0) (hi : Cond.initialized "java/lang/System" ∈ wsL_law0) (h1 : 1 ≤ rm.frames) (h2 : (st.map fun v => v.category).sum + (nativeFrameWords "java/lang/System" "arraycopy" 5 + 11) ≤ rm.locals) (hd : decode cc pc = .ok (.invokestatic idx, 3)) {f : zS → Option ρ} (h : oCp σ s sp d dp m f = some R) (kk : ∀ σ, f σ = some R → zJ Γ nL k n σ (pc + 3) lv st) : zJ Γ nL k n σ pc lv (.int m :: .int dp :: .ref d :: .int sp :: .ref s :: st) := by
  intro H locs ls hP hS hl T hT X
  unfold oCp at h
  by_cases hk : zk σ s = 21 ∧ zk σ d = 21 ∧ 0 ≤ sp ∧ 0 ≤ dp ∧ 0 ≤ m ∧ sp.toNatClampNeg + m.toNatClampNeg ≤ zn σ s ∧ dp.toNatClampNeg + m.toNatClampNeg ≤ zn σ d
  · rw [if_pos hk] at h
    obtain ⟨k1, k2, k3, k4, k5, k6, k7⟩ := hk
    have hc0 : H[s]? = some (arrV (zgC Γ).2.1 (zn σ s) (fun j => .int (zi σ s j))) := hP.2.2.2.2.2.1 s k1
    have hc1 : H[d]? = some (arrV (zgC Γ).2.1 (zn σ d) (fun j => .int (zi σ d j))) := hP.2.2.2.2.2.1 d k2
    obtain ⟨-, q0, hk0, cm0, hkk0⟩ := zarr_of E (t0 := 1) rfl (zn σ s) (fun j => .int (zi σ s j))
    obtain ⟨-, q1, hk1, cm1, hkk1⟩ := zarr_of E (t0 := 1) rfl (zn σ d) (fun j => .int (zi σ d j))
    obtain ⟨vm', X', step⟩ := X.arraycopy E.hx E.ho (E.ht _ hw) (E.ht _ hnat) (E.ht _ hs) (E.ht _ hi) (src := s) (dst := d) (cs := arrV (zgC Γ).2.1 (zn σ s) (fun j => .int (zi σ s j))) (cd := arrV (zgC Γ).2.1 (zn σ d) (fun j => .int (zi σ d j))) (srcPos := sp) (destPos := dp) (n := m) (by rw [hT]; exact hc0) (by rw [hT]; exact hc1)
      (fun _ h => by cases h) (fun _ h => by cases h) (fun h => by cases h) (fun h => by cases h) hk0 hk1 hkk0 hkk1 (by simp [refKind]) (znn k3).1 (znn k4).1 (znn k5).1
      (by rw [(znn k3).2, (znn k5).2, arrV_size]; omega)
      (by rw [(znn k4).2, (znn k5).2, arrV_size]; omega)
      (fun vm₁ _ i hi => by
        have e : (arrV (zgC Γ).2.1 (zn σ s) (fun j => .int (zi σ s j))).slots.getD (sp.toNatClampNeg + i) .null = .int (zi σ s (sp.toNatClampNeg + i)) := by
          rw [Array.getD_eq_getD_getElem?, arrV_read _ _ (by omega)]
          rfl
        refine ⟨?_, ?_⟩
        · rw [e]; rfl
        · rw [e]; exact trivial)
      (g := F0 (zgm Γ) pc ls (.int m :: .int dp :: .ref d :: .int sp :: .ref s :: st)) rfl (by rw [E.hm]; exact hl.1) (rest := st) rfl (by rw [E.hb]; exact hd) (by rw [E.hR]; exact h1) (by rw [E.hR]; show 2 * 0 + _ + _ ≤ _; omega)
    have e1 : copied (arrV (zgC Γ).2.1 (zn σ s) (fun j => .int (zi σ s j))) (arrV (zgC Γ).2.1 (zn σ d) (fun j => .int (zi σ d j))) sp dp m = arrV (zgC Γ).2.1 (zn σ d) (fun j => .int (va_cpy (zi σ s) (zi σ d) sp.toNatClampNeg dp.toNatClampNeg m.toNatClampNeg j)) := va_copied (fun z => .int z) (zgC Γ).2.1 (zgC Γ).2.1 (zi σ s) (zi σ d) k6
    rw [e1] at X' step
    have hlt : d < H.size := (Array.getElem?_eq_some_iff.mp hc1).1
    have hheap : ((T.setVm vm').setCell d (arrV (zgC Γ).2.1 (zn σ d) (fun j => .int (va_cpy (zi σ s) (zi σ d) sp.toNatClampNeg dp.toNatClampNeg m.toNatClampNeg j)))).heap = H.setIfInBounds d (arrV (zgC Γ).2.1 (zn σ d) (fun j => .int (va_cpy (zi σ s) (zi σ d) sp.toNatClampNeg dp.toNatClampNeg m.toNatClampNeg j))) := by rw [← hT]; rfl
    generalize eC : arrV (zgC Γ).2.1 (zn σ d) (fun j => .int (va_cpy (zi σ s) (zi σ d) sp.toNatClampNeg dp.toNatClampNeg m.toNatClampNeg j)) = cN at X' step hheap
    have oq : ∀ q : Nat, q ≠ d → (H.setIfInBounds d cN)[q]? = H[q]? := fun q hq => by simp [Array.getElem?_setIfInBounds, Ne.symm hq]
    have oz : (H.setIfInBounds d cN).size = H.size := by simp
    have od : (H.setIfInBounds d cN)[d]? = some cN := by simp [Array.getElem?_setIfInBounds, hlt]
    have hd0 : zgz Γ ≤ d := (hP.2.2.1 d (by rw [k2]; decide)).1
    have hrep : zrep (zgD Γ) (zgC Γ) (zgz Γ) (zuC σ s sp.toNatClampNeg d dp.toNatClampNeg m.toNatClampNeg) (H.setIfInBounds d cN) := by
      refine zrep_set (a := d) hP rfl rfl rfl (fun b j hb => ⟨zuC_ne hb, rfl, rfl⟩) oz oq (fun ci q hq hz => ?_) (fun hz => by omega) (fun _ => ?_) (fun hz => by omega) (fun hz => by omega)
      · have := vwCl_lt hq; omega
      · rw [od, ← eC]
        congr 2
        funext j
        rw [zuC_at]
    obtain ⟨t, a1, b1⟩ := kk _ h _ _ ls hrep ⟨by rw [oz]; exact hS.1, fun q g1 g2 => by
        rw [oq q (fun e => g2 (by rw [e]; exact hd0))]
        exact hS.2.1 q g1 g2, fun q hq => by
        rcases List.mem_append.mp hq with h | h
        · exact hS.2.2 q h
        · obtain ⟨z, -, hz⟩ := List.mem_map.mp h
          rw [← hz]
          exact hd0⟩ hl _ hheap X'
    exact ⟨t, step t a1, b1⟩
  · rw [if_neg hk] at h; cases h
/-! null -/
theorem zj_null (E : zE Γ cc own nL rm) (hd : decode cc pc = .ok (.aconst_null, 1)) (kk : zJ Γ nL k n σ (pc + 1) lv (va_rf none :: st)) : zJ Γ nL k n σ pc lv st := fun H locs ls hP hS hl => lv_null E.hx E.hb hd (kk H locs ls hP hS hl)
theorem zj_astore_nQ {lv2 : List (Nat × Value)} (E : zE Γ cc own nL rm) {i : Nat} {x : Option Nat} {f : Fin 4} (hd : decode cc pc = .ok (.astore_n f, 1)) (hi : (f : Nat) = i) (hn : i < nL) (hl2 : (i, va_rf x) :: lv.filter (fun q => !(q.1 == i) && !(q.1 + 1 == i && q.2.category == 2)) = lv2) (kk : zJ Γ nL k n σ (pc + 1) lv2 st) : zJ Γ nL k n σ pc lv (va_rf x :: st) := by
  cases x with
  | none => exact fun H locs ls hP hS hl => lv_astore_nN E.hx E.hb hd hi hl hn hl2 (fun ls' h' => kk H locs ls' hP hS h')
  | some a => exact zj_astore_n E hd hi hn hl2 kk
theorem zj_astoreQ {lv2 : List (Nat × Value)} (E : zE Γ cc own nL rm) {i : Nat} {x : Option Nat} (hd : decode cc pc = .ok (.astore i, 2)) (hn : i < nL) (hl2 : (i, va_rf x) :: lv.filter (fun q => !(q.1 == i) && !(q.1 + 1 == i && q.2.category == 2)) = lv2) (kk : zJ Γ nL k n σ (pc + 2) lv2 st) : zJ Γ nL k n σ pc lv (va_rf x :: st) := by
  cases x with
  | none => exact fun H locs ls hP hS hl => lv_astoreN E.hx E.hb hd hl hn hl2 (fun ls' h' => kk H locs ls' hP hS h')
  | some a => exact zj_astore E hd hn hl2 kk
theorem zj_aload_nQ (E : zE Γ cc own nL rm) {f : Fin 4} {i : Nat} {x : Option Nat} (hd : decode cc pc = .ok (.aload_n f, 1)) (hi : (f : Nat) = i) (q : Nat) (hq : lv[q]? = some (i, va_rf x)) (kk : zJ Γ nL k n σ (pc + 1) lv (va_rf x :: st)) : zJ Γ nL k n σ pc lv st := by
  cases x with
  | none => exact fun H locs ls hP hS hl => lv_aload_nN E.hx E.hb hd hi (lv_at hl q hq) (kk H locs ls hP hS hl)
  | some a => exact zj_aload_n E hd hi q hq kk
theorem zj_aloadQ (E : zE Γ cc own nL rm) {i : Nat} {x : Option Nat} (hd : decode cc pc = .ok (.aload i, 2)) (q : Nat) (hq : lv[q]? = some (i, va_rf x)) (kk : zJ Γ nL k n σ (pc + 2) lv (va_rf x :: st)) : zJ Γ nL k n σ pc lv st := by
  cases x with
  | none => exact fun H locs ls hP hS hl => lv_aloadN E.hx E.hb hd (lv_at hl q hq) (kk H locs ls hP hS hl)
  | some a => exact zj_aload E hd q hq kk
theorem zs_nonnull (E : zE Γ cc own nL rm) {x : Option Nat} {off : Int} {tgt : Nat} (hd : decode cc pc = .ok (.ifnonnull off, 3)) (ht : (pc : Int) + off = (tgt : Int)) {f : Option ρ} {g : Nat → Option ρ} (h : oN x f g = some R) (kn : x = none → f = some R → zJ Γ nL k n σ (pc + 3) lv st) (ks : ∀ a, x = some a → g a = some R → zJ Γ nL k n σ tgt lv st) : zJ Γ nL k n σ pc lv (va_rf x :: st) := by
  cases x with
  | none => exact fun H locs ls hP hS hl => lv_ifnonnullN E.hx E.hb hd (kn rfl h H locs ls hP hS hl)
  | some a => exact fun H locs ls hP hS hl => lv_ifnonnull E.hx E.hb hd ht (ks a rfl h H locs ls hP hS hl)
theorem zretq {bytes : ByteArray} (x : Option Nat) (h : decode bytes pc = .ok (.areturn, 1)) : zretd bytes pc (some (va_rf x)) := by cases x <;> exact h
theorem zvtq (C : String) (x : Option Nat) : zvt (some (.object C)) (some (va_rf x)) := by cases x <;> exact ⟨C, rfl⟩
end ZMORE
end
section
theorem zz_end : True := trivial
end
