section
/-- a private method of a class that the tables say can be made, by its rows of tables_1 -/
def lw_okq (q : MethodName × Nat) : Prop := (q.1.cls ≠ "java/lang/invoke/MethodHandle" ∧ q.1.cls ≠ "java/lang/invoke/VarHandle") ∧ Cond.instantiable q.1.cls q.2 ∈ tables_1 ∧ Cond.privateMethod q.1 ∈ tables_1 ∧ Cond.instanceMethod q.1 ∈ tables_1
theorem lw_p0 : lw_okq (⟨"SoundShelf$Reader", "takeHead", "()Z"⟩, 12) := ⟨⟨by decide +kernel, by decide +kernel⟩, List.mem_of_getElem? (i := 158) (by decide +kernel), List.mem_of_getElem? (i := 250) (by decide +kernel), List.mem_of_getElem? (i := 251) (by decide +kernel)⟩
theorem lw_p1 : lw_okq (⟨"SoundShelf$Reader", "takeId", "(I)Z"⟩, 12) := ⟨⟨by decide +kernel, by decide +kernel⟩, List.mem_of_getElem? (i := 158) (by decide +kernel), List.mem_of_getElem? (i := 269) (by decide +kernel), List.mem_of_getElem? (i := 270) (by decide +kernel)⟩
theorem lw_p2 : lw_okq (⟨"SoundShelf$Reader", "take", "(IJ)Z"⟩, 12) := ⟨⟨by decide +kernel, by decide +kernel⟩, List.mem_of_getElem? (i := 158) (by decide +kernel), List.mem_of_getElem? (i := 273) (by decide +kernel), List.mem_of_getElem? (i := 274) (by decide +kernel)⟩
theorem lw_p3 : lw_okq (⟨"SoundShelf$Reader", "isAtSamples", "()Z"⟩, 12) := ⟨⟨by decide +kernel, by decide +kernel⟩, List.mem_of_getElem? (i := 158) (by decide +kernel), List.mem_of_getElem? (i := 280) (by decide +kernel), List.mem_of_getElem? (i := 281) (by decide +kernel)⟩
theorem lw_p4 : lw_okq (⟨"SoundShelf$Reader", "takeChunk", "()Z"⟩, 12) := ⟨⟨by decide +kernel, by decide +kernel⟩, List.mem_of_getElem? (i := 158) (by decide +kernel), List.mem_of_getElem? (i := 286) (by decide +kernel), List.mem_of_getElem? (i := 287) (by decide +kernel)⟩
theorem lw_p5 : lw_okq (⟨"SoundShelf$Reader", "takeComm", "()Z"⟩, 12) := ⟨⟨by decide +kernel, by decide +kernel⟩, List.mem_of_getElem? (i := 158) (by decide +kernel), List.mem_of_getElem? (i := 291) (by decide +kernel), List.mem_of_getElem? (i := 292) (by decide +kernel)⟩
theorem lw_p6 : lw_okq (⟨"SoundShelf$Reader", "takeSize", "(J)Z"⟩, 12) := ⟨⟨by decide +kernel, by decide +kernel⟩, List.mem_of_getElem? (i := 158) (by decide +kernel), List.mem_of_getElem? (i := 296) (by decide +kernel), List.mem_of_getElem? (i := 297) (by decide +kernel)⟩
theorem lw_p7 : lw_okq (⟨"SoundShelf$Reader", "takeWithin", "(IJJ)Z"⟩, 12) := ⟨⟨by decide +kernel, by decide +kernel⟩, List.mem_of_getElem? (i := 158) (by decide +kernel), List.mem_of_getElem? (i := 302) (by decide +kernel), List.mem_of_getElem? (i := 303) (by decide +kernel)⟩
theorem lw_p8 : lw_okq (⟨"SoundShelf$Reader", "takeLongRate", "()Z"⟩, 12) := ⟨⟨by decide +kernel, by decide +kernel⟩, List.mem_of_getElem? (i := 158) (by decide +kernel), List.mem_of_getElem? (i := 307) (by decide +kernel), List.mem_of_getElem? (i := 308) (by decide +kernel)⟩
theorem lw_p9 : lw_okq (⟨"SoundShelf$Reader", "takeFmt", "()Z"⟩, 12) := ⟨⟨by decide +kernel, by decide +kernel⟩, List.mem_of_getElem? (i := 158) (by decide +kernel), List.mem_of_getElem? (i := 315) (by decide +kernel), List.mem_of_getElem? (i := 316) (by decide +kernel)⟩
theorem lw_p10 : lw_okq (⟨"SoundShelf$Reader", "takeAlign", "()Z"⟩, 12) := ⟨⟨by decide +kernel, by decide +kernel⟩, List.mem_of_getElem? (i := 158) (by decide +kernel), List.mem_of_getElem? (i := 325) (by decide +kernel), List.mem_of_getElem? (i := 326) (by decide +kernel)⟩
theorem lw_p11 : lw_okq (⟨"SoundShelf$Reader", "takeMoreOfFmt", "()Z"⟩, 12) := ⟨⟨by decide +kernel, by decide +kernel⟩, List.mem_of_getElem? (i := 158) (by decide +kernel), List.mem_of_getElem? (i := 356) (by decide +kernel), List.mem_of_getElem? (i := 357) (by decide +kernel)⟩
theorem lw_p12 : lw_okq (⟨"SoundShelf$Reader", "isSpeedRight", "(I)Z"⟩, 12) := ⟨⟨by decide +kernel, by decide +kernel⟩, List.mem_of_getElem? (i := 158) (by decide +kernel), List.mem_of_getElem? (i := 373) (by decide +kernel), List.mem_of_getElem? (i := 374) (by decide +kernel)⟩
theorem lw_p13 : lw_okq (⟨"SoundShelf$Reader", "takeFact", "()Z"⟩, 12) := ⟨⟨by decide +kernel, by decide +kernel⟩, List.mem_of_getElem? (i := 158) (by decide +kernel), List.mem_of_getElem? (i := 382) (by decide +kernel), List.mem_of_getElem? (i := 383) (by decide +kernel)⟩
theorem lw_p14 : lw_okq (⟨"SoundShelf$Reader", "passOver", "()Z"⟩, 12) := ⟨⟨by decide +kernel, by decide +kernel⟩, List.mem_of_getElem? (i := 158) (by decide +kernel), List.mem_of_getElem? (i := 387) (by decide +kernel), List.mem_of_getElem? (i := 388) (by decide +kernel)⟩
theorem lw_p15 : lw_okq (⟨"SoundShelf$Reader", "takeByteBehind", "(J)Z"⟩, 12) := ⟨⟨by decide +kernel, by decide +kernel⟩, List.mem_of_getElem? (i := 158) (by decide +kernel), List.mem_of_getElem? (i := 391) (by decide +kernel), List.mem_of_getElem? (i := 392) (by decide +kernel)⟩
def lw_privs_1 : List (MethodName × Nat) := [(⟨"SoundShelf$Reader", "takeHead", "()Z"⟩, 12), (⟨"SoundShelf$Reader", "takeId", "(I)Z"⟩, 12), (⟨"SoundShelf$Reader", "take", "(IJ)Z"⟩, 12), (⟨"SoundShelf$Reader", "isAtSamples", "()Z"⟩, 12), (⟨"SoundShelf$Reader", "takeChunk", "()Z"⟩, 12), (⟨"SoundShelf$Reader", "takeComm", "()Z"⟩, 12), (⟨"SoundShelf$Reader", "takeSize", "(J)Z"⟩, 12), (⟨"SoundShelf$Reader", "takeWithin", "(IJJ)Z"⟩, 12), (⟨"SoundShelf$Reader", "takeLongRate", "()Z"⟩, 12), (⟨"SoundShelf$Reader", "takeFmt", "()Z"⟩, 12), (⟨"SoundShelf$Reader", "takeAlign", "()Z"⟩, 12), (⟨"SoundShelf$Reader", "takeMoreOfFmt", "()Z"⟩, 12), (⟨"SoundShelf$Reader", "isSpeedRight", "(I)Z"⟩, 12), (⟨"SoundShelf$Reader", "takeFact", "()Z"⟩, 12), (⟨"SoundShelf$Reader", "passOver", "()Z"⟩, 12), (⟨"SoundShelf$Reader", "takeByteBehind", "(J)Z"⟩, 12)]
theorem lw_r1 : ∀ q ∈ lw_privs_1, lw_okq q := List.forall_mem_cons.mpr ⟨lw_p0, List.forall_mem_cons.mpr ⟨lw_p1, List.forall_mem_cons.mpr ⟨lw_p2, List.forall_mem_cons.mpr ⟨lw_p3, List.forall_mem_cons.mpr ⟨lw_p4, List.forall_mem_cons.mpr ⟨lw_p5, List.forall_mem_cons.mpr ⟨lw_p6, List.forall_mem_cons.mpr ⟨lw_p7, List.forall_mem_cons.mpr ⟨lw_p8, List.forall_mem_cons.mpr ⟨lw_p9, List.forall_mem_cons.mpr ⟨lw_p10, List.forall_mem_cons.mpr ⟨lw_p11, List.forall_mem_cons.mpr ⟨lw_p12, List.forall_mem_cons.mpr ⟨lw_p13, List.forall_mem_cons.mpr ⟨lw_p14, List.forall_mem_cons.mpr ⟨lw_p15, fun _ h => absurd h List.not_mem_nil⟩⟩⟩⟩⟩⟩⟩⟩⟩⟩⟩⟩⟩⟩⟩⟩
theorem lw_p16 : lw_okq (⟨"SoundShelf$Reader", "takeSsnd", "()Z"⟩, 12) := ⟨⟨by decide +kernel, by decide +kernel⟩, List.mem_of_getElem? (i := 158) (by decide +kernel), List.mem_of_getElem? (i := 395) (by decide +kernel), List.mem_of_getElem? (i := 396) (by decide +kernel)⟩
theorem lw_p17 : lw_okq (⟨"SoundShelf$Reader", "takeData", "()Z"⟩, 12) := ⟨⟨by decide +kernel, by decide +kernel⟩, List.mem_of_getElem? (i := 158) (by decide +kernel), List.mem_of_getElem? (i := 403) (by decide +kernel), List.mem_of_getElem? (i := 404) (by decide +kernel)⟩
theorem lw_p18 : lw_okq (⟨"SoundShelf$Reader", "samplesOfPlain", "(J)I"⟩, 12) := ⟨⟨by decide +kernel, by decide +kernel⟩, List.mem_of_getElem? (i := 158) (by decide +kernel), List.mem_of_getElem? (i := 407) (by decide +kernel), List.mem_of_getElem? (i := 408) (by decide +kernel)⟩
theorem lw_p19 : lw_okq (⟨"SoundShelf$Reader", "takePlain", "()V"⟩, 12) := ⟨⟨by decide +kernel, by decide +kernel⟩, List.mem_of_getElem? (i := 158) (by decide +kernel), List.mem_of_getElem? (i := 418) (by decide +kernel), List.mem_of_getElem? (i := 419) (by decide +kernel)⟩
theorem lw_p20 : lw_okq (⟨"SoundShelf$Reader", "takeStepped", "()Z"⟩, 12) := ⟨⟨by decide +kernel, by decide +kernel⟩, List.mem_of_getElem? (i := 158) (by decide +kernel), List.mem_of_getElem? (i := 422) (by decide +kernel), List.mem_of_getElem? (i := 423) (by decide +kernel)⟩
theorem lw_p21 : lw_okq (⟨"SoundShelf$Reader", "takeWord", "()I"⟩, 12) := ⟨⟨by decide +kernel, by decide +kernel⟩, List.mem_of_getElem? (i := 158) (by decide +kernel), List.mem_of_getElem? (i := 426) (by decide +kernel), List.mem_of_getElem? (i := 427) (by decide +kernel)⟩
theorem lw_p22 : lw_okq (⟨"SoundShelf$Reader", "appendPromised", "(I)V"⟩, 12) := ⟨⟨by decide +kernel, by decide +kernel⟩, List.mem_of_getElem? (i := 158) (by decide +kernel), List.mem_of_getElem? (i := 438) (by decide +kernel), List.mem_of_getElem? (i := 439) (by decide +kernel)⟩
theorem lw_p23 : lw_okq (⟨"SoundShelf$Reader", "takeNibbles", "(LSoundShelf$Coder;II)V"⟩, 12) := ⟨⟨by decide +kernel, by decide +kernel⟩, List.mem_of_getElem? (i := 158) (by decide +kernel), List.mem_of_getElem? (i := 442) (by decide +kernel), List.mem_of_getElem? (i := 443) (by decide +kernel)⟩
theorem lw_p24 : lw_okq (⟨"SoundShelf$Reader", "takePredicted", "()Z"⟩, 12) := ⟨⟨by decide +kernel, by decide +kernel⟩, List.mem_of_getElem? (i := 158) (by decide +kernel), List.mem_of_getElem? (i := 473) (by decide +kernel), List.mem_of_getElem? (i := 474) (by decide +kernel)⟩
theorem lw_p25 : lw_okq (⟨"SoundShelf", "endOfChunk", "(I)I"⟩, 5) := ⟨⟨by decide +kernel, by decide +kernel⟩, List.mem_of_getElem? (i := 21) (by decide +kernel), List.mem_of_getElem? (i := 502) (by decide +kernel), List.mem_of_getElem? (i := 503) (by decide +kernel)⟩
theorem lw_p26 : lw_okq (⟨"SoundShelf", "sizeOfChunk", "(I)J"⟩, 5) := ⟨⟨by decide +kernel, by decide +kernel⟩, List.mem_of_getElem? (i := 21) (by decide +kernel), List.mem_of_getElem? (i := 507) (by decide +kernel), List.mem_of_getElem? (i := 508) (by decide +kernel)⟩
theorem lw_p27 : lw_okq (⟨"java/lang/Throwable", "fillInStackTrace", "(I)Ljava/lang/Throwable;"⟩, 6) := ⟨⟨by decide +kernel, by decide +kernel⟩, List.mem_of_getElem? (i := 561) (by decide +kernel), List.mem_of_getElem? (i := 559) (by decide +kernel), List.mem_of_getElem? (i := 560) (by decide +kernel)⟩
theorem lw_p28 : lw_okq (⟨"SoundShelf$Writer", "startWave", "(II)V"⟩, 6) := ⟨⟨by decide +kernel, by decide +kernel⟩, List.mem_of_getElem? (i := 71) (by decide +kernel), List.mem_of_getElem? (i := 656) (by decide +kernel), List.mem_of_getElem? (i := 657) (by decide +kernel)⟩
theorem lw_p29 : lw_okq (⟨"SoundShelf$Writer", "putFmt", "()V"⟩, 6) := ⟨⟨by decide +kernel, by decide +kernel⟩, List.mem_of_getElem? (i := 71) (by decide +kernel), List.mem_of_getElem? (i := 679) (by decide +kernel), List.mem_of_getElem? (i := 680) (by decide +kernel)⟩
theorem lw_p30 : lw_okq (⟨"SoundShelf$Writer", "putByteBehind", "(I)V"⟩, 6) := ⟨⟨by decide +kernel, by decide +kernel⟩, List.mem_of_getElem? (i := 71) (by decide +kernel), List.mem_of_getElem? (i := 693) (by decide +kernel), List.mem_of_getElem? (i := 694) (by decide +kernel)⟩
theorem lw_p31 : lw_okq (⟨"SoundShelf$Writer", "chooseNibbles", "(LSoundShelf$Coder;I)I"⟩, 6) := ⟨⟨by decide +kernel, by decide +kernel⟩, List.mem_of_getElem? (i := 71) (by decide +kernel), List.mem_of_getElem? (i := 702) (by decide +kernel), List.mem_of_getElem? (i := 703) (by decide +kernel)⟩
def lw_privs_2 : List (MethodName × Nat) := [(⟨"SoundShelf$Reader", "takeSsnd", "()Z"⟩, 12), (⟨"SoundShelf$Reader", "takeData", "()Z"⟩, 12), (⟨"SoundShelf$Reader", "samplesOfPlain", "(J)I"⟩, 12), (⟨"SoundShelf$Reader", "takePlain", "()V"⟩, 12), (⟨"SoundShelf$Reader", "takeStepped", "()Z"⟩, 12), (⟨"SoundShelf$Reader", "takeWord", "()I"⟩, 12), (⟨"SoundShelf$Reader", "appendPromised", "(I)V"⟩, 12), (⟨"SoundShelf$Reader", "takeNibbles", "(LSoundShelf$Coder;II)V"⟩, 12), (⟨"SoundShelf$Reader", "takePredicted", "()Z"⟩, 12), (⟨"SoundShelf", "endOfChunk", "(I)I"⟩, 5), (⟨"SoundShelf", "sizeOfChunk", "(I)J"⟩, 5), (⟨"java/lang/Throwable", "fillInStackTrace", "(I)Ljava/lang/Throwable;"⟩, 6), (⟨"SoundShelf$Writer", "startWave", "(II)V"⟩, 6), (⟨"SoundShelf$Writer", "putFmt", "()V"⟩, 6), (⟨"SoundShelf$Writer", "putByteBehind", "(I)V"⟩, 6), (⟨"SoundShelf$Writer", "chooseNibbles", "(LSoundShelf$Coder;I)I"⟩, 6)]
theorem lw_r2 : ∀ q ∈ lw_privs_2, lw_okq q := List.forall_mem_cons.mpr ⟨lw_p16, List.forall_mem_cons.mpr ⟨lw_p17, List.forall_mem_cons.mpr ⟨lw_p18, List.forall_mem_cons.mpr ⟨lw_p19, List.forall_mem_cons.mpr ⟨lw_p20, List.forall_mem_cons.mpr ⟨lw_p21, List.forall_mem_cons.mpr ⟨lw_p22, List.forall_mem_cons.mpr ⟨lw_p23, List.forall_mem_cons.mpr ⟨lw_p24, List.forall_mem_cons.mpr ⟨lw_p25, List.forall_mem_cons.mpr ⟨lw_p26, List.forall_mem_cons.mpr ⟨lw_p27, List.forall_mem_cons.mpr ⟨lw_p28, List.forall_mem_cons.mpr ⟨lw_p29, List.forall_mem_cons.mpr ⟨lw_p30, List.forall_mem_cons.mpr ⟨lw_p31, fun _ h => absurd h List.not_mem_nil⟩⟩⟩⟩⟩⟩⟩⟩⟩⟩⟩⟩⟩⟩⟩⟩
theorem lw_p32 : lw_okq (⟨"SoundShelf$Writer", "putNibbles", "(II)V"⟩, 6) := ⟨⟨by decide +kernel, by decide +kernel⟩, List.mem_of_getElem? (i := 71) (by decide +kernel), List.mem_of_getElem? (i := 723) (by decide +kernel), List.mem_of_getElem? (i := 724) (by decide +kernel)⟩
theorem lw_p33 : lw_okq (⟨"SoundShelf$Writer", "bestPair", "(II)I"⟩, 6) := ⟨⟨by decide +kernel, by decide +kernel⟩, List.mem_of_getElem? (i := 71) (by decide +kernel), List.mem_of_getElem? (i := 731) (by decide +kernel), List.mem_of_getElem? (i := 732) (by decide +kernel)⟩
theorem lw_p34 : lw_okq (⟨"SoundShelf$Writer", "startPair", "(III)V"⟩, 6) := ⟨⟨by decide +kernel, by decide +kernel⟩, List.mem_of_getElem? (i := 71) (by decide +kernel), List.mem_of_getElem? (i := 735) (by decide +kernel), List.mem_of_getElem? (i := 736) (by decide +kernel)⟩
theorem lw_p35 : lw_okq (⟨"SoundShelf$Writer", "secondOfBlock", "(I)I"⟩, 6) := ⟨⟨by decide +kernel, by decide +kernel⟩, List.mem_of_getElem? (i := 71) (by decide +kernel), List.mem_of_getElem? (i := 739) (by decide +kernel), List.mem_of_getElem? (i := 740) (by decide +kernel)⟩
theorem lw_p36 : lw_okq (⟨"SoundShelf$Writer", "startOther", "(II)V"⟩, 6) := ⟨⟨by decide +kernel, by decide +kernel⟩, List.mem_of_getElem? (i := 71) (by decide +kernel), List.mem_of_getElem? (i := 748) (by decide +kernel), List.mem_of_getElem? (i := 749) (by decide +kernel)⟩
theorem lw_p37 : lw_okq (⟨"SoundShelf", "placeOfChunk", "(I)I"⟩, 5) := ⟨⟨by decide +kernel, by decide +kernel⟩, List.mem_of_getElem? (i := 21) (by decide +kernel), List.mem_of_getElem? (i := 808) (by decide +kernel), List.mem_of_getElem? (i := 809) (by decide +kernel)⟩
theorem lw_p38 : lw_okq (⟨"SoundShelfModel", "writeOther", "(I)V"⟩, 22) := ⟨⟨by decide +kernel, by decide +kernel⟩, List.mem_of_getElem? (i := 829) (by decide +kernel), List.mem_of_getElem? (i := 943) (by decide +kernel), List.mem_of_getElem? (i := 944) (by decide +kernel)⟩
theorem lw_p39 : lw_okq (⟨"SoundShelfModel", "put", "(JIZ)V"⟩, 22) := ⟨⟨by decide +kernel, by decide +kernel⟩, List.mem_of_getElem? (i := 829) (by decide +kernel), List.mem_of_getElem? (i := 948) (by decide +kernel), List.mem_of_getElem? (i := 949) (by decide +kernel)⟩
theorem lw_p40 : lw_okq (⟨"SoundShelfModel", "writeWave", "(II)V"⟩, 22) := ⟨⟨by decide +kernel, by decide +kernel⟩, List.mem_of_getElem? (i := 829) (by decide +kernel), List.mem_of_getElem? (i := 959) (by decide +kernel), List.mem_of_getElem? (i := 960) (by decide +kernel)⟩
theorem lw_p41 : lw_okq (⟨"SoundShelfModel", "little", "(JI)V"⟩, 22) := ⟨⟨by decide +kernel, by decide +kernel⟩, List.mem_of_getElem? (i := 829) (by decide +kernel), List.mem_of_getElem? (i := 964) (by decide +kernel), List.mem_of_getElem? (i := 965) (by decide +kernel)⟩
theorem lw_p42 : lw_okq (⟨"SoundShelfModel", "writeFormat", "(II)V"⟩, 22) := ⟨⟨by decide +kernel, by decide +kernel⟩, List.mem_of_getElem? (i := 829) (by decide +kernel), List.mem_of_getElem? (i := 969) (by decide +kernel), List.mem_of_getElem? (i := 970) (by decide +kernel)⟩
theorem lw_p43 : lw_okq (⟨"SoundShelfModel", "writeStepped", "(I)V"⟩, 22) := ⟨⟨by decide +kernel, by decide +kernel⟩, List.mem_of_getElem? (i := 829) (by decide +kernel), List.mem_of_getElem? (i := 989) (by decide +kernel), List.mem_of_getElem? (i := 990) (by decide +kernel)⟩
theorem lw_p44 : lw_okq (⟨"SoundShelfModel", "follow", "(III)I"⟩, 22) := ⟨⟨by decide +kernel, by decide +kernel⟩, List.mem_of_getElem? (i := 829) (by decide +kernel), List.mem_of_getElem? (i := 993) (by decide +kernel), List.mem_of_getElem? (i := 994) (by decide +kernel)⟩
theorem lw_p45 : lw_okq (⟨"SoundShelfModel", "nearest", "(II)I"⟩, 22) := ⟨⟨by decide +kernel, by decide +kernel⟩, List.mem_of_getElem? (i := 829) (by decide +kernel), List.mem_of_getElem? (i := 997) (by decide +kernel), List.mem_of_getElem? (i := 998) (by decide +kernel)⟩
theorem lw_p46 : lw_okq (⟨"SoundShelfModel", "distance", "(III)I"⟩, 22) := ⟨⟨by decide +kernel, by decide +kernel⟩, List.mem_of_getElem? (i := 829) (by decide +kernel), List.mem_of_getElem? (i := 1001) (by decide +kernel), List.mem_of_getElem? (i := 1002) (by decide +kernel)⟩
theorem lw_p47 : lw_okq (⟨"SoundShelfModel", "stepped", "(I)I"⟩, 22) := ⟨⟨by decide +kernel, by decide +kernel⟩, List.mem_of_getElem? (i := 829) (by decide +kernel), List.mem_of_getElem? (i := 1005) (by decide +kernel), List.mem_of_getElem? (i := 1006) (by decide +kernel)⟩
def lw_privs_3 : List (MethodName × Nat) := [(⟨"SoundShelf$Writer", "putNibbles", "(II)V"⟩, 6), (⟨"SoundShelf$Writer", "bestPair", "(II)I"⟩, 6), (⟨"SoundShelf$Writer", "startPair", "(III)V"⟩, 6), (⟨"SoundShelf$Writer", "secondOfBlock", "(I)I"⟩, 6), (⟨"SoundShelf$Writer", "startOther", "(II)V"⟩, 6), (⟨"SoundShelf", "placeOfChunk", "(I)I"⟩, 5), (⟨"SoundShelfModel", "writeOther", "(I)V"⟩, 22), (⟨"SoundShelfModel", "put", "(JIZ)V"⟩, 22), (⟨"SoundShelfModel", "writeWave", "(II)V"⟩, 22), (⟨"SoundShelfModel", "little", "(JI)V"⟩, 22), (⟨"SoundShelfModel", "writeFormat", "(II)V"⟩, 22), (⟨"SoundShelfModel", "writeStepped", "(I)V"⟩, 22), (⟨"SoundShelfModel", "follow", "(III)I"⟩, 22), (⟨"SoundShelfModel", "nearest", "(II)I"⟩, 22), (⟨"SoundShelfModel", "distance", "(III)I"⟩, 22), (⟨"SoundShelfModel", "stepped", "(I)I"⟩, 22)]
theorem lw_r3 : ∀ q ∈ lw_privs_3, lw_okq q := List.forall_mem_cons.mpr ⟨lw_p32, List.forall_mem_cons.mpr ⟨lw_p33, List.forall_mem_cons.mpr ⟨lw_p34, List.forall_mem_cons.mpr ⟨lw_p35, List.forall_mem_cons.mpr ⟨lw_p36, List.forall_mem_cons.mpr ⟨lw_p37, List.forall_mem_cons.mpr ⟨lw_p38, List.forall_mem_cons.mpr ⟨lw_p39, List.forall_mem_cons.mpr ⟨lw_p40, List.forall_mem_cons.mpr ⟨lw_p41, List.forall_mem_cons.mpr ⟨lw_p42, List.forall_mem_cons.mpr ⟨lw_p43, List.forall_mem_cons.mpr ⟨lw_p44, List.forall_mem_cons.mpr ⟨lw_p45, List.forall_mem_cons.mpr ⟨lw_p46, List.forall_mem_cons.mpr ⟨lw_p47, fun _ h => absurd h List.not_mem_nil⟩⟩⟩⟩⟩⟩⟩⟩⟩⟩⟩⟩⟩⟩⟩⟩
theorem lw_p48 : lw_okq (⟨"SoundShelfModel", "predicted", "(II)I"⟩, 22) := ⟨⟨by decide +kernel, by decide +kernel⟩, List.mem_of_getElem? (i := 829) (by decide +kernel), List.mem_of_getElem? (i := 1015) (by decide +kernel), List.mem_of_getElem? (i := 1016) (by decide +kernel)⟩
theorem lw_p49 : lw_okq (⟨"SoundShelfModel", "goStepped", "(I)V"⟩, 22) := ⟨⟨by decide +kernel, by decide +kernel⟩, List.mem_of_getElem? (i := 829) (by decide +kernel), List.mem_of_getElem? (i := 1019) (by decide +kernel), List.mem_of_getElem? (i := 1020) (by decide +kernel)⟩
theorem lw_p50 : lw_okq (⟨"SoundShelfModel", "goPredicted", "(II)V"⟩, 22) := ⟨⟨by decide +kernel, by decide +kernel⟩, List.mem_of_getElem? (i := 829) (by decide +kernel), List.mem_of_getElem? (i := 1023) (by decide +kernel), List.mem_of_getElem? (i := 1024) (by decide +kernel)⟩
theorem lw_p51 : lw_okq (⟨"SoundShelfModel", "putNibbles", "(IZ)V"⟩, 22) := ⟨⟨by decide +kernel, by decide +kernel⟩, List.mem_of_getElem? (i := 829) (by decide +kernel), List.mem_of_getElem? (i := 1030) (by decide +kernel), List.mem_of_getElem? (i := 1031) (by decide +kernel)⟩
theorem lw_p52 : lw_okq (⟨"SoundShelfModel", "writePredicted", "(I)V"⟩, 22) := ⟨⟨by decide +kernel, by decide +kernel⟩, List.mem_of_getElem? (i := 829) (by decide +kernel), List.mem_of_getElem? (i := 1034) (by decide +kernel), List.mem_of_getElem? (i := 1035) (by decide +kernel)⟩
theorem lw_p53 : lw_okq (⟨"SoundShelfModel", "startPredicted", "(II)V"⟩, 22) := ⟨⟨by decide +kernel, by decide +kernel⟩, List.mem_of_getElem? (i := 829) (by decide +kernel), List.mem_of_getElem? (i := 1038) (by decide +kernel), List.mem_of_getElem? (i := 1039) (by decide +kernel)⟩
theorem lw_p54 : lw_okq (⟨"SoundShelfModel", "peek", "(IIZ)J"⟩, 22) := ⟨⟨by decide +kernel, by decide +kernel⟩, List.mem_of_getElem? (i := 829) (by decide +kernel), List.mem_of_getElem? (i := 1046) (by decide +kernel), List.mem_of_getElem? (i := 1047) (by decide +kernel)⟩
theorem lw_p55 : lw_okq (⟨"SoundShelfModel", "exact", "(IZJ)V"⟩, 22) := ⟨⟨by decide +kernel, by decide +kernel⟩, List.mem_of_getElem? (i := 829) (by decide +kernel), List.mem_of_getElem? (i := 1051) (by decide +kernel), List.mem_of_getElem? (i := 1052) (by decide +kernel)⟩
theorem lw_p56 : lw_okq (⟨"SoundShelfModel", "ask", "(IZJJ)J"⟩, 22) := ⟨⟨by decide +kernel, by decide +kernel⟩, List.mem_of_getElem? (i := 829) (by decide +kernel), List.mem_of_getElem? (i := 1055) (by decide +kernel), List.mem_of_getElem? (i := 1056) (by decide +kernel)⟩
theorem lw_p57 : lw_okq (⟨"SoundShelfModel", "readOther", "()V"⟩, 22) := ⟨⟨by decide +kernel, by decide +kernel⟩, List.mem_of_getElem? (i := 829) (by decide +kernel), List.mem_of_getElem? (i := 1059) (by decide +kernel), List.mem_of_getElem? (i := 1060) (by decide +kernel)⟩
theorem lw_p58 : lw_okq (⟨"SoundShelfModel", "readCommon", "()V"⟩, 22) := ⟨⟨by decide +kernel, by decide +kernel⟩, List.mem_of_getElem? (i := 829) (by decide +kernel), List.mem_of_getElem? (i := 1063) (by decide +kernel), List.mem_of_getElem? (i := 1064) (by decide +kernel)⟩
theorem lw_p59 : lw_okq (⟨"SoundShelfModel", "open", "(ZJJJ)I"⟩, 22) := ⟨⟨by decide +kernel, by decide +kernel⟩, List.mem_of_getElem? (i := 829) (by decide +kernel), List.mem_of_getElem? (i := 1067) (by decide +kernel), List.mem_of_getElem? (i := 1068) (by decide +kernel)⟩
theorem lw_p60 : lw_okq (⟨"SoundShelfModel", "readOtherData", "()V"⟩, 22) := ⟨⟨by decide +kernel, by decide +kernel⟩, List.mem_of_getElem? (i := 829) (by decide +kernel), List.mem_of_getElem? (i := 1074) (by decide +kernel), List.mem_of_getElem? (i := 1075) (by decide +kernel)⟩
theorem lw_p61 : lw_okq (⟨"SoundShelfModel", "pad", "(I)V"⟩, 22) := ⟨⟨by decide +kernel, by decide +kernel⟩, List.mem_of_getElem? (i := 829) (by decide +kernel), List.mem_of_getElem? (i := 1081) (by decide +kernel), List.mem_of_getElem? (i := 1082) (by decide +kernel)⟩
theorem lw_p62 : lw_okq (⟨"SoundShelfModel", "passOver", "(Z)V"⟩, 22) := ⟨⟨by decide +kernel, by decide +kernel⟩, List.mem_of_getElem? (i := 829) (by decide +kernel), List.mem_of_getElem? (i := 1085) (by decide +kernel), List.mem_of_getElem? (i := 1086) (by decide +kernel)⟩
theorem lw_p63 : lw_okq (⟨"SoundShelfModel", "readWave", "()V"⟩, 22) := ⟨⟨by decide +kernel, by decide +kernel⟩, List.mem_of_getElem? (i := 829) (by decide +kernel), List.mem_of_getElem? (i := 1089) (by decide +kernel), List.mem_of_getElem? (i := 1090) (by decide +kernel)⟩
def lw_privs_4 : List (MethodName × Nat) := [(⟨"SoundShelfModel", "predicted", "(II)I"⟩, 22), (⟨"SoundShelfModel", "goStepped", "(I)V"⟩, 22), (⟨"SoundShelfModel", "goPredicted", "(II)V"⟩, 22), (⟨"SoundShelfModel", "putNibbles", "(IZ)V"⟩, 22), (⟨"SoundShelfModel", "writePredicted", "(I)V"⟩, 22), (⟨"SoundShelfModel", "startPredicted", "(II)V"⟩, 22), (⟨"SoundShelfModel", "peek", "(IIZ)J"⟩, 22), (⟨"SoundShelfModel", "exact", "(IZJ)V"⟩, 22), (⟨"SoundShelfModel", "ask", "(IZJJ)J"⟩, 22), (⟨"SoundShelfModel", "readOther", "()V"⟩, 22), (⟨"SoundShelfModel", "readCommon", "()V"⟩, 22), (⟨"SoundShelfModel", "open", "(ZJJJ)I"⟩, 22), (⟨"SoundShelfModel", "readOtherData", "()V"⟩, 22), (⟨"SoundShelfModel", "pad", "(I)V"⟩, 22), (⟨"SoundShelfModel", "passOver", "(Z)V"⟩, 22), (⟨"SoundShelfModel", "readWave", "()V"⟩, 22)]
theorem lw_r4 : ∀ q ∈ lw_privs_4, lw_okq q := List.forall_mem_cons.mpr ⟨lw_p48, List.forall_mem_cons.mpr ⟨lw_p49, List.forall_mem_cons.mpr ⟨lw_p50, List.forall_mem_cons.mpr ⟨lw_p51, List.forall_mem_cons.mpr ⟨lw_p52, List.forall_mem_cons.mpr ⟨lw_p53, List.forall_mem_cons.mpr ⟨lw_p54, List.forall_mem_cons.mpr ⟨lw_p55, List.forall_mem_cons.mpr ⟨lw_p56, List.forall_mem_cons.mpr ⟨lw_p57, List.forall_mem_cons.mpr ⟨lw_p58, List.forall_mem_cons.mpr ⟨lw_p59, List.forall_mem_cons.mpr ⟨lw_p60, List.forall_mem_cons.mpr ⟨lw_p61, List.forall_mem_cons.mpr ⟨lw_p62, List.forall_mem_cons.mpr ⟨lw_p63, fun _ h => absurd h List.not_mem_nil⟩⟩⟩⟩⟩⟩⟩⟩⟩⟩⟩⟩⟩⟩⟩⟩
theorem lw_p64 : lw_okq (⟨"SoundShelfModel", "readFormat", "()V"⟩, 22) := ⟨⟨by decide +kernel, by decide +kernel⟩, List.mem_of_getElem? (i := 829) (by decide +kernel), List.mem_of_getElem? (i := 1093) (by decide +kernel), List.mem_of_getElem? (i := 1094) (by decide +kernel)⟩
theorem lw_p65 : lw_okq (⟨"SoundShelfModel", "perBlock", "()I"⟩, 22) := ⟨⟨by decide +kernel, by decide +kernel⟩, List.mem_of_getElem? (i := 829) (by decide +kernel), List.mem_of_getElem? (i := 1103) (by decide +kernel), List.mem_of_getElem? (i := 1104) (by decide +kernel)⟩
theorem lw_p66 : lw_okq (⟨"SoundShelfModel", "readCount", "()V"⟩, 22) := ⟨⟨by decide +kernel, by decide +kernel⟩, List.mem_of_getElem? (i := 829) (by decide +kernel), List.mem_of_getElem? (i := 1108) (by decide +kernel), List.mem_of_getElem? (i := 1109) (by decide +kernel)⟩
theorem lw_p67 : lw_okq (⟨"SoundShelfModel", "readData", "()V"⟩, 22) := ⟨⟨by decide +kernel, by decide +kernel⟩, List.mem_of_getElem? (i := 829) (by decide +kernel), List.mem_of_getElem? (i := 1112) (by decide +kernel), List.mem_of_getElem? (i := 1113) (by decide +kernel)⟩
theorem lw_p68 : lw_okq (⟨"SoundShelfModel", "readStepped", "(I)V"⟩, 22) := ⟨⟨by decide +kernel, by decide +kernel⟩, List.mem_of_getElem? (i := 829) (by decide +kernel), List.mem_of_getElem? (i := 1116) (by decide +kernel), List.mem_of_getElem? (i := 1117) (by decide +kernel)⟩
theorem lw_p69 : lw_okq (⟨"SoundShelfModel", "keep", "(I)V"⟩, 22) := ⟨⟨by decide +kernel, by decide +kernel⟩, List.mem_of_getElem? (i := 829) (by decide +kernel), List.mem_of_getElem? (i := 1122) (by decide +kernel), List.mem_of_getElem? (i := 1123) (by decide +kernel)⟩
theorem lw_p70 : lw_okq (⟨"SoundShelfModel", "readPredicted", "(I)V"⟩, 22) := ⟨⟨by decide +kernel, by decide +kernel⟩, List.mem_of_getElem? (i := 829) (by decide +kernel), List.mem_of_getElem? (i := 1127) (by decide +kernel), List.mem_of_getElem? (i := 1128) (by decide +kernel)⟩
theorem lw_p71 : lw_okq (⟨"SoundShelfModel", "behind", "(I)I"⟩, 22) := ⟨⟨by decide +kernel, by decide +kernel⟩, List.mem_of_getElem? (i := 829) (by decide +kernel), List.mem_of_getElem? (i := 1160) (by decide +kernel), List.mem_of_getElem? (i := 1161) (by decide +kernel)⟩
def lw_privs_5 : List (MethodName × Nat) := [(⟨"SoundShelfModel", "readFormat", "()V"⟩, 22), (⟨"SoundShelfModel", "perBlock", "()I"⟩, 22), (⟨"SoundShelfModel", "readCount", "()V"⟩, 22), (⟨"SoundShelfModel", "readData", "()V"⟩, 22), (⟨"SoundShelfModel", "readStepped", "(I)V"⟩, 22), (⟨"SoundShelfModel", "keep", "(I)V"⟩, 22), (⟨"SoundShelfModel", "readPredicted", "(I)V"⟩, 22), (⟨"SoundShelfModel", "behind", "(I)I"⟩, 22)]
theorem lw_r5 : ∀ q ∈ lw_privs_5, lw_okq q := List.forall_mem_cons.mpr ⟨lw_p64, List.forall_mem_cons.mpr ⟨lw_p65, List.forall_mem_cons.mpr ⟨lw_p66, List.forall_mem_cons.mpr ⟨lw_p67, List.forall_mem_cons.mpr ⟨lw_p68, List.forall_mem_cons.mpr ⟨lw_p69, List.forall_mem_cons.mpr ⟨lw_p70, List.forall_mem_cons.mpr ⟨lw_p71, fun _ h => absurd h List.not_mem_nil⟩⟩⟩⟩⟩⟩⟩⟩
def lw_privs : List (MethodName × Nat) := lw_privs_1 ++ (lw_privs_2 ++ (lw_privs_3 ++ (lw_privs_4 ++ (lw_privs_5))))
def lw_tbl : List Cond := k2_sels lw_privs ++ tables_1
theorem lw_privs_ok : ∀ q ∈ lw_privs, lw_okq q := by
  show ∀ q ∈ lw_privs_1 ++ (lw_privs_2 ++ (lw_privs_3 ++ (lw_privs_4 ++ (lw_privs_5)))), lw_okq q
  exact List.forall_mem_append.mpr ⟨lw_r1, List.forall_mem_append.mpr ⟨lw_r2, List.forall_mem_append.mpr ⟨lw_r3, List.forall_mem_append.mpr ⟨lw_r4, lw_r5⟩⟩⟩⟩
end
section
/-! The program as tables of the abstract machine (printed by wip/gen/gen01.py): classes by number, their fields; methods by number, their code with links resolved. -/
def am_cn : List String := ["SoundShelf$Bytes", "SoundShelf$Fmt", "SoundShelf$Predictor", "SoundShelf$Reader", "SoundShelf$Sound", "SoundShelf$Stepper", "SoundShelf$Writer", "SoundShelf", "SoundShelfModel", "java/lang/IllegalArgumentException", "java/lang/IllegalStateException", "java/lang/IndexOutOfBoundsException", "java/util/NoSuchElementException", "SoundShelf$Coder", "SoundShelfLaw", "java/lang/Math"]
def am_T0 : u_T := fun k => match k with
  | 0 => ("SoundShelf$Bytes", "row", "[I", true)
  | _ => ("SoundShelf$Bytes", "count", "I", false)
def am_ty0 : Nat → FieldType := fun k => match k with
  | 0 => .array .int
  | _ => .int
def am_T1 : u_T := fun k => match k with
  | 0 => ("SoundShelf$Fmt", "tag", "I", false)
  | 1 => ("SoundShelf$Fmt", "head", "I", false)
  | 2 => ("SoundShelf$Fmt", "align", "I", false)
  | _ => ("SoundShelf$Fmt", "inBlock", "I", false)
def am_ty1 : Nat → FieldType := fun k => match k with
  | 0 => .int
  | 1 => .int
  | 2 => .int
  | _ => .int
def am_T2 : u_T := fun k => match k with
  | 0 => ("SoundShelf$Predictor", "before", "I", false)
  | 1 => ("SoundShelf$Predictor", "twoBefore", "I", false)
  | 2 => ("SoundShelf$Predictor", "delta", "I", false)
  | _ => ("SoundShelf$Predictor", "pair", "I", false)
def am_ty2 : Nat → FieldType := fun k => match k with
  | 0 => .int
  | 1 => .int
  | 2 => .int
  | _ => .int
def am_T3 : u_T := fun k => match k with
  | 0 => ("SoundShelf$Reader", "file", "LSoundShelf$Bytes;", true)
  | 1 => ("SoundShelf$Reader", "draft", "LSoundShelf$Sound;", true)
  | 2 => ("SoundShelf$Reader", "fmt", "LSoundShelf$Fmt;", true)
  | 3 => ("SoundShelf$Reader", "stepper", "LSoundShelf$Stepper;", true)
  | 4 => ("SoundShelf$Reader", "predictor", "LSoundShelf$Predictor;", true)
  | 5 => ("SoundShelf$Reader", "place", "I", false)
  | 6 => ("SoundShelf$Reader", "taken", "J", false)
  | 7 => ("SoundShelf$Reader", "big", "Z", false)
  | 8 => ("SoundShelf$Reader", "hasFact", "Z", false)
  | 9 => ("SoundShelf$Reader", "hasComm", "Z", false)
  | 10 => ("SoundShelf$Reader", "promised", "I", false)
  | _ => ("SoundShelf$Reader", "bits", "I", false)
def am_ty3 : Nat → FieldType := fun k => match k with
  | 0 => .object "SoundShelf$Bytes"
  | 1 => .object "SoundShelf$Sound"
  | 2 => .object "SoundShelf$Fmt"
  | 3 => .object "SoundShelf$Stepper"
  | 4 => .object "SoundShelf$Predictor"
  | 5 => .int
  | 6 => .long
  | 7 => .boolean
  | 8 => .boolean
  | 9 => .boolean
  | 10 => .int
  | _ => .int
def am_T4 : u_T := fun k => match k with
  | 0 => ("SoundShelf$Sound", "row", "[I", true)
  | 1 => ("SoundShelf$Sound", "count", "I", false)
  | _ => ("SoundShelf$Sound", "pace", "I", false)
def am_ty4 : Nat → FieldType := fun k => match k with
  | 0 => .array .int
  | 1 => .int
  | _ => .int
def am_T5 : u_T := fun k => match k with
  | 0 => ("SoundShelf$Stepper", "before", "I", false)
  | _ => ("SoundShelf$Stepper", "index", "I", false)
def am_ty5 : Nat → FieldType := fun k => match k with
  | 0 => .int
  | _ => .int
def am_T6 : u_T := fun k => match k with
  | 0 => ("SoundShelf$Writer", "sound", "LSoundShelf$Sound;", true)
  | 1 => ("SoundShelf$Writer", "file", "LSoundShelf$Bytes;", true)
  | 2 => ("SoundShelf$Writer", "fmt", "LSoundShelf$Fmt;", true)
  | 3 => ("SoundShelf$Writer", "stepper", "LSoundShelf$Stepper;", true)
  | 4 => ("SoundShelf$Writer", "predictor", "LSoundShelf$Predictor;", true)
  | _ => ("SoundShelf$Writer", "nibbles", "[I", true)
def am_ty6 : Nat → FieldType := fun k => match k with
  | 0 => .object "SoundShelf$Sound"
  | 1 => .object "SoundShelf$Bytes"
  | 2 => .object "SoundShelf$Fmt"
  | 3 => .object "SoundShelf$Stepper"
  | 4 => .object "SoundShelf$Predictor"
  | _ => .array .int
def am_T7 : u_T := fun k => match k with
  | 0 => ("SoundShelf", "sound", "LSoundShelf$Sound;", true)
  | 1 => ("SoundShelf", "file", "LSoundShelf$Bytes;", true)
  | 2 => ("SoundShelf", "writer", "LSoundShelf$Writer;", true)
  | 3 => ("SoundShelf", "reader", "LSoundShelf$Reader;", true)
  | _ => ("SoundShelf", "formRead", "I", false)
def am_ty7 : Nat → FieldType := fun k => match k with
  | 0 => .object "SoundShelf$Sound"
  | 1 => .object "SoundShelf$Bytes"
  | 2 => .object "SoundShelf$Writer"
  | 3 => .object "SoundShelf$Reader"
  | _ => .int
def am_T8 : u_T := fun k => match k with
  | 0 => ("SoundShelfModel", "code", "I", false)
  | 1 => ("SoundShelfModel", "count", "I", false)
  | 2 => ("SoundShelfModel", "sound", "[I", false)
  | 3 => ("SoundShelfModel", "rate", "I", false)
  | 4 => ("SoundShelfModel", "length", "I", false)
  | 5 => ("SoundShelfModel", "file", "[I", false)
  | 6 => ("SoundShelfModel", "kind", "I", false)
  | 7 => ("SoundShelfModel", "place", "I", false)
  | 8 => ("SoundShelfModel", "failed", "Z", false)
  | 9 => ("SoundShelfModel", "found", "[I", false)
  | 10 => ("SoundShelfModel", "foundCount", "I", false)
  | 11 => ("SoundShelfModel", "foundRate", "I", false)
  | 12 => ("SoundShelfModel", "tag", "I", false)
  | 13 => ("SoundShelfModel", "align", "I", false)
  | 14 => ("SoundShelfModel", "bits", "I", false)
  | 15 => ("SoundShelfModel", "hasForm", "Z", false)
  | 16 => ("SoundShelfModel", "hasCount", "Z", false)
  | 17 => ("SoundShelfModel", "last", "I", false)
  | 18 => ("SoundShelfModel", "older", "I", false)
  | 19 => ("SoundShelfModel", "index", "I", false)
  | 20 => ("SoundShelfModel", "delta", "I", false)
  | _ => ("SoundShelfModel", "nibbles", "[I", false)
def am_ty8 : Nat → FieldType := fun k => match k with
  | 0 => .int
  | 1 => .int
  | 2 => .array .int
  | 3 => .int
  | 4 => .int
  | 5 => .array .int
  | 6 => .int
  | 7 => .int
  | 8 => .boolean
  | 9 => .array .int
  | 10 => .int
  | 11 => .int
  | 12 => .int
  | 13 => .int
  | 14 => .int
  | 15 => .boolean
  | 16 => .boolean
  | 17 => .int
  | 18 => .int
  | 19 => .int
  | 20 => .int
  | _ => .array .int
def am_TX : u_T := fun _ => ("", "", "", false)
abbrev am_cl : List vw_C := [("SoundShelf$Bytes", am_T0, 2), ("SoundShelf$Fmt", am_T1, 4), ("SoundShelf$Predictor", am_T2, 4), ("SoundShelf$Reader", am_T3, 12), ("SoundShelf$Sound", am_T4, 3), ("SoundShelf$Stepper", am_T5, 2), ("SoundShelf$Writer", am_T6, 6), ("SoundShelf", am_T7, 5), ("SoundShelfModel", am_T8, 22), ("java/lang/IllegalArgumentException", am_TX, 0), ("java/lang/IllegalStateException", am_TX, 0), ("java/lang/IndexOutOfBoundsException", am_TX, 0), ("java/util/NoSuchElementException", am_TX, 0)]
def am_tys : List (Nat → FieldType) := [am_ty0, am_ty1, am_ty2, am_ty3, am_ty4, am_ty5, am_ty6, am_ty7, am_ty8]
def am_dfs : List (List Value) := [[.null, .int 0], [.int 0, .int 0, .int 0, .int 0], [.int 0, .int 0, .int 0, .int 0], [.null, .null, .null, .null, .null, .int 0, .long 0, .int 0, .int 0, .int 0, .int 0, .int 0], [.null, .int 0, .int 0], [.int 0, .int 0], [.null, .null, .null, .null, .null, .null], [.null, .null, .null, .null, .int 0], [.int 0, .int 0, .null, .int 0, .int 0, .null, .int 0, .int 0, .int 0, .null, .int 0, .int 0, .int 0, .int 0, .int 0, .int 0, .int 0, .int 0, .int 0, .int 0, .int 0, .null]]
def am_ns (c : Nat) : Nat := ([2, 4, 4, 12, 3, 2, 6, 5, 22] : List Nat).getD c 6
def am_tn (t : Nat) : String := (["STEPS", "INDEX_CHANGES", "PAIRS", "DELTA_FACTORS"] : List String).getD t ""
def am_vSTEPS : List Int32 := [7, 8, 9, 10, 11, 12, 13, 14, 16, 17, 19, 21, 23, 25, 28, 31, 34, 37, 41, 45, 50, 55, 60, 66, 73, 80, 88, 97, 107, 118, 130, 143, 157, 173, 190, 209, 230, 253, 279, 307, 337, 371, 408, 449, 494, 544, 598, 658, 724, 796, 876, 963, 1060, 1166, 1282, 1411, 1552, 1707, 1878, 2066, 2272, 2499, 2749, 3024, 3327, 3660, 4026, 4428, 4871, 5358, 5894, 6484, 7132, 7845, 8630, 9493, 10442, 11487, 12635, 13899, 15289, 16818, 18500, 20350, 22385, 24623, 27086, 29794, 32767]
def am_vINDEXCHANGES : List Int32 := [-1, -1, -1, -1, 2, 4, 6, 8]
def am_vPAIRS : List Int32 := [256, 0, 512, -256, 0, 0, 192, 64, 240, 0, 460, -208, 392, -232]
def am_vDELTAFACTORS : List Int32 := [230, 230, 230, 230, 307, 409, 512, 614, 768, 614, 512, 409, 307, 230, 230, 230]
def am_tb : List (Nat × (Nat → Int32)) := [(89, fun j => am_vSTEPS.getD j 0), (8, fun j => am_vINDEXCHANGES.getD j 0), (14, fun j => am_vPAIRS.getD j 0), (16, fun j => am_vDELTAFACTORS.getD j 0)]
abbrev am_E : Type := Nat × Instr × Nat × Nat × Nat × Nat × Int × Nat
def am_c_ma_abs : List am_E := [
  (0, .iload_n 0, 1, 0, 0, 0, 0, 0), (1, .ifCond .ge 8, 3, 0, 0, 0, 0, 0), (4, .iload_n 0, 1, 0, 0, 0, 0, 0), (5, .ineg, 1, 0, 0, 0, 0, 0), (6, .goto 4, 3, 0, 0, 0, 0, 0),
  (9, .iload_n 0, 1, 0, 0, 0, 0, 0), (10, .ireturn, 1, 0, 0, 0, 0, 0)]
def am_c_ma_max : List am_E := [
  (0, .iload_n 0, 1, 0, 0, 0, 0, 0), (1, .iload_n 1, 1, 0, 0, 0, 0, 0), (2, .if_icmp .lt 7, 3, 0, 0, 0, 0, 0), (5, .iload_n 0, 1, 0, 0, 0, 0, 0), (6, .goto 4, 3, 0, 0, 0, 0, 0),
  (9, .iload_n 1, 1, 0, 0, 0, 0, 0), (10, .ireturn, 1, 0, 0, 0, 0, 0)]
def am_c_ma_min : List am_E := [
  (0, .iload_n 0, 1, 0, 0, 0, 0, 0), (1, .iload_n 1, 1, 0, 0, 0, 0, 0), (2, .if_icmp .gt 7, 3, 0, 0, 0, 0, 0), (5, .iload_n 0, 1, 0, 0, 0, 0, 0), (6, .goto 4, 3, 0, 0, 0, 0, 0),
  (9, .iload_n 1, 1, 0, 0, 0, 0, 0), (10, .ireturn, 1, 0, 0, 0, 0, 0)]
def am_c_ma_minL : List am_E := [
  (0, .lload_n 0, 1, 0, 0, 0, 0, 0), (1, .lload_n 2, 1, 0, 0, 0, 0, 0), (2, .lcmp, 1, 0, 0, 0, 0, 0), (3, .ifCond .gt 7, 3, 0, 0, 0, 0, 0), (6, .lload_n 0, 1, 0, 0, 0, 0, 0),
  (7, .goto 4, 3, 0, 0, 0, 0, 0), (10, .lload_n 2, 1, 0, 0, 0, 0, 0), (11, .lreturn, 1, 0, 0, 0, 0, 0)]
def am_c_by_init : List am_E := [
  (0, .aload_n 0, 1, 0, 0, 0, 0, 0), (1, .invokespecial 3, 3, 6, 0, 0, 0, 58), (4, .aload_n 0, 1, 0, 0, 0, 0, 0), (5, .sipush 400, 3, 0, 0, 0, 0, 0),
  (8, .newarray .int, 2, 0, 0, 0, 0, 0), (10, .putfield 9, 3, 0, 0, 0, 0, 59), (13, .return_, 1, 0, 0, 0, 0, 0)]
def am_c_by_put : List am_E := [
  (0, .aload_n 0, 1, 0, 0, 0, 0, 0), (1, .getfield 15, 3, 0, 1, 0, 0, 61), (4, .aload_n 0, 1, 0, 0, 0, 0, 0), (5, .getfield 9, 3, 0, 0, 0, 0, 59),
  (8, .arraylength, 1, 0, 0, 0, 0, 0), (9, .if_icmp .ge 27, 3, 0, 0, 0, 0, 0), (12, .aload_n 0, 1, 0, 0, 0, 0, 0), (13, .getfield 9, 3, 0, 0, 0, 0, 59),
  (16, .aload_n 0, 1, 0, 0, 0, 0, 0), (17, .getfield 15, 3, 0, 1, 0, 0, 61), (20, .iload_n 1, 1, 0, 0, 0, 0, 0), (21, .sipush 255, 3, 0, 0, 0, 0, 0),
  (24, .iand, 1, 0, 0, 0, 0, 0), (25, .iastore, 1, 0, 0, 0, 0, 0), (26, .aload_n 0, 1, 0, 0, 0, 0, 0), (27, .dup, 1, 0, 0, 0, 0, 0), (28, .getfield 15, 3, 0, 1, 0, 0, 61),
  (31, .iconst 1, 1, 0, 0, 0, 0, 0), (32, .iadd, 1, 0, 0, 0, 0, 0), (33, .putfield 15, 3, 0, 1, 0, 0, 61), (36, .return_, 1, 0, 0, 0, 0, 0)]
def am_c_by_putLittle : List am_E := [
  (0, .iconst 0, 1, 0, 0, 0, 0, 0), (1, .istore 4, 2, 0, 0, 0, 0, 0), (3, .iload 4, 2, 0, 0, 0, 0, 0), (5, .iload_n 3, 1, 0, 0, 0, 0, 0), (6, .if_icmp .ge 21, 3, 0, 0, 0, 0, 0),
  (9, .aload_n 0, 1, 0, 0, 0, 0, 0), (10, .lload_n 1, 1, 0, 0, 0, 0, 0), (11, .bipush 8, 2, 0, 0, 0, 0, 0), (13, .iload 4, 2, 0, 0, 0, 0, 0), (15, .imul, 1, 0, 0, 0, 0, 0),
  (16, .lshr, 1, 0, 0, 0, 0, 0), (17, .l2i, 1, 0, 0, 0, 0, 0), (18, .invokevirtual 19, 3, 1, 5, 0, 1, 668), (21, .iinc 4 1, 3, 0, 0, 0, 0, 0), (24, .goto (-21), 3, 0, 0, 0, 0, 0),
  (27, .return_, 1, 0, 0, 0, 0, 0)]
def am_c_by_putBig : List am_E := [
  (0, .iload_n 3, 1, 0, 0, 0, 0, 0), (1, .iconst 1, 1, 0, 0, 0, 0, 0), (2, .isub, 1, 0, 0, 0, 0, 0), (3, .istore 4, 2, 0, 0, 0, 0, 0), (5, .iload 4, 2, 0, 0, 0, 0, 0),
  (7, .ifCond .lt 21, 3, 0, 0, 0, 0, 0), (10, .aload_n 0, 1, 0, 0, 0, 0, 0), (11, .lload_n 1, 1, 0, 0, 0, 0, 0), (12, .bipush 8, 2, 0, 0, 0, 0, 0),
  (14, .iload 4, 2, 0, 0, 0, 0, 0), (16, .imul, 1, 0, 0, 0, 0, 0), (17, .lshr, 1, 0, 0, 0, 0, 0), (18, .l2i, 1, 0, 0, 0, 0, 0), (19, .invokevirtual 19, 3, 1, 5, 0, 1, 668),
  (22, .iinc 4 (-1), 3, 0, 0, 0, 0, 0), (25, .goto (-20), 3, 0, 0, 0, 0, 0), (28, .return_, 1, 0, 0, 0, 0, 0)]
def am_c_by_has : List am_E := [
  (0, .iload_n 1, 1, 0, 0, 0, 0, 0), (1, .ifCond .lt 17, 3, 0, 0, 0, 0, 0), (4, .iload_n 2, 1, 0, 0, 0, 0, 0), (5, .aload_n 0, 1, 0, 0, 0, 0, 0),
  (6, .getfield 15, 3, 0, 1, 0, 0, 61), (9, .iload_n 1, 1, 0, 0, 0, 0, 0), (10, .isub, 1, 0, 0, 0, 0, 0), (11, .if_icmp .gt 7, 3, 0, 0, 0, 0, 0),
  (14, .iconst 1, 1, 0, 0, 0, 0, 0), (15, .goto 4, 3, 0, 0, 0, 0, 0), (18, .iconst 0, 1, 0, 0, 0, 0, 0), (19, .ireturn, 1, 0, 0, 0, 0, 0)]
def am_c_by_numberAt : List am_E := [
  (0, .aload_n 0, 1, 0, 0, 0, 0, 0), (1, .iload_n 1, 1, 0, 0, 0, 0, 0), (2, .iload_n 2, 1, 0, 0, 0, 0, 0), (3, .invokevirtual 23, 3, 1, 8, 0, 2, 265),
  (6, .ifCond .ne 5, 3, 0, 0, 0, 0, 0), (9, .lconst 0, 1, 0, 0, 0, 0, 0), (10, .lreturn, 1, 0, 0, 0, 0, 0), (11, .lconst 0, 1, 0, 0, 0, 0, 0), (12, .lstore 4, 2, 0, 0, 0, 0, 0),
  (14, .iconst 0, 1, 0, 0, 0, 0, 0), (15, .istore 6, 2, 0, 0, 0, 0, 0), (17, .iload 6, 2, 0, 0, 0, 0, 0), (19, .iload_n 2, 1, 0, 0, 0, 0, 0),
  (20, .if_icmp .ge 42, 3, 0, 0, 0, 0, 0), (23, .lload 4, 2, 0, 0, 0, 0, 0), (25, .bipush 8, 2, 0, 0, 0, 0, 0), (27, .lshl, 1, 0, 0, 0, 0, 0), (28, .aload_n 0, 1, 0, 0, 0, 0, 0),
  (29, .getfield 9, 3, 0, 0, 0, 0, 59), (32, .iload_n 3, 1, 0, 0, 0, 0, 0), (33, .ifCond .eq 10, 3, 0, 0, 0, 0, 0), (36, .iload_n 1, 1, 0, 0, 0, 0, 0),
  (37, .iload 6, 2, 0, 0, 0, 0, 0), (39, .iadd, 1, 0, 0, 0, 0, 0), (40, .goto 11, 3, 0, 0, 0, 0, 0), (43, .iload_n 1, 1, 0, 0, 0, 0, 0), (44, .iload_n 2, 1, 0, 0, 0, 0, 0),
  (45, .iadd, 1, 0, 0, 0, 0, 0), (46, .iconst 1, 1, 0, 0, 0, 0, 0), (47, .isub, 1, 0, 0, 0, 0, 0), (48, .iload 6, 2, 0, 0, 0, 0, 0), (50, .isub, 1, 0, 0, 0, 0, 0),
  (51, .iaload, 1, 0, 0, 0, 0, 0), (52, .i2l, 1, 0, 0, 0, 0, 0), (53, .lor, 1, 0, 0, 0, 0, 0), (54, .lstore 4, 2, 0, 0, 0, 0, 0), (56, .iinc 6 1, 3, 0, 0, 0, 0, 0),
  (59, .goto (-42), 3, 0, 0, 0, 0, 0), (62, .lload 4, 2, 0, 0, 0, 0, 0), (64, .lreturn, 1, 0, 0, 0, 0, 0)]
def am_c_by_idAt : List am_E := [
  (0, .aload_n 0, 1, 0, 0, 0, 0, 0), (1, .iload_n 1, 1, 0, 0, 0, 0, 0), (2, .iconst 4, 1, 0, 0, 0, 0, 0), (3, .iconst 1, 1, 0, 0, 0, 0, 0),
  (4, .invokevirtual 27, 3, 1, 9, 0, 3, 261), (7, .l2i, 1, 0, 0, 0, 0, 0), (8, .ireturn, 1, 0, 0, 0, 0, 0)]
def am_c_co_init : List am_E := [
  (0, .aload_n 0, 1, 0, 0, 0, 0, 0), (1, .invokespecial 1, 3, 6, 0, 0, 0, 109), (4, .return_, 1, 0, 0, 0, 0, 0)]
def am_c_co_nearest : List am_E := [
  (0, .iconst 0, 1, 0, 0, 0, 0, 0), (1, .istore_n 2, 1, 0, 0, 0, 0, 0), (2, .aload_n 0, 1, 0, 0, 0, 0, 0), (3, .iconst 0, 1, 0, 0, 0, 0, 0),
  (4, .invokevirtual 7, 3, 5, 35, 31, 1, 715), (7, .iload_n 1, 1, 0, 0, 0, 0, 0), (8, .isub, 1, 0, 0, 0, 0, 0), (9, .invokestatic 13, 3, 0, 0, 0, 1, 716),
  (12, .istore_n 3, 1, 0, 0, 0, 0, 0), (13, .iconst 1, 1, 0, 0, 0, 0, 0), (14, .istore 4, 2, 0, 0, 0, 0, 0), (16, .iload 4, 2, 0, 0, 0, 0, 0), (18, .bipush 16, 2, 0, 0, 0, 0, 0),
  (20, .if_icmp .ge 34, 3, 0, 0, 0, 0, 0), (23, .aload_n 0, 1, 0, 0, 0, 0, 0), (24, .iload 4, 2, 0, 0, 0, 0, 0), (26, .invokevirtual 7, 3, 5, 35, 31, 1, 715),
  (29, .iload_n 1, 1, 0, 0, 0, 0, 0), (30, .isub, 1, 0, 0, 0, 0, 0), (31, .invokestatic 13, 3, 0, 0, 0, 1, 716), (34, .istore 5, 2, 0, 0, 0, 0, 0),
  (36, .iload 5, 2, 0, 0, 0, 0, 0), (38, .iload_n 3, 1, 0, 0, 0, 0, 0), (39, .if_icmp .ge 9, 3, 0, 0, 0, 0, 0), (42, .iload 4, 2, 0, 0, 0, 0, 0),
  (44, .istore_n 2, 1, 0, 0, 0, 0, 0), (45, .iload 5, 2, 0, 0, 0, 0, 0), (47, .istore_n 3, 1, 0, 0, 0, 0, 0), (48, .iinc 4 1, 3, 0, 0, 0, 0, 0),
  (51, .goto (-35), 3, 0, 0, 0, 0, 0), (54, .iload_n 2, 1, 0, 0, 0, 0, 0), (55, .ireturn, 1, 0, 0, 0, 0, 0)]
def am_c_fm_init : List am_E := [
  (0, .aload_n 0, 1, 0, 0, 0, 0, 0), (1, .invokespecial 1, 3, 6, 0, 0, 0, 81), (4, .aload_n 0, 1, 0, 0, 0, 0, 0), (5, .iconst 1, 1, 0, 0, 0, 0, 0),
  (6, .putfield 7, 3, 1, 3, 0, 0, 89), (9, .return_, 1, 0, 0, 0, 0, 0)]
def am_c_fm_tagOfSize : List am_E := [
  (0, .lload_n 0, 1, 0, 0, 0, 0, 0), (1, .ldc2_w 13, 3, 0, 0, 0, 16, 321), (4, .lcmp, 1, 0, 0, 0, 0, 0), (5, .ifCond .ne 5, 3, 0, 0, 0, 0, 0), (8, .iconst 1, 1, 0, 0, 0, 0, 0),
  (9, .ireturn, 1, 0, 0, 0, 0, 0), (10, .lload_n 0, 1, 0, 0, 0, 0, 0), (11, .ldc2_w 15, 3, 0, 0, 0, 20, 322), (14, .lcmp, 1, 0, 0, 0, 0, 0), (15, .ifCond .ne 6, 3, 0, 0, 0, 0, 0),
  (18, .bipush 17, 2, 0, 0, 0, 0, 0), (20, .ireturn, 1, 0, 0, 0, 0, 0), (21, .lload_n 0, 1, 0, 0, 0, 0, 0), (22, .ldc2_w 17, 3, 0, 0, 0, 50, 323), (25, .lcmp, 1, 0, 0, 0, 0, 0),
  (26, .ifCond .ne 7, 3, 0, 0, 0, 0, 0), (29, .iconst 2, 1, 0, 0, 0, 0, 0), (30, .goto 4, 3, 0, 0, 0, 0, 0), (33, .iconst 0, 1, 0, 0, 0, 0, 0), (34, .ireturn, 1, 0, 0, 0, 0, 0)]
def am_c_fm_setTag : List am_E := [
  (0, .aload_n 0, 1, 0, 0, 0, 0, 0), (1, .iload_n 1, 1, 0, 0, 0, 0, 0), (2, .putfield 19, 3, 1, 0, 0, 0, 82), (5, .aload_n 0, 1, 0, 0, 0, 0, 0), (6, .iconst 0, 1, 0, 0, 0, 0, 0),
  (7, .putfield 22, 3, 1, 1, 0, 0, 85), (10, .aload_n 0, 1, 0, 0, 0, 0, 0), (11, .getfield 19, 3, 1, 0, 0, 0, 82), (14, .bipush 17, 2, 0, 0, 0, 0, 0),
  (16, .if_icmp .ne 11, 3, 0, 0, 0, 0, 0), (19, .aload_n 0, 1, 0, 0, 0, 0, 0), (20, .iconst 4, 1, 0, 0, 0, 0, 0), (21, .putfield 22, 3, 1, 1, 0, 0, 85),
  (24, .goto 17, 3, 0, 0, 0, 0, 0), (27, .aload_n 0, 1, 0, 0, 0, 0, 0), (28, .getfield 19, 3, 1, 0, 0, 0, 82), (31, .iconst 2, 1, 0, 0, 0, 0, 0),
  (32, .if_icmp .ne 9, 3, 0, 0, 0, 0, 0), (35, .aload_n 0, 1, 0, 0, 0, 0, 0), (36, .bipush 7, 2, 0, 0, 0, 0, 0), (38, .putfield 22, 3, 1, 1, 0, 0, 85),
  (41, .return_, 1, 0, 0, 0, 0, 0)]
def am_c_fm_setAlign : List am_E := [
  (0, .aload_n 0, 1, 0, 0, 0, 0, 0), (1, .iload_n 1, 1, 0, 0, 0, 0, 0), (2, .putfield 25, 3, 1, 2, 0, 0, 87), (5, .aload_n 0, 1, 0, 0, 0, 0, 0), (6, .iconst 1, 1, 0, 0, 0, 0, 0),
  (7, .putfield 7, 3, 1, 3, 0, 0, 89), (10, .aload_n 0, 1, 0, 0, 0, 0, 0), (11, .invokevirtual 28, 3, 1, 17, 0, 0, 336), (14, .ifCond .eq 32, 3, 0, 0, 0, 0, 0),
  (17, .aload_n 0, 1, 0, 0, 0, 0, 0), (18, .iconst 1, 1, 0, 0, 0, 0, 0), (19, .iconst 2, 1, 0, 0, 0, 0, 0), (20, .aload_n 0, 1, 0, 0, 0, 0, 0),
  (21, .invokevirtual 32, 3, 1, 23, 0, 0, 344), (24, .imul, 1, 0, 0, 0, 0, 0), (25, .aload_n 0, 1, 0, 0, 0, 0, 0), (26, .getfield 19, 3, 1, 0, 0, 0, 82),
  (29, .bipush 17, 2, 0, 0, 0, 0, 0), (31, .if_icmp .ne 7, 3, 0, 0, 0, 0, 0), (34, .iconst 1, 1, 0, 0, 0, 0, 0), (35, .goto 4, 3, 0, 0, 0, 0, 0),
  (38, .iconst 2, 1, 0, 0, 0, 0, 0), (39, .iadd, 1, 0, 0, 0, 0, 0), (40, .invokestatic 36, 3, 0, 1, 0, 2, 348), (43, .putfield 7, 3, 1, 3, 0, 0, 89),
  (46, .return_, 1, 0, 0, 0, 0, 0)]
def am_c_fm_hasBlocks : List am_E := [
  (0, .aload_n 0, 1, 0, 0, 0, 0, 0), (1, .getfield 19, 3, 1, 0, 0, 0, 82), (4, .bipush 17, 2, 0, 0, 0, 0, 0), (6, .if_icmp .eq 11, 3, 0, 0, 0, 0, 0),
  (9, .aload_n 0, 1, 0, 0, 0, 0, 0), (10, .getfield 19, 3, 1, 0, 0, 0, 82), (13, .iconst 2, 1, 0, 0, 0, 0, 0), (14, .if_icmp .ne 7, 3, 0, 0, 0, 0, 0),
  (17, .iconst 1, 1, 0, 0, 0, 0, 0), (18, .goto 4, 3, 0, 0, 0, 0, 0), (21, .iconst 0, 1, 0, 0, 0, 0, 0), (22, .ireturn, 1, 0, 0, 0, 0, 0)]
def am_c_fm_sizeOfFmt : List am_E := [
  (0, .aload_n 0, 1, 0, 0, 0, 0, 0), (1, .getfield 19, 3, 1, 0, 0, 0, 82), (4, .iconst 1, 1, 0, 0, 0, 0, 0), (5, .if_icmp .ne 6, 3, 0, 0, 0, 0, 0),
  (8, .bipush 16, 2, 0, 0, 0, 0, 0), (10, .ireturn, 1, 0, 0, 0, 0, 0), (11, .aload_n 0, 1, 0, 0, 0, 0, 0), (12, .getfield 19, 3, 1, 0, 0, 0, 82),
  (15, .bipush 17, 2, 0, 0, 0, 0, 0), (17, .if_icmp .ne 8, 3, 0, 0, 0, 0, 0), (20, .bipush 20, 2, 0, 0, 0, 0, 0), (22, .goto 5, 3, 0, 0, 0, 0, 0),
  (25, .bipush 50, 2, 0, 0, 0, 0, 0), (27, .ireturn, 1, 0, 0, 0, 0, 0)]
def am_c_fm_sizeOfMore : List am_E := [
  (0, .aload_n 0, 1, 0, 0, 0, 0, 0), (1, .invokevirtual 42, 3, 1, 18, 0, 0, 364), (4, .bipush 16, 2, 0, 0, 0, 0, 0), (6, .isub, 1, 0, 0, 0, 0, 0),
  (7, .iconst 2, 1, 0, 0, 0, 0, 0), (8, .isub, 1, 0, 0, 0, 0, 0), (9, .ireturn, 1, 0, 0, 0, 0, 0)]
def am_c_fm_leastAlign : List am_E := [
  (0, .aload_n 0, 1, 0, 0, 0, 0, 0), (1, .getfield 22, 3, 1, 1, 0, 0, 85), (4, .iconst 1, 1, 0, 0, 0, 0, 0), (5, .iadd, 1, 0, 0, 0, 0, 0), (6, .ireturn, 1, 0, 0, 0, 0, 0)]
def am_c_fm_mostAlign : List am_E := [
  (0, .aload_n 0, 1, 0, 0, 0, 0, 0), (1, .getfield 22, 3, 1, 1, 0, 0, 85), (4, .aload_n 0, 1, 0, 0, 0, 0, 0), (5, .invokevirtual 28, 3, 1, 17, 0, 0, 336),
  (8, .ifCond .eq 8, 3, 0, 0, 0, 0, 0), (11, .bipush 8, 2, 0, 0, 0, 0, 0), (13, .goto 4, 3, 0, 0, 0, 0, 0), (16, .iconst 2, 1, 0, 0, 0, 0, 0), (17, .iadd, 1, 0, 0, 0, 0, 0),
  (18, .ireturn, 1, 0, 0, 0, 0, 0)]
def am_c_fm_bits : List am_E := [
  (0, .aload_n 0, 1, 0, 0, 0, 0, 0), (1, .invokevirtual 28, 3, 1, 17, 0, 0, 336), (4, .ifCond .eq 7, 3, 0, 0, 0, 0, 0), (7, .iconst 4, 1, 0, 0, 0, 0, 0),
  (8, .goto 10, 3, 0, 0, 0, 0, 0), (11, .bipush 8, 2, 0, 0, 0, 0, 0), (13, .aload_n 0, 1, 0, 0, 0, 0, 0), (14, .getfield 25, 3, 1, 2, 0, 0, 87), (17, .imul, 1, 0, 0, 0, 0, 0),
  (18, .ireturn, 1, 0, 0, 0, 0, 0)]
def am_c_fm_bytesOfNibbles : List am_E := [
  (0, .aload_n 0, 1, 0, 0, 0, 0, 0), (1, .getfield 25, 3, 1, 2, 0, 0, 87), (4, .aload_n 0, 1, 0, 0, 0, 0, 0), (5, .getfield 22, 3, 1, 1, 0, 0, 85), (8, .isub, 1, 0, 0, 0, 0, 0),
  (9, .ireturn, 1, 0, 0, 0, 0, 0)]
def am_c_fm_bytesASecond : List am_E := [
  (0, .iload_n 1, 1, 0, 0, 0, 0, 0), (1, .aload_n 0, 1, 0, 0, 0, 0, 0), (2, .getfield 25, 3, 1, 2, 0, 0, 87), (5, .imul, 1, 0, 0, 0, 0, 0), (6, .aload_n 0, 1, 0, 0, 0, 0, 0),
  (7, .getfield 7, 3, 1, 3, 0, 0, 89), (10, .idiv, 1, 0, 0, 0, 0, 0), (11, .ireturn, 1, 0, 0, 0, 0, 0)]
def am_c_fm_sizeOfData : List am_E := [
  (0, .iload_n 1, 1, 0, 0, 0, 0, 0), (1, .aload_n 0, 1, 0, 0, 0, 0, 0), (2, .getfield 7, 3, 1, 3, 0, 0, 89), (5, .iadd, 1, 0, 0, 0, 0, 0), (6, .iconst 1, 1, 0, 0, 0, 0, 0),
  (7, .isub, 1, 0, 0, 0, 0, 0), (8, .aload_n 0, 1, 0, 0, 0, 0, 0), (9, .getfield 7, 3, 1, 3, 0, 0, 89), (12, .idiv, 1, 0, 0, 0, 0, 0), (13, .aload_n 0, 1, 0, 0, 0, 0, 0),
  (14, .getfield 25, 3, 1, 2, 0, 0, 87), (17, .imul, 1, 0, 0, 0, 0, 0), (18, .ireturn, 1, 0, 0, 0, 0, 0)]
def am_c_so_init : List am_E := [
  (0, .aload_n 0, 1, 0, 0, 0, 0, 0), (1, .invokespecial 3, 3, 6, 0, 0, 0, 33), (4, .aload_n 0, 1, 0, 0, 0, 0, 0), (5, .bipush 64, 2, 0, 0, 0, 0, 0),
  (7, .newarray .int, 2, 0, 0, 0, 0, 0), (9, .putfield 9, 3, 4, 0, 0, 0, 34), (12, .aload_n 0, 1, 0, 0, 0, 0, 0), (13, .sipush 8000, 3, 0, 0, 0, 0, 0),
  (16, .putfield 15, 3, 4, 2, 0, 0, 41), (19, .return_, 1, 0, 0, 0, 0, 0)]
def am_c_so_append : List am_E := [
  (0, .aload_n 0, 1, 0, 0, 0, 0, 0), (1, .getfield 19, 3, 4, 1, 0, 0, 37), (4, .aload_n 0, 1, 0, 0, 0, 0, 0), (5, .getfield 9, 3, 4, 0, 0, 0, 34),
  (8, .arraylength, 1, 0, 0, 0, 0, 0), (9, .if_icmp .ge 23, 3, 0, 0, 0, 0, 0), (12, .aload_n 0, 1, 0, 0, 0, 0, 0), (13, .getfield 9, 3, 4, 0, 0, 0, 34),
  (16, .aload_n 0, 1, 0, 0, 0, 0, 0), (17, .getfield 19, 3, 4, 1, 0, 0, 37), (20, .iload_n 1, 1, 0, 0, 0, 0, 0), (21, .iastore, 1, 0, 0, 0, 0, 0),
  (22, .aload_n 0, 1, 0, 0, 0, 0, 0), (23, .dup, 1, 0, 0, 0, 0, 0), (24, .getfield 19, 3, 4, 1, 0, 0, 37), (27, .iconst 1, 1, 0, 0, 0, 0, 0), (28, .iadd, 1, 0, 0, 0, 0, 0),
  (29, .putfield 19, 3, 4, 1, 0, 0, 37), (32, .return_, 1, 0, 0, 0, 0, 0)]
def am_c_so_copyFrom : List am_E := [
  (0, .aload_n 1, 1, 0, 0, 0, 0, 0), (1, .getfield 9, 3, 4, 0, 0, 0, 34), (4, .iconst 0, 1, 0, 0, 0, 0, 0), (5, .aload_n 0, 1, 0, 0, 0, 0, 0), (6, .getfield 9, 3, 4, 0, 0, 0, 34),
  (9, .iconst 0, 1, 0, 0, 0, 0, 0), (10, .aload_n 1, 1, 0, 0, 0, 0, 0), (11, .getfield 19, 3, 4, 1, 0, 0, 37), (14, .invokestatic 22, 3, 7, 0, 0, 5, 486),
  (17, .aload_n 0, 1, 0, 0, 0, 0, 0), (18, .aload_n 1, 1, 0, 0, 0, 0, 0), (19, .getfield 19, 3, 4, 1, 0, 0, 37), (22, .putfield 19, 3, 4, 1, 0, 0, 37),
  (25, .aload_n 0, 1, 0, 0, 0, 0, 0), (26, .aload_n 1, 1, 0, 0, 0, 0, 0), (27, .getfield 15, 3, 4, 2, 0, 0, 41), (30, .putfield 15, 3, 4, 2, 0, 0, 41),
  (33, .return_, 1, 0, 0, 0, 0, 0)]
def am_c_pr_init : List am_E := [
  (0, .aload_n 0, 1, 0, 0, 0, 0, 0), (1, .invokespecial 3, 3, 4, 11, 0, 0, 123), (4, .return_, 1, 0, 0, 0, 0, 0)]
def am_c_pr_start : List am_E := [
  (0, .aload_n 0, 1, 0, 0, 0, 0, 0), (1, .iload_n 1, 1, 0, 0, 0, 0, 0), (2, .putfield 9, 3, 2, 1, 0, 0, 125), (5, .aload_n 0, 1, 0, 0, 0, 0, 0), (6, .iload_n 2, 1, 0, 0, 0, 0, 0),
  (7, .putfield 15, 3, 2, 0, 0, 0, 124), (10, .aload_n 0, 1, 0, 0, 0, 0, 0), (11, .iload_n 3, 1, 0, 0, 0, 0, 0), (12, .putfield 18, 3, 2, 2, 0, 0, 126),
  (15, .aload_n 0, 1, 0, 0, 0, 0, 0), (16, .iload 4, 2, 0, 0, 0, 0, 0), (18, .iconst 0, 1, 0, 0, 0, 0, 0), (19, .bipush 6, 2, 0, 0, 0, 0, 0),
  (21, .invokestatic 21, 3, 3, 100, 0, 3, 453), (24, .putfield 25, 3, 2, 3, 0, 0, 128), (27, .return_, 1, 0, 0, 0, 0, 0)]
def am_c_pr_next : List am_E := [
  (0, .iload_n 1, 1, 0, 0, 0, 0, 0), (1, .bipush 8, 2, 0, 0, 0, 0, 0), (3, .if_icmp .ge 7, 3, 0, 0, 0, 0, 0), (6, .iload_n 1, 1, 0, 0, 0, 0, 0), (7, .goto 7, 3, 0, 0, 0, 0, 0),
  (10, .iload_n 1, 1, 0, 0, 0, 0, 0), (11, .bipush 16, 2, 0, 0, 0, 0, 0), (13, .isub, 1, 0, 0, 0, 0, 0), (14, .istore_n 2, 1, 0, 0, 0, 0, 0), (15, .aload_n 0, 1, 0, 0, 0, 0, 0),
  (16, .getfield 15, 3, 2, 0, 0, 0, 124), (19, .getstatic 28, 3, 2, 0, 0, 0, 452), (22, .iconst 2, 1, 0, 0, 0, 0, 0), (23, .aload_n 0, 1, 0, 0, 0, 0, 0),
  (24, .getfield 25, 3, 2, 3, 0, 0, 128), (27, .imul, 1, 0, 0, 0, 0, 0), (28, .iaload, 1, 0, 0, 0, 0, 0), (29, .imul, 1, 0, 0, 0, 0, 0), (30, .aload_n 0, 1, 0, 0, 0, 0, 0),
  (31, .getfield 9, 3, 2, 1, 0, 0, 125), (34, .getstatic 28, 3, 2, 0, 0, 0, 452), (37, .iconst 2, 1, 0, 0, 0, 0, 0), (38, .aload_n 0, 1, 0, 0, 0, 0, 0),
  (39, .getfield 25, 3, 2, 3, 0, 0, 128), (42, .imul, 1, 0, 0, 0, 0, 0), (43, .iconst 1, 1, 0, 0, 0, 0, 0), (44, .iadd, 1, 0, 0, 0, 0, 0), (45, .iaload, 1, 0, 0, 0, 0, 0),
  (46, .imul, 1, 0, 0, 0, 0, 0), (47, .iadd, 1, 0, 0, 0, 0, 0), (48, .bipush 8, 2, 0, 0, 0, 0, 0), (50, .ishr, 1, 0, 0, 0, 0, 0), (51, .istore_n 3, 1, 0, 0, 0, 0, 0),
  (52, .iload_n 3, 1, 0, 0, 0, 0, 0), (53, .iload_n 2, 1, 0, 0, 0, 0, 0), (54, .aload_n 0, 1, 0, 0, 0, 0, 0), (55, .getfield 18, 3, 2, 2, 0, 0, 126),
  (58, .imul, 1, 0, 0, 0, 0, 0), (59, .iadd, 1, 0, 0, 0, 0, 0), (60, .sipush (-32768), 3, 0, 0, 0, 0, 0), (63, .sipush 32767, 3, 0, 0, 0, 0, 0),
  (66, .invokestatic 21, 3, 3, 100, 0, 3, 453), (69, .ireturn, 1, 0, 0, 0, 0, 0)]
def am_c_pr_accept : List am_E := [
  (0, .aload_n 0, 1, 0, 0, 0, 0, 0), (1, .aload_n 0, 1, 0, 0, 0, 0, 0), (2, .getfield 15, 3, 2, 0, 0, 0, 124), (5, .putfield 9, 3, 2, 1, 0, 0, 125),
  (8, .aload_n 0, 1, 0, 0, 0, 0, 0), (9, .iload_n 2, 1, 0, 0, 0, 0, 0), (10, .putfield 15, 3, 2, 0, 0, 0, 124), (13, .aload_n 0, 1, 0, 0, 0, 0, 0),
  (14, .aload_n 0, 1, 0, 0, 0, 0, 0), (15, .getfield 18, 3, 2, 2, 0, 0, 126), (18, .getstatic 32, 3, 3, 0, 0, 0, 465), (21, .iload_n 1, 1, 0, 0, 0, 0, 0),
  (22, .bipush 15, 2, 0, 0, 0, 0, 0), (24, .iand, 1, 0, 0, 0, 0, 0), (25, .iaload, 1, 0, 0, 0, 0, 0), (26, .imul, 1, 0, 0, 0, 0, 0), (27, .bipush 8, 2, 0, 0, 0, 0, 0),
  (29, .ishr, 1, 0, 0, 0, 0, 0), (30, .bipush 16, 2, 0, 0, 0, 0, 0), (32, .sipush 32767, 3, 0, 0, 0, 0, 0), (35, .invokestatic 21, 3, 3, 100, 0, 3, 453),
  (38, .putfield 18, 3, 2, 2, 0, 0, 126), (41, .return_, 1, 0, 0, 0, 0, 0)]
def am_c_sp_init : List am_E := [
  (0, .aload_n 0, 1, 0, 0, 0, 0, 0), (1, .invokespecial 3, 3, 4, 11, 0, 0, 106), (4, .return_, 1, 0, 0, 0, 0, 0)]
def am_c_sp_start : List am_E := [
  (0, .aload_n 0, 1, 0, 0, 0, 0, 0), (1, .iload_n 1, 1, 0, 0, 0, 0, 0), (2, .putfield 9, 3, 5, 0, 0, 0, 110), (5, .aload_n 0, 1, 0, 0, 0, 0, 0), (6, .iload_n 2, 1, 0, 0, 0, 0, 0),
  (7, .iconst 0, 1, 0, 0, 0, 0, 0), (8, .bipush 88, 2, 0, 0, 0, 0, 0), (10, .invokestatic 15, 3, 3, 100, 0, 3, 434), (13, .putfield 19, 3, 5, 1, 0, 0, 111),
  (16, .return_, 1, 0, 0, 0, 0, 0)]
def am_c_sp_next : List am_E := [
  (0, .getstatic 22, 3, 0, 0, 0, 0, 457), (3, .aload_n 0, 1, 0, 0, 0, 0, 0), (4, .getfield 19, 3, 5, 1, 0, 0, 111), (7, .iaload, 1, 0, 0, 0, 0, 0),
  (8, .istore_n 2, 1, 0, 0, 0, 0, 0), (9, .iload_n 2, 1, 0, 0, 0, 0, 0), (10, .iconst 3, 1, 0, 0, 0, 0, 0), (11, .ishr, 1, 0, 0, 0, 0, 0), (12, .istore_n 3, 1, 0, 0, 0, 0, 0),
  (13, .iload_n 1, 1, 0, 0, 0, 0, 0), (14, .iconst 1, 1, 0, 0, 0, 0, 0), (15, .iand, 1, 0, 0, 0, 0, 0), (16, .ifCond .eq 9, 3, 0, 0, 0, 0, 0), (19, .iload_n 3, 1, 0, 0, 0, 0, 0),
  (20, .iload_n 2, 1, 0, 0, 0, 0, 0), (21, .iconst 2, 1, 0, 0, 0, 0, 0), (22, .ishr, 1, 0, 0, 0, 0, 0), (23, .iadd, 1, 0, 0, 0, 0, 0), (24, .istore_n 3, 1, 0, 0, 0, 0, 0),
  (25, .iload_n 1, 1, 0, 0, 0, 0, 0), (26, .iconst 2, 1, 0, 0, 0, 0, 0), (27, .iand, 1, 0, 0, 0, 0, 0), (28, .ifCond .eq 9, 3, 0, 0, 0, 0, 0), (31, .iload_n 3, 1, 0, 0, 0, 0, 0),
  (32, .iload_n 2, 1, 0, 0, 0, 0, 0), (33, .iconst 1, 1, 0, 0, 0, 0, 0), (34, .ishr, 1, 0, 0, 0, 0, 0), (35, .iadd, 1, 0, 0, 0, 0, 0), (36, .istore_n 3, 1, 0, 0, 0, 0, 0),
  (37, .iload_n 1, 1, 0, 0, 0, 0, 0), (38, .iconst 4, 1, 0, 0, 0, 0, 0), (39, .iand, 1, 0, 0, 0, 0, 0), (40, .ifCond .eq 7, 3, 0, 0, 0, 0, 0), (43, .iload_n 3, 1, 0, 0, 0, 0, 0),
  (44, .iload_n 2, 1, 0, 0, 0, 0, 0), (45, .iadd, 1, 0, 0, 0, 0, 0), (46, .istore_n 3, 1, 0, 0, 0, 0, 0), (47, .iload_n 1, 1, 0, 0, 0, 0, 0), (48, .bipush 8, 2, 0, 0, 0, 0, 0),
  (50, .iand, 1, 0, 0, 0, 0, 0), (51, .ifCond .eq 12, 3, 0, 0, 0, 0, 0), (54, .aload_n 0, 1, 0, 0, 0, 0, 0), (55, .getfield 9, 3, 5, 0, 0, 0, 110),
  (58, .iload_n 3, 1, 0, 0, 0, 0, 0), (59, .isub, 1, 0, 0, 0, 0, 0), (60, .goto 9, 3, 0, 0, 0, 0, 0), (63, .aload_n 0, 1, 0, 0, 0, 0, 0), (64, .getfield 9, 3, 5, 0, 0, 0, 110),
  (67, .iload_n 3, 1, 0, 0, 0, 0, 0), (68, .iadd, 1, 0, 0, 0, 0, 0), (69, .istore 4, 2, 0, 0, 0, 0, 0), (71, .iload 4, 2, 0, 0, 0, 0, 0), (73, .sipush (-32768), 3, 0, 0, 0, 0, 0),
  (76, .sipush 32767, 3, 0, 0, 0, 0, 0), (79, .invokestatic 15, 3, 3, 100, 0, 3, 434), (82, .ireturn, 1, 0, 0, 0, 0, 0)]
def am_c_sp_accept : List am_E := [
  (0, .aload_n 0, 1, 0, 0, 0, 0, 0), (1, .iload_n 2, 1, 0, 0, 0, 0, 0), (2, .putfield 9, 3, 5, 0, 0, 0, 110), (5, .aload_n 0, 1, 0, 0, 0, 0, 0), (6, .aload_n 0, 1, 0, 0, 0, 0, 0),
  (7, .getfield 19, 3, 5, 1, 0, 0, 111), (10, .getstatic 26, 3, 1, 0, 0, 0, 470), (13, .iload_n 1, 1, 0, 0, 0, 0, 0), (14, .bipush 7, 2, 0, 0, 0, 0, 0),
  (16, .iand, 1, 0, 0, 0, 0, 0), (17, .iaload, 1, 0, 0, 0, 0, 0), (18, .iadd, 1, 0, 0, 0, 0, 0), (19, .iconst 0, 1, 0, 0, 0, 0, 0), (20, .bipush 88, 2, 0, 0, 0, 0, 0),
  (22, .invokestatic 15, 3, 3, 100, 0, 3, 434), (25, .putfield 19, 3, 5, 1, 0, 0, 111), (28, .return_, 1, 0, 0, 0, 0, 0)]
def am_c_rd_init : List am_E := [
  (0, .aload_n 0, 1, 0, 0, 0, 0, 0), (1, .invokespecial 3, 3, 6, 0, 0, 0, 162), (4, .aload_n 0, 1, 0, 0, 0, 0, 0), (5, .new 9, 3, 4, 0, 0, 0, 163), (8, .dup, 1, 0, 0, 0, 0, 0),
  (9, .invokespecial 11, 3, 4, 26, 0, 0, 164), (12, .putfield 12, 3, 3, 1, 0, 0, 172), (15, .aload_n 0, 1, 0, 0, 0, 0, 0), (16, .new 18, 3, 1, 0, 0, 0, 165),
  (19, .dup, 1, 0, 0, 0, 0, 0), (20, .invokespecial 20, 3, 4, 13, 0, 0, 166), (23, .putfield 21, 3, 3, 2, 0, 0, 174), (26, .aload_n 0, 1, 0, 0, 0, 0, 0),
  (27, .new 25, 3, 5, 0, 0, 0, 167), (30, .dup, 1, 0, 0, 0, 0, 0), (31, .invokespecial 27, 3, 4, 33, 0, 0, 168), (34, .putfield 28, 3, 3, 3, 0, 0, 175),
  (37, .aload_n 0, 1, 0, 0, 0, 0, 0), (38, .new 32, 3, 2, 0, 0, 0, 169), (41, .dup, 1, 0, 0, 0, 0, 0), (42, .invokespecial 34, 3, 4, 29, 0, 0, 170),
  (45, .putfield 35, 3, 3, 4, 0, 0, 176), (48, .aload_n 0, 1, 0, 0, 0, 0, 0), (49, .aload_n 1, 1, 0, 0, 0, 0, 0), (50, .putfield 39, 3, 3, 0, 0, 0, 171),
  (53, .return_, 1, 0, 0, 0, 0, 0)]
def am_c_rd_readFile : List am_E := [
  (0, .aload_n 0, 1, 0, 0, 0, 0, 0), (1, .iconst 0, 1, 0, 0, 0, 0, 0), (2, .putfield 43, 3, 3, 5, 0, 0, 177), (5, .aload_n 0, 1, 0, 0, 0, 0, 0), (6, .iconst 0, 1, 0, 0, 0, 0, 0),
  (7, .putfield 47, 3, 3, 8, 0, 0, 180), (10, .aload_n 0, 1, 0, 0, 0, 0, 0), (11, .iconst 0, 1, 0, 0, 0, 0, 0), (12, .putfield 51, 3, 3, 9, 0, 0, 181),
  (15, .aload_n 0, 1, 0, 0, 0, 0, 0), (16, .getfield 21, 3, 3, 2, 0, 0, 174), (19, .iconst 0, 1, 0, 0, 0, 0, 0), (20, .invokevirtual 54, 3, 1, 15, 0, 1, 245),
  (23, .aload_n 0, 1, 0, 0, 0, 0, 0), (24, .getfield 12, 3, 3, 1, 0, 0, 172), (27, .iconst 0, 1, 0, 0, 0, 0, 0), (28, .putfield 58, 3, 4, 1, 0, 0, 40),
  (31, .aload_n 0, 1, 0, 0, 0, 0, 0), (32, .invokevirtual 61, 3, 1, 40, 0, 0, 249), (35, .istore_n 1, 1, 0, 0, 0, 0, 0), (36, .iconst 0, 1, 0, 0, 0, 0, 0),
  (37, .istore_n 2, 1, 0, 0, 0, 0, 0), (38, .iload_n 2, 1, 0, 0, 0, 0, 0), (39, .bipush 50, 2, 0, 0, 0, 0, 0), (41, .if_icmp .ge 25, 3, 0, 0, 0, 0, 0),
  (44, .iload_n 1, 1, 0, 0, 0, 0, 0), (45, .ifCond .eq 21, 3, 0, 0, 0, 0, 0), (48, .aload_n 0, 1, 0, 0, 0, 0, 0), (49, .invokevirtual 65, 3, 1, 41, 0, 0, 279),
  (52, .ifCond .ne 14, 3, 0, 0, 0, 0, 0), (55, .aload_n 0, 1, 0, 0, 0, 0, 0), (56, .invokevirtual 68, 3, 1, 42, 0, 0, 285), (59, .istore_n 1, 1, 0, 0, 0, 0, 0),
  (60, .iinc 2 1, 3, 0, 0, 0, 0, 0), (63, .goto (-25), 3, 0, 0, 0, 0, 0), (66, .iload_n 1, 1, 0, 0, 0, 0, 0), (67, .ifCond .eq 45, 3, 0, 0, 0, 0, 0),
  (70, .aload_n 0, 1, 0, 0, 0, 0, 0), (71, .getfield 71, 3, 3, 7, 0, 0, 179), (74, .ifCond .eq 13, 3, 0, 0, 0, 0, 0), (77, .aload_n 0, 1, 0, 0, 0, 0, 0),
  (78, .invokevirtual 74, 3, 1, 59, 0, 0, 394), (81, .ifCond .eq 31, 3, 0, 0, 0, 0, 0), (84, .goto 10, 3, 0, 0, 0, 0, 0), (87, .aload_n 0, 1, 0, 0, 0, 0, 0),
  (88, .invokevirtual 77, 3, 1, 51, 0, 0, 402), (91, .ifCond .eq 21, 3, 0, 0, 0, 0, 0), (94, .aload_n 0, 1, 0, 0, 0, 0, 0), (95, .getfield 43, 3, 3, 5, 0, 0, 177),
  (98, .aload_n 0, 1, 0, 0, 0, 0, 0), (99, .getfield 39, 3, 3, 0, 0, 0, 171), (102, .getfield 80, 3, 0, 1, 0, 0, 62), (105, .if_icmp .ne 7, 3, 0, 0, 0, 0, 0),
  (108, .iconst 1, 1, 0, 0, 0, 0, 0), (109, .goto 4, 3, 0, 0, 0, 0, 0), (112, .iconst 0, 1, 0, 0, 0, 0, 0), (113, .istore_n 1, 1, 0, 0, 0, 0, 0),
  (114, .iload_n 1, 1, 0, 0, 0, 0, 0), (115, .ifCond .eq 7, 3, 0, 0, 0, 0, 0), (118, .iconst (-1), 1, 0, 0, 0, 0, 0), (119, .goto 7, 3, 0, 0, 0, 0, 0),
  (122, .aload_n 0, 1, 0, 0, 0, 0, 0), (123, .getfield 43, 3, 3, 5, 0, 0, 177), (126, .ireturn, 1, 0, 0, 0, 0, 0)]
def am_c_rd_formOfFile : List am_E := [
  (0, .aload_n 0, 1, 0, 0, 0, 0, 0), (1, .getfield 71, 3, 3, 7, 0, 0, 179), (4, .ifCond .eq 5, 3, 0, 0, 0, 0, 0), (7, .iconst 4, 1, 0, 0, 0, 0, 0),
  (8, .ireturn, 1, 0, 0, 0, 0, 0), (9, .aload_n 0, 1, 0, 0, 0, 0, 0), (10, .getfield 21, 3, 3, 2, 0, 0, 174), (13, .invokevirtual 83, 3, 1, 17, 0, 0, 359),
  (16, .ifCond .eq 21, 3, 0, 0, 0, 0, 0), (19, .aload_n 0, 1, 0, 0, 0, 0, 0), (20, .getfield 21, 3, 3, 2, 0, 0, 174), (23, .getfield 86, 3, 1, 0, 0, 0, 83),
  (26, .bipush 17, 2, 0, 0, 0, 0, 0), (28, .if_icmp .ne 7, 3, 0, 0, 0, 0, 0), (31, .iconst 2, 1, 0, 0, 0, 0, 0), (32, .goto 4, 3, 0, 0, 0, 0, 0),
  (35, .iconst 3, 1, 0, 0, 0, 0, 0), (36, .ireturn, 1, 0, 0, 0, 0, 0), (37, .aload_n 0, 1, 0, 0, 0, 0, 0), (38, .getfield 21, 3, 3, 2, 0, 0, 174),
  (41, .getfield 89, 3, 1, 2, 0, 0, 86), (44, .iconst 1, 1, 0, 0, 0, 0, 0), (45, .if_icmp .ne 7, 3, 0, 0, 0, 0, 0), (48, .iconst 0, 1, 0, 0, 0, 0, 0),
  (49, .goto 4, 3, 0, 0, 0, 0, 0), (52, .iconst 1, 1, 0, 0, 0, 0, 0), (53, .ireturn, 1, 0, 0, 0, 0, 0)]
def am_c_rd_takeHead : List am_E := [
  (0, .aload_n 0, 1, 0, 0, 0, 0, 0), (1, .aload_n 0, 1, 0, 0, 0, 0, 0), (2, .getfield 39, 3, 3, 0, 0, 0, 171), (5, .aload_n 0, 1, 0, 0, 0, 0, 0),
  (6, .getfield 43, 3, 3, 5, 0, 0, 177), (9, .iconst 4, 1, 0, 0, 0, 0, 0), (10, .invokevirtual 92, 3, 1, 8, 0, 2, 253), (13, .ifCond .eq 23, 3, 0, 0, 0, 0, 0),
  (16, .aload_n 0, 1, 0, 0, 0, 0, 0), (17, .getfield 39, 3, 3, 0, 0, 0, 171), (20, .aload_n 0, 1, 0, 0, 0, 0, 0), (21, .getfield 43, 3, 3, 5, 0, 0, 177),
  (24, .invokevirtual 96, 3, 1, 10, 0, 1, 257), (27, .ldc 100, 2, 0, 0, 0, 1179603533, 266), (29, .if_icmp .ne 7, 3, 0, 0, 0, 0, 0), (32, .iconst 1, 1, 0, 0, 0, 0, 0),
  (33, .goto 4, 3, 0, 0, 0, 0, 0), (36, .iconst 0, 1, 0, 0, 0, 0, 0), (37, .putfield 71, 3, 3, 7, 0, 0, 179), (40, .aload_n 0, 1, 0, 0, 0, 0, 0),
  (41, .aload_n 0, 1, 0, 0, 0, 0, 0), (42, .getfield 71, 3, 3, 7, 0, 0, 179), (45, .ifCond .eq 8, 3, 0, 0, 0, 0, 0), (48, .ldc 100, 2, 0, 0, 0, 1179603533, 266),
  (50, .goto 5, 3, 0, 0, 0, 0, 0), (53, .ldc 101, 2, 0, 0, 0, 1380533830, 267), (55, .invokevirtual 102, 3, 1, 60, 0, 1, 268), (58, .ifCond .eq 47, 3, 0, 0, 0, 0, 0),
  (61, .aload_n 0, 1, 0, 0, 0, 0, 0), (62, .iconst 4, 1, 0, 0, 0, 0, 0), (63, .aload_n 0, 1, 0, 0, 0, 0, 0), (64, .getfield 39, 3, 3, 0, 0, 0, 171),
  (67, .getfield 80, 3, 0, 1, 0, 0, 62), (70, .bipush 8, 2, 0, 0, 0, 0, 0), (72, .isub, 1, 0, 0, 0, 0, 0), (73, .i2l, 1, 0, 0, 0, 0, 0),
  (74, .invokevirtual 106, 3, 1, 63, 0, 2, 272), (77, .ifCond .eq 28, 3, 0, 0, 0, 0, 0), (80, .aload_n 0, 1, 0, 0, 0, 0, 0), (81, .aload_n 0, 1, 0, 0, 0, 0, 0),
  (82, .getfield 71, 3, 3, 7, 0, 0, 179), (85, .ifCond .eq 8, 3, 0, 0, 0, 0, 0), (88, .ldc 110, 2, 0, 0, 0, 1095321158, 277), (90, .goto 5, 3, 0, 0, 0, 0, 0),
  (93, .ldc 111, 2, 0, 0, 0, 1463899717, 278), (95, .invokevirtual 102, 3, 1, 60, 0, 1, 268), (98, .ifCond .eq 7, 3, 0, 0, 0, 0, 0), (101, .iconst 1, 1, 0, 0, 0, 0, 0),
  (102, .goto 4, 3, 0, 0, 0, 0, 0), (105, .iconst 0, 1, 0, 0, 0, 0, 0), (106, .ireturn, 1, 0, 0, 0, 0, 0)]
def am_c_rd_isAtSamples : List am_E := [
  (0, .aload_n 0, 1, 0, 0, 0, 0, 0), (1, .getfield 39, 3, 3, 0, 0, 0, 171), (4, .aload_n 0, 1, 0, 0, 0, 0, 0), (5, .getfield 43, 3, 3, 5, 0, 0, 177),
  (8, .iconst 4, 1, 0, 0, 0, 0, 0), (9, .invokevirtual 92, 3, 1, 8, 0, 2, 253), (12, .ifCond .eq 35, 3, 0, 0, 0, 0, 0), (15, .aload_n 0, 1, 0, 0, 0, 0, 0),
  (16, .getfield 39, 3, 3, 0, 0, 0, 171), (19, .aload_n 0, 1, 0, 0, 0, 0, 0), (20, .getfield 43, 3, 3, 5, 0, 0, 177), (23, .invokevirtual 96, 3, 1, 10, 0, 1, 257),
  (26, .aload_n 0, 1, 0, 0, 0, 0, 0), (27, .getfield 71, 3, 3, 7, 0, 0, 179), (30, .ifCond .eq 8, 3, 0, 0, 0, 0, 0), (33, .ldc 112, 2, 0, 0, 0, 1397968452, 283),
  (35, .goto 5, 3, 0, 0, 0, 0, 0), (38, .ldc 113, 2, 0, 0, 0, 1684108385, 284), (40, .if_icmp .ne 7, 3, 0, 0, 0, 0, 0), (43, .iconst 1, 1, 0, 0, 0, 0, 0),
  (44, .goto 4, 3, 0, 0, 0, 0, 0), (47, .iconst 0, 1, 0, 0, 0, 0, 0), (48, .ireturn, 1, 0, 0, 0, 0, 0)]
def am_c_rd_takeChunk : List am_E := [
  (0, .aload_n 0, 1, 0, 0, 0, 0, 0), (1, .getfield 39, 3, 3, 0, 0, 0, 171), (4, .aload_n 0, 1, 0, 0, 0, 0, 0), (5, .getfield 43, 3, 3, 5, 0, 0, 177),
  (8, .iconst 4, 1, 0, 0, 0, 0, 0), (9, .invokevirtual 92, 3, 1, 8, 0, 2, 253), (12, .ifCond .ne 5, 3, 0, 0, 0, 0, 0), (15, .iconst 0, 1, 0, 0, 0, 0, 0),
  (16, .ireturn, 1, 0, 0, 0, 0, 0), (17, .aload_n 0, 1, 0, 0, 0, 0, 0), (18, .getfield 39, 3, 3, 0, 0, 0, 171), (21, .aload_n 0, 1, 0, 0, 0, 0, 0),
  (22, .getfield 43, 3, 3, 5, 0, 0, 177), (25, .invokevirtual 96, 3, 1, 10, 0, 1, 257), (28, .istore_n 1, 1, 0, 0, 0, 0, 0), (29, .aload_n 0, 1, 0, 0, 0, 0, 0),
  (30, .getfield 71, 3, 3, 7, 0, 0, 179), (33, .ifCond .eq 29, 3, 0, 0, 0, 0, 0), (36, .iload_n 1, 1, 0, 0, 0, 0, 0), (37, .ldc 114, 2, 0, 0, 0, 1129270605, 289),
  (39, .if_icmp .ne 23, 3, 0, 0, 0, 0, 0), (42, .aload_n 0, 1, 0, 0, 0, 0, 0), (43, .getfield 51, 3, 3, 9, 0, 0, 181), (46, .ifCond .ne 14, 3, 0, 0, 0, 0, 0),
  (49, .aload_n 0, 1, 0, 0, 0, 0, 0), (50, .invokevirtual 115, 3, 1, 48, 0, 0, 290), (53, .ifCond .eq 7, 3, 0, 0, 0, 0, 0), (56, .iconst 1, 1, 0, 0, 0, 0, 0),
  (57, .goto 4, 3, 0, 0, 0, 0, 0), (60, .iconst 0, 1, 0, 0, 0, 0, 0), (61, .ireturn, 1, 0, 0, 0, 0, 0), (62, .aload_n 0, 1, 0, 0, 0, 0, 0), (63, .getfield 71, 3, 3, 7, 0, 0, 179),
  (66, .ifCond .ne 32, 3, 0, 0, 0, 0, 0), (69, .iload_n 1, 1, 0, 0, 0, 0, 0), (70, .ldc 118, 2, 0, 0, 0, 1718449184, 313), (72, .if_icmp .ne 26, 3, 0, 0, 0, 0, 0),
  (75, .aload_n 0, 1, 0, 0, 0, 0, 0), (76, .getfield 21, 3, 3, 2, 0, 0, 174), (79, .getfield 86, 3, 1, 0, 0, 0, 83), (82, .ifCond .ne 14, 3, 0, 0, 0, 0, 0),
  (85, .aload_n 0, 1, 0, 0, 0, 0, 0), (86, .invokevirtual 119, 3, 1, 43, 0, 0, 314), (89, .ifCond .eq 7, 3, 0, 0, 0, 0, 0), (92, .iconst 1, 1, 0, 0, 0, 0, 0),
  (93, .goto 4, 3, 0, 0, 0, 0, 0), (96, .iconst 0, 1, 0, 0, 0, 0, 0), (97, .ireturn, 1, 0, 0, 0, 0, 0), (98, .aload_n 0, 1, 0, 0, 0, 0, 0), (99, .getfield 71, 3, 3, 7, 0, 0, 179),
  (102, .ifCond .ne 39, 3, 0, 0, 0, 0, 0), (105, .iload_n 1, 1, 0, 0, 0, 0, 0), (106, .ldc 122, 2, 0, 0, 0, 1717658484, 380), (108, .if_icmp .ne 33, 3, 0, 0, 0, 0, 0),
  (111, .aload_n 0, 1, 0, 0, 0, 0, 0), (112, .getfield 21, 3, 3, 2, 0, 0, 174), (115, .invokevirtual 83, 3, 1, 17, 0, 0, 359), (118, .ifCond .eq 23, 3, 0, 0, 0, 0, 0),
  (121, .aload_n 0, 1, 0, 0, 0, 0, 0), (122, .getfield 47, 3, 3, 8, 0, 0, 180), (125, .ifCond .ne 14, 3, 0, 0, 0, 0, 0), (128, .aload_n 0, 1, 0, 0, 0, 0, 0),
  (129, .invokevirtual 123, 3, 1, 47, 0, 0, 381), (132, .ifCond .eq 7, 3, 0, 0, 0, 0, 0), (135, .iconst 1, 1, 0, 0, 0, 0, 0), (136, .goto 4, 3, 0, 0, 0, 0, 0),
  (139, .iconst 0, 1, 0, 0, 0, 0, 0), (140, .ireturn, 1, 0, 0, 0, 0, 0), (141, .aload_n 0, 1, 0, 0, 0, 0, 0), (142, .invokevirtual 126, 3, 1, 50, 0, 0, 386),
  (145, .ireturn, 1, 0, 0, 0, 0, 0)]
def am_c_rd_takeFmt : List am_E := [
  (0, .aload_n 0, 1, 0, 0, 0, 0, 0), (1, .ldc 118, 2, 0, 0, 0, 1718449184, 313), (3, .invokevirtual 102, 3, 1, 60, 0, 1, 268), (6, .ifCond .eq 18, 3, 0, 0, 0, 0, 0),
  (9, .aload_n 0, 1, 0, 0, 0, 0, 0), (10, .getfield 39, 3, 3, 0, 0, 0, 171), (13, .aload_n 0, 1, 0, 0, 0, 0, 0), (14, .getfield 43, 3, 3, 5, 0, 0, 177),
  (17, .iconst 4, 1, 0, 0, 0, 0, 0), (18, .invokevirtual 92, 3, 1, 8, 0, 2, 253), (21, .ifCond .ne 5, 3, 0, 0, 0, 0, 0), (24, .iconst 0, 1, 0, 0, 0, 0, 0),
  (25, .ireturn, 1, 0, 0, 0, 0, 0), (26, .aload_n 0, 1, 0, 0, 0, 0, 0), (27, .getfield 39, 3, 3, 0, 0, 0, 171), (30, .aload_n 0, 1, 0, 0, 0, 0, 0),
  (31, .getfield 43, 3, 3, 5, 0, 0, 177), (34, .iconst 4, 1, 0, 0, 0, 0, 0), (35, .aload_n 0, 1, 0, 0, 0, 0, 0), (36, .getfield 71, 3, 3, 7, 0, 0, 179),
  (39, .invokevirtual 129, 3, 1, 9, 0, 3, 276), (42, .lstore_n 1, 1, 0, 0, 0, 0, 0), (43, .aload_n 0, 1, 0, 0, 0, 0, 0), (44, .getfield 21, 3, 3, 2, 0, 0, 174),
  (47, .lload_n 1, 1, 0, 0, 0, 0, 0), (48, .invokestatic 133, 3, 0, 14, 0, 1, 318), (51, .invokevirtual 54, 3, 1, 15, 0, 1, 245), (54, .aload_n 0, 1, 0, 0, 0, 0, 0),
  (55, .getfield 21, 3, 3, 2, 0, 0, 174), (58, .getfield 86, 3, 1, 0, 0, 0, 83), (61, .ifCond .eq 11, 3, 0, 0, 0, 0, 0), (64, .aload_n 0, 1, 0, 0, 0, 0, 0),
  (65, .lload_n 1, 1, 0, 0, 0, 0, 0), (66, .invokevirtual 137, 3, 1, 61, 0, 1, 295), (69, .ifCond .ne 5, 3, 0, 0, 0, 0, 0), (72, .iconst 0, 1, 0, 0, 0, 0, 0),
  (73, .ireturn, 1, 0, 0, 0, 0, 0), (74, .aload_n 0, 1, 0, 0, 0, 0, 0), (75, .iconst 2, 1, 0, 0, 0, 0, 0), (76, .aload_n 0, 1, 0, 0, 0, 0, 0),
  (77, .getfield 21, 3, 3, 2, 0, 0, 174), (80, .getfield 86, 3, 1, 0, 0, 0, 83), (83, .i2l, 1, 0, 0, 0, 0, 0), (84, .invokevirtual 106, 3, 1, 63, 0, 2, 272),
  (87, .ifCond .eq 24, 3, 0, 0, 0, 0, 0), (90, .aload_n 0, 1, 0, 0, 0, 0, 0), (91, .iconst 2, 1, 0, 0, 0, 0, 0), (92, .lconst 1, 1, 0, 0, 0, 0, 0),
  (93, .invokevirtual 106, 3, 1, 63, 0, 2, 272), (96, .ifCond .eq 15, 3, 0, 0, 0, 0, 0), (99, .aload_n 0, 1, 0, 0, 0, 0, 0), (100, .iconst 4, 1, 0, 0, 0, 0, 0),
  (101, .lconst 1, 1, 0, 0, 0, 0, 0), (102, .ldc2_w 141, 3, 0, 0, 0, 192000, 312), (105, .invokevirtual 143, 3, 1, 64, 0, 3, 301), (108, .ifCond .ne 5, 3, 0, 0, 0, 0, 0),
  (111, .iconst 0, 1, 0, 0, 0, 0, 0), (112, .ireturn, 1, 0, 0, 0, 0, 0), (113, .aload_n 0, 1, 0, 0, 0, 0, 0), (114, .getfield 12, 3, 3, 1, 0, 0, 172),
  (117, .aload_n 0, 1, 0, 0, 0, 0, 0), (118, .getfield 147, 3, 3, 6, 0, 0, 178), (121, .l2i, 1, 0, 0, 0, 0, 0), (122, .putfield 151, 3, 4, 2, 0, 0, 44),
  (125, .aload_n 0, 1, 0, 0, 0, 0, 0), (126, .getfield 43, 3, 3, 5, 0, 0, 177), (129, .istore_n 3, 1, 0, 0, 0, 0, 0), (130, .aload_n 0, 1, 0, 0, 0, 0, 0),
  (131, .dup, 1, 0, 0, 0, 0, 0), (132, .getfield 43, 3, 3, 5, 0, 0, 177), (135, .iconst 4, 1, 0, 0, 0, 0, 0), (136, .iadd, 1, 0, 0, 0, 0, 0),
  (137, .putfield 43, 3, 3, 5, 0, 0, 177), (140, .aload_n 0, 1, 0, 0, 0, 0, 0), (141, .invokevirtual 154, 3, 1, 44, 0, 0, 324), (144, .ifCond .eq 22, 3, 0, 0, 0, 0, 0),
  (147, .aload_n 0, 1, 0, 0, 0, 0, 0), (148, .invokevirtual 157, 3, 1, 45, 0, 0, 355), (151, .ifCond .eq 15, 3, 0, 0, 0, 0, 0), (154, .aload_n 0, 1, 0, 0, 0, 0, 0),
  (155, .iload_n 3, 1, 0, 0, 0, 0, 0), (156, .invokevirtual 160, 3, 1, 46, 0, 1, 372), (159, .ifCond .eq 7, 3, 0, 0, 0, 0, 0), (162, .iconst 1, 1, 0, 0, 0, 0, 0),
  (163, .goto 4, 3, 0, 0, 0, 0, 0), (166, .iconst 0, 1, 0, 0, 0, 0, 0), (167, .ireturn, 1, 0, 0, 0, 0, 0)]
def am_c_rd_takeAlign : List am_E := [
  (0, .aload_n 0, 1, 0, 0, 0, 0, 0), (1, .iconst 2, 1, 0, 0, 0, 0, 0), (2, .aload_n 0, 1, 0, 0, 0, 0, 0), (3, .getfield 21, 3, 3, 2, 0, 0, 174),
  (6, .invokevirtual 163, 3, 1, 20, 0, 0, 328), (9, .i2l, 1, 0, 0, 0, 0, 0), (10, .aload_n 0, 1, 0, 0, 0, 0, 0), (11, .getfield 21, 3, 3, 2, 0, 0, 174),
  (14, .invokevirtual 167, 3, 1, 21, 0, 0, 332), (17, .i2l, 1, 0, 0, 0, 0, 0), (18, .invokevirtual 143, 3, 1, 64, 0, 3, 301), (21, .ifCond .ne 5, 3, 0, 0, 0, 0, 0),
  (24, .iconst 0, 1, 0, 0, 0, 0, 0), (25, .ireturn, 1, 0, 0, 0, 0, 0), (26, .aload_n 0, 1, 0, 0, 0, 0, 0), (27, .getfield 21, 3, 3, 2, 0, 0, 174),
  (30, .aload_n 0, 1, 0, 0, 0, 0, 0), (31, .getfield 147, 3, 3, 6, 0, 0, 178), (34, .l2i, 1, 0, 0, 0, 0, 0), (35, .invokevirtual 170, 3, 1, 16, 0, 1, 340),
  (38, .aload_n 0, 1, 0, 0, 0, 0, 0), (39, .iconst 2, 1, 0, 0, 0, 0, 0), (40, .aload_n 0, 1, 0, 0, 0, 0, 0), (41, .getfield 21, 3, 3, 2, 0, 0, 174),
  (44, .invokevirtual 173, 3, 1, 22, 0, 0, 351), (47, .i2l, 1, 0, 0, 0, 0, 0), (48, .invokevirtual 106, 3, 1, 63, 0, 2, 272), (51, .ireturn, 1, 0, 0, 0, 0, 0)]
def am_c_rd_takeMoreOfFmt : List am_E := [
  (0, .aload_n 0, 1, 0, 0, 0, 0, 0), (1, .getfield 21, 3, 3, 2, 0, 0, 174), (4, .invokevirtual 83, 3, 1, 17, 0, 0, 359), (7, .ifCond .ne 5, 3, 0, 0, 0, 0, 0),
  (10, .iconst 1, 1, 0, 0, 0, 0, 0), (11, .ireturn, 1, 0, 0, 0, 0, 0), (12, .aload_n 0, 1, 0, 0, 0, 0, 0), (13, .iconst 2, 1, 0, 0, 0, 0, 0), (14, .aload_n 0, 1, 0, 0, 0, 0, 0),
  (15, .getfield 21, 3, 3, 2, 0, 0, 174), (18, .invokevirtual 176, 3, 1, 19, 0, 0, 360), (21, .i2l, 1, 0, 0, 0, 0, 0), (22, .invokevirtual 106, 3, 1, 63, 0, 2, 272),
  (25, .ifCond .eq 19, 3, 0, 0, 0, 0, 0), (28, .aload_n 0, 1, 0, 0, 0, 0, 0), (29, .iconst 2, 1, 0, 0, 0, 0, 0), (30, .aload_n 0, 1, 0, 0, 0, 0, 0),
  (31, .getfield 21, 3, 3, 2, 0, 0, 174), (34, .getfield 179, 3, 1, 3, 0, 0, 91), (37, .i2l, 1, 0, 0, 0, 0, 0), (38, .invokevirtual 106, 3, 1, 63, 0, 2, 272),
  (41, .ifCond .ne 5, 3, 0, 0, 0, 0, 0), (44, .iconst 0, 1, 0, 0, 0, 0, 0), (45, .ireturn, 1, 0, 0, 0, 0, 0), (46, .aload_n 0, 1, 0, 0, 0, 0, 0),
  (47, .getfield 21, 3, 3, 2, 0, 0, 174), (50, .getfield 86, 3, 1, 0, 0, 0, 83), (53, .bipush 17, 2, 0, 0, 0, 0, 0), (55, .if_icmp .ne 5, 3, 0, 0, 0, 0, 0),
  (58, .iconst 1, 1, 0, 0, 0, 0, 0), (59, .ireturn, 1, 0, 0, 0, 0, 0), (60, .aload_n 0, 1, 0, 0, 0, 0, 0), (61, .iconst 2, 1, 0, 0, 0, 0, 0),
  (62, .ldc2_w 182, 3, 0, 0, 0, 7, 368), (65, .invokevirtual 106, 3, 1, 63, 0, 2, 272), (68, .istore_n 1, 1, 0, 0, 0, 0, 0), (69, .getstatic 184, 3, 2, 0, 0, 0, 369),
  (72, .astore_n 2, 1, 0, 0, 0, 0, 0), (73, .aload_n 2, 1, 0, 0, 0, 0, 0), (74, .arraylength, 1, 0, 0, 0, 0, 0), (75, .istore_n 3, 1, 0, 0, 0, 0, 0),
  (76, .iconst 0, 1, 0, 0, 0, 0, 0), (77, .istore 4, 2, 0, 0, 0, 0, 0), (79, .iload 4, 2, 0, 0, 0, 0, 0), (81, .iload_n 3, 1, 0, 0, 0, 0, 0),
  (82, .if_icmp .ge 39, 3, 0, 0, 0, 0, 0), (85, .aload_n 2, 1, 0, 0, 0, 0, 0), (86, .iload 4, 2, 0, 0, 0, 0, 0), (88, .iaload, 1, 0, 0, 0, 0, 0),
  (89, .istore 5, 2, 0, 0, 0, 0, 0), (91, .iload_n 1, 1, 0, 0, 0, 0, 0), (92, .ifCond .eq 21, 3, 0, 0, 0, 0, 0), (95, .aload_n 0, 1, 0, 0, 0, 0, 0),
  (96, .iconst 2, 1, 0, 0, 0, 0, 0), (97, .iload 5, 2, 0, 0, 0, 0, 0), (99, .ldc 188, 2, 0, 0, 0, 65535, 371), (101, .iand, 1, 0, 0, 0, 0, 0), (102, .i2l, 1, 0, 0, 0, 0, 0),
  (103, .invokevirtual 106, 3, 1, 63, 0, 2, 272), (106, .ifCond .eq 7, 3, 0, 0, 0, 0, 0), (109, .iconst 1, 1, 0, 0, 0, 0, 0), (110, .goto 4, 3, 0, 0, 0, 0, 0),
  (113, .iconst 0, 1, 0, 0, 0, 0, 0), (114, .istore_n 1, 1, 0, 0, 0, 0, 0), (115, .iinc 4 1, 3, 0, 0, 0, 0, 0), (118, .goto (-39), 3, 0, 0, 0, 0, 0),
  (121, .iload_n 1, 1, 0, 0, 0, 0, 0), (122, .ireturn, 1, 0, 0, 0, 0, 0)]
def am_c_rd_isSpeedRight : List am_E := [
  (0, .aload_n 0, 1, 0, 0, 0, 0, 0), (1, .getfield 43, 3, 3, 5, 0, 0, 177), (4, .istore_n 2, 1, 0, 0, 0, 0, 0), (5, .aload_n 0, 1, 0, 0, 0, 0, 0),
  (6, .iload_n 1, 1, 0, 0, 0, 0, 0), (7, .putfield 43, 3, 3, 5, 0, 0, 177), (10, .aload_n 0, 1, 0, 0, 0, 0, 0), (11, .iconst 4, 1, 0, 0, 0, 0, 0),
  (12, .aload_n 0, 1, 0, 0, 0, 0, 0), (13, .getfield 21, 3, 3, 2, 0, 0, 174), (16, .aload_n 0, 1, 0, 0, 0, 0, 0), (17, .getfield 12, 3, 3, 1, 0, 0, 172),
  (20, .getfield 151, 3, 4, 2, 0, 0, 44), (23, .invokevirtual 189, 3, 1, 24, 0, 1, 376), (26, .i2l, 1, 0, 0, 0, 0, 0), (27, .invokevirtual 106, 3, 1, 63, 0, 2, 272),
  (30, .ifCond .ne 5, 3, 0, 0, 0, 0, 0), (33, .iconst 0, 1, 0, 0, 0, 0, 0), (34, .ireturn, 1, 0, 0, 0, 0, 0), (35, .aload_n 0, 1, 0, 0, 0, 0, 0),
  (36, .iload_n 2, 1, 0, 0, 0, 0, 0), (37, .putfield 43, 3, 3, 5, 0, 0, 177), (40, .iconst 1, 1, 0, 0, 0, 0, 0), (41, .ireturn, 1, 0, 0, 0, 0, 0)]
def am_c_rd_takeFact : List am_E := [
  (0, .aload_n 0, 1, 0, 0, 0, 0, 0), (1, .ldc 122, 2, 0, 0, 0, 1717658484, 380), (3, .invokevirtual 102, 3, 1, 60, 0, 1, 268), (6, .ifCond .eq 25, 3, 0, 0, 0, 0, 0),
  (9, .aload_n 0, 1, 0, 0, 0, 0, 0), (10, .ldc2_w 192, 3, 0, 0, 0, 4, 385), (13, .invokevirtual 137, 3, 1, 61, 0, 1, 295), (16, .ifCond .eq 15, 3, 0, 0, 0, 0, 0),
  (19, .aload_n 0, 1, 0, 0, 0, 0, 0), (20, .iconst 4, 1, 0, 0, 0, 0, 0), (21, .lconst 0, 1, 0, 0, 0, 0, 0), (22, .ldc2_w 194, 3, 0, 0, 0, 64, 300),
  (25, .invokevirtual 143, 3, 1, 64, 0, 3, 301), (28, .ifCond .ne 5, 3, 0, 0, 0, 0, 0), (31, .iconst 0, 1, 0, 0, 0, 0, 0), (32, .ireturn, 1, 0, 0, 0, 0, 0),
  (33, .aload_n 0, 1, 0, 0, 0, 0, 0), (34, .aload_n 0, 1, 0, 0, 0, 0, 0), (35, .getfield 147, 3, 3, 6, 0, 0, 178), (38, .l2i, 1, 0, 0, 0, 0, 0),
  (39, .putfield 196, 3, 3, 10, 0, 0, 182), (42, .aload_n 0, 1, 0, 0, 0, 0, 0), (43, .iconst 1, 1, 0, 0, 0, 0, 0), (44, .putfield 47, 3, 3, 8, 0, 0, 180),
  (47, .iconst 1, 1, 0, 0, 0, 0, 0), (48, .ireturn, 1, 0, 0, 0, 0, 0)]
def am_c_rd_takeComm : List am_E := [
  (0, .aload_n 0, 1, 0, 0, 0, 0, 0), (1, .ldc 114, 2, 0, 0, 0, 1129270605, 289), (3, .invokevirtual 102, 3, 1, 60, 0, 1, 268), (6, .ifCond .eq 34, 3, 0, 0, 0, 0, 0),
  (9, .aload_n 0, 1, 0, 0, 0, 0, 0), (10, .ldc2_w 199, 3, 0, 0, 0, 18, 294), (13, .invokevirtual 137, 3, 1, 61, 0, 1, 295), (16, .ifCond .eq 24, 3, 0, 0, 0, 0, 0),
  (19, .aload_n 0, 1, 0, 0, 0, 0, 0), (20, .iconst 2, 1, 0, 0, 0, 0, 0), (21, .lconst 1, 1, 0, 0, 0, 0, 0), (22, .invokevirtual 106, 3, 1, 63, 0, 2, 272),
  (25, .ifCond .eq 15, 3, 0, 0, 0, 0, 0), (28, .aload_n 0, 1, 0, 0, 0, 0, 0), (29, .iconst 4, 1, 0, 0, 0, 0, 0), (30, .lconst 0, 1, 0, 0, 0, 0, 0),
  (31, .ldc2_w 194, 3, 0, 0, 0, 64, 300), (34, .invokevirtual 143, 3, 1, 64, 0, 3, 301), (37, .ifCond .ne 5, 3, 0, 0, 0, 0, 0), (40, .iconst 0, 1, 0, 0, 0, 0, 0),
  (41, .ireturn, 1, 0, 0, 0, 0, 0), (42, .aload_n 0, 1, 0, 0, 0, 0, 0), (43, .aload_n 0, 1, 0, 0, 0, 0, 0), (44, .getfield 147, 3, 3, 6, 0, 0, 178), (47, .l2i, 1, 0, 0, 0, 0, 0),
  (48, .putfield 196, 3, 3, 10, 0, 0, 182), (51, .aload_n 0, 1, 0, 0, 0, 0, 0), (52, .iconst 2, 1, 0, 0, 0, 0, 0), (53, .lconst 1, 1, 0, 0, 0, 0, 0),
  (54, .ldc2_w 201, 3, 0, 0, 0, 16, 305), (57, .invokevirtual 143, 3, 1, 64, 0, 3, 301), (60, .ifCond .ne 5, 3, 0, 0, 0, 0, 0), (63, .iconst 0, 1, 0, 0, 0, 0, 0),
  (64, .ireturn, 1, 0, 0, 0, 0, 0), (65, .aload_n 0, 1, 0, 0, 0, 0, 0), (66, .aload_n 0, 1, 0, 0, 0, 0, 0), (67, .getfield 147, 3, 3, 6, 0, 0, 178), (70, .l2i, 1, 0, 0, 0, 0, 0),
  (71, .putfield 203, 3, 3, 11, 0, 0, 183), (74, .aload_n 0, 1, 0, 0, 0, 0, 0), (75, .iconst 1, 1, 0, 0, 0, 0, 0), (76, .putfield 51, 3, 3, 9, 0, 0, 181),
  (79, .aload_n 0, 1, 0, 0, 0, 0, 0), (80, .invokevirtual 205, 3, 1, 49, 0, 0, 306), (83, .ireturn, 1, 0, 0, 0, 0, 0)]
def am_c_rd_takeLongRate : List am_E := [
  (0, .aload_n 0, 1, 0, 0, 0, 0, 0), (1, .iconst 2, 1, 0, 0, 0, 0, 0), (2, .ldc2_w 208, 3, 0, 0, 0, 16383, 310), (5, .ldc2_w 210, 3, 0, 0, 0, 16400, 311),
  (8, .invokevirtual 143, 3, 1, 64, 0, 3, 301), (11, .ifCond .eq 19, 3, 0, 0, 0, 0, 0), (14, .aload_n 0, 1, 0, 0, 0, 0, 0), (15, .getfield 39, 3, 3, 0, 0, 0, 171),
  (18, .aload_n 0, 1, 0, 0, 0, 0, 0), (19, .getfield 43, 3, 3, 5, 0, 0, 177), (22, .bipush 8, 2, 0, 0, 0, 0, 0), (24, .invokevirtual 92, 3, 1, 8, 0, 2, 253),
  (27, .ifCond .ne 5, 3, 0, 0, 0, 0, 0), (30, .iconst 0, 1, 0, 0, 0, 0, 0), (31, .ireturn, 1, 0, 0, 0, 0, 0), (32, .aload_n 0, 1, 0, 0, 0, 0, 0),
  (33, .getfield 147, 3, 3, 6, 0, 0, 178), (36, .l2i, 1, 0, 0, 0, 0, 0), (37, .sipush 16383, 3, 0, 0, 0, 0, 0), (40, .isub, 1, 0, 0, 0, 0, 0), (41, .istore_n 1, 1, 0, 0, 0, 0, 0),
  (42, .aload_n 0, 1, 0, 0, 0, 0, 0), (43, .getfield 39, 3, 3, 0, 0, 0, 171), (46, .aload_n 0, 1, 0, 0, 0, 0, 0), (47, .getfield 43, 3, 3, 5, 0, 0, 177),
  (50, .bipush 8, 2, 0, 0, 0, 0, 0), (52, .aload_n 0, 1, 0, 0, 0, 0, 0), (53, .getfield 71, 3, 3, 7, 0, 0, 179), (56, .invokevirtual 129, 3, 1, 9, 0, 3, 276),
  (59, .lstore_n 2, 1, 0, 0, 0, 0, 0), (60, .lload_n 2, 1, 0, 0, 0, 0, 0), (61, .bipush 63, 2, 0, 0, 0, 0, 0), (63, .iload_n 1, 1, 0, 0, 0, 0, 0), (64, .isub, 1, 0, 0, 0, 0, 0),
  (65, .lushr, 1, 0, 0, 0, 0, 0), (66, .lstore 4, 2, 0, 0, 0, 0, 0), (68, .lload 4, 2, 0, 0, 0, 0, 0), (70, .bipush 63, 2, 0, 0, 0, 0, 0), (72, .iload_n 1, 1, 0, 0, 0, 0, 0),
  (73, .isub, 1, 0, 0, 0, 0, 0), (74, .lshl, 1, 0, 0, 0, 0, 0), (75, .lload_n 2, 1, 0, 0, 0, 0, 0), (76, .lcmp, 1, 0, 0, 0, 0, 0), (77, .ifCond .ne 21, 3, 0, 0, 0, 0, 0),
  (80, .lload 4, 2, 0, 0, 0, 0, 0), (82, .iload_n 1, 1, 0, 0, 0, 0, 0), (83, .lshr, 1, 0, 0, 0, 0, 0), (84, .lconst 1, 1, 0, 0, 0, 0, 0), (85, .lcmp, 1, 0, 0, 0, 0, 0),
  (86, .ifCond .ne 12, 3, 0, 0, 0, 0, 0), (89, .lload 4, 2, 0, 0, 0, 0, 0), (91, .ldc2_w 141, 3, 0, 0, 0, 192000, 312), (94, .lcmp, 1, 0, 0, 0, 0, 0),
  (95, .ifCond .le 5, 3, 0, 0, 0, 0, 0), (98, .iconst 0, 1, 0, 0, 0, 0, 0), (99, .ireturn, 1, 0, 0, 0, 0, 0), (100, .aload_n 0, 1, 0, 0, 0, 0, 0),
  (101, .getfield 12, 3, 3, 1, 0, 0, 172), (104, .lload 4, 2, 0, 0, 0, 0, 0), (106, .l2i, 1, 0, 0, 0, 0, 0), (107, .putfield 151, 3, 4, 2, 0, 0, 44),
  (110, .aload_n 0, 1, 0, 0, 0, 0, 0), (111, .dup, 1, 0, 0, 0, 0, 0), (112, .getfield 43, 3, 3, 5, 0, 0, 177), (115, .bipush 8, 2, 0, 0, 0, 0, 0), (117, .iadd, 1, 0, 0, 0, 0, 0),
  (118, .putfield 43, 3, 3, 5, 0, 0, 177), (121, .iconst 1, 1, 0, 0, 0, 0, 0), (122, .ireturn, 1, 0, 0, 0, 0, 0)]
def am_c_rd_passOver : List am_E := [
  (0, .aload_n 0, 1, 0, 0, 0, 0, 0), (1, .dup, 1, 0, 0, 0, 0, 0), (2, .getfield 43, 3, 3, 5, 0, 0, 177), (5, .iconst 4, 1, 0, 0, 0, 0, 0), (6, .iadd, 1, 0, 0, 0, 0, 0),
  (7, .putfield 43, 3, 3, 5, 0, 0, 177), (10, .aload_n 0, 1, 0, 0, 0, 0, 0), (11, .getfield 39, 3, 3, 0, 0, 0, 171), (14, .aload_n 0, 1, 0, 0, 0, 0, 0),
  (15, .getfield 43, 3, 3, 5, 0, 0, 177), (18, .iconst 4, 1, 0, 0, 0, 0, 0), (19, .invokevirtual 92, 3, 1, 8, 0, 2, 253), (22, .ifCond .ne 5, 3, 0, 0, 0, 0, 0),
  (25, .iconst 0, 1, 0, 0, 0, 0, 0), (26, .ireturn, 1, 0, 0, 0, 0, 0), (27, .aload_n 0, 1, 0, 0, 0, 0, 0), (28, .getfield 39, 3, 3, 0, 0, 0, 171),
  (31, .aload_n 0, 1, 0, 0, 0, 0, 0), (32, .getfield 43, 3, 3, 5, 0, 0, 177), (35, .iconst 4, 1, 0, 0, 0, 0, 0), (36, .aload_n 0, 1, 0, 0, 0, 0, 0),
  (37, .getfield 71, 3, 3, 7, 0, 0, 179), (40, .invokevirtual 129, 3, 1, 9, 0, 3, 276), (43, .lstore_n 1, 1, 0, 0, 0, 0, 0), (44, .aload_n 0, 1, 0, 0, 0, 0, 0),
  (45, .lload_n 1, 1, 0, 0, 0, 0, 0), (46, .invokevirtual 137, 3, 1, 61, 0, 1, 295), (49, .ifCond .ne 5, 3, 0, 0, 0, 0, 0), (52, .iconst 0, 1, 0, 0, 0, 0, 0),
  (53, .ireturn, 1, 0, 0, 0, 0, 0), (54, .aload_n 0, 1, 0, 0, 0, 0, 0), (55, .dup, 1, 0, 0, 0, 0, 0), (56, .getfield 43, 3, 3, 5, 0, 0, 177), (59, .lload_n 1, 1, 0, 0, 0, 0, 0),
  (60, .l2i, 1, 0, 0, 0, 0, 0), (61, .iadd, 1, 0, 0, 0, 0, 0), (62, .putfield 43, 3, 3, 5, 0, 0, 177), (65, .aload_n 0, 1, 0, 0, 0, 0, 0), (66, .lload_n 1, 1, 0, 0, 0, 0, 0),
  (67, .invokevirtual 212, 3, 1, 62, 0, 1, 390), (70, .ireturn, 1, 0, 0, 0, 0, 0)]
def am_c_rd_takeData : List am_E := [
  (0, .aload_n 0, 1, 0, 0, 0, 0, 0), (1, .getfield 21, 3, 3, 2, 0, 0, 174), (4, .getfield 86, 3, 1, 0, 0, 0, 83), (7, .iconst 1, 1, 0, 0, 0, 0, 0),
  (8, .if_icmp .eq 20, 3, 0, 0, 0, 0, 0), (11, .aload_n 0, 1, 0, 0, 0, 0, 0), (12, .getfield 21, 3, 3, 2, 0, 0, 174), (15, .invokevirtual 83, 3, 1, 17, 0, 0, 359),
  (18, .ifCond .eq 14, 3, 0, 0, 0, 0, 0), (21, .aload_n 0, 1, 0, 0, 0, 0, 0), (22, .getfield 47, 3, 3, 8, 0, 0, 180), (25, .ifCond .eq 7, 3, 0, 0, 0, 0, 0),
  (28, .iconst 1, 1, 0, 0, 0, 0, 0), (29, .goto 4, 3, 0, 0, 0, 0, 0), (32, .iconst 0, 1, 0, 0, 0, 0, 0), (33, .istore_n 1, 1, 0, 0, 0, 0, 0), (34, .iload_n 1, 1, 0, 0, 0, 0, 0),
  (35, .ifCond .eq 27, 3, 0, 0, 0, 0, 0), (38, .aload_n 0, 1, 0, 0, 0, 0, 0), (39, .ldc 113, 2, 0, 0, 0, 1684108385, 284), (41, .invokevirtual 102, 3, 1, 60, 0, 1, 268),
  (44, .ifCond .eq 18, 3, 0, 0, 0, 0, 0), (47, .aload_n 0, 1, 0, 0, 0, 0, 0), (48, .getfield 39, 3, 3, 0, 0, 0, 171), (51, .aload_n 0, 1, 0, 0, 0, 0, 0),
  (52, .getfield 43, 3, 3, 5, 0, 0, 177), (55, .iconst 4, 1, 0, 0, 0, 0, 0), (56, .invokevirtual 92, 3, 1, 8, 0, 2, 253), (59, .ifCond .ne 5, 3, 0, 0, 0, 0, 0),
  (62, .iconst 0, 1, 0, 0, 0, 0, 0), (63, .ireturn, 1, 0, 0, 0, 0, 0), (64, .aload_n 0, 1, 0, 0, 0, 0, 0), (65, .getfield 21, 3, 3, 2, 0, 0, 174),
  (68, .getfield 86, 3, 1, 0, 0, 0, 83), (71, .iconst 1, 1, 0, 0, 0, 0, 0), (72, .if_icmp .ne 27, 3, 0, 0, 0, 0, 0), (75, .aload_n 0, 1, 0, 0, 0, 0, 0),
  (76, .aload_n 0, 1, 0, 0, 0, 0, 0), (77, .aload_n 0, 1, 0, 0, 0, 0, 0), (78, .getfield 39, 3, 3, 0, 0, 0, 171), (81, .aload_n 0, 1, 0, 0, 0, 0, 0),
  (82, .getfield 43, 3, 3, 5, 0, 0, 177), (85, .iconst 4, 1, 0, 0, 0, 0, 0), (86, .aload_n 0, 1, 0, 0, 0, 0, 0), (87, .getfield 71, 3, 3, 7, 0, 0, 179),
  (90, .invokevirtual 129, 3, 1, 9, 0, 3, 276), (93, .invokevirtual 215, 3, 1, 52, 0, 1, 406), (96, .putfield 196, 3, 3, 10, 0, 0, 182), (99, .aload_n 0, 1, 0, 0, 0, 0, 0),
  (100, .getfield 21, 3, 3, 2, 0, 0, 174), (103, .aload_n 0, 1, 0, 0, 0, 0, 0), (104, .getfield 196, 3, 3, 10, 0, 0, 182), (107, .invokevirtual 218, 3, 1, 25, 0, 1, 413),
  (110, .istore_n 2, 1, 0, 0, 0, 0, 0), (111, .aload_n 0, 1, 0, 0, 0, 0, 0), (112, .iload_n 2, 1, 0, 0, 0, 0, 0), (113, .i2l, 1, 0, 0, 0, 0, 0),
  (114, .invokevirtual 137, 3, 1, 61, 0, 1, 295), (117, .ifCond .ne 5, 3, 0, 0, 0, 0, 0), (120, .iconst 0, 1, 0, 0, 0, 0, 0), (121, .ireturn, 1, 0, 0, 0, 0, 0),
  (122, .aload_n 0, 1, 0, 0, 0, 0, 0), (123, .getfield 21, 3, 3, 2, 0, 0, 174), (126, .getfield 86, 3, 1, 0, 0, 0, 83), (129, .iconst 1, 1, 0, 0, 0, 0, 0),
  (130, .if_icmp .ne 14, 3, 0, 0, 0, 0, 0), (133, .aload_n 0, 1, 0, 0, 0, 0, 0), (134, .invokevirtual 221, 3, 1, 53, 0, 0, 417), (137, .aload_n 0, 1, 0, 0, 0, 0, 0),
  (138, .iload_n 2, 1, 0, 0, 0, 0, 0), (139, .i2l, 1, 0, 0, 0, 0, 0), (140, .invokevirtual 212, 3, 1, 62, 0, 1, 390), (143, .ireturn, 1, 0, 0, 0, 0, 0),
  (144, .aload_n 0, 1, 0, 0, 0, 0, 0), (145, .getfield 21, 3, 3, 2, 0, 0, 174), (148, .getfield 86, 3, 1, 0, 0, 0, 83), (151, .bipush 17, 2, 0, 0, 0, 0, 0),
  (153, .if_icmp .ne 13, 3, 0, 0, 0, 0, 0), (156, .aload_n 0, 1, 0, 0, 0, 0, 0), (157, .invokevirtual 224, 3, 1, 54, 0, 0, 421), (160, .ifCond .eq 26, 3, 0, 0, 0, 0, 0),
  (163, .goto 10, 3, 0, 0, 0, 0, 0), (166, .aload_n 0, 1, 0, 0, 0, 0, 0), (167, .invokevirtual 227, 3, 1, 55, 0, 0, 472), (170, .ifCond .eq 16, 3, 0, 0, 0, 0, 0),
  (173, .aload_n 0, 1, 0, 0, 0, 0, 0), (174, .iload_n 2, 1, 0, 0, 0, 0, 0), (175, .i2l, 1, 0, 0, 0, 0, 0), (176, .invokevirtual 212, 3, 1, 62, 0, 1, 390),
  (179, .ifCond .eq 7, 3, 0, 0, 0, 0, 0), (182, .iconst 1, 1, 0, 0, 0, 0, 0), (183, .goto 4, 3, 0, 0, 0, 0, 0), (186, .iconst 0, 1, 0, 0, 0, 0, 0),
  (187, .ireturn, 1, 0, 0, 0, 0, 0)]
def am_c_rd_samplesOfPlain : List am_E := [
  (0, .ldc2_w 194, 3, 0, 0, 0, 64, 300), (3, .aload_n 0, 1, 0, 0, 0, 0, 0), (4, .getfield 21, 3, 3, 2, 0, 0, 174), (7, .getfield 89, 3, 1, 2, 0, 0, 86),
  (10, .iconst 2, 1, 0, 0, 0, 0, 0), (11, .if_icmp .ne 11, 3, 0, 0, 0, 0, 0), (14, .lload_n 1, 1, 0, 0, 0, 0, 0), (15, .ldc2_w 230, 3, 0, 0, 0, 2, 299),
  (18, .ldiv, 1, 0, 0, 0, 0, 0), (19, .goto 4, 3, 0, 0, 0, 0, 0), (22, .lload_n 1, 1, 0, 0, 0, 0, 0), (23, .invokestatic 232, 3, 0, 3, 0, 2, 410), (26, .l2i, 1, 0, 0, 0, 0, 0),
  (27, .ireturn, 1, 0, 0, 0, 0, 0)]
def am_c_rd_takePlain : List am_E := [
  (0, .iconst 0, 1, 0, 0, 0, 0, 0), (1, .istore_n 1, 1, 0, 0, 0, 0, 0), (2, .iload_n 1, 1, 0, 0, 0, 0, 0), (3, .aload_n 0, 1, 0, 0, 0, 0, 0),
  (4, .getfield 196, 3, 3, 10, 0, 0, 182), (7, .if_icmp .ge 96, 3, 0, 0, 0, 0, 0), (10, .aload_n 0, 1, 0, 0, 0, 0, 0), (11, .getfield 21, 3, 3, 2, 0, 0, 174),
  (14, .getfield 89, 3, 1, 2, 0, 0, 86), (17, .iconst 1, 1, 0, 0, 0, 0, 0), (18, .if_icmp .ne 38, 3, 0, 0, 0, 0, 0), (21, .aload_n 0, 1, 0, 0, 0, 0, 0),
  (22, .getfield 12, 3, 3, 1, 0, 0, 172), (25, .aload_n 0, 1, 0, 0, 0, 0, 0), (26, .getfield 39, 3, 3, 0, 0, 0, 171), (29, .aload_n 0, 1, 0, 0, 0, 0, 0),
  (30, .getfield 43, 3, 3, 5, 0, 0, 177), (33, .iconst 1, 1, 0, 0, 0, 0, 0), (34, .aload_n 0, 1, 0, 0, 0, 0, 0), (35, .getfield 71, 3, 3, 7, 0, 0, 179),
  (38, .invokevirtual 129, 3, 1, 9, 0, 3, 276), (41, .l2i, 1, 0, 0, 0, 0, 0), (42, .sipush 128, 3, 0, 0, 0, 0, 0), (45, .isub, 1, 0, 0, 0, 0, 0),
  (46, .sipush 256, 3, 0, 0, 0, 0, 0), (49, .imul, 1, 0, 0, 0, 0, 0), (50, .invokevirtual 238, 3, 1, 27, 0, 1, 398), (53, .goto 28, 3, 0, 0, 0, 0, 0),
  (56, .aload_n 0, 1, 0, 0, 0, 0, 0), (57, .getfield 12, 3, 3, 1, 0, 0, 172), (60, .aload_n 0, 1, 0, 0, 0, 0, 0), (61, .getfield 39, 3, 3, 0, 0, 0, 171),
  (64, .aload_n 0, 1, 0, 0, 0, 0, 0), (65, .getfield 43, 3, 3, 5, 0, 0, 177), (68, .iconst 2, 1, 0, 0, 0, 0, 0), (69, .aload_n 0, 1, 0, 0, 0, 0, 0),
  (70, .getfield 71, 3, 3, 7, 0, 0, 179), (73, .invokevirtual 129, 3, 1, 9, 0, 3, 276), (76, .l2i, 1, 0, 0, 0, 0, 0), (77, .i2s, 1, 0, 0, 0, 0, 0),
  (78, .invokevirtual 238, 3, 1, 27, 0, 1, 398), (81, .aload_n 0, 1, 0, 0, 0, 0, 0), (82, .dup, 1, 0, 0, 0, 0, 0), (83, .getfield 43, 3, 3, 5, 0, 0, 177),
  (86, .aload_n 0, 1, 0, 0, 0, 0, 0), (87, .getfield 21, 3, 3, 2, 0, 0, 174), (90, .getfield 89, 3, 1, 2, 0, 0, 86), (93, .iadd, 1, 0, 0, 0, 0, 0),
  (94, .putfield 43, 3, 3, 5, 0, 0, 177), (97, .iinc 1 1, 3, 0, 0, 0, 0, 0), (100, .goto (-98), 3, 0, 0, 0, 0, 0), (103, .return_, 1, 0, 0, 0, 0, 0)]
def am_c_rd_takeStepped : List am_E := [
  (0, .iconst 0, 1, 0, 0, 0, 0, 0), (1, .istore_n 1, 1, 0, 0, 0, 0, 0), (2, .iload_n 1, 1, 0, 0, 0, 0, 0), (3, .aload_n 0, 1, 0, 0, 0, 0, 0),
  (4, .getfield 196, 3, 3, 10, 0, 0, 182), (7, .if_icmp .ge 74, 3, 0, 0, 0, 0, 0), (10, .aload_n 0, 1, 0, 0, 0, 0, 0), (11, .invokevirtual 241, 3, 1, 56, 0, 0, 425),
  (14, .istore_n 2, 1, 0, 0, 0, 0, 0), (15, .aload_n 0, 1, 0, 0, 0, 0, 0), (16, .iconst 1, 1, 0, 0, 0, 0, 0), (17, .lconst 0, 1, 0, 0, 0, 0, 0),
  (18, .ldc2_w 244, 3, 0, 0, 0, 88, 429), (21, .invokevirtual 143, 3, 1, 64, 0, 3, 301), (24, .ifCond .ne 5, 3, 0, 0, 0, 0, 0), (27, .iconst 0, 1, 0, 0, 0, 0, 0),
  (28, .ireturn, 1, 0, 0, 0, 0, 0), (29, .aload_n 0, 1, 0, 0, 0, 0, 0), (30, .getfield 28, 3, 3, 3, 0, 0, 175), (33, .iload_n 2, 1, 0, 0, 0, 0, 0),
  (34, .aload_n 0, 1, 0, 0, 0, 0, 0), (35, .getfield 147, 3, 3, 6, 0, 0, 178), (38, .l2i, 1, 0, 0, 0, 0, 0), (39, .invokevirtual 246, 3, 1, 34, 0, 2, 430),
  (42, .aload_n 0, 1, 0, 0, 0, 0, 0), (43, .iconst 1, 1, 0, 0, 0, 0, 0), (44, .lconst 0, 1, 0, 0, 0, 0, 0), (45, .invokevirtual 106, 3, 1, 63, 0, 2, 272),
  (48, .ifCond .ne 5, 3, 0, 0, 0, 0, 0), (51, .iconst 0, 1, 0, 0, 0, 0, 0), (52, .ireturn, 1, 0, 0, 0, 0, 0), (53, .aload_n 0, 1, 0, 0, 0, 0, 0),
  (54, .iload_n 2, 1, 0, 0, 0, 0, 0), (55, .invokevirtual 250, 3, 1, 58, 0, 1, 437), (58, .aload_n 0, 1, 0, 0, 0, 0, 0), (59, .aload_n 0, 1, 0, 0, 0, 0, 0),
  (60, .getfield 28, 3, 3, 3, 0, 0, 175), (63, .iconst 0, 1, 0, 0, 0, 0, 0), (64, .iconst 4, 1, 0, 0, 0, 0, 0), (65, .invokevirtual 253, 3, 1, 57, 0, 3, 441),
  (68, .iload_n 1, 1, 0, 0, 0, 0, 0), (69, .aload_n 0, 1, 0, 0, 0, 0, 0), (70, .getfield 21, 3, 3, 2, 0, 0, 174), (73, .getfield 179, 3, 1, 3, 0, 0, 91),
  (76, .iadd, 1, 0, 0, 0, 0, 0), (77, .istore_n 1, 1, 0, 0, 0, 0, 0), (78, .goto (-76), 3, 0, 0, 0, 0, 0), (81, .iconst 1, 1, 0, 0, 0, 0, 0), (82, .ireturn, 1, 0, 0, 0, 0, 0)]
def am_c_rd_takePredicted : List am_E := [
  (0, .iconst 0, 1, 0, 0, 0, 0, 0), (1, .istore_n 1, 1, 0, 0, 0, 0, 0), (2, .iload_n 1, 1, 0, 0, 0, 0, 0), (3, .aload_n 0, 1, 0, 0, 0, 0, 0),
  (4, .getfield 196, 3, 3, 10, 0, 0, 182), (7, .if_icmp .ge 103, 3, 0, 0, 0, 0, 0), (10, .aload_n 0, 1, 0, 0, 0, 0, 0), (11, .iconst 1, 1, 0, 0, 0, 0, 0),
  (12, .lconst 0, 1, 0, 0, 0, 0, 0), (13, .ldc2_w 257, 3, 0, 0, 0, 6, 476), (16, .invokevirtual 143, 3, 1, 64, 0, 3, 301), (19, .ifCond .ne 5, 3, 0, 0, 0, 0, 0),
  (22, .iconst 0, 1, 0, 0, 0, 0, 0), (23, .ireturn, 1, 0, 0, 0, 0, 0), (24, .aload_n 0, 1, 0, 0, 0, 0, 0), (25, .getfield 147, 3, 3, 6, 0, 0, 178), (28, .l2i, 1, 0, 0, 0, 0, 0),
  (29, .istore_n 2, 1, 0, 0, 0, 0, 0), (30, .aload_n 0, 1, 0, 0, 0, 0, 0), (31, .iconst 2, 1, 0, 0, 0, 0, 0), (32, .lconst 1, 1, 0, 0, 0, 0, 0),
  (33, .ldc2_w 259, 3, 0, 0, 0, 65535, 477), (36, .invokevirtual 143, 3, 1, 64, 0, 3, 301), (39, .ifCond .ne 5, 3, 0, 0, 0, 0, 0), (42, .iconst 0, 1, 0, 0, 0, 0, 0),
  (43, .ireturn, 1, 0, 0, 0, 0, 0), (44, .aload_n 0, 1, 0, 0, 0, 0, 0), (45, .getfield 147, 3, 3, 6, 0, 0, 178), (48, .l2i, 1, 0, 0, 0, 0, 0), (49, .istore_n 3, 1, 0, 0, 0, 0, 0),
  (50, .aload_n 0, 1, 0, 0, 0, 0, 0), (51, .invokevirtual 241, 3, 1, 56, 0, 0, 425), (54, .istore 4, 2, 0, 0, 0, 0, 0), (56, .aload_n 0, 1, 0, 0, 0, 0, 0),
  (57, .invokevirtual 241, 3, 1, 56, 0, 0, 425), (60, .istore 5, 2, 0, 0, 0, 0, 0), (62, .aload_n 0, 1, 0, 0, 0, 0, 0), (63, .getfield 35, 3, 3, 4, 0, 0, 176),
  (66, .iload 5, 2, 0, 0, 0, 0, 0), (68, .iload 4, 2, 0, 0, 0, 0, 0), (70, .iload_n 3, 1, 0, 0, 0, 0, 0), (71, .iload_n 2, 1, 0, 0, 0, 0, 0),
  (72, .invokevirtual 261, 3, 1, 30, 0, 4, 478), (75, .aload_n 0, 1, 0, 0, 0, 0, 0), (76, .iload 5, 2, 0, 0, 0, 0, 0), (78, .invokevirtual 250, 3, 1, 58, 0, 1, 437),
  (81, .aload_n 0, 1, 0, 0, 0, 0, 0), (82, .iload 4, 2, 0, 0, 0, 0, 0), (84, .invokevirtual 250, 3, 1, 58, 0, 1, 437), (87, .aload_n 0, 1, 0, 0, 0, 0, 0),
  (88, .aload_n 0, 1, 0, 0, 0, 0, 0), (89, .getfield 35, 3, 3, 4, 0, 0, 176), (92, .iconst 4, 1, 0, 0, 0, 0, 0), (93, .iconst 0, 1, 0, 0, 0, 0, 0),
  (94, .invokevirtual 253, 3, 1, 57, 0, 3, 441), (97, .iload_n 1, 1, 0, 0, 0, 0, 0), (98, .aload_n 0, 1, 0, 0, 0, 0, 0), (99, .getfield 21, 3, 3, 2, 0, 0, 174),
  (102, .getfield 179, 3, 1, 3, 0, 0, 91), (105, .iadd, 1, 0, 0, 0, 0, 0), (106, .istore_n 1, 1, 0, 0, 0, 0, 0), (107, .goto (-105), 3, 0, 0, 0, 0, 0),
  (110, .iconst 1, 1, 0, 0, 0, 0, 0), (111, .ireturn, 1, 0, 0, 0, 0, 0)]
def am_c_rd_takeWord : List am_E := [
  (0, .aload_n 0, 1, 0, 0, 0, 0, 0), (1, .getfield 39, 3, 3, 0, 0, 0, 171), (4, .aload_n 0, 1, 0, 0, 0, 0, 0), (5, .getfield 43, 3, 3, 5, 0, 0, 177),
  (8, .iconst 2, 1, 0, 0, 0, 0, 0), (9, .aload_n 0, 1, 0, 0, 0, 0, 0), (10, .getfield 71, 3, 3, 7, 0, 0, 179), (13, .invokevirtual 129, 3, 1, 9, 0, 3, 276),
  (16, .l2i, 1, 0, 0, 0, 0, 0), (17, .i2s, 1, 0, 0, 0, 0, 0), (18, .istore_n 1, 1, 0, 0, 0, 0, 0), (19, .aload_n 0, 1, 0, 0, 0, 0, 0), (20, .dup, 1, 0, 0, 0, 0, 0),
  (21, .getfield 43, 3, 3, 5, 0, 0, 177), (24, .iconst 2, 1, 0, 0, 0, 0, 0), (25, .iadd, 1, 0, 0, 0, 0, 0), (26, .putfield 43, 3, 3, 5, 0, 0, 177),
  (29, .iload_n 1, 1, 0, 0, 0, 0, 0), (30, .ireturn, 1, 0, 0, 0, 0, 0)]
def am_c_rd_takeNibbles : List am_E := [
  (0, .iconst 0, 1, 0, 0, 0, 0, 0), (1, .istore 4, 2, 0, 0, 0, 0, 0), (3, .iload 4, 2, 0, 0, 0, 0, 0), (5, .aload_n 0, 1, 0, 0, 0, 0, 0), (6, .getfield 21, 3, 3, 2, 0, 0, 174),
  (9, .invokevirtual 264, 3, 1, 23, 0, 0, 445), (12, .if_icmp .ge 93, 3, 0, 0, 0, 0, 0), (15, .aload_n 0, 1, 0, 0, 0, 0, 0), (16, .getfield 39, 3, 3, 0, 0, 0, 171),
  (19, .aload_n 0, 1, 0, 0, 0, 0, 0), (20, .getfield 43, 3, 3, 5, 0, 0, 177), (23, .iconst 1, 1, 0, 0, 0, 0, 0), (24, .aload_n 0, 1, 0, 0, 0, 0, 0),
  (25, .getfield 71, 3, 3, 7, 0, 0, 179), (28, .invokevirtual 129, 3, 1, 9, 0, 3, 276), (31, .l2i, 1, 0, 0, 0, 0, 0), (32, .istore 5, 2, 0, 0, 0, 0, 0),
  (34, .iconst 0, 1, 0, 0, 0, 0, 0), (35, .istore 6, 2, 0, 0, 0, 0, 0), (37, .iload 6, 2, 0, 0, 0, 0, 0), (39, .iconst 2, 1, 0, 0, 0, 0, 0),
  (40, .if_icmp .ge 49, 3, 0, 0, 0, 0, 0), (43, .iload 5, 2, 0, 0, 0, 0, 0), (45, .iload 6, 2, 0, 0, 0, 0, 0), (47, .ifCond .ne 7, 3, 0, 0, 0, 0, 0),
  (50, .iload_n 2, 1, 0, 0, 0, 0, 0), (51, .goto 4, 3, 0, 0, 0, 0, 0), (54, .iload_n 3, 1, 0, 0, 0, 0, 0), (55, .ishr, 1, 0, 0, 0, 0, 0), (56, .bipush 15, 2, 0, 0, 0, 0, 0),
  (58, .iand, 1, 0, 0, 0, 0, 0), (59, .istore 7, 2, 0, 0, 0, 0, 0), (61, .aload_n 1, 1, 0, 0, 0, 0, 0), (62, .iload 7, 2, 0, 0, 0, 0, 0),
  (64, .invokevirtual 267, 3, 5, 35, 31, 1, 446), (67, .istore 8, 2, 0, 0, 0, 0, 0), (69, .aload_n 1, 1, 0, 0, 0, 0, 0), (70, .iload 7, 2, 0, 0, 0, 0, 0),
  (72, .iload 8, 2, 0, 0, 0, 0, 0), (74, .invokevirtual 272, 3, 5, 36, 32, 2, 459), (77, .aload_n 0, 1, 0, 0, 0, 0, 0), (78, .iload 8, 2, 0, 0, 0, 0, 0),
  (80, .invokevirtual 250, 3, 1, 58, 0, 1, 437), (83, .iinc 6 1, 3, 0, 0, 0, 0, 0), (86, .goto (-49), 3, 0, 0, 0, 0, 0), (89, .aload_n 0, 1, 0, 0, 0, 0, 0),
  (90, .dup, 1, 0, 0, 0, 0, 0), (91, .getfield 43, 3, 3, 5, 0, 0, 177), (94, .iconst 1, 1, 0, 0, 0, 0, 0), (95, .iadd, 1, 0, 0, 0, 0, 0), (96, .putfield 43, 3, 3, 5, 0, 0, 177),
  (99, .iinc 4 1, 3, 0, 0, 0, 0, 0), (102, .goto (-99), 3, 0, 0, 0, 0, 0), (105, .return_, 1, 0, 0, 0, 0, 0)]
def am_c_rd_appendPromised : List am_E := [
  (0, .aload_n 0, 1, 0, 0, 0, 0, 0), (1, .getfield 12, 3, 3, 1, 0, 0, 172), (4, .getfield 58, 3, 4, 1, 0, 0, 40), (7, .aload_n 0, 1, 0, 0, 0, 0, 0),
  (8, .getfield 196, 3, 3, 10, 0, 0, 182), (11, .if_icmp .ge 11, 3, 0, 0, 0, 0, 0), (14, .aload_n 0, 1, 0, 0, 0, 0, 0), (15, .getfield 12, 3, 3, 1, 0, 0, 172),
  (18, .iload_n 1, 1, 0, 0, 0, 0, 0), (19, .invokevirtual 238, 3, 1, 27, 0, 1, 398), (22, .return_, 1, 0, 0, 0, 0, 0)]
def am_c_rd_takeSsnd : List am_E := [
  (0, .aload_n 0, 1, 0, 0, 0, 0, 0), (1, .getfield 203, 3, 3, 11, 0, 0, 183), (4, .bipush 8, 2, 0, 0, 0, 0, 0), (6, .if_icmp .gt 8, 3, 0, 0, 0, 0, 0),
  (9, .bipush 8, 2, 0, 0, 0, 0, 0), (11, .goto 5, 3, 0, 0, 0, 0, 0), (14, .bipush 16, 2, 0, 0, 0, 0, 0), (16, .istore_n 1, 1, 0, 0, 0, 0, 0), (17, .bipush 8, 2, 0, 0, 0, 0, 0),
  (19, .aload_n 0, 1, 0, 0, 0, 0, 0), (20, .getfield 196, 3, 3, 10, 0, 0, 182), (23, .iload_n 1, 1, 0, 0, 0, 0, 0), (24, .bipush 8, 2, 0, 0, 0, 0, 0),
  (26, .idiv, 1, 0, 0, 0, 0, 0), (27, .imul, 1, 0, 0, 0, 0, 0), (28, .iadd, 1, 0, 0, 0, 0, 0), (29, .istore_n 2, 1, 0, 0, 0, 0, 0), (30, .aload_n 0, 1, 0, 0, 0, 0, 0),
  (31, .getfield 51, 3, 3, 9, 0, 0, 181), (34, .ifCond .eq 39, 3, 0, 0, 0, 0, 0), (37, .aload_n 0, 1, 0, 0, 0, 0, 0), (38, .ldc 112, 2, 0, 0, 0, 1397968452, 283),
  (40, .invokevirtual 102, 3, 1, 60, 0, 1, 268), (43, .ifCond .eq 30, 3, 0, 0, 0, 0, 0), (46, .aload_n 0, 1, 0, 0, 0, 0, 0), (47, .iload_n 2, 1, 0, 0, 0, 0, 0),
  (48, .i2l, 1, 0, 0, 0, 0, 0), (49, .invokevirtual 137, 3, 1, 61, 0, 1, 295), (52, .ifCond .eq 21, 3, 0, 0, 0, 0, 0), (55, .aload_n 0, 1, 0, 0, 0, 0, 0),
  (56, .iconst 4, 1, 0, 0, 0, 0, 0), (57, .lconst 0, 1, 0, 0, 0, 0, 0), (58, .invokevirtual 106, 3, 1, 63, 0, 2, 272), (61, .ifCond .eq 12, 3, 0, 0, 0, 0, 0),
  (64, .aload_n 0, 1, 0, 0, 0, 0, 0), (65, .iconst 4, 1, 0, 0, 0, 0, 0), (66, .lconst 0, 1, 0, 0, 0, 0, 0), (67, .invokevirtual 106, 3, 1, 63, 0, 2, 272),
  (70, .ifCond .ne 5, 3, 0, 0, 0, 0, 0), (73, .iconst 0, 1, 0, 0, 0, 0, 0), (74, .ireturn, 1, 0, 0, 0, 0, 0), (75, .iconst 0, 1, 0, 0, 0, 0, 0),
  (76, .istore_n 3, 1, 0, 0, 0, 0, 0), (77, .iload_n 3, 1, 0, 0, 0, 0, 0), (78, .aload_n 0, 1, 0, 0, 0, 0, 0), (79, .getfield 196, 3, 3, 10, 0, 0, 182),
  (82, .if_icmp .ge 77, 3, 0, 0, 0, 0, 0), (85, .aload_n 0, 1, 0, 0, 0, 0, 0), (86, .getfield 39, 3, 3, 0, 0, 0, 171), (89, .aload_n 0, 1, 0, 0, 0, 0, 0),
  (90, .getfield 43, 3, 3, 5, 0, 0, 177), (93, .iload_n 1, 1, 0, 0, 0, 0, 0), (94, .bipush 8, 2, 0, 0, 0, 0, 0), (96, .idiv, 1, 0, 0, 0, 0, 0), (97, .aload_n 0, 1, 0, 0, 0, 0, 0),
  (98, .getfield 71, 3, 3, 7, 0, 0, 179), (101, .invokevirtual 129, 3, 1, 9, 0, 3, 276), (104, .l2i, 1, 0, 0, 0, 0, 0), (105, .istore 4, 2, 0, 0, 0, 0, 0),
  (107, .iload 4, 2, 0, 0, 0, 0, 0), (109, .iconst 1, 1, 0, 0, 0, 0, 0), (110, .iload_n 1, 1, 0, 0, 0, 0, 0), (111, .aload_n 0, 1, 0, 0, 0, 0, 0),
  (112, .getfield 203, 3, 3, 11, 0, 0, 183), (115, .isub, 1, 0, 0, 0, 0, 0), (116, .ishl, 1, 0, 0, 0, 0, 0), (117, .iconst 1, 1, 0, 0, 0, 0, 0), (118, .isub, 1, 0, 0, 0, 0, 0),
  (119, .iand, 1, 0, 0, 0, 0, 0), (120, .ifCond .eq 5, 3, 0, 0, 0, 0, 0), (123, .iconst 0, 1, 0, 0, 0, 0, 0), (124, .ireturn, 1, 0, 0, 0, 0, 0),
  (125, .aload_n 0, 1, 0, 0, 0, 0, 0), (126, .getfield 12, 3, 3, 1, 0, 0, 172), (129, .iload 4, 2, 0, 0, 0, 0, 0), (131, .bipush 16, 2, 0, 0, 0, 0, 0),
  (133, .iload_n 1, 1, 0, 0, 0, 0, 0), (134, .isub, 1, 0, 0, 0, 0, 0), (135, .ishl, 1, 0, 0, 0, 0, 0), (136, .i2s, 1, 0, 0, 0, 0, 0),
  (137, .invokevirtual 238, 3, 1, 27, 0, 1, 398), (140, .aload_n 0, 1, 0, 0, 0, 0, 0), (141, .dup, 1, 0, 0, 0, 0, 0), (142, .getfield 43, 3, 3, 5, 0, 0, 177),
  (145, .iload_n 1, 1, 0, 0, 0, 0, 0), (146, .bipush 8, 2, 0, 0, 0, 0, 0), (148, .idiv, 1, 0, 0, 0, 0, 0), (149, .iadd, 1, 0, 0, 0, 0, 0), (150, .putfield 43, 3, 3, 5, 0, 0, 177),
  (153, .iinc 3 1, 3, 0, 0, 0, 0, 0), (156, .goto (-79), 3, 0, 0, 0, 0, 0), (159, .aload_n 0, 1, 0, 0, 0, 0, 0), (160, .iload_n 2, 1, 0, 0, 0, 0, 0),
  (161, .i2l, 1, 0, 0, 0, 0, 0), (162, .invokevirtual 212, 3, 1, 62, 0, 1, 390), (165, .ireturn, 1, 0, 0, 0, 0, 0)]
def am_c_rd_takeId : List am_E := [
  (0, .aload_n 0, 1, 0, 0, 0, 0, 0), (1, .getfield 39, 3, 3, 0, 0, 0, 171), (4, .aload_n 0, 1, 0, 0, 0, 0, 0), (5, .getfield 43, 3, 3, 5, 0, 0, 177),
  (8, .iconst 4, 1, 0, 0, 0, 0, 0), (9, .invokevirtual 92, 3, 1, 8, 0, 2, 253), (12, .ifCond .eq 18, 3, 0, 0, 0, 0, 0), (15, .aload_n 0, 1, 0, 0, 0, 0, 0),
  (16, .getfield 39, 3, 3, 0, 0, 0, 171), (19, .aload_n 0, 1, 0, 0, 0, 0, 0), (20, .getfield 43, 3, 3, 5, 0, 0, 177), (23, .invokevirtual 96, 3, 1, 10, 0, 1, 257),
  (26, .iload_n 1, 1, 0, 0, 0, 0, 0), (27, .if_icmp .eq 5, 3, 0, 0, 0, 0, 0), (30, .iconst 0, 1, 0, 0, 0, 0, 0), (31, .ireturn, 1, 0, 0, 0, 0, 0),
  (32, .aload_n 0, 1, 0, 0, 0, 0, 0), (33, .dup, 1, 0, 0, 0, 0, 0), (34, .getfield 43, 3, 3, 5, 0, 0, 177), (37, .iconst 4, 1, 0, 0, 0, 0, 0), (38, .iadd, 1, 0, 0, 0, 0, 0),
  (39, .putfield 43, 3, 3, 5, 0, 0, 177), (42, .iconst 1, 1, 0, 0, 0, 0, 0), (43, .ireturn, 1, 0, 0, 0, 0, 0)]
def am_c_rd_takeSize : List am_E := [
  (0, .aload_n 0, 1, 0, 0, 0, 0, 0), (1, .getfield 39, 3, 3, 0, 0, 0, 171), (4, .aload_n 0, 1, 0, 0, 0, 0, 0), (5, .getfield 43, 3, 3, 5, 0, 0, 177),
  (8, .iconst 4, 1, 0, 0, 0, 0, 0), (9, .invokevirtual 92, 3, 1, 8, 0, 2, 253), (12, .ifCond .eq 42, 3, 0, 0, 0, 0, 0), (15, .lload_n 1, 1, 0, 0, 0, 0, 0),
  (16, .lload_n 1, 1, 0, 0, 0, 0, 0), (17, .ldc2_w 230, 3, 0, 0, 0, 2, 299), (20, .lrem, 1, 0, 0, 0, 0, 0), (21, .ladd, 1, 0, 0, 0, 0, 0), (22, .aload_n 0, 1, 0, 0, 0, 0, 0),
  (23, .getfield 39, 3, 3, 0, 0, 0, 171), (26, .getfield 80, 3, 0, 1, 0, 0, 62), (29, .aload_n 0, 1, 0, 0, 0, 0, 0), (30, .getfield 43, 3, 3, 5, 0, 0, 177),
  (33, .isub, 1, 0, 0, 0, 0, 0), (34, .iconst 4, 1, 0, 0, 0, 0, 0), (35, .isub, 1, 0, 0, 0, 0, 0), (36, .i2l, 1, 0, 0, 0, 0, 0), (37, .lcmp, 1, 0, 0, 0, 0, 0),
  (38, .ifCond .gt 16, 3, 0, 0, 0, 0, 0), (41, .aload_n 0, 1, 0, 0, 0, 0, 0), (42, .iconst 4, 1, 0, 0, 0, 0, 0), (43, .lload_n 1, 1, 0, 0, 0, 0, 0),
  (44, .invokevirtual 106, 3, 1, 63, 0, 2, 272), (47, .ifCond .eq 7, 3, 0, 0, 0, 0, 0), (50, .iconst 1, 1, 0, 0, 0, 0, 0), (51, .goto 4, 3, 0, 0, 0, 0, 0),
  (54, .iconst 0, 1, 0, 0, 0, 0, 0), (55, .ireturn, 1, 0, 0, 0, 0, 0)]
def am_c_rd_takeByteBehind : List am_E := [
  (0, .lload_n 1, 1, 0, 0, 0, 0, 0), (1, .ldc2_w 230, 3, 0, 0, 0, 2, 299), (4, .lrem, 1, 0, 0, 0, 0, 0), (5, .lconst 0, 1, 0, 0, 0, 0, 0), (6, .lcmp, 1, 0, 0, 0, 0, 0),
  (7, .ifCond .eq 12, 3, 0, 0, 0, 0, 0), (10, .aload_n 0, 1, 0, 0, 0, 0, 0), (11, .iconst 1, 1, 0, 0, 0, 0, 0), (12, .lconst 0, 1, 0, 0, 0, 0, 0),
  (13, .invokevirtual 106, 3, 1, 63, 0, 2, 272), (16, .ifCond .eq 7, 3, 0, 0, 0, 0, 0), (19, .iconst 1, 1, 0, 0, 0, 0, 0), (20, .goto 4, 3, 0, 0, 0, 0, 0),
  (23, .iconst 0, 1, 0, 0, 0, 0, 0), (24, .ireturn, 1, 0, 0, 0, 0, 0)]
def am_c_rd_take : List am_E := [
  (0, .aload_n 0, 1, 0, 0, 0, 0, 0), (1, .getfield 39, 3, 3, 0, 0, 0, 171), (4, .aload_n 0, 1, 0, 0, 0, 0, 0), (5, .getfield 43, 3, 3, 5, 0, 0, 177),
  (8, .iload_n 1, 1, 0, 0, 0, 0, 0), (9, .invokevirtual 92, 3, 1, 8, 0, 2, 253), (12, .ifCond .eq 24, 3, 0, 0, 0, 0, 0), (15, .aload_n 0, 1, 0, 0, 0, 0, 0),
  (16, .getfield 39, 3, 3, 0, 0, 0, 171), (19, .aload_n 0, 1, 0, 0, 0, 0, 0), (20, .getfield 43, 3, 3, 5, 0, 0, 177), (23, .iload_n 1, 1, 0, 0, 0, 0, 0),
  (24, .aload_n 0, 1, 0, 0, 0, 0, 0), (25, .getfield 71, 3, 3, 7, 0, 0, 179), (28, .invokevirtual 129, 3, 1, 9, 0, 3, 276), (31, .lload_n 2, 1, 0, 0, 0, 0, 0),
  (32, .lcmp, 1, 0, 0, 0, 0, 0), (33, .ifCond .eq 5, 3, 0, 0, 0, 0, 0), (36, .iconst 0, 1, 0, 0, 0, 0, 0), (37, .ireturn, 1, 0, 0, 0, 0, 0), (38, .aload_n 0, 1, 0, 0, 0, 0, 0),
  (39, .dup, 1, 0, 0, 0, 0, 0), (40, .getfield 43, 3, 3, 5, 0, 0, 177), (43, .iload_n 1, 1, 0, 0, 0, 0, 0), (44, .iadd, 1, 0, 0, 0, 0, 0), (45, .putfield 43, 3, 3, 5, 0, 0, 177),
  (48, .iconst 1, 1, 0, 0, 0, 0, 0), (49, .ireturn, 1, 0, 0, 0, 0, 0)]
def am_c_rd_takeWithin : List am_E := [
  (0, .aload_n 0, 1, 0, 0, 0, 0, 0), (1, .getfield 39, 3, 3, 0, 0, 0, 171), (4, .aload_n 0, 1, 0, 0, 0, 0, 0), (5, .getfield 43, 3, 3, 5, 0, 0, 177),
  (8, .iload_n 1, 1, 0, 0, 0, 0, 0), (9, .invokevirtual 92, 3, 1, 8, 0, 2, 253), (12, .ifCond .ne 5, 3, 0, 0, 0, 0, 0), (15, .iconst 0, 1, 0, 0, 0, 0, 0),
  (16, .ireturn, 1, 0, 0, 0, 0, 0), (17, .aload_n 0, 1, 0, 0, 0, 0, 0), (18, .aload_n 0, 1, 0, 0, 0, 0, 0), (19, .getfield 39, 3, 3, 0, 0, 0, 171),
  (22, .aload_n 0, 1, 0, 0, 0, 0, 0), (23, .getfield 43, 3, 3, 5, 0, 0, 177), (26, .iload_n 1, 1, 0, 0, 0, 0, 0), (27, .aload_n 0, 1, 0, 0, 0, 0, 0),
  (28, .getfield 71, 3, 3, 7, 0, 0, 179), (31, .invokevirtual 129, 3, 1, 9, 0, 3, 276), (34, .putfield 147, 3, 3, 6, 0, 0, 178), (37, .aload_n 0, 1, 0, 0, 0, 0, 0),
  (38, .getfield 147, 3, 3, 6, 0, 0, 178), (41, .lload_n 2, 1, 0, 0, 0, 0, 0), (42, .lcmp, 1, 0, 0, 0, 0, 0), (43, .ifCond .lt 13, 3, 0, 0, 0, 0, 0),
  (46, .aload_n 0, 1, 0, 0, 0, 0, 0), (47, .getfield 147, 3, 3, 6, 0, 0, 178), (50, .lload 4, 2, 0, 0, 0, 0, 0), (52, .lcmp, 1, 0, 0, 0, 0, 0),
  (53, .ifCond .le 5, 3, 0, 0, 0, 0, 0), (56, .iconst 0, 1, 0, 0, 0, 0, 0), (57, .ireturn, 1, 0, 0, 0, 0, 0), (58, .aload_n 0, 1, 0, 0, 0, 0, 0), (59, .dup, 1, 0, 0, 0, 0, 0),
  (60, .getfield 43, 3, 3, 5, 0, 0, 177), (63, .iload_n 1, 1, 0, 0, 0, 0, 0), (64, .iadd, 1, 0, 0, 0, 0, 0), (65, .putfield 43, 3, 3, 5, 0, 0, 177),
  (68, .iconst 1, 1, 0, 0, 0, 0, 0), (69, .ireturn, 1, 0, 0, 0, 0, 0)]
def am_c_wr_init : List am_E := [
  (0, .aload_n 0, 1, 0, 0, 0, 0, 0), (1, .invokespecial 3, 3, 6, 0, 0, 0, 75), (4, .aload_n 0, 1, 0, 0, 0, 0, 0), (5, .new 9, 3, 1, 0, 0, 0, 76), (8, .dup, 1, 0, 0, 0, 0, 0),
  (9, .invokespecial 11, 3, 4, 13, 0, 0, 78), (12, .putfield 12, 3, 6, 2, 0, 0, 140), (15, .aload_n 0, 1, 0, 0, 0, 0, 0), (16, .new 18, 3, 5, 0, 0, 0, 101),
  (19, .dup, 1, 0, 0, 0, 0, 0), (20, .invokespecial 20, 3, 4, 33, 0, 0, 103), (23, .putfield 21, 3, 6, 3, 0, 0, 141), (26, .aload_n 0, 1, 0, 0, 0, 0, 0),
  (27, .new 25, 3, 2, 0, 0, 0, 118), (30, .dup, 1, 0, 0, 0, 0, 0), (31, .invokespecial 27, 3, 4, 29, 0, 0, 120), (34, .putfield 28, 3, 6, 4, 0, 0, 142),
  (37, .aload_n 0, 1, 0, 0, 0, 0, 0), (38, .bipush 16, 2, 0, 0, 0, 0, 0), (40, .newarray .int, 2, 0, 0, 0, 0, 0), (42, .putfield 32, 3, 6, 5, 0, 0, 143),
  (45, .aload_n 0, 1, 0, 0, 0, 0, 0), (46, .aload_n 1, 1, 0, 0, 0, 0, 0), (47, .putfield 36, 3, 6, 0, 0, 0, 138), (50, .aload_n 0, 1, 0, 0, 0, 0, 0),
  (51, .aload_n 2, 1, 0, 0, 0, 0, 0), (52, .putfield 40, 3, 6, 1, 0, 0, 139), (55, .return_, 1, 0, 0, 0, 0, 0)]
def am_c_wr_writePlain : List am_E := [
  (0, .aload_n 0, 1, 0, 0, 0, 0, 0), (1, .iconst 1, 1, 0, 0, 0, 0, 0), (2, .iload_n 1, 1, 0, 0, 0, 0, 0), (3, .invokevirtual 44, 3, 1, 70, 0, 2, 655),
  (6, .iconst 0, 1, 0, 0, 0, 0, 0), (7, .istore_n 2, 1, 0, 0, 0, 0, 0), (8, .iload_n 2, 1, 0, 0, 0, 0, 0), (9, .aload_n 0, 1, 0, 0, 0, 0, 0),
  (10, .getfield 36, 3, 6, 0, 0, 0, 138), (13, .getfield 48, 3, 4, 1, 0, 0, 38), (16, .if_icmp .ge 58, 3, 0, 0, 0, 0, 0), (19, .iload_n 1, 1, 0, 0, 0, 0, 0),
  (20, .iconst 1, 1, 0, 0, 0, 0, 0), (21, .if_icmp .ne 29, 3, 0, 0, 0, 0, 0), (24, .aload_n 0, 1, 0, 0, 0, 0, 0), (25, .getfield 40, 3, 6, 1, 0, 0, 139),
  (28, .aload_n 0, 1, 0, 0, 0, 0, 0), (29, .getfield 36, 3, 6, 0, 0, 0, 138), (32, .getfield 54, 3, 4, 0, 0, 0, 35), (35, .iload_n 2, 1, 0, 0, 0, 0, 0),
  (36, .iaload, 1, 0, 0, 0, 0, 0), (37, .bipush 8, 2, 0, 0, 0, 0, 0), (39, .ishr, 1, 0, 0, 0, 0, 0), (40, .sipush 128, 3, 0, 0, 0, 0, 0), (43, .iadd, 1, 0, 0, 0, 0, 0),
  (44, .invokevirtual 57, 3, 1, 5, 0, 1, 691), (47, .goto 21, 3, 0, 0, 0, 0, 0), (50, .aload_n 0, 1, 0, 0, 0, 0, 0), (51, .getfield 40, 3, 6, 1, 0, 0, 139),
  (54, .aload_n 0, 1, 0, 0, 0, 0, 0), (55, .getfield 36, 3, 6, 0, 0, 0, 138), (58, .getfield 54, 3, 4, 0, 0, 0, 35), (61, .iload_n 2, 1, 0, 0, 0, 0, 0),
  (62, .iaload, 1, 0, 0, 0, 0, 0), (63, .i2l, 1, 0, 0, 0, 0, 0), (64, .iconst 2, 1, 0, 0, 0, 0, 0), (65, .invokevirtual 63, 3, 1, 6, 0, 2, 673), (68, .iinc 2 1, 3, 0, 0, 0, 0, 0),
  (71, .goto (-63), 3, 0, 0, 0, 0, 0), (74, .aload_n 0, 1, 0, 0, 0, 0, 0), (75, .aload_n 0, 1, 0, 0, 0, 0, 0), (76, .getfield 12, 3, 6, 2, 0, 0, 140),
  (79, .aload_n 0, 1, 0, 0, 0, 0, 0), (80, .getfield 36, 3, 6, 0, 0, 0, 138), (83, .getfield 48, 3, 4, 1, 0, 0, 38), (86, .invokevirtual 67, 3, 1, 25, 0, 1, 661),
  (89, .invokevirtual 71, 3, 1, 73, 0, 1, 692), (92, .return_, 1, 0, 0, 0, 0, 0)]
def am_c_wr_writeStepped : List am_E := [
  (0, .aload_n 0, 1, 0, 0, 0, 0, 0), (1, .bipush 17, 2, 0, 0, 0, 0, 0), (3, .iconst 4, 1, 0, 0, 0, 0, 0), (4, .iload_n 1, 1, 0, 0, 0, 0, 0), (5, .iadd, 1, 0, 0, 0, 0, 0),
  (6, .invokevirtual 44, 3, 1, 70, 0, 2, 655), (9, .iconst 0, 1, 0, 0, 0, 0, 0), (10, .istore_n 2, 1, 0, 0, 0, 0, 0), (11, .iconst 0, 1, 0, 0, 0, 0, 0),
  (12, .istore_n 3, 1, 0, 0, 0, 0, 0), (13, .iload_n 3, 1, 0, 0, 0, 0, 0), (14, .aload_n 0, 1, 0, 0, 0, 0, 0), (15, .getfield 36, 3, 6, 0, 0, 0, 138),
  (18, .getfield 48, 3, 4, 1, 0, 0, 38), (21, .if_icmp .ge 93, 3, 0, 0, 0, 0, 0), (24, .aload_n 0, 1, 0, 0, 0, 0, 0), (25, .getfield 40, 3, 6, 1, 0, 0, 139),
  (28, .aload_n 0, 1, 0, 0, 0, 0, 0), (29, .getfield 36, 3, 6, 0, 0, 0, 138), (32, .getfield 54, 3, 4, 0, 0, 0, 35), (35, .iload_n 3, 1, 0, 0, 0, 0, 0),
  (36, .iaload, 1, 0, 0, 0, 0, 0), (37, .i2l, 1, 0, 0, 0, 0, 0), (38, .iconst 2, 1, 0, 0, 0, 0, 0), (39, .invokevirtual 63, 3, 1, 6, 0, 2, 673),
  (42, .aload_n 0, 1, 0, 0, 0, 0, 0), (43, .getfield 40, 3, 6, 1, 0, 0, 139), (46, .iload_n 2, 1, 0, 0, 0, 0, 0), (47, .invokevirtual 57, 3, 1, 5, 0, 1, 691),
  (50, .aload_n 0, 1, 0, 0, 0, 0, 0), (51, .getfield 40, 3, 6, 1, 0, 0, 139), (54, .iconst 0, 1, 0, 0, 0, 0, 0), (55, .invokevirtual 57, 3, 1, 5, 0, 1, 691),
  (58, .aload_n 0, 1, 0, 0, 0, 0, 0), (59, .getfield 21, 3, 6, 3, 0, 0, 141), (62, .aload_n 0, 1, 0, 0, 0, 0, 0), (63, .getfield 36, 3, 6, 0, 0, 0, 138),
  (66, .getfield 54, 3, 4, 0, 0, 0, 35), (69, .iload_n 3, 1, 0, 0, 0, 0, 0), (70, .iaload, 1, 0, 0, 0, 0, 0), (71, .iload_n 2, 1, 0, 0, 0, 0, 0),
  (72, .invokevirtual 74, 3, 1, 34, 0, 2, 700), (75, .aload_n 0, 1, 0, 0, 0, 0, 0), (76, .aload_n 0, 1, 0, 0, 0, 0, 0), (77, .getfield 21, 3, 6, 3, 0, 0, 141),
  (80, .iload_n 3, 1, 0, 0, 0, 0, 0), (81, .iconst 1, 1, 0, 0, 0, 0, 0), (82, .iadd, 1, 0, 0, 0, 0, 0), (83, .invokevirtual 77, 3, 1, 77, 0, 2, 701), (86, .pop, 1, 0, 0, 0, 0, 0),
  (87, .aload_n 0, 1, 0, 0, 0, 0, 0), (88, .iconst 0, 1, 0, 0, 0, 0, 0), (89, .iconst 4, 1, 0, 0, 0, 0, 0), (90, .invokevirtual 81, 3, 1, 78, 0, 2, 722),
  (93, .aload_n 0, 1, 0, 0, 0, 0, 0), (94, .getfield 21, 3, 6, 3, 0, 0, 141), (97, .getfield 84, 3, 5, 1, 0, 0, 112), (100, .istore_n 2, 1, 0, 0, 0, 0, 0),
  (101, .iload_n 3, 1, 0, 0, 0, 0, 0), (102, .aload_n 0, 1, 0, 0, 0, 0, 0), (103, .getfield 12, 3, 6, 2, 0, 0, 140), (106, .getfield 87, 3, 1, 3, 0, 0, 90),
  (109, .iadd, 1, 0, 0, 0, 0, 0), (110, .istore_n 3, 1, 0, 0, 0, 0, 0), (111, .goto (-98), 3, 0, 0, 0, 0, 0), (114, .aload_n 0, 1, 0, 0, 0, 0, 0),
  (115, .aload_n 0, 1, 0, 0, 0, 0, 0), (116, .getfield 12, 3, 6, 2, 0, 0, 140), (119, .aload_n 0, 1, 0, 0, 0, 0, 0), (120, .getfield 36, 3, 6, 0, 0, 0, 138),
  (123, .getfield 48, 3, 4, 1, 0, 0, 38), (126, .invokevirtual 67, 3, 1, 25, 0, 1, 661), (129, .invokevirtual 71, 3, 1, 73, 0, 1, 692), (132, .return_, 1, 0, 0, 0, 0, 0)]
def am_c_wr_writePredicted : List am_E := [
  (0, .aload_n 0, 1, 0, 0, 0, 0, 0), (1, .iconst 2, 1, 0, 0, 0, 0, 0), (2, .bipush 7, 2, 0, 0, 0, 0, 0), (4, .iload_n 1, 1, 0, 0, 0, 0, 0), (5, .iadd, 1, 0, 0, 0, 0, 0),
  (6, .invokevirtual 44, 3, 1, 70, 0, 2, 655), (9, .bipush 16, 2, 0, 0, 0, 0, 0), (11, .istore_n 2, 1, 0, 0, 0, 0, 0), (12, .iconst 0, 1, 0, 0, 0, 0, 0),
  (13, .istore_n 3, 1, 0, 0, 0, 0, 0), (14, .iload_n 3, 1, 0, 0, 0, 0, 0), (15, .aload_n 0, 1, 0, 0, 0, 0, 0), (16, .getfield 36, 3, 6, 0, 0, 0, 138),
  (19, .getfield 48, 3, 4, 1, 0, 0, 38), (22, .if_icmp .ge 109, 3, 0, 0, 0, 0, 0), (25, .aload_n 0, 1, 0, 0, 0, 0, 0), (26, .iload_n 3, 1, 0, 0, 0, 0, 0),
  (27, .iload_n 2, 1, 0, 0, 0, 0, 0), (28, .invokevirtual 90, 3, 1, 75, 0, 2, 730), (31, .istore 4, 2, 0, 0, 0, 0, 0), (33, .aload_n 0, 1, 0, 0, 0, 0, 0),
  (34, .getfield 40, 3, 6, 1, 0, 0, 139), (37, .iload 4, 2, 0, 0, 0, 0, 0), (39, .invokevirtual 57, 3, 1, 5, 0, 1, 691), (42, .aload_n 0, 1, 0, 0, 0, 0, 0),
  (43, .getfield 40, 3, 6, 1, 0, 0, 139), (46, .iload_n 2, 1, 0, 0, 0, 0, 0), (47, .i2l, 1, 0, 0, 0, 0, 0), (48, .iconst 2, 1, 0, 0, 0, 0, 0),
  (49, .invokevirtual 63, 3, 1, 6, 0, 2, 673), (52, .aload_n 0, 1, 0, 0, 0, 0, 0), (53, .getfield 40, 3, 6, 1, 0, 0, 139), (56, .aload_n 0, 1, 0, 0, 0, 0, 0),
  (57, .iload_n 3, 1, 0, 0, 0, 0, 0), (58, .invokevirtual 94, 3, 1, 74, 0, 1, 738), (61, .i2l, 1, 0, 0, 0, 0, 0), (62, .iconst 2, 1, 0, 0, 0, 0, 0),
  (63, .invokevirtual 63, 3, 1, 6, 0, 2, 673), (66, .aload_n 0, 1, 0, 0, 0, 0, 0), (67, .getfield 40, 3, 6, 1, 0, 0, 139), (70, .aload_n 0, 1, 0, 0, 0, 0, 0),
  (71, .getfield 36, 3, 6, 0, 0, 0, 138), (74, .getfield 54, 3, 4, 0, 0, 0, 35), (77, .iload_n 3, 1, 0, 0, 0, 0, 0), (78, .iaload, 1, 0, 0, 0, 0, 0), (79, .i2l, 1, 0, 0, 0, 0, 0),
  (80, .iconst 2, 1, 0, 0, 0, 0, 0), (81, .invokevirtual 63, 3, 1, 6, 0, 2, 673), (84, .aload_n 0, 1, 0, 0, 0, 0, 0), (85, .iload_n 3, 1, 0, 0, 0, 0, 0),
  (86, .iload_n 2, 1, 0, 0, 0, 0, 0), (87, .iload 4, 2, 0, 0, 0, 0, 0), (89, .invokevirtual 97, 3, 1, 76, 0, 3, 734), (92, .aload_n 0, 1, 0, 0, 0, 0, 0),
  (93, .aload_n 0, 1, 0, 0, 0, 0, 0), (94, .getfield 28, 3, 6, 4, 0, 0, 142), (97, .iload_n 3, 1, 0, 0, 0, 0, 0), (98, .iconst 2, 1, 0, 0, 0, 0, 0), (99, .iadd, 1, 0, 0, 0, 0, 0),
  (100, .invokevirtual 77, 3, 1, 77, 0, 2, 701), (103, .pop, 1, 0, 0, 0, 0, 0), (104, .aload_n 0, 1, 0, 0, 0, 0, 0), (105, .iconst 4, 1, 0, 0, 0, 0, 0),
  (106, .iconst 0, 1, 0, 0, 0, 0, 0), (107, .invokevirtual 81, 3, 1, 78, 0, 2, 722), (110, .aload_n 0, 1, 0, 0, 0, 0, 0), (111, .getfield 28, 3, 6, 4, 0, 0, 142),
  (114, .getfield 101, 3, 2, 2, 0, 0, 127), (117, .istore_n 2, 1, 0, 0, 0, 0, 0), (118, .iload_n 3, 1, 0, 0, 0, 0, 0), (119, .aload_n 0, 1, 0, 0, 0, 0, 0),
  (120, .getfield 12, 3, 6, 2, 0, 0, 140), (123, .getfield 87, 3, 1, 3, 0, 0, 90), (126, .iadd, 1, 0, 0, 0, 0, 0), (127, .istore_n 3, 1, 0, 0, 0, 0, 0),
  (128, .goto (-114), 3, 0, 0, 0, 0, 0), (131, .aload_n 0, 1, 0, 0, 0, 0, 0), (132, .aload_n 0, 1, 0, 0, 0, 0, 0), (133, .getfield 12, 3, 6, 2, 0, 0, 140),
  (136, .aload_n 0, 1, 0, 0, 0, 0, 0), (137, .getfield 36, 3, 6, 0, 0, 0, 138), (140, .getfield 48, 3, 4, 1, 0, 0, 38), (143, .invokevirtual 67, 3, 1, 25, 0, 1, 661),
  (146, .invokevirtual 71, 3, 1, 73, 0, 1, 692), (149, .return_, 1, 0, 0, 0, 0, 0)]
def am_c_wr_writeOther : List am_E := [
  (0, .iload_n 1, 1, 0, 0, 0, 0, 0), (1, .bipush 8, 2, 0, 0, 0, 0, 0), (3, .if_icmp .gt 8, 3, 0, 0, 0, 0, 0), (6, .bipush 8, 2, 0, 0, 0, 0, 0), (8, .goto 5, 3, 0, 0, 0, 0, 0),
  (11, .bipush 16, 2, 0, 0, 0, 0, 0), (13, .istore_n 2, 1, 0, 0, 0, 0, 0), (14, .bipush 8, 2, 0, 0, 0, 0, 0), (16, .aload_n 0, 1, 0, 0, 0, 0, 0),
  (17, .getfield 36, 3, 6, 0, 0, 0, 138), (20, .getfield 48, 3, 4, 1, 0, 0, 38), (23, .iload_n 2, 1, 0, 0, 0, 0, 0), (24, .bipush 8, 2, 0, 0, 0, 0, 0),
  (26, .idiv, 1, 0, 0, 0, 0, 0), (27, .imul, 1, 0, 0, 0, 0, 0), (28, .iadd, 1, 0, 0, 0, 0, 0), (29, .istore_n 3, 1, 0, 0, 0, 0, 0), (30, .aload_n 0, 1, 0, 0, 0, 0, 0),
  (31, .iload_n 1, 1, 0, 0, 0, 0, 0), (32, .iload_n 3, 1, 0, 0, 0, 0, 0), (33, .invokevirtual 104, 3, 1, 72, 0, 2, 747), (36, .aload_n 0, 1, 0, 0, 0, 0, 0),
  (37, .getfield 40, 3, 6, 1, 0, 0, 139), (40, .ldc2_w 107, 3, 0, 0, 0, 1397968452, 755), (43, .iconst 4, 1, 0, 0, 0, 0, 0), (44, .invokevirtual 109, 3, 1, 7, 0, 2, 664),
  (47, .aload_n 0, 1, 0, 0, 0, 0, 0), (48, .getfield 40, 3, 6, 1, 0, 0, 139), (51, .iload_n 3, 1, 0, 0, 0, 0, 0), (52, .i2l, 1, 0, 0, 0, 0, 0), (53, .iconst 4, 1, 0, 0, 0, 0, 0),
  (54, .invokevirtual 109, 3, 1, 7, 0, 2, 664), (57, .aload_n 0, 1, 0, 0, 0, 0, 0), (58, .getfield 40, 3, 6, 1, 0, 0, 139), (61, .lconst 0, 1, 0, 0, 0, 0, 0),
  (62, .bipush 8, 2, 0, 0, 0, 0, 0), (64, .invokevirtual 109, 3, 1, 7, 0, 2, 664), (67, .iconst 0, 1, 0, 0, 0, 0, 0), (68, .istore 4, 2, 0, 0, 0, 0, 0),
  (70, .iload 4, 2, 0, 0, 0, 0, 0), (72, .aload_n 0, 1, 0, 0, 0, 0, 0), (73, .getfield 36, 3, 6, 0, 0, 0, 138), (76, .getfield 48, 3, 4, 1, 0, 0, 38),
  (79, .if_icmp .ge 40, 3, 0, 0, 0, 0, 0), (82, .aload_n 0, 1, 0, 0, 0, 0, 0), (83, .getfield 40, 3, 6, 1, 0, 0, 139), (86, .aload_n 0, 1, 0, 0, 0, 0, 0),
  (87, .getfield 36, 3, 6, 0, 0, 0, 138), (90, .getfield 54, 3, 4, 0, 0, 0, 35), (93, .iload 4, 2, 0, 0, 0, 0, 0), (95, .iaload, 1, 0, 0, 0, 0, 0),
  (96, .bipush 16, 2, 0, 0, 0, 0, 0), (98, .iload_n 1, 1, 0, 0, 0, 0, 0), (99, .isub, 1, 0, 0, 0, 0, 0), (100, .ishr, 1, 0, 0, 0, 0, 0), (101, .iload_n 2, 1, 0, 0, 0, 0, 0),
  (102, .iload_n 1, 1, 0, 0, 0, 0, 0), (103, .isub, 1, 0, 0, 0, 0, 0), (104, .ishl, 1, 0, 0, 0, 0, 0), (105, .i2l, 1, 0, 0, 0, 0, 0), (106, .iload_n 2, 1, 0, 0, 0, 0, 0),
  (107, .bipush 8, 2, 0, 0, 0, 0, 0), (109, .idiv, 1, 0, 0, 0, 0, 0), (110, .invokevirtual 109, 3, 1, 7, 0, 2, 664), (113, .iinc 4 1, 3, 0, 0, 0, 0, 0),
  (116, .goto (-46), 3, 0, 0, 0, 0, 0), (119, .aload_n 0, 1, 0, 0, 0, 0, 0), (120, .iload_n 3, 1, 0, 0, 0, 0, 0), (121, .invokevirtual 71, 3, 1, 73, 0, 1, 692),
  (124, .return_, 1, 0, 0, 0, 0, 0)]
def am_c_wr_startWave : List am_E := [
  (0, .aload_n 0, 1, 0, 0, 0, 0, 0), (1, .getfield 12, 3, 6, 2, 0, 0, 140), (4, .iload_n 1, 1, 0, 0, 0, 0, 0), (5, .invokevirtual 112, 3, 1, 15, 0, 1, 659),
  (8, .aload_n 0, 1, 0, 0, 0, 0, 0), (9, .getfield 12, 3, 6, 2, 0, 0, 140), (12, .iload_n 2, 1, 0, 0, 0, 0, 0), (13, .invokevirtual 115, 3, 1, 16, 0, 1, 660),
  (16, .aload_n 0, 1, 0, 0, 0, 0, 0), (17, .getfield 12, 3, 6, 2, 0, 0, 140), (20, .aload_n 0, 1, 0, 0, 0, 0, 0), (21, .getfield 36, 3, 6, 0, 0, 0, 138),
  (24, .getfield 48, 3, 4, 1, 0, 0, 38), (27, .invokevirtual 67, 3, 1, 25, 0, 1, 661), (30, .istore_n 3, 1, 0, 0, 0, 0, 0), (31, .aload_n 0, 1, 0, 0, 0, 0, 0),
  (32, .getfield 12, 3, 6, 2, 0, 0, 140), (35, .invokevirtual 118, 3, 1, 17, 0, 0, 662), (38, .ifCond .eq 8, 3, 0, 0, 0, 0, 0), (41, .bipush 12, 2, 0, 0, 0, 0, 0),
  (43, .goto 4, 3, 0, 0, 0, 0, 0), (46, .iconst 0, 1, 0, 0, 0, 0, 0), (47, .istore 4, 2, 0, 0, 0, 0, 0), (49, .bipush 8, 2, 0, 0, 0, 0, 0), (51, .iload_n 3, 1, 0, 0, 0, 0, 0),
  (52, .iadd, 1, 0, 0, 0, 0, 0), (53, .iload_n 3, 1, 0, 0, 0, 0, 0), (54, .iconst 2, 1, 0, 0, 0, 0, 0), (55, .irem, 1, 0, 0, 0, 0, 0), (56, .iadd, 1, 0, 0, 0, 0, 0),
  (57, .istore 5, 2, 0, 0, 0, 0, 0), (59, .aload_n 0, 1, 0, 0, 0, 0, 0), (60, .getfield 40, 3, 6, 1, 0, 0, 139), (63, .iconst 0, 1, 0, 0, 0, 0, 0),
  (64, .putfield 122, 3, 0, 1, 0, 0, 63), (67, .aload_n 0, 1, 0, 0, 0, 0, 0), (68, .getfield 40, 3, 6, 1, 0, 0, 139), (71, .ldc2_w 123, 3, 0, 0, 0, 1380533830, 663),
  (74, .iconst 4, 1, 0, 0, 0, 0, 0), (75, .invokevirtual 109, 3, 1, 7, 0, 2, 664), (78, .aload_n 0, 1, 0, 0, 0, 0, 0), (79, .getfield 40, 3, 6, 1, 0, 0, 139),
  (82, .bipush 12, 2, 0, 0, 0, 0, 0), (84, .aload_n 0, 1, 0, 0, 0, 0, 0), (85, .getfield 12, 3, 6, 2, 0, 0, 140), (88, .invokevirtual 125, 3, 1, 18, 0, 0, 672),
  (91, .iadd, 1, 0, 0, 0, 0, 0), (92, .iload 4, 2, 0, 0, 0, 0, 0), (94, .iadd, 1, 0, 0, 0, 0, 0), (95, .iload 5, 2, 0, 0, 0, 0, 0), (97, .iadd, 1, 0, 0, 0, 0, 0),
  (98, .i2l, 1, 0, 0, 0, 0, 0), (99, .iconst 4, 1, 0, 0, 0, 0, 0), (100, .invokevirtual 63, 3, 1, 6, 0, 2, 673), (103, .aload_n 0, 1, 0, 0, 0, 0, 0),
  (104, .getfield 40, 3, 6, 1, 0, 0, 139), (107, .ldc2_w 129, 3, 0, 0, 0, 1463899717, 677), (110, .iconst 4, 1, 0, 0, 0, 0, 0), (111, .invokevirtual 109, 3, 1, 7, 0, 2, 664),
  (114, .aload_n 0, 1, 0, 0, 0, 0, 0), (115, .invokevirtual 131, 3, 1, 71, 0, 0, 678), (118, .aload_n 0, 1, 0, 0, 0, 0, 0), (119, .getfield 12, 3, 6, 2, 0, 0, 140),
  (122, .invokevirtual 118, 3, 1, 17, 0, 0, 662), (125, .ifCond .eq 41, 3, 0, 0, 0, 0, 0), (128, .aload_n 0, 1, 0, 0, 0, 0, 0), (129, .getfield 40, 3, 6, 1, 0, 0, 139),
  (132, .ldc2_w 134, 3, 0, 0, 0, 1717658484, 688), (135, .iconst 4, 1, 0, 0, 0, 0, 0), (136, .invokevirtual 109, 3, 1, 7, 0, 2, 664), (139, .aload_n 0, 1, 0, 0, 0, 0, 0),
  (140, .getfield 40, 3, 6, 1, 0, 0, 139), (143, .ldc2_w 136, 3, 0, 0, 0, 4, 689), (146, .iconst 4, 1, 0, 0, 0, 0, 0), (147, .invokevirtual 63, 3, 1, 6, 0, 2, 673),
  (150, .aload_n 0, 1, 0, 0, 0, 0, 0), (151, .getfield 40, 3, 6, 1, 0, 0, 139), (154, .aload_n 0, 1, 0, 0, 0, 0, 0), (155, .getfield 36, 3, 6, 0, 0, 0, 138),
  (158, .getfield 48, 3, 4, 1, 0, 0, 38), (161, .i2l, 1, 0, 0, 0, 0, 0), (162, .iconst 4, 1, 0, 0, 0, 0, 0), (163, .invokevirtual 63, 3, 1, 6, 0, 2, 673),
  (166, .aload_n 0, 1, 0, 0, 0, 0, 0), (167, .getfield 40, 3, 6, 1, 0, 0, 139), (170, .ldc2_w 138, 3, 0, 0, 0, 1684108385, 690), (173, .iconst 4, 1, 0, 0, 0, 0, 0),
  (174, .invokevirtual 109, 3, 1, 7, 0, 2, 664), (177, .aload_n 0, 1, 0, 0, 0, 0, 0), (178, .getfield 40, 3, 6, 1, 0, 0, 139), (181, .iload_n 3, 1, 0, 0, 0, 0, 0),
  (182, .i2l, 1, 0, 0, 0, 0, 0), (183, .iconst 4, 1, 0, 0, 0, 0, 0), (184, .invokevirtual 63, 3, 1, 6, 0, 2, 673), (187, .return_, 1, 0, 0, 0, 0, 0)]
def am_c_wr_putFmt : List am_E := [
  (0, .aload_n 0, 1, 0, 0, 0, 0, 0), (1, .getfield 40, 3, 6, 1, 0, 0, 139), (4, .ldc2_w 140, 3, 0, 0, 0, 1718449184, 682), (7, .iconst 4, 1, 0, 0, 0, 0, 0),
  (8, .invokevirtual 109, 3, 1, 7, 0, 2, 664), (11, .aload_n 0, 1, 0, 0, 0, 0, 0), (12, .getfield 40, 3, 6, 1, 0, 0, 139), (15, .aload_n 0, 1, 0, 0, 0, 0, 0),
  (16, .getfield 12, 3, 6, 2, 0, 0, 140), (19, .invokevirtual 125, 3, 1, 18, 0, 0, 672), (22, .i2l, 1, 0, 0, 0, 0, 0), (23, .iconst 4, 1, 0, 0, 0, 0, 0),
  (24, .invokevirtual 63, 3, 1, 6, 0, 2, 673), (27, .aload_n 0, 1, 0, 0, 0, 0, 0), (28, .getfield 40, 3, 6, 1, 0, 0, 139), (31, .aload_n 0, 1, 0, 0, 0, 0, 0),
  (32, .getfield 12, 3, 6, 2, 0, 0, 140), (35, .getfield 142, 3, 1, 0, 0, 0, 84), (38, .i2l, 1, 0, 0, 0, 0, 0), (39, .iconst 2, 1, 0, 0, 0, 0, 0),
  (40, .invokevirtual 63, 3, 1, 6, 0, 2, 673), (43, .aload_n 0, 1, 0, 0, 0, 0, 0), (44, .getfield 40, 3, 6, 1, 0, 0, 139), (47, .lconst 1, 1, 0, 0, 0, 0, 0),
  (48, .iconst 2, 1, 0, 0, 0, 0, 0), (49, .invokevirtual 63, 3, 1, 6, 0, 2, 673), (52, .aload_n 0, 1, 0, 0, 0, 0, 0), (53, .getfield 40, 3, 6, 1, 0, 0, 139),
  (56, .aload_n 0, 1, 0, 0, 0, 0, 0), (57, .getfield 36, 3, 6, 0, 0, 0, 138), (60, .getfield 145, 3, 4, 2, 0, 0, 43), (63, .i2l, 1, 0, 0, 0, 0, 0),
  (64, .iconst 4, 1, 0, 0, 0, 0, 0), (65, .invokevirtual 63, 3, 1, 6, 0, 2, 673), (68, .aload_n 0, 1, 0, 0, 0, 0, 0), (69, .getfield 40, 3, 6, 1, 0, 0, 139),
  (72, .aload_n 0, 1, 0, 0, 0, 0, 0), (73, .getfield 12, 3, 6, 2, 0, 0, 140), (76, .aload_n 0, 1, 0, 0, 0, 0, 0), (77, .getfield 36, 3, 6, 0, 0, 0, 138),
  (80, .getfield 145, 3, 4, 2, 0, 0, 43), (83, .invokevirtual 148, 3, 1, 24, 0, 1, 683), (86, .i2l, 1, 0, 0, 0, 0, 0), (87, .iconst 4, 1, 0, 0, 0, 0, 0),
  (88, .invokevirtual 63, 3, 1, 6, 0, 2, 673), (91, .aload_n 0, 1, 0, 0, 0, 0, 0), (92, .getfield 40, 3, 6, 1, 0, 0, 139), (95, .aload_n 0, 1, 0, 0, 0, 0, 0),
  (96, .getfield 12, 3, 6, 2, 0, 0, 140), (99, .getfield 151, 3, 1, 2, 0, 0, 88), (102, .i2l, 1, 0, 0, 0, 0, 0), (103, .iconst 2, 1, 0, 0, 0, 0, 0),
  (104, .invokevirtual 63, 3, 1, 6, 0, 2, 673), (107, .aload_n 0, 1, 0, 0, 0, 0, 0), (108, .getfield 40, 3, 6, 1, 0, 0, 139), (111, .aload_n 0, 1, 0, 0, 0, 0, 0),
  (112, .getfield 12, 3, 6, 2, 0, 0, 140), (115, .invokevirtual 154, 3, 1, 22, 0, 0, 684), (118, .i2l, 1, 0, 0, 0, 0, 0), (119, .iconst 2, 1, 0, 0, 0, 0, 0),
  (120, .invokevirtual 63, 3, 1, 6, 0, 2, 673), (123, .aload_n 0, 1, 0, 0, 0, 0, 0), (124, .getfield 12, 3, 6, 2, 0, 0, 140), (127, .invokevirtual 118, 3, 1, 17, 0, 0, 662),
  (130, .ifCond .eq 35, 3, 0, 0, 0, 0, 0), (133, .aload_n 0, 1, 0, 0, 0, 0, 0), (134, .getfield 40, 3, 6, 1, 0, 0, 139), (137, .aload_n 0, 1, 0, 0, 0, 0, 0),
  (138, .getfield 12, 3, 6, 2, 0, 0, 140), (141, .invokevirtual 157, 3, 1, 19, 0, 0, 685), (144, .i2l, 1, 0, 0, 0, 0, 0), (145, .iconst 2, 1, 0, 0, 0, 0, 0),
  (146, .invokevirtual 63, 3, 1, 6, 0, 2, 673), (149, .aload_n 0, 1, 0, 0, 0, 0, 0), (150, .getfield 40, 3, 6, 1, 0, 0, 139), (153, .aload_n 0, 1, 0, 0, 0, 0, 0),
  (154, .getfield 12, 3, 6, 2, 0, 0, 140), (157, .getfield 87, 3, 1, 3, 0, 0, 90), (160, .i2l, 1, 0, 0, 0, 0, 0), (161, .iconst 2, 1, 0, 0, 0, 0, 0),
  (162, .invokevirtual 63, 3, 1, 6, 0, 2, 673), (165, .aload_n 0, 1, 0, 0, 0, 0, 0), (166, .getfield 12, 3, 6, 2, 0, 0, 140), (169, .getfield 142, 3, 1, 0, 0, 0, 84),
  (172, .iconst 2, 1, 0, 0, 0, 0, 0), (173, .if_icmp .ne 50, 3, 0, 0, 0, 0, 0), (176, .aload_n 0, 1, 0, 0, 0, 0, 0), (177, .getfield 40, 3, 6, 1, 0, 0, 139),
  (180, .ldc2_w 160, 3, 0, 0, 0, 7, 686), (183, .iconst 2, 1, 0, 0, 0, 0, 0), (184, .invokevirtual 63, 3, 1, 6, 0, 2, 673), (187, .getstatic 162, 3, 2, 0, 0, 0, 687),
  (190, .astore_n 1, 1, 0, 0, 0, 0, 0), (191, .aload_n 1, 1, 0, 0, 0, 0, 0), (192, .arraylength, 1, 0, 0, 0, 0, 0), (193, .istore_n 2, 1, 0, 0, 0, 0, 0),
  (194, .iconst 0, 1, 0, 0, 0, 0, 0), (195, .istore_n 3, 1, 0, 0, 0, 0, 0), (196, .iload_n 3, 1, 0, 0, 0, 0, 0), (197, .iload_n 2, 1, 0, 0, 0, 0, 0),
  (198, .if_icmp .ge 25, 3, 0, 0, 0, 0, 0), (201, .aload_n 1, 1, 0, 0, 0, 0, 0), (202, .iload_n 3, 1, 0, 0, 0, 0, 0), (203, .iaload, 1, 0, 0, 0, 0, 0),
  (204, .istore 4, 2, 0, 0, 0, 0, 0), (206, .aload_n 0, 1, 0, 0, 0, 0, 0), (207, .getfield 40, 3, 6, 1, 0, 0, 139), (210, .iload 4, 2, 0, 0, 0, 0, 0),
  (212, .i2l, 1, 0, 0, 0, 0, 0), (213, .iconst 2, 1, 0, 0, 0, 0, 0), (214, .invokevirtual 63, 3, 1, 6, 0, 2, 673), (217, .iinc 3 1, 3, 0, 0, 0, 0, 0),
  (220, .goto (-24), 3, 0, 0, 0, 0, 0), (223, .return_, 1, 0, 0, 0, 0, 0)]
def am_c_wr_startOther : List am_E := [
  (0, .iconst 0, 1, 0, 0, 0, 0, 0), (1, .istore_n 3, 1, 0, 0, 0, 0, 0), (2, .iload_n 3, 1, 0, 0, 0, 0, 0), (3, .bipush 17, 2, 0, 0, 0, 0, 0),
  (5, .if_icmp .ge 22, 3, 0, 0, 0, 0, 0), (8, .aload_n 0, 1, 0, 0, 0, 0, 0), (9, .getfield 36, 3, 6, 0, 0, 0, 138), (12, .getfield 145, 3, 4, 2, 0, 0, 43),
  (15, .iload_n 3, 1, 0, 0, 0, 0, 0), (16, .ishr, 1, 0, 0, 0, 0, 0), (17, .iconst 1, 1, 0, 0, 0, 0, 0), (18, .if_icmp .le 9, 3, 0, 0, 0, 0, 0), (21, .iinc 3 1, 3, 0, 0, 0, 0, 0),
  (24, .goto (-22), 3, 0, 0, 0, 0, 0), (27, .aload_n 0, 1, 0, 0, 0, 0, 0), (28, .getfield 40, 3, 6, 1, 0, 0, 139), (31, .iconst 0, 1, 0, 0, 0, 0, 0),
  (32, .putfield 122, 3, 0, 1, 0, 0, 63), (35, .aload_n 0, 1, 0, 0, 0, 0, 0), (36, .getfield 40, 3, 6, 1, 0, 0, 139), (39, .ldc2_w 165, 3, 0, 0, 0, 1179603533, 751),
  (42, .iconst 4, 1, 0, 0, 0, 0, 0), (43, .invokevirtual 109, 3, 1, 7, 0, 2, 664), (46, .aload_n 0, 1, 0, 0, 0, 0, 0), (47, .getfield 40, 3, 6, 1, 0, 0, 139),
  (50, .bipush 38, 2, 0, 0, 0, 0, 0), (52, .iload_n 2, 1, 0, 0, 0, 0, 0), (53, .iadd, 1, 0, 0, 0, 0, 0), (54, .iload_n 2, 1, 0, 0, 0, 0, 0), (55, .iconst 2, 1, 0, 0, 0, 0, 0),
  (56, .irem, 1, 0, 0, 0, 0, 0), (57, .iadd, 1, 0, 0, 0, 0, 0), (58, .i2l, 1, 0, 0, 0, 0, 0), (59, .iconst 4, 1, 0, 0, 0, 0, 0), (60, .invokevirtual 109, 3, 1, 7, 0, 2, 664),
  (63, .aload_n 0, 1, 0, 0, 0, 0, 0), (64, .getfield 40, 3, 6, 1, 0, 0, 139), (67, .ldc2_w 167, 3, 0, 0, 0, 1095321158, 752), (70, .iconst 4, 1, 0, 0, 0, 0, 0),
  (71, .invokevirtual 109, 3, 1, 7, 0, 2, 664), (74, .aload_n 0, 1, 0, 0, 0, 0, 0), (75, .getfield 40, 3, 6, 1, 0, 0, 139), (78, .ldc2_w 169, 3, 0, 0, 0, 1129270605, 753),
  (81, .iconst 4, 1, 0, 0, 0, 0, 0), (82, .invokevirtual 109, 3, 1, 7, 0, 2, 664), (85, .aload_n 0, 1, 0, 0, 0, 0, 0), (86, .getfield 40, 3, 6, 1, 0, 0, 139),
  (89, .ldc2_w 171, 3, 0, 0, 0, 18, 754), (92, .iconst 4, 1, 0, 0, 0, 0, 0), (93, .invokevirtual 109, 3, 1, 7, 0, 2, 664), (96, .aload_n 0, 1, 0, 0, 0, 0, 0),
  (97, .getfield 40, 3, 6, 1, 0, 0, 139), (100, .lconst 1, 1, 0, 0, 0, 0, 0), (101, .iconst 2, 1, 0, 0, 0, 0, 0), (102, .invokevirtual 109, 3, 1, 7, 0, 2, 664),
  (105, .aload_n 0, 1, 0, 0, 0, 0, 0), (106, .getfield 40, 3, 6, 1, 0, 0, 139), (109, .aload_n 0, 1, 0, 0, 0, 0, 0), (110, .getfield 36, 3, 6, 0, 0, 0, 138),
  (113, .getfield 48, 3, 4, 1, 0, 0, 38), (116, .i2l, 1, 0, 0, 0, 0, 0), (117, .iconst 4, 1, 0, 0, 0, 0, 0), (118, .invokevirtual 109, 3, 1, 7, 0, 2, 664),
  (121, .aload_n 0, 1, 0, 0, 0, 0, 0), (122, .getfield 40, 3, 6, 1, 0, 0, 139), (125, .iload_n 1, 1, 0, 0, 0, 0, 0), (126, .i2l, 1, 0, 0, 0, 0, 0),
  (127, .iconst 2, 1, 0, 0, 0, 0, 0), (128, .invokevirtual 109, 3, 1, 7, 0, 2, 664), (131, .aload_n 0, 1, 0, 0, 0, 0, 0), (132, .getfield 40, 3, 6, 1, 0, 0, 139),
  (135, .sipush 16383, 3, 0, 0, 0, 0, 0), (138, .iload_n 3, 1, 0, 0, 0, 0, 0), (139, .iadd, 1, 0, 0, 0, 0, 0), (140, .i2l, 1, 0, 0, 0, 0, 0), (141, .iconst 2, 1, 0, 0, 0, 0, 0),
  (142, .invokevirtual 109, 3, 1, 7, 0, 2, 664), (145, .aload_n 0, 1, 0, 0, 0, 0, 0), (146, .getfield 40, 3, 6, 1, 0, 0, 139), (149, .aload_n 0, 1, 0, 0, 0, 0, 0),
  (150, .getfield 36, 3, 6, 0, 0, 0, 138), (153, .getfield 145, 3, 4, 2, 0, 0, 43), (156, .i2l, 1, 0, 0, 0, 0, 0), (157, .bipush 63, 2, 0, 0, 0, 0, 0),
  (159, .iload_n 3, 1, 0, 0, 0, 0, 0), (160, .isub, 1, 0, 0, 0, 0, 0), (161, .lshl, 1, 0, 0, 0, 0, 0), (162, .bipush 8, 2, 0, 0, 0, 0, 0),
  (164, .invokevirtual 109, 3, 1, 7, 0, 2, 664), (167, .return_, 1, 0, 0, 0, 0, 0)]
def am_c_wr_putByteBehind : List am_E := [
  (0, .iload_n 1, 1, 0, 0, 0, 0, 0), (1, .iconst 2, 1, 0, 0, 0, 0, 0), (2, .irem, 1, 0, 0, 0, 0, 0), (3, .ifCond .eq 11, 3, 0, 0, 0, 0, 0), (6, .aload_n 0, 1, 0, 0, 0, 0, 0),
  (7, .getfield 40, 3, 6, 1, 0, 0, 139), (10, .iconst 0, 1, 0, 0, 0, 0, 0), (11, .invokevirtual 57, 3, 1, 5, 0, 1, 691), (14, .return_, 1, 0, 0, 0, 0, 0)]
def am_c_wr_secondOfBlock : List am_E := [
  (0, .aload_n 0, 1, 0, 0, 0, 0, 0), (1, .getfield 36, 3, 6, 0, 0, 0, 138), (4, .getfield 54, 3, 4, 0, 0, 0, 35), (7, .iload_n 1, 1, 0, 0, 0, 0, 0),
  (8, .iconst 1, 1, 0, 0, 0, 0, 0), (9, .iadd, 1, 0, 0, 0, 0, 0), (10, .aload_n 0, 1, 0, 0, 0, 0, 0), (11, .getfield 36, 3, 6, 0, 0, 0, 138),
  (14, .getfield 48, 3, 4, 1, 0, 0, 38), (17, .if_icmp .ge 9, 3, 0, 0, 0, 0, 0), (20, .iload_n 1, 1, 0, 0, 0, 0, 0), (21, .iconst 1, 1, 0, 0, 0, 0, 0),
  (22, .iadd, 1, 0, 0, 0, 0, 0), (23, .goto 4, 3, 0, 0, 0, 0, 0), (26, .iload_n 1, 1, 0, 0, 0, 0, 0), (27, .iaload, 1, 0, 0, 0, 0, 0), (28, .ireturn, 1, 0, 0, 0, 0, 0)]
def am_c_wr_bestPair : List am_E := [
  (0, .iconst 0, 1, 0, 0, 0, 0, 0), (1, .istore_n 3, 1, 0, 0, 0, 0, 0), (2, .iconst 0, 1, 0, 0, 0, 0, 0), (3, .istore 4, 2, 0, 0, 0, 0, 0), (5, .iconst 0, 1, 0, 0, 0, 0, 0),
  (6, .istore 5, 2, 0, 0, 0, 0, 0), (8, .iload 5, 2, 0, 0, 0, 0, 0), (10, .bipush 6, 2, 0, 0, 0, 0, 0), (12, .if_icmp .gt 49, 3, 0, 0, 0, 0, 0),
  (15, .aload_n 0, 1, 0, 0, 0, 0, 0), (16, .iload_n 1, 1, 0, 0, 0, 0, 0), (17, .iload_n 2, 1, 0, 0, 0, 0, 0), (18, .iload 5, 2, 0, 0, 0, 0, 0),
  (20, .invokevirtual 97, 3, 1, 76, 0, 3, 734), (23, .aload_n 0, 1, 0, 0, 0, 0, 0), (24, .aload_n 0, 1, 0, 0, 0, 0, 0), (25, .getfield 28, 3, 6, 4, 0, 0, 142),
  (28, .iload_n 1, 1, 0, 0, 0, 0, 0), (29, .iconst 2, 1, 0, 0, 0, 0, 0), (30, .iadd, 1, 0, 0, 0, 0, 0), (31, .invokevirtual 77, 3, 1, 77, 0, 2, 701),
  (34, .istore 6, 2, 0, 0, 0, 0, 0), (36, .iload 5, 2, 0, 0, 0, 0, 0), (38, .ifCond .eq 10, 3, 0, 0, 0, 0, 0), (41, .iload 6, 2, 0, 0, 0, 0, 0), (43, .iload 4, 2, 0, 0, 0, 0, 0),
  (45, .if_icmp .ge 10, 3, 0, 0, 0, 0, 0), (48, .iload 5, 2, 0, 0, 0, 0, 0), (50, .istore_n 3, 1, 0, 0, 0, 0, 0), (51, .iload 6, 2, 0, 0, 0, 0, 0),
  (53, .istore 4, 2, 0, 0, 0, 0, 0), (55, .iinc 5 1, 3, 0, 0, 0, 0, 0), (58, .goto (-50), 3, 0, 0, 0, 0, 0), (61, .iload_n 3, 1, 0, 0, 0, 0, 0), (62, .ireturn, 1, 0, 0, 0, 0, 0)]
def am_c_wr_startPair : List am_E := [
  (0, .aload_n 0, 1, 0, 0, 0, 0, 0), (1, .getfield 28, 3, 6, 4, 0, 0, 142), (4, .aload_n 0, 1, 0, 0, 0, 0, 0), (5, .getfield 36, 3, 6, 0, 0, 0, 138),
  (8, .getfield 54, 3, 4, 0, 0, 0, 35), (11, .iload_n 1, 1, 0, 0, 0, 0, 0), (12, .iaload, 1, 0, 0, 0, 0, 0), (13, .aload_n 0, 1, 0, 0, 0, 0, 0),
  (14, .iload_n 1, 1, 0, 0, 0, 0, 0), (15, .invokevirtual 94, 3, 1, 74, 0, 1, 738), (18, .iload_n 2, 1, 0, 0, 0, 0, 0), (19, .iload_n 3, 1, 0, 0, 0, 0, 0),
  (20, .invokevirtual 173, 3, 1, 30, 0, 4, 742), (23, .return_, 1, 0, 0, 0, 0, 0)]
def am_c_wr_chooseNibbles : List am_E := [
  (0, .iconst 0, 1, 0, 0, 0, 0, 0), (1, .istore_n 3, 1, 0, 0, 0, 0, 0), (2, .aload_n 0, 1, 0, 0, 0, 0, 0), (3, .getfield 32, 3, 6, 5, 0, 0, 143),
  (6, .arraylength, 1, 0, 0, 0, 0, 0), (7, .iconst 2, 1, 0, 0, 0, 0, 0), (8, .aload_n 0, 1, 0, 0, 0, 0, 0), (9, .getfield 12, 3, 6, 2, 0, 0, 140),
  (12, .invokevirtual 176, 3, 1, 23, 0, 0, 705), (15, .imul, 1, 0, 0, 0, 0, 0), (16, .invokestatic 179, 3, 0, 2, 0, 2, 706), (19, .istore 4, 2, 0, 0, 0, 0, 0),
  (21, .iconst 0, 1, 0, 0, 0, 0, 0), (22, .istore 5, 2, 0, 0, 0, 0, 0), (24, .iload 5, 2, 0, 0, 0, 0, 0), (26, .iload 4, 2, 0, 0, 0, 0, 0),
  (28, .if_icmp .ge 100, 3, 0, 0, 0, 0, 0), (31, .aload_n 0, 1, 0, 0, 0, 0, 0), (32, .getfield 32, 3, 6, 5, 0, 0, 143), (35, .iload 5, 2, 0, 0, 0, 0, 0),
  (37, .iconst 0, 1, 0, 0, 0, 0, 0), (38, .iastore, 1, 0, 0, 0, 0, 0), (39, .iload_n 2, 1, 0, 0, 0, 0, 0), (40, .iload 5, 2, 0, 0, 0, 0, 0), (42, .iadd, 1, 0, 0, 0, 0, 0),
  (43, .aload_n 0, 1, 0, 0, 0, 0, 0), (44, .getfield 36, 3, 6, 0, 0, 0, 138), (47, .getfield 48, 3, 4, 1, 0, 0, 38), (50, .if_icmp .ge 50, 3, 0, 0, 0, 0, 0),
  (53, .aload_n 0, 1, 0, 0, 0, 0, 0), (54, .getfield 36, 3, 6, 0, 0, 0, 138), (57, .getfield 54, 3, 4, 0, 0, 0, 35), (60, .iload_n 2, 1, 0, 0, 0, 0, 0),
  (61, .iload 5, 2, 0, 0, 0, 0, 0), (63, .iadd, 1, 0, 0, 0, 0, 0), (64, .iaload, 1, 0, 0, 0, 0, 0), (65, .istore 6, 2, 0, 0, 0, 0, 0), (67, .aload_n 0, 1, 0, 0, 0, 0, 0),
  (68, .getfield 32, 3, 6, 5, 0, 0, 143), (71, .iload 5, 2, 0, 0, 0, 0, 0), (73, .aload_n 1, 1, 0, 0, 0, 0, 0), (74, .iload 6, 2, 0, 0, 0, 0, 0),
  (76, .invokevirtual 184, 3, 5, 12, 12, 1, 709), (79, .iastore, 1, 0, 0, 0, 0, 0), (80, .iload_n 3, 1, 0, 0, 0, 0, 0), (81, .aload_n 1, 1, 0, 0, 0, 0, 0),
  (82, .aload_n 0, 1, 0, 0, 0, 0, 0), (83, .getfield 32, 3, 6, 5, 0, 0, 143), (86, .iload 5, 2, 0, 0, 0, 0, 0), (88, .iaload, 1, 0, 0, 0, 0, 0),
  (89, .invokevirtual 189, 3, 5, 35, 31, 1, 719), (92, .iload 6, 2, 0, 0, 0, 0, 0), (94, .isub, 1, 0, 0, 0, 0, 0), (95, .invokestatic 192, 3, 0, 0, 0, 1, 720),
  (98, .iadd, 1, 0, 0, 0, 0, 0), (99, .istore_n 3, 1, 0, 0, 0, 0, 0), (100, .aload_n 1, 1, 0, 0, 0, 0, 0), (101, .aload_n 0, 1, 0, 0, 0, 0, 0),
  (102, .getfield 32, 3, 6, 5, 0, 0, 143), (105, .iload 5, 2, 0, 0, 0, 0, 0), (107, .iaload, 1, 0, 0, 0, 0, 0), (108, .aload_n 1, 1, 0, 0, 0, 0, 0),
  (109, .aload_n 0, 1, 0, 0, 0, 0, 0), (110, .getfield 32, 3, 6, 5, 0, 0, 143), (113, .iload 5, 2, 0, 0, 0, 0, 0), (115, .iaload, 1, 0, 0, 0, 0, 0),
  (116, .invokevirtual 189, 3, 5, 35, 31, 1, 719), (119, .invokevirtual 195, 3, 5, 36, 32, 2, 721), (122, .iinc 5 1, 3, 0, 0, 0, 0, 0), (125, .goto (-101), 3, 0, 0, 0, 0, 0),
  (128, .iload_n 3, 1, 0, 0, 0, 0, 0), (129, .ireturn, 1, 0, 0, 0, 0, 0)]
def am_c_wr_putNibbles : List am_E := [
  (0, .aload_n 0, 1, 0, 0, 0, 0, 0), (1, .getfield 32, 3, 6, 5, 0, 0, 143), (4, .arraylength, 1, 0, 0, 0, 0, 0), (5, .iconst 2, 1, 0, 0, 0, 0, 0),
  (6, .aload_n 0, 1, 0, 0, 0, 0, 0), (7, .getfield 12, 3, 6, 2, 0, 0, 140), (10, .invokevirtual 176, 3, 1, 23, 0, 0, 705), (13, .imul, 1, 0, 0, 0, 0, 0),
  (14, .invokestatic 179, 3, 0, 2, 0, 2, 706), (17, .istore_n 3, 1, 0, 0, 0, 0, 0), (18, .iconst 0, 1, 0, 0, 0, 0, 0), (19, .istore 4, 2, 0, 0, 0, 0, 0),
  (21, .iload 4, 2, 0, 0, 0, 0, 0), (23, .iconst 1, 1, 0, 0, 0, 0, 0), (24, .iadd, 1, 0, 0, 0, 0, 0), (25, .iload_n 3, 1, 0, 0, 0, 0, 0), (26, .if_icmp .ge 37, 3, 0, 0, 0, 0, 0),
  (29, .aload_n 0, 1, 0, 0, 0, 0, 0), (30, .getfield 40, 3, 6, 1, 0, 0, 139), (33, .aload_n 0, 1, 0, 0, 0, 0, 0), (34, .getfield 32, 3, 6, 5, 0, 0, 143),
  (37, .iload 4, 2, 0, 0, 0, 0, 0), (39, .iaload, 1, 0, 0, 0, 0, 0), (40, .iload_n 1, 1, 0, 0, 0, 0, 0), (41, .ishl, 1, 0, 0, 0, 0, 0), (42, .aload_n 0, 1, 0, 0, 0, 0, 0),
  (43, .getfield 32, 3, 6, 5, 0, 0, 143), (46, .iload 4, 2, 0, 0, 0, 0, 0), (48, .iconst 1, 1, 0, 0, 0, 0, 0), (49, .iadd, 1, 0, 0, 0, 0, 0), (50, .iaload, 1, 0, 0, 0, 0, 0),
  (51, .iload_n 2, 1, 0, 0, 0, 0, 0), (52, .ishl, 1, 0, 0, 0, 0, 0), (53, .ior, 1, 0, 0, 0, 0, 0), (54, .invokevirtual 57, 3, 1, 5, 0, 1, 691), (57, .iinc 4 2, 3, 0, 0, 0, 0, 0),
  (60, .goto (-39), 3, 0, 0, 0, 0, 0), (63, .return_, 1, 0, 0, 0, 0, 0)]
def am_c_sh_init : List am_E := [
  (0, .aload_n 0, 1, 0, 0, 0, 0, 0), (1, .invokespecial 3, 3, 6, 0, 0, 0, 25), (4, .aload_n 0, 1, 0, 0, 0, 0, 0), (5, .new 9, 3, 4, 0, 0, 0, 28), (8, .dup, 1, 0, 0, 0, 0, 0),
  (9, .invokespecial 11, 3, 4, 26, 0, 0, 30), (12, .putfield 12, 3, 7, 0, 0, 0, 209), (15, .aload_n 0, 1, 0, 0, 0, 0, 0), (16, .new 16, 3, 0, 0, 0, 0, 53),
  (19, .dup, 1, 0, 0, 0, 0, 0), (20, .invokespecial 18, 3, 4, 4, 0, 0, 55), (23, .putfield 19, 3, 7, 1, 0, 0, 210), (26, .aload_n 0, 1, 0, 0, 0, 0, 0),
  (27, .new 23, 3, 6, 0, 0, 0, 70), (30, .dup, 1, 0, 0, 0, 0, 0), (31, .aload_n 0, 1, 0, 0, 0, 0, 0), (32, .getfield 12, 3, 7, 0, 0, 0, 209), (35, .aload_n 0, 1, 0, 0, 0, 0, 0),
  (36, .getfield 19, 3, 7, 1, 0, 0, 210), (39, .invokespecial 25, 3, 2, 65, 0, 2, 72), (42, .putfield 28, 3, 7, 2, 0, 0, 211), (45, .aload_n 0, 1, 0, 0, 0, 0, 0),
  (46, .new 32, 3, 3, 0, 0, 0, 157), (49, .dup, 1, 0, 0, 0, 0, 0), (50, .aload_n 0, 1, 0, 0, 0, 0, 0), (51, .getfield 19, 3, 7, 1, 0, 0, 210),
  (54, .invokespecial 34, 3, 2, 37, 0, 1, 159), (57, .putfield 37, 3, 7, 3, 0, 0, 212), (60, .aload_n 0, 1, 0, 0, 0, 0, 0), (61, .iconst (-1), 1, 0, 0, 0, 0, 0),
  (62, .putfield 41, 3, 7, 4, 0, 0, 213), (65, .return_, 1, 0, 0, 0, 0, 0)]
def am_c_sh_add : List am_E := [
  (0, .iload_n 1, 1, 0, 0, 0, 0, 0), (1, .sipush (-32768), 3, 0, 0, 0, 0, 0), (4, .if_icmp .lt 10, 3, 0, 0, 0, 0, 0), (7, .iload_n 1, 1, 0, 0, 0, 0, 0),
  (8, .sipush 32767, 3, 0, 0, 0, 0, 0), (11, .if_icmp .le 13, 3, 0, 0, 0, 0, 0), (14, .new 45, 3, 9, 0, 0, 0, 521), (17, .dup, 1, 0, 0, 0, 0, 0),
  (18, .ldc 47, 2, 1, 0, 0, 0, 563), (20, .invokespecial 49, 3, 8, 9, 0, 1, 564), (23, .athrow, 1, 0, 0, 0, 0, 0), (24, .aload_n 0, 1, 0, 0, 0, 0, 0),
  (25, .getfield 12, 3, 7, 0, 0, 0, 209), (28, .getfield 52, 3, 4, 1, 0, 0, 39), (31, .bipush 64, 2, 0, 0, 0, 0, 0), (33, .if_icmp .lt 13, 3, 0, 0, 0, 0, 0),
  (36, .new 55, 3, 10, 0, 0, 0, 590), (39, .dup, 1, 0, 0, 0, 0, 0), (40, .ldc 57, 2, 1, 0, 0, 0, 599), (42, .invokespecial 59, 3, 8, 10, 0, 1, 600),
  (45, .athrow, 1, 0, 0, 0, 0, 0), (46, .aload_n 0, 1, 0, 0, 0, 0, 0), (47, .getfield 12, 3, 7, 0, 0, 0, 209), (50, .iload_n 1, 1, 0, 0, 0, 0, 0),
  (51, .invokevirtual 60, 3, 1, 27, 0, 1, 606), (54, .aload_n 0, 1, 0, 0, 0, 0, 0), (55, .getfield 12, 3, 7, 0, 0, 0, 209), (58, .getfield 52, 3, 4, 1, 0, 0, 39),
  (61, .ireturn, 1, 0, 0, 0, 0, 0)]
def am_c_sh_clear : List am_E := [
  (0, .aload_n 0, 1, 0, 0, 0, 0, 0), (1, .getfield 12, 3, 7, 0, 0, 0, 209), (4, .getfield 52, 3, 4, 1, 0, 0, 39), (7, .istore_n 1, 1, 0, 0, 0, 0, 0),
  (8, .aload_n 0, 1, 0, 0, 0, 0, 0), (9, .getfield 12, 3, 7, 0, 0, 0, 209), (12, .iconst 0, 1, 0, 0, 0, 0, 0), (13, .putfield 52, 3, 4, 1, 0, 0, 39),
  (16, .iload_n 1, 1, 0, 0, 0, 0, 0), (17, .ireturn, 1, 0, 0, 0, 0, 0)]
def am_c_sh_samples : List am_E := [
  (0, .aload_n 0, 1, 0, 0, 0, 0, 0), (1, .getfield 12, 3, 7, 0, 0, 0, 209), (4, .getfield 52, 3, 4, 1, 0, 0, 39), (7, .ireturn, 1, 0, 0, 0, 0, 0)]
def am_c_sh_at : List am_E := [
  (0, .iload_n 1, 1, 0, 0, 0, 0, 0), (1, .ifCond .lt 14, 3, 0, 0, 0, 0, 0), (4, .iload_n 1, 1, 0, 0, 0, 0, 0), (5, .aload_n 0, 1, 0, 0, 0, 0, 0),
  (6, .getfield 12, 3, 7, 0, 0, 0, 209), (9, .getfield 52, 3, 4, 1, 0, 0, 39), (12, .if_icmp .lt 13, 3, 0, 0, 0, 0, 0), (15, .new 64, 3, 11, 0, 0, 0, 615),
  (18, .dup, 1, 0, 0, 0, 0, 0), (19, .ldc 66, 2, 1, 0, 0, 0, 624), (21, .invokespecial 68, 3, 8, 11, 0, 1, 625), (24, .athrow, 1, 0, 0, 0, 0, 0),
  (25, .aload_n 0, 1, 0, 0, 0, 0, 0), (26, .getfield 12, 3, 7, 0, 0, 0, 209), (29, .getfield 69, 3, 4, 0, 0, 0, 36), (32, .iload_n 1, 1, 0, 0, 0, 0, 0),
  (33, .iaload, 1, 0, 0, 0, 0, 0), (34, .ireturn, 1, 0, 0, 0, 0, 0)]
def am_c_sh_tune : List am_E := [
  (0, .iload_n 1, 1, 0, 0, 0, 0, 0), (1, .iconst 1, 1, 0, 0, 0, 0, 0), (2, .if_icmp .lt 9, 3, 0, 0, 0, 0, 0), (5, .iload_n 1, 1, 0, 0, 0, 0, 0),
  (6, .ldc 73, 2, 0, 0, 0, 192000, 638), (8, .if_icmp .le 13, 3, 0, 0, 0, 0, 0), (11, .new 45, 3, 9, 0, 0, 0, 521), (14, .dup, 1, 0, 0, 0, 0, 0),
  (15, .ldc 74, 2, 1, 0, 0, 0, 639), (17, .invokespecial 49, 3, 8, 9, 0, 1, 564), (20, .athrow, 1, 0, 0, 0, 0, 0), (21, .aload_n 0, 1, 0, 0, 0, 0, 0),
  (22, .getfield 12, 3, 7, 0, 0, 0, 209), (25, .getfield 76, 3, 4, 2, 0, 0, 42), (28, .istore_n 2, 1, 0, 0, 0, 0, 0), (29, .aload_n 0, 1, 0, 0, 0, 0, 0),
  (30, .getfield 12, 3, 7, 0, 0, 0, 209), (33, .iload_n 1, 1, 0, 0, 0, 0, 0), (34, .putfield 76, 3, 4, 2, 0, 0, 42), (37, .iload_n 2, 1, 0, 0, 0, 0, 0),
  (38, .ireturn, 1, 0, 0, 0, 0, 0)]
def am_c_sh_rate : List am_E := [
  (0, .aload_n 0, 1, 0, 0, 0, 0, 0), (1, .getfield 12, 3, 7, 0, 0, 0, 209), (4, .getfield 76, 3, 4, 2, 0, 0, 42), (7, .ireturn, 1, 0, 0, 0, 0, 0)]
def am_c_sh_write : List am_E := [
  (0, .iload_n 1, 1, 0, 0, 0, 0, 0), (1, .iload_n 2, 1, 0, 0, 0, 0, 0), (2, .invokestatic 79, 3, 0, 96, 0, 2, 647), (5, .ifCond .ne 13, 3, 0, 0, 0, 0, 0),
  (8, .new 45, 3, 9, 0, 0, 0, 521), (11, .dup, 1, 0, 0, 0, 0, 0), (12, .ldc 83, 2, 1, 0, 0, 0, 650), (14, .invokespecial 49, 3, 8, 9, 0, 1, 564), (17, .athrow, 1, 0, 0, 0, 0, 0),
  (18, .iload_n 1, 1, 0, 0, 0, 0, 0), (19, .tableswitch 73 0 3 #[29, 40, 51, 62], 29, 0, 0, 0, 0, 0), (48, .aload_n 0, 1, 0, 0, 0, 0, 0), (49, .getfield 28, 3, 7, 2, 0, 0, 211),
  (52, .iconst 1, 1, 0, 0, 0, 0, 0), (53, .invokevirtual 85, 3, 1, 66, 0, 1, 651), (56, .goto 44, 3, 0, 0, 0, 0, 0), (59, .aload_n 0, 1, 0, 0, 0, 0, 0),
  (60, .getfield 28, 3, 7, 2, 0, 0, 211), (63, .iconst 2, 1, 0, 0, 0, 0, 0), (64, .invokevirtual 85, 3, 1, 66, 0, 1, 651), (67, .goto 33, 3, 0, 0, 0, 0, 0),
  (70, .aload_n 0, 1, 0, 0, 0, 0, 0), (71, .getfield 28, 3, 7, 2, 0, 0, 211), (74, .iload_n 2, 1, 0, 0, 0, 0, 0), (75, .invokevirtual 88, 3, 1, 67, 0, 1, 696),
  (78, .goto 22, 3, 0, 0, 0, 0, 0), (81, .aload_n 0, 1, 0, 0, 0, 0, 0), (82, .getfield 28, 3, 7, 2, 0, 0, 211), (85, .iload_n 2, 1, 0, 0, 0, 0, 0),
  (86, .invokevirtual 91, 3, 1, 68, 0, 1, 726), (89, .goto 11, 3, 0, 0, 0, 0, 0), (92, .aload_n 0, 1, 0, 0, 0, 0, 0), (93, .getfield 28, 3, 7, 2, 0, 0, 211),
  (96, .iload_n 2, 1, 0, 0, 0, 0, 0), (97, .invokevirtual 94, 3, 1, 69, 0, 1, 743), (100, .aload_n 0, 1, 0, 0, 0, 0, 0), (101, .getfield 19, 3, 7, 1, 0, 0, 210),
  (104, .getfield 97, 3, 0, 1, 0, 0, 64), (107, .ireturn, 1, 0, 0, 0, 0, 0)]
def am_c_sh_read : List am_E := [
  (0, .aload_n 0, 1, 0, 0, 0, 0, 0), (1, .getfield 37, 3, 7, 3, 0, 0, 212), (4, .invokevirtual 98, 3, 1, 38, 0, 0, 241), (7, .istore_n 1, 1, 0, 0, 0, 0, 0),
  (8, .iload_n 1, 1, 0, 0, 0, 0, 0), (9, .iconst (-1), 1, 0, 0, 0, 0, 0), (10, .if_icmp .ne 28, 3, 0, 0, 0, 0, 0), (13, .aload_n 0, 1, 0, 0, 0, 0, 0),
  (14, .getfield 12, 3, 7, 0, 0, 0, 209), (17, .aload_n 0, 1, 0, 0, 0, 0, 0), (18, .getfield 37, 3, 7, 3, 0, 0, 212), (21, .getfield 102, 3, 3, 1, 0, 0, 173),
  (24, .invokevirtual 105, 3, 1, 28, 0, 1, 482), (27, .aload_n 0, 1, 0, 0, 0, 0, 0), (28, .aload_n 0, 1, 0, 0, 0, 0, 0), (29, .getfield 37, 3, 7, 3, 0, 0, 212),
  (32, .invokevirtual 109, 3, 1, 39, 0, 0, 489), (35, .putfield 41, 3, 7, 4, 0, 0, 213), (38, .iload_n 1, 1, 0, 0, 0, 0, 0), (39, .ireturn, 1, 0, 0, 0, 0, 0)]
def am_c_sh_form : List am_E := [
  (0, .aload_n 0, 1, 0, 0, 0, 0, 0), (1, .getfield 41, 3, 7, 4, 0, 0, 213), (4, .iconst (-1), 1, 0, 0, 0, 0, 0), (5, .if_icmp .ne 13, 3, 0, 0, 0, 0, 0),
  (8, .new 55, 3, 10, 0, 0, 0, 590), (11, .dup, 1, 0, 0, 0, 0, 0), (12, .ldc 112, 2, 1, 0, 0, 0, 763), (14, .invokespecial 59, 3, 8, 10, 0, 1, 600),
  (17, .athrow, 1, 0, 0, 0, 0, 0), (18, .aload_n 0, 1, 0, 0, 0, 0, 0), (19, .getfield 41, 3, 7, 4, 0, 0, 213), (22, .ireturn, 1, 0, 0, 0, 0, 0)]
def am_c_sh_size : List am_E := [
  (0, .aload_n 0, 1, 0, 0, 0, 0, 0), (1, .getfield 19, 3, 7, 1, 0, 0, 210), (4, .getfield 97, 3, 0, 1, 0, 0, 64), (7, .ireturn, 1, 0, 0, 0, 0, 0)]
def am_c_sh_byteAt : List am_E := [
  (0, .iload_n 1, 1, 0, 0, 0, 0, 0), (1, .ifCond .lt 14, 3, 0, 0, 0, 0, 0), (4, .iload_n 1, 1, 0, 0, 0, 0, 0), (5, .aload_n 0, 1, 0, 0, 0, 0, 0),
  (6, .getfield 19, 3, 7, 1, 0, 0, 210), (9, .getfield 97, 3, 0, 1, 0, 0, 64), (12, .if_icmp .lt 13, 3, 0, 0, 0, 0, 0), (15, .new 64, 3, 11, 0, 0, 0, 615),
  (18, .dup, 1, 0, 0, 0, 0, 0), (19, .ldc 114, 2, 1, 0, 0, 0, 771), (21, .invokespecial 68, 3, 8, 11, 0, 1, 625), (24, .athrow, 1, 0, 0, 0, 0, 0),
  (25, .aload_n 0, 1, 0, 0, 0, 0, 0), (26, .getfield 19, 3, 7, 1, 0, 0, 210), (29, .getfield 116, 3, 0, 0, 0, 0, 60), (32, .iload_n 1, 1, 0, 0, 0, 0, 0),
  (33, .iaload, 1, 0, 0, 0, 0, 0), (34, .ireturn, 1, 0, 0, 0, 0, 0)]
def am_c_sh_poke : List am_E := [
  (0, .iload_n 1, 1, 0, 0, 0, 0, 0), (1, .ifCond .lt 14, 3, 0, 0, 0, 0, 0), (4, .iload_n 1, 1, 0, 0, 0, 0, 0), (5, .aload_n 0, 1, 0, 0, 0, 0, 0),
  (6, .getfield 19, 3, 7, 1, 0, 0, 210), (9, .getfield 97, 3, 0, 1, 0, 0, 64), (12, .if_icmp .lt 13, 3, 0, 0, 0, 0, 0), (15, .new 64, 3, 11, 0, 0, 0, 615),
  (18, .dup, 1, 0, 0, 0, 0, 0), (19, .ldc 114, 2, 1, 0, 0, 0, 771), (21, .invokespecial 68, 3, 8, 11, 0, 1, 625), (24, .athrow, 1, 0, 0, 0, 0, 0),
  (25, .iload_n 2, 1, 0, 0, 0, 0, 0), (26, .ifCond .lt 10, 3, 0, 0, 0, 0, 0), (29, .iload_n 2, 1, 0, 0, 0, 0, 0), (30, .sipush 255, 3, 0, 0, 0, 0, 0),
  (33, .if_icmp .le 13, 3, 0, 0, 0, 0, 0), (36, .new 45, 3, 9, 0, 0, 0, 521), (39, .dup, 1, 0, 0, 0, 0, 0), (40, .ldc 117, 2, 1, 0, 0, 0, 779),
  (42, .invokespecial 49, 3, 8, 9, 0, 1, 564), (45, .athrow, 1, 0, 0, 0, 0, 0), (46, .aload_n 0, 1, 0, 0, 0, 0, 0), (47, .getfield 19, 3, 7, 1, 0, 0, 210),
  (50, .getfield 116, 3, 0, 0, 0, 0, 60), (53, .iload_n 1, 1, 0, 0, 0, 0, 0), (54, .iload_n 2, 1, 0, 0, 0, 0, 0), (55, .iastore, 1, 0, 0, 0, 0, 0),
  (56, .return_, 1, 0, 0, 0, 0, 0)]
def am_c_sh_type : List am_E := [
  (0, .iload_n 3, 1, 0, 0, 0, 0, 0), (1, .iconst 1, 1, 0, 0, 0, 0, 0), (2, .if_icmp .lt 9, 3, 0, 0, 0, 0, 0), (5, .iload_n 3, 1, 0, 0, 0, 0, 0), (6, .bipush 8, 2, 0, 0, 0, 0, 0),
  (8, .if_icmp .le 13, 3, 0, 0, 0, 0, 0), (11, .new 45, 3, 9, 0, 0, 0, 521), (14, .dup, 1, 0, 0, 0, 0, 0), (15, .ldc 119, 2, 1, 0, 0, 0, 787),
  (17, .invokespecial 49, 3, 8, 9, 0, 1, 564), (20, .athrow, 1, 0, 0, 0, 0, 0), (21, .aload_n 0, 1, 0, 0, 0, 0, 0), (22, .getfield 19, 3, 7, 1, 0, 0, 210),
  (25, .getfield 97, 3, 0, 1, 0, 0, 64), (28, .iload_n 3, 1, 0, 0, 0, 0, 0), (29, .iadd, 1, 0, 0, 0, 0, 0), (30, .sipush 400, 3, 0, 0, 0, 0, 0),
  (33, .if_icmp .le 13, 3, 0, 0, 0, 0, 0), (36, .new 55, 3, 10, 0, 0, 0, 590), (39, .dup, 1, 0, 0, 0, 0, 0), (40, .ldc 121, 2, 1, 0, 0, 0, 788),
  (42, .invokespecial 59, 3, 8, 10, 0, 1, 600), (45, .athrow, 1, 0, 0, 0, 0, 0), (46, .aload_n 0, 1, 0, 0, 0, 0, 0), (47, .getfield 19, 3, 7, 1, 0, 0, 210),
  (50, .lload_n 1, 1, 0, 0, 0, 0, 0), (51, .iload_n 3, 1, 0, 0, 0, 0, 0), (52, .invokevirtual 123, 3, 1, 7, 0, 2, 789), (55, .aload_n 0, 1, 0, 0, 0, 0, 0),
  (56, .getfield 19, 3, 7, 1, 0, 0, 210), (59, .getfield 97, 3, 0, 1, 0, 0, 64), (62, .ireturn, 1, 0, 0, 0, 0, 0)]
def am_c_sh_cut : List am_E := [
  (0, .iload_n 1, 1, 0, 0, 0, 0, 0), (1, .ifCond .lt 14, 3, 0, 0, 0, 0, 0), (4, .iload_n 1, 1, 0, 0, 0, 0, 0), (5, .aload_n 0, 1, 0, 0, 0, 0, 0),
  (6, .getfield 19, 3, 7, 1, 0, 0, 210), (9, .getfield 97, 3, 0, 1, 0, 0, 64), (12, .if_icmp .le 13, 3, 0, 0, 0, 0, 0), (15, .new 45, 3, 9, 0, 0, 0, 521),
  (18, .dup, 1, 0, 0, 0, 0, 0), (19, .ldc 127, 2, 1, 0, 0, 0, 797), (21, .invokespecial 49, 3, 8, 9, 0, 1, 564), (24, .athrow, 1, 0, 0, 0, 0, 0),
  (25, .aload_n 0, 1, 0, 0, 0, 0, 0), (26, .getfield 19, 3, 7, 1, 0, 0, 210), (29, .iload_n 1, 1, 0, 0, 0, 0, 0), (30, .putfield 97, 3, 0, 1, 0, 0, 64),
  (33, .return_, 1, 0, 0, 0, 0, 0)]
def am_c_sh_chunks : List am_E := [
  (0, .iconst 0, 1, 0, 0, 0, 0, 0), (1, .istore_n 1, 1, 0, 0, 0, 0, 0), (2, .aload_n 0, 1, 0, 0, 0, 0, 0), (3, .bipush 12, 2, 0, 0, 0, 0, 0),
  (5, .invokevirtual 129, 3, 1, 98, 0, 1, 501), (8, .istore_n 2, 1, 0, 0, 0, 0, 0), (9, .iload_n 2, 1, 0, 0, 0, 0, 0), (10, .iconst (-1), 1, 0, 0, 0, 0, 0),
  (11, .if_icmp .eq 21, 3, 0, 0, 0, 0, 0), (14, .iload_n 1, 1, 0, 0, 0, 0, 0), (15, .bipush 50, 2, 0, 0, 0, 0, 0), (17, .if_icmp .ge 15, 3, 0, 0, 0, 0, 0),
  (20, .iinc 1 1, 3, 0, 0, 0, 0, 0), (23, .aload_n 0, 1, 0, 0, 0, 0, 0), (24, .iload_n 2, 1, 0, 0, 0, 0, 0), (25, .invokevirtual 129, 3, 1, 98, 0, 1, 501),
  (28, .istore_n 2, 1, 0, 0, 0, 0, 0), (29, .goto (-20), 3, 0, 0, 0, 0, 0), (32, .iload_n 1, 1, 0, 0, 0, 0, 0), (33, .ireturn, 1, 0, 0, 0, 0, 0)]
def am_c_sh_chunk : List am_E := [
  (0, .iload_n 2, 1, 0, 0, 0, 0, 0), (1, .ifCond .eq 23, 3, 0, 0, 0, 0, 0), (4, .iload_n 2, 1, 0, 0, 0, 0, 0), (5, .iconst 1, 1, 0, 0, 0, 0, 0),
  (6, .if_icmp .eq 18, 3, 0, 0, 0, 0, 0), (9, .iload_n 2, 1, 0, 0, 0, 0, 0), (10, .iconst 2, 1, 0, 0, 0, 0, 0), (11, .if_icmp .eq 13, 3, 0, 0, 0, 0, 0),
  (14, .new 45, 3, 9, 0, 0, 0, 521), (17, .dup, 1, 0, 0, 0, 0, 0), (18, .ldc 133, 2, 1, 0, 0, 0, 806), (20, .invokespecial 49, 3, 8, 9, 0, 1, 564),
  (23, .athrow, 1, 0, 0, 0, 0, 0), (24, .aload_n 0, 1, 0, 0, 0, 0, 0), (25, .iload_n 1, 1, 0, 0, 0, 0, 0), (26, .invokevirtual 135, 3, 1, 97, 0, 1, 807),
  (29, .istore_n 3, 1, 0, 0, 0, 0, 0), (30, .iload_n 3, 1, 0, 0, 0, 0, 0), (31, .iconst (-1), 1, 0, 0, 0, 0, 0), (32, .if_icmp .ne 13, 3, 0, 0, 0, 0, 0),
  (35, .new 138, 3, 12, 0, 0, 0, 811), (38, .dup, 1, 0, 0, 0, 0, 0), (39, .ldc 140, 2, 1, 0, 0, 0, 820), (41, .invokespecial 142, 3, 8, 12, 0, 1, 821),
  (44, .athrow, 1, 0, 0, 0, 0, 0), (45, .iload_n 2, 1, 0, 0, 0, 0, 0), (46, .ifCond .ne 5, 3, 0, 0, 0, 0, 0), (49, .iload_n 3, 1, 0, 0, 0, 0, 0), (50, .ireturn, 1, 0, 0, 0, 0, 0),
  (51, .iload_n 2, 1, 0, 0, 0, 0, 0), (52, .iconst 1, 1, 0, 0, 0, 0, 0), (53, .if_icmp .ne 14, 3, 0, 0, 0, 0, 0), (56, .aload_n 0, 1, 0, 0, 0, 0, 0),
  (57, .getfield 19, 3, 7, 1, 0, 0, 210), (60, .iload_n 3, 1, 0, 0, 0, 0, 0), (61, .invokevirtual 143, 3, 1, 10, 0, 1, 827), (64, .goto 9, 3, 0, 0, 0, 0, 0),
  (67, .aload_n 0, 1, 0, 0, 0, 0, 0), (68, .iload_n 3, 1, 0, 0, 0, 0, 0), (69, .invokevirtual 146, 3, 1, 99, 0, 1, 506), (72, .l2i, 1, 0, 0, 0, 0, 0),
  (73, .ireturn, 1, 0, 0, 0, 0, 0)]
def am_c_sh_isWritable : List am_E := [
  (0, .iload_n 0, 1, 0, 0, 0, 0, 0), (1, .tableswitch 71 0 4 #[35, 35, 37, 37, 54], 35, 0, 0, 0, 0, 0), (36, .iconst 1, 1, 0, 0, 0, 0, 0), (37, .ireturn, 1, 0, 0, 0, 0, 0),
  (38, .iload_n 1, 1, 0, 0, 0, 0, 0), (39, .iconst 1, 1, 0, 0, 0, 0, 0), (40, .if_icmp .lt 13, 3, 0, 0, 0, 0, 0), (43, .iload_n 1, 1, 0, 0, 0, 0, 0),
  (44, .bipush 8, 2, 0, 0, 0, 0, 0), (46, .if_icmp .gt 7, 3, 0, 0, 0, 0, 0), (49, .iconst 1, 1, 0, 0, 0, 0, 0), (50, .goto 4, 3, 0, 0, 0, 0, 0), (53, .iconst 0, 1, 0, 0, 0, 0, 0),
  (54, .ireturn, 1, 0, 0, 0, 0, 0), (55, .iload_n 1, 1, 0, 0, 0, 0, 0), (56, .iconst 1, 1, 0, 0, 0, 0, 0), (57, .if_icmp .lt 13, 3, 0, 0, 0, 0, 0),
  (60, .iload_n 1, 1, 0, 0, 0, 0, 0), (61, .bipush 16, 2, 0, 0, 0, 0, 0), (63, .if_icmp .gt 7, 3, 0, 0, 0, 0, 0), (66, .iconst 1, 1, 0, 0, 0, 0, 0),
  (67, .goto 4, 3, 0, 0, 0, 0, 0), (70, .iconst 0, 1, 0, 0, 0, 0, 0), (71, .ireturn, 1, 0, 0, 0, 0, 0), (72, .iconst 0, 1, 0, 0, 0, 0, 0), (73, .ireturn, 1, 0, 0, 0, 0, 0)]
def am_c_sh_placeOfChunk : List am_E := [
  (0, .iload_n 1, 1, 0, 0, 0, 0, 0), (1, .ifCond .lt 9, 3, 0, 0, 0, 0, 0), (4, .iload_n 1, 1, 0, 0, 0, 0, 0), (5, .bipush 50, 2, 0, 0, 0, 0, 0),
  (7, .if_icmp .lt 5, 3, 0, 0, 0, 0, 0), (10, .iconst (-1), 1, 0, 0, 0, 0, 0), (11, .ireturn, 1, 0, 0, 0, 0, 0), (12, .bipush 12, 2, 0, 0, 0, 0, 0),
  (14, .istore_n 2, 1, 0, 0, 0, 0, 0), (15, .iconst 0, 1, 0, 0, 0, 0, 0), (16, .istore_n 3, 1, 0, 0, 0, 0, 0), (17, .iload_n 3, 1, 0, 0, 0, 0, 0),
  (18, .iload_n 1, 1, 0, 0, 0, 0, 0), (19, .if_icmp .ge 20, 3, 0, 0, 0, 0, 0), (22, .iload_n 2, 1, 0, 0, 0, 0, 0), (23, .iconst (-1), 1, 0, 0, 0, 0, 0),
  (24, .if_icmp .eq 15, 3, 0, 0, 0, 0, 0), (27, .aload_n 0, 1, 0, 0, 0, 0, 0), (28, .iload_n 2, 1, 0, 0, 0, 0, 0), (29, .invokevirtual 129, 3, 1, 98, 0, 1, 501),
  (32, .istore_n 2, 1, 0, 0, 0, 0, 0), (33, .iinc 3 1, 3, 0, 0, 0, 0, 0), (36, .goto (-19), 3, 0, 0, 0, 0, 0), (39, .iload_n 2, 1, 0, 0, 0, 0, 0),
  (40, .iconst (-1), 1, 0, 0, 0, 0, 0), (41, .if_icmp .eq 12, 3, 0, 0, 0, 0, 0), (44, .aload_n 0, 1, 0, 0, 0, 0, 0), (45, .iload_n 2, 1, 0, 0, 0, 0, 0),
  (46, .invokevirtual 129, 3, 1, 98, 0, 1, 501), (49, .iconst (-1), 1, 0, 0, 0, 0, 0), (50, .if_icmp .ne 7, 3, 0, 0, 0, 0, 0), (53, .iconst (-1), 1, 0, 0, 0, 0, 0),
  (54, .goto 4, 3, 0, 0, 0, 0, 0), (57, .iload_n 2, 1, 0, 0, 0, 0, 0), (58, .ireturn, 1, 0, 0, 0, 0, 0)]
def am_c_sh_endOfChunk : List am_E := [
  (0, .aload_n 0, 1, 0, 0, 0, 0, 0), (1, .getfield 19, 3, 7, 1, 0, 0, 210), (4, .iload_n 1, 1, 0, 0, 0, 0, 0), (5, .bipush 8, 2, 0, 0, 0, 0, 0),
  (7, .invokevirtual 150, 3, 1, 8, 0, 2, 505), (10, .ifCond .ne 5, 3, 0, 0, 0, 0, 0), (13, .iconst (-1), 1, 0, 0, 0, 0, 0), (14, .ireturn, 1, 0, 0, 0, 0, 0),
  (15, .aload_n 0, 1, 0, 0, 0, 0, 0), (16, .iload_n 1, 1, 0, 0, 0, 0, 0), (17, .invokevirtual 146, 3, 1, 99, 0, 1, 506), (20, .lstore_n 2, 1, 0, 0, 0, 0, 0),
  (21, .iload_n 1, 1, 0, 0, 0, 0, 0), (22, .bipush 8, 2, 0, 0, 0, 0, 0), (24, .iadd, 1, 0, 0, 0, 0, 0), (25, .i2l, 1, 0, 0, 0, 0, 0), (26, .lload_n 2, 1, 0, 0, 0, 0, 0),
  (27, .ladd, 1, 0, 0, 0, 0, 0), (28, .lload_n 2, 1, 0, 0, 0, 0, 0), (29, .ldc2_w 153, 3, 0, 0, 0, 2, 511), (32, .lrem, 1, 0, 0, 0, 0, 0), (33, .ladd, 1, 0, 0, 0, 0, 0),
  (34, .lstore 4, 2, 0, 0, 0, 0, 0), (36, .lload 4, 2, 0, 0, 0, 0, 0), (38, .aload_n 0, 1, 0, 0, 0, 0, 0), (39, .getfield 19, 3, 7, 1, 0, 0, 210),
  (42, .getfield 97, 3, 0, 1, 0, 0, 64), (45, .i2l, 1, 0, 0, 0, 0, 0), (46, .lcmp, 1, 0, 0, 0, 0, 0), (47, .ifCond .le 7, 3, 0, 0, 0, 0, 0), (50, .iconst (-1), 1, 0, 0, 0, 0, 0),
  (51, .goto 6, 3, 0, 0, 0, 0, 0), (54, .lload 4, 2, 0, 0, 0, 0, 0), (56, .l2i, 1, 0, 0, 0, 0, 0), (57, .ireturn, 1, 0, 0, 0, 0, 0)]
def am_c_sh_sizeOfChunk : List am_E := [
  (0, .aload_n 0, 1, 0, 0, 0, 0, 0), (1, .getfield 19, 3, 7, 1, 0, 0, 210), (4, .iconst 0, 1, 0, 0, 0, 0, 0), (5, .iconst 1, 1, 0, 0, 0, 0, 0),
  (6, .invokevirtual 150, 3, 1, 8, 0, 2, 505), (9, .ifCond .eq 21, 3, 0, 0, 0, 0, 0), (12, .aload_n 0, 1, 0, 0, 0, 0, 0), (13, .getfield 19, 3, 7, 1, 0, 0, 210),
  (16, .getfield 116, 3, 0, 0, 0, 0, 60), (19, .iconst 0, 1, 0, 0, 0, 0, 0), (20, .iaload, 1, 0, 0, 0, 0, 0), (21, .bipush 82, 2, 0, 0, 0, 0, 0),
  (23, .if_icmp .ne 7, 3, 0, 0, 0, 0, 0), (26, .iconst 1, 1, 0, 0, 0, 0, 0), (27, .goto 4, 3, 0, 0, 0, 0, 0), (30, .iconst 0, 1, 0, 0, 0, 0, 0),
  (31, .istore_n 2, 1, 0, 0, 0, 0, 0), (32, .aload_n 0, 1, 0, 0, 0, 0, 0), (33, .getfield 19, 3, 7, 1, 0, 0, 210), (36, .iload_n 1, 1, 0, 0, 0, 0, 0),
  (37, .iconst 4, 1, 0, 0, 0, 0, 0), (38, .iadd, 1, 0, 0, 0, 0, 0), (39, .iconst 4, 1, 0, 0, 0, 0, 0), (40, .iload_n 2, 1, 0, 0, 0, 0, 0), (41, .ifCond .ne 7, 3, 0, 0, 0, 0, 0),
  (44, .iconst 1, 1, 0, 0, 0, 0, 0), (45, .goto 4, 3, 0, 0, 0, 0, 0), (48, .iconst 0, 1, 0, 0, 0, 0, 0), (49, .invokevirtual 155, 3, 1, 9, 0, 3, 510),
  (52, .lreturn, 1, 0, 0, 0, 0, 0)]
def am_c_sh_limit : List am_E := [
  (0, .iload_n 0, 1, 0, 0, 0, 0, 0), (1, .iload_n 1, 1, 0, 0, 0, 0, 0), (2, .if_icmp .ge 5, 3, 0, 0, 0, 0, 0), (5, .iload_n 1, 1, 0, 0, 0, 0, 0), (6, .ireturn, 1, 0, 0, 0, 0, 0),
  (7, .iload_n 0, 1, 0, 0, 0, 0, 0), (8, .iload_n 2, 1, 0, 0, 0, 0, 0), (9, .if_icmp .le 7, 3, 0, 0, 0, 0, 0), (12, .iload_n 2, 1, 0, 0, 0, 0, 0), (13, .goto 4, 3, 0, 0, 0, 0, 0),
  (16, .iload_n 0, 1, 0, 0, 0, 0, 0), (17, .ireturn, 1, 0, 0, 0, 0, 0)]
def am_c_mo_init : List am_E := [
  (0, .aload_n 0, 1, 0, 0, 0, 0, 0), (1, .invokespecial 1, 3, 6, 0, 0, 0, 833), (4, .aload_n 0, 1, 0, 0, 0, 0, 0), (5, .bipush 64, 2, 0, 0, 0, 0, 0),
  (7, .newarray .int, 2, 0, 0, 0, 0, 0), (9, .putfield 7, 3, 8, 2, 0, 0, 836), (12, .aload_n 0, 1, 0, 0, 0, 0, 0), (13, .sipush 8000, 3, 0, 0, 0, 0, 0),
  (16, .putfield 13, 3, 8, 3, 0, 0, 837), (19, .aload_n 0, 1, 0, 0, 0, 0, 0), (20, .sipush 400, 3, 0, 0, 0, 0, 0), (23, .newarray .int, 2, 0, 0, 0, 0, 0),
  (25, .putfield 17, 3, 8, 5, 0, 0, 839), (28, .aload_n 0, 1, 0, 0, 0, 0, 0), (29, .iconst (-1), 1, 0, 0, 0, 0, 0), (30, .putfield 20, 3, 8, 6, 0, 0, 840),
  (33, .aload_n 0, 1, 0, 0, 0, 0, 0), (34, .bipush 64, 2, 0, 0, 0, 0, 0), (36, .newarray .int, 2, 0, 0, 0, 0, 0), (38, .putfield 23, 3, 8, 9, 0, 0, 843),
  (41, .aload_n 0, 1, 0, 0, 0, 0, 0), (42, .bipush 16, 2, 0, 0, 0, 0, 0), (44, .newarray .int, 2, 0, 0, 0, 0, 0), (46, .putfield 26, 3, 8, 21, 0, 0, 855),
  (49, .return_, 1, 0, 0, 0, 0, 0)]
def am_c_mo_thrown : List am_E := [
  (0, .aload_n 0, 1, 0, 0, 0, 0, 0), (1, .getfield 29, 3, 8, 0, 0, 0, 834), (4, .ireturn, 1, 0, 0, 0, 0, 0)]
def am_c_mo_within : List am_E := [
  (0, .lload_n 0, 1, 0, 0, 0, 0, 0), (1, .lload_n 2, 1, 0, 0, 0, 0, 0), (2, .lcmp, 1, 0, 0, 0, 0, 0), (3, .ifCond .lt 14, 3, 0, 0, 0, 0, 0), (6, .lload_n 0, 1, 0, 0, 0, 0, 0),
  (7, .lload 4, 2, 0, 0, 0, 0, 0), (9, .lcmp, 1, 0, 0, 0, 0, 0), (10, .ifCond .gt 7, 3, 0, 0, 0, 0, 0), (13, .iconst 1, 1, 0, 0, 0, 0, 0), (14, .goto 4, 3, 0, 0, 0, 0, 0),
  (17, .iconst 0, 1, 0, 0, 0, 0, 0), (18, .ireturn, 1, 0, 0, 0, 0, 0)]
def am_c_mo_clip : List am_E := [
  (0, .iload_n 0, 1, 0, 0, 0, 0, 0), (1, .sipush (-32768), 3, 0, 0, 0, 0, 0), (4, .if_icmp .ge 9, 3, 0, 0, 0, 0, 0), (7, .sipush (-32768), 3, 0, 0, 0, 0, 0),
  (10, .goto 17, 3, 0, 0, 0, 0, 0), (13, .iload_n 0, 1, 0, 0, 0, 0, 0), (14, .sipush 32767, 3, 0, 0, 0, 0, 0), (17, .if_icmp .le 9, 3, 0, 0, 0, 0, 0),
  (20, .sipush 32767, 3, 0, 0, 0, 0, 0), (23, .goto 4, 3, 0, 0, 0, 0, 0), (26, .iload_n 0, 1, 0, 0, 0, 0, 0), (27, .ireturn, 1, 0, 0, 0, 0, 0)]
def am_c_mo_add : List am_E := [
  (0, .aload_n 0, 1, 0, 0, 0, 0, 0), (1, .iload_n 1, 1, 0, 0, 0, 0, 0), (2, .i2l, 1, 0, 0, 0, 0, 0), (3, .ldc2_w 32, 3, 0, 0, 0, (-32768), 909),
  (6, .ldc2_w 34, 3, 0, 0, 0, 32767, 910), (9, .invokestatic 36, 3, 0, 103, 0, 3, 911), (12, .ifCond .ne 7, 3, 0, 0, 0, 0, 0), (15, .iconst 1, 1, 0, 0, 0, 0, 0),
  (16, .goto 17, 3, 0, 0, 0, 0, 0), (19, .aload_n 0, 1, 0, 0, 0, 0, 0), (20, .getfield 40, 3, 8, 1, 0, 0, 835), (23, .bipush 64, 2, 0, 0, 0, 0, 0),
  (25, .if_icmp .ne 7, 3, 0, 0, 0, 0, 0), (28, .iconst 2, 1, 0, 0, 0, 0, 0), (29, .goto 4, 3, 0, 0, 0, 0, 0), (32, .iconst 0, 1, 0, 0, 0, 0, 0),
  (33, .putfield 29, 3, 8, 0, 0, 0, 834), (36, .aload_n 0, 1, 0, 0, 0, 0, 0), (37, .getfield 29, 3, 8, 0, 0, 0, 834), (40, .ifCond .le 5, 3, 0, 0, 0, 0, 0),
  (43, .iconst 0, 1, 0, 0, 0, 0, 0), (44, .ireturn, 1, 0, 0, 0, 0, 0), (45, .aload_n 0, 1, 0, 0, 0, 0, 0), (46, .getfield 7, 3, 8, 2, 0, 0, 836),
  (49, .aload_n 0, 1, 0, 0, 0, 0, 0), (50, .getfield 40, 3, 8, 1, 0, 0, 835), (53, .iload_n 1, 1, 0, 0, 0, 0, 0), (54, .iastore, 1, 0, 0, 0, 0, 0),
  (55, .aload_n 0, 1, 0, 0, 0, 0, 0), (56, .dup, 1, 0, 0, 0, 0, 0), (57, .getfield 40, 3, 8, 1, 0, 0, 835), (60, .iconst 1, 1, 0, 0, 0, 0, 0), (61, .iadd, 1, 0, 0, 0, 0, 0),
  (62, .putfield 40, 3, 8, 1, 0, 0, 835), (65, .aload_n 0, 1, 0, 0, 0, 0, 0), (66, .getfield 40, 3, 8, 1, 0, 0, 835), (69, .ireturn, 1, 0, 0, 0, 0, 0)]
def am_c_mo_clear : List am_E := [
  (0, .aload_n 0, 1, 0, 0, 0, 0, 0), (1, .iconst 0, 1, 0, 0, 0, 0, 0), (2, .putfield 29, 3, 8, 0, 0, 0, 834), (5, .aload_n 0, 1, 0, 0, 0, 0, 0),
  (6, .getfield 40, 3, 8, 1, 0, 0, 835), (9, .istore_n 1, 1, 0, 0, 0, 0, 0), (10, .aload_n 0, 1, 0, 0, 0, 0, 0), (11, .iconst 0, 1, 0, 0, 0, 0, 0),
  (12, .putfield 40, 3, 8, 1, 0, 0, 835), (15, .iload_n 1, 1, 0, 0, 0, 0, 0), (16, .ireturn, 1, 0, 0, 0, 0, 0)]
def am_c_mo_samples : List am_E := [
  (0, .aload_n 0, 1, 0, 0, 0, 0, 0), (1, .iconst 0, 1, 0, 0, 0, 0, 0), (2, .putfield 29, 3, 8, 0, 0, 0, 834), (5, .aload_n 0, 1, 0, 0, 0, 0, 0),
  (6, .getfield 40, 3, 8, 1, 0, 0, 835), (9, .ireturn, 1, 0, 0, 0, 0, 0)]
def am_c_mo_at : List am_E := [
  (0, .aload_n 0, 1, 0, 0, 0, 0, 0), (1, .iload_n 1, 1, 0, 0, 0, 0, 0), (2, .i2l, 1, 0, 0, 0, 0, 0), (3, .lconst 0, 1, 0, 0, 0, 0, 0), (4, .aload_n 0, 1, 0, 0, 0, 0, 0),
  (5, .getfield 40, 3, 8, 1, 0, 0, 835), (8, .iconst 1, 1, 0, 0, 0, 0, 0), (9, .isub, 1, 0, 0, 0, 0, 0), (10, .i2l, 1, 0, 0, 0, 0, 0),
  (11, .invokestatic 36, 3, 0, 103, 0, 3, 911), (14, .ifCond .eq 7, 3, 0, 0, 0, 0, 0), (17, .iconst 0, 1, 0, 0, 0, 0, 0), (18, .goto 4, 3, 0, 0, 0, 0, 0),
  (21, .iconst 1, 1, 0, 0, 0, 0, 0), (22, .putfield 29, 3, 8, 0, 0, 0, 834), (25, .aload_n 0, 1, 0, 0, 0, 0, 0), (26, .getfield 29, 3, 8, 0, 0, 0, 834),
  (29, .ifCond .le 7, 3, 0, 0, 0, 0, 0), (32, .iconst 0, 1, 0, 0, 0, 0, 0), (33, .goto 9, 3, 0, 0, 0, 0, 0), (36, .aload_n 0, 1, 0, 0, 0, 0, 0),
  (37, .getfield 7, 3, 8, 2, 0, 0, 836), (40, .iload_n 1, 1, 0, 0, 0, 0, 0), (41, .iaload, 1, 0, 0, 0, 0, 0), (42, .ireturn, 1, 0, 0, 0, 0, 0)]
def am_c_mo_tune : List am_E := [
  (0, .aload_n 0, 1, 0, 0, 0, 0, 0), (1, .iload_n 1, 1, 0, 0, 0, 0, 0), (2, .i2l, 1, 0, 0, 0, 0, 0), (3, .lconst 1, 1, 0, 0, 0, 0, 0), (4, .ldc2_w 43, 3, 0, 0, 0, 192000, 930),
  (7, .invokestatic 36, 3, 0, 103, 0, 3, 911), (10, .ifCond .eq 7, 3, 0, 0, 0, 0, 0), (13, .iconst 0, 1, 0, 0, 0, 0, 0), (14, .goto 4, 3, 0, 0, 0, 0, 0),
  (17, .iconst 1, 1, 0, 0, 0, 0, 0), (18, .putfield 29, 3, 8, 0, 0, 0, 834), (21, .aload_n 0, 1, 0, 0, 0, 0, 0), (22, .getfield 29, 3, 8, 0, 0, 0, 834),
  (25, .ifCond .le 5, 3, 0, 0, 0, 0, 0), (28, .iconst 0, 1, 0, 0, 0, 0, 0), (29, .ireturn, 1, 0, 0, 0, 0, 0), (30, .aload_n 0, 1, 0, 0, 0, 0, 0),
  (31, .getfield 13, 3, 8, 3, 0, 0, 837), (34, .istore_n 2, 1, 0, 0, 0, 0, 0), (35, .aload_n 0, 1, 0, 0, 0, 0, 0), (36, .iload_n 1, 1, 0, 0, 0, 0, 0),
  (37, .putfield 13, 3, 8, 3, 0, 0, 837), (40, .iload_n 2, 1, 0, 0, 0, 0, 0), (41, .ireturn, 1, 0, 0, 0, 0, 0)]
def am_c_mo_rate : List am_E := [
  (0, .aload_n 0, 1, 0, 0, 0, 0, 0), (1, .iconst 0, 1, 0, 0, 0, 0, 0), (2, .putfield 29, 3, 8, 0, 0, 0, 834), (5, .aload_n 0, 1, 0, 0, 0, 0, 0),
  (6, .getfield 13, 3, 8, 3, 0, 0, 837), (9, .ireturn, 1, 0, 0, 0, 0, 0)]
def am_c_mo_step : List am_E := [
  (0, .iload_n 0, 1, 0, 0, 0, 0, 0),
  (1, .tableswitch 689 0 87 #[367, 370, 373, 376, 379, 382, 385, 388, 391, 394, 397, 400, 403, 406, 409, 412, 415, 418, 421, 424, 427, 430, 433, 436, 439, 442, 445, 448, 451, 454, 457, 461, 465, 469, 473, 477, 481, 485, 489, 493, 497, 501, 505, 509, 513, 517, 521, 525, 529, 533, 537, 541, 545, 549, 553, 557, 561, 565, 569, 573, 577, 581, 585, 589, 593, 597, 601, 605, 609, 613, 617, 621, 625, 629, 633, 637, 641, 645, 649, 653, 657, 661, 665, 669, 673, 677, 681, 685], 367, 0, 0, 0, 0, 0),
  (368, .bipush 7, 2, 0, 0, 0, 0, 0), (370, .ireturn, 1, 0, 0, 0, 0, 0), (371, .bipush 8, 2, 0, 0, 0, 0, 0), (373, .ireturn, 1, 0, 0, 0, 0, 0), (374, .bipush 9, 2, 0, 0, 0, 0, 0),
  (376, .ireturn, 1, 0, 0, 0, 0, 0), (377, .bipush 10, 2, 0, 0, 0, 0, 0), (379, .ireturn, 1, 0, 0, 0, 0, 0), (380, .bipush 11, 2, 0, 0, 0, 0, 0),
  (382, .ireturn, 1, 0, 0, 0, 0, 0), (383, .bipush 12, 2, 0, 0, 0, 0, 0), (385, .ireturn, 1, 0, 0, 0, 0, 0), (386, .bipush 13, 2, 0, 0, 0, 0, 0),
  (388, .ireturn, 1, 0, 0, 0, 0, 0), (389, .bipush 14, 2, 0, 0, 0, 0, 0), (391, .ireturn, 1, 0, 0, 0, 0, 0), (392, .bipush 16, 2, 0, 0, 0, 0, 0),
  (394, .ireturn, 1, 0, 0, 0, 0, 0), (395, .bipush 17, 2, 0, 0, 0, 0, 0), (397, .ireturn, 1, 0, 0, 0, 0, 0), (398, .bipush 19, 2, 0, 0, 0, 0, 0),
  (400, .ireturn, 1, 0, 0, 0, 0, 0), (401, .bipush 21, 2, 0, 0, 0, 0, 0), (403, .ireturn, 1, 0, 0, 0, 0, 0), (404, .bipush 23, 2, 0, 0, 0, 0, 0),
  (406, .ireturn, 1, 0, 0, 0, 0, 0), (407, .bipush 25, 2, 0, 0, 0, 0, 0), (409, .ireturn, 1, 0, 0, 0, 0, 0), (410, .bipush 28, 2, 0, 0, 0, 0, 0),
  (412, .ireturn, 1, 0, 0, 0, 0, 0), (413, .bipush 31, 2, 0, 0, 0, 0, 0), (415, .ireturn, 1, 0, 0, 0, 0, 0), (416, .bipush 34, 2, 0, 0, 0, 0, 0),
  (418, .ireturn, 1, 0, 0, 0, 0, 0), (419, .bipush 37, 2, 0, 0, 0, 0, 0), (421, .ireturn, 1, 0, 0, 0, 0, 0), (422, .bipush 41, 2, 0, 0, 0, 0, 0),
  (424, .ireturn, 1, 0, 0, 0, 0, 0), (425, .bipush 45, 2, 0, 0, 0, 0, 0), (427, .ireturn, 1, 0, 0, 0, 0, 0), (428, .bipush 50, 2, 0, 0, 0, 0, 0),
  (430, .ireturn, 1, 0, 0, 0, 0, 0), (431, .bipush 55, 2, 0, 0, 0, 0, 0), (433, .ireturn, 1, 0, 0, 0, 0, 0), (434, .bipush 60, 2, 0, 0, 0, 0, 0),
  (436, .ireturn, 1, 0, 0, 0, 0, 0), (437, .bipush 66, 2, 0, 0, 0, 0, 0), (439, .ireturn, 1, 0, 0, 0, 0, 0), (440, .bipush 73, 2, 0, 0, 0, 0, 0),
  (442, .ireturn, 1, 0, 0, 0, 0, 0), (443, .bipush 80, 2, 0, 0, 0, 0, 0), (445, .ireturn, 1, 0, 0, 0, 0, 0), (446, .bipush 88, 2, 0, 0, 0, 0, 0),
  (448, .ireturn, 1, 0, 0, 0, 0, 0), (449, .bipush 97, 2, 0, 0, 0, 0, 0), (451, .ireturn, 1, 0, 0, 0, 0, 0), (452, .bipush 107, 2, 0, 0, 0, 0, 0),
  (454, .ireturn, 1, 0, 0, 0, 0, 0), (455, .bipush 118, 2, 0, 0, 0, 0, 0), (457, .ireturn, 1, 0, 0, 0, 0, 0), (458, .sipush 130, 3, 0, 0, 0, 0, 0),
  (461, .ireturn, 1, 0, 0, 0, 0, 0), (462, .sipush 143, 3, 0, 0, 0, 0, 0), (465, .ireturn, 1, 0, 0, 0, 0, 0), (466, .sipush 157, 3, 0, 0, 0, 0, 0),
  (469, .ireturn, 1, 0, 0, 0, 0, 0), (470, .sipush 173, 3, 0, 0, 0, 0, 0), (473, .ireturn, 1, 0, 0, 0, 0, 0), (474, .sipush 190, 3, 0, 0, 0, 0, 0),
  (477, .ireturn, 1, 0, 0, 0, 0, 0), (478, .sipush 209, 3, 0, 0, 0, 0, 0), (481, .ireturn, 1, 0, 0, 0, 0, 0), (482, .sipush 230, 3, 0, 0, 0, 0, 0),
  (485, .ireturn, 1, 0, 0, 0, 0, 0), (486, .sipush 253, 3, 0, 0, 0, 0, 0), (489, .ireturn, 1, 0, 0, 0, 0, 0), (490, .sipush 279, 3, 0, 0, 0, 0, 0),
  (493, .ireturn, 1, 0, 0, 0, 0, 0), (494, .sipush 307, 3, 0, 0, 0, 0, 0), (497, .ireturn, 1, 0, 0, 0, 0, 0), (498, .sipush 337, 3, 0, 0, 0, 0, 0),
  (501, .ireturn, 1, 0, 0, 0, 0, 0), (502, .sipush 371, 3, 0, 0, 0, 0, 0), (505, .ireturn, 1, 0, 0, 0, 0, 0), (506, .sipush 408, 3, 0, 0, 0, 0, 0),
  (509, .ireturn, 1, 0, 0, 0, 0, 0), (510, .sipush 449, 3, 0, 0, 0, 0, 0), (513, .ireturn, 1, 0, 0, 0, 0, 0), (514, .sipush 494, 3, 0, 0, 0, 0, 0),
  (517, .ireturn, 1, 0, 0, 0, 0, 0), (518, .sipush 544, 3, 0, 0, 0, 0, 0), (521, .ireturn, 1, 0, 0, 0, 0, 0), (522, .sipush 598, 3, 0, 0, 0, 0, 0),
  (525, .ireturn, 1, 0, 0, 0, 0, 0), (526, .sipush 658, 3, 0, 0, 0, 0, 0), (529, .ireturn, 1, 0, 0, 0, 0, 0), (530, .sipush 724, 3, 0, 0, 0, 0, 0),
  (533, .ireturn, 1, 0, 0, 0, 0, 0), (534, .sipush 796, 3, 0, 0, 0, 0, 0), (537, .ireturn, 1, 0, 0, 0, 0, 0), (538, .sipush 876, 3, 0, 0, 0, 0, 0),
  (541, .ireturn, 1, 0, 0, 0, 0, 0), (542, .sipush 963, 3, 0, 0, 0, 0, 0), (545, .ireturn, 1, 0, 0, 0, 0, 0), (546, .sipush 1060, 3, 0, 0, 0, 0, 0),
  (549, .ireturn, 1, 0, 0, 0, 0, 0), (550, .sipush 1166, 3, 0, 0, 0, 0, 0), (553, .ireturn, 1, 0, 0, 0, 0, 0), (554, .sipush 1282, 3, 0, 0, 0, 0, 0),
  (557, .ireturn, 1, 0, 0, 0, 0, 0), (558, .sipush 1411, 3, 0, 0, 0, 0, 0), (561, .ireturn, 1, 0, 0, 0, 0, 0), (562, .sipush 1552, 3, 0, 0, 0, 0, 0),
  (565, .ireturn, 1, 0, 0, 0, 0, 0), (566, .sipush 1707, 3, 0, 0, 0, 0, 0), (569, .ireturn, 1, 0, 0, 0, 0, 0), (570, .sipush 1878, 3, 0, 0, 0, 0, 0),
  (573, .ireturn, 1, 0, 0, 0, 0, 0), (574, .sipush 2066, 3, 0, 0, 0, 0, 0), (577, .ireturn, 1, 0, 0, 0, 0, 0), (578, .sipush 2272, 3, 0, 0, 0, 0, 0),
  (581, .ireturn, 1, 0, 0, 0, 0, 0), (582, .sipush 2499, 3, 0, 0, 0, 0, 0), (585, .ireturn, 1, 0, 0, 0, 0, 0), (586, .sipush 2749, 3, 0, 0, 0, 0, 0),
  (589, .ireturn, 1, 0, 0, 0, 0, 0), (590, .sipush 3024, 3, 0, 0, 0, 0, 0), (593, .ireturn, 1, 0, 0, 0, 0, 0), (594, .sipush 3327, 3, 0, 0, 0, 0, 0),
  (597, .ireturn, 1, 0, 0, 0, 0, 0), (598, .sipush 3660, 3, 0, 0, 0, 0, 0), (601, .ireturn, 1, 0, 0, 0, 0, 0), (602, .sipush 4026, 3, 0, 0, 0, 0, 0),
  (605, .ireturn, 1, 0, 0, 0, 0, 0), (606, .sipush 4428, 3, 0, 0, 0, 0, 0), (609, .ireturn, 1, 0, 0, 0, 0, 0), (610, .sipush 4871, 3, 0, 0, 0, 0, 0),
  (613, .ireturn, 1, 0, 0, 0, 0, 0), (614, .sipush 5358, 3, 0, 0, 0, 0, 0), (617, .ireturn, 1, 0, 0, 0, 0, 0), (618, .sipush 5894, 3, 0, 0, 0, 0, 0),
  (621, .ireturn, 1, 0, 0, 0, 0, 0), (622, .sipush 6484, 3, 0, 0, 0, 0, 0), (625, .ireturn, 1, 0, 0, 0, 0, 0), (626, .sipush 7132, 3, 0, 0, 0, 0, 0),
  (629, .ireturn, 1, 0, 0, 0, 0, 0), (630, .sipush 7845, 3, 0, 0, 0, 0, 0), (633, .ireturn, 1, 0, 0, 0, 0, 0), (634, .sipush 8630, 3, 0, 0, 0, 0, 0),
  (637, .ireturn, 1, 0, 0, 0, 0, 0), (638, .sipush 9493, 3, 0, 0, 0, 0, 0), (641, .ireturn, 1, 0, 0, 0, 0, 0), (642, .sipush 10442, 3, 0, 0, 0, 0, 0),
  (645, .ireturn, 1, 0, 0, 0, 0, 0), (646, .sipush 11487, 3, 0, 0, 0, 0, 0), (649, .ireturn, 1, 0, 0, 0, 0, 0), (650, .sipush 12635, 3, 0, 0, 0, 0, 0),
  (653, .ireturn, 1, 0, 0, 0, 0, 0), (654, .sipush 13899, 3, 0, 0, 0, 0, 0), (657, .ireturn, 1, 0, 0, 0, 0, 0), (658, .sipush 15289, 3, 0, 0, 0, 0, 0),
  (661, .ireturn, 1, 0, 0, 0, 0, 0), (662, .sipush 16818, 3, 0, 0, 0, 0, 0), (665, .ireturn, 1, 0, 0, 0, 0, 0), (666, .sipush 18500, 3, 0, 0, 0, 0, 0),
  (669, .ireturn, 1, 0, 0, 0, 0, 0), (670, .sipush 20350, 3, 0, 0, 0, 0, 0), (673, .ireturn, 1, 0, 0, 0, 0, 0), (674, .sipush 22385, 3, 0, 0, 0, 0, 0),
  (677, .ireturn, 1, 0, 0, 0, 0, 0), (678, .sipush 24623, 3, 0, 0, 0, 0, 0), (681, .ireturn, 1, 0, 0, 0, 0, 0), (682, .sipush 27086, 3, 0, 0, 0, 0, 0),
  (685, .ireturn, 1, 0, 0, 0, 0, 0), (686, .sipush 29794, 3, 0, 0, 0, 0, 0), (689, .ireturn, 1, 0, 0, 0, 0, 0), (690, .sipush 32767, 3, 0, 0, 0, 0, 0),
  (693, .ireturn, 1, 0, 0, 0, 0, 0)]
def am_c_mo_first : List am_E := [
  (0, .iload_n 0, 1, 0, 0, 0, 0, 0), (1, .tableswitch 61 0 5 #[39, 43, 47, 49, 53, 57], 39, 0, 0, 0, 0, 0), (40, .sipush 256, 3, 0, 0, 0, 0, 0), (43, .ireturn, 1, 0, 0, 0, 0, 0),
  (44, .sipush 512, 3, 0, 0, 0, 0, 0), (47, .ireturn, 1, 0, 0, 0, 0, 0), (48, .iconst 0, 1, 0, 0, 0, 0, 0), (49, .ireturn, 1, 0, 0, 0, 0, 0), (50, .sipush 192, 3, 0, 0, 0, 0, 0),
  (53, .ireturn, 1, 0, 0, 0, 0, 0), (54, .sipush 240, 3, 0, 0, 0, 0, 0), (57, .ireturn, 1, 0, 0, 0, 0, 0), (58, .sipush 460, 3, 0, 0, 0, 0, 0), (61, .ireturn, 1, 0, 0, 0, 0, 0),
  (62, .sipush 392, 3, 0, 0, 0, 0, 0), (65, .ireturn, 1, 0, 0, 0, 0, 0)]
def am_c_mo_second : List am_E := [
  (0, .iload_n 0, 1, 0, 0, 0, 0, 0), (1, .tableswitch 54 1 6 #[39, 54, 43, 54, 46, 50], 39, 0, 0, 0, 0, 0), (40, .sipush (-256), 3, 0, 0, 0, 0, 0),
  (43, .ireturn, 1, 0, 0, 0, 0, 0), (44, .bipush 64, 2, 0, 0, 0, 0, 0), (46, .ireturn, 1, 0, 0, 0, 0, 0), (47, .sipush (-208), 3, 0, 0, 0, 0, 0), (50, .ireturn, 1, 0, 0, 0, 0, 0),
  (51, .sipush (-232), 3, 0, 0, 0, 0, 0), (54, .ireturn, 1, 0, 0, 0, 0, 0), (55, .iconst 0, 1, 0, 0, 0, 0, 0), (56, .ireturn, 1, 0, 0, 0, 0, 0)]
def am_c_mo_growth : List am_E := [
  (0, .iload_n 0, 1, 0, 0, 0, 0, 0), (1, .bipush 8, 2, 0, 0, 0, 0, 0), (3, .if_icmp .ge 7, 3, 0, 0, 0, 0, 0), (6, .iload_n 0, 1, 0, 0, 0, 0, 0), (7, .goto 7, 3, 0, 0, 0, 0, 0),
  (10, .bipush 16, 2, 0, 0, 0, 0, 0), (12, .iload_n 0, 1, 0, 0, 0, 0, 0), (13, .isub, 1, 0, 0, 0, 0, 0), (14, .istore_n 1, 1, 0, 0, 0, 0, 0), (15, .iload_n 1, 1, 0, 0, 0, 0, 0),
  (16, .iconst 4, 1, 0, 0, 0, 0, 0), (17, .if_icmp .ge 9, 3, 0, 0, 0, 0, 0), (20, .sipush 230, 3, 0, 0, 0, 0, 0), (23, .goto 52, 3, 0, 0, 0, 0, 0),
  (26, .iload_n 1, 1, 0, 0, 0, 0, 0), (27, .iconst 4, 1, 0, 0, 0, 0, 0), (28, .if_icmp .ne 9, 3, 0, 0, 0, 0, 0), (31, .sipush 307, 3, 0, 0, 0, 0, 0),
  (34, .goto 41, 3, 0, 0, 0, 0, 0), (37, .iload_n 1, 1, 0, 0, 0, 0, 0), (38, .iconst 5, 1, 0, 0, 0, 0, 0), (39, .if_icmp .ne 9, 3, 0, 0, 0, 0, 0),
  (42, .sipush 409, 3, 0, 0, 0, 0, 0), (45, .goto 30, 3, 0, 0, 0, 0, 0), (48, .iload_n 1, 1, 0, 0, 0, 0, 0), (49, .bipush 6, 2, 0, 0, 0, 0, 0),
  (51, .if_icmp .ne 9, 3, 0, 0, 0, 0, 0), (54, .sipush 512, 3, 0, 0, 0, 0, 0), (57, .goto 18, 3, 0, 0, 0, 0, 0), (60, .iload_n 1, 1, 0, 0, 0, 0, 0),
  (61, .bipush 7, 2, 0, 0, 0, 0, 0), (63, .if_icmp .ne 9, 3, 0, 0, 0, 0, 0), (66, .sipush 614, 3, 0, 0, 0, 0, 0), (69, .goto 6, 3, 0, 0, 0, 0, 0),
  (72, .sipush 768, 3, 0, 0, 0, 0, 0), (75, .ireturn, 1, 0, 0, 0, 0, 0)]
def am_c_mo_stepped : List am_E := [
  (0, .aload_n 0, 1, 0, 0, 0, 0, 0), (1, .getfield 45, 3, 8, 19, 0, 0, 853), (4, .invokestatic 48, 3, 0, 111, 0, 1, 1008), (7, .istore_n 2, 1, 0, 0, 0, 0, 0),
  (8, .iload_n 2, 1, 0, 0, 0, 0, 0), (9, .iconst 3, 1, 0, 0, 0, 0, 0), (10, .ishr, 1, 0, 0, 0, 0, 0), (11, .iload_n 1, 1, 0, 0, 0, 0, 0), (12, .iconst 1, 1, 0, 0, 0, 0, 0),
  (13, .iand, 1, 0, 0, 0, 0, 0), (14, .iload_n 2, 1, 0, 0, 0, 0, 0), (15, .iconst 2, 1, 0, 0, 0, 0, 0), (16, .ishr, 1, 0, 0, 0, 0, 0), (17, .imul, 1, 0, 0, 0, 0, 0),
  (18, .iadd, 1, 0, 0, 0, 0, 0), (19, .iload_n 1, 1, 0, 0, 0, 0, 0), (20, .iconst 1, 1, 0, 0, 0, 0, 0), (21, .ishr, 1, 0, 0, 0, 0, 0), (22, .iconst 1, 1, 0, 0, 0, 0, 0),
  (23, .iand, 1, 0, 0, 0, 0, 0), (24, .iload_n 2, 1, 0, 0, 0, 0, 0), (25, .iconst 1, 1, 0, 0, 0, 0, 0), (26, .ishr, 1, 0, 0, 0, 0, 0), (27, .imul, 1, 0, 0, 0, 0, 0),
  (28, .iadd, 1, 0, 0, 0, 0, 0), (29, .iload_n 1, 1, 0, 0, 0, 0, 0), (30, .iconst 2, 1, 0, 0, 0, 0, 0), (31, .ishr, 1, 0, 0, 0, 0, 0), (32, .iconst 1, 1, 0, 0, 0, 0, 0),
  (33, .iand, 1, 0, 0, 0, 0, 0), (34, .iload_n 2, 1, 0, 0, 0, 0, 0), (35, .imul, 1, 0, 0, 0, 0, 0), (36, .iadd, 1, 0, 0, 0, 0, 0), (37, .istore_n 3, 1, 0, 0, 0, 0, 0),
  (38, .iload_n 1, 1, 0, 0, 0, 0, 0), (39, .bipush 8, 2, 0, 0, 0, 0, 0), (41, .if_icmp .ge 12, 3, 0, 0, 0, 0, 0), (44, .aload_n 0, 1, 0, 0, 0, 0, 0),
  (45, .getfield 52, 3, 8, 17, 0, 0, 851), (48, .iload_n 3, 1, 0, 0, 0, 0, 0), (49, .iadd, 1, 0, 0, 0, 0, 0), (50, .goto 9, 3, 0, 0, 0, 0, 0), (53, .aload_n 0, 1, 0, 0, 0, 0, 0),
  (54, .getfield 52, 3, 8, 17, 0, 0, 851), (57, .iload_n 3, 1, 0, 0, 0, 0, 0), (58, .isub, 1, 0, 0, 0, 0, 0), (59, .invokestatic 55, 3, 0, 104, 0, 1, 1011),
  (62, .ireturn, 1, 0, 0, 0, 0, 0)]
def am_c_mo_goStepped : List am_E := [
  (0, .aload_n 0, 1, 0, 0, 0, 0, 0), (1, .aload_n 0, 1, 0, 0, 0, 0, 0), (2, .iload_n 1, 1, 0, 0, 0, 0, 0), (3, .invokevirtual 58, 3, 1, 115, 0, 1, 1004),
  (6, .putfield 52, 3, 8, 17, 0, 0, 851), (9, .iload_n 1, 1, 0, 0, 0, 0, 0), (10, .bipush 8, 2, 0, 0, 0, 0, 0), (12, .irem, 1, 0, 0, 0, 0, 0), (13, .istore_n 2, 1, 0, 0, 0, 0, 0),
  (14, .aload_n 0, 1, 0, 0, 0, 0, 0), (15, .iload_n 2, 1, 0, 0, 0, 0, 0), (16, .iconst 4, 1, 0, 0, 0, 0, 0), (17, .if_icmp .ge 12, 3, 0, 0, 0, 0, 0),
  (20, .aload_n 0, 1, 0, 0, 0, 0, 0), (21, .getfield 45, 3, 8, 19, 0, 0, 853), (24, .iconst 1, 1, 0, 0, 0, 0, 0), (25, .isub, 1, 0, 0, 0, 0, 0), (26, .goto 14, 3, 0, 0, 0, 0, 0),
  (29, .aload_n 0, 1, 0, 0, 0, 0, 0), (30, .getfield 45, 3, 8, 19, 0, 0, 853), (33, .iconst 2, 1, 0, 0, 0, 0, 0), (34, .iload_n 2, 1, 0, 0, 0, 0, 0),
  (35, .imul, 1, 0, 0, 0, 0, 0), (36, .iadd, 1, 0, 0, 0, 0, 0), (37, .bipush 6, 2, 0, 0, 0, 0, 0), (39, .isub, 1, 0, 0, 0, 0, 0), (40, .putfield 45, 3, 8, 19, 0, 0, 853),
  (43, .aload_n 0, 1, 0, 0, 0, 0, 0), (44, .aload_n 0, 1, 0, 0, 0, 0, 0), (45, .getfield 45, 3, 8, 19, 0, 0, 853), (48, .ifCond .ge 7, 3, 0, 0, 0, 0, 0),
  (51, .iconst 0, 1, 0, 0, 0, 0, 0), (52, .goto 21, 3, 0, 0, 0, 0, 0), (55, .aload_n 0, 1, 0, 0, 0, 0, 0), (56, .getfield 45, 3, 8, 19, 0, 0, 853),
  (59, .bipush 88, 2, 0, 0, 0, 0, 0), (61, .if_icmp .le 8, 3, 0, 0, 0, 0, 0), (64, .bipush 88, 2, 0, 0, 0, 0, 0), (66, .goto 7, 3, 0, 0, 0, 0, 0),
  (69, .aload_n 0, 1, 0, 0, 0, 0, 0), (70, .getfield 45, 3, 8, 19, 0, 0, 853), (73, .putfield 45, 3, 8, 19, 0, 0, 853), (76, .return_, 1, 0, 0, 0, 0, 0)]
def am_c_mo_predicted : List am_E := [
  (0, .iload_n 1, 1, 0, 0, 0, 0, 0), (1, .bipush 8, 2, 0, 0, 0, 0, 0), (3, .if_icmp .ge 7, 3, 0, 0, 0, 0, 0), (6, .iload_n 1, 1, 0, 0, 0, 0, 0), (7, .goto 7, 3, 0, 0, 0, 0, 0),
  (10, .iload_n 1, 1, 0, 0, 0, 0, 0), (11, .bipush 16, 2, 0, 0, 0, 0, 0), (13, .isub, 1, 0, 0, 0, 0, 0), (14, .istore_n 3, 1, 0, 0, 0, 0, 0), (15, .aload_n 0, 1, 0, 0, 0, 0, 0),
  (16, .getfield 52, 3, 8, 17, 0, 0, 851), (19, .iload_n 2, 1, 0, 0, 0, 0, 0), (20, .invokestatic 61, 3, 0, 112, 0, 1, 977), (23, .imul, 1, 0, 0, 0, 0, 0),
  (24, .aload_n 0, 1, 0, 0, 0, 0, 0), (25, .getfield 64, 3, 8, 18, 0, 0, 852), (28, .iload_n 2, 1, 0, 0, 0, 0, 0), (29, .invokestatic 67, 3, 0, 113, 0, 1, 980),
  (32, .imul, 1, 0, 0, 0, 0, 0), (33, .iadd, 1, 0, 0, 0, 0, 0), (34, .bipush 8, 2, 0, 0, 0, 0, 0), (36, .ishr, 1, 0, 0, 0, 0, 0), (37, .iload_n 3, 1, 0, 0, 0, 0, 0),
  (38, .aload_n 0, 1, 0, 0, 0, 0, 0), (39, .getfield 70, 3, 8, 20, 0, 0, 854), (42, .imul, 1, 0, 0, 0, 0, 0), (43, .iadd, 1, 0, 0, 0, 0, 0),
  (44, .invokestatic 55, 3, 0, 104, 0, 1, 1011), (47, .ireturn, 1, 0, 0, 0, 0, 0)]
def am_c_mo_goPredicted : List am_E := [
  (0, .aload_n 0, 1, 0, 0, 0, 0, 0), (1, .iload_n 1, 1, 0, 0, 0, 0, 0), (2, .iload_n 2, 1, 0, 0, 0, 0, 0), (3, .invokevirtual 73, 3, 1, 117, 0, 2, 1014),
  (6, .istore_n 3, 1, 0, 0, 0, 0, 0), (7, .aload_n 0, 1, 0, 0, 0, 0, 0), (8, .aload_n 0, 1, 0, 0, 0, 0, 0), (9, .getfield 52, 3, 8, 17, 0, 0, 851),
  (12, .putfield 64, 3, 8, 18, 0, 0, 852), (15, .aload_n 0, 1, 0, 0, 0, 0, 0), (16, .iload_n 3, 1, 0, 0, 0, 0, 0), (17, .putfield 52, 3, 8, 17, 0, 0, 851),
  (20, .aload_n 0, 1, 0, 0, 0, 0, 0), (21, .aload_n 0, 1, 0, 0, 0, 0, 0), (22, .getfield 70, 3, 8, 20, 0, 0, 854), (25, .iload_n 1, 1, 0, 0, 0, 0, 0),
  (26, .invokestatic 77, 3, 0, 114, 0, 1, 1026), (29, .imul, 1, 0, 0, 0, 0, 0), (30, .bipush 8, 2, 0, 0, 0, 0, 0), (32, .ishr, 1, 0, 0, 0, 0, 0),
  (33, .putfield 70, 3, 8, 20, 0, 0, 854), (36, .aload_n 0, 1, 0, 0, 0, 0, 0), (37, .aload_n 0, 1, 0, 0, 0, 0, 0), (38, .getfield 70, 3, 8, 20, 0, 0, 854),
  (41, .bipush 16, 2, 0, 0, 0, 0, 0), (43, .if_icmp .ge 8, 3, 0, 0, 0, 0, 0), (46, .bipush 16, 2, 0, 0, 0, 0, 0), (48, .goto 23, 3, 0, 0, 0, 0, 0),
  (51, .aload_n 0, 1, 0, 0, 0, 0, 0), (52, .getfield 70, 3, 8, 20, 0, 0, 854), (55, .sipush 32767, 3, 0, 0, 0, 0, 0), (58, .if_icmp .le 9, 3, 0, 0, 0, 0, 0),
  (61, .sipush 32767, 3, 0, 0, 0, 0, 0), (64, .goto 7, 3, 0, 0, 0, 0, 0), (67, .aload_n 0, 1, 0, 0, 0, 0, 0), (68, .getfield 70, 3, 8, 20, 0, 0, 854),
  (71, .putfield 70, 3, 8, 20, 0, 0, 854), (74, .return_, 1, 0, 0, 0, 0, 0)]
def am_c_mo_distance : List am_E := [
  (0, .iload_n 2, 1, 0, 0, 0, 0, 0), (1, .ifCond .ge 11, 3, 0, 0, 0, 0, 0), (4, .aload_n 0, 1, 0, 0, 0, 0, 0), (5, .iload_n 1, 1, 0, 0, 0, 0, 0),
  (6, .invokevirtual 58, 3, 1, 115, 0, 1, 1004), (9, .goto 9, 3, 0, 0, 0, 0, 0), (12, .aload_n 0, 1, 0, 0, 0, 0, 0), (13, .iload_n 1, 1, 0, 0, 0, 0, 0),
  (14, .iload_n 2, 1, 0, 0, 0, 0, 0), (15, .invokevirtual 73, 3, 1, 117, 0, 2, 1014), (18, .iload_n 3, 1, 0, 0, 0, 0, 0), (19, .isub, 1, 0, 0, 0, 0, 0),
  (20, .istore 4, 2, 0, 0, 0, 0, 0), (22, .iload 4, 2, 0, 0, 0, 0, 0), (24, .ifCond .ge 9, 3, 0, 0, 0, 0, 0), (27, .iload 4, 2, 0, 0, 0, 0, 0), (29, .ineg, 1, 0, 0, 0, 0, 0),
  (30, .goto 5, 3, 0, 0, 0, 0, 0), (33, .iload 4, 2, 0, 0, 0, 0, 0), (35, .ireturn, 1, 0, 0, 0, 0, 0)]
def am_c_mo_nearest : List am_E := [
  (0, .iconst 0, 1, 0, 0, 0, 0, 0), (1, .istore_n 3, 1, 0, 0, 0, 0, 0), (2, .iconst 1, 1, 0, 0, 0, 0, 0), (3, .istore 4, 2, 0, 0, 0, 0, 0), (5, .iload 4, 2, 0, 0, 0, 0, 0),
  (7, .bipush 16, 2, 0, 0, 0, 0, 0), (9, .if_icmp .ge 34, 3, 0, 0, 0, 0, 0), (12, .aload_n 0, 1, 0, 0, 0, 0, 0), (13, .iload 4, 2, 0, 0, 0, 0, 0),
  (15, .iload_n 1, 1, 0, 0, 0, 0, 0), (16, .iload_n 2, 1, 0, 0, 0, 0, 0), (17, .invokevirtual 80, 3, 1, 119, 0, 3, 1000), (20, .aload_n 0, 1, 0, 0, 0, 0, 0),
  (21, .iload_n 3, 1, 0, 0, 0, 0, 0), (22, .iload_n 1, 1, 0, 0, 0, 0, 0), (23, .iload_n 2, 1, 0, 0, 0, 0, 0), (24, .invokevirtual 80, 3, 1, 119, 0, 3, 1000),
  (27, .if_icmp .ge 8, 3, 0, 0, 0, 0, 0), (30, .iload 4, 2, 0, 0, 0, 0, 0), (32, .goto 4, 3, 0, 0, 0, 0, 0), (35, .iload_n 3, 1, 0, 0, 0, 0, 0),
  (36, .istore_n 3, 1, 0, 0, 0, 0, 0), (37, .iinc 4 1, 3, 0, 0, 0, 0, 0), (40, .goto (-35), 3, 0, 0, 0, 0, 0), (43, .iload_n 3, 1, 0, 0, 0, 0, 0), (44, .ireturn, 1, 0, 0, 0, 0, 0)]
def am_c_mo_follow : List am_E := [
  (0, .iconst 0, 1, 0, 0, 0, 0, 0), (1, .istore 4, 2, 0, 0, 0, 0, 0), (3, .iconst 0, 1, 0, 0, 0, 0, 0), (4, .istore 5, 2, 0, 0, 0, 0, 0), (6, .iload 5, 2, 0, 0, 0, 0, 0),
  (8, .iload_n 2, 1, 0, 0, 0, 0, 0), (9, .if_icmp .ge 91, 3, 0, 0, 0, 0, 0), (12, .aload_n 0, 1, 0, 0, 0, 0, 0), (13, .getfield 26, 3, 8, 21, 0, 0, 855),
  (16, .iload 5, 2, 0, 0, 0, 0, 0), (18, .iconst 0, 1, 0, 0, 0, 0, 0), (19, .iastore, 1, 0, 0, 0, 0, 0), (20, .iload_n 1, 1, 0, 0, 0, 0, 0), (21, .iload 5, 2, 0, 0, 0, 0, 0),
  (23, .iadd, 1, 0, 0, 0, 0, 0), (24, .aload_n 0, 1, 0, 0, 0, 0, 0), (25, .getfield 40, 3, 8, 1, 0, 0, 835), (28, .if_icmp .ge 66, 3, 0, 0, 0, 0, 0),
  (31, .aload_n 0, 1, 0, 0, 0, 0, 0), (32, .getfield 7, 3, 8, 2, 0, 0, 836), (35, .iload_n 1, 1, 0, 0, 0, 0, 0), (36, .iload 5, 2, 0, 0, 0, 0, 0), (38, .iadd, 1, 0, 0, 0, 0, 0),
  (39, .iaload, 1, 0, 0, 0, 0, 0), (40, .istore 6, 2, 0, 0, 0, 0, 0), (42, .aload_n 0, 1, 0, 0, 0, 0, 0), (43, .iload_n 3, 1, 0, 0, 0, 0, 0), (44, .iload 6, 2, 0, 0, 0, 0, 0),
  (46, .invokevirtual 84, 3, 1, 120, 0, 2, 996), (49, .istore 7, 2, 0, 0, 0, 0, 0), (51, .iload 4, 2, 0, 0, 0, 0, 0), (53, .aload_n 0, 1, 0, 0, 0, 0, 0),
  (54, .iload 7, 2, 0, 0, 0, 0, 0), (56, .iload_n 3, 1, 0, 0, 0, 0, 0), (57, .iload 6, 2, 0, 0, 0, 0, 0), (59, .invokevirtual 80, 3, 1, 119, 0, 3, 1000),
  (62, .iadd, 1, 0, 0, 0, 0, 0), (63, .istore 4, 2, 0, 0, 0, 0, 0), (65, .aload_n 0, 1, 0, 0, 0, 0, 0), (66, .getfield 26, 3, 8, 21, 0, 0, 855), (69, .iload 5, 2, 0, 0, 0, 0, 0),
  (71, .iload 7, 2, 0, 0, 0, 0, 0), (73, .iastore, 1, 0, 0, 0, 0, 0), (74, .iload_n 3, 1, 0, 0, 0, 0, 0), (75, .ifCond .ge 12, 3, 0, 0, 0, 0, 0),
  (78, .aload_n 0, 1, 0, 0, 0, 0, 0), (79, .iload 7, 2, 0, 0, 0, 0, 0), (81, .invokevirtual 87, 3, 1, 116, 0, 1, 1018), (84, .goto 10, 3, 0, 0, 0, 0, 0),
  (87, .aload_n 0, 1, 0, 0, 0, 0, 0), (88, .iload 7, 2, 0, 0, 0, 0, 0), (90, .iload_n 3, 1, 0, 0, 0, 0, 0), (91, .invokevirtual 91, 3, 1, 118, 0, 2, 1022),
  (94, .iinc 5 1, 3, 0, 0, 0, 0, 0), (97, .goto (-91), 3, 0, 0, 0, 0, 0), (100, .iload 4, 2, 0, 0, 0, 0, 0), (102, .ireturn, 1, 0, 0, 0, 0, 0)]
def am_c_mo_put : List am_E := [
  (0, .iconst 0, 1, 0, 0, 0, 0, 0), (1, .istore 5, 2, 0, 0, 0, 0, 0), (3, .iload 5, 2, 0, 0, 0, 0, 0), (5, .iload_n 3, 1, 0, 0, 0, 0, 0), (6, .if_icmp .ge 61, 3, 0, 0, 0, 0, 0),
  (9, .iload 4, 2, 0, 0, 0, 0, 0), (11, .ifCond .eq 15, 3, 0, 0, 0, 0, 0), (14, .bipush 8, 2, 0, 0, 0, 0, 0), (16, .iload_n 3, 1, 0, 0, 0, 0, 0),
  (17, .iconst 1, 1, 0, 0, 0, 0, 0), (18, .isub, 1, 0, 0, 0, 0, 0), (19, .iload 5, 2, 0, 0, 0, 0, 0), (21, .isub, 1, 0, 0, 0, 0, 0), (22, .imul, 1, 0, 0, 0, 0, 0),
  (23, .goto 8, 3, 0, 0, 0, 0, 0), (26, .bipush 8, 2, 0, 0, 0, 0, 0), (28, .iload 5, 2, 0, 0, 0, 0, 0), (30, .imul, 1, 0, 0, 0, 0, 0), (31, .istore 6, 2, 0, 0, 0, 0, 0),
  (33, .aload_n 0, 1, 0, 0, 0, 0, 0), (34, .getfield 17, 3, 8, 5, 0, 0, 839), (37, .aload_n 0, 1, 0, 0, 0, 0, 0), (38, .getfield 95, 3, 8, 4, 0, 0, 838),
  (41, .lload_n 1, 1, 0, 0, 0, 0, 0), (42, .iload 6, 2, 0, 0, 0, 0, 0), (44, .lshr, 1, 0, 0, 0, 0, 0), (45, .l2i, 1, 0, 0, 0, 0, 0), (46, .sipush 255, 3, 0, 0, 0, 0, 0),
  (49, .iand, 1, 0, 0, 0, 0, 0), (50, .iastore, 1, 0, 0, 0, 0, 0), (51, .aload_n 0, 1, 0, 0, 0, 0, 0), (52, .dup, 1, 0, 0, 0, 0, 0), (53, .getfield 95, 3, 8, 4, 0, 0, 838),
  (56, .iconst 1, 1, 0, 0, 0, 0, 0), (57, .iadd, 1, 0, 0, 0, 0, 0), (58, .putfield 95, 3, 8, 4, 0, 0, 838), (61, .iinc 5 1, 3, 0, 0, 0, 0, 0), (64, .goto (-61), 3, 0, 0, 0, 0, 0),
  (67, .return_, 1, 0, 0, 0, 0, 0)]
def am_c_mo_little : List am_E := [
  (0, .aload_n 0, 1, 0, 0, 0, 0, 0), (1, .lload_n 1, 1, 0, 0, 0, 0, 0), (2, .iload_n 3, 1, 0, 0, 0, 0, 0), (3, .iconst 0, 1, 0, 0, 0, 0, 0),
  (4, .invokevirtual 98, 3, 1, 122, 0, 3, 947), (7, .return_, 1, 0, 0, 0, 0, 0)]
def am_c_mo_writeFormat : List am_E := [
  (0, .iload_n 1, 1, 0, 0, 0, 0, 0), (1, .iconst 2, 1, 0, 0, 0, 0, 0), (2, .if_icmp .ge 8, 3, 0, 0, 0, 0, 0), (5, .bipush 16, 2, 0, 0, 0, 0, 0), (7, .goto 15, 3, 0, 0, 0, 0, 0),
  (10, .iload_n 1, 1, 0, 0, 0, 0, 0), (11, .iconst 2, 1, 0, 0, 0, 0, 0), (12, .if_icmp .ne 8, 3, 0, 0, 0, 0, 0), (15, .bipush 20, 2, 0, 0, 0, 0, 0),
  (17, .goto 5, 3, 0, 0, 0, 0, 0), (20, .bipush 50, 2, 0, 0, 0, 0, 0), (22, .istore_n 3, 1, 0, 0, 0, 0, 0), (23, .iload_n 1, 1, 0, 0, 0, 0, 0), (24, .iconst 2, 1, 0, 0, 0, 0, 0),
  (25, .if_icmp .ge 9, 3, 0, 0, 0, 0, 0), (28, .iload_n 1, 1, 0, 0, 0, 0, 0), (29, .iconst 1, 1, 0, 0, 0, 0, 0), (30, .iadd, 1, 0, 0, 0, 0, 0), (31, .goto 18, 3, 0, 0, 0, 0, 0),
  (34, .iload_n 1, 1, 0, 0, 0, 0, 0), (35, .iconst 2, 1, 0, 0, 0, 0, 0), (36, .if_icmp .ne 9, 3, 0, 0, 0, 0, 0), (39, .iload_n 2, 1, 0, 0, 0, 0, 0),
  (40, .iconst 4, 1, 0, 0, 0, 0, 0), (41, .iadd, 1, 0, 0, 0, 0, 0), (42, .goto 7, 3, 0, 0, 0, 0, 0), (45, .iload_n 2, 1, 0, 0, 0, 0, 0), (46, .bipush 7, 2, 0, 0, 0, 0, 0),
  (48, .iadd, 1, 0, 0, 0, 0, 0), (49, .istore 4, 2, 0, 0, 0, 0, 0), (51, .iload_n 1, 1, 0, 0, 0, 0, 0), (52, .iconst 2, 1, 0, 0, 0, 0, 0), (53, .if_icmp .ne 11, 3, 0, 0, 0, 0, 0),
  (56, .iconst 2, 1, 0, 0, 0, 0, 0), (57, .iload_n 2, 1, 0, 0, 0, 0, 0), (58, .imul, 1, 0, 0, 0, 0, 0), (59, .iconst 1, 1, 0, 0, 0, 0, 0), (60, .iadd, 1, 0, 0, 0, 0, 0),
  (61, .goto 17, 3, 0, 0, 0, 0, 0), (64, .iload_n 1, 1, 0, 0, 0, 0, 0), (65, .iconst 3, 1, 0, 0, 0, 0, 0), (66, .if_icmp .ne 11, 3, 0, 0, 0, 0, 0),
  (69, .iconst 2, 1, 0, 0, 0, 0, 0), (70, .iload_n 2, 1, 0, 0, 0, 0, 0), (71, .imul, 1, 0, 0, 0, 0, 0), (72, .iconst 2, 1, 0, 0, 0, 0, 0), (73, .iadd, 1, 0, 0, 0, 0, 0),
  (74, .goto 4, 3, 0, 0, 0, 0, 0), (77, .iconst 1, 1, 0, 0, 0, 0, 0), (78, .istore 5, 2, 0, 0, 0, 0, 0), (80, .aload_n 0, 1, 0, 0, 0, 0, 0),
  (81, .ldc2_w 102, 3, 0, 0, 0, 1718449184, 972), (84, .iconst 4, 1, 0, 0, 0, 0, 0), (85, .iconst 1, 1, 0, 0, 0, 0, 0), (86, .invokevirtual 98, 3, 1, 122, 0, 3, 947),
  (89, .aload_n 0, 1, 0, 0, 0, 0, 0), (90, .iload_n 3, 1, 0, 0, 0, 0, 0), (91, .i2l, 1, 0, 0, 0, 0, 0), (92, .iconst 4, 1, 0, 0, 0, 0, 0),
  (93, .invokevirtual 104, 3, 1, 123, 0, 2, 963), (96, .aload_n 0, 1, 0, 0, 0, 0, 0), (97, .iload_n 1, 1, 0, 0, 0, 0, 0), (98, .iconst 2, 1, 0, 0, 0, 0, 0),
  (99, .if_icmp .ge 7, 3, 0, 0, 0, 0, 0), (102, .lconst 1, 1, 0, 0, 0, 0, 0), (103, .goto 17, 3, 0, 0, 0, 0, 0), (106, .iload_n 1, 1, 0, 0, 0, 0, 0),
  (107, .iconst 2, 1, 0, 0, 0, 0, 0), (108, .if_icmp .ne 9, 3, 0, 0, 0, 0, 0), (111, .ldc2_w 108, 3, 0, 0, 0, 17, 973), (114, .goto 6, 3, 0, 0, 0, 0, 0),
  (117, .ldc2_w 110, 3, 0, 0, 0, 2, 974), (120, .iconst 2, 1, 0, 0, 0, 0, 0), (121, .invokevirtual 104, 3, 1, 123, 0, 2, 963), (124, .aload_n 0, 1, 0, 0, 0, 0, 0),
  (125, .lconst 1, 1, 0, 0, 0, 0, 0), (126, .iconst 2, 1, 0, 0, 0, 0, 0), (127, .invokevirtual 104, 3, 1, 123, 0, 2, 963), (130, .aload_n 0, 1, 0, 0, 0, 0, 0),
  (131, .aload_n 0, 1, 0, 0, 0, 0, 0), (132, .getfield 13, 3, 8, 3, 0, 0, 837), (135, .i2l, 1, 0, 0, 0, 0, 0), (136, .iconst 4, 1, 0, 0, 0, 0, 0),
  (137, .invokevirtual 104, 3, 1, 123, 0, 2, 963), (140, .aload_n 0, 1, 0, 0, 0, 0, 0), (141, .aload_n 0, 1, 0, 0, 0, 0, 0), (142, .getfield 13, 3, 8, 3, 0, 0, 837),
  (145, .iload 4, 2, 0, 0, 0, 0, 0), (147, .imul, 1, 0, 0, 0, 0, 0), (148, .iload 5, 2, 0, 0, 0, 0, 0), (150, .idiv, 1, 0, 0, 0, 0, 0), (151, .i2l, 1, 0, 0, 0, 0, 0),
  (152, .iconst 4, 1, 0, 0, 0, 0, 0), (153, .invokevirtual 104, 3, 1, 123, 0, 2, 963), (156, .aload_n 0, 1, 0, 0, 0, 0, 0), (157, .iload 4, 2, 0, 0, 0, 0, 0),
  (159, .i2l, 1, 0, 0, 0, 0, 0), (160, .iconst 2, 1, 0, 0, 0, 0, 0), (161, .invokevirtual 104, 3, 1, 123, 0, 2, 963), (164, .aload_n 0, 1, 0, 0, 0, 0, 0),
  (165, .iload_n 1, 1, 0, 0, 0, 0, 0), (166, .iconst 2, 1, 0, 0, 0, 0, 0), (167, .if_icmp .ge 12, 3, 0, 0, 0, 0, 0), (170, .bipush 8, 2, 0, 0, 0, 0, 0),
  (172, .iload 4, 2, 0, 0, 0, 0, 0), (174, .imul, 1, 0, 0, 0, 0, 0), (175, .i2l, 1, 0, 0, 0, 0, 0), (176, .goto 6, 3, 0, 0, 0, 0, 0), (179, .ldc2_w 112, 3, 0, 0, 0, 4, 939),
  (182, .iconst 2, 1, 0, 0, 0, 0, 0), (183, .invokevirtual 104, 3, 1, 123, 0, 2, 963), (186, .iload_n 1, 1, 0, 0, 0, 0, 0), (187, .iconst 1, 1, 0, 0, 0, 0, 0),
  (188, .if_icmp .le 30, 3, 0, 0, 0, 0, 0), (191, .aload_n 0, 1, 0, 0, 0, 0, 0), (192, .iload_n 1, 1, 0, 0, 0, 0, 0), (193, .iconst 2, 1, 0, 0, 0, 0, 0),
  (194, .if_icmp .ne 9, 3, 0, 0, 0, 0, 0), (197, .ldc2_w 110, 3, 0, 0, 0, 2, 974), (200, .goto 6, 3, 0, 0, 0, 0, 0), (203, .ldc2_w 114, 3, 0, 0, 0, 32, 975),
  (206, .iconst 2, 1, 0, 0, 0, 0, 0), (207, .invokevirtual 104, 3, 1, 123, 0, 2, 963), (210, .aload_n 0, 1, 0, 0, 0, 0, 0), (211, .iload 5, 2, 0, 0, 0, 0, 0),
  (213, .i2l, 1, 0, 0, 0, 0, 0), (214, .iconst 2, 1, 0, 0, 0, 0, 0), (215, .invokevirtual 104, 3, 1, 123, 0, 2, 963), (218, .iload_n 1, 1, 0, 0, 0, 0, 0),
  (219, .iconst 3, 1, 0, 0, 0, 0, 0), (220, .if_icmp .ne 49, 3, 0, 0, 0, 0, 0), (223, .aload_n 0, 1, 0, 0, 0, 0, 0), (224, .ldc2_w 116, 3, 0, 0, 0, 7, 976),
  (227, .iconst 2, 1, 0, 0, 0, 0, 0), (228, .invokevirtual 104, 3, 1, 123, 0, 2, 963), (231, .iconst 0, 1, 0, 0, 0, 0, 0), (232, .istore 6, 2, 0, 0, 0, 0, 0),
  (234, .iload 6, 2, 0, 0, 0, 0, 0), (236, .bipush 7, 2, 0, 0, 0, 0, 0), (238, .if_icmp .ge 31, 3, 0, 0, 0, 0, 0), (241, .aload_n 0, 1, 0, 0, 0, 0, 0),
  (242, .iload 6, 2, 0, 0, 0, 0, 0), (244, .invokestatic 61, 3, 0, 112, 0, 1, 977), (247, .i2l, 1, 0, 0, 0, 0, 0), (248, .iconst 2, 1, 0, 0, 0, 0, 0),
  (249, .invokevirtual 104, 3, 1, 123, 0, 2, 963), (252, .aload_n 0, 1, 0, 0, 0, 0, 0), (253, .iload 6, 2, 0, 0, 0, 0, 0), (255, .invokestatic 67, 3, 0, 113, 0, 1, 980),
  (258, .i2l, 1, 0, 0, 0, 0, 0), (259, .iconst 2, 1, 0, 0, 0, 0, 0), (260, .invokevirtual 104, 3, 1, 123, 0, 2, 963), (263, .iinc 6 1, 3, 0, 0, 0, 0, 0),
  (266, .goto (-32), 3, 0, 0, 0, 0, 0), (269, .iload_n 1, 1, 0, 0, 0, 0, 0), (270, .iconst 1, 1, 0, 0, 0, 0, 0), (271, .if_icmp .le 30, 3, 0, 0, 0, 0, 0),
  (274, .aload_n 0, 1, 0, 0, 0, 0, 0), (275, .ldc2_w 118, 3, 0, 0, 0, 1717658484, 983), (278, .iconst 4, 1, 0, 0, 0, 0, 0), (279, .iconst 1, 1, 0, 0, 0, 0, 0),
  (280, .invokevirtual 98, 3, 1, 122, 0, 3, 947), (283, .aload_n 0, 1, 0, 0, 0, 0, 0), (284, .ldc2_w 112, 3, 0, 0, 0, 4, 939), (287, .iconst 4, 1, 0, 0, 0, 0, 0),
  (288, .invokevirtual 104, 3, 1, 123, 0, 2, 963), (291, .aload_n 0, 1, 0, 0, 0, 0, 0), (292, .aload_n 0, 1, 0, 0, 0, 0, 0), (293, .getfield 40, 3, 8, 1, 0, 0, 835),
  (296, .i2l, 1, 0, 0, 0, 0, 0), (297, .iconst 4, 1, 0, 0, 0, 0, 0), (298, .invokevirtual 104, 3, 1, 123, 0, 2, 963), (301, .return_, 1, 0, 0, 0, 0, 0)]
def am_c_mo_putNibbles : List am_E := [
  (0, .iconst 0, 1, 0, 0, 0, 0, 0), (1, .istore_n 3, 1, 0, 0, 0, 0, 0), (2, .iload_n 3, 1, 0, 0, 0, 0, 0), (3, .iload_n 1, 1, 0, 0, 0, 0, 0),
  (4, .if_icmp .ge 61, 3, 0, 0, 0, 0, 0), (7, .aload_n 0, 1, 0, 0, 0, 0, 0), (8, .getfield 26, 3, 8, 21, 0, 0, 855), (11, .iconst 2, 1, 0, 0, 0, 0, 0),
  (12, .iload_n 3, 1, 0, 0, 0, 0, 0), (13, .imul, 1, 0, 0, 0, 0, 0), (14, .iaload, 1, 0, 0, 0, 0, 0), (15, .istore 4, 2, 0, 0, 0, 0, 0), (17, .aload_n 0, 1, 0, 0, 0, 0, 0),
  (18, .getfield 26, 3, 8, 21, 0, 0, 855), (21, .iconst 2, 1, 0, 0, 0, 0, 0), (22, .iload_n 3, 1, 0, 0, 0, 0, 0), (23, .imul, 1, 0, 0, 0, 0, 0), (24, .iconst 1, 1, 0, 0, 0, 0, 0),
  (25, .iadd, 1, 0, 0, 0, 0, 0), (26, .iaload, 1, 0, 0, 0, 0, 0), (27, .istore 5, 2, 0, 0, 0, 0, 0), (29, .aload_n 0, 1, 0, 0, 0, 0, 0), (30, .iload_n 2, 1, 0, 0, 0, 0, 0),
  (31, .ifCond .eq 15, 3, 0, 0, 0, 0, 0), (34, .iload 4, 2, 0, 0, 0, 0, 0), (36, .bipush 16, 2, 0, 0, 0, 0, 0), (38, .iload 5, 2, 0, 0, 0, 0, 0), (40, .imul, 1, 0, 0, 0, 0, 0),
  (41, .iadd, 1, 0, 0, 0, 0, 0), (42, .i2l, 1, 0, 0, 0, 0, 0), (43, .goto 12, 3, 0, 0, 0, 0, 0), (46, .bipush 16, 2, 0, 0, 0, 0, 0), (48, .iload 4, 2, 0, 0, 0, 0, 0),
  (50, .imul, 1, 0, 0, 0, 0, 0), (51, .iload 5, 2, 0, 0, 0, 0, 0), (53, .iadd, 1, 0, 0, 0, 0, 0), (54, .i2l, 1, 0, 0, 0, 0, 0), (55, .iconst 1, 1, 0, 0, 0, 0, 0),
  (56, .invokevirtual 104, 3, 1, 123, 0, 2, 963), (59, .iinc 3 1, 3, 0, 0, 0, 0, 0), (62, .goto (-60), 3, 0, 0, 0, 0, 0), (65, .return_, 1, 0, 0, 0, 0, 0)]
def am_c_mo_writeStepped : List am_E := [
  (0, .aload_n 0, 1, 0, 0, 0, 0, 0), (1, .iconst 0, 1, 0, 0, 0, 0, 0), (2, .putfield 45, 3, 8, 19, 0, 0, 853), (5, .iconst 0, 1, 0, 0, 0, 0, 0),
  (6, .istore_n 2, 1, 0, 0, 0, 0, 0), (7, .iload_n 2, 1, 0, 0, 0, 0, 0), (8, .aload_n 0, 1, 0, 0, 0, 0, 0), (9, .getfield 40, 3, 8, 1, 0, 0, 835),
  (12, .if_icmp .ge 76, 3, 0, 0, 0, 0, 0), (15, .aload_n 0, 1, 0, 0, 0, 0, 0), (16, .aload_n 0, 1, 0, 0, 0, 0, 0), (17, .getfield 7, 3, 8, 2, 0, 0, 836),
  (20, .iload_n 2, 1, 0, 0, 0, 0, 0), (21, .iaload, 1, 0, 0, 0, 0, 0), (22, .putfield 52, 3, 8, 17, 0, 0, 851), (25, .aload_n 0, 1, 0, 0, 0, 0, 0),
  (26, .aload_n 0, 1, 0, 0, 0, 0, 0), (27, .getfield 52, 3, 8, 17, 0, 0, 851), (30, .i2l, 1, 0, 0, 0, 0, 0), (31, .iconst 2, 1, 0, 0, 0, 0, 0),
  (32, .invokevirtual 104, 3, 1, 123, 0, 2, 963), (35, .aload_n 0, 1, 0, 0, 0, 0, 0), (36, .aload_n 0, 1, 0, 0, 0, 0, 0), (37, .getfield 45, 3, 8, 19, 0, 0, 853),
  (40, .i2l, 1, 0, 0, 0, 0, 0), (41, .iconst 1, 1, 0, 0, 0, 0, 0), (42, .invokevirtual 104, 3, 1, 123, 0, 2, 963), (45, .aload_n 0, 1, 0, 0, 0, 0, 0),
  (46, .lconst 0, 1, 0, 0, 0, 0, 0), (47, .iconst 1, 1, 0, 0, 0, 0, 0), (48, .invokevirtual 104, 3, 1, 123, 0, 2, 963), (51, .aload_n 0, 1, 0, 0, 0, 0, 0),
  (52, .iload_n 2, 1, 0, 0, 0, 0, 0), (53, .iconst 1, 1, 0, 0, 0, 0, 0), (54, .iadd, 1, 0, 0, 0, 0, 0), (55, .iconst 2, 1, 0, 0, 0, 0, 0), (56, .iload_n 1, 1, 0, 0, 0, 0, 0),
  (57, .imul, 1, 0, 0, 0, 0, 0), (58, .iconst (-1), 1, 0, 0, 0, 0, 0), (59, .invokevirtual 120, 3, 1, 121, 0, 3, 992), (62, .istore_n 3, 1, 0, 0, 0, 0, 0),
  (63, .aload_n 0, 1, 0, 0, 0, 0, 0), (64, .iload_n 1, 1, 0, 0, 0, 0, 0), (65, .iload_n 3, 1, 0, 0, 0, 0, 0), (66, .ifCond .lt 7, 3, 0, 0, 0, 0, 0),
  (69, .iconst 1, 1, 0, 0, 0, 0, 0), (70, .goto 4, 3, 0, 0, 0, 0, 0), (73, .iconst 0, 1, 0, 0, 0, 0, 0), (74, .invokevirtual 123, 3, 1, 125, 0, 2, 1029),
  (77, .iload_n 2, 1, 0, 0, 0, 0, 0), (78, .iconst 2, 1, 0, 0, 0, 0, 0), (79, .iload_n 1, 1, 0, 0, 0, 0, 0), (80, .imul, 1, 0, 0, 0, 0, 0), (81, .iconst 1, 1, 0, 0, 0, 0, 0),
  (82, .iadd, 1, 0, 0, 0, 0, 0), (83, .iadd, 1, 0, 0, 0, 0, 0), (84, .istore_n 2, 1, 0, 0, 0, 0, 0), (85, .goto (-78), 3, 0, 0, 0, 0, 0), (88, .return_, 1, 0, 0, 0, 0, 0)]
def am_c_mo_startPredicted : List am_E := [
  (0, .aload_n 0, 1, 0, 0, 0, 0, 0), (1, .aload_n 0, 1, 0, 0, 0, 0, 0), (2, .getfield 7, 3, 8, 2, 0, 0, 836), (5, .iload_n 1, 1, 0, 0, 0, 0, 0), (6, .iaload, 1, 0, 0, 0, 0, 0),
  (7, .putfield 64, 3, 8, 18, 0, 0, 852), (10, .aload_n 0, 1, 0, 0, 0, 0, 0), (11, .iload_n 1, 1, 0, 0, 0, 0, 0), (12, .iconst 1, 1, 0, 0, 0, 0, 0), (13, .iadd, 1, 0, 0, 0, 0, 0),
  (14, .aload_n 0, 1, 0, 0, 0, 0, 0), (15, .getfield 40, 3, 8, 1, 0, 0, 835), (18, .if_icmp .ge 14, 3, 0, 0, 0, 0, 0), (21, .aload_n 0, 1, 0, 0, 0, 0, 0),
  (22, .getfield 7, 3, 8, 2, 0, 0, 836), (25, .iload_n 1, 1, 0, 0, 0, 0, 0), (26, .iconst 1, 1, 0, 0, 0, 0, 0), (27, .iadd, 1, 0, 0, 0, 0, 0), (28, .iaload, 1, 0, 0, 0, 0, 0),
  (29, .goto 7, 3, 0, 0, 0, 0, 0), (32, .aload_n 0, 1, 0, 0, 0, 0, 0), (33, .getfield 64, 3, 8, 18, 0, 0, 852), (36, .putfield 52, 3, 8, 17, 0, 0, 851),
  (39, .aload_n 0, 1, 0, 0, 0, 0, 0), (40, .iload_n 2, 1, 0, 0, 0, 0, 0), (41, .putfield 70, 3, 8, 20, 0, 0, 854), (44, .return_, 1, 0, 0, 0, 0, 0)]
def am_c_mo_writePredicted : List am_E := [
  (0, .bipush 16, 2, 0, 0, 0, 0, 0), (2, .istore_n 2, 1, 0, 0, 0, 0, 0), (3, .iconst 0, 1, 0, 0, 0, 0, 0), (4, .istore_n 3, 1, 0, 0, 0, 0, 0), (5, .iload_n 3, 1, 0, 0, 0, 0, 0),
  (6, .aload_n 0, 1, 0, 0, 0, 0, 0), (7, .getfield 40, 3, 8, 1, 0, 0, 835), (10, .if_icmp .ge 176, 3, 0, 0, 0, 0, 0), (13, .iconst 0, 1, 0, 0, 0, 0, 0),
  (14, .istore 4, 2, 0, 0, 0, 0, 0), (16, .iconst 0, 1, 0, 0, 0, 0, 0), (17, .istore 5, 2, 0, 0, 0, 0, 0), (19, .iconst 0, 1, 0, 0, 0, 0, 0), (20, .istore 6, 2, 0, 0, 0, 0, 0),
  (22, .iload 6, 2, 0, 0, 0, 0, 0), (24, .bipush 7, 2, 0, 0, 0, 0, 0), (26, .if_icmp .ge 71, 3, 0, 0, 0, 0, 0), (29, .aload_n 0, 1, 0, 0, 0, 0, 0),
  (30, .iload_n 3, 1, 0, 0, 0, 0, 0), (31, .iload_n 2, 1, 0, 0, 0, 0, 0), (32, .invokevirtual 127, 3, 1, 127, 0, 2, 1037), (35, .aload_n 0, 1, 0, 0, 0, 0, 0),
  (36, .iload_n 3, 1, 0, 0, 0, 0, 0), (37, .iconst 2, 1, 0, 0, 0, 0, 0), (38, .iadd, 1, 0, 0, 0, 0, 0), (39, .iconst 2, 1, 0, 0, 0, 0, 0), (40, .iload_n 1, 1, 0, 0, 0, 0, 0),
  (41, .imul, 1, 0, 0, 0, 0, 0), (42, .iload 6, 2, 0, 0, 0, 0, 0), (44, .invokevirtual 120, 3, 1, 121, 0, 3, 992), (47, .istore 7, 2, 0, 0, 0, 0, 0),
  (49, .iload 6, 2, 0, 0, 0, 0, 0), (51, .ifCond .eq 10, 3, 0, 0, 0, 0, 0), (54, .iload 7, 2, 0, 0, 0, 0, 0), (56, .iload 5, 2, 0, 0, 0, 0, 0),
  (58, .if_icmp .ge 8, 3, 0, 0, 0, 0, 0), (61, .iload 6, 2, 0, 0, 0, 0, 0), (63, .goto 5, 3, 0, 0, 0, 0, 0), (66, .iload 4, 2, 0, 0, 0, 0, 0), (68, .istore 4, 2, 0, 0, 0, 0, 0),
  (70, .iload 6, 2, 0, 0, 0, 0, 0), (72, .ifCond .eq 10, 3, 0, 0, 0, 0, 0), (75, .iload 7, 2, 0, 0, 0, 0, 0), (77, .iload 5, 2, 0, 0, 0, 0, 0),
  (79, .if_icmp .ge 8, 3, 0, 0, 0, 0, 0), (82, .iload 7, 2, 0, 0, 0, 0, 0), (84, .goto 5, 3, 0, 0, 0, 0, 0), (87, .iload 5, 2, 0, 0, 0, 0, 0), (89, .istore 5, 2, 0, 0, 0, 0, 0),
  (91, .iinc 6 1, 3, 0, 0, 0, 0, 0), (94, .goto (-72), 3, 0, 0, 0, 0, 0), (97, .aload_n 0, 1, 0, 0, 0, 0, 0), (98, .iload_n 3, 1, 0, 0, 0, 0, 0),
  (99, .iload_n 2, 1, 0, 0, 0, 0, 0), (100, .invokevirtual 127, 3, 1, 127, 0, 2, 1037), (103, .aload_n 0, 1, 0, 0, 0, 0, 0), (104, .iload 4, 2, 0, 0, 0, 0, 0),
  (106, .i2l, 1, 0, 0, 0, 0, 0), (107, .iconst 1, 1, 0, 0, 0, 0, 0), (108, .invokevirtual 104, 3, 1, 123, 0, 2, 963), (111, .aload_n 0, 1, 0, 0, 0, 0, 0),
  (112, .aload_n 0, 1, 0, 0, 0, 0, 0), (113, .getfield 70, 3, 8, 20, 0, 0, 854), (116, .i2l, 1, 0, 0, 0, 0, 0), (117, .iconst 2, 1, 0, 0, 0, 0, 0),
  (118, .invokevirtual 104, 3, 1, 123, 0, 2, 963), (121, .aload_n 0, 1, 0, 0, 0, 0, 0), (122, .aload_n 0, 1, 0, 0, 0, 0, 0), (123, .getfield 52, 3, 8, 17, 0, 0, 851),
  (126, .i2l, 1, 0, 0, 0, 0, 0), (127, .iconst 2, 1, 0, 0, 0, 0, 0), (128, .invokevirtual 104, 3, 1, 123, 0, 2, 963), (131, .aload_n 0, 1, 0, 0, 0, 0, 0),
  (132, .aload_n 0, 1, 0, 0, 0, 0, 0), (133, .getfield 64, 3, 8, 18, 0, 0, 852), (136, .i2l, 1, 0, 0, 0, 0, 0), (137, .iconst 2, 1, 0, 0, 0, 0, 0),
  (138, .invokevirtual 104, 3, 1, 123, 0, 2, 963), (141, .aload_n 0, 1, 0, 0, 0, 0, 0), (142, .iload_n 3, 1, 0, 0, 0, 0, 0), (143, .iconst 2, 1, 0, 0, 0, 0, 0),
  (144, .iadd, 1, 0, 0, 0, 0, 0), (145, .iconst 2, 1, 0, 0, 0, 0, 0), (146, .iload_n 1, 1, 0, 0, 0, 0, 0), (147, .imul, 1, 0, 0, 0, 0, 0), (148, .iload 4, 2, 0, 0, 0, 0, 0),
  (150, .invokevirtual 120, 3, 1, 121, 0, 3, 992), (153, .istore 6, 2, 0, 0, 0, 0, 0), (155, .aload_n 0, 1, 0, 0, 0, 0, 0), (156, .iload_n 1, 1, 0, 0, 0, 0, 0),
  (157, .iload 6, 2, 0, 0, 0, 0, 0), (159, .ifCond .ge 7, 3, 0, 0, 0, 0, 0), (162, .iconst 1, 1, 0, 0, 0, 0, 0), (163, .goto 4, 3, 0, 0, 0, 0, 0),
  (166, .iconst 0, 1, 0, 0, 0, 0, 0), (167, .invokevirtual 123, 3, 1, 125, 0, 2, 1029), (170, .aload_n 0, 1, 0, 0, 0, 0, 0), (171, .getfield 70, 3, 8, 20, 0, 0, 854),
  (174, .istore_n 2, 1, 0, 0, 0, 0, 0), (175, .iload_n 3, 1, 0, 0, 0, 0, 0), (176, .iconst 2, 1, 0, 0, 0, 0, 0), (177, .iload_n 1, 1, 0, 0, 0, 0, 0),
  (178, .imul, 1, 0, 0, 0, 0, 0), (179, .iconst 2, 1, 0, 0, 0, 0, 0), (180, .iadd, 1, 0, 0, 0, 0, 0), (181, .iadd, 1, 0, 0, 0, 0, 0), (182, .istore_n 3, 1, 0, 0, 0, 0, 0),
  (183, .goto (-178), 3, 0, 0, 0, 0, 0), (186, .return_, 1, 0, 0, 0, 0, 0)]
def am_c_mo_blocks : List am_E := [
  (0, .iload_n 0, 1, 0, 0, 0, 0, 0), (1, .iload_n 1, 1, 0, 0, 0, 0, 0), (2, .iadd, 1, 0, 0, 0, 0, 0), (3, .iconst 1, 1, 0, 0, 0, 0, 0), (4, .isub, 1, 0, 0, 0, 0, 0),
  (5, .iload_n 1, 1, 0, 0, 0, 0, 0), (6, .idiv, 1, 0, 0, 0, 0, 0), (7, .ireturn, 1, 0, 0, 0, 0, 0)]
def am_c_mo_writeWave : List am_E := [
  (0, .aload_n 0, 1, 0, 0, 0, 0, 0), (1, .ldc2_w 130, 3, 0, 0, 0, 1380533830, 962), (4, .iconst 4, 1, 0, 0, 0, 0, 0), (5, .iconst 1, 1, 0, 0, 0, 0, 0),
  (6, .invokevirtual 98, 3, 1, 122, 0, 3, 947), (9, .aload_n 0, 1, 0, 0, 0, 0, 0), (10, .lconst 0, 1, 0, 0, 0, 0, 0), (11, .iconst 4, 1, 0, 0, 0, 0, 0),
  (12, .invokevirtual 104, 3, 1, 123, 0, 2, 963), (15, .aload_n 0, 1, 0, 0, 0, 0, 0), (16, .ldc2_w 132, 3, 0, 0, 0, 1463899717, 967), (19, .iconst 4, 1, 0, 0, 0, 0, 0),
  (20, .iconst 1, 1, 0, 0, 0, 0, 0), (21, .invokevirtual 98, 3, 1, 122, 0, 3, 947), (24, .aload_n 0, 1, 0, 0, 0, 0, 0), (25, .iload_n 1, 1, 0, 0, 0, 0, 0),
  (26, .iload_n 2, 1, 0, 0, 0, 0, 0), (27, .invokevirtual 134, 3, 1, 124, 0, 2, 968), (30, .aload_n 0, 1, 0, 0, 0, 0, 0), (31, .ldc2_w 137, 3, 0, 0, 0, 1684108385, 984),
  (34, .iconst 4, 1, 0, 0, 0, 0, 0), (35, .iconst 1, 1, 0, 0, 0, 0, 0), (36, .invokevirtual 98, 3, 1, 122, 0, 3, 947), (39, .iload_n 1, 1, 0, 0, 0, 0, 0),
  (40, .ifCond .ne 10, 3, 0, 0, 0, 0, 0), (43, .aload_n 0, 1, 0, 0, 0, 0, 0), (44, .getfield 40, 3, 8, 1, 0, 0, 835), (47, .goto 58, 3, 0, 0, 0, 0, 0),
  (50, .iload_n 1, 1, 0, 0, 0, 0, 0), (51, .iconst 1, 1, 0, 0, 0, 0, 0), (52, .if_icmp .ne 12, 3, 0, 0, 0, 0, 0), (55, .iconst 2, 1, 0, 0, 0, 0, 0),
  (56, .aload_n 0, 1, 0, 0, 0, 0, 0), (57, .getfield 40, 3, 8, 1, 0, 0, 835), (60, .imul, 1, 0, 0, 0, 0, 0), (61, .goto 44, 3, 0, 0, 0, 0, 0), (64, .iload_n 1, 1, 0, 0, 0, 0, 0),
  (65, .iconst 2, 1, 0, 0, 0, 0, 0), (66, .if_icmp .ne 22, 3, 0, 0, 0, 0, 0), (69, .iload_n 2, 1, 0, 0, 0, 0, 0), (70, .iconst 4, 1, 0, 0, 0, 0, 0), (71, .iadd, 1, 0, 0, 0, 0, 0),
  (72, .aload_n 0, 1, 0, 0, 0, 0, 0), (73, .getfield 40, 3, 8, 1, 0, 0, 835), (76, .iconst 2, 1, 0, 0, 0, 0, 0), (77, .iload_n 2, 1, 0, 0, 0, 0, 0), (78, .imul, 1, 0, 0, 0, 0, 0),
  (79, .iconst 1, 1, 0, 0, 0, 0, 0), (80, .iadd, 1, 0, 0, 0, 0, 0), (81, .invokestatic 139, 3, 0, 129, 0, 2, 985), (84, .imul, 1, 0, 0, 0, 0, 0), (85, .goto 20, 3, 0, 0, 0, 0, 0),
  (88, .iload_n 2, 1, 0, 0, 0, 0, 0), (89, .bipush 7, 2, 0, 0, 0, 0, 0), (91, .iadd, 1, 0, 0, 0, 0, 0), (92, .aload_n 0, 1, 0, 0, 0, 0, 0), (93, .getfield 40, 3, 8, 1, 0, 0, 835),
  (96, .iconst 2, 1, 0, 0, 0, 0, 0), (97, .iload_n 2, 1, 0, 0, 0, 0, 0), (98, .imul, 1, 0, 0, 0, 0, 0), (99, .iconst 2, 1, 0, 0, 0, 0, 0), (100, .iadd, 1, 0, 0, 0, 0, 0),
  (101, .invokestatic 139, 3, 0, 129, 0, 2, 985), (104, .imul, 1, 0, 0, 0, 0, 0), (105, .istore_n 3, 1, 0, 0, 0, 0, 0), (106, .aload_n 0, 1, 0, 0, 0, 0, 0),
  (107, .iload_n 3, 1, 0, 0, 0, 0, 0), (108, .i2l, 1, 0, 0, 0, 0, 0), (109, .iconst 4, 1, 0, 0, 0, 0, 0), (110, .invokevirtual 104, 3, 1, 123, 0, 2, 963),
  (113, .iload_n 1, 1, 0, 0, 0, 0, 0), (114, .iconst 2, 1, 0, 0, 0, 0, 0), (115, .if_icmp .ne 11, 3, 0, 0, 0, 0, 0), (118, .aload_n 0, 1, 0, 0, 0, 0, 0),
  (119, .iload_n 2, 1, 0, 0, 0, 0, 0), (120, .invokevirtual 142, 3, 1, 126, 0, 1, 988), (123, .goto 71, 3, 0, 0, 0, 0, 0), (126, .iload_n 1, 1, 0, 0, 0, 0, 0),
  (127, .iconst 3, 1, 0, 0, 0, 0, 0), (128, .if_icmp .ne 11, 3, 0, 0, 0, 0, 0), (131, .aload_n 0, 1, 0, 0, 0, 0, 0), (132, .iload_n 2, 1, 0, 0, 0, 0, 0),
  (133, .invokevirtual 145, 3, 1, 128, 0, 1, 1033), (136, .goto 58, 3, 0, 0, 0, 0, 0), (139, .iconst 0, 1, 0, 0, 0, 0, 0), (140, .istore 4, 2, 0, 0, 0, 0, 0),
  (142, .iload 4, 2, 0, 0, 0, 0, 0), (144, .aload_n 0, 1, 0, 0, 0, 0, 0), (145, .getfield 40, 3, 8, 1, 0, 0, 835), (148, .if_icmp .ge 46, 3, 0, 0, 0, 0, 0),
  (151, .aload_n 0, 1, 0, 0, 0, 0, 0), (152, .iload_n 1, 1, 0, 0, 0, 0, 0), (153, .ifCond .ne 21, 3, 0, 0, 0, 0, 0), (156, .aload_n 0, 1, 0, 0, 0, 0, 0),
  (157, .getfield 7, 3, 8, 2, 0, 0, 836), (160, .iload 4, 2, 0, 0, 0, 0, 0), (162, .iaload, 1, 0, 0, 0, 0, 0), (163, .bipush 8, 2, 0, 0, 0, 0, 0), (165, .ishr, 1, 0, 0, 0, 0, 0),
  (166, .sipush 128, 3, 0, 0, 0, 0, 0), (169, .iadd, 1, 0, 0, 0, 0, 0), (170, .i2l, 1, 0, 0, 0, 0, 0), (171, .goto 11, 3, 0, 0, 0, 0, 0), (174, .aload_n 0, 1, 0, 0, 0, 0, 0),
  (175, .getfield 7, 3, 8, 2, 0, 0, 836), (178, .iload 4, 2, 0, 0, 0, 0, 0), (180, .iaload, 1, 0, 0, 0, 0, 0), (181, .i2l, 1, 0, 0, 0, 0, 0), (182, .iload_n 1, 1, 0, 0, 0, 0, 0),
  (183, .iconst 1, 1, 0, 0, 0, 0, 0), (184, .iadd, 1, 0, 0, 0, 0, 0), (185, .invokevirtual 104, 3, 1, 123, 0, 2, 963), (188, .iinc 4 1, 3, 0, 0, 0, 0, 0),
  (191, .goto (-49), 3, 0, 0, 0, 0, 0), (194, .aload_n 0, 1, 0, 0, 0, 0, 0), (195, .lconst 0, 1, 0, 0, 0, 0, 0), (196, .iload_n 3, 1, 0, 0, 0, 0, 0),
  (197, .iconst 2, 1, 0, 0, 0, 0, 0), (198, .irem, 1, 0, 0, 0, 0, 0), (199, .invokevirtual 104, 3, 1, 123, 0, 2, 963), (202, .return_, 1, 0, 0, 0, 0, 0)]
def am_c_mo_greatest : List am_E := [
  (0, .iconst 0, 1, 0, 0, 0, 0, 0), (1, .istore_n 1, 1, 0, 0, 0, 0, 0), (2, .iload_n 0, 1, 0, 0, 0, 0, 0), (3, .iload_n 1, 1, 0, 0, 0, 0, 0), (4, .iconst 1, 1, 0, 0, 0, 0, 0),
  (5, .iadd, 1, 0, 0, 0, 0, 0), (6, .ishr, 1, 0, 0, 0, 0, 0), (7, .ifCond .le 9, 3, 0, 0, 0, 0, 0), (10, .iinc 1 1, 3, 0, 0, 0, 0, 0), (13, .goto (-11), 3, 0, 0, 0, 0, 0),
  (16, .iload_n 1, 1, 0, 0, 0, 0, 0), (17, .ireturn, 1, 0, 0, 0, 0, 0)]
def am_c_mo_writeOther : List am_E := [
  (0, .iload_n 1, 1, 0, 0, 0, 0, 0), (1, .bipush 8, 2, 0, 0, 0, 0, 0), (3, .if_icmp .le 7, 3, 0, 0, 0, 0, 0), (6, .iconst 2, 1, 0, 0, 0, 0, 0), (7, .goto 4, 3, 0, 0, 0, 0, 0),
  (10, .iconst 1, 1, 0, 0, 0, 0, 0), (11, .istore_n 2, 1, 0, 0, 0, 0, 0), (12, .aload_n 0, 1, 0, 0, 0, 0, 0), (13, .ldc2_w 148, 3, 0, 0, 0, 1179603533, 946),
  (16, .iconst 4, 1, 0, 0, 0, 0, 0), (17, .iconst 1, 1, 0, 0, 0, 0, 0), (18, .invokevirtual 98, 3, 1, 122, 0, 3, 947), (21, .aload_n 0, 1, 0, 0, 0, 0, 0),
  (22, .lconst 0, 1, 0, 0, 0, 0, 0), (23, .iconst 4, 1, 0, 0, 0, 0, 0), (24, .iconst 1, 1, 0, 0, 0, 0, 0), (25, .invokevirtual 98, 3, 1, 122, 0, 3, 947),
  (28, .aload_n 0, 1, 0, 0, 0, 0, 0), (29, .ldc2_w 150, 3, 0, 0, 0, 1095321158, 951), (32, .iconst 4, 1, 0, 0, 0, 0, 0), (33, .iconst 1, 1, 0, 0, 0, 0, 0),
  (34, .invokevirtual 98, 3, 1, 122, 0, 3, 947), (37, .aload_n 0, 1, 0, 0, 0, 0, 0), (38, .ldc2_w 152, 3, 0, 0, 0, 1129270605, 952), (41, .iconst 4, 1, 0, 0, 0, 0, 0),
  (42, .iconst 1, 1, 0, 0, 0, 0, 0), (43, .invokevirtual 98, 3, 1, 122, 0, 3, 947), (46, .aload_n 0, 1, 0, 0, 0, 0, 0), (47, .ldc2_w 154, 3, 0, 0, 0, 18, 953),
  (50, .iconst 4, 1, 0, 0, 0, 0, 0), (51, .iconst 1, 1, 0, 0, 0, 0, 0), (52, .invokevirtual 98, 3, 1, 122, 0, 3, 947), (55, .aload_n 0, 1, 0, 0, 0, 0, 0),
  (56, .lconst 1, 1, 0, 0, 0, 0, 0), (57, .iconst 2, 1, 0, 0, 0, 0, 0), (58, .iconst 1, 1, 0, 0, 0, 0, 0), (59, .invokevirtual 98, 3, 1, 122, 0, 3, 947),
  (62, .aload_n 0, 1, 0, 0, 0, 0, 0), (63, .aload_n 0, 1, 0, 0, 0, 0, 0), (64, .getfield 40, 3, 8, 1, 0, 0, 835), (67, .i2l, 1, 0, 0, 0, 0, 0), (68, .iconst 4, 1, 0, 0, 0, 0, 0),
  (69, .iconst 1, 1, 0, 0, 0, 0, 0), (70, .invokevirtual 98, 3, 1, 122, 0, 3, 947), (73, .aload_n 0, 1, 0, 0, 0, 0, 0), (74, .iload_n 1, 1, 0, 0, 0, 0, 0),
  (75, .i2l, 1, 0, 0, 0, 0, 0), (76, .iconst 2, 1, 0, 0, 0, 0, 0), (77, .iconst 1, 1, 0, 0, 0, 0, 0), (78, .invokevirtual 98, 3, 1, 122, 0, 3, 947),
  (81, .aload_n 0, 1, 0, 0, 0, 0, 0), (82, .getfield 13, 3, 8, 3, 0, 0, 837), (85, .invokestatic 156, 3, 0, 131, 0, 1, 954), (88, .istore_n 3, 1, 0, 0, 0, 0, 0),
  (89, .aload_n 0, 1, 0, 0, 0, 0, 0), (90, .sipush 16383, 3, 0, 0, 0, 0, 0), (93, .iload_n 3, 1, 0, 0, 0, 0, 0), (94, .iadd, 1, 0, 0, 0, 0, 0), (95, .i2l, 1, 0, 0, 0, 0, 0),
  (96, .iconst 2, 1, 0, 0, 0, 0, 0), (97, .iconst 1, 1, 0, 0, 0, 0, 0), (98, .invokevirtual 98, 3, 1, 122, 0, 3, 947), (101, .aload_n 0, 1, 0, 0, 0, 0, 0),
  (102, .aload_n 0, 1, 0, 0, 0, 0, 0), (103, .getfield 13, 3, 8, 3, 0, 0, 837), (106, .i2l, 1, 0, 0, 0, 0, 0), (107, .bipush 63, 2, 0, 0, 0, 0, 0),
  (109, .iload_n 3, 1, 0, 0, 0, 0, 0), (110, .isub, 1, 0, 0, 0, 0, 0), (111, .lshl, 1, 0, 0, 0, 0, 0), (112, .bipush 8, 2, 0, 0, 0, 0, 0), (114, .iconst 1, 1, 0, 0, 0, 0, 0),
  (115, .invokevirtual 98, 3, 1, 122, 0, 3, 947), (118, .aload_n 0, 1, 0, 0, 0, 0, 0), (119, .ldc2_w 159, 3, 0, 0, 0, 1397968452, 957), (122, .iconst 4, 1, 0, 0, 0, 0, 0),
  (123, .iconst 1, 1, 0, 0, 0, 0, 0), (124, .invokevirtual 98, 3, 1, 122, 0, 3, 947), (127, .aload_n 0, 1, 0, 0, 0, 0, 0), (128, .bipush 8, 2, 0, 0, 0, 0, 0),
  (130, .iload_n 2, 1, 0, 0, 0, 0, 0), (131, .aload_n 0, 1, 0, 0, 0, 0, 0), (132, .getfield 40, 3, 8, 1, 0, 0, 835), (135, .imul, 1, 0, 0, 0, 0, 0),
  (136, .iadd, 1, 0, 0, 0, 0, 0), (137, .i2l, 1, 0, 0, 0, 0, 0), (138, .iconst 4, 1, 0, 0, 0, 0, 0), (139, .iconst 1, 1, 0, 0, 0, 0, 0),
  (140, .invokevirtual 98, 3, 1, 122, 0, 3, 947), (143, .aload_n 0, 1, 0, 0, 0, 0, 0), (144, .lconst 0, 1, 0, 0, 0, 0, 0), (145, .bipush 8, 2, 0, 0, 0, 0, 0),
  (147, .iconst 1, 1, 0, 0, 0, 0, 0), (148, .invokevirtual 98, 3, 1, 122, 0, 3, 947), (151, .iconst 0, 1, 0, 0, 0, 0, 0), (152, .istore 4, 2, 0, 0, 0, 0, 0),
  (154, .iload 4, 2, 0, 0, 0, 0, 0), (156, .aload_n 0, 1, 0, 0, 0, 0, 0), (157, .getfield 40, 3, 8, 1, 0, 0, 835), (160, .if_icmp .ge 35, 3, 0, 0, 0, 0, 0),
  (163, .aload_n 0, 1, 0, 0, 0, 0, 0), (164, .aload_n 0, 1, 0, 0, 0, 0, 0), (165, .getfield 7, 3, 8, 2, 0, 0, 836), (168, .iload 4, 2, 0, 0, 0, 0, 0),
  (170, .iaload, 1, 0, 0, 0, 0, 0), (171, .bipush 16, 2, 0, 0, 0, 0, 0), (173, .iload_n 1, 1, 0, 0, 0, 0, 0), (174, .isub, 1, 0, 0, 0, 0, 0), (175, .ishr, 1, 0, 0, 0, 0, 0),
  (176, .bipush 8, 2, 0, 0, 0, 0, 0), (178, .iload_n 2, 1, 0, 0, 0, 0, 0), (179, .imul, 1, 0, 0, 0, 0, 0), (180, .iload_n 1, 1, 0, 0, 0, 0, 0), (181, .isub, 1, 0, 0, 0, 0, 0),
  (182, .ishl, 1, 0, 0, 0, 0, 0), (183, .i2l, 1, 0, 0, 0, 0, 0), (184, .iload_n 2, 1, 0, 0, 0, 0, 0), (185, .iconst 1, 1, 0, 0, 0, 0, 0),
  (186, .invokevirtual 98, 3, 1, 122, 0, 3, 947), (189, .iinc 4 1, 3, 0, 0, 0, 0, 0), (192, .goto (-38), 3, 0, 0, 0, 0, 0), (195, .aload_n 0, 1, 0, 0, 0, 0, 0),
  (196, .lconst 0, 1, 0, 0, 0, 0, 0), (197, .iload_n 2, 1, 0, 0, 0, 0, 0), (198, .aload_n 0, 1, 0, 0, 0, 0, 0), (199, .getfield 40, 3, 8, 1, 0, 0, 835),
  (202, .imul, 1, 0, 0, 0, 0, 0), (203, .iconst 2, 1, 0, 0, 0, 0, 0), (204, .irem, 1, 0, 0, 0, 0, 0), (205, .iconst 1, 1, 0, 0, 0, 0, 0),
  (206, .invokevirtual 98, 3, 1, 122, 0, 3, 947), (209, .return_, 1, 0, 0, 0, 0, 0)]
def am_c_mo_write : List am_E := [
  (0, .iload_n 1, 1, 0, 0, 0, 0, 0), (1, .i2l, 1, 0, 0, 0, 0, 0), (2, .lconst 0, 1, 0, 0, 0, 0, 0), (3, .ldc2_w 112, 3, 0, 0, 0, 4, 939),
  (6, .invokestatic 36, 3, 0, 103, 0, 3, 911), (9, .ifCond .eq 35, 3, 0, 0, 0, 0, 0), (12, .iload_n 1, 1, 0, 0, 0, 0, 0), (13, .iconst 2, 1, 0, 0, 0, 0, 0),
  (14, .if_icmp .lt 26, 3, 0, 0, 0, 0, 0), (17, .iload_n 2, 1, 0, 0, 0, 0, 0), (18, .i2l, 1, 0, 0, 0, 0, 0), (19, .lconst 1, 1, 0, 0, 0, 0, 0), (20, .iload_n 1, 1, 0, 0, 0, 0, 0),
  (21, .iconst 4, 1, 0, 0, 0, 0, 0), (22, .if_icmp .ne 9, 3, 0, 0, 0, 0, 0), (25, .ldc2_w 161, 3, 0, 0, 0, 16, 940), (28, .goto 6, 3, 0, 0, 0, 0, 0),
  (31, .ldc2_w 163, 3, 0, 0, 0, 8, 941), (34, .invokestatic 36, 3, 0, 103, 0, 3, 911), (37, .ifCond .eq 7, 3, 0, 0, 0, 0, 0), (40, .iconst 1, 1, 0, 0, 0, 0, 0),
  (41, .goto 4, 3, 0, 0, 0, 0, 0), (44, .iconst 0, 1, 0, 0, 0, 0, 0), (45, .istore_n 3, 1, 0, 0, 0, 0, 0), (46, .aload_n 0, 1, 0, 0, 0, 0, 0), (47, .iload_n 3, 1, 0, 0, 0, 0, 0),
  (48, .ifCond .eq 7, 3, 0, 0, 0, 0, 0), (51, .iconst 0, 1, 0, 0, 0, 0, 0), (52, .goto 4, 3, 0, 0, 0, 0, 0), (55, .iconst 1, 1, 0, 0, 0, 0, 0),
  (56, .putfield 29, 3, 8, 0, 0, 0, 834), (59, .iload_n 3, 1, 0, 0, 0, 0, 0), (60, .ifCond .ne 5, 3, 0, 0, 0, 0, 0), (63, .iconst 0, 1, 0, 0, 0, 0, 0),
  (64, .ireturn, 1, 0, 0, 0, 0, 0), (65, .aload_n 0, 1, 0, 0, 0, 0, 0), (66, .iconst 0, 1, 0, 0, 0, 0, 0), (67, .putfield 95, 3, 8, 4, 0, 0, 838),
  (70, .iload_n 1, 1, 0, 0, 0, 0, 0), (71, .iconst 4, 1, 0, 0, 0, 0, 0), (72, .if_icmp .ne 11, 3, 0, 0, 0, 0, 0), (75, .aload_n 0, 1, 0, 0, 0, 0, 0),
  (76, .iload_n 2, 1, 0, 0, 0, 0, 0), (77, .invokevirtual 165, 3, 1, 132, 0, 1, 942), (80, .goto 9, 3, 0, 0, 0, 0, 0), (83, .aload_n 0, 1, 0, 0, 0, 0, 0),
  (84, .iload_n 1, 1, 0, 0, 0, 0, 0), (85, .iload_n 2, 1, 0, 0, 0, 0, 0), (86, .invokevirtual 168, 3, 1, 130, 0, 2, 958), (89, .aload_n 0, 1, 0, 0, 0, 0, 0),
  (90, .getfield 95, 3, 8, 4, 0, 0, 838), (93, .istore 4, 2, 0, 0, 0, 0, 0), (95, .aload_n 0, 1, 0, 0, 0, 0, 0), (96, .iconst 4, 1, 0, 0, 0, 0, 0),
  (97, .putfield 95, 3, 8, 4, 0, 0, 838), (100, .aload_n 0, 1, 0, 0, 0, 0, 0), (101, .iload 4, 2, 0, 0, 0, 0, 0), (103, .bipush 8, 2, 0, 0, 0, 0, 0),
  (105, .isub, 1, 0, 0, 0, 0, 0), (106, .i2l, 1, 0, 0, 0, 0, 0), (107, .iconst 4, 1, 0, 0, 0, 0, 0), (108, .iload_n 1, 1, 0, 0, 0, 0, 0), (109, .iconst 4, 1, 0, 0, 0, 0, 0),
  (110, .if_icmp .ne 7, 3, 0, 0, 0, 0, 0), (113, .iconst 1, 1, 0, 0, 0, 0, 0), (114, .goto 4, 3, 0, 0, 0, 0, 0), (117, .iconst 0, 1, 0, 0, 0, 0, 0),
  (118, .invokevirtual 98, 3, 1, 122, 0, 3, 947), (121, .aload_n 0, 1, 0, 0, 0, 0, 0), (122, .iload 4, 2, 0, 0, 0, 0, 0), (124, .putfield 95, 3, 8, 4, 0, 0, 838),
  (127, .iload 4, 2, 0, 0, 0, 0, 0), (129, .ireturn, 1, 0, 0, 0, 0, 0)]
def am_c_mo_peek : List am_E := [
  (0, .iload_n 1, 1, 0, 0, 0, 0, 0), (1, .iload_n 2, 1, 0, 0, 0, 0, 0), (2, .iadd, 1, 0, 0, 0, 0, 0), (3, .aload_n 0, 1, 0, 0, 0, 0, 0), (4, .getfield 95, 3, 8, 4, 0, 0, 838),
  (7, .if_icmp .le 7, 3, 0, 0, 0, 0, 0), (10, .ldc2_w 171, 3, 0, 0, 0, (-1), 1049), (13, .lreturn, 1, 0, 0, 0, 0, 0), (14, .lconst 0, 1, 0, 0, 0, 0, 0),
  (15, .lstore 4, 2, 0, 0, 0, 0, 0), (17, .iconst 0, 1, 0, 0, 0, 0, 0), (18, .istore 6, 2, 0, 0, 0, 0, 0), (20, .iload 6, 2, 0, 0, 0, 0, 0), (22, .iload_n 2, 1, 0, 0, 0, 0, 0),
  (23, .if_icmp .ge 44, 3, 0, 0, 0, 0, 0), (26, .aload_n 0, 1, 0, 0, 0, 0, 0), (27, .getfield 17, 3, 8, 5, 0, 0, 839), (30, .iload_n 1, 1, 0, 0, 0, 0, 0),
  (31, .iload_n 3, 1, 0, 0, 0, 0, 0), (32, .ifCond .eq 8, 3, 0, 0, 0, 0, 0), (35, .iload 6, 2, 0, 0, 0, 0, 0), (37, .goto 9, 3, 0, 0, 0, 0, 0), (40, .iload_n 2, 1, 0, 0, 0, 0, 0),
  (41, .iconst 1, 1, 0, 0, 0, 0, 0), (42, .isub, 1, 0, 0, 0, 0, 0), (43, .iload 6, 2, 0, 0, 0, 0, 0), (45, .isub, 1, 0, 0, 0, 0, 0), (46, .iadd, 1, 0, 0, 0, 0, 0),
  (47, .iaload, 1, 0, 0, 0, 0, 0), (48, .istore 7, 2, 0, 0, 0, 0, 0), (50, .lload 4, 2, 0, 0, 0, 0, 0), (52, .bipush 8, 2, 0, 0, 0, 0, 0), (54, .lshl, 1, 0, 0, 0, 0, 0),
  (55, .iload 7, 2, 0, 0, 0, 0, 0), (57, .i2l, 1, 0, 0, 0, 0, 0), (58, .lor, 1, 0, 0, 0, 0, 0), (59, .lstore 4, 2, 0, 0, 0, 0, 0), (61, .iinc 6 1, 3, 0, 0, 0, 0, 0),
  (64, .goto (-44), 3, 0, 0, 0, 0, 0), (67, .lload 4, 2, 0, 0, 0, 0, 0), (69, .lreturn, 1, 0, 0, 0, 0, 0)]
def am_c_mo_ask : List am_E := [
  (0, .aload_n 0, 1, 0, 0, 0, 0, 0), (1, .getfield 173, 3, 8, 8, 0, 0, 842), (4, .ifCond .eq 9, 3, 0, 0, 0, 0, 0), (7, .ldc2_w 171, 3, 0, 0, 0, (-1), 1049),
  (10, .goto 13, 3, 0, 0, 0, 0, 0), (13, .aload_n 0, 1, 0, 0, 0, 0, 0), (14, .aload_n 0, 1, 0, 0, 0, 0, 0), (15, .getfield 177, 3, 8, 7, 0, 0, 841),
  (18, .iload_n 1, 1, 0, 0, 0, 0, 0), (19, .iload_n 2, 1, 0, 0, 0, 0, 0), (20, .invokevirtual 180, 3, 1, 134, 0, 3, 1045), (23, .lstore 7, 2, 0, 0, 0, 0, 0),
  (25, .lload 7, 2, 0, 0, 0, 0, 0), (27, .lconst 0, 1, 0, 0, 0, 0, 0), (28, .lcmp, 1, 0, 0, 0, 0, 0), (29, .ifCond .lt 18, 3, 0, 0, 0, 0, 0), (32, .lload 7, 2, 0, 0, 0, 0, 0),
  (34, .lload_n 3, 1, 0, 0, 0, 0, 0), (35, .lcmp, 1, 0, 0, 0, 0, 0), (36, .ifCond .lt 11, 3, 0, 0, 0, 0, 0), (39, .lload 7, 2, 0, 0, 0, 0, 0), (41, .lload 5, 2, 0, 0, 0, 0, 0),
  (43, .lcmp, 1, 0, 0, 0, 0, 0), (44, .ifCond .le 10, 3, 0, 0, 0, 0, 0), (47, .aload_n 0, 1, 0, 0, 0, 0, 0), (48, .iconst 1, 1, 0, 0, 0, 0, 0),
  (49, .putfield 173, 3, 8, 8, 0, 0, 842), (52, .lconst 0, 1, 0, 0, 0, 0, 0), (53, .lreturn, 1, 0, 0, 0, 0, 0), (54, .aload_n 0, 1, 0, 0, 0, 0, 0),
  (55, .aload_n 0, 1, 0, 0, 0, 0, 0), (56, .getfield 177, 3, 8, 7, 0, 0, 841), (59, .iload_n 1, 1, 0, 0, 0, 0, 0), (60, .iadd, 1, 0, 0, 0, 0, 0),
  (61, .putfield 177, 3, 8, 7, 0, 0, 841), (64, .lload 7, 2, 0, 0, 0, 0, 0), (66, .lreturn, 1, 0, 0, 0, 0, 0)]
def am_c_mo_exact : List am_E := [
  (0, .aload_n 0, 1, 0, 0, 0, 0, 0), (1, .iload_n 1, 1, 0, 0, 0, 0, 0), (2, .iload_n 2, 1, 0, 0, 0, 0, 0), (3, .lload_n 3, 1, 0, 0, 0, 0, 0), (4, .lload_n 3, 1, 0, 0, 0, 0, 0),
  (5, .invokevirtual 184, 3, 1, 135, 0, 4, 1054), (8, .lstore 5, 2, 0, 0, 0, 0, 0), (10, .aload_n 0, 1, 0, 0, 0, 0, 0), (11, .aload_n 0, 1, 0, 0, 0, 0, 0),
  (12, .getfield 173, 3, 8, 8, 0, 0, 842), (15, .ifCond .ne 10, 3, 0, 0, 0, 0, 0), (18, .lload 5, 2, 0, 0, 0, 0, 0), (20, .lload_n 3, 1, 0, 0, 0, 0, 0),
  (21, .lcmp, 1, 0, 0, 0, 0, 0), (22, .ifCond .eq 7, 3, 0, 0, 0, 0, 0), (25, .iconst 1, 1, 0, 0, 0, 0, 0), (26, .goto 4, 3, 0, 0, 0, 0, 0), (29, .iconst 0, 1, 0, 0, 0, 0, 0),
  (30, .putfield 173, 3, 8, 8, 0, 0, 842), (33, .return_, 1, 0, 0, 0, 0, 0)]
def am_c_mo_open : List am_E := [
  (0, .aload_n 0, 1, 0, 0, 0, 0, 0), (1, .getfield 173, 3, 8, 8, 0, 0, 842), (4, .ifCond .eq 9, 3, 0, 0, 0, 0, 0), (7, .ldc2_w 171, 3, 0, 0, 0, (-1), 1049),
  (10, .goto 13, 3, 0, 0, 0, 0, 0), (13, .aload_n 0, 1, 0, 0, 0, 0, 0), (14, .aload_n 0, 1, 0, 0, 0, 0, 0), (15, .getfield 177, 3, 8, 7, 0, 0, 841),
  (18, .iconst 4, 1, 0, 0, 0, 0, 0), (19, .iload_n 1, 1, 0, 0, 0, 0, 0), (20, .invokevirtual 180, 3, 1, 134, 0, 3, 1045), (23, .lstore 8, 2, 0, 0, 0, 0, 0),
  (25, .lload 8, 2, 0, 0, 0, 0, 0), (27, .lconst 0, 1, 0, 0, 0, 0, 0), (28, .lcmp, 1, 0, 0, 0, 0, 0), (29, .ifCond .lt 56, 3, 0, 0, 0, 0, 0), (32, .lload 8, 2, 0, 0, 0, 0, 0),
  (34, .lload_n 2, 1, 0, 0, 0, 0, 0), (35, .lcmp, 1, 0, 0, 0, 0, 0), (36, .ifCond .eq 19, 3, 0, 0, 0, 0, 0), (39, .lload 8, 2, 0, 0, 0, 0, 0), (41, .lload 4, 2, 0, 0, 0, 0, 0),
  (43, .lcmp, 1, 0, 0, 0, 0, 0), (44, .ifCond .eq 11, 3, 0, 0, 0, 0, 0), (47, .lload 8, 2, 0, 0, 0, 0, 0), (49, .lload 6, 2, 0, 0, 0, 0, 0), (51, .lcmp, 1, 0, 0, 0, 0, 0),
  (52, .ifCond .ne 33, 3, 0, 0, 0, 0, 0), (55, .aload_n 0, 1, 0, 0, 0, 0, 0), (56, .getfield 177, 3, 8, 7, 0, 0, 841), (59, .iconst 4, 1, 0, 0, 0, 0, 0),
  (60, .iadd, 1, 0, 0, 0, 0, 0), (61, .i2l, 1, 0, 0, 0, 0, 0), (62, .lload 8, 2, 0, 0, 0, 0, 0), (64, .ladd, 1, 0, 0, 0, 0, 0), (65, .lload 8, 2, 0, 0, 0, 0, 0),
  (67, .ldc2_w 110, 3, 0, 0, 0, 2, 974), (70, .lrem, 1, 0, 0, 0, 0, 0), (71, .ladd, 1, 0, 0, 0, 0, 0), (72, .aload_n 0, 1, 0, 0, 0, 0, 0), (73, .getfield 95, 3, 8, 4, 0, 0, 838),
  (76, .i2l, 1, 0, 0, 0, 0, 0), (77, .lcmp, 1, 0, 0, 0, 0, 0), (78, .ifCond .gt 7, 3, 0, 0, 0, 0, 0), (81, .iconst 1, 1, 0, 0, 0, 0, 0), (82, .goto 4, 3, 0, 0, 0, 0, 0),
  (85, .iconst 0, 1, 0, 0, 0, 0, 0), (86, .istore 10, 2, 0, 0, 0, 0, 0), (88, .iload 10, 2, 0, 0, 0, 0, 0), (90, .ifCond .ne 10, 3, 0, 0, 0, 0, 0),
  (93, .aload_n 0, 1, 0, 0, 0, 0, 0), (94, .iconst 1, 1, 0, 0, 0, 0, 0), (95, .putfield 173, 3, 8, 8, 0, 0, 842), (98, .iconst 0, 1, 0, 0, 0, 0, 0),
  (99, .ireturn, 1, 0, 0, 0, 0, 0), (100, .aload_n 0, 1, 0, 0, 0, 0, 0), (101, .aload_n 0, 1, 0, 0, 0, 0, 0), (102, .getfield 177, 3, 8, 7, 0, 0, 841),
  (105, .iconst 4, 1, 0, 0, 0, 0, 0), (106, .iadd, 1, 0, 0, 0, 0, 0), (107, .putfield 177, 3, 8, 7, 0, 0, 841), (110, .lload 8, 2, 0, 0, 0, 0, 0), (112, .l2i, 1, 0, 0, 0, 0, 0),
  (113, .ireturn, 1, 0, 0, 0, 0, 0)]
def am_c_mo_passOver : List am_E := [
  (0, .aload_n 0, 1, 0, 0, 0, 0, 0), (1, .aload_n 0, 1, 0, 0, 0, 0, 0), (2, .getfield 177, 3, 8, 7, 0, 0, 841), (5, .iconst 4, 1, 0, 0, 0, 0, 0),
  (6, .iload_n 1, 1, 0, 0, 0, 0, 0), (7, .invokevirtual 180, 3, 1, 134, 0, 3, 1045), (10, .lstore_n 2, 1, 0, 0, 0, 0, 0), (11, .aload_n 0, 1, 0, 0, 0, 0, 0),
  (12, .iload_n 1, 1, 0, 0, 0, 0, 0), (13, .lload_n 2, 1, 0, 0, 0, 0, 0), (14, .lload_n 2, 1, 0, 0, 0, 0, 0), (15, .lload_n 2, 1, 0, 0, 0, 0, 0),
  (16, .invokevirtual 188, 3, 1, 137, 0, 4, 1066), (19, .istore 4, 2, 0, 0, 0, 0, 0), (21, .aload_n 0, 1, 0, 0, 0, 0, 0), (22, .aload_n 0, 1, 0, 0, 0, 0, 0),
  (23, .getfield 177, 3, 8, 7, 0, 0, 841), (26, .iload 4, 2, 0, 0, 0, 0, 0), (28, .iadd, 1, 0, 0, 0, 0, 0), (29, .putfield 177, 3, 8, 7, 0, 0, 841),
  (32, .aload_n 0, 1, 0, 0, 0, 0, 0), (33, .iload 4, 2, 0, 0, 0, 0, 0), (35, .invokevirtual 192, 3, 1, 139, 0, 1, 1080), (38, .return_, 1, 0, 0, 0, 0, 0)]
def am_c_mo_pad : List am_E := [
  (0, .iload_n 1, 1, 0, 0, 0, 0, 0), (1, .iconst 2, 1, 0, 0, 0, 0, 0), (2, .irem, 1, 0, 0, 0, 0, 0), (3, .iconst 1, 1, 0, 0, 0, 0, 0), (4, .if_icmp .ne 10, 3, 0, 0, 0, 0, 0),
  (7, .aload_n 0, 1, 0, 0, 0, 0, 0), (8, .iconst 1, 1, 0, 0, 0, 0, 0), (9, .iconst 0, 1, 0, 0, 0, 0, 0), (10, .lconst 0, 1, 0, 0, 0, 0, 0),
  (11, .invokevirtual 195, 3, 1, 136, 0, 3, 1050), (14, .return_, 1, 0, 0, 0, 0, 0)]
def am_c_mo_perBlock : List am_E := [
  (0, .aload_n 0, 1, 0, 0, 0, 0, 0), (1, .getfield 199, 3, 8, 12, 0, 0, 846), (4, .bipush 17, 2, 0, 0, 0, 0, 0), (6, .if_icmp .ne 16, 3, 0, 0, 0, 0, 0),
  (9, .iconst 2, 1, 0, 0, 0, 0, 0), (10, .aload_n 0, 1, 0, 0, 0, 0, 0), (11, .getfield 202, 3, 8, 13, 0, 0, 847), (14, .iconst 4, 1, 0, 0, 0, 0, 0), (15, .isub, 1, 0, 0, 0, 0, 0),
  (16, .imul, 1, 0, 0, 0, 0, 0), (17, .iconst 1, 1, 0, 0, 0, 0, 0), (18, .iadd, 1, 0, 0, 0, 0, 0), (19, .goto 26, 3, 0, 0, 0, 0, 0), (22, .aload_n 0, 1, 0, 0, 0, 0, 0),
  (23, .getfield 199, 3, 8, 12, 0, 0, 846), (26, .iconst 2, 1, 0, 0, 0, 0, 0), (27, .if_icmp .ne 17, 3, 0, 0, 0, 0, 0), (30, .iconst 2, 1, 0, 0, 0, 0, 0),
  (31, .aload_n 0, 1, 0, 0, 0, 0, 0), (32, .getfield 202, 3, 8, 13, 0, 0, 847), (35, .bipush 7, 2, 0, 0, 0, 0, 0), (37, .isub, 1, 0, 0, 0, 0, 0), (38, .imul, 1, 0, 0, 0, 0, 0),
  (39, .iconst 2, 1, 0, 0, 0, 0, 0), (40, .iadd, 1, 0, 0, 0, 0, 0), (41, .goto 4, 3, 0, 0, 0, 0, 0), (44, .iconst 1, 1, 0, 0, 0, 0, 0), (45, .ireturn, 1, 0, 0, 0, 0, 0)]
def am_c_mo_readFormat : List am_E := [
  (0, .aload_n 0, 1, 0, 0, 0, 0, 0), (1, .iconst 0, 1, 0, 0, 0, 0, 0), (2, .ldc2_w 161, 3, 0, 0, 0, 16, 940), (5, .ldc2_w 205, 3, 0, 0, 0, 20, 1096),
  (8, .ldc2_w 207, 3, 0, 0, 0, 50, 1097), (11, .invokevirtual 188, 3, 1, 137, 0, 4, 1066), (14, .istore_n 1, 1, 0, 0, 0, 0, 0), (15, .iload_n 1, 1, 0, 0, 0, 0, 0),
  (16, .bipush 16, 2, 0, 0, 0, 0, 0), (18, .if_icmp .ne 7, 3, 0, 0, 0, 0, 0), (21, .iconst 1, 1, 0, 0, 0, 0, 0), (22, .goto 15, 3, 0, 0, 0, 0, 0),
  (25, .iload_n 1, 1, 0, 0, 0, 0, 0), (26, .bipush 20, 2, 0, 0, 0, 0, 0), (28, .if_icmp .ne 8, 3, 0, 0, 0, 0, 0), (31, .bipush 17, 2, 0, 0, 0, 0, 0),
  (33, .goto 4, 3, 0, 0, 0, 0, 0), (36, .iconst 2, 1, 0, 0, 0, 0, 0), (37, .istore_n 2, 1, 0, 0, 0, 0, 0), (38, .aload_n 0, 1, 0, 0, 0, 0, 0), (39, .iconst 2, 1, 0, 0, 0, 0, 0),
  (40, .iconst 0, 1, 0, 0, 0, 0, 0), (41, .iload_n 2, 1, 0, 0, 0, 0, 0), (42, .i2l, 1, 0, 0, 0, 0, 0), (43, .invokevirtual 195, 3, 1, 136, 0, 3, 1050),
  (46, .aload_n 0, 1, 0, 0, 0, 0, 0), (47, .iload_n 2, 1, 0, 0, 0, 0, 0), (48, .putfield 199, 3, 8, 12, 0, 0, 846), (51, .aload_n 0, 1, 0, 0, 0, 0, 0),
  (52, .iconst 2, 1, 0, 0, 0, 0, 0), (53, .iconst 0, 1, 0, 0, 0, 0, 0), (54, .lconst 1, 1, 0, 0, 0, 0, 0), (55, .invokevirtual 195, 3, 1, 136, 0, 3, 1050),
  (58, .aload_n 0, 1, 0, 0, 0, 0, 0), (59, .aload_n 0, 1, 0, 0, 0, 0, 0), (60, .iconst 4, 1, 0, 0, 0, 0, 0), (61, .iconst 0, 1, 0, 0, 0, 0, 0), (62, .lconst 1, 1, 0, 0, 0, 0, 0),
  (63, .ldc2_w 43, 3, 0, 0, 0, 192000, 930), (66, .invokevirtual 184, 3, 1, 135, 0, 4, 1054), (69, .l2i, 1, 0, 0, 0, 0, 0), (70, .putfield 209, 3, 8, 11, 0, 0, 845),
  (73, .aload_n 0, 1, 0, 0, 0, 0, 0), (74, .getfield 177, 3, 8, 7, 0, 0, 841), (77, .istore_n 3, 1, 0, 0, 0, 0, 0), (78, .aload_n 0, 1, 0, 0, 0, 0, 0),
  (79, .iconst 4, 1, 0, 0, 0, 0, 0), (80, .iconst 0, 1, 0, 0, 0, 0, 0), (81, .lconst 0, 1, 0, 0, 0, 0, 0), (82, .ldc2_w 212, 3, 0, 0, 0, 4294967295, 1098),
  (85, .invokevirtual 184, 3, 1, 135, 0, 4, 1054), (88, .lstore 4, 2, 0, 0, 0, 0, 0), (90, .aload_n 0, 1, 0, 0, 0, 0, 0), (91, .aload_n 0, 1, 0, 0, 0, 0, 0),
  (92, .iconst 2, 1, 0, 0, 0, 0, 0), (93, .iconst 0, 1, 0, 0, 0, 0, 0), (94, .aload_n 0, 1, 0, 0, 0, 0, 0), (95, .getfield 199, 3, 8, 12, 0, 0, 846),
  (98, .iconst 1, 1, 0, 0, 0, 0, 0), (99, .if_icmp .ne 7, 3, 0, 0, 0, 0, 0), (102, .lconst 1, 1, 0, 0, 0, 0, 0), (103, .goto 21, 3, 0, 0, 0, 0, 0),
  (106, .aload_n 0, 1, 0, 0, 0, 0, 0), (107, .getfield 199, 3, 8, 12, 0, 0, 846), (110, .bipush 17, 2, 0, 0, 0, 0, 0), (112, .if_icmp .ne 9, 3, 0, 0, 0, 0, 0),
  (115, .ldc2_w 214, 3, 0, 0, 0, 5, 1099), (118, .goto 6, 3, 0, 0, 0, 0, 0), (121, .ldc2_w 163, 3, 0, 0, 0, 8, 941), (124, .aload_n 0, 1, 0, 0, 0, 0, 0),
  (125, .getfield 199, 3, 8, 12, 0, 0, 846), (128, .iconst 1, 1, 0, 0, 0, 0, 0), (129, .if_icmp .ne 9, 3, 0, 0, 0, 0, 0), (132, .ldc2_w 110, 3, 0, 0, 0, 2, 974),
  (135, .goto 21, 3, 0, 0, 0, 0, 0), (138, .aload_n 0, 1, 0, 0, 0, 0, 0), (139, .getfield 199, 3, 8, 12, 0, 0, 846), (142, .bipush 17, 2, 0, 0, 0, 0, 0),
  (144, .if_icmp .ne 9, 3, 0, 0, 0, 0, 0), (147, .ldc2_w 216, 3, 0, 0, 0, 12, 1100), (150, .goto 6, 3, 0, 0, 0, 0, 0), (153, .ldc2_w 218, 3, 0, 0, 0, 15, 1101),
  (156, .invokevirtual 184, 3, 1, 135, 0, 4, 1054), (159, .l2i, 1, 0, 0, 0, 0, 0), (160, .putfield 202, 3, 8, 13, 0, 0, 847), (163, .aload_n 0, 1, 0, 0, 0, 0, 0),
  (164, .iconst 2, 1, 0, 0, 0, 0, 0), (165, .iconst 0, 1, 0, 0, 0, 0, 0), (166, .aload_n 0, 1, 0, 0, 0, 0, 0), (167, .getfield 199, 3, 8, 12, 0, 0, 846),
  (170, .iconst 1, 1, 0, 0, 0, 0, 0), (171, .if_icmp .ne 14, 3, 0, 0, 0, 0, 0), (174, .bipush 8, 2, 0, 0, 0, 0, 0), (176, .aload_n 0, 1, 0, 0, 0, 0, 0),
  (177, .getfield 202, 3, 8, 13, 0, 0, 847), (180, .imul, 1, 0, 0, 0, 0, 0), (181, .i2l, 1, 0, 0, 0, 0, 0), (182, .goto 6, 3, 0, 0, 0, 0, 0),
  (185, .ldc2_w 112, 3, 0, 0, 0, 4, 939), (188, .invokevirtual 195, 3, 1, 136, 0, 3, 1050), (191, .aload_n 0, 1, 0, 0, 0, 0, 0), (192, .getfield 199, 3, 8, 12, 0, 0, 846),
  (195, .iconst 1, 1, 0, 0, 0, 0, 0), (196, .if_icmp .eq 38, 3, 0, 0, 0, 0, 0), (199, .aload_n 0, 1, 0, 0, 0, 0, 0), (200, .iconst 2, 1, 0, 0, 0, 0, 0),
  (201, .iconst 0, 1, 0, 0, 0, 0, 0), (202, .aload_n 0, 1, 0, 0, 0, 0, 0), (203, .getfield 199, 3, 8, 12, 0, 0, 846), (206, .bipush 17, 2, 0, 0, 0, 0, 0),
  (208, .if_icmp .ne 9, 3, 0, 0, 0, 0, 0), (211, .ldc2_w 110, 3, 0, 0, 0, 2, 974), (214, .goto 6, 3, 0, 0, 0, 0, 0), (217, .ldc2_w 114, 3, 0, 0, 0, 32, 975),
  (220, .invokevirtual 195, 3, 1, 136, 0, 3, 1050), (223, .aload_n 0, 1, 0, 0, 0, 0, 0), (224, .iconst 2, 1, 0, 0, 0, 0, 0), (225, .iconst 0, 1, 0, 0, 0, 0, 0),
  (226, .aload_n 0, 1, 0, 0, 0, 0, 0), (227, .invokevirtual 220, 3, 1, 140, 0, 0, 1102), (230, .i2l, 1, 0, 0, 0, 0, 0), (231, .invokevirtual 195, 3, 1, 136, 0, 3, 1050),
  (234, .aload_n 0, 1, 0, 0, 0, 0, 0), (235, .getfield 199, 3, 8, 12, 0, 0, 846), (238, .iconst 2, 1, 0, 0, 0, 0, 0), (239, .if_icmp .ne 55, 3, 0, 0, 0, 0, 0),
  (242, .aload_n 0, 1, 0, 0, 0, 0, 0), (243, .iconst 2, 1, 0, 0, 0, 0, 0), (244, .iconst 0, 1, 0, 0, 0, 0, 0), (245, .ldc2_w 116, 3, 0, 0, 0, 7, 976),
  (248, .invokevirtual 195, 3, 1, 136, 0, 3, 1050), (251, .iconst 0, 1, 0, 0, 0, 0, 0), (252, .istore 6, 2, 0, 0, 0, 0, 0), (254, .iload 6, 2, 0, 0, 0, 0, 0),
  (256, .bipush 7, 2, 0, 0, 0, 0, 0), (258, .if_icmp .ge 36, 3, 0, 0, 0, 0, 0), (261, .aload_n 0, 1, 0, 0, 0, 0, 0), (262, .iconst 2, 1, 0, 0, 0, 0, 0),
  (263, .iconst 0, 1, 0, 0, 0, 0, 0), (264, .iload 6, 2, 0, 0, 0, 0, 0), (266, .invokestatic 61, 3, 0, 112, 0, 1, 977), (269, .i2l, 1, 0, 0, 0, 0, 0),
  (270, .invokevirtual 195, 3, 1, 136, 0, 3, 1050), (273, .aload_n 0, 1, 0, 0, 0, 0, 0), (274, .iconst 2, 1, 0, 0, 0, 0, 0), (275, .iconst 0, 1, 0, 0, 0, 0, 0),
  (276, .iload 6, 2, 0, 0, 0, 0, 0), (278, .invokestatic 67, 3, 0, 113, 0, 1, 980), (281, .ldc 224, 2, 0, 0, 0, 65535, 1106), (283, .iand, 1, 0, 0, 0, 0, 0),
  (284, .i2l, 1, 0, 0, 0, 0, 0), (285, .invokevirtual 195, 3, 1, 136, 0, 3, 1050), (288, .iinc 6 1, 3, 0, 0, 0, 0, 0), (291, .goto (-37), 3, 0, 0, 0, 0, 0),
  (294, .aload_n 0, 1, 0, 0, 0, 0, 0), (295, .getfield 173, 3, 8, 8, 0, 0, 842), (298, .ifCond .ne 34, 3, 0, 0, 0, 0, 0), (301, .lload 4, 2, 0, 0, 0, 0, 0),
  (303, .aload_n 0, 1, 0, 0, 0, 0, 0), (304, .getfield 209, 3, 8, 11, 0, 0, 845), (307, .aload_n 0, 1, 0, 0, 0, 0, 0), (308, .getfield 202, 3, 8, 13, 0, 0, 847),
  (311, .imul, 1, 0, 0, 0, 0, 0), (312, .aload_n 0, 1, 0, 0, 0, 0, 0), (313, .invokevirtual 220, 3, 1, 140, 0, 0, 1102), (316, .idiv, 1, 0, 0, 0, 0, 0),
  (317, .i2l, 1, 0, 0, 0, 0, 0), (318, .lcmp, 1, 0, 0, 0, 0, 0), (319, .ifCond .eq 13, 3, 0, 0, 0, 0, 0), (322, .aload_n 0, 1, 0, 0, 0, 0, 0), (323, .iconst 1, 1, 0, 0, 0, 0, 0),
  (324, .putfield 173, 3, 8, 8, 0, 0, 842), (327, .aload_n 0, 1, 0, 0, 0, 0, 0), (328, .iload_n 3, 1, 0, 0, 0, 0, 0), (329, .putfield 177, 3, 8, 7, 0, 0, 841),
  (332, .aload_n 0, 1, 0, 0, 0, 0, 0), (333, .iconst 1, 1, 0, 0, 0, 0, 0), (334, .putfield 225, 3, 8, 15, 0, 0, 849), (337, .return_, 1, 0, 0, 0, 0, 0)]
def am_c_mo_readCount : List am_E := [
  (0, .aload_n 0, 1, 0, 0, 0, 0, 0), (1, .iconst 0, 1, 0, 0, 0, 0, 0), (2, .ldc2_w 112, 3, 0, 0, 0, 4, 939), (5, .ldc2_w 112, 3, 0, 0, 0, 4, 939),
  (8, .ldc2_w 112, 3, 0, 0, 0, 4, 939), (11, .invokevirtual 188, 3, 1, 137, 0, 4, 1066), (14, .istore_n 1, 1, 0, 0, 0, 0, 0), (15, .aload_n 0, 1, 0, 0, 0, 0, 0),
  (16, .iload_n 1, 1, 0, 0, 0, 0, 0), (17, .iconst 4, 1, 0, 0, 0, 0, 0), (18, .if_icmp .ne 17, 3, 0, 0, 0, 0, 0), (21, .aload_n 0, 1, 0, 0, 0, 0, 0),
  (22, .iconst 4, 1, 0, 0, 0, 0, 0), (23, .iconst 0, 1, 0, 0, 0, 0, 0), (24, .lconst 0, 1, 0, 0, 0, 0, 0), (25, .ldc2_w 228, 3, 0, 0, 0, 64, 1070),
  (28, .invokevirtual 184, 3, 1, 135, 0, 4, 1054), (31, .l2i, 1, 0, 0, 0, 0, 0), (32, .goto 4, 3, 0, 0, 0, 0, 0), (35, .iconst 0, 1, 0, 0, 0, 0, 0),
  (36, .putfield 230, 3, 8, 10, 0, 0, 844), (39, .aload_n 0, 1, 0, 0, 0, 0, 0), (40, .iconst 1, 1, 0, 0, 0, 0, 0), (41, .putfield 233, 3, 8, 16, 0, 0, 850),
  (44, .return_, 1, 0, 0, 0, 0, 0)]
def am_c_mo_signed : List am_E := [
  (0, .lload_n 0, 1, 0, 0, 0, 0, 0), (1, .iload_n 2, 1, 0, 0, 0, 0, 0), (2, .iconst 1, 1, 0, 0, 0, 0, 0), (3, .isub, 1, 0, 0, 0, 0, 0), (4, .lshr, 1, 0, 0, 0, 0, 0),
  (5, .lconst 1, 1, 0, 0, 0, 0, 0), (6, .lcmp, 1, 0, 0, 0, 0, 0), (7, .ifCond .ne 11, 3, 0, 0, 0, 0, 0), (10, .lload_n 0, 1, 0, 0, 0, 0, 0), (11, .lconst 1, 1, 0, 0, 0, 0, 0),
  (12, .iload_n 2, 1, 0, 0, 0, 0, 0), (13, .lshl, 1, 0, 0, 0, 0, 0), (14, .lsub, 1, 0, 0, 0, 0, 0), (15, .goto 4, 3, 0, 0, 0, 0, 0), (18, .lload_n 0, 1, 0, 0, 0, 0, 0),
  (19, .l2i, 1, 0, 0, 0, 0, 0), (20, .ireturn, 1, 0, 0, 0, 0, 0)]
def am_c_mo_keep : List am_E := [
  (0, .iload_n 1, 1, 0, 0, 0, 0, 0), (1, .aload_n 0, 1, 0, 0, 0, 0, 0), (2, .getfield 230, 3, 8, 10, 0, 0, 844), (5, .if_icmp .ge 13, 3, 0, 0, 0, 0, 0),
  (8, .aload_n 0, 1, 0, 0, 0, 0, 0), (9, .getfield 23, 3, 8, 9, 0, 0, 843), (12, .iload_n 1, 1, 0, 0, 0, 0, 0), (13, .aload_n 0, 1, 0, 0, 0, 0, 0),
  (14, .getfield 52, 3, 8, 17, 0, 0, 851), (17, .iastore, 1, 0, 0, 0, 0, 0), (18, .return_, 1, 0, 0, 0, 0, 0)]
def am_c_mo_readStepped : List am_E := [
  (0, .aload_n 0, 1, 0, 0, 0, 0, 0), (1, .aload_n 0, 1, 0, 0, 0, 0, 0), (2, .iconst 2, 1, 0, 0, 0, 0, 0), (3, .iconst 0, 1, 0, 0, 0, 0, 0), (4, .lconst 0, 1, 0, 0, 0, 0, 0),
  (5, .ldc2_w 236, 3, 0, 0, 0, 65535, 1119), (8, .invokevirtual 184, 3, 1, 135, 0, 4, 1054), (11, .bipush 16, 2, 0, 0, 0, 0, 0), (13, .invokestatic 238, 3, 0, 143, 0, 2, 1077),
  (16, .putfield 52, 3, 8, 17, 0, 0, 851), (19, .aload_n 0, 1, 0, 0, 0, 0, 0), (20, .aload_n 0, 1, 0, 0, 0, 0, 0), (21, .iconst 1, 1, 0, 0, 0, 0, 0),
  (22, .iconst 0, 1, 0, 0, 0, 0, 0), (23, .lconst 0, 1, 0, 0, 0, 0, 0), (24, .ldc2_w 242, 3, 0, 0, 0, 88, 1120), (27, .invokevirtual 184, 3, 1, 135, 0, 4, 1054),
  (30, .l2i, 1, 0, 0, 0, 0, 0), (31, .putfield 45, 3, 8, 19, 0, 0, 853), (34, .aload_n 0, 1, 0, 0, 0, 0, 0), (35, .iconst 1, 1, 0, 0, 0, 0, 0), (36, .iconst 0, 1, 0, 0, 0, 0, 0),
  (37, .lconst 0, 1, 0, 0, 0, 0, 0), (38, .invokevirtual 195, 3, 1, 136, 0, 3, 1050), (41, .aload_n 0, 1, 0, 0, 0, 0, 0), (42, .iload_n 1, 1, 0, 0, 0, 0, 0),
  (43, .invokevirtual 244, 3, 1, 144, 0, 1, 1121), (46, .iconst 1, 1, 0, 0, 0, 0, 0), (47, .istore_n 2, 1, 0, 0, 0, 0, 0), (48, .iload_n 2, 1, 0, 0, 0, 0, 0),
  (49, .aload_n 0, 1, 0, 0, 0, 0, 0), (50, .invokevirtual 220, 3, 1, 140, 0, 0, 1102), (53, .if_icmp .ge 60, 3, 0, 0, 0, 0, 0), (56, .aload_n 0, 1, 0, 0, 0, 0, 0),
  (57, .getfield 173, 3, 8, 8, 0, 0, 842), (60, .ifCond .ne 53, 3, 0, 0, 0, 0, 0), (63, .aload_n 0, 1, 0, 0, 0, 0, 0), (64, .iconst 1, 1, 0, 0, 0, 0, 0),
  (65, .iconst 0, 1, 0, 0, 0, 0, 0), (66, .lconst 0, 1, 0, 0, 0, 0, 0), (67, .ldc2_w 247, 3, 0, 0, 0, 255, 1125), (70, .invokevirtual 184, 3, 1, 135, 0, 4, 1054),
  (73, .l2i, 1, 0, 0, 0, 0, 0), (74, .istore_n 3, 1, 0, 0, 0, 0, 0), (75, .aload_n 0, 1, 0, 0, 0, 0, 0), (76, .iload_n 3, 1, 0, 0, 0, 0, 0), (77, .bipush 16, 2, 0, 0, 0, 0, 0),
  (79, .irem, 1, 0, 0, 0, 0, 0), (80, .invokevirtual 87, 3, 1, 116, 0, 1, 1018), (83, .aload_n 0, 1, 0, 0, 0, 0, 0), (84, .iload_n 1, 1, 0, 0, 0, 0, 0),
  (85, .iload_n 2, 1, 0, 0, 0, 0, 0), (86, .iadd, 1, 0, 0, 0, 0, 0), (87, .invokevirtual 244, 3, 1, 144, 0, 1, 1121), (90, .aload_n 0, 1, 0, 0, 0, 0, 0),
  (91, .iload_n 3, 1, 0, 0, 0, 0, 0), (92, .bipush 16, 2, 0, 0, 0, 0, 0), (94, .idiv, 1, 0, 0, 0, 0, 0), (95, .invokevirtual 87, 3, 1, 116, 0, 1, 1018),
  (98, .aload_n 0, 1, 0, 0, 0, 0, 0), (99, .iload_n 1, 1, 0, 0, 0, 0, 0), (100, .iload_n 2, 1, 0, 0, 0, 0, 0), (101, .iadd, 1, 0, 0, 0, 0, 0), (102, .iconst 1, 1, 0, 0, 0, 0, 0),
  (103, .iadd, 1, 0, 0, 0, 0, 0), (104, .invokevirtual 244, 3, 1, 144, 0, 1, 1121), (107, .iinc 2 2, 3, 0, 0, 0, 0, 0), (110, .goto (-62), 3, 0, 0, 0, 0, 0),
  (113, .return_, 1, 0, 0, 0, 0, 0)]
def am_c_mo_readPredicted : List am_E := [
  (0, .aload_n 0, 1, 0, 0, 0, 0, 0), (1, .iconst 1, 1, 0, 0, 0, 0, 0), (2, .iconst 0, 1, 0, 0, 0, 0, 0), (3, .lconst 0, 1, 0, 0, 0, 0, 0), (4, .ldc2_w 249, 3, 0, 0, 0, 6, 1130),
  (7, .invokevirtual 184, 3, 1, 135, 0, 4, 1054), (10, .l2i, 1, 0, 0, 0, 0, 0), (11, .istore_n 2, 1, 0, 0, 0, 0, 0), (12, .aload_n 0, 1, 0, 0, 0, 0, 0),
  (13, .aload_n 0, 1, 0, 0, 0, 0, 0), (14, .iconst 2, 1, 0, 0, 0, 0, 0), (15, .iconst 0, 1, 0, 0, 0, 0, 0), (16, .lconst 1, 1, 0, 0, 0, 0, 0),
  (17, .ldc2_w 236, 3, 0, 0, 0, 65535, 1119), (20, .invokevirtual 184, 3, 1, 135, 0, 4, 1054), (23, .l2i, 1, 0, 0, 0, 0, 0), (24, .putfield 70, 3, 8, 20, 0, 0, 854),
  (27, .aload_n 0, 1, 0, 0, 0, 0, 0), (28, .iconst 2, 1, 0, 0, 0, 0, 0), (29, .iconst 0, 1, 0, 0, 0, 0, 0), (30, .lconst 0, 1, 0, 0, 0, 0, 0),
  (31, .ldc2_w 236, 3, 0, 0, 0, 65535, 1119), (34, .invokevirtual 184, 3, 1, 135, 0, 4, 1054), (37, .bipush 16, 2, 0, 0, 0, 0, 0), (39, .invokestatic 238, 3, 0, 143, 0, 2, 1077),
  (42, .istore_n 3, 1, 0, 0, 0, 0, 0), (43, .aload_n 0, 1, 0, 0, 0, 0, 0), (44, .aload_n 0, 1, 0, 0, 0, 0, 0), (45, .iconst 2, 1, 0, 0, 0, 0, 0),
  (46, .iconst 0, 1, 0, 0, 0, 0, 0), (47, .lconst 0, 1, 0, 0, 0, 0, 0), (48, .ldc2_w 236, 3, 0, 0, 0, 65535, 1119), (51, .invokevirtual 184, 3, 1, 135, 0, 4, 1054),
  (54, .bipush 16, 2, 0, 0, 0, 0, 0), (56, .invokestatic 238, 3, 0, 143, 0, 2, 1077), (59, .putfield 52, 3, 8, 17, 0, 0, 851), (62, .aload_n 0, 1, 0, 0, 0, 0, 0),
  (63, .aload_n 0, 1, 0, 0, 0, 0, 0), (64, .getfield 52, 3, 8, 17, 0, 0, 851), (67, .putfield 64, 3, 8, 18, 0, 0, 852), (70, .aload_n 0, 1, 0, 0, 0, 0, 0),
  (71, .iload_n 1, 1, 0, 0, 0, 0, 0), (72, .invokevirtual 244, 3, 1, 144, 0, 1, 1121), (75, .aload_n 0, 1, 0, 0, 0, 0, 0), (76, .iload_n 3, 1, 0, 0, 0, 0, 0),
  (77, .putfield 52, 3, 8, 17, 0, 0, 851), (80, .aload_n 0, 1, 0, 0, 0, 0, 0), (81, .iload_n 1, 1, 0, 0, 0, 0, 0), (82, .iconst 1, 1, 0, 0, 0, 0, 0),
  (83, .iadd, 1, 0, 0, 0, 0, 0), (84, .invokevirtual 244, 3, 1, 144, 0, 1, 1121), (87, .iconst 2, 1, 0, 0, 0, 0, 0), (88, .istore 4, 2, 0, 0, 0, 0, 0),
  (90, .iload 4, 2, 0, 0, 0, 0, 0), (92, .aload_n 0, 1, 0, 0, 0, 0, 0), (93, .invokevirtual 220, 3, 1, 140, 0, 0, 1102), (96, .if_icmp .ge 67, 3, 0, 0, 0, 0, 0),
  (99, .aload_n 0, 1, 0, 0, 0, 0, 0), (100, .getfield 173, 3, 8, 8, 0, 0, 842), (103, .ifCond .ne 60, 3, 0, 0, 0, 0, 0), (106, .aload_n 0, 1, 0, 0, 0, 0, 0),
  (107, .iconst 1, 1, 0, 0, 0, 0, 0), (108, .iconst 0, 1, 0, 0, 0, 0, 0), (109, .lconst 0, 1, 0, 0, 0, 0, 0), (110, .ldc2_w 247, 3, 0, 0, 0, 255, 1125),
  (113, .invokevirtual 184, 3, 1, 135, 0, 4, 1054), (116, .l2i, 1, 0, 0, 0, 0, 0), (117, .istore 5, 2, 0, 0, 0, 0, 0), (119, .aload_n 0, 1, 0, 0, 0, 0, 0),
  (120, .iload 5, 2, 0, 0, 0, 0, 0), (122, .bipush 16, 2, 0, 0, 0, 0, 0), (124, .idiv, 1, 0, 0, 0, 0, 0), (125, .iload_n 2, 1, 0, 0, 0, 0, 0),
  (126, .invokevirtual 91, 3, 1, 118, 0, 2, 1022), (129, .aload_n 0, 1, 0, 0, 0, 0, 0), (130, .iload_n 1, 1, 0, 0, 0, 0, 0), (131, .iload 4, 2, 0, 0, 0, 0, 0),
  (133, .iadd, 1, 0, 0, 0, 0, 0), (134, .invokevirtual 244, 3, 1, 144, 0, 1, 1121), (137, .aload_n 0, 1, 0, 0, 0, 0, 0), (138, .iload 5, 2, 0, 0, 0, 0, 0),
  (140, .bipush 16, 2, 0, 0, 0, 0, 0), (142, .irem, 1, 0, 0, 0, 0, 0), (143, .iload_n 2, 1, 0, 0, 0, 0, 0), (144, .invokevirtual 91, 3, 1, 118, 0, 2, 1022),
  (147, .aload_n 0, 1, 0, 0, 0, 0, 0), (148, .iload_n 1, 1, 0, 0, 0, 0, 0), (149, .iload 4, 2, 0, 0, 0, 0, 0), (151, .iadd, 1, 0, 0, 0, 0, 0), (152, .iconst 1, 1, 0, 0, 0, 0, 0),
  (153, .iadd, 1, 0, 0, 0, 0, 0), (154, .invokevirtual 244, 3, 1, 144, 0, 1, 1121), (157, .iinc 4 2, 3, 0, 0, 0, 0, 0), (160, .goto (-70), 3, 0, 0, 0, 0, 0),
  (163, .return_, 1, 0, 0, 0, 0, 0)]
def am_c_mo_readData : List am_E := [
  (0, .aload_n 0, 1, 0, 0, 0, 0, 0), (1, .aload_n 0, 1, 0, 0, 0, 0, 0), (2, .getfield 177, 3, 8, 7, 0, 0, 841), (5, .iconst 4, 1, 0, 0, 0, 0, 0), (6, .iconst 0, 1, 0, 0, 0, 0, 0),
  (7, .invokevirtual 180, 3, 1, 134, 0, 3, 1045), (10, .lstore_n 1, 1, 0, 0, 0, 0, 0), (11, .aload_n 0, 1, 0, 0, 0, 0, 0), (12, .getfield 199, 3, 8, 12, 0, 0, 846),
  (15, .iconst 1, 1, 0, 0, 0, 0, 0), (16, .if_icmp .ne 7, 3, 0, 0, 0, 0, 0), (19, .iconst 1, 1, 0, 0, 0, 0, 0), (20, .goto 4, 3, 0, 0, 0, 0, 0), (23, .iconst 0, 1, 0, 0, 0, 0, 0),
  (24, .istore_n 3, 1, 0, 0, 0, 0, 0), (25, .iload_n 3, 1, 0, 0, 0, 0, 0), (26, .ifCond .eq 43, 3, 0, 0, 0, 0, 0), (29, .lload_n 1, 1, 0, 0, 0, 0, 0),
  (30, .lconst 0, 1, 0, 0, 0, 0, 0), (31, .lcmp, 1, 0, 0, 0, 0, 0), (32, .ifCond .lt 33, 3, 0, 0, 0, 0, 0), (35, .lload_n 1, 1, 0, 0, 0, 0, 0), (36, .aload_n 0, 1, 0, 0, 0, 0, 0),
  (37, .getfield 202, 3, 8, 13, 0, 0, 847), (40, .i2l, 1, 0, 0, 0, 0, 0), (41, .lrem, 1, 0, 0, 0, 0, 0), (42, .lconst 0, 1, 0, 0, 0, 0, 0), (43, .lcmp, 1, 0, 0, 0, 0, 0),
  (44, .ifCond .ne 21, 3, 0, 0, 0, 0, 0), (47, .lload_n 1, 1, 0, 0, 0, 0, 0), (48, .aload_n 0, 1, 0, 0, 0, 0, 0), (49, .getfield 202, 3, 8, 13, 0, 0, 847),
  (52, .i2l, 1, 0, 0, 0, 0, 0), (53, .ldiv, 1, 0, 0, 0, 0, 0), (54, .ldc2_w 228, 3, 0, 0, 0, 64, 1070), (57, .lcmp, 1, 0, 0, 0, 0, 0), (58, .ifCond .gt 7, 3, 0, 0, 0, 0, 0),
  (61, .iconst 1, 1, 0, 0, 0, 0, 0), (62, .goto 34, 3, 0, 0, 0, 0, 0), (65, .iconst 0, 1, 0, 0, 0, 0, 0), (66, .goto 30, 3, 0, 0, 0, 0, 0), (69, .lload_n 1, 1, 0, 0, 0, 0, 0),
  (70, .aload_n 0, 1, 0, 0, 0, 0, 0), (71, .getfield 202, 3, 8, 13, 0, 0, 847), (74, .aload_n 0, 1, 0, 0, 0, 0, 0), (75, .getfield 230, 3, 8, 10, 0, 0, 844),
  (78, .aload_n 0, 1, 0, 0, 0, 0, 0), (79, .invokevirtual 220, 3, 1, 140, 0, 0, 1102), (82, .invokestatic 139, 3, 0, 129, 0, 2, 985), (85, .imul, 1, 0, 0, 0, 0, 0),
  (86, .i2l, 1, 0, 0, 0, 0, 0), (87, .lcmp, 1, 0, 0, 0, 0, 0), (88, .ifCond .ne 7, 3, 0, 0, 0, 0, 0), (91, .iconst 1, 1, 0, 0, 0, 0, 0), (92, .goto 4, 3, 0, 0, 0, 0, 0),
  (95, .iconst 0, 1, 0, 0, 0, 0, 0), (96, .istore 4, 2, 0, 0, 0, 0, 0), (98, .iload 4, 2, 0, 0, 0, 0, 0), (100, .ifCond .ne 9, 3, 0, 0, 0, 0, 0),
  (103, .aload_n 0, 1, 0, 0, 0, 0, 0), (104, .iconst 1, 1, 0, 0, 0, 0, 0), (105, .putfield 173, 3, 8, 8, 0, 0, 842), (108, .return_, 1, 0, 0, 0, 0, 0),
  (109, .aload_n 0, 1, 0, 0, 0, 0, 0), (110, .iconst 0, 1, 0, 0, 0, 0, 0), (111, .lload_n 1, 1, 0, 0, 0, 0, 0), (112, .lload_n 1, 1, 0, 0, 0, 0, 0),
  (113, .lload_n 1, 1, 0, 0, 0, 0, 0), (114, .invokevirtual 188, 3, 1, 137, 0, 4, 1066), (117, .istore 5, 2, 0, 0, 0, 0, 0), (119, .iload_n 3, 1, 0, 0, 0, 0, 0),
  (120, .ifCond .eq 14, 3, 0, 0, 0, 0, 0), (123, .aload_n 0, 1, 0, 0, 0, 0, 0), (124, .iload 5, 2, 0, 0, 0, 0, 0), (126, .aload_n 0, 1, 0, 0, 0, 0, 0),
  (127, .getfield 202, 3, 8, 13, 0, 0, 847), (130, .idiv, 1, 0, 0, 0, 0, 0), (131, .putfield 230, 3, 8, 10, 0, 0, 844), (134, .iconst 0, 1, 0, 0, 0, 0, 0),
  (135, .istore 6, 2, 0, 0, 0, 0, 0), (137, .iload 6, 2, 0, 0, 0, 0, 0), (139, .aload_n 0, 1, 0, 0, 0, 0, 0), (140, .getfield 230, 3, 8, 10, 0, 0, 844),
  (143, .if_icmp .ge 108, 3, 0, 0, 0, 0, 0), (146, .aload_n 0, 1, 0, 0, 0, 0, 0), (147, .getfield 173, 3, 8, 8, 0, 0, 842), (150, .ifCond .ne 101, 3, 0, 0, 0, 0, 0),
  (153, .aload_n 0, 1, 0, 0, 0, 0, 0), (154, .getfield 199, 3, 8, 12, 0, 0, 846), (157, .bipush 17, 2, 0, 0, 0, 0, 0), (159, .if_icmp .ne 12, 3, 0, 0, 0, 0, 0),
  (162, .aload_n 0, 1, 0, 0, 0, 0, 0), (163, .iload 6, 2, 0, 0, 0, 0, 0), (165, .invokevirtual 251, 3, 1, 145, 0, 1, 1115), (168, .goto 71, 3, 0, 0, 0, 0, 0),
  (171, .aload_n 0, 1, 0, 0, 0, 0, 0), (172, .getfield 199, 3, 8, 12, 0, 0, 846), (175, .iconst 2, 1, 0, 0, 0, 0, 0), (176, .if_icmp .ne 12, 3, 0, 0, 0, 0, 0),
  (179, .aload_n 0, 1, 0, 0, 0, 0, 0), (180, .iload 6, 2, 0, 0, 0, 0, 0), (182, .invokevirtual 254, 3, 1, 146, 0, 1, 1126), (185, .goto 54, 3, 0, 0, 0, 0, 0),
  (188, .aload_n 0, 1, 0, 0, 0, 0, 0), (189, .aload_n 0, 1, 0, 0, 0, 0, 0), (190, .getfield 202, 3, 8, 13, 0, 0, 847), (193, .iconst 0, 1, 0, 0, 0, 0, 0),
  (194, .lconst 0, 1, 0, 0, 0, 0, 0), (195, .ldc2_w 236, 3, 0, 0, 0, 65535, 1119), (198, .invokevirtual 184, 3, 1, 135, 0, 4, 1054), (201, .lstore 7, 2, 0, 0, 0, 0, 0),
  (203, .aload_n 0, 1, 0, 0, 0, 0, 0), (204, .getfield 23, 3, 8, 9, 0, 0, 843), (207, .iload 6, 2, 0, 0, 0, 0, 0), (209, .aload_n 0, 1, 0, 0, 0, 0, 0),
  (210, .getfield 202, 3, 8, 13, 0, 0, 847), (213, .iconst 1, 1, 0, 0, 0, 0, 0), (214, .if_icmp .ne 17, 3, 0, 0, 0, 0, 0), (217, .sipush 256, 3, 0, 0, 0, 0, 0),
  (220, .lload 7, 2, 0, 0, 0, 0, 0), (222, .l2i, 1, 0, 0, 0, 0, 0), (223, .sipush 128, 3, 0, 0, 0, 0, 0), (226, .isub, 1, 0, 0, 0, 0, 0), (227, .imul, 1, 0, 0, 0, 0, 0),
  (228, .goto 10, 3, 0, 0, 0, 0, 0), (231, .lload 7, 2, 0, 0, 0, 0, 0), (233, .bipush 16, 2, 0, 0, 0, 0, 0), (235, .invokestatic 238, 3, 0, 143, 0, 2, 1077),
  (238, .iastore, 1, 0, 0, 0, 0, 0), (239, .iload 6, 2, 0, 0, 0, 0, 0), (241, .aload_n 0, 1, 0, 0, 0, 0, 0), (242, .invokevirtual 220, 3, 1, 140, 0, 0, 1102),
  (245, .iadd, 1, 0, 0, 0, 0, 0), (246, .istore 6, 2, 0, 0, 0, 0, 0), (248, .goto (-111), 3, 0, 0, 0, 0, 0), (251, .aload_n 0, 1, 0, 0, 0, 0, 0),
  (252, .iload 5, 2, 0, 0, 0, 0, 0), (254, .invokevirtual 192, 3, 1, 139, 0, 1, 1080), (257, .return_, 1, 0, 0, 0, 0, 0)]
def am_c_mo_readWave : List am_E := [
  (0, .iconst 0, 1, 0, 0, 0, 0, 0), (1, .istore_n 1, 1, 0, 0, 0, 0, 0), (2, .aload_n 0, 1, 0, 0, 0, 0, 0), (3, .getfield 173, 3, 8, 8, 0, 0, 842),
  (6, .ifCond .ne 204, 3, 0, 0, 0, 0, 0), (9, .iload_n 1, 1, 0, 0, 0, 0, 0), (10, .ifCond .ne 200, 3, 0, 0, 0, 0, 0), (13, .aload_n 0, 1, 0, 0, 0, 0, 0),
  (14, .aload_n 0, 1, 0, 0, 0, 0, 0), (15, .getfield 177, 3, 8, 7, 0, 0, 841), (18, .iconst 4, 1, 0, 0, 0, 0, 0), (19, .iconst 1, 1, 0, 0, 0, 0, 0),
  (20, .invokevirtual 180, 3, 1, 134, 0, 3, 1045), (23, .lstore_n 2, 1, 0, 0, 0, 0, 0), (24, .lload_n 2, 1, 0, 0, 0, 0, 0), (25, .ldc2_w 118, 3, 0, 0, 0, 1717658484, 983),
  (28, .lcmp, 1, 0, 0, 0, 0, 0), (29, .ifCond .ne 22, 3, 0, 0, 0, 0, 0), (32, .aload_n 0, 1, 0, 0, 0, 0, 0), (33, .getfield 225, 3, 8, 15, 0, 0, 849),
  (36, .ifCond .eq 15, 3, 0, 0, 0, 0, 0), (39, .aload_n 0, 1, 0, 0, 0, 0, 0), (40, .getfield 199, 3, 8, 12, 0, 0, 846), (43, .iconst 1, 1, 0, 0, 0, 0, 0),
  (44, .if_icmp .eq 7, 3, 0, 0, 0, 0, 0), (47, .iconst 1, 1, 0, 0, 0, 0, 0), (48, .goto 4, 3, 0, 0, 0, 0, 0), (51, .iconst 0, 1, 0, 0, 0, 0, 0), (52, .istore 4, 2, 0, 0, 0, 0, 0),
  (54, .aload_n 0, 1, 0, 0, 0, 0, 0), (55, .getfield 225, 3, 8, 15, 0, 0, 849), (58, .ifCond .eq 18, 3, 0, 0, 0, 0, 0), (61, .aload_n 0, 1, 0, 0, 0, 0, 0),
  (62, .getfield 199, 3, 8, 12, 0, 0, 846), (65, .iconst 1, 1, 0, 0, 0, 0, 0), (66, .if_icmp .eq 14, 3, 0, 0, 0, 0, 0), (69, .aload_n 0, 1, 0, 0, 0, 0, 0),
  (70, .getfield 233, 3, 8, 16, 0, 0, 850), (73, .ifCond .ne 7, 3, 0, 0, 0, 0, 0), (76, .iconst 1, 1, 0, 0, 0, 0, 0), (77, .goto 4, 3, 0, 0, 0, 0, 0),
  (80, .iconst 0, 1, 0, 0, 0, 0, 0), (81, .istore 5, 2, 0, 0, 0, 0, 0), (83, .lload_n 2, 1, 0, 0, 0, 0, 0), (84, .lconst 0, 1, 0, 0, 0, 0, 0), (85, .lcmp, 1, 0, 0, 0, 0, 0),
  (86, .ifCond .ge 16, 3, 0, 0, 0, 0, 0), (89, .aload_n 0, 1, 0, 0, 0, 0, 0), (90, .getfield 177, 3, 8, 7, 0, 0, 841), (93, .iconst 4, 1, 0, 0, 0, 0, 0),
  (94, .iadd, 1, 0, 0, 0, 0, 0), (95, .aload_n 0, 1, 0, 0, 0, 0, 0), (96, .getfield 95, 3, 8, 4, 0, 0, 838), (99, .if_icmp .gt 43, 3, 0, 0, 0, 0, 0),
  (102, .lload_n 2, 1, 0, 0, 0, 0, 0), (103, .ldc2_w 102, 3, 0, 0, 0, 1718449184, 972), (106, .lcmp, 1, 0, 0, 0, 0, 0), (107, .ifCond .ne 10, 3, 0, 0, 0, 0, 0),
  (110, .aload_n 0, 1, 0, 0, 0, 0, 0), (111, .getfield 225, 3, 8, 15, 0, 0, 849), (114, .ifCond .ne 28, 3, 0, 0, 0, 0, 0), (117, .iload 4, 2, 0, 0, 0, 0, 0),
  (119, .ifCond .eq 10, 3, 0, 0, 0, 0, 0), (122, .aload_n 0, 1, 0, 0, 0, 0, 0), (123, .getfield 233, 3, 8, 16, 0, 0, 850), (126, .ifCond .ne 16, 3, 0, 0, 0, 0, 0),
  (129, .lload_n 2, 1, 0, 0, 0, 0, 0), (130, .ldc2_w 137, 3, 0, 0, 0, 1684108385, 984), (133, .lcmp, 1, 0, 0, 0, 0, 0), (134, .ifCond .ne 14, 3, 0, 0, 0, 0, 0),
  (137, .iload 5, 2, 0, 0, 0, 0, 0), (139, .ifCond .eq 9, 3, 0, 0, 0, 0, 0), (142, .aload_n 0, 1, 0, 0, 0, 0, 0), (143, .iconst 1, 1, 0, 0, 0, 0, 0),
  (144, .putfield 173, 3, 8, 8, 0, 0, 842), (147, .return_, 1, 0, 0, 0, 0, 0), (148, .aload_n 0, 1, 0, 0, 0, 0, 0), (149, .aload_n 0, 1, 0, 0, 0, 0, 0),
  (150, .getfield 177, 3, 8, 7, 0, 0, 841), (153, .iconst 4, 1, 0, 0, 0, 0, 0), (154, .iadd, 1, 0, 0, 0, 0, 0), (155, .putfield 177, 3, 8, 7, 0, 0, 841),
  (158, .lload_n 2, 1, 0, 0, 0, 0, 0), (159, .ldc2_w 102, 3, 0, 0, 0, 1718449184, 972), (162, .lcmp, 1, 0, 0, 0, 0, 0), (163, .ifCond .ne 10, 3, 0, 0, 0, 0, 0),
  (166, .aload_n 0, 1, 0, 0, 0, 0, 0), (167, .invokevirtual 257, 3, 1, 141, 0, 0, 1092), (170, .goto 37, 3, 0, 0, 0, 0, 0), (173, .iload 4, 2, 0, 0, 0, 0, 0),
  (175, .ifCond .eq 10, 3, 0, 0, 0, 0, 0), (178, .aload_n 0, 1, 0, 0, 0, 0, 0), (179, .invokevirtual 260, 3, 1, 142, 0, 0, 1107), (182, .goto 25, 3, 0, 0, 0, 0, 0),
  (185, .lload_n 2, 1, 0, 0, 0, 0, 0), (186, .ldc2_w 137, 3, 0, 0, 0, 1684108385, 984), (189, .lcmp, 1, 0, 0, 0, 0, 0), (190, .ifCond .ne 12, 3, 0, 0, 0, 0, 0),
  (193, .aload_n 0, 1, 0, 0, 0, 0, 0), (194, .invokevirtual 263, 3, 1, 147, 0, 0, 1111), (197, .iconst 1, 1, 0, 0, 0, 0, 0), (198, .istore_n 1, 1, 0, 0, 0, 0, 0),
  (199, .goto 8, 3, 0, 0, 0, 0, 0), (202, .aload_n 0, 1, 0, 0, 0, 0, 0), (203, .iconst 0, 1, 0, 0, 0, 0, 0), (204, .invokevirtual 266, 3, 1, 138, 0, 1, 1084),
  (207, .goto (-205), 3, 0, 0, 0, 0, 0), (210, .return_, 1, 0, 0, 0, 0, 0)]
def am_c_mo_readCommon : List am_E := [
  (0, .aload_n 0, 1, 0, 0, 0, 0, 0), (1, .iconst 1, 1, 0, 0, 0, 0, 0), (2, .ldc2_w 154, 3, 0, 0, 0, 18, 953), (5, .ldc2_w 154, 3, 0, 0, 0, 18, 953),
  (8, .ldc2_w 154, 3, 0, 0, 0, 18, 953), (11, .invokevirtual 188, 3, 1, 137, 0, 4, 1066), (14, .istore_n 1, 1, 0, 0, 0, 0, 0), (15, .aload_n 0, 1, 0, 0, 0, 0, 0),
  (16, .iconst 2, 1, 0, 0, 0, 0, 0), (17, .iconst 1, 1, 0, 0, 0, 0, 0), (18, .lconst 1, 1, 0, 0, 0, 0, 0), (19, .invokevirtual 195, 3, 1, 136, 0, 3, 1050),
  (22, .aload_n 0, 1, 0, 0, 0, 0, 0), (23, .aload_n 0, 1, 0, 0, 0, 0, 0), (24, .iconst 4, 1, 0, 0, 0, 0, 0), (25, .iconst 1, 1, 0, 0, 0, 0, 0), (26, .lconst 0, 1, 0, 0, 0, 0, 0),
  (27, .ldc2_w 228, 3, 0, 0, 0, 64, 1070), (30, .invokevirtual 184, 3, 1, 135, 0, 4, 1054), (33, .l2i, 1, 0, 0, 0, 0, 0), (34, .putfield 230, 3, 8, 10, 0, 0, 844),
  (37, .aload_n 0, 1, 0, 0, 0, 0, 0), (38, .aload_n 0, 1, 0, 0, 0, 0, 0), (39, .iconst 2, 1, 0, 0, 0, 0, 0), (40, .iconst 1, 1, 0, 0, 0, 0, 0), (41, .lconst 1, 1, 0, 0, 0, 0, 0),
  (42, .ldc2_w 161, 3, 0, 0, 0, 16, 940), (45, .invokevirtual 184, 3, 1, 135, 0, 4, 1054), (48, .l2i, 1, 0, 0, 0, 0, 0), (49, .putfield 270, 3, 8, 14, 0, 0, 848),
  (52, .aload_n 0, 1, 0, 0, 0, 0, 0), (53, .iconst 2, 1, 0, 0, 0, 0, 0), (54, .iconst 1, 1, 0, 0, 0, 0, 0), (55, .ldc2_w 273, 3, 0, 0, 0, 16383, 1071),
  (58, .ldc2_w 275, 3, 0, 0, 0, 16400, 1072), (61, .invokevirtual 184, 3, 1, 135, 0, 4, 1054), (64, .l2i, 1, 0, 0, 0, 0, 0), (65, .sipush 16383, 3, 0, 0, 0, 0, 0),
  (68, .isub, 1, 0, 0, 0, 0, 0), (69, .istore_n 2, 1, 0, 0, 0, 0, 0), (70, .aload_n 0, 1, 0, 0, 0, 0, 0), (71, .getfield 173, 3, 8, 8, 0, 0, 842),
  (74, .ifCond .eq 7, 3, 0, 0, 0, 0, 0), (77, .lconst 0, 1, 0, 0, 0, 0, 0), (78, .goto 13, 3, 0, 0, 0, 0, 0), (81, .aload_n 0, 1, 0, 0, 0, 0, 0),
  (82, .aload_n 0, 1, 0, 0, 0, 0, 0), (83, .getfield 177, 3, 8, 7, 0, 0, 841), (86, .iconst 4, 1, 0, 0, 0, 0, 0), (87, .iconst 1, 1, 0, 0, 0, 0, 0),
  (88, .invokevirtual 180, 3, 1, 134, 0, 3, 1045), (91, .lstore_n 3, 1, 0, 0, 0, 0, 0), (92, .aload_n 0, 1, 0, 0, 0, 0, 0), (93, .getfield 173, 3, 8, 8, 0, 0, 842),
  (96, .ifCond .eq 7, 3, 0, 0, 0, 0, 0), (99, .lconst 0, 1, 0, 0, 0, 0, 0), (100, .goto 15, 3, 0, 0, 0, 0, 0), (103, .aload_n 0, 1, 0, 0, 0, 0, 0),
  (104, .aload_n 0, 1, 0, 0, 0, 0, 0), (105, .getfield 177, 3, 8, 7, 0, 0, 841), (108, .iconst 4, 1, 0, 0, 0, 0, 0), (109, .iadd, 1, 0, 0, 0, 0, 0),
  (110, .iconst 4, 1, 0, 0, 0, 0, 0), (111, .iconst 1, 1, 0, 0, 0, 0, 0), (112, .invokevirtual 180, 3, 1, 134, 0, 3, 1045), (115, .lstore 5, 2, 0, 0, 0, 0, 0),
  (117, .aload_n 0, 1, 0, 0, 0, 0, 0), (118, .getfield 173, 3, 8, 8, 0, 0, 842), (121, .ifCond .ne 105, 3, 0, 0, 0, 0, 0), (124, .lload_n 3, 1, 0, 0, 0, 0, 0),
  (125, .bipush 31, 2, 0, 0, 0, 0, 0), (127, .iload_n 2, 1, 0, 0, 0, 0, 0), (128, .isub, 1, 0, 0, 0, 0, 0), (129, .lshr, 1, 0, 0, 0, 0, 0), (130, .lstore 7, 2, 0, 0, 0, 0, 0),
  (132, .iload_n 1, 1, 0, 0, 0, 0, 0), (133, .bipush 18, 2, 0, 0, 0, 0, 0), (135, .if_icmp .ne 44, 3, 0, 0, 0, 0, 0), (138, .lload 5, 2, 0, 0, 0, 0, 0),
  (140, .lconst 0, 1, 0, 0, 0, 0, 0), (141, .lcmp, 1, 0, 0, 0, 0, 0), (142, .ifCond .ne 37, 3, 0, 0, 0, 0, 0), (145, .lload 7, 2, 0, 0, 0, 0, 0),
  (147, .bipush 31, 2, 0, 0, 0, 0, 0), (149, .iload_n 2, 1, 0, 0, 0, 0, 0), (150, .isub, 1, 0, 0, 0, 0, 0), (151, .lshl, 1, 0, 0, 0, 0, 0), (152, .lload_n 3, 1, 0, 0, 0, 0, 0),
  (153, .lcmp, 1, 0, 0, 0, 0, 0), (154, .ifCond .ne 25, 3, 0, 0, 0, 0, 0), (157, .lload 7, 2, 0, 0, 0, 0, 0), (159, .iload_n 2, 1, 0, 0, 0, 0, 0), (160, .lshr, 1, 0, 0, 0, 0, 0),
  (161, .lconst 1, 1, 0, 0, 0, 0, 0), (162, .lcmp, 1, 0, 0, 0, 0, 0), (163, .ifCond .ne 16, 3, 0, 0, 0, 0, 0), (166, .lload 7, 2, 0, 0, 0, 0, 0),
  (168, .ldc2_w 43, 3, 0, 0, 0, 192000, 930), (171, .lcmp, 1, 0, 0, 0, 0, 0), (172, .ifCond .gt 7, 3, 0, 0, 0, 0, 0), (175, .iconst 1, 1, 0, 0, 0, 0, 0),
  (176, .goto 4, 3, 0, 0, 0, 0, 0), (179, .iconst 0, 1, 0, 0, 0, 0, 0), (180, .istore 9, 2, 0, 0, 0, 0, 0), (182, .aload_n 0, 1, 0, 0, 0, 0, 0), (183, .iload 9, 2, 0, 0, 0, 0, 0),
  (185, .ifCond .ne 7, 3, 0, 0, 0, 0, 0), (188, .iconst 1, 1, 0, 0, 0, 0, 0), (189, .goto 4, 3, 0, 0, 0, 0, 0), (192, .iconst 0, 1, 0, 0, 0, 0, 0),
  (193, .putfield 173, 3, 8, 8, 0, 0, 842), (196, .aload_n 0, 1, 0, 0, 0, 0, 0), (197, .lload 7, 2, 0, 0, 0, 0, 0), (199, .l2i, 1, 0, 0, 0, 0, 0),
  (200, .putfield 209, 3, 8, 11, 0, 0, 845), (203, .aload_n 0, 1, 0, 0, 0, 0, 0), (204, .iload 9, 2, 0, 0, 0, 0, 0), (206, .ifCond .eq 13, 3, 0, 0, 0, 0, 0),
  (209, .aload_n 0, 1, 0, 0, 0, 0, 0), (210, .getfield 177, 3, 8, 7, 0, 0, 841), (213, .bipush 8, 2, 0, 0, 0, 0, 0), (215, .iadd, 1, 0, 0, 0, 0, 0),
  (216, .goto 7, 3, 0, 0, 0, 0, 0), (219, .aload_n 0, 1, 0, 0, 0, 0, 0), (220, .getfield 177, 3, 8, 7, 0, 0, 841), (223, .putfield 177, 3, 8, 7, 0, 0, 841),
  (226, .aload_n 0, 1, 0, 0, 0, 0, 0), (227, .iconst 1, 1, 0, 0, 0, 0, 0), (228, .putfield 225, 3, 8, 15, 0, 0, 849), (231, .return_, 1, 0, 0, 0, 0, 0)]
def am_c_mo_readOtherData : List am_E := [
  (0, .aload_n 0, 1, 0, 0, 0, 0, 0), (1, .getfield 270, 3, 8, 14, 0, 0, 848), (4, .bipush 8, 2, 0, 0, 0, 0, 0), (6, .if_icmp .le 7, 3, 0, 0, 0, 0, 0),
  (9, .iconst 2, 1, 0, 0, 0, 0, 0), (10, .goto 4, 3, 0, 0, 0, 0, 0), (13, .iconst 1, 1, 0, 0, 0, 0, 0), (14, .istore_n 1, 1, 0, 0, 0, 0, 0), (15, .bipush 8, 2, 0, 0, 0, 0, 0),
  (17, .iload_n 1, 1, 0, 0, 0, 0, 0), (18, .aload_n 0, 1, 0, 0, 0, 0, 0), (19, .getfield 230, 3, 8, 10, 0, 0, 844), (22, .imul, 1, 0, 0, 0, 0, 0), (23, .iadd, 1, 0, 0, 0, 0, 0),
  (24, .istore_n 2, 1, 0, 0, 0, 0, 0), (25, .aload_n 0, 1, 0, 0, 0, 0, 0), (26, .iconst 1, 1, 0, 0, 0, 0, 0), (27, .iload_n 2, 1, 0, 0, 0, 0, 0), (28, .i2l, 1, 0, 0, 0, 0, 0),
  (29, .iload_n 2, 1, 0, 0, 0, 0, 0), (30, .i2l, 1, 0, 0, 0, 0, 0), (31, .iload_n 2, 1, 0, 0, 0, 0, 0), (32, .i2l, 1, 0, 0, 0, 0, 0),
  (33, .invokevirtual 188, 3, 1, 137, 0, 4, 1066), (36, .istore_n 3, 1, 0, 0, 0, 0, 0), (37, .aload_n 0, 1, 0, 0, 0, 0, 0), (38, .iconst 4, 1, 0, 0, 0, 0, 0),
  (39, .iconst 1, 1, 0, 0, 0, 0, 0), (40, .lconst 0, 1, 0, 0, 0, 0, 0), (41, .invokevirtual 195, 3, 1, 136, 0, 3, 1050), (44, .aload_n 0, 1, 0, 0, 0, 0, 0),
  (45, .iconst 4, 1, 0, 0, 0, 0, 0), (46, .iconst 1, 1, 0, 0, 0, 0, 0), (47, .lconst 0, 1, 0, 0, 0, 0, 0), (48, .invokevirtual 195, 3, 1, 136, 0, 3, 1050),
  (51, .iconst 0, 1, 0, 0, 0, 0, 0), (52, .istore 4, 2, 0, 0, 0, 0, 0), (54, .iload 4, 2, 0, 0, 0, 0, 0), (56, .aload_n 0, 1, 0, 0, 0, 0, 0),
  (57, .getfield 230, 3, 8, 10, 0, 0, 844), (60, .if_icmp .ge 102, 3, 0, 0, 0, 0, 0), (63, .aload_n 0, 1, 0, 0, 0, 0, 0), (64, .getfield 173, 3, 8, 8, 0, 0, 842),
  (67, .ifCond .ne 95, 3, 0, 0, 0, 0, 0), (70, .aload_n 0, 1, 0, 0, 0, 0, 0), (71, .aload_n 0, 1, 0, 0, 0, 0, 0), (72, .getfield 177, 3, 8, 7, 0, 0, 841),
  (75, .iload_n 1, 1, 0, 0, 0, 0, 0), (76, .iconst 1, 1, 0, 0, 0, 0, 0), (77, .invokevirtual 180, 3, 1, 134, 0, 3, 1045), (80, .lstore 5, 2, 0, 0, 0, 0, 0),
  (82, .bipush 8, 2, 0, 0, 0, 0, 0), (84, .iload_n 1, 1, 0, 0, 0, 0, 0), (85, .imul, 1, 0, 0, 0, 0, 0), (86, .aload_n 0, 1, 0, 0, 0, 0, 0),
  (87, .getfield 270, 3, 8, 14, 0, 0, 848), (90, .isub, 1, 0, 0, 0, 0, 0), (91, .istore 7, 2, 0, 0, 0, 0, 0), (93, .lload 5, 2, 0, 0, 0, 0, 0), (95, .lconst 1, 1, 0, 0, 0, 0, 0),
  (96, .iload 7, 2, 0, 0, 0, 0, 0), (98, .lshl, 1, 0, 0, 0, 0, 0), (99, .lconst 1, 1, 0, 0, 0, 0, 0), (100, .lsub, 1, 0, 0, 0, 0, 0), (101, .land, 1, 0, 0, 0, 0, 0),
  (102, .lconst 0, 1, 0, 0, 0, 0, 0), (103, .lcmp, 1, 0, 0, 0, 0, 0), (104, .ifCond .eq 9, 3, 0, 0, 0, 0, 0), (107, .aload_n 0, 1, 0, 0, 0, 0, 0),
  (108, .iconst 1, 1, 0, 0, 0, 0, 0), (109, .putfield 173, 3, 8, 8, 0, 0, 842), (112, .return_, 1, 0, 0, 0, 0, 0), (113, .aload_n 0, 1, 0, 0, 0, 0, 0),
  (114, .aload_n 0, 1, 0, 0, 0, 0, 0), (115, .getfield 177, 3, 8, 7, 0, 0, 841), (118, .iload_n 1, 1, 0, 0, 0, 0, 0), (119, .iadd, 1, 0, 0, 0, 0, 0),
  (120, .putfield 177, 3, 8, 7, 0, 0, 841), (123, .aload_n 0, 1, 0, 0, 0, 0, 0), (124, .getfield 23, 3, 8, 9, 0, 0, 843), (127, .iload 4, 2, 0, 0, 0, 0, 0),
  (129, .iload_n 1, 1, 0, 0, 0, 0, 0), (130, .iconst 1, 1, 0, 0, 0, 0, 0), (131, .if_icmp .ne 17, 3, 0, 0, 0, 0, 0), (134, .sipush 256, 3, 0, 0, 0, 0, 0),
  (137, .lload 5, 2, 0, 0, 0, 0, 0), (139, .bipush 8, 2, 0, 0, 0, 0, 0), (141, .invokestatic 238, 3, 0, 143, 0, 2, 1077), (144, .imul, 1, 0, 0, 0, 0, 0),
  (145, .goto 10, 3, 0, 0, 0, 0, 0), (148, .lload 5, 2, 0, 0, 0, 0, 0), (150, .bipush 16, 2, 0, 0, 0, 0, 0), (152, .invokestatic 238, 3, 0, 143, 0, 2, 1077),
  (155, .iastore, 1, 0, 0, 0, 0, 0), (156, .iinc 4 1, 3, 0, 0, 0, 0, 0), (159, .goto (-105), 3, 0, 0, 0, 0, 0), (162, .aload_n 0, 1, 0, 0, 0, 0, 0),
  (163, .iload_n 3, 1, 0, 0, 0, 0, 0), (164, .invokevirtual 192, 3, 1, 139, 0, 1, 1080), (167, .return_, 1, 0, 0, 0, 0, 0)]
def am_c_mo_readOther : List am_E := [
  (0, .iconst 0, 1, 0, 0, 0, 0, 0), (1, .istore_n 1, 1, 0, 0, 0, 0, 0), (2, .aload_n 0, 1, 0, 0, 0, 0, 0), (3, .getfield 173, 3, 8, 8, 0, 0, 842),
  (6, .ifCond .ne 117, 3, 0, 0, 0, 0, 0), (9, .iload_n 1, 1, 0, 0, 0, 0, 0), (10, .ifCond .ne 113, 3, 0, 0, 0, 0, 0), (13, .aload_n 0, 1, 0, 0, 0, 0, 0),
  (14, .aload_n 0, 1, 0, 0, 0, 0, 0), (15, .getfield 177, 3, 8, 7, 0, 0, 841), (18, .iconst 4, 1, 0, 0, 0, 0, 0), (19, .iconst 1, 1, 0, 0, 0, 0, 0),
  (20, .invokevirtual 180, 3, 1, 134, 0, 3, 1045), (23, .lstore_n 2, 1, 0, 0, 0, 0, 0), (24, .aload_n 0, 1, 0, 0, 0, 0, 0), (25, .getfield 177, 3, 8, 7, 0, 0, 841),
  (28, .iconst 4, 1, 0, 0, 0, 0, 0), (29, .iadd, 1, 0, 0, 0, 0, 0), (30, .aload_n 0, 1, 0, 0, 0, 0, 0), (31, .getfield 95, 3, 8, 4, 0, 0, 838),
  (34, .if_icmp .gt 33, 3, 0, 0, 0, 0, 0), (37, .lload_n 2, 1, 0, 0, 0, 0, 0), (38, .ldc2_w 152, 3, 0, 0, 0, 1129270605, 952), (41, .lcmp, 1, 0, 0, 0, 0, 0),
  (42, .ifCond .ne 10, 3, 0, 0, 0, 0, 0), (45, .aload_n 0, 1, 0, 0, 0, 0, 0), (46, .getfield 225, 3, 8, 15, 0, 0, 849), (49, .ifCond .ne 18, 3, 0, 0, 0, 0, 0),
  (52, .lload_n 2, 1, 0, 0, 0, 0, 0), (53, .ldc2_w 159, 3, 0, 0, 0, 1397968452, 957), (56, .lcmp, 1, 0, 0, 0, 0, 0), (57, .ifCond .ne 16, 3, 0, 0, 0, 0, 0),
  (60, .aload_n 0, 1, 0, 0, 0, 0, 0), (61, .getfield 225, 3, 8, 15, 0, 0, 849), (64, .ifCond .ne 9, 3, 0, 0, 0, 0, 0), (67, .aload_n 0, 1, 0, 0, 0, 0, 0),
  (68, .iconst 1, 1, 0, 0, 0, 0, 0), (69, .putfield 173, 3, 8, 8, 0, 0, 842), (72, .return_, 1, 0, 0, 0, 0, 0), (73, .aload_n 0, 1, 0, 0, 0, 0, 0),
  (74, .aload_n 0, 1, 0, 0, 0, 0, 0), (75, .getfield 177, 3, 8, 7, 0, 0, 841), (78, .iconst 4, 1, 0, 0, 0, 0, 0), (79, .iadd, 1, 0, 0, 0, 0, 0),
  (80, .putfield 177, 3, 8, 7, 0, 0, 841), (83, .lload_n 2, 1, 0, 0, 0, 0, 0), (84, .ldc2_w 152, 3, 0, 0, 0, 1129270605, 952), (87, .lcmp, 1, 0, 0, 0, 0, 0),
  (88, .ifCond .ne 10, 3, 0, 0, 0, 0, 0), (91, .aload_n 0, 1, 0, 0, 0, 0, 0), (92, .invokevirtual 277, 3, 1, 149, 0, 0, 1062), (95, .goto 25, 3, 0, 0, 0, 0, 0),
  (98, .lload_n 2, 1, 0, 0, 0, 0, 0), (99, .ldc2_w 159, 3, 0, 0, 0, 1397968452, 957), (102, .lcmp, 1, 0, 0, 0, 0, 0), (103, .ifCond .ne 12, 3, 0, 0, 0, 0, 0),
  (106, .aload_n 0, 1, 0, 0, 0, 0, 0), (107, .invokevirtual 280, 3, 1, 150, 0, 0, 1073), (110, .iconst 1, 1, 0, 0, 0, 0, 0), (111, .istore_n 1, 1, 0, 0, 0, 0, 0),
  (112, .goto 8, 3, 0, 0, 0, 0, 0), (115, .aload_n 0, 1, 0, 0, 0, 0, 0), (116, .iconst 1, 1, 0, 0, 0, 0, 0), (117, .invokevirtual 266, 3, 1, 138, 0, 1, 1084),
  (120, .goto (-118), 3, 0, 0, 0, 0, 0), (123, .return_, 1, 0, 0, 0, 0, 0)]
def am_c_mo_read : List am_E := [
  (0, .aload_n 0, 1, 0, 0, 0, 0, 0), (1, .iconst 0, 1, 0, 0, 0, 0, 0), (2, .putfield 29, 3, 8, 0, 0, 0, 834), (5, .aload_n 0, 1, 0, 0, 0, 0, 0), (6, .iconst 0, 1, 0, 0, 0, 0, 0),
  (7, .putfield 173, 3, 8, 8, 0, 0, 842), (10, .aload_n 0, 1, 0, 0, 0, 0, 0), (11, .iconst 0, 1, 0, 0, 0, 0, 0), (12, .putfield 177, 3, 8, 7, 0, 0, 841),
  (15, .aload_n 0, 1, 0, 0, 0, 0, 0), (16, .iconst 0, 1, 0, 0, 0, 0, 0), (17, .putfield 225, 3, 8, 15, 0, 0, 849), (20, .aload_n 0, 1, 0, 0, 0, 0, 0),
  (21, .iconst 0, 1, 0, 0, 0, 0, 0), (22, .putfield 233, 3, 8, 16, 0, 0, 850), (25, .aload_n 0, 1, 0, 0, 0, 0, 0), (26, .iconst 0, 1, 0, 0, 0, 0, 0),
  (27, .iconst 4, 1, 0, 0, 0, 0, 0), (28, .iconst 1, 1, 0, 0, 0, 0, 0), (29, .invokevirtual 180, 3, 1, 134, 0, 3, 1045), (32, .lstore_n 1, 1, 0, 0, 0, 0, 0),
  (33, .lload_n 1, 1, 0, 0, 0, 0, 0), (34, .ldc2_w 130, 3, 0, 0, 0, 1380533830, 962), (37, .lcmp, 1, 0, 0, 0, 0, 0), (38, .ifCond .eq 13, 3, 0, 0, 0, 0, 0),
  (41, .lload_n 1, 1, 0, 0, 0, 0, 0), (42, .ldc2_w 148, 3, 0, 0, 0, 1179603533, 946), (45, .lcmp, 1, 0, 0, 0, 0, 0), (46, .ifCond .eq 5, 3, 0, 0, 0, 0, 0),
  (49, .iconst 0, 1, 0, 0, 0, 0, 0), (50, .ireturn, 1, 0, 0, 0, 0, 0), (51, .lload_n 1, 1, 0, 0, 0, 0, 0), (52, .ldc2_w 148, 3, 0, 0, 0, 1179603533, 946),
  (55, .lcmp, 1, 0, 0, 0, 0, 0), (56, .ifCond .ne 7, 3, 0, 0, 0, 0, 0), (59, .iconst 1, 1, 0, 0, 0, 0, 0), (60, .goto 4, 3, 0, 0, 0, 0, 0), (63, .iconst 0, 1, 0, 0, 0, 0, 0),
  (64, .istore_n 3, 1, 0, 0, 0, 0, 0), (65, .aload_n 0, 1, 0, 0, 0, 0, 0), (66, .iconst 4, 1, 0, 0, 0, 0, 0), (67, .putfield 177, 3, 8, 7, 0, 0, 841),
  (70, .aload_n 0, 1, 0, 0, 0, 0, 0), (71, .iconst 4, 1, 0, 0, 0, 0, 0), (72, .iload_n 3, 1, 0, 0, 0, 0, 0), (73, .aload_n 0, 1, 0, 0, 0, 0, 0),
  (74, .getfield 95, 3, 8, 4, 0, 0, 838), (77, .bipush 8, 2, 0, 0, 0, 0, 0), (79, .isub, 1, 0, 0, 0, 0, 0), (80, .i2l, 1, 0, 0, 0, 0, 0),
  (81, .invokevirtual 195, 3, 1, 136, 0, 3, 1050), (84, .aload_n 0, 1, 0, 0, 0, 0, 0), (85, .iconst 4, 1, 0, 0, 0, 0, 0), (86, .iconst 1, 1, 0, 0, 0, 0, 0),
  (87, .iload_n 3, 1, 0, 0, 0, 0, 0), (88, .ifCond .eq 9, 3, 0, 0, 0, 0, 0), (91, .ldc2_w 150, 3, 0, 0, 0, 1095321158, 951), (94, .goto 6, 3, 0, 0, 0, 0, 0),
  (97, .ldc2_w 132, 3, 0, 0, 0, 1463899717, 967), (100, .invokevirtual 195, 3, 1, 136, 0, 3, 1050), (103, .aload_n 0, 1, 0, 0, 0, 0, 0), (104, .getfield 173, 3, 8, 8, 0, 0, 842),
  (107, .ifCond .ne 14, 3, 0, 0, 0, 0, 0), (110, .iload_n 3, 1, 0, 0, 0, 0, 0), (111, .ifCond .eq 10, 3, 0, 0, 0, 0, 0), (114, .aload_n 0, 1, 0, 0, 0, 0, 0),
  (115, .invokevirtual 283, 3, 1, 151, 0, 0, 1058), (118, .goto 14, 3, 0, 0, 0, 0, 0), (121, .aload_n 0, 1, 0, 0, 0, 0, 0), (122, .getfield 173, 3, 8, 8, 0, 0, 842),
  (125, .ifCond .ne 7, 3, 0, 0, 0, 0, 0), (128, .aload_n 0, 1, 0, 0, 0, 0, 0), (129, .invokevirtual 286, 3, 1, 148, 0, 0, 1088), (132, .aload_n 0, 1, 0, 0, 0, 0, 0),
  (133, .getfield 173, 3, 8, 8, 0, 0, 842), (136, .ifCond .ne 14, 3, 0, 0, 0, 0, 0), (139, .aload_n 0, 1, 0, 0, 0, 0, 0), (140, .getfield 177, 3, 8, 7, 0, 0, 841),
  (143, .aload_n 0, 1, 0, 0, 0, 0, 0), (144, .getfield 95, 3, 8, 4, 0, 0, 838), (147, .if_icmp .ge 8, 3, 0, 0, 0, 0, 0), (150, .aload_n 0, 1, 0, 0, 0, 0, 0),
  (151, .getfield 177, 3, 8, 7, 0, 0, 841), (154, .ireturn, 1, 0, 0, 0, 0, 0), (155, .aload_n 0, 1, 0, 0, 0, 0, 0), (156, .iload_n 3, 1, 0, 0, 0, 0, 0),
  (157, .ifCond .eq 7, 3, 0, 0, 0, 0, 0), (160, .iconst 4, 1, 0, 0, 0, 0, 0), (161, .goto 34, 3, 0, 0, 0, 0, 0), (164, .aload_n 0, 1, 0, 0, 0, 0, 0),
  (165, .getfield 199, 3, 8, 12, 0, 0, 846), (168, .bipush 17, 2, 0, 0, 0, 0, 0), (170, .if_icmp .ne 7, 3, 0, 0, 0, 0, 0), (173, .iconst 2, 1, 0, 0, 0, 0, 0),
  (174, .goto 21, 3, 0, 0, 0, 0, 0), (177, .aload_n 0, 1, 0, 0, 0, 0, 0), (178, .getfield 199, 3, 8, 12, 0, 0, 846), (181, .iconst 2, 1, 0, 0, 0, 0, 0),
  (182, .if_icmp .ne 7, 3, 0, 0, 0, 0, 0), (185, .iconst 3, 1, 0, 0, 0, 0, 0), (186, .goto 9, 3, 0, 0, 0, 0, 0), (189, .aload_n 0, 1, 0, 0, 0, 0, 0),
  (190, .getfield 202, 3, 8, 13, 0, 0, 847), (193, .iconst 1, 1, 0, 0, 0, 0, 0), (194, .isub, 1, 0, 0, 0, 0, 0), (195, .putfield 20, 3, 8, 6, 0, 0, 840),
  (198, .aload_n 0, 1, 0, 0, 0, 0, 0), (199, .aload_n 0, 1, 0, 0, 0, 0, 0), (200, .getfield 209, 3, 8, 11, 0, 0, 845), (203, .putfield 13, 3, 8, 3, 0, 0, 837),
  (206, .aload_n 0, 1, 0, 0, 0, 0, 0), (207, .aload_n 0, 1, 0, 0, 0, 0, 0), (208, .getfield 230, 3, 8, 10, 0, 0, 844), (211, .putfield 40, 3, 8, 1, 0, 0, 835),
  (214, .iconst 0, 1, 0, 0, 0, 0, 0), (215, .istore 4, 2, 0, 0, 0, 0, 0), (217, .iload 4, 2, 0, 0, 0, 0, 0), (219, .aload_n 0, 1, 0, 0, 0, 0, 0),
  (220, .getfield 40, 3, 8, 1, 0, 0, 835), (223, .if_icmp .ge 23, 3, 0, 0, 0, 0, 0), (226, .aload_n 0, 1, 0, 0, 0, 0, 0), (227, .getfield 7, 3, 8, 2, 0, 0, 836),
  (230, .iload 4, 2, 0, 0, 0, 0, 0), (232, .aload_n 0, 1, 0, 0, 0, 0, 0), (233, .getfield 23, 3, 8, 9, 0, 0, 843), (236, .iload 4, 2, 0, 0, 0, 0, 0),
  (238, .iaload, 1, 0, 0, 0, 0, 0), (239, .iastore, 1, 0, 0, 0, 0, 0), (240, .iinc 4 1, 3, 0, 0, 0, 0, 0), (243, .goto (-26), 3, 0, 0, 0, 0, 0),
  (246, .iconst (-1), 1, 0, 0, 0, 0, 0), (247, .ireturn, 1, 0, 0, 0, 0, 0)]
def am_c_mo_form : List am_E := [
  (0, .aload_n 0, 1, 0, 0, 0, 0, 0), (1, .aload_n 0, 1, 0, 0, 0, 0, 0), (2, .getfield 20, 3, 8, 6, 0, 0, 840), (5, .ifCond .ge 7, 3, 0, 0, 0, 0, 0),
  (8, .iconst 1, 1, 0, 0, 0, 0, 0), (9, .goto 4, 3, 0, 0, 0, 0, 0), (12, .iconst 0, 1, 0, 0, 0, 0, 0), (13, .putfield 29, 3, 8, 0, 0, 0, 834), (16, .aload_n 0, 1, 0, 0, 0, 0, 0),
  (17, .getfield 29, 3, 8, 0, 0, 0, 834), (20, .ifCond .le 7, 3, 0, 0, 0, 0, 0), (23, .iconst 0, 1, 0, 0, 0, 0, 0), (24, .goto 7, 3, 0, 0, 0, 0, 0),
  (27, .aload_n 0, 1, 0, 0, 0, 0, 0), (28, .getfield 20, 3, 8, 6, 0, 0, 840), (31, .ireturn, 1, 0, 0, 0, 0, 0)]
def am_c_mo_size : List am_E := [
  (0, .aload_n 0, 1, 0, 0, 0, 0, 0), (1, .iconst 0, 1, 0, 0, 0, 0, 0), (2, .putfield 29, 3, 8, 0, 0, 0, 834), (5, .aload_n 0, 1, 0, 0, 0, 0, 0),
  (6, .getfield 95, 3, 8, 4, 0, 0, 838), (9, .ireturn, 1, 0, 0, 0, 0, 0)]
def am_c_mo_byteAt : List am_E := [
  (0, .aload_n 0, 1, 0, 0, 0, 0, 0), (1, .iload_n 1, 1, 0, 0, 0, 0, 0), (2, .i2l, 1, 0, 0, 0, 0, 0), (3, .lconst 0, 1, 0, 0, 0, 0, 0), (4, .aload_n 0, 1, 0, 0, 0, 0, 0),
  (5, .getfield 95, 3, 8, 4, 0, 0, 838), (8, .iconst 1, 1, 0, 0, 0, 0, 0), (9, .isub, 1, 0, 0, 0, 0, 0), (10, .i2l, 1, 0, 0, 0, 0, 0),
  (11, .invokestatic 36, 3, 0, 103, 0, 3, 911), (14, .ifCond .eq 7, 3, 0, 0, 0, 0, 0), (17, .iconst 0, 1, 0, 0, 0, 0, 0), (18, .goto 4, 3, 0, 0, 0, 0, 0),
  (21, .iconst 1, 1, 0, 0, 0, 0, 0), (22, .putfield 29, 3, 8, 0, 0, 0, 834), (25, .aload_n 0, 1, 0, 0, 0, 0, 0), (26, .getfield 29, 3, 8, 0, 0, 0, 834),
  (29, .ifCond .le 7, 3, 0, 0, 0, 0, 0), (32, .iconst 0, 1, 0, 0, 0, 0, 0), (33, .goto 9, 3, 0, 0, 0, 0, 0), (36, .aload_n 0, 1, 0, 0, 0, 0, 0),
  (37, .getfield 17, 3, 8, 5, 0, 0, 839), (40, .iload_n 1, 1, 0, 0, 0, 0, 0), (41, .iaload, 1, 0, 0, 0, 0, 0), (42, .ireturn, 1, 0, 0, 0, 0, 0)]
def am_c_mo_poke : List am_E := [
  (0, .aload_n 0, 1, 0, 0, 0, 0, 0), (1, .iload_n 1, 1, 0, 0, 0, 0, 0), (2, .i2l, 1, 0, 0, 0, 0, 0), (3, .lconst 0, 1, 0, 0, 0, 0, 0), (4, .aload_n 0, 1, 0, 0, 0, 0, 0),
  (5, .getfield 95, 3, 8, 4, 0, 0, 838), (8, .iconst 1, 1, 0, 0, 0, 0, 0), (9, .isub, 1, 0, 0, 0, 0, 0), (10, .i2l, 1, 0, 0, 0, 0, 0),
  (11, .invokestatic 36, 3, 0, 103, 0, 3, 911), (14, .ifCond .ne 7, 3, 0, 0, 0, 0, 0), (17, .iconst 1, 1, 0, 0, 0, 0, 0), (18, .goto 20, 3, 0, 0, 0, 0, 0),
  (21, .iload_n 2, 1, 0, 0, 0, 0, 0), (22, .i2l, 1, 0, 0, 0, 0, 0), (23, .lconst 0, 1, 0, 0, 0, 0, 0), (24, .ldc2_w 247, 3, 0, 0, 0, 255, 1125),
  (27, .invokestatic 36, 3, 0, 103, 0, 3, 911), (30, .ifCond .eq 7, 3, 0, 0, 0, 0, 0), (33, .iconst 0, 1, 0, 0, 0, 0, 0), (34, .goto 4, 3, 0, 0, 0, 0, 0),
  (37, .iconst 2, 1, 0, 0, 0, 0, 0), (38, .putfield 29, 3, 8, 0, 0, 0, 834), (41, .aload_n 0, 1, 0, 0, 0, 0, 0), (42, .getfield 29, 3, 8, 0, 0, 0, 834),
  (45, .ifCond .ne 10, 3, 0, 0, 0, 0, 0), (48, .aload_n 0, 1, 0, 0, 0, 0, 0), (49, .getfield 17, 3, 8, 5, 0, 0, 839), (52, .iload_n 1, 1, 0, 0, 0, 0, 0),
  (53, .iload_n 2, 1, 0, 0, 0, 0, 0), (54, .iastore, 1, 0, 0, 0, 0, 0), (55, .return_, 1, 0, 0, 0, 0, 0)]
def am_c_mo_type : List am_E := [
  (0, .aload_n 0, 1, 0, 0, 0, 0, 0), (1, .iload_n 3, 1, 0, 0, 0, 0, 0), (2, .i2l, 1, 0, 0, 0, 0, 0), (3, .lconst 1, 1, 0, 0, 0, 0, 0), (4, .ldc2_w 163, 3, 0, 0, 0, 8, 941),
  (7, .invokestatic 36, 3, 0, 103, 0, 3, 911), (10, .ifCond .ne 7, 3, 0, 0, 0, 0, 0), (13, .iconst 1, 1, 0, 0, 0, 0, 0), (14, .goto 20, 3, 0, 0, 0, 0, 0),
  (17, .aload_n 0, 1, 0, 0, 0, 0, 0), (18, .getfield 95, 3, 8, 4, 0, 0, 838), (21, .iload_n 3, 1, 0, 0, 0, 0, 0), (22, .iadd, 1, 0, 0, 0, 0, 0),
  (23, .sipush 400, 3, 0, 0, 0, 0, 0), (26, .if_icmp .le 7, 3, 0, 0, 0, 0, 0), (29, .iconst 2, 1, 0, 0, 0, 0, 0), (30, .goto 4, 3, 0, 0, 0, 0, 0),
  (33, .iconst 0, 1, 0, 0, 0, 0, 0), (34, .putfield 29, 3, 8, 0, 0, 0, 834), (37, .aload_n 0, 1, 0, 0, 0, 0, 0), (38, .getfield 29, 3, 8, 0, 0, 0, 834),
  (41, .ifCond .le 5, 3, 0, 0, 0, 0, 0), (44, .iconst 0, 1, 0, 0, 0, 0, 0), (45, .ireturn, 1, 0, 0, 0, 0, 0), (46, .aload_n 0, 1, 0, 0, 0, 0, 0),
  (47, .lload_n 1, 1, 0, 0, 0, 0, 0), (48, .iload_n 3, 1, 0, 0, 0, 0, 0), (49, .iconst 1, 1, 0, 0, 0, 0, 0), (50, .invokevirtual 98, 3, 1, 122, 0, 3, 947),
  (53, .aload_n 0, 1, 0, 0, 0, 0, 0), (54, .getfield 95, 3, 8, 4, 0, 0, 838), (57, .ireturn, 1, 0, 0, 0, 0, 0)]
def am_c_mo_cut : List am_E := [
  (0, .aload_n 0, 1, 0, 0, 0, 0, 0), (1, .iload_n 1, 1, 0, 0, 0, 0, 0), (2, .i2l, 1, 0, 0, 0, 0, 0), (3, .lconst 0, 1, 0, 0, 0, 0, 0), (4, .aload_n 0, 1, 0, 0, 0, 0, 0),
  (5, .getfield 95, 3, 8, 4, 0, 0, 838), (8, .i2l, 1, 0, 0, 0, 0, 0), (9, .invokestatic 36, 3, 0, 103, 0, 3, 911), (12, .ifCond .eq 7, 3, 0, 0, 0, 0, 0),
  (15, .iconst 0, 1, 0, 0, 0, 0, 0), (16, .goto 4, 3, 0, 0, 0, 0, 0), (19, .iconst 1, 1, 0, 0, 0, 0, 0), (20, .putfield 29, 3, 8, 0, 0, 0, 834),
  (23, .aload_n 0, 1, 0, 0, 0, 0, 0), (24, .aload_n 0, 1, 0, 0, 0, 0, 0), (25, .getfield 29, 3, 8, 0, 0, 0, 834), (28, .ifCond .le 10, 3, 0, 0, 0, 0, 0),
  (31, .aload_n 0, 1, 0, 0, 0, 0, 0), (32, .getfield 95, 3, 8, 4, 0, 0, 838), (35, .goto 4, 3, 0, 0, 0, 0, 0), (38, .iload_n 1, 1, 0, 0, 0, 0, 0),
  (39, .putfield 95, 3, 8, 4, 0, 0, 838), (42, .return_, 1, 0, 0, 0, 0, 0)]
def am_c_mo_behind : List am_E := [
  (0, .aload_n 0, 1, 0, 0, 0, 0, 0), (1, .iload_n 1, 1, 0, 0, 0, 0, 0), (2, .iconst 4, 1, 0, 0, 0, 0, 0), (3, .iadd, 1, 0, 0, 0, 0, 0), (4, .iconst 4, 1, 0, 0, 0, 0, 0),
  (5, .aload_n 0, 1, 0, 0, 0, 0, 0), (6, .getfield 17, 3, 8, 5, 0, 0, 839), (9, .iconst 0, 1, 0, 0, 0, 0, 0), (10, .iaload, 1, 0, 0, 0, 0, 0), (11, .bipush 82, 2, 0, 0, 0, 0, 0),
  (13, .if_icmp .eq 7, 3, 0, 0, 0, 0, 0), (16, .iconst 1, 1, 0, 0, 0, 0, 0), (17, .goto 4, 3, 0, 0, 0, 0, 0), (20, .iconst 0, 1, 0, 0, 0, 0, 0),
  (21, .invokevirtual 180, 3, 1, 134, 0, 3, 1045), (24, .lstore_n 2, 1, 0, 0, 0, 0, 0), (25, .lload_n 2, 1, 0, 0, 0, 0, 0), (26, .lconst 0, 1, 0, 0, 0, 0, 0),
  (27, .lcmp, 1, 0, 0, 0, 0, 0), (28, .ifCond .lt 25, 3, 0, 0, 0, 0, 0), (31, .iload_n 1, 1, 0, 0, 0, 0, 0), (32, .bipush 8, 2, 0, 0, 0, 0, 0), (34, .iadd, 1, 0, 0, 0, 0, 0),
  (35, .i2l, 1, 0, 0, 0, 0, 0), (36, .lload_n 2, 1, 0, 0, 0, 0, 0), (37, .ladd, 1, 0, 0, 0, 0, 0), (38, .lload_n 2, 1, 0, 0, 0, 0, 0), (39, .ldc2_w 110, 3, 0, 0, 0, 2, 974),
  (42, .lrem, 1, 0, 0, 0, 0, 0), (43, .ladd, 1, 0, 0, 0, 0, 0), (44, .aload_n 0, 1, 0, 0, 0, 0, 0), (45, .getfield 95, 3, 8, 4, 0, 0, 838), (48, .i2l, 1, 0, 0, 0, 0, 0),
  (49, .lcmp, 1, 0, 0, 0, 0, 0), (50, .ifCond .le 7, 3, 0, 0, 0, 0, 0), (53, .iconst (-1), 1, 0, 0, 0, 0, 0), (54, .goto 16, 3, 0, 0, 0, 0, 0), (57, .iload_n 1, 1, 0, 0, 0, 0, 0),
  (58, .bipush 8, 2, 0, 0, 0, 0, 0), (60, .iadd, 1, 0, 0, 0, 0, 0), (61, .lload_n 2, 1, 0, 0, 0, 0, 0), (62, .lload_n 2, 1, 0, 0, 0, 0, 0), (63, .ldc2_w 110, 3, 0, 0, 0, 2, 974),
  (66, .lrem, 1, 0, 0, 0, 0, 0), (67, .ladd, 1, 0, 0, 0, 0, 0), (68, .l2i, 1, 0, 0, 0, 0, 0), (69, .iadd, 1, 0, 0, 0, 0, 0), (70, .ireturn, 1, 0, 0, 0, 0, 0)]
def am_c_mo_chunks : List am_E := [
  (0, .aload_n 0, 1, 0, 0, 0, 0, 0), (1, .iconst 0, 1, 0, 0, 0, 0, 0), (2, .putfield 29, 3, 8, 0, 0, 0, 834), (5, .iconst 0, 1, 0, 0, 0, 0, 0), (6, .istore_n 1, 1, 0, 0, 0, 0, 0),
  (7, .aload_n 0, 1, 0, 0, 0, 0, 0), (8, .bipush 12, 2, 0, 0, 0, 0, 0), (10, .invokevirtual 289, 3, 1, 159, 0, 1, 1159), (13, .istore_n 2, 1, 0, 0, 0, 0, 0),
  (14, .iload_n 2, 1, 0, 0, 0, 0, 0), (15, .ifCond .lt 15, 3, 0, 0, 0, 0, 0), (18, .iinc 1 1, 3, 0, 0, 0, 0, 0), (21, .aload_n 0, 1, 0, 0, 0, 0, 0),
  (22, .iload_n 2, 1, 0, 0, 0, 0, 0), (23, .invokevirtual 289, 3, 1, 159, 0, 1, 1159), (26, .istore_n 2, 1, 0, 0, 0, 0, 0), (27, .goto (-13), 3, 0, 0, 0, 0, 0),
  (30, .iload_n 1, 1, 0, 0, 0, 0, 0), (31, .ireturn, 1, 0, 0, 0, 0, 0)]
def am_c_mo_chunk : List am_E := [
  (0, .bipush 12, 2, 0, 0, 0, 0, 0), (2, .istore_n 3, 1, 0, 0, 0, 0, 0), (3, .iconst 0, 1, 0, 0, 0, 0, 0), (4, .istore 4, 2, 0, 0, 0, 0, 0), (6, .iload 4, 2, 0, 0, 0, 0, 0),
  (8, .iload_n 1, 1, 0, 0, 0, 0, 0), (9, .if_icmp .ge 19, 3, 0, 0, 0, 0, 0), (12, .iload_n 3, 1, 0, 0, 0, 0, 0), (13, .ifCond .lt 15, 3, 0, 0, 0, 0, 0),
  (16, .aload_n 0, 1, 0, 0, 0, 0, 0), (17, .iload_n 3, 1, 0, 0, 0, 0, 0), (18, .invokevirtual 289, 3, 1, 159, 0, 1, 1159), (21, .istore_n 3, 1, 0, 0, 0, 0, 0),
  (22, .iinc 4 1, 3, 0, 0, 0, 0, 0), (25, .goto (-19), 3, 0, 0, 0, 0, 0), (28, .iload_n 1, 1, 0, 0, 0, 0, 0), (29, .ifCond .lt 19, 3, 0, 0, 0, 0, 0),
  (32, .iload_n 3, 1, 0, 0, 0, 0, 0), (33, .ifCond .lt 15, 3, 0, 0, 0, 0, 0), (36, .aload_n 0, 1, 0, 0, 0, 0, 0), (37, .iload_n 3, 1, 0, 0, 0, 0, 0),
  (38, .invokevirtual 289, 3, 1, 159, 0, 1, 1159), (41, .ifCond .lt 7, 3, 0, 0, 0, 0, 0), (44, .iconst 1, 1, 0, 0, 0, 0, 0), (45, .goto 4, 3, 0, 0, 0, 0, 0),
  (48, .iconst 0, 1, 0, 0, 0, 0, 0), (49, .istore 4, 2, 0, 0, 0, 0, 0), (51, .aload_n 0, 1, 0, 0, 0, 0, 0), (52, .iload_n 2, 1, 0, 0, 0, 0, 0), (53, .i2l, 1, 0, 0, 0, 0, 0),
  (54, .lconst 0, 1, 0, 0, 0, 0, 0), (55, .ldc2_w 110, 3, 0, 0, 0, 2, 974), (58, .invokestatic 36, 3, 0, 103, 0, 3, 911), (61, .ifCond .ne 7, 3, 0, 0, 0, 0, 0),
  (64, .iconst 1, 1, 0, 0, 0, 0, 0), (65, .goto 13, 3, 0, 0, 0, 0, 0), (68, .iload 4, 2, 0, 0, 0, 0, 0), (70, .ifCond .eq 7, 3, 0, 0, 0, 0, 0), (73, .iconst 0, 1, 0, 0, 0, 0, 0),
  (74, .goto 4, 3, 0, 0, 0, 0, 0), (77, .iconst 2, 1, 0, 0, 0, 0, 0), (78, .putfield 29, 3, 8, 0, 0, 0, 834), (81, .aload_n 0, 1, 0, 0, 0, 0, 0),
  (82, .getfield 29, 3, 8, 0, 0, 0, 834), (85, .ifCond .le 5, 3, 0, 0, 0, 0, 0), (88, .iconst 0, 1, 0, 0, 0, 0, 0), (89, .ireturn, 1, 0, 0, 0, 0, 0),
  (90, .iload_n 2, 1, 0, 0, 0, 0, 0), (91, .iconst 1, 1, 0, 0, 0, 0, 0), (92, .if_icmp .ne 13, 3, 0, 0, 0, 0, 0), (95, .aload_n 0, 1, 0, 0, 0, 0, 0),
  (96, .iload_n 3, 1, 0, 0, 0, 0, 0), (97, .iconst 4, 1, 0, 0, 0, 0, 0), (98, .iconst 1, 1, 0, 0, 0, 0, 0), (99, .invokevirtual 180, 3, 1, 134, 0, 3, 1045),
  (102, .goto 27, 3, 0, 0, 0, 0, 0), (105, .aload_n 0, 1, 0, 0, 0, 0, 0), (106, .iload_n 3, 1, 0, 0, 0, 0, 0), (107, .iconst 4, 1, 0, 0, 0, 0, 0), (108, .iadd, 1, 0, 0, 0, 0, 0),
  (109, .iconst 4, 1, 0, 0, 0, 0, 0), (110, .aload_n 0, 1, 0, 0, 0, 0, 0), (111, .getfield 17, 3, 8, 5, 0, 0, 839), (114, .iconst 0, 1, 0, 0, 0, 0, 0),
  (115, .iaload, 1, 0, 0, 0, 0, 0), (116, .bipush 82, 2, 0, 0, 0, 0, 0), (118, .if_icmp .eq 7, 3, 0, 0, 0, 0, 0), (121, .iconst 1, 1, 0, 0, 0, 0, 0),
  (122, .goto 4, 3, 0, 0, 0, 0, 0), (125, .iconst 0, 1, 0, 0, 0, 0, 0), (126, .invokevirtual 180, 3, 1, 134, 0, 3, 1045), (129, .lstore 5, 2, 0, 0, 0, 0, 0),
  (131, .iload_n 2, 1, 0, 0, 0, 0, 0), (132, .ifCond .ne 7, 3, 0, 0, 0, 0, 0), (135, .iload_n 3, 1, 0, 0, 0, 0, 0), (136, .goto 6, 3, 0, 0, 0, 0, 0),
  (139, .lload 5, 2, 0, 0, 0, 0, 0), (141, .l2i, 1, 0, 0, 0, 0, 0), (142, .ireturn, 1, 0, 0, 0, 0, 0)]
def am_c_la_add : List am_E := [
  (0, .aload_n 2, 1, 0, 0, 0, 0, 0), (1, .iconst 0, 1, 0, 0, 0, 0, 0), (2, .aload_n 0, 1, 0, 0, 0, 0, 0), (3, .iload_n 1, 1, 0, 0, 0, 0, 0),
  (4, .invokevirtual 7, 3, 1, 80, 0, 1, 517), (7, .i2l, 1, 0, 0, 0, 0, 0), (8, .lastore, 1, 0, 0, 0, 0, 0), (9, .goto 9, 3, 0, 0, 0, 0, 0), (12, .astore_n 3, 1, 0, 0, 0, 0, 0),
  (13, .iconst 1, 1, 0, 0, 0, 0, 0), (14, .ireturn, 1, 0, 0, 0, 0, 0), (15, .astore_n 3, 1, 0, 0, 0, 0, 0), (16, .iconst 2, 1, 0, 0, 0, 0, 0), (17, .ireturn, 1, 0, 0, 0, 0, 0),
  (18, .iconst 0, 1, 0, 0, 0, 0, 0), (19, .ireturn, 1, 0, 0, 0, 0, 0)]
def am_c_la_at : List am_E := [
  (0, .aload_n 2, 1, 0, 0, 0, 0, 0), (1, .iconst 0, 1, 0, 0, 0, 0, 0), (2, .aload_n 0, 1, 0, 0, 0, 0, 0), (3, .iload_n 1, 1, 0, 0, 0, 0, 0),
  (4, .invokevirtual 17, 3, 1, 83, 0, 1, 611), (7, .i2l, 1, 0, 0, 0, 0, 0), (8, .lastore, 1, 0, 0, 0, 0, 0), (9, .goto 6, 3, 0, 0, 0, 0, 0), (12, .astore_n 3, 1, 0, 0, 0, 0, 0),
  (13, .iconst 1, 1, 0, 0, 0, 0, 0), (14, .ireturn, 1, 0, 0, 0, 0, 0), (15, .iconst 0, 1, 0, 0, 0, 0, 0), (16, .ireturn, 1, 0, 0, 0, 0, 0)]
def am_c_la_tune : List am_E := [
  (0, .aload_n 2, 1, 0, 0, 0, 0, 0), (1, .iconst 0, 1, 0, 0, 0, 0, 0), (2, .aload_n 0, 1, 0, 0, 0, 0, 0), (3, .iload_n 1, 1, 0, 0, 0, 0, 0),
  (4, .invokevirtual 22, 3, 1, 84, 0, 1, 634), (7, .i2l, 1, 0, 0, 0, 0, 0), (8, .lastore, 1, 0, 0, 0, 0, 0), (9, .goto 6, 3, 0, 0, 0, 0, 0), (12, .astore_n 3, 1, 0, 0, 0, 0, 0),
  (13, .iconst 1, 1, 0, 0, 0, 0, 0), (14, .ireturn, 1, 0, 0, 0, 0, 0), (15, .iconst 0, 1, 0, 0, 0, 0, 0), (16, .ireturn, 1, 0, 0, 0, 0, 0)]
def am_c_la_write : List am_E := [
  (0, .aload_n 3, 1, 0, 0, 0, 0, 0), (1, .iconst 0, 1, 0, 0, 0, 0, 0), (2, .aload_n 0, 1, 0, 0, 0, 0, 0), (3, .iload_n 1, 1, 0, 0, 0, 0, 0), (4, .iload_n 2, 1, 0, 0, 0, 0, 0),
  (5, .invokevirtual 25, 3, 1, 86, 0, 2, 643), (8, .i2l, 1, 0, 0, 0, 0, 0), (9, .lastore, 1, 0, 0, 0, 0, 0), (10, .goto 7, 3, 0, 0, 0, 0, 0), (13, .astore 4, 2, 0, 0, 0, 0, 0),
  (15, .iconst 1, 1, 0, 0, 0, 0, 0), (16, .ireturn, 1, 0, 0, 0, 0, 0), (17, .iconst 0, 1, 0, 0, 0, 0, 0), (18, .ireturn, 1, 0, 0, 0, 0, 0)]
def am_c_la_form : List am_E := [
  (0, .aload_n 1, 1, 0, 0, 0, 0, 0), (1, .iconst 0, 1, 0, 0, 0, 0, 0), (2, .aload_n 0, 1, 0, 0, 0, 0, 0), (3, .invokevirtual 29, 3, 1, 88, 0, 0, 759), (6, .i2l, 1, 0, 0, 0, 0, 0),
  (7, .lastore, 1, 0, 0, 0, 0, 0), (8, .goto 6, 3, 0, 0, 0, 0, 0), (11, .astore_n 2, 1, 0, 0, 0, 0, 0), (12, .iconst 1, 1, 0, 0, 0, 0, 0), (13, .ireturn, 1, 0, 0, 0, 0, 0),
  (14, .iconst 0, 1, 0, 0, 0, 0, 0), (15, .ireturn, 1, 0, 0, 0, 0, 0)]
def am_c_la_byteAt : List am_E := [
  (0, .aload_n 2, 1, 0, 0, 0, 0, 0), (1, .iconst 0, 1, 0, 0, 0, 0, 0), (2, .aload_n 0, 1, 0, 0, 0, 0, 0), (3, .iload_n 1, 1, 0, 0, 0, 0, 0),
  (4, .invokevirtual 33, 3, 1, 90, 0, 1, 767), (7, .i2l, 1, 0, 0, 0, 0, 0), (8, .lastore, 1, 0, 0, 0, 0, 0), (9, .goto 6, 3, 0, 0, 0, 0, 0), (12, .astore_n 3, 1, 0, 0, 0, 0, 0),
  (13, .iconst 1, 1, 0, 0, 0, 0, 0), (14, .ireturn, 1, 0, 0, 0, 0, 0), (15, .iconst 0, 1, 0, 0, 0, 0, 0), (16, .ireturn, 1, 0, 0, 0, 0, 0)]
def am_c_la_poke : List am_E := [
  (0, .aload_n 0, 1, 0, 0, 0, 0, 0), (1, .iload_n 1, 1, 0, 0, 0, 0, 0), (2, .iload_n 2, 1, 0, 0, 0, 0, 0), (3, .invokevirtual 36, 3, 1, 91, 0, 2, 775),
  (6, .goto 9, 3, 0, 0, 0, 0, 0), (9, .astore_n 3, 1, 0, 0, 0, 0, 0), (10, .iconst 1, 1, 0, 0, 0, 0, 0), (11, .ireturn, 1, 0, 0, 0, 0, 0), (12, .astore_n 3, 1, 0, 0, 0, 0, 0),
  (13, .iconst 2, 1, 0, 0, 0, 0, 0), (14, .ireturn, 1, 0, 0, 0, 0, 0), (15, .iconst 0, 1, 0, 0, 0, 0, 0), (16, .ireturn, 1, 0, 0, 0, 0, 0)]
def am_c_la_type : List am_E := [
  (0, .aload 4, 2, 0, 0, 0, 0, 0), (2, .iconst 0, 1, 0, 0, 0, 0, 0), (3, .aload_n 0, 1, 0, 0, 0, 0, 0), (4, .lload_n 1, 1, 0, 0, 0, 0, 0), (5, .iload_n 3, 1, 0, 0, 0, 0, 0),
  (6, .invokevirtual 40, 3, 1, 92, 0, 2, 783), (9, .i2l, 1, 0, 0, 0, 0, 0), (10, .lastore, 1, 0, 0, 0, 0, 0), (11, .goto 11, 3, 0, 0, 0, 0, 0), (14, .astore 5, 2, 0, 0, 0, 0, 0),
  (16, .iconst 1, 1, 0, 0, 0, 0, 0), (17, .ireturn, 1, 0, 0, 0, 0, 0), (18, .astore 5, 2, 0, 0, 0, 0, 0), (20, .iconst 2, 1, 0, 0, 0, 0, 0), (21, .ireturn, 1, 0, 0, 0, 0, 0),
  (22, .iconst 0, 1, 0, 0, 0, 0, 0), (23, .ireturn, 1, 0, 0, 0, 0, 0)]
def am_c_la_cut : List am_E := [
  (0, .aload_n 0, 1, 0, 0, 0, 0, 0), (1, .iload_n 1, 1, 0, 0, 0, 0, 0), (2, .invokevirtual 44, 3, 1, 93, 0, 1, 793), (5, .goto 6, 3, 0, 0, 0, 0, 0),
  (8, .astore_n 2, 1, 0, 0, 0, 0, 0), (9, .iconst 1, 1, 0, 0, 0, 0, 0), (10, .ireturn, 1, 0, 0, 0, 0, 0), (11, .iconst 0, 1, 0, 0, 0, 0, 0), (12, .ireturn, 1, 0, 0, 0, 0, 0)]
def am_c_la_chunk : List am_E := [
  (0, .aload_n 3, 1, 0, 0, 0, 0, 0), (1, .iconst 0, 1, 0, 0, 0, 0, 0), (2, .aload_n 0, 1, 0, 0, 0, 0, 0), (3, .iload_n 1, 1, 0, 0, 0, 0, 0), (4, .iload_n 2, 1, 0, 0, 0, 0, 0),
  (5, .invokevirtual 48, 3, 1, 95, 0, 2, 802), (8, .i2l, 1, 0, 0, 0, 0, 0), (9, .lastore, 1, 0, 0, 0, 0, 0), (10, .goto 11, 3, 0, 0, 0, 0, 0), (13, .astore 4, 2, 0, 0, 0, 0, 0),
  (15, .iconst 1, 1, 0, 0, 0, 0, 0), (16, .ireturn, 1, 0, 0, 0, 0, 0), (17, .astore 4, 2, 0, 0, 0, 0, 0), (19, .iconst 2, 1, 0, 0, 0, 0, 0), (20, .ireturn, 1, 0, 0, 0, 0, 0),
  (21, .iconst 0, 1, 0, 0, 0, 0, 0), (22, .ireturn, 1, 0, 0, 0, 0, 0)]
def am_c_la_law : List am_E := [
  (0, .new 8, 3, 7, 0, 0, 0, 20), (3, .dup, 1, 0, 0, 0, 0, 0), (4, .invokespecial 53, 3, 2, 79, 0, 0, 22), (7, .astore_n 1, 1, 0, 0, 0, 0, 0), (8, .new 54, 3, 8, 0, 0, 0, 828),
  (11, .dup, 1, 0, 0, 0, 0, 0), (12, .invokespecial 56, 3, 2, 101, 0, 0, 830), (15, .astore_n 2, 1, 0, 0, 0, 0, 0), (16, .iconst 1, 1, 0, 0, 0, 0, 0),
  (17, .newarray .long, 2, 0, 0, 0, 0, 0), (19, .astore_n 3, 1, 0, 0, 0, 0, 0), (20, .iconst 0, 1, 0, 0, 0, 0, 0), (21, .istore 4, 2, 0, 0, 0, 0, 0),
  (23, .iload 4, 2, 0, 0, 0, 0, 0), (25, .aload_n 0, 1, 0, 0, 0, 0, 0), (26, .arraylength, 1, 0, 0, 0, 0, 0), (27, .iconst 4, 1, 0, 0, 0, 0, 0), (28, .isub, 1, 0, 0, 0, 0, 0),
  (29, .if_icmp .gt 759, 3, 0, 0, 0, 0, 0), (32, .aload_n 0, 1, 0, 0, 0, 0, 0), (33, .iload 4, 2, 0, 0, 0, 0, 0), (35, .iaload, 1, 0, 0, 0, 0, 0),
  (36, .bipush 15, 2, 0, 0, 0, 0, 0), (38, .iand, 1, 0, 0, 0, 0, 0),
  (39, .tableswitch 743 0 15 #[77, 133, 146, 159, 215, 271, 284, 352, 365, 409, 422, 478, 526, 626, 662, 675], 77, 0, 0, 0, 0, 0), (116, .aload_n 1, 1, 0, 0, 0, 0, 0),
  (117, .aload_n 0, 1, 0, 0, 0, 0, 0), (118, .iload 4, 2, 0, 0, 0, 0, 0), (120, .iconst 1, 1, 0, 0, 0, 0, 0), (121, .iadd, 1, 0, 0, 0, 0, 0), (122, .iaload, 1, 0, 0, 0, 0, 0),
  (123, .aload_n 3, 1, 0, 0, 0, 0, 0), (124, .invokestatic 57, 3, 0, 162, 0, 3, 512), (127, .istore 5, 2, 0, 0, 0, 0, 0), (129, .aload_n 2, 1, 0, 0, 0, 0, 0),
  (130, .aload_n 0, 1, 0, 0, 0, 0, 0), (131, .iload 4, 2, 0, 0, 0, 0, 0), (133, .iconst 1, 1, 0, 0, 0, 0, 0), (134, .iadd, 1, 0, 0, 0, 0, 0), (135, .iaload, 1, 0, 0, 0, 0, 0),
  (136, .invokevirtual 62, 3, 1, 105, 0, 1, 905), (139, .istore 6, 2, 0, 0, 0, 0, 0), (141, .aload_n 2, 1, 0, 0, 0, 0, 0), (142, .invokevirtual 63, 3, 1, 102, 0, 0, 901),
  (145, .iload 5, 2, 0, 0, 0, 0, 0), (147, .if_icmp .eq 5, 3, 0, 0, 0, 0, 0), (150, .iconst 0, 1, 0, 0, 0, 0, 0), (151, .ireturn, 1, 0, 0, 0, 0, 0),
  (152, .iload 5, 2, 0, 0, 0, 0, 0), (154, .ifCond .ne 15, 3, 0, 0, 0, 0, 0), (157, .aload_n 3, 1, 0, 0, 0, 0, 0), (158, .iconst 0, 1, 0, 0, 0, 0, 0),
  (159, .laload, 1, 0, 0, 0, 0, 0), (160, .iload 6, 2, 0, 0, 0, 0, 0), (162, .i2l, 1, 0, 0, 0, 0, 0), (163, .lcmp, 1, 0, 0, 0, 0, 0), (164, .ifCond .eq 5, 3, 0, 0, 0, 0, 0),
  (167, .iconst 0, 1, 0, 0, 0, 0, 0), (168, .ireturn, 1, 0, 0, 0, 0, 0), (169, .goto 613, 3, 0, 0, 0, 0, 0), (172, .aload_n 1, 1, 0, 0, 0, 0, 0),
  (173, .invokevirtual 66, 3, 1, 81, 0, 0, 225), (176, .aload_n 2, 1, 0, 0, 0, 0, 0), (177, .invokevirtual 69, 3, 1, 106, 0, 0, 914), (180, .if_icmp .eq 602, 3, 0, 0, 0, 0, 0),
  (183, .iconst 0, 1, 0, 0, 0, 0, 0), (184, .ireturn, 1, 0, 0, 0, 0, 0), (185, .aload_n 1, 1, 0, 0, 0, 0, 0), (186, .invokevirtual 70, 3, 1, 82, 0, 0, 229),
  (189, .aload_n 2, 1, 0, 0, 0, 0, 0), (190, .invokevirtual 73, 3, 1, 107, 0, 0, 918), (193, .if_icmp .eq 589, 3, 0, 0, 0, 0, 0), (196, .iconst 0, 1, 0, 0, 0, 0, 0),
  (197, .ireturn, 1, 0, 0, 0, 0, 0), (198, .aload_n 1, 1, 0, 0, 0, 0, 0), (199, .aload_n 0, 1, 0, 0, 0, 0, 0), (200, .iload 4, 2, 0, 0, 0, 0, 0),
  (202, .iconst 1, 1, 0, 0, 0, 0, 0), (203, .iadd, 1, 0, 0, 0, 0, 0), (204, .iaload, 1, 0, 0, 0, 0, 0), (205, .aload_n 3, 1, 0, 0, 0, 0, 0),
  (206, .invokestatic 74, 3, 0, 163, 0, 3, 607), (209, .istore 5, 2, 0, 0, 0, 0, 0), (211, .aload_n 2, 1, 0, 0, 0, 0, 0), (212, .aload_n 0, 1, 0, 0, 0, 0, 0),
  (213, .iload 4, 2, 0, 0, 0, 0, 0), (215, .iconst 1, 1, 0, 0, 0, 0, 0), (216, .iadd, 1, 0, 0, 0, 0, 0), (217, .iaload, 1, 0, 0, 0, 0, 0),
  (218, .invokevirtual 76, 3, 1, 108, 0, 1, 922), (221, .istore 6, 2, 0, 0, 0, 0, 0), (223, .aload_n 2, 1, 0, 0, 0, 0, 0), (224, .invokevirtual 63, 3, 1, 102, 0, 0, 901),
  (227, .iload 5, 2, 0, 0, 0, 0, 0), (229, .if_icmp .eq 5, 3, 0, 0, 0, 0, 0), (232, .iconst 0, 1, 0, 0, 0, 0, 0), (233, .ireturn, 1, 0, 0, 0, 0, 0),
  (234, .iload 5, 2, 0, 0, 0, 0, 0), (236, .ifCond .ne 15, 3, 0, 0, 0, 0, 0), (239, .aload_n 3, 1, 0, 0, 0, 0, 0), (240, .iconst 0, 1, 0, 0, 0, 0, 0),
  (241, .laload, 1, 0, 0, 0, 0, 0), (242, .iload 6, 2, 0, 0, 0, 0, 0), (244, .i2l, 1, 0, 0, 0, 0, 0), (245, .lcmp, 1, 0, 0, 0, 0, 0), (246, .ifCond .eq 5, 3, 0, 0, 0, 0, 0),
  (249, .iconst 0, 1, 0, 0, 0, 0, 0), (250, .ireturn, 1, 0, 0, 0, 0, 0), (251, .goto 531, 3, 0, 0, 0, 0, 0), (254, .aload_n 1, 1, 0, 0, 0, 0, 0),
  (255, .aload_n 0, 1, 0, 0, 0, 0, 0), (256, .iload 4, 2, 0, 0, 0, 0, 0), (258, .iconst 1, 1, 0, 0, 0, 0, 0), (259, .iadd, 1, 0, 0, 0, 0, 0), (260, .iaload, 1, 0, 0, 0, 0, 0),
  (261, .aload_n 3, 1, 0, 0, 0, 0, 0), (262, .invokestatic 77, 3, 0, 164, 0, 3, 631), (265, .istore 5, 2, 0, 0, 0, 0, 0), (267, .aload_n 2, 1, 0, 0, 0, 0, 0),
  (268, .aload_n 0, 1, 0, 0, 0, 0, 0), (269, .iload 4, 2, 0, 0, 0, 0, 0), (271, .iconst 1, 1, 0, 0, 0, 0, 0), (272, .iadd, 1, 0, 0, 0, 0, 0), (273, .iaload, 1, 0, 0, 0, 0, 0),
  (274, .invokevirtual 79, 3, 1, 109, 0, 1, 926), (277, .istore 6, 2, 0, 0, 0, 0, 0), (279, .aload_n 2, 1, 0, 0, 0, 0, 0), (280, .invokevirtual 63, 3, 1, 102, 0, 0, 901),
  (283, .iload 5, 2, 0, 0, 0, 0, 0), (285, .if_icmp .eq 5, 3, 0, 0, 0, 0, 0), (288, .iconst 0, 1, 0, 0, 0, 0, 0), (289, .ireturn, 1, 0, 0, 0, 0, 0),
  (290, .iload 5, 2, 0, 0, 0, 0, 0), (292, .ifCond .ne 15, 3, 0, 0, 0, 0, 0), (295, .aload_n 3, 1, 0, 0, 0, 0, 0), (296, .iconst 0, 1, 0, 0, 0, 0, 0),
  (297, .laload, 1, 0, 0, 0, 0, 0), (298, .iload 6, 2, 0, 0, 0, 0, 0), (300, .i2l, 1, 0, 0, 0, 0, 0), (301, .lcmp, 1, 0, 0, 0, 0, 0), (302, .ifCond .eq 5, 3, 0, 0, 0, 0, 0),
  (305, .iconst 0, 1, 0, 0, 0, 0, 0), (306, .ireturn, 1, 0, 0, 0, 0, 0), (307, .goto 475, 3, 0, 0, 0, 0, 0), (310, .aload_n 1, 1, 0, 0, 0, 0, 0),
  (311, .invokevirtual 80, 3, 1, 85, 0, 0, 233), (314, .aload_n 2, 1, 0, 0, 0, 0, 0), (315, .invokevirtual 83, 3, 1, 110, 0, 0, 931), (318, .if_icmp .eq 464, 3, 0, 0, 0, 0, 0),
  (321, .iconst 0, 1, 0, 0, 0, 0, 0), (322, .ireturn, 1, 0, 0, 0, 0, 0), (323, .aload_n 1, 1, 0, 0, 0, 0, 0), (324, .aload_n 0, 1, 0, 0, 0, 0, 0),
  (325, .iload 4, 2, 0, 0, 0, 0, 0), (327, .iconst 1, 1, 0, 0, 0, 0, 0), (328, .iadd, 1, 0, 0, 0, 0, 0), (329, .iaload, 1, 0, 0, 0, 0, 0), (330, .aload_n 0, 1, 0, 0, 0, 0, 0),
  (331, .iload 4, 2, 0, 0, 0, 0, 0), (333, .iconst 2, 1, 0, 0, 0, 0, 0), (334, .iadd, 1, 0, 0, 0, 0, 0), (335, .iaload, 1, 0, 0, 0, 0, 0), (336, .aload_n 3, 1, 0, 0, 0, 0, 0),
  (337, .invokestatic 84, 3, 0, 165, 0, 4, 640), (340, .istore 5, 2, 0, 0, 0, 0, 0), (342, .aload_n 2, 1, 0, 0, 0, 0, 0), (343, .aload_n 0, 1, 0, 0, 0, 0, 0),
  (344, .iload 4, 2, 0, 0, 0, 0, 0), (346, .iconst 1, 1, 0, 0, 0, 0, 0), (347, .iadd, 1, 0, 0, 0, 0, 0), (348, .iaload, 1, 0, 0, 0, 0, 0), (349, .aload_n 0, 1, 0, 0, 0, 0, 0),
  (350, .iload 4, 2, 0, 0, 0, 0, 0), (352, .iconst 2, 1, 0, 0, 0, 0, 0), (353, .iadd, 1, 0, 0, 0, 0, 0), (354, .iaload, 1, 0, 0, 0, 0, 0),
  (355, .invokevirtual 87, 3, 1, 133, 0, 2, 935), (358, .istore 6, 2, 0, 0, 0, 0, 0), (360, .aload_n 2, 1, 0, 0, 0, 0, 0), (361, .invokevirtual 63, 3, 1, 102, 0, 0, 901),
  (364, .iload 5, 2, 0, 0, 0, 0, 0), (366, .if_icmp .eq 5, 3, 0, 0, 0, 0, 0), (369, .iconst 0, 1, 0, 0, 0, 0, 0), (370, .ireturn, 1, 0, 0, 0, 0, 0),
  (371, .iload 5, 2, 0, 0, 0, 0, 0), (373, .ifCond .ne 15, 3, 0, 0, 0, 0, 0), (376, .aload_n 3, 1, 0, 0, 0, 0, 0), (377, .iconst 0, 1, 0, 0, 0, 0, 0),
  (378, .laload, 1, 0, 0, 0, 0, 0), (379, .iload 6, 2, 0, 0, 0, 0, 0), (381, .i2l, 1, 0, 0, 0, 0, 0), (382, .lcmp, 1, 0, 0, 0, 0, 0), (383, .ifCond .eq 5, 3, 0, 0, 0, 0, 0),
  (386, .iconst 0, 1, 0, 0, 0, 0, 0), (387, .ireturn, 1, 0, 0, 0, 0, 0), (388, .goto 394, 3, 0, 0, 0, 0, 0), (391, .aload_n 1, 1, 0, 0, 0, 0, 0),
  (392, .invokevirtual 88, 3, 1, 87, 0, 0, 237), (395, .aload_n 2, 1, 0, 0, 0, 0, 0), (396, .invokevirtual 91, 3, 1, 152, 0, 0, 1041), (399, .if_icmp .eq 383, 3, 0, 0, 0, 0, 0),
  (402, .iconst 0, 1, 0, 0, 0, 0, 0), (403, .ireturn, 1, 0, 0, 0, 0, 0), (404, .aload_n 1, 1, 0, 0, 0, 0, 0), (405, .aload_n 3, 1, 0, 0, 0, 0, 0),
  (406, .invokestatic 92, 3, 0, 166, 0, 2, 756), (409, .istore 5, 2, 0, 0, 0, 0, 0), (411, .aload_n 2, 1, 0, 0, 0, 0, 0), (412, .invokevirtual 95, 3, 1, 153, 0, 0, 1131),
  (415, .istore 6, 2, 0, 0, 0, 0, 0), (417, .aload_n 2, 1, 0, 0, 0, 0, 0), (418, .invokevirtual 63, 3, 1, 102, 0, 0, 901), (421, .iload 5, 2, 0, 0, 0, 0, 0),
  (423, .if_icmp .eq 5, 3, 0, 0, 0, 0, 0), (426, .iconst 0, 1, 0, 0, 0, 0, 0), (427, .ireturn, 1, 0, 0, 0, 0, 0), (428, .iload 5, 2, 0, 0, 0, 0, 0),
  (430, .ifCond .ne 15, 3, 0, 0, 0, 0, 0), (433, .aload_n 3, 1, 0, 0, 0, 0, 0), (434, .iconst 0, 1, 0, 0, 0, 0, 0), (435, .laload, 1, 0, 0, 0, 0, 0),
  (436, .iload 6, 2, 0, 0, 0, 0, 0), (438, .i2l, 1, 0, 0, 0, 0, 0), (439, .lcmp, 1, 0, 0, 0, 0, 0), (440, .ifCond .eq 5, 3, 0, 0, 0, 0, 0), (443, .iconst 0, 1, 0, 0, 0, 0, 0),
  (444, .ireturn, 1, 0, 0, 0, 0, 0), (445, .goto 337, 3, 0, 0, 0, 0, 0), (448, .aload_n 1, 1, 0, 0, 0, 0, 0), (449, .invokevirtual 96, 3, 1, 89, 0, 0, 493),
  (452, .aload_n 2, 1, 0, 0, 0, 0, 0), (453, .invokevirtual 99, 3, 1, 154, 0, 0, 1135), (456, .if_icmp .eq 326, 3, 0, 0, 0, 0, 0), (459, .iconst 0, 1, 0, 0, 0, 0, 0),
  (460, .ireturn, 1, 0, 0, 0, 0, 0), (461, .aload_n 1, 1, 0, 0, 0, 0, 0), (462, .aload_n 0, 1, 0, 0, 0, 0, 0), (463, .iload 4, 2, 0, 0, 0, 0, 0),
  (465, .iconst 1, 1, 0, 0, 0, 0, 0), (466, .iadd, 1, 0, 0, 0, 0, 0), (467, .iaload, 1, 0, 0, 0, 0, 0), (468, .aload_n 3, 1, 0, 0, 0, 0, 0),
  (469, .invokestatic 100, 3, 0, 167, 0, 3, 764), (472, .istore 5, 2, 0, 0, 0, 0, 0), (474, .aload_n 2, 1, 0, 0, 0, 0, 0), (475, .aload_n 0, 1, 0, 0, 0, 0, 0),
  (476, .iload 4, 2, 0, 0, 0, 0, 0), (478, .iconst 1, 1, 0, 0, 0, 0, 0), (479, .iadd, 1, 0, 0, 0, 0, 0), (480, .iaload, 1, 0, 0, 0, 0, 0),
  (481, .invokevirtual 102, 3, 1, 155, 0, 1, 1139), (484, .istore 6, 2, 0, 0, 0, 0, 0), (486, .aload_n 2, 1, 0, 0, 0, 0, 0), (487, .invokevirtual 63, 3, 1, 102, 0, 0, 901),
  (490, .iload 5, 2, 0, 0, 0, 0, 0), (492, .if_icmp .eq 5, 3, 0, 0, 0, 0, 0), (495, .iconst 0, 1, 0, 0, 0, 0, 0), (496, .ireturn, 1, 0, 0, 0, 0, 0),
  (497, .iload 5, 2, 0, 0, 0, 0, 0), (499, .ifCond .ne 15, 3, 0, 0, 0, 0, 0), (502, .aload_n 3, 1, 0, 0, 0, 0, 0), (503, .iconst 0, 1, 0, 0, 0, 0, 0),
  (504, .laload, 1, 0, 0, 0, 0, 0), (505, .iload 6, 2, 0, 0, 0, 0, 0), (507, .i2l, 1, 0, 0, 0, 0, 0), (508, .lcmp, 1, 0, 0, 0, 0, 0), (509, .ifCond .eq 5, 3, 0, 0, 0, 0, 0),
  (512, .iconst 0, 1, 0, 0, 0, 0, 0), (513, .ireturn, 1, 0, 0, 0, 0, 0), (514, .goto 268, 3, 0, 0, 0, 0, 0), (517, .aload_n 1, 1, 0, 0, 0, 0, 0),
  (518, .aload_n 0, 1, 0, 0, 0, 0, 0), (519, .iload 4, 2, 0, 0, 0, 0, 0), (521, .iconst 1, 1, 0, 0, 0, 0, 0), (522, .iadd, 1, 0, 0, 0, 0, 0), (523, .iaload, 1, 0, 0, 0, 0, 0),
  (524, .aload_n 0, 1, 0, 0, 0, 0, 0), (525, .iload 4, 2, 0, 0, 0, 0, 0), (527, .iconst 2, 1, 0, 0, 0, 0, 0), (528, .iadd, 1, 0, 0, 0, 0, 0), (529, .iaload, 1, 0, 0, 0, 0, 0),
  (530, .invokestatic 103, 3, 0, 168, 0, 3, 772), (533, .istore 5, 2, 0, 0, 0, 0, 0), (535, .aload_n 2, 1, 0, 0, 0, 0, 0), (536, .aload_n 0, 1, 0, 0, 0, 0, 0),
  (537, .iload 4, 2, 0, 0, 0, 0, 0), (539, .iconst 1, 1, 0, 0, 0, 0, 0), (540, .iadd, 1, 0, 0, 0, 0, 0), (541, .iaload, 1, 0, 0, 0, 0, 0), (542, .aload_n 0, 1, 0, 0, 0, 0, 0),
  (543, .iload 4, 2, 0, 0, 0, 0, 0), (545, .iconst 2, 1, 0, 0, 0, 0, 0), (546, .iadd, 1, 0, 0, 0, 0, 0), (547, .iaload, 1, 0, 0, 0, 0, 0),
  (548, .invokevirtual 106, 3, 1, 156, 0, 2, 1143), (551, .aload_n 2, 1, 0, 0, 0, 0, 0), (552, .invokevirtual 63, 3, 1, 102, 0, 0, 901), (555, .iload 5, 2, 0, 0, 0, 0, 0),
  (557, .if_icmp .eq 5, 3, 0, 0, 0, 0, 0), (560, .iconst 0, 1, 0, 0, 0, 0, 0), (561, .ireturn, 1, 0, 0, 0, 0, 0), (562, .goto 220, 3, 0, 0, 0, 0, 0),
  (565, .aload_n 1, 1, 0, 0, 0, 0, 0), (566, .aload_n 0, 1, 0, 0, 0, 0, 0), (567, .iload 4, 2, 0, 0, 0, 0, 0), (569, .iconst 1, 1, 0, 0, 0, 0, 0), (570, .iadd, 1, 0, 0, 0, 0, 0),
  (571, .iaload, 1, 0, 0, 0, 0, 0), (572, .i2l, 1, 0, 0, 0, 0, 0), (573, .bipush 32, 2, 0, 0, 0, 0, 0), (575, .lshl, 1, 0, 0, 0, 0, 0), (576, .aload_n 0, 1, 0, 0, 0, 0, 0),
  (577, .iload 4, 2, 0, 0, 0, 0, 0), (579, .iconst 2, 1, 0, 0, 0, 0, 0), (580, .iadd, 1, 0, 0, 0, 0, 0), (581, .iaload, 1, 0, 0, 0, 0, 0), (582, .i2l, 1, 0, 0, 0, 0, 0),
  (583, .ldc2_w 107, 3, 0, 0, 0, 4294967295, 1167), (586, .land, 1, 0, 0, 0, 0, 0), (587, .lor, 1, 0, 0, 0, 0, 0), (588, .aload_n 0, 1, 0, 0, 0, 0, 0),
  (589, .iload 4, 2, 0, 0, 0, 0, 0), (591, .iconst 3, 1, 0, 0, 0, 0, 0), (592, .iadd, 1, 0, 0, 0, 0, 0), (593, .iaload, 1, 0, 0, 0, 0, 0), (594, .aload_n 3, 1, 0, 0, 0, 0, 0),
  (595, .invokestatic 109, 3, 0, 169, 0, 4, 780), (598, .istore 5, 2, 0, 0, 0, 0, 0), (600, .aload_n 2, 1, 0, 0, 0, 0, 0), (601, .aload_n 0, 1, 0, 0, 0, 0, 0),
  (602, .iload 4, 2, 0, 0, 0, 0, 0), (604, .iconst 1, 1, 0, 0, 0, 0, 0), (605, .iadd, 1, 0, 0, 0, 0, 0), (606, .iaload, 1, 0, 0, 0, 0, 0), (607, .i2l, 1, 0, 0, 0, 0, 0),
  (608, .bipush 32, 2, 0, 0, 0, 0, 0), (610, .lshl, 1, 0, 0, 0, 0, 0), (611, .aload_n 0, 1, 0, 0, 0, 0, 0), (612, .iload 4, 2, 0, 0, 0, 0, 0), (614, .iconst 2, 1, 0, 0, 0, 0, 0),
  (615, .iadd, 1, 0, 0, 0, 0, 0), (616, .iaload, 1, 0, 0, 0, 0, 0), (617, .i2l, 1, 0, 0, 0, 0, 0), (618, .ldc2_w 107, 3, 0, 0, 0, 4294967295, 1167),
  (621, .land, 1, 0, 0, 0, 0, 0), (622, .lor, 1, 0, 0, 0, 0, 0), (623, .aload_n 0, 1, 0, 0, 0, 0, 0), (624, .iload 4, 2, 0, 0, 0, 0, 0), (626, .iconst 3, 1, 0, 0, 0, 0, 0),
  (627, .iadd, 1, 0, 0, 0, 0, 0), (628, .iaload, 1, 0, 0, 0, 0, 0), (629, .invokevirtual 112, 3, 1, 157, 0, 2, 1147), (632, .istore 6, 2, 0, 0, 0, 0, 0),
  (634, .aload_n 2, 1, 0, 0, 0, 0, 0), (635, .invokevirtual 63, 3, 1, 102, 0, 0, 901), (638, .iload 5, 2, 0, 0, 0, 0, 0), (640, .if_icmp .eq 5, 3, 0, 0, 0, 0, 0),
  (643, .iconst 0, 1, 0, 0, 0, 0, 0), (644, .ireturn, 1, 0, 0, 0, 0, 0), (645, .iload 5, 2, 0, 0, 0, 0, 0), (647, .ifCond .ne 15, 3, 0, 0, 0, 0, 0),
  (650, .aload_n 3, 1, 0, 0, 0, 0, 0), (651, .iconst 0, 1, 0, 0, 0, 0, 0), (652, .laload, 1, 0, 0, 0, 0, 0), (653, .iload 6, 2, 0, 0, 0, 0, 0), (655, .i2l, 1, 0, 0, 0, 0, 0),
  (656, .lcmp, 1, 0, 0, 0, 0, 0), (657, .ifCond .eq 5, 3, 0, 0, 0, 0, 0), (660, .iconst 0, 1, 0, 0, 0, 0, 0), (661, .ireturn, 1, 0, 0, 0, 0, 0),
  (662, .goto 120, 3, 0, 0, 0, 0, 0), (665, .aload_n 1, 1, 0, 0, 0, 0, 0), (666, .aload_n 0, 1, 0, 0, 0, 0, 0), (667, .iload 4, 2, 0, 0, 0, 0, 0),
  (669, .iconst 1, 1, 0, 0, 0, 0, 0), (670, .iadd, 1, 0, 0, 0, 0, 0), (671, .iaload, 1, 0, 0, 0, 0, 0), (672, .invokestatic 113, 3, 0, 170, 0, 2, 790),
  (675, .istore 5, 2, 0, 0, 0, 0, 0), (677, .aload_n 2, 1, 0, 0, 0, 0, 0), (678, .aload_n 0, 1, 0, 0, 0, 0, 0), (679, .iload 4, 2, 0, 0, 0, 0, 0),
  (681, .iconst 1, 1, 0, 0, 0, 0, 0), (682, .iadd, 1, 0, 0, 0, 0, 0), (683, .iaload, 1, 0, 0, 0, 0, 0), (684, .invokevirtual 116, 3, 1, 158, 0, 1, 1151),
  (687, .aload_n 2, 1, 0, 0, 0, 0, 0), (688, .invokevirtual 63, 3, 1, 102, 0, 0, 901), (691, .iload 5, 2, 0, 0, 0, 0, 0), (693, .if_icmp .eq 5, 3, 0, 0, 0, 0, 0),
  (696, .iconst 0, 1, 0, 0, 0, 0, 0), (697, .ireturn, 1, 0, 0, 0, 0, 0), (698, .goto 84, 3, 0, 0, 0, 0, 0), (701, .aload_n 1, 1, 0, 0, 0, 0, 0),
  (702, .invokevirtual 117, 3, 1, 94, 0, 0, 497), (705, .aload_n 2, 1, 0, 0, 0, 0, 0), (706, .invokevirtual 120, 3, 1, 160, 0, 0, 1155), (709, .if_icmp .eq 73, 3, 0, 0, 0, 0, 0),
  (712, .iconst 0, 1, 0, 0, 0, 0, 0), (713, .ireturn, 1, 0, 0, 0, 0, 0), (714, .aload_n 1, 1, 0, 0, 0, 0, 0), (715, .aload_n 0, 1, 0, 0, 0, 0, 0),
  (716, .iload 4, 2, 0, 0, 0, 0, 0), (718, .iconst 1, 1, 0, 0, 0, 0, 0), (719, .iadd, 1, 0, 0, 0, 0, 0), (720, .iaload, 1, 0, 0, 0, 0, 0), (721, .aload_n 0, 1, 0, 0, 0, 0, 0),
  (722, .iload 4, 2, 0, 0, 0, 0, 0), (724, .iconst 2, 1, 0, 0, 0, 0, 0), (725, .iadd, 1, 0, 0, 0, 0, 0), (726, .iaload, 1, 0, 0, 0, 0, 0), (727, .aload_n 3, 1, 0, 0, 0, 0, 0),
  (728, .invokestatic 121, 3, 0, 171, 0, 4, 798), (731, .istore 5, 2, 0, 0, 0, 0, 0), (733, .aload_n 2, 1, 0, 0, 0, 0, 0), (734, .aload_n 0, 1, 0, 0, 0, 0, 0),
  (735, .iload 4, 2, 0, 0, 0, 0, 0), (737, .iconst 1, 1, 0, 0, 0, 0, 0), (738, .iadd, 1, 0, 0, 0, 0, 0), (739, .iaload, 1, 0, 0, 0, 0, 0), (740, .aload_n 0, 1, 0, 0, 0, 0, 0),
  (741, .iload 4, 2, 0, 0, 0, 0, 0), (743, .iconst 2, 1, 0, 0, 0, 0, 0), (744, .iadd, 1, 0, 0, 0, 0, 0), (745, .iaload, 1, 0, 0, 0, 0, 0),
  (746, .invokevirtual 123, 3, 1, 161, 0, 2, 1163), (749, .istore 6, 2, 0, 0, 0, 0, 0), (751, .aload_n 2, 1, 0, 0, 0, 0, 0), (752, .invokevirtual 63, 3, 1, 102, 0, 0, 901),
  (755, .iload 5, 2, 0, 0, 0, 0, 0), (757, .if_icmp .eq 5, 3, 0, 0, 0, 0, 0), (760, .iconst 0, 1, 0, 0, 0, 0, 0), (761, .ireturn, 1, 0, 0, 0, 0, 0),
  (762, .iload 5, 2, 0, 0, 0, 0, 0), (764, .ifCond .ne 15, 3, 0, 0, 0, 0, 0), (767, .aload_n 3, 1, 0, 0, 0, 0, 0), (768, .iconst 0, 1, 0, 0, 0, 0, 0),
  (769, .laload, 1, 0, 0, 0, 0, 0), (770, .iload 6, 2, 0, 0, 0, 0, 0), (772, .i2l, 1, 0, 0, 0, 0, 0), (773, .lcmp, 1, 0, 0, 0, 0, 0), (774, .ifCond .eq 5, 3, 0, 0, 0, 0, 0),
  (777, .iconst 0, 1, 0, 0, 0, 0, 0), (778, .ireturn, 1, 0, 0, 0, 0, 0), (779, .goto 3, 3, 0, 0, 0, 0, 0), (782, .iinc 4 4, 3, 0, 0, 0, 0, 0),
  (785, .goto (-762), 3, 0, 0, 0, 0, 0), (788, .iconst 1, 1, 0, 0, 0, 0, 0), (789, .ireturn, 1, 0, 0, 0, 0, 0)]
abbrev am_M : Type := MethodName × ByteArray × Nat × Option FieldType × Nat × List (Nat × Nat × Nat × Nat) × List am_E
def am_mt : List am_M := [
  (⟨"java/lang/Math", "abs", "(I)I"⟩, prog_16_method_59_code, 1, (some .int), 15, [], am_c_ma_abs),
  (⟨"java/lang/Math", "max", "(II)I"⟩, prog_16_method_65_code, 2, (some .int), 15, [], am_c_ma_max),
  (⟨"java/lang/Math", "min", "(II)I"⟩, prog_16_method_69_code, 2, (some .int), 15, [], am_c_ma_min),
  (⟨"java/lang/Math", "min", "(JJ)J"⟩, prog_16_method_70_code, 4, (some .long), 15, [], am_c_ma_minL),
  (⟨"SoundShelf$Bytes", "<init>", "()V"⟩, prog_2_method_1_code, 1, none, 0, [], am_c_by_init),
  (⟨"SoundShelf$Bytes", "put", "(I)V"⟩, prog_2_method_2_code, 2, none, 0, [], am_c_by_put),
  (⟨"SoundShelf$Bytes", "putLittle", "(JI)V"⟩, prog_2_method_3_code, 5, none, 0, [], am_c_by_putLittle),
  (⟨"SoundShelf$Bytes", "putBig", "(JI)V"⟩, prog_2_method_4_code, 5, none, 0, [], am_c_by_putBig),
  (⟨"SoundShelf$Bytes", "has", "(II)Z"⟩, prog_2_method_5_code, 3, (some .boolean), 0, [], am_c_by_has),
  (⟨"SoundShelf$Bytes", "numberAt", "(IIZ)J"⟩, prog_2_method_6_code, 7, (some .long), 0, [], am_c_by_numberAt),
  (⟨"SoundShelf$Bytes", "idAt", "(I)I"⟩, prog_2_method_7_code, 2, (some .int), 0, [], am_c_by_idAt),
  (⟨"SoundShelf$Coder", "<init>", "()V"⟩, prog_3_method_1_code, 1, none, 13, [], am_c_co_init),
  (⟨"SoundShelf$Coder", "nearest", "(I)I"⟩, prog_3_method_4_code, 6, (some .int), 13, [], am_c_co_nearest),
  (⟨"SoundShelf$Fmt", "<init>", "()V"⟩, prog_4_method_1_code, 1, none, 1, [], am_c_fm_init),
  (⟨"SoundShelf$Fmt", "tagOfSize", "(J)I"⟩, prog_4_method_2_code, 2, (some .int), 1, [], am_c_fm_tagOfSize),
  (⟨"SoundShelf$Fmt", "setTag", "(I)V"⟩, prog_4_method_3_code, 2, none, 1, [], am_c_fm_setTag),
  (⟨"SoundShelf$Fmt", "setAlign", "(I)V"⟩, prog_4_method_4_code, 2, none, 1, [], am_c_fm_setAlign),
  (⟨"SoundShelf$Fmt", "hasBlocks", "()Z"⟩, prog_4_method_5_code, 1, (some .boolean), 1, [], am_c_fm_hasBlocks),
  (⟨"SoundShelf$Fmt", "sizeOfFmt", "()I"⟩, prog_4_method_6_code, 1, (some .int), 1, [], am_c_fm_sizeOfFmt),
  (⟨"SoundShelf$Fmt", "sizeOfMore", "()I"⟩, prog_4_method_7_code, 1, (some .int), 1, [], am_c_fm_sizeOfMore),
  (⟨"SoundShelf$Fmt", "leastAlign", "()I"⟩, prog_4_method_8_code, 1, (some .int), 1, [], am_c_fm_leastAlign),
  (⟨"SoundShelf$Fmt", "mostAlign", "()I"⟩, prog_4_method_9_code, 1, (some .int), 1, [], am_c_fm_mostAlign),
  (⟨"SoundShelf$Fmt", "bits", "()I"⟩, prog_4_method_10_code, 1, (some .int), 1, [], am_c_fm_bits),
  (⟨"SoundShelf$Fmt", "bytesOfNibbles", "()I"⟩, prog_4_method_11_code, 1, (some .int), 1, [], am_c_fm_bytesOfNibbles),
  (⟨"SoundShelf$Fmt", "bytesASecond", "(I)I"⟩, prog_4_method_12_code, 2, (some .int), 1, [], am_c_fm_bytesASecond),
  (⟨"SoundShelf$Fmt", "sizeOfData", "(I)I"⟩, prog_4_method_13_code, 2, (some .int), 1, [], am_c_fm_sizeOfData),
  (⟨"SoundShelf$Sound", "<init>", "()V"⟩, prog_7_method_1_code, 1, none, 4, [], am_c_so_init),
  (⟨"SoundShelf$Sound", "append", "(I)V"⟩, prog_7_method_2_code, 2, none, 4, [], am_c_so_append),
  (⟨"SoundShelf$Sound", "copyFrom", "(LSoundShelf$Sound;)V"⟩, prog_7_method_3_code, 2, none, 4, [], am_c_so_copyFrom),
  (⟨"SoundShelf$Predictor", "<init>", "()V"⟩, prog_5_method_1_code, 1, none, 2, [], am_c_pr_init),
  (⟨"SoundShelf$Predictor", "start", "(IIII)V"⟩, prog_5_method_2_code, 5, none, 2, [], am_c_pr_start),
  (⟨"SoundShelf$Predictor", "next", "(I)I"⟩, prog_5_method_3_code, 4, (some .int), 2, [], am_c_pr_next),
  (⟨"SoundShelf$Predictor", "accept", "(II)V"⟩, prog_5_method_4_code, 3, none, 2, [], am_c_pr_accept),
  (⟨"SoundShelf$Stepper", "<init>", "()V"⟩, prog_8_method_1_code, 1, none, 5, [], am_c_sp_init),
  (⟨"SoundShelf$Stepper", "start", "(II)V"⟩, prog_8_method_2_code, 3, none, 5, [], am_c_sp_start),
  (⟨"SoundShelf$Stepper", "next", "(I)I"⟩, prog_8_method_3_code, 5, (some .int), 5, [], am_c_sp_next),
  (⟨"SoundShelf$Stepper", "accept", "(II)V"⟩, prog_8_method_4_code, 3, none, 5, [], am_c_sp_accept),
  (⟨"SoundShelf$Reader", "<init>", "(LSoundShelf$Bytes;)V"⟩, prog_6_method_1_code, 2, none, 3, [], am_c_rd_init),
  (⟨"SoundShelf$Reader", "readFile", "()I"⟩, prog_6_method_2_code, 3, (some .int), 3, [], am_c_rd_readFile),
  (⟨"SoundShelf$Reader", "formOfFile", "()I"⟩, prog_6_method_3_code, 1, (some .int), 3, [], am_c_rd_formOfFile),
  (⟨"SoundShelf$Reader", "takeHead", "()Z"⟩, prog_6_method_4_code, 1, (some .boolean), 3, [], am_c_rd_takeHead),
  (⟨"SoundShelf$Reader", "isAtSamples", "()Z"⟩, prog_6_method_5_code, 1, (some .boolean), 3, [], am_c_rd_isAtSamples),
  (⟨"SoundShelf$Reader", "takeChunk", "()Z"⟩, prog_6_method_6_code, 2, (some .boolean), 3, [], am_c_rd_takeChunk),
  (⟨"SoundShelf$Reader", "takeFmt", "()Z"⟩, prog_6_method_7_code, 4, (some .boolean), 3, [], am_c_rd_takeFmt),
  (⟨"SoundShelf$Reader", "takeAlign", "()Z"⟩, prog_6_method_8_code, 1, (some .boolean), 3, [], am_c_rd_takeAlign),
  (⟨"SoundShelf$Reader", "takeMoreOfFmt", "()Z"⟩, prog_6_method_9_code, 6, (some .boolean), 3, [], am_c_rd_takeMoreOfFmt),
  (⟨"SoundShelf$Reader", "isSpeedRight", "(I)Z"⟩, prog_6_method_10_code, 3, (some .boolean), 3, [], am_c_rd_isSpeedRight),
  (⟨"SoundShelf$Reader", "takeFact", "()Z"⟩, prog_6_method_11_code, 1, (some .boolean), 3, [], am_c_rd_takeFact),
  (⟨"SoundShelf$Reader", "takeComm", "()Z"⟩, prog_6_method_12_code, 1, (some .boolean), 3, [], am_c_rd_takeComm),
  (⟨"SoundShelf$Reader", "takeLongRate", "()Z"⟩, prog_6_method_13_code, 6, (some .boolean), 3, [], am_c_rd_takeLongRate),
  (⟨"SoundShelf$Reader", "passOver", "()Z"⟩, prog_6_method_14_code, 3, (some .boolean), 3, [], am_c_rd_passOver),
  (⟨"SoundShelf$Reader", "takeData", "()Z"⟩, prog_6_method_15_code, 3, (some .boolean), 3, [], am_c_rd_takeData),
  (⟨"SoundShelf$Reader", "samplesOfPlain", "(J)I"⟩, prog_6_method_16_code, 3, (some .int), 3, [], am_c_rd_samplesOfPlain),
  (⟨"SoundShelf$Reader", "takePlain", "()V"⟩, prog_6_method_17_code, 2, none, 3, [], am_c_rd_takePlain),
  (⟨"SoundShelf$Reader", "takeStepped", "()Z"⟩, prog_6_method_18_code, 3, (some .boolean), 3, [], am_c_rd_takeStepped),
  (⟨"SoundShelf$Reader", "takePredicted", "()Z"⟩, prog_6_method_19_code, 6, (some .boolean), 3, [], am_c_rd_takePredicted),
  (⟨"SoundShelf$Reader", "takeWord", "()I"⟩, prog_6_method_20_code, 2, (some .int), 3, [], am_c_rd_takeWord),
  (⟨"SoundShelf$Reader", "takeNibbles", "(LSoundShelf$Coder;II)V"⟩, prog_6_method_21_code, 9, none, 3, [], am_c_rd_takeNibbles),
  (⟨"SoundShelf$Reader", "appendPromised", "(I)V"⟩, prog_6_method_22_code, 2, none, 3, [], am_c_rd_appendPromised),
  (⟨"SoundShelf$Reader", "takeSsnd", "()Z"⟩, prog_6_method_23_code, 5, (some .boolean), 3, [], am_c_rd_takeSsnd),
  (⟨"SoundShelf$Reader", "takeId", "(I)Z"⟩, prog_6_method_24_code, 2, (some .boolean), 3, [], am_c_rd_takeId),
  (⟨"SoundShelf$Reader", "takeSize", "(J)Z"⟩, prog_6_method_25_code, 3, (some .boolean), 3, [], am_c_rd_takeSize),
  (⟨"SoundShelf$Reader", "takeByteBehind", "(J)Z"⟩, prog_6_method_26_code, 3, (some .boolean), 3, [], am_c_rd_takeByteBehind),
  (⟨"SoundShelf$Reader", "take", "(IJ)Z"⟩, prog_6_method_27_code, 4, (some .boolean), 3, [], am_c_rd_take),
  (⟨"SoundShelf$Reader", "takeWithin", "(IJJ)Z"⟩, prog_6_method_28_code, 6, (some .boolean), 3, [], am_c_rd_takeWithin),
  (⟨"SoundShelf$Writer", "<init>", "(LSoundShelf$Sound;LSoundShelf$Bytes;)V"⟩, prog_9_method_1_code, 3, none, 6, [], am_c_wr_init),
  (⟨"SoundShelf$Writer", "writePlain", "(I)V"⟩, prog_9_method_2_code, 3, none, 6, [], am_c_wr_writePlain),
  (⟨"SoundShelf$Writer", "writeStepped", "(I)V"⟩, prog_9_method_3_code, 4, none, 6, [], am_c_wr_writeStepped),
  (⟨"SoundShelf$Writer", "writePredicted", "(I)V"⟩, prog_9_method_4_code, 5, none, 6, [], am_c_wr_writePredicted),
  (⟨"SoundShelf$Writer", "writeOther", "(I)V"⟩, prog_9_method_5_code, 5, none, 6, [], am_c_wr_writeOther),
  (⟨"SoundShelf$Writer", "startWave", "(II)V"⟩, prog_9_method_6_code, 6, none, 6, [], am_c_wr_startWave),
  (⟨"SoundShelf$Writer", "putFmt", "()V"⟩, prog_9_method_7_code, 5, none, 6, [], am_c_wr_putFmt),
  (⟨"SoundShelf$Writer", "startOther", "(II)V"⟩, prog_9_method_8_code, 4, none, 6, [], am_c_wr_startOther),
  (⟨"SoundShelf$Writer", "putByteBehind", "(I)V"⟩, prog_9_method_9_code, 2, none, 6, [], am_c_wr_putByteBehind),
  (⟨"SoundShelf$Writer", "secondOfBlock", "(I)I"⟩, prog_9_method_10_code, 2, (some .int), 6, [], am_c_wr_secondOfBlock),
  (⟨"SoundShelf$Writer", "bestPair", "(II)I"⟩, prog_9_method_11_code, 7, (some .int), 6, [], am_c_wr_bestPair),
  (⟨"SoundShelf$Writer", "startPair", "(III)V"⟩, prog_9_method_12_code, 4, none, 6, [], am_c_wr_startPair),
  (⟨"SoundShelf$Writer", "chooseNibbles", "(LSoundShelf$Coder;I)I"⟩, prog_9_method_13_code, 7, (some .int), 6, [], am_c_wr_chooseNibbles),
  (⟨"SoundShelf$Writer", "putNibbles", "(II)V"⟩, prog_9_method_14_code, 5, none, 6, [], am_c_wr_putNibbles),
  (⟨"SoundShelf", "<init>", "()V"⟩, prog_1_method_1_code, 1, none, 7, [], am_c_sh_init),
  (⟨"SoundShelf", "add", "(I)I"⟩, prog_1_method_2_code, 2, (some .int), 7, [], am_c_sh_add),
  (⟨"SoundShelf", "clear", "()I"⟩, prog_1_method_3_code, 2, (some .int), 7, [], am_c_sh_clear),
  (⟨"SoundShelf", "samples", "()I"⟩, prog_1_method_4_code, 1, (some .int), 7, [], am_c_sh_samples),
  (⟨"SoundShelf", "at", "(I)I"⟩, prog_1_method_5_code, 2, (some .int), 7, [], am_c_sh_at),
  (⟨"SoundShelf", "tune", "(I)I"⟩, prog_1_method_6_code, 3, (some .int), 7, [], am_c_sh_tune),
  (⟨"SoundShelf", "rate", "()I"⟩, prog_1_method_7_code, 1, (some .int), 7, [], am_c_sh_rate),
  (⟨"SoundShelf", "write", "(II)I"⟩, prog_1_method_8_code, 3, (some .int), 7, [], am_c_sh_write),
  (⟨"SoundShelf", "read", "()I"⟩, prog_1_method_9_code, 2, (some .int), 7, [], am_c_sh_read),
  (⟨"SoundShelf", "form", "()I"⟩, prog_1_method_10_code, 1, (some .int), 7, [], am_c_sh_form),
  (⟨"SoundShelf", "size", "()I"⟩, prog_1_method_11_code, 1, (some .int), 7, [], am_c_sh_size),
  (⟨"SoundShelf", "byteAt", "(I)I"⟩, prog_1_method_12_code, 2, (some .int), 7, [], am_c_sh_byteAt),
  (⟨"SoundShelf", "poke", "(II)V"⟩, prog_1_method_13_code, 3, none, 7, [], am_c_sh_poke),
  (⟨"SoundShelf", "type", "(JI)I"⟩, prog_1_method_14_code, 4, (some .int), 7, [], am_c_sh_type),
  (⟨"SoundShelf", "cut", "(I)V"⟩, prog_1_method_15_code, 2, none, 7, [], am_c_sh_cut),
  (⟨"SoundShelf", "chunks", "()I"⟩, prog_1_method_16_code, 3, (some .int), 7, [], am_c_sh_chunks),
  (⟨"SoundShelf", "chunk", "(II)I"⟩, prog_1_method_17_code, 4, (some .int), 7, [], am_c_sh_chunk),
  (⟨"SoundShelf", "isWritable", "(II)Z"⟩, prog_1_method_18_code, 2, (some .boolean), 7, [], am_c_sh_isWritable),
  (⟨"SoundShelf", "placeOfChunk", "(I)I"⟩, prog_1_method_19_code, 4, (some .int), 7, [], am_c_sh_placeOfChunk),
  (⟨"SoundShelf", "endOfChunk", "(I)I"⟩, prog_1_method_20_code, 6, (some .int), 7, [], am_c_sh_endOfChunk),
  (⟨"SoundShelf", "sizeOfChunk", "(I)J"⟩, prog_1_method_21_code, 3, (some .long), 7, [], am_c_sh_sizeOfChunk),
  (⟨"SoundShelf", "limit", "(III)I"⟩, prog_1_method_22_code, 3, (some .int), 7, [], am_c_sh_limit),
  (⟨"SoundShelfModel", "<init>", "()V"⟩, prog_11_method_1_code, 1, none, 8, [], am_c_mo_init),
  (⟨"SoundShelfModel", "thrown", "()I"⟩, prog_11_method_2_code, 1, (some .int), 8, [], am_c_mo_thrown),
  (⟨"SoundShelfModel", "within", "(JJJ)Z"⟩, prog_11_method_3_code, 6, (some .boolean), 8, [], am_c_mo_within),
  (⟨"SoundShelfModel", "clip", "(I)I"⟩, prog_11_method_4_code, 1, (some .int), 8, [], am_c_mo_clip),
  (⟨"SoundShelfModel", "add", "(I)I"⟩, prog_11_method_5_code, 2, (some .int), 8, [], am_c_mo_add),
  (⟨"SoundShelfModel", "clear", "()I"⟩, prog_11_method_6_code, 2, (some .int), 8, [], am_c_mo_clear),
  (⟨"SoundShelfModel", "samples", "()I"⟩, prog_11_method_7_code, 1, (some .int), 8, [], am_c_mo_samples),
  (⟨"SoundShelfModel", "at", "(I)I"⟩, prog_11_method_8_code, 2, (some .int), 8, [], am_c_mo_at),
  (⟨"SoundShelfModel", "tune", "(I)I"⟩, prog_11_method_9_code, 3, (some .int), 8, [], am_c_mo_tune),
  (⟨"SoundShelfModel", "rate", "()I"⟩, prog_11_method_10_code, 1, (some .int), 8, [], am_c_mo_rate),
  (⟨"SoundShelfModel", "step", "(I)I"⟩, prog_11_method_11_code, 1, (some .int), 8, [], am_c_mo_step),
  (⟨"SoundShelfModel", "first", "(I)I"⟩, prog_11_method_12_code, 1, (some .int), 8, [], am_c_mo_first),
  (⟨"SoundShelfModel", "second", "(I)I"⟩, prog_11_method_13_code, 1, (some .int), 8, [], am_c_mo_second),
  (⟨"SoundShelfModel", "growth", "(I)I"⟩, prog_11_method_14_code, 2, (some .int), 8, [], am_c_mo_growth),
  (⟨"SoundShelfModel", "stepped", "(I)I"⟩, prog_11_method_15_code, 4, (some .int), 8, [], am_c_mo_stepped),
  (⟨"SoundShelfModel", "goStepped", "(I)V"⟩, prog_11_method_16_code, 3, none, 8, [], am_c_mo_goStepped),
  (⟨"SoundShelfModel", "predicted", "(II)I"⟩, prog_11_method_17_code, 4, (some .int), 8, [], am_c_mo_predicted),
  (⟨"SoundShelfModel", "goPredicted", "(II)V"⟩, prog_11_method_18_code, 4, none, 8, [], am_c_mo_goPredicted),
  (⟨"SoundShelfModel", "distance", "(III)I"⟩, prog_11_method_19_code, 5, (some .int), 8, [], am_c_mo_distance),
  (⟨"SoundShelfModel", "nearest", "(II)I"⟩, prog_11_method_20_code, 5, (some .int), 8, [], am_c_mo_nearest),
  (⟨"SoundShelfModel", "follow", "(III)I"⟩, prog_11_method_21_code, 8, (some .int), 8, [], am_c_mo_follow),
  (⟨"SoundShelfModel", "put", "(JIZ)V"⟩, prog_11_method_22_code, 7, none, 8, [], am_c_mo_put),
  (⟨"SoundShelfModel", "little", "(JI)V"⟩, prog_11_method_23_code, 4, none, 8, [], am_c_mo_little),
  (⟨"SoundShelfModel", "writeFormat", "(II)V"⟩, prog_11_method_24_code, 7, none, 8, [], am_c_mo_writeFormat),
  (⟨"SoundShelfModel", "putNibbles", "(IZ)V"⟩, prog_11_method_25_code, 6, none, 8, [], am_c_mo_putNibbles),
  (⟨"SoundShelfModel", "writeStepped", "(I)V"⟩, prog_11_method_26_code, 4, none, 8, [], am_c_mo_writeStepped),
  (⟨"SoundShelfModel", "startPredicted", "(II)V"⟩, prog_11_method_27_code, 3, none, 8, [], am_c_mo_startPredicted),
  (⟨"SoundShelfModel", "writePredicted", "(I)V"⟩, prog_11_method_28_code, 8, none, 8, [], am_c_mo_writePredicted),
  (⟨"SoundShelfModel", "blocks", "(II)I"⟩, prog_11_method_29_code, 2, (some .int), 8, [], am_c_mo_blocks),
  (⟨"SoundShelfModel", "writeWave", "(II)V"⟩, prog_11_method_30_code, 5, none, 8, [], am_c_mo_writeWave),
  (⟨"SoundShelfModel", "greatest", "(I)I"⟩, prog_11_method_31_code, 2, (some .int), 8, [], am_c_mo_greatest),
  (⟨"SoundShelfModel", "writeOther", "(I)V"⟩, prog_11_method_32_code, 5, none, 8, [], am_c_mo_writeOther),
  (⟨"SoundShelfModel", "write", "(II)I"⟩, prog_11_method_33_code, 5, (some .int), 8, [], am_c_mo_write),
  (⟨"SoundShelfModel", "peek", "(IIZ)J"⟩, prog_11_method_34_code, 8, (some .long), 8, [], am_c_mo_peek),
  (⟨"SoundShelfModel", "ask", "(IZJJ)J"⟩, prog_11_method_35_code, 9, (some .long), 8, [], am_c_mo_ask),
  (⟨"SoundShelfModel", "exact", "(IZJ)V"⟩, prog_11_method_36_code, 7, none, 8, [], am_c_mo_exact),
  (⟨"SoundShelfModel", "open", "(ZJJJ)I"⟩, prog_11_method_37_code, 11, (some .int), 8, [], am_c_mo_open),
  (⟨"SoundShelfModel", "passOver", "(Z)V"⟩, prog_11_method_38_code, 5, none, 8, [], am_c_mo_passOver),
  (⟨"SoundShelfModel", "pad", "(I)V"⟩, prog_11_method_39_code, 2, none, 8, [], am_c_mo_pad),
  (⟨"SoundShelfModel", "perBlock", "()I"⟩, prog_11_method_40_code, 1, (some .int), 8, [], am_c_mo_perBlock),
  (⟨"SoundShelfModel", "readFormat", "()V"⟩, prog_11_method_41_code, 7, none, 8, [], am_c_mo_readFormat),
  (⟨"SoundShelfModel", "readCount", "()V"⟩, prog_11_method_42_code, 2, none, 8, [], am_c_mo_readCount),
  (⟨"SoundShelfModel", "signed", "(JI)I"⟩, prog_11_method_43_code, 3, (some .int), 8, [], am_c_mo_signed),
  (⟨"SoundShelfModel", "keep", "(I)V"⟩, prog_11_method_44_code, 2, none, 8, [], am_c_mo_keep),
  (⟨"SoundShelfModel", "readStepped", "(I)V"⟩, prog_11_method_45_code, 4, none, 8, [], am_c_mo_readStepped),
  (⟨"SoundShelfModel", "readPredicted", "(I)V"⟩, prog_11_method_46_code, 6, none, 8, [], am_c_mo_readPredicted),
  (⟨"SoundShelfModel", "readData", "()V"⟩, prog_11_method_47_code, 9, none, 8, [], am_c_mo_readData),
  (⟨"SoundShelfModel", "readWave", "()V"⟩, prog_11_method_48_code, 6, none, 8, [], am_c_mo_readWave),
  (⟨"SoundShelfModel", "readCommon", "()V"⟩, prog_11_method_49_code, 10, none, 8, [], am_c_mo_readCommon),
  (⟨"SoundShelfModel", "readOtherData", "()V"⟩, prog_11_method_50_code, 8, none, 8, [], am_c_mo_readOtherData),
  (⟨"SoundShelfModel", "readOther", "()V"⟩, prog_11_method_51_code, 4, none, 8, [], am_c_mo_readOther),
  (⟨"SoundShelfModel", "read", "()I"⟩, prog_11_method_52_code, 5, (some .int), 8, [], am_c_mo_read),
  (⟨"SoundShelfModel", "form", "()I"⟩, prog_11_method_53_code, 1, (some .int), 8, [], am_c_mo_form),
  (⟨"SoundShelfModel", "size", "()I"⟩, prog_11_method_54_code, 1, (some .int), 8, [], am_c_mo_size),
  (⟨"SoundShelfModel", "byteAt", "(I)I"⟩, prog_11_method_55_code, 2, (some .int), 8, [], am_c_mo_byteAt),
  (⟨"SoundShelfModel", "poke", "(II)V"⟩, prog_11_method_56_code, 3, none, 8, [], am_c_mo_poke),
  (⟨"SoundShelfModel", "type", "(JI)I"⟩, prog_11_method_57_code, 4, (some .int), 8, [], am_c_mo_type),
  (⟨"SoundShelfModel", "cut", "(I)V"⟩, prog_11_method_58_code, 2, none, 8, [], am_c_mo_cut),
  (⟨"SoundShelfModel", "behind", "(I)I"⟩, prog_11_method_59_code, 4, (some .int), 8, [], am_c_mo_behind),
  (⟨"SoundShelfModel", "chunks", "()I"⟩, prog_11_method_60_code, 3, (some .int), 8, [], am_c_mo_chunks),
  (⟨"SoundShelfModel", "chunk", "(II)I"⟩, prog_11_method_61_code, 7, (some .int), 8, [], am_c_mo_chunk),
  (⟨"SoundShelfLaw", "add", "(LSoundShelf;I[J)I"⟩, method_3_code, 4, (some .int), 14, [(0, 9, 12, 9), (0, 9, 15, 10)], am_c_la_add),
  (⟨"SoundShelfLaw", "at", "(LSoundShelf;I[J)I"⟩, method_4_code, 4, (some .int), 14, [(0, 9, 12, 11)], am_c_la_at),
  (⟨"SoundShelfLaw", "tune", "(LSoundShelf;I[J)I"⟩, method_5_code, 4, (some .int), 14, [(0, 9, 12, 9)], am_c_la_tune),
  (⟨"SoundShelfLaw", "write", "(LSoundShelf;II[J)I"⟩, method_6_code, 5, (some .int), 14, [(0, 10, 13, 9)], am_c_la_write),
  (⟨"SoundShelfLaw", "form", "(LSoundShelf;[J)I"⟩, method_7_code, 3, (some .int), 14, [(0, 8, 11, 10)], am_c_la_form),
  (⟨"SoundShelfLaw", "byteAt", "(LSoundShelf;I[J)I"⟩, method_8_code, 4, (some .int), 14, [(0, 9, 12, 11)], am_c_la_byteAt),
  (⟨"SoundShelfLaw", "poke", "(LSoundShelf;II)I"⟩, method_9_code, 4, (some .int), 14, [(0, 6, 9, 11), (0, 6, 12, 9)], am_c_la_poke),
  (⟨"SoundShelfLaw", "type", "(LSoundShelf;JI[J)I"⟩, method_10_code, 6, (some .int), 14, [(0, 11, 14, 9), (0, 11, 18, 10)], am_c_la_type),
  (⟨"SoundShelfLaw", "cut", "(LSoundShelf;I)I"⟩, method_11_code, 3, (some .int), 14, [(0, 5, 8, 9)], am_c_la_cut),
  (⟨"SoundShelfLaw", "chunk", "(LSoundShelf;II[J)I"⟩, method_12_code, 5, (some .int), 14, [(0, 10, 13, 9), (0, 10, 17, 12)], am_c_la_chunk),
  (⟨"SoundShelfLaw", "law", "([I)Z"⟩, code, 7, (some .boolean), 14, [], am_c_la_law)]
abbrev k_ma_abs : Nat := 0
abbrev k_ma_max : Nat := 1
abbrev k_ma_min : Nat := 2
abbrev k_ma_minL : Nat := 3
abbrev k_by_init : Nat := 4
abbrev k_by_put : Nat := 5
abbrev k_by_putLittle : Nat := 6
abbrev k_by_putBig : Nat := 7
abbrev k_by_has : Nat := 8
abbrev k_by_numberAt : Nat := 9
abbrev k_by_idAt : Nat := 10
abbrev k_co_init : Nat := 11
abbrev k_co_nearest : Nat := 12
abbrev k_fm_init : Nat := 13
abbrev k_fm_tagOfSize : Nat := 14
abbrev k_fm_setTag : Nat := 15
abbrev k_fm_setAlign : Nat := 16
abbrev k_fm_hasBlocks : Nat := 17
abbrev k_fm_sizeOfFmt : Nat := 18
abbrev k_fm_sizeOfMore : Nat := 19
abbrev k_fm_leastAlign : Nat := 20
abbrev k_fm_mostAlign : Nat := 21
abbrev k_fm_bits : Nat := 22
abbrev k_fm_bytesOfNibbles : Nat := 23
abbrev k_fm_bytesASecond : Nat := 24
abbrev k_fm_sizeOfData : Nat := 25
abbrev k_so_init : Nat := 26
abbrev k_so_append : Nat := 27
abbrev k_so_copyFrom : Nat := 28
abbrev k_pr_init : Nat := 29
abbrev k_pr_start : Nat := 30
abbrev k_pr_next : Nat := 31
abbrev k_pr_accept : Nat := 32
abbrev k_sp_init : Nat := 33
abbrev k_sp_start : Nat := 34
abbrev k_sp_next : Nat := 35
abbrev k_sp_accept : Nat := 36
abbrev k_rd_init : Nat := 37
abbrev k_rd_readFile : Nat := 38
abbrev k_rd_formOfFile : Nat := 39
abbrev k_rd_takeHead : Nat := 40
abbrev k_rd_isAtSamples : Nat := 41
abbrev k_rd_takeChunk : Nat := 42
abbrev k_rd_takeFmt : Nat := 43
abbrev k_rd_takeAlign : Nat := 44
abbrev k_rd_takeMoreOfFmt : Nat := 45
abbrev k_rd_isSpeedRight : Nat := 46
abbrev k_rd_takeFact : Nat := 47
abbrev k_rd_takeComm : Nat := 48
abbrev k_rd_takeLongRate : Nat := 49
abbrev k_rd_passOver : Nat := 50
abbrev k_rd_takeData : Nat := 51
abbrev k_rd_samplesOfPlain : Nat := 52
abbrev k_rd_takePlain : Nat := 53
abbrev k_rd_takeStepped : Nat := 54
abbrev k_rd_takePredicted : Nat := 55
abbrev k_rd_takeWord : Nat := 56
abbrev k_rd_takeNibbles : Nat := 57
abbrev k_rd_appendPromised : Nat := 58
abbrev k_rd_takeSsnd : Nat := 59
abbrev k_rd_takeId : Nat := 60
abbrev k_rd_takeSize : Nat := 61
abbrev k_rd_takeByteBehind : Nat := 62
abbrev k_rd_take : Nat := 63
abbrev k_rd_takeWithin : Nat := 64
abbrev k_wr_init : Nat := 65
abbrev k_wr_writePlain : Nat := 66
abbrev k_wr_writeStepped : Nat := 67
abbrev k_wr_writePredicted : Nat := 68
abbrev k_wr_writeOther : Nat := 69
abbrev k_wr_startWave : Nat := 70
abbrev k_wr_putFmt : Nat := 71
abbrev k_wr_startOther : Nat := 72
abbrev k_wr_putByteBehind : Nat := 73
abbrev k_wr_secondOfBlock : Nat := 74
abbrev k_wr_bestPair : Nat := 75
abbrev k_wr_startPair : Nat := 76
abbrev k_wr_chooseNibbles : Nat := 77
abbrev k_wr_putNibbles : Nat := 78
abbrev k_sh_init : Nat := 79
abbrev k_sh_add : Nat := 80
abbrev k_sh_clear : Nat := 81
abbrev k_sh_samples : Nat := 82
abbrev k_sh_at : Nat := 83
abbrev k_sh_tune : Nat := 84
abbrev k_sh_rate : Nat := 85
abbrev k_sh_write : Nat := 86
abbrev k_sh_read : Nat := 87
abbrev k_sh_form : Nat := 88
abbrev k_sh_size : Nat := 89
abbrev k_sh_byteAt : Nat := 90
abbrev k_sh_poke : Nat := 91
abbrev k_sh_type : Nat := 92
abbrev k_sh_cut : Nat := 93
abbrev k_sh_chunks : Nat := 94
abbrev k_sh_chunk : Nat := 95
abbrev k_sh_isWritable : Nat := 96
abbrev k_sh_placeOfChunk : Nat := 97
abbrev k_sh_endOfChunk : Nat := 98
abbrev k_sh_sizeOfChunk : Nat := 99
abbrev k_sh_limit : Nat := 100
abbrev k_mo_init : Nat := 101
abbrev k_mo_thrown : Nat := 102
abbrev k_mo_within : Nat := 103
abbrev k_mo_clip : Nat := 104
abbrev k_mo_add : Nat := 105
abbrev k_mo_clear : Nat := 106
abbrev k_mo_samples : Nat := 107
abbrev k_mo_at : Nat := 108
abbrev k_mo_tune : Nat := 109
abbrev k_mo_rate : Nat := 110
abbrev k_mo_step : Nat := 111
abbrev k_mo_first : Nat := 112
abbrev k_mo_second : Nat := 113
abbrev k_mo_growth : Nat := 114
abbrev k_mo_stepped : Nat := 115
abbrev k_mo_goStepped : Nat := 116
abbrev k_mo_predicted : Nat := 117
abbrev k_mo_goPredicted : Nat := 118
abbrev k_mo_distance : Nat := 119
abbrev k_mo_nearest : Nat := 120
abbrev k_mo_follow : Nat := 121
abbrev k_mo_put : Nat := 122
abbrev k_mo_little : Nat := 123
abbrev k_mo_writeFormat : Nat := 124
abbrev k_mo_putNibbles : Nat := 125
abbrev k_mo_writeStepped : Nat := 126
abbrev k_mo_startPredicted : Nat := 127
abbrev k_mo_writePredicted : Nat := 128
abbrev k_mo_blocks : Nat := 129
abbrev k_mo_writeWave : Nat := 130
abbrev k_mo_greatest : Nat := 131
abbrev k_mo_writeOther : Nat := 132
abbrev k_mo_write : Nat := 133
abbrev k_mo_peek : Nat := 134
abbrev k_mo_ask : Nat := 135
abbrev k_mo_exact : Nat := 136
abbrev k_mo_open : Nat := 137
abbrev k_mo_passOver : Nat := 138
abbrev k_mo_pad : Nat := 139
abbrev k_mo_perBlock : Nat := 140
abbrev k_mo_readFormat : Nat := 141
abbrev k_mo_readCount : Nat := 142
abbrev k_mo_signed : Nat := 143
abbrev k_mo_keep : Nat := 144
abbrev k_mo_readStepped : Nat := 145
abbrev k_mo_readPredicted : Nat := 146
abbrev k_mo_readData : Nat := 147
abbrev k_mo_readWave : Nat := 148
abbrev k_mo_readCommon : Nat := 149
abbrev k_mo_readOtherData : Nat := 150
abbrev k_mo_readOther : Nat := 151
abbrev k_mo_read : Nat := 152
abbrev k_mo_form : Nat := 153
abbrev k_mo_size : Nat := 154
abbrev k_mo_byteAt : Nat := 155
abbrev k_mo_poke : Nat := 156
abbrev k_mo_type : Nat := 157
abbrev k_mo_cut : Nat := 158
abbrev k_mo_behind : Nat := 159
abbrev k_mo_chunks : Nat := 160
abbrev k_mo_chunk : Nat := 161
abbrev k_la_add : Nat := 162
abbrev k_la_at : Nat := 163
abbrev k_la_tune : Nat := 164
abbrev k_la_write : Nat := 165
abbrev k_la_form : Nat := 166
abbrev k_la_byteAt : Nat := 167
abbrev k_la_poke : Nat := 168
abbrev k_la_type : Nat := 169
abbrev k_la_cut : Nat := 170
abbrev k_la_chunk : Nat := 171
abbrev k_la_law : Nat := 172
end
section
/-! THE ABSTRACT MACHINE (mine): a pure picture of a run of the program's bytecode. Its heap is a list of cells by number: an object (class, fields), a row of ints, a row of longs; a reference is a cell's number; '.float t' stands for a row that was there before (t 0 to 3: the class's constant rows, 4: the script). A state: place, locals, stack, heap, and whether a cell was written in this call. -/
abbrev am_C : Type := (Nat × List Value) ⊕ ((Nat × (Nat → Int32)) ⊕ (Nat × (Nat → Int64)))
abbrev am_H : Type := List am_C
abbrev am_L : Type := List (Option Value)
abbrev am_F : Type := Nat × am_L × List Value × am_H × Bool
abbrev am_R : Type := (Option Value ⊕ Nat) × am_H × Bool
abbrev am_S : Type := Nat × (Nat → Int32)
def am_row (k : Nat) : am_M := am_mt.getD k (⟨"", "", ""⟩, ⟨#[]⟩, 0, none, 0, [], [])
def am_nm (k : Nat) : MethodName := (am_row k).1
def am_by (k : Nat) : ByteArray := (am_row k).2.1
def am_ml (k : Nat) : Nat := (am_row k).2.2.1
def am_rt (k : Nat) : Option FieldType := (am_row k).2.2.2.1
def am_ow (k : Nat) : Nat := (am_row k).2.2.2.2.1
def am_hd (k : Nat) : List (Nat × Nat × Nat × Nat) := (am_row k).2.2.2.2.2.1
def am_code (k : Nat) : List am_E := (am_row k).2.2.2.2.2.2
def am_find (pc : Nat) : List am_E → Option am_E
  | [] => none
  | q :: l => bif Nat.beq q.1 pc then some q else am_find pc l
def am_op (k pc : Nat) : Option am_E := am_find pc (am_code k)
/-- what is forgotten of the locals does no harm -/
def am_fg (L M : am_L) : Prop := M.length = L.length ∧ ∀ (i : Nat) (v : Value), M[i]? = some (some v) → L[i]? = some (some v)
/-- locals -/
def am_clr (L : am_L) : Nat → am_L
  | 0 => L
  | j + 1 => match L[j]? with
    | some (some (.long _)) => L.set j none
    | some (some (.double _)) => L.set j none
    | _ => L
def am_st1 (L : am_L) (i : Nat) (v : Value) : Option am_L := bif Nat.blt i L.length then some ((am_clr L i).set i (some v)) else none
def am_st2 (L : am_L) (i : Nat) (v : Value) : Option am_L := bif Nat.blt (i + 1) L.length then some (((am_clr L i).set i (some v)).set (i + 1) none) else none
def am_lay : List Value → am_L
  | [] => []
  | .long x :: l => some (.long x) :: none :: am_lay l
  | v :: l => some v :: am_lay l
def am_ent (k : Nat) (as : List Value) : am_L := am_lay as ++ List.replicate (am_ml k - (am_lay as).length) none
/-- branches -/
def am_tg (pc : Nat) (off : Int) : Option Nat := match (pc : Int) + off with
  | .ofNat t => some t
  | .negSucc _ => none
def am_c1 : Jvm.ClassFile.Cond → Int32 → Bool
  | .eq, x => decide (x = 0)
  | .ne, x => decide (¬ x = 0)
  | .lt, x => decide (x < 0)
  | .ge, x => decide (0 ≤ x)
  | .gt, x => decide (0 < x)
  | .le, x => decide (x ≤ 0)
def am_c2 : Jvm.ClassFile.Cond → Int32 → Int32 → Bool
  | .eq, x, y => decide (x = y)
  | .ne, x, y => decide (¬ x = y)
  | .lt, x, y => decide (x < y)
  | .ge, x, y => decide (y ≤ x)
  | .gt, x, y => decide (y < x)
  | .le, x, y => decide (x ≤ y)
/-- constants as the literals that they are -/
def am_i : Int → Int32
  | .ofNat m => Int32.ofNat m
  | .negSucc m => -(Int32.ofNat (m + 1))
def am_j : Int → Int64
  | .ofNat m => Int64.ofNat m
  | .negSucc m => -(Int64.ofNat (m + 1))
/-- group A: constants, loads -/
def am_sA (x : Nat) (v : Int) (I : Instr) (L : am_L) : Option (Value × Nat) := match I with
  | .ldc _ => bif Nat.beq x 0 then some (.int (am_i v), 2) else none
  | .ldc_w _ => bif Nat.beq x 0 then some (.int (am_i v), 3) else none
  | .ldc2_w _ => some (.long (am_j v), 3)
  | .iconst n => some (.int (am_i n), 1)
  | .bipush n => some (.int (am_i n), 2)
  | .sipush n => some (.int (am_i n), 3)
  | .lconst n => some (.long (Int64.ofNat n), 1)
  | .iload_n n => match L[(n : Nat)]? with
    | some (some (.int x)) => some (.int x, 1)
    | _ => none
  | .iload n => match L[n]? with
    | some (some (.int x)) => some (.int x, 2)
    | _ => none
  | .lload_n n => match L[(n : Nat)]? with
    | some (some (.long x)) => some (.long x, 1)
    | _ => none
  | .lload n => match L[n]? with
    | some (some (.long x)) => some (.long x, 2)
    | _ => none
  | .aload_n n => match L[(n : Nat)]? with
    | some (some (.ref x)) => some (.ref x, 1)
    | some (some (.float x)) => some (.float x, 1)
    | _ => none
  | .aload n => match L[n]? with
    | some (some (.ref x)) => some (.ref x, 2)
    | some (some (.float x)) => some (.float x, 2)
    | _ => none
  | _ => none
/-- group B: stores -/
def am_sB (I : Instr) (L : am_L) (st : List Value) : Option (am_L × List Value × Nat) := match I, st with
  | .istore_n n, .int x :: r => (am_st1 L n (.int x)).map (fun M => (M, r, 1))
  | .istore n, .int x :: r => (am_st1 L n (.int x)).map (fun M => (M, r, 2))
  | .lstore_n n, .long x :: r => (am_st2 L n (.long x)).map (fun M => (M, r, 1))
  | .lstore n, .long x :: r => (am_st2 L n (.long x)).map (fun M => (M, r, 2))
  | .astore_n n, .ref x :: r => (am_st1 L n (.ref x)).map (fun M => (M, r, 1))
  | .astore_n n, .float x :: r => (am_st1 L n (.float x)).map (fun M => (M, r, 1))
  | .astore n, .ref x :: r => (am_st1 L n (.ref x)).map (fun M => (M, r, 2))
  | .astore n, .float x :: r => (am_st1 L n (.float x)).map (fun M => (M, r, 2))
  | .iinc n d, r => match L[n]? with
    | some (some (.int x)) => (am_st1 L n (.int (x + am_i d))).map (fun M => (M, r, 3))
    | _ => none
  | _, _ => none
/-- group C: numbers on the stack (all of one byte) -/
def am_sC (I : Instr) (st : List Value) : Option (List Value) := match I, st with
  | .iadd, .int y :: .int x :: r => some (.int (x + y) :: r)
  | .isub, .int y :: .int x :: r => some (.int (x - y) :: r)
  | .imul, .int y :: .int x :: r => some (.int (x * y) :: r)
  | .iand, .int y :: .int x :: r => some (.int (x &&& y) :: r)
  | .ior, .int y :: .int x :: r => some (.int (x ||| y) :: r)
  | .ishl, .int y :: .int x :: r => some (.int (x <<< (y &&& 31)) :: r)
  | .ishr, .int y :: .int x :: r => some (.int (x >>> (y &&& 31)) :: r)
  | .ineg, .int x :: r => some (.int (-x) :: r)
  | .idiv, .int y :: .int x :: r => if y = 0 then none else some (.int (x / y) :: r)
  | .irem, .int y :: .int x :: r => if y = 0 then none else some (.int (x - x / y * y) :: r)
  | .ladd, .long y :: .long x :: r => some (.long (x + y) :: r)
  | .lsub, .long y :: .long x :: r => some (.long (x - y) :: r)
  | .land, .long y :: .long x :: r => some (.long (x &&& y) :: r)
  | .lor, .long y :: .long x :: r => some (.long (x ||| y) :: r)
  | .ldiv, .long y :: .long x :: r => if y = 0 then none else some (.long (x / y) :: r)
  | .lrem, .long y :: .long x :: r => if y = 0 then none else some (.long (x - x / y * y) :: r)
  | .lshl, .int y :: .long x :: r => some (.long (x <<< (y.toInt64 &&& 63)) :: r)
  | .lshr, .int y :: .long x :: r => some (.long (x >>> (y.toInt64 &&& 63)) :: r)
  | .lushr, .int y :: .long x :: r => some (.long (x.toUInt64 >>> (y.toInt64.toUInt64 &&& Int64.toUInt64 63)).toInt64 :: r)
  | .lcmp, .long y :: .long x :: r => some (.int (lg_cmp x y) :: r)
  | .i2l, .int x :: r => some (.long x.toInt64 :: r)
  | .l2i, .long x :: r => some (.int x.toInt32 :: r)
  | .i2s, .int x :: r => some (.int x.toInt16.toInt32 :: r)
  | .dup, .ref x :: r => some (.ref x :: .ref x :: r)
  | .dup, .int x :: r => some (.int x :: .int x :: r)
  | .pop, .int _ :: r => some r
  | .pop, .ref _ :: r => some r
  | _, _ => none
/-- group D: where it goes on -/
def am_sD (I : Instr) (len pc : Nat) (st : List Value) : Option (Nat × List Value) := match I, st with
  | .ifCond c o, .int x :: r => bif Nat.beq len 3 then (am_tg pc o).map (fun t => (bif am_c1 c x then t else pc + 3, r)) else none
  | .if_icmp c o, .int y :: .int x :: r => bif Nat.beq len 3 then (am_tg pc o).map (fun t => (bif am_c2 c x y then t else pc + 3, r)) else none
  | .goto o, r => bif Nat.beq len 3 then (am_tg pc o).map (fun t => (t, r)) else none
  | .tableswitch d lo hi offs, .int x :: r => if x.toInt < lo ∨ hi < x.toInt then (am_tg pc d).map (fun t => (t, r)) else match offs[(x.toInt - lo).toNat]? with
    | some o => (am_tg pc o).map (fun t => (t, r))
    | none => none
  | .lookupswitch d ps, .int x :: r => (am_tg pc (Op.lookupswitch.offset ps.toList d x.toInt)).map (fun t => (t, r))
  | _, _ => none
/-- a stack's weight -/
def am_wt : List Value → Nat
  | [] => 0
  | .long _ :: l => am_wt l + 2
  | .double _ :: l => am_wt l + 2
  | _ :: l => am_wt l + 1
/-- group E: the heap -/
def am_fit : FieldType → Value → Bool
  | .int, .int _ => true
  | .long, .long _ => true
  | .boolean, .int v => v == 0 || v == 1
  | .object _, .ref _ => true
  | .array _, .ref _ => true
  | _, _ => false
def am_ft (c k : Nat) : FieldType := (am_tys.getD c (fun _ => .int)) k
def am_fin (c k : Nat) : Bool := ((am_cl.getD c ("", am_TX, 0)).2.1 k).2.2.2
def am_ini (k : Nat) : Bool := (am_nm k).name == "<init>"
def am_ia (sc : am_S) (h : am_H) (v : Value) : Option (Nat × (Nat → Int32)) := match v with
  | .ref a => match h[a]? with
    | some (.inr (.inl q)) => some q
    | _ => none
  | .float t => bif Nat.beq t.toNat 4 then some sc else am_tb[t.toNat]?
  | _ => none
def am_sE (sc : am_S) (k x y : Nat) (I : Instr) (st : List Value) (h : am_H) (w : Bool) : Option (List Value × am_H × Bool × Nat) := match I, st with
  | .getfield _, .ref a :: r => match h[a]? with
    | some (.inl (c, fs)) => bif Nat.beq c x then (fs[y]?).map (fun v => (v :: r, h, w, 3)) else none
    | _ => none
  | .putfield _, v :: .ref a :: r => match h[a]? with
    | some (.inl (c, fs)) => bif Nat.beq c x && Nat.blt y fs.length && am_fit (am_ft x y) v && (!(am_fin x y) || (am_ini k && Nat.beq (am_ow k) x)) then some (r, h.set a (.inl (c, fs.set y v)), true, 3) else none
    | _ => none
  | .getstatic _, r => bif Nat.blt x 4 then some (.float (UInt32.ofNat x) :: r, h, w, 3) else none
  | .iaload, .int i :: v :: r => match am_ia sc h v with
    | some (n, f) => if i < 0 ∨ n ≤ i.toNatClampNeg then none else some (.int (f i.toNatClampNeg) :: r, h, w, 1)
    | none => none
  | .iastore, .int u :: .int i :: .ref a :: r => match h[a]? with
    | some (.inr (.inl (n, f))) => if i < 0 ∨ n ≤ i.toNatClampNeg then none else some (r, h.set a (.inr (.inl (n, upd f i.toNatClampNeg u))), true, 1)
    | _ => none
  | .laload, .int i :: .ref a :: r => match h[a]? with
    | some (.inr (.inr (n, f))) => if i < 0 ∨ n ≤ i.toNatClampNeg then none else some (.long (f i.toNatClampNeg) :: r, h, w, 1)
    | _ => none
  | .lastore, .long u :: .int i :: .ref a :: r => match h[a]? with
    | some (.inr (.inr (n, f))) => if i < 0 ∨ n ≤ i.toNatClampNeg then none else some (r, h.set a (.inr (.inr (n, vp_updL f i.toNatClampNeg u))), true, 1)
    | _ => none
  | .arraylength, v :: r => match am_ia sc h v with
    | some (n, _) => some (.int (Int32.ofNat n) :: r, h, w, 1)
    | none => none
  | .newarray .int, .int n :: r => if n < 0 ∨ 4096 < n.toNatClampNeg then none else some (.ref h.length :: r, h ++ [.inr (.inl (n.toNatClampNeg, fun _ => 0))], w, 2)
  | .newarray .long, .int n :: r => if n < 0 ∨ 4096 < n.toNatClampNeg then none else some (.ref h.length :: r, h ++ [.inr (.inr (n.toNatClampNeg, fun _ => 0))], w, 2)
  | .new _, r => bif Nat.blt x 9 then some (.ref h.length :: r, h ++ [.inl (x, am_dfs.getD x [])], w, 3) else none
  | .invokespecial _, .ref _ :: r => bif Nat.beq x 6 && Nat.ble (am_wt r) 8 then some (r, h, w, 3) else none
  | .invokestatic _, .int n :: .int dp :: .ref a1 :: .int sp :: .ref a0 :: r => bif Nat.beq x 7 && Nat.ble (am_wt r) 8 then (match h[a0]?, h[a1]? with
    | some (.inr (.inl (n0, f))), some (.inr (.inl (n1, g))) => if sp < 0 ∨ dp < 0 ∨ n < 0 ∨ n0 < sp.toNatClampNeg + n.toNatClampNeg ∨ n1 < dp.toNatClampNeg + n.toNatClampNeg ∨ a0 = a1 then none else some (r, h.set a1 (.inr (.inl (n1, va_cpy f g sp.toNatClampNeg dp.toNatClampNeg n.toNatClampNeg))), true, 3)
    | _, _ => none) else none
  | _, _ => none
/-- a step that is neither a call nor an end -/
def am_s (sc : am_S) (k : Nat) (q : am_E) (f : am_F) : Option am_F := match f with
  | (pc, L, st, h, w) => match am_sA q.2.2.2.1 q.2.2.2.2.2.2.1 q.2.1 L with
    | some (v, n) => bif Nat.beq n q.2.2.1 then some (pc + n, L, v :: st, h, w) else none
    | none => match am_sB q.2.1 L st with
      | some (M, r, n) => bif Nat.beq n q.2.2.1 then some (pc + n, M, r, h, w) else none
      | none => match am_sC q.2.1 st with
        | some r => bif Nat.beq 1 q.2.2.1 then some (pc + 1, L, r, h, w) else none
        | none => match am_sD q.2.1 q.2.2.1 pc st with
          | some (t, r) => some (t, L, r, h, w)
          | none => match am_sE sc k q.2.2.2.1 q.2.2.2.2.1 q.2.1 st h w with
            | some (r, g, u, n) => bif Nat.beq n q.2.2.1 then some (pc + n, L, r, g, u) else none
            | none => none
/-- calls -/
def am_take : Nat → List Value → List Value → Option (List Value × List Value)
  | 0, as, st => some (as, st)
  | n + 1, as, v :: st => am_take n (v :: as) st
  | _ + 1, _, [] => none
def am_obj (h : am_H) (a : Nat) : Option Nat := match h[a]? with
  | some (.inl (c, _)) => some c
  | _ => none
/-- which method a call runs, with which arguments, and what stays on the stack -/
def am_call (q : am_E) (st : List Value) (h : am_H) : Option (Nat × List Value × List Value) := match q.2.1, q.2.2.2.1, am_take q.2.2.2.2.2.2.1.toNat [] st with
  | .invokestatic _, 0, some (as, r) => some (q.2.2.2.2.1, as, r)
  | .invokestatic _, 3, some (as, r) => some (q.2.2.2.2.1, as, r)
  | .invokespecial _, 2, some (as, .ref a :: r) => some (q.2.2.2.2.1, .ref a :: as, r)
  | .invokespecial _, 4, some (as, .ref a :: r) => some (q.2.2.2.2.1, .ref a :: as, r)
  | .invokevirtual _, 1, some (as, .ref a :: r) => match am_obj h a with
    | some c => bif Nat.beq c (am_ow q.2.2.2.2.1) then some (q.2.2.2.2.1, .ref a :: as, r) else none
    | none => none
  | .invokevirtual _, 5, some (as, .ref a :: r) => match am_obj h a with
    | some 5 => some (q.2.2.2.2.1, .ref a :: as, r)
    | some 2 => some (q.2.2.2.2.2.1, .ref a :: as, r)
    | _ => none
  | _, _, _ => none
/-- the end of a call (its flag may say 'written' though nothing was) -/
def am_end (k : Nat) (q : am_E) (f : am_F) (r : am_R) : Prop := q.2.2.1 = 1 ∧ r.2.1 = f.2.2.2.1 ∧ (r.2.2 = false → f.2.2.2.2 = false) ∧ match q.2.1, f.2.2.1 with
  | .ireturn, [.int x] => (am_rt k = some .int ∨ (am_rt k = some .boolean ∧ (x = 0 ∨ x = 1))) ∧ r.1 = .inl (some (.int x))
  | .lreturn, [.long x] => am_rt k = some .long ∧ r.1 = .inl (some (.long x))
  | .return_, [] => am_rt k = none ∧ r.1 = .inl none
  | _, _ => False
/-- new X; dup; ldc ..; X.<init>(String); athrow: nothing written, nothing made before -/
def am_thx (k pc x : Nat) : Bool := match am_op k (pc + 3), am_op k (pc + 4), am_op k (pc + 6), am_op k (pc + 9) with
  | some (_, .dup, 1, _), some (_, .ldc _, 2, 1, _), some (_, .invokespecial _, 3, 8, y, _), some (_, .athrow, 1, _) => Nat.beq x y
  | _, _, _, _ => false
def am_thr (d k : Nat) (q : am_E) (h0 : am_H) (f : am_F) (r : am_R) : Prop := match q.2.1 with
  | .new _ => q.2.2.1 = 3 ∧ 6 ≤ d ∧ 9 ≤ q.2.2.2.1 ∧ q.2.2.2.1 < 13 ∧ am_hd k = [] ∧ am_thx k f.1 q.2.2.2.1 = true ∧ am_wt f.2.2.1 ≤ 8 ∧ f.2.2.2.1 = h0 ∧ f.2.2.2.2 = false ∧ r = (.inr h0.length, h0 ++ [.inl (q.2.2.2.1, [])], false)
  | _ => False
/-- the handler of an exception of class c thrown by the call at pc -/
def am_ct (pc c : Nat) : List (Nat × Nat × Nat × Nat) → Option Nat
  | [] => none
  | (s, e, t, x) :: l => bif Nat.ble s pc && Nat.blt pc e && Nat.beq x c then some t else am_ct pc c l
def am_run (sc : am_S) (d : Nat) (E : Nat → List Value → am_H → am_R → Prop) (k : Nat) (h0 : am_H) : Nat → am_F → am_R → Prop
  | 0, _, _ => False
  | n + 1, f, r => (∃ M : am_L, am_fg f.2.1 M ∧ am_run sc d E k h0 n (f.1, M, f.2.2) r) ∨ match am_op k f.1 with
    | none => False
    | some q => match am_s sc k q f with
      | some g => am_run sc d E k h0 n g r
      | none => am_end k q f r ∨ am_thr d k q h0 f r ∨ ∃ (j : Nat) (as st : List Value) (o : Option Value ⊕ Nat) (h : am_H) (w : Bool), q.2.2.1 = 3 ∧ am_call q f.2.2.1 f.2.2.2.1 = some (j, as, st) ∧ am_wt st ≤ 8 ∧ E j as f.2.2.2.1 (o, h, w) ∧ match o with
        | .inl v => am_run sc d E k h0 n (f.1 + 3, f.2.1, v.toList ++ st, h, f.2.2.2.2 || w) r
        | .inr a => ∃ c t : Nat, q.2.2.2.1 = 1 ∧ h[a]? = some (.inl (c, [])) ∧ am_ct f.1 c (am_hd k) = some t ∧ am_run sc d E k h0 n (t, f.2.1, [.ref a], h, f.2.2.2.2 || w) r
/-- the arguments fit the method's locals -/
def am_asok (k : Nat) (as : List Value) : Bool := Nat.ble (am_lay as).length (am_ml k) && as.all (fun v => match v with
  | .double _ => false
  | _ => true)
/-- what a call comes to, at most d calls deep -/
def am_ev (sc : am_S) : Nat → Nat → List Value → am_H → am_R → Prop
  | 0, _, _, _, _ => False
  | d + 1, k, as, h, r => am_asok k as = true ∧ ∃ (b : Bool) (n : Nat), am_run sc (d + 1) (am_ev sc d) k h n (0, am_ent k as, [], h, b) r
end
section
/-! rows of the abstract machine: a stretch of plain steps at once; a branch; a read or store by a number that is in range; a call; the end -/
def am_steps (sc : am_S) (k : Nat) (cd : List am_E) : Nat → am_F → Option am_F
  | 0, f => some f
  | n + 1, f => match am_find f.1 cd with
    | some q => match am_s sc k q f with
      | some g => am_steps sc k cd n g
      | none => none
    | none => none
def am_go (sc : am_S) (d : Nat) (E : Nat → List Value → am_H → am_R → Prop) (k : Nat) (h0 : am_H) (f : am_F) (r : am_R) : Prop := ∃ n, am_run sc d E k h0 n f r
/-- hypotheses about a program that may stop short -/
theorem am_ng {C : Prop} [Decidable C] {α : Type} {K : Option α} {r : α} (h : (if C then none else K) = some r) : ¬ C ∧ K = some r := by
  by_cases hc : C
  · rw [if_pos hc] at h; cases h
  · rw [if_neg hc] at h; exact ⟨hc, h⟩
theorem am_bd {α β : Type} {o : Option α} {f : α → Option β} {r : β} (h : o.bind f = some r) : ∃ q, o = some q ∧ f q = some r := by
  cases o with
  | none => cases h
  | some q => exact ⟨q, rfl, h⟩
section AMR
variable {sc : am_S} {d : Nat} {E : Nat → List Value → am_H → am_R → Prop} {k : Nat} {h0 : am_H} {f g : am_F} {r : am_R} {cd : List am_E}
variable {pc : Nat} {L : am_L} {st : List Value} {h : am_H} {w : Bool}
theorem am_go.one {q : am_E} (ho : am_op k f.1 = some q) (hs : am_s sc k q f = some g) (h : am_go sc d E k h0 g r) : am_go sc d E k h0 f r := by
  obtain ⟨n, h⟩ := h
  refine ⟨n + 1, Or.inr ?_⟩
  simp only [ho, hs]
  exact h
theorem am_go.blk (hcd : am_code k = cd) (n : Nat) (hs : am_steps sc k cd n f = some g) (h : am_go sc d E k h0 g r) : am_go sc d E k h0 f r := by
  induction n generalizing f with
  | zero => simp only [am_steps, Option.some.injEq] at hs; exact hs ▸ h
  | succ n ih =>
    simp only [am_steps] at hs
    cases ho : am_find f.1 cd with
    | none => simp [ho] at hs
    | some q =>
      cases hq : am_s sc k q f with
      | none => simp [ho, hq] at hs
      | some f' =>
        simp only [ho, hq] at hs
        exact am_go.one (by unfold am_op; rw [hcd]; exact ho) hq (ih hs)
/-- some locals are forgotten -/
theorem am_go.fg (M : am_L) (hm : am_fg f.2.1 M) (h : am_go sc d E k h0 (f.1, M, f.2.2) r) : am_go sc d E k h0 f r := by
  obtain ⟨n, h⟩ := h
  exact ⟨n + 1, Or.inl ⟨M, hm, h⟩⟩
/-- a branch -/
theorem am_go.br {P : Prop} [Decidable P] {t u : Nat} (ht : P → am_go sc d E k h0 (t, L, st, h, w) r) (hu : ¬ P → am_go sc d E k h0 (u, L, st, h, w) r) : am_go sc d E k h0 (bif decide P then t else u, L, st, h, w) r := by
  by_cases hP : P
  · simp only [hP, decide_true, cond_true]; exact ht hP
  · simp only [hP, decide_false, cond_false]; exact hu hP
/-- the end -/
theorem am_go.ret {q : am_E} (hcd : am_code k = cd) (ho : am_find f.1 cd = some q) (hs : am_s sc k q f = none) (he : am_end k q f r) : am_go sc d E k h0 f r := by
  refine ⟨1, Or.inr ?_⟩
  have ho' : am_op k f.1 = some q := by unfold am_op; rw [hcd]; exact ho
  simp only [ho', hs]
  exact Or.inl he
/-- a throw -/
theorem am_go.thr {q : am_E} (hcd : am_code k = cd) (ho : am_find f.1 cd = some q) (hs : am_s sc k q f = none) (he : am_thr d k q h0 f r) : am_go sc d E k h0 f r := by
  refine ⟨1, Or.inr ?_⟩
  have ho' : am_op k f.1 = some q := by unfold am_op; rw [hcd]; exact ho
  simp only [ho', hs]
  exact Or.inr (Or.inl he)
/-- a call that comes back -/
theorem am_go.call {q : am_E} {j : Nat} {as st' : List Value} {v : Option Value} {h' : am_H} {w' : Bool} (hcd : am_code k = cd) (ho : am_find pc cd = some q) (hs : am_s sc k q (pc, L, st, h, w) = none) (hl : q.2.2.1 = 3) (hc : am_call q st h = some (j, as, st')) (hw : am_wt st' ≤ 8) (he : E j as h (.inl v, h', w')) (hg : am_go sc d E k h0 (pc + 3, L, v.toList ++ st', h', w || w') r) : am_go sc d E k h0 (pc, L, st, h, w) r := by
  obtain ⟨n, hg⟩ := hg
  refine ⟨n + 1, Or.inr ?_⟩
  have ho' : am_op k (pc, L, st, h, w).1 = some q := by unfold am_op; rw [hcd]; exact ho
  simp only [ho', hs]
  exact Or.inr (Or.inr ⟨j, as, st', .inl v, h', w', hl, hc, hw, he, hg⟩)
/-- a call that throws, caught here -/
theorem am_go.caught {q : am_E} {j : Nat} {as st' : List Value} {a c t : Nat} {h' : am_H} {w' : Bool} (hcd : am_code k = cd) (ho : am_find pc cd = some q) (hs : am_s sc k q (pc, L, st, h, w) = none) (hl : q.2.2.1 = 3) (hx : q.2.2.2.1 = 1) (hc : am_call q st h = some (j, as, st')) (hw : am_wt st' ≤ 8) (he : E j as h (.inr a, h', w')) (ha : h'[a]? = some (.inl (c, []))) (ht : am_ct pc c (am_hd k) = some t) (hg : am_go sc d E k h0 (t, L, [.ref a], h', w || w') r) : am_go sc d E k h0 (pc, L, st, h, w) r := by
  obtain ⟨n, hg⟩ := hg
  refine ⟨n + 1, Or.inr ?_⟩
  have ho' : am_op k (pc, L, st, h, w).1 = some q := by unfold am_op; rw [hcd]; exact ho
  simp only [ho', hs]
  exact Or.inr (Or.inr ⟨j, as, st', .inr a, h', w', hl, hc, hw, he, c, t, hx, ha, ht, hg⟩)
/-- steps that may not be taken everywhere -/
theorem am_go.iald {x y z wi n : Nat} {u : Int} {v : Value} {F : Nat → Int32} {i : Int32} (hcd : am_code k = cd) (ho : am_find pc cd = some (pc, .iaload, 1, x, y, z, u, wi)) (ha : am_ia sc h v = some (n, F)) (hi : ¬ (i < 0 ∨ n ≤ i.toNatClampNeg)) (hg : am_go sc d E k h0 (pc + 1, L, .int (F i.toNatClampNeg) :: st, h, w) r) : am_go sc d E k h0 (pc, L, .int i :: v :: st, h, w) r := by
  refine am_go.one (q := (pc, .iaload, 1, x, y, z, u, wi)) (by unfold am_op; rw [hcd]; exact ho) ?_ hg
  simp only [am_s, am_sA, am_sB, am_sC, am_sD, am_sE, ha]
  rw [if_neg hi]
  rfl
theorem am_go.iast {x y z wi a n : Nat} {u : Int} {F : Nat → Int32} {i e : Int32} (hcd : am_code k = cd) (ho : am_find pc cd = some (pc, .iastore, 1, x, y, z, u, wi)) (ha : h[a]? = some (.inr (.inl (n, F)))) (hi : ¬ (i < 0 ∨ n ≤ i.toNatClampNeg)) (hg : am_go sc d E k h0 (pc + 1, L, st, h.set a (.inr (.inl (n, upd F i.toNatClampNeg e))), true) r) : am_go sc d E k h0 (pc, L, .int e :: .int i :: .ref a :: st, h, w) r := by
  refine am_go.one (q := (pc, .iastore, 1, x, y, z, u, wi)) (by unfold am_op; rw [hcd]; exact ho) ?_ hg
  simp only [am_s, am_sA, am_sB, am_sC, am_sD, am_sE, ha]
  rw [if_neg hi]
  rfl
theorem am_go.lald {x y z wi a n : Nat} {u : Int} {F : Nat → Int64} {i : Int32} (hcd : am_code k = cd) (ho : am_find pc cd = some (pc, .laload, 1, x, y, z, u, wi)) (ha : h[a]? = some (.inr (.inr (n, F)))) (hi : ¬ (i < 0 ∨ n ≤ i.toNatClampNeg)) (hg : am_go sc d E k h0 (pc + 1, L, .long (F i.toNatClampNeg) :: st, h, w) r) : am_go sc d E k h0 (pc, L, .int i :: .ref a :: st, h, w) r := by
  refine am_go.one (q := (pc, .laload, 1, x, y, z, u, wi)) (by unfold am_op; rw [hcd]; exact ho) ?_ hg
  simp only [am_s, am_sA, am_sB, am_sC, am_sD, am_sE, ha]
  rw [if_neg hi]
  rfl
theorem am_go.last {x y z wi a n : Nat} {u : Int} {F : Nat → Int64} {i : Int32} {e : Int64} (hcd : am_code k = cd) (ho : am_find pc cd = some (pc, .lastore, 1, x, y, z, u, wi)) (ha : h[a]? = some (.inr (.inr (n, F)))) (hi : ¬ (i < 0 ∨ n ≤ i.toNatClampNeg)) (hg : am_go sc d E k h0 (pc + 1, L, st, h.set a (.inr (.inr (n, vp_updL F i.toNatClampNeg e))), true) r) : am_go sc d E k h0 (pc, L, .long e :: .int i :: .ref a :: st, h, w) r := by
  refine am_go.one (q := (pc, .lastore, 1, x, y, z, u, wi)) (by unfold am_op; rw [hcd]; exact ho) ?_ hg
  simp only [am_s, am_sA, am_sB, am_sC, am_sD, am_sE, ha]
  rw [if_neg hi]
  rfl
theorem am_go.idv {x y z wi : Nat} {u : Int} {i e : Int32} (hcd : am_code k = cd) (ho : am_find pc cd = some (pc, .idiv, 1, x, y, z, u, wi)) (hi : ¬ e = 0) (hg : am_go sc d E k h0 (pc + 1, L, .int (i / e) :: st, h, w) r) : am_go sc d E k h0 (pc, L, .int e :: .int i :: st, h, w) r := by
  refine am_go.one (q := (pc, .idiv, 1, x, y, z, u, wi)) (by unfold am_op; rw [hcd]; exact ho) ?_ hg
  simp only [am_s, am_sA, am_sB, am_sC]
  rw [if_neg hi]
  rfl
theorem am_go.irm {x y z wi : Nat} {u : Int} {i e : Int32} (hcd : am_code k = cd) (ho : am_find pc cd = some (pc, .irem, 1, x, y, z, u, wi)) (hi : ¬ e = 0) (hg : am_go sc d E k h0 (pc + 1, L, .int (i - i / e * e) :: st, h, w) r) : am_go sc d E k h0 (pc, L, .int e :: .int i :: st, h, w) r := by
  refine am_go.one (q := (pc, .irem, 1, x, y, z, u, wi)) (by unfold am_op; rw [hcd]; exact ho) ?_ hg
  simp only [am_s, am_sA, am_sB, am_sC]
  rw [if_neg hi]
  rfl
theorem am_go.ldv {x y z wi : Nat} {u : Int} {i e : Int64} (hcd : am_code k = cd) (ho : am_find pc cd = some (pc, .ldiv, 1, x, y, z, u, wi)) (hi : ¬ e = 0) (hg : am_go sc d E k h0 (pc + 1, L, .long (i / e) :: st, h, w) r) : am_go sc d E k h0 (pc, L, .long e :: .long i :: st, h, w) r := by
  refine am_go.one (q := (pc, .ldiv, 1, x, y, z, u, wi)) (by unfold am_op; rw [hcd]; exact ho) ?_ hg
  simp only [am_s, am_sA, am_sB, am_sC]
  rw [if_neg hi]
  rfl
theorem am_go.lrm {x y z wi : Nat} {u : Int} {i e : Int64} (hcd : am_code k = cd) (ho : am_find pc cd = some (pc, .lrem, 1, x, y, z, u, wi)) (hi : ¬ e = 0) (hg : am_go sc d E k h0 (pc + 1, L, .long (i - i / e * e) :: st, h, w) r) : am_go sc d E k h0 (pc, L, .long e :: .long i :: st, h, w) r := by
  refine am_go.one (q := (pc, .lrem, 1, x, y, z, u, wi)) (by unfold am_op; rw [hcd]; exact ho) ?_ hg
  simp only [am_s, am_sA, am_sB, am_sC]
  rw [if_neg hi]
  rfl
/-- a field that is true or false -/
theorem am_go.putb {x y z wi a i : Nat} {u : Int} {fs : List Value} {e : Int32} (hcd : am_code k = cd) (ho : am_find pc cd = some (pc, .putfield i, 3, x, y, z, u, wi)) (ha : h[a]? = some (.inl (x, fs))) (hl : Nat.blt y fs.length = true) (ht : am_ft x y = .boolean) (hf : am_fin x y = false) (he : ¬ ¬ (e = 0 ∨ e = 1)) (hg : am_go sc d E k h0 (pc + 3, L, st, h.set a (.inl (x, fs.set y (.int e))), true) r) : am_go sc d E k h0 (pc, L, .int e :: .ref a :: st, h, w) r := by
  refine am_go.one (q := (pc, .putfield i, 3, x, y, z, u, wi)) (by unfold am_op; rw [hcd]; exact ho) ?_ hg
  have hx : Nat.beq x x = true := Nat.beq_refl x
  have hfit : am_fit .boolean (.int e) = true := by
    rcases Classical.not_not.mp he with rfl | rfl <;> rfl
  simp only [am_s, am_sA, am_sB, am_sC, am_sD, am_sE, ha, hx, hl, ht, hf, hfit]
  rfl
/-- switches -/
theorem am_go.tsO {x y z wi t ln : Nat} {u d' lo hi : Int} {offs : Array Int} {i : Int32} (hcd : am_code k = cd) (ho : am_find pc cd = some (pc, .tableswitch d' lo hi offs, ln, x, y, z, u, wi)) (hi' : i.toInt < lo ∨ hi < i.toInt) (ht : am_tg pc d' = some t) (hg : am_go sc d E k h0 (t, L, st, h, w) r) : am_go sc d E k h0 (pc, L, .int i :: st, h, w) r := by
  refine am_go.one (q := (pc, .tableswitch d' lo hi offs, ln, x, y, z, u, wi)) (by unfold am_op; rw [hcd]; exact ho) ?_ hg
  simp only [am_s, am_sA, am_sB, am_sC, am_sD]
  rw [if_pos hi', ht]
  rfl
theorem am_go.tsI {x y z wi t ln : Nat} {u d' lo hi o : Int} {offs : Array Int} {i c : Int32} (hcd : am_code k = cd) (ho : am_find pc cd = some (pc, .tableswitch d' lo hi offs, ln, x, y, z, u, wi)) (hi' : i = c) (hc : ¬ (c.toInt < lo ∨ hi < c.toInt)) (hof : offs[(c.toInt - lo).toNat]? = some o) (ht : am_tg pc o = some t) (hg : am_go sc d E k h0 (t, L, st, h, w) r) : am_go sc d E k h0 (pc, L, .int i :: st, h, w) r := by
  subst hi'
  refine am_go.one (q := (pc, .tableswitch d' lo hi offs, ln, x, y, z, u, wi)) (by unfold am_op; rw [hcd]; exact ho) ?_ hg
  simp only [am_s, am_sA, am_sB, am_sC, am_sD]
  rw [if_neg hc, hof]
  simp only [ht]
  rfl
theorem am_go.lsw {x y z wi t ln : Nat} {u d' o : Int} {ps : Array (Int × Int)} {i : Int32} (hcd : am_code k = cd) (ho : am_find pc cd = some (pc, .lookupswitch d' ps, ln, x, y, z, u, wi)) (hof : Op.lookupswitch.offset ps.toList d' i.toInt = o) (ht : am_tg pc o = some t) (hg : am_go sc d E k h0 (t, L, st, h, w) r) : am_go sc d E k h0 (pc, L, .int i :: st, h, w) r := by
  refine am_go.one (q := (pc, .lookupswitch d' ps, ln, x, y, z, u, wi)) (by unfold am_op; rw [hcd]; exact ho) ?_ hg
  simp only [am_s, am_sA, am_sB, am_sC, am_sD]
  rw [hof, ht]
  rfl
/-- the copy of rows -/
theorem am_go.acpy {y z wi ix a0 a1 n0 n1 : Nat} {u : Int} {F G : Nat → Int32} {sp dp e : Int32} (hcd : am_code k = cd) (ho : am_find pc cd = some (pc, .invokestatic ix, 3, 7, y, z, u, wi)) (ha0 : h[a0]? = some (.inr (.inl (n0, F)))) (ha1 : h[a1]? = some (.inr (.inl (n1, G)))) (hi : ¬ (sp < 0 ∨ dp < 0 ∨ e < 0 ∨ n0 < sp.toNatClampNeg + e.toNatClampNeg ∨ n1 < dp.toNatClampNeg + e.toNatClampNeg ∨ a0 = a1)) (hw8 : Nat.ble (am_wt st) 8 = true) (hg : am_go sc d E k h0 (pc + 3, L, st, h.set a1 (.inr (.inl (n1, va_cpy F G sp.toNatClampNeg dp.toNatClampNeg e.toNatClampNeg))), true) r) : am_go sc d E k h0 (pc, L, .int e :: .int dp :: .ref a1 :: .int sp :: .ref a0 :: st, h, w) r := by
  refine am_go.one (q := (pc, .invokestatic ix, 3, 7, y, z, u, wi)) (by unfold am_op; rw [hcd]; exact ho) ?_ hg
  simp only [am_s, am_sA, am_sB, am_sC, am_sD, am_sE, ha0, ha1, hw8]
  rw [if_neg hi]
  rfl
end AMR
theorem am_ev.of {sc : am_S} {d k : Nat} {as : List Value} {h : am_H} {r : am_R} (b : Bool) (ha : am_asok k as = true) (hg : am_go sc (d + 1) (am_ev sc d) k h (0, am_ent k as, [], h, b) r) : am_ev sc (d + 1) k as h r := ⟨ha, b, hg⟩
/-- deeper is no harm -/
theorem am_run.mono {sc : am_S} {d : Nat} {E E' : Nat → List Value → am_H → am_R → Prop} {k : Nat} {h0 : am_H} (hE : ∀ j as h r, E j as h r → E' j as h r) : ∀ (n : Nat) (f : am_F) (r : am_R), am_run sc d E k h0 n f r → am_run sc (d + 1) E' k h0 n f r := by
  intro n
  induction n with
  | zero => intro f r h; exact h
  | succ n ih =>
    intro f r h
    rcases h with ⟨M, hM, h⟩ | h
    · exact Or.inl ⟨M, hM, ih _ r h⟩
    · refine Or.inr ?_
      cases ho : am_op k f.1 with
      | none => simp [ho] at h
      | some q =>
        simp only [ho] at h ⊢
        cases hs : am_s sc k q f with
        | some g => simp only [hs] at h ⊢; exact ih g r h
        | none =>
          simp only [hs] at h ⊢
          rcases h with h | h | ⟨j, as, st, o, h', w, h1, h2, h3, h4, h5⟩
          · exact Or.inl h
          · refine Or.inr (Or.inl ?_)
            unfold am_thr at h ⊢
            split at h
            · obtain ⟨a1, a2, a3⟩ := h
              exact ⟨a1, Nat.le_succ_of_le a2, a3⟩
            · exact h
          · refine Or.inr (Or.inr ⟨j, as, st, o, h', w, h1, h2, h3, hE _ _ _ _ h4, ?_⟩)
            cases o with
            | inl v => exact ih _ r h5
            | inr a =>
              obtain ⟨c, t, b1, b2, b3, b4⟩ := h5
              exact ⟨c, t, b1, b2, b3, ih _ r b4⟩
theorem am_ev.succ {sc : am_S} : ∀ (d k : Nat) (as : List Value) (h : am_H) (r : am_R), am_ev sc d k as h r → am_ev sc (d + 1) k as h r := by
  intro d
  induction d with
  | zero => intro k as h r he; exact he.elim
  | succ d ih =>
    intro k as h r ⟨ha, b, n, hn⟩
    exact ⟨ha, b, n, am_run.mono (fun j as h r he => ih j as h r he) n _ r hn⟩
theorem am_ev.le {sc : am_S} {d d' k : Nat} {as : List Value} {h : am_H} {r : am_R} (hd : d ≤ d') (he : am_ev sc d k as h r) : am_ev sc d' k as h r := by
  induction hd with
  | refl => exact he
  | step _ ih => exact am_ev.succ _ _ _ _ _ ih
end
