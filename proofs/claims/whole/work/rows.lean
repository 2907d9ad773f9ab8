section
-- ===== PART A: goes FIRST, ahead of the names: the tables' words, and 'selects' of the private methods out of them =====
/-- a private method of a class that the tables say can be made, by its rows of tables_1 -/
def lw_okq (q : MethodName × Nat) : Prop := (q.1.cls ≠ "java/lang/invoke/MethodHandle" ∧ q.1.cls ≠ "java/lang/invoke/VarHandle") ∧ Cond.instantiable q.1.cls q.2 ∈ tables_1 ∧ Cond.privateMethod q.1 ∈ tables_1 ∧ Cond.instanceMethod q.1 ∈ tables_1
theorem lw_p0 : lw_okq (⟨"SnowTracks", "refuse", "(I)I"⟩, 13) := ⟨⟨by decide +kernel, by decide +kernel⟩, List.mem_of_getElem? (i := 14) (by decide +kernel), List.mem_of_getElem? (i := 236) (by decide +kernel), List.mem_of_getElem? (i := 237) (by decide +kernel)⟩
theorem lw_p1 : lw_okq (⟨"SnowTracks", "tellPlace", "(II)I"⟩, 13) := ⟨⟨by decide +kernel, by decide +kernel⟩, List.mem_of_getElem? (i := 14) (by decide +kernel), List.mem_of_getElem? (i := 248) (by decide +kernel), List.mem_of_getElem? (i := 249) (by decide +kernel)⟩
theorem lw_p2 : lw_okq (⟨"SnowTracks$Reader", "readItem", "([III)I"⟩, 1) := ⟨⟨by decide +kernel, by decide +kernel⟩, List.mem_of_getElem? (i := 91) (by decide +kernel), List.mem_of_getElem? (i := 307) (by decide +kernel), List.mem_of_getElem? (i := 308) (by decide +kernel)⟩
theorem lw_p3 : lw_okq (⟨"SnowTracks$Reader", "readTrack", "(I[III)I"⟩, 1) := ⟨⟨by decide +kernel, by decide +kernel⟩, List.mem_of_getElem? (i := 91) (by decide +kernel), List.mem_of_getElem? (i := 317) (by decide +kernel), List.mem_of_getElem? (i := 318) (by decide +kernel)⟩
theorem lw_p4 : lw_okq (⟨"SnowTracks$Reader", "readCrossing", "(I[III)I"⟩, 1) := ⟨⟨by decide +kernel, by decide +kernel⟩, List.mem_of_getElem? (i := 91) (by decide +kernel), List.mem_of_getElem? (i := 332) (by decide +kernel), List.mem_of_getElem? (i := 333) (by decide +kernel)⟩
theorem lw_p5 : lw_okq (⟨"SnowTracks$Pass", "timesIn", "([II)I"⟩, 8) := ⟨⟨by decide +kernel, by decide +kernel⟩, List.mem_of_getElem? (i := 46) (by decide +kernel), List.mem_of_getElem? (i := 364) (by decide +kernel), List.mem_of_getElem? (i := 365) (by decide +kernel)⟩
theorem lw_p6 : lw_okq (⟨"SnowTracks$Pass", "opposite", "([I[II)I"⟩, 8) := ⟨⟨by decide +kernel, by decide +kernel⟩, List.mem_of_getElem? (i := 46) (by decide +kernel), List.mem_of_getElem? (i := 406) (by decide +kernel), List.mem_of_getElem? (i := 407) (by decide +kernel)⟩
theorem lw_p7 : lw_okq (⟨"SnowTracks", "isKept", "(I)Z"⟩, 13) := ⟨⟨by decide +kernel, by decide +kernel⟩, List.mem_of_getElem? (i := 14) (by decide +kernel), List.mem_of_getElem? (i := 454) (by decide +kernel), List.mem_of_getElem? (i := 455) (by decide +kernel)⟩
theorem lw_p8 : lw_okq (⟨"SnowTracks", "tellFraction", "(JJ)V"⟩, 13) := ⟨⟨by decide +kernel, by decide +kernel⟩, List.mem_of_getElem? (i := 14) (by decide +kernel), List.mem_of_getElem? (i := 498) (by decide +kernel), List.mem_of_getElem? (i := 499) (by decide +kernel)⟩
theorem lw_p9 : lw_okq (⟨"SnowTracks", "layOrder", "(II)V"⟩, 13) := ⟨⟨by decide +kernel, by decide +kernel⟩, List.mem_of_getElem? (i := 14) (by decide +kernel), List.mem_of_getElem? (i := 506) (by decide +kernel), List.mem_of_getElem? (i := 507) (by decide +kernel)⟩
theorem lw_p10 : lw_okq (⟨"SnowTracks", "closesToRing", "()Z"⟩, 13) := ⟨⟨by decide +kernel, by decide +kernel⟩, List.mem_of_getElem? (i := 14) (by decide +kernel), List.mem_of_getElem? (i := 522) (by decide +kernel), List.mem_of_getElem? (i := 523) (by decide +kernel)⟩
theorem lw_p11 : lw_okq (⟨"SnowTracks$Graph", "foremostOf", "(I)I"⟩, 9) := ⟨⟨by decide +kernel, by decide +kernel⟩, List.mem_of_getElem? (i := 105) (by decide +kernel), List.mem_of_getElem? (i := 534) (by decide +kernel), List.mem_of_getElem? (i := 535) (by decide +kernel)⟩
theorem lw_p12 : lw_okq (⟨"SnowTracks", "findingOfOrder", "(I)I"⟩, 13) := ⟨⟨by decide +kernel, by decide +kernel⟩, List.mem_of_getElem? (i := 14) (by decide +kernel), List.mem_of_getElem? (i := 562) (by decide +kernel), List.mem_of_getElem? (i := 563) (by decide +kernel)⟩
theorem lw_p13 : lw_okq (⟨"SnowTracks$Graph", "stepBack", "(II)V"⟩, 9) := ⟨⟨by decide +kernel, by decide +kernel⟩, List.mem_of_getElem? (i := 105) (by decide +kernel), List.mem_of_getElem? (i := 586) (by decide +kernel), List.mem_of_getElem? (i := 587) (by decide +kernel)⟩
theorem lw_p14 : lw_okq (⟨"SnowTracks$Graph", "followRing", "(II)Z"⟩, 9) := ⟨⟨by decide +kernel, by decide +kernel⟩, List.mem_of_getElem? (i := 105) (by decide +kernel), List.mem_of_getElem? (i := 590) (by decide +kernel), List.mem_of_getElem? (i := 591) (by decide +kernel)⟩
theorem lw_p15 : lw_okq (⟨"SnowTracks$Dropping", "weightAgainst", "(II)I"⟩, 5) := ⟨⟨by decide +kernel, by decide +kernel⟩, List.mem_of_getElem? (i := 147) (by decide +kernel), List.mem_of_getElem? (i := 616) (by decide +kernel), List.mem_of_getElem? (i := 617) (by decide +kernel)⟩
def lw_privs_1 : List (MethodName × Nat) := [(⟨"SnowTracks", "refuse", "(I)I"⟩, 13), (⟨"SnowTracks", "tellPlace", "(II)I"⟩, 13), (⟨"SnowTracks$Reader", "readItem", "([III)I"⟩, 1), (⟨"SnowTracks$Reader", "readTrack", "(I[III)I"⟩, 1), (⟨"SnowTracks$Reader", "readCrossing", "(I[III)I"⟩, 1), (⟨"SnowTracks$Pass", "timesIn", "([II)I"⟩, 8), (⟨"SnowTracks$Pass", "opposite", "([I[II)I"⟩, 8), (⟨"SnowTracks", "isKept", "(I)Z"⟩, 13), (⟨"SnowTracks", "tellFraction", "(JJ)V"⟩, 13), (⟨"SnowTracks", "layOrder", "(II)V"⟩, 13), (⟨"SnowTracks", "closesToRing", "()Z"⟩, 13), (⟨"SnowTracks$Graph", "foremostOf", "(I)I"⟩, 9), (⟨"SnowTracks", "findingOfOrder", "(I)I"⟩, 13), (⟨"SnowTracks$Graph", "stepBack", "(II)V"⟩, 9), (⟨"SnowTracks$Graph", "followRing", "(II)Z"⟩, 9), (⟨"SnowTracks$Dropping", "weightAgainst", "(II)I"⟩, 5)]
theorem lw_r1 : ∀ q ∈ lw_privs_1, lw_okq q := List.forall_mem_cons.mpr ⟨lw_p0, List.forall_mem_cons.mpr ⟨lw_p1, List.forall_mem_cons.mpr ⟨lw_p2, List.forall_mem_cons.mpr ⟨lw_p3, List.forall_mem_cons.mpr ⟨lw_p4, List.forall_mem_cons.mpr ⟨lw_p5, List.forall_mem_cons.mpr ⟨lw_p6, List.forall_mem_cons.mpr ⟨lw_p7, List.forall_mem_cons.mpr ⟨lw_p8, List.forall_mem_cons.mpr ⟨lw_p9, List.forall_mem_cons.mpr ⟨lw_p10, List.forall_mem_cons.mpr ⟨lw_p11, List.forall_mem_cons.mpr ⟨lw_p12, List.forall_mem_cons.mpr ⟨lw_p13, List.forall_mem_cons.mpr ⟨lw_p14, List.forall_mem_cons.mpr ⟨lw_p15, fun _ h => absurd h List.not_mem_nil⟩⟩⟩⟩⟩⟩⟩⟩⟩⟩⟩⟩⟩⟩⟩⟩
theorem lw_p16 : lw_okq (⟨"SnowTracks", "findingOfClaims", "(I)I"⟩, 13) := ⟨⟨by decide +kernel, by decide +kernel⟩, List.mem_of_getElem? (i := 14) (by decide +kernel), List.mem_of_getElem? (i := 675) (by decide +kernel), List.mem_of_getElem? (i := 676) (by decide +kernel)⟩
theorem lw_p17 : lw_okq (⟨"SnowTracks", "aheadByClaim", "(II)I"⟩, 13) := ⟨⟨by decide +kernel, by decide +kernel⟩, List.mem_of_getElem? (i := 14) (by decide +kernel), List.mem_of_getElem? (i := 679) (by decide +kernel), List.mem_of_getElem? (i := 680) (by decide +kernel)⟩
theorem lw_p18 : lw_okq (⟨"SnowTracks", "behindByClaim", "(II)I"⟩, 13) := ⟨⟨by decide +kernel, by decide +kernel⟩, List.mem_of_getElem? (i := 14) (by decide +kernel), List.mem_of_getElem? (i := 683) (by decide +kernel), List.mem_of_getElem? (i := 684) (by decide +kernel)⟩
theorem lw_p19 : lw_okq (⟨"SnowTracks", "walk", "(III)V"⟩, 13) := ⟨⟨by decide +kernel, by decide +kernel⟩, List.mem_of_getElem? (i := 14) (by decide +kernel), List.mem_of_getElem? (i := 706) (by decide +kernel), List.mem_of_getElem? (i := 707) (by decide +kernel)⟩
theorem lw_p20 : lw_okq (⟨"SnowTracks", "howMany", "(I)I"⟩, 13) := ⟨⟨by decide +kernel, by decide +kernel⟩, List.mem_of_getElem? (i := 14) (by decide +kernel), List.mem_of_getElem? (i := 726) (by decide +kernel), List.mem_of_getElem? (i := 727) (by decide +kernel)⟩
theorem lw_p21 : lw_okq (⟨"SnowTracks", "keptPasses", "()I"⟩, 13) := ⟨⟨by decide +kernel, by decide +kernel⟩, List.mem_of_getElem? (i := 14) (by decide +kernel), List.mem_of_getElem? (i := 734) (by decide +kernel), List.mem_of_getElem? (i := 735) (by decide +kernel)⟩
theorem lw_p22 : lw_okq (⟨"SnowTracksModel", "finds", "(I)I"⟩, 36) := ⟨⟨by decide +kernel, by decide +kernel⟩, List.mem_of_getElem? (i := 762) (by decide +kernel), List.mem_of_getElem? (i := 888) (by decide +kernel), List.mem_of_getElem? (i := 889) (by decide +kernel)⟩
theorem lw_p23 : lw_okq (⟨"SnowTracksModel", "rowBar", "(I)I"⟩, 36) := ⟨⟨by decide +kernel, by decide +kernel⟩, List.mem_of_getElem? (i := 762) (by decide +kernel), List.mem_of_getElem? (i := 896) (by decide +kernel), List.mem_of_getElem? (i := 897) (by decide +kernel)⟩
theorem lw_p24 : lw_okq (⟨"SnowTracksModel", "tells", "(II)I"⟩, 36) := ⟨⟨by decide +kernel, by decide +kernel⟩, List.mem_of_getElem? (i := 762) (by decide +kernel), List.mem_of_getElem? (i := 900) (by decide +kernel), List.mem_of_getElem? (i := 901) (by decide +kernel)⟩
theorem lw_p25 : lw_okq (⟨"SnowTracksModel", "textBar", "(I)I"⟩, 36) := ⟨⟨by decide +kernel, by decide +kernel⟩, List.mem_of_getElem? (i := 762) (by decide +kernel), List.mem_of_getElem? (i := 931) (by decide +kernel), List.mem_of_getElem? (i := 932) (by decide +kernel)⟩
theorem lw_p26 : lw_okq (⟨"SnowTracksModel", "readAll", "(I)I"⟩, 36) := ⟨⟨by decide +kernel, by decide +kernel⟩, List.mem_of_getElem? (i := 762) (by decide +kernel), List.mem_of_getElem? (i := 939) (by decide +kernel), List.mem_of_getElem? (i := 940) (by decide +kernel)⟩
theorem lw_p27 : lw_okq (⟨"SnowTracksModel", "byteAt", "(II)I"⟩, 36) := ⟨⟨by decide +kernel, by decide +kernel⟩, List.mem_of_getElem? (i := 762) (by decide +kernel), List.mem_of_getElem? (i := 943) (by decide +kernel), List.mem_of_getElem? (i := 944) (by decide +kernel)⟩
theorem lw_p28 : lw_okq (⟨"SnowTracksModel", "readCrossing", "(I)Z"⟩, 36) := ⟨⟨by decide +kernel, by decide +kernel⟩, List.mem_of_getElem? (i := 762) (by decide +kernel), List.mem_of_getElem? (i := 950) (by decide +kernel), List.mem_of_getElem? (i := 951) (by decide +kernel)⟩
theorem lw_p29 : lw_okq (⟨"SnowTracksModel", "readTrack", "(I)Z"⟩, 36) := ⟨⟨by decide +kernel, by decide +kernel⟩, List.mem_of_getElem? (i := 762) (by decide +kernel), List.mem_of_getElem? (i := 954) (by decide +kernel), List.mem_of_getElem? (i := 955) (by decide +kernel)⟩
theorem lw_p30 : lw_okq (⟨"SnowTracksModel", "isTrack", "(I)Z"⟩, 36) := ⟨⟨by decide +kernel, by decide +kernel⟩, List.mem_of_getElem? (i := 762) (by decide +kernel), List.mem_of_getElem? (i := 969) (by decide +kernel), List.mem_of_getElem? (i := 970) (by decide +kernel)⟩
theorem lw_p31 : lw_okq (⟨"SnowTracksModel", "trackOf", "(II)I"⟩, 36) := ⟨⟨by decide +kernel, by decide +kernel⟩, List.mem_of_getElem? (i := 762) (by decide +kernel), List.mem_of_getElem? (i := 973) (by decide +kernel), List.mem_of_getElem? (i := 974) (by decide +kernel)⟩
def lw_privs_2 : List (MethodName × Nat) := [(⟨"SnowTracks", "findingOfClaims", "(I)I"⟩, 13), (⟨"SnowTracks", "aheadByClaim", "(II)I"⟩, 13), (⟨"SnowTracks", "behindByClaim", "(II)I"⟩, 13), (⟨"SnowTracks", "walk", "(III)V"⟩, 13), (⟨"SnowTracks", "howMany", "(I)I"⟩, 13), (⟨"SnowTracks", "keptPasses", "()I"⟩, 13), (⟨"SnowTracksModel", "finds", "(I)I"⟩, 36), (⟨"SnowTracksModel", "rowBar", "(I)I"⟩, 36), (⟨"SnowTracksModel", "tells", "(II)I"⟩, 36), (⟨"SnowTracksModel", "textBar", "(I)I"⟩, 36), (⟨"SnowTracksModel", "readAll", "(I)I"⟩, 36), (⟨"SnowTracksModel", "byteAt", "(II)I"⟩, 36), (⟨"SnowTracksModel", "readCrossing", "(I)Z"⟩, 36), (⟨"SnowTracksModel", "readTrack", "(I)Z"⟩, 36), (⟨"SnowTracksModel", "isTrack", "(I)Z"⟩, 36), (⟨"SnowTracksModel", "trackOf", "(II)I"⟩, 36)]
theorem lw_r2 : ∀ q ∈ lw_privs_2, lw_okq q := List.forall_mem_cons.mpr ⟨lw_p16, List.forall_mem_cons.mpr ⟨lw_p17, List.forall_mem_cons.mpr ⟨lw_p18, List.forall_mem_cons.mpr ⟨lw_p19, List.forall_mem_cons.mpr ⟨lw_p20, List.forall_mem_cons.mpr ⟨lw_p21, List.forall_mem_cons.mpr ⟨lw_p22, List.forall_mem_cons.mpr ⟨lw_p23, List.forall_mem_cons.mpr ⟨lw_p24, List.forall_mem_cons.mpr ⟨lw_p25, List.forall_mem_cons.mpr ⟨lw_p26, List.forall_mem_cons.mpr ⟨lw_p27, List.forall_mem_cons.mpr ⟨lw_p28, List.forall_mem_cons.mpr ⟨lw_p29, List.forall_mem_cons.mpr ⟨lw_p30, List.forall_mem_cons.mpr ⟨lw_p31, fun _ h => absurd h List.not_mem_nil⟩⟩⟩⟩⟩⟩⟩⟩⟩⟩⟩⟩⟩⟩⟩⟩
theorem lw_p32 : lw_okq (⟨"SnowTracksModel", "isTelling", "(I)Z"⟩, 36) := ⟨⟨by decide +kernel, by decide +kernel⟩, List.mem_of_getElem? (i := 762) (by decide +kernel), List.mem_of_getElem? (i := 981) (by decide +kernel), List.mem_of_getElem? (i := 982) (by decide +kernel)⟩
theorem lw_p33 : lw_okq (⟨"SnowTracksModel", "letsOver", "(II)Z"⟩, 36) := ⟨⟨by decide +kernel, by decide +kernel⟩, List.mem_of_getElem? (i := 762) (by decide +kernel), List.mem_of_getElem? (i := 985) (by decide +kernel), List.mem_of_getElem? (i := 986) (by decide +kernel)⟩
theorem lw_p34 : lw_okq (⟨"SnowTracksModel", "isA", "(II)Z"⟩, 36) := ⟨⟨by decide +kernel, by decide +kernel⟩, List.mem_of_getElem? (i := 762) (by decide +kernel), List.mem_of_getElem? (i := 989) (by decide +kernel), List.mem_of_getElem? (i := 990) (by decide +kernel)⟩
theorem lw_p35 : lw_okq (⟨"SnowTracksModel", "letsUnder", "(II)Z"⟩, 36) := ⟨⟨by decide +kernel, by decide +kernel⟩, List.mem_of_getElem? (i := 762) (by decide +kernel), List.mem_of_getElem? (i := 993) (by decide +kernel), List.mem_of_getElem? (i := 994) (by decide +kernel)⟩
theorem lw_p36 : lw_okq (⟨"SnowTracksModel", "beside", "(IZZ)I"⟩, 36) := ⟨⟨by decide +kernel, by decide +kernel⟩, List.mem_of_getElem? (i := 762) (by decide +kernel), List.mem_of_getElem? (i := 1001) (by decide +kernel), List.mem_of_getElem? (i := 1002) (by decide +kernel)⟩
theorem lw_p37 : lw_okq (⟨"SnowTracksModel", "allOf", "(I)I"⟩, 36) := ⟨⟨by decide +kernel, by decide +kernel⟩, List.mem_of_getElem? (i := 762) (by decide +kernel), List.mem_of_getElem? (i := 1008) (by decide +kernel), List.mem_of_getElem? (i := 1009) (by decide +kernel)⟩
theorem lw_p38 : lw_okq (⟨"SnowTracksModel", "arePair", "(II)Z"⟩, 36) := ⟨⟨by decide +kernel, by decide +kernel⟩, List.mem_of_getElem? (i := 762) (by decide +kernel), List.mem_of_getElem? (i := 1024) (by decide +kernel), List.mem_of_getElem? (i := 1025) (by decide +kernel)⟩
theorem lw_p39 : lw_okq (⟨"SnowTracksModel", "findNow", "()V"⟩, 36) := ⟨⟨by decide +kernel, by decide +kernel⟩, List.mem_of_getElem? (i := 762) (by decide +kernel), List.mem_of_getElem? (i := 1044) (by decide +kernel), List.mem_of_getElem? (i := 1045) (by decide +kernel)⟩
theorem lw_p40 : lw_okq (⟨"SnowTracksModel", "findAhead", "(III)V"⟩, 36) := ⟨⟨by decide +kernel, by decide +kernel⟩, List.mem_of_getElem? (i := 762) (by decide +kernel), List.mem_of_getElem? (i := 1048) (by decide +kernel), List.mem_of_getElem? (i := 1049) (by decide +kernel)⟩
theorem lw_p41 : lw_okq (⟨"SnowTracksModel", "isByWind", "(II)Z"⟩, 36) := ⟨⟨by decide +kernel, by decide +kernel⟩, List.mem_of_getElem? (i := 762) (by decide +kernel), List.mem_of_getElem? (i := 1055) (by decide +kernel), List.mem_of_getElem? (i := 1056) (by decide +kernel)⟩
theorem lw_p42 : lw_okq (⟨"SnowTracksModel", "findSurely", "()V"⟩, 36) := ⟨⟨by decide +kernel, by decide +kernel⟩, List.mem_of_getElem? (i := 762) (by decide +kernel), List.mem_of_getElem? (i := 1059) (by decide +kernel), List.mem_of_getElem? (i := 1060) (by decide +kernel)⟩
theorem lw_p43 : lw_okq (⟨"SnowTracksModel", "countOrders", "()I"⟩, 36) := ⟨⟨by decide +kernel, by decide +kernel⟩, List.mem_of_getElem? (i := 762) (by decide +kernel), List.mem_of_getElem? (i := 1067) (by decide +kernel), List.mem_of_getElem? (i := 1068) (by decide +kernel)⟩
theorem lw_p44 : lw_okq (⟨"SnowTracksModel", "parts", "(JJ)I"⟩, 36) := ⟨⟨by decide +kernel, by decide +kernel⟩, List.mem_of_getElem? (i := 762) (by decide +kernel), List.mem_of_getElem? (i := 1071) (by decide +kernel), List.mem_of_getElem? (i := 1072) (by decide +kernel)⟩
theorem lw_p45 : lw_okq (⟨"SnowTracksModel", "putOrder", "(II)V"⟩, 36) := ⟨⟨by decide +kernel, by decide +kernel⟩, List.mem_of_getElem? (i := 762) (by decide +kernel), List.mem_of_getElem? (i := 1079) (by decide +kernel), List.mem_of_getElem? (i := 1080) (by decide +kernel)⟩
theorem lw_p46 : lw_okq (⟨"SnowTracksModel", "isRingNow", "()Z"⟩, 36) := ⟨⟨by decide +kernel, by decide +kernel⟩, List.mem_of_getElem? (i := 762) (by decide +kernel), List.mem_of_getElem? (i := 1092) (by decide +kernel), List.mem_of_getElem? (i := 1093) (by decide +kernel)⟩
theorem lw_p47 : lw_okq (⟨"SnowTracksModel", "isRing", "()Z"⟩, 36) := ⟨⟨by decide +kernel, by decide +kernel⟩, List.mem_of_getElem? (i := 762) (by decide +kernel), List.mem_of_getElem? (i := 1096) (by decide +kernel), List.mem_of_getElem? (i := 1097) (by decide +kernel)⟩
def lw_privs_3 : List (MethodName × Nat) := [(⟨"SnowTracksModel", "isTelling", "(I)Z"⟩, 36), (⟨"SnowTracksModel", "letsOver", "(II)Z"⟩, 36), (⟨"SnowTracksModel", "isA", "(II)Z"⟩, 36), (⟨"SnowTracksModel", "letsUnder", "(II)Z"⟩, 36), (⟨"SnowTracksModel", "beside", "(IZZ)I"⟩, 36), (⟨"SnowTracksModel", "allOf", "(I)I"⟩, 36), (⟨"SnowTracksModel", "arePair", "(II)Z"⟩, 36), (⟨"SnowTracksModel", "findNow", "()V"⟩, 36), (⟨"SnowTracksModel", "findAhead", "(III)V"⟩, 36), (⟨"SnowTracksModel", "isByWind", "(II)Z"⟩, 36), (⟨"SnowTracksModel", "findSurely", "()V"⟩, 36), (⟨"SnowTracksModel", "countOrders", "()I"⟩, 36), (⟨"SnowTracksModel", "parts", "(JJ)I"⟩, 36), (⟨"SnowTracksModel", "putOrder", "(II)V"⟩, 36), (⟨"SnowTracksModel", "isRingNow", "()Z"⟩, 36), (⟨"SnowTracksModel", "isRing", "()Z"⟩, 36)]
theorem lw_r3 : ∀ q ∈ lw_privs_3, lw_okq q := List.forall_mem_cons.mpr ⟨lw_p32, List.forall_mem_cons.mpr ⟨lw_p33, List.forall_mem_cons.mpr ⟨lw_p34, List.forall_mem_cons.mpr ⟨lw_p35, List.forall_mem_cons.mpr ⟨lw_p36, List.forall_mem_cons.mpr ⟨lw_p37, List.forall_mem_cons.mpr ⟨lw_p38, List.forall_mem_cons.mpr ⟨lw_p39, List.forall_mem_cons.mpr ⟨lw_p40, List.forall_mem_cons.mpr ⟨lw_p41, List.forall_mem_cons.mpr ⟨lw_p42, List.forall_mem_cons.mpr ⟨lw_p43, List.forall_mem_cons.mpr ⟨lw_p44, List.forall_mem_cons.mpr ⟨lw_p45, List.forall_mem_cons.mpr ⟨lw_p46, List.forall_mem_cons.mpr ⟨lw_p47, fun _ h => absurd h List.not_mem_nil⟩⟩⟩⟩⟩⟩⟩⟩⟩⟩⟩⟩⟩⟩⟩⟩
theorem lw_p48 : lw_okq (⟨"SnowTracksModel", "countWith", "(II)I"⟩, 36) := ⟨⟨by decide +kernel, by decide +kernel⟩, List.mem_of_getElem? (i := 762) (by decide +kernel), List.mem_of_getElem? (i := 1104) (by decide +kernel), List.mem_of_getElem? (i := 1105) (by decide +kernel)⟩
theorem lw_p49 : lw_okq (⟨"SnowTracksModel", "behind", "(I)I"⟩, 36) := ⟨⟨by decide +kernel, by decide +kernel⟩, List.mem_of_getElem? (i := 762) (by decide +kernel), List.mem_of_getElem? (i := 1112) (by decide +kernel), List.mem_of_getElem? (i := 1113) (by decide +kernel)⟩
theorem lw_p50 : lw_okq (⟨"SnowTracksModel", "orderBar", "(I)I"⟩, 36) := ⟨⟨by decide +kernel, by decide +kernel⟩, List.mem_of_getElem? (i := 762) (by decide +kernel), List.mem_of_getElem? (i := 1120) (by decide +kernel), List.mem_of_getElem? (i := 1121) (by decide +kernel)⟩
theorem lw_p51 : lw_okq (⟨"SnowTracksModel", "isBetween", "(II)Z"⟩, 36) := ⟨⟨by decide +kernel, by decide +kernel⟩, List.mem_of_getElem? (i := 762) (by decide +kernel), List.mem_of_getElem? (i := 1128) (by decide +kernel), List.mem_of_getElem? (i := 1129) (by decide +kernel)⟩
theorem lw_p52 : lw_okq (⟨"SnowTracksModel", "findChains", "(Z)V"⟩, 36) := ⟨⟨by decide +kernel, by decide +kernel⟩, List.mem_of_getElem? (i := 762) (by decide +kernel), List.mem_of_getElem? (i := 1136) (by decide +kernel), List.mem_of_getElem? (i := 1137) (by decide +kernel)⟩
theorem lw_p53 : lw_okq (⟨"SnowTracksModel", "ringBy", "(I)I"⟩, 36) := ⟨⟨by decide +kernel, by decide +kernel⟩, List.mem_of_getElem? (i := 762) (by decide +kernel), List.mem_of_getElem? (i := 1144) (by decide +kernel), List.mem_of_getElem? (i := 1145) (by decide +kernel)⟩
theorem lw_p54 : lw_okq (⟨"SnowTracksModel", "findFar", "(I)V"⟩, 36) := ⟨⟨by decide +kernel, by decide +kernel⟩, List.mem_of_getElem? (i := 762) (by decide +kernel), List.mem_of_getElem? (i := 1148) (by decide +kernel), List.mem_of_getElem? (i := 1149) (by decide +kernel)⟩
theorem lw_p55 : lw_okq (⟨"SnowTracksModel", "tellingBits", "()I"⟩, 36) := ⟨⟨by decide +kernel, by decide +kernel⟩, List.mem_of_getElem? (i := 762) (by decide +kernel), List.mem_of_getElem? (i := 1156) (by decide +kernel), List.mem_of_getElem? (i := 1157) (by decide +kernel)⟩
theorem lw_p56 : lw_okq (⟨"SnowTracksModel", "areOnes", "(I)Z"⟩, 36) := ⟨⟨by decide +kernel, by decide +kernel⟩, List.mem_of_getElem? (i := 762) (by decide +kernel), List.mem_of_getElem? (i := 1176) (by decide +kernel), List.mem_of_getElem? (i := 1177) (by decide +kernel)⟩
theorem lw_p57 : lw_okq (⟨"SnowTracksModel", "claimBar", "(I)I"⟩, 36) := ⟨⟨by decide +kernel, by decide +kernel⟩, List.mem_of_getElem? (i := 762) (by decide +kernel), List.mem_of_getElem? (i := 1184) (by decide +kernel), List.mem_of_getElem? (i := 1185) (by decide +kernel)⟩
theorem lw_p58 : lw_okq (⟨"SnowTracksModel", "claims", "(II)V"⟩, 36) := ⟨⟨by decide +kernel, by decide +kernel⟩, List.mem_of_getElem? (i := 762) (by decide +kernel), List.mem_of_getElem? (i := 1188) (by decide +kernel), List.mem_of_getElem? (i := 1189) (by decide +kernel)⟩
theorem lw_p59 : lw_okq (⟨"SnowTracksModel", "counted", "(I)I"⟩, 36) := ⟨⟨by decide +kernel, by decide +kernel⟩, List.mem_of_getElem? (i := 762) (by decide +kernel), List.mem_of_getElem? (i := 1224) (by decide +kernel), List.mem_of_getElem? (i := 1225) (by decide +kernel)⟩
theorem lw_p60 : lw_okq (⟨"SnowTracksModel", "mixPass", "()V"⟩, 36) := ⟨⟨by decide +kernel, by decide +kernel⟩, List.mem_of_getElem? (i := 762) (by decide +kernel), List.mem_of_getElem? (i := 1241) (by decide +kernel), List.mem_of_getElem? (i := 1242) (by decide +kernel)⟩
theorem lw_p61 : lw_okq (⟨"SnowTracksModel", "mix", "(I)V"⟩, 36) := ⟨⟨by decide +kernel, by decide +kernel⟩, List.mem_of_getElem? (i := 762) (by decide +kernel), List.mem_of_getElem? (i := 1245) (by decide +kernel), List.mem_of_getElem? (i := 1246) (by decide +kernel)⟩
def lw_privs_4 : List (MethodName × Nat) := [(⟨"SnowTracksModel", "countWith", "(II)I"⟩, 36), (⟨"SnowTracksModel", "behind", "(I)I"⟩, 36), (⟨"SnowTracksModel", "orderBar", "(I)I"⟩, 36), (⟨"SnowTracksModel", "isBetween", "(II)Z"⟩, 36), (⟨"SnowTracksModel", "findChains", "(Z)V"⟩, 36), (⟨"SnowTracksModel", "ringBy", "(I)I"⟩, 36), (⟨"SnowTracksModel", "findFar", "(I)V"⟩, 36), (⟨"SnowTracksModel", "tellingBits", "()I"⟩, 36), (⟨"SnowTracksModel", "areOnes", "(I)Z"⟩, 36), (⟨"SnowTracksModel", "claimBar", "(I)I"⟩, 36), (⟨"SnowTracksModel", "claims", "(II)V"⟩, 36), (⟨"SnowTracksModel", "counted", "(I)I"⟩, 36), (⟨"SnowTracksModel", "mixPass", "()V"⟩, 36), (⟨"SnowTracksModel", "mix", "(I)V"⟩, 36)]
theorem lw_r4 : ∀ q ∈ lw_privs_4, lw_okq q := List.forall_mem_cons.mpr ⟨lw_p48, List.forall_mem_cons.mpr ⟨lw_p49, List.forall_mem_cons.mpr ⟨lw_p50, List.forall_mem_cons.mpr ⟨lw_p51, List.forall_mem_cons.mpr ⟨lw_p52, List.forall_mem_cons.mpr ⟨lw_p53, List.forall_mem_cons.mpr ⟨lw_p54, List.forall_mem_cons.mpr ⟨lw_p55, List.forall_mem_cons.mpr ⟨lw_p56, List.forall_mem_cons.mpr ⟨lw_p57, List.forall_mem_cons.mpr ⟨lw_p58, List.forall_mem_cons.mpr ⟨lw_p59, List.forall_mem_cons.mpr ⟨lw_p60, List.forall_mem_cons.mpr ⟨lw_p61, fun _ h => absurd h List.not_mem_nil⟩⟩⟩⟩⟩⟩⟩⟩⟩⟩⟩⟩⟩⟩
def lw_privs : List (MethodName × Nat) := lw_privs_1 ++ (lw_privs_2 ++ (lw_privs_3 ++ (lw_privs_4)))
def lw_tbl : List Cond := k2_sels lw_privs ++ tables_1
theorem lw_privs_ok : ∀ q ∈ lw_privs, lw_okq q := by
  show ∀ q ∈ lw_privs_1 ++ (lw_privs_2 ++ (lw_privs_3 ++ (lw_privs_4))), lw_okq q
  exact List.forall_mem_append.mpr ⟨lw_r1, List.forall_mem_append.mpr ⟨lw_r2, List.forall_mem_append.mpr ⟨lw_r3, lw_r4⟩⟩⟩
-- ===== end of PART A; then your names; then what follows =====
end
section
/-! THE SMALL MACHINE: an abstract step of the bytecode over a store of three tables (ints, longs, references) and a list of shapes.
A reference is the number of a cell in the list of shapes; a row of a method's table: pc, instruction, next pc, two operands, a constant. -/
abbrev xS := Nat → Nat → Int32
abbrev xL := Nat → Nat → Int64
abbrev xR := Nat → Nat → Option Nat
/-- shapes (kind, size), references, cells and slots made in this frame; kinds: below 16 a class, 16 int[], 17 boolean[], 18 int[][], 19 Pass[] -/
abbrev xG := List (Nat × Nat) × xR × Nat × Nat
abbrev xRow := Nat × Instr × Nat × Nat × Nat × Value
/-- number, class, locals, arguments, kind of answer (0 none, 1 int, 2 boolean, 3 long), room (frames, locals, cells, slots), rows, script's length and ints -/
abbrev xM := Nat × Nat × Nat × Nat × Nat × (Nat × Nat × Nat × Nat) × List xRow × Nat × (Nat → Int32)
abbrev xQ := Option Value → xG → xS → xL → Prop
def x_row {α : Type} (σ : Nat → Nat → α) (q : Nat) (f : Nat → α) : Nat → Nat → α := fun q' => if q' = q then f else σ q'
def x_wr (ρ : xR) (q j r : Nat) : xR := fun q' j' => bif Nat.beq q' q && Nat.beq j' j then some r else ρ q' j'
def x_fnd : List xRow → Nat → Option (Instr × Nat × Nat × Nat × Value)
  | [], _ => none
  | r :: rs, pc => bif Nat.beq r.1 pc then some r.2 else x_fnd rs pc
def x_nth {α : Type} : List α → Nat → Option α
  | [], _ => none
  | x :: _, 0 => some x
  | _ :: xs, k + 1 => x_nth xs k
def x_set : List Value → Nat → Value → (List Value → Prop) → Prop
  | [], _, _, _ => False
  | _ :: xs, 0, v, K => K (v :: xs)
  | x :: xs, k + 1, v, K => x_set xs k v (fun ys => K (x :: ys))
/-- no long stands just ahead of this place -/
def x_low : List Value → Nat → Bool
  | _, 0 => true
  | ls, k + 1 => match x_nth ls k with
    | some (.long _) => false
    | some (.double _) => false
    | _ => true
def x_pop : Nat → List Value → List Value → (List Value → List Value → Prop) → Prop
  | 0, st, as, K => K as st
  | _ + 1, [], _, _ => False
  | n + 1, v :: st, as, K => x_pop n st (v :: as) K
/-- arguments as locals: a long takes two places, the rest is unset -/
def x_loc : List Value → Nat → List Value
  | [], n => List.replicate n .null
  | .long x :: vs, n + 2 => .long x :: .null :: x_loc vs n
  | v :: vs, n + 1 => v :: x_loc vs n
  | _ :: _, 0 => []
/-- how many places arguments take -/
def x_words : List Value → Nat
  | [] => 0
  | .long _ :: vs => x_words vs + 2
  | .double _ :: vs => x_words vs + 1000
  | _ :: vs => x_words vs + 1
def x_cat : List Value → Nat → Bool
  | [], n => Nat.ble n 8
  | .long _ :: vs, n => x_cat vs (n + 2)
  | .double _ :: vs, n => x_cat vs (n + 2)
  | _ :: vs, n => x_cat vs (n + 1)
def x_refs (n : Nat) : List Value → Bool
  | [] => true
  | .ref q :: vs => Nat.blt q n && x_refs n vs
  | _ :: vs => x_refs n vs
def x_push (r : Option Value) (st : List Value) : List Value := match r with
  | some v => v :: st
  | none => st
def x_sw : List (Int32 × Nat) → Int32 → Nat → (Nat → Prop) → Prop
  | [], _, d, K => K d
  | (v, t) :: r, x, d, K => (x = v → K t) ∧ (¬ x = v → x_sw r x d K)
def x_cond (c : ClassFile.Cond) (x y : Int32) : Prop := match c with
  | .eq => x = y
  | .ne => ¬ x = y
  | .lt => x < y
  | .ge => y ≤ x
  | .gt => y < x
  | .le => x ≤ y
/-- refs of the rows of a new array of arrays -/
def x_wrr (ρ : xR) (q n : Nat) : xR := fun q' j' => bif Nat.beq q' q then (bif Nat.blt j' n then some (q + 1 + j') else none) else ρ q' j'
def x_no (ρ : xR) (q : Nat) : xR := fun q' j' => bif Nat.beq q' q then none else ρ q' j'
def x_zs {α : Type} (z : α) (σ : Nat → Nat → α) (q : Nat) : Nat → Nat → α := fun q' j' => if q ≤ q' then z else σ q' j'
end
section
def t_S_init : List xRow := [(0, .aload 0, 1, 0, 0, .null),
  (1, .invokedynamic 0, 4, 0, 80, .null),
  (4, .aload 0, 5, 0, 0, .null),
  (5, .new 0, 8, 5, 3, .retAddr 83),
  (8, .dup, 9, 0, 0, .null),
  (9, .iconst 0, 11, 0, 0, .int 6),
  (11, .iconst 0, 13, 0, 0, .int 40),
  (13, .iconst 0, 14, 0, 0, .int 0),
  (14, .invokespecial 0, 17, 1, 85, .null),
  (17, .putfield 0, 20, 6, 0, .retAddr 249),
  (20, .aload 0, 21, 0, 0, .null),
  (21, .new 0, 24, 5, 3, .retAddr 83),
  (24, .dup, 25, 0, 0, .null),
  (25, .iconst 0, 26, 0, 0, .int 4),
  (26, .iconst 0, 28, 0, 0, .int 80),
  (28, .iconst 0, 30, 0, 0, .int 32),
  (30, .invokespecial 0, 33, 1, 85, .null),
  (33, .putfield 0, 36, 6, 1, .retAddr 250),
  (36, .aload 0, 37, 0, 0, .null),
  (37, .new 0, 40, 2, 8, .retAddr 107),
  (40, .dup, 41, 0, 0, .null),
  (41, .invokespecial 0, 44, 3, 109, .null),
  (44, .putfield 0, 47, 6, 2, .retAddr 251),
  (47, .aload 0, 48, 0, 0, .null),
  (48, .new 0, 51, 4, 1, .retAddr 152),
  (51, .dup, 52, 0, 0, .null),
  (52, .invokespecial 0, 55, 4, 154, .null),
  (55, .putfield 0, 58, 6, 3, .retAddr 252),
  (58, .aload 0, 59, 0, 0, .null),
  (59, .iconst 0, 60, 0, 0, .int 3),
  (60, .anewarray 0, 63, 0, 107, .null),
  (63, .putfield 0, 66, 6, 4, .retAddr 253),
  (66, .aload 0, 67, 0, 0, .null),
  (67, .new 0, 70, 1, 9, .retAddr 166),
  (70, .dup, 71, 0, 0, .null),
  (71, .invokespecial 0, 74, 5, 168, .null),
  (74, .putfield 0, 77, 6, 5, .retAddr 254),
  (77, .aload 0, 78, 0, 0, .null),
  (78, .new 0, 81, 0, 5, .retAddr 208),
  (81, .dup, 82, 0, 0, .null),
  (82, .invokespecial 0, 85, 6, 210, .null),
  (85, .putfield 0, 88, 6, 6, .retAddr 255),
  (88, .aload 0, 89, 0, 0, .null),
  (89, .new 0, 92, 3, 4, .retAddr 230),
  (92, .dup, 93, 0, 0, .null),
  (93, .invokespecial 0, 96, 7, 232, .null),
  (96, .putfield 0, 99, 6, 7, .retAddr 256),
  (99, .aload 0, 100, 0, 0, .null),
  (100, .iconst 0, 101, 0, 0, .int 0),
  (101, .putfield 0, 104, 6, 8, .int 257),
  (104, .aload 0, 105, 0, 0, .null),
  (105, .iconst 0, 106, 0, 0, .long 0),
  (106, .putfield 0, 109, 6, 9, .long 258),
  (109, .aload 0, 110, 0, 0, .null),
  (110, .iconst 0, 111, 0, 0, .long 1),
  (111, .putfield 0, 114, 6, 10, .long 259),
  (114, .aload 0, 115, 0, 0, .null),
  (115, .iconst 0, 116, 0, 0, .int 0),
  (116, .putfield 0, 119, 6, 11, .int 260),
  (119, .aload 0, 120, 0, 0, .null),
  (120, .iconst 0, 122, 0, 0, .int 6),
  (122, .newarray .int, 124, 0, 0, .null),
  (124, .putfield 0, 127, 6, 12, .retAddr 261),
  (127, .iconst 0, 128, 0, 0, .int 0),
  (128, .istore 1, 129, 0, 0, .null),
  (129, .iload 1, 130, 0, 0, .null),
  (130, .iconst 0, 131, 0, 0, .int 3),
  (131, .if_icmp .ge 0, 134, 153, 0, .null),
  (134, .aload 0, 135, 0, 0, .null),
  (135, .getfield 0, 138, 6, 4, .retAddr 253),
  (138, .iload 1, 139, 0, 0, .null),
  (139, .new 0, 142, 2, 8, .retAddr 107),
  (142, .dup, 143, 0, 0, .null),
  (143, .invokespecial 0, 146, 3, 109, .null),
  (146, .aastore, 147, 0, 0, .null),
  (147, .iinc 1 0, 150, 0, 0, .int 1),
  (150, .goto 0, 153, 129, 0, .null),
  (153, .return_, 154, 0, 0, .null)]
def m_S_init : xM := (0, 6, 2, 1, 0, (3, 61, 68, 1725), t_S_init, 0, fun _ => 0)
def t_H_init : List xRow := [(0, .aload 0, 1, 0, 0, .null),
  (1, .invokedynamic 0, 4, 0, 88, .null),
  (4, .aload 0, 5, 0, 0, .null),
  (5, .iload 1, 6, 0, 0, .null),
  (6, .iload 2, 7, 0, 0, .null),
  (7, .multianewarray 0 2, 11, 0, 89, .null),
  (11, .putfield 0, 14, 5, 0, .retAddr 94),
  (14, .aload 0, 15, 0, 0, .null),
  (15, .iload 1, 16, 0, 0, .null),
  (16, .newarray .int, 18, 0, 0, .null),
  (18, .putfield 0, 21, 5, 1, .retAddr 96),
  (21, .aload 0, 22, 0, 0, .null),
  (22, .getfield 0, 25, 5, 1, .retAddr 96),
  (25, .iconst 0, 26, 0, 0, .int (-1)),
  (26, .invokestatic 0, 29, 2, 91, .null),
  (29, .aload 0, 30, 0, 0, .null),
  (30, .iload 3, 31, 0, 0, .null),
  (31, .putfield 0, 34, 5, 2, .int 98),
  (34, .return_, 35, 0, 0, .null)]
def m_H_init : xM := (1, 5, 4, 4, 0, (1, 23, 8, 328), t_H_init, 0, fun _ => 0)
def t_J_fill : List xRow := [(0, .iconst 0, 1, 0, 0, .int 0),
  (1, .istore 2, 2, 0, 0, .null),
  (2, .aload 0, 3, 0, 0, .null),
  (3, .arraylength, 4, 0, 0, .null),
  (4, .istore 3, 5, 0, 0, .null),
  (5, .iload 2, 6, 0, 0, .null),
  (6, .iload 3, 7, 0, 0, .null),
  (7, .if_icmp .ge 0, 10, 20, 0, .null),
  (10, .aload 0, 11, 0, 0, .null),
  (11, .iload 2, 12, 0, 0, .null),
  (12, .iload 1, 13, 0, 0, .null),
  (13, .iastore, 14, 0, 0, .null),
  (14, .iinc 2 0, 17, 0, 0, .int 1),
  (17, .goto 0, 20, 5, 0, .null),
  (20, .return_, 21, 0, 0, .null)]
def m_J_fill : xM := (2, 9, 4, 2, 0, (0, 0, 0, 0), t_J_fill, 0, fun _ => 0)
def t_P_init : List xRow := [(0, .aload 0, 1, 0, 0, .null),
  (1, .invokedynamic 0, 4, 0, 112, .null),
  (4, .aload 0, 5, 0, 0, .null),
  (5, .iconst 0, 6, 0, 0, .int 0),
  (6, .putfield 0, 9, 2, 0, .int 113),
  (9, .aload 0, 10, 0, 0, .null),
  (10, .iconst 0, 11, 0, 0, .int 0),
  (11, .putfield 0, 14, 2, 1, .int 118),
  (14, .aload 0, 15, 0, 0, .null),
  (15, .iconst 0, 16, 0, 0, .int 0),
  (16, .putfield 0, 19, 2, 2, .int 122),
  (19, .aload 0, 20, 0, 0, .null),
  (20, .iconst 0, 22, 0, 0, .int 7),
  (22, .newarray .int, 24, 0, 0, .null),
  (24, .putfield 0, 27, 2, 3, .retAddr 124),
  (27, .aload 0, 28, 0, 0, .null),
  (28, .iconst 0, 30, 0, 0, .int 7),
  (30, .newarray .int, 32, 0, 0, .null),
  (32, .putfield 0, 35, 2, 4, .retAddr 125),
  (35, .aload 0, 36, 0, 0, .null),
  (36, .iconst 0, 38, 0, 0, .int 7),
  (38, .newarray .int, 40, 0, 0, .null),
  (40, .putfield 0, 43, 2, 5, .retAddr 127),
  (43, .aload 0, 44, 0, 0, .null),
  (44, .iconst 0, 46, 0, 0, .int 16),
  (46, .newarray .int, 48, 0, 0, .null),
  (48, .putfield 0, 51, 2, 6, .retAddr 129),
  (51, .aload 0, 52, 0, 0, .null),
  (52, .iconst 0, 54, 0, 0, .int 16),
  (54, .newarray .int, 56, 0, 0, .null),
  (56, .putfield 0, 59, 2, 7, .retAddr 132),
  (59, .return_, 60, 0, 0, .null)]
def m_P_init : xM := (3, 2, 1, 1, 0, (1, 21, 5, 53), t_P_init, 0, fun _ => 0)
def t_R_init : List xRow := [(0, .aload 0, 1, 0, 0, .null),
  (1, .invokedynamic 0, 4, 0, 157, .null),
  (4, .aload 0, 5, 0, 0, .null),
  (5, .new 0, 8, 2, 8, .retAddr 158),
  (8, .dup, 9, 0, 0, .null),
  (9, .invokespecial 0, 12, 3, 159, .null),
  (12, .putfield 0, 15, 4, 0, .retAddr 160),
  (15, .return_, 16, 0, 0, .null)]
def m_R_init : xM := (4, 4, 1, 1, 0, (2, 41, 6, 61), t_R_init, 0, fun _ => 0)
def t_G_init : List xRow := [(0, .aload 0, 1, 0, 0, .null),
  (1, .invokedynamic 0, 4, 0, 171, .null),
  (4, .aload 0, 5, 0, 0, .null),
  (5, .iconst 0, 6, 0, 0, .int 0),
  (6, .putfield 0, 9, 1, 0, .int 172),
  (9, .aload 0, 10, 0, 0, .null),
  (10, .iconst 0, 11, 0, 0, .int 0),
  (11, .putfield 0, 14, 1, 1, .int 174),
  (14, .aload 0, 15, 0, 0, .null),
  (15, .iconst 0, 17, 0, 0, .int 7),
  (17, .newarray .int, 19, 0, 0, .null),
  (19, .putfield 0, 22, 1, 2, .retAddr 177),
  (22, .aload 0, 23, 0, 0, .null),
  (23, .iconst 0, 25, 0, 0, .int 7),
  (25, .newarray .int, 27, 0, 0, .null),
  (27, .putfield 0, 30, 1, 3, .retAddr 179),
  (30, .aload 0, 31, 0, 0, .null),
  (31, .iconst 0, 34, 0, 0, .int 128),
  (34, .newarray .int, 36, 0, 0, .null),
  (36, .putfield 0, 39, 1, 4, .retAddr 181),
  (39, .aload 0, 40, 0, 0, .null),
  (40, .iconst 0, 43, 0, 0, .int 128),
  (43, .newarray .int, 45, 0, 0, .null),
  (45, .putfield 0, 48, 1, 5, .retAddr 183),
  (48, .aload 0, 49, 0, 0, .null),
  (49, .iconst 0, 51, 0, 0, .int 7),
  (51, .newarray .int, 53, 0, 0, .null),
  (53, .putfield 0, 56, 1, 6, .retAddr 184),
  (56, .aload 0, 57, 0, 0, .null),
  (57, .iconst 0, 59, 0, 0, .int 7),
  (59, .newarray .int, 61, 0, 0, .null),
  (61, .putfield 0, 64, 1, 7, .retAddr 186),
  (64, .aload 0, 65, 0, 0, .null),
  (65, .iconst 0, 67, 0, 0, .int 7),
  (67, .newarray .int, 69, 0, 0, .null),
  (69, .putfield 0, 72, 1, 8, .retAddr 188),
  (72, .return_, 73, 0, 0, .null)]
def m_G_init : xM := (5, 1, 1, 1, 0, (1, 21, 7, 291), t_G_init, 0, fun _ => 0)
def t_D_init : List xRow := [(0, .aload 0, 1, 0, 0, .null),
  (1, .invokedynamic 0, 4, 0, 213, .null),
  (4, .aload 0, 5, 0, 0, .null),
  (5, .iconst 0, 6, 0, 0, .int 0),
  (6, .putfield 0, 9, 0, 0, .int 214),
  (9, .aload 0, 10, 0, 0, .null),
  (10, .iconst 0, 12, 0, 0, .int 16),
  (12, .newarray .int, 14, 0, 0, .null),
  (14, .putfield 0, 17, 0, 1, .retAddr 215),
  (17, .aload 0, 18, 0, 0, .null),
  (18, .iconst 0, 20, 0, 0, .int 16),
  (20, .newarray .int, 22, 0, 0, .null),
  (22, .putfield 0, 25, 0, 2, .retAddr 216),
  (25, .aload 0, 26, 0, 0, .null),
  (26, .iconst 0, 28, 0, 0, .int 16),
  (28, .newarray .int, 30, 0, 0, .null),
  (30, .putfield 0, 33, 0, 3, .retAddr 217),
  (33, .aload 0, 34, 0, 0, .null),
  (34, .iconst 0, 37, 0, 0, .int 128),
  (37, .newarray .int, 39, 0, 0, .null),
  (39, .putfield 0, 42, 0, 4, .retAddr 218),
  (42, .return_, 43, 0, 0, .null)]
def m_D_init : xM := (6, 0, 1, 1, 0, (1, 21, 4, 176), t_D_init, 0, fun _ => 0)
def t_F_init : List xRow := [(0, .aload 0, 1, 0, 0, .null),
  (1, .invokedynamic 0, 4, 0, 235, .null),
  (4, .aload 0, 5, 0, 0, .null),
  (5, .iconst 0, 6, 0, 0, .int 0),
  (6, .putfield 0, 9, 3, 0, .int 236),
  (9, .aload 0, 10, 0, 0, .null),
  (10, .iconst 0, 13, 0, 0, .int 128),
  (13, .newarray .int, 15, 0, 0, .null),
  (15, .putfield 0, 18, 3, 1, .retAddr 237),
  (18, .aload 0, 19, 0, 0, .null),
  (19, .iconst 0, 22, 0, 0, .int 128),
  (22, .newarray .int, 24, 0, 0, .null),
  (24, .putfield 0, 27, 3, 2, .retAddr 238),
  (27, .aload 0, 28, 0, 0, .null),
  (28, .iconst 0, 30, 0, 0, .int 7),
  (30, .newarray .int, 32, 0, 0, .null),
  (32, .putfield 0, 35, 3, 3, .retAddr 239),
  (35, .return_, 36, 0, 0, .null)]
def m_F_init : xM := (7, 3, 1, 1, 0, (1, 21, 3, 263), t_F_init, 0, fun _ => 0)
def t_S_row : List xRow := [(0, .aload 0, 1, 0, 0, .null),
  (1, .getfield 0, 4, 6, 0, .retAddr 249),
  (4, .iload 1, 5, 0, 0, .null),
  (5, .invokevirtual 0, 8, 9, 293, .null),
  (8, .ifCond .eq 0, 11, 17, 0, .null),
  (11, .iload 2, 12, 0, 0, .null),
  (12, .iconst 0, 14, 0, 0, .int 40),
  (14, .if_icmp .le 0, 17, 19, 0, .null),
  (17, .iconst 0, 18, 0, 0, .int (-1)),
  (18, .ireturn, 19, 0, 0, .null),
  (19, .iload 2, 20, 0, 0, .null),
  (20, .ifCond .ge 0, 23, 29, 0, .null),
  (23, .aload 0, 24, 0, 0, .null),
  (24, .iconst 0, 25, 0, 0, .int 5),
  (25, .invokevirtual 0, 28, 10, 297, .null),
  (28, .ireturn, 29, 0, 0, .null),
  (29, .aload 0, 30, 0, 0, .null),
  (30, .getfield 0, 33, 6, 0, .retAddr 249),
  (33, .iload 1, 34, 0, 0, .null),
  (34, .iload 2, 35, 0, 0, .null),
  (35, .invokevirtual 0, 38, 11, 301, .null),
  (38, .iload 2, 39, 0, 0, .null),
  (39, .ireturn, 40, 0, 0, .null)]
def m_S_row : xM := (8, 6, 3, 3, 1, (2, 45, 0, 0), t_S_row, 0, fun _ => 0)
def t_H_isNumber : List xRow := [(0, .iload 1, 1, 0, 0, .null),
  (1, .ifCond .lt 0, 4, 17, 0, .null),
  (4, .iload 1, 5, 0, 0, .null),
  (5, .aload 0, 6, 0, 0, .null),
  (6, .getfield 0, 9, 5, 1, .retAddr 96),
  (9, .arraylength, 10, 0, 0, .null),
  (10, .if_icmp .ge 0, 13, 17, 0, .null),
  (13, .iconst 0, 14, 0, 0, .int 1),
  (14, .goto 0, 17, 18, 0, .null),
  (17, .iconst 0, 18, 0, 0, .int 0),
  (18, .ireturn, 19, 0, 0, .null)]
def m_H_isNumber : xM := (9, 5, 2, 2, 2, (0, 0, 0, 0), t_H_isNumber, 0, fun _ => 0)
def t_S_refuse : List xRow := [(0, .aload 0, 1, 0, 0, .null),
  (1, .iload 1, 2, 0, 0, .null),
  (2, .putfield 0, 5, 6, 11, .int 260),
  (5, .aload 0, 6, 0, 0, .null),
  (6, .getfield 0, 9, 6, 12, .retAddr 261),
  (9, .iload 1, 10, 0, 0, .null),
  (10, .dup2, 11, 0, 0, .null),
  (11, .iaload, 12, 0, 0, .null),
  (12, .iconst 0, 13, 0, 0, .int 1),
  (13, .iadd, 14, 0, 0, .null),
  (14, .iastore, 15, 0, 0, .null),
  (15, .iconst 0, 17, 0, 0, .int (-3)),
  (17, .ireturn, 18, 0, 0, .null)]
def m_S_refuse : xM := (10, 6, 2, 2, 1, (0, 0, 0, 0), t_S_refuse, 0, fun _ => 0)
def t_H_make : List xRow := [(0, .aload 0, 1, 0, 0, .null),
  (1, .getfield 0, 4, 5, 0, .retAddr 94),
  (4, .iload 1, 5, 0, 0, .null),
  (5, .aaload, 6, 0, 0, .null),
  (6, .aload 0, 7, 0, 0, .null),
  (7, .getfield 0, 10, 5, 2, .int 98),
  (10, .invokestatic 0, 13, 2, 91, .null),
  (13, .aload 0, 14, 0, 0, .null),
  (14, .getfield 0, 17, 5, 1, .retAddr 96),
  (17, .iload 1, 18, 0, 0, .null),
  (18, .iload 2, 19, 0, 0, .null),
  (19, .iastore, 20, 0, 0, .null),
  (20, .return_, 21, 0, 0, .null)]
def m_H_make : xM := (11, 5, 3, 3, 0, (1, 23, 0, 0), t_H_make, 0, fun _ => 0)
def t_S_lay : List xRow := [(0, .aload 0, 1, 0, 0, .null),
  (1, .iload 1, 2, 0, 0, .null),
  (2, .iload 2, 3, 0, 0, .null),
  (3, .invokevirtual 0, 6, 13, 309, .null),
  (6, .istore 4, 8, 0, 0, .null),
  (8, .iload 4, 10, 0, 0, .null),
  (10, .iconst 0, 11, 0, 0, .int 1),
  (11, .if_icmp .ne 0, 14, 26, 0, .null),
  (14, .aload 0, 15, 0, 0, .null),
  (15, .getfield 0, 18, 6, 0, .retAddr 249),
  (18, .getfield 0, 21, 5, 0, .retAddr 95),
  (21, .iload 1, 22, 0, 0, .null),
  (22, .aaload, 23, 0, 0, .null),
  (23, .iload 2, 24, 0, 0, .null),
  (24, .iload 3, 25, 0, 0, .null),
  (25, .iastore, 26, 0, 0, .null),
  (26, .iload 4, 28, 0, 0, .null),
  (28, .ireturn, 29, 0, 0, .null)]
def m_S_lay : xM := (12, 6, 5, 4, 1, (2, 44, 0, 0), t_S_lay, 0, fun _ => 0)
def t_S_tellPlace : List xRow := [(0, .aload 0, 1, 0, 0, .null),
  (1, .getfield 0, 4, 6, 0, .retAddr 249),
  (4, .iload 1, 5, 0, 0, .null),
  (5, .invokevirtual 0, 8, 9, 293, .null),
  (8, .ifCond .ne 0, 11, 13, 0, .null),
  (11, .iconst 0, 12, 0, 0, .int (-1)),
  (12, .ireturn, 13, 0, 0, .null),
  (13, .aload 0, 14, 0, 0, .null),
  (14, .getfield 0, 17, 6, 0, .retAddr 249),
  (17, .iload 1, 18, 0, 0, .null),
  (18, .invokevirtual 0, 21, 14, 313, .null),
  (21, .ifCond .ne 0, 24, 30, 0, .null),
  (24, .aload 0, 25, 0, 0, .null),
  (25, .iconst 0, 26, 0, 0, .int 1),
  (26, .invokevirtual 0, 29, 10, 297, .null),
  (29, .ireturn, 30, 0, 0, .null),
  (30, .aload 0, 31, 0, 0, .null),
  (31, .getfield 0, 34, 6, 0, .retAddr 249),
  (34, .iload 1, 35, 0, 0, .null),
  (35, .iload 2, 36, 0, 0, .null),
  (36, .invokevirtual 0, 39, 15, 317, .null),
  (39, .ifCond .ne 0, 42, 48, 0, .null),
  (42, .aload 0, 43, 0, 0, .null),
  (43, .iconst 0, 44, 0, 0, .int 2),
  (44, .invokevirtual 0, 47, 10, 297, .null),
  (47, .ireturn, 48, 0, 0, .null),
  (48, .aload 0, 49, 0, 0, .null),
  (49, .aload 0, 50, 0, 0, .null),
  (50, .getfield 0, 53, 6, 0, .retAddr 249),
  (53, .getfield 0, 56, 5, 0, .retAddr 95),
  (56, .iload 1, 57, 0, 0, .null),
  (57, .aaload, 58, 0, 0, .null),
  (58, .iload 2, 59, 0, 0, .null),
  (59, .iaload, 60, 0, 0, .null),
  (60, .putfield 0, 63, 6, 8, .int 257),
  (63, .iconst 0, 64, 0, 0, .int 1),
  (64, .ireturn, 65, 0, 0, .null)]
def m_S_tellPlace : xM := (13, 6, 3, 3, 1, (1, 22, 0, 0), t_S_tellPlace, 0, fun _ => 0)
def t_H_isThere : List xRow := [(0, .aload 0, 1, 0, 0, .null),
  (1, .getfield 0, 4, 5, 1, .retAddr 96),
  (4, .iload 1, 5, 0, 0, .null),
  (5, .iaload, 6, 0, 0, .null),
  (6, .ifCond .lt 0, 9, 13, 0, .null),
  (9, .iconst 0, 10, 0, 0, .int 1),
  (10, .goto 0, 13, 14, 0, .null),
  (13, .iconst 0, 14, 0, 0, .int 0),
  (14, .ireturn, 15, 0, 0, .null)]
def m_H_isThere : xM := (14, 5, 2, 2, 2, (0, 0, 0, 0), t_H_isThere, 0, fun _ => 0)
def t_H_hasPlace : List xRow := [(0, .iload 2, 1, 0, 0, .null),
  (1, .ifCond .lt 0, 4, 18, 0, .null),
  (4, .iload 2, 5, 0, 0, .null),
  (5, .aload 0, 6, 0, 0, .null),
  (6, .getfield 0, 9, 5, 1, .retAddr 96),
  (9, .iload 1, 10, 0, 0, .null),
  (10, .iaload, 11, 0, 0, .null),
  (11, .if_icmp .ge 0, 14, 18, 0, .null),
  (14, .iconst 0, 15, 0, 0, .int 1),
  (15, .goto 0, 18, 19, 0, .null),
  (18, .iconst 0, 19, 0, 0, .int 0),
  (19, .ireturn, 20, 0, 0, .null)]
def m_H_hasPlace : xM := (15, 5, 3, 3, 2, (0, 0, 0, 0), t_H_hasPlace, 0, fun _ => 0)
def t_S_at : List xRow := [(0, .aload 0, 1, 0, 0, .null),
  (1, .iload 1, 2, 0, 0, .null),
  (2, .iload 2, 3, 0, 0, .null),
  (3, .invokevirtual 0, 6, 13, 309, .null),
  (6, .ireturn, 7, 0, 0, .null)]
def m_S_at : xM := (16, 6, 3, 3, 1, (2, 44, 0, 0), t_S_at, 0, fun _ => 0)
def t_S_tear : List xRow := [(0, .aload 0, 1, 0, 0, .null),
  (1, .getfield 0, 4, 6, 0, .retAddr 249),
  (4, .iload 1, 5, 0, 0, .null),
  (5, .invokevirtual 0, 8, 9, 293, .null),
  (8, .ifCond .ne 0, 11, 13, 0, .null),
  (11, .iconst 0, 12, 0, 0, .int (-1)),
  (12, .ireturn, 13, 0, 0, .null),
  (13, .aload 0, 14, 0, 0, .null),
  (14, .getfield 0, 17, 6, 0, .retAddr 249),
  (17, .iload 1, 18, 0, 0, .null),
  (18, .invokevirtual 0, 21, 14, 313, .null),
  (21, .ifCond .ne 0, 24, 30, 0, .null),
  (24, .aload 0, 25, 0, 0, .null),
  (25, .iconst 0, 26, 0, 0, .int 1),
  (26, .invokevirtual 0, 29, 10, 297, .null),
  (29, .ireturn, 30, 0, 0, .null),
  (30, .aload 0, 31, 0, 0, .null),
  (31, .getfield 0, 34, 6, 0, .retAddr 249),
  (34, .getfield 0, 37, 5, 1, .retAddr 97),
  (37, .iload 1, 38, 0, 0, .null),
  (38, .iconst 0, 39, 0, 0, .int (-1)),
  (39, .iastore, 40, 0, 0, .null),
  (40, .iconst 0, 41, 0, 0, .int 1),
  (41, .ireturn, 42, 0, 0, .null)]
def m_S_tear : xM := (17, 6, 2, 2, 1, (1, 21, 0, 0), t_S_tear, 0, fun _ => 0)
def t_S_copy : List xRow := [(0, .aload 0, 1, 0, 0, .null),
  (1, .getfield 0, 4, 6, 0, .retAddr 249),
  (4, .iload 1, 5, 0, 0, .null),
  (5, .invokevirtual 0, 8, 9, 293, .null),
  (8, .ifCond .eq 0, 11, 22, 0, .null),
  (11, .aload 0, 12, 0, 0, .null),
  (12, .getfield 0, 15, 6, 0, .retAddr 249),
  (15, .iload 3, 16, 0, 0, .null),
  (16, .invokevirtual 0, 19, 9, 293, .null),
  (19, .ifCond .ne 0, 22, 24, 0, .null),
  (22, .iconst 0, 23, 0, 0, .int (-1)),
  (23, .ireturn, 24, 0, 0, .null),
  (24, .iload 5, 26, 0, 0, .null),
  (26, .ifCond .ge 0, 29, 35, 0, .null),
  (29, .aload 0, 30, 0, 0, .null),
  (30, .iconst 0, 31, 0, 0, .int 5),
  (31, .invokevirtual 0, 34, 10, 297, .null),
  (34, .ireturn, 35, 0, 0, .null),
  (35, .aload 0, 36, 0, 0, .null),
  (36, .getfield 0, 39, 6, 0, .retAddr 249),
  (39, .iload 1, 40, 0, 0, .null),
  (40, .invokevirtual 0, 43, 14, 313, .null),
  (43, .ifCond .eq 0, 46, 57, 0, .null),
  (46, .aload 0, 47, 0, 0, .null),
  (47, .getfield 0, 50, 6, 0, .retAddr 249),
  (50, .iload 3, 51, 0, 0, .null),
  (51, .invokevirtual 0, 54, 14, 313, .null),
  (54, .ifCond .ne 0, 57, 63, 0, .null),
  (57, .aload 0, 58, 0, 0, .null),
  (58, .iconst 0, 59, 0, 0, .int 1),
  (59, .invokevirtual 0, 62, 10, 297, .null),
  (62, .ireturn, 63, 0, 0, .null),
  (63, .aload 0, 64, 0, 0, .null),
  (64, .getfield 0, 67, 6, 0, .retAddr 249),
  (67, .iload 1, 68, 0, 0, .null),
  (68, .iload 2, 69, 0, 0, .null),
  (69, .iload 5, 71, 0, 0, .null),
  (71, .invokevirtual 0, 74, 19, 333, .null),
  (74, .ifCond .eq 0, 77, 92, 0, .null),
  (77, .aload 0, 78, 0, 0, .null),
  (78, .getfield 0, 81, 6, 0, .retAddr 249),
  (81, .iload 3, 82, 0, 0, .null),
  (82, .iload 4, 84, 0, 0, .null),
  (84, .iload 5, 86, 0, 0, .null),
  (86, .invokevirtual 0, 89, 19, 333, .null),
  (89, .ifCond .ne 0, 92, 98, 0, .null),
  (92, .aload 0, 93, 0, 0, .null),
  (93, .iconst 0, 94, 0, 0, .int 2),
  (94, .invokevirtual 0, 97, 10, 297, .null),
  (97, .ireturn, 98, 0, 0, .null),
  (98, .aload 0, 99, 0, 0, .null),
  (99, .getfield 0, 102, 6, 0, .retAddr 249),
  (102, .getfield 0, 105, 5, 0, .retAddr 95),
  (105, .iload 1, 106, 0, 0, .null),
  (106, .aaload, 107, 0, 0, .null),
  (107, .iload 2, 108, 0, 0, .null),
  (108, .aload 0, 109, 0, 0, .null),
  (109, .getfield 0, 112, 6, 0, .retAddr 249),
  (112, .getfield 0, 115, 5, 0, .retAddr 95),
  (115, .iload 3, 116, 0, 0, .null),
  (116, .aaload, 117, 0, 0, .null),
  (117, .iload 4, 119, 0, 0, .null),
  (119, .iload 5, 121, 0, 0, .null),
  (121, .invokeinterface 0 0, 124, 0, 337, .null),
  (124, .iconst 0, 125, 0, 0, .int 1),
  (125, .ireturn, 126, 0, 0, .null)]
def m_S_copy : xM := (18, 6, 6, 6, 1, (1, 60, 0, 0), t_S_copy, 0, fun _ => 0)
def t_H_hasPlaces : List xRow := [(0, .iload 2, 1, 0, 0, .null),
  (1, .ifCond .lt 0, 4, 30, 0, .null),
  (4, .iload 3, 5, 0, 0, .null),
  (5, .aload 0, 6, 0, 0, .null),
  (6, .getfield 0, 9, 5, 1, .retAddr 96),
  (9, .iload 1, 10, 0, 0, .null),
  (10, .iaload, 11, 0, 0, .null),
  (11, .if_icmp .gt 0, 14, 30, 0, .null),
  (14, .iload 2, 15, 0, 0, .null),
  (15, .aload 0, 16, 0, 0, .null),
  (16, .getfield 0, 19, 5, 1, .retAddr 96),
  (19, .iload 1, 20, 0, 0, .null),
  (20, .iaload, 21, 0, 0, .null),
  (21, .iload 3, 22, 0, 0, .null),
  (22, .isub, 23, 0, 0, .null),
  (23, .if_icmp .gt 0, 26, 30, 0, .null),
  (26, .iconst 0, 27, 0, 0, .int 1),
  (27, .goto 0, 30, 31, 0, .null),
  (30, .iconst 0, 31, 0, 0, .int 0),
  (31, .ireturn, 32, 0, 0, .null)]
def m_H_hasPlaces : xM := (19, 5, 4, 4, 2, (0, 0, 0, 0), t_H_hasPlaces, 0, fun _ => 0)
def t_S_mean : List xRow := [(0, .aload 0, 1, 0, 0, .null),
  (1, .getfield 0, 4, 6, 0, .retAddr 249),
  (4, .iload 1, 5, 0, 0, .null),
  (5, .invokevirtual 0, 8, 9, 293, .null),
  (8, .ifCond .ne 0, 11, 13, 0, .null),
  (11, .iconst 0, 12, 0, 0, .int (-1)),
  (12, .ireturn, 13, 0, 0, .null),
  (13, .aload 0, 14, 0, 0, .null),
  (14, .getfield 0, 17, 6, 0, .retAddr 249),
  (17, .iload 1, 18, 0, 0, .null),
  (18, .invokevirtual 0, 21, 14, 313, .null),
  (21, .ifCond .ne 0, 24, 30, 0, .null),
  (24, .aload 0, 25, 0, 0, .null),
  (25, .iconst 0, 26, 0, 0, .int 1),
  (26, .invokevirtual 0, 29, 10, 297, .null),
  (29, .ireturn, 30, 0, 0, .null),
  (30, .aload 0, 31, 0, 0, .null),
  (31, .getfield 0, 34, 6, 0, .retAddr 249),
  (34, .getfield 0, 37, 5, 1, .retAddr 97),
  (37, .iload 1, 38, 0, 0, .null),
  (38, .iaload, 39, 0, 0, .null),
  (39, .istore 2, 40, 0, 0, .null),
  (40, .iload 2, 41, 0, 0, .null),
  (41, .ifCond .gt 0, 44, 50, 0, .null),
  (44, .aload 0, 45, 0, 0, .null),
  (45, .iconst 0, 46, 0, 0, .int 4),
  (46, .invokevirtual 0, 49, 10, 297, .null),
  (49, .ireturn, 50, 0, 0, .null),
  (50, .aload 0, 51, 0, 0, .null),
  (51, .aload 0, 52, 0, 0, .null),
  (52, .getfield 0, 55, 6, 0, .retAddr 249),
  (55, .iload 1, 56, 0, 0, .null),
  (56, .invokevirtual 0, 59, 21, 344, .null),
  (59, .iload 2, 60, 0, 0, .null),
  (60, .i2l, 61, 0, 0, .null),
  (61, .ldiv, 62, 0, 0, .null),
  (62, .l2i, 63, 0, 0, .null),
  (63, .putfield 0, 66, 6, 8, .int 257),
  (66, .iconst 0, 67, 0, 0, .int 1),
  (67, .ireturn, 68, 0, 0, .null)]
def m_S_mean : xM := (20, 6, 3, 2, 1, (1, 24, 0, 0), t_S_mean, 0, fun _ => 0)
def t_H_sum : List xRow := [(0, .iconst 0, 1, 0, 0, .long 0),
  (1, .lstore 2, 2, 0, 0, .null),
  (2, .iconst 0, 3, 0, 0, .int 0),
  (3, .istore 4, 5, 0, 0, .null),
  (5, .iload 4, 7, 0, 0, .null),
  (7, .aload 0, 8, 0, 0, .null),
  (8, .getfield 0, 11, 5, 1, .retAddr 96),
  (11, .iload 1, 12, 0, 0, .null),
  (12, .iaload, 13, 0, 0, .null),
  (13, .if_icmp .ge 0, 16, 35, 0, .null),
  (16, .lload 2, 17, 0, 0, .null),
  (17, .aload 0, 18, 0, 0, .null),
  (18, .getfield 0, 21, 5, 0, .retAddr 94),
  (21, .iload 1, 22, 0, 0, .null),
  (22, .aaload, 23, 0, 0, .null),
  (23, .iload 4, 25, 0, 0, .null),
  (25, .iaload, 26, 0, 0, .null),
  (26, .i2l, 27, 0, 0, .null),
  (27, .ladd, 28, 0, 0, .null),
  (28, .lstore 2, 29, 0, 0, .null),
  (29, .iinc 4 0, 32, 0, 0, .int 1),
  (32, .goto 0, 35, 5, 0, .null),
  (35, .lload 2, 36, 0, 0, .null),
  (36, .lreturn, 37, 0, 0, .null)]
def m_H_sum : xM := (21, 5, 5, 2, 3, (0, 0, 0, 0), t_H_sum, 0, fun _ => 0)
def t_S_text : List xRow := [(0, .aload 0, 1, 0, 0, .null),
  (1, .getfield 0, 4, 6, 1, .retAddr 250),
  (4, .iload 1, 5, 0, 0, .null),
  (5, .invokevirtual 0, 8, 9, 293, .null),
  (8, .ifCond .eq 0, 11, 17, 0, .null),
  (11, .iload 2, 12, 0, 0, .null),
  (12, .iconst 0, 14, 0, 0, .int 80),
  (14, .if_icmp .le 0, 17, 19, 0, .null),
  (17, .iconst 0, 18, 0, 0, .int (-1)),
  (18, .ireturn, 19, 0, 0, .null),
  (19, .iload 2, 20, 0, 0, .null),
  (20, .ifCond .ge 0, 23, 29, 0, .null),
  (23, .aload 0, 24, 0, 0, .null),
  (24, .iconst 0, 25, 0, 0, .int 5),
  (25, .invokevirtual 0, 28, 10, 297, .null),
  (28, .ireturn, 29, 0, 0, .null),
  (29, .aload 0, 30, 0, 0, .null),
  (30, .getfield 0, 33, 6, 1, .retAddr 250),
  (33, .iload 1, 34, 0, 0, .null),
  (34, .iload 2, 35, 0, 0, .null),
  (35, .invokevirtual 0, 38, 11, 301, .null),
  (38, .iload 2, 39, 0, 0, .null),
  (39, .ireturn, 40, 0, 0, .null)]
def m_S_text : xM := (22, 6, 3, 3, 1, (2, 45, 0, 0), t_S_text, 0, fun _ => 0)
def t_S_put : List xRow := [(0, .aload 0, 1, 0, 0, .null),
  (1, .getfield 0, 4, 6, 1, .retAddr 250),
  (4, .iload 1, 5, 0, 0, .null),
  (5, .invokevirtual 0, 8, 9, 293, .null),
  (8, .ifCond .ne 0, 11, 13, 0, .null),
  (11, .iconst 0, 12, 0, 0, .int (-1)),
  (12, .ireturn, 13, 0, 0, .null),
  (13, .aload 0, 14, 0, 0, .null),
  (14, .getfield 0, 17, 6, 1, .retAddr 250),
  (17, .iload 1, 18, 0, 0, .null),
  (18, .invokevirtual 0, 21, 14, 313, .null),
  (21, .ifCond .ne 0, 24, 30, 0, .null),
  (24, .aload 0, 25, 0, 0, .null),
  (25, .iconst 0, 26, 0, 0, .int 1),
  (26, .invokevirtual 0, 29, 10, 297, .null),
  (29, .ireturn, 30, 0, 0, .null),
  (30, .aload 0, 31, 0, 0, .null),
  (31, .getfield 0, 34, 6, 1, .retAddr 250),
  (34, .iload 1, 35, 0, 0, .null),
  (35, .iload 2, 36, 0, 0, .null),
  (36, .invokevirtual 0, 39, 15, 317, .null),
  (39, .ifCond .ne 0, 42, 48, 0, .null),
  (42, .aload 0, 43, 0, 0, .null),
  (43, .iconst 0, 44, 0, 0, .int 2),
  (44, .invokevirtual 0, 47, 10, 297, .null),
  (47, .ireturn, 48, 0, 0, .null),
  (48, .aload 0, 49, 0, 0, .null),
  (49, .getfield 0, 52, 6, 1, .retAddr 250),
  (52, .getfield 0, 55, 5, 0, .retAddr 95),
  (55, .iload 1, 56, 0, 0, .null),
  (56, .aaload, 57, 0, 0, .null),
  (57, .iload 2, 58, 0, 0, .null),
  (58, .iaload, 59, 0, 0, .null),
  (59, .istore 4, 61, 0, 0, .null),
  (61, .aload 0, 62, 0, 0, .null),
  (62, .getfield 0, 65, 6, 1, .retAddr 250),
  (65, .getfield 0, 68, 5, 0, .retAddr 95),
  (68, .iload 1, 69, 0, 0, .null),
  (69, .aaload, 70, 0, 0, .null),
  (70, .iload 2, 71, 0, 0, .null),
  (71, .iload 3, 72, 0, 0, .null),
  (72, .i2b, 73, 0, 0, .null),
  (73, .iastore, 74, 0, 0, .null),
  (74, .iload 4, 76, 0, 0, .null),
  (76, .iconst 0, 79, 0, 0, .int 1000),
  (79, .iadd, 80, 0, 0, .null),
  (80, .ireturn, 81, 0, 0, .null)]
def m_S_put : xM := (23, 6, 5, 4, 1, (1, 22, 0, 0), t_S_put, 0, fun _ => 0)
def t_S_fault : List xRow := [(0, .aload 0, 1, 0, 0, .null),
  (1, .getfield 0, 4, 6, 1, .retAddr 250),
  (4, .iload 1, 5, 0, 0, .null),
  (5, .invokevirtual 0, 8, 9, 293, .null),
  (8, .ifCond .ne 0, 11, 13, 0, .null),
  (11, .iconst 0, 12, 0, 0, .int (-1)),
  (12, .ireturn, 13, 0, 0, .null),
  (13, .aload 0, 14, 0, 0, .null),
  (14, .getfield 0, 17, 6, 1, .retAddr 250),
  (17, .iload 1, 18, 0, 0, .null),
  (18, .invokevirtual 0, 21, 14, 313, .null),
  (21, .ifCond .ne 0, 24, 30, 0, .null),
  (24, .aload 0, 25, 0, 0, .null),
  (25, .iconst 0, 26, 0, 0, .int 1),
  (26, .invokevirtual 0, 29, 10, 297, .null),
  (29, .ireturn, 30, 0, 0, .null),
  (30, .aload 0, 31, 0, 0, .null),
  (31, .getfield 0, 34, 6, 3, .retAddr 252),
  (34, .aload 0, 35, 0, 0, .null),
  (35, .getfield 0, 38, 6, 1, .retAddr 250),
  (38, .getfield 0, 41, 5, 0, .retAddr 95),
  (41, .iload 1, 42, 0, 0, .null),
  (42, .aaload, 43, 0, 0, .null),
  (43, .aload 0, 44, 0, 0, .null),
  (44, .getfield 0, 47, 6, 1, .retAddr 250),
  (47, .getfield 0, 50, 5, 1, .retAddr 97),
  (50, .iload 1, 51, 0, 0, .null),
  (51, .iaload, 52, 0, 0, .null),
  (52, .invokevirtual 0, 55, 25, 360, .null),
  (55, .ireturn, 56, 0, 0, .null)]
def m_S_fault : xM := (24, 6, 2, 2, 1, (5, 118, 0, 0), t_S_fault, 0, fun _ => 0)
def t_R_read : List xRow := [(0, .aload 0, 1, 0, 0, .null),
  (1, .getfield 0, 4, 4, 0, .retAddr 160),
  (4, .invokevirtual 0, 7, 26, 364, .null),
  (7, .iconst 0, 8, 0, 0, .int 0),
  (8, .istore 4, 10, 0, 0, .null),
  (10, .iload 4, 12, 0, 0, .null),
  (12, .iload 2, 13, 0, 0, .null),
  (13, .if_icmp .ge 0, 16, 58, 0, .null),
  (16, .iconst 0, 17, 0, 0, .int 1),
  (17, .istore 3, 18, 0, 0, .null),
  (18, .aload 1, 19, 0, 0, .null),
  (19, .iload 4, 21, 0, 0, .null),
  (21, .iaload, 22, 0, 0, .null),
  (22, .iconst 0, 24, 0, 0, .int 32),
  (24, .if_icmp .eq 0, 27, 49, 0, .null),
  (27, .aload 0, 28, 0, 0, .null),
  (28, .aload 1, 29, 0, 0, .null),
  (29, .iload 2, 30, 0, 0, .null),
  (30, .iload 4, 32, 0, 0, .null),
  (32, .invokevirtual 0, 35, 27, 368, .null),
  (35, .istore 5, 37, 0, 0, .null),
  (37, .iload 5, 39, 0, 0, .null),
  (39, .iconst 0, 41, 0, 0, .int (-9)),
  (41, .if_icmp .eq 0, 44, 47, 0, .null),
  (44, .iload 5, 46, 0, 0, .null),
  (46, .ireturn, 47, 0, 0, .null),
  (47, .iconst 0, 48, 0, 0, .int 3),
  (48, .istore 3, 49, 0, 0, .null),
  (49, .iload 4, 51, 0, 0, .null),
  (51, .iload 3, 52, 0, 0, .null),
  (52, .iadd, 53, 0, 0, .null),
  (53, .istore 4, 55, 0, 0, .null),
  (55, .goto 0, 58, 10, 0, .null),
  (58, .iconst 0, 60, 0, 0, .int (-9)),
  (60, .ireturn, 61, 0, 0, .null)]
def m_R_read : xM := (25, 4, 6, 3, 1, (4, 93, 0, 0), t_R_read, 0, fun _ => 0)
def t_P_clear : List xRow := [(0, .aload 0, 1, 0, 0, .null),
  (1, .iconst 0, 2, 0, 0, .int 0),
  (2, .putfield 0, 5, 2, 0, .int 113),
  (5, .aload 0, 6, 0, 0, .null),
  (6, .iconst 0, 7, 0, 0, .int 0),
  (7, .putfield 0, 10, 2, 1, .int 118),
  (10, .return_, 11, 0, 0, .null)]
def m_P_clear : xM := (26, 2, 1, 1, 0, (0, 0, 0, 0), t_P_clear, 0, fun _ => 0)
def t_R_readItem : List xRow := [(0, .aload 1, 1, 0, 0, .null),
  (1, .iload 2, 2, 0, 0, .null),
  (2, .iload 3, 3, 0, 0, .null),
  (3, .invokestatic 0, 6, 28, 372, .null),
  (6, .invokestatic 0, 9, 29, 375, .null),
  (9, .istore 4, 11, 0, 0, .null),
  (11, .iload 4, 13, 0, 0, .null),
  (13, .iconst 0, 15, 0, 0, .int (-9)),
  (15, .if_icmp .eq 0, 18, 50, 0, .null),
  (18, .aload 0, 19, 0, 0, .null),
  (19, .getfield 0, 22, 4, 0, .retAddr 160),
  (22, .getfield 0, 25, 2, 1, .int 119),
  (25, .ifCond .ne 0, 28, 50, 0, .null),
  (28, .aload 0, 29, 0, 0, .null),
  (29, .getfield 0, 32, 4, 0, .retAddr 160),
  (32, .getfield 0, 35, 2, 0, .int 116),
  (35, .iconst 0, 37, 0, 0, .int 7),
  (37, .if_icmp .ge 0, 40, 50, 0, .null),
  (40, .aload 0, 41, 0, 0, .null),
  (41, .iload 4, 43, 0, 0, .null),
  (43, .aload 1, 44, 0, 0, .null),
  (44, .iload 2, 45, 0, 0, .null),
  (45, .iload 3, 46, 0, 0, .null),
  (46, .invokevirtual 0, 49, 30, 378, .null),
  (49, .ireturn, 50, 0, 0, .null),
  (50, .aload 1, 51, 0, 0, .null),
  (51, .iload 2, 52, 0, 0, .null),
  (52, .iload 3, 53, 0, 0, .null),
  (53, .invokestatic 0, 56, 28, 372, .null),
  (56, .invokestatic 0, 59, 31, 382, .null),
  (59, .istore 5, 61, 0, 0, .null),
  (61, .aload 0, 62, 0, 0, .null),
  (62, .getfield 0, 65, 4, 0, .retAddr 160),
  (65, .iload 5, 67, 0, 0, .null),
  (67, .invokevirtual 0, 70, 33, 389, .null),
  (70, .ifCond .eq 0, 73, 95, 0, .null),
  (73, .aload 0, 74, 0, 0, .null),
  (74, .getfield 0, 77, 4, 0, .retAddr 160),
  (77, .getfield 0, 80, 2, 1, .int 119),
  (80, .iconst 0, 82, 0, 0, .int 16),
  (82, .if_icmp .ge 0, 85, 95, 0, .null),
  (85, .aload 0, 86, 0, 0, .null),
  (86, .iload 5, 88, 0, 0, .null),
  (88, .aload 1, 89, 0, 0, .null),
  (89, .iload 2, 90, 0, 0, .null),
  (90, .iload 3, 91, 0, 0, .null),
  (91, .invokevirtual 0, 94, 34, 393, .null),
  (94, .ireturn, 95, 0, 0, .null),
  (95, .iload 3, 96, 0, 0, .null),
  (96, .ireturn, 97, 0, 0, .null)]
def m_R_readItem : xM := (27, 4, 6, 4, 1, (3, 68, 0, 0), t_R_readItem, 0, fun _ => 0)
def t_R_signAt : List xRow := [(0, .iload 2, 1, 0, 0, .null),
  (1, .ifCond .lt 0, 4, 15, 0, .null),
  (4, .iload 2, 5, 0, 0, .null),
  (5, .iload 1, 6, 0, 0, .null),
  (6, .if_icmp .ge 0, 9, 15, 0, .null),
  (9, .aload 0, 10, 0, 0, .null),
  (10, .iload 2, 11, 0, 0, .null),
  (11, .iaload, 12, 0, 0, .null),
  (12, .goto 0, 15, 18, 0, .null),
  (15, .iconst 0, 18, 0, 0, .int 256),
  (18, .ireturn, 19, 0, 0, .null)]
def m_R_signAt : xM := (28, 4, 3, 3, 1, (0, 0, 0, 0), t_R_signAt, 0, fun _ => 0)
def t_R_kindOf : List xRow := [(0, .iload 0, 1, 0, 0, .null),
  (1, .lookupswitch 0 #[], 60, 72, 0, .null),
  (60, .iconst 0, 61, 0, 0, .int 0),
  (61, .ireturn, 62, 0, 0, .null),
  (62, .iconst 0, 63, 0, 0, .int 1),
  (63, .ireturn, 64, 0, 0, .null),
  (64, .iconst 0, 65, 0, 0, .int 2),
  (65, .ireturn, 66, 0, 0, .null),
  (66, .iconst 0, 67, 0, 0, .int 3),
  (67, .ireturn, 68, 0, 0, .null),
  (68, .iconst 0, 69, 0, 0, .int 4),
  (69, .ireturn, 70, 0, 0, .null),
  (70, .iconst 0, 71, 0, 0, .int 5),
  (71, .ireturn, 72, 0, 0, .null),
  (72, .iconst 0, 74, 0, 0, .int (-9)),
  (74, .ireturn, 75, 0, 0, .null)]
def m_R_kindOf : xM := (29, 4, 1, 1, 1, (0, 0, 0, 0), t_R_kindOf, 0, fun _ => 0)
def t_R_readTrack : List xRow := [(0, .aload 2, 1, 0, 0, .null),
  (1, .iload 3, 2, 0, 0, .null),
  (2, .iload 4, 4, 0, 0, .null),
  (4, .iconst 0, 5, 0, 0, .int 1),
  (5, .iadd, 6, 0, 0, .null),
  (6, .invokestatic 0, 9, 28, 372, .null),
  (9, .invokestatic 0, 12, 31, 382, .null),
  (12, .istore 5, 14, 0, 0, .null),
  (14, .iload 5, 16, 0, 0, .null),
  (16, .iconst 0, 18, 0, 0, .int (-9)),
  (18, .if_icmp .ne 0, 21, 26, 0, .null),
  (21, .iload 4, 23, 0, 0, .null),
  (23, .iconst 0, 24, 0, 0, .int 1),
  (24, .iadd, 25, 0, 0, .null),
  (25, .ireturn, 26, 0, 0, .null),
  (26, .aload 2, 27, 0, 0, .null),
  (27, .iload 3, 28, 0, 0, .null),
  (28, .iload 4, 30, 0, 0, .null),
  (30, .iconst 0, 31, 0, 0, .int 2),
  (31, .iadd, 32, 0, 0, .null),
  (32, .invokestatic 0, 35, 28, 372, .null),
  (35, .istore 6, 37, 0, 0, .null),
  (37, .iload 6, 39, 0, 0, .null),
  (39, .iconst 0, 41, 0, 0, .int 45),
  (41, .if_icmp .ne 0, 44, 49, 0, .null),
  (44, .iconst 0, 46, 0, 0, .int 10),
  (46, .goto 0, 49, 54, 0, .null),
  (49, .iload 6, 51, 0, 0, .null),
  (51, .invokestatic 0, 54, 31, 382, .null),
  (54, .istore 7, 56, 0, 0, .null),
  (56, .iload 7, 58, 0, 0, .null),
  (58, .iconst 0, 60, 0, 0, .int (-9)),
  (60, .if_icmp .ne 0, 63, 68, 0, .null),
  (63, .iload 4, 65, 0, 0, .null),
  (65, .iconst 0, 66, 0, 0, .int 2),
  (66, .iadd, 67, 0, 0, .null),
  (67, .ireturn, 68, 0, 0, .null),
  (68, .aload 0, 69, 0, 0, .null),
  (69, .getfield 0, 72, 4, 0, .retAddr 160),
  (72, .iload 1, 73, 0, 0, .null),
  (73, .iload 5, 75, 0, 0, .null),
  (75, .iload 7, 77, 0, 0, .null),
  (77, .invokevirtual 0, 80, 32, 385, .null),
  (80, .iconst 0, 82, 0, 0, .int (-9)),
  (82, .ireturn, 83, 0, 0, .null)]
def m_R_readTrack : xM := (30, 4, 8, 5, 1, (1, 23, 0, 0), t_R_readTrack, 0, fun _ => 0)
def t_R_figureOf : List xRow := [(0, .iload 0, 1, 0, 0, .null),
  (1, .iconst 0, 3, 0, 0, .int 48),
  (3, .if_icmp .lt 0, 6, 19, 0, .null),
  (6, .iload 0, 7, 0, 0, .null),
  (7, .iconst 0, 9, 0, 0, .int 57),
  (9, .if_icmp .gt 0, 12, 19, 0, .null),
  (12, .iload 0, 13, 0, 0, .null),
  (13, .iconst 0, 15, 0, 0, .int 48),
  (15, .isub, 16, 0, 0, .null),
  (16, .goto 0, 19, 21, 0, .null),
  (19, .iconst 0, 21, 0, 0, .int (-9)),
  (21, .ireturn, 22, 0, 0, .null)]
def m_R_figureOf : xM := (31, 4, 1, 1, 1, (0, 0, 0, 0), t_R_figureOf, 0, fun _ => 0)
def t_P_addTrack : List xRow := [(0, .aload 0, 1, 0, 0, .null),
  (1, .getfield 0, 4, 2, 0, .int 113),
  (4, .iconst 0, 6, 0, 0, .int 7),
  (6, .if_icmp .ge 0, 9, 49, 0, .null),
  (9, .aload 0, 10, 0, 0, .null),
  (10, .getfield 0, 13, 2, 3, .retAddr 124),
  (13, .aload 0, 14, 0, 0, .null),
  (14, .getfield 0, 17, 2, 0, .int 113),
  (17, .iload 1, 18, 0, 0, .null),
  (18, .iastore, 19, 0, 0, .null),
  (19, .aload 0, 20, 0, 0, .null),
  (20, .getfield 0, 23, 2, 4, .retAddr 125),
  (23, .aload 0, 24, 0, 0, .null),
  (24, .getfield 0, 27, 2, 0, .int 113),
  (27, .iload 2, 28, 0, 0, .null),
  (28, .iastore, 29, 0, 0, .null),
  (29, .aload 0, 30, 0, 0, .null),
  (30, .getfield 0, 33, 2, 5, .retAddr 127),
  (33, .aload 0, 34, 0, 0, .null),
  (34, .getfield 0, 37, 2, 0, .int 113),
  (37, .iload 3, 38, 0, 0, .null),
  (38, .iastore, 39, 0, 0, .null),
  (39, .aload 0, 40, 0, 0, .null),
  (40, .dup, 41, 0, 0, .null),
  (41, .getfield 0, 44, 2, 0, .int 113),
  (44, .iconst 0, 45, 0, 0, .int 1),
  (45, .iadd, 46, 0, 0, .null),
  (46, .putfield 0, 49, 2, 0, .int 113),
  (49, .return_, 50, 0, 0, .null)]
def m_P_addTrack : xM := (32, 2, 4, 4, 0, (0, 0, 0, 0), t_P_addTrack, 0, fun _ => 0)
def t_P_isTrack : List xRow := [(0, .iload 1, 1, 0, 0, .null),
  (1, .ifCond .lt 0, 4, 16, 0, .null),
  (4, .iload 1, 5, 0, 0, .null),
  (5, .aload 0, 6, 0, 0, .null),
  (6, .getfield 0, 9, 2, 0, .int 113),
  (9, .if_icmp .ge 0, 12, 16, 0, .null),
  (12, .iconst 0, 13, 0, 0, .int 1),
  (13, .goto 0, 16, 17, 0, .null),
  (16, .iconst 0, 17, 0, 0, .int 0),
  (17, .ireturn, 18, 0, 0, .null)]
def m_P_isTrack : xM := (33, 2, 2, 2, 2, (0, 0, 0, 0), t_P_isTrack, 0, fun _ => 0)
def t_R_readCrossing : List xRow := [(0, .aload 2, 1, 0, 0, .null),
  (1, .iload 3, 2, 0, 0, .null),
  (2, .iload 4, 4, 0, 0, .null),
  (4, .iconst 0, 5, 0, 0, .int 1),
  (5, .iadd, 6, 0, 0, .null),
  (6, .invokestatic 0, 9, 28, 372, .null),
  (9, .iconst 0, 11, 0, 0, .int 62),
  (11, .if_icmp .eq 0, 14, 19, 0, .null),
  (14, .iload 4, 16, 0, 0, .null),
  (16, .iconst 0, 17, 0, 0, .int 1),
  (17, .iadd, 18, 0, 0, .null),
  (18, .ireturn, 19, 0, 0, .null),
  (19, .aload 2, 20, 0, 0, .null),
  (20, .iload 3, 21, 0, 0, .null),
  (21, .iload 4, 23, 0, 0, .null),
  (23, .iconst 0, 24, 0, 0, .int 2),
  (24, .iadd, 25, 0, 0, .null),
  (25, .invokestatic 0, 28, 28, 372, .null),
  (28, .invokestatic 0, 31, 31, 382, .null),
  (31, .istore 5, 33, 0, 0, .null),
  (33, .aload 0, 34, 0, 0, .null),
  (34, .getfield 0, 37, 4, 0, .retAddr 160),
  (37, .iload 1, 38, 0, 0, .null),
  (38, .iload 5, 40, 0, 0, .null),
  (40, .invokevirtual 0, 43, 35, 397, .null),
  (43, .ifCond .ne 0, 46, 51, 0, .null),
  (46, .iload 4, 48, 0, 0, .null),
  (48, .iconst 0, 49, 0, 0, .int 2),
  (49, .iadd, 50, 0, 0, .null),
  (50, .ireturn, 51, 0, 0, .null),
  (51, .aload 0, 52, 0, 0, .null),
  (52, .getfield 0, 55, 4, 0, .retAddr 160),
  (55, .iload 1, 56, 0, 0, .null),
  (56, .iload 5, 58, 0, 0, .null),
  (58, .invokevirtual 0, 61, 36, 402, .null),
  (61, .iconst 0, 63, 0, 0, .int (-9)),
  (63, .ireturn, 64, 0, 0, .null)]
def m_R_readCrossing : xM := (34, 4, 6, 5, 1, (2, 43, 0, 0), t_R_readCrossing, 0, fun _ => 0)
def t_P_areTwo : List xRow := [(0, .aload 0, 1, 0, 0, .null),
  (1, .iload 1, 2, 0, 0, .null),
  (2, .invokevirtual 0, 5, 33, 401, .null),
  (5, .ifCond .eq 0, 8, 25, 0, .null),
  (8, .aload 0, 9, 0, 0, .null),
  (9, .iload 2, 10, 0, 0, .null),
  (10, .invokevirtual 0, 13, 33, 401, .null),
  (13, .ifCond .eq 0, 16, 25, 0, .null),
  (16, .iload 1, 17, 0, 0, .null),
  (17, .iload 2, 18, 0, 0, .null),
  (18, .if_icmp .eq 0, 21, 25, 0, .null),
  (21, .iconst 0, 22, 0, 0, .int 1),
  (22, .goto 0, 25, 26, 0, .null),
  (25, .iconst 0, 26, 0, 0, .int 0),
  (26, .ireturn, 27, 0, 0, .null)]
def m_P_areTwo : xM := (35, 2, 3, 3, 2, (1, 21, 0, 0), t_P_areTwo, 0, fun _ => 0)
def t_P_addCrossing : List xRow := [(0, .aload 0, 1, 0, 0, .null),
  (1, .getfield 0, 4, 2, 1, .int 118),
  (4, .iconst 0, 6, 0, 0, .int 16),
  (6, .if_icmp .ge 0, 9, 39, 0, .null),
  (9, .aload 0, 10, 0, 0, .null),
  (10, .getfield 0, 13, 2, 6, .retAddr 129),
  (13, .aload 0, 14, 0, 0, .null),
  (14, .getfield 0, 17, 2, 1, .int 118),
  (17, .iload 1, 18, 0, 0, .null),
  (18, .iastore, 19, 0, 0, .null),
  (19, .aload 0, 20, 0, 0, .null),
  (20, .getfield 0, 23, 2, 7, .retAddr 132),
  (23, .aload 0, 24, 0, 0, .null),
  (24, .getfield 0, 27, 2, 1, .int 118),
  (27, .iload 2, 28, 0, 0, .null),
  (28, .iastore, 29, 0, 0, .null),
  (29, .aload 0, 30, 0, 0, .null),
  (30, .dup, 31, 0, 0, .null),
  (31, .getfield 0, 34, 2, 1, .int 118),
  (34, .iconst 0, 35, 0, 0, .int 1),
  (35, .iadd, 36, 0, 0, .null),
  (36, .putfield 0, 39, 2, 1, .int 118),
  (39, .return_, 40, 0, 0, .null)]
def m_P_addCrossing : xM := (36, 2, 3, 3, 0, (0, 0, 0, 0), t_P_addCrossing, 0, fun _ => 0)
def t_S_pass : List xRow := [(0, .aload 0, 1, 0, 0, .null),
  (1, .getfield 0, 4, 6, 1, .retAddr 250),
  (4, .iload 1, 5, 0, 0, .null),
  (5, .invokevirtual 0, 8, 9, 293, .null),
  (8, .ifCond .ne 0, 11, 13, 0, .null),
  (11, .iconst 0, 12, 0, 0, .int (-1)),
  (12, .ireturn, 13, 0, 0, .null),
  (13, .aload 0, 14, 0, 0, .null),
  (14, .getfield 0, 17, 6, 1, .retAddr 250),
  (17, .iload 1, 18, 0, 0, .null),
  (18, .invokevirtual 0, 21, 14, 313, .null),
  (21, .ifCond .ne 0, 24, 30, 0, .null),
  (24, .aload 0, 25, 0, 0, .null),
  (25, .iconst 0, 26, 0, 0, .int 1),
  (26, .invokevirtual 0, 29, 10, 297, .null),
  (29, .ireturn, 30, 0, 0, .null),
  (30, .aload 0, 31, 0, 0, .null),
  (31, .getfield 0, 34, 6, 3, .retAddr 252),
  (34, .aload 0, 35, 0, 0, .null),
  (35, .getfield 0, 38, 6, 1, .retAddr 250),
  (38, .getfield 0, 41, 5, 0, .retAddr 95),
  (41, .iload 1, 42, 0, 0, .null),
  (42, .aaload, 43, 0, 0, .null),
  (43, .aload 0, 44, 0, 0, .null),
  (44, .getfield 0, 47, 6, 1, .retAddr 250),
  (47, .getfield 0, 50, 5, 1, .retAddr 97),
  (50, .iload 1, 51, 0, 0, .null),
  (51, .iaload, 52, 0, 0, .null),
  (52, .invokevirtual 0, 55, 25, 360, .null),
  (55, .iconst 0, 57, 0, 0, .int (-9)),
  (57, .if_icmp .eq 0, 60, 63, 0, .null),
  (60, .iconst 0, 62, 0, 0, .int (-4)),
  (62, .ireturn, 63, 0, 0, .null),
  (63, .aload 0, 64, 0, 0, .null),
  (64, .getfield 0, 67, 6, 3, .retAddr 252),
  (67, .getfield 0, 70, 4, 0, .retAddr 161),
  (70, .aload 0, 71, 0, 0, .null),
  (71, .getfield 0, 74, 6, 2, .retAddr 251),
  (74, .getfield 0, 77, 2, 2, .int 123),
  (77, .putfield 0, 80, 2, 2, .int 123),
  (80, .aload 0, 81, 0, 0, .null),
  (81, .getfield 0, 84, 6, 2, .retAddr 251),
  (84, .aload 0, 85, 0, 0, .null),
  (85, .getfield 0, 88, 6, 3, .retAddr 252),
  (88, .getfield 0, 91, 4, 0, .retAddr 161),
  (91, .invokevirtual 0, 94, 38, 410, .null),
  (94, .iconst 0, 95, 0, 0, .int 0),
  (95, .istore 2, 96, 0, 0, .null),
  (96, .iload 2, 97, 0, 0, .null),
  (97, .iconst 0, 98, 0, 0, .int 3),
  (98, .if_icmp .ge 0, 101, 116, 0, .null),
  (101, .aload 0, 102, 0, 0, .null),
  (102, .getfield 0, 105, 6, 4, .retAddr 253),
  (105, .iload 2, 106, 0, 0, .null),
  (106, .aaload, 107, 0, 0, .null),
  (107, .invokevirtual 0, 110, 26, 415, .null),
  (110, .iinc 2 0, 113, 0, 0, .int 1),
  (113, .goto 0, 116, 96, 0, .null),
  (116, .aload 0, 117, 0, 0, .null),
  (117, .getfield 0, 120, 6, 2, .retAddr 251),
  (120, .getfield 0, 123, 2, 0, .int 117),
  (123, .ireturn, 124, 0, 0, .null)]
def m_S_pass : xM := (37, 6, 3, 2, 1, (5, 118, 0, 0), t_S_pass, 0, fun _ => 0)
def t_P_takeFrom : List xRow := [(0, .aload 0, 1, 0, 0, .null),
  (1, .aload 1, 2, 0, 0, .null),
  (2, .getfield 0, 5, 2, 0, .int 113),
  (5, .putfield 0, 8, 2, 0, .int 113),
  (8, .aload 0, 9, 0, 0, .null),
  (9, .aload 1, 10, 0, 0, .null),
  (10, .getfield 0, 13, 2, 1, .int 118),
  (13, .putfield 0, 16, 2, 1, .int 118),
  (16, .aload 0, 17, 0, 0, .null),
  (17, .aload 1, 18, 0, 0, .null),
  (18, .getfield 0, 21, 2, 2, .int 122),
  (21, .putfield 0, 24, 2, 2, .int 122),
  (24, .aload 1, 25, 0, 0, .null),
  (25, .getfield 0, 28, 2, 3, .retAddr 124),
  (28, .iconst 0, 29, 0, 0, .int 0),
  (29, .aload 0, 30, 0, 0, .null),
  (30, .getfield 0, 33, 2, 3, .retAddr 124),
  (33, .iconst 0, 34, 0, 0, .int 0),
  (34, .iconst 0, 36, 0, 0, .int 7),
  (36, .invokeinterface 0 0, 39, 0, 414, .null),
  (39, .aload 1, 40, 0, 0, .null),
  (40, .getfield 0, 43, 2, 4, .retAddr 125),
  (43, .iconst 0, 44, 0, 0, .int 0),
  (44, .aload 0, 45, 0, 0, .null),
  (45, .getfield 0, 48, 2, 4, .retAddr 125),
  (48, .iconst 0, 49, 0, 0, .int 0),
  (49, .iconst 0, 51, 0, 0, .int 7),
  (51, .invokeinterface 0 0, 54, 0, 414, .null),
  (54, .aload 1, 55, 0, 0, .null),
  (55, .getfield 0, 58, 2, 5, .retAddr 127),
  (58, .iconst 0, 59, 0, 0, .int 0),
  (59, .aload 0, 60, 0, 0, .null),
  (60, .getfield 0, 63, 2, 5, .retAddr 127),
  (63, .iconst 0, 64, 0, 0, .int 0),
  (64, .iconst 0, 66, 0, 0, .int 7),
  (66, .invokeinterface 0 0, 69, 0, 414, .null),
  (69, .aload 1, 70, 0, 0, .null),
  (70, .getfield 0, 73, 2, 6, .retAddr 129),
  (73, .iconst 0, 74, 0, 0, .int 0),
  (74, .aload 0, 75, 0, 0, .null),
  (75, .getfield 0, 78, 2, 6, .retAddr 129),
  (78, .iconst 0, 79, 0, 0, .int 0),
  (79, .iconst 0, 81, 0, 0, .int 16),
  (81, .invokeinterface 0 0, 84, 0, 414, .null),
  (84, .aload 1, 85, 0, 0, .null),
  (85, .getfield 0, 88, 2, 7, .retAddr 132),
  (88, .iconst 0, 89, 0, 0, .int 0),
  (89, .aload 0, 90, 0, 0, .null),
  (90, .getfield 0, 93, 2, 7, .retAddr 132),
  (93, .iconst 0, 94, 0, 0, .int 0),
  (94, .iconst 0, 96, 0, 0, .int 16),
  (96, .invokeinterface 0 0, 99, 0, 414, .null),
  (99, .return_, 100, 0, 0, .null)]
def m_P_takeFrom : xM := (38, 2, 2, 2, 0, (1, 60, 0, 0), t_P_takeFrom, 0, fun _ => 0)
def t_S_track : List xRow := [(0, .aload 0, 1, 0, 0, .null),
  (1, .getfield 0, 4, 6, 2, .retAddr 251),
  (4, .iload 1, 5, 0, 0, .null),
  (5, .invokevirtual 0, 8, 33, 420, .null),
  (8, .ifCond .eq 0, 11, 20, 0, .null),
  (11, .iload 2, 12, 0, 0, .null),
  (12, .ifCond .lt 0, 15, 20, 0, .null),
  (15, .iload 2, 16, 0, 0, .null),
  (16, .iconst 0, 17, 0, 0, .int 4),
  (17, .if_icmp .le 0, 20, 22, 0, .null),
  (20, .iconst 0, 21, 0, 0, .int (-1)),
  (21, .ireturn, 22, 0, 0, .null),
  (22, .aload 0, 23, 0, 0, .null),
  (23, .aload 0, 24, 0, 0, .null),
  (24, .getfield 0, 27, 6, 2, .retAddr 251),
  (27, .iload 1, 28, 0, 0, .null),
  (28, .iload 2, 29, 0, 0, .null),
  (29, .invokevirtual 0, 32, 40, 421, .null),
  (32, .putfield 0, 35, 6, 8, .int 257),
  (35, .iconst 0, 36, 0, 0, .int 1),
  (36, .ireturn, 37, 0, 0, .null)]
def m_S_track : xM := (39, 6, 3, 3, 1, (2, 46, 0, 0), t_S_track, 0, fun _ => 0)
def t_P_ofTrack : List xRow := [(0, .iload 2, 1, 0, 0, .null),
  (1, .lookupswitch 0 #[], 32, 79, 1, .null),
  (32, .aload 0, 33, 0, 0, .null),
  (33, .getfield 0, 36, 2, 3, .retAddr 124),
  (36, .iload 1, 37, 0, 0, .null),
  (37, .iaload, 38, 0, 0, .null),
  (38, .ireturn, 39, 0, 0, .null),
  (39, .aload 0, 40, 0, 0, .null),
  (40, .getfield 0, 43, 2, 4, .retAddr 125),
  (43, .iload 1, 44, 0, 0, .null),
  (44, .iaload, 45, 0, 0, .null),
  (45, .ireturn, 46, 0, 0, .null),
  (46, .aload 0, 47, 0, 0, .null),
  (47, .getfield 0, 50, 2, 5, .retAddr 127),
  (50, .iload 1, 51, 0, 0, .null),
  (51, .iaload, 52, 0, 0, .null),
  (52, .iconst 0, 54, 0, 0, .int 10),
  (54, .if_icmp .ne 0, 57, 62, 0, .null),
  (57, .iconst 0, 59, 0, 0, .int (-9)),
  (59, .goto 0, 62, 68, 0, .null),
  (62, .aload 0, 63, 0, 0, .null),
  (63, .getfield 0, 66, 2, 5, .retAddr 127),
  (66, .iload 1, 67, 0, 0, .null),
  (67, .iaload, 68, 0, 0, .null),
  (68, .ireturn, 69, 0, 0, .null),
  (69, .aload 0, 70, 0, 0, .null),
  (70, .aload 0, 71, 0, 0, .null),
  (71, .getfield 0, 74, 2, 6, .retAddr 129),
  (74, .iload 1, 75, 0, 0, .null),
  (75, .invokevirtual 0, 78, 41, 425, .null),
  (78, .ireturn, 79, 0, 0, .null),
  (79, .aload 0, 80, 0, 0, .null),
  (80, .aload 0, 81, 0, 0, .null),
  (81, .getfield 0, 84, 2, 7, .retAddr 132),
  (84, .iload 1, 85, 0, 0, .null),
  (85, .invokevirtual 0, 88, 41, 425, .null),
  (88, .ireturn, 89, 0, 0, .null)]
def m_P_ofTrack : xM := (40, 2, 3, 3, 1, (1, 24, 0, 0), t_P_ofTrack, 0, fun _ => 0)
def t_P_timesIn : List xRow := [(0, .iconst 0, 1, 0, 0, .int 0),
  (1, .istore 3, 2, 0, 0, .null),
  (2, .iconst 0, 3, 0, 0, .int 0),
  (3, .istore 4, 5, 0, 0, .null),
  (5, .iload 4, 7, 0, 0, .null),
  (7, .aload 0, 8, 0, 0, .null),
  (8, .getfield 0, 11, 2, 1, .int 118),
  (11, .if_icmp .ge 0, 14, 31, 0, .null),
  (14, .aload 1, 15, 0, 0, .null),
  (15, .iload 4, 17, 0, 0, .null),
  (17, .iaload, 18, 0, 0, .null),
  (18, .iload 2, 19, 0, 0, .null),
  (19, .if_icmp .ne 0, 22, 25, 0, .null),
  (22, .iinc 3 0, 25, 0, 0, .int 1),
  (25, .iinc 4 0, 28, 0, 0, .int 1),
  (28, .goto 0, 31, 5, 0, .null),
  (31, .iload 3, 32, 0, 0, .null),
  (32, .ireturn, 33, 0, 0, .null)]
def m_P_timesIn : xM := (41, 2, 5, 3, 1, (0, 0, 0, 0), t_P_timesIn, 0, fun _ => 0)
def t_S_crossing : List xRow := [(0, .iload 1, 1, 0, 0, .null),
  (1, .ifCond .ge 0, 4, 6, 0, .null),
  (4, .iconst 0, 5, 0, 0, .int (-1)),
  (5, .ireturn, 6, 0, 0, .null),
  (6, .iload 1, 7, 0, 0, .null),
  (7, .aload 0, 8, 0, 0, .null),
  (8, .getfield 0, 11, 6, 2, .retAddr 251),
  (11, .getfield 0, 14, 2, 1, .int 121),
  (14, .if_icmp .lt 0, 17, 23, 0, .null),
  (17, .aload 0, 18, 0, 0, .null),
  (18, .iconst 0, 19, 0, 0, .int 2),
  (19, .invokevirtual 0, 22, 10, 297, .null),
  (22, .ireturn, 23, 0, 0, .null),
  (23, .aload 0, 24, 0, 0, .null),
  (24, .aload 0, 25, 0, 0, .null),
  (25, .getfield 0, 28, 6, 2, .retAddr 251),
  (28, .iload 1, 29, 0, 0, .null),
  (29, .invokevirtual 0, 32, 43, 433, .null),
  (32, .ifCond .eq 0, 35, 39, 0, .null),
  (35, .iconst 0, 36, 0, 0, .int 1),
  (36, .goto 0, 39, 40, 0, .null),
  (39, .iconst 0, 40, 0, 0, .int 0),
  (40, .putfield 0, 43, 6, 8, .int 257),
  (43, .aload 0, 44, 0, 0, .null),
  (44, .getfield 0, 47, 6, 2, .retAddr 251),
  (47, .iload 1, 48, 0, 0, .null),
  (48, .invokevirtual 0, 51, 46, 443, .null),
  (51, .ireturn, 52, 0, 0, .null)]
def m_S_crossing : xM := (42, 6, 2, 2, 1, (2, 44, 0, 0), t_S_crossing, 0, fun _ => 0)
def t_P_tells : List xRow := [(0, .aload 0, 1, 0, 0, .null),
  (1, .getfield 0, 4, 2, 3, .retAddr 124),
  (4, .aload 0, 5, 0, 0, .null),
  (5, .getfield 0, 8, 2, 6, .retAddr 129),
  (8, .iload 1, 9, 0, 0, .null),
  (9, .iaload, 10, 0, 0, .null),
  (10, .iaload, 11, 0, 0, .null),
  (11, .istore 2, 12, 0, 0, .null),
  (12, .aload 0, 13, 0, 0, .null),
  (13, .getfield 0, 16, 2, 3, .retAddr 124),
  (16, .aload 0, 17, 0, 0, .null),
  (17, .getfield 0, 20, 2, 7, .retAddr 132),
  (20, .iload 1, 21, 0, 0, .null),
  (21, .iaload, 22, 0, 0, .null),
  (22, .iaload, 23, 0, 0, .null),
  (23, .istore 3, 24, 0, 0, .null),
  (24, .iload 2, 25, 0, 0, .null),
  (25, .iload 3, 26, 0, 0, .null),
  (26, .invokestatic 0, 29, 44, 437, .null),
  (29, .ifCond .eq 0, 32, 44, 0, .null),
  (32, .iload 3, 33, 0, 0, .null),
  (33, .iload 2, 34, 0, 0, .null),
  (34, .invokestatic 0, 37, 45, 440, .null),
  (37, .ifCond .eq 0, 40, 44, 0, .null),
  (40, .iconst 0, 41, 0, 0, .int 1),
  (41, .goto 0, 44, 45, 0, .null),
  (44, .iconst 0, 45, 0, 0, .int 0),
  (45, .ireturn, 46, 0, 0, .null)]
def m_P_tells : xM := (43, 2, 4, 2, 2, (1, 21, 0, 0), t_P_tells, 0, fun _ => 0)
def t_P_tellsAsOver : List xRow := [(0, .iload 0, 1, 0, 0, .null),
  (1, .lookupswitch 0 #[], 36, 64, 2, .null),
  (36, .iconst 0, 37, 0, 0, .int 0),
  (37, .ireturn, 38, 0, 0, .null),
  (38, .iload 1, 39, 0, 0, .null),
  (39, .iconst 0, 40, 0, 0, .int 2),
  (40, .if_icmp .eq 0, 43, 48, 0, .null),
  (43, .iload 1, 44, 0, 0, .null),
  (44, .iconst 0, 45, 0, 0, .int 5),
  (45, .if_icmp .ne 0, 48, 52, 0, .null),
  (48, .iconst 0, 49, 0, 0, .int 1),
  (49, .goto 0, 52, 53, 0, .null),
  (52, .iconst 0, 53, 0, 0, .int 0),
  (53, .ireturn, 54, 0, 0, .null),
  (54, .iload 1, 55, 0, 0, .null),
  (55, .ifCond .ne 0, 58, 62, 0, .null),
  (58, .iconst 0, 59, 0, 0, .int 1),
  (59, .goto 0, 62, 63, 0, .null),
  (62, .iconst 0, 63, 0, 0, .int 0),
  (63, .ireturn, 64, 0, 0, .null),
  (64, .iconst 0, 65, 0, 0, .int 1),
  (65, .ireturn, 66, 0, 0, .null)]
def m_P_tellsAsOver : xM := (44, 2, 2, 2, 2, (0, 0, 0, 0), t_P_tellsAsOver, 0, fun _ => 0)
def t_P_tellsAsBeneath : List xRow := [(0, .iload 0, 1, 0, 0, .null),
  (1, .lookupswitch 0 #[], 32, 45, 3, .null),
  (32, .iconst 0, 33, 0, 0, .int 0),
  (33, .ireturn, 34, 0, 0, .null),
  (34, .iload 1, 35, 0, 0, .null),
  (35, .iconst 0, 36, 0, 0, .int 4),
  (36, .if_icmp .ne 0, 39, 43, 0, .null),
  (39, .iconst 0, 40, 0, 0, .int 1),
  (40, .goto 0, 43, 44, 0, .null),
  (43, .iconst 0, 44, 0, 0, .int 0),
  (44, .ireturn, 45, 0, 0, .null),
  (45, .iconst 0, 46, 0, 0, .int 1),
  (46, .ireturn, 47, 0, 0, .null)]
def m_P_tellsAsBeneath : xM := (45, 2, 2, 2, 2, (0, 0, 0, 0), t_P_tellsAsBeneath, 0, fun _ => 0)
def t_P_pairOf : List xRow := [(0, .iconst 0, 2, 0, 0, .int 10),
  (2, .aload 0, 3, 0, 0, .null),
  (3, .getfield 0, 6, 2, 6, .retAddr 129),
  (6, .iload 1, 7, 0, 0, .null),
  (7, .iaload, 8, 0, 0, .null),
  (8, .imul, 9, 0, 0, .null),
  (9, .aload 0, 10, 0, 0, .null),
  (10, .getfield 0, 13, 2, 7, .retAddr 132),
  (13, .iload 1, 14, 0, 0, .null),
  (14, .iaload, 15, 0, 0, .null),
  (15, .iadd, 16, 0, 0, .null),
  (16, .ireturn, 17, 0, 0, .null)]
def m_P_pairOf : xM := (46, 2, 2, 2, 1, (0, 0, 0, 0), t_P_pairOf, 0, fun _ => 0)
def t_S_mark : List xRow := [(0, .aload 0, 1, 0, 0, .null),
  (1, .getfield 0, 4, 6, 2, .retAddr 251),
  (4, .iload 1, 5, 0, 0, .null),
  (5, .invokevirtual 0, 8, 33, 420, .null),
  (8, .ifCond .eq 0, 11, 21, 0, .null),
  (11, .iload 2, 12, 0, 0, .null),
  (12, .iconst 0, 13, 0, 0, .int 1),
  (13, .if_icmp .lt 0, 16, 21, 0, .null),
  (16, .iload 2, 17, 0, 0, .null),
  (17, .iconst 0, 18, 0, 0, .int 5),
  (18, .if_icmp .le 0, 21, 23, 0, .null),
  (21, .iconst 0, 22, 0, 0, .int (-1)),
  (22, .ireturn, 23, 0, 0, .null),
  (23, .aload 0, 24, 0, 0, .null),
  (24, .getfield 0, 27, 6, 2, .retAddr 251),
  (27, .iload 1, 28, 0, 0, .null),
  (28, .iload 2, 29, 0, 0, .null),
  (29, .invokevirtual 0, 32, 48, 451, .null),
  (32, .ifCond .ne 0, 35, 41, 0, .null),
  (35, .aload 0, 36, 0, 0, .null),
  (36, .iconst 0, 37, 0, 0, .int 3),
  (37, .invokevirtual 0, 40, 10, 297, .null),
  (40, .ireturn, 41, 0, 0, .null),
  (41, .iload 2, 42, 0, 0, .null),
  (42, .lookupswitch 0 #[], 72, 125, 4, .null),
  (72, .aload 0, 73, 0, 0, .null),
  (73, .getfield 0, 76, 6, 2, .retAddr 251),
  (76, .aload 0, 77, 0, 0, .null),
  (77, .getfield 0, 80, 6, 2, .retAddr 251),
  (80, .getfield 0, 83, 2, 6, .retAddr 131),
  (83, .iload 1, 84, 0, 0, .null),
  (84, .invokevirtual 0, 87, 50, 458, .null),
  (87, .ireturn, 88, 0, 0, .null),
  (88, .aload 0, 89, 0, 0, .null),
  (89, .getfield 0, 92, 6, 2, .retAddr 251),
  (92, .aload 0, 93, 0, 0, .null),
  (93, .getfield 0, 96, 6, 2, .retAddr 251),
  (96, .getfield 0, 99, 2, 7, .retAddr 134),
  (99, .iload 1, 100, 0, 0, .null),
  (100, .invokevirtual 0, 103, 50, 458, .null),
  (103, .ireturn, 104, 0, 0, .null),
  (104, .aload 0, 105, 0, 0, .null),
  (105, .getfield 0, 108, 6, 2, .retAddr 251),
  (108, .iload 1, 109, 0, 0, .null),
  (109, .invokevirtual 0, 112, 51, 463, .null),
  (112, .invokestatic 0, 115, 53, 471, .null),
  (115, .ireturn, 116, 0, 0, .null),
  (116, .aload 0, 117, 0, 0, .null),
  (117, .getfield 0, 120, 6, 2, .retAddr 251),
  (120, .iload 1, 121, 0, 0, .null),
  (121, .invokevirtual 0, 124, 54, 477, .null),
  (124, .ireturn, 125, 0, 0, .null),
  (125, .aload 0, 126, 0, 0, .null),
  (126, .getfield 0, 129, 6, 2, .retAddr 251),
  (129, .iconst 0, 130, 0, 0, .int 2),
  (130, .invokevirtual 0, 133, 56, 485, .null),
  (133, .iconst 0, 134, 0, 0, .int 1),
  (134, .isub, 135, 0, 0, .null),
  (135, .ireturn, 136, 0, 0, .null)]
def m_S_mark : xM := (47, 6, 3, 3, 1, (3, 68, 0, 0), t_S_mark, 0, fun _ => 0)
def t_P_isOfKind : List xRow := [(0, .aload 0, 1, 0, 0, .null),
  (1, .getfield 0, 4, 2, 3, .retAddr 124),
  (4, .iload 1, 5, 0, 0, .null),
  (5, .iaload, 6, 0, 0, .null),
  (6, .iload 2, 7, 0, 0, .null),
  (7, .invokestatic 0, 10, 49, 455, .null),
  (10, .ireturn, 11, 0, 0, .null)]
def m_P_isOfKind : xM := (48, 2, 3, 3, 2, (1, 21, 0, 0), t_P_isOfKind, 0, fun _ => 0)
def t_P_isSuch : List xRow := [(0, .iload 1, 1, 0, 0, .null),
  (1, .lookupswitch 0 #[], 28, 62, 5, .null),
  (28, .iconst 0, 29, 0, 0, .int 1),
  (29, .ireturn, 30, 0, 0, .null),
  (30, .iload 0, 31, 0, 0, .null),
  (31, .iconst 0, 32, 0, 0, .int 1),
  (32, .if_icmp .eq 0, 35, 40, 0, .null),
  (35, .iload 0, 36, 0, 0, .null),
  (36, .iconst 0, 37, 0, 0, .int 4),
  (37, .if_icmp .ne 0, 40, 44, 0, .null),
  (40, .iconst 0, 41, 0, 0, .int 1),
  (41, .goto 0, 44, 45, 0, .null),
  (44, .iconst 0, 45, 0, 0, .int 0),
  (45, .ireturn, 46, 0, 0, .null),
  (46, .iload 0, 47, 0, 0, .null),
  (47, .iconst 0, 48, 0, 0, .int 2),
  (48, .if_icmp .eq 0, 51, 56, 0, .null),
  (51, .iload 0, 52, 0, 0, .null),
  (52, .iconst 0, 53, 0, 0, .int 5),
  (53, .if_icmp .ne 0, 56, 60, 0, .null),
  (56, .iconst 0, 57, 0, 0, .int 1),
  (57, .goto 0, 60, 61, 0, .null),
  (60, .iconst 0, 61, 0, 0, .int 0),
  (61, .ireturn, 62, 0, 0, .null),
  (62, .iload 0, 63, 0, 0, .null),
  (63, .iload 1, 64, 0, 0, .null),
  (64, .if_icmp .ne 0, 67, 71, 0, .null),
  (67, .iconst 0, 68, 0, 0, .int 1),
  (68, .goto 0, 71, 72, 0, .null),
  (71, .iconst 0, 72, 0, 0, .int 0),
  (72, .ireturn, 73, 0, 0, .null)]
def m_P_isSuch : xM := (49, 2, 2, 2, 2, (0, 0, 0, 0), t_P_isSuch, 0, fun _ => 0)
def t_P_silentAt : List xRow := [(0, .iconst 0, 1, 0, 0, .int 0),
  (1, .istore 3, 2, 0, 0, .null),
  (2, .iconst 0, 3, 0, 0, .int 0),
  (3, .istore 4, 5, 0, 0, .null),
  (5, .iload 4, 7, 0, 0, .null),
  (7, .aload 0, 8, 0, 0, .null),
  (8, .getfield 0, 11, 2, 1, .int 118),
  (11, .if_icmp .ge 0, 14, 40, 0, .null),
  (14, .aload 1, 15, 0, 0, .null),
  (15, .iload 4, 17, 0, 0, .null),
  (17, .iaload, 18, 0, 0, .null),
  (18, .iload 2, 19, 0, 0, .null),
  (19, .if_icmp .ne 0, 22, 34, 0, .null),
  (22, .aload 0, 23, 0, 0, .null),
  (23, .iload 4, 25, 0, 0, .null),
  (25, .invokevirtual 0, 28, 43, 462, .null),
  (28, .ifCond .ne 0, 31, 34, 0, .null),
  (31, .iinc 3 0, 34, 0, 0, .int 1),
  (34, .iinc 4 0, 37, 0, 0, .int 1),
  (37, .goto 0, 40, 5, 0, .null),
  (40, .iload 3, 41, 0, 0, .null),
  (41, .ireturn, 42, 0, 0, .null)]
def m_P_silentAt : xM := (50, 2, 5, 3, 1, (2, 44, 0, 0), t_P_silentAt, 0, fun _ => 0)
def t_P_tracksCrossed : List xRow := [(0, .aload 0, 1, 0, 0, .null),
  (1, .aload 0, 2, 0, 0, .null),
  (2, .getfield 0, 5, 2, 6, .retAddr 129),
  (5, .aload 0, 6, 0, 0, .null),
  (6, .getfield 0, 9, 2, 7, .retAddr 132),
  (9, .iload 1, 10, 0, 0, .null),
  (10, .invokevirtual 0, 13, 52, 467, .null),
  (13, .aload 0, 14, 0, 0, .null),
  (14, .aload 0, 15, 0, 0, .null),
  (15, .getfield 0, 18, 2, 7, .retAddr 132),
  (18, .aload 0, 19, 0, 0, .null),
  (19, .getfield 0, 22, 2, 6, .retAddr 129),
  (22, .iload 1, 23, 0, 0, .null),
  (23, .invokevirtual 0, 26, 52, 467, .null),
  (26, .ior, 27, 0, 0, .null),
  (27, .ireturn, 28, 0, 0, .null)]
def m_P_tracksCrossed : xM := (51, 2, 2, 2, 1, (1, 25, 0, 0), t_P_tracksCrossed, 0, fun _ => 0)
def t_P_opposite : List xRow := [(0, .iconst 0, 1, 0, 0, .int 0),
  (1, .istore 4, 3, 0, 0, .null),
  (3, .iconst 0, 4, 0, 0, .int 0),
  (4, .istore 5, 6, 0, 0, .null),
  (6, .iload 5, 8, 0, 0, .null),
  (8, .aload 0, 9, 0, 0, .null),
  (9, .getfield 0, 12, 2, 1, .int 118),
  (12, .if_icmp .ge 0, 15, 40, 0, .null),
  (15, .aload 1, 16, 0, 0, .null),
  (16, .iload 5, 18, 0, 0, .null),
  (18, .iaload, 19, 0, 0, .null),
  (19, .iload 3, 20, 0, 0, .null),
  (20, .if_icmp .ne 0, 23, 34, 0, .null),
  (23, .iload 4, 25, 0, 0, .null),
  (25, .iconst 0, 26, 0, 0, .int 1),
  (26, .aload 2, 27, 0, 0, .null),
  (27, .iload 5, 29, 0, 0, .null),
  (29, .iaload, 30, 0, 0, .null),
  (30, .ishl, 31, 0, 0, .null),
  (31, .ior, 32, 0, 0, .null),
  (32, .istore 4, 34, 0, 0, .null),
  (34, .iinc 5 0, 37, 0, 0, .int 1),
  (37, .goto 0, 40, 6, 0, .null),
  (40, .iload 4, 42, 0, 0, .null),
  (42, .ireturn, 43, 0, 0, .null)]
def m_P_opposite : xM := (52, 2, 6, 4, 1, (0, 0, 0, 0), t_P_opposite, 0, fun _ => 0)
def t_J_bitCount : List xRow := [(0, .iload 0, 1, 0, 0, .null),
  (1, .iload 0, 2, 0, 0, .null),
  (2, .iconst 0, 3, 0, 0, .int 1),
  (3, .iushr, 4, 0, 0, .null),
  (4, .iconst 0, 7, 0, 474, .int 1431655765),
  (7, .iand, 8, 0, 0, .null),
  (8, .isub, 9, 0, 0, .null),
  (9, .istore 0, 10, 0, 0, .null),
  (10, .iload 0, 11, 0, 0, .null),
  (11, .iconst 0, 14, 0, 475, .int 858993459),
  (14, .iand, 15, 0, 0, .null),
  (15, .iload 0, 16, 0, 0, .null),
  (16, .iconst 0, 17, 0, 0, .int 2),
  (17, .iushr, 18, 0, 0, .null),
  (18, .iconst 0, 21, 0, 475, .int 858993459),
  (21, .iand, 22, 0, 0, .null),
  (22, .iadd, 23, 0, 0, .null),
  (23, .istore 0, 24, 0, 0, .null),
  (24, .iload 0, 25, 0, 0, .null),
  (25, .iload 0, 26, 0, 0, .null),
  (26, .iconst 0, 27, 0, 0, .int 4),
  (27, .iushr, 28, 0, 0, .null),
  (28, .iadd, 29, 0, 0, .null),
  (29, .iconst 0, 32, 0, 476, .int 252645135),
  (32, .iand, 33, 0, 0, .null),
  (33, .istore 0, 34, 0, 0, .null),
  (34, .iload 0, 35, 0, 0, .null),
  (35, .iload 0, 36, 0, 0, .null),
  (36, .iconst 0, 38, 0, 0, .int 8),
  (38, .iushr, 39, 0, 0, .null),
  (39, .iadd, 40, 0, 0, .null),
  (40, .istore 0, 41, 0, 0, .null),
  (41, .iload 0, 42, 0, 0, .null),
  (42, .iload 0, 43, 0, 0, .null),
  (43, .iconst 0, 45, 0, 0, .int 16),
  (45, .iushr, 46, 0, 0, .null),
  (46, .iadd, 47, 0, 0, .null),
  (47, .istore 0, 48, 0, 0, .null),
  (48, .iload 0, 49, 0, 0, .null),
  (49, .iconst 0, 51, 0, 0, .int 63),
  (51, .iand, 52, 0, 0, .null),
  (52, .ireturn, 53, 0, 0, .null)]
def m_J_bitCount : xM := (53, 10, 1, 1, 1, (0, 0, 0, 0), t_J_bitCount, 0, fun _ => 0)
def t_P_haresUnder : List xRow := [(0, .aload 0, 1, 0, 0, .null),
  (1, .aload 0, 2, 0, 0, .null),
  (2, .getfield 0, 5, 2, 6, .retAddr 129),
  (5, .aload 0, 6, 0, 0, .null),
  (6, .getfield 0, 9, 2, 7, .retAddr 132),
  (9, .iload 1, 10, 0, 0, .null),
  (10, .invokevirtual 0, 13, 52, 467, .null),
  (13, .istore 2, 14, 0, 0, .null),
  (14, .iconst 0, 15, 0, 0, .int 0),
  (15, .istore 3, 16, 0, 0, .null),
  (16, .iconst 0, 17, 0, 0, .int 0),
  (17, .istore 4, 19, 0, 0, .null),
  (19, .iload 4, 21, 0, 0, .null),
  (21, .aload 0, 22, 0, 0, .null),
  (22, .getfield 0, 25, 2, 0, .int 113),
  (25, .if_icmp .ge 0, 28, 56, 0, .null),
  (28, .iload 2, 29, 0, 0, .null),
  (29, .iload 4, 31, 0, 0, .null),
  (31, .invokestatic 0, 34, 55, 481, .null),
  (34, .ifCond .eq 0, 37, 50, 0, .null),
  (37, .aload 0, 38, 0, 0, .null),
  (38, .iload 4, 40, 0, 0, .null),
  (40, .iconst 0, 41, 0, 0, .int 2),
  (41, .invokevirtual 0, 44, 48, 484, .null),
  (44, .ifCond .eq 0, 47, 50, 0, .null),
  (47, .iinc 3 0, 50, 0, 0, .int 1),
  (50, .iinc 4 0, 53, 0, 0, .int 1),
  (53, .goto 0, 56, 19, 0, .null),
  (56, .iload 3, 57, 0, 0, .null),
  (57, .ireturn, 58, 0, 0, .null)]
def m_P_haresUnder : xM := (54, 2, 5, 2, 1, (2, 43, 0, 0), t_P_haresUnder, 0, fun _ => 0)
def t_S_has : List xRow := [(0, .iload 0, 1, 0, 0, .null),
  (1, .iload 1, 2, 0, 0, .null),
  (2, .ishr, 3, 0, 0, .null),
  (3, .iconst 0, 4, 0, 0, .int 1),
  (4, .iand, 5, 0, 0, .null),
  (5, .ifCond .eq 0, 8, 12, 0, .null),
  (8, .iconst 0, 9, 0, 0, .int 1),
  (9, .goto 0, 12, 13, 0, .null),
  (12, .iconst 0, 13, 0, 0, .int 0),
  (13, .ireturn, 14, 0, 0, .null)]
def m_S_has : xM := (55, 6, 2, 2, 2, (0, 0, 0, 0), t_S_has, 0, fun _ => 0)
def t_P_ofKind : List xRow := [(0, .iconst 0, 1, 0, 0, .int 0),
  (1, .istore 2, 2, 0, 0, .null),
  (2, .iconst 0, 3, 0, 0, .int 0),
  (3, .istore 3, 4, 0, 0, .null),
  (4, .iload 3, 5, 0, 0, .null),
  (5, .aload 0, 6, 0, 0, .null),
  (6, .getfield 0, 9, 2, 0, .int 113),
  (9, .if_icmp .ge 0, 12, 30, 0, .null),
  (12, .aload 0, 13, 0, 0, .null),
  (13, .iload 3, 14, 0, 0, .null),
  (14, .iload 1, 15, 0, 0, .null),
  (15, .invokevirtual 0, 18, 48, 484, .null),
  (18, .ifCond .eq 0, 21, 24, 0, .null),
  (21, .iinc 2 0, 24, 0, 0, .int 1),
  (24, .iinc 3 0, 27, 0, 0, .int 1),
  (27, .goto 0, 30, 4, 0, .null),
  (30, .iload 2, 31, 0, 0, .null),
  (31, .ireturn, 32, 0, 0, .null)]
def m_P_ofKind : xM := (56, 2, 4, 2, 1, (2, 43, 0, 0), t_P_ofKind, 0, fun _ => 0)
def t_S_wind : List xRow := [(0, .iload 1, 1, 0, 0, .null),
  (1, .ifCond .lt 0, 4, 9, 0, .null),
  (4, .iload 1, 5, 0, 0, .null),
  (5, .iconst 0, 6, 0, 0, .int 1),
  (6, .if_icmp .le 0, 9, 11, 0, .null),
  (9, .iconst 0, 10, 0, 0, .int (-1)),
  (10, .ireturn, 11, 0, 0, .null),
  (11, .aload 0, 12, 0, 0, .null),
  (12, .getfield 0, 15, 6, 2, .retAddr 251),
  (15, .getfield 0, 18, 2, 2, .int 123),
  (18, .istore 2, 19, 0, 0, .null),
  (19, .aload 0, 20, 0, 0, .null),
  (20, .getfield 0, 23, 6, 2, .retAddr 251),
  (23, .iload 1, 24, 0, 0, .null),
  (24, .putfield 0, 27, 2, 2, .int 123),
  (27, .iload 2, 28, 0, 0, .null),
  (28, .ireturn, 29, 0, 0, .null)]
def m_S_wind : xM := (57, 6, 3, 2, 1, (0, 0, 0, 0), t_S_wind, 0, fun _ => 0)
def t_S_fill : List xRow := [(0, .aload 0, 1, 0, 0, .null),
  (1, .getfield 0, 4, 6, 2, .retAddr 251),
  (4, .iload 1, 5, 0, 0, .null),
  (5, .invokevirtual 0, 8, 33, 420, .null),
  (8, .ifCond .eq 0, 11, 21, 0, .null),
  (11, .iload 2, 12, 0, 0, .null),
  (12, .ifCond .lt 0, 15, 21, 0, .null),
  (15, .iload 2, 16, 0, 0, .null),
  (16, .iconst 0, 18, 0, 0, .int 10),
  (18, .if_icmp .le 0, 21, 23, 0, .null),
  (21, .iconst 0, 22, 0, 0, .int (-1)),
  (22, .ireturn, 23, 0, 0, .null),
  (23, .aload 0, 24, 0, 0, .null),
  (24, .getfield 0, 27, 6, 2, .retAddr 251),
  (27, .getfield 0, 30, 2, 5, .retAddr 128),
  (30, .iload 1, 31, 0, 0, .null),
  (31, .iaload, 32, 0, 0, .null),
  (32, .istore 3, 33, 0, 0, .null),
  (33, .aload 0, 34, 0, 0, .null),
  (34, .getfield 0, 37, 6, 2, .retAddr 251),
  (37, .getfield 0, 40, 2, 5, .retAddr 128),
  (40, .iload 1, 41, 0, 0, .null),
  (41, .iload 2, 42, 0, 0, .null),
  (42, .iastore, 43, 0, 0, .null),
  (43, .iload 3, 44, 0, 0, .null),
  (44, .ireturn, 45, 0, 0, .null)]
def m_S_fill : xM := (58, 6, 4, 3, 1, (1, 21, 0, 0), t_S_fill, 0, fun _ => 0)
def t_S_cross : List xRow := [(0, .aload 0, 1, 0, 0, .null),
  (1, .getfield 0, 4, 6, 2, .retAddr 251),
  (4, .iload 1, 5, 0, 0, .null),
  (5, .iload 2, 6, 0, 0, .null),
  (6, .invokevirtual 0, 9, 35, 501, .null),
  (9, .ifCond .ne 0, 12, 14, 0, .null),
  (12, .iconst 0, 13, 0, 0, .int (-1)),
  (13, .ireturn, 14, 0, 0, .null),
  (14, .aload 0, 15, 0, 0, .null),
  (15, .getfield 0, 18, 6, 2, .retAddr 251),
  (18, .getfield 0, 21, 2, 1, .int 121),
  (21, .iconst 0, 23, 0, 0, .int 16),
  (23, .if_icmp .lt 0, 26, 29, 0, .null),
  (26, .iconst 0, 28, 0, 0, .int (-2)),
  (28, .ireturn, 29, 0, 0, .null),
  (29, .aload 0, 30, 0, 0, .null),
  (30, .getfield 0, 33, 6, 2, .retAddr 251),
  (33, .iload 1, 34, 0, 0, .null),
  (34, .iload 2, 35, 0, 0, .null),
  (35, .invokevirtual 0, 38, 36, 502, .null),
  (38, .aload 0, 39, 0, 0, .null),
  (39, .getfield 0, 42, 6, 2, .retAddr 251),
  (42, .getfield 0, 45, 2, 1, .int 121),
  (45, .iconst 0, 46, 0, 0, .int 1),
  (46, .isub, 47, 0, 0, .null),
  (47, .ireturn, 48, 0, 0, .null)]
def m_S_cross : xM := (59, 6, 3, 3, 1, (2, 43, 0, 0), t_S_cross, 0, fun _ => 0)
def t_S_snow : List xRow := [(0, .iload 1, 1, 0, 0, .null),
  (1, .ifCond .lt 0, 4, 15, 0, .null),
  (4, .iload 1, 5, 0, 0, .null),
  (5, .aload 0, 6, 0, 0, .null),
  (6, .getfield 0, 9, 6, 2, .retAddr 251),
  (9, .getfield 0, 12, 2, 1, .int 121),
  (12, .if_icmp .le 0, 15, 17, 0, .null),
  (15, .iconst 0, 16, 0, 0, .int (-1)),
  (16, .ireturn, 17, 0, 0, .null),
  (17, .aload 0, 18, 0, 0, .null),
  (18, .getfield 0, 21, 6, 2, .retAddr 251),
  (21, .getfield 0, 24, 2, 1, .int 121),
  (24, .iload 1, 25, 0, 0, .null),
  (25, .isub, 26, 0, 0, .null),
  (26, .istore 2, 27, 0, 0, .null),
  (27, .aload 0, 28, 0, 0, .null),
  (28, .getfield 0, 31, 6, 2, .retAddr 251),
  (31, .iload 1, 32, 0, 0, .null),
  (32, .putfield 0, 35, 2, 1, .int 121),
  (35, .iload 2, 36, 0, 0, .null),
  (36, .ireturn, 37, 0, 0, .null)]
def m_S_snow : xM := (60, 6, 3, 2, 1, (0, 0, 0, 0), t_S_snow, 0, fun _ => 0)
def t_S_keep : List xRow := [(0, .iload 1, 1, 0, 0, .null),
  (1, .ifCond .lt 0, 4, 9, 0, .null),
  (4, .iload 1, 5, 0, 0, .null),
  (5, .iconst 0, 6, 0, 0, .int 3),
  (6, .if_icmp .lt 0, 9, 11, 0, .null),
  (9, .iconst 0, 10, 0, 0, .int (-1)),
  (10, .ireturn, 11, 0, 0, .null),
  (11, .aload 0, 12, 0, 0, .null),
  (12, .getfield 0, 15, 6, 2, .retAddr 251),
  (15, .getfield 0, 18, 2, 0, .int 117),
  (18, .ifCond .ne 0, 21, 24, 0, .null),
  (21, .iconst 0, 23, 0, 0, .int (-4)),
  (23, .ireturn, 24, 0, 0, .null),
  (24, .aload 0, 25, 0, 0, .null),
  (25, .getfield 0, 28, 6, 4, .retAddr 253),
  (28, .iload 1, 29, 0, 0, .null),
  (29, .aaload, 30, 0, 0, .null),
  (30, .aload 0, 31, 0, 0, .null),
  (31, .getfield 0, 34, 6, 2, .retAddr 251),
  (34, .invokevirtual 0, 37, 38, 410, .null),
  (37, .aload 0, 38, 0, 0, .null),
  (38, .getfield 0, 41, 6, 2, .retAddr 251),
  (41, .getfield 0, 44, 2, 1, .int 121),
  (44, .ireturn, 45, 0, 0, .null)]
def m_S_keep : xM := (61, 6, 2, 2, 1, (2, 81, 0, 0), t_S_keep, 0, fun _ => 0)
def t_S_on : List xRow := [(0, .iload 1, 1, 0, 0, .null),
  (1, .ifCond .lt 0, 4, 9, 0, .null),
  (4, .iload 1, 5, 0, 0, .null),
  (5, .iconst 0, 6, 0, 0, .int 3),
  (6, .if_icmp .lt 0, 9, 11, 0, .null),
  (9, .iconst 0, 10, 0, 0, .int (-1)),
  (10, .ireturn, 11, 0, 0, .null),
  (11, .aload 0, 12, 0, 0, .null),
  (12, .iload 1, 13, 0, 0, .null),
  (13, .invokevirtual 0, 16, 63, 515, .null),
  (16, .ifCond .ne 0, 19, 25, 0, .null),
  (19, .aload 0, 20, 0, 0, .null),
  (20, .iconst 0, 21, 0, 0, .int 1),
  (21, .invokevirtual 0, 24, 10, 297, .null),
  (24, .ireturn, 25, 0, 0, .null),
  (25, .aload 0, 26, 0, 0, .null),
  (26, .getfield 0, 29, 6, 2, .retAddr 251),
  (29, .aload 0, 30, 0, 0, .null),
  (30, .getfield 0, 33, 6, 4, .retAddr 253),
  (33, .iload 1, 34, 0, 0, .null),
  (34, .aaload, 35, 0, 0, .null),
  (35, .invokevirtual 0, 38, 38, 410, .null),
  (38, .aload 0, 39, 0, 0, .null),
  (39, .getfield 0, 42, 6, 2, .retAddr 251),
  (42, .getfield 0, 45, 2, 1, .int 121),
  (45, .ireturn, 46, 0, 0, .null)]
def m_S_on : xM := (62, 6, 2, 2, 1, (2, 81, 0, 0), t_S_on, 0, fun _ => 0)
def t_S_isKept : List xRow := [(0, .aload 0, 1, 0, 0, .null),
  (1, .getfield 0, 4, 6, 4, .retAddr 253),
  (4, .iload 1, 5, 0, 0, .null),
  (5, .aaload, 6, 0, 0, .null),
  (6, .getfield 0, 9, 2, 0, .int 117),
  (9, .ifCond .le 0, 12, 16, 0, .null),
  (12, .iconst 0, 13, 0, 0, .int 1),
  (13, .goto 0, 16, 17, 0, .null),
  (16, .iconst 0, 17, 0, 0, .int 0),
  (17, .ireturn, 18, 0, 0, .null)]
def m_S_isKept : xM := (63, 6, 2, 2, 2, (0, 0, 0, 0), t_S_isKept, 0, fun _ => 0)
def t_S_ahead : List xRow := [(0, .aload 0, 1, 0, 0, .null),
  (1, .getfield 0, 4, 6, 2, .retAddr 251),
  (4, .iload 1, 5, 0, 0, .null),
  (5, .iload 2, 6, 0, 0, .null),
  (6, .invokevirtual 0, 9, 35, 501, .null),
  (9, .ifCond .ne 0, 12, 14, 0, .null),
  (12, .iconst 0, 13, 0, 0, .int (-1)),
  (13, .ireturn, 14, 0, 0, .null),
  (14, .aload 0, 15, 0, 0, .null),
  (15, .getfield 0, 18, 6, 5, .retAddr 254),
  (18, .aload 0, 19, 0, 0, .null),
  (19, .getfield 0, 22, 6, 2, .retAddr 251),
  (22, .invokevirtual 0, 25, 65, 523, .null),
  (25, .aload 0, 26, 0, 0, .null),
  (26, .getfield 0, 29, 6, 5, .retAddr 254),
  (29, .getfield 0, 32, 1, 2, .retAddr 178),
  (32, .iload 2, 33, 0, 0, .null),
  (33, .iaload, 34, 0, 0, .null),
  (34, .iload 1, 35, 0, 0, .null),
  (35, .invokestatic 0, 38, 55, 545, .null),
  (38, .ifCond .eq 0, 41, 45, 0, .null),
  (41, .iconst 0, 42, 0, 0, .int 1),
  (42, .goto 0, 45, 46, 0, .null),
  (45, .iconst 0, 46, 0, 0, .int 0),
  (46, .ireturn, 47, 0, 0, .null)]
def m_S_ahead : xM := (64, 6, 3, 3, 1, (4, 87, 0, 0), t_S_ahead, 0, fun _ => 0)
def t_G_takeAll : List xRow := [(0, .aload 0, 1, 0, 0, .null),
  (1, .aload 1, 2, 0, 0, .null),
  (2, .getfield 0, 5, 2, 0, .int 115),
  (5, .invokevirtual 0, 8, 66, 527, .null),
  (8, .aload 0, 9, 0, 0, .null),
  (9, .aload 1, 10, 0, 0, .null),
  (10, .invokevirtual 0, 13, 67, 532, .null),
  (13, .aload 0, 14, 0, 0, .null),
  (14, .aload 1, 15, 0, 0, .null),
  (15, .invokevirtual 0, 18, 68, 537, .null),
  (18, .return_, 19, 0, 0, .null)]
def m_G_takeAll : xM := (65, 1, 2, 2, 0, (3, 66, 0, 0), t_G_takeAll, 0, fun _ => 0)
def t_G_clear : List xRow := [(0, .aload 0, 1, 0, 0, .null),
  (1, .iload 1, 2, 0, 0, .null),
  (2, .putfield 0, 5, 1, 0, .int 172),
  (5, .aload 0, 6, 0, 0, .null),
  (6, .iconst 0, 7, 0, 0, .int 1),
  (7, .iload 1, 8, 0, 0, .null),
  (8, .ishl, 9, 0, 0, .null),
  (9, .iconst 0, 10, 0, 0, .int 1),
  (10, .isub, 11, 0, 0, .null),
  (11, .putfield 0, 14, 1, 1, .int 174),
  (14, .aload 0, 15, 0, 0, .null),
  (15, .getfield 0, 18, 1, 2, .retAddr 177),
  (18, .iconst 0, 19, 0, 0, .int 0),
  (19, .invokestatic 0, 22, 2, 531, .null),
  (22, .return_, 23, 0, 0, .null)]
def m_G_clear : xM := (66, 1, 2, 2, 0, (1, 23, 0, 0), t_G_clear, 0, fun _ => 0)
def t_G_addCrossings : List xRow := [(0, .iconst 0, 1, 0, 0, .int 0),
  (1, .istore 2, 2, 0, 0, .null),
  (2, .iload 2, 3, 0, 0, .null),
  (3, .aload 1, 4, 0, 0, .null),
  (4, .getfield 0, 7, 2, 1, .int 120),
  (7, .if_icmp .ge 0, 10, 46, 0, .null),
  (10, .aload 1, 11, 0, 0, .null),
  (11, .iload 2, 12, 0, 0, .null),
  (12, .invokevirtual 0, 15, 43, 536, .null),
  (15, .ifCond .eq 0, 18, 40, 0, .null),
  (18, .aload 0, 19, 0, 0, .null),
  (19, .getfield 0, 22, 1, 2, .retAddr 177),
  (22, .aload 1, 23, 0, 0, .null),
  (23, .getfield 0, 26, 2, 6, .retAddr 130),
  (26, .iload 2, 27, 0, 0, .null),
  (27, .iaload, 28, 0, 0, .null),
  (28, .dup2, 29, 0, 0, .null),
  (29, .iaload, 30, 0, 0, .null),
  (30, .iconst 0, 31, 0, 0, .int 1),
  (31, .aload 1, 32, 0, 0, .null),
  (32, .getfield 0, 35, 2, 7, .retAddr 133),
  (35, .iload 2, 36, 0, 0, .null),
  (36, .iaload, 37, 0, 0, .null),
  (37, .ishl, 38, 0, 0, .null),
  (38, .ior, 39, 0, 0, .null),
  (39, .iastore, 40, 0, 0, .null),
  (40, .iinc 2 0, 43, 0, 0, .int 1),
  (43, .goto 0, 46, 2, 0, .null),
  (46, .return_, 47, 0, 0, .null)]
def m_G_addCrossings : xM := (67, 1, 3, 2, 0, (2, 44, 0, 0), t_G_addCrossings, 0, fun _ => 0)
def t_G_addWind : List xRow := [(0, .iconst 0, 1, 0, 0, .int 0),
  (1, .istore 2, 2, 0, 0, .null),
  (2, .iload 2, 3, 0, 0, .null),
  (3, .aload 1, 4, 0, 0, .null),
  (4, .getfield 0, 7, 2, 0, .int 115),
  (7, .if_icmp .ge 0, 10, 53, 0, .null),
  (10, .iconst 0, 11, 0, 0, .int 0),
  (11, .istore 3, 12, 0, 0, .null),
  (12, .iload 3, 13, 0, 0, .null),
  (13, .aload 1, 14, 0, 0, .null),
  (14, .getfield 0, 17, 2, 0, .int 115),
  (17, .if_icmp .ge 0, 20, 47, 0, .null),
  (20, .aload 1, 21, 0, 0, .null),
  (21, .iload 2, 22, 0, 0, .null),
  (22, .iload 3, 23, 0, 0, .null),
  (23, .invokevirtual 0, 26, 69, 541, .null),
  (26, .ifCond .eq 0, 29, 41, 0, .null),
  (29, .aload 0, 30, 0, 0, .null),
  (30, .getfield 0, 33, 1, 2, .retAddr 177),
  (33, .iload 3, 34, 0, 0, .null),
  (34, .dup2, 35, 0, 0, .null),
  (35, .iaload, 36, 0, 0, .null),
  (36, .iconst 0, 37, 0, 0, .int 1),
  (37, .iload 2, 38, 0, 0, .null),
  (38, .ishl, 39, 0, 0, .null),
  (39, .ior, 40, 0, 0, .null),
  (40, .iastore, 41, 0, 0, .null),
  (41, .iinc 3 0, 44, 0, 0, .int 1),
  (44, .goto 0, 47, 12, 0, .null),
  (47, .iinc 2 0, 50, 0, 0, .int 1),
  (50, .goto 0, 53, 2, 0, .null),
  (53, .return_, 54, 0, 0, .null)]
def m_G_addWind : xM := (68, 1, 4, 2, 0, (1, 24, 0, 0), t_G_addWind, 0, fun _ => 0)
def t_P_windTells : List xRow := [(0, .aload 0, 1, 0, 0, .null),
  (1, .getfield 0, 4, 2, 3, .retAddr 124),
  (4, .iload 1, 5, 0, 0, .null),
  (5, .iaload, 6, 0, 0, .null),
  (6, .iconst 0, 7, 0, 0, .int 3),
  (7, .if_icmp .eq 0, 10, 24, 0, .null),
  (10, .aload 0, 11, 0, 0, .null),
  (11, .getfield 0, 14, 2, 3, .retAddr 124),
  (14, .iload 2, 15, 0, 0, .null),
  (15, .iaload, 16, 0, 0, .null),
  (16, .iconst 0, 17, 0, 0, .int 3),
  (17, .if_icmp .eq 0, 20, 24, 0, .null),
  (20, .iconst 0, 21, 0, 0, .int 1),
  (21, .goto 0, 24, 25, 0, .null),
  (24, .iconst 0, 25, 0, 0, .int 0),
  (25, .istore 3, 26, 0, 0, .null),
  (26, .aload 0, 27, 0, 0, .null),
  (27, .getfield 0, 30, 2, 5, .retAddr 127),
  (30, .iload 1, 31, 0, 0, .null),
  (31, .iaload, 32, 0, 0, .null),
  (32, .iconst 0, 34, 0, 0, .int 10),
  (34, .if_icmp .eq 0, 37, 52, 0, .null),
  (37, .aload 0, 38, 0, 0, .null),
  (38, .getfield 0, 41, 2, 5, .retAddr 127),
  (41, .iload 2, 42, 0, 0, .null),
  (42, .iaload, 43, 0, 0, .null),
  (43, .iconst 0, 45, 0, 0, .int 10),
  (45, .if_icmp .eq 0, 48, 52, 0, .null),
  (48, .iconst 0, 49, 0, 0, .int 1),
  (49, .goto 0, 52, 53, 0, .null),
  (52, .iconst 0, 53, 0, 0, .int 0),
  (53, .istore 4, 55, 0, 0, .null),
  (55, .aload 0, 56, 0, 0, .null),
  (56, .getfield 0, 59, 2, 2, .int 122),
  (59, .iconst 0, 60, 0, 0, .int 1),
  (60, .if_icmp .ne 0, 63, 93, 0, .null),
  (63, .iload 3, 64, 0, 0, .null),
  (64, .ifCond .eq 0, 67, 93, 0, .null),
  (67, .iload 4, 69, 0, 0, .null),
  (69, .ifCond .eq 0, 72, 93, 0, .null),
  (72, .aload 0, 73, 0, 0, .null),
  (73, .getfield 0, 76, 2, 5, .retAddr 127),
  (76, .iload 1, 77, 0, 0, .null),
  (77, .iaload, 78, 0, 0, .null),
  (78, .aload 0, 79, 0, 0, .null),
  (79, .getfield 0, 82, 2, 5, .retAddr 127),
  (82, .iload 2, 83, 0, 0, .null),
  (83, .iaload, 84, 0, 0, .null),
  (84, .isub, 85, 0, 0, .null),
  (85, .iconst 0, 86, 0, 0, .int 2),
  (86, .if_icmp .lt 0, 89, 93, 0, .null),
  (89, .iconst 0, 90, 0, 0, .int 1),
  (90, .goto 0, 93, 94, 0, .null),
  (93, .iconst 0, 94, 0, 0, .int 0),
  (94, .ireturn, 95, 0, 0, .null)]
def m_P_windTells : xM := (69, 2, 5, 3, 2, (0, 0, 0, 0), t_P_windTells, 0, fun _ => 0)
def t_S_orders : List xRow := [(0, .aload 0, 1, 0, 0, .null),
  (1, .getfield 0, 4, 6, 5, .retAddr 254),
  (4, .aload 0, 5, 0, 0, .null),
  (5, .getfield 0, 8, 6, 2, .retAddr 251),
  (8, .invokevirtual 0, 11, 65, 523, .null),
  (11, .aload 0, 12, 0, 0, .null),
  (12, .getfield 0, 15, 6, 5, .retAddr 254),
  (15, .invokevirtual 0, 18, 71, 550, .null),
  (18, .aload 0, 19, 0, 0, .null),
  (19, .aload 0, 20, 0, 0, .null),
  (20, .getfield 0, 23, 6, 5, .retAddr 254),
  (23, .getfield 0, 26, 1, 4, .retAddr 182),
  (26, .iconst 0, 27, 0, 0, .int 0),
  (27, .iaload, 28, 0, 0, .null),
  (28, .i2l, 29, 0, 0, .null),
  (29, .iconst 0, 30, 0, 0, .long 1),
  (30, .invokevirtual 0, 33, 73, 559, .null),
  (33, .iconst 0, 34, 0, 0, .int 1),
  (34, .ireturn, 35, 0, 0, .null)]
def m_S_orders : xM := (70, 6, 1, 1, 1, (4, 87, 0, 0), t_S_orders, 0, fun _ => 0)
def t_G_countOnward : List xRow := [(0, .aload 0, 1, 0, 0, .null),
  (1, .getfield 0, 4, 1, 4, .retAddr 181),
  (4, .aload 0, 5, 0, 0, .null),
  (5, .getfield 0, 8, 1, 1, .int 174),
  (8, .iconst 0, 9, 0, 0, .int 1),
  (9, .iastore, 10, 0, 0, .null),
  (10, .aload 0, 11, 0, 0, .null),
  (11, .getfield 0, 14, 1, 1, .int 174),
  (14, .iconst 0, 15, 0, 0, .int 1),
  (15, .isub, 16, 0, 0, .null),
  (16, .istore 1, 17, 0, 0, .null),
  (17, .iload 1, 18, 0, 0, .null),
  (18, .ifCond .lt 0, 21, 74, 0, .null),
  (21, .iconst 0, 22, 0, 0, .int 0),
  (22, .istore 2, 23, 0, 0, .null),
  (23, .iconst 0, 24, 0, 0, .int 0),
  (24, .istore 3, 25, 0, 0, .null),
  (25, .iload 3, 26, 0, 0, .null),
  (26, .aload 0, 27, 0, 0, .null),
  (27, .getfield 0, 30, 1, 0, .int 172),
  (30, .if_icmp .ge 0, 33, 61, 0, .null),
  (33, .aload 0, 34, 0, 0, .null),
  (34, .iload 1, 35, 0, 0, .null),
  (35, .iload 3, 36, 0, 0, .null),
  (36, .invokevirtual 0, 39, 72, 554, .null),
  (39, .ifCond .eq 0, 42, 55, 0, .null),
  (42, .iload 2, 43, 0, 0, .null),
  (43, .aload 0, 44, 0, 0, .null),
  (44, .getfield 0, 47, 1, 4, .retAddr 181),
  (47, .iload 1, 48, 0, 0, .null),
  (48, .iconst 0, 49, 0, 0, .int 1),
  (49, .iload 3, 50, 0, 0, .null),
  (50, .ishl, 51, 0, 0, .null),
  (51, .ior, 52, 0, 0, .null),
  (52, .iaload, 53, 0, 0, .null),
  (53, .iadd, 54, 0, 0, .null),
  (54, .istore 2, 55, 0, 0, .null),
  (55, .iinc 3 0, 58, 0, 0, .int 1),
  (58, .goto 0, 61, 25, 0, .null),
  (61, .aload 0, 62, 0, 0, .null),
  (62, .getfield 0, 65, 1, 4, .retAddr 181),
  (65, .iload 1, 66, 0, 0, .null),
  (66, .iload 2, 67, 0, 0, .null),
  (67, .iastore, 68, 0, 0, .null),
  (68, .iinc 1 0, 71, 0, 0, .int (-1)),
  (71, .goto 0, 74, 17, 0, .null),
  (74, .return_, 75, 0, 0, .null)]
def m_G_countOnward : xM := (71, 1, 4, 1, 0, (2, 43, 0, 0), t_G_countOnward, 0, fun _ => 0)
def t_G_canFollow : List xRow := [(0, .iload 1, 1, 0, 0, .null),
  (1, .iload 2, 2, 0, 0, .null),
  (2, .invokestatic 0, 5, 55, 558, .null),
  (5, .ifCond .ne 0, 8, 25, 0, .null),
  (8, .aload 0, 9, 0, 0, .null),
  (9, .getfield 0, 12, 1, 2, .retAddr 177),
  (12, .iload 2, 13, 0, 0, .null),
  (13, .iaload, 14, 0, 0, .null),
  (14, .iload 1, 15, 0, 0, .null),
  (15, .iconst 0, 16, 0, 0, .int (-1)),
  (16, .ixor, 17, 0, 0, .null),
  (17, .iand, 18, 0, 0, .null),
  (18, .ifCond .ne 0, 21, 25, 0, .null),
  (21, .iconst 0, 22, 0, 0, .int 1),
  (22, .goto 0, 25, 26, 0, .null),
  (25, .iconst 0, 26, 0, 0, .int 0),
  (26, .ireturn, 27, 0, 0, .null)]
def m_G_canFollow : xM := (72, 1, 3, 3, 2, (1, 21, 0, 0), t_G_canFollow, 0, fun _ => 0)
def t_S_tellFraction : List xRow := [(0, .lload 1, 1, 0, 0, .null),
  (1, .lstore 5, 3, 0, 0, .null),
  (3, .lload 3, 4, 0, 0, .null),
  (4, .lstore 7, 6, 0, 0, .null),
  (6, .iconst 0, 7, 0, 0, .int 0),
  (7, .istore 9, 9, 0, 0, .null),
  (9, .iload 9, 11, 0, 0, .null),
  (11, .iconst 0, 13, 0, 0, .int 64),
  (13, .if_icmp .ge 0, 16, 44, 0, .null),
  (16, .lload 7, 18, 0, 0, .null),
  (18, .iconst 0, 19, 0, 0, .long 0),
  (19, .lcmp, 20, 0, 0, .null),
  (20, .ifCond .eq 0, 23, 44, 0, .null),
  (23, .lload 5, 25, 0, 0, .null),
  (25, .lload 7, 27, 0, 0, .null),
  (27, .lrem, 28, 0, 0, .null),
  (28, .lstore 10, 30, 0, 0, .null),
  (30, .lload 7, 32, 0, 0, .null),
  (32, .lstore 5, 34, 0, 0, .null),
  (34, .lload 10, 36, 0, 0, .null),
  (36, .lstore 7, 38, 0, 0, .null),
  (38, .iinc 9 0, 41, 0, 0, .int 1),
  (41, .goto 0, 44, 9, 0, .null),
  (44, .lload 5, 46, 0, 0, .null),
  (46, .iconst 0, 47, 0, 0, .long 0),
  (47, .lcmp, 48, 0, 0, .null),
  (48, .ifCond .le 0, 51, 67, 0, .null),
  (51, .aload 0, 52, 0, 0, .null),
  (52, .lload 1, 53, 0, 0, .null),
  (53, .lload 5, 55, 0, 0, .null),
  (55, .ldiv, 56, 0, 0, .null),
  (56, .putfield 0, 59, 6, 9, .long 258),
  (59, .aload 0, 60, 0, 0, .null),
  (60, .lload 3, 61, 0, 0, .null),
  (61, .lload 5, 63, 0, 0, .null),
  (63, .ldiv, 64, 0, 0, .null),
  (64, .putfield 0, 67, 6, 10, .long 259),
  (67, .return_, 68, 0, 0, .null)]
def m_S_tellFraction : xM := (73, 6, 12, 3, 0, (0, 0, 0, 0), t_S_tellFraction, 0, fun _ => 0)
def t_S_first : List xRow := [(0, .aload 0, 1, 0, 0, .null),
  (1, .getfield 0, 4, 6, 0, .retAddr 249),
  (4, .iload 1, 5, 0, 0, .null),
  (5, .invokevirtual 0, 8, 9, 293, .null),
  (8, .ifCond .ne 0, 11, 13, 0, .null),
  (11, .iconst 0, 12, 0, 0, .int (-1)),
  (12, .ireturn, 13, 0, 0, .null),
  (13, .aload 0, 14, 0, 0, .null),
  (14, .getfield 0, 17, 6, 5, .retAddr 254),
  (17, .aload 0, 18, 0, 0, .null),
  (18, .getfield 0, 21, 6, 2, .retAddr 251),
  (21, .invokevirtual 0, 24, 65, 523, .null),
  (24, .aload 0, 25, 0, 0, .null),
  (25, .getfield 0, 28, 6, 5, .retAddr 254),
  (28, .invokevirtual 0, 31, 71, 550, .null),
  (31, .aload 0, 32, 0, 0, .null),
  (32, .getfield 0, 35, 6, 5, .retAddr 254),
  (35, .getfield 0, 38, 1, 4, .retAddr 182),
  (38, .iconst 0, 39, 0, 0, .int 0),
  (39, .iaload, 40, 0, 0, .null),
  (40, .ifCond .ne 0, 43, 46, 0, .null),
  (43, .iconst 0, 45, 0, 0, .int (-9)),
  (45, .ireturn, 46, 0, 0, .null),
  (46, .aload 0, 47, 0, 0, .null),
  (47, .iconst 0, 48, 0, 0, .int 0),
  (48, .iload 1, 49, 0, 0, .null),
  (49, .invokevirtual 0, 52, 75, 567, .null),
  (52, .iconst 0, 53, 0, 0, .int 1),
  (53, .ireturn, 54, 0, 0, .null)]
def m_S_first : xM := (74, 6, 2, 2, 1, (4, 92, 0, 0), t_S_first, 0, fun _ => 0)
def t_S_layOrder : List xRow := [(0, .aload 0, 1, 0, 0, .null),
  (1, .getfield 0, 4, 6, 5, .retAddr 254),
  (4, .iload 1, 5, 0, 0, .null),
  (5, .invokevirtual 0, 8, 76, 571, .null),
  (8, .aload 0, 9, 0, 0, .null),
  (9, .getfield 0, 12, 6, 0, .retAddr 249),
  (12, .iload 2, 13, 0, 0, .null),
  (13, .aload 0, 14, 0, 0, .null),
  (14, .getfield 0, 17, 6, 2, .retAddr 251),
  (17, .getfield 0, 20, 2, 0, .int 117),
  (20, .invokevirtual 0, 23, 11, 301, .null),
  (23, .iconst 0, 24, 0, 0, .int 0),
  (24, .istore 3, 25, 0, 0, .null),
  (25, .iload 3, 26, 0, 0, .null),
  (26, .aload 0, 27, 0, 0, .null),
  (27, .getfield 0, 30, 6, 2, .retAddr 251),
  (30, .getfield 0, 33, 2, 0, .int 117),
  (33, .if_icmp .ge 0, 36, 62, 0, .null),
  (36, .aload 0, 37, 0, 0, .null),
  (37, .getfield 0, 40, 6, 0, .retAddr 249),
  (40, .getfield 0, 43, 5, 0, .retAddr 95),
  (43, .iload 2, 44, 0, 0, .null),
  (44, .aaload, 45, 0, 0, .null),
  (45, .iload 3, 46, 0, 0, .null),
  (46, .aload 0, 47, 0, 0, .null),
  (47, .getfield 0, 50, 6, 5, .retAddr 254),
  (50, .getfield 0, 53, 1, 6, .retAddr 185),
  (53, .iload 3, 54, 0, 0, .null),
  (54, .iaload, 55, 0, 0, .null),
  (55, .iastore, 56, 0, 0, .null),
  (56, .iinc 3 0, 59, 0, 0, .int 1),
  (59, .goto 0, 62, 25, 0, .null),
  (62, .return_, 63, 0, 0, .null)]
def m_S_layOrder : xM := (75, 6, 4, 3, 0, (3, 69, 0, 0), t_S_layOrder, 0, fun _ => 0)
def t_G_findOrder : List xRow := [(0, .iload 1, 1, 0, 0, .null),
  (1, .istore 2, 2, 0, 0, .null),
  (2, .iconst 0, 3, 0, 0, .int 0),
  (3, .istore 3, 4, 0, 0, .null),
  (4, .iconst 0, 5, 0, 0, .int 0),
  (5, .istore 4, 7, 0, 0, .null),
  (7, .iload 4, 9, 0, 0, .null),
  (9, .aload 0, 10, 0, 0, .null),
  (10, .getfield 0, 13, 1, 0, .int 172),
  (13, .if_icmp .ge 0, 16, 116, 0, .null),
  (16, .iconst 0, 17, 0, 0, .int (-1)),
  (17, .istore 5, 19, 0, 0, .null),
  (19, .iconst 0, 20, 0, 0, .int 0),
  (20, .istore 6, 22, 0, 0, .null),
  (22, .iload 6, 24, 0, 0, .null),
  (24, .aload 0, 25, 0, 0, .null),
  (25, .getfield 0, 28, 1, 0, .int 172),
  (28, .if_icmp .ge 0, 31, 88, 0, .null),
  (31, .iload 5, 33, 0, 0, .null),
  (33, .ifCond .ge 0, 36, 88, 0, .null),
  (36, .aload 0, 37, 0, 0, .null),
  (37, .iload 3, 38, 0, 0, .null),
  (38, .iload 6, 40, 0, 0, .null),
  (40, .invokevirtual 0, 43, 72, 554, .null),
  (43, .ifCond .eq 0, 46, 82, 0, .null),
  (46, .iload 2, 47, 0, 0, .null),
  (47, .aload 0, 48, 0, 0, .null),
  (48, .getfield 0, 51, 1, 4, .retAddr 181),
  (51, .iload 3, 52, 0, 0, .null),
  (52, .iconst 0, 53, 0, 0, .int 1),
  (53, .iload 6, 55, 0, 0, .null),
  (55, .ishl, 56, 0, 0, .null),
  (56, .ior, 57, 0, 0, .null),
  (57, .iaload, 58, 0, 0, .null),
  (58, .if_icmp .ge 0, 61, 68, 0, .null),
  (61, .iload 6, 63, 0, 0, .null),
  (63, .istore 5, 65, 0, 0, .null),
  (65, .goto 0, 68, 82, 0, .null),
  (68, .iload 2, 69, 0, 0, .null),
  (69, .aload 0, 70, 0, 0, .null),
  (70, .getfield 0, 73, 1, 4, .retAddr 181),
  (73, .iload 3, 74, 0, 0, .null),
  (74, .iconst 0, 75, 0, 0, .int 1),
  (75, .iload 6, 77, 0, 0, .null),
  (77, .ishl, 78, 0, 0, .null),
  (78, .ior, 79, 0, 0, .null),
  (79, .iaload, 80, 0, 0, .null),
  (80, .isub, 81, 0, 0, .null),
  (81, .istore 2, 82, 0, 0, .null),
  (82, .iinc 6 0, 85, 0, 0, .int 1),
  (85, .goto 0, 88, 22, 0, .null),
  (88, .iload 5, 90, 0, 0, .null),
  (90, .ifCond .ge 0, 93, 94, 0, .null),
  (93, .return_, 94, 0, 0, .null),
  (94, .aload 0, 95, 0, 0, .null),
  (95, .getfield 0, 98, 1, 6, .retAddr 184),
  (98, .iload 4, 100, 0, 0, .null),
  (100, .iload 5, 102, 0, 0, .null),
  (102, .iastore, 103, 0, 0, .null),
  (103, .iload 3, 104, 0, 0, .null),
  (104, .iconst 0, 105, 0, 0, .int 1),
  (105, .iload 5, 107, 0, 0, .null),
  (107, .ishl, 108, 0, 0, .null),
  (108, .ior, 109, 0, 0, .null),
  (109, .istore 3, 110, 0, 0, .null),
  (110, .iinc 4 0, 113, 0, 0, .int 1),
  (113, .goto 0, 116, 7, 0, .null),
  (116, .return_, 117, 0, 0, .null)]
def m_G_findOrder : xM := (76, 1, 7, 2, 0, (2, 43, 0, 0), t_G_findOrder, 0, fun _ => 0)
def t_S_nth : List xRow := [(0, .iload 1, 1, 0, 0, .null),
  (1, .ifCond .lt 0, 4, 15, 0, .null),
  (4, .aload 0, 5, 0, 0, .null),
  (5, .getfield 0, 8, 6, 0, .retAddr 249),
  (8, .iload 2, 9, 0, 0, .null),
  (9, .invokevirtual 0, 12, 9, 293, .null),
  (12, .ifCond .ne 0, 15, 17, 0, .null),
  (15, .iconst 0, 16, 0, 0, .int (-1)),
  (16, .ireturn, 17, 0, 0, .null),
  (17, .aload 0, 18, 0, 0, .null),
  (18, .getfield 0, 21, 6, 5, .retAddr 254),
  (21, .aload 0, 22, 0, 0, .null),
  (22, .getfield 0, 25, 6, 2, .retAddr 251),
  (25, .invokevirtual 0, 28, 65, 523, .null),
  (28, .aload 0, 29, 0, 0, .null),
  (29, .getfield 0, 32, 6, 5, .retAddr 254),
  (32, .invokevirtual 0, 35, 71, 550, .null),
  (35, .iload 1, 36, 0, 0, .null),
  (36, .aload 0, 37, 0, 0, .null),
  (37, .getfield 0, 40, 6, 5, .retAddr 254),
  (40, .getfield 0, 43, 1, 4, .retAddr 182),
  (43, .iconst 0, 44, 0, 0, .int 0),
  (44, .iaload, 45, 0, 0, .null),
  (45, .if_icmp .lt 0, 48, 54, 0, .null),
  (48, .aload 0, 49, 0, 0, .null),
  (49, .iconst 0, 50, 0, 0, .int 4),
  (50, .invokevirtual 0, 53, 10, 297, .null),
  (53, .ireturn, 54, 0, 0, .null),
  (54, .aload 0, 55, 0, 0, .null),
  (55, .iload 1, 56, 0, 0, .null),
  (56, .iload 2, 57, 0, 0, .null),
  (57, .invokevirtual 0, 60, 75, 567, .null),
  (60, .iconst 0, 61, 0, 0, .int 1),
  (61, .ireturn, 62, 0, 0, .null)]
def m_S_nth : xM := (77, 6, 3, 3, 1, (4, 92, 0, 0), t_S_nth, 0, fun _ => 0)
def t_S_sure : List xRow := [(0, .aload 0, 1, 0, 0, .null),
  (1, .getfield 0, 4, 6, 2, .retAddr 251),
  (4, .iload 1, 5, 0, 0, .null),
  (5, .iload 2, 6, 0, 0, .null),
  (6, .invokevirtual 0, 9, 35, 501, .null),
  (9, .ifCond .ne 0, 12, 14, 0, .null),
  (12, .iconst 0, 13, 0, 0, .int (-1)),
  (13, .ireturn, 14, 0, 0, .null),
  (14, .aload 0, 15, 0, 0, .null),
  (15, .invokevirtual 0, 18, 79, 583, .null),
  (18, .ifCond .eq 0, 21, 27, 0, .null),
  (21, .aload 0, 22, 0, 0, .null),
  (22, .iconst 0, 23, 0, 0, .int 4),
  (23, .invokevirtual 0, 26, 10, 297, .null),
  (26, .ireturn, 27, 0, 0, .null),
  (27, .aload 0, 28, 0, 0, .null),
  (28, .getfield 0, 31, 6, 5, .retAddr 254),
  (31, .getfield 0, 34, 1, 3, .retAddr 180),
  (34, .iload 1, 35, 0, 0, .null),
  (35, .iaload, 36, 0, 0, .null),
  (36, .iload 2, 37, 0, 0, .null),
  (37, .invokestatic 0, 40, 55, 545, .null),
  (40, .ifCond .eq 0, 43, 45, 0, .null),
  (43, .iconst 0, 44, 0, 0, .int 1),
  (44, .ireturn, 45, 0, 0, .null),
  (45, .aload 0, 46, 0, 0, .null),
  (46, .getfield 0, 49, 6, 5, .retAddr 254),
  (49, .getfield 0, 52, 1, 3, .retAddr 180),
  (52, .iload 2, 53, 0, 0, .null),
  (53, .iaload, 54, 0, 0, .null),
  (54, .iload 1, 55, 0, 0, .null),
  (55, .invokestatic 0, 58, 55, 545, .null),
  (58, .ifCond .eq 0, 61, 65, 0, .null),
  (61, .iconst 0, 62, 0, 0, .int 2),
  (62, .goto 0, 65, 66, 0, .null),
  (65, .iconst 0, 66, 0, 0, .int 0),
  (66, .ireturn, 67, 0, 0, .null)]
def m_S_sure : xM := (78, 6, 3, 3, 1, (5, 107, 0, 0), t_S_sure, 0, fun _ => 0)
def t_S_closesToRing : List xRow := [(0, .aload 0, 1, 0, 0, .null),
  (1, .getfield 0, 4, 6, 5, .retAddr 254),
  (4, .aload 0, 5, 0, 0, .null),
  (5, .getfield 0, 8, 6, 2, .retAddr 251),
  (8, .invokevirtual 0, 11, 65, 523, .null),
  (11, .aload 0, 12, 0, 0, .null),
  (12, .getfield 0, 15, 6, 5, .retAddr 254),
  (15, .invokevirtual 0, 18, 80, 587, .null),
  (18, .aload 0, 19, 0, 0, .null),
  (19, .getfield 0, 22, 6, 5, .retAddr 254),
  (22, .aload 0, 23, 0, 0, .null),
  (23, .getfield 0, 26, 6, 5, .retAddr 254),
  (26, .getfield 0, 29, 1, 1, .int 176),
  (29, .invokevirtual 0, 32, 81, 591, .null),
  (32, .ifCond .ge 0, 35, 39, 0, .null),
  (35, .iconst 0, 36, 0, 0, .int 1),
  (36, .goto 0, 39, 40, 0, .null),
  (39, .iconst 0, 40, 0, 0, .int 0),
  (40, .ireturn, 41, 0, 0, .null)]
def m_S_closesToRing : xM := (79, 6, 1, 1, 2, (4, 87, 0, 0), t_S_closesToRing, 0, fun _ => 0)
def t_G_close : List xRow := [(0, .aload 0, 1, 0, 0, .null),
  (1, .getfield 0, 4, 1, 3, .retAddr 179),
  (4, .iconst 0, 5, 0, 0, .int 0),
  (5, .invokestatic 0, 8, 2, 531, .null),
  (8, .iconst 0, 9, 0, 0, .int 0),
  (9, .istore 1, 10, 0, 0, .null),
  (10, .iload 1, 11, 0, 0, .null),
  (11, .aload 0, 12, 0, 0, .null),
  (12, .getfield 0, 15, 1, 0, .int 172),
  (15, .if_icmp .ge 0, 18, 65, 0, .null),
  (18, .iconst 0, 19, 0, 0, .int 0),
  (19, .istore 2, 20, 0, 0, .null),
  (20, .iload 2, 21, 0, 0, .null),
  (21, .aload 0, 22, 0, 0, .null),
  (22, .getfield 0, 25, 1, 0, .int 172),
  (25, .if_icmp .ge 0, 28, 59, 0, .null),
  (28, .aload 0, 29, 0, 0, .null),
  (29, .getfield 0, 32, 1, 2, .retAddr 177),
  (32, .iload 1, 33, 0, 0, .null),
  (33, .iaload, 34, 0, 0, .null),
  (34, .iload 2, 35, 0, 0, .null),
  (35, .invokestatic 0, 38, 55, 558, .null),
  (38, .ifCond .eq 0, 41, 53, 0, .null),
  (41, .aload 0, 42, 0, 0, .null),
  (42, .getfield 0, 45, 1, 3, .retAddr 179),
  (45, .iload 2, 46, 0, 0, .null),
  (46, .dup2, 47, 0, 0, .null),
  (47, .iaload, 48, 0, 0, .null),
  (48, .iconst 0, 49, 0, 0, .int 1),
  (49, .iload 1, 50, 0, 0, .null),
  (50, .ishl, 51, 0, 0, .null),
  (51, .ior, 52, 0, 0, .null),
  (52, .iastore, 53, 0, 0, .null),
  (53, .iinc 2 0, 56, 0, 0, .int 1),
  (56, .goto 0, 59, 20, 0, .null),
  (59, .iinc 1 0, 62, 0, 0, .int 1),
  (62, .goto 0, 65, 10, 0, .null),
  (65, .iconst 0, 66, 0, 0, .int 0),
  (66, .istore 1, 67, 0, 0, .null),
  (67, .iload 1, 68, 0, 0, .null),
  (68, .aload 0, 69, 0, 0, .null),
  (69, .getfield 0, 72, 1, 0, .int 172),
  (72, .if_icmp .ge 0, 75, 125, 0, .null),
  (75, .iconst 0, 76, 0, 0, .int 0),
  (76, .istore 2, 77, 0, 0, .null),
  (77, .iload 2, 78, 0, 0, .null),
  (78, .aload 0, 79, 0, 0, .null),
  (79, .getfield 0, 82, 1, 0, .int 172),
  (82, .if_icmp .ge 0, 85, 119, 0, .null),
  (85, .aload 0, 86, 0, 0, .null),
  (86, .getfield 0, 89, 1, 3, .retAddr 179),
  (89, .iload 2, 90, 0, 0, .null),
  (90, .iaload, 91, 0, 0, .null),
  (91, .iload 1, 92, 0, 0, .null),
  (92, .invokestatic 0, 95, 55, 558, .null),
  (95, .ifCond .eq 0, 98, 113, 0, .null),
  (98, .aload 0, 99, 0, 0, .null),
  (99, .getfield 0, 102, 1, 3, .retAddr 179),
  (102, .iload 2, 103, 0, 0, .null),
  (103, .dup2, 104, 0, 0, .null),
  (104, .iaload, 105, 0, 0, .null),
  (105, .aload 0, 106, 0, 0, .null),
  (106, .getfield 0, 109, 1, 3, .retAddr 179),
  (109, .iload 1, 110, 0, 0, .null),
  (110, .iaload, 111, 0, 0, .null),
  (111, .ior, 112, 0, 0, .null),
  (112, .iastore, 113, 0, 0, .null),
  (113, .iinc 2 0, 116, 0, 0, .int 1),
  (116, .goto 0, 119, 77, 0, .null),
  (119, .iinc 1 0, 122, 0, 0, .int 1),
  (122, .goto 0, 125, 67, 0, .null),
  (125, .return_, 126, 0, 0, .null)]
def m_G_close : xM := (80, 1, 3, 1, 0, (1, 23, 0, 0), t_G_close, 0, fun _ => 0)
def t_G_layersOf : List xRow := [(0, .iload 1, 1, 0, 0, .null),
  (1, .istore 2, 2, 0, 0, .null),
  (2, .iconst 0, 3, 0, 0, .int 0),
  (3, .istore 3, 4, 0, 0, .null),
  (4, .iload 2, 5, 0, 0, .null),
  (5, .ifCond .eq 0, 8, 30, 0, .null),
  (8, .iload 3, 9, 0, 0, .null),
  (9, .iconst 0, 11, 0, 0, .int 7),
  (11, .if_icmp .gt 0, 14, 30, 0, .null),
  (14, .iload 2, 15, 0, 0, .null),
  (15, .aload 0, 16, 0, 0, .null),
  (16, .iload 2, 17, 0, 0, .null),
  (17, .invokevirtual 0, 20, 82, 595, .null),
  (20, .iconst 0, 21, 0, 0, .int (-1)),
  (21, .ixor, 22, 0, 0, .null),
  (22, .iand, 23, 0, 0, .null),
  (23, .istore 2, 24, 0, 0, .null),
  (24, .iinc 3 0, 27, 0, 0, .int 1),
  (27, .goto 0, 30, 4, 0, .null),
  (30, .iload 2, 31, 0, 0, .null),
  (31, .ifCond .ne 0, 34, 38, 0, .null),
  (34, .iload 3, 35, 0, 0, .null),
  (35, .goto 0, 38, 39, 0, .null),
  (38, .iconst 0, 39, 0, 0, .int (-1)),
  (39, .ireturn, 40, 0, 0, .null)]
def m_G_layersOf : xM := (81, 1, 4, 2, 1, (2, 44, 0, 0), t_G_layersOf, 0, fun _ => 0)
def t_G_foremostOf : List xRow := [(0, .iconst 0, 1, 0, 0, .int 0),
  (1, .istore 2, 2, 0, 0, .null),
  (2, .iconst 0, 3, 0, 0, .int 0),
  (3, .istore 3, 4, 0, 0, .null),
  (4, .iload 3, 5, 0, 0, .null),
  (5, .aload 0, 6, 0, 0, .null),
  (6, .getfield 0, 9, 1, 0, .int 172),
  (9, .if_icmp .ge 0, 12, 43, 0, .null),
  (12, .iload 1, 13, 0, 0, .null),
  (13, .iload 3, 14, 0, 0, .null),
  (14, .invokestatic 0, 17, 55, 558, .null),
  (17, .ifCond .eq 0, 20, 37, 0, .null),
  (20, .aload 0, 21, 0, 0, .null),
  (21, .getfield 0, 24, 1, 2, .retAddr 177),
  (24, .iload 3, 25, 0, 0, .null),
  (25, .iaload, 26, 0, 0, .null),
  (26, .iload 1, 27, 0, 0, .null),
  (27, .iand, 28, 0, 0, .null),
  (28, .ifCond .ne 0, 31, 37, 0, .null),
  (31, .iload 2, 32, 0, 0, .null),
  (32, .iconst 0, 33, 0, 0, .int 1),
  (33, .iload 3, 34, 0, 0, .null),
  (34, .ishl, 35, 0, 0, .null),
  (35, .ior, 36, 0, 0, .null),
  (36, .istore 2, 37, 0, 0, .null),
  (37, .iinc 3 0, 40, 0, 0, .int 1),
  (40, .goto 0, 43, 4, 0, .null),
  (43, .iload 2, 44, 0, 0, .null),
  (44, .ireturn, 45, 0, 0, .null)]
def m_G_foremostOf : xM := (82, 1, 4, 2, 1, (1, 21, 0, 0), t_G_foremostOf, 0, fun _ => 0)
def t_S_odds : List xRow := [(0, .aload 0, 1, 0, 0, .null),
  (1, .getfield 0, 4, 6, 2, .retAddr 251),
  (4, .iload 1, 5, 0, 0, .null),
  (5, .iload 2, 6, 0, 0, .null),
  (6, .invokevirtual 0, 9, 35, 501, .null),
  (9, .ifCond .ne 0, 12, 14, 0, .null),
  (12, .iconst 0, 13, 0, 0, .int (-1)),
  (13, .ireturn, 14, 0, 0, .null),
  (14, .aload 0, 15, 0, 0, .null),
  (15, .invokevirtual 0, 18, 79, 583, .null),
  (18, .ifCond .eq 0, 21, 27, 0, .null),
  (21, .aload 0, 22, 0, 0, .null),
  (22, .iconst 0, 23, 0, 0, .int 4),
  (23, .invokevirtual 0, 26, 10, 297, .null),
  (26, .ireturn, 27, 0, 0, .null),
  (27, .aload 0, 28, 0, 0, .null),
  (28, .getfield 0, 31, 6, 5, .retAddr 254),
  (31, .invokevirtual 0, 34, 71, 550, .null),
  (34, .aload 0, 35, 0, 0, .null),
  (35, .getfield 0, 38, 6, 5, .retAddr 254),
  (38, .invokevirtual 0, 41, 84, 603, .null),
  (41, .aload 0, 42, 0, 0, .null),
  (42, .aload 0, 43, 0, 0, .null),
  (43, .getfield 0, 46, 6, 5, .retAddr 254),
  (46, .iload 1, 47, 0, 0, .null),
  (47, .iload 2, 48, 0, 0, .null),
  (48, .invokevirtual 0, 51, 85, 607, .null),
  (51, .i2l, 52, 0, 0, .null),
  (52, .aload 0, 53, 0, 0, .null),
  (53, .getfield 0, 56, 6, 5, .retAddr 254),
  (56, .getfield 0, 59, 1, 4, .retAddr 182),
  (59, .iconst 0, 60, 0, 0, .int 0),
  (60, .iaload, 61, 0, 0, .null),
  (61, .i2l, 62, 0, 0, .null),
  (62, .invokevirtual 0, 65, 73, 559, .null),
  (65, .iconst 0, 66, 0, 0, .int 1),
  (66, .ireturn, 67, 0, 0, .null)]
def m_S_odds : xM := (83, 6, 3, 3, 1, (5, 107, 0, 0), t_S_odds, 0, fun _ => 0)
def t_G_countCome : List xRow := [(0, .aload 0, 1, 0, 0, .null),
  (1, .getfield 0, 4, 1, 5, .retAddr 183),
  (4, .iconst 0, 5, 0, 0, .int 0),
  (5, .invokestatic 0, 8, 2, 531, .null),
  (8, .aload 0, 9, 0, 0, .null),
  (9, .getfield 0, 12, 1, 5, .retAddr 183),
  (12, .iconst 0, 13, 0, 0, .int 0),
  (13, .iconst 0, 14, 0, 0, .int 1),
  (14, .iastore, 15, 0, 0, .null),
  (15, .iconst 0, 16, 0, 0, .int 0),
  (16, .istore 1, 17, 0, 0, .null),
  (17, .iload 1, 18, 0, 0, .null),
  (18, .aload 0, 19, 0, 0, .null),
  (19, .getfield 0, 22, 1, 1, .int 174),
  (22, .if_icmp .ge 0, 25, 84, 0, .null),
  (25, .iconst 0, 26, 0, 0, .int 0),
  (26, .istore 2, 27, 0, 0, .null),
  (27, .iload 2, 28, 0, 0, .null),
  (28, .aload 0, 29, 0, 0, .null),
  (29, .getfield 0, 32, 1, 0, .int 172),
  (32, .if_icmp .ge 0, 35, 78, 0, .null),
  (35, .aload 0, 36, 0, 0, .null),
  (36, .getfield 0, 39, 1, 5, .retAddr 183),
  (39, .iload 1, 40, 0, 0, .null),
  (40, .iaload, 41, 0, 0, .null),
  (41, .ifCond .eq 0, 44, 72, 0, .null),
  (44, .aload 0, 45, 0, 0, .null),
  (45, .iload 1, 46, 0, 0, .null),
  (46, .iload 2, 47, 0, 0, .null),
  (47, .invokevirtual 0, 50, 72, 554, .null),
  (50, .ifCond .eq 0, 53, 72, 0, .null),
  (53, .aload 0, 54, 0, 0, .null),
  (54, .getfield 0, 57, 1, 5, .retAddr 183),
  (57, .iload 1, 58, 0, 0, .null),
  (58, .iconst 0, 59, 0, 0, .int 1),
  (59, .iload 2, 60, 0, 0, .null),
  (60, .ishl, 61, 0, 0, .null),
  (61, .ior, 62, 0, 0, .null),
  (62, .dup2, 63, 0, 0, .null),
  (63, .iaload, 64, 0, 0, .null),
  (64, .aload 0, 65, 0, 0, .null),
  (65, .getfield 0, 68, 1, 5, .retAddr 183),
  (68, .iload 1, 69, 0, 0, .null),
  (69, .iaload, 70, 0, 0, .null),
  (70, .iadd, 71, 0, 0, .null),
  (71, .iastore, 72, 0, 0, .null),
  (72, .iinc 2 0, 75, 0, 0, .int 1),
  (75, .goto 0, 78, 27, 0, .null),
  (78, .iinc 1 0, 81, 0, 0, .int 1),
  (81, .goto 0, 84, 17, 0, .null),
  (84, .return_, 85, 0, 0, .null)]
def m_G_countCome : xM := (84, 1, 3, 1, 0, (2, 43, 0, 0), t_G_countCome, 0, fun _ => 0)
def t_G_ordersWith : List xRow := [(0, .iconst 0, 1, 0, 0, .int 0),
  (1, .istore 3, 2, 0, 0, .null),
  (2, .iconst 0, 3, 0, 0, .int 0),
  (3, .istore 4, 5, 0, 0, .null),
  (5, .iload 4, 7, 0, 0, .null),
  (7, .aload 0, 8, 0, 0, .null),
  (8, .getfield 0, 11, 1, 1, .int 174),
  (11, .if_icmp .ge 0, 14, 61, 0, .null),
  (14, .iload 4, 16, 0, 0, .null),
  (16, .iload 2, 17, 0, 0, .null),
  (17, .invokestatic 0, 20, 55, 558, .null),
  (20, .ifCond .ne 0, 23, 55, 0, .null),
  (23, .aload 0, 24, 0, 0, .null),
  (24, .iload 4, 26, 0, 0, .null),
  (26, .iload 1, 27, 0, 0, .null),
  (27, .invokevirtual 0, 30, 72, 554, .null),
  (30, .ifCond .eq 0, 33, 55, 0, .null),
  (33, .iload 3, 34, 0, 0, .null),
  (34, .aload 0, 35, 0, 0, .null),
  (35, .getfield 0, 38, 1, 5, .retAddr 183),
  (38, .iload 4, 40, 0, 0, .null),
  (40, .iaload, 41, 0, 0, .null),
  (41, .aload 0, 42, 0, 0, .null),
  (42, .getfield 0, 45, 1, 4, .retAddr 181),
  (45, .iload 4, 47, 0, 0, .null),
  (47, .iconst 0, 48, 0, 0, .int 1),
  (48, .iload 1, 49, 0, 0, .null),
  (49, .ishl, 50, 0, 0, .null),
  (50, .ior, 51, 0, 0, .null),
  (51, .iaload, 52, 0, 0, .null),
  (52, .imul, 53, 0, 0, .null),
  (53, .iadd, 54, 0, 0, .null),
  (54, .istore 3, 55, 0, 0, .null),
  (55, .iinc 4 0, 58, 0, 0, .int 1),
  (58, .goto 0, 61, 5, 0, .null),
  (61, .iload 3, 62, 0, 0, .null),
  (62, .ireturn, 63, 0, 0, .null)]
def m_G_ordersWith : xM := (85, 1, 5, 3, 1, (2, 43, 0, 0), t_G_ordersWith, 0, fun _ => 0)
def t_S_place : List xRow := [(0, .aload 0, 1, 0, 0, .null),
  (1, .getfield 0, 4, 6, 2, .retAddr 251),
  (4, .iload 1, 5, 0, 0, .null),
  (5, .invokevirtual 0, 8, 33, 420, .null),
  (8, .ifCond .ne 0, 11, 13, 0, .null),
  (11, .iconst 0, 12, 0, 0, .int (-1)),
  (12, .ireturn, 13, 0, 0, .null),
  (13, .aload 0, 14, 0, 0, .null),
  (14, .invokevirtual 0, 17, 79, 583, .null),
  (17, .ifCond .eq 0, 20, 26, 0, .null),
  (20, .aload 0, 21, 0, 0, .null),
  (21, .iconst 0, 22, 0, 0, .int 4),
  (22, .invokevirtual 0, 25, 10, 297, .null),
  (25, .ireturn, 26, 0, 0, .null),
  (26, .aload 0, 27, 0, 0, .null),
  (27, .aload 0, 28, 0, 0, .null),
  (28, .getfield 0, 31, 6, 2, .retAddr 251),
  (31, .getfield 0, 34, 2, 0, .int 117),
  (34, .iconst 0, 35, 0, 0, .int 1),
  (35, .isub, 36, 0, 0, .null),
  (36, .aload 0, 37, 0, 0, .null),
  (37, .getfield 0, 40, 6, 5, .retAddr 254),
  (40, .getfield 0, 43, 1, 3, .retAddr 180),
  (43, .iload 1, 44, 0, 0, .null),
  (44, .iaload, 45, 0, 0, .null),
  (45, .invokestatic 0, 48, 53, 471, .null),
  (48, .isub, 49, 0, 0, .null),
  (49, .putfield 0, 52, 6, 8, .int 257),
  (52, .aload 0, 53, 0, 0, .null),
  (53, .getfield 0, 56, 6, 5, .retAddr 254),
  (56, .iload 1, 57, 0, 0, .null),
  (57, .invokevirtual 0, 60, 87, 615, .null),
  (60, .invokestatic 0, 63, 53, 471, .null),
  (63, .ireturn, 64, 0, 0, .null)]
def m_S_place : xM := (86, 6, 2, 2, 1, (5, 107, 0, 0), t_S_place, 0, fun _ => 0)
def t_G_surelyAheadOf : List xRow := [(0, .iconst 0, 1, 0, 0, .int 0),
  (1, .istore 2, 2, 0, 0, .null),
  (2, .iconst 0, 3, 0, 0, .int 0),
  (3, .istore 3, 4, 0, 0, .null),
  (4, .iload 3, 5, 0, 0, .null),
  (5, .aload 0, 6, 0, 0, .null),
  (6, .getfield 0, 9, 1, 0, .int 172),
  (9, .if_icmp .ge 0, 12, 37, 0, .null),
  (12, .aload 0, 13, 0, 0, .null),
  (13, .getfield 0, 16, 1, 3, .retAddr 179),
  (16, .iload 3, 17, 0, 0, .null),
  (17, .iaload, 18, 0, 0, .null),
  (18, .iload 1, 19, 0, 0, .null),
  (19, .invokestatic 0, 22, 55, 558, .null),
  (22, .ifCond .eq 0, 25, 31, 0, .null),
  (25, .iload 2, 26, 0, 0, .null),
  (26, .iconst 0, 27, 0, 0, .int 1),
  (27, .iload 3, 28, 0, 0, .null),
  (28, .ishl, 29, 0, 0, .null),
  (29, .ior, 30, 0, 0, .null),
  (30, .istore 2, 31, 0, 0, .null),
  (31, .iinc 3 0, 34, 0, 0, .int 1),
  (34, .goto 0, 37, 4, 0, .null),
  (37, .iload 2, 38, 0, 0, .null),
  (38, .ireturn, 39, 0, 0, .null)]
def m_G_surelyAheadOf : xM := (87, 1, 4, 2, 1, (1, 21, 0, 0), t_G_surelyAheadOf, 0, fun _ => 0)
def t_S_judge : List xRow := [(0, .aload 0, 1, 0, 0, .null),
  (1, .getfield 0, 4, 6, 0, .retAddr 249),
  (4, .iload 1, 5, 0, 0, .null),
  (5, .invokevirtual 0, 8, 9, 293, .null),
  (8, .ifCond .ne 0, 11, 13, 0, .null),
  (11, .iconst 0, 12, 0, 0, .int (-1)),
  (12, .ireturn, 13, 0, 0, .null),
  (13, .aload 0, 14, 0, 0, .null),
  (14, .iload 1, 15, 0, 0, .null),
  (15, .invokevirtual 0, 18, 89, 623, .null),
  (18, .istore 2, 19, 0, 0, .null),
  (19, .iload 2, 20, 0, 0, .null),
  (20, .ifCond .eq 0, 23, 29, 0, .null),
  (23, .aload 0, 24, 0, 0, .null),
  (24, .iload 2, 25, 0, 0, .null),
  (25, .invokevirtual 0, 28, 10, 297, .null),
  (28, .ireturn, 29, 0, 0, .null),
  (29, .aload 0, 30, 0, 0, .null),
  (30, .getfield 0, 33, 6, 2, .retAddr 251),
  (33, .getfield 0, 36, 2, 1, .int 121),
  (36, .istore 3, 37, 0, 0, .null),
  (37, .iconst 0, 38, 0, 0, .int 0),
  (38, .istore 4, 40, 0, 0, .null),
  (40, .aload 0, 41, 0, 0, .null),
  (41, .getfield 0, 44, 6, 2, .retAddr 251),
  (44, .getfield 0, 47, 2, 1, .int 121),
  (47, .iconst 0, 48, 0, 0, .int 1),
  (48, .isub, 49, 0, 0, .null),
  (49, .istore 5, 51, 0, 0, .null),
  (51, .iload 5, 53, 0, 0, .null),
  (53, .ifCond .lt 0, 56, 119, 0, .null),
  (56, .aload 0, 57, 0, 0, .null),
  (57, .getfield 0, 60, 6, 2, .retAddr 251),
  (60, .iload 5, 62, 0, 0, .null),
  (62, .invokevirtual 0, 65, 43, 433, .null),
  (65, .ifCond .eq 0, 68, 113, 0, .null),
  (68, .aload 0, 69, 0, 0, .null),
  (69, .getfield 0, 72, 6, 0, .retAddr 249),
  (72, .iload 1, 73, 0, 0, .null),
  (73, .aload 0, 74, 0, 0, .null),
  (74, .getfield 0, 77, 6, 2, .retAddr 251),
  (77, .getfield 0, 80, 2, 6, .retAddr 131),
  (80, .iload 5, 82, 0, 0, .null),
  (82, .iaload, 83, 0, 0, .null),
  (83, .invokevirtual 0, 86, 90, 627, .null),
  (86, .aload 0, 87, 0, 0, .null),
  (87, .getfield 0, 90, 6, 0, .retAddr 249),
  (90, .iload 1, 91, 0, 0, .null),
  (91, .aload 0, 92, 0, 0, .null),
  (92, .getfield 0, 95, 6, 2, .retAddr 251),
  (95, .getfield 0, 98, 2, 7, .retAddr 134),
  (98, .iload 5, 100, 0, 0, .null),
  (100, .iaload, 101, 0, 0, .null),
  (101, .invokevirtual 0, 104, 90, 627, .null),
  (104, .if_icmp .ge 0, 107, 113, 0, .null),
  (107, .iload 5, 109, 0, 0, .null),
  (109, .istore 3, 110, 0, 0, .null),
  (110, .iinc 4 0, 113, 0, 0, .int 1),
  (113, .iinc 5 0, 116, 0, 0, .int (-1)),
  (116, .goto 0, 119, 51, 0, .null),
  (119, .aload 0, 120, 0, 0, .null),
  (120, .iload 4, 122, 0, 0, .null),
  (122, .putfield 0, 125, 6, 8, .int 257),
  (125, .iload 3, 126, 0, 0, .null),
  (126, .ireturn, 127, 0, 0, .null)]
def m_S_judge : xM := (88, 6, 6, 2, 1, (2, 45, 0, 0), t_S_judge, 0, fun _ => 0)
def t_S_findingOfOrder : List xRow := [(0, .aload 0, 1, 0, 0, .null),
  (1, .getfield 0, 4, 6, 0, .retAddr 249),
  (4, .iload 1, 5, 0, 0, .null),
  (5, .invokevirtual 0, 8, 14, 313, .null),
  (8, .ifCond .ne 0, 11, 13, 0, .null),
  (11, .iconst 0, 12, 0, 0, .int 1),
  (12, .ireturn, 13, 0, 0, .null),
  (13, .aload 0, 14, 0, 0, .null),
  (14, .getfield 0, 17, 6, 0, .retAddr 249),
  (17, .getfield 0, 20, 5, 1, .retAddr 97),
  (20, .iload 1, 21, 0, 0, .null),
  (21, .iaload, 22, 0, 0, .null),
  (22, .aload 0, 23, 0, 0, .null),
  (23, .getfield 0, 26, 6, 2, .retAddr 251),
  (26, .getfield 0, 29, 2, 0, .int 117),
  (29, .if_icmp .eq 0, 32, 34, 0, .null),
  (32, .iconst 0, 33, 0, 0, .int 5),
  (33, .ireturn, 34, 0, 0, .null),
  (34, .iconst 0, 35, 0, 0, .int 0),
  (35, .istore 2, 36, 0, 0, .null),
  (36, .iconst 0, 37, 0, 0, .int 0),
  (37, .istore 3, 38, 0, 0, .null),
  (38, .iload 3, 39, 0, 0, .null),
  (39, .aload 0, 40, 0, 0, .null),
  (40, .getfield 0, 43, 6, 2, .retAddr 251),
  (43, .getfield 0, 46, 2, 0, .int 117),
  (46, .if_icmp .ge 0, 49, 98, 0, .null),
  (49, .aload 0, 50, 0, 0, .null),
  (50, .getfield 0, 53, 6, 0, .retAddr 249),
  (53, .getfield 0, 56, 5, 0, .retAddr 95),
  (56, .iload 1, 57, 0, 0, .null),
  (57, .aaload, 58, 0, 0, .null),
  (58, .iload 3, 59, 0, 0, .null),
  (59, .iaload, 60, 0, 0, .null),
  (60, .istore 4, 62, 0, 0, .null),
  (62, .aload 0, 63, 0, 0, .null),
  (63, .getfield 0, 66, 6, 2, .retAddr 251),
  (66, .iload 4, 68, 0, 0, .null),
  (68, .invokevirtual 0, 71, 33, 420, .null),
  (71, .ifCond .eq 0, 74, 83, 0, .null),
  (74, .iload 2, 75, 0, 0, .null),
  (75, .iload 4, 77, 0, 0, .null),
  (77, .invokestatic 0, 80, 55, 545, .null),
  (80, .ifCond .eq 0, 83, 85, 0, .null),
  (83, .iconst 0, 84, 0, 0, .int 3),
  (84, .ireturn, 85, 0, 0, .null),
  (85, .iload 2, 86, 0, 0, .null),
  (86, .iconst 0, 87, 0, 0, .int 1),
  (87, .iload 4, 89, 0, 0, .null),
  (89, .ishl, 90, 0, 0, .null),
  (90, .ior, 91, 0, 0, .null),
  (91, .istore 2, 92, 0, 0, .null),
  (92, .iinc 3 0, 95, 0, 0, .int 1),
  (95, .goto 0, 98, 38, 0, .null),
  (98, .iconst 0, 99, 0, 0, .int 0),
  (99, .ireturn, 100, 0, 0, .null)]
def m_S_findingOfOrder : xM := (89, 6, 5, 2, 1, (1, 21, 0, 0), t_S_findingOfOrder, 0, fun _ => 0)
def t_H_indexOf : List xRow := [(0, .iconst 0, 1, 0, 0, .int 0),
  (1, .istore 3, 2, 0, 0, .null),
  (2, .iload 3, 3, 0, 0, .null),
  (3, .aload 0, 4, 0, 0, .null),
  (4, .getfield 0, 7, 5, 1, .retAddr 96),
  (7, .iload 1, 8, 0, 0, .null),
  (8, .iaload, 9, 0, 0, .null),
  (9, .if_icmp .ge 0, 12, 32, 0, .null),
  (12, .aload 0, 13, 0, 0, .null),
  (13, .getfield 0, 16, 5, 0, .retAddr 94),
  (16, .iload 1, 17, 0, 0, .null),
  (17, .aaload, 18, 0, 0, .null),
  (18, .iload 3, 19, 0, 0, .null),
  (19, .iaload, 20, 0, 0, .null),
  (20, .iload 2, 21, 0, 0, .null),
  (21, .if_icmp .ne 0, 24, 26, 0, .null),
  (24, .iload 3, 25, 0, 0, .null),
  (25, .ireturn, 26, 0, 0, .null),
  (26, .iinc 3 0, 29, 0, 0, .int 1),
  (29, .goto 0, 32, 2, 0, .null),
  (32, .aload 0, 33, 0, 0, .null),
  (33, .getfield 0, 36, 5, 1, .retAddr 96),
  (36, .iload 1, 37, 0, 0, .null),
  (37, .iaload, 38, 0, 0, .null),
  (38, .ireturn, 39, 0, 0, .null)]
def m_H_indexOf : xM := (90, 5, 4, 3, 1, (0, 0, 0, 0), t_H_indexOf, 0, fun _ => 0)
def t_S_meet : List xRow := [(0, .aload 0, 1, 0, 0, .null),
  (1, .getfield 0, 4, 6, 2, .retAddr 251),
  (4, .iload 1, 5, 0, 0, .null),
  (5, .iload 2, 6, 0, 0, .null),
  (6, .invokevirtual 0, 9, 35, 501, .null),
  (9, .ifCond .ne 0, 12, 14, 0, .null),
  (12, .iconst 0, 13, 0, 0, .int (-1)),
  (13, .ireturn, 14, 0, 0, .null),
  (14, .aload 0, 15, 0, 0, .null),
  (15, .invokevirtual 0, 18, 79, 583, .null),
  (18, .ifCond .eq 0, 21, 27, 0, .null),
  (21, .aload 0, 22, 0, 0, .null),
  (22, .iconst 0, 23, 0, 0, .int 4),
  (23, .invokevirtual 0, 26, 10, 297, .null),
  (26, .ireturn, 27, 0, 0, .null),
  (27, .aload 0, 28, 0, 0, .null),
  (28, .getfield 0, 31, 6, 5, .retAddr 254),
  (31, .getfield 0, 34, 1, 3, .retAddr 180),
  (34, .iload 1, 35, 0, 0, .null),
  (35, .iaload, 36, 0, 0, .null),
  (36, .aload 0, 37, 0, 0, .null),
  (37, .getfield 0, 40, 6, 5, .retAddr 254),
  (40, .iload 2, 41, 0, 0, .null),
  (41, .invokevirtual 0, 44, 87, 615, .null),
  (44, .iand, 45, 0, 0, .null),
  (45, .aload 0, 46, 0, 0, .null),
  (46, .getfield 0, 49, 6, 5, .retAddr 254),
  (49, .getfield 0, 52, 1, 3, .retAddr 180),
  (52, .iload 2, 53, 0, 0, .null),
  (53, .iaload, 54, 0, 0, .null),
  (54, .aload 0, 55, 0, 0, .null),
  (55, .getfield 0, 58, 6, 5, .retAddr 254),
  (58, .iload 1, 59, 0, 0, .null),
  (59, .invokevirtual 0, 62, 87, 615, .null),
  (62, .iand, 63, 0, 0, .null),
  (63, .ior, 64, 0, 0, .null),
  (64, .istore 3, 65, 0, 0, .null),
  (65, .iload 3, 66, 0, 0, .null),
  (66, .ifCond .ne 0, 69, 73, 0, .null),
  (69, .iconst 0, 70, 0, 0, .int 1),
  (70, .goto 0, 73, 74, 0, .null),
  (73, .iconst 0, 74, 0, 0, .int 0),
  (74, .ireturn, 75, 0, 0, .null)]
def m_S_meet : xM := (91, 6, 4, 3, 1, (5, 107, 0, 0), t_S_meet, 0, fun _ => 0)
def t_S_chain : List xRow := [(0, .aload 0, 1, 0, 0, .null),
  (1, .getfield 0, 4, 6, 2, .retAddr 251),
  (4, .iload 1, 5, 0, 0, .null),
  (5, .invokevirtual 0, 8, 33, 420, .null),
  (8, .ifCond .ne 0, 11, 13, 0, .null),
  (11, .iconst 0, 12, 0, 0, .int (-1)),
  (12, .ireturn, 13, 0, 0, .null),
  (13, .aload 0, 14, 0, 0, .null),
  (14, .invokevirtual 0, 17, 79, 583, .null),
  (17, .ifCond .eq 0, 20, 26, 0, .null),
  (20, .aload 0, 21, 0, 0, .null),
  (21, .iconst 0, 22, 0, 0, .int 4),
  (22, .invokevirtual 0, 25, 10, 297, .null),
  (25, .ireturn, 26, 0, 0, .null),
  (26, .aload 0, 27, 0, 0, .null),
  (27, .aload 0, 28, 0, 0, .null),
  (28, .getfield 0, 31, 6, 5, .retAddr 254),
  (31, .aload 0, 32, 0, 0, .null),
  (32, .getfield 0, 35, 6, 5, .retAddr 254),
  (35, .getfield 0, 38, 1, 3, .retAddr 180),
  (38, .iload 1, 39, 0, 0, .null),
  (39, .iaload, 40, 0, 0, .null),
  (40, .iconst 0, 41, 0, 0, .int 1),
  (41, .iload 1, 42, 0, 0, .null),
  (42, .ishl, 43, 0, 0, .null),
  (43, .ior, 44, 0, 0, .null),
  (44, .invokevirtual 0, 47, 81, 591, .null),
  (47, .putfield 0, 50, 6, 8, .int 257),
  (50, .aload 0, 51, 0, 0, .null),
  (51, .getfield 0, 54, 6, 5, .retAddr 254),
  (54, .aload 0, 55, 0, 0, .null),
  (55, .getfield 0, 58, 6, 5, .retAddr 254),
  (58, .iload 1, 59, 0, 0, .null),
  (59, .invokevirtual 0, 62, 87, 615, .null),
  (62, .iconst 0, 63, 0, 0, .int 1),
  (63, .iload 1, 64, 0, 0, .null),
  (64, .ishl, 65, 0, 0, .null),
  (65, .ior, 66, 0, 0, .null),
  (66, .invokevirtual 0, 69, 81, 591, .null),
  (69, .ireturn, 70, 0, 0, .null)]
def m_S_chain : xM := (92, 6, 2, 2, 1, (5, 107, 0, 0), t_S_chain, 0, fun _ => 0)
def t_S_ring : List xRow := [(0, .aload 0, 1, 0, 0, .null),
  (1, .getfield 0, 4, 6, 0, .retAddr 249),
  (4, .iload 1, 5, 0, 0, .null),
  (5, .invokevirtual 0, 8, 9, 293, .null),
  (8, .ifCond .ne 0, 11, 13, 0, .null),
  (11, .iconst 0, 12, 0, 0, .int (-1)),
  (12, .ireturn, 13, 0, 0, .null),
  (13, .aload 0, 14, 0, 0, .null),
  (14, .getfield 0, 17, 6, 5, .retAddr 254),
  (17, .aload 0, 18, 0, 0, .null),
  (18, .getfield 0, 21, 6, 2, .retAddr 251),
  (21, .invokevirtual 0, 24, 65, 523, .null),
  (24, .aload 0, 25, 0, 0, .null),
  (25, .getfield 0, 28, 6, 5, .retAddr 254),
  (28, .invokevirtual 0, 31, 94, 643, .null),
  (31, .istore 2, 32, 0, 0, .null),
  (32, .iload 2, 33, 0, 0, .null),
  (33, .ifCond .ne 0, 36, 39, 0, .null),
  (36, .iconst 0, 38, 0, 0, .int (-9)),
  (38, .ireturn, 39, 0, 0, .null),
  (39, .aload 0, 40, 0, 0, .null),
  (40, .getfield 0, 43, 6, 0, .retAddr 249),
  (43, .iload 1, 44, 0, 0, .null),
  (44, .iload 2, 45, 0, 0, .null),
  (45, .invokevirtual 0, 48, 11, 301, .null),
  (48, .iconst 0, 49, 0, 0, .int 0),
  (49, .istore 3, 50, 0, 0, .null),
  (50, .iload 3, 51, 0, 0, .null),
  (51, .iload 2, 52, 0, 0, .null),
  (52, .if_icmp .ge 0, 55, 81, 0, .null),
  (55, .aload 0, 56, 0, 0, .null),
  (56, .getfield 0, 59, 6, 0, .retAddr 249),
  (59, .getfield 0, 62, 5, 0, .retAddr 95),
  (62, .iload 1, 63, 0, 0, .null),
  (63, .aaload, 64, 0, 0, .null),
  (64, .iload 3, 65, 0, 0, .null),
  (65, .aload 0, 66, 0, 0, .null),
  (66, .getfield 0, 69, 6, 5, .retAddr 254),
  (69, .getfield 0, 72, 1, 7, .retAddr 187),
  (72, .iload 3, 73, 0, 0, .null),
  (73, .iaload, 74, 0, 0, .null),
  (74, .iastore, 75, 0, 0, .null),
  (75, .iinc 3 0, 78, 0, 0, .int 1),
  (78, .goto 0, 81, 50, 0, .null),
  (81, .iload 2, 82, 0, 0, .null),
  (82, .ireturn, 83, 0, 0, .null)]
def m_S_ring : xM := (93, 6, 4, 2, 1, (4, 87, 0, 0), t_S_ring, 0, fun _ => 0)
def t_G_findRing : List xRow := [(0, .iconst 0, 1, 0, 0, .int 2),
  (1, .istore 1, 2, 0, 0, .null),
  (2, .iload 1, 3, 0, 0, .null),
  (3, .aload 0, 4, 0, 0, .null),
  (4, .getfield 0, 7, 1, 0, .int 172),
  (7, .if_icmp .gt 0, 10, 49, 0, .null),
  (10, .iconst 0, 11, 0, 0, .int 0),
  (11, .istore 2, 12, 0, 0, .null),
  (12, .iload 2, 13, 0, 0, .null),
  (13, .aload 0, 14, 0, 0, .null),
  (14, .getfield 0, 17, 1, 0, .int 172),
  (17, .if_icmp .ge 0, 20, 43, 0, .null),
  (20, .aload 0, 21, 0, 0, .null),
  (21, .iload 2, 22, 0, 0, .null),
  (22, .iload 1, 23, 0, 0, .null),
  (23, .invokevirtual 0, 26, 95, 647, .null),
  (26, .aload 0, 27, 0, 0, .null),
  (27, .iload 2, 28, 0, 0, .null),
  (28, .iload 1, 29, 0, 0, .null),
  (29, .invokevirtual 0, 32, 96, 651, .null),
  (32, .ifCond .eq 0, 35, 37, 0, .null),
  (35, .iload 1, 36, 0, 0, .null),
  (36, .ireturn, 37, 0, 0, .null),
  (37, .iinc 2 0, 40, 0, 0, .int 1),
  (40, .goto 0, 43, 12, 0, .null),
  (43, .iinc 1 0, 46, 0, 0, .int 1),
  (46, .goto 0, 49, 2, 0, .null),
  (49, .iconst 0, 50, 0, 0, .int 0),
  (50, .ireturn, 51, 0, 0, .null)]
def m_G_findRing : xM := (94, 1, 3, 1, 1, (2, 47, 0, 0), t_G_findRing, 0, fun _ => 0)
def t_G_stepBack : List xRow := [(0, .aload 0, 1, 0, 0, .null),
  (1, .getfield 0, 4, 1, 1, .int 174),
  (4, .iconst 0, 5, 0, 0, .int 2),
  (5, .iload 1, 6, 0, 0, .null),
  (6, .ishl, 7, 0, 0, .null),
  (7, .iconst 0, 8, 0, 0, .int 1),
  (8, .isub, 9, 0, 0, .null),
  (9, .iconst 0, 10, 0, 0, .int (-1)),
  (10, .ixor, 11, 0, 0, .null),
  (11, .iand, 12, 0, 0, .null),
  (12, .istore 3, 13, 0, 0, .null),
  (13, .aload 0, 14, 0, 0, .null),
  (14, .getfield 0, 17, 1, 8, .retAddr 188),
  (17, .iconst 0, 18, 0, 0, .int 0),
  (18, .iconst 0, 19, 0, 0, .int 1),
  (19, .iload 1, 20, 0, 0, .null),
  (20, .ishl, 21, 0, 0, .null),
  (21, .iastore, 22, 0, 0, .null),
  (22, .iconst 0, 23, 0, 0, .int 1),
  (23, .istore 4, 25, 0, 0, .null),
  (25, .iload 4, 27, 0, 0, .null),
  (27, .iload 2, 28, 0, 0, .null),
  (28, .if_icmp .ge 0, 31, 98, 0, .null),
  (31, .iconst 0, 32, 0, 0, .int 0),
  (32, .istore 5, 34, 0, 0, .null),
  (34, .iconst 0, 35, 0, 0, .int 0),
  (35, .istore 6, 37, 0, 0, .null),
  (37, .iload 6, 39, 0, 0, .null),
  (39, .aload 0, 40, 0, 0, .null),
  (40, .getfield 0, 43, 1, 0, .int 172),
  (43, .if_icmp .ge 0, 46, 81, 0, .null),
  (46, .aload 0, 47, 0, 0, .null),
  (47, .getfield 0, 50, 1, 8, .retAddr 188),
  (50, .iload 4, 52, 0, 0, .null),
  (52, .iconst 0, 53, 0, 0, .int 1),
  (53, .isub, 54, 0, 0, .null),
  (54, .iaload, 55, 0, 0, .null),
  (55, .iload 6, 57, 0, 0, .null),
  (57, .invokestatic 0, 60, 55, 558, .null),
  (60, .ifCond .eq 0, 63, 75, 0, .null),
  (63, .iload 5, 65, 0, 0, .null),
  (65, .aload 0, 66, 0, 0, .null),
  (66, .getfield 0, 69, 1, 2, .retAddr 177),
  (69, .iload 6, 71, 0, 0, .null),
  (71, .iaload, 72, 0, 0, .null),
  (72, .ior, 73, 0, 0, .null),
  (73, .istore 5, 75, 0, 0, .null),
  (75, .iinc 6 0, 78, 0, 0, .int 1),
  (78, .goto 0, 81, 37, 0, .null),
  (81, .aload 0, 82, 0, 0, .null),
  (82, .getfield 0, 85, 1, 8, .retAddr 188),
  (85, .iload 4, 87, 0, 0, .null),
  (87, .iload 5, 89, 0, 0, .null),
  (89, .iload 3, 90, 0, 0, .null),
  (90, .iand, 91, 0, 0, .null),
  (91, .iastore, 92, 0, 0, .null),
  (92, .iinc 4 0, 95, 0, 0, .int 1),
  (95, .goto 0, 98, 25, 0, .null),
  (98, .return_, 99, 0, 0, .null)]
def m_G_stepBack : xM := (95, 1, 7, 3, 0, (1, 21, 0, 0), t_G_stepBack, 0, fun _ => 0)
def t_G_followRing : List xRow := [(0, .aload 0, 1, 0, 0, .null),
  (1, .getfield 0, 4, 1, 7, .retAddr 186),
  (4, .iconst 0, 5, 0, 0, .int 0),
  (5, .iload 1, 6, 0, 0, .null),
  (6, .iastore, 7, 0, 0, .null),
  (7, .iconst 0, 8, 0, 0, .int 1),
  (8, .istore 3, 9, 0, 0, .null),
  (9, .iload 3, 10, 0, 0, .null),
  (10, .iload 2, 11, 0, 0, .null),
  (11, .if_icmp .ge 0, 14, 102, 0, .null),
  (14, .iconst 0, 15, 0, 0, .int (-1)),
  (15, .istore 4, 17, 0, 0, .null),
  (17, .iconst 0, 18, 0, 0, .int 0),
  (18, .istore 5, 20, 0, 0, .null),
  (20, .iload 5, 22, 0, 0, .null),
  (22, .aload 0, 23, 0, 0, .null),
  (23, .getfield 0, 26, 1, 0, .int 172),
  (26, .if_icmp .ge 0, 29, 81, 0, .null),
  (29, .iload 4, 31, 0, 0, .null),
  (31, .ifCond .ge 0, 34, 81, 0, .null),
  (34, .aload 0, 35, 0, 0, .null),
  (35, .getfield 0, 38, 1, 8, .retAddr 188),
  (38, .iload 2, 39, 0, 0, .null),
  (39, .iload 3, 40, 0, 0, .null),
  (40, .isub, 41, 0, 0, .null),
  (41, .iaload, 42, 0, 0, .null),
  (42, .iload 5, 44, 0, 0, .null),
  (44, .invokestatic 0, 47, 55, 558, .null),
  (47, .ifCond .eq 0, 50, 75, 0, .null),
  (50, .aload 0, 51, 0, 0, .null),
  (51, .getfield 0, 54, 1, 2, .retAddr 177),
  (54, .iload 5, 56, 0, 0, .null),
  (56, .iaload, 57, 0, 0, .null),
  (57, .aload 0, 58, 0, 0, .null),
  (58, .getfield 0, 61, 1, 7, .retAddr 186),
  (61, .iload 3, 62, 0, 0, .null),
  (62, .iconst 0, 63, 0, 0, .int 1),
  (63, .isub, 64, 0, 0, .null),
  (64, .iaload, 65, 0, 0, .null),
  (65, .invokestatic 0, 68, 55, 558, .null),
  (68, .ifCond .eq 0, 71, 75, 0, .null),
  (71, .iload 5, 73, 0, 0, .null),
  (73, .istore 4, 75, 0, 0, .null),
  (75, .iinc 5 0, 78, 0, 0, .int 1),
  (78, .goto 0, 81, 20, 0, .null),
  (81, .iload 4, 83, 0, 0, .null),
  (83, .ifCond .ge 0, 86, 88, 0, .null),
  (86, .iconst 0, 87, 0, 0, .int 0),
  (87, .ireturn, 88, 0, 0, .null),
  (88, .aload 0, 89, 0, 0, .null),
  (89, .getfield 0, 92, 1, 7, .retAddr 186),
  (92, .iload 3, 93, 0, 0, .null),
  (93, .iload 4, 95, 0, 0, .null),
  (95, .iastore, 96, 0, 0, .null),
  (96, .iinc 3 0, 99, 0, 0, .int 1),
  (99, .goto 0, 102, 9, 0, .null),
  (102, .iconst 0, 103, 0, 0, .int 1),
  (103, .ireturn, 104, 0, 0, .null)]
def m_G_followRing : xM := (96, 1, 6, 3, 2, (1, 21, 0, 0), t_G_followRing, 0, fun _ => 0)
def t_S_wrong : List xRow := [(0, .aload 0, 1, 0, 0, .null),
  (1, .getfield 0, 4, 6, 5, .retAddr 254),
  (4, .aload 0, 5, 0, 0, .null),
  (5, .getfield 0, 8, 6, 2, .retAddr 251),
  (8, .getfield 0, 11, 2, 0, .int 117),
  (11, .invokevirtual 0, 14, 66, 659, .null),
  (14, .aload 0, 15, 0, 0, .null),
  (15, .getfield 0, 18, 6, 5, .retAddr 254),
  (18, .aload 0, 19, 0, 0, .null),
  (19, .getfield 0, 22, 6, 2, .retAddr 251),
  (22, .invokevirtual 0, 25, 68, 660, .null),
  (25, .aload 0, 26, 0, 0, .null),
  (26, .getfield 0, 29, 6, 6, .retAddr 255),
  (29, .invokevirtual 0, 32, 98, 661, .null),
  (32, .iconst 0, 33, 0, 0, .int 0),
  (33, .istore 1, 34, 0, 0, .null),
  (34, .iload 1, 35, 0, 0, .null),
  (35, .aload 0, 36, 0, 0, .null),
  (36, .getfield 0, 39, 6, 2, .retAddr 251),
  (39, .getfield 0, 42, 2, 1, .int 121),
  (42, .if_icmp .ge 0, 45, 94, 0, .null),
  (45, .aload 0, 46, 0, 0, .null),
  (46, .getfield 0, 49, 6, 2, .retAddr 251),
  (49, .iload 1, 50, 0, 0, .null),
  (50, .invokevirtual 0, 53, 43, 433, .null),
  (53, .ifCond .eq 0, 56, 88, 0, .null),
  (56, .aload 0, 57, 0, 0, .null),
  (57, .getfield 0, 60, 6, 6, .retAddr 255),
  (60, .aload 0, 61, 0, 0, .null),
  (61, .getfield 0, 64, 6, 2, .retAddr 251),
  (64, .getfield 0, 67, 2, 7, .retAddr 134),
  (67, .iload 1, 68, 0, 0, .null),
  (68, .iaload, 69, 0, 0, .null),
  (69, .aload 0, 70, 0, 0, .null),
  (70, .getfield 0, 73, 6, 2, .retAddr 251),
  (73, .getfield 0, 76, 2, 6, .retAddr 131),
  (76, .iload 1, 77, 0, 0, .null),
  (77, .iaload, 78, 0, 0, .null),
  (78, .iconst 0, 81, 0, 665, .int 65536),
  (81, .iconst 0, 82, 0, 0, .int 1),
  (82, .iload 1, 83, 0, 0, .null),
  (83, .ishl, 84, 0, 0, .null),
  (84, .iadd, 85, 0, 0, .null),
  (85, .invokevirtual 0, 88, 99, 666, .null),
  (88, .iinc 1 0, 91, 0, 0, .int 1),
  (91, .goto 0, 94, 34, 0, .null),
  (94, .aload 0, 95, 0, 0, .null),
  (95, .getfield 0, 98, 6, 6, .retAddr 255),
  (98, .aload 0, 99, 0, 0, .null),
  (99, .getfield 0, 102, 6, 5, .retAddr 254),
  (102, .invokevirtual 0, 105, 100, 670, .null),
  (105, .istore 1, 106, 0, 0, .null),
  (106, .aload 0, 107, 0, 0, .null),
  (107, .iload 1, 108, 0, 0, .null),
  (108, .iconst 0, 111, 0, 665, .int 65536),
  (111, .irem, 112, 0, 0, .null),
  (112, .putfield 0, 115, 6, 8, .int 257),
  (115, .iload 1, 116, 0, 0, .null),
  (116, .iconst 0, 119, 0, 665, .int 65536),
  (119, .idiv, 120, 0, 0, .null),
  (120, .ireturn, 121, 0, 0, .null)]
def m_S_wrong : xM := (97, 6, 2, 1, 1, (3, 69, 0, 0), t_S_wrong, 0, fun _ => 0)
def t_D_clear : List xRow := [(0, .aload 0, 1, 0, 0, .null),
  (1, .iconst 0, 2, 0, 0, .int 0),
  (2, .putfield 0, 5, 0, 0, .int 214),
  (5, .return_, 6, 0, 0, .null)]
def m_D_clear : xM := (98, 0, 1, 1, 0, (0, 0, 0, 0), t_D_clear, 0, fun _ => 0)
def t_D_addPair : List xRow := [(0, .aload 0, 1, 0, 0, .null),
  (1, .getfield 0, 4, 0, 0, .int 214),
  (4, .iconst 0, 6, 0, 0, .int 16),
  (6, .if_icmp .ge 0, 9, 49, 0, .null),
  (9, .aload 0, 10, 0, 0, .null),
  (10, .getfield 0, 13, 0, 1, .retAddr 215),
  (13, .aload 0, 14, 0, 0, .null),
  (14, .getfield 0, 17, 0, 0, .int 214),
  (17, .iload 1, 18, 0, 0, .null),
  (18, .iastore, 19, 0, 0, .null),
  (19, .aload 0, 20, 0, 0, .null),
  (20, .getfield 0, 23, 0, 2, .retAddr 216),
  (23, .aload 0, 24, 0, 0, .null),
  (24, .getfield 0, 27, 0, 0, .int 214),
  (27, .iload 2, 28, 0, 0, .null),
  (28, .iastore, 29, 0, 0, .null),
  (29, .aload 0, 30, 0, 0, .null),
  (30, .getfield 0, 33, 0, 3, .retAddr 217),
  (33, .aload 0, 34, 0, 0, .null),
  (34, .getfield 0, 37, 0, 0, .int 214),
  (37, .iload 3, 38, 0, 0, .null),
  (38, .iastore, 39, 0, 0, .null),
  (39, .aload 0, 40, 0, 0, .null),
  (40, .dup, 41, 0, 0, .null),
  (41, .getfield 0, 44, 0, 0, .int 214),
  (44, .iconst 0, 45, 0, 0, .int 1),
  (45, .iadd, 46, 0, 0, .null),
  (46, .putfield 0, 49, 0, 0, .int 214),
  (49, .return_, 50, 0, 0, .null)]
def m_D_addPair : xM := (99, 0, 4, 4, 0, (0, 0, 0, 0), t_D_addPair, 0, fun _ => 0)
def t_D_leastWeight : List xRow := [(0, .aload 0, 1, 0, 0, .null),
  (1, .getfield 0, 4, 0, 4, .retAddr 218),
  (4, .iconst 0, 5, 0, 0, .int 0),
  (5, .iconst 0, 6, 0, 0, .int 0),
  (6, .iastore, 7, 0, 0, .null),
  (7, .iconst 0, 8, 0, 0, .int 1),
  (8, .istore 2, 9, 0, 0, .null),
  (9, .iload 2, 10, 0, 0, .null),
  (10, .aload 1, 11, 0, 0, .null),
  (11, .getfield 0, 14, 1, 1, .int 175),
  (14, .if_icmp .gt 0, 17, 104, 0, .null),
  (17, .aload 0, 18, 0, 0, .null),
  (18, .getfield 0, 21, 0, 4, .retAddr 218),
  (21, .iload 2, 22, 0, 0, .null),
  (22, .iconst 0, 24, 0, 674, .int 268435456),
  (24, .iastore, 25, 0, 0, .null),
  (25, .iconst 0, 26, 0, 0, .int 0),
  (26, .istore 3, 27, 0, 0, .null),
  (27, .iload 3, 28, 0, 0, .null),
  (28, .aload 1, 29, 0, 0, .null),
  (29, .getfield 0, 32, 1, 0, .int 173),
  (32, .if_icmp .ge 0, 35, 98, 0, .null),
  (35, .iload 2, 36, 0, 0, .null),
  (36, .iconst 0, 37, 0, 0, .int 1),
  (37, .iload 3, 38, 0, 0, .null),
  (38, .ishl, 39, 0, 0, .null),
  (39, .iconst 0, 40, 0, 0, .int (-1)),
  (40, .ixor, 41, 0, 0, .null),
  (41, .iand, 42, 0, 0, .null),
  (42, .istore 4, 44, 0, 0, .null),
  (44, .iload 2, 45, 0, 0, .null),
  (45, .iload 3, 46, 0, 0, .null),
  (46, .invokestatic 0, 49, 55, 675, .null),
  (49, .ifCond .eq 0, 52, 92, 0, .null),
  (52, .aload 1, 53, 0, 0, .null),
  (53, .iload 4, 55, 0, 0, .null),
  (55, .iload 3, 56, 0, 0, .null),
  (56, .invokevirtual 0, 59, 72, 676, .null),
  (59, .ifCond .eq 0, 62, 92, 0, .null),
  (62, .aload 0, 63, 0, 0, .null),
  (63, .getfield 0, 66, 0, 4, .retAddr 218),
  (66, .iload 2, 67, 0, 0, .null),
  (67, .aload 0, 68, 0, 0, .null),
  (68, .getfield 0, 71, 0, 4, .retAddr 218),
  (71, .iload 2, 72, 0, 0, .null),
  (72, .iaload, 73, 0, 0, .null),
  (73, .aload 0, 74, 0, 0, .null),
  (74, .getfield 0, 77, 0, 4, .retAddr 218),
  (77, .iload 4, 79, 0, 0, .null),
  (79, .iaload, 80, 0, 0, .null),
  (80, .aload 0, 81, 0, 0, .null),
  (81, .iload 4, 83, 0, 0, .null),
  (83, .iload 3, 84, 0, 0, .null),
  (84, .invokevirtual 0, 87, 101, 677, .null),
  (87, .iadd, 88, 0, 0, .null),
  (88, .dsub, 91, 0, 681, .null),
  (91, .iastore, 92, 0, 0, .null),
  (92, .iinc 3 0, 95, 0, 0, .int 1),
  (95, .goto 0, 98, 27, 0, .null),
  (98, .iinc 2 0, 101, 0, 0, .int 1),
  (101, .goto 0, 104, 9, 0, .null),
  (104, .aload 0, 105, 0, 0, .null),
  (105, .getfield 0, 108, 0, 4, .retAddr 218),
  (108, .aload 1, 109, 0, 0, .null),
  (109, .getfield 0, 112, 1, 1, .int 175),
  (112, .iaload, 113, 0, 0, .null),
  (113, .ireturn, 114, 0, 0, .null)]
def m_D_leastWeight : xM := (100, 0, 5, 2, 1, (2, 45, 0, 0), t_D_leastWeight, 0, fun _ => 0)
def t_D_weightAgainst : List xRow := [(0, .iconst 0, 1, 0, 0, .int 0),
  (1, .istore 3, 2, 0, 0, .null),
  (2, .iconst 0, 3, 0, 0, .int 0),
  (3, .istore 4, 5, 0, 0, .null),
  (5, .iload 4, 7, 0, 0, .null),
  (7, .aload 0, 8, 0, 0, .null),
  (8, .getfield 0, 11, 0, 0, .int 214),
  (11, .if_icmp .ge 0, 14, 55, 0, .null),
  (14, .aload 0, 15, 0, 0, .null),
  (15, .getfield 0, 18, 0, 1, .retAddr 215),
  (18, .iload 4, 20, 0, 0, .null),
  (20, .iaload, 21, 0, 0, .null),
  (21, .iload 2, 22, 0, 0, .null),
  (22, .if_icmp .ne 0, 25, 49, 0, .null),
  (25, .iload 1, 26, 0, 0, .null),
  (26, .aload 0, 27, 0, 0, .null),
  (27, .getfield 0, 30, 0, 2, .retAddr 216),
  (30, .iload 4, 32, 0, 0, .null),
  (32, .iaload, 33, 0, 0, .null),
  (33, .invokestatic 0, 36, 55, 675, .null),
  (36, .ifCond .eq 0, 39, 49, 0, .null),
  (39, .iload 3, 40, 0, 0, .null),
  (40, .aload 0, 41, 0, 0, .null),
  (41, .getfield 0, 44, 0, 3, .retAddr 217),
  (44, .iload 4, 46, 0, 0, .null),
  (46, .iaload, 47, 0, 0, .null),
  (47, .iadd, 48, 0, 0, .null),
  (48, .istore 3, 49, 0, 0, .null),
  (49, .iinc 4 0, 52, 0, 0, .int 1),
  (52, .goto 0, 55, 5, 0, .null),
  (55, .iload 3, 56, 0, 0, .null),
  (56, .ireturn, 57, 0, 0, .null)]
def m_D_weightAgainst : xM := (101, 0, 5, 3, 1, (1, 21, 0, 0), t_D_weightAgainst, 0, fun _ => 0)
def t_S_twice : List xRow := [(0, .aload 0, 1, 0, 0, .null),
  (1, .getfield 0, 4, 6, 5, .retAddr 254),
  (4, .aload 0, 5, 0, 0, .null),
  (5, .getfield 0, 8, 6, 2, .retAddr 251),
  (8, .invokevirtual 0, 11, 65, 523, .null),
  (11, .iconst 0, 12, 0, 0, .int 1),
  (12, .aload 0, 13, 0, 0, .null),
  (13, .getfield 0, 16, 6, 2, .retAddr 251),
  (16, .getfield 0, 19, 2, 0, .int 117),
  (19, .ishl, 20, 0, 0, .null),
  (20, .iconst 0, 21, 0, 0, .int 1),
  (21, .isub, 22, 0, 0, .null),
  (22, .istore 1, 23, 0, 0, .null),
  (23, .iload 1, 24, 0, 0, .null),
  (24, .istore 2, 25, 0, 0, .null),
  (25, .iconst 0, 26, 0, 0, .int 0),
  (26, .istore 3, 27, 0, 0, .null),
  (27, .iload 3, 28, 0, 0, .null),
  (28, .iload 1, 29, 0, 0, .null),
  (29, .if_icmp .gt 0, 32, 66, 0, .null),
  (32, .iload 3, 33, 0, 0, .null),
  (33, .invokestatic 0, 36, 53, 471, .null),
  (36, .iload 2, 37, 0, 0, .null),
  (37, .invokestatic 0, 40, 53, 471, .null),
  (40, .if_icmp .ge 0, 43, 60, 0, .null),
  (43, .aload 0, 44, 0, 0, .null),
  (44, .getfield 0, 47, 6, 5, .retAddr 254),
  (47, .iload 1, 48, 0, 0, .null),
  (48, .iload 3, 49, 0, 0, .null),
  (49, .iconst 0, 50, 0, 0, .int (-1)),
  (50, .ixor, 51, 0, 0, .null),
  (51, .iand, 52, 0, 0, .null),
  (52, .invokevirtual 0, 55, 81, 591, .null),
  (55, .ifCond .lt 0, 58, 60, 0, .null),
  (58, .iload 3, 59, 0, 0, .null),
  (59, .istore 2, 60, 0, 0, .null),
  (60, .iinc 3 0, 63, 0, 0, .int 1),
  (63, .goto 0, 66, 27, 0, .null),
  (66, .aload 0, 67, 0, 0, .null),
  (67, .iload 2, 68, 0, 0, .null),
  (68, .putfield 0, 71, 6, 8, .int 257),
  (71, .iload 2, 72, 0, 0, .null),
  (72, .invokestatic 0, 75, 53, 471, .null),
  (75, .ireturn, 76, 0, 0, .null)]
def m_S_twice : xM := (102, 6, 4, 1, 1, (4, 87, 0, 0), t_S_twice, 0, fun _ => 0)
def t_S_look : List xRow := [(0, .aload 0, 1, 0, 0, .null),
  (1, .invokevirtual 0, 4, 79, 583, .null),
  (4, .ifCond .eq 0, 7, 13, 0, .null),
  (7, .aload 0, 8, 0, 0, .null),
  (8, .iconst 0, 9, 0, 0, .int 4),
  (9, .invokevirtual 0, 12, 10, 297, .null),
  (12, .ireturn, 13, 0, 0, .null),
  (13, .aload 0, 14, 0, 0, .null),
  (14, .getfield 0, 17, 6, 5, .retAddr 254),
  (17, .invokevirtual 0, 20, 71, 550, .null),
  (20, .aload 0, 21, 0, 0, .null),
  (21, .getfield 0, 24, 6, 5, .retAddr 254),
  (24, .invokevirtual 0, 27, 84, 603, .null),
  (27, .iconst 0, 29, 0, 0, .int (-9)),
  (29, .istore 1, 30, 0, 0, .null),
  (30, .iconst 0, 31, 0, 0, .int 0),
  (31, .istore 2, 32, 0, 0, .null),
  (32, .iconst 0, 33, 0, 0, .int 0),
  (33, .istore 3, 34, 0, 0, .null),
  (34, .iload 3, 35, 0, 0, .null),
  (35, .aload 0, 36, 0, 0, .null),
  (36, .getfield 0, 39, 6, 2, .retAddr 251),
  (39, .getfield 0, 42, 2, 0, .int 117),
  (42, .if_icmp .ge 0, 45, 157, 0, .null),
  (45, .iload 3, 46, 0, 0, .null),
  (46, .iconst 0, 47, 0, 0, .int 1),
  (47, .iadd, 48, 0, 0, .null),
  (48, .istore 4, 50, 0, 0, .null),
  (50, .iload 4, 52, 0, 0, .null),
  (52, .aload 0, 53, 0, 0, .null),
  (53, .getfield 0, 56, 6, 2, .retAddr 251),
  (56, .getfield 0, 59, 2, 0, .int 117),
  (59, .if_icmp .ge 0, 62, 151, 0, .null),
  (62, .aload 0, 63, 0, 0, .null),
  (63, .getfield 0, 66, 6, 5, .retAddr 254),
  (66, .getfield 0, 69, 1, 3, .retAddr 180),
  (69, .iload 3, 70, 0, 0, .null),
  (70, .iaload, 71, 0, 0, .null),
  (71, .aload 0, 72, 0, 0, .null),
  (72, .getfield 0, 75, 6, 5, .retAddr 254),
  (75, .iload 3, 76, 0, 0, .null),
  (76, .invokevirtual 0, 79, 87, 615, .null),
  (79, .ior, 80, 0, 0, .null),
  (80, .iload 4, 82, 0, 0, .null),
  (82, .invokestatic 0, 85, 55, 545, .null),
  (85, .ifCond .eq 0, 88, 91, 0, .null),
  (88, .goto 0, 91, 145, 0, .null),
  (91, .aload 0, 92, 0, 0, .null),
  (92, .getfield 0, 95, 6, 5, .retAddr 254),
  (95, .iload 3, 96, 0, 0, .null),
  (96, .iload 4, 98, 0, 0, .null),
  (98, .invokevirtual 0, 101, 85, 607, .null),
  (101, .istore 5, 103, 0, 0, .null),
  (103, .iload 5, 105, 0, 0, .null),
  (105, .aload 0, 106, 0, 0, .null),
  (106, .getfield 0, 109, 6, 5, .retAddr 254),
  (109, .getfield 0, 112, 1, 4, .retAddr 182),
  (112, .iconst 0, 113, 0, 0, .int 0),
  (113, .iaload, 114, 0, 0, .null),
  (114, .iload 5, 116, 0, 0, .null),
  (116, .isub, 117, 0, 0, .null),
  (117, .dadd, 120, 0, 692, .null),
  (120, .istore 6, 122, 0, 0, .null),
  (122, .iload 1, 123, 0, 0, .null),
  (123, .iconst 0, 125, 0, 0, .int (-9)),
  (125, .if_icmp .eq 0, 128, 134, 0, .null),
  (128, .iload 6, 130, 0, 0, .null),
  (130, .iload 2, 131, 0, 0, .null),
  (131, .if_icmp .ge 0, 134, 145, 0, .null),
  (134, .iconst 0, 136, 0, 0, .int 10),
  (136, .iload 3, 137, 0, 0, .null),
  (137, .imul, 138, 0, 0, .null),
  (138, .iload 4, 140, 0, 0, .null),
  (140, .iadd, 141, 0, 0, .null),
  (141, .istore 1, 142, 0, 0, .null),
  (142, .iload 6, 144, 0, 0, .null),
  (144, .istore 2, 145, 0, 0, .null),
  (145, .iinc 4 0, 148, 0, 0, .int 1),
  (148, .goto 0, 151, 50, 0, .null),
  (151, .iinc 3 0, 154, 0, 0, .int 1),
  (154, .goto 0, 157, 34, 0, .null),
  (157, .iload 1, 158, 0, 0, .null),
  (158, .iconst 0, 160, 0, 0, .int (-9)),
  (160, .if_icmp .eq 0, 163, 168, 0, .null),
  (163, .aload 0, 164, 0, 0, .null),
  (164, .iload 2, 165, 0, 0, .null),
  (165, .putfield 0, 168, 6, 8, .int 257),
  (168, .iload 1, 169, 0, 0, .null),
  (169, .ireturn, 170, 0, 0, .null)]
def m_S_look : xM := (103, 6, 7, 1, 1, (5, 107, 0, 0), t_S_look, 0, fun _ => 0)
def t_S_hide : List xRow := [(0, .aload 0, 1, 0, 0, .null),
  (1, .getfield 0, 4, 6, 2, .retAddr 251),
  (4, .iload 1, 5, 0, 0, .null),
  (5, .iload 2, 6, 0, 0, .null),
  (6, .invokevirtual 0, 9, 35, 501, .null),
  (9, .ifCond .ne 0, 12, 14, 0, .null),
  (12, .iconst 0, 13, 0, 0, .int (-1)),
  (13, .ireturn, 14, 0, 0, .null),
  (14, .aload 0, 15, 0, 0, .null),
  (15, .getfield 0, 18, 6, 5, .retAddr 254),
  (18, .aload 0, 19, 0, 0, .null),
  (19, .getfield 0, 22, 6, 2, .retAddr 251),
  (22, .getfield 0, 25, 2, 0, .int 117),
  (25, .invokevirtual 0, 28, 66, 659, .null),
  (28, .aload 0, 29, 0, 0, .null),
  (29, .getfield 0, 32, 6, 5, .retAddr 254),
  (32, .aload 0, 33, 0, 0, .null),
  (33, .getfield 0, 36, 6, 2, .retAddr 251),
  (36, .invokevirtual 0, 39, 67, 699, .null),
  (39, .aload 0, 40, 0, 0, .null),
  (40, .getfield 0, 43, 6, 5, .retAddr 254),
  (43, .aload 0, 44, 0, 0, .null),
  (44, .getfield 0, 47, 6, 5, .retAddr 254),
  (47, .getfield 0, 50, 1, 1, .int 176),
  (50, .invokevirtual 0, 53, 81, 591, .null),
  (53, .ifCond .ge 0, 56, 62, 0, .null),
  (56, .aload 0, 57, 0, 0, .null),
  (57, .iconst 0, 58, 0, 0, .int 4),
  (58, .invokevirtual 0, 61, 10, 297, .null),
  (61, .ireturn, 62, 0, 0, .null),
  (62, .iconst 0, 64, 0, 0, .int 16),
  (64, .istore 3, 65, 0, 0, .null),
  (65, .iconst 0, 66, 0, 0, .int 0),
  (66, .istore 4, 68, 0, 0, .null),
  (68, .iload 4, 70, 0, 0, .null),
  (70, .aload 0, 71, 0, 0, .null),
  (71, .getfield 0, 74, 6, 5, .retAddr 254),
  (74, .getfield 0, 77, 1, 1, .int 176),
  (77, .if_icmp .gt 0, 80, 118, 0, .null),
  (80, .iload 4, 82, 0, 0, .null),
  (82, .iload 1, 83, 0, 0, .null),
  (83, .invokestatic 0, 86, 55, 545, .null),
  (86, .ifCond .eq 0, 89, 112, 0, .null),
  (89, .iload 4, 91, 0, 0, .null),
  (91, .iload 2, 92, 0, 0, .null),
  (92, .invokestatic 0, 95, 55, 545, .null),
  (95, .ifCond .ne 0, 98, 112, 0, .null),
  (98, .iload 3, 99, 0, 0, .null),
  (99, .aload 0, 100, 0, 0, .null),
  (100, .getfield 0, 103, 6, 2, .retAddr 251),
  (103, .iload 4, 105, 0, 0, .null),
  (105, .invokevirtual 0, 108, 105, 700, .null),
  (108, .dsub, 111, 0, 704, .null),
  (111, .istore 3, 112, 0, 0, .null),
  (112, .iinc 4 0, 115, 0, 0, .int 1),
  (115, .goto 0, 118, 68, 0, .null),
  (118, .iload 3, 119, 0, 0, .null),
  (119, .ireturn, 120, 0, 0, .null)]
def m_S_hide : xM := (104, 6, 5, 3, 1, (3, 67, 0, 0), t_S_hide, 0, fun _ => 0)
def t_P_tellingOutOf : List xRow := [(0, .iconst 0, 1, 0, 0, .int 0),
  (1, .istore 2, 2, 0, 0, .null),
  (2, .iconst 0, 3, 0, 0, .int 0),
  (3, .istore 3, 4, 0, 0, .null),
  (4, .iload 3, 5, 0, 0, .null),
  (5, .aload 0, 6, 0, 0, .null),
  (6, .getfield 0, 9, 2, 1, .int 118),
  (9, .if_icmp .ge 0, 12, 55, 0, .null),
  (12, .aload 0, 13, 0, 0, .null),
  (13, .iload 3, 14, 0, 0, .null),
  (14, .invokevirtual 0, 17, 43, 462, .null),
  (17, .ifCond .eq 0, 20, 49, 0, .null),
  (20, .iload 1, 21, 0, 0, .null),
  (21, .aload 0, 22, 0, 0, .null),
  (22, .getfield 0, 25, 2, 7, .retAddr 132),
  (25, .iload 3, 26, 0, 0, .null),
  (26, .iaload, 27, 0, 0, .null),
  (27, .invokestatic 0, 30, 55, 481, .null),
  (30, .ifCond .eq 0, 33, 49, 0, .null),
  (33, .iload 1, 34, 0, 0, .null),
  (34, .aload 0, 35, 0, 0, .null),
  (35, .getfield 0, 38, 2, 6, .retAddr 129),
  (38, .iload 3, 39, 0, 0, .null),
  (39, .iaload, 40, 0, 0, .null),
  (40, .invokestatic 0, 43, 55, 481, .null),
  (43, .ifCond .ne 0, 46, 49, 0, .null),
  (46, .iinc 2 0, 49, 0, 0, .int 1),
  (49, .iinc 3 0, 52, 0, 0, .int 1),
  (52, .goto 0, 55, 4, 0, .null),
  (55, .iload 2, 56, 0, 0, .null),
  (56, .ireturn, 57, 0, 0, .null)]
def m_P_tellingOutOf : xM := (105, 2, 4, 2, 1, (2, 44, 0, 0), t_P_tellingOutOf, 0, fun _ => 0)
def t_S_people : List xRow := [(0, .aload 0, 1, 0, 0, .null),
  (1, .getfield 0, 4, 6, 7, .retAddr 256),
  (4, .aload 0, 5, 0, 0, .null),
  (5, .getfield 0, 8, 6, 2, .retAddr 251),
  (8, .invokevirtual 0, 11, 107, 709, .null),
  (11, .aload 0, 12, 0, 0, .null),
  (12, .aload 0, 13, 0, 0, .null),
  (13, .getfield 0, 16, 6, 7, .retAddr 256),
  (16, .iconst 0, 17, 0, 0, .int 0),
  (17, .invokevirtual 0, 20, 109, 721, .null),
  (20, .putfield 0, 23, 6, 8, .int 257),
  (23, .aload 0, 24, 0, 0, .null),
  (24, .getfield 0, 27, 6, 7, .retAddr 256),
  (27, .invokevirtual 0, 30, 110, 727, .null),
  (30, .ireturn, 31, 0, 0, .null)]
def m_S_people : xM := (106, 6, 1, 1, 1, (3, 70, 0, 0), t_S_people, 0, fun _ => 0)
def t_F_take : List xRow := [(0, .aload 0, 1, 0, 0, .null),
  (1, .iconst 0, 2, 0, 0, .int 1),
  (2, .aload 1, 3, 0, 0, .null),
  (3, .getfield 0, 6, 2, 0, .int 114),
  (6, .ishl, 7, 0, 0, .null),
  (7, .iconst 0, 8, 0, 0, .int 1),
  (8, .isub, 9, 0, 0, .null),
  (9, .putfield 0, 12, 3, 0, .int 236),
  (12, .iconst 0, 13, 0, 0, .int 0),
  (13, .istore 2, 14, 0, 0, .null),
  (14, .iload 2, 15, 0, 0, .null),
  (15, .aload 1, 16, 0, 0, .null),
  (16, .getfield 0, 19, 2, 0, .int 114),
  (19, .if_icmp .ge 0, 22, 102, 0, .null),
  (22, .aload 0, 23, 0, 0, .null),
  (23, .getfield 0, 26, 3, 3, .retAddr 239),
  (26, .iload 2, 27, 0, 0, .null),
  (27, .iconst 0, 28, 0, 0, .int 0),
  (28, .iastore, 29, 0, 0, .null),
  (29, .aload 1, 30, 0, 0, .null),
  (30, .iload 2, 31, 0, 0, .null),
  (31, .invokevirtual 0, 34, 51, 713, .null),
  (34, .istore 3, 35, 0, 0, .null),
  (35, .iconst 0, 36, 0, 0, .int 0),
  (36, .istore 4, 38, 0, 0, .null),
  (38, .iload 4, 40, 0, 0, .null),
  (40, .aload 1, 41, 0, 0, .null),
  (41, .getfield 0, 44, 2, 0, .int 114),
  (44, .if_icmp .ge 0, 47, 96, 0, .null),
  (47, .iload 3, 48, 0, 0, .null),
  (48, .iload 4, 50, 0, 0, .null),
  (50, .invokestatic 0, 53, 55, 714, .null),
  (53, .ifCond .ne 0, 56, 90, 0, .null),
  (56, .aload 1, 57, 0, 0, .null),
  (57, .getfield 0, 60, 2, 4, .retAddr 126),
  (60, .iload 2, 61, 0, 0, .null),
  (61, .iaload, 62, 0, 0, .null),
  (62, .aload 1, 63, 0, 0, .null),
  (63, .getfield 0, 66, 2, 4, .retAddr 126),
  (66, .iload 4, 68, 0, 0, .null),
  (68, .iaload, 69, 0, 0, .null),
  (69, .isub, 70, 0, 0, .null),
  (70, .dneg, 73, 0, 715, .null),
  (73, .iconst 0, 74, 0, 0, .int 1),
  (74, .if_icmp .gt 0, 77, 90, 0, .null),
  (77, .aload 0, 78, 0, 0, .null),
  (78, .getfield 0, 81, 3, 3, .retAddr 239),
  (81, .iload 2, 82, 0, 0, .null),
  (82, .dup2, 83, 0, 0, .null),
  (83, .iaload, 84, 0, 0, .null),
  (84, .iconst 0, 85, 0, 0, .int 1),
  (85, .iload 4, 87, 0, 0, .null),
  (87, .ishl, 88, 0, 0, .null),
  (88, .ior, 89, 0, 0, .null),
  (89, .iastore, 90, 0, 0, .null),
  (90, .iinc 4 0, 93, 0, 0, .int 1),
  (93, .goto 0, 96, 38, 0, .null),
  (96, .iinc 2 0, 99, 0, 0, .int 1),
  (99, .goto 0, 102, 14, 0, .null),
  (102, .aload 0, 103, 0, 0, .null),
  (103, .getfield 0, 106, 3, 1, .retAddr 237),
  (106, .iconst 0, 107, 0, 0, .int 0),
  (107, .iconst 0, 108, 0, 0, .int 1),
  (108, .iastore, 109, 0, 0, .null),
  (109, .iconst 0, 110, 0, 0, .int 1),
  (110, .istore 2, 111, 0, 0, .null),
  (111, .iload 2, 112, 0, 0, .null),
  (112, .aload 0, 113, 0, 0, .null),
  (113, .getfield 0, 116, 3, 0, .int 236),
  (116, .if_icmp .gt 0, 119, 170, 0, .null),
  (119, .iload 2, 120, 0, 0, .null),
  (120, .invokestatic 0, 123, 108, 718, .null),
  (123, .istore 3, 124, 0, 0, .null),
  (124, .iload 2, 125, 0, 0, .null),
  (125, .iconst 0, 126, 0, 0, .int 1),
  (126, .iload 3, 127, 0, 0, .null),
  (127, .ishl, 128, 0, 0, .null),
  (128, .iconst 0, 129, 0, 0, .int (-1)),
  (129, .ixor, 130, 0, 0, .null),
  (130, .iand, 131, 0, 0, .null),
  (131, .istore 4, 133, 0, 0, .null),
  (133, .aload 0, 134, 0, 0, .null),
  (134, .getfield 0, 137, 3, 1, .retAddr 237),
  (137, .iload 2, 138, 0, 0, .null),
  (138, .iload 4, 140, 0, 0, .null),
  (140, .aload 0, 141, 0, 0, .null),
  (141, .getfield 0, 144, 3, 3, .retAddr 239),
  (144, .iload 3, 145, 0, 0, .null),
  (145, .iaload, 146, 0, 0, .null),
  (146, .iconst 0, 147, 0, 0, .int (-1)),
  (147, .ixor, 148, 0, 0, .null),
  (148, .iand, 149, 0, 0, .null),
  (149, .ifCond .ne 0, 152, 162, 0, .null),
  (152, .aload 0, 153, 0, 0, .null),
  (153, .getfield 0, 156, 3, 1, .retAddr 237),
  (156, .iload 4, 158, 0, 0, .null),
  (158, .iaload, 159, 0, 0, .null),
  (159, .goto 0, 162, 163, 0, .null),
  (162, .iconst 0, 163, 0, 0, .int 0),
  (163, .iastore, 164, 0, 0, .null),
  (164, .iinc 2 0, 167, 0, 0, .int 1),
  (167, .goto 0, 170, 111, 0, .null),
  (170, .return_, 171, 0, 0, .null)]
def m_F_take : xM := (107, 3, 5, 2, 0, (2, 46, 0, 0), t_F_take, 0, fun _ => 0)
def t_F_topOf : List xRow := [(0, .iconst 0, 1, 0, 0, .int 0),
  (1, .istore 1, 2, 0, 0, .null),
  (2, .iconst 0, 3, 0, 0, .int 0),
  (3, .istore 2, 4, 0, 0, .null),
  (4, .iload 2, 5, 0, 0, .null),
  (5, .iconst 0, 7, 0, 0, .int 7),
  (7, .if_icmp .ge 0, 10, 26, 0, .null),
  (10, .iload 0, 11, 0, 0, .null),
  (11, .iload 2, 12, 0, 0, .null),
  (12, .invokestatic 0, 15, 55, 714, .null),
  (15, .ifCond .eq 0, 18, 20, 0, .null),
  (18, .iload 2, 19, 0, 0, .null),
  (19, .istore 1, 20, 0, 0, .null),
  (20, .iinc 2 0, 23, 0, 0, .int 1),
  (23, .goto 0, 26, 4, 0, .null),
  (26, .iload 1, 27, 0, 0, .null),
  (27, .ireturn, 28, 0, 0, .null)]
def m_F_topOf : xM := (108, 3, 3, 1, 1, (1, 21, 0, 0), t_F_topOf, 0, fun _ => 0)
def t_F_mostWith : List xRow := [(0, .iconst 0, 1, 0, 0, .int 0),
  (1, .istore 2, 2, 0, 0, .null),
  (2, .iconst 0, 3, 0, 0, .int 0),
  (3, .istore 3, 4, 0, 0, .null),
  (4, .iload 3, 5, 0, 0, .null),
  (5, .aload 0, 6, 0, 0, .null),
  (6, .getfield 0, 9, 3, 0, .int 236),
  (9, .if_icmp .gt 0, 12, 45, 0, .null),
  (12, .iload 3, 13, 0, 0, .null),
  (13, .iload 1, 14, 0, 0, .null),
  (14, .invokestatic 0, 17, 55, 714, .null),
  (17, .ifCond .eq 0, 20, 39, 0, .null),
  (20, .aload 0, 21, 0, 0, .null),
  (21, .getfield 0, 24, 3, 1, .retAddr 237),
  (24, .iload 3, 25, 0, 0, .null),
  (25, .iaload, 26, 0, 0, .null),
  (26, .iconst 0, 27, 0, 0, .int 1),
  (27, .if_icmp .ne 0, 30, 39, 0, .null),
  (30, .iload 2, 31, 0, 0, .null),
  (31, .iload 3, 32, 0, 0, .null),
  (32, .invokestatic 0, 35, 53, 725, .null),
  (35, .dadd, 38, 0, 726, .null),
  (38, .istore 2, 39, 0, 0, .null),
  (39, .iinc 3 0, 42, 0, 0, .int 1),
  (42, .goto 0, 45, 4, 0, .null),
  (45, .iload 2, 46, 0, 0, .null),
  (46, .ireturn, 47, 0, 0, .null)]
def m_F_mostWith : xM := (109, 3, 4, 2, 1, (1, 21, 0, 0), t_F_mostWith, 0, fun _ => 0)
def t_F_fewest : List xRow := [(0, .aload 0, 1, 0, 0, .null),
  (1, .getfield 0, 4, 3, 2, .retAddr 238),
  (4, .iconst 0, 5, 0, 0, .int 0),
  (5, .iconst 0, 6, 0, 0, .int 0),
  (6, .iastore, 7, 0, 0, .null),
  (7, .iconst 0, 8, 0, 0, .int 1),
  (8, .istore 1, 9, 0, 0, .null),
  (9, .iload 1, 10, 0, 0, .null),
  (10, .aload 0, 11, 0, 0, .null),
  (11, .getfield 0, 14, 3, 0, .int 236),
  (14, .if_icmp .gt 0, 17, 96, 0, .null),
  (17, .iconst 0, 18, 0, 0, .int 1),
  (18, .iload 1, 19, 0, 0, .null),
  (19, .invokestatic 0, 22, 108, 718, .null),
  (22, .ishl, 23, 0, 0, .null),
  (23, .istore 2, 24, 0, 0, .null),
  (24, .aload 0, 25, 0, 0, .null),
  (25, .getfield 0, 28, 3, 2, .retAddr 238),
  (28, .iload 1, 29, 0, 0, .null),
  (29, .iconst 0, 31, 0, 0, .int 7),
  (31, .iastore, 32, 0, 0, .null),
  (32, .iload 2, 33, 0, 0, .null),
  (33, .istore 3, 34, 0, 0, .null),
  (34, .iload 3, 35, 0, 0, .null),
  (35, .iload 1, 36, 0, 0, .null),
  (36, .if_icmp .gt 0, 39, 90, 0, .null),
  (39, .iload 3, 40, 0, 0, .null),
  (40, .iload 1, 41, 0, 0, .null),
  (41, .iconst 0, 42, 0, 0, .int (-1)),
  (42, .ixor, 43, 0, 0, .null),
  (43, .iand, 44, 0, 0, .null),
  (44, .ifCond .ne 0, 47, 84, 0, .null),
  (47, .aload 0, 48, 0, 0, .null),
  (48, .getfield 0, 51, 3, 1, .retAddr 237),
  (51, .iload 3, 52, 0, 0, .null),
  (52, .iaload, 53, 0, 0, .null),
  (53, .iconst 0, 54, 0, 0, .int 1),
  (54, .if_icmp .ne 0, 57, 84, 0, .null),
  (57, .aload 0, 58, 0, 0, .null),
  (58, .getfield 0, 61, 3, 2, .retAddr 238),
  (61, .iload 1, 62, 0, 0, .null),
  (62, .aload 0, 63, 0, 0, .null),
  (63, .getfield 0, 66, 3, 2, .retAddr 238),
  (66, .iload 1, 67, 0, 0, .null),
  (67, .iaload, 68, 0, 0, .null),
  (68, .aload 0, 69, 0, 0, .null),
  (69, .getfield 0, 72, 3, 2, .retAddr 238),
  (72, .iload 1, 73, 0, 0, .null),
  (73, .iload 3, 74, 0, 0, .null),
  (74, .iconst 0, 75, 0, 0, .int (-1)),
  (75, .ixor, 76, 0, 0, .null),
  (76, .iand, 77, 0, 0, .null),
  (77, .iaload, 78, 0, 0, .null),
  (78, .iconst 0, 79, 0, 0, .int 1),
  (79, .iadd, 80, 0, 0, .null),
  (80, .dsub, 83, 0, 731, .null),
  (83, .iastore, 84, 0, 0, .null),
  (84, .iinc 3 0, 87, 0, 0, .int 1),
  (87, .goto 0, 90, 34, 0, .null),
  (90, .iinc 1 0, 93, 0, 0, .int 1),
  (93, .goto 0, 96, 9, 0, .null),
  (96, .aload 0, 97, 0, 0, .null),
  (97, .getfield 0, 100, 3, 2, .retAddr 238),
  (100, .aload 0, 101, 0, 0, .null),
  (101, .getfield 0, 104, 3, 0, .int 236),
  (104, .iaload, 105, 0, 0, .null),
  (105, .ireturn, 106, 0, 0, .null)]
def m_F_fewest : xM := (110, 3, 4, 1, 1, (2, 43, 0, 0), t_F_fewest, 0, fun _ => 0)
def t_S_story : List xRow := [(0, .aload 0, 1, 0, 0, .null),
  (1, .getfield 0, 4, 6, 0, .retAddr 249),
  (4, .iload 1, 5, 0, 0, .null),
  (5, .invokevirtual 0, 8, 9, 293, .null),
  (8, .ifCond .ne 0, 11, 13, 0, .null),
  (11, .iconst 0, 12, 0, 0, .int (-1)),
  (12, .ireturn, 13, 0, 0, .null),
  (13, .aload 0, 14, 0, 0, .null),
  (14, .iload 1, 15, 0, 0, .null),
  (15, .invokevirtual 0, 18, 112, 736, .null),
  (18, .istore 2, 19, 0, 0, .null),
  (19, .iload 2, 20, 0, 0, .null),
  (20, .ifCond .eq 0, 23, 29, 0, .null),
  (23, .aload 0, 24, 0, 0, .null),
  (24, .iload 2, 25, 0, 0, .null),
  (25, .invokevirtual 0, 28, 10, 297, .null),
  (28, .ireturn, 29, 0, 0, .null),
  (29, .aload 0, 30, 0, 0, .null),
  (30, .getfield 0, 33, 6, 0, .retAddr 249),
  (33, .getfield 0, 36, 5, 1, .retAddr 97),
  (36, .iload 1, 37, 0, 0, .null),
  (37, .iaload, 38, 0, 0, .null),
  (38, .istore 3, 39, 0, 0, .null),
  (39, .iconst 0, 40, 0, 0, .int 0),
  (40, .istore 4, 42, 0, 0, .null),
  (42, .iload 4, 44, 0, 0, .null),
  (44, .iload 3, 45, 0, 0, .null),
  (45, .if_icmp .ge 0, 48, 104, 0, .null),
  (48, .aload 0, 49, 0, 0, .null),
  (49, .iload 1, 50, 0, 0, .null),
  (50, .iload 4, 52, 0, 0, .null),
  (52, .invokevirtual 0, 55, 113, 740, .null),
  (55, .istore 5, 57, 0, 0, .null),
  (57, .aload 0, 58, 0, 0, .null),
  (58, .iload 1, 59, 0, 0, .null),
  (59, .iload 4, 61, 0, 0, .null),
  (61, .invokevirtual 0, 64, 114, 744, .null),
  (64, .istore 6, 66, 0, 0, .null),
  (66, .aload 0, 67, 0, 0, .null),
  (67, .getfield 0, 70, 6, 5, .retAddr 254),
  (70, .getfield 0, 73, 1, 3, .retAddr 180),
  (73, .iload 6, 75, 0, 0, .null),
  (75, .iaload, 76, 0, 0, .null),
  (76, .iload 5, 78, 0, 0, .null),
  (78, .invokestatic 0, 81, 55, 545, .null),
  (81, .ifCond .eq 0, 84, 87, 0, .null),
  (84, .iload 4, 86, 0, 0, .null),
  (86, .ireturn, 87, 0, 0, .null),
  (87, .aload 0, 88, 0, 0, .null),
  (88, .getfield 0, 91, 6, 5, .retAddr 254),
  (91, .iload 5, 93, 0, 0, .null),
  (93, .iload 6, 95, 0, 0, .null),
  (95, .invokevirtual 0, 98, 115, 748, .null),
  (98, .iinc 4 0, 101, 0, 0, .int 1),
  (101, .goto 0, 104, 42, 0, .null),
  (104, .iload 3, 105, 0, 0, .null),
  (105, .ireturn, 106, 0, 0, .null)]
def m_S_story : xM := (111, 6, 7, 2, 1, (6, 129, 0, 0), t_S_story, 0, fun _ => 0)
def t_S_findingOfClaims : List xRow := [(0, .aload 0, 1, 0, 0, .null),
  (1, .getfield 0, 4, 6, 0, .retAddr 249),
  (4, .iload 1, 5, 0, 0, .null),
  (5, .invokevirtual 0, 8, 14, 313, .null),
  (8, .ifCond .ne 0, 11, 13, 0, .null),
  (11, .iconst 0, 12, 0, 0, .int 1),
  (12, .ireturn, 13, 0, 0, .null),
  (13, .aload 0, 14, 0, 0, .null),
  (14, .getfield 0, 17, 6, 0, .retAddr 249),
  (17, .getfield 0, 20, 5, 1, .retAddr 97),
  (20, .iload 1, 21, 0, 0, .null),
  (21, .iaload, 22, 0, 0, .null),
  (22, .iconst 0, 24, 0, 0, .int 8),
  (24, .if_icmp .le 0, 27, 29, 0, .null),
  (27, .iconst 0, 28, 0, 0, .int 5),
  (28, .ireturn, 29, 0, 0, .null),
  (29, .iconst 0, 30, 0, 0, .int 0),
  (30, .istore 2, 31, 0, 0, .null),
  (31, .iload 2, 32, 0, 0, .null),
  (32, .aload 0, 33, 0, 0, .null),
  (33, .getfield 0, 36, 6, 0, .retAddr 249),
  (36, .getfield 0, 39, 5, 1, .retAddr 97),
  (39, .iload 1, 40, 0, 0, .null),
  (40, .iaload, 41, 0, 0, .null),
  (41, .if_icmp .ge 0, 44, 88, 0, .null),
  (44, .aload 0, 45, 0, 0, .null),
  (45, .getfield 0, 48, 6, 0, .retAddr 249),
  (48, .getfield 0, 51, 5, 0, .retAddr 95),
  (51, .iload 1, 52, 0, 0, .null),
  (52, .aaload, 53, 0, 0, .null),
  (53, .iload 2, 54, 0, 0, .null),
  (54, .iaload, 55, 0, 0, .null),
  (55, .ifCond .lt 0, 58, 80, 0, .null),
  (58, .aload 0, 59, 0, 0, .null),
  (59, .getfield 0, 62, 6, 2, .retAddr 251),
  (62, .aload 0, 63, 0, 0, .null),
  (63, .iload 1, 64, 0, 0, .null),
  (64, .iload 2, 65, 0, 0, .null),
  (65, .invokevirtual 0, 68, 113, 740, .null),
  (68, .aload 0, 69, 0, 0, .null),
  (69, .iload 1, 70, 0, 0, .null),
  (70, .iload 2, 71, 0, 0, .null),
  (71, .invokevirtual 0, 74, 114, 744, .null),
  (74, .invokevirtual 0, 77, 35, 501, .null),
  (77, .ifCond .ne 0, 80, 82, 0, .null),
  (80, .iconst 0, 81, 0, 0, .int 3),
  (81, .ireturn, 82, 0, 0, .null),
  (82, .iinc 2 0, 85, 0, 0, .int 1),
  (85, .goto 0, 88, 31, 0, .null),
  (88, .aload 0, 89, 0, 0, .null),
  (89, .invokevirtual 0, 92, 79, 583, .null),
  (92, .ifCond .eq 0, 95, 99, 0, .null),
  (95, .iconst 0, 96, 0, 0, .int 4),
  (96, .goto 0, 99, 100, 0, .null),
  (99, .iconst 0, 100, 0, 0, .int 0),
  (100, .ireturn, 101, 0, 0, .null)]
def m_S_findingOfClaims : xM := (112, 6, 3, 2, 1, (5, 107, 0, 0), t_S_findingOfClaims, 0, fun _ => 0)
def t_S_aheadByClaim : List xRow := [(0, .aload 0, 1, 0, 0, .null),
  (1, .getfield 0, 4, 6, 0, .retAddr 249),
  (4, .getfield 0, 7, 5, 0, .retAddr 95),
  (7, .iload 1, 8, 0, 0, .null),
  (8, .aaload, 9, 0, 0, .null),
  (9, .iload 2, 10, 0, 0, .null),
  (10, .iaload, 11, 0, 0, .null),
  (11, .iconst 0, 13, 0, 0, .int 10),
  (13, .idiv, 14, 0, 0, .null),
  (14, .ireturn, 15, 0, 0, .null)]
def m_S_aheadByClaim : xM := (113, 6, 3, 3, 1, (0, 0, 0, 0), t_S_aheadByClaim, 0, fun _ => 0)
def t_S_behindByClaim : List xRow := [(0, .aload 0, 1, 0, 0, .null),
  (1, .getfield 0, 4, 6, 0, .retAddr 249),
  (4, .getfield 0, 7, 5, 0, .retAddr 95),
  (7, .iload 1, 8, 0, 0, .null),
  (8, .aaload, 9, 0, 0, .null),
  (9, .iload 2, 10, 0, 0, .null),
  (10, .iaload, 11, 0, 0, .null),
  (11, .iconst 0, 13, 0, 0, .int 10),
  (13, .irem, 14, 0, 0, .null),
  (14, .ireturn, 15, 0, 0, .null)]
def m_S_behindByClaim : xM := (114, 6, 3, 3, 1, (0, 0, 0, 0), t_S_behindByClaim, 0, fun _ => 0)
def t_G_addSure : List xRow := [(0, .aload 0, 1, 0, 0, .null),
  (1, .getfield 0, 4, 1, 3, .retAddr 179),
  (4, .iload 2, 5, 0, 0, .null),
  (5, .iaload, 6, 0, 0, .null),
  (6, .iconst 0, 7, 0, 0, .int 1),
  (7, .iload 2, 8, 0, 0, .null),
  (8, .ishl, 9, 0, 0, .null),
  (9, .ior, 10, 0, 0, .null),
  (10, .istore 3, 11, 0, 0, .null),
  (11, .iconst 0, 12, 0, 0, .int 0),
  (12, .istore 4, 14, 0, 0, .null),
  (14, .iload 4, 16, 0, 0, .null),
  (16, .aload 0, 17, 0, 0, .null),
  (17, .getfield 0, 20, 1, 0, .int 172),
  (20, .if_icmp .ge 0, 23, 60, 0, .null),
  (23, .iload 4, 25, 0, 0, .null),
  (25, .iload 1, 26, 0, 0, .null),
  (26, .if_icmp .eq 0, 29, 43, 0, .null),
  (29, .aload 0, 30, 0, 0, .null),
  (30, .getfield 0, 33, 1, 3, .retAddr 179),
  (33, .iload 4, 35, 0, 0, .null),
  (35, .iaload, 36, 0, 0, .null),
  (36, .iload 1, 37, 0, 0, .null),
  (37, .invokestatic 0, 40, 55, 558, .null),
  (40, .ifCond .eq 0, 43, 54, 0, .null),
  (43, .aload 0, 44, 0, 0, .null),
  (44, .getfield 0, 47, 1, 3, .retAddr 179),
  (47, .iload 4, 49, 0, 0, .null),
  (49, .dup2, 50, 0, 0, .null),
  (50, .iaload, 51, 0, 0, .null),
  (51, .iload 3, 52, 0, 0, .null),
  (52, .ior, 53, 0, 0, .null),
  (53, .iastore, 54, 0, 0, .null),
  (54, .iinc 4 0, 57, 0, 0, .int 1),
  (57, .goto 0, 60, 14, 0, .null),
  (60, .return_, 61, 0, 0, .null)]
def m_G_addSure : xM := (115, 1, 5, 3, 0, (1, 21, 0, 0), t_G_addSure, 0, fun _ => 0)
def t_S_hold : List xRow := [(0, .aload 0, 1, 0, 0, .null),
  (1, .getfield 0, 4, 6, 0, .retAddr 249),
  (4, .iload 1, 5, 0, 0, .null),
  (5, .invokevirtual 0, 8, 9, 293, .null),
  (8, .ifCond .ne 0, 11, 13, 0, .null),
  (11, .iconst 0, 12, 0, 0, .int (-1)),
  (12, .ireturn, 13, 0, 0, .null),
  (13, .aload 0, 14, 0, 0, .null),
  (14, .iload 1, 15, 0, 0, .null),
  (15, .invokevirtual 0, 18, 112, 736, .null),
  (18, .istore 2, 19, 0, 0, .null),
  (19, .iload 2, 20, 0, 0, .null),
  (20, .ifCond .eq 0, 23, 29, 0, .null),
  (23, .aload 0, 24, 0, 0, .null),
  (24, .iload 2, 25, 0, 0, .null),
  (25, .invokevirtual 0, 28, 10, 297, .null),
  (28, .ireturn, 29, 0, 0, .null),
  (29, .aload 0, 30, 0, 0, .null),
  (30, .getfield 0, 33, 6, 0, .retAddr 249),
  (33, .getfield 0, 36, 5, 1, .retAddr 97),
  (36, .iload 1, 37, 0, 0, .null),
  (37, .iaload, 38, 0, 0, .null),
  (38, .istore 3, 39, 0, 0, .null),
  (39, .aload 0, 40, 0, 0, .null),
  (40, .getfield 0, 43, 6, 6, .retAddr 255),
  (43, .invokevirtual 0, 46, 98, 661, .null),
  (46, .iconst 0, 47, 0, 0, .int 0),
  (47, .istore 4, 49, 0, 0, .null),
  (49, .iload 4, 51, 0, 0, .null),
  (51, .iload 3, 52, 0, 0, .null),
  (52, .if_icmp .ge 0, 55, 90, 0, .null),
  (55, .aload 0, 56, 0, 0, .null),
  (56, .getfield 0, 59, 6, 6, .retAddr 255),
  (59, .aload 0, 60, 0, 0, .null),
  (60, .iload 1, 61, 0, 0, .null),
  (61, .iload 4, 63, 0, 0, .null),
  (63, .invokevirtual 0, 66, 113, 740, .null),
  (66, .aload 0, 67, 0, 0, .null),
  (67, .iload 1, 68, 0, 0, .null),
  (68, .iload 4, 70, 0, 0, .null),
  (70, .invokevirtual 0, 73, 114, 744, .null),
  (73, .iconst 0, 76, 0, 0, .int 256),
  (76, .iconst 0, 77, 0, 0, .int 1),
  (77, .iload 4, 79, 0, 0, .null),
  (79, .ishl, 80, 0, 0, .null),
  (80, .isub, 81, 0, 0, .null),
  (81, .invokevirtual 0, 84, 99, 666, .null),
  (84, .iinc 4 0, 87, 0, 0, .int 1),
  (87, .goto 0, 90, 49, 0, .null),
  (90, .aload 0, 91, 0, 0, .null),
  (91, .getfield 0, 94, 6, 6, .retAddr 255),
  (94, .aload 0, 95, 0, 0, .null),
  (95, .getfield 0, 98, 6, 5, .retAddr 254),
  (98, .invokevirtual 0, 101, 100, 670, .null),
  (101, .istore 4, 103, 0, 0, .null),
  (103, .iload 4, 105, 0, 0, .null),
  (105, .iconst 0, 108, 0, 0, .int 256),
  (108, .iadd, 109, 0, 0, .null),
  (109, .iconst 0, 110, 0, 0, .int 1),
  (110, .isub, 111, 0, 0, .null),
  (111, .iconst 0, 114, 0, 0, .int 256),
  (114, .idiv, 115, 0, 0, .null),
  (115, .istore 5, 117, 0, 0, .null),
  (117, .iload 5, 119, 0, 0, .null),
  (119, .iconst 0, 122, 0, 0, .int 256),
  (122, .imul, 123, 0, 0, .null),
  (123, .iload 4, 125, 0, 0, .null),
  (125, .isub, 126, 0, 0, .null),
  (126, .istore 6, 128, 0, 0, .null),
  (128, .aload 0, 129, 0, 0, .null),
  (129, .iconst 0, 130, 0, 0, .int 1),
  (130, .iload 3, 131, 0, 0, .null),
  (131, .ishl, 132, 0, 0, .null),
  (132, .iconst 0, 133, 0, 0, .int 1),
  (133, .isub, 134, 0, 0, .null),
  (134, .iload 6, 136, 0, 0, .null),
  (136, .isub, 137, 0, 0, .null),
  (137, .putfield 0, 140, 6, 8, .int 257),
  (140, .iload 3, 141, 0, 0, .null),
  (141, .iload 5, 143, 0, 0, .null),
  (143, .isub, 144, 0, 0, .null),
  (144, .ireturn, 145, 0, 0, .null)]
def m_S_hold : xM := (116, 6, 7, 2, 1, (6, 129, 0, 0), t_S_hold, 0, fun _ => 0)
def t_S_believe : List xRow := [(0, .aload 0, 1, 0, 0, .null),
  (1, .getfield 0, 4, 6, 0, .retAddr 249),
  (4, .iload 1, 5, 0, 0, .null),
  (5, .invokevirtual 0, 8, 9, 293, .null),
  (8, .ifCond .ne 0, 11, 13, 0, .null),
  (11, .iconst 0, 12, 0, 0, .int (-1)),
  (12, .ireturn, 13, 0, 0, .null),
  (13, .aload 0, 14, 0, 0, .null),
  (14, .iload 1, 15, 0, 0, .null),
  (15, .invokevirtual 0, 18, 112, 736, .null),
  (18, .istore 2, 19, 0, 0, .null),
  (19, .iload 2, 20, 0, 0, .null),
  (20, .ifCond .eq 0, 23, 29, 0, .null),
  (23, .aload 0, 24, 0, 0, .null),
  (24, .iload 2, 25, 0, 0, .null),
  (25, .invokevirtual 0, 28, 10, 297, .null),
  (28, .ireturn, 29, 0, 0, .null),
  (29, .aload 0, 30, 0, 0, .null),
  (30, .getfield 0, 33, 6, 5, .retAddr 254),
  (33, .invokevirtual 0, 36, 71, 550, .null),
  (36, .aload 0, 37, 0, 0, .null),
  (37, .getfield 0, 40, 6, 5, .retAddr 254),
  (40, .getfield 0, 43, 1, 4, .retAddr 182),
  (43, .iconst 0, 44, 0, 0, .int 0),
  (44, .iaload, 45, 0, 0, .null),
  (45, .istore 3, 46, 0, 0, .null),
  (46, .iconst 0, 47, 0, 0, .int 0),
  (47, .istore 4, 49, 0, 0, .null),
  (49, .iload 4, 51, 0, 0, .null),
  (51, .aload 0, 52, 0, 0, .null),
  (52, .getfield 0, 55, 6, 0, .retAddr 249),
  (55, .getfield 0, 58, 5, 1, .retAddr 97),
  (58, .iload 1, 59, 0, 0, .null),
  (59, .iaload, 60, 0, 0, .null),
  (60, .if_icmp .ge 0, 63, 96, 0, .null),
  (63, .aload 0, 64, 0, 0, .null),
  (64, .getfield 0, 67, 6, 5, .retAddr 254),
  (67, .getfield 0, 70, 1, 2, .retAddr 178),
  (70, .aload 0, 71, 0, 0, .null),
  (71, .iload 1, 72, 0, 0, .null),
  (72, .iload 4, 74, 0, 0, .null),
  (74, .invokevirtual 0, 77, 114, 744, .null),
  (77, .dup2, 78, 0, 0, .null),
  (78, .iaload, 79, 0, 0, .null),
  (79, .iconst 0, 80, 0, 0, .int 1),
  (80, .aload 0, 81, 0, 0, .null),
  (81, .iload 1, 82, 0, 0, .null),
  (82, .iload 4, 84, 0, 0, .null),
  (84, .invokevirtual 0, 87, 113, 740, .null),
  (87, .ishl, 88, 0, 0, .null),
  (88, .ior, 89, 0, 0, .null),
  (89, .iastore, 90, 0, 0, .null),
  (90, .iinc 4 0, 93, 0, 0, .int 1),
  (93, .goto 0, 96, 49, 0, .null),
  (96, .aload 0, 97, 0, 0, .null),
  (97, .getfield 0, 100, 6, 5, .retAddr 254),
  (100, .invokevirtual 0, 103, 71, 550, .null),
  (103, .aload 0, 104, 0, 0, .null),
  (104, .aload 0, 105, 0, 0, .null),
  (105, .getfield 0, 108, 6, 5, .retAddr 254),
  (108, .getfield 0, 111, 1, 4, .retAddr 182),
  (111, .iconst 0, 112, 0, 0, .int 0),
  (112, .iaload, 113, 0, 0, .null),
  (113, .i2l, 114, 0, 0, .null),
  (114, .iload 3, 115, 0, 0, .null),
  (115, .i2l, 116, 0, 0, .null),
  (116, .invokevirtual 0, 119, 73, 559, .null),
  (119, .iconst 0, 120, 0, 0, .int 1),
  (120, .ireturn, 121, 0, 0, .null)]
def m_S_believe : xM := (117, 6, 5, 2, 1, (6, 129, 0, 0), t_S_believe, 0, fun _ => 0)
def t_S_walks : List xRow := [(0, .aload 0, 1, 0, 0, .null),
  (1, .getfield 0, 4, 6, 0, .retAddr 249),
  (4, .iload 1, 5, 0, 0, .null),
  (5, .invokevirtual 0, 8, 9, 293, .null),
  (8, .ifCond .eq 0, 11, 36, 0, .null),
  (11, .iload 2, 12, 0, 0, .null),
  (12, .iconst 0, 13, 0, 0, .int 1),
  (13, .if_icmp .lt 0, 16, 36, 0, .null),
  (16, .iload 2, 17, 0, 0, .null),
  (17, .iconst 0, 19, 0, 0, .int 16),
  (19, .if_icmp .gt 0, 22, 36, 0, .null),
  (22, .iload 3, 23, 0, 0, .null),
  (23, .iconst 0, 24, 0, 0, .int 1),
  (24, .if_icmp .lt 0, 27, 36, 0, .null),
  (27, .iload 3, 28, 0, 0, .null),
  (28, .i2l, 29, 0, 0, .null),
  (29, .iconst 0, 32, 0, 764, .long 2147483647),
  (32, .lcmp, 33, 0, 0, .null),
  (33, .ifCond .lt 0, 36, 38, 0, .null),
  (36, .iconst 0, 37, 0, 0, .int (-1)),
  (37, .ireturn, 38, 0, 0, .null),
  (38, .aload 0, 39, 0, 0, .null),
  (39, .getfield 0, 42, 6, 2, .retAddr 251),
  (42, .getfield 0, 45, 2, 0, .int 117),
  (45, .iconst 0, 46, 0, 0, .int 2),
  (46, .if_icmp .ge 0, 49, 52, 0, .null),
  (49, .iconst 0, 51, 0, 0, .int (-4)),
  (51, .ireturn, 52, 0, 0, .null),
  (52, .aload 0, 53, 0, 0, .null),
  (53, .iload 1, 54, 0, 0, .null),
  (54, .invokevirtual 0, 57, 89, 623, .null),
  (57, .istore 4, 59, 0, 0, .null),
  (59, .iload 4, 61, 0, 0, .null),
  (61, .ifCond .eq 0, 64, 71, 0, .null),
  (64, .aload 0, 65, 0, 0, .null),
  (65, .iload 4, 67, 0, 0, .null),
  (67, .invokevirtual 0, 70, 10, 297, .null),
  (70, .ireturn, 71, 0, 0, .null),
  (71, .aload 0, 72, 0, 0, .null),
  (72, .getfield 0, 75, 6, 2, .retAddr 251),
  (75, .getfield 0, 78, 2, 1, .int 121),
  (78, .istore 5, 80, 0, 0, .null),
  (80, .iload 3, 81, 0, 0, .null),
  (81, .i2l, 82, 0, 0, .null),
  (82, .lstore 6, 84, 0, 0, .null),
  (84, .iconst 0, 85, 0, 0, .int 0),
  (85, .istore 8, 87, 0, 0, .null),
  (87, .iload 8, 89, 0, 0, .null),
  (89, .iload 2, 90, 0, 0, .null),
  (90, .if_icmp .ge 0, 93, 144, 0, .null),
  (93, .lload 6, 95, 0, 0, .null),
  (95, .iconst 0, 98, 0, 765, .long 48271),
  (98, .lmul, 99, 0, 0, .null),
  (99, .iconst 0, 102, 0, 764, .long 2147483647),
  (102, .lrem, 103, 0, 0, .null),
  (103, .lstore 6, 105, 0, 0, .null),
  (105, .aload 0, 106, 0, 0, .null),
  (106, .iload 1, 107, 0, 0, .null),
  (107, .lload 6, 109, 0, 0, .null),
  (109, .aload 0, 110, 0, 0, .null),
  (110, .getfield 0, 113, 6, 2, .retAddr 251),
  (113, .getfield 0, 116, 2, 0, .int 117),
  (116, .i2l, 117, 0, 0, .null),
  (117, .lrem, 118, 0, 0, .null),
  (118, .l2i, 119, 0, 0, .null),
  (119, .lload 6, 121, 0, 0, .null),
  (121, .iconst 0, 124, 0, 766, .long 64),
  (124, .ldiv, 125, 0, 0, .null),
  (125, .aload 0, 126, 0, 0, .null),
  (126, .getfield 0, 129, 6, 2, .retAddr 251),
  (129, .getfield 0, 132, 2, 0, .int 117),
  (132, .i2l, 133, 0, 0, .null),
  (133, .lrem, 134, 0, 0, .null),
  (134, .l2i, 135, 0, 0, .null),
  (135, .invokevirtual 0, 138, 119, 767, .null),
  (138, .iinc 8 0, 141, 0, 0, .int 1),
  (141, .goto 0, 144, 87, 0, .null),
  (144, .aload 0, 145, 0, 0, .null),
  (145, .getfield 0, 148, 6, 2, .retAddr 251),
  (148, .getfield 0, 151, 2, 1, .int 121),
  (151, .iload 5, 153, 0, 0, .null),
  (153, .isub, 154, 0, 0, .null),
  (154, .ireturn, 155, 0, 0, .null)]
def m_S_walks : xM := (118, 6, 9, 4, 1, (2, 46, 0, 0), t_S_walks, 0, fun _ => 0)
def t_S_walk : List xRow := [(0, .iload 2, 1, 0, 0, .null),
  (1, .iload 3, 2, 0, 0, .null),
  (2, .if_icmp .eq 0, 5, 17, 0, .null),
  (5, .aload 0, 6, 0, 0, .null),
  (6, .getfield 0, 9, 6, 2, .retAddr 251),
  (9, .getfield 0, 12, 2, 1, .int 121),
  (12, .iconst 0, 14, 0, 0, .int 16),
  (14, .if_icmp .lt 0, 17, 18, 0, .null),
  (17, .return_, 18, 0, 0, .null),
  (18, .aload 0, 19, 0, 0, .null),
  (19, .getfield 0, 22, 6, 0, .retAddr 249),
  (22, .iload 1, 23, 0, 0, .null),
  (23, .iload 2, 24, 0, 0, .null),
  (24, .invokevirtual 0, 27, 90, 627, .null),
  (27, .aload 0, 28, 0, 0, .null),
  (28, .getfield 0, 31, 6, 0, .retAddr 249),
  (31, .iload 1, 32, 0, 0, .null),
  (32, .iload 3, 33, 0, 0, .null),
  (33, .invokevirtual 0, 36, 90, 627, .null),
  (36, .if_icmp .le 0, 39, 51, 0, .null),
  (39, .aload 0, 40, 0, 0, .null),
  (40, .getfield 0, 43, 6, 2, .retAddr 251),
  (43, .iload 2, 44, 0, 0, .null),
  (44, .iload 3, 45, 0, 0, .null),
  (45, .invokevirtual 0, 48, 36, 502, .null),
  (48, .goto 0, 51, 60, 0, .null),
  (51, .aload 0, 52, 0, 0, .null),
  (52, .getfield 0, 55, 6, 2, .retAddr 251),
  (55, .iload 3, 56, 0, 0, .null),
  (56, .iload 2, 57, 0, 0, .null),
  (57, .invokevirtual 0, 60, 36, 502, .null),
  (60, .return_, 61, 0, 0, .null)]
def m_S_walk : xM := (119, 6, 4, 4, 0, (1, 23, 0, 0), t_S_walk, 0, fun _ => 0)
def t_S_asked : List xRow := [(0, .aload 0, 1, 0, 0, .null),
  (1, .getfield 0, 4, 6, 8, .int 257),
  (4, .ireturn, 5, 0, 0, .null)]
def m_S_asked : xM := (120, 6, 1, 1, 1, (0, 0, 0, 0), t_S_asked, 0, fun _ => 0)
def t_S_upper : List xRow := [(0, .aload 0, 1, 0, 0, .null),
  (1, .getfield 0, 4, 6, 9, .long 258),
  (4, .lreturn, 5, 0, 0, .null)]
def m_S_upper : xM := (121, 6, 1, 1, 3, (0, 0, 0, 0), t_S_upper, 0, fun _ => 0)
def t_S_lower : List xRow := [(0, .aload 0, 1, 0, 0, .null),
  (1, .getfield 0, 4, 6, 10, .long 259),
  (4, .lreturn, 5, 0, 0, .null)]
def m_S_lower : xM := (122, 6, 1, 1, 3, (0, 0, 0, 0), t_S_lower, 0, fun _ => 0)
def t_S_count : List xRow := [(0, .iload 1, 1, 0, 0, .null),
  (1, .ifCond .lt 0, 4, 10, 0, .null),
  (4, .iload 1, 5, 0, 0, .null),
  (5, .iconst 0, 7, 0, 0, .int 7),
  (7, .if_icmp .le 0, 10, 12, 0, .null),
  (10, .iconst 0, 11, 0, 0, .int (-1)),
  (11, .ireturn, 12, 0, 0, .null),
  (12, .aload 0, 13, 0, 0, .null),
  (13, .iload 1, 14, 0, 0, .null),
  (14, .invokevirtual 0, 17, 124, 787, .null),
  (17, .ireturn, 18, 0, 0, .null)]
def m_S_count : xM := (123, 6, 2, 2, 1, (4, 87, 0, 0), t_S_count, 0, fun _ => 0)
def t_S_howMany : List xRow := [(0, .iload 1, 1, 0, 0, .null),
  (1, .lookupswitch 0 #[], 44, 99, 6, .null),
  (44, .aload 0, 45, 0, 0, .null),
  (45, .getfield 0, 48, 6, 2, .retAddr 251),
  (48, .getfield 0, 51, 2, 0, .int 117),
  (51, .ireturn, 52, 0, 0, .null),
  (52, .aload 0, 53, 0, 0, .null),
  (53, .getfield 0, 56, 6, 2, .retAddr 251),
  (56, .getfield 0, 59, 2, 1, .int 121),
  (59, .ireturn, 60, 0, 0, .null),
  (60, .aload 0, 61, 0, 0, .null),
  (61, .getfield 0, 64, 6, 2, .retAddr 251),
  (64, .invokevirtual 0, 67, 125, 791, .null),
  (67, .ireturn, 68, 0, 0, .null),
  (68, .aload 0, 69, 0, 0, .null),
  (69, .getfield 0, 72, 6, 2, .retAddr 251),
  (72, .iconst 0, 73, 0, 0, .int 1),
  (73, .invokevirtual 0, 76, 56, 485, .null),
  (76, .ireturn, 77, 0, 0, .null),
  (77, .aload 0, 78, 0, 0, .null),
  (78, .getfield 0, 81, 6, 2, .retAddr 251),
  (81, .iconst 0, 82, 0, 0, .int 2),
  (82, .invokevirtual 0, 85, 56, 485, .null),
  (85, .ireturn, 86, 0, 0, .null),
  (86, .aload 0, 87, 0, 0, .null),
  (87, .invokevirtual 0, 90, 126, 795, .null),
  (90, .ireturn, 91, 0, 0, .null),
  (91, .aload 0, 92, 0, 0, .null),
  (92, .getfield 0, 95, 6, 0, .retAddr 249),
  (95, .invokevirtual 0, 98, 127, 799, .null),
  (98, .ireturn, 99, 0, 0, .null),
  (99, .aload 0, 100, 0, 0, .null),
  (100, .getfield 0, 103, 6, 1, .retAddr 250),
  (103, .invokevirtual 0, 106, 127, 799, .null),
  (106, .ireturn, 107, 0, 0, .null)]
def m_S_howMany : xM := (124, 6, 2, 2, 1, (3, 66, 0, 0), t_S_howMany, 0, fun _ => 0)
def t_P_telling : List xRow := [(0, .iconst 0, 1, 0, 0, .int 0),
  (1, .istore 1, 2, 0, 0, .null),
  (2, .iconst 0, 3, 0, 0, .int 0),
  (3, .istore 2, 4, 0, 0, .null),
  (4, .iload 2, 5, 0, 0, .null),
  (5, .aload 0, 6, 0, 0, .null),
  (6, .getfield 0, 9, 2, 1, .int 118),
  (9, .if_icmp .ge 0, 12, 29, 0, .null),
  (12, .aload 0, 13, 0, 0, .null),
  (13, .iload 2, 14, 0, 0, .null),
  (14, .invokevirtual 0, 17, 43, 462, .null),
  (17, .ifCond .eq 0, 20, 23, 0, .null),
  (20, .iinc 1 0, 23, 0, 0, .int 1),
  (23, .iinc 2 0, 26, 0, 0, .int 1),
  (26, .goto 0, 29, 4, 0, .null),
  (29, .iload 1, 30, 0, 0, .null),
  (30, .ireturn, 31, 0, 0, .null)]
def m_P_telling : xM := (125, 2, 3, 1, 1, (2, 44, 0, 0), t_P_telling, 0, fun _ => 0)
def t_S_keptPasses : List xRow := [(0, .iconst 0, 1, 0, 0, .int 0),
  (1, .istore 1, 2, 0, 0, .null),
  (2, .iconst 0, 3, 0, 0, .int 0),
  (3, .istore 2, 4, 0, 0, .null),
  (4, .iload 2, 5, 0, 0, .null),
  (5, .iconst 0, 6, 0, 0, .int 3),
  (6, .if_icmp .ge 0, 9, 26, 0, .null),
  (9, .aload 0, 10, 0, 0, .null),
  (10, .iload 2, 11, 0, 0, .null),
  (11, .invokevirtual 0, 14, 63, 515, .null),
  (14, .ifCond .eq 0, 17, 20, 0, .null),
  (17, .iinc 1 0, 20, 0, 0, .int 1),
  (20, .iinc 2 0, 23, 0, 0, .int 1),
  (23, .goto 0, 26, 4, 0, .null),
  (26, .iload 1, 27, 0, 0, .null),
  (27, .ireturn, 28, 0, 0, .null)]
def m_S_keptPasses : xM := (126, 6, 3, 1, 1, (1, 21, 0, 0), t_S_keptPasses, 0, fun _ => 0)
def t_H_there : List xRow := [(0, .iconst 0, 1, 0, 0, .int 0),
  (1, .istore 1, 2, 0, 0, .null),
  (2, .iconst 0, 3, 0, 0, .int 0),
  (3, .istore 2, 4, 0, 0, .null),
  (4, .iload 2, 5, 0, 0, .null),
  (5, .aload 0, 6, 0, 0, .null),
  (6, .getfield 0, 9, 5, 1, .retAddr 96),
  (9, .arraylength, 10, 0, 0, .null),
  (10, .if_icmp .ge 0, 13, 30, 0, .null),
  (13, .aload 0, 14, 0, 0, .null),
  (14, .iload 2, 15, 0, 0, .null),
  (15, .invokevirtual 0, 18, 14, 803, .null),
  (18, .ifCond .eq 0, 21, 24, 0, .null),
  (21, .iinc 1 0, 24, 0, 0, .int 1),
  (24, .iinc 2 0, 27, 0, 0, .int 1),
  (27, .goto 0, 30, 4, 0, .null),
  (30, .iload 1, 31, 0, 0, .null),
  (31, .ireturn, 32, 0, 0, .null)]
def m_H_there : xM := (127, 5, 3, 1, 1, (1, 21, 0, 0), t_H_there, 0, fun _ => 0)
def t_S_finding : List xRow := [(0, .aload 0, 1, 0, 0, .null),
  (1, .getfield 0, 4, 6, 11, .int 260),
  (4, .ireturn, 5, 0, 0, .null)]
def m_S_finding : xM := (128, 6, 1, 1, 1, (0, 0, 0, 0), t_S_finding, 0, fun _ => 0)
def t_S_findings : List xRow := [(0, .iload 1, 1, 0, 0, .null),
  (1, .iconst 0, 2, 0, 0, .int 1),
  (2, .if_icmp .lt 0, 5, 10, 0, .null),
  (5, .iload 1, 6, 0, 0, .null),
  (6, .iconst 0, 7, 0, 0, .int 5),
  (7, .if_icmp .le 0, 10, 12, 0, .null),
  (10, .iconst 0, 11, 0, 0, .int (-1)),
  (11, .ireturn, 12, 0, 0, .null),
  (12, .aload 0, 13, 0, 0, .null),
  (13, .getfield 0, 16, 6, 12, .retAddr 261),
  (16, .iload 1, 17, 0, 0, .null),
  (17, .iaload, 18, 0, 0, .null),
  (18, .ireturn, 19, 0, 0, .null)]
def m_S_findings : xM := (129, 6, 2, 2, 1, (0, 0, 0, 0), t_S_findings, 0, fun _ => 0)
def t_S_digest : List xRow := [(0, .iconst 0, 3, 0, 816, .long 17),
  (3, .lstore 1, 4, 0, 0, .null),
  (4, .iconst 0, 5, 0, 0, .int 0),
  (5, .istore 3, 6, 0, 0, .null),
  (6, .iload 3, 7, 0, 0, .null),
  (7, .iconst 0, 9, 0, 0, .int 7),
  (9, .if_icmp .gt 0, 12, 31, 0, .null),
  (12, .iconst 0, 15, 0, 817, .long 31),
  (15, .lload 1, 16, 0, 0, .null),
  (16, .lmul, 17, 0, 0, .null),
  (17, .aload 0, 18, 0, 0, .null),
  (18, .iload 3, 19, 0, 0, .null),
  (19, .invokevirtual 0, 22, 124, 787, .null),
  (22, .i2l, 23, 0, 0, .null),
  (23, .ladd, 24, 0, 0, .null),
  (24, .lstore 1, 25, 0, 0, .null),
  (25, .iinc 3 0, 28, 0, 0, .int 1),
  (28, .goto 0, 31, 6, 0, .null),
  (31, .iconst 0, 34, 0, 817, .long 31),
  (34, .lload 1, 35, 0, 0, .null),
  (35, .lmul, 36, 0, 0, .null),
  (36, .aload 0, 37, 0, 0, .null),
  (37, .getfield 0, 40, 6, 2, .retAddr 251),
  (40, .getfield 0, 43, 2, 2, .int 123),
  (43, .i2l, 44, 0, 0, .null),
  (44, .ladd, 45, 0, 0, .null),
  (45, .lstore 1, 46, 0, 0, .null),
  (46, .iconst 0, 47, 0, 0, .int 0),
  (47, .istore 3, 48, 0, 0, .null),
  (48, .iload 3, 49, 0, 0, .null),
  (49, .aload 0, 50, 0, 0, .null),
  (50, .getfield 0, 53, 6, 2, .retAddr 251),
  (53, .getfield 0, 56, 2, 0, .int 117),
  (56, .if_icmp .ge 0, 59, 98, 0, .null),
  (59, .iconst 0, 60, 0, 0, .int 0),
  (60, .istore 4, 62, 0, 0, .null),
  (62, .iload 4, 64, 0, 0, .null),
  (64, .iconst 0, 65, 0, 0, .int 4),
  (65, .if_icmp .gt 0, 68, 92, 0, .null),
  (68, .iconst 0, 71, 0, 817, .long 31),
  (71, .lload 1, 72, 0, 0, .null),
  (72, .lmul, 73, 0, 0, .null),
  (73, .aload 0, 74, 0, 0, .null),
  (74, .getfield 0, 77, 6, 2, .retAddr 251),
  (77, .iload 3, 78, 0, 0, .null),
  (78, .iload 4, 80, 0, 0, .null),
  (80, .invokevirtual 0, 83, 40, 421, .null),
  (83, .i2l, 84, 0, 0, .null),
  (84, .ladd, 85, 0, 0, .null),
  (85, .lstore 1, 86, 0, 0, .null),
  (86, .iinc 4 0, 89, 0, 0, .int 1),
  (89, .goto 0, 92, 62, 0, .null),
  (92, .iinc 3 0, 95, 0, 0, .int 1),
  (95, .goto 0, 98, 48, 0, .null),
  (98, .iconst 0, 99, 0, 0, .int 0),
  (99, .istore 3, 100, 0, 0, .null),
  (100, .iload 3, 101, 0, 0, .null),
  (101, .aload 0, 102, 0, 0, .null),
  (102, .getfield 0, 105, 6, 2, .retAddr 251),
  (105, .getfield 0, 108, 2, 1, .int 121),
  (108, .if_icmp .ge 0, 111, 133, 0, .null),
  (111, .iconst 0, 114, 0, 817, .long 31),
  (114, .lload 1, 115, 0, 0, .null),
  (115, .lmul, 116, 0, 0, .null),
  (116, .aload 0, 117, 0, 0, .null),
  (117, .getfield 0, 120, 6, 2, .retAddr 251),
  (120, .iload 3, 121, 0, 0, .null),
  (121, .invokevirtual 0, 124, 46, 443, .null),
  (124, .i2l, 125, 0, 0, .null),
  (125, .ladd, 126, 0, 0, .null),
  (126, .lstore 1, 127, 0, 0, .null),
  (127, .iinc 3 0, 130, 0, 0, .int 1),
  (130, .goto 0, 133, 100, 0, .null),
  (133, .iconst 0, 134, 0, 0, .int 0),
  (134, .istore 3, 135, 0, 0, .null),
  (135, .iload 3, 136, 0, 0, .null),
  (136, .iconst 0, 137, 0, 0, .int 3),
  (137, .if_icmp .ge 0, 140, 175, 0, .null),
  (140, .iconst 0, 143, 0, 817, .long 31),
  (143, .lload 1, 144, 0, 0, .null),
  (144, .lmul, 145, 0, 0, .null),
  (145, .aload 0, 146, 0, 0, .null),
  (146, .iload 3, 147, 0, 0, .null),
  (147, .invokevirtual 0, 150, 63, 515, .null),
  (150, .ifCond .eq 0, 153, 165, 0, .null),
  (153, .aload 0, 154, 0, 0, .null),
  (154, .getfield 0, 157, 6, 4, .retAddr 253),
  (157, .iload 3, 158, 0, 0, .null),
  (158, .aaload, 159, 0, 0, .null),
  (159, .getfield 0, 162, 2, 1, .int 121),
  (162, .goto 0, 165, 166, 0, .null),
  (165, .iconst 0, 166, 0, 0, .int (-1)),
  (166, .i2l, 167, 0, 0, .null),
  (167, .ladd, 168, 0, 0, .null),
  (168, .lstore 1, 169, 0, 0, .null),
  (169, .iinc 3 0, 172, 0, 0, .int 1),
  (172, .goto 0, 175, 135, 0, .null),
  (175, .aload 0, 176, 0, 0, .null),
  (176, .getfield 0, 179, 6, 1, .retAddr 250),
  (179, .aload 0, 180, 0, 0, .null),
  (180, .getfield 0, 183, 6, 0, .retAddr 249),
  (183, .lload 1, 184, 0, 0, .null),
  (184, .invokevirtual 0, 187, 131, 818, .null),
  (187, .invokevirtual 0, 190, 131, 818, .null),
  (190, .lreturn, 191, 0, 0, .null)]
def m_S_digest : xM := (130, 6, 5, 1, 3, (4, 87, 0, 0), t_S_digest, 0, fun _ => 0)
def t_H_addTo : List xRow := [(0, .lload 1, 1, 0, 0, .null),
  (1, .lstore 3, 2, 0, 0, .null),
  (2, .iconst 0, 3, 0, 0, .int 0),
  (3, .istore 5, 5, 0, 0, .null),
  (5, .iload 5, 7, 0, 0, .null),
  (7, .aload 0, 8, 0, 0, .null),
  (8, .getfield 0, 11, 5, 1, .retAddr 96),
  (11, .arraylength, 12, 0, 0, .null),
  (12, .if_icmp .ge 0, 15, 75, 0, .null),
  (15, .iconst 0, 18, 0, 822, .long 31),
  (18, .lload 3, 19, 0, 0, .null),
  (19, .lmul, 20, 0, 0, .null),
  (20, .aload 0, 21, 0, 0, .null),
  (21, .getfield 0, 24, 5, 1, .retAddr 96),
  (24, .iload 5, 26, 0, 0, .null),
  (26, .iaload, 27, 0, 0, .null),
  (27, .i2l, 28, 0, 0, .null),
  (28, .ladd, 29, 0, 0, .null),
  (29, .lstore 3, 30, 0, 0, .null),
  (30, .iconst 0, 31, 0, 0, .int 0),
  (31, .istore 6, 33, 0, 0, .null),
  (33, .iload 6, 35, 0, 0, .null),
  (35, .aload 0, 36, 0, 0, .null),
  (36, .getfield 0, 39, 5, 1, .retAddr 96),
  (39, .iload 5, 41, 0, 0, .null),
  (41, .iaload, 42, 0, 0, .null),
  (42, .if_icmp .ge 0, 45, 69, 0, .null),
  (45, .iconst 0, 48, 0, 822, .long 31),
  (48, .lload 3, 49, 0, 0, .null),
  (49, .lmul, 50, 0, 0, .null),
  (50, .aload 0, 51, 0, 0, .null),
  (51, .getfield 0, 54, 5, 0, .retAddr 94),
  (54, .iload 5, 56, 0, 0, .null),
  (56, .aaload, 57, 0, 0, .null),
  (57, .iload 6, 59, 0, 0, .null),
  (59, .iaload, 60, 0, 0, .null),
  (60, .i2l, 61, 0, 0, .null),
  (61, .ladd, 62, 0, 0, .null),
  (62, .lstore 3, 63, 0, 0, .null),
  (63, .iinc 6 0, 66, 0, 0, .int 1),
  (66, .goto 0, 69, 33, 0, .null),
  (69, .iinc 5 0, 72, 0, 0, .int 1),
  (72, .goto 0, 75, 5, 0, .null),
  (75, .lload 3, 76, 0, 0, .null),
  (76, .lreturn, 77, 0, 0, .null)]
def m_H_addTo : xM := (131, 5, 7, 2, 3, (0, 0, 0, 0), t_H_addTo, 0, fun _ => 0)
def t_M_init : List xRow := [(0, .aload 0, 1, 0, 0, .null),
  (1, .invokedynamic 0, 4, 0, 828, .null),
  (4, .aload 0, 5, 0, 0, .null),
  (5, .iconst 0, 7, 0, 0, .int 6),
  (7, .newarray .int, 9, 0, 0, .null),
  (9, .putfield 0, 12, 7, 1, .retAddr 830),
  (12, .aload 0, 13, 0, 0, .null),
  (13, .iconst 0, 14, 0, 0, .long 1),
  (14, .putfield 0, 17, 7, 4, .long 833),
  (17, .aload 0, 18, 0, 0, .null),
  (18, .iconst 0, 20, 0, 0, .int 6),
  (20, .newarray .int, 22, 0, 0, .null),
  (22, .putfield 0, 25, 7, 5, .retAddr 834),
  (25, .aload 0, 26, 0, 0, .null),
  (26, .iconst 0, 29, 0, 0, .int 240),
  (29, .newarray .int, 31, 0, 0, .null),
  (31, .putfield 0, 34, 7, 6, .retAddr 835),
  (34, .aload 0, 35, 0, 0, .null),
  (35, .iconst 0, 37, 0, 0, .int 40),
  (37, .newarray .int, 39, 0, 0, .null),
  (39, .putfield 0, 42, 7, 7, .retAddr 836),
  (42, .aload 0, 43, 0, 0, .null),
  (43, .iconst 0, 44, 0, 0, .int 4),
  (44, .newarray .int, 46, 0, 0, .null),
  (46, .putfield 0, 49, 7, 8, .retAddr 837),
  (49, .aload 0, 50, 0, 0, .null),
  (50, .iconst 0, 53, 0, 0, .int 320),
  (53, .newarray .int, 55, 0, 0, .null),
  (55, .putfield 0, 58, 7, 9, .retAddr 838),
  (58, .aload 0, 59, 0, 0, .null),
  (59, .iconst 0, 61, 0, 0, .int 7),
  (61, .newarray .int, 63, 0, 0, .null),
  (63, .putfield 0, 66, 7, 11, .retAddr 840),
  (66, .aload 0, 67, 0, 0, .null),
  (67, .iconst 0, 69, 0, 0, .int 7),
  (69, .newarray .int, 71, 0, 0, .null),
  (71, .putfield 0, 74, 7, 12, .retAddr 841),
  (74, .aload 0, 75, 0, 0, .null),
  (75, .iconst 0, 77, 0, 0, .int 7),
  (77, .newarray .int, 79, 0, 0, .null),
  (79, .putfield 0, 82, 7, 13, .retAddr 842),
  (82, .aload 0, 83, 0, 0, .null),
  (83, .iconst 0, 85, 0, 0, .int 16),
  (85, .newarray .int, 87, 0, 0, .null),
  (87, .putfield 0, 90, 7, 15, .retAddr 844),
  (90, .aload 0, 91, 0, 0, .null),
  (91, .iconst 0, 93, 0, 0, .int 16),
  (93, .newarray .int, 95, 0, 0, .null),
  (95, .putfield 0, 98, 7, 16, .retAddr 845),
  (98, .aload 0, 99, 0, 0, .null),
  (99, .iconst 0, 101, 0, 0, .int 7),
  (101, .newarray .int, 103, 0, 0, .null),
  (103, .putfield 0, 106, 7, 21, .retAddr 850),
  (106, .aload 0, 107, 0, 0, .null),
  (107, .iconst 0, 109, 0, 0, .int 7),
  (109, .newarray .int, 111, 0, 0, .null),
  (111, .putfield 0, 114, 7, 22, .retAddr 851),
  (114, .aload 0, 115, 0, 0, .null),
  (115, .iconst 0, 117, 0, 0, .int 7),
  (117, .newarray .int, 119, 0, 0, .null),
  (119, .putfield 0, 122, 7, 23, .retAddr 852),
  (122, .aload 0, 123, 0, 0, .null),
  (123, .iconst 0, 125, 0, 0, .int 16),
  (125, .newarray .int, 127, 0, 0, .null),
  (127, .putfield 0, 130, 7, 24, .retAddr 853),
  (130, .aload 0, 131, 0, 0, .null),
  (131, .iconst 0, 133, 0, 0, .int 16),
  (133, .newarray .int, 135, 0, 0, .null),
  (135, .putfield 0, 138, 7, 25, .retAddr 854),
  (138, .aload 0, 139, 0, 0, .null),
  (139, .iconst 0, 141, 0, 0, .int 126),
  (141, .newarray .int, 143, 0, 0, .null),
  (143, .putfield 0, 146, 7, 26, .retAddr 855),
  (146, .aload 0, 147, 0, 0, .null),
  (147, .iconst 0, 149, 0, 0, .int 7),
  (149, .newarray .int, 151, 0, 0, .null),
  (151, .putfield 0, 154, 7, 27, .retAddr 856),
  (154, .aload 0, 155, 0, 0, .null),
  (155, .iconst 0, 157, 0, 0, .int 7),
  (157, .newarray .int, 159, 0, 0, .null),
  (159, .putfield 0, 162, 7, 28, .retAddr 857),
  (162, .aload 0, 163, 0, 0, .null),
  (163, .iconst 0, 166, 0, 0, .int 128),
  (166, .newarray .int, 168, 0, 0, .null),
  (168, .putfield 0, 171, 7, 29, .retAddr 858),
  (171, .aload 0, 172, 0, 0, .null),
  (172, .iconst 0, 174, 0, 0, .int 7),
  (174, .newarray .int, 176, 0, 0, .null),
  (176, .putfield 0, 179, 7, 30, .retAddr 859),
  (179, .aload 0, 180, 0, 0, .null),
  (180, .iconst 0, 182, 0, 0, .int 7),
  (182, .newarray .int, 184, 0, 0, .null),
  (184, .putfield 0, 187, 7, 31, .retAddr 860),
  (187, .aload 0, 188, 0, 0, .null),
  (188, .iconst 0, 190, 0, 0, .int 7),
  (190, .newarray .int, 192, 0, 0, .null),
  (192, .putfield 0, 195, 7, 32, .retAddr 861),
  (195, .aload 0, 196, 0, 0, .null),
  (196, .iconst 0, 199, 0, 0, .int 128),
  (199, .newarray .int, 201, 0, 0, .null),
  (201, .putfield 0, 204, 7, 33, .retAddr 862),
  (204, .aload 0, 205, 0, 0, .null),
  (205, .iconst 0, 208, 0, 0, .int 128),
  (208, .newarray .boolean, 210, 0, 0, .null),
  (210, .putfield 0, 213, 7, 34, .retAddr 863),
  (213, .iconst 0, 214, 0, 0, .int 0),
  (214, .istore 1, 215, 0, 0, .null),
  (215, .iload 1, 216, 0, 0, .null),
  (216, .iconst 0, 218, 0, 0, .int 6),
  (218, .if_icmp .ge 0, 221, 235, 0, .null),
  (221, .aload 0, 222, 0, 0, .null),
  (222, .getfield 0, 225, 7, 5, .retAddr 834),
  (225, .iload 1, 226, 0, 0, .null),
  (226, .iconst 0, 228, 0, 0, .int (-9)),
  (228, .iastore, 229, 0, 0, .null),
  (229, .iinc 1 0, 232, 0, 0, .int 1),
  (232, .goto 0, 235, 215, 0, .null),
  (235, .iconst 0, 236, 0, 0, .int 0),
  (236, .istore 1, 237, 0, 0, .null),
  (237, .iload 1, 238, 0, 0, .null),
  (238, .iconst 0, 239, 0, 0, .int 4),
  (239, .if_icmp .ge 0, 242, 256, 0, .null),
  (242, .aload 0, 243, 0, 0, .null),
  (243, .getfield 0, 246, 7, 8, .retAddr 837),
  (246, .iload 1, 247, 0, 0, .null),
  (247, .iconst 0, 249, 0, 0, .int (-9)),
  (249, .iastore, 250, 0, 0, .null),
  (250, .iinc 1 0, 253, 0, 0, .int 1),
  (253, .goto 0, 256, 237, 0, .null),
  (256, .iconst 0, 257, 0, 0, .int 0),
  (257, .istore 1, 258, 0, 0, .null),
  (258, .iload 1, 259, 0, 0, .null),
  (259, .iconst 0, 260, 0, 0, .int 3),
  (260, .if_icmp .ge 0, 263, 280, 0, .null),
  (263, .aload 0, 264, 0, 0, .null),
  (264, .getfield 0, 267, 7, 26, .retAddr 855),
  (267, .iconst 0, 269, 0, 0, .int 42),
  (269, .iload 1, 270, 0, 0, .null),
  (270, .imul, 271, 0, 0, .null),
  (271, .iconst 0, 273, 0, 0, .int (-9)),
  (273, .iastore, 274, 0, 0, .null),
  (274, .iinc 1 0, 277, 0, 0, .int 1),
  (277, .goto 0, 280, 258, 0, .null),
  (280, .return_, 281, 0, 0, .null)]
def m_M_init : xM := (132, 7, 2, 1, 0, (1, 21, 25, 1267), t_M_init, 0, fun _ => 0)
def t_M_row : List xRow := [(0, .iload 1, 1, 0, 0, .null),
  (1, .invokestatic 0, 4, 134, 943, .null),
  (4, .ifCond .eq 0, 7, 13, 0, .null),
  (7, .iload 2, 8, 0, 0, .null),
  (8, .iconst 0, 10, 0, 0, .int 40),
  (10, .if_icmp .le 0, 13, 15, 0, .null),
  (13, .iconst 0, 14, 0, 0, .int (-1)),
  (14, .ireturn, 15, 0, 0, .null),
  (15, .iload 2, 16, 0, 0, .null),
  (16, .ifCond .ge 0, 19, 25, 0, .null),
  (19, .aload 0, 20, 0, 0, .null),
  (20, .iconst 0, 21, 0, 0, .int 5),
  (21, .invokevirtual 0, 24, 136, 949, .null),
  (24, .ireturn, 25, 0, 0, .null),
  (25, .aload 0, 26, 0, 0, .null),
  (26, .getfield 0, 29, 7, 5, .retAddr 834),
  (29, .iload 1, 30, 0, 0, .null),
  (30, .iload 2, 31, 0, 0, .null),
  (31, .iastore, 32, 0, 0, .null),
  (32, .iconst 0, 33, 0, 0, .int 0),
  (33, .istore 3, 34, 0, 0, .null),
  (34, .iload 3, 35, 0, 0, .null),
  (35, .iconst 0, 37, 0, 0, .int 40),
  (37, .if_icmp .ge 0, 40, 58, 0, .null),
  (40, .aload 0, 41, 0, 0, .null),
  (41, .getfield 0, 44, 7, 6, .retAddr 835),
  (44, .iconst 0, 46, 0, 0, .int 40),
  (46, .iload 1, 47, 0, 0, .null),
  (47, .imul, 48, 0, 0, .null),
  (48, .iload 3, 49, 0, 0, .null),
  (49, .iadd, 50, 0, 0, .null),
  (50, .iconst 0, 51, 0, 0, .int 0),
  (51, .iastore, 52, 0, 0, .null),
  (52, .iinc 3 0, 55, 0, 0, .int 1),
  (55, .goto 0, 58, 34, 0, .null),
  (58, .iload 2, 59, 0, 0, .null),
  (59, .ireturn, 60, 0, 0, .null)]
def m_M_row : xM := (133, 7, 4, 3, 1, (2, 42, 0, 0), t_M_row, 0, fun _ => 0)
def t_M_isRow : List xRow := [(0, .iload 0, 1, 0, 0, .null),
  (1, .iconst 0, 2, 0, 0, .int 0),
  (2, .iconst 0, 3, 0, 0, .int 5),
  (3, .invokestatic 0, 6, 135, 946, .null),
  (6, .ireturn, 7, 0, 0, .null)]
def m_M_isRow : xM := (134, 7, 1, 1, 2, (1, 22, 0, 0), t_M_isRow, 0, fun _ => 0)
def t_M_in : List xRow := [(0, .iload 0, 1, 0, 0, .null),
  (1, .iload 1, 2, 0, 0, .null),
  (2, .if_icmp .lt 0, 5, 14, 0, .null),
  (5, .iload 0, 6, 0, 0, .null),
  (6, .iload 2, 7, 0, 0, .null),
  (7, .if_icmp .gt 0, 10, 14, 0, .null),
  (10, .iconst 0, 11, 0, 0, .int 1),
  (11, .goto 0, 14, 15, 0, .null),
  (14, .iconst 0, 15, 0, 0, .int 0),
  (15, .ireturn, 16, 0, 0, .null)]
def m_M_in : xM := (135, 7, 3, 3, 2, (0, 0, 0, 0), t_M_in, 0, fun _ => 0)
def t_M_finds : List xRow := [(0, .aload 0, 1, 0, 0, .null),
  (1, .iload 1, 2, 0, 0, .null),
  (2, .putfield 0, 5, 7, 0, .int 829),
  (5, .aload 0, 6, 0, 0, .null),
  (6, .getfield 0, 9, 7, 1, .retAddr 830),
  (9, .iload 1, 10, 0, 0, .null),
  (10, .dup2, 11, 0, 0, .null),
  (11, .iaload, 12, 0, 0, .null),
  (12, .iconst 0, 13, 0, 0, .int 1),
  (13, .iadd, 14, 0, 0, .null),
  (14, .iastore, 15, 0, 0, .null),
  (15, .iconst 0, 17, 0, 0, .int (-3)),
  (17, .ireturn, 18, 0, 0, .null)]
def m_M_finds : xM := (136, 7, 2, 2, 1, (0, 0, 0, 0), t_M_finds, 0, fun _ => 0)
def t_M_lay : List xRow := [(0, .aload 0, 1, 0, 0, .null),
  (1, .iload 1, 2, 0, 0, .null),
  (2, .invokevirtual 0, 5, 138, 957, .null),
  (5, .istore 4, 7, 0, 0, .null),
  (7, .iload 4, 9, 0, 0, .null),
  (9, .ifCond .eq 0, 12, 15, 0, .null),
  (12, .iload 4, 14, 0, 0, .null),
  (14, .ireturn, 15, 0, 0, .null),
  (15, .iload 2, 16, 0, 0, .null),
  (16, .iconst 0, 17, 0, 0, .int 0),
  (17, .aload 0, 18, 0, 0, .null),
  (18, .getfield 0, 21, 7, 5, .retAddr 834),
  (21, .iload 1, 22, 0, 0, .null),
  (22, .iaload, 23, 0, 0, .null),
  (23, .iconst 0, 24, 0, 0, .int 1),
  (24, .isub, 25, 0, 0, .null),
  (25, .invokestatic 0, 28, 135, 946, .null),
  (28, .ifCond .ne 0, 31, 37, 0, .null),
  (31, .aload 0, 32, 0, 0, .null),
  (32, .iconst 0, 33, 0, 0, .int 2),
  (33, .invokevirtual 0, 36, 136, 949, .null),
  (36, .ireturn, 37, 0, 0, .null),
  (37, .aload 0, 38, 0, 0, .null),
  (38, .getfield 0, 41, 7, 6, .retAddr 835),
  (41, .iconst 0, 43, 0, 0, .int 40),
  (43, .iload 1, 44, 0, 0, .null),
  (44, .imul, 45, 0, 0, .null),
  (45, .iload 2, 46, 0, 0, .null),
  (46, .iadd, 47, 0, 0, .null),
  (47, .iaload, 48, 0, 0, .null),
  (48, .istore 5, 50, 0, 0, .null),
  (50, .aload 0, 51, 0, 0, .null),
  (51, .getfield 0, 54, 7, 6, .retAddr 835),
  (54, .iconst 0, 56, 0, 0, .int 40),
  (56, .iload 1, 57, 0, 0, .null),
  (57, .imul, 58, 0, 0, .null),
  (58, .iload 2, 59, 0, 0, .null),
  (59, .iadd, 60, 0, 0, .null),
  (60, .iload 3, 61, 0, 0, .null),
  (61, .iastore, 62, 0, 0, .null),
  (62, .aload 0, 63, 0, 0, .null),
  (63, .iload 5, 65, 0, 0, .null),
  (65, .iconst 0, 66, 0, 0, .int 1),
  (66, .invokevirtual 0, 69, 139, 961, .null),
  (69, .ireturn, 70, 0, 0, .null)]
def m_M_lay : xM := (137, 7, 6, 4, 1, (3, 63, 0, 0), t_M_lay, 0, fun _ => 0)
def t_M_rowBar : List xRow := [(0, .iload 1, 1, 0, 0, .null),
  (1, .invokestatic 0, 4, 134, 943, .null),
  (4, .ifCond .ne 0, 7, 11, 0, .null),
  (7, .iconst 0, 8, 0, 0, .int (-1)),
  (8, .goto 0, 11, 31, 0, .null),
  (11, .aload 0, 12, 0, 0, .null),
  (12, .getfield 0, 15, 7, 5, .retAddr 834),
  (15, .iload 1, 16, 0, 0, .null),
  (16, .iaload, 17, 0, 0, .null),
  (17, .iconst 0, 19, 0, 0, .int (-9)),
  (19, .if_icmp .ne 0, 22, 30, 0, .null),
  (22, .aload 0, 23, 0, 0, .null),
  (23, .iconst 0, 24, 0, 0, .int 1),
  (24, .invokevirtual 0, 27, 136, 949, .null),
  (27, .goto 0, 30, 31, 0, .null),
  (30, .iconst 0, 31, 0, 0, .int 0),
  (31, .ireturn, 32, 0, 0, .null)]
def m_M_rowBar : xM := (138, 7, 2, 2, 1, (2, 42, 0, 0), t_M_rowBar, 0, fun _ => 0)
def t_M_tells : List xRow := [(0, .aload 0, 1, 0, 0, .null),
  (1, .iload 1, 2, 0, 0, .null),
  (2, .putfield 0, 5, 7, 2, .int 831),
  (5, .iload 2, 6, 0, 0, .null),
  (6, .ireturn, 7, 0, 0, .null)]
def m_M_tells : xM := (139, 7, 3, 3, 1, (0, 0, 0, 0), t_M_tells, 0, fun _ => 0)
def t_M_at : List xRow := [(0, .aload 0, 1, 0, 0, .null),
  (1, .iload 1, 2, 0, 0, .null),
  (2, .invokevirtual 0, 5, 138, 957, .null),
  (5, .istore 3, 6, 0, 0, .null),
  (6, .iload 3, 7, 0, 0, .null),
  (7, .ifCond .eq 0, 10, 12, 0, .null),
  (10, .iload 3, 11, 0, 0, .null),
  (11, .ireturn, 12, 0, 0, .null),
  (12, .iload 2, 13, 0, 0, .null),
  (13, .iconst 0, 14, 0, 0, .int 0),
  (14, .aload 0, 15, 0, 0, .null),
  (15, .getfield 0, 18, 7, 5, .retAddr 834),
  (18, .iload 1, 19, 0, 0, .null),
  (19, .iaload, 20, 0, 0, .null),
  (20, .iconst 0, 21, 0, 0, .int 1),
  (21, .isub, 22, 0, 0, .null),
  (22, .invokestatic 0, 25, 135, 946, .null),
  (25, .ifCond .eq 0, 28, 47, 0, .null),
  (28, .aload 0, 29, 0, 0, .null),
  (29, .aload 0, 30, 0, 0, .null),
  (30, .getfield 0, 33, 7, 6, .retAddr 835),
  (33, .iconst 0, 35, 0, 0, .int 40),
  (35, .iload 1, 36, 0, 0, .null),
  (36, .imul, 37, 0, 0, .null),
  (37, .iload 2, 38, 0, 0, .null),
  (38, .iadd, 39, 0, 0, .null),
  (39, .iaload, 40, 0, 0, .null),
  (40, .iconst 0, 41, 0, 0, .int 1),
  (41, .invokevirtual 0, 44, 139, 961, .null),
  (44, .goto 0, 47, 52, 0, .null),
  (47, .aload 0, 48, 0, 0, .null),
  (48, .iconst 0, 49, 0, 0, .int 2),
  (49, .invokevirtual 0, 52, 136, 949, .null),
  (52, .ireturn, 53, 0, 0, .null)]
def m_M_at : xM := (140, 7, 4, 3, 1, (3, 63, 0, 0), t_M_at, 0, fun _ => 0)
def t_M_tear : List xRow := [(0, .aload 0, 1, 0, 0, .null),
  (1, .iload 1, 2, 0, 0, .null),
  (2, .invokevirtual 0, 5, 138, 957, .null),
  (5, .istore 2, 6, 0, 0, .null),
  (6, .iload 2, 7, 0, 0, .null),
  (7, .ifCond .eq 0, 10, 12, 0, .null),
  (10, .iload 2, 11, 0, 0, .null),
  (11, .ireturn, 12, 0, 0, .null),
  (12, .aload 0, 13, 0, 0, .null),
  (13, .getfield 0, 16, 7, 5, .retAddr 834),
  (16, .iload 1, 17, 0, 0, .null),
  (17, .iconst 0, 19, 0, 0, .int (-9)),
  (19, .iastore, 20, 0, 0, .null),
  (20, .iconst 0, 21, 0, 0, .int 1),
  (21, .ireturn, 22, 0, 0, .null)]
def m_M_tear : xM := (141, 7, 3, 2, 1, (3, 63, 0, 0), t_M_tear, 0, fun _ => 0)
def t_M_copy : List xRow := [(0, .iload 1, 1, 0, 0, .null),
  (1, .invokestatic 0, 4, 134, 943, .null),
  (4, .ifCond .eq 0, 7, 14, 0, .null),
  (7, .iload 3, 8, 0, 0, .null),
  (8, .invokestatic 0, 11, 134, 943, .null),
  (11, .ifCond .ne 0, 14, 16, 0, .null),
  (14, .iconst 0, 15, 0, 0, .int (-1)),
  (15, .ireturn, 16, 0, 0, .null),
  (16, .iload 5, 18, 0, 0, .null),
  (18, .ifCond .ge 0, 21, 27, 0, .null),
  (21, .aload 0, 22, 0, 0, .null),
  (22, .iconst 0, 23, 0, 0, .int 5),
  (23, .invokevirtual 0, 26, 136, 949, .null),
  (26, .ireturn, 27, 0, 0, .null),
  (27, .aload 0, 28, 0, 0, .null),
  (28, .getfield 0, 31, 7, 5, .retAddr 834),
  (31, .iload 1, 32, 0, 0, .null),
  (32, .iaload, 33, 0, 0, .null),
  (33, .iconst 0, 35, 0, 0, .int (-9)),
  (35, .if_icmp .eq 0, 38, 49, 0, .null),
  (38, .aload 0, 39, 0, 0, .null),
  (39, .getfield 0, 42, 7, 5, .retAddr 834),
  (42, .iload 3, 43, 0, 0, .null),
  (43, .iaload, 44, 0, 0, .null),
  (44, .iconst 0, 46, 0, 0, .int (-9)),
  (46, .if_icmp .ne 0, 49, 55, 0, .null),
  (49, .aload 0, 50, 0, 0, .null),
  (50, .iconst 0, 51, 0, 0, .int 1),
  (51, .invokevirtual 0, 54, 136, 949, .null),
  (54, .ireturn, 55, 0, 0, .null),
  (55, .iload 2, 56, 0, 0, .null),
  (56, .ifCond .lt 0, 59, 91, 0, .null),
  (59, .iload 4, 61, 0, 0, .null),
  (61, .ifCond .lt 0, 64, 91, 0, .null),
  (64, .iload 2, 65, 0, 0, .null),
  (65, .aload 0, 66, 0, 0, .null),
  (66, .getfield 0, 69, 7, 5, .retAddr 834),
  (69, .iload 1, 70, 0, 0, .null),
  (70, .iaload, 71, 0, 0, .null),
  (71, .iload 5, 73, 0, 0, .null),
  (73, .isub, 74, 0, 0, .null),
  (74, .if_icmp .gt 0, 77, 91, 0, .null),
  (77, .iload 4, 79, 0, 0, .null),
  (79, .aload 0, 80, 0, 0, .null),
  (80, .getfield 0, 83, 7, 5, .retAddr 834),
  (83, .iload 3, 84, 0, 0, .null),
  (84, .iaload, 85, 0, 0, .null),
  (85, .iload 5, 87, 0, 0, .null),
  (87, .isub, 88, 0, 0, .null),
  (88, .if_icmp .le 0, 91, 97, 0, .null),
  (91, .aload 0, 92, 0, 0, .null),
  (92, .iconst 0, 93, 0, 0, .int 2),
  (93, .invokevirtual 0, 96, 136, 949, .null),
  (96, .ireturn, 97, 0, 0, .null),
  (97, .iconst 0, 98, 0, 0, .int 0),
  (98, .istore 6, 100, 0, 0, .null),
  (100, .iload 6, 102, 0, 0, .null),
  (102, .iload 5, 104, 0, 0, .null),
  (104, .if_icmp .ge 0, 107, 134, 0, .null),
  (107, .aload 0, 108, 0, 0, .null),
  (108, .getfield 0, 111, 7, 7, .retAddr 836),
  (111, .iload 6, 113, 0, 0, .null),
  (113, .aload 0, 114, 0, 0, .null),
  (114, .getfield 0, 117, 7, 6, .retAddr 835),
  (117, .iconst 0, 119, 0, 0, .int 40),
  (119, .iload 1, 120, 0, 0, .null),
  (120, .imul, 121, 0, 0, .null),
  (121, .iload 2, 122, 0, 0, .null),
  (122, .iadd, 123, 0, 0, .null),
  (123, .iload 6, 125, 0, 0, .null),
  (125, .iadd, 126, 0, 0, .null),
  (126, .iaload, 127, 0, 0, .null),
  (127, .iastore, 128, 0, 0, .null),
  (128, .iinc 6 0, 131, 0, 0, .int 1),
  (131, .goto 0, 134, 100, 0, .null),
  (134, .iconst 0, 135, 0, 0, .int 0),
  (135, .istore 6, 137, 0, 0, .null),
  (137, .iload 6, 139, 0, 0, .null),
  (139, .iload 5, 141, 0, 0, .null),
  (141, .if_icmp .ge 0, 144, 172, 0, .null),
  (144, .aload 0, 145, 0, 0, .null),
  (145, .getfield 0, 148, 7, 6, .retAddr 835),
  (148, .iconst 0, 150, 0, 0, .int 40),
  (150, .iload 3, 151, 0, 0, .null),
  (151, .imul, 152, 0, 0, .null),
  (152, .iload 4, 154, 0, 0, .null),
  (154, .iadd, 155, 0, 0, .null),
  (155, .iload 6, 157, 0, 0, .null),
  (157, .iadd, 158, 0, 0, .null),
  (158, .aload 0, 159, 0, 0, .null),
  (159, .getfield 0, 162, 7, 7, .retAddr 836),
  (162, .iload 6, 164, 0, 0, .null),
  (164, .iaload, 165, 0, 0, .null),
  (165, .iastore, 166, 0, 0, .null),
  (166, .iinc 6 0, 169, 0, 0, .int 1),
  (169, .goto 0, 172, 137, 0, .null),
  (172, .iconst 0, 173, 0, 0, .int 1),
  (173, .ireturn, 174, 0, 0, .null)]
def m_M_copy : xM := (142, 7, 7, 6, 1, (2, 42, 0, 0), t_M_copy, 0, fun _ => 0)
def t_M_mean : List xRow := [(0, .aload 0, 1, 0, 0, .null),
  (1, .iload 1, 2, 0, 0, .null),
  (2, .invokevirtual 0, 5, 138, 957, .null),
  (5, .istore 2, 6, 0, 0, .null),
  (6, .iload 2, 7, 0, 0, .null),
  (7, .ifCond .eq 0, 10, 12, 0, .null),
  (10, .iload 2, 11, 0, 0, .null),
  (11, .ireturn, 12, 0, 0, .null),
  (12, .aload 0, 13, 0, 0, .null),
  (13, .getfield 0, 16, 7, 5, .retAddr 834),
  (16, .iload 1, 17, 0, 0, .null),
  (17, .iaload, 18, 0, 0, .null),
  (18, .ifCond .ne 0, 21, 27, 0, .null),
  (21, .aload 0, 22, 0, 0, .null),
  (22, .iconst 0, 23, 0, 0, .int 4),
  (23, .invokevirtual 0, 26, 136, 949, .null),
  (26, .ireturn, 27, 0, 0, .null),
  (27, .iconst 0, 28, 0, 0, .long 0),
  (28, .lstore 3, 29, 0, 0, .null),
  (29, .iconst 0, 30, 0, 0, .int 0),
  (30, .istore 5, 32, 0, 0, .null),
  (32, .iload 5, 34, 0, 0, .null),
  (34, .aload 0, 35, 0, 0, .null),
  (35, .getfield 0, 38, 7, 5, .retAddr 834),
  (38, .iload 1, 39, 0, 0, .null),
  (39, .iaload, 40, 0, 0, .null),
  (40, .if_icmp .ge 0, 43, 65, 0, .null),
  (43, .lload 3, 44, 0, 0, .null),
  (44, .aload 0, 45, 0, 0, .null),
  (45, .getfield 0, 48, 7, 6, .retAddr 835),
  (48, .iconst 0, 50, 0, 0, .int 40),
  (50, .iload 1, 51, 0, 0, .null),
  (51, .imul, 52, 0, 0, .null),
  (52, .iload 5, 54, 0, 0, .null),
  (54, .iadd, 55, 0, 0, .null),
  (55, .iaload, 56, 0, 0, .null),
  (56, .i2l, 57, 0, 0, .null),
  (57, .ladd, 58, 0, 0, .null),
  (58, .lstore 3, 59, 0, 0, .null),
  (59, .iinc 5 0, 62, 0, 0, .int 1),
  (62, .goto 0, 65, 32, 0, .null),
  (65, .aload 0, 66, 0, 0, .null),
  (66, .lload 3, 67, 0, 0, .null),
  (67, .aload 0, 68, 0, 0, .null),
  (68, .getfield 0, 71, 7, 5, .retAddr 834),
  (71, .iload 1, 72, 0, 0, .null),
  (72, .iaload, 73, 0, 0, .null),
  (73, .i2l, 74, 0, 0, .null),
  (74, .ldiv, 75, 0, 0, .null),
  (75, .l2i, 76, 0, 0, .null),
  (76, .iconst 0, 77, 0, 0, .int 1),
  (77, .invokevirtual 0, 80, 139, 961, .null),
  (80, .ireturn, 81, 0, 0, .null)]
def m_M_mean : xM := (143, 7, 6, 2, 1, (3, 63, 0, 0), t_M_mean, 0, fun _ => 0)
def t_M_text : List xRow := [(0, .iload 1, 1, 0, 0, .null),
  (1, .invokestatic 0, 4, 145, 985, .null),
  (4, .ifCond .eq 0, 7, 13, 0, .null),
  (7, .iload 2, 8, 0, 0, .null),
  (8, .iconst 0, 10, 0, 0, .int 80),
  (10, .if_icmp .le 0, 13, 15, 0, .null),
  (13, .iconst 0, 14, 0, 0, .int (-1)),
  (14, .ireturn, 15, 0, 0, .null),
  (15, .iload 2, 16, 0, 0, .null),
  (16, .ifCond .ge 0, 19, 25, 0, .null),
  (19, .aload 0, 20, 0, 0, .null),
  (20, .iconst 0, 21, 0, 0, .int 5),
  (21, .invokevirtual 0, 24, 136, 949, .null),
  (24, .ireturn, 25, 0, 0, .null),
  (25, .aload 0, 26, 0, 0, .null),
  (26, .getfield 0, 29, 7, 8, .retAddr 837),
  (29, .iload 1, 30, 0, 0, .null),
  (30, .iload 2, 31, 0, 0, .null),
  (31, .iastore, 32, 0, 0, .null),
  (32, .iconst 0, 33, 0, 0, .int 0),
  (33, .istore 3, 34, 0, 0, .null),
  (34, .iload 3, 35, 0, 0, .null),
  (35, .iconst 0, 37, 0, 0, .int 80),
  (37, .if_icmp .ge 0, 40, 59, 0, .null),
  (40, .aload 0, 41, 0, 0, .null),
  (41, .getfield 0, 44, 7, 9, .retAddr 838),
  (44, .iconst 0, 46, 0, 0, .int 80),
  (46, .iload 1, 47, 0, 0, .null),
  (47, .imul, 48, 0, 0, .null),
  (48, .iload 3, 49, 0, 0, .null),
  (49, .iadd, 50, 0, 0, .null),
  (50, .iconst 0, 52, 0, 0, .int 32),
  (52, .iastore, 53, 0, 0, .null),
  (53, .iinc 3 0, 56, 0, 0, .int 1),
  (56, .goto 0, 59, 34, 0, .null),
  (59, .iload 2, 60, 0, 0, .null),
  (60, .ireturn, 61, 0, 0, .null)]
def m_M_text : xM := (144, 7, 4, 3, 1, (2, 42, 0, 0), t_M_text, 0, fun _ => 0)
def t_M_isText : List xRow := [(0, .iload 0, 1, 0, 0, .null),
  (1, .iconst 0, 2, 0, 0, .int 0),
  (2, .iconst 0, 3, 0, 0, .int 3),
  (3, .invokestatic 0, 6, 135, 946, .null),
  (6, .ireturn, 7, 0, 0, .null)]
def m_M_isText : xM := (145, 7, 1, 1, 2, (1, 22, 0, 0), t_M_isText, 0, fun _ => 0)
def t_M_put : List xRow := [(0, .aload 0, 1, 0, 0, .null),
  (1, .iload 1, 2, 0, 0, .null),
  (2, .invokevirtual 0, 5, 147, 992, .null),
  (5, .istore 4, 7, 0, 0, .null),
  (7, .iload 4, 9, 0, 0, .null),
  (9, .ifCond .eq 0, 12, 15, 0, .null),
  (12, .iload 4, 14, 0, 0, .null),
  (14, .ireturn, 15, 0, 0, .null),
  (15, .iload 2, 16, 0, 0, .null),
  (16, .iconst 0, 17, 0, 0, .int 0),
  (17, .aload 0, 18, 0, 0, .null),
  (18, .getfield 0, 21, 7, 8, .retAddr 837),
  (21, .iload 1, 22, 0, 0, .null),
  (22, .iaload, 23, 0, 0, .null),
  (23, .iconst 0, 24, 0, 0, .int 1),
  (24, .isub, 25, 0, 0, .null),
  (25, .invokestatic 0, 28, 135, 946, .null),
  (28, .ifCond .ne 0, 31, 37, 0, .null),
  (31, .aload 0, 32, 0, 0, .null),
  (32, .iconst 0, 33, 0, 0, .int 2),
  (33, .invokevirtual 0, 36, 136, 949, .null),
  (36, .ireturn, 37, 0, 0, .null),
  (37, .aload 0, 38, 0, 0, .null),
  (38, .getfield 0, 41, 7, 9, .retAddr 838),
  (41, .iconst 0, 43, 0, 0, .int 80),
  (43, .iload 1, 44, 0, 0, .null),
  (44, .imul, 45, 0, 0, .null),
  (45, .iload 2, 46, 0, 0, .null),
  (46, .iadd, 47, 0, 0, .null),
  (47, .iaload, 48, 0, 0, .null),
  (48, .istore 5, 50, 0, 0, .null),
  (50, .aload 0, 51, 0, 0, .null),
  (51, .getfield 0, 54, 7, 9, .retAddr 838),
  (54, .iconst 0, 56, 0, 0, .int 80),
  (56, .iload 1, 57, 0, 0, .null),
  (57, .imul, 58, 0, 0, .null),
  (58, .iload 2, 59, 0, 0, .null),
  (59, .iadd, 60, 0, 0, .null),
  (60, .iload 3, 61, 0, 0, .null),
  (61, .i2b, 62, 0, 0, .null),
  (62, .iastore, 63, 0, 0, .null),
  (63, .iconst 0, 66, 0, 0, .int 1000),
  (66, .iload 5, 68, 0, 0, .null),
  (68, .iadd, 69, 0, 0, .null),
  (69, .ireturn, 70, 0, 0, .null)]
def m_M_put : xM := (146, 7, 6, 4, 1, (3, 63, 0, 0), t_M_put, 0, fun _ => 0)
def t_M_textBar : List xRow := [(0, .iload 1, 1, 0, 0, .null),
  (1, .invokestatic 0, 4, 145, 985, .null),
  (4, .ifCond .ne 0, 7, 11, 0, .null),
  (7, .iconst 0, 8, 0, 0, .int (-1)),
  (8, .goto 0, 11, 31, 0, .null),
  (11, .aload 0, 12, 0, 0, .null),
  (12, .getfield 0, 15, 7, 8, .retAddr 837),
  (15, .iload 1, 16, 0, 0, .null),
  (16, .iaload, 17, 0, 0, .null),
  (17, .iconst 0, 19, 0, 0, .int (-9)),
  (19, .if_icmp .ne 0, 22, 30, 0, .null),
  (22, .aload 0, 23, 0, 0, .null),
  (23, .iconst 0, 24, 0, 0, .int 1),
  (24, .invokevirtual 0, 27, 136, 949, .null),
  (27, .goto 0, 30, 31, 0, .null),
  (30, .iconst 0, 31, 0, 0, .int 0),
  (31, .ireturn, 32, 0, 0, .null)]
def m_M_textBar : xM := (147, 7, 2, 2, 1, (2, 42, 0, 0), t_M_textBar, 0, fun _ => 0)
def t_M_fault : List xRow := [(0, .aload 0, 1, 0, 0, .null),
  (1, .iload 1, 2, 0, 0, .null),
  (2, .invokevirtual 0, 5, 147, 992, .null),
  (5, .istore 2, 6, 0, 0, .null),
  (6, .iload 2, 7, 0, 0, .null),
  (7, .ifCond .eq 0, 10, 14, 0, .null),
  (10, .iload 2, 11, 0, 0, .null),
  (11, .goto 0, 14, 19, 0, .null),
  (14, .aload 0, 15, 0, 0, .null),
  (15, .iload 1, 16, 0, 0, .null),
  (16, .invokevirtual 0, 19, 149, 1000, .null),
  (19, .ireturn, 20, 0, 0, .null)]
def m_M_fault : xM := (148, 7, 3, 2, 1, (4, 88, 0, 0), t_M_fault, 0, fun _ => 0)
def t_M_readAll : List xRow := [(0, .aload 0, 1, 0, 0, .null),
  (1, .iconst 0, 2, 0, 0, .int 0),
  (2, .putfield 0, 5, 7, 18, .int 847),
  (5, .aload 0, 6, 0, 0, .null),
  (6, .iconst 0, 7, 0, 0, .int 0),
  (7, .putfield 0, 10, 7, 19, .int 848),
  (10, .aload 0, 11, 0, 0, .null),
  (11, .iconst 0, 12, 0, 0, .int 0),
  (12, .putfield 0, 15, 7, 20, .int 849),
  (15, .aload 0, 16, 0, 0, .null),
  (16, .getfield 0, 19, 7, 18, .int 847),
  (19, .aload 0, 20, 0, 0, .null),
  (20, .getfield 0, 23, 7, 8, .retAddr 837),
  (23, .iload 1, 24, 0, 0, .null),
  (24, .iaload, 25, 0, 0, .null),
  (25, .if_icmp .ge 0, 28, 91, 0, .null),
  (28, .aload 0, 29, 0, 0, .null),
  (29, .iload 1, 30, 0, 0, .null),
  (30, .aload 0, 31, 0, 0, .null),
  (31, .getfield 0, 34, 7, 18, .int 847),
  (34, .invokevirtual 0, 37, 150, 1004, .null),
  (37, .istore 2, 38, 0, 0, .null),
  (38, .iload 2, 39, 0, 0, .null),
  (39, .iconst 0, 41, 0, 0, .int 32),
  (41, .if_icmp .ne 0, 44, 57, 0, .null),
  (44, .aload 0, 45, 0, 0, .null),
  (45, .dup, 46, 0, 0, .null),
  (46, .getfield 0, 49, 7, 18, .int 847),
  (49, .iconst 0, 50, 0, 0, .int 1),
  (50, .iadd, 51, 0, 0, .null),
  (51, .putfield 0, 54, 7, 18, .int 847),
  (54, .goto 0, 57, 88, 0, .null),
  (57, .iload 2, 58, 0, 0, .null),
  (58, .invokestatic 0, 61, 151, 1008, .null),
  (61, .ifCond .eq 0, 64, 75, 0, .null),
  (64, .aload 0, 65, 0, 0, .null),
  (65, .iload 1, 66, 0, 0, .null),
  (66, .invokevirtual 0, 69, 152, 1011, .null),
  (69, .ifCond .eq 0, 72, 83, 0, .null),
  (72, .goto 0, 75, 88, 0, .null),
  (75, .aload 0, 76, 0, 0, .null),
  (76, .iload 1, 77, 0, 0, .null),
  (77, .invokevirtual 0, 80, 153, 1015, .null),
  (80, .ifCond .ne 0, 83, 88, 0, .null),
  (83, .aload 0, 84, 0, 0, .null),
  (84, .getfield 0, 87, 7, 18, .int 847),
  (87, .ireturn, 88, 0, 0, .null),
  (88, .goto 0, 91, 15, 0, .null),
  (91, .iconst 0, 93, 0, 0, .int (-9)),
  (93, .ireturn, 94, 0, 0, .null)]
def m_M_readAll : xM := (149, 7, 3, 2, 1, (3, 66, 0, 0), t_M_readAll, 0, fun _ => 0)
def t_M_byteAt : List xRow := [(0, .iload 2, 1, 0, 0, .null),
  (1, .aload 0, 2, 0, 0, .null),
  (2, .getfield 0, 5, 7, 8, .retAddr 837),
  (5, .iload 1, 6, 0, 0, .null),
  (6, .iaload, 7, 0, 0, .null),
  (7, .if_icmp .ge 0, 10, 24, 0, .null),
  (10, .aload 0, 11, 0, 0, .null),
  (11, .getfield 0, 14, 7, 9, .retAddr 838),
  (14, .iconst 0, 16, 0, 0, .int 80),
  (16, .iload 1, 17, 0, 0, .null),
  (17, .imul, 18, 0, 0, .null),
  (18, .iload 2, 19, 0, 0, .null),
  (19, .iadd, 20, 0, 0, .null),
  (20, .iaload, 21, 0, 0, .null),
  (21, .goto 0, 24, 27, 0, .null),
  (24, .iconst 0, 27, 0, 0, .int (-1000)),
  (27, .ireturn, 28, 0, 0, .null)]
def m_M_byteAt : xM := (150, 7, 3, 3, 1, (0, 0, 0, 0), t_M_byteAt, 0, fun _ => 0)
def t_M_isFigure : List xRow := [(0, .iload 0, 1, 0, 0, .null),
  (1, .iconst 0, 3, 0, 0, .int 48),
  (3, .iconst 0, 5, 0, 0, .int 57),
  (5, .invokestatic 0, 8, 135, 946, .null),
  (8, .ireturn, 9, 0, 0, .null)]
def m_M_isFigure : xM := (151, 7, 1, 1, 2, (1, 22, 0, 0), t_M_isFigure, 0, fun _ => 0)
def t_M_readCrossing : List xRow := [(0, .aload 0, 1, 0, 0, .null),
  (1, .getfield 0, 4, 7, 20, .int 849),
  (4, .iconst 0, 6, 0, 0, .int 16),
  (6, .if_icmp .ne 0, 9, 11, 0, .null),
  (9, .iconst 0, 10, 0, 0, .int 0),
  (10, .ireturn, 11, 0, 0, .null),
  (11, .aload 0, 12, 0, 0, .null),
  (12, .iload 1, 13, 0, 0, .null),
  (13, .aload 0, 14, 0, 0, .null),
  (14, .getfield 0, 17, 7, 18, .int 847),
  (17, .invokevirtual 0, 20, 150, 1004, .null),
  (20, .iconst 0, 22, 0, 0, .int 48),
  (22, .isub, 23, 0, 0, .null),
  (23, .istore 2, 24, 0, 0, .null),
  (24, .iload 2, 25, 0, 0, .null),
  (25, .iconst 0, 26, 0, 0, .int 0),
  (26, .aload 0, 27, 0, 0, .null),
  (27, .getfield 0, 30, 7, 19, .int 848),
  (30, .iconst 0, 31, 0, 0, .int 1),
  (31, .isub, 32, 0, 0, .null),
  (32, .invokestatic 0, 35, 135, 946, .null),
  (35, .ifCond .ne 0, 38, 40, 0, .null),
  (38, .iconst 0, 39, 0, 0, .int 0),
  (39, .ireturn, 40, 0, 0, .null),
  (40, .aload 0, 41, 0, 0, .null),
  (41, .dup, 42, 0, 0, .null),
  (42, .getfield 0, 45, 7, 18, .int 847),
  (45, .iconst 0, 46, 0, 0, .int 1),
  (46, .iadd, 47, 0, 0, .null),
  (47, .putfield 0, 50, 7, 18, .int 847),
  (50, .aload 0, 51, 0, 0, .null),
  (51, .iload 1, 52, 0, 0, .null),
  (52, .aload 0, 53, 0, 0, .null),
  (53, .getfield 0, 56, 7, 18, .int 847),
  (56, .invokevirtual 0, 59, 150, 1004, .null),
  (59, .iconst 0, 61, 0, 0, .int 62),
  (61, .if_icmp .eq 0, 64, 66, 0, .null),
  (64, .iconst 0, 65, 0, 0, .int 0),
  (65, .ireturn, 66, 0, 0, .null),
  (66, .aload 0, 67, 0, 0, .null),
  (67, .dup, 68, 0, 0, .null),
  (68, .getfield 0, 71, 7, 18, .int 847),
  (71, .iconst 0, 72, 0, 0, .int 1),
  (72, .iadd, 73, 0, 0, .null),
  (73, .putfield 0, 76, 7, 18, .int 847),
  (76, .aload 0, 77, 0, 0, .null),
  (77, .iload 1, 78, 0, 0, .null),
  (78, .aload 0, 79, 0, 0, .null),
  (79, .getfield 0, 82, 7, 18, .int 847),
  (82, .invokevirtual 0, 85, 150, 1004, .null),
  (85, .iconst 0, 87, 0, 0, .int 48),
  (87, .isub, 88, 0, 0, .null),
  (88, .istore 3, 89, 0, 0, .null),
  (89, .iload 3, 90, 0, 0, .null),
  (90, .iconst 0, 91, 0, 0, .int 0),
  (91, .aload 0, 92, 0, 0, .null),
  (92, .getfield 0, 95, 7, 19, .int 848),
  (95, .iconst 0, 96, 0, 0, .int 1),
  (96, .isub, 97, 0, 0, .null),
  (97, .invokestatic 0, 100, 135, 946, .null),
  (100, .ifCond .eq 0, 103, 108, 0, .null),
  (103, .iload 3, 104, 0, 0, .null),
  (104, .iload 2, 105, 0, 0, .null),
  (105, .if_icmp .ne 0, 108, 110, 0, .null),
  (108, .iconst 0, 109, 0, 0, .int 0),
  (109, .ireturn, 110, 0, 0, .null),
  (110, .aload 0, 111, 0, 0, .null),
  (111, .dup, 112, 0, 0, .null),
  (112, .getfield 0, 115, 7, 18, .int 847),
  (115, .iconst 0, 116, 0, 0, .int 1),
  (116, .iadd, 117, 0, 0, .null),
  (117, .putfield 0, 120, 7, 18, .int 847),
  (120, .aload 0, 121, 0, 0, .null),
  (121, .getfield 0, 124, 7, 24, .retAddr 853),
  (124, .aload 0, 125, 0, 0, .null),
  (125, .getfield 0, 128, 7, 20, .int 849),
  (128, .iload 2, 129, 0, 0, .null),
  (129, .iastore, 130, 0, 0, .null),
  (130, .aload 0, 131, 0, 0, .null),
  (131, .getfield 0, 134, 7, 25, .retAddr 854),
  (134, .aload 0, 135, 0, 0, .null),
  (135, .getfield 0, 138, 7, 20, .int 849),
  (138, .iload 3, 139, 0, 0, .null),
  (139, .iastore, 140, 0, 0, .null),
  (140, .aload 0, 141, 0, 0, .null),
  (141, .dup, 142, 0, 0, .null),
  (142, .getfield 0, 145, 7, 20, .int 849),
  (145, .iconst 0, 146, 0, 0, .int 1),
  (146, .iadd, 147, 0, 0, .null),
  (147, .putfield 0, 150, 7, 20, .int 849),
  (150, .iconst 0, 151, 0, 0, .int 1),
  (151, .ireturn, 152, 0, 0, .null)]
def m_M_readCrossing : xM := (152, 7, 4, 2, 2, (1, 22, 0, 0), t_M_readCrossing, 0, fun _ => 0)
def t_M_readTrack : List xRow := [(0, .aload 0, 1, 0, 0, .null),
  (1, .iload 1, 2, 0, 0, .null),
  (2, .aload 0, 3, 0, 0, .null),
  (3, .getfield 0, 6, 7, 18, .int 847),
  (6, .invokevirtual 0, 9, 150, 1004, .null),
  (9, .invokestatic 0, 12, 154, 1019, .null),
  (12, .istore 2, 13, 0, 0, .null),
  (13, .iload 2, 14, 0, 0, .null),
  (14, .iconst 0, 16, 0, 0, .int (-9)),
  (16, .if_icmp .eq 0, 19, 35, 0, .null),
  (19, .aload 0, 20, 0, 0, .null),
  (20, .getfield 0, 23, 7, 20, .int 849),
  (23, .ifCond .gt 0, 26, 35, 0, .null),
  (26, .aload 0, 27, 0, 0, .null),
  (27, .getfield 0, 30, 7, 19, .int 848),
  (30, .iconst 0, 32, 0, 0, .int 7),
  (32, .if_icmp .ne 0, 35, 37, 0, .null),
  (35, .iconst 0, 36, 0, 0, .int 0),
  (36, .ireturn, 37, 0, 0, .null),
  (37, .aload 0, 38, 0, 0, .null),
  (38, .dup, 39, 0, 0, .null),
  (39, .getfield 0, 42, 7, 18, .int 847),
  (42, .iconst 0, 43, 0, 0, .int 1),
  (43, .iadd, 44, 0, 0, .null),
  (44, .putfield 0, 47, 7, 18, .int 847),
  (47, .aload 0, 48, 0, 0, .null),
  (48, .iload 1, 49, 0, 0, .null),
  (49, .aload 0, 50, 0, 0, .null),
  (50, .getfield 0, 53, 7, 18, .int 847),
  (53, .invokevirtual 0, 56, 150, 1004, .null),
  (56, .istore 3, 57, 0, 0, .null),
  (57, .iload 3, 58, 0, 0, .null),
  (58, .invokestatic 0, 61, 151, 1008, .null),
  (61, .ifCond .ne 0, 64, 66, 0, .null),
  (64, .iconst 0, 65, 0, 0, .int 0),
  (65, .ireturn, 66, 0, 0, .null),
  (66, .aload 0, 67, 0, 0, .null),
  (67, .dup, 68, 0, 0, .null),
  (68, .getfield 0, 71, 7, 18, .int 847),
  (71, .iconst 0, 72, 0, 0, .int 1),
  (72, .iadd, 73, 0, 0, .null),
  (73, .putfield 0, 76, 7, 18, .int 847),
  (76, .aload 0, 77, 0, 0, .null),
  (77, .iload 1, 78, 0, 0, .null),
  (78, .aload 0, 79, 0, 0, .null),
  (79, .getfield 0, 82, 7, 18, .int 847),
  (82, .invokevirtual 0, 85, 150, 1004, .null),
  (85, .istore 4, 87, 0, 0, .null),
  (87, .iload 4, 89, 0, 0, .null),
  (89, .invokestatic 0, 92, 151, 1008, .null),
  (92, .ifCond .ne 0, 95, 104, 0, .null),
  (95, .iload 4, 97, 0, 0, .null),
  (97, .iconst 0, 99, 0, 0, .int 45),
  (99, .if_icmp .eq 0, 102, 104, 0, .null),
  (102, .iconst 0, 103, 0, 0, .int 0),
  (103, .ireturn, 104, 0, 0, .null),
  (104, .aload 0, 105, 0, 0, .null),
  (105, .dup, 106, 0, 0, .null),
  (106, .getfield 0, 109, 7, 18, .int 847),
  (109, .iconst 0, 110, 0, 0, .int 1),
  (110, .iadd, 111, 0, 0, .null),
  (111, .putfield 0, 114, 7, 18, .int 847),
  (114, .aload 0, 115, 0, 0, .null),
  (115, .getfield 0, 118, 7, 21, .retAddr 850),
  (118, .aload 0, 119, 0, 0, .null),
  (119, .getfield 0, 122, 7, 19, .int 848),
  (122, .iload 2, 123, 0, 0, .null),
  (123, .iastore, 124, 0, 0, .null),
  (124, .aload 0, 125, 0, 0, .null),
  (125, .getfield 0, 128, 7, 22, .retAddr 851),
  (128, .aload 0, 129, 0, 0, .null),
  (129, .getfield 0, 132, 7, 19, .int 848),
  (132, .iload 3, 133, 0, 0, .null),
  (133, .iconst 0, 135, 0, 0, .int 48),
  (135, .isub, 136, 0, 0, .null),
  (136, .iastore, 137, 0, 0, .null),
  (137, .aload 0, 138, 0, 0, .null),
  (138, .getfield 0, 141, 7, 23, .retAddr 852),
  (141, .aload 0, 142, 0, 0, .null),
  (142, .getfield 0, 145, 7, 19, .int 848),
  (145, .iload 4, 147, 0, 0, .null),
  (147, .iconst 0, 149, 0, 0, .int 45),
  (149, .if_icmp .ne 0, 152, 157, 0, .null),
  (152, .iconst 0, 154, 0, 0, .int 10),
  (154, .goto 0, 157, 162, 0, .null),
  (157, .iload 4, 159, 0, 0, .null),
  (159, .iconst 0, 161, 0, 0, .int 48),
  (161, .isub, 162, 0, 0, .null),
  (162, .iastore, 163, 0, 0, .null),
  (163, .aload 0, 164, 0, 0, .null),
  (164, .dup, 165, 0, 0, .null),
  (165, .getfield 0, 168, 7, 19, .int 848),
  (168, .iconst 0, 169, 0, 0, .int 1),
  (169, .iadd, 170, 0, 0, .null),
  (170, .putfield 0, 173, 7, 19, .int 848),
  (173, .iconst 0, 174, 0, 0, .int 1),
  (174, .ireturn, 175, 0, 0, .null)]
def m_M_readTrack : xM := (153, 7, 5, 2, 2, (2, 42, 0, 0), t_M_readTrack, 0, fun _ => 0)
def t_M_kindBy : List xRow := [(0, .iload 0, 1, 0, 0, .null),
  (1, .lookupswitch 0 #[], 60, 72, 7, .null),
  (60, .iconst 0, 61, 0, 0, .int 0),
  (61, .ireturn, 62, 0, 0, .null),
  (62, .iconst 0, 63, 0, 0, .int 1),
  (63, .ireturn, 64, 0, 0, .null),
  (64, .iconst 0, 65, 0, 0, .int 2),
  (65, .ireturn, 66, 0, 0, .null),
  (66, .iconst 0, 67, 0, 0, .int 3),
  (67, .ireturn, 68, 0, 0, .null),
  (68, .iconst 0, 69, 0, 0, .int 4),
  (69, .ireturn, 70, 0, 0, .null),
  (70, .iconst 0, 71, 0, 0, .int 5),
  (71, .ireturn, 72, 0, 0, .null),
  (72, .iconst 0, 74, 0, 0, .int (-9)),
  (74, .ireturn, 75, 0, 0, .null)]
def m_M_kindBy : xM := (154, 7, 1, 1, 1, (0, 0, 0, 0), t_M_kindBy, 0, fun _ => 0)
def t_M_pass : List xRow := [(0, .aload 0, 1, 0, 0, .null),
  (1, .iload 1, 2, 0, 0, .null),
  (2, .invokevirtual 0, 5, 147, 992, .null),
  (5, .istore 2, 6, 0, 0, .null),
  (6, .iload 2, 7, 0, 0, .null),
  (7, .ifCond .eq 0, 10, 12, 0, .null),
  (10, .iload 2, 11, 0, 0, .null),
  (11, .ireturn, 12, 0, 0, .null),
  (12, .aload 0, 13, 0, 0, .null),
  (13, .iload 1, 14, 0, 0, .null),
  (14, .invokevirtual 0, 17, 149, 1000, .null),
  (17, .iconst 0, 19, 0, 0, .int (-9)),
  (19, .if_icmp .eq 0, 22, 25, 0, .null),
  (22, .iconst 0, 24, 0, 0, .int (-4)),
  (24, .ireturn, 25, 0, 0, .null),
  (25, .aload 0, 26, 0, 0, .null),
  (26, .aload 0, 27, 0, 0, .null),
  (27, .getfield 0, 30, 7, 19, .int 848),
  (30, .putfield 0, 33, 7, 10, .int 839),
  (33, .aload 0, 34, 0, 0, .null),
  (34, .aload 0, 35, 0, 0, .null),
  (35, .getfield 0, 38, 7, 20, .int 849),
  (38, .putfield 0, 41, 7, 14, .int 843),
  (41, .iconst 0, 42, 0, 0, .int 0),
  (42, .istore 3, 43, 0, 0, .null),
  (43, .iload 3, 44, 0, 0, .null),
  (44, .iconst 0, 46, 0, 0, .int 7),
  (46, .if_icmp .ge 0, 49, 91, 0, .null),
  (49, .aload 0, 50, 0, 0, .null),
  (50, .getfield 0, 53, 7, 11, .retAddr 840),
  (53, .iload 3, 54, 0, 0, .null),
  (54, .aload 0, 55, 0, 0, .null),
  (55, .getfield 0, 58, 7, 21, .retAddr 850),
  (58, .iload 3, 59, 0, 0, .null),
  (59, .iaload, 60, 0, 0, .null),
  (60, .iastore, 61, 0, 0, .null),
  (61, .aload 0, 62, 0, 0, .null),
  (62, .getfield 0, 65, 7, 12, .retAddr 841),
  (65, .iload 3, 66, 0, 0, .null),
  (66, .aload 0, 67, 0, 0, .null),
  (67, .getfield 0, 70, 7, 22, .retAddr 851),
  (70, .iload 3, 71, 0, 0, .null),
  (71, .iaload, 72, 0, 0, .null),
  (72, .iastore, 73, 0, 0, .null),
  (73, .aload 0, 74, 0, 0, .null),
  (74, .getfield 0, 77, 7, 13, .retAddr 842),
  (77, .iload 3, 78, 0, 0, .null),
  (78, .aload 0, 79, 0, 0, .null),
  (79, .getfield 0, 82, 7, 23, .retAddr 852),
  (82, .iload 3, 83, 0, 0, .null),
  (83, .iaload, 84, 0, 0, .null),
  (84, .iastore, 85, 0, 0, .null),
  (85, .iinc 3 0, 88, 0, 0, .int 1),
  (88, .goto 0, 91, 43, 0, .null),
  (91, .iconst 0, 92, 0, 0, .int 0),
  (92, .istore 3, 93, 0, 0, .null),
  (93, .iload 3, 94, 0, 0, .null),
  (94, .iconst 0, 96, 0, 0, .int 16),
  (96, .if_icmp .ge 0, 99, 129, 0, .null),
  (99, .aload 0, 100, 0, 0, .null),
  (100, .getfield 0, 103, 7, 15, .retAddr 844),
  (103, .iload 3, 104, 0, 0, .null),
  (104, .aload 0, 105, 0, 0, .null),
  (105, .getfield 0, 108, 7, 24, .retAddr 853),
  (108, .iload 3, 109, 0, 0, .null),
  (109, .iaload, 110, 0, 0, .null),
  (110, .iastore, 111, 0, 0, .null),
  (111, .aload 0, 112, 0, 0, .null),
  (112, .getfield 0, 115, 7, 16, .retAddr 845),
  (115, .iload 3, 116, 0, 0, .null),
  (116, .aload 0, 117, 0, 0, .null),
  (117, .getfield 0, 120, 7, 25, .retAddr 854),
  (120, .iload 3, 121, 0, 0, .null),
  (121, .iaload, 122, 0, 0, .null),
  (122, .iastore, 123, 0, 0, .null),
  (123, .iinc 3 0, 126, 0, 0, .int 1),
  (126, .goto 0, 129, 93, 0, .null),
  (129, .iconst 0, 130, 0, 0, .int 0),
  (130, .istore 3, 131, 0, 0, .null),
  (131, .iload 3, 132, 0, 0, .null),
  (132, .iconst 0, 133, 0, 0, .int 3),
  (133, .if_icmp .ge 0, 136, 153, 0, .null),
  (136, .aload 0, 137, 0, 0, .null),
  (137, .getfield 0, 140, 7, 26, .retAddr 855),
  (140, .iconst 0, 142, 0, 0, .int 42),
  (142, .iload 3, 143, 0, 0, .null),
  (143, .imul, 144, 0, 0, .null),
  (144, .iconst 0, 146, 0, 0, .int (-9)),
  (146, .iastore, 147, 0, 0, .null),
  (147, .iinc 3 0, 150, 0, 0, .int 1),
  (150, .goto 0, 153, 131, 0, .null),
  (153, .aload 0, 154, 0, 0, .null),
  (154, .getfield 0, 157, 7, 10, .int 839),
  (157, .ireturn, 158, 0, 0, .null)]
def m_M_pass : xM := (155, 7, 4, 2, 1, (4, 88, 0, 0), t_M_pass, 0, fun _ => 0)
def t_M_track : List xRow := [(0, .aload 0, 1, 0, 0, .null),
  (1, .iload 1, 2, 0, 0, .null),
  (2, .invokevirtual 0, 5, 157, 1030, .null),
  (5, .ifCond .eq 0, 8, 31, 0, .null),
  (8, .iload 2, 9, 0, 0, .null),
  (9, .iconst 0, 10, 0, 0, .int 0),
  (10, .iconst 0, 11, 0, 0, .int 4),
  (11, .invokestatic 0, 14, 135, 946, .null),
  (14, .ifCond .eq 0, 17, 31, 0, .null),
  (17, .aload 0, 18, 0, 0, .null),
  (18, .aload 0, 19, 0, 0, .null),
  (19, .iload 1, 20, 0, 0, .null),
  (20, .iload 2, 21, 0, 0, .null),
  (21, .invokevirtual 0, 24, 158, 1034, .null),
  (24, .iconst 0, 25, 0, 0, .int 1),
  (25, .invokevirtual 0, 28, 139, 961, .null),
  (28, .goto 0, 31, 32, 0, .null),
  (31, .iconst 0, 32, 0, 0, .int (-1)),
  (32, .ireturn, 33, 0, 0, .null)]
def m_M_track : xM := (156, 7, 3, 3, 1, (2, 43, 0, 0), t_M_track, 0, fun _ => 0)
def t_M_isTrack : List xRow := [(0, .iload 1, 1, 0, 0, .null),
  (1, .iconst 0, 2, 0, 0, .int 0),
  (2, .aload 0, 3, 0, 0, .null),
  (3, .getfield 0, 6, 7, 10, .int 839),
  (6, .iconst 0, 7, 0, 0, .int 1),
  (7, .isub, 8, 0, 0, .null),
  (8, .invokestatic 0, 11, 135, 946, .null),
  (11, .ireturn, 12, 0, 0, .null)]
def m_M_isTrack : xM := (157, 7, 2, 2, 2, (1, 22, 0, 0), t_M_isTrack, 0, fun _ => 0)
def t_M_trackOf : List xRow := [(0, .iload 2, 1, 0, 0, .null),
  (1, .iconst 0, 2, 0, 0, .int 3),
  (2, .if_icmp .ge 0, 5, 55, 0, .null),
  (5, .iload 2, 6, 0, 0, .null),
  (6, .ifCond .ne 0, 9, 18, 0, .null),
  (9, .aload 0, 10, 0, 0, .null),
  (10, .getfield 0, 13, 7, 11, .retAddr 840),
  (13, .iload 1, 14, 0, 0, .null),
  (14, .iaload, 15, 0, 0, .null),
  (15, .goto 0, 18, 54, 0, .null),
  (18, .iload 2, 19, 0, 0, .null),
  (19, .iconst 0, 20, 0, 0, .int 1),
  (20, .if_icmp .ne 0, 23, 32, 0, .null),
  (23, .aload 0, 24, 0, 0, .null),
  (24, .getfield 0, 27, 7, 12, .retAddr 841),
  (27, .iload 1, 28, 0, 0, .null),
  (28, .iaload, 29, 0, 0, .null),
  (29, .goto 0, 32, 54, 0, .null),
  (32, .aload 0, 33, 0, 0, .null),
  (33, .getfield 0, 36, 7, 13, .retAddr 842),
  (36, .iload 1, 37, 0, 0, .null),
  (37, .iaload, 38, 0, 0, .null),
  (38, .iconst 0, 40, 0, 0, .int 10),
  (40, .if_icmp .ne 0, 43, 48, 0, .null),
  (43, .iconst 0, 45, 0, 0, .int (-9)),
  (45, .goto 0, 48, 54, 0, .null),
  (48, .aload 0, 49, 0, 0, .null),
  (49, .getfield 0, 52, 7, 13, .retAddr 842),
  (52, .iload 1, 53, 0, 0, .null),
  (53, .iaload, 54, 0, 0, .null),
  (54, .ireturn, 55, 0, 0, .null),
  (55, .iconst 0, 56, 0, 0, .int 0),
  (56, .istore 3, 57, 0, 0, .null),
  (57, .iconst 0, 58, 0, 0, .int 0),
  (58, .istore 4, 60, 0, 0, .null),
  (60, .iload 4, 62, 0, 0, .null),
  (62, .aload 0, 63, 0, 0, .null),
  (63, .getfield 0, 66, 7, 14, .int 843),
  (66, .if_icmp .ge 0, 69, 109, 0, .null),
  (69, .iload 3, 70, 0, 0, .null),
  (70, .iload 2, 71, 0, 0, .null),
  (71, .iconst 0, 72, 0, 0, .int 3),
  (72, .if_icmp .ne 0, 75, 85, 0, .null),
  (75, .aload 0, 76, 0, 0, .null),
  (76, .getfield 0, 79, 7, 15, .retAddr 844),
  (79, .iload 4, 81, 0, 0, .null),
  (81, .iaload, 82, 0, 0, .null),
  (82, .goto 0, 85, 92, 0, .null),
  (85, .aload 0, 86, 0, 0, .null),
  (86, .getfield 0, 89, 7, 16, .retAddr 845),
  (89, .iload 4, 91, 0, 0, .null),
  (91, .iaload, 92, 0, 0, .null),
  (92, .iload 1, 93, 0, 0, .null),
  (93, .if_icmp .ne 0, 96, 100, 0, .null),
  (96, .iconst 0, 97, 0, 0, .int 1),
  (97, .goto 0, 100, 101, 0, .null),
  (100, .iconst 0, 101, 0, 0, .int 0),
  (101, .iadd, 102, 0, 0, .null),
  (102, .istore 3, 103, 0, 0, .null),
  (103, .iinc 4 0, 106, 0, 0, .int 1),
  (106, .goto 0, 109, 60, 0, .null),
  (109, .iload 3, 110, 0, 0, .null),
  (110, .ireturn, 111, 0, 0, .null)]
def m_M_trackOf : xM := (158, 7, 5, 3, 1, (0, 0, 0, 0), t_M_trackOf, 0, fun _ => 0)
def t_M_crossing : List xRow := [(0, .iload 1, 1, 0, 0, .null),
  (1, .ifCond .ge 0, 4, 6, 0, .null),
  (4, .iconst 0, 5, 0, 0, .int (-1)),
  (5, .ireturn, 6, 0, 0, .null),
  (6, .iload 1, 7, 0, 0, .null),
  (7, .aload 0, 8, 0, 0, .null),
  (8, .getfield 0, 11, 7, 14, .int 843),
  (11, .if_icmp .ge 0, 14, 50, 0, .null),
  (14, .aload 0, 15, 0, 0, .null),
  (15, .aload 0, 16, 0, 0, .null),
  (16, .iload 1, 17, 0, 0, .null),
  (17, .invokevirtual 0, 20, 160, 1042, .null),
  (20, .ifCond .eq 0, 23, 27, 0, .null),
  (23, .iconst 0, 24, 0, 0, .int 1),
  (24, .goto 0, 27, 28, 0, .null),
  (27, .iconst 0, 28, 0, 0, .int 0),
  (28, .iconst 0, 30, 0, 0, .int 10),
  (30, .aload 0, 31, 0, 0, .null),
  (31, .getfield 0, 34, 7, 15, .retAddr 844),
  (34, .iload 1, 35, 0, 0, .null),
  (35, .iaload, 36, 0, 0, .null),
  (36, .imul, 37, 0, 0, .null),
  (37, .aload 0, 38, 0, 0, .null),
  (38, .getfield 0, 41, 7, 16, .retAddr 845),
  (41, .iload 1, 42, 0, 0, .null),
  (42, .iaload, 43, 0, 0, .null),
  (43, .iadd, 44, 0, 0, .null),
  (44, .invokevirtual 0, 47, 139, 961, .null),
  (47, .goto 0, 50, 55, 0, .null),
  (50, .aload 0, 51, 0, 0, .null),
  (51, .iconst 0, 52, 0, 0, .int 2),
  (52, .invokevirtual 0, 55, 136, 949, .null),
  (55, .ireturn, 56, 0, 0, .null)]
def m_M_crossing : xM := (159, 7, 2, 2, 1, (3, 65, 0, 0), t_M_crossing, 0, fun _ => 0)
def t_M_isTelling : List xRow := [(0, .aload 0, 1, 0, 0, .null),
  (1, .aload 0, 2, 0, 0, .null),
  (2, .getfield 0, 5, 7, 15, .retAddr 844),
  (5, .iload 1, 6, 0, 0, .null),
  (6, .iaload, 7, 0, 0, .null),
  (7, .aload 0, 8, 0, 0, .null),
  (8, .getfield 0, 11, 7, 16, .retAddr 845),
  (11, .iload 1, 12, 0, 0, .null),
  (12, .iaload, 13, 0, 0, .null),
  (13, .invokevirtual 0, 16, 161, 1046, .null),
  (16, .ifCond .eq 0, 19, 42, 0, .null),
  (19, .aload 0, 20, 0, 0, .null),
  (20, .aload 0, 21, 0, 0, .null),
  (21, .getfield 0, 24, 7, 16, .retAddr 845),
  (24, .iload 1, 25, 0, 0, .null),
  (25, .iaload, 26, 0, 0, .null),
  (26, .aload 0, 27, 0, 0, .null),
  (27, .getfield 0, 30, 7, 15, .retAddr 844),
  (30, .iload 1, 31, 0, 0, .null),
  (31, .iaload, 32, 0, 0, .null),
  (32, .invokevirtual 0, 35, 163, 1054, .null),
  (35, .ifCond .eq 0, 38, 42, 0, .null),
  (38, .iconst 0, 39, 0, 0, .int 1),
  (39, .goto 0, 42, 43, 0, .null),
  (42, .iconst 0, 43, 0, 0, .int 0),
  (43, .ireturn, 44, 0, 0, .null)]
def m_M_isTelling : xM := (160, 7, 2, 2, 2, (2, 44, 0, 0), t_M_isTelling, 0, fun _ => 0)
def t_M_letsOver : List xRow := [(0, .aload 0, 1, 0, 0, .null),
  (1, .getfield 0, 4, 7, 11, .retAddr 840),
  (4, .iload 1, 5, 0, 0, .null),
  (5, .iaload, 6, 0, 0, .null),
  (6, .lookupswitch 0 #[], 44, 68, 8, .null),
  (44, .iconst 0, 45, 0, 0, .int 1),
  (45, .ireturn, 46, 0, 0, .null),
  (46, .aload 0, 47, 0, 0, .null),
  (47, .iload 2, 48, 0, 0, .null),
  (48, .iconst 0, 49, 0, 0, .int 2),
  (49, .invokevirtual 0, 52, 162, 1050, .null),
  (52, .ireturn, 53, 0, 0, .null),
  (53, .aload 0, 54, 0, 0, .null),
  (54, .getfield 0, 57, 7, 11, .retAddr 840),
  (57, .iload 2, 58, 0, 0, .null),
  (58, .iaload, 59, 0, 0, .null),
  (59, .ifCond .ne 0, 62, 66, 0, .null),
  (62, .iconst 0, 63, 0, 0, .int 1),
  (63, .goto 0, 66, 67, 0, .null),
  (66, .iconst 0, 67, 0, 0, .int 0),
  (67, .ireturn, 68, 0, 0, .null),
  (68, .iconst 0, 69, 0, 0, .int 0),
  (69, .ireturn, 70, 0, 0, .null)]
def m_M_letsOver : xM := (161, 7, 3, 3, 2, (1, 22, 0, 0), t_M_letsOver, 0, fun _ => 0)
def t_M_isA : List xRow := [(0, .aload 0, 1, 0, 0, .null),
  (1, .getfield 0, 4, 7, 11, .retAddr 840),
  (4, .iload 1, 5, 0, 0, .null),
  (5, .iaload, 6, 0, 0, .null),
  (6, .iload 2, 7, 0, 0, .null),
  (7, .if_icmp .eq 0, 10, 40, 0, .null),
  (10, .iload 2, 11, 0, 0, .null),
  (11, .iconst 0, 12, 0, 0, .int 1),
  (12, .if_icmp .ne 0, 15, 25, 0, .null),
  (15, .aload 0, 16, 0, 0, .null),
  (16, .getfield 0, 19, 7, 11, .retAddr 840),
  (19, .iload 1, 20, 0, 0, .null),
  (20, .iaload, 21, 0, 0, .null),
  (21, .iconst 0, 22, 0, 0, .int 4),
  (22, .if_icmp .eq 0, 25, 40, 0, .null),
  (25, .iload 2, 26, 0, 0, .null),
  (26, .iconst 0, 27, 0, 0, .int 2),
  (27, .if_icmp .ne 0, 30, 44, 0, .null),
  (30, .aload 0, 31, 0, 0, .null),
  (31, .getfield 0, 34, 7, 11, .retAddr 840),
  (34, .iload 1, 35, 0, 0, .null),
  (35, .iaload, 36, 0, 0, .null),
  (36, .iconst 0, 37, 0, 0, .int 5),
  (37, .if_icmp .ne 0, 40, 44, 0, .null),
  (40, .iconst 0, 41, 0, 0, .int 1),
  (41, .goto 0, 44, 45, 0, .null),
  (44, .iconst 0, 45, 0, 0, .int 0),
  (45, .ireturn, 46, 0, 0, .null)]
def m_M_isA : xM := (162, 7, 3, 3, 2, (0, 0, 0, 0), t_M_isA, 0, fun _ => 0)
def t_M_letsUnder : List xRow := [(0, .aload 0, 1, 0, 0, .null),
  (1, .iload 1, 2, 0, 0, .null),
  (2, .iconst 0, 3, 0, 0, .int 2),
  (3, .invokevirtual 0, 6, 162, 1050, .null),
  (6, .ifCond .eq 0, 9, 27, 0, .null),
  (9, .aload 0, 10, 0, 0, .null),
  (10, .getfield 0, 13, 7, 11, .retAddr 840),
  (13, .iload 2, 14, 0, 0, .null),
  (14, .iaload, 15, 0, 0, .null),
  (15, .iconst 0, 16, 0, 0, .int 4),
  (16, .if_icmp .ne 0, 19, 23, 0, .null),
  (19, .iconst 0, 20, 0, 0, .int 1),
  (20, .goto 0, 23, 42, 0, .null),
  (23, .iconst 0, 24, 0, 0, .int 0),
  (24, .goto 0, 27, 42, 0, .null),
  (27, .aload 0, 28, 0, 0, .null),
  (28, .getfield 0, 31, 7, 11, .retAddr 840),
  (31, .iload 1, 32, 0, 0, .null),
  (32, .iaload, 33, 0, 0, .null),
  (33, .iconst 0, 34, 0, 0, .int 3),
  (34, .if_icmp .eq 0, 37, 41, 0, .null),
  (37, .iconst 0, 38, 0, 0, .int 1),
  (38, .goto 0, 41, 42, 0, .null),
  (41, .iconst 0, 42, 0, 0, .int 0),
  (42, .ireturn, 43, 0, 0, .null)]
def m_M_letsUnder : xM := (163, 7, 3, 3, 2, (1, 22, 0, 0), t_M_letsUnder, 0, fun _ => 0)
def t_M_mark : List xRow := [(0, .aload 0, 1, 0, 0, .null),
  (1, .iload 1, 2, 0, 0, .null),
  (2, .invokevirtual 0, 5, 157, 1030, .null),
  (5, .ifCond .eq 0, 8, 17, 0, .null),
  (8, .iload 2, 9, 0, 0, .null),
  (9, .iconst 0, 10, 0, 0, .int 1),
  (10, .iconst 0, 11, 0, 0, .int 5),
  (11, .invokestatic 0, 14, 135, 946, .null),
  (14, .ifCond .ne 0, 17, 19, 0, .null),
  (17, .iconst 0, 18, 0, 0, .int (-1)),
  (18, .ireturn, 19, 0, 0, .null),
  (19, .aload 0, 20, 0, 0, .null),
  (20, .iload 1, 21, 0, 0, .null),
  (21, .iload 2, 22, 0, 0, .null),
  (22, .invokevirtual 0, 25, 162, 1050, .null),
  (25, .ifCond .ne 0, 28, 34, 0, .null),
  (28, .aload 0, 29, 0, 0, .null),
  (29, .iconst 0, 30, 0, 0, .int 3),
  (30, .invokevirtual 0, 33, 136, 949, .null),
  (33, .ireturn, 34, 0, 0, .null),
  (34, .iconst 0, 35, 0, 0, .int 0),
  (35, .istore 3, 36, 0, 0, .null),
  (36, .iconst 0, 37, 0, 0, .int 0),
  (37, .istore 4, 39, 0, 0, .null),
  (39, .iload 4, 41, 0, 0, .null),
  (41, .aload 0, 42, 0, 0, .null),
  (42, .getfield 0, 45, 7, 14, .int 843),
  (45, .if_icmp .ge 0, 48, 109, 0, .null),
  (48, .iload 2, 49, 0, 0, .null),
  (49, .iconst 0, 50, 0, 0, .int 1),
  (50, .if_icmp .ne 0, 53, 63, 0, .null),
  (53, .aload 0, 54, 0, 0, .null),
  (54, .getfield 0, 57, 7, 15, .retAddr 844),
  (57, .iload 4, 59, 0, 0, .null),
  (59, .iaload, 60, 0, 0, .null),
  (60, .goto 0, 63, 70, 0, .null),
  (63, .aload 0, 64, 0, 0, .null),
  (64, .getfield 0, 67, 7, 16, .retAddr 845),
  (67, .iload 4, 69, 0, 0, .null),
  (69, .iaload, 70, 0, 0, .null),
  (70, .iload 1, 71, 0, 0, .null),
  (71, .if_icmp .ne 0, 74, 78, 0, .null),
  (74, .iconst 0, 75, 0, 0, .int 1),
  (75, .goto 0, 78, 79, 0, .null),
  (78, .iconst 0, 79, 0, 0, .int 0),
  (79, .istore 5, 81, 0, 0, .null),
  (81, .iload 3, 82, 0, 0, .null),
  (82, .iload 5, 84, 0, 0, .null),
  (84, .ifCond .eq 0, 87, 100, 0, .null),
  (87, .aload 0, 88, 0, 0, .null),
  (88, .iload 4, 90, 0, 0, .null),
  (90, .invokevirtual 0, 93, 160, 1042, .null),
  (93, .ifCond .ne 0, 96, 100, 0, .null),
  (96, .iconst 0, 97, 0, 0, .int 1),
  (97, .goto 0, 100, 101, 0, .null),
  (100, .iconst 0, 101, 0, 0, .int 0),
  (101, .iadd, 102, 0, 0, .null),
  (102, .istore 3, 103, 0, 0, .null),
  (103, .iinc 4 0, 106, 0, 0, .int 1),
  (106, .goto 0, 109, 39, 0, .null),
  (109, .iload 2, 110, 0, 0, .null),
  (110, .lookupswitch 0 #[], 136, 175, 9, .null),
  (136, .aload 0, 137, 0, 0, .null),
  (137, .iload 1, 138, 0, 0, .null),
  (138, .iconst 0, 139, 0, 0, .int 1),
  (139, .iconst 0, 140, 0, 0, .int 1),
  (140, .invokevirtual 0, 143, 165, 1062, .null),
  (143, .invokestatic 0, 146, 166, 1066, .null),
  (146, .ireturn, 147, 0, 0, .null),
  (147, .aload 0, 148, 0, 0, .null),
  (148, .iload 1, 149, 0, 0, .null),
  (149, .iconst 0, 150, 0, 0, .int 1),
  (150, .iconst 0, 151, 0, 0, .int 0),
  (151, .invokevirtual 0, 154, 165, 1062, .null),
  (154, .aload 0, 155, 0, 0, .null),
  (155, .iconst 0, 156, 0, 0, .int 2),
  (156, .invokevirtual 0, 159, 167, 1069, .null),
  (159, .iand, 160, 0, 0, .null),
  (160, .invokestatic 0, 163, 166, 1066, .null),
  (163, .ireturn, 164, 0, 0, .null),
  (164, .aload 0, 165, 0, 0, .null),
  (165, .iconst 0, 166, 0, 0, .int 2),
  (166, .invokevirtual 0, 169, 167, 1069, .null),
  (169, .invokestatic 0, 172, 166, 1066, .null),
  (172, .iconst 0, 173, 0, 0, .int 1),
  (173, .isub, 174, 0, 0, .null),
  (174, .ireturn, 175, 0, 0, .null),
  (175, .iload 3, 176, 0, 0, .null),
  (176, .ireturn, 177, 0, 0, .null)]
def m_M_mark : xM := (164, 7, 6, 3, 1, (3, 65, 0, 0), t_M_mark, 0, fun _ => 0)
def t_M_beside : List xRow := [(0, .iconst 0, 1, 0, 0, .int 0),
  (1, .istore 4, 3, 0, 0, .null),
  (3, .iconst 0, 4, 0, 0, .int 0),
  (4, .istore 5, 6, 0, 0, .null),
  (6, .iload 5, 8, 0, 0, .null),
  (8, .aload 0, 9, 0, 0, .null),
  (9, .getfield 0, 12, 7, 14, .int 843),
  (12, .if_icmp .ge 0, 15, 87, 0, .null),
  (15, .iload 4, 17, 0, 0, .null),
  (17, .iload 2, 18, 0, 0, .null),
  (18, .ifCond .eq 0, 21, 44, 0, .null),
  (21, .aload 0, 22, 0, 0, .null),
  (22, .getfield 0, 25, 7, 15, .retAddr 844),
  (25, .iload 5, 27, 0, 0, .null),
  (27, .iaload, 28, 0, 0, .null),
  (28, .iload 1, 29, 0, 0, .null),
  (29, .if_icmp .ne 0, 32, 44, 0, .null),
  (32, .iconst 0, 33, 0, 0, .int 1),
  (33, .aload 0, 34, 0, 0, .null),
  (34, .getfield 0, 37, 7, 16, .retAddr 845),
  (37, .iload 5, 39, 0, 0, .null),
  (39, .iaload, 40, 0, 0, .null),
  (40, .ishl, 41, 0, 0, .null),
  (41, .goto 0, 44, 45, 0, .null),
  (44, .iconst 0, 45, 0, 0, .int 0),
  (45, .ior, 46, 0, 0, .null),
  (46, .istore 4, 48, 0, 0, .null),
  (48, .iload 4, 50, 0, 0, .null),
  (50, .iload 3, 51, 0, 0, .null),
  (51, .ifCond .eq 0, 54, 77, 0, .null),
  (54, .aload 0, 55, 0, 0, .null),
  (55, .getfield 0, 58, 7, 16, .retAddr 845),
  (58, .iload 5, 60, 0, 0, .null),
  (60, .iaload, 61, 0, 0, .null),
  (61, .iload 1, 62, 0, 0, .null),
  (62, .if_icmp .ne 0, 65, 77, 0, .null),
  (65, .iconst 0, 66, 0, 0, .int 1),
  (66, .aload 0, 67, 0, 0, .null),
  (67, .getfield 0, 70, 7, 15, .retAddr 844),
  (70, .iload 5, 72, 0, 0, .null),
  (72, .iaload, 73, 0, 0, .null),
  (73, .ishl, 74, 0, 0, .null),
  (74, .goto 0, 77, 78, 0, .null),
  (77, .iconst 0, 78, 0, 0, .int 0),
  (78, .ior, 79, 0, 0, .null),
  (79, .istore 4, 81, 0, 0, .null),
  (81, .iinc 5 0, 84, 0, 0, .int 1),
  (84, .goto 0, 87, 6, 0, .null),
  (87, .iload 4, 89, 0, 0, .null),
  (89, .ireturn, 90, 0, 0, .null)]
def m_M_beside : xM := (165, 7, 6, 4, 1, (0, 0, 0, 0), t_M_beside, 0, fun _ => 0)
def t_M_bits : List xRow := [(0, .iconst 0, 1, 0, 0, .int 0),
  (1, .istore 1, 2, 0, 0, .null),
  (2, .iload 0, 3, 0, 0, .null),
  (3, .istore 2, 4, 0, 0, .null),
  (4, .iload 2, 5, 0, 0, .null),
  (5, .ifCond .eq 0, 8, 20, 0, .null),
  (8, .iinc 1 0, 11, 0, 0, .int 1),
  (11, .iload 2, 12, 0, 0, .null),
  (12, .iload 2, 13, 0, 0, .null),
  (13, .iconst 0, 14, 0, 0, .int 1),
  (14, .isub, 15, 0, 0, .null),
  (15, .iand, 16, 0, 0, .null),
  (16, .istore 2, 17, 0, 0, .null),
  (17, .goto 0, 20, 4, 0, .null),
  (20, .iload 1, 21, 0, 0, .null),
  (21, .ireturn, 22, 0, 0, .null)]
def m_M_bits : xM := (166, 7, 3, 1, 1, (0, 0, 0, 0), t_M_bits, 0, fun _ => 0)
def t_M_allOf : List xRow := [(0, .iconst 0, 1, 0, 0, .int 0),
  (1, .istore 2, 2, 0, 0, .null),
  (2, .iconst 0, 3, 0, 0, .int 0),
  (3, .istore 3, 4, 0, 0, .null),
  (4, .iload 3, 5, 0, 0, .null),
  (5, .aload 0, 6, 0, 0, .null),
  (6, .getfield 0, 9, 7, 10, .int 839),
  (9, .if_icmp .ge 0, 12, 37, 0, .null),
  (12, .iload 2, 13, 0, 0, .null),
  (13, .aload 0, 14, 0, 0, .null),
  (14, .iload 3, 15, 0, 0, .null),
  (15, .iload 1, 16, 0, 0, .null),
  (16, .invokevirtual 0, 19, 162, 1050, .null),
  (19, .ifCond .eq 0, 22, 28, 0, .null),
  (22, .iconst 0, 23, 0, 0, .int 1),
  (23, .iload 3, 24, 0, 0, .null),
  (24, .ishl, 25, 0, 0, .null),
  (25, .goto 0, 28, 29, 0, .null),
  (28, .iconst 0, 29, 0, 0, .int 0),
  (29, .ior, 30, 0, 0, .null),
  (30, .istore 2, 31, 0, 0, .null),
  (31, .iinc 3 0, 34, 0, 0, .int 1),
  (34, .goto 0, 37, 4, 0, .null),
  (37, .iload 2, 38, 0, 0, .null),
  (38, .ireturn, 39, 0, 0, .null)]
def m_M_allOf : xM := (167, 7, 4, 2, 1, (1, 22, 0, 0), t_M_allOf, 0, fun _ => 0)
def t_M_wind : List xRow := [(0, .iload 1, 1, 0, 0, .null),
  (1, .iconst 0, 2, 0, 0, .int 0),
  (2, .iconst 0, 3, 0, 0, .int 1),
  (3, .invokestatic 0, 6, 135, 946, .null),
  (6, .ifCond .ne 0, 9, 11, 0, .null),
  (9, .iconst 0, 10, 0, 0, .int (-1)),
  (10, .ireturn, 11, 0, 0, .null),
  (11, .aload 0, 12, 0, 0, .null),
  (12, .getfield 0, 15, 7, 17, .int 846),
  (15, .istore 2, 16, 0, 0, .null),
  (16, .aload 0, 17, 0, 0, .null),
  (17, .iload 1, 18, 0, 0, .null),
  (18, .putfield 0, 21, 7, 17, .int 846),
  (21, .iload 2, 22, 0, 0, .null),
  (22, .ireturn, 23, 0, 0, .null)]
def m_M_wind : xM := (168, 7, 3, 2, 1, (1, 22, 0, 0), t_M_wind, 0, fun _ => 0)
def t_M_fill : List xRow := [(0, .aload 0, 1, 0, 0, .null),
  (1, .iload 1, 2, 0, 0, .null),
  (2, .invokevirtual 0, 5, 157, 1030, .null),
  (5, .ifCond .eq 0, 8, 18, 0, .null),
  (8, .iload 2, 9, 0, 0, .null),
  (9, .iconst 0, 10, 0, 0, .int 0),
  (10, .iconst 0, 12, 0, 0, .int 10),
  (12, .invokestatic 0, 15, 135, 946, .null),
  (15, .ifCond .ne 0, 18, 20, 0, .null),
  (18, .iconst 0, 19, 0, 0, .int (-1)),
  (19, .ireturn, 20, 0, 0, .null),
  (20, .aload 0, 21, 0, 0, .null),
  (21, .getfield 0, 24, 7, 13, .retAddr 842),
  (24, .iload 1, 25, 0, 0, .null),
  (25, .iaload, 26, 0, 0, .null),
  (26, .istore 3, 27, 0, 0, .null),
  (27, .aload 0, 28, 0, 0, .null),
  (28, .getfield 0, 31, 7, 13, .retAddr 842),
  (31, .iload 1, 32, 0, 0, .null),
  (32, .iload 2, 33, 0, 0, .null),
  (33, .iastore, 34, 0, 0, .null),
  (34, .iload 3, 35, 0, 0, .null),
  (35, .ireturn, 36, 0, 0, .null)]
def m_M_fill : xM := (169, 7, 4, 3, 1, (2, 43, 0, 0), t_M_fill, 0, fun _ => 0)
def t_M_cross : List xRow := [(0, .aload 0, 1, 0, 0, .null),
  (1, .iload 1, 2, 0, 0, .null),
  (2, .iload 2, 3, 0, 0, .null),
  (3, .invokevirtual 0, 6, 171, 1085, .null),
  (6, .ifCond .ne 0, 9, 11, 0, .null),
  (9, .iconst 0, 10, 0, 0, .int (-1)),
  (10, .ireturn, 11, 0, 0, .null),
  (11, .aload 0, 12, 0, 0, .null),
  (12, .getfield 0, 15, 7, 14, .int 843),
  (15, .iconst 0, 17, 0, 0, .int 16),
  (17, .if_icmp .ne 0, 20, 23, 0, .null),
  (20, .iconst 0, 22, 0, 0, .int (-2)),
  (22, .ireturn, 23, 0, 0, .null),
  (23, .aload 0, 24, 0, 0, .null),
  (24, .getfield 0, 27, 7, 15, .retAddr 844),
  (27, .aload 0, 28, 0, 0, .null),
  (28, .getfield 0, 31, 7, 14, .int 843),
  (31, .iload 1, 32, 0, 0, .null),
  (32, .iastore, 33, 0, 0, .null),
  (33, .aload 0, 34, 0, 0, .null),
  (34, .getfield 0, 37, 7, 16, .retAddr 845),
  (37, .aload 0, 38, 0, 0, .null),
  (38, .getfield 0, 41, 7, 14, .int 843),
  (41, .iload 2, 42, 0, 0, .null),
  (42, .iastore, 43, 0, 0, .null),
  (43, .aload 0, 44, 0, 0, .null),
  (44, .dup, 45, 0, 0, .null),
  (45, .getfield 0, 48, 7, 14, .int 843),
  (48, .iconst 0, 49, 0, 0, .int 1),
  (49, .iadd, 50, 0, 0, .null),
  (50, .putfield 0, 53, 7, 14, .int 843),
  (53, .aload 0, 54, 0, 0, .null),
  (54, .getfield 0, 57, 7, 14, .int 843),
  (57, .iconst 0, 58, 0, 0, .int 1),
  (58, .isub, 59, 0, 0, .null),
  (59, .ireturn, 60, 0, 0, .null)]
def m_M_cross : xM := (170, 7, 3, 3, 1, (3, 65, 0, 0), t_M_cross, 0, fun _ => 0)
def t_M_arePair : List xRow := [(0, .aload 0, 1, 0, 0, .null),
  (1, .iload 1, 2, 0, 0, .null),
  (2, .invokevirtual 0, 5, 157, 1030, .null),
  (5, .ifCond .eq 0, 8, 25, 0, .null),
  (8, .aload 0, 9, 0, 0, .null),
  (9, .iload 2, 10, 0, 0, .null),
  (10, .invokevirtual 0, 13, 157, 1030, .null),
  (13, .ifCond .eq 0, 16, 25, 0, .null),
  (16, .iload 1, 17, 0, 0, .null),
  (17, .iload 2, 18, 0, 0, .null),
  (18, .if_icmp .eq 0, 21, 25, 0, .null),
  (21, .iconst 0, 22, 0, 0, .int 1),
  (22, .goto 0, 25, 26, 0, .null),
  (25, .iconst 0, 26, 0, 0, .int 0),
  (26, .ireturn, 27, 0, 0, .null)]
def m_M_arePair : xM := (171, 7, 3, 3, 2, (2, 43, 0, 0), t_M_arePair, 0, fun _ => 0)
def t_M_snow : List xRow := [(0, .iload 1, 1, 0, 0, .null),
  (1, .iconst 0, 2, 0, 0, .int 0),
  (2, .aload 0, 3, 0, 0, .null),
  (3, .getfield 0, 6, 7, 14, .int 843),
  (6, .invokestatic 0, 9, 135, 946, .null),
  (9, .ifCond .ne 0, 12, 14, 0, .null),
  (12, .iconst 0, 13, 0, 0, .int (-1)),
  (13, .ireturn, 14, 0, 0, .null),
  (14, .aload 0, 15, 0, 0, .null),
  (15, .getfield 0, 18, 7, 14, .int 843),
  (18, .iload 1, 19, 0, 0, .null),
  (19, .isub, 20, 0, 0, .null),
  (20, .istore 2, 21, 0, 0, .null),
  (21, .aload 0, 22, 0, 0, .null),
  (22, .iload 1, 23, 0, 0, .null),
  (23, .putfield 0, 26, 7, 14, .int 843),
  (26, .iload 2, 27, 0, 0, .null),
  (27, .ireturn, 28, 0, 0, .null)]
def m_M_snow : xM := (172, 7, 3, 2, 1, (1, 22, 0, 0), t_M_snow, 0, fun _ => 0)
def t_M_keep : List xRow := [(0, .iload 1, 1, 0, 0, .null),
  (1, .iconst 0, 2, 0, 0, .int 0),
  (2, .iconst 0, 3, 0, 0, .int 2),
  (3, .invokestatic 0, 6, 135, 946, .null),
  (6, .ifCond .ne 0, 9, 11, 0, .null),
  (9, .iconst 0, 10, 0, 0, .int (-1)),
  (10, .ireturn, 11, 0, 0, .null),
  (11, .aload 0, 12, 0, 0, .null),
  (12, .getfield 0, 15, 7, 10, .int 839),
  (15, .ifCond .ne 0, 18, 21, 0, .null),
  (18, .iconst 0, 20, 0, 0, .int (-4)),
  (20, .ireturn, 21, 0, 0, .null),
  (21, .iconst 0, 23, 0, 0, .int 42),
  (23, .iload 1, 24, 0, 0, .null),
  (24, .imul, 25, 0, 0, .null),
  (25, .istore 2, 26, 0, 0, .null),
  (26, .aload 0, 27, 0, 0, .null),
  (27, .getfield 0, 30, 7, 26, .retAddr 855),
  (30, .iload 2, 31, 0, 0, .null),
  (31, .aload 0, 32, 0, 0, .null),
  (32, .getfield 0, 35, 7, 14, .int 843),
  (35, .iastore, 36, 0, 0, .null),
  (36, .aload 0, 37, 0, 0, .null),
  (37, .getfield 0, 40, 7, 26, .retAddr 855),
  (40, .iload 2, 41, 0, 0, .null),
  (41, .iconst 0, 42, 0, 0, .int 1),
  (42, .iadd, 43, 0, 0, .null),
  (43, .aload 0, 44, 0, 0, .null),
  (44, .getfield 0, 47, 7, 17, .int 846),
  (47, .iastore, 48, 0, 0, .null),
  (48, .iconst 0, 49, 0, 0, .int 0),
  (49, .istore 3, 50, 0, 0, .null),
  (50, .iload 3, 51, 0, 0, .null),
  (51, .iconst 0, 53, 0, 0, .int 7),
  (53, .if_icmp .ge 0, 56, 78, 0, .null),
  (56, .aload 0, 57, 0, 0, .null),
  (57, .getfield 0, 60, 7, 26, .retAddr 855),
  (60, .iload 2, 61, 0, 0, .null),
  (61, .iconst 0, 62, 0, 0, .int 2),
  (62, .iadd, 63, 0, 0, .null),
  (63, .iload 3, 64, 0, 0, .null),
  (64, .iadd, 65, 0, 0, .null),
  (65, .aload 0, 66, 0, 0, .null),
  (66, .getfield 0, 69, 7, 13, .retAddr 842),
  (69, .iload 3, 70, 0, 0, .null),
  (70, .iaload, 71, 0, 0, .null),
  (71, .iastore, 72, 0, 0, .null),
  (72, .iinc 3 0, 75, 0, 0, .int 1),
  (75, .goto 0, 78, 50, 0, .null),
  (78, .iconst 0, 79, 0, 0, .int 0),
  (79, .istore 3, 80, 0, 0, .null),
  (80, .iload 3, 81, 0, 0, .null),
  (81, .iconst 0, 83, 0, 0, .int 16),
  (83, .if_icmp .ge 0, 86, 126, 0, .null),
  (86, .aload 0, 87, 0, 0, .null),
  (87, .getfield 0, 90, 7, 26, .retAddr 855),
  (90, .iload 2, 91, 0, 0, .null),
  (91, .iconst 0, 93, 0, 0, .int 9),
  (93, .iadd, 94, 0, 0, .null),
  (94, .iload 3, 95, 0, 0, .null),
  (95, .iadd, 96, 0, 0, .null),
  (96, .aload 0, 97, 0, 0, .null),
  (97, .getfield 0, 100, 7, 15, .retAddr 844),
  (100, .iload 3, 101, 0, 0, .null),
  (101, .iaload, 102, 0, 0, .null),
  (102, .iastore, 103, 0, 0, .null),
  (103, .aload 0, 104, 0, 0, .null),
  (104, .getfield 0, 107, 7, 26, .retAddr 855),
  (107, .iload 2, 108, 0, 0, .null),
  (108, .iconst 0, 110, 0, 0, .int 25),
  (110, .iadd, 111, 0, 0, .null),
  (111, .iload 3, 112, 0, 0, .null),
  (112, .iadd, 113, 0, 0, .null),
  (113, .aload 0, 114, 0, 0, .null),
  (114, .getfield 0, 117, 7, 16, .retAddr 845),
  (117, .iload 3, 118, 0, 0, .null),
  (118, .iaload, 119, 0, 0, .null),
  (119, .iastore, 120, 0, 0, .null),
  (120, .iinc 3 0, 123, 0, 0, .int 1),
  (123, .goto 0, 126, 80, 0, .null),
  (126, .aload 0, 127, 0, 0, .null),
  (127, .getfield 0, 130, 7, 14, .int 843),
  (130, .ireturn, 131, 0, 0, .null)]
def m_M_keep : xM := (173, 7, 4, 2, 1, (1, 22, 0, 0), t_M_keep, 0, fun _ => 0)
def t_M_on : List xRow := [(0, .iload 1, 1, 0, 0, .null),
  (1, .iconst 0, 2, 0, 0, .int 0),
  (2, .iconst 0, 3, 0, 0, .int 2),
  (3, .invokestatic 0, 6, 135, 946, .null),
  (6, .ifCond .ne 0, 9, 11, 0, .null),
  (9, .iconst 0, 10, 0, 0, .int (-1)),
  (10, .ireturn, 11, 0, 0, .null),
  (11, .iconst 0, 13, 0, 0, .int 42),
  (13, .iload 1, 14, 0, 0, .null),
  (14, .imul, 15, 0, 0, .null),
  (15, .istore 2, 16, 0, 0, .null),
  (16, .aload 0, 17, 0, 0, .null),
  (17, .getfield 0, 20, 7, 26, .retAddr 855),
  (20, .iload 2, 21, 0, 0, .null),
  (21, .iaload, 22, 0, 0, .null),
  (22, .iconst 0, 24, 0, 0, .int (-9)),
  (24, .if_icmp .ne 0, 27, 33, 0, .null),
  (27, .aload 0, 28, 0, 0, .null),
  (28, .iconst 0, 29, 0, 0, .int 1),
  (29, .invokevirtual 0, 32, 136, 949, .null),
  (32, .ireturn, 33, 0, 0, .null),
  (33, .aload 0, 34, 0, 0, .null),
  (34, .aload 0, 35, 0, 0, .null),
  (35, .getfield 0, 38, 7, 26, .retAddr 855),
  (38, .iload 2, 39, 0, 0, .null),
  (39, .iaload, 40, 0, 0, .null),
  (40, .putfield 0, 43, 7, 14, .int 843),
  (43, .aload 0, 44, 0, 0, .null),
  (44, .aload 0, 45, 0, 0, .null),
  (45, .getfield 0, 48, 7, 26, .retAddr 855),
  (48, .iload 2, 49, 0, 0, .null),
  (49, .iconst 0, 50, 0, 0, .int 1),
  (50, .iadd, 51, 0, 0, .null),
  (51, .iaload, 52, 0, 0, .null),
  (52, .putfield 0, 55, 7, 17, .int 846),
  (55, .iconst 0, 56, 0, 0, .int 0),
  (56, .istore 3, 57, 0, 0, .null),
  (57, .iload 3, 58, 0, 0, .null),
  (58, .iconst 0, 60, 0, 0, .int 7),
  (60, .if_icmp .ge 0, 63, 85, 0, .null),
  (63, .aload 0, 64, 0, 0, .null),
  (64, .getfield 0, 67, 7, 13, .retAddr 842),
  (67, .iload 3, 68, 0, 0, .null),
  (68, .aload 0, 69, 0, 0, .null),
  (69, .getfield 0, 72, 7, 26, .retAddr 855),
  (72, .iload 2, 73, 0, 0, .null),
  (73, .iconst 0, 74, 0, 0, .int 2),
  (74, .iadd, 75, 0, 0, .null),
  (75, .iload 3, 76, 0, 0, .null),
  (76, .iadd, 77, 0, 0, .null),
  (77, .iaload, 78, 0, 0, .null),
  (78, .iastore, 79, 0, 0, .null),
  (79, .iinc 3 0, 82, 0, 0, .int 1),
  (82, .goto 0, 85, 57, 0, .null),
  (85, .iconst 0, 86, 0, 0, .int 0),
  (86, .istore 3, 87, 0, 0, .null),
  (87, .iload 3, 88, 0, 0, .null),
  (88, .iconst 0, 90, 0, 0, .int 16),
  (90, .if_icmp .ge 0, 93, 133, 0, .null),
  (93, .aload 0, 94, 0, 0, .null),
  (94, .getfield 0, 97, 7, 15, .retAddr 844),
  (97, .iload 3, 98, 0, 0, .null),
  (98, .aload 0, 99, 0, 0, .null),
  (99, .getfield 0, 102, 7, 26, .retAddr 855),
  (102, .iload 2, 103, 0, 0, .null),
  (103, .iconst 0, 105, 0, 0, .int 9),
  (105, .iadd, 106, 0, 0, .null),
  (106, .iload 3, 107, 0, 0, .null),
  (107, .iadd, 108, 0, 0, .null),
  (108, .iaload, 109, 0, 0, .null),
  (109, .iastore, 110, 0, 0, .null),
  (110, .aload 0, 111, 0, 0, .null),
  (111, .getfield 0, 114, 7, 16, .retAddr 845),
  (114, .iload 3, 115, 0, 0, .null),
  (115, .aload 0, 116, 0, 0, .null),
  (116, .getfield 0, 119, 7, 26, .retAddr 855),
  (119, .iload 2, 120, 0, 0, .null),
  (120, .iconst 0, 122, 0, 0, .int 25),
  (122, .iadd, 123, 0, 0, .null),
  (123, .iload 3, 124, 0, 0, .null),
  (124, .iadd, 125, 0, 0, .null),
  (125, .iaload, 126, 0, 0, .null),
  (126, .iastore, 127, 0, 0, .null),
  (127, .iinc 3 0, 130, 0, 0, .int 1),
  (130, .goto 0, 133, 87, 0, .null),
  (133, .aload 0, 134, 0, 0, .null),
  (134, .getfield 0, 137, 7, 14, .int 843),
  (137, .ireturn, 138, 0, 0, .null)]
def m_M_on : xM := (174, 7, 4, 2, 1, (1, 22, 0, 0), t_M_on, 0, fun _ => 0)
def t_M_ahead : List xRow := [(0, .aload 0, 1, 0, 0, .null),
  (1, .iload 1, 2, 0, 0, .null),
  (2, .iload 2, 3, 0, 0, .null),
  (3, .invokevirtual 0, 6, 171, 1085, .null),
  (6, .ifCond .ne 0, 9, 11, 0, .null),
  (9, .iconst 0, 10, 0, 0, .int (-1)),
  (10, .ireturn, 11, 0, 0, .null),
  (11, .aload 0, 12, 0, 0, .null),
  (12, .invokevirtual 0, 15, 176, 1105, .null),
  (15, .aload 0, 16, 0, 0, .null),
  (16, .getfield 0, 19, 7, 27, .retAddr 856),
  (19, .iload 2, 20, 0, 0, .null),
  (20, .iaload, 21, 0, 0, .null),
  (21, .iload 1, 22, 0, 0, .null),
  (22, .ishr, 23, 0, 0, .null),
  (23, .iconst 0, 24, 0, 0, .int 1),
  (24, .iand, 25, 0, 0, .null),
  (25, .ireturn, 26, 0, 0, .null)]
def m_M_ahead : xM := (175, 7, 3, 3, 1, (5, 111, 0, 0), t_M_ahead, 0, fun _ => 0)
def t_M_findNow : List xRow := [(0, .aload 0, 1, 0, 0, .null),
  (1, .iconst 0, 2, 0, 0, .int 0),
  (2, .iconst 0, 3, 0, 0, .int 0),
  (3, .aload 0, 4, 0, 0, .null),
  (4, .getfield 0, 7, 7, 17, .int 846),
  (7, .invokevirtual 0, 10, 177, 1109, .null),
  (10, .aload 0, 11, 0, 0, .null),
  (11, .invokevirtual 0, 14, 180, 1120, .null),
  (14, .return_, 15, 0, 0, .null)]
def m_M_findNow : xM := (176, 7, 1, 1, 0, (4, 91, 0, 0), t_M_findNow, 0, fun _ => 0)
def t_M_findAhead : List xRow := [(0, .iconst 0, 1, 0, 0, .int 0),
  (1, .istore 4, 3, 0, 0, .null),
  (3, .iload 4, 5, 0, 0, .null),
  (5, .iconst 0, 7, 0, 0, .int 7),
  (7, .if_icmp .ge 0, 10, 24, 0, .null),
  (10, .aload 0, 11, 0, 0, .null),
  (11, .getfield 0, 14, 7, 27, .retAddr 856),
  (14, .iload 4, 16, 0, 0, .null),
  (16, .iconst 0, 17, 0, 0, .int 0),
  (17, .iastore, 18, 0, 0, .null),
  (18, .iinc 4 0, 21, 0, 0, .int 1),
  (21, .goto 0, 24, 3, 0, .null),
  (24, .iconst 0, 25, 0, 0, .int 0),
  (25, .istore 4, 27, 0, 0, .null),
  (27, .iload 4, 29, 0, 0, .null),
  (29, .aload 0, 30, 0, 0, .null),
  (30, .getfield 0, 33, 7, 14, .int 843),
  (33, .if_icmp .ge 0, 36, 128, 0, .null),
  (36, .iload 1, 37, 0, 0, .null),
  (37, .iload 4, 39, 0, 0, .null),
  (39, .invokestatic 0, 42, 178, 1113, .null),
  (42, .ifCond .ne 0, 45, 86, 0, .null),
  (45, .iload 2, 46, 0, 0, .null),
  (46, .aload 0, 47, 0, 0, .null),
  (47, .getfield 0, 50, 7, 15, .retAddr 844),
  (50, .iload 4, 52, 0, 0, .null),
  (52, .iaload, 53, 0, 0, .null),
  (53, .invokestatic 0, 56, 178, 1113, .null),
  (56, .ifCond .ne 0, 59, 86, 0, .null),
  (59, .iload 2, 60, 0, 0, .null),
  (60, .aload 0, 61, 0, 0, .null),
  (61, .getfield 0, 64, 7, 16, .retAddr 845),
  (64, .iload 4, 66, 0, 0, .null),
  (66, .iaload, 67, 0, 0, .null),
  (67, .invokestatic 0, 70, 178, 1113, .null),
  (70, .ifCond .ne 0, 73, 86, 0, .null),
  (73, .aload 0, 74, 0, 0, .null),
  (74, .iload 4, 76, 0, 0, .null),
  (76, .invokevirtual 0, 79, 160, 1042, .null),
  (79, .ifCond .eq 0, 82, 86, 0, .null),
  (82, .iconst 0, 83, 0, 0, .int 1),
  (83, .goto 0, 86, 87, 0, .null),
  (86, .iconst 0, 87, 0, 0, .int 0),
  (87, .istore 5, 89, 0, 0, .null),
  (89, .aload 0, 90, 0, 0, .null),
  (90, .getfield 0, 93, 7, 27, .retAddr 856),
  (93, .aload 0, 94, 0, 0, .null),
  (94, .getfield 0, 97, 7, 15, .retAddr 844),
  (97, .iload 4, 99, 0, 0, .null),
  (99, .iaload, 100, 0, 0, .null),
  (100, .dup2, 101, 0, 0, .null),
  (101, .iaload, 102, 0, 0, .null),
  (102, .iload 5, 104, 0, 0, .null),
  (104, .ifCond .eq 0, 107, 119, 0, .null),
  (107, .iconst 0, 108, 0, 0, .int 1),
  (108, .aload 0, 109, 0, 0, .null),
  (109, .getfield 0, 112, 7, 16, .retAddr 845),
  (112, .iload 4, 114, 0, 0, .null),
  (114, .iaload, 115, 0, 0, .null),
  (115, .ishl, 116, 0, 0, .null),
  (116, .goto 0, 119, 120, 0, .null),
  (119, .iconst 0, 120, 0, 0, .int 0),
  (120, .ior, 121, 0, 0, .null),
  (121, .iastore, 122, 0, 0, .null),
  (122, .iinc 4 0, 125, 0, 0, .int 1),
  (125, .goto 0, 128, 27, 0, .null),
  (128, .iconst 0, 129, 0, 0, .int 0),
  (129, .istore 4, 131, 0, 0, .null),
  (131, .iload 4, 133, 0, 0, .null),
  (133, .aload 0, 134, 0, 0, .null),
  (134, .getfield 0, 137, 7, 10, .int 839),
  (137, .if_icmp .ge 0, 140, 228, 0, .null),
  (140, .iload 3, 141, 0, 0, .null),
  (141, .iconst 0, 142, 0, 0, .int 1),
  (142, .if_icmp .ne 0, 145, 228, 0, .null),
  (145, .iconst 0, 146, 0, 0, .int 0),
  (146, .istore 5, 148, 0, 0, .null),
  (148, .iload 5, 150, 0, 0, .null),
  (150, .aload 0, 151, 0, 0, .null),
  (151, .getfield 0, 154, 7, 10, .int 839),
  (154, .if_icmp .ge 0, 157, 222, 0, .null),
  (157, .iload 2, 158, 0, 0, .null),
  (158, .iload 5, 160, 0, 0, .null),
  (160, .invokestatic 0, 163, 178, 1113, .null),
  (163, .ifCond .ne 0, 166, 190, 0, .null),
  (166, .iload 2, 167, 0, 0, .null),
  (167, .iload 4, 169, 0, 0, .null),
  (169, .invokestatic 0, 172, 178, 1113, .null),
  (172, .ifCond .ne 0, 175, 190, 0, .null),
  (175, .aload 0, 176, 0, 0, .null),
  (176, .iload 5, 178, 0, 0, .null),
  (178, .iload 4, 180, 0, 0, .null),
  (180, .invokevirtual 0, 183, 179, 1116, .null),
  (183, .ifCond .eq 0, 186, 190, 0, .null),
  (186, .iconst 0, 187, 0, 0, .int 1),
  (187, .goto 0, 190, 191, 0, .null),
  (190, .iconst 0, 191, 0, 0, .int 0),
  (191, .istore 6, 193, 0, 0, .null),
  (193, .aload 0, 194, 0, 0, .null),
  (194, .getfield 0, 197, 7, 27, .retAddr 856),
  (197, .iload 4, 199, 0, 0, .null),
  (199, .dup2, 200, 0, 0, .null),
  (200, .iaload, 201, 0, 0, .null),
  (201, .iload 6, 203, 0, 0, .null),
  (203, .ifCond .eq 0, 206, 213, 0, .null),
  (206, .iconst 0, 207, 0, 0, .int 1),
  (207, .iload 5, 209, 0, 0, .null),
  (209, .ishl, 210, 0, 0, .null),
  (210, .goto 0, 213, 214, 0, .null),
  (213, .iconst 0, 214, 0, 0, .int 0),
  (214, .ior, 215, 0, 0, .null),
  (215, .iastore, 216, 0, 0, .null),
  (216, .iinc 5 0, 219, 0, 0, .int 1),
  (219, .goto 0, 222, 148, 0, .null),
  (222, .iinc 4 0, 225, 0, 0, .int 1),
  (225, .goto 0, 228, 131, 0, .null),
  (228, .return_, 229, 0, 0, .null)]
def m_M_findAhead : xM := (177, 7, 7, 4, 0, (3, 65, 0, 0), t_M_findAhead, 0, fun _ => 0)
def t_M_has : List xRow := [(0, .iload 0, 1, 0, 0, .null),
  (1, .iload 1, 2, 0, 0, .null),
  (2, .ishr, 3, 0, 0, .null),
  (3, .iconst 0, 4, 0, 0, .int 1),
  (4, .iand, 5, 0, 0, .null),
  (5, .iconst 0, 6, 0, 0, .int 1),
  (6, .if_icmp .ne 0, 9, 13, 0, .null),
  (9, .iconst 0, 10, 0, 0, .int 1),
  (10, .goto 0, 13, 14, 0, .null),
  (13, .iconst 0, 14, 0, 0, .int 0),
  (14, .ireturn, 15, 0, 0, .null)]
def m_M_has : xM := (178, 7, 2, 2, 2, (0, 0, 0, 0), t_M_has, 0, fun _ => 0)
def t_M_isByWind : List xRow := [(0, .aload 0, 1, 0, 0, .null),
  (1, .getfield 0, 4, 7, 11, .retAddr 840),
  (4, .iload 1, 5, 0, 0, .null),
  (5, .iaload, 6, 0, 0, .null),
  (6, .iconst 0, 7, 0, 0, .int 3),
  (7, .if_icmp .eq 0, 10, 63, 0, .null),
  (10, .aload 0, 11, 0, 0, .null),
  (11, .getfield 0, 14, 7, 11, .retAddr 840),
  (14, .iload 2, 15, 0, 0, .null),
  (15, .iaload, 16, 0, 0, .null),
  (16, .iconst 0, 17, 0, 0, .int 3),
  (17, .if_icmp .eq 0, 20, 63, 0, .null),
  (20, .aload 0, 21, 0, 0, .null),
  (21, .getfield 0, 24, 7, 13, .retAddr 842),
  (24, .iload 1, 25, 0, 0, .null),
  (25, .iaload, 26, 0, 0, .null),
  (26, .iconst 0, 28, 0, 0, .int 10),
  (28, .if_icmp .eq 0, 31, 63, 0, .null),
  (31, .aload 0, 32, 0, 0, .null),
  (32, .getfield 0, 35, 7, 13, .retAddr 842),
  (35, .iload 2, 36, 0, 0, .null),
  (36, .iaload, 37, 0, 0, .null),
  (37, .iconst 0, 39, 0, 0, .int 10),
  (39, .if_icmp .eq 0, 42, 63, 0, .null),
  (42, .aload 0, 43, 0, 0, .null),
  (43, .getfield 0, 46, 7, 13, .retAddr 842),
  (46, .iload 1, 47, 0, 0, .null),
  (47, .iaload, 48, 0, 0, .null),
  (48, .aload 0, 49, 0, 0, .null),
  (49, .getfield 0, 52, 7, 13, .retAddr 842),
  (52, .iload 2, 53, 0, 0, .null),
  (53, .iaload, 54, 0, 0, .null),
  (54, .iconst 0, 55, 0, 0, .int 2),
  (55, .iadd, 56, 0, 0, .null),
  (56, .if_icmp .lt 0, 59, 63, 0, .null),
  (59, .iconst 0, 60, 0, 0, .int 1),
  (60, .goto 0, 63, 64, 0, .null),
  (63, .iconst 0, 64, 0, 0, .int 0),
  (64, .ireturn, 65, 0, 0, .null)]
def m_M_isByWind : xM := (179, 7, 3, 3, 2, (0, 0, 0, 0), t_M_isByWind, 0, fun _ => 0)
def t_M_findSurely : List xRow := [(0, .iconst 0, 1, 0, 0, .int 0),
  (1, .istore 1, 2, 0, 0, .null),
  (2, .iload 1, 3, 0, 0, .null),
  (3, .aload 0, 4, 0, 0, .null),
  (4, .getfield 0, 7, 7, 10, .int 839),
  (7, .if_icmp .ge 0, 10, 28, 0, .null),
  (10, .aload 0, 11, 0, 0, .null),
  (11, .getfield 0, 14, 7, 28, .retAddr 857),
  (14, .iload 1, 15, 0, 0, .null),
  (15, .aload 0, 16, 0, 0, .null),
  (16, .getfield 0, 19, 7, 27, .retAddr 856),
  (19, .iload 1, 20, 0, 0, .null),
  (20, .iaload, 21, 0, 0, .null),
  (21, .iastore, 22, 0, 0, .null),
  (22, .iinc 1 0, 25, 0, 0, .int 1),
  (25, .goto 0, 28, 2, 0, .null),
  (28, .iconst 0, 29, 0, 0, .int 0),
  (29, .istore 1, 30, 0, 0, .null),
  (30, .iload 1, 31, 0, 0, .null),
  (31, .aload 0, 32, 0, 0, .null),
  (32, .getfield 0, 35, 7, 10, .int 839),
  (35, .if_icmp .ge 0, 38, 92, 0, .null),
  (38, .iconst 0, 39, 0, 0, .int 0),
  (39, .istore 2, 40, 0, 0, .null),
  (40, .iload 2, 41, 0, 0, .null),
  (41, .aload 0, 42, 0, 0, .null),
  (42, .getfield 0, 45, 7, 10, .int 839),
  (45, .if_icmp .ge 0, 48, 86, 0, .null),
  (48, .aload 0, 49, 0, 0, .null),
  (49, .getfield 0, 52, 7, 28, .retAddr 857),
  (52, .iload 2, 53, 0, 0, .null),
  (53, .dup2, 54, 0, 0, .null),
  (54, .iaload, 55, 0, 0, .null),
  (55, .aload 0, 56, 0, 0, .null),
  (56, .getfield 0, 59, 7, 28, .retAddr 857),
  (59, .iload 2, 60, 0, 0, .null),
  (60, .iaload, 61, 0, 0, .null),
  (61, .iload 1, 62, 0, 0, .null),
  (62, .invokestatic 0, 65, 178, 1113, .null),
  (65, .ifCond .eq 0, 68, 77, 0, .null),
  (68, .aload 0, 69, 0, 0, .null),
  (69, .getfield 0, 72, 7, 28, .retAddr 857),
  (72, .iload 1, 73, 0, 0, .null),
  (73, .iaload, 74, 0, 0, .null),
  (74, .goto 0, 77, 78, 0, .null),
  (77, .iconst 0, 78, 0, 0, .int 0),
  (78, .ior, 79, 0, 0, .null),
  (79, .iastore, 80, 0, 0, .null),
  (80, .iinc 2 0, 83, 0, 0, .int 1),
  (83, .goto 0, 86, 40, 0, .null),
  (86, .iinc 1 0, 89, 0, 0, .int 1),
  (89, .goto 0, 92, 30, 0, .null),
  (92, .return_, 93, 0, 0, .null)]
def m_M_findSurely : xM := (180, 7, 3, 1, 0, (1, 21, 0, 0), t_M_findSurely, 0, fun _ => 0)
def t_M_orders : List xRow := [(0, .aload 0, 1, 0, 0, .null),
  (1, .invokevirtual 0, 4, 176, 1105, .null),
  (4, .aload 0, 5, 0, 0, .null),
  (5, .aload 0, 6, 0, 0, .null),
  (6, .invokevirtual 0, 9, 182, 1128, .null),
  (9, .i2l, 10, 0, 0, .null),
  (10, .iconst 0, 11, 0, 0, .long 1),
  (11, .invokevirtual 0, 14, 183, 1132, .null),
  (14, .ireturn, 15, 0, 0, .null)]
def m_M_orders : xM := (181, 7, 1, 1, 1, (5, 111, 0, 0), t_M_orders, 0, fun _ => 0)
def t_M_countOrders : List xRow := [(0, .iconst 0, 1, 0, 0, .int 1),
  (1, .aload 0, 2, 0, 0, .null),
  (2, .getfield 0, 5, 7, 10, .int 839),
  (5, .ishl, 6, 0, 0, .null),
  (6, .iconst 0, 7, 0, 0, .int 1),
  (7, .isub, 8, 0, 0, .null),
  (8, .istore 1, 9, 0, 0, .null),
  (9, .aload 0, 10, 0, 0, .null),
  (10, .getfield 0, 13, 7, 29, .retAddr 858),
  (13, .iload 1, 14, 0, 0, .null),
  (14, .iconst 0, 15, 0, 0, .int 1),
  (15, .iastore, 16, 0, 0, .null),
  (16, .iload 1, 17, 0, 0, .null),
  (17, .iconst 0, 18, 0, 0, .int 1),
  (18, .isub, 19, 0, 0, .null),
  (19, .istore 2, 20, 0, 0, .null),
  (20, .iload 2, 21, 0, 0, .null),
  (21, .ifCond .lt 0, 24, 98, 0, .null),
  (24, .iconst 0, 25, 0, 0, .int 0),
  (25, .istore 3, 26, 0, 0, .null),
  (26, .iconst 0, 27, 0, 0, .int 0),
  (27, .istore 4, 29, 0, 0, .null),
  (29, .iload 4, 31, 0, 0, .null),
  (31, .aload 0, 32, 0, 0, .null),
  (32, .getfield 0, 35, 7, 10, .int 839),
  (35, .if_icmp .ge 0, 38, 85, 0, .null),
  (38, .iload 3, 39, 0, 0, .null),
  (39, .iload 2, 40, 0, 0, .null),
  (40, .iload 4, 42, 0, 0, .null),
  (42, .invokestatic 0, 45, 178, 1113, .null),
  (45, .ifCond .ne 0, 48, 76, 0, .null),
  (48, .aload 0, 49, 0, 0, .null),
  (49, .getfield 0, 52, 7, 27, .retAddr 856),
  (52, .iload 4, 54, 0, 0, .null),
  (54, .iaload, 55, 0, 0, .null),
  (55, .iload 2, 56, 0, 0, .null),
  (56, .iconst 0, 57, 0, 0, .int (-1)),
  (57, .ixor, 58, 0, 0, .null),
  (58, .iand, 59, 0, 0, .null),
  (59, .ifCond .ne 0, 62, 76, 0, .null),
  (62, .aload 0, 63, 0, 0, .null),
  (63, .getfield 0, 66, 7, 29, .retAddr 858),
  (66, .iload 2, 67, 0, 0, .null),
  (67, .iconst 0, 68, 0, 0, .int 1),
  (68, .iload 4, 70, 0, 0, .null),
  (70, .ishl, 71, 0, 0, .null),
  (71, .ior, 72, 0, 0, .null),
  (72, .iaload, 73, 0, 0, .null),
  (73, .goto 0, 76, 77, 0, .null),
  (76, .iconst 0, 77, 0, 0, .int 0),
  (77, .iadd, 78, 0, 0, .null),
  (78, .istore 3, 79, 0, 0, .null),
  (79, .iinc 4 0, 82, 0, 0, .int 1),
  (82, .goto 0, 85, 29, 0, .null),
  (85, .aload 0, 86, 0, 0, .null),
  (86, .getfield 0, 89, 7, 29, .retAddr 858),
  (89, .iload 2, 90, 0, 0, .null),
  (90, .iload 3, 91, 0, 0, .null),
  (91, .iastore, 92, 0, 0, .null),
  (92, .iinc 2 0, 95, 0, 0, .int (-1)),
  (95, .goto 0, 98, 20, 0, .null),
  (98, .aload 0, 99, 0, 0, .null),
  (99, .getfield 0, 102, 7, 29, .retAddr 858),
  (102, .iconst 0, 103, 0, 0, .int 0),
  (103, .iaload, 104, 0, 0, .null),
  (104, .ireturn, 105, 0, 0, .null)]
def m_M_countOrders : xM := (182, 7, 5, 1, 1, (1, 21, 0, 0), t_M_countOrders, 0, fun _ => 0)
def t_M_parts : List xRow := [(0, .lload 1, 1, 0, 0, .null),
  (1, .lstore 5, 3, 0, 0, .null),
  (3, .lload 3, 4, 0, 0, .null),
  (4, .lstore 7, 6, 0, 0, .null),
  (6, .lload 7, 8, 0, 0, .null),
  (8, .iconst 0, 9, 0, 0, .long 0),
  (9, .lcmp, 10, 0, 0, .null),
  (10, .ifCond .eq 0, 13, 31, 0, .null),
  (13, .lload 5, 15, 0, 0, .null),
  (15, .lload 7, 17, 0, 0, .null),
  (17, .lrem, 18, 0, 0, .null),
  (18, .lstore 9, 20, 0, 0, .null),
  (20, .lload 7, 22, 0, 0, .null),
  (22, .lstore 5, 24, 0, 0, .null),
  (24, .lload 9, 26, 0, 0, .null),
  (26, .lstore 7, 28, 0, 0, .null),
  (28, .goto 0, 31, 6, 0, .null),
  (31, .aload 0, 32, 0, 0, .null),
  (32, .lload 1, 33, 0, 0, .null),
  (33, .lload 5, 35, 0, 0, .null),
  (35, .ldiv, 36, 0, 0, .null),
  (36, .putfield 0, 39, 7, 3, .long 832),
  (39, .aload 0, 40, 0, 0, .null),
  (40, .lload 3, 41, 0, 0, .null),
  (41, .lload 5, 43, 0, 0, .null),
  (43, .ldiv, 44, 0, 0, .null),
  (44, .putfield 0, 47, 7, 4, .long 833),
  (47, .iconst 0, 48, 0, 0, .int 1),
  (48, .ireturn, 49, 0, 0, .null)]
def m_M_parts : xM := (183, 7, 11, 3, 1, (0, 0, 0, 0), t_M_parts, 0, fun _ => 0)
def t_M_first : List xRow := [(0, .iload 1, 1, 0, 0, .null),
  (1, .invokestatic 0, 4, 134, 943, .null),
  (4, .ifCond .ne 0, 7, 9, 0, .null),
  (7, .iconst 0, 8, 0, 0, .int (-1)),
  (8, .ireturn, 9, 0, 0, .null),
  (9, .aload 0, 10, 0, 0, .null),
  (10, .invokevirtual 0, 13, 176, 1105, .null),
  (13, .aload 0, 14, 0, 0, .null),
  (14, .invokevirtual 0, 17, 182, 1128, .null),
  (17, .ifCond .ne 0, 20, 23, 0, .null),
  (20, .iconst 0, 22, 0, 0, .int (-9)),
  (22, .ireturn, 23, 0, 0, .null),
  (23, .aload 0, 24, 0, 0, .null),
  (24, .iconst 0, 25, 0, 0, .int 0),
  (25, .iload 1, 26, 0, 0, .null),
  (26, .invokevirtual 0, 29, 185, 1140, .null),
  (29, .iconst 0, 30, 0, 0, .int 1),
  (30, .ireturn, 31, 0, 0, .null)]
def m_M_first : xM := (184, 7, 2, 2, 1, (5, 111, 0, 0), t_M_first, 0, fun _ => 0)
def t_M_putOrder : List xRow := [(0, .aload 0, 1, 0, 0, .null),
  (1, .iload 2, 2, 0, 0, .null),
  (2, .aload 0, 3, 0, 0, .null),
  (3, .getfield 0, 6, 7, 10, .int 839),
  (6, .invokevirtual 0, 9, 133, 1144, .null),
  (9, .pop, 10, 0, 0, .null),
  (10, .iload 1, 11, 0, 0, .null),
  (11, .istore 3, 12, 0, 0, .null),
  (12, .iconst 0, 13, 0, 0, .int 0),
  (13, .istore 4, 15, 0, 0, .null),
  (15, .iconst 0, 16, 0, 0, .int 0),
  (16, .istore 5, 18, 0, 0, .null),
  (18, .iload 5, 20, 0, 0, .null),
  (20, .aload 0, 21, 0, 0, .null),
  (21, .getfield 0, 24, 7, 10, .int 839),
  (24, .if_icmp .ge 0, 27, 154, 0, .null),
  (27, .iconst 0, 29, 0, 0, .int (-9)),
  (29, .istore 6, 31, 0, 0, .null),
  (31, .iconst 0, 32, 0, 0, .int 0),
  (32, .istore 7, 34, 0, 0, .null),
  (34, .iload 7, 36, 0, 0, .null),
  (36, .aload 0, 37, 0, 0, .null),
  (37, .getfield 0, 40, 7, 10, .int 839),
  (40, .if_icmp .ge 0, 43, 125, 0, .null),
  (43, .iload 6, 45, 0, 0, .null),
  (45, .iconst 0, 47, 0, 0, .int (-9)),
  (47, .if_icmp .ne 0, 50, 125, 0, .null),
  (50, .iload 4, 52, 0, 0, .null),
  (52, .iload 7, 54, 0, 0, .null),
  (54, .invokestatic 0, 57, 178, 1113, .null),
  (57, .ifCond .ne 0, 60, 119, 0, .null),
  (60, .aload 0, 61, 0, 0, .null),
  (61, .getfield 0, 64, 7, 27, .retAddr 856),
  (64, .iload 7, 66, 0, 0, .null),
  (66, .iaload, 67, 0, 0, .null),
  (67, .iload 4, 69, 0, 0, .null),
  (69, .iconst 0, 70, 0, 0, .int (-1)),
  (70, .ixor, 71, 0, 0, .null),
  (71, .iand, 72, 0, 0, .null),
  (72, .ifCond .ne 0, 75, 119, 0, .null),
  (75, .aload 0, 76, 0, 0, .null),
  (76, .getfield 0, 79, 7, 29, .retAddr 858),
  (79, .iload 4, 81, 0, 0, .null),
  (81, .iconst 0, 82, 0, 0, .int 1),
  (82, .iload 7, 84, 0, 0, .null),
  (84, .ishl, 85, 0, 0, .null),
  (85, .ior, 86, 0, 0, .null),
  (86, .iaload, 87, 0, 0, .null),
  (87, .istore 8, 89, 0, 0, .null),
  (89, .iload 3, 90, 0, 0, .null),
  (90, .iload 8, 92, 0, 0, .null),
  (92, .if_icmp .ge 0, 95, 100, 0, .null),
  (95, .iload 7, 97, 0, 0, .null),
  (97, .goto 0, 100, 102, 0, .null),
  (100, .iconst 0, 102, 0, 0, .int (-9)),
  (102, .istore 6, 104, 0, 0, .null),
  (104, .iload 3, 105, 0, 0, .null),
  (105, .iload 3, 106, 0, 0, .null),
  (106, .iload 8, 108, 0, 0, .null),
  (108, .if_icmp .ge 0, 111, 115, 0, .null),
  (111, .iconst 0, 112, 0, 0, .int 0),
  (112, .goto 0, 115, 117, 0, .null),
  (115, .iload 8, 117, 0, 0, .null),
  (117, .isub, 118, 0, 0, .null),
  (118, .istore 3, 119, 0, 0, .null),
  (119, .iinc 7 0, 122, 0, 0, .int 1),
  (122, .goto 0, 125, 34, 0, .null),
  (125, .aload 0, 126, 0, 0, .null),
  (126, .getfield 0, 129, 7, 6, .retAddr 835),
  (129, .iconst 0, 131, 0, 0, .int 40),
  (131, .iload 2, 132, 0, 0, .null),
  (132, .imul, 133, 0, 0, .null),
  (133, .iload 5, 135, 0, 0, .null),
  (135, .iadd, 136, 0, 0, .null),
  (136, .iload 6, 138, 0, 0, .null),
  (138, .iastore, 139, 0, 0, .null),
  (139, .iload 4, 141, 0, 0, .null),
  (141, .iconst 0, 142, 0, 0, .int 1),
  (142, .iload 6, 144, 0, 0, .null),
  (144, .ishl, 145, 0, 0, .null),
  (145, .ior, 146, 0, 0, .null),
  (146, .istore 4, 148, 0, 0, .null),
  (148, .iinc 5 0, 151, 0, 0, .int 1),
  (151, .goto 0, 154, 18, 0, .null),
  (154, .return_, 155, 0, 0, .null)]
def m_M_putOrder : xM := (185, 7, 9, 3, 0, (3, 65, 0, 0), t_M_putOrder, 0, fun _ => 0)
def t_M_nth : List xRow := [(0, .iload 1, 1, 0, 0, .null),
  (1, .ifCond .lt 0, 4, 11, 0, .null),
  (4, .iload 2, 5, 0, 0, .null),
  (5, .invokestatic 0, 8, 134, 943, .null),
  (8, .ifCond .ne 0, 11, 13, 0, .null),
  (11, .iconst 0, 12, 0, 0, .int (-1)),
  (12, .ireturn, 13, 0, 0, .null),
  (13, .aload 0, 14, 0, 0, .null),
  (14, .invokevirtual 0, 17, 176, 1105, .null),
  (17, .iload 1, 18, 0, 0, .null),
  (18, .aload 0, 19, 0, 0, .null),
  (19, .invokevirtual 0, 22, 182, 1128, .null),
  (22, .if_icmp .lt 0, 25, 31, 0, .null),
  (25, .aload 0, 26, 0, 0, .null),
  (26, .iconst 0, 27, 0, 0, .int 4),
  (27, .invokevirtual 0, 30, 136, 949, .null),
  (30, .ireturn, 31, 0, 0, .null),
  (31, .aload 0, 32, 0, 0, .null),
  (32, .iload 1, 33, 0, 0, .null),
  (33, .iload 2, 34, 0, 0, .null),
  (34, .invokevirtual 0, 37, 185, 1140, .null),
  (37, .iconst 0, 38, 0, 0, .int 1),
  (38, .ireturn, 39, 0, 0, .null)]
def m_M_nth : xM := (186, 7, 3, 3, 1, (5, 111, 0, 0), t_M_nth, 0, fun _ => 0)
def t_M_sure : List xRow := [(0, .aload 0, 1, 0, 0, .null),
  (1, .iload 1, 2, 0, 0, .null),
  (2, .iload 2, 3, 0, 0, .null),
  (3, .invokevirtual 0, 6, 171, 1085, .null),
  (6, .ifCond .ne 0, 9, 11, 0, .null),
  (9, .iconst 0, 10, 0, 0, .int (-1)),
  (10, .ireturn, 11, 0, 0, .null),
  (11, .aload 0, 12, 0, 0, .null),
  (12, .invokevirtual 0, 15, 188, 1153, .null),
  (15, .ifCond .eq 0, 18, 24, 0, .null),
  (18, .aload 0, 19, 0, 0, .null),
  (19, .iconst 0, 20, 0, 0, .int 4),
  (20, .invokevirtual 0, 23, 136, 949, .null),
  (23, .ireturn, 24, 0, 0, .null),
  (24, .aload 0, 25, 0, 0, .null),
  (25, .getfield 0, 28, 7, 28, .retAddr 857),
  (28, .iload 2, 29, 0, 0, .null),
  (29, .iaload, 30, 0, 0, .null),
  (30, .iload 1, 31, 0, 0, .null),
  (31, .invokestatic 0, 34, 178, 1113, .null),
  (34, .ifCond .eq 0, 37, 41, 0, .null),
  (37, .iconst 0, 38, 0, 0, .int 1),
  (38, .goto 0, 41, 59, 0, .null),
  (41, .aload 0, 42, 0, 0, .null),
  (42, .getfield 0, 45, 7, 28, .retAddr 857),
  (45, .iload 1, 46, 0, 0, .null),
  (46, .iaload, 47, 0, 0, .null),
  (47, .iload 2, 48, 0, 0, .null),
  (48, .invokestatic 0, 51, 178, 1113, .null),
  (51, .ifCond .eq 0, 54, 58, 0, .null),
  (54, .iconst 0, 55, 0, 0, .int 2),
  (55, .goto 0, 58, 59, 0, .null),
  (58, .iconst 0, 59, 0, 0, .int 0),
  (59, .ireturn, 60, 0, 0, .null)]
def m_M_sure : xM := (187, 7, 3, 3, 1, (5, 111, 0, 0), t_M_sure, 0, fun _ => 0)
def t_M_isRingNow : List xRow := [(0, .aload 0, 1, 0, 0, .null),
  (1, .iconst 0, 2, 0, 0, .int 0),
  (2, .iconst 0, 3, 0, 0, .int 0),
  (3, .aload 0, 4, 0, 0, .null),
  (4, .getfield 0, 7, 7, 17, .int 846),
  (7, .invokevirtual 0, 10, 177, 1109, .null),
  (10, .aload 0, 11, 0, 0, .null),
  (11, .invokevirtual 0, 14, 189, 1157, .null),
  (14, .ireturn, 15, 0, 0, .null)]
def m_M_isRingNow : xM := (188, 7, 1, 1, 2, (4, 91, 0, 0), t_M_isRingNow, 0, fun _ => 0)
def t_M_isRing : List xRow := [(0, .aload 0, 1, 0, 0, .null),
  (1, .invokevirtual 0, 4, 180, 1120, .null),
  (4, .iconst 0, 5, 0, 0, .int 0),
  (5, .istore 1, 6, 0, 0, .null),
  (6, .iconst 0, 7, 0, 0, .int 0),
  (7, .istore 2, 8, 0, 0, .null),
  (8, .iload 2, 9, 0, 0, .null),
  (9, .aload 0, 10, 0, 0, .null),
  (10, .getfield 0, 13, 7, 10, .int 839),
  (13, .if_icmp .ge 0, 16, 45, 0, .null),
  (16, .iload 1, 17, 0, 0, .null),
  (17, .ifCond .ne 0, 20, 33, 0, .null),
  (20, .aload 0, 21, 0, 0, .null),
  (21, .getfield 0, 24, 7, 28, .retAddr 857),
  (24, .iload 2, 25, 0, 0, .null),
  (25, .iaload, 26, 0, 0, .null),
  (26, .iload 2, 27, 0, 0, .null),
  (27, .invokestatic 0, 30, 178, 1113, .null),
  (30, .ifCond .eq 0, 33, 37, 0, .null),
  (33, .iconst 0, 34, 0, 0, .int 1),
  (34, .goto 0, 37, 38, 0, .null),
  (37, .iconst 0, 38, 0, 0, .int 0),
  (38, .istore 1, 39, 0, 0, .null),
  (39, .iinc 2 0, 42, 0, 0, .int 1),
  (42, .goto 0, 45, 8, 0, .null),
  (45, .iload 1, 46, 0, 0, .null),
  (46, .ireturn, 47, 0, 0, .null)]
def m_M_isRing : xM := (189, 7, 3, 1, 2, (2, 43, 0, 0), t_M_isRing, 0, fun _ => 0)
def t_M_odds : List xRow := [(0, .aload 0, 1, 0, 0, .null),
  (1, .iload 1, 2, 0, 0, .null),
  (2, .iload 2, 3, 0, 0, .null),
  (3, .invokevirtual 0, 6, 171, 1085, .null),
  (6, .ifCond .ne 0, 9, 11, 0, .null),
  (9, .iconst 0, 10, 0, 0, .int (-1)),
  (10, .ireturn, 11, 0, 0, .null),
  (11, .aload 0, 12, 0, 0, .null),
  (12, .invokevirtual 0, 15, 188, 1153, .null),
  (15, .ifCond .eq 0, 18, 24, 0, .null),
  (18, .aload 0, 19, 0, 0, .null),
  (19, .iconst 0, 20, 0, 0, .int 4),
  (20, .invokevirtual 0, 23, 136, 949, .null),
  (23, .ireturn, 24, 0, 0, .null),
  (24, .aload 0, 25, 0, 0, .null),
  (25, .iload 1, 26, 0, 0, .null),
  (26, .iload 2, 27, 0, 0, .null),
  (27, .invokevirtual 0, 30, 191, 1165, .null),
  (30, .istore 3, 31, 0, 0, .null),
  (31, .aload 0, 32, 0, 0, .null),
  (32, .iload 3, 33, 0, 0, .null),
  (33, .i2l, 34, 0, 0, .null),
  (34, .aload 0, 35, 0, 0, .null),
  (35, .invokevirtual 0, 38, 182, 1128, .null),
  (38, .i2l, 39, 0, 0, .null),
  (39, .invokevirtual 0, 42, 183, 1132, .null),
  (42, .ireturn, 43, 0, 0, .null)]
def m_M_odds : xM := (190, 7, 4, 3, 1, (5, 111, 0, 0), t_M_odds, 0, fun _ => 0)
def t_M_countWith : List xRow := [(0, .aload 0, 1, 0, 0, .null),
  (1, .getfield 0, 4, 7, 27, .retAddr 856),
  (4, .iload 2, 5, 0, 0, .null),
  (5, .iaload, 6, 0, 0, .null),
  (6, .istore 3, 7, 0, 0, .null),
  (7, .aload 0, 8, 0, 0, .null),
  (8, .getfield 0, 11, 7, 27, .retAddr 856),
  (11, .iload 2, 12, 0, 0, .null),
  (12, .dup2, 13, 0, 0, .null),
  (13, .iaload, 14, 0, 0, .null),
  (14, .iconst 0, 15, 0, 0, .int 1),
  (15, .iload 1, 16, 0, 0, .null),
  (16, .ishl, 17, 0, 0, .null),
  (17, .ior, 18, 0, 0, .null),
  (18, .iastore, 19, 0, 0, .null),
  (19, .aload 0, 20, 0, 0, .null),
  (20, .invokevirtual 0, 23, 182, 1128, .null),
  (23, .istore 4, 25, 0, 0, .null),
  (25, .aload 0, 26, 0, 0, .null),
  (26, .getfield 0, 29, 7, 27, .retAddr 856),
  (29, .iload 2, 30, 0, 0, .null),
  (30, .iload 3, 31, 0, 0, .null),
  (31, .iastore, 32, 0, 0, .null),
  (32, .iload 4, 34, 0, 0, .null),
  (34, .ireturn, 35, 0, 0, .null)]
def m_M_countWith : xM := (191, 7, 5, 3, 1, (2, 45, 0, 0), t_M_countWith, 0, fun _ => 0)
def t_M_place : List xRow := [(0, .aload 0, 1, 0, 0, .null),
  (1, .iload 1, 2, 0, 0, .null),
  (2, .invokevirtual 0, 5, 157, 1030, .null),
  (5, .ifCond .ne 0, 8, 10, 0, .null),
  (8, .iconst 0, 9, 0, 0, .int (-1)),
  (9, .ireturn, 10, 0, 0, .null),
  (10, .aload 0, 11, 0, 0, .null),
  (11, .invokevirtual 0, 14, 188, 1153, .null),
  (14, .ifCond .eq 0, 17, 23, 0, .null),
  (17, .aload 0, 18, 0, 0, .null),
  (18, .iconst 0, 19, 0, 0, .int 4),
  (19, .invokevirtual 0, 22, 136, 949, .null),
  (22, .ireturn, 23, 0, 0, .null),
  (23, .aload 0, 24, 0, 0, .null),
  (24, .aload 0, 25, 0, 0, .null),
  (25, .getfield 0, 28, 7, 10, .int 839),
  (28, .iconst 0, 29, 0, 0, .int 1),
  (29, .isub, 30, 0, 0, .null),
  (30, .aload 0, 31, 0, 0, .null),
  (31, .iload 1, 32, 0, 0, .null),
  (32, .invokevirtual 0, 35, 193, 1173, .null),
  (35, .isub, 36, 0, 0, .null),
  (36, .aload 0, 37, 0, 0, .null),
  (37, .getfield 0, 40, 7, 28, .retAddr 857),
  (40, .iload 1, 41, 0, 0, .null),
  (41, .iaload, 42, 0, 0, .null),
  (42, .invokestatic 0, 45, 166, 1066, .null),
  (45, .invokevirtual 0, 48, 139, 961, .null),
  (48, .ireturn, 49, 0, 0, .null)]
def m_M_place : xM := (192, 7, 2, 2, 1, (5, 111, 0, 0), t_M_place, 0, fun _ => 0)
def t_M_behind : List xRow := [(0, .iconst 0, 1, 0, 0, .int 0),
  (1, .istore 2, 2, 0, 0, .null),
  (2, .iconst 0, 3, 0, 0, .int 0),
  (3, .istore 3, 4, 0, 0, .null),
  (4, .iload 3, 5, 0, 0, .null),
  (5, .aload 0, 6, 0, 0, .null),
  (6, .getfield 0, 9, 7, 10, .int 839),
  (9, .if_icmp .ge 0, 12, 31, 0, .null),
  (12, .iload 2, 13, 0, 0, .null),
  (13, .aload 0, 14, 0, 0, .null),
  (14, .getfield 0, 17, 7, 28, .retAddr 857),
  (17, .iload 3, 18, 0, 0, .null),
  (18, .iaload, 19, 0, 0, .null),
  (19, .iload 1, 20, 0, 0, .null),
  (20, .ishr, 21, 0, 0, .null),
  (21, .iconst 0, 22, 0, 0, .int 1),
  (22, .iand, 23, 0, 0, .null),
  (23, .iadd, 24, 0, 0, .null),
  (24, .istore 2, 25, 0, 0, .null),
  (25, .iinc 3 0, 28, 0, 0, .int 1),
  (28, .goto 0, 31, 4, 0, .null),
  (31, .iload 2, 32, 0, 0, .null),
  (32, .ireturn, 33, 0, 0, .null)]
def m_M_behind : xM := (193, 7, 4, 2, 1, (0, 0, 0, 0), t_M_behind, 0, fun _ => 0)
def t_M_judge : List xRow := [(0, .iload 1, 1, 0, 0, .null),
  (1, .invokestatic 0, 4, 134, 943, .null),
  (4, .ifCond .ne 0, 7, 9, 0, .null),
  (7, .iconst 0, 8, 0, 0, .int (-1)),
  (8, .ireturn, 9, 0, 0, .null),
  (9, .aload 0, 10, 0, 0, .null),
  (10, .iload 1, 11, 0, 0, .null),
  (11, .invokevirtual 0, 14, 195, 1181, .null),
  (14, .istore 2, 15, 0, 0, .null),
  (15, .iload 2, 16, 0, 0, .null),
  (16, .ifCond .eq 0, 19, 21, 0, .null),
  (19, .iload 2, 20, 0, 0, .null),
  (20, .ireturn, 21, 0, 0, .null),
  (21, .aload 0, 22, 0, 0, .null),
  (22, .getfield 0, 25, 7, 14, .int 843),
  (25, .istore 3, 26, 0, 0, .null),
  (26, .iconst 0, 27, 0, 0, .int 0),
  (27, .istore 4, 29, 0, 0, .null),
  (29, .aload 0, 30, 0, 0, .null),
  (30, .getfield 0, 33, 7, 14, .int 843),
  (33, .iconst 0, 34, 0, 0, .int 1),
  (34, .isub, 35, 0, 0, .null),
  (35, .istore 5, 37, 0, 0, .null),
  (37, .iload 5, 39, 0, 0, .null),
  (39, .ifCond .lt 0, 42, 118, 0, .null),
  (42, .aload 0, 43, 0, 0, .null),
  (43, .iload 5, 45, 0, 0, .null),
  (45, .invokevirtual 0, 48, 160, 1042, .null),
  (48, .ifCond .eq 0, 51, 82, 0, .null),
  (51, .aload 0, 52, 0, 0, .null),
  (52, .getfield 0, 55, 7, 30, .retAddr 859),
  (55, .aload 0, 56, 0, 0, .null),
  (56, .getfield 0, 59, 7, 16, .retAddr 845),
  (59, .iload 5, 61, 0, 0, .null),
  (61, .iaload, 62, 0, 0, .null),
  (62, .iaload, 63, 0, 0, .null),
  (63, .aload 0, 64, 0, 0, .null),
  (64, .getfield 0, 67, 7, 30, .retAddr 859),
  (67, .aload 0, 68, 0, 0, .null),
  (68, .getfield 0, 71, 7, 15, .retAddr 844),
  (71, .iload 5, 73, 0, 0, .null),
  (73, .iaload, 74, 0, 0, .null),
  (74, .iaload, 75, 0, 0, .null),
  (75, .if_icmp .le 0, 78, 82, 0, .null),
  (78, .iconst 0, 79, 0, 0, .int 1),
  (79, .goto 0, 82, 83, 0, .null),
  (82, .iconst 0, 83, 0, 0, .int 0),
  (83, .istore 6, 85, 0, 0, .null),
  (85, .iload 6, 87, 0, 0, .null),
  (87, .ifCond .eq 0, 90, 95, 0, .null),
  (90, .iload 5, 92, 0, 0, .null),
  (92, .goto 0, 95, 96, 0, .null),
  (95, .iload 3, 96, 0, 0, .null),
  (96, .istore 3, 97, 0, 0, .null),
  (97, .iload 4, 99, 0, 0, .null),
  (99, .iload 6, 101, 0, 0, .null),
  (101, .ifCond .eq 0, 104, 108, 0, .null),
  (104, .iconst 0, 105, 0, 0, .int 1),
  (105, .goto 0, 108, 109, 0, .null),
  (108, .iconst 0, 109, 0, 0, .int 0),
  (109, .iadd, 110, 0, 0, .null),
  (110, .istore 4, 112, 0, 0, .null),
  (112, .iinc 5 0, 115, 0, 0, .int (-1)),
  (115, .goto 0, 118, 37, 0, .null),
  (118, .aload 0, 119, 0, 0, .null),
  (119, .iload 4, 121, 0, 0, .null),
  (121, .iload 3, 122, 0, 0, .null),
  (122, .invokevirtual 0, 125, 139, 961, .null),
  (125, .ireturn, 126, 0, 0, .null)]
def m_M_judge : xM := (194, 7, 7, 2, 1, (3, 67, 0, 0), t_M_judge, 0, fun _ => 0)
def t_M_orderBar : List xRow := [(0, .aload 0, 1, 0, 0, .null),
  (1, .getfield 0, 4, 7, 5, .retAddr 834),
  (4, .iload 1, 5, 0, 0, .null),
  (5, .iaload, 6, 0, 0, .null),
  (6, .iconst 0, 8, 0, 0, .int (-9)),
  (8, .if_icmp .ne 0, 11, 17, 0, .null),
  (11, .aload 0, 12, 0, 0, .null),
  (12, .iconst 0, 13, 0, 0, .int 1),
  (13, .invokevirtual 0, 16, 136, 949, .null),
  (16, .ireturn, 17, 0, 0, .null),
  (17, .aload 0, 18, 0, 0, .null),
  (18, .getfield 0, 21, 7, 5, .retAddr 834),
  (21, .iload 1, 22, 0, 0, .null),
  (22, .iaload, 23, 0, 0, .null),
  (23, .aload 0, 24, 0, 0, .null),
  (24, .getfield 0, 27, 7, 10, .int 839),
  (27, .if_icmp .eq 0, 30, 36, 0, .null),
  (30, .aload 0, 31, 0, 0, .null),
  (31, .iconst 0, 32, 0, 0, .int 5),
  (32, .invokevirtual 0, 35, 136, 949, .null),
  (35, .ireturn, 36, 0, 0, .null),
  (36, .iconst 0, 37, 0, 0, .int 0),
  (37, .istore 2, 38, 0, 0, .null),
  (38, .iconst 0, 39, 0, 0, .int 0),
  (39, .istore 3, 40, 0, 0, .null),
  (40, .iload 3, 41, 0, 0, .null),
  (41, .aload 0, 42, 0, 0, .null),
  (42, .getfield 0, 45, 7, 10, .int 839),
  (45, .if_icmp .ge 0, 48, 106, 0, .null),
  (48, .aload 0, 49, 0, 0, .null),
  (49, .getfield 0, 52, 7, 6, .retAddr 835),
  (52, .iconst 0, 54, 0, 0, .int 40),
  (54, .iload 1, 55, 0, 0, .null),
  (55, .imul, 56, 0, 0, .null),
  (56, .iload 3, 57, 0, 0, .null),
  (57, .iadd, 58, 0, 0, .null),
  (58, .iaload, 59, 0, 0, .null),
  (59, .istore 4, 61, 0, 0, .null),
  (61, .aload 0, 62, 0, 0, .null),
  (62, .iload 4, 64, 0, 0, .null),
  (64, .invokevirtual 0, 67, 157, 1030, .null),
  (67, .ifCond .eq 0, 70, 79, 0, .null),
  (70, .iload 2, 71, 0, 0, .null),
  (71, .iload 4, 73, 0, 0, .null),
  (73, .invokestatic 0, 76, 178, 1113, .null),
  (76, .ifCond .eq 0, 79, 85, 0, .null),
  (79, .aload 0, 80, 0, 0, .null),
  (80, .iconst 0, 81, 0, 0, .int 3),
  (81, .invokevirtual 0, 84, 136, 949, .null),
  (84, .ireturn, 85, 0, 0, .null),
  (85, .iload 2, 86, 0, 0, .null),
  (86, .iconst 0, 87, 0, 0, .int 1),
  (87, .iload 4, 89, 0, 0, .null),
  (89, .ishl, 90, 0, 0, .null),
  (90, .ior, 91, 0, 0, .null),
  (91, .istore 2, 92, 0, 0, .null),
  (92, .aload 0, 93, 0, 0, .null),
  (93, .getfield 0, 96, 7, 30, .retAddr 859),
  (96, .iload 4, 98, 0, 0, .null),
  (98, .iload 3, 99, 0, 0, .null),
  (99, .iastore, 100, 0, 0, .null),
  (100, .iinc 3 0, 103, 0, 0, .int 1),
  (103, .goto 0, 106, 40, 0, .null),
  (106, .iconst 0, 107, 0, 0, .int 0),
  (107, .ireturn, 108, 0, 0, .null)]
def m_M_orderBar : xM := (195, 7, 5, 2, 1, (2, 43, 0, 0), t_M_orderBar, 0, fun _ => 0)
def t_M_meet : List xRow := [(0, .aload 0, 1, 0, 0, .null),
  (1, .iload 1, 2, 0, 0, .null),
  (2, .iload 2, 3, 0, 0, .null),
  (3, .invokevirtual 0, 6, 171, 1085, .null),
  (6, .ifCond .ne 0, 9, 11, 0, .null),
  (9, .iconst 0, 10, 0, 0, .int (-1)),
  (10, .ireturn, 11, 0, 0, .null),
  (11, .aload 0, 12, 0, 0, .null),
  (12, .invokevirtual 0, 15, 188, 1153, .null),
  (15, .ifCond .eq 0, 18, 24, 0, .null),
  (18, .aload 0, 19, 0, 0, .null),
  (19, .iconst 0, 20, 0, 0, .int 4),
  (20, .invokevirtual 0, 23, 136, 949, .null),
  (23, .ireturn, 24, 0, 0, .null),
  (24, .aload 0, 25, 0, 0, .null),
  (25, .iload 1, 26, 0, 0, .null),
  (26, .iload 2, 27, 0, 0, .null),
  (27, .invokevirtual 0, 30, 197, 1189, .null),
  (30, .ifCond .ne 0, 33, 42, 0, .null),
  (33, .aload 0, 34, 0, 0, .null),
  (34, .iload 2, 35, 0, 0, .null),
  (35, .iload 1, 36, 0, 0, .null),
  (36, .invokevirtual 0, 39, 197, 1189, .null),
  (39, .ifCond .eq 0, 42, 46, 0, .null),
  (42, .iconst 0, 43, 0, 0, .int 0),
  (43, .goto 0, 46, 47, 0, .null),
  (46, .iconst 0, 47, 0, 0, .int 1),
  (47, .ireturn, 48, 0, 0, .null)]
def m_M_meet : xM := (196, 7, 3, 3, 1, (5, 111, 0, 0), t_M_meet, 0, fun _ => 0)
def t_M_isBetween : List xRow := [(0, .iconst 0, 1, 0, 0, .int 0),
  (1, .istore 3, 2, 0, 0, .null),
  (2, .iconst 0, 3, 0, 0, .int 0),
  (3, .istore 4, 5, 0, 0, .null),
  (5, .iload 4, 7, 0, 0, .null),
  (7, .aload 0, 8, 0, 0, .null),
  (8, .getfield 0, 11, 7, 10, .int 839),
  (11, .if_icmp .ge 0, 14, 58, 0, .null),
  (14, .iload 3, 15, 0, 0, .null),
  (15, .ifCond .ne 0, 18, 46, 0, .null),
  (18, .aload 0, 19, 0, 0, .null),
  (19, .getfield 0, 22, 7, 28, .retAddr 857),
  (22, .iload 4, 24, 0, 0, .null),
  (24, .iaload, 25, 0, 0, .null),
  (25, .iload 1, 26, 0, 0, .null),
  (26, .invokestatic 0, 29, 178, 1113, .null),
  (29, .ifCond .eq 0, 32, 50, 0, .null),
  (32, .aload 0, 33, 0, 0, .null),
  (33, .getfield 0, 36, 7, 28, .retAddr 857),
  (36, .iload 2, 37, 0, 0, .null),
  (37, .iaload, 38, 0, 0, .null),
  (38, .iload 4, 40, 0, 0, .null),
  (40, .invokestatic 0, 43, 178, 1113, .null),
  (43, .ifCond .eq 0, 46, 50, 0, .null),
  (46, .iconst 0, 47, 0, 0, .int 1),
  (47, .goto 0, 50, 51, 0, .null),
  (50, .iconst 0, 51, 0, 0, .int 0),
  (51, .istore 3, 52, 0, 0, .null),
  (52, .iinc 4 0, 55, 0, 0, .int 1),
  (55, .goto 0, 58, 5, 0, .null),
  (58, .iload 3, 59, 0, 0, .null),
  (59, .ireturn, 60, 0, 0, .null)]
def m_M_isBetween : xM := (197, 7, 5, 3, 2, (1, 21, 0, 0), t_M_isBetween, 0, fun _ => 0)
def t_M_chain : List xRow := [(0, .aload 0, 1, 0, 0, .null),
  (1, .iload 1, 2, 0, 0, .null),
  (2, .invokevirtual 0, 5, 157, 1030, .null),
  (5, .ifCond .ne 0, 8, 10, 0, .null),
  (8, .iconst 0, 9, 0, 0, .int (-1)),
  (9, .ireturn, 10, 0, 0, .null),
  (10, .aload 0, 11, 0, 0, .null),
  (11, .invokevirtual 0, 14, 188, 1153, .null),
  (14, .ifCond .eq 0, 17, 23, 0, .null),
  (17, .aload 0, 18, 0, 0, .null),
  (18, .iconst 0, 19, 0, 0, .int 4),
  (19, .invokevirtual 0, 22, 136, 949, .null),
  (22, .ireturn, 23, 0, 0, .null),
  (23, .aload 0, 24, 0, 0, .null),
  (24, .iconst 0, 25, 0, 0, .int 1),
  (25, .invokevirtual 0, 28, 199, 1197, .null),
  (28, .aload 0, 29, 0, 0, .null),
  (29, .getfield 0, 32, 7, 31, .retAddr 860),
  (32, .iload 1, 33, 0, 0, .null),
  (33, .iaload, 34, 0, 0, .null),
  (34, .istore 2, 35, 0, 0, .null),
  (35, .aload 0, 36, 0, 0, .null),
  (36, .iconst 0, 37, 0, 0, .int 0),
  (37, .invokevirtual 0, 40, 199, 1197, .null),
  (40, .aload 0, 41, 0, 0, .null),
  (41, .aload 0, 42, 0, 0, .null),
  (42, .getfield 0, 45, 7, 31, .retAddr 860),
  (45, .iload 1, 46, 0, 0, .null),
  (46, .iaload, 47, 0, 0, .null),
  (47, .iload 2, 48, 0, 0, .null),
  (48, .invokevirtual 0, 51, 139, 961, .null),
  (51, .ireturn, 52, 0, 0, .null)]
def m_M_chain : xM := (198, 7, 3, 2, 1, (5, 111, 0, 0), t_M_chain, 0, fun _ => 0)
def t_M_findChains : List xRow := [(0, .iconst 0, 1, 0, 0, .int 0),
  (1, .istore 2, 2, 0, 0, .null),
  (2, .iload 2, 3, 0, 0, .null),
  (3, .aload 0, 4, 0, 0, .null),
  (4, .getfield 0, 7, 7, 10, .int 839),
  (7, .if_icmp .ge 0, 10, 23, 0, .null),
  (10, .aload 0, 11, 0, 0, .null),
  (11, .getfield 0, 14, 7, 31, .retAddr 860),
  (14, .iload 2, 15, 0, 0, .null),
  (15, .iconst 0, 16, 0, 0, .int 1),
  (16, .iastore, 17, 0, 0, .null),
  (17, .iinc 2 0, 20, 0, 0, .int 1),
  (20, .goto 0, 23, 2, 0, .null),
  (23, .iconst 0, 24, 0, 0, .int 0),
  (24, .istore 2, 25, 0, 0, .null),
  (25, .iload 2, 26, 0, 0, .null),
  (26, .aload 0, 27, 0, 0, .null),
  (27, .getfield 0, 30, 7, 10, .int 839),
  (30, .if_icmp .ge 0, 33, 151, 0, .null),
  (33, .iconst 0, 34, 0, 0, .int 0),
  (34, .istore 3, 35, 0, 0, .null),
  (35, .iload 3, 36, 0, 0, .null),
  (36, .aload 0, 37, 0, 0, .null),
  (37, .getfield 0, 40, 7, 10, .int 839),
  (40, .if_icmp .ge 0, 43, 145, 0, .null),
  (43, .iconst 0, 44, 0, 0, .int 0),
  (44, .istore 4, 46, 0, 0, .null),
  (46, .iload 4, 48, 0, 0, .null),
  (48, .aload 0, 49, 0, 0, .null),
  (49, .getfield 0, 52, 7, 10, .int 839),
  (52, .if_icmp .ge 0, 55, 139, 0, .null),
  (55, .iload 1, 56, 0, 0, .null),
  (56, .ifCond .eq 0, 59, 73, 0, .null),
  (59, .aload 0, 60, 0, 0, .null),
  (60, .getfield 0, 63, 7, 28, .retAddr 857),
  (63, .iload 3, 64, 0, 0, .null),
  (64, .iaload, 65, 0, 0, .null),
  (65, .iload 4, 67, 0, 0, .null),
  (67, .invokestatic 0, 70, 178, 1113, .null),
  (70, .goto 0, 73, 84, 0, .null),
  (73, .aload 0, 74, 0, 0, .null),
  (74, .getfield 0, 77, 7, 28, .retAddr 857),
  (77, .iload 4, 79, 0, 0, .null),
  (79, .iaload, 80, 0, 0, .null),
  (80, .iload 3, 81, 0, 0, .null),
  (81, .invokestatic 0, 84, 178, 1113, .null),
  (84, .istore 5, 86, 0, 0, .null),
  (86, .aload 0, 87, 0, 0, .null),
  (87, .getfield 0, 90, 7, 31, .retAddr 860),
  (90, .iload 3, 91, 0, 0, .null),
  (91, .iload 5, 93, 0, 0, .null),
  (93, .ifCond .eq 0, 96, 126, 0, .null),
  (96, .aload 0, 97, 0, 0, .null),
  (97, .getfield 0, 100, 7, 31, .retAddr 860),
  (100, .iload 4, 102, 0, 0, .null),
  (102, .iaload, 103, 0, 0, .null),
  (103, .iconst 0, 104, 0, 0, .int 1),
  (104, .iadd, 105, 0, 0, .null),
  (105, .aload 0, 106, 0, 0, .null),
  (106, .getfield 0, 109, 7, 31, .retAddr 860),
  (109, .iload 3, 110, 0, 0, .null),
  (110, .iaload, 111, 0, 0, .null),
  (111, .if_icmp .le 0, 114, 126, 0, .null),
  (114, .aload 0, 115, 0, 0, .null),
  (115, .getfield 0, 118, 7, 31, .retAddr 860),
  (118, .iload 4, 120, 0, 0, .null),
  (120, .iaload, 121, 0, 0, .null),
  (121, .iconst 0, 122, 0, 0, .int 1),
  (122, .iadd, 123, 0, 0, .null),
  (123, .goto 0, 126, 132, 0, .null),
  (126, .aload 0, 127, 0, 0, .null),
  (127, .getfield 0, 130, 7, 31, .retAddr 860),
  (130, .iload 3, 131, 0, 0, .null),
  (131, .iaload, 132, 0, 0, .null),
  (132, .iastore, 133, 0, 0, .null),
  (133, .iinc 4 0, 136, 0, 0, .int 1),
  (136, .goto 0, 139, 46, 0, .null),
  (139, .iinc 3 0, 142, 0, 0, .int 1),
  (142, .goto 0, 145, 35, 0, .null),
  (145, .iinc 2 0, 148, 0, 0, .int 1),
  (148, .goto 0, 151, 25, 0, .null),
  (151, .return_, 152, 0, 0, .null)]
def m_M_findChains : xM := (199, 7, 6, 2, 0, (1, 21, 0, 0), t_M_findChains, 0, fun _ => 0)
def t_M_ring : List xRow := [(0, .iload 1, 1, 0, 0, .null),
  (1, .invokestatic 0, 4, 134, 943, .null),
  (4, .ifCond .ne 0, 7, 9, 0, .null),
  (7, .iconst 0, 8, 0, 0, .int (-1)),
  (8, .ireturn, 9, 0, 0, .null),
  (9, .aload 0, 10, 0, 0, .null),
  (10, .invokevirtual 0, 13, 176, 1105, .null),
  (13, .iconst 0, 15, 0, 0, .int (-9)),
  (15, .istore 2, 16, 0, 0, .null),
  (16, .iconst 0, 18, 0, 0, .int (-9)),
  (18, .istore 3, 19, 0, 0, .null),
  (19, .aload 0, 20, 0, 0, .null),
  (20, .getfield 0, 23, 7, 10, .int 839),
  (23, .iconst 0, 24, 0, 0, .int 1),
  (24, .isub, 25, 0, 0, .null),
  (25, .istore 4, 27, 0, 0, .null),
  (27, .iload 4, 29, 0, 0, .null),
  (29, .ifCond .lt 0, 32, 96, 0, .null),
  (32, .aload 0, 33, 0, 0, .null),
  (33, .iload 4, 35, 0, 0, .null),
  (35, .invokevirtual 0, 38, 201, 1205, .null),
  (38, .istore 5, 40, 0, 0, .null),
  (40, .iload 5, 42, 0, 0, .null),
  (42, .iconst 0, 44, 0, 0, .int (-9)),
  (44, .if_icmp .eq 0, 47, 63, 0, .null),
  (47, .iload 3, 48, 0, 0, .null),
  (48, .iconst 0, 50, 0, 0, .int (-9)),
  (50, .if_icmp .eq 0, 53, 59, 0, .null),
  (53, .iload 5, 55, 0, 0, .null),
  (55, .iload 3, 56, 0, 0, .null),
  (56, .if_icmp .gt 0, 59, 63, 0, .null),
  (59, .iconst 0, 60, 0, 0, .int 1),
  (60, .goto 0, 63, 64, 0, .null),
  (63, .iconst 0, 64, 0, 0, .int 0),
  (64, .istore 6, 66, 0, 0, .null),
  (66, .iload 6, 68, 0, 0, .null),
  (68, .ifCond .eq 0, 71, 76, 0, .null),
  (71, .iload 4, 73, 0, 0, .null),
  (73, .goto 0, 76, 77, 0, .null),
  (76, .iload 2, 77, 0, 0, .null),
  (77, .istore 2, 78, 0, 0, .null),
  (78, .iload 6, 80, 0, 0, .null),
  (80, .ifCond .eq 0, 83, 88, 0, .null),
  (83, .iload 5, 85, 0, 0, .null),
  (85, .goto 0, 88, 89, 0, .null),
  (88, .iload 3, 89, 0, 0, .null),
  (89, .istore 3, 90, 0, 0, .null),
  (90, .iinc 4 0, 93, 0, 0, .int (-1)),
  (93, .goto 0, 96, 27, 0, .null),
  (96, .iload 3, 97, 0, 0, .null),
  (97, .iconst 0, 99, 0, 0, .int (-9)),
  (99, .if_icmp .ne 0, 102, 105, 0, .null),
  (102, .iconst 0, 104, 0, 0, .int (-9)),
  (104, .ireturn, 105, 0, 0, .null),
  (105, .aload 0, 106, 0, 0, .null),
  (106, .iload 2, 107, 0, 0, .null),
  (107, .invokevirtual 0, 110, 202, 1209, .null),
  (110, .aload 0, 111, 0, 0, .null),
  (111, .iload 1, 112, 0, 0, .null),
  (112, .iload 3, 113, 0, 0, .null),
  (113, .invokevirtual 0, 116, 133, 1144, .null),
  (116, .pop, 117, 0, 0, .null),
  (117, .iload 2, 118, 0, 0, .null),
  (118, .istore 4, 120, 0, 0, .null),
  (120, .iconst 0, 121, 0, 0, .int 0),
  (121, .istore 5, 123, 0, 0, .null),
  (123, .iload 5, 125, 0, 0, .null),
  (125, .iload 3, 126, 0, 0, .null),
  (126, .if_icmp .ge 0, 129, 217, 0, .null),
  (129, .aload 0, 130, 0, 0, .null),
  (130, .getfield 0, 133, 7, 6, .retAddr 835),
  (133, .iconst 0, 135, 0, 0, .int 40),
  (135, .iload 1, 136, 0, 0, .null),
  (136, .imul, 137, 0, 0, .null),
  (137, .iload 5, 139, 0, 0, .null),
  (139, .iadd, 140, 0, 0, .null),
  (140, .iload 4, 142, 0, 0, .null),
  (142, .iastore, 143, 0, 0, .null),
  (143, .iconst 0, 145, 0, 0, .int (-9)),
  (145, .istore 6, 147, 0, 0, .null),
  (147, .aload 0, 148, 0, 0, .null),
  (148, .getfield 0, 151, 7, 10, .int 839),
  (151, .iconst 0, 152, 0, 0, .int 1),
  (152, .isub, 153, 0, 0, .null),
  (153, .istore 7, 155, 0, 0, .null),
  (155, .iload 7, 157, 0, 0, .null),
  (157, .iload 2, 158, 0, 0, .null),
  (158, .if_icmp .le 0, 161, 207, 0, .null),
  (161, .aload 0, 162, 0, 0, .null),
  (162, .getfield 0, 165, 7, 27, .retAddr 856),
  (165, .iload 7, 167, 0, 0, .null),
  (167, .iaload, 168, 0, 0, .null),
  (168, .iload 4, 170, 0, 0, .null),
  (170, .invokestatic 0, 173, 178, 1113, .null),
  (173, .ifCond .eq 0, 176, 197, 0, .null),
  (176, .aload 0, 177, 0, 0, .null),
  (177, .getfield 0, 180, 7, 32, .retAddr 861),
  (180, .iload 7, 182, 0, 0, .null),
  (182, .iaload, 183, 0, 0, .null),
  (183, .iload 3, 184, 0, 0, .null),
  (184, .iconst 0, 185, 0, 0, .int 1),
  (185, .isub, 186, 0, 0, .null),
  (186, .iload 5, 188, 0, 0, .null),
  (188, .isub, 189, 0, 0, .null),
  (189, .if_icmp .ne 0, 192, 197, 0, .null),
  (192, .iload 7, 194, 0, 0, .null),
  (194, .goto 0, 197, 199, 0, .null),
  (197, .iload 6, 199, 0, 0, .null),
  (199, .istore 6, 201, 0, 0, .null),
  (201, .iinc 7 0, 204, 0, 0, .int (-1)),
  (204, .goto 0, 207, 155, 0, .null),
  (207, .iload 6, 209, 0, 0, .null),
  (209, .istore 4, 211, 0, 0, .null),
  (211, .iinc 5 0, 214, 0, 0, .int 1),
  (214, .goto 0, 217, 123, 0, .null),
  (217, .iload 3, 218, 0, 0, .null),
  (218, .ireturn, 219, 0, 0, .null)]
def m_M_ring : xM := (200, 7, 8, 2, 1, (5, 111, 0, 0), t_M_ring, 0, fun _ => 0)
def t_M_ringBy : List xRow := [(0, .aload 0, 1, 0, 0, .null),
  (1, .iload 1, 2, 0, 0, .null),
  (2, .invokevirtual 0, 5, 202, 1209, .null),
  (5, .iconst 0, 7, 0, 0, .int (-9)),
  (7, .istore 2, 8, 0, 0, .null),
  (8, .iload 1, 9, 0, 0, .null),
  (9, .iconst 0, 10, 0, 0, .int 1),
  (10, .iadd, 11, 0, 0, .null),
  (11, .istore 3, 12, 0, 0, .null),
  (12, .iload 3, 13, 0, 0, .null),
  (13, .aload 0, 14, 0, 0, .null),
  (14, .getfield 0, 17, 7, 10, .int 839),
  (17, .if_icmp .ge 0, 20, 93, 0, .null),
  (20, .aload 0, 21, 0, 0, .null),
  (21, .getfield 0, 24, 7, 32, .retAddr 861),
  (24, .iload 3, 25, 0, 0, .null),
  (25, .iaload, 26, 0, 0, .null),
  (26, .iconst 0, 28, 0, 0, .int (-9)),
  (28, .if_icmp .eq 0, 31, 48, 0, .null),
  (31, .aload 0, 32, 0, 0, .null),
  (32, .getfield 0, 35, 7, 27, .retAddr 856),
  (35, .iload 3, 36, 0, 0, .null),
  (36, .iaload, 37, 0, 0, .null),
  (37, .iload 1, 38, 0, 0, .null),
  (38, .invokestatic 0, 41, 178, 1113, .null),
  (41, .ifCond .eq 0, 44, 48, 0, .null),
  (44, .iconst 0, 45, 0, 0, .int 1),
  (45, .goto 0, 48, 49, 0, .null),
  (48, .iconst 0, 49, 0, 0, .int 0),
  (49, .istore 4, 51, 0, 0, .null),
  (51, .iload 4, 53, 0, 0, .null),
  (53, .ifCond .eq 0, 56, 85, 0, .null),
  (56, .iload 2, 57, 0, 0, .null),
  (57, .iconst 0, 59, 0, 0, .int (-9)),
  (59, .if_icmp .eq 0, 62, 74, 0, .null),
  (62, .aload 0, 63, 0, 0, .null),
  (63, .getfield 0, 66, 7, 32, .retAddr 861),
  (66, .iload 3, 67, 0, 0, .null),
  (67, .iaload, 68, 0, 0, .null),
  (68, .iconst 0, 69, 0, 0, .int 1),
  (69, .iadd, 70, 0, 0, .null),
  (70, .iload 2, 71, 0, 0, .null),
  (71, .if_icmp .ge 0, 74, 85, 0, .null),
  (74, .aload 0, 75, 0, 0, .null),
  (75, .getfield 0, 78, 7, 32, .retAddr 861),
  (78, .iload 3, 79, 0, 0, .null),
  (79, .iaload, 80, 0, 0, .null),
  (80, .iconst 0, 81, 0, 0, .int 1),
  (81, .iadd, 82, 0, 0, .null),
  (82, .goto 0, 85, 86, 0, .null),
  (85, .iload 2, 86, 0, 0, .null),
  (86, .istore 2, 87, 0, 0, .null),
  (87, .iinc 3 0, 90, 0, 0, .int 1),
  (90, .goto 0, 93, 12, 0, .null),
  (93, .iload 2, 94, 0, 0, .null),
  (94, .ireturn, 95, 0, 0, .null)]
def m_M_ringBy : xM := (201, 7, 5, 2, 1, (2, 46, 0, 0), t_M_ringBy, 0, fun _ => 0)
def t_M_findFar : List xRow := [(0, .iconst 0, 1, 0, 0, .int 0),
  (1, .istore 2, 2, 0, 0, .null),
  (2, .iload 2, 3, 0, 0, .null),
  (3, .aload 0, 4, 0, 0, .null),
  (4, .getfield 0, 7, 7, 10, .int 839),
  (7, .if_icmp .ge 0, 10, 24, 0, .null),
  (10, .aload 0, 11, 0, 0, .null),
  (11, .getfield 0, 14, 7, 32, .retAddr 861),
  (14, .iload 2, 15, 0, 0, .null),
  (15, .iconst 0, 17, 0, 0, .int (-9)),
  (17, .iastore, 18, 0, 0, .null),
  (18, .iinc 2 0, 21, 0, 0, .int 1),
  (21, .goto 0, 24, 2, 0, .null),
  (24, .aload 0, 25, 0, 0, .null),
  (25, .getfield 0, 28, 7, 32, .retAddr 861),
  (28, .iload 1, 29, 0, 0, .null),
  (29, .iconst 0, 30, 0, 0, .int 0),
  (30, .iastore, 31, 0, 0, .null),
  (31, .iconst 0, 32, 0, 0, .int 1),
  (32, .istore 2, 33, 0, 0, .null),
  (33, .iload 2, 34, 0, 0, .null),
  (34, .aload 0, 35, 0, 0, .null),
  (35, .getfield 0, 38, 7, 10, .int 839),
  (38, .if_icmp .ge 0, 41, 157, 0, .null),
  (41, .iload 1, 42, 0, 0, .null),
  (42, .iconst 0, 43, 0, 0, .int 1),
  (43, .iadd, 44, 0, 0, .null),
  (44, .istore 3, 45, 0, 0, .null),
  (45, .iload 3, 46, 0, 0, .null),
  (46, .aload 0, 47, 0, 0, .null),
  (47, .getfield 0, 50, 7, 10, .int 839),
  (50, .if_icmp .ge 0, 53, 151, 0, .null),
  (53, .iconst 0, 54, 0, 0, .int 0),
  (54, .istore 4, 56, 0, 0, .null),
  (56, .iload 1, 57, 0, 0, .null),
  (57, .istore 5, 59, 0, 0, .null),
  (59, .iload 5, 61, 0, 0, .null),
  (61, .aload 0, 62, 0, 0, .null),
  (62, .getfield 0, 65, 7, 10, .int 839),
  (65, .if_icmp .ge 0, 68, 113, 0, .null),
  (68, .iload 4, 70, 0, 0, .null),
  (70, .ifCond .ne 0, 73, 100, 0, .null),
  (73, .aload 0, 74, 0, 0, .null),
  (74, .getfield 0, 77, 7, 32, .retAddr 861),
  (77, .iload 5, 79, 0, 0, .null),
  (79, .iaload, 80, 0, 0, .null),
  (80, .iload 2, 81, 0, 0, .null),
  (81, .iconst 0, 82, 0, 0, .int 1),
  (82, .isub, 83, 0, 0, .null),
  (83, .if_icmp .ne 0, 86, 104, 0, .null),
  (86, .aload 0, 87, 0, 0, .null),
  (87, .getfield 0, 90, 7, 27, .retAddr 856),
  (90, .iload 5, 92, 0, 0, .null),
  (92, .iaload, 93, 0, 0, .null),
  (93, .iload 3, 94, 0, 0, .null),
  (94, .invokestatic 0, 97, 178, 1113, .null),
  (97, .ifCond .eq 0, 100, 104, 0, .null),
  (100, .iconst 0, 101, 0, 0, .int 1),
  (101, .goto 0, 104, 105, 0, .null),
  (104, .iconst 0, 105, 0, 0, .int 0),
  (105, .istore 4, 107, 0, 0, .null),
  (107, .iinc 5 0, 110, 0, 0, .int 1),
  (110, .goto 0, 113, 59, 0, .null),
  (113, .aload 0, 114, 0, 0, .null),
  (114, .getfield 0, 117, 7, 32, .retAddr 861),
  (117, .iload 3, 118, 0, 0, .null),
  (118, .aload 0, 119, 0, 0, .null),
  (119, .getfield 0, 122, 7, 32, .retAddr 861),
  (122, .iload 3, 123, 0, 0, .null),
  (123, .iaload, 124, 0, 0, .null),
  (124, .iconst 0, 126, 0, 0, .int (-9)),
  (126, .if_icmp .ne 0, 129, 138, 0, .null),
  (129, .iload 4, 131, 0, 0, .null),
  (131, .ifCond .eq 0, 134, 138, 0, .null),
  (134, .iload 2, 135, 0, 0, .null),
  (135, .goto 0, 138, 144, 0, .null),
  (138, .aload 0, 139, 0, 0, .null),
  (139, .getfield 0, 142, 7, 32, .retAddr 861),
  (142, .iload 3, 143, 0, 0, .null),
  (143, .iaload, 144, 0, 0, .null),
  (144, .iastore, 145, 0, 0, .null),
  (145, .iinc 3 0, 148, 0, 0, .int 1),
  (148, .goto 0, 151, 45, 0, .null),
  (151, .iinc 2 0, 154, 0, 0, .int 1),
  (154, .goto 0, 157, 33, 0, .null),
  (157, .return_, 158, 0, 0, .null)]
def m_M_findFar : xM := (202, 7, 6, 2, 0, (1, 21, 0, 0), t_M_findFar, 0, fun _ => 0)
def t_M_wrong : List xRow := [(0, .aload 0, 1, 0, 0, .null),
  (1, .invokevirtual 0, 4, 204, 1217, .null),
  (4, .istore 1, 5, 0, 0, .null),
  (5, .iconst 0, 7, 0, 0, .int 17),
  (7, .istore 2, 8, 0, 0, .null),
  (8, .iconst 0, 9, 0, 0, .int 0),
  (9, .istore 3, 10, 0, 0, .null),
  (10, .iconst 0, 11, 0, 0, .int 0),
  (11, .istore 4, 13, 0, 0, .null),
  (13, .iload 4, 15, 0, 0, .null),
  (15, .iconst 0, 16, 0, 0, .int 1),
  (16, .aload 0, 17, 0, 0, .null),
  (17, .getfield 0, 20, 7, 14, .int 843),
  (20, .ishl, 21, 0, 0, .null),
  (21, .if_icmp .ge 0, 24, 100, 0, .null),
  (24, .iload 4, 26, 0, 0, .null),
  (26, .iload 1, 27, 0, 0, .null),
  (27, .iconst 0, 28, 0, 0, .int (-1)),
  (28, .ixor, 29, 0, 0, .null),
  (29, .iand, 30, 0, 0, .null),
  (30, .ifCond .ne 0, 33, 94, 0, .null),
  (33, .iload 4, 35, 0, 0, .null),
  (35, .invokestatic 0, 38, 166, 1066, .null),
  (38, .iload 2, 39, 0, 0, .null),
  (39, .if_icmp .ge 0, 42, 94, 0, .null),
  (42, .aload 0, 43, 0, 0, .null),
  (43, .iload 4, 45, 0, 0, .null),
  (45, .iconst 0, 46, 0, 0, .int 0),
  (46, .aload 0, 47, 0, 0, .null),
  (47, .getfield 0, 50, 7, 17, .int 846),
  (50, .invokevirtual 0, 53, 177, 1109, .null),
  (53, .aload 0, 54, 0, 0, .null),
  (54, .invokevirtual 0, 57, 189, 1157, .null),
  (57, .ifCond .ne 0, 60, 64, 0, .null),
  (60, .iconst 0, 61, 0, 0, .int 1),
  (61, .goto 0, 64, 65, 0, .null),
  (64, .iconst 0, 65, 0, 0, .int 0),
  (65, .istore 5, 67, 0, 0, .null),
  (67, .iload 5, 69, 0, 0, .null),
  (69, .ifCond .eq 0, 72, 77, 0, .null),
  (72, .iload 4, 74, 0, 0, .null),
  (74, .goto 0, 77, 78, 0, .null),
  (77, .iload 3, 78, 0, 0, .null),
  (78, .istore 3, 79, 0, 0, .null),
  (79, .iload 5, 81, 0, 0, .null),
  (81, .ifCond .eq 0, 84, 92, 0, .null),
  (84, .iload 4, 86, 0, 0, .null),
  (86, .invokestatic 0, 89, 166, 1066, .null),
  (89, .goto 0, 92, 93, 0, .null),
  (92, .iload 2, 93, 0, 0, .null),
  (93, .istore 2, 94, 0, 0, .null),
  (94, .iinc 4 0, 97, 0, 0, .int 1),
  (97, .goto 0, 100, 13, 0, .null),
  (100, .aload 0, 101, 0, 0, .null),
  (101, .iload 3, 102, 0, 0, .null),
  (102, .iload 2, 103, 0, 0, .null),
  (103, .invokevirtual 0, 106, 139, 961, .null),
  (106, .ireturn, 107, 0, 0, .null)]
def m_M_wrong : xM := (203, 7, 6, 1, 1, (4, 91, 0, 0), t_M_wrong, 0, fun _ => 0)
def t_M_tellingBits : List xRow := [(0, .iconst 0, 1, 0, 0, .int 0),
  (1, .istore 1, 2, 0, 0, .null),
  (2, .iconst 0, 3, 0, 0, .int 0),
  (3, .istore 2, 4, 0, 0, .null),
  (4, .iload 2, 5, 0, 0, .null),
  (5, .aload 0, 6, 0, 0, .null),
  (6, .getfield 0, 9, 7, 14, .int 843),
  (9, .if_icmp .ge 0, 12, 36, 0, .null),
  (12, .iload 1, 13, 0, 0, .null),
  (13, .aload 0, 14, 0, 0, .null),
  (14, .iload 2, 15, 0, 0, .null),
  (15, .invokevirtual 0, 18, 160, 1042, .null),
  (18, .ifCond .eq 0, 21, 27, 0, .null),
  (21, .iconst 0, 22, 0, 0, .int 1),
  (22, .iload 2, 23, 0, 0, .null),
  (23, .ishl, 24, 0, 0, .null),
  (24, .goto 0, 27, 28, 0, .null),
  (27, .iconst 0, 28, 0, 0, .int 0),
  (28, .ior, 29, 0, 0, .null),
  (29, .istore 1, 30, 0, 0, .null),
  (30, .iinc 2 0, 33, 0, 0, .int 1),
  (33, .goto 0, 36, 4, 0, .null),
  (36, .iload 1, 37, 0, 0, .null),
  (37, .ireturn, 38, 0, 0, .null)]
def m_M_tellingBits : xM := (204, 7, 3, 1, 1, (3, 65, 0, 0), t_M_tellingBits, 0, fun _ => 0)
def t_M_twice : List xRow := [(0, .iconst 0, 2, 0, 0, .int 8),
  (2, .istore 1, 3, 0, 0, .null),
  (3, .iconst 0, 4, 0, 0, .int 0),
  (4, .istore 2, 5, 0, 0, .null),
  (5, .iconst 0, 6, 0, 0, .int 0),
  (6, .istore 3, 7, 0, 0, .null),
  (7, .iload 3, 8, 0, 0, .null),
  (8, .iconst 0, 9, 0, 0, .int 1),
  (9, .aload 0, 10, 0, 0, .null),
  (10, .getfield 0, 13, 7, 10, .int 839),
  (13, .ishl, 14, 0, 0, .null),
  (14, .if_icmp .ge 0, 17, 80, 0, .null),
  (17, .iload 3, 18, 0, 0, .null),
  (18, .invokestatic 0, 21, 166, 1066, .null),
  (21, .iload 1, 22, 0, 0, .null),
  (22, .if_icmp .ge 0, 25, 74, 0, .null),
  (25, .aload 0, 26, 0, 0, .null),
  (26, .iconst 0, 27, 0, 0, .int 0),
  (27, .iload 3, 28, 0, 0, .null),
  (28, .aload 0, 29, 0, 0, .null),
  (29, .getfield 0, 32, 7, 17, .int 846),
  (32, .invokevirtual 0, 35, 177, 1109, .null),
  (35, .aload 0, 36, 0, 0, .null),
  (36, .invokevirtual 0, 39, 189, 1157, .null),
  (39, .ifCond .ne 0, 42, 46, 0, .null),
  (42, .iconst 0, 43, 0, 0, .int 1),
  (43, .goto 0, 46, 47, 0, .null),
  (46, .iconst 0, 47, 0, 0, .int 0),
  (47, .istore 4, 49, 0, 0, .null),
  (49, .iload 4, 51, 0, 0, .null),
  (51, .ifCond .eq 0, 54, 58, 0, .null),
  (54, .iload 3, 55, 0, 0, .null),
  (55, .goto 0, 58, 59, 0, .null),
  (58, .iload 2, 59, 0, 0, .null),
  (59, .istore 2, 60, 0, 0, .null),
  (60, .iload 4, 62, 0, 0, .null),
  (62, .ifCond .eq 0, 65, 72, 0, .null),
  (65, .iload 3, 66, 0, 0, .null),
  (66, .invokestatic 0, 69, 166, 1066, .null),
  (69, .goto 0, 72, 73, 0, .null),
  (72, .iload 1, 73, 0, 0, .null),
  (73, .istore 1, 74, 0, 0, .null),
  (74, .iinc 3 0, 77, 0, 0, .int 1),
  (77, .goto 0, 80, 7, 0, .null),
  (80, .aload 0, 81, 0, 0, .null),
  (81, .iload 2, 82, 0, 0, .null),
  (82, .iload 1, 83, 0, 0, .null),
  (83, .invokevirtual 0, 86, 139, 961, .null),
  (86, .ireturn, 87, 0, 0, .null)]
def m_M_twice : xM := (205, 7, 5, 1, 1, (4, 91, 0, 0), t_M_twice, 0, fun _ => 0)
def t_M_look : List xRow := [(0, .aload 0, 1, 0, 0, .null),
  (1, .invokevirtual 0, 4, 188, 1153, .null),
  (4, .ifCond .eq 0, 7, 13, 0, .null),
  (7, .aload 0, 8, 0, 0, .null),
  (8, .iconst 0, 9, 0, 0, .int 4),
  (9, .invokevirtual 0, 12, 136, 949, .null),
  (12, .ireturn, 13, 0, 0, .null),
  (13, .aload 0, 14, 0, 0, .null),
  (14, .invokevirtual 0, 17, 182, 1128, .null),
  (17, .istore 1, 18, 0, 0, .null),
  (18, .iconst 0, 20, 0, 0, .int (-9)),
  (20, .istore 2, 21, 0, 0, .null),
  (21, .iload 1, 22, 0, 0, .null),
  (22, .iconst 0, 23, 0, 0, .int 1),
  (23, .iadd, 24, 0, 0, .null),
  (24, .istore 3, 25, 0, 0, .null),
  (25, .iconst 0, 26, 0, 0, .int 0),
  (26, .istore 4, 28, 0, 0, .null),
  (28, .iload 4, 30, 0, 0, .null),
  (30, .aload 0, 31, 0, 0, .null),
  (31, .getfield 0, 34, 7, 10, .int 839),
  (34, .if_icmp .ge 0, 37, 156, 0, .null),
  (37, .iload 4, 39, 0, 0, .null),
  (39, .iconst 0, 40, 0, 0, .int 1),
  (40, .iadd, 41, 0, 0, .null),
  (41, .istore 5, 43, 0, 0, .null),
  (43, .iload 5, 45, 0, 0, .null),
  (45, .aload 0, 46, 0, 0, .null),
  (46, .getfield 0, 49, 7, 10, .int 839),
  (49, .if_icmp .ge 0, 52, 150, 0, .null),
  (52, .aload 0, 53, 0, 0, .null),
  (53, .getfield 0, 56, 7, 28, .retAddr 857),
  (56, .iload 4, 58, 0, 0, .null),
  (58, .iaload, 59, 0, 0, .null),
  (59, .iload 5, 61, 0, 0, .null),
  (61, .invokestatic 0, 64, 178, 1113, .null),
  (64, .ifCond .ne 0, 67, 144, 0, .null),
  (67, .aload 0, 68, 0, 0, .null),
  (68, .getfield 0, 71, 7, 28, .retAddr 857),
  (71, .iload 5, 73, 0, 0, .null),
  (73, .iaload, 74, 0, 0, .null),
  (74, .iload 4, 76, 0, 0, .null),
  (76, .invokestatic 0, 79, 178, 1113, .null),
  (79, .ifCond .ne 0, 82, 144, 0, .null),
  (82, .aload 0, 83, 0, 0, .null),
  (83, .iload 4, 85, 0, 0, .null),
  (85, .iload 5, 87, 0, 0, .null),
  (87, .invokevirtual 0, 90, 191, 1165, .null),
  (90, .istore 6, 92, 0, 0, .null),
  (92, .iload 6, 94, 0, 0, .null),
  (94, .iload 1, 95, 0, 0, .null),
  (95, .iload 6, 97, 0, 0, .null),
  (97, .isub, 98, 0, 0, .null),
  (98, .if_icmp .le 0, 101, 106, 0, .null),
  (101, .iload 6, 103, 0, 0, .null),
  (103, .goto 0, 106, 110, 0, .null),
  (106, .iload 1, 107, 0, 0, .null),
  (107, .iload 6, 109, 0, 0, .null),
  (109, .isub, 110, 0, 0, .null),
  (110, .istore 7, 112, 0, 0, .null),
  (112, .iload 7, 114, 0, 0, .null),
  (114, .iload 3, 115, 0, 0, .null),
  (115, .if_icmp .ge 0, 118, 129, 0, .null),
  (118, .iconst 0, 120, 0, 0, .int 10),
  (120, .iload 4, 122, 0, 0, .null),
  (122, .imul, 123, 0, 0, .null),
  (123, .iload 5, 125, 0, 0, .null),
  (125, .iadd, 126, 0, 0, .null),
  (126, .goto 0, 129, 130, 0, .null),
  (129, .iload 2, 130, 0, 0, .null),
  (130, .istore 2, 131, 0, 0, .null),
  (131, .iload 7, 133, 0, 0, .null),
  (133, .iload 3, 134, 0, 0, .null),
  (134, .if_icmp .ge 0, 137, 142, 0, .null),
  (137, .iload 7, 139, 0, 0, .null),
  (139, .goto 0, 142, 143, 0, .null),
  (142, .iload 3, 143, 0, 0, .null),
  (143, .istore 3, 144, 0, 0, .null),
  (144, .iinc 5 0, 147, 0, 0, .int 1),
  (147, .goto 0, 150, 43, 0, .null),
  (150, .iinc 4 0, 153, 0, 0, .int 1),
  (153, .goto 0, 156, 28, 0, .null),
  (156, .iload 2, 157, 0, 0, .null),
  (157, .iconst 0, 159, 0, 0, .int (-9)),
  (159, .if_icmp .ne 0, 162, 167, 0, .null),
  (162, .iconst 0, 164, 0, 0, .int (-9)),
  (164, .goto 0, 167, 173, 0, .null),
  (167, .aload 0, 168, 0, 0, .null),
  (168, .iload 3, 169, 0, 0, .null),
  (169, .iload 2, 170, 0, 0, .null),
  (170, .invokevirtual 0, 173, 139, 961, .null),
  (173, .ireturn, 174, 0, 0, .null)]
def m_M_look : xM := (206, 7, 8, 1, 1, (5, 111, 0, 0), t_M_look, 0, fun _ => 0)
def t_M_hide : List xRow := [(0, .aload 0, 1, 0, 0, .null),
  (1, .iload 1, 2, 0, 0, .null),
  (2, .iload 2, 3, 0, 0, .null),
  (3, .invokevirtual 0, 6, 171, 1085, .null),
  (6, .ifCond .ne 0, 9, 11, 0, .null),
  (9, .iconst 0, 10, 0, 0, .int (-1)),
  (10, .ireturn, 11, 0, 0, .null),
  (11, .aload 0, 12, 0, 0, .null),
  (12, .iconst 0, 13, 0, 0, .int 0),
  (13, .iconst 0, 14, 0, 0, .int 0),
  (14, .iconst 0, 15, 0, 0, .int 0),
  (15, .invokevirtual 0, 18, 177, 1109, .null),
  (18, .aload 0, 19, 0, 0, .null),
  (19, .invokevirtual 0, 22, 189, 1157, .null),
  (22, .ifCond .eq 0, 25, 31, 0, .null),
  (25, .aload 0, 26, 0, 0, .null),
  (26, .iconst 0, 27, 0, 0, .int 4),
  (27, .invokevirtual 0, 30, 136, 949, .null),
  (30, .ireturn, 31, 0, 0, .null),
  (31, .iconst 0, 33, 0, 0, .int 17),
  (33, .istore 3, 34, 0, 0, .null),
  (34, .iconst 0, 35, 0, 0, .int 0),
  (35, .istore 4, 37, 0, 0, .null),
  (37, .iload 4, 39, 0, 0, .null),
  (39, .iconst 0, 40, 0, 0, .int 1),
  (40, .aload 0, 41, 0, 0, .null),
  (41, .getfield 0, 44, 7, 10, .int 839),
  (44, .ishl, 45, 0, 0, .null),
  (45, .if_icmp .ge 0, 48, 155, 0, .null),
  (48, .iconst 0, 49, 0, 0, .int 0),
  (49, .istore 5, 51, 0, 0, .null),
  (51, .iconst 0, 52, 0, 0, .int 0),
  (52, .istore 6, 54, 0, 0, .null),
  (54, .iload 6, 56, 0, 0, .null),
  (56, .aload 0, 57, 0, 0, .null),
  (57, .getfield 0, 60, 7, 14, .int 843),
  (60, .if_icmp .ge 0, 63, 118, 0, .null),
  (63, .iload 5, 65, 0, 0, .null),
  (65, .aload 0, 66, 0, 0, .null),
  (66, .iload 6, 68, 0, 0, .null),
  (68, .invokevirtual 0, 71, 160, 1042, .null),
  (71, .ifCond .eq 0, 74, 108, 0, .null),
  (74, .iload 4, 76, 0, 0, .null),
  (76, .aload 0, 77, 0, 0, .null),
  (77, .getfield 0, 80, 7, 16, .retAddr 845),
  (80, .iload 6, 82, 0, 0, .null),
  (82, .iaload, 83, 0, 0, .null),
  (83, .invokestatic 0, 86, 178, 1113, .null),
  (86, .ifCond .eq 0, 89, 108, 0, .null),
  (89, .iload 4, 91, 0, 0, .null),
  (91, .aload 0, 92, 0, 0, .null),
  (92, .getfield 0, 95, 7, 15, .retAddr 844),
  (95, .iload 6, 97, 0, 0, .null),
  (97, .iaload, 98, 0, 0, .null),
  (98, .invokestatic 0, 101, 178, 1113, .null),
  (101, .ifCond .ne 0, 104, 108, 0, .null),
  (104, .iconst 0, 105, 0, 0, .int 1),
  (105, .goto 0, 108, 109, 0, .null),
  (108, .iconst 0, 109, 0, 0, .int 0),
  (109, .iadd, 110, 0, 0, .null),
  (110, .istore 5, 112, 0, 0, .null),
  (112, .iinc 6 0, 115, 0, 0, .int 1),
  (115, .goto 0, 118, 54, 0, .null),
  (118, .iload 4, 120, 0, 0, .null),
  (120, .iload 1, 121, 0, 0, .null),
  (121, .invokestatic 0, 124, 178, 1113, .null),
  (124, .ifCond .eq 0, 127, 147, 0, .null),
  (127, .iload 4, 129, 0, 0, .null),
  (129, .iload 2, 130, 0, 0, .null),
  (130, .invokestatic 0, 133, 178, 1113, .null),
  (133, .ifCond .ne 0, 136, 147, 0, .null),
  (136, .iload 5, 138, 0, 0, .null),
  (138, .iload 3, 139, 0, 0, .null),
  (139, .if_icmp .ge 0, 142, 147, 0, .null),
  (142, .iload 5, 144, 0, 0, .null),
  (144, .goto 0, 147, 148, 0, .null),
  (147, .iload 3, 148, 0, 0, .null),
  (148, .istore 3, 149, 0, 0, .null),
  (149, .iinc 4 0, 152, 0, 0, .int 1),
  (152, .goto 0, 155, 37, 0, .null),
  (155, .iload 3, 156, 0, 0, .null),
  (156, .ireturn, 157, 0, 0, .null)]
def m_M_hide : xM := (207, 7, 7, 3, 1, (4, 91, 0, 0), t_M_hide, 0, fun _ => 0)
def t_M_people : List xRow := [(0, .iconst 0, 1, 0, 0, .int 0),
  (1, .istore 1, 2, 0, 0, .null),
  (2, .iconst 0, 3, 0, 0, .int 0),
  (3, .istore 2, 4, 0, 0, .null),
  (4, .iload 2, 5, 0, 0, .null),
  (5, .iconst 0, 6, 0, 0, .int 1),
  (6, .aload 0, 7, 0, 0, .null),
  (7, .getfield 0, 10, 7, 10, .int 839),
  (10, .ishl, 11, 0, 0, .null),
  (11, .if_icmp .ge 0, 14, 65, 0, .null),
  (14, .aload 0, 15, 0, 0, .null),
  (15, .getfield 0, 18, 7, 34, .retAddr 863),
  (18, .iload 2, 19, 0, 0, .null),
  (19, .aload 0, 20, 0, 0, .null),
  (20, .iload 2, 21, 0, 0, .null),
  (21, .invokevirtual 0, 24, 209, 1237, .null),
  (24, .bastore, 25, 0, 0, .null),
  (25, .aload 0, 26, 0, 0, .null),
  (26, .getfield 0, 29, 7, 34, .retAddr 863),
  (29, .iload 2, 30, 0, 0, .null),
  (30, .baload, 31, 0, 0, .null),
  (31, .ifCond .eq 0, 34, 57, 0, .null),
  (34, .iload 2, 35, 0, 0, .null),
  (35, .iconst 0, 36, 0, 0, .int 0),
  (36, .invokestatic 0, 39, 178, 1113, .null),
  (39, .ifCond .eq 0, 42, 57, 0, .null),
  (42, .iload 2, 43, 0, 0, .null),
  (43, .invokestatic 0, 46, 166, 1066, .null),
  (46, .iload 1, 47, 0, 0, .null),
  (47, .if_icmp .le 0, 50, 57, 0, .null),
  (50, .iload 2, 51, 0, 0, .null),
  (51, .invokestatic 0, 54, 166, 1066, .null),
  (54, .goto 0, 57, 58, 0, .null),
  (57, .iload 1, 58, 0, 0, .null),
  (58, .istore 1, 59, 0, 0, .null),
  (59, .iinc 2 0, 62, 0, 0, .int 1),
  (62, .goto 0, 65, 4, 0, .null),
  (65, .aload 0, 66, 0, 0, .null),
  (66, .getfield 0, 69, 7, 33, .retAddr 862),
  (69, .iconst 0, 70, 0, 0, .int 0),
  (70, .iconst 0, 71, 0, 0, .int 0),
  (71, .iastore, 72, 0, 0, .null),
  (72, .iconst 0, 73, 0, 0, .int 1),
  (73, .istore 2, 74, 0, 0, .null),
  (74, .iload 2, 75, 0, 0, .null),
  (75, .iconst 0, 76, 0, 0, .int 1),
  (76, .aload 0, 77, 0, 0, .null),
  (77, .getfield 0, 80, 7, 10, .int 839),
  (80, .ishl, 81, 0, 0, .null),
  (81, .if_icmp .ge 0, 84, 162, 0, .null),
  (84, .iconst 0, 86, 0, 0, .int 8),
  (86, .istore 3, 87, 0, 0, .null),
  (87, .iload 2, 88, 0, 0, .null),
  (88, .istore 4, 90, 0, 0, .null),
  (90, .iload 4, 92, 0, 0, .null),
  (92, .ifCond .le 0, 95, 149, 0, .null),
  (95, .aload 0, 96, 0, 0, .null),
  (96, .getfield 0, 99, 7, 34, .retAddr 863),
  (99, .iload 4, 101, 0, 0, .null),
  (101, .baload, 102, 0, 0, .null),
  (102, .ifCond .eq 0, 105, 121, 0, .null),
  (105, .iconst 0, 106, 0, 0, .int 1),
  (106, .aload 0, 107, 0, 0, .null),
  (107, .getfield 0, 110, 7, 33, .retAddr 862),
  (110, .iload 2, 111, 0, 0, .null),
  (111, .iload 4, 113, 0, 0, .null),
  (113, .iconst 0, 114, 0, 0, .int (-1)),
  (114, .ixor, 115, 0, 0, .null),
  (115, .iand, 116, 0, 0, .null),
  (116, .iaload, 117, 0, 0, .null),
  (117, .iadd, 118, 0, 0, .null),
  (118, .goto 0, 121, 123, 0, .null),
  (121, .iconst 0, 123, 0, 0, .int 8),
  (123, .istore 5, 125, 0, 0, .null),
  (125, .iload 5, 127, 0, 0, .null),
  (127, .iload 3, 128, 0, 0, .null),
  (128, .if_icmp .ge 0, 131, 136, 0, .null),
  (131, .iload 5, 133, 0, 0, .null),
  (133, .goto 0, 136, 137, 0, .null),
  (136, .iload 3, 137, 0, 0, .null),
  (137, .istore 3, 138, 0, 0, .null),
  (138, .iload 4, 140, 0, 0, .null),
  (140, .iconst 0, 141, 0, 0, .int 1),
  (141, .isub, 142, 0, 0, .null),
  (142, .iload 2, 143, 0, 0, .null),
  (143, .iand, 144, 0, 0, .null),
  (144, .istore 4, 146, 0, 0, .null),
  (146, .goto 0, 149, 90, 0, .null),
  (149, .aload 0, 150, 0, 0, .null),
  (150, .getfield 0, 153, 7, 33, .retAddr 862),
  (153, .iload 2, 154, 0, 0, .null),
  (154, .iload 3, 155, 0, 0, .null),
  (155, .iastore, 156, 0, 0, .null),
  (156, .iinc 2 0, 159, 0, 0, .int 1),
  (159, .goto 0, 162, 74, 0, .null),
  (162, .aload 0, 163, 0, 0, .null),
  (163, .iload 1, 164, 0, 0, .null),
  (164, .aload 0, 165, 0, 0, .null),
  (165, .getfield 0, 168, 7, 33, .retAddr 862),
  (168, .iconst 0, 169, 0, 0, .int 1),
  (169, .aload 0, 170, 0, 0, .null),
  (170, .getfield 0, 173, 7, 10, .int 839),
  (173, .ishl, 174, 0, 0, .null),
  (174, .iconst 0, 175, 0, 0, .int 1),
  (175, .isub, 176, 0, 0, .null),
  (176, .iaload, 177, 0, 0, .null),
  (177, .invokevirtual 0, 180, 139, 961, .null),
  (180, .ireturn, 181, 0, 0, .null)]
def m_M_people : xM := (208, 7, 6, 1, 1, (2, 50, 0, 0), t_M_people, 0, fun _ => 0)
def t_M_areOnes : List xRow := [(0, .iconst 0, 1, 0, 0, .int 1),
  (1, .istore 2, 2, 0, 0, .null),
  (2, .iconst 0, 3, 0, 0, .int 0),
  (3, .istore 3, 4, 0, 0, .null),
  (4, .iload 3, 5, 0, 0, .null),
  (5, .aload 0, 6, 0, 0, .null),
  (6, .getfield 0, 9, 7, 10, .int 839),
  (9, .if_icmp .ge 0, 12, 108, 0, .null),
  (12, .iconst 0, 13, 0, 0, .int 0),
  (13, .istore 4, 15, 0, 0, .null),
  (15, .iload 4, 17, 0, 0, .null),
  (17, .aload 0, 18, 0, 0, .null),
  (18, .getfield 0, 21, 7, 10, .int 839),
  (21, .if_icmp .ge 0, 24, 102, 0, .null),
  (24, .iload 1, 25, 0, 0, .null),
  (25, .iload 3, 26, 0, 0, .null),
  (26, .invokestatic 0, 29, 178, 1113, .null),
  (29, .ifCond .eq 0, 32, 45, 0, .null),
  (32, .iload 1, 33, 0, 0, .null),
  (33, .iload 4, 35, 0, 0, .null),
  (35, .invokestatic 0, 38, 178, 1113, .null),
  (38, .ifCond .eq 0, 41, 45, 0, .null),
  (41, .iconst 0, 42, 0, 0, .int 1),
  (42, .goto 0, 45, 46, 0, .null),
  (45, .iconst 0, 46, 0, 0, .int 0),
  (46, .istore 5, 48, 0, 0, .null),
  (48, .iload 2, 49, 0, 0, .null),
  (49, .ifCond .eq 0, 52, 94, 0, .null),
  (52, .iload 5, 54, 0, 0, .null),
  (54, .ifCond .eq 0, 57, 90, 0, .null),
  (57, .aload 0, 58, 0, 0, .null),
  (58, .getfield 0, 61, 7, 12, .retAddr 841),
  (61, .iload 3, 62, 0, 0, .null),
  (62, .iaload, 63, 0, 0, .null),
  (63, .aload 0, 64, 0, 0, .null),
  (64, .getfield 0, 67, 7, 12, .retAddr 841),
  (67, .iload 4, 69, 0, 0, .null),
  (69, .iaload, 70, 0, 0, .null),
  (70, .isub, 71, 0, 0, .null),
  (71, .iconst 0, 72, 0, 0, .int 1),
  (72, .if_icmp .gt 0, 75, 94, 0, .null),
  (75, .aload 0, 76, 0, 0, .null),
  (76, .iload 3, 77, 0, 0, .null),
  (77, .iconst 0, 78, 0, 0, .int 1),
  (78, .iconst 0, 79, 0, 0, .int 1),
  (79, .invokevirtual 0, 82, 165, 1062, .null),
  (82, .iload 4, 84, 0, 0, .null),
  (84, .invokestatic 0, 87, 178, 1113, .null),
  (87, .ifCond .ne 0, 90, 94, 0, .null),
  (90, .iconst 0, 91, 0, 0, .int 1),
  (91, .goto 0, 94, 95, 0, .null),
  (94, .iconst 0, 95, 0, 0, .int 0),
  (95, .istore 2, 96, 0, 0, .null),
  (96, .iinc 4 0, 99, 0, 0, .int 1),
  (99, .goto 0, 102, 15, 0, .null),
  (102, .iinc 3 0, 105, 0, 0, .int 1),
  (105, .goto 0, 108, 4, 0, .null),
  (108, .iload 2, 109, 0, 0, .null),
  (109, .ireturn, 110, 0, 0, .null)]
def m_M_areOnes : xM := (209, 7, 6, 2, 2, (1, 25, 0, 0), t_M_areOnes, 0, fun _ => 0)
def t_M_story : List xRow := [(0, .aload 0, 1, 0, 0, .null),
  (1, .iload 1, 2, 0, 0, .null),
  (2, .invokevirtual 0, 5, 211, 1245, .null),
  (5, .istore 2, 6, 0, 0, .null),
  (6, .iload 2, 7, 0, 0, .null),
  (7, .ifCond .eq 0, 10, 12, 0, .null),
  (10, .iload 2, 11, 0, 0, .null),
  (11, .ireturn, 12, 0, 0, .null),
  (12, .iconst 0, 13, 0, 0, .int 0),
  (13, .istore 3, 14, 0, 0, .null),
  (14, .iload 3, 15, 0, 0, .null),
  (15, .aload 0, 16, 0, 0, .null),
  (16, .getfield 0, 19, 7, 5, .retAddr 834),
  (19, .iload 1, 20, 0, 0, .null),
  (20, .iaload, 21, 0, 0, .null),
  (21, .if_icmp .ge 0, 24, 45, 0, .null),
  (24, .aload 0, 25, 0, 0, .null),
  (25, .iload 1, 26, 0, 0, .null),
  (26, .iload 3, 27, 0, 0, .null),
  (27, .invokevirtual 0, 30, 212, 1249, .null),
  (30, .aload 0, 31, 0, 0, .null),
  (31, .invokevirtual 0, 34, 189, 1157, .null),
  (34, .ifCond .eq 0, 37, 39, 0, .null),
  (37, .iload 3, 38, 0, 0, .null),
  (38, .ireturn, 39, 0, 0, .null),
  (39, .iinc 3 0, 42, 0, 0, .int 1),
  (42, .goto 0, 45, 14, 0, .null),
  (45, .aload 0, 46, 0, 0, .null),
  (46, .getfield 0, 49, 7, 5, .retAddr 834),
  (49, .iload 1, 50, 0, 0, .null),
  (50, .iaload, 51, 0, 0, .null),
  (51, .ireturn, 52, 0, 0, .null)]
def m_M_story : xM := (210, 7, 4, 2, 1, (6, 134, 0, 0), t_M_story, 0, fun _ => 0)
def t_M_claimBar : List xRow := [(0, .iload 1, 1, 0, 0, .null),
  (1, .invokestatic 0, 4, 134, 943, .null),
  (4, .ifCond .ne 0, 7, 9, 0, .null),
  (7, .iconst 0, 8, 0, 0, .int (-1)),
  (8, .ireturn, 9, 0, 0, .null),
  (9, .aload 0, 10, 0, 0, .null),
  (10, .getfield 0, 13, 7, 5, .retAddr 834),
  (13, .iload 1, 14, 0, 0, .null),
  (14, .iaload, 15, 0, 0, .null),
  (15, .iconst 0, 17, 0, 0, .int (-9)),
  (17, .if_icmp .ne 0, 20, 26, 0, .null),
  (20, .aload 0, 21, 0, 0, .null),
  (21, .iconst 0, 22, 0, 0, .int 1),
  (22, .invokevirtual 0, 25, 136, 949, .null),
  (25, .ireturn, 26, 0, 0, .null),
  (26, .aload 0, 27, 0, 0, .null),
  (27, .getfield 0, 30, 7, 5, .retAddr 834),
  (30, .iload 1, 31, 0, 0, .null),
  (31, .iaload, 32, 0, 0, .null),
  (32, .iconst 0, 34, 0, 0, .int 8),
  (34, .if_icmp .le 0, 37, 43, 0, .null),
  (37, .aload 0, 38, 0, 0, .null),
  (38, .iconst 0, 39, 0, 0, .int 5),
  (39, .invokevirtual 0, 42, 136, 949, .null),
  (42, .ireturn, 43, 0, 0, .null),
  (43, .iconst 0, 44, 0, 0, .int 0),
  (44, .istore 2, 45, 0, 0, .null),
  (45, .iload 2, 46, 0, 0, .null),
  (46, .aload 0, 47, 0, 0, .null),
  (47, .getfield 0, 50, 7, 5, .retAddr 834),
  (50, .iload 1, 51, 0, 0, .null),
  (51, .iaload, 52, 0, 0, .null),
  (52, .if_icmp .ge 0, 55, 98, 0, .null),
  (55, .aload 0, 56, 0, 0, .null),
  (56, .getfield 0, 59, 7, 6, .retAddr 835),
  (59, .iconst 0, 61, 0, 0, .int 40),
  (61, .iload 1, 62, 0, 0, .null),
  (62, .imul, 63, 0, 0, .null),
  (63, .iload 2, 64, 0, 0, .null),
  (64, .iadd, 65, 0, 0, .null),
  (65, .iaload, 66, 0, 0, .null),
  (66, .istore 3, 67, 0, 0, .null),
  (67, .iload 3, 68, 0, 0, .null),
  (68, .ifCond .lt 0, 71, 86, 0, .null),
  (71, .aload 0, 72, 0, 0, .null),
  (72, .iload 3, 73, 0, 0, .null),
  (73, .iconst 0, 75, 0, 0, .int 10),
  (75, .idiv, 76, 0, 0, .null),
  (76, .iload 3, 77, 0, 0, .null),
  (77, .iconst 0, 79, 0, 0, .int 10),
  (79, .irem, 80, 0, 0, .null),
  (80, .invokevirtual 0, 83, 171, 1085, .null),
  (83, .ifCond .ne 0, 86, 92, 0, .null),
  (86, .aload 0, 87, 0, 0, .null),
  (87, .iconst 0, 88, 0, 0, .int 3),
  (88, .invokevirtual 0, 91, 136, 949, .null),
  (91, .ireturn, 92, 0, 0, .null),
  (92, .iinc 2 0, 95, 0, 0, .int 1),
  (95, .goto 0, 98, 45, 0, .null),
  (98, .aload 0, 99, 0, 0, .null),
  (99, .invokevirtual 0, 102, 188, 1153, .null),
  (102, .ifCond .eq 0, 105, 113, 0, .null),
  (105, .aload 0, 106, 0, 0, .null),
  (106, .iconst 0, 107, 0, 0, .int 4),
  (107, .invokevirtual 0, 110, 136, 949, .null),
  (110, .goto 0, 113, 114, 0, .null),
  (113, .iconst 0, 114, 0, 0, .int 0),
  (114, .ireturn, 115, 0, 0, .null)]
def m_M_claimBar : xM := (211, 7, 4, 2, 1, (5, 111, 0, 0), t_M_claimBar, 0, fun _ => 0)
def t_M_claims : List xRow := [(0, .aload 0, 1, 0, 0, .null),
  (1, .getfield 0, 4, 7, 6, .retAddr 835),
  (4, .iconst 0, 6, 0, 0, .int 40),
  (6, .iload 1, 7, 0, 0, .null),
  (7, .imul, 8, 0, 0, .null),
  (8, .iload 2, 9, 0, 0, .null),
  (9, .iadd, 10, 0, 0, .null),
  (10, .iaload, 11, 0, 0, .null),
  (11, .istore 3, 12, 0, 0, .null),
  (12, .aload 0, 13, 0, 0, .null),
  (13, .getfield 0, 16, 7, 27, .retAddr 856),
  (16, .iload 3, 17, 0, 0, .null),
  (17, .iconst 0, 19, 0, 0, .int 10),
  (19, .irem, 20, 0, 0, .null),
  (20, .dup2, 21, 0, 0, .null),
  (21, .iaload, 22, 0, 0, .null),
  (22, .iconst 0, 23, 0, 0, .int 1),
  (23, .iload 3, 24, 0, 0, .null),
  (24, .iconst 0, 26, 0, 0, .int 10),
  (26, .idiv, 27, 0, 0, .null),
  (27, .ishl, 28, 0, 0, .null),
  (28, .ior, 29, 0, 0, .null),
  (29, .iastore, 30, 0, 0, .null),
  (30, .return_, 31, 0, 0, .null)]
def m_M_claims : xM := (212, 7, 4, 3, 0, (0, 0, 0, 0), t_M_claims, 0, fun _ => 0)
def t_M_hold : List xRow := [(0, .aload 0, 1, 0, 0, .null),
  (1, .iload 1, 2, 0, 0, .null),
  (2, .invokevirtual 0, 5, 211, 1245, .null),
  (5, .istore 2, 6, 0, 0, .null),
  (6, .iload 2, 7, 0, 0, .null),
  (7, .ifCond .eq 0, 10, 12, 0, .null),
  (10, .iload 2, 11, 0, 0, .null),
  (11, .ireturn, 12, 0, 0, .null),
  (12, .iconst 0, 13, 0, 0, .int (-1)),
  (13, .istore 3, 14, 0, 0, .null),
  (14, .iconst 0, 15, 0, 0, .int 0),
  (15, .istore 4, 17, 0, 0, .null),
  (17, .iconst 0, 18, 0, 0, .int 0),
  (18, .istore 5, 20, 0, 0, .null),
  (20, .iload 5, 22, 0, 0, .null),
  (22, .iconst 0, 23, 0, 0, .int 1),
  (23, .aload 0, 24, 0, 0, .null),
  (24, .getfield 0, 27, 7, 5, .retAddr 834),
  (27, .iload 1, 28, 0, 0, .null),
  (28, .iaload, 29, 0, 0, .null),
  (29, .ishl, 30, 0, 0, .null),
  (30, .if_icmp .ge 0, 33, 138, 0, .null),
  (33, .iload 5, 35, 0, 0, .null),
  (35, .invokestatic 0, 38, 166, 1066, .null),
  (38, .iload 3, 39, 0, 0, .null),
  (39, .if_icmp .le 0, 42, 132, 0, .null),
  (42, .aload 0, 43, 0, 0, .null),
  (43, .iconst 0, 44, 0, 0, .int 0),
  (44, .iconst 0, 45, 0, 0, .int 0),
  (45, .aload 0, 46, 0, 0, .null),
  (46, .getfield 0, 49, 7, 17, .int 846),
  (49, .invokevirtual 0, 52, 177, 1109, .null),
  (52, .iconst 0, 53, 0, 0, .int 0),
  (53, .istore 6, 55, 0, 0, .null),
  (55, .iload 6, 57, 0, 0, .null),
  (57, .aload 0, 58, 0, 0, .null),
  (58, .getfield 0, 61, 7, 5, .retAddr 834),
  (61, .iload 1, 62, 0, 0, .null),
  (62, .iaload, 63, 0, 0, .null),
  (63, .if_icmp .ge 0, 66, 89, 0, .null),
  (66, .iload 5, 68, 0, 0, .null),
  (68, .iload 6, 70, 0, 0, .null),
  (70, .invokestatic 0, 73, 178, 1113, .null),
  (73, .ifCond .eq 0, 76, 83, 0, .null),
  (76, .aload 0, 77, 0, 0, .null),
  (77, .iload 1, 78, 0, 0, .null),
  (78, .iload 6, 80, 0, 0, .null),
  (80, .invokevirtual 0, 83, 212, 1249, .null),
  (83, .iinc 6 0, 86, 0, 0, .int 1),
  (86, .goto 0, 89, 55, 0, .null),
  (89, .aload 0, 90, 0, 0, .null),
  (90, .invokevirtual 0, 93, 189, 1157, .null),
  (93, .ifCond .ne 0, 96, 100, 0, .null),
  (96, .iconst 0, 97, 0, 0, .int 1),
  (97, .goto 0, 100, 101, 0, .null),
  (100, .iconst 0, 101, 0, 0, .int 0),
  (101, .istore 6, 103, 0, 0, .null),
  (103, .iload 6, 105, 0, 0, .null),
  (105, .ifCond .eq 0, 108, 113, 0, .null),
  (108, .iload 5, 110, 0, 0, .null),
  (110, .goto 0, 113, 115, 0, .null),
  (113, .iload 4, 115, 0, 0, .null),
  (115, .istore 4, 117, 0, 0, .null),
  (117, .iload 6, 119, 0, 0, .null),
  (119, .ifCond .eq 0, 122, 130, 0, .null),
  (122, .iload 5, 124, 0, 0, .null),
  (124, .invokestatic 0, 127, 166, 1066, .null),
  (127, .goto 0, 130, 131, 0, .null),
  (130, .iload 3, 131, 0, 0, .null),
  (131, .istore 3, 132, 0, 0, .null),
  (132, .iinc 5 0, 135, 0, 0, .int 1),
  (135, .goto 0, 138, 20, 0, .null),
  (138, .aload 0, 139, 0, 0, .null),
  (139, .iload 4, 141, 0, 0, .null),
  (141, .iload 3, 142, 0, 0, .null),
  (142, .invokevirtual 0, 145, 139, 961, .null),
  (145, .ireturn, 146, 0, 0, .null)]
def m_M_hold : xM := (213, 7, 7, 2, 1, (6, 134, 0, 0), t_M_hold, 0, fun _ => 0)
def t_M_believe : List xRow := [(0, .aload 0, 1, 0, 0, .null),
  (1, .iload 1, 2, 0, 0, .null),
  (2, .invokevirtual 0, 5, 211, 1245, .null),
  (5, .istore 2, 6, 0, 0, .null),
  (6, .iload 2, 7, 0, 0, .null),
  (7, .ifCond .eq 0, 10, 12, 0, .null),
  (10, .iload 2, 11, 0, 0, .null),
  (11, .ireturn, 12, 0, 0, .null),
  (12, .aload 0, 13, 0, 0, .null),
  (13, .invokevirtual 0, 16, 182, 1128, .null),
  (16, .istore 3, 17, 0, 0, .null),
  (17, .iconst 0, 18, 0, 0, .int 0),
  (18, .istore 4, 20, 0, 0, .null),
  (20, .iload 4, 22, 0, 0, .null),
  (22, .aload 0, 23, 0, 0, .null),
  (23, .getfield 0, 26, 7, 5, .retAddr 834),
  (26, .iload 1, 27, 0, 0, .null),
  (27, .iaload, 28, 0, 0, .null),
  (28, .if_icmp .ge 0, 31, 44, 0, .null),
  (31, .aload 0, 32, 0, 0, .null),
  (32, .iload 1, 33, 0, 0, .null),
  (33, .iload 4, 35, 0, 0, .null),
  (35, .invokevirtual 0, 38, 212, 1249, .null),
  (38, .iinc 4 0, 41, 0, 0, .int 1),
  (41, .goto 0, 44, 20, 0, .null),
  (44, .aload 0, 45, 0, 0, .null),
  (45, .aload 0, 46, 0, 0, .null),
  (46, .invokevirtual 0, 49, 182, 1128, .null),
  (49, .i2l, 50, 0, 0, .null),
  (50, .iload 3, 51, 0, 0, .null),
  (51, .i2l, 52, 0, 0, .null),
  (52, .invokevirtual 0, 55, 183, 1132, .null),
  (55, .ireturn, 56, 0, 0, .null)]
def m_M_believe : xM := (214, 7, 5, 2, 1, (6, 134, 0, 0), t_M_believe, 0, fun _ => 0)
def t_M_walks : List xRow := [(0, .iload 1, 1, 0, 0, .null),
  (1, .invokestatic 0, 4, 134, 943, .null),
  (4, .ifCond .eq 0, 7, 28, 0, .null),
  (7, .iload 2, 8, 0, 0, .null),
  (8, .iconst 0, 9, 0, 0, .int 1),
  (9, .iconst 0, 11, 0, 0, .int 16),
  (11, .invokestatic 0, 14, 135, 946, .null),
  (14, .ifCond .eq 0, 17, 28, 0, .null),
  (17, .iload 3, 18, 0, 0, .null),
  (18, .iconst 0, 19, 0, 0, .int 1),
  (19, .iconst 0, 22, 0, 1265, .int 2147483646),
  (22, .invokestatic 0, 25, 135, 946, .null),
  (25, .ifCond .ne 0, 28, 30, 0, .null),
  (28, .iconst 0, 29, 0, 0, .int (-1)),
  (29, .ireturn, 30, 0, 0, .null),
  (30, .aload 0, 31, 0, 0, .null),
  (31, .getfield 0, 34, 7, 10, .int 839),
  (34, .iconst 0, 35, 0, 0, .int 2),
  (35, .if_icmp .ge 0, 38, 41, 0, .null),
  (38, .iconst 0, 40, 0, 0, .int (-4)),
  (40, .ireturn, 41, 0, 0, .null),
  (41, .aload 0, 42, 0, 0, .null),
  (42, .iload 1, 43, 0, 0, .null),
  (43, .invokevirtual 0, 46, 195, 1181, .null),
  (46, .istore 4, 48, 0, 0, .null),
  (48, .iload 4, 50, 0, 0, .null),
  (50, .ifCond .eq 0, 53, 56, 0, .null),
  (53, .iload 4, 55, 0, 0, .null),
  (55, .ireturn, 56, 0, 0, .null),
  (56, .iload 3, 57, 0, 0, .null),
  (57, .i2l, 58, 0, 0, .null),
  (58, .lstore 5, 60, 0, 0, .null),
  (60, .iconst 0, 61, 0, 0, .int 0),
  (61, .istore 7, 63, 0, 0, .null),
  (63, .iconst 0, 64, 0, 0, .int 0),
  (64, .istore 8, 66, 0, 0, .null),
  (66, .iload 8, 68, 0, 0, .null),
  (68, .iload 2, 69, 0, 0, .null),
  (69, .if_icmp .ge 0, 72, 211, 0, .null),
  (72, .lload 5, 74, 0, 0, .null),
  (74, .iconst 0, 77, 0, 1266, .long 48271),
  (77, .lmul, 78, 0, 0, .null),
  (78, .iconst 0, 81, 0, 1267, .long 2147483647),
  (81, .lrem, 82, 0, 0, .null),
  (82, .lstore 5, 84, 0, 0, .null),
  (84, .lload 5, 86, 0, 0, .null),
  (86, .aload 0, 87, 0, 0, .null),
  (87, .getfield 0, 90, 7, 10, .int 839),
  (90, .i2l, 91, 0, 0, .null),
  (91, .lrem, 92, 0, 0, .null),
  (92, .l2i, 93, 0, 0, .null),
  (93, .istore 9, 95, 0, 0, .null),
  (95, .lload 5, 97, 0, 0, .null),
  (97, .iconst 0, 100, 0, 1268, .long 64),
  (100, .ldiv, 101, 0, 0, .null),
  (101, .aload 0, 102, 0, 0, .null),
  (102, .getfield 0, 105, 7, 10, .int 839),
  (105, .i2l, 106, 0, 0, .null),
  (106, .lrem, 107, 0, 0, .null),
  (107, .l2i, 108, 0, 0, .null),
  (108, .istore 10, 110, 0, 0, .null),
  (110, .iload 9, 112, 0, 0, .null),
  (112, .iload 10, 114, 0, 0, .null),
  (114, .if_icmp .eq 0, 117, 205, 0, .null),
  (117, .aload 0, 118, 0, 0, .null),
  (118, .getfield 0, 121, 7, 14, .int 843),
  (121, .iconst 0, 123, 0, 0, .int 16),
  (123, .if_icmp .ge 0, 126, 205, 0, .null),
  (126, .aload 0, 127, 0, 0, .null),
  (127, .getfield 0, 130, 7, 30, .retAddr 859),
  (130, .iload 9, 132, 0, 0, .null),
  (132, .iaload, 133, 0, 0, .null),
  (133, .aload 0, 134, 0, 0, .null),
  (134, .getfield 0, 137, 7, 30, .retAddr 859),
  (137, .iload 10, 139, 0, 0, .null),
  (139, .iaload, 140, 0, 0, .null),
  (140, .if_icmp .le 0, 143, 147, 0, .null),
  (143, .iconst 0, 144, 0, 0, .int 1),
  (144, .goto 0, 147, 148, 0, .null),
  (147, .iconst 0, 148, 0, 0, .int 0),
  (148, .istore 11, 150, 0, 0, .null),
  (150, .aload 0, 151, 0, 0, .null),
  (151, .getfield 0, 154, 7, 15, .retAddr 844),
  (154, .aload 0, 155, 0, 0, .null),
  (155, .getfield 0, 158, 7, 14, .int 843),
  (158, .iload 11, 160, 0, 0, .null),
  (160, .ifCond .eq 0, 163, 168, 0, .null),
  (163, .iload 9, 165, 0, 0, .null),
  (165, .goto 0, 168, 170, 0, .null),
  (168, .iload 10, 170, 0, 0, .null),
  (170, .iastore, 171, 0, 0, .null),
  (171, .aload 0, 172, 0, 0, .null),
  (172, .getfield 0, 175, 7, 16, .retAddr 845),
  (175, .aload 0, 176, 0, 0, .null),
  (176, .getfield 0, 179, 7, 14, .int 843),
  (179, .iload 11, 181, 0, 0, .null),
  (181, .ifCond .eq 0, 184, 189, 0, .null),
  (184, .iload 10, 186, 0, 0, .null),
  (186, .goto 0, 189, 191, 0, .null),
  (189, .iload 9, 191, 0, 0, .null),
  (191, .iastore, 192, 0, 0, .null),
  (192, .aload 0, 193, 0, 0, .null),
  (193, .dup, 194, 0, 0, .null),
  (194, .getfield 0, 197, 7, 14, .int 843),
  (197, .iconst 0, 198, 0, 0, .int 1),
  (198, .iadd, 199, 0, 0, .null),
  (199, .putfield 0, 202, 7, 14, .int 843),
  (202, .iinc 7 0, 205, 0, 0, .int 1),
  (205, .iinc 8 0, 208, 0, 0, .int 1),
  (208, .goto 0, 211, 66, 0, .null),
  (211, .iload 7, 213, 0, 0, .null),
  (213, .ireturn, 214, 0, 0, .null)]
def m_M_walks : xM := (215, 7, 12, 4, 1, (3, 67, 0, 0), t_M_walks, 0, fun _ => 0)
def t_M_asked : List xRow := [(0, .aload 0, 1, 0, 0, .null),
  (1, .getfield 0, 4, 7, 2, .int 831),
  (4, .ireturn, 5, 0, 0, .null)]
def m_M_asked : xM := (216, 7, 1, 1, 1, (0, 0, 0, 0), t_M_asked, 0, fun _ => 0)
def t_M_upper : List xRow := [(0, .aload 0, 1, 0, 0, .null),
  (1, .getfield 0, 4, 7, 3, .long 832),
  (4, .lreturn, 5, 0, 0, .null)]
def m_M_upper : xM := (217, 7, 1, 1, 3, (0, 0, 0, 0), t_M_upper, 0, fun _ => 0)
def t_M_lower : List xRow := [(0, .aload 0, 1, 0, 0, .null),
  (1, .getfield 0, 4, 7, 4, .long 833),
  (4, .lreturn, 5, 0, 0, .null)]
def m_M_lower : xM := (218, 7, 1, 1, 3, (0, 0, 0, 0), t_M_lower, 0, fun _ => 0)
def t_M_count : List xRow := [(0, .iload 1, 1, 0, 0, .null),
  (1, .iconst 0, 2, 0, 0, .int 0),
  (2, .iconst 0, 4, 0, 0, .int 7),
  (4, .invokestatic 0, 7, 135, 946, .null),
  (7, .ifCond .eq 0, 10, 18, 0, .null),
  (10, .aload 0, 11, 0, 0, .null),
  (11, .iload 1, 12, 0, 0, .null),
  (12, .invokevirtual 0, 15, 220, 1285, .null),
  (15, .goto 0, 18, 19, 0, .null),
  (18, .iconst 0, 19, 0, 0, .int (-1)),
  (19, .ireturn, 20, 0, 0, .null)]
def m_M_count : xM := (219, 7, 2, 2, 1, (5, 110, 0, 0), t_M_count, 0, fun _ => 0)
def t_M_counted : List xRow := [(0, .iconst 0, 1, 0, 0, .int 0),
  (1, .istore 2, 2, 0, 0, .null),
  (2, .iconst 0, 3, 0, 0, .int 0),
  (3, .istore 3, 4, 0, 0, .null),
  (4, .iload 3, 5, 0, 0, .null),
  (5, .iconst 0, 7, 0, 0, .int 6),
  (7, .if_icmp .ge 0, 10, 103, 0, .null),
  (10, .iload 2, 11, 0, 0, .null),
  (11, .iload 1, 12, 0, 0, .null),
  (12, .iconst 0, 14, 0, 0, .int 6),
  (14, .if_icmp .ne 0, 17, 32, 0, .null),
  (17, .aload 0, 18, 0, 0, .null),
  (18, .getfield 0, 21, 7, 5, .retAddr 834),
  (21, .iload 3, 22, 0, 0, .null),
  (22, .iaload, 23, 0, 0, .null),
  (23, .iconst 0, 25, 0, 0, .int (-9)),
  (25, .if_icmp .eq 0, 28, 32, 0, .null),
  (28, .iconst 0, 29, 0, 0, .int 1),
  (29, .goto 0, 32, 33, 0, .null),
  (32, .iconst 0, 33, 0, 0, .int 0),
  (33, .iadd, 34, 0, 0, .null),
  (34, .istore 2, 35, 0, 0, .null),
  (35, .iload 2, 36, 0, 0, .null),
  (36, .iload 1, 37, 0, 0, .null),
  (37, .iconst 0, 39, 0, 0, .int 7),
  (39, .if_icmp .ne 0, 42, 62, 0, .null),
  (42, .iload 3, 43, 0, 0, .null),
  (43, .iconst 0, 44, 0, 0, .int 4),
  (44, .if_icmp .ge 0, 47, 62, 0, .null),
  (47, .aload 0, 48, 0, 0, .null),
  (48, .getfield 0, 51, 7, 8, .retAddr 837),
  (51, .iload 3, 52, 0, 0, .null),
  (52, .iaload, 53, 0, 0, .null),
  (53, .iconst 0, 55, 0, 0, .int (-9)),
  (55, .if_icmp .eq 0, 58, 62, 0, .null),
  (58, .iconst 0, 59, 0, 0, .int 1),
  (59, .goto 0, 62, 63, 0, .null),
  (62, .iconst 0, 63, 0, 0, .int 0),
  (63, .iadd, 64, 0, 0, .null),
  (64, .istore 2, 65, 0, 0, .null),
  (65, .iload 2, 66, 0, 0, .null),
  (66, .iload 1, 67, 0, 0, .null),
  (67, .iconst 0, 68, 0, 0, .int 5),
  (68, .if_icmp .ne 0, 71, 94, 0, .null),
  (71, .iload 3, 72, 0, 0, .null),
  (72, .iconst 0, 73, 0, 0, .int 3),
  (73, .if_icmp .ge 0, 76, 94, 0, .null),
  (76, .aload 0, 77, 0, 0, .null),
  (77, .getfield 0, 80, 7, 26, .retAddr 855),
  (80, .iconst 0, 82, 0, 0, .int 42),
  (82, .iload 3, 83, 0, 0, .null),
  (83, .imul, 84, 0, 0, .null),
  (84, .iaload, 85, 0, 0, .null),
  (85, .iconst 0, 87, 0, 0, .int (-9)),
  (87, .if_icmp .eq 0, 90, 94, 0, .null),
  (90, .iconst 0, 91, 0, 0, .int 1),
  (91, .goto 0, 94, 95, 0, .null),
  (94, .iconst 0, 95, 0, 0, .int 0),
  (95, .iadd, 96, 0, 0, .null),
  (96, .istore 2, 97, 0, 0, .null),
  (97, .iinc 3 0, 100, 0, 0, .int 1),
  (100, .goto 0, 103, 4, 0, .null),
  (103, .iload 1, 104, 0, 0, .null),
  (104, .ifCond .ne 0, 107, 114, 0, .null),
  (107, .aload 0, 108, 0, 0, .null),
  (108, .getfield 0, 111, 7, 10, .int 839),
  (111, .goto 0, 114, 174, 0, .null),
  (114, .iload 1, 115, 0, 0, .null),
  (115, .iconst 0, 116, 0, 0, .int 1),
  (116, .if_icmp .ne 0, 119, 126, 0, .null),
  (119, .aload 0, 120, 0, 0, .null),
  (120, .getfield 0, 123, 7, 14, .int 843),
  (123, .goto 0, 126, 174, 0, .null),
  (126, .iload 1, 127, 0, 0, .null),
  (127, .iconst 0, 128, 0, 0, .int 2),
  (128, .if_icmp .ne 0, 131, 141, 0, .null),
  (131, .aload 0, 132, 0, 0, .null),
  (132, .invokevirtual 0, 135, 204, 1217, .null),
  (135, .invokestatic 0, 138, 166, 1066, .null),
  (138, .goto 0, 141, 174, 0, .null),
  (141, .iload 1, 142, 0, 0, .null),
  (142, .iconst 0, 143, 0, 0, .int 3),
  (143, .if_icmp .ne 0, 146, 157, 0, .null),
  (146, .aload 0, 147, 0, 0, .null),
  (147, .iconst 0, 148, 0, 0, .int 1),
  (148, .invokevirtual 0, 151, 167, 1069, .null),
  (151, .invokestatic 0, 154, 166, 1066, .null),
  (154, .goto 0, 157, 174, 0, .null),
  (157, .iload 1, 158, 0, 0, .null),
  (158, .iconst 0, 159, 0, 0, .int 4),
  (159, .if_icmp .ne 0, 162, 173, 0, .null),
  (162, .aload 0, 163, 0, 0, .null),
  (163, .iconst 0, 164, 0, 0, .int 2),
  (164, .invokevirtual 0, 167, 167, 1069, .null),
  (167, .invokestatic 0, 170, 166, 1066, .null),
  (170, .goto 0, 173, 174, 0, .null),
  (173, .iload 2, 174, 0, 0, .null),
  (174, .ireturn, 175, 0, 0, .null)]
def m_M_counted : xM := (220, 7, 4, 2, 1, (4, 87, 0, 0), t_M_counted, 0, fun _ => 0)
def t_M_finding : List xRow := [(0, .aload 0, 1, 0, 0, .null),
  (1, .getfield 0, 4, 7, 0, .int 829),
  (4, .ireturn, 5, 0, 0, .null)]
def m_M_finding : xM := (221, 7, 1, 1, 1, (0, 0, 0, 0), t_M_finding, 0, fun _ => 0)
def t_M_findings : List xRow := [(0, .iload 1, 1, 0, 0, .null),
  (1, .iconst 0, 2, 0, 0, .int 1),
  (2, .iconst 0, 3, 0, 0, .int 5),
  (3, .invokestatic 0, 6, 135, 946, .null),
  (6, .ifCond .eq 0, 9, 18, 0, .null),
  (9, .aload 0, 10, 0, 0, .null),
  (10, .getfield 0, 13, 7, 1, .retAddr 830),
  (13, .iload 1, 14, 0, 0, .null),
  (14, .iaload, 15, 0, 0, .null),
  (15, .goto 0, 18, 19, 0, .null),
  (18, .iconst 0, 19, 0, 0, .int (-1)),
  (19, .ireturn, 20, 0, 0, .null)]
def m_M_findings : xM := (222, 7, 2, 2, 1, (1, 22, 0, 0), t_M_findings, 0, fun _ => 0)
def t_M_digest : List xRow := [(0, .aload 0, 1, 0, 0, .null),
  (1, .iconst 0, 4, 0, 1301, .long 17),
  (4, .putfield 0, 7, 7, 35, .long 864),
  (7, .aload 0, 8, 0, 0, .null),
  (8, .invokevirtual 0, 11, 224, 1302, .null),
  (11, .iconst 0, 12, 0, 0, .int 0),
  (12, .istore 1, 13, 0, 0, .null),
  (13, .iload 1, 14, 0, 0, .null),
  (14, .iconst 0, 16, 0, 0, .int 6),
  (16, .if_icmp .ge 0, 19, 83, 0, .null),
  (19, .aload 0, 20, 0, 0, .null),
  (20, .aload 0, 21, 0, 0, .null),
  (21, .getfield 0, 24, 7, 5, .retAddr 834),
  (24, .iload 1, 25, 0, 0, .null),
  (25, .iaload, 26, 0, 0, .null),
  (26, .iconst 0, 28, 0, 0, .int (-9)),
  (28, .if_icmp .ne 0, 31, 35, 0, .null),
  (31, .iconst 0, 32, 0, 0, .int (-1)),
  (32, .goto 0, 35, 41, 0, .null),
  (35, .aload 0, 36, 0, 0, .null),
  (36, .getfield 0, 39, 7, 5, .retAddr 834),
  (39, .iload 1, 40, 0, 0, .null),
  (40, .iaload, 41, 0, 0, .null),
  (41, .invokevirtual 0, 44, 225, 1306, .null),
  (44, .iconst 0, 45, 0, 0, .int 0),
  (45, .istore 2, 46, 0, 0, .null),
  (46, .iload 2, 47, 0, 0, .null),
  (47, .aload 0, 48, 0, 0, .null),
  (48, .getfield 0, 51, 7, 5, .retAddr 834),
  (51, .iload 1, 52, 0, 0, .null),
  (52, .iaload, 53, 0, 0, .null),
  (53, .if_icmp .ge 0, 56, 77, 0, .null),
  (56, .aload 0, 57, 0, 0, .null),
  (57, .aload 0, 58, 0, 0, .null),
  (58, .getfield 0, 61, 7, 6, .retAddr 835),
  (61, .iconst 0, 63, 0, 0, .int 40),
  (63, .iload 1, 64, 0, 0, .null),
  (64, .imul, 65, 0, 0, .null),
  (65, .iload 2, 66, 0, 0, .null),
  (66, .iadd, 67, 0, 0, .null),
  (67, .iaload, 68, 0, 0, .null),
  (68, .invokevirtual 0, 71, 225, 1306, .null),
  (71, .iinc 2 0, 74, 0, 0, .int 1),
  (74, .goto 0, 77, 46, 0, .null),
  (77, .iinc 1 0, 80, 0, 0, .int 1),
  (80, .goto 0, 83, 13, 0, .null),
  (83, .iconst 0, 84, 0, 0, .int 0),
  (84, .istore 1, 85, 0, 0, .null),
  (85, .iload 1, 86, 0, 0, .null),
  (86, .iconst 0, 87, 0, 0, .int 4),
  (87, .if_icmp .ge 0, 90, 154, 0, .null),
  (90, .aload 0, 91, 0, 0, .null),
  (91, .aload 0, 92, 0, 0, .null),
  (92, .getfield 0, 95, 7, 8, .retAddr 837),
  (95, .iload 1, 96, 0, 0, .null),
  (96, .iaload, 97, 0, 0, .null),
  (97, .iconst 0, 99, 0, 0, .int (-9)),
  (99, .if_icmp .ne 0, 102, 106, 0, .null),
  (102, .iconst 0, 103, 0, 0, .int (-1)),
  (103, .goto 0, 106, 112, 0, .null),
  (106, .aload 0, 107, 0, 0, .null),
  (107, .getfield 0, 110, 7, 8, .retAddr 837),
  (110, .iload 1, 111, 0, 0, .null),
  (111, .iaload, 112, 0, 0, .null),
  (112, .invokevirtual 0, 115, 225, 1306, .null),
  (115, .iconst 0, 116, 0, 0, .int 0),
  (116, .istore 2, 117, 0, 0, .null),
  (117, .iload 2, 118, 0, 0, .null),
  (118, .aload 0, 119, 0, 0, .null),
  (119, .getfield 0, 122, 7, 8, .retAddr 837),
  (122, .iload 1, 123, 0, 0, .null),
  (123, .iaload, 124, 0, 0, .null),
  (124, .if_icmp .ge 0, 127, 148, 0, .null),
  (127, .aload 0, 128, 0, 0, .null),
  (128, .aload 0, 129, 0, 0, .null),
  (129, .getfield 0, 132, 7, 9, .retAddr 838),
  (132, .iconst 0, 134, 0, 0, .int 80),
  (134, .iload 1, 135, 0, 0, .null),
  (135, .imul, 136, 0, 0, .null),
  (136, .iload 2, 137, 0, 0, .null),
  (137, .iadd, 138, 0, 0, .null),
  (138, .iaload, 139, 0, 0, .null),
  (139, .invokevirtual 0, 142, 225, 1306, .null),
  (142, .iinc 2 0, 145, 0, 0, .int 1),
  (145, .goto 0, 148, 117, 0, .null),
  (148, .iinc 1 0, 151, 0, 0, .int 1),
  (151, .goto 0, 154, 85, 0, .null),
  (154, .aload 0, 155, 0, 0, .null),
  (155, .getfield 0, 158, 7, 35, .long 864),
  (158, .lreturn, 159, 0, 0, .null)]
def m_M_digest : xM := (223, 7, 3, 1, 3, (6, 132, 0, 0), t_M_digest, 0, fun _ => 0)
def t_M_mixPass : List xRow := [(0, .iconst 0, 1, 0, 0, .int 0),
  (1, .istore 1, 2, 0, 0, .null),
  (2, .iload 1, 3, 0, 0, .null),
  (3, .iconst 0, 5, 0, 0, .int 8),
  (5, .if_icmp .ge 0, 8, 23, 0, .null),
  (8, .aload 0, 9, 0, 0, .null),
  (9, .aload 0, 10, 0, 0, .null),
  (10, .iload 1, 11, 0, 0, .null),
  (11, .invokevirtual 0, 14, 220, 1285, .null),
  (14, .invokevirtual 0, 17, 225, 1306, .null),
  (17, .iinc 1 0, 20, 0, 0, .int 1),
  (20, .goto 0, 23, 2, 0, .null),
  (23, .aload 0, 24, 0, 0, .null),
  (24, .aload 0, 25, 0, 0, .null),
  (25, .getfield 0, 28, 7, 17, .int 846),
  (28, .invokevirtual 0, 31, 225, 1306, .null),
  (31, .iconst 0, 32, 0, 0, .int 0),
  (32, .istore 1, 33, 0, 0, .null),
  (33, .iload 1, 34, 0, 0, .null),
  (34, .aload 0, 35, 0, 0, .null),
  (35, .getfield 0, 38, 7, 10, .int 839),
  (38, .if_icmp .ge 0, 41, 70, 0, .null),
  (41, .iconst 0, 42, 0, 0, .int 0),
  (42, .istore 2, 43, 0, 0, .null),
  (43, .iload 2, 44, 0, 0, .null),
  (44, .iconst 0, 45, 0, 0, .int 5),
  (45, .if_icmp .ge 0, 48, 64, 0, .null),
  (48, .aload 0, 49, 0, 0, .null),
  (49, .aload 0, 50, 0, 0, .null),
  (50, .iload 1, 51, 0, 0, .null),
  (51, .iload 2, 52, 0, 0, .null),
  (52, .invokevirtual 0, 55, 158, 1034, .null),
  (55, .invokevirtual 0, 58, 225, 1306, .null),
  (58, .iinc 2 0, 61, 0, 0, .int 1),
  (61, .goto 0, 64, 43, 0, .null),
  (64, .iinc 1 0, 67, 0, 0, .int 1),
  (67, .goto 0, 70, 33, 0, .null),
  (70, .iconst 0, 71, 0, 0, .int 0),
  (71, .istore 1, 72, 0, 0, .null),
  (72, .iload 1, 73, 0, 0, .null),
  (73, .aload 0, 74, 0, 0, .null),
  (74, .getfield 0, 77, 7, 14, .int 843),
  (77, .if_icmp .ge 0, 80, 106, 0, .null),
  (80, .aload 0, 81, 0, 0, .null),
  (81, .iconst 0, 83, 0, 0, .int 10),
  (83, .aload 0, 84, 0, 0, .null),
  (84, .getfield 0, 87, 7, 15, .retAddr 844),
  (87, .iload 1, 88, 0, 0, .null),
  (88, .iaload, 89, 0, 0, .null),
  (89, .imul, 90, 0, 0, .null),
  (90, .aload 0, 91, 0, 0, .null),
  (91, .getfield 0, 94, 7, 16, .retAddr 845),
  (94, .iload 1, 95, 0, 0, .null),
  (95, .iaload, 96, 0, 0, .null),
  (96, .iadd, 97, 0, 0, .null),
  (97, .invokevirtual 0, 100, 225, 1306, .null),
  (100, .iinc 1 0, 103, 0, 0, .int 1),
  (103, .goto 0, 106, 72, 0, .null),
  (106, .iconst 0, 107, 0, 0, .int 0),
  (107, .istore 1, 108, 0, 0, .null),
  (108, .iload 1, 109, 0, 0, .null),
  (109, .iconst 0, 110, 0, 0, .int 3),
  (110, .if_icmp .ge 0, 113, 150, 0, .null),
  (113, .aload 0, 114, 0, 0, .null),
  (114, .aload 0, 115, 0, 0, .null),
  (115, .getfield 0, 118, 7, 26, .retAddr 855),
  (118, .iconst 0, 120, 0, 0, .int 42),
  (120, .iload 1, 121, 0, 0, .null),
  (121, .imul, 122, 0, 0, .null),
  (122, .iaload, 123, 0, 0, .null),
  (123, .iconst 0, 125, 0, 0, .int (-9)),
  (125, .if_icmp .ne 0, 128, 132, 0, .null),
  (128, .iconst 0, 129, 0, 0, .int (-1)),
  (129, .goto 0, 132, 141, 0, .null),
  (132, .aload 0, 133, 0, 0, .null),
  (133, .getfield 0, 136, 7, 26, .retAddr 855),
  (136, .iconst 0, 138, 0, 0, .int 42),
  (138, .iload 1, 139, 0, 0, .null),
  (139, .imul, 140, 0, 0, .null),
  (140, .iaload, 141, 0, 0, .null),
  (141, .invokevirtual 0, 144, 225, 1306, .null),
  (144, .iinc 1 0, 147, 0, 0, .int 1),
  (147, .goto 0, 150, 108, 0, .null),
  (150, .return_, 151, 0, 0, .null)]
def m_M_mixPass : xM := (224, 7, 3, 1, 0, (5, 110, 0, 0), t_M_mixPass, 0, fun _ => 0)
def t_M_mix : List xRow := [(0, .aload 0, 1, 0, 0, .null),
  (1, .iconst 0, 4, 0, 1310, .long 31),
  (4, .aload 0, 5, 0, 0, .null),
  (5, .getfield 0, 8, 7, 35, .long 864),
  (8, .lmul, 9, 0, 0, .null),
  (9, .iload 1, 10, 0, 0, .null),
  (10, .i2l, 11, 0, 0, .null),
  (11, .ladd, 12, 0, 0, .null),
  (12, .putfield 0, 15, 7, 35, .long 864),
  (15, .return_, 16, 0, 0, .null)]
def m_M_mix : xM := (225, 7, 2, 2, 0, (0, 0, 0, 0), t_M_mix, 0, fun _ => 0)
def t_L_law_0 : List xRow := [(0, .new 0, 3, 6, 13, .retAddr 75),
  (3, .dup, 4, 0, 0, .null),
  (4, .invokespecial 0, 7, 0, 77, .null),
  (7, .astore 1, 8, 0, 0, .null),
  (8, .new 0, 11, 7, 36, .retAddr 823),
  (11, .dup, 12, 0, 0, .null),
  (12, .invokespecial 0, 15, 132, 825, .null),
  (15, .astore 2, 16, 0, 0, .null),
  (16, .iconst 0, 17, 0, 0, .int 0),
  (17, .istore 3, 18, 0, 0, .null),
  (18, .iload 3, 19, 0, 0, .null),
  (19, .aload 0, 20, 0, 0, .null),
  (20, .arraylength, 21, 0, 0, .null),
  (21, .iconst 0, 23, 0, 0, .int 6),
  (23, .isub, 24, 0, 0, .null),
  (24, .if_icmp .gt 0, 27, 1429, 0, .null),
  (27, .aload 0, 28, 0, 0, .null),
  (28, .iload 3, 29, 0, 0, .null),
  (29, .iaload, 30, 0, 0, .null),
  (30, .iconst 0, 32, 0, 0, .int 63),
  (32, .iand, 33, 0, 0, .null),
  (33, .lookupswitch 0 #[], 232, 1423, 10, .null),
  (232, .aload 1, 233, 0, 0, .null),
  (233, .aload 0, 234, 0, 0, .null),
  (234, .iload 3, 235, 0, 0, .null),
  (235, .iconst 0, 236, 0, 0, .int 1),
  (236, .iadd, 237, 0, 0, .null),
  (237, .iaload, 238, 0, 0, .null),
  (238, .aload 0, 239, 0, 0, .null),
  (239, .iload 3, 240, 0, 0, .null),
  (240, .iconst 0, 241, 0, 0, .int 2),
  (241, .iadd, 242, 0, 0, .null),
  (242, .iaload, 243, 0, 0, .null),
  (243, .invokevirtual 0, 246, 8, 289, .null),
  (246, .aload 2, 247, 0, 0, .null),
  (247, .aload 0, 248, 0, 0, .null),
  (248, .iload 3, 249, 0, 0, .null),
  (249, .iconst 0, 250, 0, 0, .int 1),
  (250, .iadd, 251, 0, 0, .null),
  (251, .iaload, 252, 0, 0, .null)]
def t_L_law_1 : List xRow := [(252, .aload 0, 253, 0, 0, .null),
  (253, .iload 3, 254, 0, 0, .null),
  (254, .iconst 0, 255, 0, 0, .int 2),
  (255, .iadd, 256, 0, 0, .null),
  (256, .iaload, 257, 0, 0, .null),
  (257, .invokevirtual 0, 260, 133, 939, .null),
  (260, .if_icmp .eq 0, 263, 1423, 0, .null),
  (263, .iconst 0, 264, 0, 0, .int 0),
  (264, .ireturn, 265, 0, 0, .null),
  (265, .aload 1, 266, 0, 0, .null),
  (266, .aload 0, 267, 0, 0, .null),
  (267, .iload 3, 268, 0, 0, .null),
  (268, .iconst 0, 269, 0, 0, .int 1),
  (269, .iadd, 270, 0, 0, .null),
  (270, .iaload, 271, 0, 0, .null),
  (271, .aload 0, 272, 0, 0, .null),
  (272, .iload 3, 273, 0, 0, .null),
  (273, .iconst 0, 274, 0, 0, .int 2),
  (274, .iadd, 275, 0, 0, .null),
  (275, .iaload, 276, 0, 0, .null),
  (276, .aload 0, 277, 0, 0, .null),
  (277, .iload 3, 278, 0, 0, .null),
  (278, .iconst 0, 279, 0, 0, .int 3),
  (279, .iadd, 280, 0, 0, .null),
  (280, .iaload, 281, 0, 0, .null),
  (281, .invokevirtual 0, 284, 12, 305, .null),
  (284, .aload 2, 285, 0, 0, .null),
  (285, .aload 0, 286, 0, 0, .null),
  (286, .iload 3, 287, 0, 0, .null),
  (287, .iconst 0, 288, 0, 0, .int 1),
  (288, .iadd, 289, 0, 0, .null),
  (289, .iaload, 290, 0, 0, .null),
  (290, .aload 0, 291, 0, 0, .null),
  (291, .iload 3, 292, 0, 0, .null),
  (292, .iconst 0, 293, 0, 0, .int 2),
  (293, .iadd, 294, 0, 0, .null),
  (294, .iaload, 295, 0, 0, .null),
  (295, .aload 0, 296, 0, 0, .null),
  (296, .iload 3, 297, 0, 0, .null),
  (297, .iconst 0, 298, 0, 0, .int 3)]
def t_L_law_2 : List xRow := [(298, .iadd, 299, 0, 0, .null),
  (299, .iaload, 300, 0, 0, .null),
  (300, .invokevirtual 0, 303, 137, 953, .null),
  (303, .if_icmp .eq 0, 306, 1423, 0, .null),
  (306, .iconst 0, 307, 0, 0, .int 0),
  (307, .ireturn, 308, 0, 0, .null),
  (308, .aload 1, 309, 0, 0, .null),
  (309, .aload 0, 310, 0, 0, .null),
  (310, .iload 3, 311, 0, 0, .null),
  (311, .iconst 0, 312, 0, 0, .int 1),
  (312, .iadd, 313, 0, 0, .null),
  (313, .iaload, 314, 0, 0, .null),
  (314, .aload 0, 315, 0, 0, .null),
  (315, .iload 3, 316, 0, 0, .null),
  (316, .iconst 0, 317, 0, 0, .int 2),
  (317, .iadd, 318, 0, 0, .null),
  (318, .iaload, 319, 0, 0, .null),
  (319, .invokevirtual 0, 322, 16, 321, .null),
  (322, .aload 2, 323, 0, 0, .null),
  (323, .aload 0, 324, 0, 0, .null),
  (324, .iload 3, 325, 0, 0, .null),
  (325, .iconst 0, 326, 0, 0, .int 1),
  (326, .iadd, 327, 0, 0, .null),
  (327, .iaload, 328, 0, 0, .null),
  (328, .aload 0, 329, 0, 0, .null),
  (329, .iload 3, 330, 0, 0, .null),
  (330, .iconst 0, 331, 0, 0, .int 2),
  (331, .iadd, 332, 0, 0, .null),
  (332, .iaload, 333, 0, 0, .null),
  (333, .invokevirtual 0, 336, 140, 965, .null),
  (336, .if_icmp .eq 0, 339, 1423, 0, .null),
  (339, .iconst 0, 340, 0, 0, .int 0),
  (340, .ireturn, 341, 0, 0, .null),
  (341, .aload 1, 342, 0, 0, .null),
  (342, .aload 0, 343, 0, 0, .null),
  (343, .iload 3, 344, 0, 0, .null),
  (344, .iconst 0, 345, 0, 0, .int 1),
  (345, .iadd, 346, 0, 0, .null),
  (346, .iaload, 347, 0, 0, .null),
  (347, .invokevirtual 0, 350, 17, 325, .null)]
def t_L_law_3 : List xRow := [(350, .aload 2, 351, 0, 0, .null),
  (351, .aload 0, 352, 0, 0, .null),
  (352, .iload 3, 353, 0, 0, .null),
  (353, .iconst 0, 354, 0, 0, .int 1),
  (354, .iadd, 355, 0, 0, .null),
  (355, .iaload, 356, 0, 0, .null),
  (356, .invokevirtual 0, 359, 141, 969, .null),
  (359, .if_icmp .eq 0, 362, 1423, 0, .null),
  (362, .iconst 0, 363, 0, 0, .int 0),
  (363, .ireturn, 364, 0, 0, .null),
  (364, .aload 1, 365, 0, 0, .null),
  (365, .aload 0, 366, 0, 0, .null),
  (366, .iload 3, 367, 0, 0, .null),
  (367, .iconst 0, 368, 0, 0, .int 1),
  (368, .iadd, 369, 0, 0, .null),
  (369, .iaload, 370, 0, 0, .null),
  (370, .aload 0, 371, 0, 0, .null),
  (371, .iload 3, 372, 0, 0, .null),
  (372, .iconst 0, 373, 0, 0, .int 2),
  (373, .iadd, 374, 0, 0, .null),
  (374, .iaload, 375, 0, 0, .null),
  (375, .aload 0, 376, 0, 0, .null),
  (376, .iload 3, 377, 0, 0, .null),
  (377, .iconst 0, 378, 0, 0, .int 3),
  (378, .iadd, 379, 0, 0, .null),
  (379, .iaload, 380, 0, 0, .null),
  (380, .aload 0, 381, 0, 0, .null),
  (381, .iload 3, 382, 0, 0, .null),
  (382, .iconst 0, 383, 0, 0, .int 4),
  (383, .iadd, 384, 0, 0, .null),
  (384, .iaload, 385, 0, 0, .null),
  (385, .aload 0, 386, 0, 0, .null),
  (386, .iload 3, 387, 0, 0, .null),
  (387, .iconst 0, 388, 0, 0, .int 5),
  (388, .iadd, 389, 0, 0, .null),
  (389, .iaload, 390, 0, 0, .null),
  (390, .invokevirtual 0, 393, 18, 329, .null),
  (393, .aload 2, 394, 0, 0, .null),
  (394, .aload 0, 395, 0, 0, .null),
  (395, .iload 3, 396, 0, 0, .null)]
def t_L_law_4 : List xRow := [(396, .iconst 0, 397, 0, 0, .int 1),
  (397, .iadd, 398, 0, 0, .null),
  (398, .iaload, 399, 0, 0, .null),
  (399, .aload 0, 400, 0, 0, .null),
  (400, .iload 3, 401, 0, 0, .null),
  (401, .iconst 0, 402, 0, 0, .int 2),
  (402, .iadd, 403, 0, 0, .null),
  (403, .iaload, 404, 0, 0, .null),
  (404, .aload 0, 405, 0, 0, .null),
  (405, .iload 3, 406, 0, 0, .null),
  (406, .iconst 0, 407, 0, 0, .int 3),
  (407, .iadd, 408, 0, 0, .null),
  (408, .iaload, 409, 0, 0, .null),
  (409, .aload 0, 410, 0, 0, .null),
  (410, .iload 3, 411, 0, 0, .null),
  (411, .iconst 0, 412, 0, 0, .int 4),
  (412, .iadd, 413, 0, 0, .null),
  (413, .iaload, 414, 0, 0, .null),
  (414, .aload 0, 415, 0, 0, .null),
  (415, .iload 3, 416, 0, 0, .null),
  (416, .iconst 0, 417, 0, 0, .int 5),
  (417, .iadd, 418, 0, 0, .null),
  (418, .iaload, 419, 0, 0, .null),
  (419, .invokevirtual 0, 422, 142, 973, .null),
  (422, .if_icmp .eq 0, 425, 1423, 0, .null),
  (425, .iconst 0, 426, 0, 0, .int 0),
  (426, .ireturn, 427, 0, 0, .null),
  (427, .aload 1, 428, 0, 0, .null),
  (428, .aload 0, 429, 0, 0, .null),
  (429, .iload 3, 430, 0, 0, .null),
  (430, .iconst 0, 431, 0, 0, .int 1),
  (431, .iadd, 432, 0, 0, .null),
  (432, .iaload, 433, 0, 0, .null),
  (433, .invokevirtual 0, 436, 20, 340, .null),
  (436, .aload 2, 437, 0, 0, .null),
  (437, .aload 0, 438, 0, 0, .null),
  (438, .iload 3, 439, 0, 0, .null),
  (439, .iconst 0, 440, 0, 0, .int 1),
  (440, .iadd, 441, 0, 0, .null),
  (441, .iaload, 442, 0, 0, .null)]
def t_L_law_5 : List xRow := [(442, .invokevirtual 0, 445, 143, 977, .null),
  (445, .if_icmp .eq 0, 448, 1423, 0, .null),
  (448, .iconst 0, 449, 0, 0, .int 0),
  (449, .ireturn, 450, 0, 0, .null),
  (450, .aload 1, 451, 0, 0, .null),
  (451, .aload 0, 452, 0, 0, .null),
  (452, .iload 3, 453, 0, 0, .null),
  (453, .iconst 0, 454, 0, 0, .int 1),
  (454, .iadd, 455, 0, 0, .null),
  (455, .iaload, 456, 0, 0, .null),
  (456, .aload 0, 457, 0, 0, .null),
  (457, .iload 3, 458, 0, 0, .null),
  (458, .iconst 0, 459, 0, 0, .int 2),
  (459, .iadd, 460, 0, 0, .null),
  (460, .iaload, 461, 0, 0, .null),
  (461, .invokevirtual 0, 464, 22, 348, .null),
  (464, .aload 2, 465, 0, 0, .null),
  (465, .aload 0, 466, 0, 0, .null),
  (466, .iload 3, 467, 0, 0, .null),
  (467, .iconst 0, 468, 0, 0, .int 1),
  (468, .iadd, 469, 0, 0, .null),
  (469, .iaload, 470, 0, 0, .null),
  (470, .aload 0, 471, 0, 0, .null),
  (471, .iload 3, 472, 0, 0, .null),
  (472, .iconst 0, 473, 0, 0, .int 2),
  (473, .iadd, 474, 0, 0, .null),
  (474, .iaload, 475, 0, 0, .null),
  (475, .invokevirtual 0, 478, 144, 981, .null),
  (478, .if_icmp .eq 0, 481, 1423, 0, .null),
  (481, .iconst 0, 482, 0, 0, .int 0),
  (482, .ireturn, 483, 0, 0, .null),
  (483, .aload 1, 484, 0, 0, .null),
  (484, .aload 0, 485, 0, 0, .null),
  (485, .iload 3, 486, 0, 0, .null),
  (486, .iconst 0, 487, 0, 0, .int 1),
  (487, .iadd, 488, 0, 0, .null),
  (488, .iaload, 489, 0, 0, .null),
  (489, .aload 0, 490, 0, 0, .null),
  (490, .iload 3, 491, 0, 0, .null),
  (491, .iconst 0, 492, 0, 0, .int 2)]
def t_L_law_6 : List xRow := [(492, .iadd, 493, 0, 0, .null),
  (493, .iaload, 494, 0, 0, .null),
  (494, .aload 0, 495, 0, 0, .null),
  (495, .iload 3, 496, 0, 0, .null),
  (496, .iconst 0, 497, 0, 0, .int 3),
  (497, .iadd, 498, 0, 0, .null),
  (498, .iaload, 499, 0, 0, .null),
  (499, .invokevirtual 0, 502, 23, 352, .null),
  (502, .aload 2, 503, 0, 0, .null),
  (503, .aload 0, 504, 0, 0, .null),
  (504, .iload 3, 505, 0, 0, .null),
  (505, .iconst 0, 506, 0, 0, .int 1),
  (506, .iadd, 507, 0, 0, .null),
  (507, .iaload, 508, 0, 0, .null),
  (508, .aload 0, 509, 0, 0, .null),
  (509, .iload 3, 510, 0, 0, .null),
  (510, .iconst 0, 511, 0, 0, .int 2),
  (511, .iadd, 512, 0, 0, .null),
  (512, .iaload, 513, 0, 0, .null),
  (513, .aload 0, 514, 0, 0, .null),
  (514, .iload 3, 515, 0, 0, .null),
  (515, .iconst 0, 516, 0, 0, .int 3),
  (516, .iadd, 517, 0, 0, .null),
  (517, .iaload, 518, 0, 0, .null),
  (518, .invokevirtual 0, 521, 146, 988, .null),
  (521, .if_icmp .eq 0, 524, 1423, 0, .null),
  (524, .iconst 0, 525, 0, 0, .int 0),
  (525, .ireturn, 526, 0, 0, .null),
  (526, .aload 1, 527, 0, 0, .null),
  (527, .aload 0, 528, 0, 0, .null),
  (528, .iload 3, 529, 0, 0, .null),
  (529, .iconst 0, 530, 0, 0, .int 1),
  (530, .iadd, 531, 0, 0, .null),
  (531, .iaload, 532, 0, 0, .null),
  (532, .invokevirtual 0, 535, 24, 356, .null),
  (535, .aload 2, 536, 0, 0, .null),
  (536, .aload 0, 537, 0, 0, .null),
  (537, .iload 3, 538, 0, 0, .null),
  (538, .iconst 0, 539, 0, 0, .int 1),
  (539, .iadd, 540, 0, 0, .null)]
def t_L_law_7 : List xRow := [(540, .iaload, 541, 0, 0, .null),
  (541, .invokevirtual 0, 544, 148, 996, .null),
  (544, .if_icmp .eq 0, 547, 1423, 0, .null),
  (547, .iconst 0, 548, 0, 0, .int 0),
  (548, .ireturn, 549, 0, 0, .null),
  (549, .aload 1, 550, 0, 0, .null),
  (550, .aload 0, 551, 0, 0, .null),
  (551, .iload 3, 552, 0, 0, .null),
  (552, .iconst 0, 553, 0, 0, .int 1),
  (553, .iadd, 554, 0, 0, .null),
  (554, .iaload, 555, 0, 0, .null),
  (555, .invokevirtual 0, 558, 37, 406, .null),
  (558, .aload 2, 559, 0, 0, .null),
  (559, .aload 0, 560, 0, 0, .null),
  (560, .iload 3, 561, 0, 0, .null),
  (561, .iconst 0, 562, 0, 0, .int 1),
  (562, .iadd, 563, 0, 0, .null),
  (563, .iaload, 564, 0, 0, .null),
  (564, .invokevirtual 0, 567, 155, 1022, .null),
  (567, .if_icmp .eq 0, 570, 1423, 0, .null),
  (570, .iconst 0, 571, 0, 0, .int 0),
  (571, .ireturn, 572, 0, 0, .null),
  (572, .aload 1, 573, 0, 0, .null),
  (573, .aload 0, 574, 0, 0, .null),
  (574, .iload 3, 575, 0, 0, .null),
  (575, .iconst 0, 576, 0, 0, .int 1),
  (576, .iadd, 577, 0, 0, .null),
  (577, .iaload, 578, 0, 0, .null),
  (578, .aload 0, 579, 0, 0, .null),
  (579, .iload 3, 580, 0, 0, .null),
  (580, .iconst 0, 581, 0, 0, .int 2),
  (581, .iadd, 582, 0, 0, .null),
  (582, .iaload, 583, 0, 0, .null),
  (583, .invokevirtual 0, 586, 39, 416, .null),
  (586, .aload 2, 587, 0, 0, .null),
  (587, .aload 0, 588, 0, 0, .null),
  (588, .iload 3, 589, 0, 0, .null),
  (589, .iconst 0, 590, 0, 0, .int 1),
  (590, .iadd, 591, 0, 0, .null),
  (591, .iaload, 592, 0, 0, .null)]
def t_L_law_8 : List xRow := [(592, .aload 0, 593, 0, 0, .null),
  (593, .iload 3, 594, 0, 0, .null),
  (594, .iconst 0, 595, 0, 0, .int 2),
  (595, .iadd, 596, 0, 0, .null),
  (596, .iaload, 597, 0, 0, .null),
  (597, .invokevirtual 0, 600, 156, 1026, .null),
  (600, .if_icmp .eq 0, 603, 1423, 0, .null),
  (603, .iconst 0, 604, 0, 0, .int 0),
  (604, .ireturn, 605, 0, 0, .null),
  (605, .aload 1, 606, 0, 0, .null),
  (606, .aload 0, 607, 0, 0, .null),
  (607, .iload 3, 608, 0, 0, .null),
  (608, .iconst 0, 609, 0, 0, .int 1),
  (609, .iadd, 610, 0, 0, .null),
  (610, .iaload, 611, 0, 0, .null),
  (611, .invokevirtual 0, 614, 42, 429, .null),
  (614, .aload 2, 615, 0, 0, .null),
  (615, .aload 0, 616, 0, 0, .null),
  (616, .iload 3, 617, 0, 0, .null),
  (617, .iconst 0, 618, 0, 0, .int 1),
  (618, .iadd, 619, 0, 0, .null),
  (619, .iaload, 620, 0, 0, .null),
  (620, .invokevirtual 0, 623, 159, 1038, .null),
  (623, .if_icmp .eq 0, 626, 1423, 0, .null),
  (626, .iconst 0, 627, 0, 0, .int 0),
  (627, .ireturn, 628, 0, 0, .null),
  (628, .aload 1, 629, 0, 0, .null),
  (629, .aload 0, 630, 0, 0, .null),
  (630, .iload 3, 631, 0, 0, .null),
  (631, .iconst 0, 632, 0, 0, .int 1),
  (632, .iadd, 633, 0, 0, .null),
  (633, .iaload, 634, 0, 0, .null),
  (634, .aload 0, 635, 0, 0, .null),
  (635, .iload 3, 636, 0, 0, .null),
  (636, .iconst 0, 637, 0, 0, .int 2),
  (637, .iadd, 638, 0, 0, .null),
  (638, .iaload, 639, 0, 0, .null),
  (639, .invokevirtual 0, 642, 47, 447, .null),
  (642, .aload 2, 643, 0, 0, .null),
  (643, .aload 0, 644, 0, 0, .null)]
def t_L_law_9 : List xRow := [(644, .iload 3, 645, 0, 0, .null),
  (645, .iconst 0, 646, 0, 0, .int 1),
  (646, .iadd, 647, 0, 0, .null),
  (647, .iaload, 648, 0, 0, .null),
  (648, .aload 0, 649, 0, 0, .null),
  (649, .iload 3, 650, 0, 0, .null),
  (650, .iconst 0, 651, 0, 0, .int 2),
  (651, .iadd, 652, 0, 0, .null),
  (652, .iaload, 653, 0, 0, .null),
  (653, .invokevirtual 0, 656, 164, 1058, .null),
  (656, .if_icmp .eq 0, 659, 1423, 0, .null),
  (659, .iconst 0, 660, 0, 0, .int 0),
  (660, .ireturn, 661, 0, 0, .null),
  (661, .aload 1, 662, 0, 0, .null),
  (662, .aload 0, 663, 0, 0, .null),
  (663, .iload 3, 664, 0, 0, .null),
  (664, .iconst 0, 665, 0, 0, .int 1),
  (665, .iadd, 666, 0, 0, .null),
  (666, .iaload, 667, 0, 0, .null),
  (667, .invokevirtual 0, 670, 57, 489, .null),
  (670, .aload 2, 671, 0, 0, .null),
  (671, .aload 0, 672, 0, 0, .null),
  (672, .iload 3, 673, 0, 0, .null),
  (673, .iconst 0, 674, 0, 0, .int 1),
  (674, .iadd, 675, 0, 0, .null),
  (675, .iaload, 676, 0, 0, .null),
  (676, .invokevirtual 0, 679, 168, 1073, .null),
  (679, .if_icmp .eq 0, 682, 1423, 0, .null),
  (682, .iconst 0, 683, 0, 0, .int 0),
  (683, .ireturn, 684, 0, 0, .null),
  (684, .aload 1, 685, 0, 0, .null),
  (685, .aload 0, 686, 0, 0, .null),
  (686, .iload 3, 687, 0, 0, .null),
  (687, .iconst 0, 688, 0, 0, .int 1),
  (688, .iadd, 689, 0, 0, .null),
  (689, .iaload, 690, 0, 0, .null),
  (690, .aload 0, 691, 0, 0, .null),
  (691, .iload 3, 692, 0, 0, .null),
  (692, .iconst 0, 693, 0, 0, .int 2),
  (693, .iadd, 694, 0, 0, .null)]
def t_L_law_10 : List xRow := [(694, .iaload, 695, 0, 0, .null),
  (695, .invokevirtual 0, 698, 58, 493, .null),
  (698, .aload 2, 699, 0, 0, .null),
  (699, .aload 0, 700, 0, 0, .null),
  (700, .iload 3, 701, 0, 0, .null),
  (701, .iconst 0, 702, 0, 0, .int 1),
  (702, .iadd, 703, 0, 0, .null),
  (703, .iaload, 704, 0, 0, .null),
  (704, .aload 0, 705, 0, 0, .null),
  (705, .iload 3, 706, 0, 0, .null),
  (706, .iconst 0, 707, 0, 0, .int 2),
  (707, .iadd, 708, 0, 0, .null),
  (708, .iaload, 709, 0, 0, .null),
  (709, .invokevirtual 0, 712, 169, 1077, .null),
  (712, .if_icmp .eq 0, 715, 1423, 0, .null),
  (715, .iconst 0, 716, 0, 0, .int 0),
  (716, .ireturn, 717, 0, 0, .null),
  (717, .aload 1, 718, 0, 0, .null),
  (718, .aload 0, 719, 0, 0, .null),
  (719, .iload 3, 720, 0, 0, .null),
  (720, .iconst 0, 721, 0, 0, .int 1),
  (721, .iadd, 722, 0, 0, .null),
  (722, .iaload, 723, 0, 0, .null),
  (723, .aload 0, 724, 0, 0, .null),
  (724, .iload 3, 725, 0, 0, .null),
  (725, .iconst 0, 726, 0, 0, .int 2),
  (726, .iadd, 727, 0, 0, .null),
  (727, .iaload, 728, 0, 0, .null),
  (728, .invokevirtual 0, 731, 59, 497, .null),
  (731, .aload 2, 732, 0, 0, .null),
  (732, .aload 0, 733, 0, 0, .null),
  (733, .iload 3, 734, 0, 0, .null),
  (734, .iconst 0, 735, 0, 0, .int 1),
  (735, .iadd, 736, 0, 0, .null),
  (736, .iaload, 737, 0, 0, .null),
  (737, .aload 0, 738, 0, 0, .null),
  (738, .iload 3, 739, 0, 0, .null),
  (739, .iconst 0, 740, 0, 0, .int 2),
  (740, .iadd, 741, 0, 0, .null),
  (741, .iaload, 742, 0, 0, .null)]
def t_L_law_11 : List xRow := [(742, .invokevirtual 0, 745, 170, 1081, .null),
  (745, .if_icmp .eq 0, 748, 1423, 0, .null),
  (748, .iconst 0, 749, 0, 0, .int 0),
  (749, .ireturn, 750, 0, 0, .null),
  (750, .aload 1, 751, 0, 0, .null),
  (751, .aload 0, 752, 0, 0, .null),
  (752, .iload 3, 753, 0, 0, .null),
  (753, .iconst 0, 754, 0, 0, .int 1),
  (754, .iadd, 755, 0, 0, .null),
  (755, .iaload, 756, 0, 0, .null),
  (756, .invokevirtual 0, 759, 60, 503, .null),
  (759, .aload 2, 760, 0, 0, .null),
  (760, .aload 0, 761, 0, 0, .null),
  (761, .iload 3, 762, 0, 0, .null),
  (762, .iconst 0, 763, 0, 0, .int 1),
  (763, .iadd, 764, 0, 0, .null),
  (764, .iaload, 765, 0, 0, .null),
  (765, .invokevirtual 0, 768, 172, 1089, .null),
  (768, .if_icmp .eq 0, 771, 1423, 0, .null),
  (771, .iconst 0, 772, 0, 0, .int 0),
  (772, .ireturn, 773, 0, 0, .null),
  (773, .aload 1, 774, 0, 0, .null),
  (774, .aload 0, 775, 0, 0, .null),
  (775, .iload 3, 776, 0, 0, .null),
  (776, .iconst 0, 777, 0, 0, .int 1),
  (777, .iadd, 778, 0, 0, .null),
  (778, .iaload, 779, 0, 0, .null),
  (779, .invokevirtual 0, 782, 61, 507, .null),
  (782, .aload 2, 783, 0, 0, .null),
  (783, .aload 0, 784, 0, 0, .null),
  (784, .iload 3, 785, 0, 0, .null),
  (785, .iconst 0, 786, 0, 0, .int 1),
  (786, .iadd, 787, 0, 0, .null),
  (787, .iaload, 788, 0, 0, .null),
  (788, .invokevirtual 0, 791, 173, 1093, .null),
  (791, .if_icmp .eq 0, 794, 1423, 0, .null),
  (794, .iconst 0, 795, 0, 0, .int 0),
  (795, .ireturn, 796, 0, 0, .null),
  (796, .aload 1, 797, 0, 0, .null),
  (797, .aload 0, 798, 0, 0, .null)]
def t_L_law_12 : List xRow := [(798, .iload 3, 799, 0, 0, .null),
  (799, .iconst 0, 800, 0, 0, .int 1),
  (800, .iadd, 801, 0, 0, .null),
  (801, .iaload, 802, 0, 0, .null),
  (802, .invokevirtual 0, 805, 62, 511, .null),
  (805, .aload 2, 806, 0, 0, .null),
  (806, .aload 0, 807, 0, 0, .null),
  (807, .iload 3, 808, 0, 0, .null),
  (808, .iconst 0, 809, 0, 0, .int 1),
  (809, .iadd, 810, 0, 0, .null),
  (810, .iaload, 811, 0, 0, .null),
  (811, .invokevirtual 0, 814, 174, 1097, .null),
  (814, .if_icmp .eq 0, 817, 1423, 0, .null),
  (817, .iconst 0, 818, 0, 0, .int 0),
  (818, .ireturn, 819, 0, 0, .null),
  (819, .aload 1, 820, 0, 0, .null),
  (820, .aload 0, 821, 0, 0, .null),
  (821, .iload 3, 822, 0, 0, .null),
  (822, .iconst 0, 823, 0, 0, .int 1),
  (823, .iadd, 824, 0, 0, .null),
  (824, .iaload, 825, 0, 0, .null),
  (825, .aload 0, 826, 0, 0, .null),
  (826, .iload 3, 827, 0, 0, .null),
  (827, .iconst 0, 828, 0, 0, .int 2),
  (828, .iadd, 829, 0, 0, .null),
  (829, .iaload, 830, 0, 0, .null),
  (830, .invokevirtual 0, 833, 64, 519, .null),
  (833, .aload 2, 834, 0, 0, .null),
  (834, .aload 0, 835, 0, 0, .null),
  (835, .iload 3, 836, 0, 0, .null),
  (836, .iconst 0, 837, 0, 0, .int 1),
  (837, .iadd, 838, 0, 0, .null),
  (838, .iaload, 839, 0, 0, .null),
  (839, .aload 0, 840, 0, 0, .null),
  (840, .iload 3, 841, 0, 0, .null),
  (841, .iconst 0, 842, 0, 0, .int 2),
  (842, .iadd, 843, 0, 0, .null),
  (843, .iaload, 844, 0, 0, .null),
  (844, .invokevirtual 0, 847, 175, 1101, .null),
  (847, .if_icmp .eq 0, 850, 1423, 0, .null)]
def t_L_law_13 : List xRow := [(850, .iconst 0, 851, 0, 0, .int 0),
  (851, .ireturn, 852, 0, 0, .null),
  (852, .aload 1, 853, 0, 0, .null),
  (853, .invokevirtual 0, 856, 70, 546, .null),
  (856, .aload 2, 857, 0, 0, .null),
  (857, .invokevirtual 0, 860, 181, 1124, .null),
  (860, .if_icmp .eq 0, 863, 1423, 0, .null),
  (863, .iconst 0, 864, 0, 0, .int 0),
  (864, .ireturn, 865, 0, 0, .null),
  (865, .aload 1, 866, 0, 0, .null),
  (866, .aload 0, 867, 0, 0, .null),
  (867, .iload 3, 868, 0, 0, .null),
  (868, .iconst 0, 869, 0, 0, .int 1),
  (869, .iadd, 870, 0, 0, .null),
  (870, .iaload, 871, 0, 0, .null),
  (871, .invokevirtual 0, 874, 74, 563, .null),
  (874, .aload 2, 875, 0, 0, .null),
  (875, .aload 0, 876, 0, 0, .null),
  (876, .iload 3, 877, 0, 0, .null),
  (877, .iconst 0, 878, 0, 0, .int 1),
  (878, .iadd, 879, 0, 0, .null),
  (879, .iaload, 880, 0, 0, .null),
  (880, .invokevirtual 0, 883, 184, 1136, .null),
  (883, .if_icmp .eq 0, 886, 1423, 0, .null),
  (886, .iconst 0, 887, 0, 0, .int 0),
  (887, .ireturn, 888, 0, 0, .null),
  (888, .aload 1, 889, 0, 0, .null),
  (889, .aload 0, 890, 0, 0, .null),
  (890, .iload 3, 891, 0, 0, .null),
  (891, .iconst 0, 892, 0, 0, .int 1),
  (892, .iadd, 893, 0, 0, .null),
  (893, .iaload, 894, 0, 0, .null),
  (894, .aload 0, 895, 0, 0, .null),
  (895, .iload 3, 896, 0, 0, .null),
  (896, .iconst 0, 897, 0, 0, .int 2),
  (897, .iadd, 898, 0, 0, .null),
  (898, .iaload, 899, 0, 0, .null),
  (899, .invokevirtual 0, 902, 77, 575, .null),
  (902, .aload 2, 903, 0, 0, .null),
  (903, .aload 0, 904, 0, 0, .null)]
def t_L_law_14 : List xRow := [(904, .iload 3, 905, 0, 0, .null),
  (905, .iconst 0, 906, 0, 0, .int 1),
  (906, .iadd, 907, 0, 0, .null),
  (907, .iaload, 908, 0, 0, .null),
  (908, .aload 0, 909, 0, 0, .null),
  (909, .iload 3, 910, 0, 0, .null),
  (910, .iconst 0, 911, 0, 0, .int 2),
  (911, .iadd, 912, 0, 0, .null),
  (912, .iaload, 913, 0, 0, .null),
  (913, .invokevirtual 0, 916, 186, 1145, .null),
  (916, .if_icmp .eq 0, 919, 1423, 0, .null),
  (919, .iconst 0, 920, 0, 0, .int 0),
  (920, .ireturn, 921, 0, 0, .null),
  (921, .aload 1, 922, 0, 0, .null),
  (922, .aload 0, 923, 0, 0, .null),
  (923, .iload 3, 924, 0, 0, .null),
  (924, .iconst 0, 925, 0, 0, .int 1),
  (925, .iadd, 926, 0, 0, .null),
  (926, .iaload, 927, 0, 0, .null),
  (927, .aload 0, 928, 0, 0, .null),
  (928, .iload 3, 929, 0, 0, .null),
  (929, .iconst 0, 930, 0, 0, .int 2),
  (930, .iadd, 931, 0, 0, .null),
  (931, .iaload, 932, 0, 0, .null),
  (932, .invokevirtual 0, 935, 78, 579, .null),
  (935, .aload 2, 936, 0, 0, .null),
  (936, .aload 0, 937, 0, 0, .null),
  (937, .iload 3, 938, 0, 0, .null),
  (938, .iconst 0, 939, 0, 0, .int 1),
  (939, .iadd, 940, 0, 0, .null),
  (940, .iaload, 941, 0, 0, .null),
  (941, .aload 0, 942, 0, 0, .null),
  (942, .iload 3, 943, 0, 0, .null),
  (943, .iconst 0, 944, 0, 0, .int 2),
  (944, .iadd, 945, 0, 0, .null),
  (945, .iaload, 946, 0, 0, .null),
  (946, .invokevirtual 0, 949, 187, 1149, .null),
  (949, .if_icmp .eq 0, 952, 1423, 0, .null),
  (952, .iconst 0, 953, 0, 0, .int 0),
  (953, .ireturn, 954, 0, 0, .null)]
def t_L_law_15 : List xRow := [(954, .aload 1, 955, 0, 0, .null),
  (955, .aload 0, 956, 0, 0, .null),
  (956, .iload 3, 957, 0, 0, .null),
  (957, .iconst 0, 958, 0, 0, .int 1),
  (958, .iadd, 959, 0, 0, .null),
  (959, .iaload, 960, 0, 0, .null),
  (960, .aload 0, 961, 0, 0, .null),
  (961, .iload 3, 962, 0, 0, .null),
  (962, .iconst 0, 963, 0, 0, .int 2),
  (963, .iadd, 964, 0, 0, .null),
  (964, .iaload, 965, 0, 0, .null),
  (965, .invokevirtual 0, 968, 83, 599, .null),
  (968, .aload 2, 969, 0, 0, .null),
  (969, .aload 0, 970, 0, 0, .null),
  (970, .iload 3, 971, 0, 0, .null),
  (971, .iconst 0, 972, 0, 0, .int 1),
  (972, .iadd, 973, 0, 0, .null),
  (973, .iaload, 974, 0, 0, .null),
  (974, .aload 0, 975, 0, 0, .null),
  (975, .iload 3, 976, 0, 0, .null),
  (976, .iconst 0, 977, 0, 0, .int 2),
  (977, .iadd, 978, 0, 0, .null),
  (978, .iaload, 979, 0, 0, .null),
  (979, .invokevirtual 0, 982, 190, 1161, .null),
  (982, .if_icmp .eq 0, 985, 1423, 0, .null),
  (985, .iconst 0, 986, 0, 0, .int 0),
  (986, .ireturn, 987, 0, 0, .null),
  (987, .aload 1, 988, 0, 0, .null),
  (988, .aload 0, 989, 0, 0, .null),
  (989, .iload 3, 990, 0, 0, .null),
  (990, .iconst 0, 991, 0, 0, .int 1),
  (991, .iadd, 992, 0, 0, .null),
  (992, .iaload, 993, 0, 0, .null),
  (993, .invokevirtual 0, 996, 86, 611, .null),
  (996, .aload 2, 997, 0, 0, .null),
  (997, .aload 0, 998, 0, 0, .null),
  (998, .iload 3, 999, 0, 0, .null),
  (999, .iconst 0, 1000, 0, 0, .int 1),
  (1000, .iadd, 1001, 0, 0, .null),
  (1001, .iaload, 1002, 0, 0, .null)]
def t_L_law_16 : List xRow := [(1002, .invokevirtual 0, 1005, 192, 1169, .null),
  (1005, .if_icmp .eq 0, 1008, 1423, 0, .null),
  (1008, .iconst 0, 1009, 0, 0, .int 0),
  (1009, .ireturn, 1010, 0, 0, .null),
  (1010, .aload 1, 1011, 0, 0, .null),
  (1011, .aload 0, 1012, 0, 0, .null),
  (1012, .iload 3, 1013, 0, 0, .null),
  (1013, .iconst 0, 1014, 0, 0, .int 1),
  (1014, .iadd, 1015, 0, 0, .null),
  (1015, .iaload, 1016, 0, 0, .null),
  (1016, .invokevirtual 0, 1019, 88, 619, .null),
  (1019, .aload 2, 1020, 0, 0, .null),
  (1020, .aload 0, 1021, 0, 0, .null),
  (1021, .iload 3, 1022, 0, 0, .null),
  (1022, .iconst 0, 1023, 0, 0, .int 1),
  (1023, .iadd, 1024, 0, 0, .null),
  (1024, .iaload, 1025, 0, 0, .null),
  (1025, .invokevirtual 0, 1028, 194, 1177, .null),
  (1028, .if_icmp .eq 0, 1031, 1423, 0, .null),
  (1031, .iconst 0, 1032, 0, 0, .int 0),
  (1032, .ireturn, 1033, 0, 0, .null),
  (1033, .aload 1, 1034, 0, 0, .null),
  (1034, .aload 0, 1035, 0, 0, .null),
  (1035, .iload 3, 1036, 0, 0, .null),
  (1036, .iconst 0, 1037, 0, 0, .int 1),
  (1037, .iadd, 1038, 0, 0, .null),
  (1038, .iaload, 1039, 0, 0, .null),
  (1039, .aload 0, 1040, 0, 0, .null),
  (1040, .iload 3, 1041, 0, 0, .null),
  (1041, .iconst 0, 1042, 0, 0, .int 2),
  (1042, .iadd, 1043, 0, 0, .null),
  (1043, .iaload, 1044, 0, 0, .null),
  (1044, .invokevirtual 0, 1047, 91, 631, .null),
  (1047, .aload 2, 1048, 0, 0, .null),
  (1048, .aload 0, 1049, 0, 0, .null),
  (1049, .iload 3, 1050, 0, 0, .null),
  (1050, .iconst 0, 1051, 0, 0, .int 1),
  (1051, .iadd, 1052, 0, 0, .null),
  (1052, .iaload, 1053, 0, 0, .null),
  (1053, .aload 0, 1054, 0, 0, .null)]
def t_L_law_17 : List xRow := [(1054, .iload 3, 1055, 0, 0, .null),
  (1055, .iconst 0, 1056, 0, 0, .int 2),
  (1056, .iadd, 1057, 0, 0, .null),
  (1057, .iaload, 1058, 0, 0, .null),
  (1058, .invokevirtual 0, 1061, 196, 1185, .null),
  (1061, .if_icmp .eq 0, 1064, 1423, 0, .null),
  (1064, .iconst 0, 1065, 0, 0, .int 0),
  (1065, .ireturn, 1066, 0, 0, .null),
  (1066, .aload 1, 1067, 0, 0, .null),
  (1067, .aload 0, 1068, 0, 0, .null),
  (1068, .iload 3, 1069, 0, 0, .null),
  (1069, .iconst 0, 1070, 0, 0, .int 1),
  (1070, .iadd, 1071, 0, 0, .null),
  (1071, .iaload, 1072, 0, 0, .null),
  (1072, .invokevirtual 0, 1075, 92, 635, .null),
  (1075, .aload 2, 1076, 0, 0, .null),
  (1076, .aload 0, 1077, 0, 0, .null),
  (1077, .iload 3, 1078, 0, 0, .null),
  (1078, .iconst 0, 1079, 0, 0, .int 1),
  (1079, .iadd, 1080, 0, 0, .null),
  (1080, .iaload, 1081, 0, 0, .null),
  (1081, .invokevirtual 0, 1084, 198, 1193, .null),
  (1084, .if_icmp .eq 0, 1087, 1423, 0, .null),
  (1087, .iconst 0, 1088, 0, 0, .int 0),
  (1088, .ireturn, 1089, 0, 0, .null),
  (1089, .aload 1, 1090, 0, 0, .null),
  (1090, .aload 0, 1091, 0, 0, .null),
  (1091, .iload 3, 1092, 0, 0, .null),
  (1092, .iconst 0, 1093, 0, 0, .int 1),
  (1093, .iadd, 1094, 0, 0, .null),
  (1094, .iaload, 1095, 0, 0, .null),
  (1095, .invokevirtual 0, 1098, 93, 639, .null),
  (1098, .aload 2, 1099, 0, 0, .null),
  (1099, .aload 0, 1100, 0, 0, .null),
  (1100, .iload 3, 1101, 0, 0, .null),
  (1101, .iconst 0, 1102, 0, 0, .int 1),
  (1102, .iadd, 1103, 0, 0, .null),
  (1103, .iaload, 1104, 0, 0, .null),
  (1104, .invokevirtual 0, 1107, 200, 1201, .null),
  (1107, .if_icmp .eq 0, 1110, 1423, 0, .null)]
def t_L_law_18 : List xRow := [(1110, .iconst 0, 1111, 0, 0, .int 0),
  (1111, .ireturn, 1112, 0, 0, .null),
  (1112, .aload 1, 1113, 0, 0, .null),
  (1113, .invokevirtual 0, 1116, 97, 655, .null),
  (1116, .aload 2, 1117, 0, 0, .null),
  (1117, .invokevirtual 0, 1120, 203, 1213, .null),
  (1120, .if_icmp .eq 0, 1123, 1423, 0, .null),
  (1123, .iconst 0, 1124, 0, 0, .int 0),
  (1124, .ireturn, 1125, 0, 0, .null),
  (1125, .aload 1, 1126, 0, 0, .null),
  (1126, .invokevirtual 0, 1129, 102, 684, .null),
  (1129, .aload 2, 1130, 0, 0, .null),
  (1130, .invokevirtual 0, 1133, 205, 1221, .null),
  (1133, .if_icmp .eq 0, 1136, 1423, 0, .null),
  (1136, .iconst 0, 1137, 0, 0, .int 0),
  (1137, .ireturn, 1138, 0, 0, .null),
  (1138, .aload 1, 1139, 0, 0, .null),
  (1139, .invokevirtual 0, 1142, 103, 688, .null),
  (1142, .aload 2, 1143, 0, 0, .null),
  (1143, .invokevirtual 0, 1146, 206, 1225, .null),
  (1146, .if_icmp .eq 0, 1149, 1423, 0, .null),
  (1149, .iconst 0, 1150, 0, 0, .int 0),
  (1150, .ireturn, 1151, 0, 0, .null),
  (1151, .aload 1, 1152, 0, 0, .null),
  (1152, .aload 0, 1153, 0, 0, .null),
  (1153, .iload 3, 1154, 0, 0, .null),
  (1154, .iconst 0, 1155, 0, 0, .int 1),
  (1155, .iadd, 1156, 0, 0, .null),
  (1156, .iaload, 1157, 0, 0, .null),
  (1157, .aload 0, 1158, 0, 0, .null),
  (1158, .iload 3, 1159, 0, 0, .null),
  (1159, .iconst 0, 1160, 0, 0, .int 2),
  (1160, .iadd, 1161, 0, 0, .null),
  (1161, .iaload, 1162, 0, 0, .null),
  (1162, .invokevirtual 0, 1165, 104, 695, .null),
  (1165, .aload 2, 1166, 0, 0, .null),
  (1166, .aload 0, 1167, 0, 0, .null),
  (1167, .iload 3, 1168, 0, 0, .null),
  (1168, .iconst 0, 1169, 0, 0, .int 1),
  (1169, .iadd, 1170, 0, 0, .null)]
def t_L_law_19 : List xRow := [(1170, .iaload, 1171, 0, 0, .null),
  (1171, .aload 0, 1172, 0, 0, .null),
  (1172, .iload 3, 1173, 0, 0, .null),
  (1173, .iconst 0, 1174, 0, 0, .int 2),
  (1174, .iadd, 1175, 0, 0, .null),
  (1175, .iaload, 1176, 0, 0, .null),
  (1176, .invokevirtual 0, 1179, 207, 1229, .null),
  (1179, .if_icmp .eq 0, 1182, 1423, 0, .null),
  (1182, .iconst 0, 1183, 0, 0, .int 0),
  (1183, .ireturn, 1184, 0, 0, .null),
  (1184, .aload 1, 1185, 0, 0, .null),
  (1185, .invokevirtual 0, 1188, 106, 705, .null),
  (1188, .aload 2, 1189, 0, 0, .null),
  (1189, .invokevirtual 0, 1192, 208, 1233, .null),
  (1192, .if_icmp .eq 0, 1195, 1423, 0, .null),
  (1195, .iconst 0, 1196, 0, 0, .int 0),
  (1196, .ireturn, 1197, 0, 0, .null),
  (1197, .aload 1, 1198, 0, 0, .null),
  (1198, .aload 0, 1199, 0, 0, .null),
  (1199, .iload 3, 1200, 0, 0, .null),
  (1200, .iconst 0, 1201, 0, 0, .int 1),
  (1201, .iadd, 1202, 0, 0, .null),
  (1202, .iaload, 1203, 0, 0, .null),
  (1203, .invokevirtual 0, 1206, 111, 732, .null),
  (1206, .aload 2, 1207, 0, 0, .null),
  (1207, .aload 0, 1208, 0, 0, .null),
  (1208, .iload 3, 1209, 0, 0, .null),
  (1209, .iconst 0, 1210, 0, 0, .int 1),
  (1210, .iadd, 1211, 0, 0, .null),
  (1211, .iaload, 1212, 0, 0, .null),
  (1212, .invokevirtual 0, 1215, 210, 1241, .null),
  (1215, .if_icmp .eq 0, 1218, 1423, 0, .null),
  (1218, .iconst 0, 1219, 0, 0, .int 0),
  (1219, .ireturn, 1220, 0, 0, .null),
  (1220, .aload 1, 1221, 0, 0, .null),
  (1221, .aload 0, 1222, 0, 0, .null),
  (1222, .iload 3, 1223, 0, 0, .null),
  (1223, .iconst 0, 1224, 0, 0, .int 1),
  (1224, .iadd, 1225, 0, 0, .null),
  (1225, .iaload, 1226, 0, 0, .null)]
def t_L_law_20 : List xRow := [(1226, .invokevirtual 0, 1229, 116, 752, .null),
  (1229, .aload 2, 1230, 0, 0, .null),
  (1230, .aload 0, 1231, 0, 0, .null),
  (1231, .iload 3, 1232, 0, 0, .null),
  (1232, .iconst 0, 1233, 0, 0, .int 1),
  (1233, .iadd, 1234, 0, 0, .null),
  (1234, .iaload, 1235, 0, 0, .null),
  (1235, .invokevirtual 0, 1238, 213, 1253, .null),
  (1238, .if_icmp .eq 0, 1241, 1423, 0, .null),
  (1241, .iconst 0, 1242, 0, 0, .int 0),
  (1242, .ireturn, 1243, 0, 0, .null),
  (1243, .aload 1, 1244, 0, 0, .null),
  (1244, .aload 0, 1245, 0, 0, .null),
  (1245, .iload 3, 1246, 0, 0, .null),
  (1246, .iconst 0, 1247, 0, 0, .int 1),
  (1247, .iadd, 1248, 0, 0, .null),
  (1248, .iaload, 1249, 0, 0, .null),
  (1249, .invokevirtual 0, 1252, 117, 756, .null),
  (1252, .aload 2, 1253, 0, 0, .null),
  (1253, .aload 0, 1254, 0, 0, .null),
  (1254, .iload 3, 1255, 0, 0, .null),
  (1255, .iconst 0, 1256, 0, 0, .int 1),
  (1256, .iadd, 1257, 0, 0, .null),
  (1257, .iaload, 1258, 0, 0, .null),
  (1258, .invokevirtual 0, 1261, 214, 1257, .null),
  (1261, .if_icmp .eq 0, 1264, 1423, 0, .null),
  (1264, .iconst 0, 1265, 0, 0, .int 0),
  (1265, .ireturn, 1266, 0, 0, .null),
  (1266, .aload 1, 1267, 0, 0, .null),
  (1267, .aload 0, 1268, 0, 0, .null),
  (1268, .iload 3, 1269, 0, 0, .null),
  (1269, .iconst 0, 1270, 0, 0, .int 1),
  (1270, .iadd, 1271, 0, 0, .null),
  (1271, .iaload, 1272, 0, 0, .null),
  (1272, .aload 0, 1273, 0, 0, .null),
  (1273, .iload 3, 1274, 0, 0, .null),
  (1274, .iconst 0, 1275, 0, 0, .int 2),
  (1275, .iadd, 1276, 0, 0, .null),
  (1276, .iaload, 1277, 0, 0, .null),
  (1277, .aload 0, 1278, 0, 0, .null)]
def t_L_law_21 : List xRow := [(1278, .iload 3, 1279, 0, 0, .null),
  (1279, .iconst 0, 1280, 0, 0, .int 3),
  (1280, .iadd, 1281, 0, 0, .null),
  (1281, .iaload, 1282, 0, 0, .null),
  (1282, .invokevirtual 0, 1285, 118, 760, .null),
  (1285, .aload 2, 1286, 0, 0, .null),
  (1286, .aload 0, 1287, 0, 0, .null),
  (1287, .iload 3, 1288, 0, 0, .null),
  (1288, .iconst 0, 1289, 0, 0, .int 1),
  (1289, .iadd, 1290, 0, 0, .null),
  (1290, .iaload, 1291, 0, 0, .null),
  (1291, .aload 0, 1292, 0, 0, .null),
  (1292, .iload 3, 1293, 0, 0, .null),
  (1293, .iconst 0, 1294, 0, 0, .int 2),
  (1294, .iadd, 1295, 0, 0, .null),
  (1295, .iaload, 1296, 0, 0, .null),
  (1296, .aload 0, 1297, 0, 0, .null),
  (1297, .iload 3, 1298, 0, 0, .null),
  (1298, .iconst 0, 1299, 0, 0, .int 3),
  (1299, .iadd, 1300, 0, 0, .null),
  (1300, .iaload, 1301, 0, 0, .null),
  (1301, .invokevirtual 0, 1304, 215, 1261, .null),
  (1304, .if_icmp .eq 0, 1307, 1423, 0, .null),
  (1307, .iconst 0, 1308, 0, 0, .int 0),
  (1308, .ireturn, 1309, 0, 0, .null),
  (1309, .aload 1, 1310, 0, 0, .null),
  (1310, .invokevirtual 0, 1313, 120, 771, .null),
  (1313, .aload 2, 1314, 0, 0, .null),
  (1314, .invokevirtual 0, 1317, 216, 1269, .null),
  (1317, .if_icmp .eq 0, 1320, 1423, 0, .null),
  (1320, .iconst 0, 1321, 0, 0, .int 0),
  (1321, .ireturn, 1322, 0, 0, .null),
  (1322, .aload 1, 1323, 0, 0, .null),
  (1323, .invokevirtual 0, 1326, 121, 775, .null),
  (1326, .aload 2, 1327, 0, 0, .null),
  (1327, .invokevirtual 0, 1330, 217, 1273, .null),
  (1330, .lcmp, 1331, 0, 0, .null),
  (1331, .ifCond .eq 0, 1334, 1423, 0, .null),
  (1334, .iconst 0, 1335, 0, 0, .int 0),
  (1335, .ireturn, 1336, 0, 0, .null)]
def t_L_law_22 : List xRow := [(1336, .aload 1, 1337, 0, 0, .null),
  (1337, .invokevirtual 0, 1340, 122, 779, .null),
  (1340, .aload 2, 1341, 0, 0, .null),
  (1341, .invokevirtual 0, 1344, 218, 1277, .null),
  (1344, .lcmp, 1345, 0, 0, .null),
  (1345, .ifCond .eq 0, 1348, 1423, 0, .null),
  (1348, .iconst 0, 1349, 0, 0, .int 0),
  (1349, .ireturn, 1350, 0, 0, .null),
  (1350, .aload 1, 1351, 0, 0, .null),
  (1351, .aload 0, 1352, 0, 0, .null),
  (1352, .iload 3, 1353, 0, 0, .null),
  (1353, .iconst 0, 1354, 0, 0, .int 1),
  (1354, .iadd, 1355, 0, 0, .null),
  (1355, .iaload, 1356, 0, 0, .null),
  (1356, .invokevirtual 0, 1359, 123, 783, .null),
  (1359, .aload 2, 1360, 0, 0, .null),
  (1360, .aload 0, 1361, 0, 0, .null),
  (1361, .iload 3, 1362, 0, 0, .null),
  (1362, .iconst 0, 1363, 0, 0, .int 1),
  (1363, .iadd, 1364, 0, 0, .null),
  (1364, .iaload, 1365, 0, 0, .null),
  (1365, .invokevirtual 0, 1368, 219, 1281, .null),
  (1368, .if_icmp .eq 0, 1371, 1423, 0, .null),
  (1371, .iconst 0, 1372, 0, 0, .int 0),
  (1372, .ireturn, 1373, 0, 0, .null),
  (1373, .aload 1, 1374, 0, 0, .null),
  (1374, .invokevirtual 0, 1377, 128, 804, .null),
  (1377, .aload 2, 1378, 0, 0, .null),
  (1378, .invokevirtual 0, 1381, 221, 1289, .null),
  (1381, .if_icmp .eq 0, 1384, 1423, 0, .null),
  (1384, .iconst 0, 1385, 0, 0, .int 0),
  (1385, .ireturn, 1386, 0, 0, .null),
  (1386, .aload 1, 1387, 0, 0, .null),
  (1387, .aload 0, 1388, 0, 0, .null),
  (1388, .iload 3, 1389, 0, 0, .null),
  (1389, .iconst 0, 1390, 0, 0, .int 1),
  (1390, .iadd, 1391, 0, 0, .null),
  (1391, .iaload, 1392, 0, 0, .null),
  (1392, .invokevirtual 0, 1395, 129, 808, .null),
  (1395, .aload 2, 1396, 0, 0, .null)]
def t_L_law_23 : List xRow := [(1396, .aload 0, 1397, 0, 0, .null),
  (1397, .iload 3, 1398, 0, 0, .null),
  (1398, .iconst 0, 1399, 0, 0, .int 1),
  (1399, .iadd, 1400, 0, 0, .null),
  (1400, .iaload, 1401, 0, 0, .null),
  (1401, .invokevirtual 0, 1404, 222, 1293, .null),
  (1404, .if_icmp .eq 0, 1407, 1423, 0, .null),
  (1407, .iconst 0, 1408, 0, 0, .int 0),
  (1408, .ireturn, 1409, 0, 0, .null),
  (1409, .aload 1, 1410, 0, 0, .null),
  (1410, .invokevirtual 0, 1413, 130, 812, .null),
  (1413, .aload 2, 1414, 0, 0, .null),
  (1414, .invokevirtual 0, 1417, 223, 1297, .null),
  (1417, .lcmp, 1418, 0, 0, .null),
  (1418, .ifCond .eq 0, 1421, 1423, 0, .null),
  (1421, .iconst 0, 1422, 0, 0, .int 0),
  (1422, .ireturn, 1423, 0, 0, .null),
  (1423, .iinc 3 0, 1426, 0, 0, .int 6),
  (1426, .goto 0, 1429, 18, 0, .null),
  (1429, .iconst 0, 1430, 0, 0, .int 1),
  (1430, .ireturn, 1431, 0, 0, .null)]
def t_L_law : List xRow := t_L_law_0 ++ (t_L_law_1 ++ (t_L_law_2 ++ (t_L_law_3 ++ (t_L_law_4 ++ (t_L_law_5 ++ (t_L_law_6 ++ (t_L_law_7 ++ (t_L_law_8 ++ (t_L_law_9 ++ (t_L_law_10 ++ (t_L_law_11 ++ (t_L_law_12 ++ (t_L_law_13 ++ (t_L_law_14 ++ (t_L_law_15 ++ (t_L_law_16 ++ (t_L_law_17 ++ (t_L_law_18 ++ (t_L_law_19 ++ (t_L_law_20 ++ (t_L_law_21 ++ (t_L_law_22 ++ (t_L_law_23)))))))))))))))))))))))
def m_L_law (b L : Nat) (xs : Nat → Int32) : xM := (226, 8, 4, b, 2, (9, 322, 600000, 7302250), t_L_law, L, xs)
def x_tab : List xM := [m_S_init, m_H_init, m_J_fill, m_P_init, m_R_init, m_G_init, m_D_init, m_F_init, m_S_row, m_H_isNumber, m_S_refuse, m_H_make, m_S_lay, m_S_tellPlace, m_H_isThere, m_H_hasPlace, m_S_at, m_S_tear, m_S_copy, m_H_hasPlaces, m_S_mean, m_H_sum, m_S_text, m_S_put, m_S_fault, m_R_read, m_P_clear, m_R_readItem, m_R_signAt, m_R_kindOf, m_R_readTrack, m_R_figureOf, m_P_addTrack, m_P_isTrack, m_R_readCrossing, m_P_areTwo, m_P_addCrossing, m_S_pass, m_P_takeFrom, m_S_track, m_P_ofTrack, m_P_timesIn, m_S_crossing, m_P_tells, m_P_tellsAsOver, m_P_tellsAsBeneath, m_P_pairOf, m_S_mark, m_P_isOfKind, m_P_isSuch, m_P_silentAt, m_P_tracksCrossed, m_P_opposite, m_J_bitCount, m_P_haresUnder, m_S_has, m_P_ofKind, m_S_wind, m_S_fill, m_S_cross, m_S_snow, m_S_keep, m_S_on, m_S_isKept, m_S_ahead, m_G_takeAll, m_G_clear, m_G_addCrossings, m_G_addWind, m_P_windTells, m_S_orders, m_G_countOnward, m_G_canFollow, m_S_tellFraction, m_S_first, m_S_layOrder, m_G_findOrder, m_S_nth, m_S_sure, m_S_closesToRing, m_G_close, m_G_layersOf, m_G_foremostOf, m_S_odds, m_G_countCome, m_G_ordersWith, m_S_place, m_G_surelyAheadOf, m_S_judge, m_S_findingOfOrder, m_H_indexOf, m_S_meet, m_S_chain, m_S_ring, m_G_findRing, m_G_stepBack, m_G_followRing, m_S_wrong, m_D_clear, m_D_addPair, m_D_leastWeight, m_D_weightAgainst, m_S_twice, m_S_look, m_S_hide, m_P_tellingOutOf, m_S_people, m_F_take, m_F_topOf, m_F_mostWith, m_F_fewest, m_S_story, m_S_findingOfClaims, m_S_aheadByClaim, m_S_behindByClaim, m_G_addSure, m_S_hold, m_S_believe, m_S_walks, m_S_walk, m_S_asked, m_S_upper, m_S_lower, m_S_count, m_S_howMany, m_P_telling, m_S_keptPasses, m_H_there, m_S_finding, m_S_findings, m_S_digest, m_H_addTo, m_M_init, m_M_row, m_M_isRow, m_M_in, m_M_finds, m_M_lay, m_M_rowBar, m_M_tells, m_M_at, m_M_tear, m_M_copy, m_M_mean, m_M_text, m_M_isText, m_M_put, m_M_textBar, m_M_fault, m_M_readAll, m_M_byteAt, m_M_isFigure, m_M_readCrossing, m_M_readTrack, m_M_kindBy, m_M_pass, m_M_track, m_M_isTrack, m_M_trackOf, m_M_crossing, m_M_isTelling, m_M_letsOver, m_M_isA, m_M_letsUnder, m_M_mark, m_M_beside, m_M_bits, m_M_allOf, m_M_wind, m_M_fill, m_M_cross, m_M_arePair, m_M_snow, m_M_keep, m_M_on, m_M_ahead, m_M_findNow, m_M_findAhead, m_M_has, m_M_isByWind, m_M_findSurely, m_M_orders, m_M_countOrders, m_M_parts, m_M_first, m_M_putOrder, m_M_nth, m_M_sure, m_M_isRingNow, m_M_isRing, m_M_odds, m_M_countWith, m_M_place, m_M_behind, m_M_judge, m_M_orderBar, m_M_meet, m_M_isBetween, m_M_chain, m_M_findChains, m_M_ring, m_M_ringBy, m_M_findFar, m_M_wrong, m_M_tellingBits, m_M_twice, m_M_look, m_M_hide, m_M_people, m_M_areOnes, m_M_story, m_M_claimBar, m_M_claims, m_M_hold, m_M_believe, m_M_walks, m_M_asked, m_M_upper, m_M_lower, m_M_count, m_M_counted, m_M_finding, m_M_findings, m_M_digest, m_M_mixPass, m_M_mix]
def x_swt : List (List (Int32 × Nat)) := [[(99, 68), (101, 64), (102, 60), (104, 62), (118, 70), (119, 66)],
  [(0, 32), (1, 39), (2, 46), (3, 69)],
  [(1, 36), (2, 64), (3, 36), (4, 38), (5, 54)],
  [(2, 34), (3, 32), (4, 45), (5, 34)],
  [(1, 72), (2, 88), (3, 104), (4, 116)],
  [(0, 28), (1, 30), (2, 46)],
  [(0, 44), (1, 52), (2, 60), (3, 68), (4, 77), (5, 86), (6, 91)],
  [(99, 68), (101, 64), (102, 60), (104, 62), (118, 70), (119, 66)],
  [(0, 44), (1, 68), (2, 44), (3, 68), (4, 46), (5, 53)],
  [(3, 136), (4, 147), (5, 164)],
  [(0, 232), (1, 265), (2, 308), (3, 341), (4, 364), (5, 427), (6, 450), (7, 483), (8, 526), (9, 549), (10, 572), (11, 605), (12, 628), (13, 661), (14, 684), (15, 717), (16, 750), (17, 773), (18, 796), (19, 819), (20, 852), (21, 865), (22, 888), (23, 921), (24, 954), (25, 987), (26, 1010), (27, 1033), (28, 1066), (29, 1089), (30, 1112), (31, 1125), (32, 1138), (33, 1151), (34, 1184), (35, 1197), (36, 1220), (37, 1243), (38, 1266), (39, 1309), (40, 1322), (41, 1336), (42, 1350), (43, 1373), (44, 1386), (45, 1409)]]
end
section
def x_cnl : List String := ["SnowTracks$Dropping", "SnowTracks$Graph", "SnowTracks$Pass", "SnowTracks$People", "SnowTracks$Reader", "SnowTracks$Shelf", "SnowTracks", "SnowTracksModel", "SnowTracksLaw", "java/util/Arrays", "java/lang/Integer", "java/lang/Math"]
def x_cn (k : Nat) : String := (x_nth x_cnl k).getD ""
def x_yl : List MethodName := [⟨"SnowTracks", "<init>", "()V"⟩, ⟨"SnowTracks$Shelf", "<init>", "(III)V"⟩, ⟨"java/util/Arrays", "fill", "([II)V"⟩, ⟨"SnowTracks$Pass", "<init>", "()V"⟩, ⟨"SnowTracks$Reader", "<init>", "()V"⟩, ⟨"SnowTracks$Graph", "<init>", "()V"⟩, ⟨"SnowTracks$Dropping", "<init>", "()V"⟩, ⟨"SnowTracks$People", "<init>", "()V"⟩, ⟨"SnowTracks", "row", "(II)I"⟩, ⟨"SnowTracks$Shelf", "isNumber", "(I)Z"⟩, ⟨"SnowTracks", "refuse", "(I)I"⟩, ⟨"SnowTracks$Shelf", "make", "(II)V"⟩, ⟨"SnowTracks", "lay", "(III)I"⟩, ⟨"SnowTracks", "tellPlace", "(II)I"⟩, ⟨"SnowTracks$Shelf", "isThere", "(I)Z"⟩, ⟨"SnowTracks$Shelf", "hasPlace", "(II)Z"⟩, ⟨"SnowTracks", "at", "(II)I"⟩, ⟨"SnowTracks", "tear", "(I)I"⟩, ⟨"SnowTracks", "copy", "(IIIII)I"⟩, ⟨"SnowTracks$Shelf", "hasPlaces", "(III)Z"⟩, ⟨"SnowTracks", "mean", "(I)I"⟩, ⟨"SnowTracks$Shelf", "sum", "(I)J"⟩, ⟨"SnowTracks", "text", "(II)I"⟩, ⟨"SnowTracks", "put", "(III)I"⟩, ⟨"SnowTracks", "fault", "(I)I"⟩, ⟨"SnowTracks$Reader", "read", "([II)I"⟩, ⟨"SnowTracks$Pass", "clear", "()V"⟩, ⟨"SnowTracks$Reader", "readItem", "([III)I"⟩, ⟨"SnowTracks$Reader", "signAt", "([III)I"⟩, ⟨"SnowTracks$Reader", "kindOf", "(I)I"⟩, ⟨"SnowTracks$Reader", "readTrack", "(I[III)I"⟩, ⟨"SnowTracks$Reader", "figureOf", "(I)I"⟩, ⟨"SnowTracks$Pass", "addTrack", "(III)V"⟩, ⟨"SnowTracks$Pass", "isTrack", "(I)Z"⟩, ⟨"SnowTracks$Reader", "readCrossing", "(I[III)I"⟩, ⟨"SnowTracks$Pass", "areTwo", "(II)Z"⟩, ⟨"SnowTracks$Pass", "addCrossing", "(II)V"⟩, ⟨"SnowTracks", "pass", "(I)I"⟩, ⟨"SnowTracks$Pass", "takeFrom", "(LSnowTracks$Pass;)V"⟩, ⟨"SnowTracks", "track", "(II)I"⟩, ⟨"SnowTracks$Pass", "ofTrack", "(II)I"⟩, ⟨"SnowTracks$Pass", "timesIn", "([II)I"⟩, ⟨"SnowTracks", "crossing", "(I)I"⟩, ⟨"SnowTracks$Pass", "tells", "(I)Z"⟩, ⟨"SnowTracks$Pass", "tellsAsOver", "(II)Z"⟩, ⟨"SnowTracks$Pass", "tellsAsBeneath", "(II)Z"⟩, ⟨"SnowTracks$Pass", "pairOf", "(I)I"⟩, ⟨"SnowTracks", "mark", "(II)I"⟩, ⟨"SnowTracks$Pass", "isOfKind", "(II)Z"⟩, ⟨"SnowTracks$Pass", "isSuch", "(II)Z"⟩, ⟨"SnowTracks$Pass", "silentAt", "([II)I"⟩, ⟨"SnowTracks$Pass", "tracksCrossed", "(I)I"⟩, ⟨"SnowTracks$Pass", "opposite", "([I[II)I"⟩, ⟨"java/lang/Integer", "bitCount", "(I)I"⟩, ⟨"SnowTracks$Pass", "haresUnder", "(I)I"⟩, ⟨"SnowTracks", "has", "(II)Z"⟩, ⟨"SnowTracks$Pass", "ofKind", "(I)I"⟩, ⟨"SnowTracks", "wind", "(I)I"⟩, ⟨"SnowTracks", "fill", "(II)I"⟩, ⟨"SnowTracks", "cross", "(II)I"⟩, ⟨"SnowTracks", "snow", "(I)I"⟩, ⟨"SnowTracks", "keep", "(I)I"⟩, ⟨"SnowTracks", "on", "(I)I"⟩, ⟨"SnowTracks", "isKept", "(I)Z"⟩, ⟨"SnowTracks", "ahead", "(II)I"⟩, ⟨"SnowTracks$Graph", "takeAll", "(LSnowTracks$Pass;)V"⟩, ⟨"SnowTracks$Graph", "clear", "(I)V"⟩, ⟨"SnowTracks$Graph", "addCrossings", "(LSnowTracks$Pass;)V"⟩, ⟨"SnowTracks$Graph", "addWind", "(LSnowTracks$Pass;)V"⟩, ⟨"SnowTracks$Pass", "windTells", "(II)Z"⟩, ⟨"SnowTracks", "orders", "()I"⟩, ⟨"SnowTracks$Graph", "countOnward", "()V"⟩, ⟨"SnowTracks$Graph", "canFollow", "(II)Z"⟩, ⟨"SnowTracks", "tellFraction", "(JJ)V"⟩, ⟨"SnowTracks", "first", "(I)I"⟩, ⟨"SnowTracks", "layOrder", "(II)V"⟩, ⟨"SnowTracks$Graph", "findOrder", "(I)V"⟩, ⟨"SnowTracks", "nth", "(II)I"⟩, ⟨"SnowTracks", "sure", "(II)I"⟩, ⟨"SnowTracks", "closesToRing", "()Z"⟩, ⟨"SnowTracks$Graph", "close", "()V"⟩, ⟨"SnowTracks$Graph", "layersOf", "(I)I"⟩, ⟨"SnowTracks$Graph", "foremostOf", "(I)I"⟩, ⟨"SnowTracks", "odds", "(II)I"⟩, ⟨"SnowTracks$Graph", "countCome", "()V"⟩, ⟨"SnowTracks$Graph", "ordersWith", "(II)I"⟩, ⟨"SnowTracks", "place", "(I)I"⟩, ⟨"SnowTracks$Graph", "surelyAheadOf", "(I)I"⟩, ⟨"SnowTracks", "judge", "(I)I"⟩, ⟨"SnowTracks", "findingOfOrder", "(I)I"⟩, ⟨"SnowTracks$Shelf", "indexOf", "(II)I"⟩, ⟨"SnowTracks", "meet", "(II)I"⟩, ⟨"SnowTracks", "chain", "(I)I"⟩, ⟨"SnowTracks", "ring", "(I)I"⟩, ⟨"SnowTracks$Graph", "findRing", "()I"⟩, ⟨"SnowTracks$Graph", "stepBack", "(II)V"⟩, ⟨"SnowTracks$Graph", "followRing", "(II)Z"⟩, ⟨"SnowTracks", "wrong", "()I"⟩, ⟨"SnowTracks$Dropping", "clear", "()V"⟩, ⟨"SnowTracks$Dropping", "addPair", "(III)V"⟩, ⟨"SnowTracks$Dropping", "leastWeight", "(LSnowTracks$Graph;)I"⟩, ⟨"SnowTracks$Dropping", "weightAgainst", "(II)I"⟩, ⟨"SnowTracks", "twice", "()I"⟩, ⟨"SnowTracks", "look", "()I"⟩, ⟨"SnowTracks", "hide", "(II)I"⟩, ⟨"SnowTracks$Pass", "tellingOutOf", "(I)I"⟩, ⟨"SnowTracks", "people", "()I"⟩, ⟨"SnowTracks$People", "take", "(LSnowTracks$Pass;)V"⟩, ⟨"SnowTracks$People", "topOf", "(I)I"⟩, ⟨"SnowTracks$People", "mostWith", "(I)I"⟩, ⟨"SnowTracks$People", "fewest", "()I"⟩, ⟨"SnowTracks", "story", "(I)I"⟩, ⟨"SnowTracks", "findingOfClaims", "(I)I"⟩, ⟨"SnowTracks", "aheadByClaim", "(II)I"⟩, ⟨"SnowTracks", "behindByClaim", "(II)I"⟩, ⟨"SnowTracks$Graph", "addSure", "(II)V"⟩, ⟨"SnowTracks", "hold", "(I)I"⟩, ⟨"SnowTracks", "believe", "(I)I"⟩, ⟨"SnowTracks", "walks", "(III)I"⟩, ⟨"SnowTracks", "walk", "(III)V"⟩, ⟨"SnowTracks", "asked", "()I"⟩, ⟨"SnowTracks", "upper", "()J"⟩, ⟨"SnowTracks", "lower", "()J"⟩, ⟨"SnowTracks", "count", "(I)I"⟩, ⟨"SnowTracks", "howMany", "(I)I"⟩, ⟨"SnowTracks$Pass", "telling", "()I"⟩, ⟨"SnowTracks", "keptPasses", "()I"⟩, ⟨"SnowTracks$Shelf", "there", "()I"⟩, ⟨"SnowTracks", "finding", "()I"⟩, ⟨"SnowTracks", "findings", "(I)I"⟩, ⟨"SnowTracks", "digest", "()J"⟩, ⟨"SnowTracks$Shelf", "addTo", "(J)J"⟩, ⟨"SnowTracksModel", "<init>", "()V"⟩, ⟨"SnowTracksModel", "row", "(II)I"⟩, ⟨"SnowTracksModel", "isRow", "(I)Z"⟩, ⟨"SnowTracksModel", "in", "(III)Z"⟩, ⟨"SnowTracksModel", "finds", "(I)I"⟩, ⟨"SnowTracksModel", "lay", "(III)I"⟩, ⟨"SnowTracksModel", "rowBar", "(I)I"⟩, ⟨"SnowTracksModel", "tells", "(II)I"⟩, ⟨"SnowTracksModel", "at", "(II)I"⟩, ⟨"SnowTracksModel", "tear", "(I)I"⟩, ⟨"SnowTracksModel", "copy", "(IIIII)I"⟩, ⟨"SnowTracksModel", "mean", "(I)I"⟩, ⟨"SnowTracksModel", "text", "(II)I"⟩, ⟨"SnowTracksModel", "isText", "(I)Z"⟩, ⟨"SnowTracksModel", "put", "(III)I"⟩, ⟨"SnowTracksModel", "textBar", "(I)I"⟩, ⟨"SnowTracksModel", "fault", "(I)I"⟩, ⟨"SnowTracksModel", "readAll", "(I)I"⟩, ⟨"SnowTracksModel", "byteAt", "(II)I"⟩, ⟨"SnowTracksModel", "isFigure", "(I)Z"⟩, ⟨"SnowTracksModel", "readCrossing", "(I)Z"⟩, ⟨"SnowTracksModel", "readTrack", "(I)Z"⟩, ⟨"SnowTracksModel", "kindBy", "(I)I"⟩, ⟨"SnowTracksModel", "pass", "(I)I"⟩, ⟨"SnowTracksModel", "track", "(II)I"⟩, ⟨"SnowTracksModel", "isTrack", "(I)Z"⟩, ⟨"SnowTracksModel", "trackOf", "(II)I"⟩, ⟨"SnowTracksModel", "crossing", "(I)I"⟩, ⟨"SnowTracksModel", "isTelling", "(I)Z"⟩, ⟨"SnowTracksModel", "letsOver", "(II)Z"⟩, ⟨"SnowTracksModel", "isA", "(II)Z"⟩, ⟨"SnowTracksModel", "letsUnder", "(II)Z"⟩, ⟨"SnowTracksModel", "mark", "(II)I"⟩, ⟨"SnowTracksModel", "beside", "(IZZ)I"⟩, ⟨"SnowTracksModel", "bits", "(I)I"⟩, ⟨"SnowTracksModel", "allOf", "(I)I"⟩, ⟨"SnowTracksModel", "wind", "(I)I"⟩, ⟨"SnowTracksModel", "fill", "(II)I"⟩, ⟨"SnowTracksModel", "cross", "(II)I"⟩, ⟨"SnowTracksModel", "arePair", "(II)Z"⟩, ⟨"SnowTracksModel", "snow", "(I)I"⟩, ⟨"SnowTracksModel", "keep", "(I)I"⟩, ⟨"SnowTracksModel", "on", "(I)I"⟩, ⟨"SnowTracksModel", "ahead", "(II)I"⟩, ⟨"SnowTracksModel", "findNow", "()V"⟩, ⟨"SnowTracksModel", "findAhead", "(III)V"⟩, ⟨"SnowTracksModel", "has", "(II)Z"⟩, ⟨"SnowTracksModel", "isByWind", "(II)Z"⟩, ⟨"SnowTracksModel", "findSurely", "()V"⟩, ⟨"SnowTracksModel", "orders", "()I"⟩, ⟨"SnowTracksModel", "countOrders", "()I"⟩, ⟨"SnowTracksModel", "parts", "(JJ)I"⟩, ⟨"SnowTracksModel", "first", "(I)I"⟩, ⟨"SnowTracksModel", "putOrder", "(II)V"⟩, ⟨"SnowTracksModel", "nth", "(II)I"⟩, ⟨"SnowTracksModel", "sure", "(II)I"⟩, ⟨"SnowTracksModel", "isRingNow", "()Z"⟩, ⟨"SnowTracksModel", "isRing", "()Z"⟩, ⟨"SnowTracksModel", "odds", "(II)I"⟩, ⟨"SnowTracksModel", "countWith", "(II)I"⟩, ⟨"SnowTracksModel", "place", "(I)I"⟩, ⟨"SnowTracksModel", "behind", "(I)I"⟩, ⟨"SnowTracksModel", "judge", "(I)I"⟩, ⟨"SnowTracksModel", "orderBar", "(I)I"⟩, ⟨"SnowTracksModel", "meet", "(II)I"⟩, ⟨"SnowTracksModel", "isBetween", "(II)Z"⟩, ⟨"SnowTracksModel", "chain", "(I)I"⟩, ⟨"SnowTracksModel", "findChains", "(Z)V"⟩, ⟨"SnowTracksModel", "ring", "(I)I"⟩, ⟨"SnowTracksModel", "ringBy", "(I)I"⟩, ⟨"SnowTracksModel", "findFar", "(I)V"⟩, ⟨"SnowTracksModel", "wrong", "()I"⟩, ⟨"SnowTracksModel", "tellingBits", "()I"⟩, ⟨"SnowTracksModel", "twice", "()I"⟩, ⟨"SnowTracksModel", "look", "()I"⟩, ⟨"SnowTracksModel", "hide", "(II)I"⟩, ⟨"SnowTracksModel", "people", "()I"⟩, ⟨"SnowTracksModel", "areOnes", "(I)Z"⟩, ⟨"SnowTracksModel", "story", "(I)I"⟩, ⟨"SnowTracksModel", "claimBar", "(I)I"⟩, ⟨"SnowTracksModel", "claims", "(II)V"⟩, ⟨"SnowTracksModel", "hold", "(I)I"⟩, ⟨"SnowTracksModel", "believe", "(I)I"⟩, ⟨"SnowTracksModel", "walks", "(III)I"⟩, ⟨"SnowTracksModel", "asked", "()I"⟩, ⟨"SnowTracksModel", "upper", "()J"⟩, ⟨"SnowTracksModel", "lower", "()J"⟩, ⟨"SnowTracksModel", "count", "(I)I"⟩, ⟨"SnowTracksModel", "counted", "(I)I"⟩, ⟨"SnowTracksModel", "finding", "()I"⟩, ⟨"SnowTracksModel", "findings", "(I)I"⟩, ⟨"SnowTracksModel", "digest", "()J"⟩, ⟨"SnowTracksModel", "mixPass", "()V"⟩, ⟨"SnowTracksModel", "mix", "(I)V"⟩]
def x_y (k : Nat) : MethodName := (x_nth x_yl k).getD ⟨"", "", ""⟩
def x_bl : List ByteArray := [prog_1_method_1_code, prog_7_method_1_code, prog_13_method_103_code, prog_4_method_1_code, prog_6_method_1_code, prog_3_method_1_code, prog_2_method_1_code, prog_5_method_1_code, prog_1_method_2_code, prog_7_method_2_code, prog_1_method_48_code, prog_7_method_6_code, prog_1_method_3_code, prog_1_method_49_code, prog_7_method_3_code, prog_7_method_4_code, prog_1_method_4_code, prog_1_method_5_code, prog_1_method_6_code, prog_7_method_5_code, prog_1_method_7_code, prog_7_method_7_code, prog_1_method_8_code, prog_1_method_9_code, prog_1_method_10_code, prog_6_method_2_code, prog_4_method_2_code, prog_6_method_3_code, prog_6_method_6_code, prog_6_method_8_code, prog_6_method_4_code, prog_6_method_7_code, prog_4_method_4_code, prog_4_method_6_code, prog_6_method_5_code, prog_4_method_7_code, prog_4_method_5_code, prog_1_method_11_code, prog_4_method_3_code, prog_1_method_12_code, prog_4_method_11_code, prog_4_method_12_code, prog_1_method_13_code, prog_4_method_14_code, prog_4_method_15_code, prog_4_method_16_code, prog_4_method_13_code, prog_1_method_14_code, prog_4_method_8_code, prog_4_method_9_code, prog_4_method_20_code, prog_4_method_22_code, prog_4_method_21_code, prog_10_method_49_code, prog_4_method_23_code, prog_1_method_50_code, prog_4_method_10_code, prog_1_method_15_code, prog_1_method_16_code, prog_1_method_17_code, prog_1_method_18_code, prog_1_method_19_code, prog_1_method_20_code, prog_1_method_51_code, prog_1_method_21_code, prog_3_method_3_code, prog_3_method_2_code, prog_3_method_4_code, prog_3_method_5_code, prog_4_method_19_code, prog_1_method_22_code, prog_3_method_12_code, prog_3_method_11_code, prog_1_method_54_code, prog_1_method_23_code, prog_1_method_56_code, prog_3_method_15_code, prog_1_method_24_code, prog_1_method_25_code, prog_1_method_55_code, prog_3_method_6_code, prog_3_method_10_code, prog_3_method_9_code, prog_1_method_26_code, prog_3_method_13_code, prog_3_method_14_code, prog_1_method_27_code, prog_3_method_8_code, prog_1_method_28_code, prog_1_method_57_code, prog_7_method_8_code, prog_1_method_29_code, prog_1_method_30_code, prog_1_method_31_code, prog_3_method_16_code, prog_3_method_17_code, prog_3_method_18_code, prog_1_method_32_code, prog_2_method_2_code, prog_2_method_3_code, prog_2_method_4_code, prog_2_method_5_code, prog_1_method_33_code, prog_1_method_34_code, prog_1_method_35_code, prog_4_method_18_code, prog_1_method_36_code, prog_5_method_2_code, prog_5_method_3_code, prog_5_method_4_code, prog_5_method_5_code, prog_1_method_37_code, prog_1_method_58_code, prog_1_method_59_code, prog_1_method_60_code, prog_3_method_7_code, prog_1_method_38_code, prog_1_method_39_code, prog_1_method_40_code, prog_1_method_61_code, prog_1_method_41_code, prog_1_method_42_code, prog_1_method_43_code, prog_1_method_44_code, prog_1_method_52_code, prog_4_method_17_code, prog_1_method_53_code, prog_7_method_9_code, prog_1_method_45_code, prog_1_method_46_code, prog_1_method_47_code, prog_7_method_10_code, prog_9_method_1_code, prog_9_method_11_code, prog_9_method_9_code, prog_9_method_3_code, prog_9_method_6_code, prog_9_method_12_code, prog_9_method_10_code, prog_9_method_7_code, prog_9_method_13_code, prog_9_method_14_code, prog_9_method_15_code, prog_9_method_16_code, prog_9_method_19_code, prog_9_method_17_code, prog_9_method_20_code, prog_9_method_18_code, prog_9_method_27_code, prog_9_method_26_code, prog_9_method_21_code, prog_9_method_23_code, prog_9_method_25_code, prog_9_method_24_code, prog_9_method_22_code, prog_9_method_28_code, prog_9_method_36_code, prog_9_method_29_code, prog_9_method_35_code, prog_9_method_37_code, prog_9_method_34_code, prog_9_method_32_code, prog_9_method_31_code, prog_9_method_33_code, prog_9_method_40_code, prog_9_method_38_code, prog_9_method_5_code, prog_9_method_39_code, prog_9_method_41_code, prog_9_method_42_code, prog_9_method_43_code, prog_9_method_30_code, prog_9_method_44_code, prog_9_method_45_code, prog_9_method_46_code, prog_9_method_53_code, prog_9_method_51_code, prog_9_method_48_code, prog_9_method_4_code, prog_9_method_47_code, prog_9_method_49_code, prog_9_method_56_code, prog_9_method_54_code, prog_9_method_8_code, prog_9_method_58_code, prog_9_method_57_code, prog_9_method_59_code, prog_9_method_60_code, prog_9_method_52_code, prog_9_method_50_code, prog_9_method_61_code, prog_9_method_55_code, prog_9_method_63_code, prog_9_method_62_code, prog_9_method_65_code, prog_9_method_64_code, prog_9_method_67_code, prog_9_method_66_code, prog_9_method_68_code, prog_9_method_69_code, prog_9_method_72_code, prog_9_method_71_code, prog_9_method_70_code, prog_9_method_74_code, prog_9_method_73_code, prog_9_method_75_code, prog_9_method_76_code, prog_9_method_77_code, prog_9_method_79_code, prog_9_method_78_code, prog_9_method_82_code, prog_9_method_80_code, prog_9_method_81_code, prog_9_method_83_code, prog_9_method_84_code, prog_9_method_85_code, prog_9_method_86_code, prog_9_method_87_code, prog_9_method_88_code, prog_9_method_90_code, prog_9_method_89_code, prog_9_method_91_code, prog_9_method_92_code, prog_9_method_95_code, prog_9_method_94_code, prog_9_method_93_code, code]
def x_by (k : Nat) : ByteArray := (x_nth x_bl k).getD ⟨#[]⟩
def x_F0 : u_T := fun k => match k with
  | 0 => ("SnowTracks$Dropping", "pairs", "I", false)
  | 1 => ("SnowTracks$Dropping", "who", "[I", true)
  | 2 => ("SnowTracks$Dropping", "whom", "[I", true)
  | 3 => ("SnowTracks$Dropping", "weights", "[I", true)
  | _ => ("SnowTracks$Dropping", "least", "[I", true)
def x_t0 : Nat → FieldType := fun k => match k with
  | 0 => .int
  | 1 => .array .int
  | 2 => .array .int
  | 3 => .array .int
  | _ => .array .int
def x_F1 : u_T := fun k => match k with
  | 0 => ("SnowTracks$Graph", "tracks", "I", false)
  | 1 => ("SnowTracks$Graph", "all", "I", false)
  | 2 => ("SnowTracks$Graph", "before", "[I", true)
  | 3 => ("SnowTracks$Graph", "after", "[I", true)
  | 4 => ("SnowTracks$Graph", "onward", "[I", true)
  | 5 => ("SnowTracks$Graph", "come", "[I", true)
  | 6 => ("SnowTracks$Graph", "orderTracks", "[I", true)
  | 7 => ("SnowTracks$Graph", "ringTracks", "[I", true)
  | _ => ("SnowTracks$Graph", "back", "[I", true)
def x_t1 : Nat → FieldType := fun k => match k with
  | 0 => .int
  | 1 => .int
  | 2 => .array .int
  | 3 => .array .int
  | 4 => .array .int
  | 5 => .array .int
  | 6 => .array .int
  | 7 => .array .int
  | _ => .array .int
def x_F2 : u_T := fun k => match k with
  | 0 => ("SnowTracks$Pass", "tracks", "I", false)
  | 1 => ("SnowTracks$Pass", "crossings", "I", false)
  | 2 => ("SnowTracks$Pass", "wind", "I", false)
  | 3 => ("SnowTracks$Pass", "kinds", "[I", true)
  | 4 => ("SnowTracks$Pass", "sizes", "[I", true)
  | 5 => ("SnowTracks$Pass", "fills", "[I", true)
  | 6 => ("SnowTracks$Pass", "overs", "[I", true)
  | _ => ("SnowTracks$Pass", "beneaths", "[I", true)
def x_t2 : Nat → FieldType := fun k => match k with
  | 0 => .int
  | 1 => .int
  | 2 => .int
  | 3 => .array .int
  | 4 => .array .int
  | 5 => .array .int
  | 6 => .array .int
  | _ => .array .int
def x_F3 : u_T := fun k => match k with
  | 0 => ("SnowTracks$People", "all", "I", false)
  | 1 => ("SnowTracks$People", "ones", "[I", true)
  | 2 => ("SnowTracks$People", "fewestOf", "[I", true)
  | _ => ("SnowTracks$People", "alike", "[I", true)
def x_t3 : Nat → FieldType := fun k => match k with
  | 0 => .int
  | 1 => .array .int
  | 2 => .array .int
  | _ => .array .int
def x_F4 : u_T := fun k => match k with
  | _ => ("SnowTracks$Reader", "draft", "LSnowTracks$Pass;", true)
def x_t4 : Nat → FieldType := fun k => match k with
  | _ => .object "SnowTracks$Pass"
def x_F5 : u_T := fun k => match k with
  | 0 => ("SnowTracks$Shelf", "ints", "[[I", true)
  | 1 => ("SnowTracks$Shelf", "sizes", "[I", true)
  | _ => ("SnowTracks$Shelf", "blank", "I", true)
def x_t5 : Nat → FieldType := fun k => match k with
  | 0 => .array (.array .int)
  | 1 => .array .int
  | _ => .int
def x_F6 : u_T := fun k => match k with
  | 0 => ("SnowTracks", "rows", "LSnowTracks$Shelf;", true)
  | 1 => ("SnowTracks", "texts", "LSnowTracks$Shelf;", true)
  | 2 => ("SnowTracks", "now", "LSnowTracks$Pass;", true)
  | 3 => ("SnowTracks", "reader", "LSnowTracks$Reader;", true)
  | 4 => ("SnowTracks", "kept", "[LSnowTracks$Pass;", true)
  | 5 => ("SnowTracks", "graph", "LSnowTracks$Graph;", true)
  | 6 => ("SnowTracks", "dropping", "LSnowTracks$Dropping;", true)
  | 7 => ("SnowTracks", "folk", "LSnowTracks$People;", true)
  | 8 => ("SnowTracks", "told", "I", false)
  | 9 => ("SnowTracks", "toldUpper", "J", false)
  | 10 => ("SnowTracks", "toldLower", "J", false)
  | 11 => ("SnowTracks", "latestFinding", "I", false)
  | _ => ("SnowTracks", "findingCounts", "[I", true)
def x_t6 : Nat → FieldType := fun k => match k with
  | 0 => .object "SnowTracks$Shelf"
  | 1 => .object "SnowTracks$Shelf"
  | 2 => .object "SnowTracks$Pass"
  | 3 => .object "SnowTracks$Reader"
  | 4 => .array (.object "SnowTracks$Pass")
  | 5 => .object "SnowTracks$Graph"
  | 6 => .object "SnowTracks$Dropping"
  | 7 => .object "SnowTracks$People"
  | 8 => .int
  | 9 => .long
  | 10 => .long
  | 11 => .int
  | _ => .array .int
def x_F7 : u_T := fun k => match k with
  | 0 => ("SnowTracksModel", "latest", "I", false)
  | 1 => ("SnowTracksModel", "came", "[I", true)
  | 2 => ("SnowTracksModel", "asked", "I", false)
  | 3 => ("SnowTracksModel", "up", "J", false)
  | 4 => ("SnowTracksModel", "down", "J", false)
  | 5 => ("SnowTracksModel", "sizes", "[I", true)
  | 6 => ("SnowTracksModel", "items", "[I", true)
  | 7 => ("SnowTracksModel", "carried", "[I", true)
  | 8 => ("SnowTracksModel", "lengths", "[I", true)
  | 9 => ("SnowTracksModel", "bytes", "[I", true)
  | 10 => ("SnowTracksModel", "many", "I", false)
  | 11 => ("SnowTracksModel", "kinds", "[I", true)
  | 12 => ("SnowTracksModel", "large", "[I", true)
  | 13 => ("SnowTracksModel", "fills", "[I", true)
  | 14 => ("SnowTracksModel", "crossed", "I", false)
  | 15 => ("SnowTracksModel", "over", "[I", true)
  | 16 => ("SnowTracksModel", "under", "[I", true)
  | 17 => ("SnowTracksModel", "wind", "I", false)
  | 18 => ("SnowTracksModel", "place", "I", false)
  | 19 => ("SnowTracksModel", "readMany", "I", false)
  | 20 => ("SnowTracksModel", "readCrossed", "I", false)
  | 21 => ("SnowTracksModel", "readKind", "[I", true)
  | 22 => ("SnowTracksModel", "readLarge", "[I", true)
  | 23 => ("SnowTracksModel", "readFill", "[I", true)
  | 24 => ("SnowTracksModel", "readOver", "[I", true)
  | 25 => ("SnowTracksModel", "readUnder", "[I", true)
  | 26 => ("SnowTracksModel", "kept", "[I", true)
  | 27 => ("SnowTracksModel", "ahead", "[I", true)
  | 28 => ("SnowTracksModel", "surely", "[I", true)
  | 29 => ("SnowTracksModel", "ways", "[I", true)
  | 30 => ("SnowTracksModel", "placeOf", "[I", true)
  | 31 => ("SnowTracksModel", "chains", "[I", true)
  | 32 => ("SnowTracksModel", "far", "[I", true)
  | 33 => ("SnowTracksModel", "fewest", "[I", true)
  | 34 => ("SnowTracksModel", "isOnes", "[Z", true)
  | _ => ("SnowTracksModel", "mixed", "J", false)
def x_t7 : Nat → FieldType := fun k => match k with
  | 0 => .int
  | 1 => .array .int
  | 2 => .int
  | 3 => .long
  | 4 => .long
  | 5 => .array .int
  | 6 => .array .int
  | 7 => .array .int
  | 8 => .array .int
  | 9 => .array .int
  | 10 => .int
  | 11 => .array .int
  | 12 => .array .int
  | 13 => .array .int
  | 14 => .int
  | 15 => .array .int
  | 16 => .array .int
  | 17 => .int
  | 18 => .int
  | 19 => .int
  | 20 => .int
  | 21 => .array .int
  | 22 => .array .int
  | 23 => .array .int
  | 24 => .array .int
  | 25 => .array .int
  | 26 => .array .int
  | 27 => .array .int
  | 28 => .array .int
  | 29 => .array .int
  | 30 => .array .int
  | 31 => .array .int
  | 32 => .array .int
  | 33 => .array .int
  | 34 => .array .boolean
  | _ => .long
abbrev x_cl : List vw_C := [("SnowTracks$Dropping", x_F0, 5), ("SnowTracks$Graph", x_F1, 9), ("SnowTracks$Pass", x_F2, 8), ("SnowTracks$People", x_F3, 4), ("SnowTracks$Reader", x_F4, 1), ("SnowTracks$Shelf", x_F5, 3), ("SnowTracks", x_F6, 13), ("SnowTracksModel", x_F7, 36)]
def x_ftl : List (List Nat) := [[0, 2, 2, 2, 2], [0, 0, 2, 2, 2, 2, 2, 2, 2], [0, 0, 0, 2, 2, 2, 2, 2], [0, 2, 2, 2], [2], [2, 2, 0], [2, 2, 2, 2, 2, 2, 2, 2, 0, 1, 1, 0, 2], [0, 2, 0, 1, 1, 2, 2, 2, 2, 2, 0, 2, 2, 2, 0, 2, 2, 0, 0, 0, 0, 2, 2, 2, 2, 2, 2, 2, 2, 2, 2, 2, 2, 2, 2, 1]]
/-- the kind of a field: 0 int, 1 long, 2 a reference -/
def x_ft (ci k : Nat) : Nat := match x_nth x_ftl ci with
  | some l => (x_nth l k).getD 2
  | none => 2
def x_rty (k : Nat) : Option FieldType := match k with
  | 0 => none
  | 1 => some .int
  | 2 => some .boolean
  | _ => some .long
theorem x_nm0 : ∀ a, a < 5 → ∀ b, b < 5 → a ≠ b → (x_F0 a).2.1 ≠ (x_F0 b).2.1 := by decide +kernel
theorem x_ty0 : ∀ k, k < 5 → parseFieldDescriptor (x_F0 k).2.2.1 = some (x_t0 k) := by decide +kernel
theorem x_in0 : ∀ w ∈ u_ws "SnowTracks$Dropping" x_F0 5, w ∈ lw_tbl := by decide +kernel
theorem x_nm1 : ∀ a, a < 9 → ∀ b, b < 9 → a ≠ b → (x_F1 a).2.1 ≠ (x_F1 b).2.1 := by decide +kernel
theorem x_ty1 : ∀ k, k < 9 → parseFieldDescriptor (x_F1 k).2.2.1 = some (x_t1 k) := by decide +kernel
theorem x_in1 : ∀ w ∈ u_ws "SnowTracks$Graph" x_F1 9, w ∈ lw_tbl := by decide +kernel
theorem x_nm2 : ∀ a, a < 8 → ∀ b, b < 8 → a ≠ b → (x_F2 a).2.1 ≠ (x_F2 b).2.1 := by decide +kernel
theorem x_ty2 : ∀ k, k < 8 → parseFieldDescriptor (x_F2 k).2.2.1 = some (x_t2 k) := by decide +kernel
theorem x_in2 : ∀ w ∈ u_ws "SnowTracks$Pass" x_F2 8, w ∈ lw_tbl := by decide +kernel
theorem x_nm3 : ∀ a, a < 4 → ∀ b, b < 4 → a ≠ b → (x_F3 a).2.1 ≠ (x_F3 b).2.1 := by decide +kernel
theorem x_ty3 : ∀ k, k < 4 → parseFieldDescriptor (x_F3 k).2.2.1 = some (x_t3 k) := by decide +kernel
theorem x_in3 : ∀ w ∈ u_ws "SnowTracks$People" x_F3 4, w ∈ lw_tbl := by decide +kernel
theorem x_nm4 : ∀ a, a < 1 → ∀ b, b < 1 → a ≠ b → (x_F4 a).2.1 ≠ (x_F4 b).2.1 := by decide +kernel
theorem x_ty4 : ∀ k, k < 1 → parseFieldDescriptor (x_F4 k).2.2.1 = some (x_t4 k) := by decide +kernel
theorem x_in4 : ∀ w ∈ u_ws "SnowTracks$Reader" x_F4 1, w ∈ lw_tbl := by decide +kernel
theorem x_nm5 : ∀ a, a < 3 → ∀ b, b < 3 → a ≠ b → (x_F5 a).2.1 ≠ (x_F5 b).2.1 := by decide +kernel
theorem x_ty5 : ∀ k, k < 3 → parseFieldDescriptor (x_F5 k).2.2.1 = some (x_t5 k) := by decide +kernel
theorem x_in5 : ∀ w ∈ u_ws "SnowTracks$Shelf" x_F5 3, w ∈ lw_tbl := by decide +kernel
theorem x_nm6 : ∀ a, a < 13 → ∀ b, b < 13 → a ≠ b → (x_F6 a).2.1 ≠ (x_F6 b).2.1 := by decide +kernel
theorem x_ty6 : ∀ k, k < 13 → parseFieldDescriptor (x_F6 k).2.2.1 = some (x_t6 k) := by decide +kernel
theorem x_in6 : ∀ w ∈ u_ws "SnowTracks" x_F6 13, w ∈ lw_tbl := by decide +kernel
theorem x_nm7 : ∀ a, a < 36 → ∀ b, b < 36 → a ≠ b → (x_F7 a).2.1 ≠ (x_F7 b).2.1 := by decide +kernel
theorem x_ty7 : ∀ k, k < 36 → parseFieldDescriptor (x_F7 k).2.2.1 = some (x_t7 k) := by decide +kernel
theorem x_in7 : ∀ w ∈ u_ws "SnowTracksModel" x_F7 36, w ∈ lw_tbl := by decide +kernel
def x_cp : List (Nat × Nat × Nat × Nat × Nat) := [(79, 63, 78, 0, 2), (87, 64, 86, 0, 2), (93, 65, 92, 0, 1), (111, 66, 110, 0, 2), (156, 67, 155, 0, 2), (170, 68, 169, 0, 2), (212, 69, 211, 0, 2), (234, 70, 233, 0, 2), (292, 63, 290, 291, 0), (296, 64, 294, 295, 0), (300, 63, 299, 0, 0), (304, 64, 302, 303, 0), (308, 63, 306, 307, 0), (312, 63, 311, 1, 0), (316, 64, 314, 315, 0), (320, 64, 318, 319, 0), (324, 63, 322, 323, 0), (328, 63, 326, 327, 0), (332, 63, 330, 331, 0), (336, 64, 334, 335, 0), (343, 63, 341, 342, 0), (347, 64, 345, 346, 0), (351, 63, 349, 350, 0), (355, 63, 353, 354, 0), (359, 63, 357, 358, 0), (363, 67, 361, 362, 0), (367, 66, 365, 366, 0), (371, 67, 370, 2, 0), (374, 67, 373, 0, 1), (377, 67, 376, 0, 1), (381, 67, 380, 3, 0), (384, 67, 383, 0, 1), (388, 66, 386, 387, 0), (392, 66, 390, 391, 0), (396, 67, 395, 4, 0), (400, 66, 398, 399, 0), (405, 66, 403, 404, 0), (409, 63, 407, 408, 0), (413, 66, 411, 412, 0), (419, 63, 417, 418, 0), (424, 66, 422, 423, 0), (428, 66, 427, 5, 0), (432, 63, 430, 431, 0), (436, 66, 434, 435, 0), (439, 66, 438, 0, 1), (442, 66, 441, 0, 1), (446, 66, 444, 445, 0), (450, 63, 448, 449, 0), (454, 66, 452, 453, 0), (457, 66, 456, 0, 1), (461, 66, 459, 460, 0), (466, 66, 464, 465, 0), (470, 66, 469, 6, 0), (473, 73, 472, 0, 1), (480, 66, 478, 479, 0), (483, 63, 482, 0, 1), (488, 66, 486, 487, 0), (492, 63, 490, 491, 0), (496, 63, 494, 495, 0), (500, 63, 498, 499, 0), (506, 63, 504, 505, 0), (510, 63, 508, 509, 0), (514, 63, 512, 513, 0), (518, 63, 517, 7, 0), (522, 63, 520, 521, 0), (526, 68, 524, 525, 0), (530, 68, 528, 529, 0), (535, 68, 533, 534, 0), (540, 68, 538, 539, 0), (544, 66, 542, 543, 0), (549, 63, 547, 548, 0), (553, 68, 551, 552, 0), (557, 68, 555, 556, 0), (562, 63, 561, 8, 0), (566, 63, 564, 565, 0), (570, 63, 569, 9, 0), (574, 68, 572, 573, 0), (578, 63, 576, 577, 0), (582, 63, 580, 581, 0), (586, 63, 585, 10, 0), (590, 68, 588, 589, 0), (594, 68, 592, 593, 0), (598, 68, 597, 11, 0), (602, 63, 600, 601, 0), (606, 68, 604, 605, 0), (610, 68, 608, 609, 0), (614, 63, 612, 613, 0), (618, 68, 616, 617, 0), (622, 63, 620, 621, 0), (626, 63, 625, 12, 0), (630, 64, 628, 629, 0), (634, 63, 632, 633, 0), (638, 63, 636, 637, 0), (642, 63, 640, 641, 0), (646, 68, 644, 645, 0), (650, 68, 649, 13, 0), (654, 68, 653, 14, 0), (658, 63, 656, 657, 0), (664, 69, 662, 663, 0), (669, 69, 667, 668, 0), (673, 69, 671, 672, 0), (680, 69, 679, 15, 0), (687, 63, 685, 686, 0), (691, 63, 689, 690, 0), (698, 63, 696, 697, 0), (703, 66, 701, 702, 0), (708, 63, 706, 707, 0), (712, 70, 710, 711, 0), (720, 70, 719, 0, 1), (724, 70, 722, 723, 0), (730, 70, 728, 729, 0), (735, 63, 733, 734, 0), (739, 63, 738, 16, 0), (743, 63, 742, 17, 0), (747, 63, 746, 18, 0), (751, 68, 749, 750, 0), (755, 63, 753, 754, 0), (759, 63, 757, 758, 0), (763, 63, 761, 762, 0), (770, 63, 769, 19, 0), (774, 63, 772, 773, 0), (778, 63, 776, 777, 0), (782, 63, 780, 781, 0), (786, 63, 784, 785, 0), (790, 63, 789, 20, 0), (794, 66, 792, 793, 0), (798, 63, 797, 21, 0), (802, 64, 800, 801, 0), (807, 63, 805, 806, 0), (811, 63, 809, 810, 0), (815, 63, 813, 814, 0), (821, 64, 819, 820, 0), (827, 71, 826, 0, 2), (942, 71, 940, 941, 0), (945, 71, 944, 0, 1), (948, 71, 947, 0, 1), (952, 71, 951, 22, 0), (956, 71, 954, 955, 0), (960, 71, 959, 23, 0), (964, 71, 963, 24, 0), (968, 71, 966, 967, 0), (972, 71, 970, 971, 0), (976, 71, 974, 975, 0), (980, 71, 978, 979, 0), (984, 71, 982, 983, 0), (987, 71, 986, 0, 1), (991, 71, 989, 990, 0), (995, 71, 994, 25, 0), (999, 71, 997, 998, 0), (1003, 71, 1002, 26, 0), (1007, 71, 1006, 27, 0), (1010, 71, 1009, 0, 1), (1014, 71, 1013, 28, 0), (1018, 71, 1017, 29, 0), (1021, 71, 1020, 0, 1), (1025, 71, 1023, 1024, 0), (1029, 71, 1027, 1028, 0), (1033, 71, 1032, 30, 0), (1037, 71, 1036, 31, 0), (1041, 71, 1039, 1040, 0), (1045, 71, 1044, 32, 0), (1049, 71, 1048, 33, 0), (1053, 71, 1052, 34, 0), (1057, 71, 1056, 35, 0), (1061, 71, 1059, 1060, 0), (1065, 71, 1064, 36, 0), (1068, 71, 1067, 0, 1), (1072, 71, 1071, 37, 0), (1076, 71, 1074, 1075, 0), (1080, 71, 1078, 1079, 0), (1084, 71, 1082, 1083, 0), (1088, 71, 1087, 38, 0), (1092, 71, 1090, 1091, 0), (1096, 71, 1094, 1095, 0), (1100, 71, 1098, 1099, 0), (1104, 71, 1102, 1103, 0), (1108, 71, 1107, 39, 0), (1112, 71, 1111, 40, 0), (1115, 71, 1114, 0, 1), (1119, 71, 1118, 41, 0), (1123, 71, 1122, 42, 0), (1127, 71, 1125, 1126, 0), (1131, 71, 1130, 43, 0), (1135, 71, 1134, 44, 0), (1139, 71, 1137, 1138, 0), (1143, 71, 1142, 45, 0), (1148, 71, 1146, 1147, 0), (1152, 71, 1150, 1151, 0), (1156, 71, 1155, 46, 0), (1160, 71, 1159, 47, 0), (1164, 71, 1162, 1163, 0), (1168, 71, 1167, 48, 0), (1172, 71, 1170, 1171, 0), (1176, 71, 1175, 49, 0), (1180, 71, 1178, 1179, 0), (1184, 71, 1183, 50, 0), (1188, 71, 1186, 1187, 0), (1192, 71, 1191, 51, 0), (1196, 71, 1194, 1195, 0), (1200, 71, 1199, 52, 0), (1204, 71, 1202, 1203, 0), (1208, 71, 1207, 53, 0), (1212, 71, 1211, 54, 0), (1216, 71, 1214, 1215, 0), (1220, 71, 1219, 55, 0), (1224, 71, 1222, 1223, 0), (1228, 71, 1226, 1227, 0), (1232, 71, 1230, 1231, 0), (1236, 71, 1234, 1235, 0), (1240, 71, 1239, 56, 0), (1244, 71, 1242, 1243, 0), (1248, 71, 1247, 57, 0), (1252, 71, 1251, 58, 0), (1256, 71, 1254, 1255, 0), (1260, 71, 1258, 1259, 0), (1264, 71, 1262, 1263, 0), (1272, 71, 1270, 1271, 0), (1276, 71, 1274, 1275, 0), (1280, 71, 1278, 1279, 0), (1284, 71, 1282, 1283, 0), (1288, 71, 1287, 59, 0), (1292, 71, 1290, 1291, 0), (1296, 71, 1294, 1295, 0), (1300, 71, 1298, 1299, 0), (1305, 71, 1304, 60, 0), (1309, 71, 1308, 61, 0)]
/-- the kind of a method: 0 of an object, 1 static, 2 a constructor -/
def x_kd (a : Nat) : Nat := match x_nth x_cp a with
  | some (_, _, _, _, kd) => kd
  | none => 3
end
section
/-- a switch's list is the table's -/
def x_swt_ok (pc : Nat) : Int → List Int → List (Int32 × Nat) → Bool
  | _, [], [] => true
  | lo, o :: os, (v, t) :: r => decide (v.toInt = lo) && (decide ((pc : Int) + o = (t : Int)) && x_swt_ok pc (lo + 1) os r)
  | _, _, _ => false
def x_swl_ok (pc : Nat) : List (Int × Int) → List (Int32 × Nat) → Bool
  | [], [] => true
  | (k, o) :: os, (v, t) :: r => decide (v.toInt = k) && (decide ((pc : Int) + o = (t : Int)) && x_swl_ok pc os r)
  | _, _ => false
/-- a word stands in the table at a place -/
def x_has (p : Nat) (w : Jvm.Cond) : Bool := decide (lw_tbl[p]? = some w)
def x_fld (ci k : Nat) : String × String × String × Bool := match x_cl[ci]? with
  | some q => q.2.1 k
  | none => ("", "", "", false)
/-- how many fields a class has -/
def x_clN (ci : Nat) : Nat := match x_cl[ci]? with
  | some q => q.2.2
  | none => 0
def x_num : Value → Nat
  | .int x => x.toNatClampNeg
  | .long x => x.toNatClampNeg
  | .retAddr n => n
  | _ => 0
def x_tag : Value → Nat
  | .int _ => 0
  | .long _ => 1
  | _ => 2
/-- of a method: number, class, locals, room -/
abbrev xK := Nat × Nat × Nat × Nat × Nat × Nat × Nat
/-- the row is what stands in the code -/
def x_oki (M : xK) (pc : Nat) (raw : Instr) (len : Nat) (i : Instr) (a b : Nat) (v : Value) : Bool := match i with
  | .iconst _ => match raw with
    | .iconst n => Nat.beq len 1 && decide (v = .int (Int32.ofInt n))
    | .bipush n => Nat.beq len 2 && decide (v = .int (Int8.ofInt n).toInt32)
    | .sipush n => Nat.beq len 3 && decide (v = .int (Int16.ofInt n).toInt32)
    | .lconst n => Nat.beq len 1 && decide (v = .long (Int64.ofNat (n : Nat)))
    | .ldc k => match v with
      | .int x => Nat.beq len 2 && x_has b (.constant (x_cn M.2.1) k x)
      | _ => false
    | .ldc_w k => match v with
      | .int x => Nat.beq len 3 && x_has b (.constant (x_cn M.2.1) k x)
      | _ => false
    | .ldc2_w k => match v with
      | .long x => Nat.beq len 3 && x_has b (.constantLong (x_cn M.2.1) k x)
      | _ => false
    | _ => false
  | .iload k => match raw with
    | .iload_n n => Nat.beq len 1 && Nat.beq n k
    | .iload n => Nat.beq len 2 && Nat.beq n k
    | _ => false
  | .lload k => match raw with
    | .lload_n n => Nat.beq len 1 && Nat.beq n k
    | .lload n => Nat.beq len 2 && Nat.beq n k
    | _ => false
  | .aload k => match raw with
    | .aload_n n => Nat.beq len 1 && Nat.beq n k
    | .aload n => Nat.beq len 2 && Nat.beq n k
    | _ => false
  | .istore k => match raw with
    | .istore_n n => Nat.beq len 1 && (Nat.beq n k && Nat.blt k M.2.2.1)
    | .istore n => Nat.beq len 2 && (Nat.beq n k && Nat.blt k M.2.2.1)
    | _ => false
  | .lstore k => match raw with
    | .lstore_n n => Nat.beq len 1 && (Nat.beq n k && Nat.blt (k + 1) M.2.2.1)
    | .lstore n => Nat.beq len 2 && (Nat.beq n k && Nat.blt (k + 1) M.2.2.1)
    | _ => false
  | .astore k => match raw with
    | .astore_n n => Nat.beq len 1 && (Nat.beq n k && Nat.blt k M.2.2.1)
    | .astore n => Nat.beq len 2 && (Nat.beq n k && Nat.blt k M.2.2.1)
    | _ => false
  | .iinc k _ => match raw with
    | .iinc n d => Nat.beq len 3 && (Nat.beq n k && (Nat.blt k M.2.2.1 && decide (v = .int (Int32.ofInt d))))
    | _ => false
  | .ifCond c _ => match raw with
    | .ifCond c' off => Nat.beq len 3 && (decide (c' = c) && decide ((pc : Int) + off = (a : Int)))
    | _ => false
  | .if_icmp c _ => match raw with
    | .if_icmp c' off => Nat.beq len 3 && (decide (c' = c) && decide ((pc : Int) + off = (a : Int)))
    | _ => false
  | .goto _ => match raw with
    | .goto off => Nat.beq len 3 && decide ((pc : Int) + off = (a : Int))
    | _ => false
  | .lookupswitch _ _ => match raw with
    | .tableswitch d lo hi offs => decide ((pc : Int) + d = (a : Int)) && (decide (hi + 1 = lo + offs.toList.length) && match x_nth x_swt b with
      | some sw => x_swt_ok pc lo offs.toList sw
      | none => false)
    | .lookupswitch d ps => decide ((pc : Int) + d = (a : Int)) && ((ps.toList.zip (ps.toList.drop 1)).all (fun (x, next) => x.1 < next.1) && match x_nth x_swt b with
      | some sw => x_swl_ok pc ps.toList sw
      | none => false)
    | _ => false
  | .getfield _ => match raw with
    | .getfield k => Nat.beq len 3 && (Nat.blt a 8 && (Nat.blt b (x_clN a) && (Nat.beq (x_ft a b) (x_tag v) && x_has (x_num v) (.fieldLink (x_cn M.2.1) k (x_cn a) (x_fld a b).2.1 (x_fld a b).2.2.1))))
    | _ => false
  | .putfield _ => match raw with
    | .putfield k => Nat.beq len 3 && (Nat.blt a 8 && (Nat.blt b (x_clN a) && (Nat.beq (x_ft a b) (x_tag v) && (x_has (x_num v) (.fieldLink (x_cn M.2.1) k (x_cn a) (x_fld a b).2.1 (x_fld a b).2.2.1) && (!(x_fld a b).2.2.2 || (decide ((x_y M.1).name = "<init>") && Nat.beq a M.2.1))))))
    | _ => false
  | .invokevirtual _ => match raw with
    | .invokevirtual k => Nat.beq len 3 && (Nat.beq (x_kd a) 0 && x_has b (.methodLink (x_cn M.2.1) k (x_y a)))
    | _ => false
  | .invokespecial _ => match raw with
    | .invokespecial k => Nat.beq len 3 && (Nat.beq (x_kd a) 2 && (x_has b (.methodLink (x_cn M.2.1) k (x_y a)) || x_has b (.methodLinkNest (x_cn M.2.1) k (x_y a) "SnowTracks")))
    | _ => false
  | .invokestatic _ => match raw with
    | .invokestatic k => Nat.beq len 3 && (Nat.beq (x_kd a) 1 && (x_has b (.methodLink (x_cn M.2.1) k (x_y a)) || x_has b (.methodLinkNest (x_cn M.2.1) k (x_y a) "SnowTracks")))
    | _ => false
  | .invokedynamic _ => match raw with
    | .invokespecial k => Nat.beq len 3 && (x_has b (.methodLink (x_cn M.2.1) k Lib.objectInit) && (Nat.ble 1 M.2.2.2.1 && Nat.ble 20 M.2.2.2.2.1))
    | _ => false
  | .invokeinterface _ _ => match raw with
    | .invokestatic k => Nat.beq len 3 && (x_has b (.methodLink (x_cn M.2.1) k arraycopyName) && (Nat.ble 1 M.2.2.2.1 && Nat.ble 60 M.2.2.2.2.1))
    | _ => false
  | .dadd => match raw with
    | .invokestatic k => Nat.beq len 3 && (x_has b (.methodLink (x_cn M.2.1) k Lib.Math.max.name) && (Nat.ble 1 M.2.2.2.1 && Nat.ble 21 M.2.2.2.2.1))
    | _ => false
  | .dsub => match raw with
    | .invokestatic k => Nat.beq len 3 && (x_has b (.methodLink (x_cn M.2.1) k Lib.Math.min.name) && (Nat.ble 1 M.2.2.2.1 && Nat.ble 21 M.2.2.2.2.1))
    | _ => false
  | .dneg => match raw with
    | .invokestatic k => Nat.beq len 3 && (x_has b (.methodLink (x_cn M.2.1) k Lib.Math.abs.name) && (Nat.ble 1 M.2.2.2.1 && Nat.ble 21 M.2.2.2.2.1))
    | _ => false
  | .new _ => match raw with
    | .new k => Nat.beq len 3 && (Nat.blt a 8 && (Nat.beq b (x_clN a) && x_has (x_num v) (.classLink (x_cn M.2.1) k (x_cn a))))
    | _ => false
  | .newarray t => match raw with
    | .newarray t' => Nat.beq len 2 && decide (t' = t)
    | _ => false
  | .anewarray _ => match raw with
    | .anewarray k => Nat.beq len 3 && x_has b (.classLink (x_cn M.2.1) k "SnowTracks$Pass")
    | _ => false
  | .multianewarray _ _ => match raw with
    | .multianewarray k d => Nat.beq len 4 && (Nat.beq d 2 && x_has b (.classLink (x_cn M.2.1) k "[[I"))
    | _ => false
  | i => Nat.beq len 1 && decide (raw = i)
def x_okr (M : xK) (r : xRow) : Bool := match decode (x_by M.1) r.1 with
  | .ok (raw, len) => Nat.beq r.2.2.1 (r.1 + len) && x_oki M r.1 raw len r.2.1 r.2.2.2.1 r.2.2.2.2.1 r.2.2.2.2.2
  | .error _ => false
def x_okM (M : xM) : Bool := M.2.2.2.2.2.2.1.all (x_okr (M.1, M.2.1, M.2.2.1, M.2.2.2.2.2.1))
end
section
/-- what the table says of a method that is called: its code, its class, its kind (0 of an object, 1 static, 2 a constructor) -/
def x_cok (a : Nat) (M : xM) : Bool := match x_nth x_cp a with
  | none => false
  | some (pc, pi, pm, ps, kd) => Nat.beq M.1 a && (x_has pc (.code (x_y a) (x_by a) M.2.2.1 (x_rty M.2.2.2.2.1)) && (x_has pi (.initialized (x_y a).cls) && (decide ((x_y a).cls = x_cn M.2.1) && (Jvm.plainName (x_y a).cls && (decide ((x_y a).cls ≠ "java/lang/invoke/MethodHandle" ∧ (x_y a).cls ≠ "java/lang/invoke/VarHandle") && (match kd with
    | 1 => x_has pm (.static (x_y a)) && (decide ((parseMethodDescriptor (x_y a).desc).map (fun d => d.parameters.length) = some M.2.2.2.1) && Nat.beq M.2.2.2.1 M.2.2.2.1)
    | 0 => x_has pm (.instanceMethod (x_y a)) && (x_has ps (.selects (x_y a).cls (x_y a) (x_y a)) && (decide ((parseMethodDescriptor (x_y a).desc).map (fun d => d.parameters.length + 1) = some M.2.2.2.1) && Nat.blt M.2.1 8))
    | _ => x_has pm (.instanceMethod (x_y a)) && (decide ((x_y a).name = "<init>") && (decide ((parseMethodDescriptor (x_y a).desc).map (fun d => d.parameters.length + 1) = some M.2.2.2.1) && (Nat.blt M.2.1 8 && Nat.beq M.2.2.2.2.1 0)))))))))
def x_allI (f : Nat → xM → Bool) : Nat → List xM → Bool
  | _, [] => true
  | k, M :: r => f k M && x_allI f (k + 1) r
theorem x_allI_at {f : Nat → xM → Bool} : ∀ (l : List xM) (k a : Nat) (M : xM), x_allI f k l = true → x_nth l a = some M → f (k + a) M = true
  | [], _, _, _, _, h => by cases h
  | N :: r, k, 0, M, h, e => by
    simp only [x_allI, Bool.and_eq_true] at h
    cases e
    exact h.1
  | N :: r, k, a + 1, M, h, e => by
    simp only [x_allI, Bool.and_eq_true] at h
    have := x_allI_at r (k + 1) a M h.2 e
    rwa [show k + (a + 1) = k + 1 + a by omega]
theorem x_allI_app {f : Nat → xM → Bool} : ∀ (l r : List xM) (k : Nat), x_allI f k l = true → x_allI f (k + l.length) r = true → x_allI f k (l ++ r) = true
  | [], _, _, _, h => h
  | N :: l, r, k, h1, h2 => by
    simp only [x_allI, Bool.and_eq_true, List.cons_append] at h1 ⊢
    exact ⟨h1.1, x_allI_app l r (k + 1) h1.2 (by rw [show k + 1 + l.length = k + (N :: l).length by simp [List.length_cons]; omega]; exact h2)⟩
end
section
theorem okl_0 : t_L_law_0.all (x_okr (226, 8, 4, 9, 322, 600000, 7302250)) = true := by decide +kernel
theorem okl_1 : t_L_law_1.all (x_okr (226, 8, 4, 9, 322, 600000, 7302250)) = true := by decide +kernel
theorem okl_2 : t_L_law_2.all (x_okr (226, 8, 4, 9, 322, 600000, 7302250)) = true := by decide +kernel
theorem okl_3 : t_L_law_3.all (x_okr (226, 8, 4, 9, 322, 600000, 7302250)) = true := by decide +kernel
theorem okl_4 : t_L_law_4.all (x_okr (226, 8, 4, 9, 322, 600000, 7302250)) = true := by decide +kernel
theorem okl_5 : t_L_law_5.all (x_okr (226, 8, 4, 9, 322, 600000, 7302250)) = true := by decide +kernel
theorem okl_6 : t_L_law_6.all (x_okr (226, 8, 4, 9, 322, 600000, 7302250)) = true := by decide +kernel
theorem okl_7 : t_L_law_7.all (x_okr (226, 8, 4, 9, 322, 600000, 7302250)) = true := by decide +kernel
theorem okl_8 : t_L_law_8.all (x_okr (226, 8, 4, 9, 322, 600000, 7302250)) = true := by decide +kernel
theorem okl_9 : t_L_law_9.all (x_okr (226, 8, 4, 9, 322, 600000, 7302250)) = true := by decide +kernel
theorem okl_10 : t_L_law_10.all (x_okr (226, 8, 4, 9, 322, 600000, 7302250)) = true := by decide +kernel
theorem okl_11 : t_L_law_11.all (x_okr (226, 8, 4, 9, 322, 600000, 7302250)) = true := by decide +kernel
end
section
theorem okl_12 : t_L_law_12.all (x_okr (226, 8, 4, 9, 322, 600000, 7302250)) = true := by decide +kernel
theorem okl_13 : t_L_law_13.all (x_okr (226, 8, 4, 9, 322, 600000, 7302250)) = true := by decide +kernel
theorem okl_14 : t_L_law_14.all (x_okr (226, 8, 4, 9, 322, 600000, 7302250)) = true := by decide +kernel
theorem okl_15 : t_L_law_15.all (x_okr (226, 8, 4, 9, 322, 600000, 7302250)) = true := by decide +kernel
theorem okl_16 : t_L_law_16.all (x_okr (226, 8, 4, 9, 322, 600000, 7302250)) = true := by decide +kernel
theorem okl_17 : t_L_law_17.all (x_okr (226, 8, 4, 9, 322, 600000, 7302250)) = true := by decide +kernel
theorem okl_18 : t_L_law_18.all (x_okr (226, 8, 4, 9, 322, 600000, 7302250)) = true := by decide +kernel
theorem okl_19 : t_L_law_19.all (x_okr (226, 8, 4, 9, 322, 600000, 7302250)) = true := by decide +kernel
theorem okl_20 : t_L_law_20.all (x_okr (226, 8, 4, 9, 322, 600000, 7302250)) = true := by decide +kernel
theorem okl_21 : t_L_law_21.all (x_okr (226, 8, 4, 9, 322, 600000, 7302250)) = true := by decide +kernel
theorem okl_22 : t_L_law_22.all (x_okr (226, 8, 4, 9, 322, 600000, 7302250)) = true := by decide +kernel
theorem okl_23 : t_L_law_23.all (x_okr (226, 8, 4, 9, 322, 600000, 7302250)) = true := by decide +kernel
theorem ok_L_law (b L : Nat) (xs : Nat → Int32) : x_okM (m_L_law b L xs) = true := by
  show t_L_law.all (x_okr (226, 8, 4, 9, 322, 600000, 7302250)) = true
  simp only [t_L_law, List.all_append, Bool.and_eq_true]
  exact ⟨okl_0, okl_1, okl_2, okl_3, okl_4, okl_5, okl_6, okl_7, okl_8, okl_9, okl_10, okl_11, okl_12, okl_13, okl_14, okl_15, okl_16, okl_17, okl_18, okl_19, okl_20, okl_21, okl_22, okl_23⟩
end
section
theorem ok_S_init : x_okM m_S_init = true := by decide +kernel
theorem ok_H_init : x_okM m_H_init = true := by decide +kernel
theorem ok_J_fill : x_okM m_J_fill = true := by decide +kernel
theorem ok_P_init : x_okM m_P_init = true := by decide +kernel
theorem ok_R_init : x_okM m_R_init = true := by decide +kernel
theorem ok_G_init : x_okM m_G_init = true := by decide +kernel
theorem ok_D_init : x_okM m_D_init = true := by decide +kernel
theorem ok_F_init : x_okM m_F_init = true := by decide +kernel
theorem ok_S_row : x_okM m_S_row = true := by decide +kernel
theorem ok_H_isNumber : x_okM m_H_isNumber = true := by decide +kernel
theorem ok_S_refuse : x_okM m_S_refuse = true := by decide +kernel
theorem ok_H_make : x_okM m_H_make = true := by decide +kernel
theorem ok_S_lay : x_okM m_S_lay = true := by decide +kernel
theorem ok_S_tellPlace : x_okM m_S_tellPlace = true := by decide +kernel
theorem ok_H_isThere : x_okM m_H_isThere = true := by decide +kernel
theorem ok_H_hasPlace : x_okM m_H_hasPlace = true := by decide +kernel
theorem ok_S_at : x_okM m_S_at = true := by decide +kernel
theorem ok_S_tear : x_okM m_S_tear = true := by decide +kernel
theorem ok_S_copy : x_okM m_S_copy = true := by decide +kernel
theorem ok_H_hasPlaces : x_okM m_H_hasPlaces = true := by decide +kernel
theorem ok_S_mean : x_okM m_S_mean = true := by decide +kernel
theorem ok_H_sum : x_okM m_H_sum = true := by decide +kernel
theorem ok_S_text : x_okM m_S_text = true := by decide +kernel
theorem ok_S_put : x_okM m_S_put = true := by decide +kernel
theorem ok_S_fault : x_okM m_S_fault = true := by decide +kernel
theorem ok_R_read : x_okM m_R_read = true := by decide +kernel
theorem ok_P_clear : x_okM m_P_clear = true := by decide +kernel
theorem ok_R_readItem : x_okM m_R_readItem = true := by decide +kernel
theorem ok_R_signAt : x_okM m_R_signAt = true := by decide +kernel
theorem ok_R_kindOf : x_okM m_R_kindOf = true := by decide +kernel
theorem ok_R_readTrack : x_okM m_R_readTrack = true := by decide +kernel
theorem ok_R_figureOf : x_okM m_R_figureOf = true := by decide +kernel
theorem ok_P_addTrack : x_okM m_P_addTrack = true := by decide +kernel
theorem ok_P_isTrack : x_okM m_P_isTrack = true := by decide +kernel
theorem ok_R_readCrossing : x_okM m_R_readCrossing = true := by decide +kernel
theorem ok_P_areTwo : x_okM m_P_areTwo = true := by decide +kernel
theorem ok_P_addCrossing : x_okM m_P_addCrossing = true := by decide +kernel
theorem ok_S_pass : x_okM m_S_pass = true := by decide +kernel
theorem ok_P_takeFrom : x_okM m_P_takeFrom = true := by decide +kernel
theorem ok_S_track : x_okM m_S_track = true := by decide +kernel
theorem ok_P_ofTrack : x_okM m_P_ofTrack = true := by decide +kernel
theorem ok_P_timesIn : x_okM m_P_timesIn = true := by decide +kernel
theorem ok_S_crossing : x_okM m_S_crossing = true := by decide +kernel
theorem ok_P_tells : x_okM m_P_tells = true := by decide +kernel
theorem ok_P_tellsAsOver : x_okM m_P_tellsAsOver = true := by decide +kernel
theorem ok_P_tellsAsBeneath : x_okM m_P_tellsAsBeneath = true := by decide +kernel
theorem ok_P_pairOf : x_okM m_P_pairOf = true := by decide +kernel
theorem ok_S_mark : x_okM m_S_mark = true := by decide +kernel
theorem ok_P_isOfKind : x_okM m_P_isOfKind = true := by decide +kernel
theorem ok_P_isSuch : x_okM m_P_isSuch = true := by decide +kernel
theorem ok_P_silentAt : x_okM m_P_silentAt = true := by decide +kernel
theorem ok_P_tracksCrossed : x_okM m_P_tracksCrossed = true := by decide +kernel
theorem ok_P_opposite : x_okM m_P_opposite = true := by decide +kernel
theorem ok_J_bitCount : x_okM m_J_bitCount = true := by decide +kernel
theorem ok_P_haresUnder : x_okM m_P_haresUnder = true := by decide +kernel
theorem ok_S_has : x_okM m_S_has = true := by decide +kernel
theorem ok_P_ofKind : x_okM m_P_ofKind = true := by decide +kernel
theorem ok_S_wind : x_okM m_S_wind = true := by decide +kernel
theorem ok_S_fill : x_okM m_S_fill = true := by decide +kernel
theorem ok_S_cross : x_okM m_S_cross = true := by decide +kernel
theorem ok_S_snow : x_okM m_S_snow = true := by decide +kernel
theorem ok_S_keep : x_okM m_S_keep = true := by decide +kernel
theorem ok_S_on : x_okM m_S_on = true := by decide +kernel
theorem ok_S_isKept : x_okM m_S_isKept = true := by decide +kernel
theorem ok_S_ahead : x_okM m_S_ahead = true := by decide +kernel
theorem ok_G_takeAll : x_okM m_G_takeAll = true := by decide +kernel
theorem ok_G_clear : x_okM m_G_clear = true := by decide +kernel
theorem ok_G_addCrossings : x_okM m_G_addCrossings = true := by decide +kernel
theorem ok_G_addWind : x_okM m_G_addWind = true := by decide +kernel
theorem ok_P_windTells : x_okM m_P_windTells = true := by decide +kernel
theorem ok_S_orders : x_okM m_S_orders = true := by decide +kernel
theorem ok_G_countOnward : x_okM m_G_countOnward = true := by decide +kernel
theorem ok_G_canFollow : x_okM m_G_canFollow = true := by decide +kernel
theorem ok_S_tellFraction : x_okM m_S_tellFraction = true := by decide +kernel
theorem ok_S_first : x_okM m_S_first = true := by decide +kernel
theorem ok_S_layOrder : x_okM m_S_layOrder = true := by decide +kernel
theorem ok_G_findOrder : x_okM m_G_findOrder = true := by decide +kernel
theorem ok_S_nth : x_okM m_S_nth = true := by decide +kernel
theorem ok_S_sure : x_okM m_S_sure = true := by decide +kernel
theorem ok_S_closesToRing : x_okM m_S_closesToRing = true := by decide +kernel
theorem ok_G_close : x_okM m_G_close = true := by decide +kernel
theorem ok_G_layersOf : x_okM m_G_layersOf = true := by decide +kernel
theorem ok_G_foremostOf : x_okM m_G_foremostOf = true := by decide +kernel
theorem ok_S_odds : x_okM m_S_odds = true := by decide +kernel
theorem ok_G_countCome : x_okM m_G_countCome = true := by decide +kernel
theorem ok_G_ordersWith : x_okM m_G_ordersWith = true := by decide +kernel
theorem ok_S_place : x_okM m_S_place = true := by decide +kernel
theorem ok_G_surelyAheadOf : x_okM m_G_surelyAheadOf = true := by decide +kernel
theorem ok_S_judge : x_okM m_S_judge = true := by decide +kernel
theorem ok_S_findingOfOrder : x_okM m_S_findingOfOrder = true := by decide +kernel
theorem ok_H_indexOf : x_okM m_H_indexOf = true := by decide +kernel
theorem ok_S_meet : x_okM m_S_meet = true := by decide +kernel
theorem ok_S_chain : x_okM m_S_chain = true := by decide +kernel
theorem ok_S_ring : x_okM m_S_ring = true := by decide +kernel
theorem ok_G_findRing : x_okM m_G_findRing = true := by decide +kernel
theorem ok_G_stepBack : x_okM m_G_stepBack = true := by decide +kernel
theorem ok_G_followRing : x_okM m_G_followRing = true := by decide +kernel
theorem ok_S_wrong : x_okM m_S_wrong = true := by decide +kernel
theorem ok_D_clear : x_okM m_D_clear = true := by decide +kernel
theorem ok_D_addPair : x_okM m_D_addPair = true := by decide +kernel
theorem ok_D_leastWeight : x_okM m_D_leastWeight = true := by decide +kernel
theorem ok_D_weightAgainst : x_okM m_D_weightAgainst = true := by decide +kernel
theorem ok_S_twice : x_okM m_S_twice = true := by decide +kernel
theorem ok_S_look : x_okM m_S_look = true := by decide +kernel
theorem ok_S_hide : x_okM m_S_hide = true := by decide +kernel
theorem ok_P_tellingOutOf : x_okM m_P_tellingOutOf = true := by decide +kernel
theorem ok_S_people : x_okM m_S_people = true := by decide +kernel
theorem ok_F_take : x_okM m_F_take = true := by decide +kernel
theorem ok_F_topOf : x_okM m_F_topOf = true := by decide +kernel
theorem ok_F_mostWith : x_okM m_F_mostWith = true := by decide +kernel
theorem ok_F_fewest : x_okM m_F_fewest = true := by decide +kernel
theorem ok_S_story : x_okM m_S_story = true := by decide +kernel
theorem ok_S_findingOfClaims : x_okM m_S_findingOfClaims = true := by decide +kernel
theorem ok_S_aheadByClaim : x_okM m_S_aheadByClaim = true := by decide +kernel
theorem ok_S_behindByClaim : x_okM m_S_behindByClaim = true := by decide +kernel
theorem ok_G_addSure : x_okM m_G_addSure = true := by decide +kernel
theorem ok_S_hold : x_okM m_S_hold = true := by decide +kernel
theorem ok_S_believe : x_okM m_S_believe = true := by decide +kernel
theorem ok_S_walks : x_okM m_S_walks = true := by decide +kernel
theorem ok_S_walk : x_okM m_S_walk = true := by decide +kernel
theorem ok_S_asked : x_okM m_S_asked = true := by decide +kernel
theorem ok_S_upper : x_okM m_S_upper = true := by decide +kernel
theorem ok_S_lower : x_okM m_S_lower = true := by decide +kernel
theorem ok_S_count : x_okM m_S_count = true := by decide +kernel
theorem ok_S_howMany : x_okM m_S_howMany = true := by decide +kernel
theorem ok_P_telling : x_okM m_P_telling = true := by decide +kernel
theorem ok_S_keptPasses : x_okM m_S_keptPasses = true := by decide +kernel
theorem ok_H_there : x_okM m_H_there = true := by decide +kernel
theorem ok_S_finding : x_okM m_S_finding = true := by decide +kernel
theorem ok_S_findings : x_okM m_S_findings = true := by decide +kernel
theorem ok_S_digest : x_okM m_S_digest = true := by decide +kernel
theorem ok_H_addTo : x_okM m_H_addTo = true := by decide +kernel
theorem ok_M_init : x_okM m_M_init = true := by decide +kernel
theorem ok_M_row : x_okM m_M_row = true := by decide +kernel
theorem ok_M_isRow : x_okM m_M_isRow = true := by decide +kernel
theorem ok_M_in : x_okM m_M_in = true := by decide +kernel
theorem ok_M_finds : x_okM m_M_finds = true := by decide +kernel
theorem ok_M_lay : x_okM m_M_lay = true := by decide +kernel
theorem ok_M_rowBar : x_okM m_M_rowBar = true := by decide +kernel
theorem ok_M_tells : x_okM m_M_tells = true := by decide +kernel
theorem ok_M_at : x_okM m_M_at = true := by decide +kernel
theorem ok_M_tear : x_okM m_M_tear = true := by decide +kernel
theorem ok_M_copy : x_okM m_M_copy = true := by decide +kernel
theorem ok_M_mean : x_okM m_M_mean = true := by decide +kernel
theorem ok_M_text : x_okM m_M_text = true := by decide +kernel
theorem ok_M_isText : x_okM m_M_isText = true := by decide +kernel
theorem ok_M_put : x_okM m_M_put = true := by decide +kernel
theorem ok_M_textBar : x_okM m_M_textBar = true := by decide +kernel
theorem ok_M_fault : x_okM m_M_fault = true := by decide +kernel
theorem ok_M_readAll : x_okM m_M_readAll = true := by decide +kernel
theorem ok_M_byteAt : x_okM m_M_byteAt = true := by decide +kernel
theorem ok_M_isFigure : x_okM m_M_isFigure = true := by decide +kernel
theorem ok_M_readCrossing : x_okM m_M_readCrossing = true := by decide +kernel
theorem ok_M_readTrack : x_okM m_M_readTrack = true := by decide +kernel
theorem ok_M_kindBy : x_okM m_M_kindBy = true := by decide +kernel
theorem ok_M_pass : x_okM m_M_pass = true := by decide +kernel
theorem ok_M_track : x_okM m_M_track = true := by decide +kernel
theorem ok_M_isTrack : x_okM m_M_isTrack = true := by decide +kernel
theorem ok_M_trackOf : x_okM m_M_trackOf = true := by decide +kernel
theorem ok_M_crossing : x_okM m_M_crossing = true := by decide +kernel
theorem ok_M_isTelling : x_okM m_M_isTelling = true := by decide +kernel
theorem ok_M_letsOver : x_okM m_M_letsOver = true := by decide +kernel
theorem ok_M_isA : x_okM m_M_isA = true := by decide +kernel
theorem ok_M_letsUnder : x_okM m_M_letsUnder = true := by decide +kernel
theorem ok_M_mark : x_okM m_M_mark = true := by decide +kernel
theorem ok_M_beside : x_okM m_M_beside = true := by decide +kernel
theorem ok_M_bits : x_okM m_M_bits = true := by decide +kernel
theorem ok_M_allOf : x_okM m_M_allOf = true := by decide +kernel
theorem ok_M_wind : x_okM m_M_wind = true := by decide +kernel
theorem ok_M_fill : x_okM m_M_fill = true := by decide +kernel
theorem ok_M_cross : x_okM m_M_cross = true := by decide +kernel
theorem ok_M_arePair : x_okM m_M_arePair = true := by decide +kernel
theorem ok_M_snow : x_okM m_M_snow = true := by decide +kernel
theorem ok_M_keep : x_okM m_M_keep = true := by decide +kernel
theorem ok_M_on : x_okM m_M_on = true := by decide +kernel
theorem ok_M_ahead : x_okM m_M_ahead = true := by decide +kernel
theorem ok_M_findNow : x_okM m_M_findNow = true := by decide +kernel
theorem ok_M_findAhead : x_okM m_M_findAhead = true := by decide +kernel
theorem ok_M_has : x_okM m_M_has = true := by decide +kernel
theorem ok_M_isByWind : x_okM m_M_isByWind = true := by decide +kernel
theorem ok_M_findSurely : x_okM m_M_findSurely = true := by decide +kernel
theorem ok_M_orders : x_okM m_M_orders = true := by decide +kernel
theorem ok_M_countOrders : x_okM m_M_countOrders = true := by decide +kernel
theorem ok_M_parts : x_okM m_M_parts = true := by decide +kernel
theorem ok_M_first : x_okM m_M_first = true := by decide +kernel
theorem ok_M_putOrder : x_okM m_M_putOrder = true := by decide +kernel
theorem ok_M_nth : x_okM m_M_nth = true := by decide +kernel
theorem ok_M_sure : x_okM m_M_sure = true := by decide +kernel
theorem ok_M_isRingNow : x_okM m_M_isRingNow = true := by decide +kernel
theorem ok_M_isRing : x_okM m_M_isRing = true := by decide +kernel
theorem ok_M_odds : x_okM m_M_odds = true := by decide +kernel
theorem ok_M_countWith : x_okM m_M_countWith = true := by decide +kernel
theorem ok_M_place : x_okM m_M_place = true := by decide +kernel
theorem ok_M_behind : x_okM m_M_behind = true := by decide +kernel
theorem ok_M_judge : x_okM m_M_judge = true := by decide +kernel
theorem ok_M_orderBar : x_okM m_M_orderBar = true := by decide +kernel
theorem ok_M_meet : x_okM m_M_meet = true := by decide +kernel
theorem ok_M_isBetween : x_okM m_M_isBetween = true := by decide +kernel
theorem ok_M_chain : x_okM m_M_chain = true := by decide +kernel
theorem ok_M_findChains : x_okM m_M_findChains = true := by decide +kernel
theorem ok_M_ring : x_okM m_M_ring = true := by decide +kernel
theorem ok_M_ringBy : x_okM m_M_ringBy = true := by decide +kernel
theorem ok_M_findFar : x_okM m_M_findFar = true := by decide +kernel
theorem ok_M_wrong : x_okM m_M_wrong = true := by decide +kernel
theorem ok_M_tellingBits : x_okM m_M_tellingBits = true := by decide +kernel
theorem ok_M_twice : x_okM m_M_twice = true := by decide +kernel
theorem ok_M_look : x_okM m_M_look = true := by decide +kernel
theorem ok_M_hide : x_okM m_M_hide = true := by decide +kernel
theorem ok_M_people : x_okM m_M_people = true := by decide +kernel
theorem ok_M_areOnes : x_okM m_M_areOnes = true := by decide +kernel
theorem ok_M_story : x_okM m_M_story = true := by decide +kernel
theorem ok_M_claimBar : x_okM m_M_claimBar = true := by decide +kernel
theorem ok_M_claims : x_okM m_M_claims = true := by decide +kernel
theorem ok_M_hold : x_okM m_M_hold = true := by decide +kernel
theorem ok_M_believe : x_okM m_M_believe = true := by decide +kernel
theorem ok_M_walks : x_okM m_M_walks = true := by decide +kernel
theorem ok_M_asked : x_okM m_M_asked = true := by decide +kernel
theorem ok_M_upper : x_okM m_M_upper = true := by decide +kernel
theorem ok_M_lower : x_okM m_M_lower = true := by decide +kernel
theorem ok_M_count : x_okM m_M_count = true := by decide +kernel
theorem ok_M_counted : x_okM m_M_counted = true := by decide +kernel
theorem ok_M_finding : x_okM m_M_finding = true := by decide +kernel
theorem ok_M_findings : x_okM m_M_findings = true := by decide +kernel
theorem ok_M_digest : x_okM m_M_digest = true := by decide +kernel
theorem ok_M_mixPass : x_okM m_M_mixPass = true := by decide +kernel
theorem ok_M_mix : x_okM m_M_mix = true := by decide +kernel
end
section
theorem x_cok_0 : x_allI x_cok 0 [m_S_init, m_H_init, m_J_fill, m_P_init, m_R_init, m_G_init, m_D_init, m_F_init, m_S_row, m_H_isNumber, m_S_refuse, m_H_make, m_S_lay, m_S_tellPlace, m_H_isThere, m_H_hasPlace, m_S_at, m_S_tear, m_S_copy, m_H_hasPlaces] = true := by decide +kernel
theorem x_cok_1 : x_allI x_cok 20 [m_S_mean, m_H_sum, m_S_text, m_S_put, m_S_fault, m_R_read, m_P_clear, m_R_readItem, m_R_signAt, m_R_kindOf, m_R_readTrack, m_R_figureOf, m_P_addTrack, m_P_isTrack, m_R_readCrossing, m_P_areTwo, m_P_addCrossing, m_S_pass, m_P_takeFrom, m_S_track] = true := by decide +kernel
theorem x_cok_2 : x_allI x_cok 40 [m_P_ofTrack, m_P_timesIn, m_S_crossing, m_P_tells, m_P_tellsAsOver, m_P_tellsAsBeneath, m_P_pairOf, m_S_mark, m_P_isOfKind, m_P_isSuch, m_P_silentAt, m_P_tracksCrossed, m_P_opposite, m_J_bitCount, m_P_haresUnder, m_S_has, m_P_ofKind, m_S_wind, m_S_fill, m_S_cross] = true := by decide +kernel
theorem x_cok_3 : x_allI x_cok 60 [m_S_snow, m_S_keep, m_S_on, m_S_isKept, m_S_ahead, m_G_takeAll, m_G_clear, m_G_addCrossings, m_G_addWind, m_P_windTells, m_S_orders, m_G_countOnward, m_G_canFollow, m_S_tellFraction, m_S_first, m_S_layOrder, m_G_findOrder, m_S_nth, m_S_sure, m_S_closesToRing] = true := by decide +kernel
theorem x_cok_4 : x_allI x_cok 80 [m_G_close, m_G_layersOf, m_G_foremostOf, m_S_odds, m_G_countCome, m_G_ordersWith, m_S_place, m_G_surelyAheadOf, m_S_judge, m_S_findingOfOrder, m_H_indexOf, m_S_meet, m_S_chain, m_S_ring, m_G_findRing, m_G_stepBack, m_G_followRing, m_S_wrong, m_D_clear, m_D_addPair] = true := by decide +kernel
theorem x_cok_5 : x_allI x_cok 100 [m_D_leastWeight, m_D_weightAgainst, m_S_twice, m_S_look, m_S_hide, m_P_tellingOutOf, m_S_people, m_F_take, m_F_topOf, m_F_mostWith, m_F_fewest, m_S_story, m_S_findingOfClaims, m_S_aheadByClaim, m_S_behindByClaim, m_G_addSure, m_S_hold, m_S_believe, m_S_walks, m_S_walk] = true := by decide +kernel
theorem x_cok_6 : x_allI x_cok 120 [m_S_asked, m_S_upper, m_S_lower, m_S_count, m_S_howMany, m_P_telling, m_S_keptPasses, m_H_there, m_S_finding, m_S_findings, m_S_digest, m_H_addTo, m_M_init, m_M_row, m_M_isRow, m_M_in, m_M_finds, m_M_lay, m_M_rowBar, m_M_tells] = true := by decide +kernel
theorem x_cok_7 : x_allI x_cok 140 [m_M_at, m_M_tear, m_M_copy, m_M_mean, m_M_text, m_M_isText, m_M_put, m_M_textBar, m_M_fault, m_M_readAll, m_M_byteAt, m_M_isFigure, m_M_readCrossing, m_M_readTrack, m_M_kindBy, m_M_pass, m_M_track, m_M_isTrack, m_M_trackOf, m_M_crossing] = true := by decide +kernel
theorem x_cok_8 : x_allI x_cok 160 [m_M_isTelling, m_M_letsOver, m_M_isA, m_M_letsUnder, m_M_mark, m_M_beside, m_M_bits, m_M_allOf, m_M_wind, m_M_fill, m_M_cross, m_M_arePair, m_M_snow, m_M_keep, m_M_on, m_M_ahead, m_M_findNow, m_M_findAhead, m_M_has, m_M_isByWind] = true := by decide +kernel
theorem x_cok_9 : x_allI x_cok 180 [m_M_findSurely, m_M_orders, m_M_countOrders, m_M_parts, m_M_first, m_M_putOrder, m_M_nth, m_M_sure, m_M_isRingNow, m_M_isRing, m_M_odds, m_M_countWith, m_M_place, m_M_behind, m_M_judge, m_M_orderBar, m_M_meet, m_M_isBetween, m_M_chain, m_M_findChains] = true := by decide +kernel
theorem x_cok_10 : x_allI x_cok 200 [m_M_ring, m_M_ringBy, m_M_findFar, m_M_wrong, m_M_tellingBits, m_M_twice, m_M_look, m_M_hide, m_M_people, m_M_areOnes, m_M_story, m_M_claimBar, m_M_claims, m_M_hold, m_M_believe, m_M_walks, m_M_asked, m_M_upper, m_M_lower, m_M_count] = true := by decide +kernel
theorem x_cok_11 : x_allI x_cok 220 [m_M_counted, m_M_finding, m_M_findings, m_M_digest, m_M_mixPass, m_M_mix] = true := by decide +kernel
set_option maxRecDepth 100000 in
theorem x_tab_cok : x_allI x_cok 0 x_tab = true := by
  show x_allI x_cok 0 ([m_S_init, m_H_init, m_J_fill, m_P_init, m_R_init, m_G_init, m_D_init, m_F_init, m_S_row, m_H_isNumber, m_S_refuse, m_H_make, m_S_lay, m_S_tellPlace, m_H_isThere, m_H_hasPlace, m_S_at, m_S_tear, m_S_copy, m_H_hasPlaces] ++ ([m_S_mean, m_H_sum, m_S_text, m_S_put, m_S_fault, m_R_read, m_P_clear, m_R_readItem, m_R_signAt, m_R_kindOf, m_R_readTrack, m_R_figureOf, m_P_addTrack, m_P_isTrack, m_R_readCrossing, m_P_areTwo, m_P_addCrossing, m_S_pass, m_P_takeFrom, m_S_track] ++ ([m_P_ofTrack, m_P_timesIn, m_S_crossing, m_P_tells, m_P_tellsAsOver, m_P_tellsAsBeneath, m_P_pairOf, m_S_mark, m_P_isOfKind, m_P_isSuch, m_P_silentAt, m_P_tracksCrossed, m_P_opposite, m_J_bitCount, m_P_haresUnder, m_S_has, m_P_ofKind, m_S_wind, m_S_fill, m_S_cross] ++ ([m_S_snow, m_S_keep, m_S_on, m_S_isKept, m_S_ahead, m_G_takeAll, m_G_clear, m_G_addCrossings, m_G_addWind, m_P_windTells, m_S_orders, m_G_countOnward, m_G_canFollow, m_S_tellFraction, m_S_first, m_S_layOrder, m_G_findOrder, m_S_nth, m_S_sure, m_S_closesToRing] ++ ([m_G_close, m_G_layersOf, m_G_foremostOf, m_S_odds, m_G_countCome, m_G_ordersWith, m_S_place, m_G_surelyAheadOf, m_S_judge, m_S_findingOfOrder, m_H_indexOf, m_S_meet, m_S_chain, m_S_ring, m_G_findRing, m_G_stepBack, m_G_followRing, m_S_wrong, m_D_clear, m_D_addPair] ++ ([m_D_leastWeight, m_D_weightAgainst, m_S_twice, m_S_look, m_S_hide, m_P_tellingOutOf, m_S_people, m_F_take, m_F_topOf, m_F_mostWith, m_F_fewest, m_S_story, m_S_findingOfClaims, m_S_aheadByClaim, m_S_behindByClaim, m_G_addSure, m_S_hold, m_S_believe, m_S_walks, m_S_walk] ++ ([m_S_asked, m_S_upper, m_S_lower, m_S_count, m_S_howMany, m_P_telling, m_S_keptPasses, m_H_there, m_S_finding, m_S_findings, m_S_digest, m_H_addTo, m_M_init, m_M_row, m_M_isRow, m_M_in, m_M_finds, m_M_lay, m_M_rowBar, m_M_tells] ++ ([m_M_at, m_M_tear, m_M_copy, m_M_mean, m_M_text, m_M_isText, m_M_put, m_M_textBar, m_M_fault, m_M_readAll, m_M_byteAt, m_M_isFigure, m_M_readCrossing, m_M_readTrack, m_M_kindBy, m_M_pass, m_M_track, m_M_isTrack, m_M_trackOf, m_M_crossing] ++ ([m_M_isTelling, m_M_letsOver, m_M_isA, m_M_letsUnder, m_M_mark, m_M_beside, m_M_bits, m_M_allOf, m_M_wind, m_M_fill, m_M_cross, m_M_arePair, m_M_snow, m_M_keep, m_M_on, m_M_ahead, m_M_findNow, m_M_findAhead, m_M_has, m_M_isByWind] ++ ([m_M_findSurely, m_M_orders, m_M_countOrders, m_M_parts, m_M_first, m_M_putOrder, m_M_nth, m_M_sure, m_M_isRingNow, m_M_isRing, m_M_odds, m_M_countWith, m_M_place, m_M_behind, m_M_judge, m_M_orderBar, m_M_meet, m_M_isBetween, m_M_chain, m_M_findChains] ++ ([m_M_ring, m_M_ringBy, m_M_findFar, m_M_wrong, m_M_tellingBits, m_M_twice, m_M_look, m_M_hide, m_M_people, m_M_areOnes, m_M_story, m_M_claimBar, m_M_claims, m_M_hold, m_M_believe, m_M_walks, m_M_asked, m_M_upper, m_M_lower, m_M_count] ++ ([m_M_counted, m_M_finding, m_M_findings, m_M_digest, m_M_mixPass, m_M_mix])))))))))))) = true
  refine x_allI_app _ _ _ x_cok_0 ?_
  refine x_allI_app _ _ _ x_cok_1 ?_
  refine x_allI_app _ _ _ x_cok_2 ?_
  refine x_allI_app _ _ _ x_cok_3 ?_
  refine x_allI_app _ _ _ x_cok_4 ?_
  refine x_allI_app _ _ _ x_cok_5 ?_
  refine x_allI_app _ _ _ x_cok_6 ?_
  refine x_allI_app _ _ _ x_cok_7 ?_
  refine x_allI_app _ _ _ x_cok_8 ?_
  refine x_allI_app _ _ _ x_cok_9 ?_
  refine x_allI_app _ _ _ x_cok_10 ?_
  exact x_cok_11
set_option maxRecDepth 100000 in
theorem x_tab_ok : ∀ M ∈ x_tab, x_okM M = true := by
  show ∀ M ∈ ([m_S_init, m_H_init, m_J_fill, m_P_init, m_R_init, m_G_init, m_D_init, m_F_init, m_S_row, m_H_isNumber, m_S_refuse, m_H_make, m_S_lay, m_S_tellPlace, m_H_isThere, m_H_hasPlace, m_S_at, m_S_tear, m_S_copy, m_H_hasPlaces] ++ ([m_S_mean, m_H_sum, m_S_text, m_S_put, m_S_fault, m_R_read, m_P_clear, m_R_readItem, m_R_signAt, m_R_kindOf, m_R_readTrack, m_R_figureOf, m_P_addTrack, m_P_isTrack, m_R_readCrossing, m_P_areTwo, m_P_addCrossing, m_S_pass, m_P_takeFrom, m_S_track] ++ ([m_P_ofTrack, m_P_timesIn, m_S_crossing, m_P_tells, m_P_tellsAsOver, m_P_tellsAsBeneath, m_P_pairOf, m_S_mark, m_P_isOfKind, m_P_isSuch, m_P_silentAt, m_P_tracksCrossed, m_P_opposite, m_J_bitCount, m_P_haresUnder, m_S_has, m_P_ofKind, m_S_wind, m_S_fill, m_S_cross] ++ ([m_S_snow, m_S_keep, m_S_on, m_S_isKept, m_S_ahead, m_G_takeAll, m_G_clear, m_G_addCrossings, m_G_addWind, m_P_windTells, m_S_orders, m_G_countOnward, m_G_canFollow, m_S_tellFraction, m_S_first, m_S_layOrder, m_G_findOrder, m_S_nth, m_S_sure, m_S_closesToRing] ++ ([m_G_close, m_G_layersOf, m_G_foremostOf, m_S_odds, m_G_countCome, m_G_ordersWith, m_S_place, m_G_surelyAheadOf, m_S_judge, m_S_findingOfOrder, m_H_indexOf, m_S_meet, m_S_chain, m_S_ring, m_G_findRing, m_G_stepBack, m_G_followRing, m_S_wrong, m_D_clear, m_D_addPair] ++ ([m_D_leastWeight, m_D_weightAgainst, m_S_twice, m_S_look, m_S_hide, m_P_tellingOutOf, m_S_people, m_F_take, m_F_topOf, m_F_mostWith, m_F_fewest, m_S_story, m_S_findingOfClaims, m_S_aheadByClaim, m_S_behindByClaim, m_G_addSure, m_S_hold, m_S_believe, m_S_walks, m_S_walk] ++ ([m_S_asked, m_S_upper, m_S_lower, m_S_count, m_S_howMany, m_P_telling, m_S_keptPasses, m_H_there, m_S_finding, m_S_findings, m_S_digest, m_H_addTo, m_M_init, m_M_row, m_M_isRow, m_M_in, m_M_finds, m_M_lay, m_M_rowBar, m_M_tells] ++ ([m_M_at, m_M_tear, m_M_copy, m_M_mean, m_M_text, m_M_isText, m_M_put, m_M_textBar, m_M_fault, m_M_readAll, m_M_byteAt, m_M_isFigure, m_M_readCrossing, m_M_readTrack, m_M_kindBy, m_M_pass, m_M_track, m_M_isTrack, m_M_trackOf, m_M_crossing] ++ ([m_M_isTelling, m_M_letsOver, m_M_isA, m_M_letsUnder, m_M_mark, m_M_beside, m_M_bits, m_M_allOf, m_M_wind, m_M_fill, m_M_cross, m_M_arePair, m_M_snow, m_M_keep, m_M_on, m_M_ahead, m_M_findNow, m_M_findAhead, m_M_has, m_M_isByWind] ++ ([m_M_findSurely, m_M_orders, m_M_countOrders, m_M_parts, m_M_first, m_M_putOrder, m_M_nth, m_M_sure, m_M_isRingNow, m_M_isRing, m_M_odds, m_M_countWith, m_M_place, m_M_behind, m_M_judge, m_M_orderBar, m_M_meet, m_M_isBetween, m_M_chain, m_M_findChains] ++ ([m_M_ring, m_M_ringBy, m_M_findFar, m_M_wrong, m_M_tellingBits, m_M_twice, m_M_look, m_M_hide, m_M_people, m_M_areOnes, m_M_story, m_M_claimBar, m_M_claims, m_M_hold, m_M_believe, m_M_walks, m_M_asked, m_M_upper, m_M_lower, m_M_count] ++ ([m_M_counted, m_M_finding, m_M_findings, m_M_digest, m_M_mixPass, m_M_mix])))))))))))), x_okM M = true
  simp only [List.forall_mem_append, List.forall_mem_cons]
  exact ⟨⟨ok_S_init, ok_H_init, ok_J_fill, ok_P_init, ok_R_init, ok_G_init, ok_D_init, ok_F_init, ok_S_row, ok_H_isNumber, ok_S_refuse, ok_H_make, ok_S_lay, ok_S_tellPlace, ok_H_isThere, ok_H_hasPlace, ok_S_at, ok_S_tear, ok_S_copy, ok_H_hasPlaces, fun _ h => absurd h List.not_mem_nil⟩, ⟨ok_S_mean, ok_H_sum, ok_S_text, ok_S_put, ok_S_fault, ok_R_read, ok_P_clear, ok_R_readItem, ok_R_signAt, ok_R_kindOf, ok_R_readTrack, ok_R_figureOf, ok_P_addTrack, ok_P_isTrack, ok_R_readCrossing, ok_P_areTwo, ok_P_addCrossing, ok_S_pass, ok_P_takeFrom, ok_S_track, fun _ h => absurd h List.not_mem_nil⟩, ⟨ok_P_ofTrack, ok_P_timesIn, ok_S_crossing, ok_P_tells, ok_P_tellsAsOver, ok_P_tellsAsBeneath, ok_P_pairOf, ok_S_mark, ok_P_isOfKind, ok_P_isSuch, ok_P_silentAt, ok_P_tracksCrossed, ok_P_opposite, ok_J_bitCount, ok_P_haresUnder, ok_S_has, ok_P_ofKind, ok_S_wind, ok_S_fill, ok_S_cross, fun _ h => absurd h List.not_mem_nil⟩, ⟨ok_S_snow, ok_S_keep, ok_S_on, ok_S_isKept, ok_S_ahead, ok_G_takeAll, ok_G_clear, ok_G_addCrossings, ok_G_addWind, ok_P_windTells, ok_S_orders, ok_G_countOnward, ok_G_canFollow, ok_S_tellFraction, ok_S_first, ok_S_layOrder, ok_G_findOrder, ok_S_nth, ok_S_sure, ok_S_closesToRing, fun _ h => absurd h List.not_mem_nil⟩, ⟨ok_G_close, ok_G_layersOf, ok_G_foremostOf, ok_S_odds, ok_G_countCome, ok_G_ordersWith, ok_S_place, ok_G_surelyAheadOf, ok_S_judge, ok_S_findingOfOrder, ok_H_indexOf, ok_S_meet, ok_S_chain, ok_S_ring, ok_G_findRing, ok_G_stepBack, ok_G_followRing, ok_S_wrong, ok_D_clear, ok_D_addPair, fun _ h => absurd h List.not_mem_nil⟩, ⟨ok_D_leastWeight, ok_D_weightAgainst, ok_S_twice, ok_S_look, ok_S_hide, ok_P_tellingOutOf, ok_S_people, ok_F_take, ok_F_topOf, ok_F_mostWith, ok_F_fewest, ok_S_story, ok_S_findingOfClaims, ok_S_aheadByClaim, ok_S_behindByClaim, ok_G_addSure, ok_S_hold, ok_S_believe, ok_S_walks, ok_S_walk, fun _ h => absurd h List.not_mem_nil⟩, ⟨ok_S_asked, ok_S_upper, ok_S_lower, ok_S_count, ok_S_howMany, ok_P_telling, ok_S_keptPasses, ok_H_there, ok_S_finding, ok_S_findings, ok_S_digest, ok_H_addTo, ok_M_init, ok_M_row, ok_M_isRow, ok_M_in, ok_M_finds, ok_M_lay, ok_M_rowBar, ok_M_tells, fun _ h => absurd h List.not_mem_nil⟩, ⟨ok_M_at, ok_M_tear, ok_M_copy, ok_M_mean, ok_M_text, ok_M_isText, ok_M_put, ok_M_textBar, ok_M_fault, ok_M_readAll, ok_M_byteAt, ok_M_isFigure, ok_M_readCrossing, ok_M_readTrack, ok_M_kindBy, ok_M_pass, ok_M_track, ok_M_isTrack, ok_M_trackOf, ok_M_crossing, fun _ h => absurd h List.not_mem_nil⟩, ⟨ok_M_isTelling, ok_M_letsOver, ok_M_isA, ok_M_letsUnder, ok_M_mark, ok_M_beside, ok_M_bits, ok_M_allOf, ok_M_wind, ok_M_fill, ok_M_cross, ok_M_arePair, ok_M_snow, ok_M_keep, ok_M_on, ok_M_ahead, ok_M_findNow, ok_M_findAhead, ok_M_has, ok_M_isByWind, fun _ h => absurd h List.not_mem_nil⟩, ⟨ok_M_findSurely, ok_M_orders, ok_M_countOrders, ok_M_parts, ok_M_first, ok_M_putOrder, ok_M_nth, ok_M_sure, ok_M_isRingNow, ok_M_isRing, ok_M_odds, ok_M_countWith, ok_M_place, ok_M_behind, ok_M_judge, ok_M_orderBar, ok_M_meet, ok_M_isBetween, ok_M_chain, ok_M_findChains, fun _ h => absurd h List.not_mem_nil⟩, ⟨ok_M_ring, ok_M_ringBy, ok_M_findFar, ok_M_wrong, ok_M_tellingBits, ok_M_twice, ok_M_look, ok_M_hide, ok_M_people, ok_M_areOnes, ok_M_story, ok_M_claimBar, ok_M_claims, ok_M_hold, ok_M_believe, ok_M_walks, ok_M_asked, ok_M_upper, ok_M_lower, ok_M_count, fun _ h => absurd h List.not_mem_nil⟩, ⟨ok_M_counted, ok_M_finding, ok_M_findings, ok_M_digest, ok_M_mixPass, ok_M_mix, fun _ h => absurd h List.not_mem_nil⟩⟩
end
section
def x_br (c : ClassFile.Cond) (x y : Int32) (A B : Prop) : Prop := match c with
  | .eq => (x = y → A) ∧ (¬ x = y → B)
  | .ne => (¬ x = y → A) ∧ (x = y → B)
  | .lt => (x < y → A) ∧ (¬ x < y → B)
  | .ge => (y ≤ x → A) ∧ (¬ y ≤ x → B)
  | .gt => (y < x → A) ∧ (¬ y < x → B)
  | .le => (x ≤ y → A) ∧ (¬ x ≤ y → B)
/-- the room that a callee needs is there -/
def x_room (M M' : xM) (nc ns : Nat) : Bool :=
  Nat.ble (M'.2.2.2.2.2.1.1 + 1) M.2.2.2.2.2.1.1 && (Nat.ble (8 + (M'.2.2.1 + 11) + M'.2.2.2.2.2.1.2.1) M.2.2.2.2.2.1.2.1 && (Nat.ble (nc + M'.2.2.2.2.2.1.2.2.1) M.2.2.2.2.2.1.2.2.1 && (Nat.ble (ns + M'.2.2.2.2.2.1.2.2.2) M.2.2.2.2.2.1.2.2.2 && Nat.blt M'.2.2.1 1000)))
def x_recv (M' : xM) (sh : List (Nat × Nat)) : List Value → Bool
  | .ref q :: _ => match x_nth sh q with
    | some (kd, _) => Nat.beq kd M'.2.1
    | none => false
  | _ => false
/-- one call: arguments off the stack, the callee, its answer on the rest -/
def x_call (M : xM) (nx a : Nat) (isv : Bool) (ls st : List Value) (g : xG) (σ : xS) (τ : xL) (K : Nat → List Value → List Value → xG → xS → xL → Prop) (C : xM → List Value → xG → xS → xL → xQ → Prop) : Prop :=
  match x_nth x_tab a with
  | none => False
  | some M' => bif x_room M M' g.2.2.1 g.2.2.2 then
      x_pop M'.2.2.2.1 st [] (fun as rest => bif x_cat rest 0 && ((!isv || x_recv M' g.1 as) && (Nat.ble (x_words as) M'.2.2.1 && (Nat.beq M'.2.2.2.2.2.1.2.2.1 0 || x_refs g.1.length (ls ++ rest)))) then
        C M' as (g.1, g.2.1, 0, 0) σ τ (fun r g' σ' τ' => K nx ls (x_push r rest) (g'.1, g'.2.1, g.2.2.1 + M'.2.2.2.2.2.1.2.2.1, g.2.2.2 + M'.2.2.2.2.2.1.2.2.2) σ' τ') else False)
    else False
def x_stp (M : xM) (i : Instr) (nx a b : Nat) (v : Value) (ls st : List Value) (g : xG) (σ : xS) (τ : xL) (K : Nat → List Value → List Value → xG → xS → xL → Prop) (F : xQ) (C : xM → List Value → xG → xS → xL → xQ → Prop) : Prop :=
  match i with
  | .iconst _ => K nx ls (v :: st) g σ τ
  | .iload k => match x_nth ls k with
    | some (.int x) => K nx ls (.int x :: st) g σ τ
    | _ => False
  | .lload k => match x_nth ls k with
    | some (.long x) => K nx ls (.long x :: st) g σ τ
    | _ => False
  | .aload k => match x_nth ls k with
    | some (.ref x) => K nx ls (.ref x :: st) g σ τ
    | some (.retAddr x) => K nx ls (.retAddr x :: st) g σ τ
    | _ => False
  | .istore k => match st with
    | .int x :: st' => bif x_low ls k then x_set ls k (.int x) (fun ls' => K nx ls' st' g σ τ) else False
    | _ => False
  | .astore k => match st with
    | .ref x :: st' => bif x_low ls k then x_set ls k (.ref x) (fun ls' => K nx ls' st' g σ τ) else False
    | _ => False
  | .lstore k => match st with
    | .long x :: st' => bif x_low ls k then x_set ls k (.long x) (fun ls1 => x_set ls1 (k + 1) .null (fun ls' => K nx ls' st' g σ τ)) else False
    | _ => False
  | .iinc k _ => match x_nth ls k, v with
    | some (.int x), .int d => bif x_low ls k then x_set ls k (.int (x + d)) (fun ls' => K nx ls' st g σ τ) else False
    | _, _ => False
  | .iadd => match st with
    | .int y :: .int x :: st' => K nx ls (.int (x + y) :: st') g σ τ
    | _ => False
  | .isub => match st with
    | .int y :: .int x :: st' => K nx ls (.int (x - y) :: st') g σ τ
    | _ => False
  | .imul => match st with
    | .int y :: .int x :: st' => K nx ls (.int (x * y) :: st') g σ τ
    | _ => False
  | .iand => match st with
    | .int y :: .int x :: st' => K nx ls (.int (x &&& y) :: st') g σ τ
    | _ => False
  | .ior => match st with
    | .int y :: .int x :: st' => K nx ls (.int (x ||| y) :: st') g σ τ
    | _ => False
  | .ixor => match st with
    | .int y :: .int x :: st' => K nx ls (.int (x ^^^ y) :: st') g σ τ
    | _ => False
  | .ishl => match st with
    | .int y :: .int x :: st' => K nx ls (.int (x <<< (y &&& 31)) :: st') g σ τ
    | _ => False
  | .ishr => match st with
    | .int y :: .int x :: st' => K nx ls (.int (x >>> (y &&& 31)) :: st') g σ τ
    | _ => False
  | .iushr => match st with
    | .int y :: .int x :: st' => K nx ls (.int (x.toUInt32 >>> (y.toUInt32 &&& Int32.toUInt32 31)).toInt32 :: st') g σ τ
    | _ => False
  | .idiv => match st with
    | .int y :: .int x :: st' => ¬ y = 0 ∧ K nx ls (.int (x / y) :: st') g σ τ
    | _ => False
  | .irem => match st with
    | .int y :: .int x :: st' => ¬ y = 0 ∧ K nx ls (.int (x - x / y * y) :: st') g σ τ
    | _ => False
  | .ineg => match st with
    | .int x :: st' => K nx ls (.int (-x) :: st') g σ τ
    | _ => False
  | .i2l => match st with
    | .int x :: st' => K nx ls (.long x.toInt64 :: st') g σ τ
    | _ => False
  | .i2b => match st with
    | .int x :: st' => K nx ls (.int x.toInt8.toInt32 :: st') g σ τ
    | _ => False
  | .l2i => match st with
    | .long x :: st' => K nx ls (.int x.toInt32 :: st') g σ τ
    | _ => False
  | .ladd => match st with
    | .long y :: .long x :: st' => K nx ls (.long (x + y) :: st') g σ τ
    | _ => False
  | .lmul => match st with
    | .long y :: .long x :: st' => K nx ls (.long (x * y) :: st') g σ τ
    | _ => False
  | .ldiv => match st with
    | .long y :: .long x :: st' => ¬ y = 0 ∧ K nx ls (.long (x / y) :: st') g σ τ
    | _ => False
  | .lrem => match st with
    | .long y :: .long x :: st' => ¬ y = 0 ∧ K nx ls (.long (x - x / y * y) :: st') g σ τ
    | _ => False
  | .lcmp => match st with
    | .long y :: .long x :: st' => K nx ls (.int (lg_cmp x y) :: st') g σ τ
    | _ => False
  | .dup => match st with
    | .int x :: st' => K nx ls (.int x :: .int x :: st') g σ τ
    | .ref x :: st' => K nx ls (.ref x :: .ref x :: st') g σ τ
    | _ => False
  | .dup2 => match st with
    | .int y :: .ref x :: st' => K nx ls (.int y :: .ref x :: .int y :: .ref x :: st') g σ τ
    | _ => False
  | .pop => match st with
    | .int _ :: st' => K nx ls st' g σ τ
    | _ => False
  | .ifCond c _ => match st with
    | .int x :: st' => x_br c x 0 (K a ls st' g σ τ) (K nx ls st' g σ τ)
    | _ => False
  | .if_icmp c _ => match st with
    | .int y :: .int x :: st' => x_br c x y (K a ls st' g σ τ) (K nx ls st' g σ τ)
    | _ => False
  | .goto _ => K a ls st g σ τ
  | .lookupswitch _ _ => match st, x_nth x_swt b with
    | .int x :: st', some sw => x_sw sw x a (fun pc => K pc ls st' g σ τ)
    | _, _ => False
  | .getfield _ => match st with
    | .ref q :: st' => match x_nth g.1 q with
      | some (kd, n) => bif Nat.beq kd a && Nat.blt b n then (match v with
        | .int _ => K nx ls (.int (σ q b) :: st') g σ τ
        | .long _ => K nx ls (.long (τ q b) :: st') g σ τ
        | _ => match g.2.1 q b with
          | some r => K nx ls (.ref r :: st') g σ τ
          | none => False) else False
      | none => False
    | _ => False
  | .putfield _ => match st with
    | x :: .ref q :: st' => match x_nth g.1 q with
      | some (kd, n) => bif Nat.beq kd a && Nat.blt b n then (match v, x with
        | .int _, .int x => K nx ls st' g (x_row σ q (upd (σ q) b x)) τ
        | .long _, .long x => K nx ls st' g σ (x_row τ q (vp_updL (τ q) b x))
        | .retAddr _, .ref r => bif Nat.blt r g.1.length then K nx ls st' (g.1, x_wr g.2.1 q b r, g.2.2.1, g.2.2.2) σ τ else False
        | _, _ => False) else False
      | none => False
    | _ => False
  | .iaload => match st with
    | .int j :: .ref q :: st' => ∃ n, x_nth g.1 q = some (16, n) ∧ vp_in j n ∧ K nx ls (.int (σ q j.toNatClampNeg) :: st') g σ τ
    | .int j :: .retAddr x :: st' => (M.1 = 226 ∧ x = M.2.2.2.1 ∧ vp_in j M.2.2.2.2.2.2.2.1) ∧ K nx ls (.int (M.2.2.2.2.2.2.2.2 j.toNatClampNeg) :: st') g σ τ
    | _ => False
  | .iastore => match st with
    | .int x :: .int j :: .ref q :: st' => ∃ n, x_nth g.1 q = some (16, n) ∧ vp_in j n ∧ K nx ls st' g (x_row σ q (upd (σ q) j.toNatClampNeg x)) τ
    | _ => False
  | .baload => match st with
    | .int j :: .ref q :: st' => ∃ n, x_nth g.1 q = some (17, n) ∧ vp_in j n ∧ K nx ls (.int (σ q j.toNatClampNeg) :: st') g σ τ
    | _ => False
  | .bastore => match st with
    | .int x :: .int j :: .ref q :: st' => ∃ n, x_nth g.1 q = some (17, n) ∧ vp_in j n ∧ (x = 0 ∨ x = 1) ∧ K nx ls st' g (x_row σ q (upd (σ q) j.toNatClampNeg x)) τ
    | _ => False
  | .aaload => match st with
    | .int j :: .ref q :: st' => ∃ kd n r, x_nth g.1 q = some (kd, n) ∧ (kd = 18 ∨ kd = 19) ∧ vp_in j n ∧ g.2.1 q j.toNatClampNeg = some r ∧ K nx ls (.ref r :: st') g σ τ
    | _ => False
  | .aastore => match st with
    | .ref r :: .int j :: .ref q :: st' => ∃ n m, x_nth g.1 q = some (19, n) ∧ vp_in j n ∧ x_nth g.1 r = some (2, m) ∧ K nx ls st' (g.1, x_wr g.2.1 q j.toNatClampNeg r, g.2.2.1, g.2.2.2) σ τ
    | _ => False
  | .arraylength => match st with
    | .ref q :: st' => ∃ kd n, x_nth g.1 q = some (kd, n) ∧ (kd = 16 ∨ kd = 17 ∨ kd = 18 ∨ kd = 19) ∧ K nx ls (.int (Int32.ofNat n) :: st') g σ τ
    | .retAddr x :: st' => (M.1 = 226 ∧ x = M.2.2.2.1) ∧ K nx ls (.int (Int32.ofNat M.2.2.2.2.2.2.2.1) :: st') g σ τ
    | _ => False
  | .invokedynamic _ => match st with
    | .ref _ :: st' => bif x_cat st' 0 then K nx ls st' g σ τ else False
    | _ => False
  | .invokeinterface _ _ => match st with
    | .int n :: .int dp :: .ref q1 :: .int sp :: .ref q0 :: st' => ∃ n0 n1, x_nth g.1 q0 = some (16, n0) ∧ x_nth g.1 q1 = some (16, n1) ∧ (¬ sp < 0 ∧ ¬ dp < 0 ∧ ¬ n < 0 ∧ sp.toNatClampNeg + n.toNatClampNeg ≤ n0 ∧ dp.toNatClampNeg + n.toNatClampNeg ≤ n1) ∧ (bif x_cat st' 0 then K nx ls st' g (x_row σ q1 (va_cpy (σ q0) (σ q1) sp.toNatClampNeg dp.toNatClampNeg n.toNatClampNeg)) τ else False)
    | _ => False
  | .dadd => match st with
    | .int y :: .int x :: st' => bif x_cat st' 0 then K nx ls (.int (if x < y then y else x) :: st') g σ τ else False
    | _ => False
  | .dsub => match st with
    | .int y :: .int x :: st' => bif x_cat st' 0 then K nx ls (.int (if y < x then y else x) :: st') g σ τ else False
    | _ => False
  | .dneg => match st with
    | .int x :: st' => bif x_cat st' 0 then K nx ls (.int (if 0 ≤ x then x else 0 - x) :: st') g σ τ else False
    | _ => False
  | .invokevirtual _ => x_call M nx a true ls st g σ τ K C
  | .invokespecial _ => x_call M nx a true ls st g σ τ K C
  | .invokestatic _ => x_call M nx a false ls st g σ τ K C
  | .new _ => bif Nat.ble (g.2.2.1 + 1) M.2.2.2.2.2.1.2.2.1 && (Nat.ble (g.2.2.2 + b) M.2.2.2.2.2.1.2.2.2 && x_refs g.1.length (ls ++ st)) then
      K nx ls (.ref g.1.length :: st) (g.1 ++ [(a, b)], x_no g.2.1 g.1.length, g.2.2.1 + 1, g.2.2.2 + b) (x_zs 0 σ g.1.length) (x_zs 0 τ g.1.length) else False
  | .newarray t => match st with
    | .int n :: st' => ∃ N, n = nI N ∧ N ≤ 1000 ∧ (bif Nat.ble (g.2.2.1 + 1) M.2.2.2.2.2.1.2.2.1 && (Nat.ble (g.2.2.2 + N) M.2.2.2.2.2.1.2.2.2 && x_refs g.1.length (ls ++ st')) then
      (match t with
        | .int => K nx ls (.ref g.1.length :: st') (g.1 ++ [(16, N)], x_no g.2.1 g.1.length, g.2.2.1 + 1, g.2.2.2 + N) (x_zs 0 σ g.1.length) (x_zs 0 τ g.1.length)
        | .boolean => K nx ls (.ref g.1.length :: st') (g.1 ++ [(17, N)], x_no g.2.1 g.1.length, g.2.2.1 + 1, g.2.2.2 + N) (x_zs 0 σ g.1.length) (x_zs 0 τ g.1.length)
        | _ => False) else False)
    | _ => False
  | .anewarray _ => match st with
    | .int n :: st' => ∃ N, n = nI N ∧ N ≤ 1000 ∧ (bif Nat.ble (g.2.2.1 + 1) M.2.2.2.2.2.1.2.2.1 && (Nat.ble (g.2.2.2 + N) M.2.2.2.2.2.1.2.2.2 && x_refs g.1.length (ls ++ st')) then
      K nx ls (.ref g.1.length :: st') (g.1 ++ [(19, N)], x_no g.2.1 g.1.length, g.2.2.1 + 1, g.2.2.2 + N) (x_zs 0 σ g.1.length) (x_zs 0 τ g.1.length) else False)
    | _ => False
  | .multianewarray _ _ => match st with
    | .int k :: .int n :: st' => ∃ N P, n = nI N ∧ k = nI P ∧ N ≤ 100 ∧ P ≤ 100 ∧ (bif Nat.ble (g.2.2.1 + (1 + N)) M.2.2.2.2.2.1.2.2.1 && (Nat.ble (g.2.2.2 + (N + N * P)) M.2.2.2.2.2.1.2.2.2 && x_refs g.1.length (ls ++ st')) then
      K nx ls (.ref g.1.length :: st') (g.1 ++ ((18, N) :: List.replicate N (16, P)), x_wrr g.2.1 g.1.length N, g.2.2.1 + 1 + N, g.2.2.2 + N + N * P) (x_zs 0 σ g.1.length) (x_zs 0 τ g.1.length) else False)
    | _ => False
  | .ireturn => match st with
    | [.int x] => bif Nat.beq M.2.2.2.2.1 1 then F (some (.int x)) g σ τ else (bif Nat.beq M.2.2.2.2.1 2 then (x = 0 ∨ x = 1) ∧ F (some (.int x)) g σ τ else False)
    | _ => False
  | .lreturn => match st with
    | [.long x] => bif Nat.beq M.2.2.2.2.1 3 then F (some (.long x)) g σ τ else False
    | _ => False
  | .return_ => match st with
    | [] => bif Nat.beq M.2.2.2.2.1 0 then F none g σ τ else False
    | _ => False
  | _ => False
def x_one (X : xM → Nat → List Value → List Value → xG → xS → xL → xQ → Prop) (M : xM) (pc : Nat) (ls st : List Value) (g : xG) (σ : xS) (τ : xL) (Q : xQ) : Prop :=
  match x_fnd M.2.2.2.2.2.2.1 pc with
  | none => False
  | some (i, nx, a, b, v) => x_stp M i nx a b v ls st g σ τ (fun pc ls st g σ τ => X M pc ls st g σ τ Q) Q (fun M' as g σ τ Q' => X M' 0 (x_loc as M'.2.2.1) [] g σ τ Q')
/-- the machine comes from here to a return with Q: the least such relation -/
def Ev (M : xM) (pc : Nat) (ls st : List Value) (g : xG) (σ : xS) (τ : xL) (Q : xQ) : Prop :=
  ∀ X : xM → Nat → List Value → List Value → xG → xS → xL → xQ → Prop, (∀ M pc ls st g σ τ Q, x_one X M pc ls st g σ τ Q → X M pc ls st g σ τ Q) → X M pc ls st g σ τ Q
/-- steps up to one of the places cs -/
def x_go : Nat → List Nat → xM → Nat → List Value → List Value → xG → xS → xL → xQ → Prop
  | 0, _, M, pc, ls, st, g, σ, τ, Q => Ev M pc ls st g σ τ Q
  | n + 1, cs, M, pc, ls, st, g, σ, τ, Q => bif cs.elem pc then Ev M pc ls st g σ τ Q else
    match x_fnd M.2.2.2.2.2.2.1 pc with
    | none => False
    | some (i, nx, a, b, v) => x_stp M i nx a b v ls st g σ τ (fun pc ls st g σ τ => x_go n cs M pc ls st g σ τ Q) Q (fun M' as g σ τ Q' => Ev M' 0 (x_loc as M'.2.2.1) [] g σ τ Q')
end
section
theorem x_set_mono {K K' : List Value → Prop} (hK : ∀ l, K l → K' l) : ∀ (ls : List Value) (k : Nat) (v : Value), x_set ls k v K → x_set ls k v K'
  | [], _, _, h => h
  | _ :: _, 0, _, h => hK _ h
  | _ :: xs, k + 1, v, h => by
    have key : ∀ {K K' : List Value → Prop}, (∀ l, K l → K' l) → x_set xs k v K → x_set xs k v K' := fun hK => x_set_mono hK xs k v
    exact key (fun l hl => hK _ hl) h
theorem x_pop_mono {K K' : List Value → List Value → Prop} (hK : ∀ a b, K a b → K' a b) : ∀ (n : Nat) (st as : List Value), x_pop n st as K → x_pop n st as K'
  | 0, _, _, h => hK _ _ h
  | _ + 1, [], _, h => h
  | n + 1, v :: st, as, h => x_pop_mono hK n st (v :: as) h
theorem x_sw_mono {K K' : Nat → Prop} (hK : ∀ p, K p → K' p) : ∀ (l : List (Int32 × Nat)) (x : Int32) (d : Nat), x_sw l x d K → x_sw l x d K'
  | [], _, _, h => hK _ h
  | (_, _) :: r, x, d, h => ⟨fun e => hK _ (h.1 e), fun e => x_sw_mono hK r x d (h.2 e)⟩
theorem x_br_mono {c : ClassFile.Cond} {x y : Int32} {A B A' B' : Prop} (hA : A → A') (hB : B → B') (h : x_br c x y A B) : x_br c x y A' B' := by
  cases c <;> exact ⟨fun e => hA (h.1 e), fun e => hB (h.2 e)⟩
theorem x_bif {c : Bool} {A B : Prop} (hA : c = true → A → B) (h : bif c then A else False) : bif c then B else False := by
  cases c
  · exact h
  · exact hA rfl h
theorem x_bif_t {c : Bool} {A : Prop} (h : bif c then A else False) : c = true ∧ A := by
  cases c
  · exact h.elim
  · exact ⟨rfl, h⟩
section XMONO
variable {M : xM} {nx a b : Nat} {v : Value} {ls st : List Value} {g : xG} {σ : xS} {τ : xL} {K K' : Nat → List Value → List Value → xG → xS → xL → Prop} {F F' : xQ} {C C' : xM → List Value → xG → xS → xL → xQ → Prop}
theorem x_call_mono (hK : ∀ pc ls st g σ τ, K pc ls st g σ τ → K' pc ls st g σ τ) (hC : ∀ M as g σ τ (Q Q' : xQ), (∀ r g σ τ, Q r g σ τ → Q' r g σ τ) → C M as g σ τ Q → C' M as g σ τ Q') {isv : Bool} (h : x_call M nx a isv ls st g σ τ K C) : x_call M nx a isv ls st g σ τ K' C' := by
  unfold x_call at h ⊢
  generalize x_nth x_tab a = o at h ⊢
  cases o with
  | none => exact h
  | some M' => exact x_bif (fun _ h => x_pop_mono (fun as rest h => x_bif (fun _ h => hC _ _ _ _ _ _ _ (fun r g σ τ h => hK _ _ _ _ _ _ h) h) h) _ _ _ h) h
set_option maxHeartbeats 4000000 in
theorem x_stp_mono (hK : ∀ pc ls st g σ τ, K pc ls st g σ τ → K' pc ls st g σ τ) (hF : ∀ r g σ τ, F r g σ τ → F' r g σ τ) (hC : ∀ M as g σ τ (Q Q' : xQ), (∀ r g σ τ, Q r g σ τ → Q' r g σ τ) → C M as g σ τ Q → C' M as g σ τ Q') {i : Instr} (h : x_stp M i nx a b v ls st g σ τ K F C) : x_stp M i nx a b v ls st g σ τ K' F' C' := by
  cases i
  all_goals first
    | exact False.elim h
    | exact hK _ _ _ _ _ _ h
    | exact x_call_mono hK hC h
    | skip
  case iload k | lload k | aload k =>
    simp only [x_stp] at h ⊢
    generalize x_nth ls k = o at h ⊢
    rcases o with _ | (_ | _ | _ | _ | _ | _ | _) <;> first | exact False.elim h | exact hK _ _ _ _ _ _ h
  case istore k | astore k =>
    rcases st with _ | ⟨(_ | _ | _ | _ | _ | _ | _), st⟩ <;> first | exact False.elim h | exact x_bif (fun _ h => x_set_mono (fun l h => hK _ _ _ _ _ _ h) _ _ _ h) h
  case lstore k =>
    rcases st with _ | ⟨(_ | _ | _ | _ | _ | _ | _), st⟩ <;> first | exact False.elim h | exact x_bif (fun _ h => x_set_mono (fun l h => x_set_mono (fun l h => hK _ _ _ _ _ _ h) _ _ _ h) _ _ _ h) h
  case iinc k n =>
    simp only [x_stp] at h ⊢
    generalize x_nth ls k = o at h ⊢
    rcases o with _ | (_ | _ | _ | _ | _ | _ | _) <;> first | exact False.elim h | skip
    rcases v with _ | _ | _ | _ | _ | _ | _ <;> first | exact False.elim h | exact x_bif (fun _ h => x_set_mono (fun l h => hK _ _ _ _ _ _ h) _ _ _ h) h
  case iadd | isub | imul | iand | ior | ixor | ishl | ishr | iushr | ladd | lmul | lcmp | i2l | i2b | l2i | ineg | dup | dup2 | pop =>
    rcases st with _ | ⟨(_ | _ | _ | _ | _ | _ | _), st⟩ <;> first | exact False.elim h | exact hK _ _ _ _ _ _ h | (rcases st with _ | ⟨(_ | _ | _ | _ | _ | _ | _), st⟩ <;> first | exact False.elim h | exact hK _ _ _ _ _ _ h)
  case dadd | dsub | dneg =>
    rcases st with _ | ⟨(_ | _ | _ | _ | _ | _ | _), st⟩ <;> first | exact False.elim h | exact x_bif (fun _ h => hK _ _ _ _ _ _ h) h | (rcases st with _ | ⟨(_ | _ | _ | _ | _ | _ | _), st⟩ <;> first | exact False.elim h | exact x_bif (fun _ h => hK _ _ _ _ _ _ h) h)
  case idiv | irem | ldiv | lrem =>
    rcases st with _ | ⟨(_ | _ | _ | _ | _ | _ | _), st⟩ <;> first | exact False.elim h | (rcases st with _ | ⟨(_ | _ | _ | _ | _ | _ | _), st⟩ <;> first | exact False.elim h | exact ⟨h.1, hK _ _ _ _ _ _ h.2⟩)
  case ifCond c o =>
    rcases st with _ | ⟨(_ | _ | _ | _ | _ | _ | _), st⟩ <;> first | exact False.elim h | exact x_br_mono (fun h => hK _ _ _ _ _ _ h) (fun h => hK _ _ _ _ _ _ h) h
  case if_icmp c o =>
    rcases st with _ | ⟨(_ | _ | _ | _ | _ | _ | _), st⟩ <;> first | exact False.elim h | (rcases st with _ | ⟨(_ | _ | _ | _ | _ | _ | _), st⟩ <;> first | exact False.elim h | exact x_br_mono (fun h => hK _ _ _ _ _ _ h) (fun h => hK _ _ _ _ _ _ h) h)
  case lookupswitch d ps =>
    simp only [x_stp] at h ⊢
    generalize x_nth x_swt b = o at h ⊢
    rcases st with _ | ⟨(_ | _ | _ | _ | _ | _ | _), st⟩ <;> rcases o with _ | sw <;> first | exact False.elim h | exact x_sw_mono (fun p h => hK _ _ _ _ _ _ h) _ _ _ h
  case getfield k =>
    rcases st with _ | ⟨(_ | _ | _ | _ | _ | q | _), st⟩ <;> first | exact False.elim h | skip
    simp only [x_stp] at h ⊢
    generalize x_nth g.1 q = o at h ⊢
    rcases o with _ | ⟨kd, n⟩
    · exact h
    · refine x_bif (fun _ h => ?_) h
      generalize g.2.1 q b = o at h ⊢
      rcases v with _ | _ | _ | _ | _ | _ | _ <;> first | exact hK _ _ _ _ _ _ h | (rcases o with _ | r <;> first | exact False.elim h | exact hK _ _ _ _ _ _ h)
  case putfield k =>
    rcases st with _ | ⟨x, st⟩
    · exact h
    rcases st with _ | ⟨(_ | _ | _ | _ | _ | q | _), st⟩ <;> first | exact False.elim h | skip
    simp only [x_stp] at h ⊢
    generalize x_nth g.1 q = o at h ⊢
    rcases o with _ | ⟨kd, n⟩
    · exact h
    · refine x_bif (fun _ h => ?_) h
      rcases v with _ | _ | _ | _ | _ | _ | _ <;> rcases x with _ | _ | _ | _ | _ | _ | _ <;> first | exact False.elim h | exact hK _ _ _ _ _ _ h | exact x_bif (fun _ h => hK _ _ _ _ _ _ h) h
  case iaload | baload =>
    rcases st with _ | ⟨(_ | _ | _ | _ | _ | _ | _), st⟩ <;> first | exact False.elim h | (rcases st with _ | ⟨(_ | _ | _ | _ | _ | _ | _), st⟩ <;> first | exact False.elim h | exact ⟨h.1, hK _ _ _ _ _ _ h.2⟩ | exact ⟨h.1, hK _ _ _ _ _ _ h.2⟩ | (obtain ⟨n, h1, h2, h3⟩ := h; exact ⟨n, h1, h2, hK _ _ _ _ _ _ h3⟩))
  case iastore | bastore =>
    rcases st with _ | ⟨(_ | _ | _ | _ | _ | _ | _), st⟩ <;> first | exact False.elim h | (rcases st with _ | ⟨(_ | _ | _ | _ | _ | _ | _), st⟩ <;> first | exact False.elim h | (rcases st with _ | ⟨(_ | _ | _ | _ | _ | _ | _), st⟩ <;> first | exact False.elim h | (obtain ⟨n, h1, h2, h3⟩ := h; first | exact ⟨n, h1, h2, hK _ _ _ _ _ _ h3⟩ | exact ⟨n, h1, h2, h3.1, hK _ _ _ _ _ _ h3.2⟩)))
  case aaload =>
    rcases st with _ | ⟨(_ | _ | _ | _ | _ | _ | _), st⟩ <;> first | exact False.elim h | (rcases st with _ | ⟨(_ | _ | _ | _ | _ | _ | _), st⟩ <;> first | exact False.elim h | (obtain ⟨kd, n, r, h1, h2, h3, h4, h5⟩ := h; exact ⟨kd, n, r, h1, h2, h3, h4, hK _ _ _ _ _ _ h5⟩))
  case aastore =>
    rcases st with _ | ⟨(_ | _ | _ | _ | _ | _ | _), st⟩ <;> first | exact False.elim h | (rcases st with _ | ⟨(_ | _ | _ | _ | _ | _ | _), st⟩ <;> first | exact False.elim h | (rcases st with _ | ⟨(_ | _ | _ | _ | _ | _ | _), st⟩ <;> first | exact False.elim h | (obtain ⟨n, m, h1, h2, h3, h4⟩ := h; exact ⟨n, m, h1, h2, h3, hK _ _ _ _ _ _ h4⟩)))
  case arraylength =>
    rcases st with _ | ⟨(_ | _ | _ | _ | _ | _ | _), st⟩ <;> first | exact False.elim h | exact ⟨h.1, hK _ _ _ _ _ _ h.2⟩ | (obtain ⟨kd, n, h1, h2, h3⟩ := h; exact ⟨kd, n, h1, h2, hK _ _ _ _ _ _ h3⟩)
  case invokedynamic k =>
    rcases st with _ | ⟨(_ | _ | _ | _ | _ | _ | _), st⟩ <;> first | exact False.elim h | exact x_bif (fun _ h => hK _ _ _ _ _ _ h) h
  case invokeinterface k n =>
    rcases st with _ | ⟨(_ | _ | _ | _ | _ | _ | _), st⟩ <;> first | exact False.elim h | skip
    rcases st with _ | ⟨(_ | _ | _ | _ | _ | _ | _), st⟩ <;> first | exact False.elim h | skip
    rcases st with _ | ⟨(_ | _ | _ | _ | _ | _ | _), st⟩ <;> first | exact False.elim h | skip
    rcases st with _ | ⟨(_ | _ | _ | _ | _ | _ | _), st⟩ <;> first | exact False.elim h | skip
    rcases st with _ | ⟨(_ | _ | _ | _ | _ | _ | _), st⟩ <;> first | exact False.elim h | skip
    obtain ⟨n0, n1, h1, h2, h3, h4⟩ := h
    exact ⟨n0, n1, h1, h2, h3, x_bif (fun _ h => hK _ _ _ _ _ _ h) h4⟩
  case new k => exact x_bif (fun _ h => hK _ _ _ _ _ _ h) h
  case newarray t =>
    rcases st with _ | ⟨(_ | _ | _ | _ | _ | _ | _), st⟩ <;> first | exact False.elim h | skip
    obtain ⟨N, h1, h2, h3⟩ := h
    refine ⟨N, h1, h2, x_bif (fun _ h => ?_) h3⟩
    cases t <;> first | exact False.elim h | exact hK _ _ _ _ _ _ h
  case anewarray k =>
    rcases st with _ | ⟨(_ | _ | _ | _ | _ | _ | _), st⟩ <;> first | exact False.elim h | skip
    obtain ⟨N, h1, h2, h3⟩ := h
    exact ⟨N, h1, h2, x_bif (fun _ h => hK _ _ _ _ _ _ h) h3⟩
  case multianewarray k d =>
    rcases st with _ | ⟨(_ | _ | _ | _ | _ | _ | _), st⟩ <;> first | exact False.elim h | skip
    rcases st with _ | ⟨(_ | _ | _ | _ | _ | _ | _), st⟩ <;> first | exact False.elim h | skip
    obtain ⟨N, P, h1, h2, h3, h4, h5⟩ := h
    exact ⟨N, P, h1, h2, h3, h4, x_bif (fun _ h => hK _ _ _ _ _ _ h) h5⟩
  case ireturn =>
    rcases st with _ | ⟨(_ | _ | _ | _ | _ | _ | _), (_ | ⟨_, _⟩)⟩ <;> first | exact False.elim h | skip
    simp only [x_stp] at h ⊢
    cases hq : Nat.beq M.2.2.2.2.1 1
    · rw [hq] at h
      exact x_bif (fun _ h => ⟨h.1, hF _ _ _ _ h.2⟩) h
    · rw [hq] at h
      exact hF _ _ _ _ h
  case lreturn =>
    rcases st with _ | ⟨(_ | _ | _ | _ | _ | _ | _), (_ | ⟨_, _⟩)⟩ <;> first | exact False.elim h | exact x_bif (fun _ h => hF _ _ _ _ h) h
  case return_ =>
    rcases st with _ | ⟨_, _⟩ <;> first | exact False.elim h | exact x_bif (fun _ h => hF _ _ _ _ h) h
end XMONO
theorem x_one_mono {X X' : xM → Nat → List Value → List Value → xG → xS → xL → xQ → Prop} {M : xM} {pc : Nat} {ls st : List Value} {g : xG} {σ : xS} {τ : xL} {Q Q' : xQ} (hQ : ∀ r g σ τ, Q r g σ τ → Q' r g σ τ)
    (hX : ∀ M pc ls st g σ τ (Q Q' : xQ), (∀ r g σ τ, Q r g σ τ → Q' r g σ τ) → X M pc ls st g σ τ Q → X' M pc ls st g σ τ Q') (h : x_one X M pc ls st g σ τ Q) : x_one X' M pc ls st g σ τ Q' := by
  unfold x_one at h ⊢
  generalize x_fnd M.2.2.2.2.2.2.1 pc = o at h ⊢
  rcases o with _ | ⟨i, nx, a, b, v⟩
  · exact h
  · exact x_stp_mono (K := fun pc ls st g σ τ => X M pc ls st g σ τ Q) (C := fun M' as g σ τ Q' => X M' 0 (x_loc as M'.2.2.1) [] g σ τ Q') (F := Q) (fun _ _ _ _ _ _ h => hX _ _ _ _ _ _ _ _ _ hQ h) hQ (fun _ _ _ _ _ _ _ hq h => hX _ _ _ _ _ _ _ _ _ hq h) h
theorem Ev.mono {M : xM} {pc : Nat} {ls st : List Value} {g : xG} {σ : xS} {τ : xL} {Q Q' : xQ} (h : Ev M pc ls st g σ τ Q) (hQ : ∀ r g σ τ, Q r g σ τ → Q' r g σ τ) : Ev M pc ls st g σ τ Q' := by
  refine h (fun M pc ls st g σ τ Q => ∀ Q' : xQ, (∀ r g σ τ, Q r g σ τ → Q' r g σ τ) → Ev M pc ls st g σ τ Q') ?_ Q' hQ
  intro M pc ls st g σ τ Q h Q' hQ X hX
  refine hX _ _ _ _ _ _ _ _ (x_one_mono hQ (fun M pc ls st g σ τ Q Q' hq h => h Q' hq X hX) h)
theorem Ev.fold {M : xM} {pc : Nat} {ls st : List Value} {g : xG} {σ : xS} {τ : xL} {Q : xQ} (h : x_one Ev M pc ls st g σ τ Q) : Ev M pc ls st g σ τ Q := by
  intro X hX
  exact hX _ _ _ _ _ _ _ _ (x_one_mono (fun _ _ _ _ h => h) (fun M pc ls st g σ τ Q Q' hq h => h.mono hq X hX) h)
theorem x_go_ev : ∀ (n : Nat) (cs : List Nat) (M : xM) (pc : Nat) (ls st : List Value) (g : xG) (σ : xS) (τ : xL) (Q : xQ), x_go n cs M pc ls st g σ τ Q → Ev M pc ls st g σ τ Q
  | 0, _, _, _, _, _, _, _, _, _, h => h
  | n + 1, cs, M, pc, ls, st, g, σ, τ, Q, h => by
    unfold x_go at h
    cases hc : cs.elem pc
    · rw [hc] at h
      apply Ev.fold
      unfold x_one
      simp only [cond_false] at h
      generalize x_fnd M.2.2.2.2.2.2.1 pc = o at h ⊢
      rcases o with _ | ⟨i, nx, a, b, v⟩
      · exact h
      · exact x_stp_mono (K := fun pc ls st g σ τ => x_go n cs M pc ls st g σ τ Q) (C := fun M' as g σ τ Q' => Ev M' 0 (x_loc as M'.2.2.1) [] g σ τ Q') (F := Q) (fun _ _ _ _ _ _ h => x_go_ev n cs _ _ _ _ _ _ _ _ h) (fun _ _ _ _ h => h) (fun _ _ _ _ _ _ _ hq h => h.mono hq) h
    · rw [hc] at h
      exact h
/-- a walk: the first step is taken, then steps up to one of cs -/
def x_first (n : Nat) (cs : List Nat) (M : xM) (pc : Nat) (ls st : List Value) (g : xG) (σ : xS) (τ : xL) (Q : xQ) : Prop :=
  match x_fnd M.2.2.2.2.2.2.1 pc with
  | none => False
  | some (i, nx, a, b, v) => x_stp M i nx a b v ls st g σ τ (fun pc ls st g σ τ => x_go n cs M pc ls st g σ τ Q) Q (fun M' as g σ τ Q' => Ev M' 0 (x_loc as M'.2.2.1) [] g σ τ Q')
theorem ev_go (n : Nat) (cs : List Nat) {M : xM} {pc : Nat} {ls st : List Value} {g : xG} {σ : xS} {τ : xL} {Q : xQ} (h : x_first n cs M pc ls st g σ τ Q) : Ev M pc ls st g σ τ Q := by
  apply Ev.fold
  unfold x_one
  unfold x_first at h
  generalize x_fnd M.2.2.2.2.2.2.1 pc = o at h ⊢
  rcases o with _ | ⟨i, nx, a, b, v⟩
  · exact h
  · exact x_stp_mono (K := fun pc ls st g σ τ => x_go n cs M pc ls st g σ τ Q) (C := fun M' as g σ τ Q' => Ev M' 0 (x_loc as M'.2.2.1) [] g σ τ Q') (F := Q) (fun _ _ _ _ _ _ h => x_go_ev n cs _ _ _ _ _ _ _ _ h) (fun _ _ _ _ h => h) (fun _ _ _ _ _ _ _ hq h => h.mono hq) h
end
section
/-- the shapes behind the two constructors (0: the SnowTracks, 67: the model), and their references -/
def x_sh : List (Nat × Nat) := [(6, 13), (5, 3), (18, 6), (16, 40), (16, 40), (16, 40), (16, 40), (16, 40), (16, 40), (16, 6), (5, 3), (18, 4), (16, 80), (16, 80), (16, 80), (16, 80), (16, 4), (2, 8), (16, 7), (16, 7), (16, 7), (16, 16), (16, 16), (4, 1), (2, 8), (16, 7), (16, 7), (16, 7), (16, 16), (16, 16), (19, 3), (1, 9), (16, 7), (16, 7), (16, 128), (16, 128), (16, 7), (16, 7), (16, 7), (0, 5), (16, 16), (16, 16), (16, 16), (16, 128), (3, 4), (16, 128), (16, 128), (16, 7), (16, 6), (2, 8), (16, 7), (16, 7), (16, 7), (16, 16), (16, 16), (2, 8), (16, 7), (16, 7), (16, 7), (16, 16), (16, 16), (2, 8), (16, 7), (16, 7), (16, 7), (16, 16), (16, 16), (7, 36), (16, 6), (16, 6), (16, 240), (16, 40), (16, 4), (16, 320), (16, 7), (16, 7), (16, 7), (16, 16), (16, 16), (16, 7), (16, 7), (16, 7), (16, 16), (16, 16), (16, 126), (16, 7), (16, 7), (16, 128), (16, 7), (16, 7), (16, 7), (16, 128), (17, 128)]
def x_rl : List (List (Option Nat)) := [[some 1, some 10, some 17, some 23, some 30, some 31, some 39, some 44, none, none, none, none, some 48], [some 2, some 9], [some 3, some 4, some 5, some 6, some 7, some 8], [], [], [], [], [], [], [], [some 11, some 16], [some 12, some 13, some 14, some 15], [], [], [], [], [], [none, none, none, some 18, some 19, some 20, some 21, some 22], [], [], [], [], [], [some 24], [none, none, none, some 25, some 26, some 27, some 28, some 29], [], [], [], [], [], [some 49, some 55, some 61], [none, none, some 32, some 33, some 34, some 35, some 36, some 37, some 38], [], [], [], [], [], [], [], [none, some 40, some 41, some 42, some 43], [], [], [], [], [none, some 45, some 46, some 47], [], [], [], [], [none, none, none, some 50, some 51, some 52, some 53, some 54], [], [], [], [], [], [none, none, none, some 56, some 57, some 58, some 59, some 60], [], [], [], [], [], [none, none, none, some 62, some 63, some 64, some 65, some 66], [], [], [], [], [], [none, some 68, none, none, none, some 69, some 70, some 71, some 72, some 73, none, some 74, some 75, some 76, none, some 77, some 78, none, none, none, none, some 79, some 80, some 81, some 82, some 83, some 84, some 85, some 86, some 87, some 88, some 89, some 90, some 91, some 92], [], [], [], [], [], [], [], [], [], [], [], [], [], [], [], [], [], [], [], [], [], [], [], [], []]
def x_rf : xR := fun q j => match x_nth x_rl q with
  | none => none
  | some l => match x_nth l j with
    | none => none
    | some r => r
abbrev x_g : xG := (x_sh, x_rf, 0, 0)
end
section
/-! THE SMALL MACHINE'S STORE AS CELLS OF THE HEAP -/
theorem x_nth_get {α : Type} : ∀ (l : List α) (k : Nat), x_nth l k = l[k]?
  | [], k => by simp [x_nth]
  | x :: xs, 0 => by simp [x_nth]
  | x :: xs, k + 1 => by simp [x_nth, x_nth_get xs k]
theorem x_nth_lt {α : Type} {l : List α} {k : Nat} {x : α} (h : x_nth l k = some x) : k < l.length := by
  rw [x_nth_get] at h
  exact (List.getElem?_eq_some_iff.mp h).1
def x_val (ad : Nat → Nat) (ρ : xR) (σ : xS) (τ : xL) (q ci k : Nat) : Value := match x_ft ci k with
  | 0 => .int (σ q k)
  | 1 => .long (τ q k)
  | _ => va_rf ((ρ q k).map ad)
def x_cell (kc : Nat → ClassId) (ad : Nat → Nat) (ρ : xR) (σ : xS) (τ : xL) (q : Nat) (s : Nat × Nat) : va_E :=
  if s.1 < 16 then .inr (s.1, (List.range s.2).map (x_val ad ρ σ τ q s.1))
  else if s.1 < 18 then .inl (kc s.1, s.2, .inl (σ q))
  else .inl (kc s.1, s.2, .inr (.inr (.inr (.inr (fun j => (ρ q j).map ad)))))
def x_wd (kc : Nat → ClassId) (ad : Nat → Nat) (sh : List (Nat × Nat)) (ρ : xR) (σ : xS) (τ : xL) : va_W := (List.range sh.length).map (fun q => (ad q, x_cell kc ad ρ σ τ q ((x_nth sh q).getD (0, 0))))
theorem x_wd_len {kc : Nat → ClassId} {ad : Nat → Nat} {sh : List (Nat × Nat)} {ρ : xR} {σ : xS} {τ : xL} : (x_wd kc ad sh ρ σ τ).length = sh.length := by simp [x_wd]
theorem x_wd_get (kc : Nat → ClassId) (ad : Nat → Nat) (sh : List (Nat × Nat)) (ρ : xR) (σ : xS) (τ : xL) (q : Nat) : (x_wd kc ad sh ρ σ τ)[q]? = (x_nth sh q).map (fun s => (ad q, x_cell kc ad ρ σ τ q s)) := by
  unfold x_wd
  rw [List.getElem?_map]
  by_cases h : q < sh.length
  · rw [List.getElem?_range h, x_nth_get, List.getElem?_eq_getElem h]
    simp [x_nth_get, List.getElem?_eq_getElem h]
  · rw [List.getElem?_eq_none (by simpa using h), x_nth_get, List.getElem?_eq_none (by omega)]
    rfl
theorem x_cell_congr {kc : Nat → ClassId} {ad : Nat → Nat} {ρ ρ' : xR} {σ σ' : xS} {τ τ' : xL} {q : Nat} {s : Nat × Nat} (h1 : ρ' q = ρ q) (h2 : σ' q = σ q) (h3 : τ' q = τ q) : x_cell kc ad ρ' σ' τ' q s = x_cell kc ad ρ σ τ q s := by
  have e : x_val ad ρ' σ' τ' q s.1 = x_val ad ρ σ τ q s.1 := by
    funext k
    simp only [x_val, h1, h2, h3]
  simp only [x_cell, e, h1, h2]
theorem x_wd_upd {kc : Nat → ClassId} {ad : Nat → Nat} {sh : List (Nat × Nat)} {ρ ρ' : xR} {σ σ' : xS} {τ τ' : xL} {q : Nat} {s : Nat × Nat} (h : x_nth sh q = some s) (h1 : ∀ k, k ≠ q → ρ' k = ρ k) (h2 : ∀ k, k ≠ q → σ' k = σ k) (h3 : ∀ k, k ≠ q → τ' k = τ k) :
    x_wd kc ad sh ρ' σ' τ' = (x_wd kc ad sh ρ σ τ).set q (ad q, x_cell kc ad ρ' σ' τ' q s) := by
  apply List.ext_getElem?
  intro k
  by_cases hk : k = q
  · subst hk
    rw [List.getElem?_set_self (by rw [x_wd_len]; exact x_nth_lt h), x_wd_get, h]
    rfl
  · rw [List.getElem?_set_ne (Ne.symm hk), x_wd_get, x_wd_get]
    congr 1
    funext s'
    rw [x_cell_congr (h1 k hk) (h2 k hk) (h3 k hk)]
theorem x_row_ne {α : Type} {σ : Nat → Nat → α} {q k : Nat} {f : Nat → α} (h : k ≠ q) : x_row σ q f k = σ k := if_neg h
theorem x_row_eq {α : Type} {σ : Nat → Nat → α} {q : Nat} {f : Nat → α} : x_row σ q f q = f := if_pos rfl
theorem x_wr_ne {ρ : xR} {q j r k : Nat} (h : k ≠ q) : x_wr ρ q j r k = ρ k := by
  funext i
  have e : Nat.beq k q = false := by
    cases hb : Nat.beq k q
    · rfl
    · exact absurd (Nat.eq_of_beq_eq_true hb) h
  simp [x_wr, e]
def x_tys (kc : Nat → ClassId) : List (ClassId × FieldType) := [(kc 16, .int), (kc 17, .boolean), (kc 18, .array .int), (kc 19, .object "SnowTracks$Pass")]
/-- the heap holds the store -/
def x_W (kc : Nat → ClassId) (D : va_G) (A : Nat → Prop) (ad : Nat → Nat) (g : xG) (σ : xS) (τ : xL) (H : Heap) : Prop :=
  va_P D x_cl (x_wd kc ad g.1 g.2.1 σ τ) H ∧ va_D A (x_wd kc ad g.1 g.2.1 σ τ) ∧ ∀ q j r, g.2.1 q j = some r → r < g.1.length
def x_cv (ad : Nat → Nat) : Value → Value
  | .ref q => .ref (ad q)
  | .retAddr x => .ref x
  | v => v
def x_as (ad : Nat → Nat) : Nat → List Value → List (Nat × Value)
  | _, [] => []
  | k, .null :: vs => x_as ad (k + 1) vs
  | k, v :: vs => (k, x_cv ad v) :: x_as ad (k + 1) vs
theorem x_as_cons {ad : Nat → Nat} {k : Nat} {v : Value} {vs : List Value} (h : v ≠ .null) : x_as ad k (v :: vs) = (k, x_cv ad v) :: x_as ad (k + 1) vs := by
  cases v <;> first | rfl | exact absurd rfl h
theorem x_as_mem {ad : Nat → Nat} : ∀ (ls : List Value) (k : Nat) (q : Nat × Value), q ∈ x_as ad k ls ↔ ∃ j v, ls[j]? = some v ∧ v ≠ .null ∧ q = (k + j, x_cv ad v)
  | [], k, q => by simp [x_as]
  | w :: vs, k, q => by
    have ih := x_as_mem (ad := ad) vs (k + 1) q
    by_cases hw : w = .null
    · subst hw
      show q ∈ x_as ad (k + 1) vs ↔ _
      rw [ih]
      constructor
      · rintro ⟨j, v, h1, h2, h3⟩
        exact ⟨j + 1, v, by simpa using h1, h2, by rw [h3]; congr 1; omega⟩
      · rintro ⟨j, v, h1, h2, h3⟩
        cases j with
        | zero =>
          simp only [List.getElem?_cons_zero, Option.some.injEq] at h1
          exact absurd h1.symm h2
        | succ j => exact ⟨j, v, by simpa using h1, h2, by rw [h3]; congr 1; omega⟩
    · rw [x_as_cons hw, List.mem_cons, ih]
      constructor
      · rintro (h | ⟨j, v, h1, h2, h3⟩)
        · exact ⟨0, w, by simp, hw, by rw [h]; rfl⟩
        · exact ⟨j + 1, v, by simpa using h1, h2, by rw [h3]; congr 1; omega⟩
      · rintro ⟨j, v, h1, h2, h3⟩
        cases j with
        | zero =>
          simp only [List.getElem?_cons_zero, Option.some.injEq] at h1
          subst h1
          exact Or.inl h3
        | succ j => exact Or.inr ⟨j, v, by simpa using h1, h2, by rw [h3]; congr 1; omega⟩
def x_lr (ad : Nat → Nat) (ls : List Value) (arr : Array Slot) (n : Nat) : Prop := lv_has arr n (x_as ad 0 ls)
theorem x_lr_get {ad : Nat → Nat} {ls : List Value} {arr : Array Slot} {n k : Nat} {v : Value} (h : x_lr ad ls arr n) (hk : x_nth ls k = some v) (hv : v ≠ .null) : arr[k]? = some (.val (x_cv ad v)) := by
  rw [x_nth_get] at hk
  have := h.2.2 (k, x_cv ad v) ((x_as_mem ls 0 _).mpr ⟨k, v, hk, hv, by simp⟩)
  exact this
theorem x_set_iff {K : List Value → Prop} : ∀ (ls : List Value) (k : Nat) (v : Value), x_set ls k v K → k < ls.length ∧ K (ls.set k v)
  | [], _, _, h => h.elim
  | _ :: xs, 0, v, h => ⟨by simp, h⟩
  | x :: xs, k + 1, v, h => by
    have key : ∀ {K : List Value → Prop}, x_set xs k v K → k < xs.length ∧ K (xs.set k v) := fun h => x_set_iff xs k v h
    obtain ⟨h1, h2⟩ := key h
    exact ⟨by simp; omega, by simpa using h2⟩
theorem x_low_at {ls : List Value} {k j : Nat} {v : Value} (h : x_low ls k = true) (hj : ls[j]? = some v) (hk : j + 1 = k) : v.category = 1 := by
  subst hk
  simp only [x_low, x_nth_get, hj] at h
  cases v <;> first | rfl | simp at h
theorem x_cv_cat (ad : Nat → Nat) (v : Value) : (x_cv ad v).category = v.category := by cases v <;> rfl
/-- storing a value of one place -/
theorem x_lr_store1 {ad : Nat → Nat} {ls : List Value} {arr : Array Slot} {n k : Nat} {v : Value} (hlow : x_low ls k = true) (h : lv_has arr n ((k, x_cv ad v) :: (x_as ad 0 ls).filter (fun q => !(q.1 == k) && !(q.1 + 1 == k && q.2.category == 2)))) : x_lr ad (ls.set k v) arr n := by
  refine ⟨h.1, h.2.1, fun q hq => h.2.2 q ?_⟩
  obtain ⟨j, w, h1, h2, rfl⟩ := (x_as_mem _ _ _).mp hq
  by_cases hj : j = k
  · subst hj
    have hlt := (List.getElem?_eq_some_iff.mp h1).1
    rw [List.getElem?_set_self (by simpa using hlt)] at h1
    cases h1
    simp
  · rw [List.getElem?_set_ne (Ne.symm hj)] at h1
    refine List.mem_cons_of_mem _ (List.mem_filter.mpr ⟨(x_as_mem _ _ _).mpr ⟨j, w, h1, h2, rfl⟩, ?_⟩)
    have e1 : (0 + j == k) = false := by simpa using hj
    simp only [e1, Bool.not_false, Bool.true_and]
    cases hb : (0 + j + 1 == k)
    · simp
    · have hk : j + 1 = k := by simpa using hb
      have := x_low_at hlow h1 hk
      simp [x_cv_cat, this]
theorem x_lr_store2 {ad : Nat → Nat} {ls : List Value} {arr : Array Slot} {n k : Nat} {v : Value} (hlow : x_low ls k = true) (h : lv_has arr n ((k, x_cv ad v) :: (x_as ad 0 ls).filter (fun q => !(q.1 == k) && (!(q.1 == k + 1) && !(q.1 + 1 == k && q.2.category == 2))))) : x_lr ad ((ls.set k v).set (k + 1) .null) arr n := by
  refine ⟨h.1, h.2.1, fun q hq => h.2.2 q ?_⟩
  obtain ⟨j, w, h1, h2, rfl⟩ := (x_as_mem _ _ _).mp hq
  by_cases hj1 : j = k + 1
  · subst hj1
    have hlt := (List.getElem?_eq_some_iff.mp h1).1
    rw [List.getElem?_set_self (by simpa using hlt)] at h1
    cases h1
    exact absurd rfl h2
  rw [List.getElem?_set_ne (Ne.symm hj1)] at h1
  by_cases hj : j = k
  · subst hj
    have hlt := (List.getElem?_eq_some_iff.mp h1).1
    rw [List.getElem?_set_self (by simpa using hlt)] at h1
    cases h1
    simp
  · rw [List.getElem?_set_ne (Ne.symm hj)] at h1
    refine List.mem_cons_of_mem _ (List.mem_filter.mpr ⟨(x_as_mem _ _ _).mpr ⟨j, w, h1, h2, rfl⟩, ?_⟩)
    have e1 : (0 + j == k) = false := by simpa using hj
    have e2 : (0 + j == k + 1) = false := by simpa using hj1
    simp only [e1, e2, Bool.not_false, Bool.true_and]
    cases hb : (0 + j + 1 == k)
    · simp
    · have hk : j + 1 = k := by simpa using hb
      have := x_low_at hlow h1 hk
      simp [x_cv_cat, this]
/-- the locals with which a method begins -/
theorem x_loc_as {ad : Nat → Nat} : ∀ (as : List Value) (n k : Nat), x_words as ≤ n → n < 1000 → ∀ q ∈ x_as ad k (x_loc as n), q ∈ lv_args k (as.map (x_cv ad))
  | [], n, k, _, _, q, h => by
    obtain ⟨j, v, h1, h2, -⟩ := (x_as_mem _ _ _).mp h
    have h3 : (List.replicate n Value.null)[j]? = some v := h1
    have h4 := List.mem_of_getElem? h3
    exact absurd (List.eq_of_mem_replicate h4) h2
  | v :: vs, n, k, hn, hb, q, h => by
    cases v with
    | long x =>
      simp only [x_words] at hn
      obtain ⟨n, rfl⟩ : ∃ n', n = n' + 2 := ⟨n - 2, by omega⟩
      have e : x_loc (.long x :: vs) (n + 2) = .long x :: .null :: x_loc vs n := rfl
      rw [e, x_as_cons (by simp)] at h
      rcases List.mem_cons.mp h with h | h
      · rw [h]
        exact List.mem_cons_self
      · refine List.mem_cons_of_mem _ ?_
        exact x_loc_as vs n (k + 2) (by omega) (by omega) q h
    | double x =>
      simp only [x_words] at hn
      omega
    | null =>
      simp only [x_words] at hn
      obtain ⟨n, rfl⟩ : ∃ n', n = n' + 1 := ⟨n - 1, by omega⟩
      refine List.mem_cons_of_mem _ ?_
      exact x_loc_as vs n (k + 1) (by omega) (by omega) q h
    | int x =>
      simp only [x_words] at hn
      obtain ⟨n, rfl⟩ : ∃ n', n = n' + 1 := ⟨n - 1, by omega⟩
      have e : x_loc (.int x :: vs) (n + 1) = .int x :: x_loc vs n := rfl
      rw [e, x_as_cons (by simp)] at h
      rcases List.mem_cons.mp h with h | h
      · rw [h]
        exact List.mem_cons_self
      · refine List.mem_cons_of_mem _ ?_
        exact x_loc_as vs n (k + 1) (by omega) (by omega) q h
    | float x =>
      simp only [x_words] at hn
      obtain ⟨n, rfl⟩ : ∃ n', n = n' + 1 := ⟨n - 1, by omega⟩
      have e : x_loc (.float x :: vs) (n + 1) = .float x :: x_loc vs n := rfl
      rw [e, x_as_cons (by simp)] at h
      rcases List.mem_cons.mp h with h | h
      · rw [h]
        exact List.mem_cons_self
      · refine List.mem_cons_of_mem _ ?_
        exact x_loc_as vs n (k + 1) (by omega) (by omega) q h
    | ref x =>
      simp only [x_words] at hn
      obtain ⟨n, rfl⟩ : ∃ n', n = n' + 1 := ⟨n - 1, by omega⟩
      have e : x_loc (.ref x :: vs) (n + 1) = .ref x :: x_loc vs n := rfl
      rw [e, x_as_cons (by simp)] at h
      rcases List.mem_cons.mp h with h | h
      · rw [h]
        exact List.mem_cons_self
      · refine List.mem_cons_of_mem _ ?_
        exact x_loc_as vs n (k + 1) (by omega) (by omega) q h
    | retAddr x =>
      simp only [x_words] at hn
      obtain ⟨n, rfl⟩ : ∃ n', n = n' + 1 := ⟨n - 1, by omega⟩
      have e : x_loc (.retAddr x :: vs) (n + 1) = .retAddr x :: x_loc vs n := rfl
      rw [e, x_as_cons (by simp)] at h
      rcases List.mem_cons.mp h with h | h
      · rw [h]
        exact List.mem_cons_self
      · refine List.mem_cons_of_mem _ ?_
        exact x_loc_as vs n (k + 1) (by omega) (by omega) q h
theorem x_words_sl {ad : Nat → Nat} : ∀ (as : List Value), x_words as < 1000 → (lg_sl (as.map (x_cv ad))).length = x_words as
  | [], _ => rfl
  | v :: vs, h => by
    cases v with
    | double x => simp only [x_words] at h; omega
    | long x =>
      simp only [x_words] at h ⊢
      have ih := x_words_sl (ad := ad) vs (by omega)
      simp only [lg_sl, List.map_cons, List.flatMap_cons, List.length_append] at ih ⊢
      rw [ih]
      simp [x_cv, Value.category]
      omega
    | _ =>
      simp only [x_words] at h ⊢
      have ih := x_words_sl (ad := ad) vs (by omega)
      simp only [lg_sl, List.map_cons, List.flatMap_cons, List.length_append] at ih ⊢
      rw [ih]
      simp [x_cv, Value.category]
      omega
theorem x_cat_sum (ad : Nat → Nat) : ∀ (st : List Value) (n : Nat), x_cat st n = true → n + ((st.map (x_cv ad)).map fun v => v.category).sum ≤ 8
  | [], n, h => by simpa using Nat.le_of_ble_eq_true h
  | v :: vs, n, h => by
    cases v with
    | long x =>
      have := x_cat_sum ad vs (n + 2) h
      simp only [List.map_cons, List.sum_cons, x_cv, Value.category] at this ⊢
      omega
    | double x =>
      have := x_cat_sum ad vs (n + 2) h
      simp only [List.map_cons, List.sum_cons, x_cv, Value.category] at this ⊢
      omega
    | _ =>
      have := x_cat_sum ad vs (n + 1) h
      simp only [List.map_cons, List.sum_cons, x_cv, Value.category] at this ⊢
      omega
theorem x_cv_ag {ad ad' : Nat → Nat} {n : Nat} (h : ∀ k, k < n → ad' k = ad k) : ∀ (vs : List Value), x_refs n vs = true → vs.map (x_cv ad') = vs.map (x_cv ad)
  | [], _ => rfl
  | v :: vs, hr => by
    cases v with
    | ref q =>
      simp only [x_refs, Bool.and_eq_true] at hr
      have hq : q < n := Nat.le_of_ble_eq_true hr.1
      simp only [List.map_cons, x_cv, h q hq]
      rw [x_cv_ag h vs hr.2]
    | _ =>
      simp only [x_refs] at hr
      simp only [List.map_cons, x_cv]
      rw [x_cv_ag h vs hr]
theorem x_as_ag {ad ad' : Nat → Nat} {n : Nat} (h : ∀ k, k < n → ad' k = ad k) : ∀ (vs : List Value) (k : Nat), x_refs n vs = true → x_as ad' k vs = x_as ad k vs
  | [], _, _ => rfl
  | v :: vs, k, hr => by
    cases v with
    | ref q =>
      simp only [x_refs, Bool.and_eq_true] at hr
      have hq : q < n := Nat.le_of_ble_eq_true hr.1
      rw [x_as_cons (by simp), x_as_cons (by simp), x_as_ag h vs (k + 1) hr.2]
      simp only [x_cv, h q hq]
    | null => exact x_as_ag h vs (k + 1) hr
    | _ =>
      simp only [x_refs] at hr
      rw [x_as_cons (by simp), x_as_cons (by simp), x_as_ag h vs (k + 1) hr]
      rfl
theorem x_refs_app {n : Nat} : ∀ (a b : List Value), x_refs n (a ++ b) = true → x_refs n a = true ∧ x_refs n b = true
  | [], _, h => ⟨rfl, h⟩
  | v :: vs, b, h => by
    cases v with
    | ref q =>
      simp only [x_refs, List.cons_append, Bool.and_eq_true] at h ⊢
      obtain ⟨h1, h2⟩ := x_refs_app vs b h.2
      exact ⟨⟨h.1, h1⟩, h2⟩
    | _ =>
      simp only [x_refs, List.cons_append] at h ⊢
      exact x_refs_app vs b h
theorem x_pop_iff {K : List Value → List Value → Prop} : ∀ (n : Nat) (st as : List Value), x_pop n st as K → ∃ bs rest, st = bs ++ rest ∧ bs.length = n ∧ K (bs.reverse ++ as) rest
  | 0, st, as, h => ⟨[], st, rfl, rfl, h⟩
  | n + 1, [], as, h => h.elim
  | n + 1, v :: st, as, h => by
    obtain ⟨bs, rest, h1, h2, h3⟩ := x_pop_iff n st (v :: as) h
    exact ⟨v :: bs, rest, by rw [h1]; rfl, by simp [h2], by simpa using h3⟩
end
section
/-- the table's words that a callee may count on -/
def x_tbl : List Jvm.Cond := lw_tbl.filter goodWord
theorem x_tbl_in {w : Jvm.Cond} (h : w ∈ lw_tbl) (hg : goodWord w = true) : w ∈ x_tbl := List.mem_filter.mpr ⟨h, hg⟩
theorem x_uws_good {C : String} {T : u_T} {N : Nat} : ∀ w ∈ u_ws C T N, goodWord w = true := by
  intro w hw
  obtain ⟨k, -, rfl⟩ := List.mem_map.mp hw
  unfold u_lay
  split <;> rfl
def x_isr : FieldType → Bool
  | .array _ => true
  | .object _ => true
  | _ => false
theorem x_isr_ok {ty : FieldType} (h : x_isr ty = true) (r : Nat) : narrow ty (.ref r) = .ref r ∧ fits ty (.ref r) = true ∧ defaultValue ty = .null := by
  cases ty <;> first | exact ⟨rfl, rfl, rfl⟩ | exact absurd h (by simp [x_isr])
def x_clas (ci : Nat) (C : String) (T : u_T) (N : Nat) (ty : Nat → FieldType) : Prop :=
  x_cl[ci]? = some (C, T, N) ∧ C = x_cn ci ∧ (∀ w ∈ u_ws C T N, w ∈ x_tbl) ∧ (∀ k, k < N → parseFieldDescriptor (T k).2.2.1 = some (ty k)) ∧ (∀ a, a < N → ∀ b, b < N → a ≠ b → (T a).2.1 ≠ (T b).2.1) ∧ (∀ k, x_fld ci k = T k) ∧ x_clN ci = N ∧ (∀ k, k < N → (T k).1 = x_cn ci) ∧ (∀ k, k < N → (x_ft ci k = 0 → ty k = .int) ∧ (x_ft ci k = 1 → ty k = .long) ∧ (x_ft ci k = 2 → x_isr (ty k) = true) ∧ x_ft ci k ≤ 2) ∧ Cond.instantiable C N ∈ x_tbl ∧ Cond.initialized C ∈ x_tbl
theorem x_clas0 : x_clas 0 "SnowTracks$Dropping" x_F0 5 x_t0 := ⟨rfl, by decide +kernel, fun w hw => x_tbl_in (x_in0 w hw) (x_uws_good w hw), x_ty0, x_nm0, fun _ => rfl, rfl, by decide +kernel, by decide +kernel, x_tbl_in (by decide +kernel) rfl, x_tbl_in (by decide +kernel) rfl⟩
theorem x_clas1 : x_clas 1 "SnowTracks$Graph" x_F1 9 x_t1 := ⟨rfl, by decide +kernel, fun w hw => x_tbl_in (x_in1 w hw) (x_uws_good w hw), x_ty1, x_nm1, fun _ => rfl, rfl, by decide +kernel, by decide +kernel, x_tbl_in (by decide +kernel) rfl, x_tbl_in (by decide +kernel) rfl⟩
theorem x_clas2 : x_clas 2 "SnowTracks$Pass" x_F2 8 x_t2 := ⟨rfl, by decide +kernel, fun w hw => x_tbl_in (x_in2 w hw) (x_uws_good w hw), x_ty2, x_nm2, fun _ => rfl, rfl, by decide +kernel, by decide +kernel, x_tbl_in (by decide +kernel) rfl, x_tbl_in (by decide +kernel) rfl⟩
theorem x_clas3 : x_clas 3 "SnowTracks$People" x_F3 4 x_t3 := ⟨rfl, by decide +kernel, fun w hw => x_tbl_in (x_in3 w hw) (x_uws_good w hw), x_ty3, x_nm3, fun _ => rfl, rfl, by decide +kernel, by decide +kernel, x_tbl_in (by decide +kernel) rfl, x_tbl_in (by decide +kernel) rfl⟩
theorem x_clas4 : x_clas 4 "SnowTracks$Reader" x_F4 1 x_t4 := ⟨rfl, by decide +kernel, fun w hw => x_tbl_in (x_in4 w hw) (x_uws_good w hw), x_ty4, x_nm4, fun _ => rfl, rfl, by decide +kernel, by decide +kernel, x_tbl_in (by decide +kernel) rfl, x_tbl_in (by decide +kernel) rfl⟩
theorem x_clas5 : x_clas 5 "SnowTracks$Shelf" x_F5 3 x_t5 := ⟨rfl, by decide +kernel, fun w hw => x_tbl_in (x_in5 w hw) (x_uws_good w hw), x_ty5, x_nm5, fun _ => rfl, rfl, by decide +kernel, by decide +kernel, x_tbl_in (by decide +kernel) rfl, x_tbl_in (by decide +kernel) rfl⟩
theorem x_clas6 : x_clas 6 "SnowTracks" x_F6 13 x_t6 := ⟨rfl, by decide +kernel, fun w hw => x_tbl_in (x_in6 w hw) (x_uws_good w hw), x_ty6, x_nm6, fun _ => rfl, rfl, by decide +kernel, by decide +kernel, x_tbl_in (by decide +kernel) rfl, x_tbl_in (by decide +kernel) rfl⟩
theorem x_clas7 : x_clas 7 "SnowTracksModel" x_F7 36 x_t7 := ⟨rfl, by decide +kernel, fun w hw => x_tbl_in (x_in7 w hw) (x_uws_good w hw), x_ty7, x_nm7, fun _ => rfl, rfl, by decide +kernel, by decide +kernel, x_tbl_in (by decide +kernel) rfl, x_tbl_in (by decide +kernel) rfl⟩
theorem x_class (ci : Nat) (h : ci < 8) : ∃ C T N ty, x_clas ci C T N ty := by
  rcases (show ci = 0 ∨ ci = 1 ∨ ci = 2 ∨ ci = 3 ∨ ci = 4 ∨ ci = 5 ∨ ci = 6 ∨ ci = 7 by omega) with rfl | rfl | rfl | rfl | rfl | rfl | rfl | rfl
  · exact ⟨_, _, _, _, x_clas0⟩
  · exact ⟨_, _, _, _, x_clas1⟩
  · exact ⟨_, _, _, _, x_clas2⟩
  · exact ⟨_, _, _, _, x_clas3⟩
  · exact ⟨_, _, _, _, x_clas4⟩
  · exact ⟨_, _, _, _, x_clas5⟩
  · exact ⟨_, _, _, _, x_clas6⟩
  · exact ⟨_, _, _, _, x_clas7⟩
theorem x_RA_eq {s : State} {c1 c2 : ClassId} {ty : FieldType} (h1 : va_RA s c1 ty) (h2 : va_RA s c2 ty) : c1 = c2 := by
  cases ty with
  | object C =>
    obtain ⟨-, -, -, -, -, e1⟩ := h1
    obtain ⟨-, -, -, -, -, e2⟩ := h2
    exact Option.some.inj (e1.symm.trans e2)
  | _ => exact Option.some.inj (Eq.trans (Eq.symm h1) h2)
/-- what a row says, once the table is checked -/
theorem x_fnd_mem : ∀ (rs : List xRow) (pc : Nat) (r : Instr × Nat × Nat × Nat × Value), x_fnd rs pc = some r → (pc, r) ∈ rs
  | [], _, _, h => by cases h
  | q :: rs, pc, r, h => by
    simp only [x_fnd] at h
    cases hb : Nat.beq q.1 pc
    · rw [hb] at h
      exact List.mem_cons_of_mem _ (x_fnd_mem rs pc r h)
    · rw [hb] at h
      have e := Nat.eq_of_beq_eq_true hb
      cases h
      subst e
      exact List.mem_cons_self
theorem x_okM_at {M : xM} {pc nx a b : Nat} {i : Instr} {v : Value} (hok : x_okM M = true) (hf : x_fnd M.2.2.2.2.2.2.1 pc = some (i, nx, a, b, v)) :
    ∃ (raw : Instr) (len : Nat), decode (x_by M.1) pc = .ok (raw, len) ∧ nx = pc + len ∧ x_oki (M.1, M.2.1, M.2.2.1, M.2.2.2.2.2.1) pc raw len i a b v = true := by
  have h := List.all_eq_true.mp hok _ (x_fnd_mem _ _ _ hf)
  unfold x_okr at h
  dsimp only at h
  cases hd : decode (x_by M.1) pc with
  | error e => rw [hd] at h; cases h
  | ok q =>
    obtain ⟨raw, len⟩ := q
    rw [hd] at h
    simp only [Bool.and_eq_true] at h
    exact ⟨raw, len, rfl, Nat.eq_of_beq_eq_true h.1, h.2⟩
theorem x_ok1 {len : Nat} {raw i : Instr} (h : (Nat.beq len 1 && decide (raw = i)) = true) : len = 1 ∧ raw = i := by
  simp only [Bool.and_eq_true, decide_eq_true_eq] at h
  exact ⟨Nat.eq_of_beq_eq_true h.1, h.2⟩
theorem x_ok2 {len k : Nat} {P : Prop} [Decidable P] (h : (Nat.beq len k && decide P) = true) : len = k ∧ P := by
  simp only [Bool.and_eq_true, decide_eq_true_eq] at h
  exact ⟨Nat.eq_of_beq_eq_true h.1, h.2⟩
theorem x_ok3 {a b : Bool} (h : (a && b) = true) : a = true ∧ b = true := by simpa using h
theorem x_has_in {p : Nat} {w : Jvm.Cond} (h : x_has p w = true) (hg : goodWord w = true) : w ∈ x_tbl := x_tbl_in (List.mem_of_getElem? (of_decide_eq_true h)) hg
theorem x_has_lw {p : Nat} {w : Jvm.Cond} (h : x_has p w = true) : w ∈ lw_tbl := List.mem_of_getElem? (of_decide_eq_true h)
end
section
/-! SOUNDNESS: what the small machine does, the machine does. -/
def x_fc (p : Program) (s : State) (m : MethodId) (args : Array Value) (meth : Method) (c : Code) (R : Room) (M : xM) : Prop :=
  p.tables.exec = Jvm.exec ∧ c.code = x_by M.1 ∧ c.maxLocals = M.2.2.1 ∧ s.vm.findClass (x_cn M.2.1) = some m.cls ∧ (∀ w ∈ x_tbl, w.before args s = true) ∧ ((x_y M.1).name = "<init>" → meth.name = "<init>") ∧
    M.2.2.2.2.2.1.1 ≤ R.frames ∧ M.2.2.2.2.2.1.2.1 ≤ R.locals ∧ M.2.2.2.2.2.1.2.2.1 ≤ R.cells ∧ M.2.2.2.2.2.1.2.2.2 ≤ R.slots
def x_ag (M : xM) (n0 : Nat) (ad0 ad : Nat → Nat) (g : xG) : Prop :=
  (∀ k, k < n0 → ad k = ad0 k) ∧ n0 ≤ g.1.length ∧ (M.2.2.2.2.2.1.2.2.1 = 0 → ad = ad0) ∧ g.2.2.1 ≤ M.2.2.2.2.2.1.2.2.1 ∧ g.2.2.2 ≤ M.2.2.2.2.2.1.2.2.2
def x_rt (M : xM) (pc : Nat) : Option Value → Prop
  | none => M.2.2.2.2.1 = 0 ∧ decode (x_by M.1) pc = .ok (.return_, 1)
  | some (.int x) => decode (x_by M.1) pc = .ok (.ireturn, 1) ∧ (M.2.2.2.2.1 = 1 ∨ (M.2.2.2.2.1 = 2 ∧ (x = 0 ∨ x = 1)))
  | some (.long _) => M.2.2.2.2.1 = 3 ∧ decode (x_by M.1) pc = .ok (.lreturn, 1)
  | _ => False
def x_hret (p : Program) (l : Launch) (e : Env) (R : Room) (s : State) (m : MethodId) (args : Array Value) (below : List Frame) (meth : Method) (c : Code) (D : va_G) (kc : Nat → ClassId) (A : Nat → Prop) (Z : State → Prop) (n0 : Nat) (ad0 : Nat → Nat) (M : xM) (Q : xQ) : Prop :=
  ∀ (r : Option Value) (g : xG) (σ : xS) (τ : xL) (ad : Nat → Nat) (H : Heap) (locs : List Loc) (arr : Array Slot) (pc : Nat), Q r g σ τ → x_W kc D A ad g σ τ H → va_S A s.heap H locs → x_ag M n0 ad0 ad g → x_rt M pc r → W p l e R s m args below meth c H locs g.2.2.1 g.2.2.2 Z (F0 m pc arr r.toList)
def x_nw : Jvm.Cond → Bool
  | .methodLinkNest .. => true
  | _ => false
/-- what the table says besides: links between nest mates, arrays over a class -/
def x_AA (U : State) : Prop := ∃ (comp c : ClassId) (k : Class), U.vm.findClass "[I" = some comp ∧ U.vm.classes[c]? = some k ∧ k.kind = .array comp (.array .int) ∧ U.vm.findClass "[[I" = some c
def x_ex (U : State) : Prop := (∀ w ∈ lw_tbl, x_nw w = true → va_Nw w U) ∧ va_AO "SnowTracks$Pass" U ∧ x_AA U
def x_scr (M : xM) (s : State) (A : Nat → Prop) : Prop := M.1 = 226 → va_X M.2.2.2.1 M.2.2.2.2.2.2.2.1 M.2.2.2.2.2.2.2.2 s s.heap ∧ M.2.2.2.1 < s.heap.size ∧ ¬ A M.2.2.2.1
def x_snd (l : Launch) (M : xM) (pc : Nat) (ls st : List Value) (g : xG) (σ : xS) (τ : xL) (Q : xQ) : Prop :=
  x_okM M = true → ∀ (p : Program) (e : Env) (R : Room) (s : State) (m : MethodId) (args : Array Value) (below : List Frame) (meth : Method) (c : Code), x_fc p s m args meth c R M →
    ∀ (D : va_G) (kc : Nat → ClassId) (A : Nat → Prop) (Z : State → Prop) (n0 : Nat) (ad0 : Nat → Nat), va_K D x_cl (x_tys kc) s → x_ex s → (∀ q, s.heap.size ≤ q → A q) → x_scr M s A → x_hret p l e R s m args below meth c D kc A Z n0 ad0 M Q →
    ∀ (ad : Nat → Nat) (H : Heap) (locs : List Loc) (arr : Array Slot), x_W kc D A ad g σ τ H → va_S A s.heap H locs → x_ag M n0 ad0 ad g → x_lr ad ls arr M.2.2.1 →
    W p l e R s m args below meth c H locs g.2.2.1 g.2.2.2 Z (F0 m pc arr (st.map (x_cv ad)))
set_option maxHeartbeats 1000000 in
theorem xs_iadd (l : Launch) {M : xM} {pc len a b : Nat} {v : Value} {ls st : List Value} {g : xG} {σ : xS} {τ : xL} {Q : xQ} {raw : Instr} (hd : decode (x_by M.1) pc = .ok (raw, len)) (hi : x_oki (M.1, M.2.1, M.2.2.1, M.2.2.2.2.2.1) pc raw len .iadd a b v = true)
    (h : x_stp M .iadd (pc + len) a b v ls st g σ τ (fun pc ls st g σ τ => x_snd l M pc ls st g σ τ Q) Q (fun M' as g σ τ Q' => x_snd l M' 0 (x_loc as M'.2.2.1) [] g σ τ Q')) : x_snd l M pc ls st g σ τ Q := by
  intro hok p e R s m args below meth c fc D kc A Z n0 ad0 hK hex hA hscr hret ad H locs arr hW hS hag hl
  have go : ∀ {pc' : Nat} {ls' st' : List Value} {g' : xG} {σ' : xS} {τ' : xL}, x_snd l M pc' ls' st' g' σ' τ' Q → ∀ (ad' : Nat → Nat) (H' : Heap) (locs' : List Loc) (arr' : Array Slot), x_W kc D A ad' g' σ' τ' H' → va_S A s.heap H' locs' → x_ag M n0 ad0 ad' g' → x_lr ad' ls' arr' M.2.2.1 → W p l e R s m args below meth c H' locs' g'.2.2.1 g'.2.2.2 Z (F0 m pc' arr' (st'.map (x_cv ad'))) := fun k ad' H' locs' arr' w1 w2 w3 w4 => k hok p e R s m args below meth c fc D kc A Z n0 ad0 hK hex hA hscr hret ad' H' locs' arr' w1 w2 w3 w4
  obtain ⟨hx, hb, hml, hown, hts, hini, hr1, hr2, hr3, hr4⟩ := id fc
  obtain ⟨rfl, rfl⟩ := x_ok1 (i := .iadd) hi
  rcases st with _ | ⟨(x | _ | _ | _ | _ | _ | _), st⟩ <;> first | exact False.elim h | skip
  rcases st with _ | ⟨(y | _ | _ | _ | _ | _ | _), st⟩ <;> first | exact False.elim h | skip
  exact lv_iadd hx hb hd (go h ad H locs arr hW hS hag hl)
set_option maxHeartbeats 1000000 in
theorem xs_isub (l : Launch) {M : xM} {pc len a b : Nat} {v : Value} {ls st : List Value} {g : xG} {σ : xS} {τ : xL} {Q : xQ} {raw : Instr} (hd : decode (x_by M.1) pc = .ok (raw, len)) (hi : x_oki (M.1, M.2.1, M.2.2.1, M.2.2.2.2.2.1) pc raw len .isub a b v = true)
    (h : x_stp M .isub (pc + len) a b v ls st g σ τ (fun pc ls st g σ τ => x_snd l M pc ls st g σ τ Q) Q (fun M' as g σ τ Q' => x_snd l M' 0 (x_loc as M'.2.2.1) [] g σ τ Q')) : x_snd l M pc ls st g σ τ Q := by
  intro hok p e R s m args below meth c fc D kc A Z n0 ad0 hK hex hA hscr hret ad H locs arr hW hS hag hl
  have go : ∀ {pc' : Nat} {ls' st' : List Value} {g' : xG} {σ' : xS} {τ' : xL}, x_snd l M pc' ls' st' g' σ' τ' Q → ∀ (ad' : Nat → Nat) (H' : Heap) (locs' : List Loc) (arr' : Array Slot), x_W kc D A ad' g' σ' τ' H' → va_S A s.heap H' locs' → x_ag M n0 ad0 ad' g' → x_lr ad' ls' arr' M.2.2.1 → W p l e R s m args below meth c H' locs' g'.2.2.1 g'.2.2.2 Z (F0 m pc' arr' (st'.map (x_cv ad'))) := fun k ad' H' locs' arr' w1 w2 w3 w4 => k hok p e R s m args below meth c fc D kc A Z n0 ad0 hK hex hA hscr hret ad' H' locs' arr' w1 w2 w3 w4
  obtain ⟨hx, hb, hml, hown, hts, hini, hr1, hr2, hr3, hr4⟩ := id fc
  obtain ⟨rfl, rfl⟩ := x_ok1 (i := .isub) hi
  rcases st with _ | ⟨(x | _ | _ | _ | _ | _ | _), st⟩ <;> first | exact False.elim h | skip
  rcases st with _ | ⟨(y | _ | _ | _ | _ | _ | _), st⟩ <;> first | exact False.elim h | skip
  exact lv_isub hx hb hd (go h ad H locs arr hW hS hag hl)
set_option maxHeartbeats 1000000 in
theorem xs_imul (l : Launch) {M : xM} {pc len a b : Nat} {v : Value} {ls st : List Value} {g : xG} {σ : xS} {τ : xL} {Q : xQ} {raw : Instr} (hd : decode (x_by M.1) pc = .ok (raw, len)) (hi : x_oki (M.1, M.2.1, M.2.2.1, M.2.2.2.2.2.1) pc raw len .imul a b v = true)
    (h : x_stp M .imul (pc + len) a b v ls st g σ τ (fun pc ls st g σ τ => x_snd l M pc ls st g σ τ Q) Q (fun M' as g σ τ Q' => x_snd l M' 0 (x_loc as M'.2.2.1) [] g σ τ Q')) : x_snd l M pc ls st g σ τ Q := by
  intro hok p e R s m args below meth c fc D kc A Z n0 ad0 hK hex hA hscr hret ad H locs arr hW hS hag hl
  have go : ∀ {pc' : Nat} {ls' st' : List Value} {g' : xG} {σ' : xS} {τ' : xL}, x_snd l M pc' ls' st' g' σ' τ' Q → ∀ (ad' : Nat → Nat) (H' : Heap) (locs' : List Loc) (arr' : Array Slot), x_W kc D A ad' g' σ' τ' H' → va_S A s.heap H' locs' → x_ag M n0 ad0 ad' g' → x_lr ad' ls' arr' M.2.2.1 → W p l e R s m args below meth c H' locs' g'.2.2.1 g'.2.2.2 Z (F0 m pc' arr' (st'.map (x_cv ad'))) := fun k ad' H' locs' arr' w1 w2 w3 w4 => k hok p e R s m args below meth c fc D kc A Z n0 ad0 hK hex hA hscr hret ad' H' locs' arr' w1 w2 w3 w4
  obtain ⟨hx, hb, hml, hown, hts, hini, hr1, hr2, hr3, hr4⟩ := id fc
  obtain ⟨rfl, rfl⟩ := x_ok1 (i := .imul) hi
  rcases st with _ | ⟨(x | _ | _ | _ | _ | _ | _), st⟩ <;> first | exact False.elim h | skip
  rcases st with _ | ⟨(y | _ | _ | _ | _ | _ | _), st⟩ <;> first | exact False.elim h | skip
  exact lv_imul hx hb hd (go h ad H locs arr hW hS hag hl)
set_option maxHeartbeats 1000000 in
theorem xs_iand (l : Launch) {M : xM} {pc len a b : Nat} {v : Value} {ls st : List Value} {g : xG} {σ : xS} {τ : xL} {Q : xQ} {raw : Instr} (hd : decode (x_by M.1) pc = .ok (raw, len)) (hi : x_oki (M.1, M.2.1, M.2.2.1, M.2.2.2.2.2.1) pc raw len .iand a b v = true)
    (h : x_stp M .iand (pc + len) a b v ls st g σ τ (fun pc ls st g σ τ => x_snd l M pc ls st g σ τ Q) Q (fun M' as g σ τ Q' => x_snd l M' 0 (x_loc as M'.2.2.1) [] g σ τ Q')) : x_snd l M pc ls st g σ τ Q := by
  intro hok p e R s m args below meth c fc D kc A Z n0 ad0 hK hex hA hscr hret ad H locs arr hW hS hag hl
  have go : ∀ {pc' : Nat} {ls' st' : List Value} {g' : xG} {σ' : xS} {τ' : xL}, x_snd l M pc' ls' st' g' σ' τ' Q → ∀ (ad' : Nat → Nat) (H' : Heap) (locs' : List Loc) (arr' : Array Slot), x_W kc D A ad' g' σ' τ' H' → va_S A s.heap H' locs' → x_ag M n0 ad0 ad' g' → x_lr ad' ls' arr' M.2.2.1 → W p l e R s m args below meth c H' locs' g'.2.2.1 g'.2.2.2 Z (F0 m pc' arr' (st'.map (x_cv ad'))) := fun k ad' H' locs' arr' w1 w2 w3 w4 => k hok p e R s m args below meth c fc D kc A Z n0 ad0 hK hex hA hscr hret ad' H' locs' arr' w1 w2 w3 w4
  obtain ⟨hx, hb, hml, hown, hts, hini, hr1, hr2, hr3, hr4⟩ := id fc
  obtain ⟨rfl, rfl⟩ := x_ok1 (i := .iand) hi
  rcases st with _ | ⟨(x | _ | _ | _ | _ | _ | _), st⟩ <;> first | exact False.elim h | skip
  rcases st with _ | ⟨(y | _ | _ | _ | _ | _ | _), st⟩ <;> first | exact False.elim h | skip
  exact lv_iand hx hb hd (go h ad H locs arr hW hS hag hl)
set_option maxHeartbeats 1000000 in
theorem xs_ior (l : Launch) {M : xM} {pc len a b : Nat} {v : Value} {ls st : List Value} {g : xG} {σ : xS} {τ : xL} {Q : xQ} {raw : Instr} (hd : decode (x_by M.1) pc = .ok (raw, len)) (hi : x_oki (M.1, M.2.1, M.2.2.1, M.2.2.2.2.2.1) pc raw len .ior a b v = true)
    (h : x_stp M .ior (pc + len) a b v ls st g σ τ (fun pc ls st g σ τ => x_snd l M pc ls st g σ τ Q) Q (fun M' as g σ τ Q' => x_snd l M' 0 (x_loc as M'.2.2.1) [] g σ τ Q')) : x_snd l M pc ls st g σ τ Q := by
  intro hok p e R s m args below meth c fc D kc A Z n0 ad0 hK hex hA hscr hret ad H locs arr hW hS hag hl
  have go : ∀ {pc' : Nat} {ls' st' : List Value} {g' : xG} {σ' : xS} {τ' : xL}, x_snd l M pc' ls' st' g' σ' τ' Q → ∀ (ad' : Nat → Nat) (H' : Heap) (locs' : List Loc) (arr' : Array Slot), x_W kc D A ad' g' σ' τ' H' → va_S A s.heap H' locs' → x_ag M n0 ad0 ad' g' → x_lr ad' ls' arr' M.2.2.1 → W p l e R s m args below meth c H' locs' g'.2.2.1 g'.2.2.2 Z (F0 m pc' arr' (st'.map (x_cv ad'))) := fun k ad' H' locs' arr' w1 w2 w3 w4 => k hok p e R s m args below meth c fc D kc A Z n0 ad0 hK hex hA hscr hret ad' H' locs' arr' w1 w2 w3 w4
  obtain ⟨hx, hb, hml, hown, hts, hini, hr1, hr2, hr3, hr4⟩ := id fc
  obtain ⟨rfl, rfl⟩ := x_ok1 (i := .ior) hi
  rcases st with _ | ⟨(x | _ | _ | _ | _ | _ | _), st⟩ <;> first | exact False.elim h | skip
  rcases st with _ | ⟨(y | _ | _ | _ | _ | _ | _), st⟩ <;> first | exact False.elim h | skip
  exact lv_ior hx hb hd (go h ad H locs arr hW hS hag hl)
set_option maxHeartbeats 1000000 in
theorem xs_ixor (l : Launch) {M : xM} {pc len a b : Nat} {v : Value} {ls st : List Value} {g : xG} {σ : xS} {τ : xL} {Q : xQ} {raw : Instr} (hd : decode (x_by M.1) pc = .ok (raw, len)) (hi : x_oki (M.1, M.2.1, M.2.2.1, M.2.2.2.2.2.1) pc raw len .ixor a b v = true)
    (h : x_stp M .ixor (pc + len) a b v ls st g σ τ (fun pc ls st g σ τ => x_snd l M pc ls st g σ τ Q) Q (fun M' as g σ τ Q' => x_snd l M' 0 (x_loc as M'.2.2.1) [] g σ τ Q')) : x_snd l M pc ls st g σ τ Q := by
  intro hok p e R s m args below meth c fc D kc A Z n0 ad0 hK hex hA hscr hret ad H locs arr hW hS hag hl
  have go : ∀ {pc' : Nat} {ls' st' : List Value} {g' : xG} {σ' : xS} {τ' : xL}, x_snd l M pc' ls' st' g' σ' τ' Q → ∀ (ad' : Nat → Nat) (H' : Heap) (locs' : List Loc) (arr' : Array Slot), x_W kc D A ad' g' σ' τ' H' → va_S A s.heap H' locs' → x_ag M n0 ad0 ad' g' → x_lr ad' ls' arr' M.2.2.1 → W p l e R s m args below meth c H' locs' g'.2.2.1 g'.2.2.2 Z (F0 m pc' arr' (st'.map (x_cv ad'))) := fun k ad' H' locs' arr' w1 w2 w3 w4 => k hok p e R s m args below meth c fc D kc A Z n0 ad0 hK hex hA hscr hret ad' H' locs' arr' w1 w2 w3 w4
  obtain ⟨hx, hb, hml, hown, hts, hini, hr1, hr2, hr3, hr4⟩ := id fc
  obtain ⟨rfl, rfl⟩ := x_ok1 (i := .ixor) hi
  rcases st with _ | ⟨(x | _ | _ | _ | _ | _ | _), st⟩ <;> first | exact False.elim h | skip
  rcases st with _ | ⟨(y | _ | _ | _ | _ | _ | _), st⟩ <;> first | exact False.elim h | skip
  exact lv_ixor hx hb hd (go h ad H locs arr hW hS hag hl)
set_option maxHeartbeats 1000000 in
theorem xs_ishl (l : Launch) {M : xM} {pc len a b : Nat} {v : Value} {ls st : List Value} {g : xG} {σ : xS} {τ : xL} {Q : xQ} {raw : Instr} (hd : decode (x_by M.1) pc = .ok (raw, len)) (hi : x_oki (M.1, M.2.1, M.2.2.1, M.2.2.2.2.2.1) pc raw len .ishl a b v = true)
    (h : x_stp M .ishl (pc + len) a b v ls st g σ τ (fun pc ls st g σ τ => x_snd l M pc ls st g σ τ Q) Q (fun M' as g σ τ Q' => x_snd l M' 0 (x_loc as M'.2.2.1) [] g σ τ Q')) : x_snd l M pc ls st g σ τ Q := by
  intro hok p e R s m args below meth c fc D kc A Z n0 ad0 hK hex hA hscr hret ad H locs arr hW hS hag hl
  have go : ∀ {pc' : Nat} {ls' st' : List Value} {g' : xG} {σ' : xS} {τ' : xL}, x_snd l M pc' ls' st' g' σ' τ' Q → ∀ (ad' : Nat → Nat) (H' : Heap) (locs' : List Loc) (arr' : Array Slot), x_W kc D A ad' g' σ' τ' H' → va_S A s.heap H' locs' → x_ag M n0 ad0 ad' g' → x_lr ad' ls' arr' M.2.2.1 → W p l e R s m args below meth c H' locs' g'.2.2.1 g'.2.2.2 Z (F0 m pc' arr' (st'.map (x_cv ad'))) := fun k ad' H' locs' arr' w1 w2 w3 w4 => k hok p e R s m args below meth c fc D kc A Z n0 ad0 hK hex hA hscr hret ad' H' locs' arr' w1 w2 w3 w4
  obtain ⟨hx, hb, hml, hown, hts, hini, hr1, hr2, hr3, hr4⟩ := id fc
  obtain ⟨rfl, rfl⟩ := x_ok1 (i := .ishl) hi
  rcases st with _ | ⟨(x | _ | _ | _ | _ | _ | _), st⟩ <;> first | exact False.elim h | skip
  rcases st with _ | ⟨(y | _ | _ | _ | _ | _ | _), st⟩ <;> first | exact False.elim h | skip
  exact lv_ishl hx hb hd (go h ad H locs arr hW hS hag hl)
set_option maxHeartbeats 1000000 in
theorem xs_ishr (l : Launch) {M : xM} {pc len a b : Nat} {v : Value} {ls st : List Value} {g : xG} {σ : xS} {τ : xL} {Q : xQ} {raw : Instr} (hd : decode (x_by M.1) pc = .ok (raw, len)) (hi : x_oki (M.1, M.2.1, M.2.2.1, M.2.2.2.2.2.1) pc raw len .ishr a b v = true)
    (h : x_stp M .ishr (pc + len) a b v ls st g σ τ (fun pc ls st g σ τ => x_snd l M pc ls st g σ τ Q) Q (fun M' as g σ τ Q' => x_snd l M' 0 (x_loc as M'.2.2.1) [] g σ τ Q')) : x_snd l M pc ls st g σ τ Q := by
  intro hok p e R s m args below meth c fc D kc A Z n0 ad0 hK hex hA hscr hret ad H locs arr hW hS hag hl
  have go : ∀ {pc' : Nat} {ls' st' : List Value} {g' : xG} {σ' : xS} {τ' : xL}, x_snd l M pc' ls' st' g' σ' τ' Q → ∀ (ad' : Nat → Nat) (H' : Heap) (locs' : List Loc) (arr' : Array Slot), x_W kc D A ad' g' σ' τ' H' → va_S A s.heap H' locs' → x_ag M n0 ad0 ad' g' → x_lr ad' ls' arr' M.2.2.1 → W p l e R s m args below meth c H' locs' g'.2.2.1 g'.2.2.2 Z (F0 m pc' arr' (st'.map (x_cv ad'))) := fun k ad' H' locs' arr' w1 w2 w3 w4 => k hok p e R s m args below meth c fc D kc A Z n0 ad0 hK hex hA hscr hret ad' H' locs' arr' w1 w2 w3 w4
  obtain ⟨hx, hb, hml, hown, hts, hini, hr1, hr2, hr3, hr4⟩ := id fc
  obtain ⟨rfl, rfl⟩ := x_ok1 (i := .ishr) hi
  rcases st with _ | ⟨(x | _ | _ | _ | _ | _ | _), st⟩ <;> first | exact False.elim h | skip
  rcases st with _ | ⟨(y | _ | _ | _ | _ | _ | _), st⟩ <;> first | exact False.elim h | skip
  exact lv_ishr hx hb hd (go h ad H locs arr hW hS hag hl)
set_option maxHeartbeats 1000000 in
theorem xs_iushr (l : Launch) {M : xM} {pc len a b : Nat} {v : Value} {ls st : List Value} {g : xG} {σ : xS} {τ : xL} {Q : xQ} {raw : Instr} (hd : decode (x_by M.1) pc = .ok (raw, len)) (hi : x_oki (M.1, M.2.1, M.2.2.1, M.2.2.2.2.2.1) pc raw len .iushr a b v = true)
    (h : x_stp M .iushr (pc + len) a b v ls st g σ τ (fun pc ls st g σ τ => x_snd l M pc ls st g σ τ Q) Q (fun M' as g σ τ Q' => x_snd l M' 0 (x_loc as M'.2.2.1) [] g σ τ Q')) : x_snd l M pc ls st g σ τ Q := by
  intro hok p e R s m args below meth c fc D kc A Z n0 ad0 hK hex hA hscr hret ad H locs arr hW hS hag hl
  have go : ∀ {pc' : Nat} {ls' st' : List Value} {g' : xG} {σ' : xS} {τ' : xL}, x_snd l M pc' ls' st' g' σ' τ' Q → ∀ (ad' : Nat → Nat) (H' : Heap) (locs' : List Loc) (arr' : Array Slot), x_W kc D A ad' g' σ' τ' H' → va_S A s.heap H' locs' → x_ag M n0 ad0 ad' g' → x_lr ad' ls' arr' M.2.2.1 → W p l e R s m args below meth c H' locs' g'.2.2.1 g'.2.2.2 Z (F0 m pc' arr' (st'.map (x_cv ad'))) := fun k ad' H' locs' arr' w1 w2 w3 w4 => k hok p e R s m args below meth c fc D kc A Z n0 ad0 hK hex hA hscr hret ad' H' locs' arr' w1 w2 w3 w4
  obtain ⟨hx, hb, hml, hown, hts, hini, hr1, hr2, hr3, hr4⟩ := id fc
  obtain ⟨rfl, rfl⟩ := x_ok1 (i := .iushr) hi
  rcases st with _ | ⟨(x | _ | _ | _ | _ | _ | _), st⟩ <;> first | exact False.elim h | skip
  rcases st with _ | ⟨(y | _ | _ | _ | _ | _ | _), st⟩ <;> first | exact False.elim h | skip
  exact lv_iushr hx hb hd rfl (go h ad H locs arr hW hS hag hl)
set_option maxHeartbeats 1000000 in
theorem xs_ineg (l : Launch) {M : xM} {pc len a b : Nat} {v : Value} {ls st : List Value} {g : xG} {σ : xS} {τ : xL} {Q : xQ} {raw : Instr} (hd : decode (x_by M.1) pc = .ok (raw, len)) (hi : x_oki (M.1, M.2.1, M.2.2.1, M.2.2.2.2.2.1) pc raw len .ineg a b v = true)
    (h : x_stp M .ineg (pc + len) a b v ls st g σ τ (fun pc ls st g σ τ => x_snd l M pc ls st g σ τ Q) Q (fun M' as g σ τ Q' => x_snd l M' 0 (x_loc as M'.2.2.1) [] g σ τ Q')) : x_snd l M pc ls st g σ τ Q := by
  intro hok p e R s m args below meth c fc D kc A Z n0 ad0 hK hex hA hscr hret ad H locs arr hW hS hag hl
  have go : ∀ {pc' : Nat} {ls' st' : List Value} {g' : xG} {σ' : xS} {τ' : xL}, x_snd l M pc' ls' st' g' σ' τ' Q → ∀ (ad' : Nat → Nat) (H' : Heap) (locs' : List Loc) (arr' : Array Slot), x_W kc D A ad' g' σ' τ' H' → va_S A s.heap H' locs' → x_ag M n0 ad0 ad' g' → x_lr ad' ls' arr' M.2.2.1 → W p l e R s m args below meth c H' locs' g'.2.2.1 g'.2.2.2 Z (F0 m pc' arr' (st'.map (x_cv ad'))) := fun k ad' H' locs' arr' w1 w2 w3 w4 => k hok p e R s m args below meth c fc D kc A Z n0 ad0 hK hex hA hscr hret ad' H' locs' arr' w1 w2 w3 w4
  obtain ⟨hx, hb, hml, hown, hts, hini, hr1, hr2, hr3, hr4⟩ := id fc
  obtain ⟨rfl, rfl⟩ := x_ok1 (i := .ineg) hi
  rcases st with _ | ⟨(x | _ | _ | _ | _ | _ | _), st⟩ <;> first | exact False.elim h | skip
  exact lv_ineg hx hb hd (go h ad H locs arr hW hS hag hl)
set_option maxHeartbeats 1000000 in
theorem xs_i2l (l : Launch) {M : xM} {pc len a b : Nat} {v : Value} {ls st : List Value} {g : xG} {σ : xS} {τ : xL} {Q : xQ} {raw : Instr} (hd : decode (x_by M.1) pc = .ok (raw, len)) (hi : x_oki (M.1, M.2.1, M.2.2.1, M.2.2.2.2.2.1) pc raw len .i2l a b v = true)
    (h : x_stp M .i2l (pc + len) a b v ls st g σ τ (fun pc ls st g σ τ => x_snd l M pc ls st g σ τ Q) Q (fun M' as g σ τ Q' => x_snd l M' 0 (x_loc as M'.2.2.1) [] g σ τ Q')) : x_snd l M pc ls st g σ τ Q := by
  intro hok p e R s m args below meth c fc D kc A Z n0 ad0 hK hex hA hscr hret ad H locs arr hW hS hag hl
  have go : ∀ {pc' : Nat} {ls' st' : List Value} {g' : xG} {σ' : xS} {τ' : xL}, x_snd l M pc' ls' st' g' σ' τ' Q → ∀ (ad' : Nat → Nat) (H' : Heap) (locs' : List Loc) (arr' : Array Slot), x_W kc D A ad' g' σ' τ' H' → va_S A s.heap H' locs' → x_ag M n0 ad0 ad' g' → x_lr ad' ls' arr' M.2.2.1 → W p l e R s m args below meth c H' locs' g'.2.2.1 g'.2.2.2 Z (F0 m pc' arr' (st'.map (x_cv ad'))) := fun k ad' H' locs' arr' w1 w2 w3 w4 => k hok p e R s m args below meth c fc D kc A Z n0 ad0 hK hex hA hscr hret ad' H' locs' arr' w1 w2 w3 w4
  obtain ⟨hx, hb, hml, hown, hts, hini, hr1, hr2, hr3, hr4⟩ := id fc
  obtain ⟨rfl, rfl⟩ := x_ok1 (i := .i2l) hi
  rcases st with _ | ⟨(x | _ | _ | _ | _ | _ | _), st⟩ <;> first | exact False.elim h | skip
  exact lv_i2l hx hb hd rfl (go h ad H locs arr hW hS hag hl)
set_option maxHeartbeats 1000000 in
theorem xs_i2b (l : Launch) {M : xM} {pc len a b : Nat} {v : Value} {ls st : List Value} {g : xG} {σ : xS} {τ : xL} {Q : xQ} {raw : Instr} (hd : decode (x_by M.1) pc = .ok (raw, len)) (hi : x_oki (M.1, M.2.1, M.2.2.1, M.2.2.2.2.2.1) pc raw len .i2b a b v = true)
    (h : x_stp M .i2b (pc + len) a b v ls st g σ τ (fun pc ls st g σ τ => x_snd l M pc ls st g σ τ Q) Q (fun M' as g σ τ Q' => x_snd l M' 0 (x_loc as M'.2.2.1) [] g σ τ Q')) : x_snd l M pc ls st g σ τ Q := by
  intro hok p e R s m args below meth c fc D kc A Z n0 ad0 hK hex hA hscr hret ad H locs arr hW hS hag hl
  have go : ∀ {pc' : Nat} {ls' st' : List Value} {g' : xG} {σ' : xS} {τ' : xL}, x_snd l M pc' ls' st' g' σ' τ' Q → ∀ (ad' : Nat → Nat) (H' : Heap) (locs' : List Loc) (arr' : Array Slot), x_W kc D A ad' g' σ' τ' H' → va_S A s.heap H' locs' → x_ag M n0 ad0 ad' g' → x_lr ad' ls' arr' M.2.2.1 → W p l e R s m args below meth c H' locs' g'.2.2.1 g'.2.2.2 Z (F0 m pc' arr' (st'.map (x_cv ad'))) := fun k ad' H' locs' arr' w1 w2 w3 w4 => k hok p e R s m args below meth c fc D kc A Z n0 ad0 hK hex hA hscr hret ad' H' locs' arr' w1 w2 w3 w4
  obtain ⟨hx, hb, hml, hown, hts, hini, hr1, hr2, hr3, hr4⟩ := id fc
  obtain ⟨rfl, rfl⟩ := x_ok1 (i := .i2b) hi
  rcases st with _ | ⟨(x | _ | _ | _ | _ | _ | _), st⟩ <;> first | exact False.elim h | skip
  exact lv_i2b hx hb hd rfl (go h ad H locs arr hW hS hag hl)
set_option maxHeartbeats 1000000 in
theorem xs_l2i (l : Launch) {M : xM} {pc len a b : Nat} {v : Value} {ls st : List Value} {g : xG} {σ : xS} {τ : xL} {Q : xQ} {raw : Instr} (hd : decode (x_by M.1) pc = .ok (raw, len)) (hi : x_oki (M.1, M.2.1, M.2.2.1, M.2.2.2.2.2.1) pc raw len .l2i a b v = true)
    (h : x_stp M .l2i (pc + len) a b v ls st g σ τ (fun pc ls st g σ τ => x_snd l M pc ls st g σ τ Q) Q (fun M' as g σ τ Q' => x_snd l M' 0 (x_loc as M'.2.2.1) [] g σ τ Q')) : x_snd l M pc ls st g σ τ Q := by
  intro hok p e R s m args below meth c fc D kc A Z n0 ad0 hK hex hA hscr hret ad H locs arr hW hS hag hl
  have go : ∀ {pc' : Nat} {ls' st' : List Value} {g' : xG} {σ' : xS} {τ' : xL}, x_snd l M pc' ls' st' g' σ' τ' Q → ∀ (ad' : Nat → Nat) (H' : Heap) (locs' : List Loc) (arr' : Array Slot), x_W kc D A ad' g' σ' τ' H' → va_S A s.heap H' locs' → x_ag M n0 ad0 ad' g' → x_lr ad' ls' arr' M.2.2.1 → W p l e R s m args below meth c H' locs' g'.2.2.1 g'.2.2.2 Z (F0 m pc' arr' (st'.map (x_cv ad'))) := fun k ad' H' locs' arr' w1 w2 w3 w4 => k hok p e R s m args below meth c fc D kc A Z n0 ad0 hK hex hA hscr hret ad' H' locs' arr' w1 w2 w3 w4
  obtain ⟨hx, hb, hml, hown, hts, hini, hr1, hr2, hr3, hr4⟩ := id fc
  obtain ⟨rfl, rfl⟩ := x_ok1 (i := .l2i) hi
  rcases st with _ | ⟨(_ | x | _ | _ | _ | _ | _), st⟩ <;> first | exact False.elim h | skip
  exact lv_l2i hx hb hd rfl (go h ad H locs arr hW hS hag hl)
set_option maxHeartbeats 1000000 in
theorem xs_ladd (l : Launch) {M : xM} {pc len a b : Nat} {v : Value} {ls st : List Value} {g : xG} {σ : xS} {τ : xL} {Q : xQ} {raw : Instr} (hd : decode (x_by M.1) pc = .ok (raw, len)) (hi : x_oki (M.1, M.2.1, M.2.2.1, M.2.2.2.2.2.1) pc raw len .ladd a b v = true)
    (h : x_stp M .ladd (pc + len) a b v ls st g σ τ (fun pc ls st g σ τ => x_snd l M pc ls st g σ τ Q) Q (fun M' as g σ τ Q' => x_snd l M' 0 (x_loc as M'.2.2.1) [] g σ τ Q')) : x_snd l M pc ls st g σ τ Q := by
  intro hok p e R s m args below meth c fc D kc A Z n0 ad0 hK hex hA hscr hret ad H locs arr hW hS hag hl
  have go : ∀ {pc' : Nat} {ls' st' : List Value} {g' : xG} {σ' : xS} {τ' : xL}, x_snd l M pc' ls' st' g' σ' τ' Q → ∀ (ad' : Nat → Nat) (H' : Heap) (locs' : List Loc) (arr' : Array Slot), x_W kc D A ad' g' σ' τ' H' → va_S A s.heap H' locs' → x_ag M n0 ad0 ad' g' → x_lr ad' ls' arr' M.2.2.1 → W p l e R s m args below meth c H' locs' g'.2.2.1 g'.2.2.2 Z (F0 m pc' arr' (st'.map (x_cv ad'))) := fun k ad' H' locs' arr' w1 w2 w3 w4 => k hok p e R s m args below meth c fc D kc A Z n0 ad0 hK hex hA hscr hret ad' H' locs' arr' w1 w2 w3 w4
  obtain ⟨hx, hb, hml, hown, hts, hini, hr1, hr2, hr3, hr4⟩ := id fc
  obtain ⟨rfl, rfl⟩ := x_ok1 (i := .ladd) hi
  rcases st with _ | ⟨(_ | x | _ | _ | _ | _ | _), st⟩ <;> first | exact False.elim h | skip
  rcases st with _ | ⟨(_ | y | _ | _ | _ | _ | _), st⟩ <;> first | exact False.elim h | skip
  exact lv_ladd hx hb hd (go h ad H locs arr hW hS hag hl)
set_option maxHeartbeats 1000000 in
theorem xs_lmul (l : Launch) {M : xM} {pc len a b : Nat} {v : Value} {ls st : List Value} {g : xG} {σ : xS} {τ : xL} {Q : xQ} {raw : Instr} (hd : decode (x_by M.1) pc = .ok (raw, len)) (hi : x_oki (M.1, M.2.1, M.2.2.1, M.2.2.2.2.2.1) pc raw len .lmul a b v = true)
    (h : x_stp M .lmul (pc + len) a b v ls st g σ τ (fun pc ls st g σ τ => x_snd l M pc ls st g σ τ Q) Q (fun M' as g σ τ Q' => x_snd l M' 0 (x_loc as M'.2.2.1) [] g σ τ Q')) : x_snd l M pc ls st g σ τ Q := by
  intro hok p e R s m args below meth c fc D kc A Z n0 ad0 hK hex hA hscr hret ad H locs arr hW hS hag hl
  have go : ∀ {pc' : Nat} {ls' st' : List Value} {g' : xG} {σ' : xS} {τ' : xL}, x_snd l M pc' ls' st' g' σ' τ' Q → ∀ (ad' : Nat → Nat) (H' : Heap) (locs' : List Loc) (arr' : Array Slot), x_W kc D A ad' g' σ' τ' H' → va_S A s.heap H' locs' → x_ag M n0 ad0 ad' g' → x_lr ad' ls' arr' M.2.2.1 → W p l e R s m args below meth c H' locs' g'.2.2.1 g'.2.2.2 Z (F0 m pc' arr' (st'.map (x_cv ad'))) := fun k ad' H' locs' arr' w1 w2 w3 w4 => k hok p e R s m args below meth c fc D kc A Z n0 ad0 hK hex hA hscr hret ad' H' locs' arr' w1 w2 w3 w4
  obtain ⟨hx, hb, hml, hown, hts, hini, hr1, hr2, hr3, hr4⟩ := id fc
  obtain ⟨rfl, rfl⟩ := x_ok1 (i := .lmul) hi
  rcases st with _ | ⟨(_ | x | _ | _ | _ | _ | _), st⟩ <;> first | exact False.elim h | skip
  rcases st with _ | ⟨(_ | y | _ | _ | _ | _ | _), st⟩ <;> first | exact False.elim h | skip
  exact lv_lmul hx hb hd (go h ad H locs arr hW hS hag hl)
set_option maxHeartbeats 1000000 in
theorem xs_lcmp (l : Launch) {M : xM} {pc len a b : Nat} {v : Value} {ls st : List Value} {g : xG} {σ : xS} {τ : xL} {Q : xQ} {raw : Instr} (hd : decode (x_by M.1) pc = .ok (raw, len)) (hi : x_oki (M.1, M.2.1, M.2.2.1, M.2.2.2.2.2.1) pc raw len .lcmp a b v = true)
    (h : x_stp M .lcmp (pc + len) a b v ls st g σ τ (fun pc ls st g σ τ => x_snd l M pc ls st g σ τ Q) Q (fun M' as g σ τ Q' => x_snd l M' 0 (x_loc as M'.2.2.1) [] g σ τ Q')) : x_snd l M pc ls st g σ τ Q := by
  intro hok p e R s m args below meth c fc D kc A Z n0 ad0 hK hex hA hscr hret ad H locs arr hW hS hag hl
  have go : ∀ {pc' : Nat} {ls' st' : List Value} {g' : xG} {σ' : xS} {τ' : xL}, x_snd l M pc' ls' st' g' σ' τ' Q → ∀ (ad' : Nat → Nat) (H' : Heap) (locs' : List Loc) (arr' : Array Slot), x_W kc D A ad' g' σ' τ' H' → va_S A s.heap H' locs' → x_ag M n0 ad0 ad' g' → x_lr ad' ls' arr' M.2.2.1 → W p l e R s m args below meth c H' locs' g'.2.2.1 g'.2.2.2 Z (F0 m pc' arr' (st'.map (x_cv ad'))) := fun k ad' H' locs' arr' w1 w2 w3 w4 => k hok p e R s m args below meth c fc D kc A Z n0 ad0 hK hex hA hscr hret ad' H' locs' arr' w1 w2 w3 w4
  obtain ⟨hx, hb, hml, hown, hts, hini, hr1, hr2, hr3, hr4⟩ := id fc
  obtain ⟨rfl, rfl⟩ := x_ok1 (i := .lcmp) hi
  rcases st with _ | ⟨(_ | x | _ | _ | _ | _ | _), st⟩ <;> first | exact False.elim h | skip
  rcases st with _ | ⟨(_ | y | _ | _ | _ | _ | _), st⟩ <;> first | exact False.elim h | skip
  exact W.lcmp hx hb hd (go h ad H locs arr hW hS hag hl)
set_option maxHeartbeats 1000000 in
theorem xs_pop (l : Launch) {M : xM} {pc len a b : Nat} {v : Value} {ls st : List Value} {g : xG} {σ : xS} {τ : xL} {Q : xQ} {raw : Instr} (hd : decode (x_by M.1) pc = .ok (raw, len)) (hi : x_oki (M.1, M.2.1, M.2.2.1, M.2.2.2.2.2.1) pc raw len .pop a b v = true)
    (h : x_stp M .pop (pc + len) a b v ls st g σ τ (fun pc ls st g σ τ => x_snd l M pc ls st g σ τ Q) Q (fun M' as g σ τ Q' => x_snd l M' 0 (x_loc as M'.2.2.1) [] g σ τ Q')) : x_snd l M pc ls st g σ τ Q := by
  intro hok p e R s m args below meth c fc D kc A Z n0 ad0 hK hex hA hscr hret ad H locs arr hW hS hag hl
  have go : ∀ {pc' : Nat} {ls' st' : List Value} {g' : xG} {σ' : xS} {τ' : xL}, x_snd l M pc' ls' st' g' σ' τ' Q → ∀ (ad' : Nat → Nat) (H' : Heap) (locs' : List Loc) (arr' : Array Slot), x_W kc D A ad' g' σ' τ' H' → va_S A s.heap H' locs' → x_ag M n0 ad0 ad' g' → x_lr ad' ls' arr' M.2.2.1 → W p l e R s m args below meth c H' locs' g'.2.2.1 g'.2.2.2 Z (F0 m pc' arr' (st'.map (x_cv ad'))) := fun k ad' H' locs' arr' w1 w2 w3 w4 => k hok p e R s m args below meth c fc D kc A Z n0 ad0 hK hex hA hscr hret ad' H' locs' arr' w1 w2 w3 w4
  obtain ⟨hx, hb, hml, hown, hts, hini, hr1, hr2, hr3, hr4⟩ := id fc
  obtain ⟨rfl, rfl⟩ := x_ok1 (i := .pop) hi
  rcases st with _ | ⟨(x | _ | _ | _ | _ | _ | _), st⟩ <;> first | exact False.elim h | skip
  exact lv_pop hx hb hd rfl (go h ad H locs arr hW hS hag hl)
set_option maxHeartbeats 1000000 in
theorem xs_dup2 (l : Launch) {M : xM} {pc len a b : Nat} {v : Value} {ls st : List Value} {g : xG} {σ : xS} {τ : xL} {Q : xQ} {raw : Instr} (hd : decode (x_by M.1) pc = .ok (raw, len)) (hi : x_oki (M.1, M.2.1, M.2.2.1, M.2.2.2.2.2.1) pc raw len .dup2 a b v = true)
    (h : x_stp M .dup2 (pc + len) a b v ls st g σ τ (fun pc ls st g σ τ => x_snd l M pc ls st g σ τ Q) Q (fun M' as g σ τ Q' => x_snd l M' 0 (x_loc as M'.2.2.1) [] g σ τ Q')) : x_snd l M pc ls st g σ τ Q := by
  intro hok p e R s m args below meth c fc D kc A Z n0 ad0 hK hex hA hscr hret ad H locs arr hW hS hag hl
  have go : ∀ {pc' : Nat} {ls' st' : List Value} {g' : xG} {σ' : xS} {τ' : xL}, x_snd l M pc' ls' st' g' σ' τ' Q → ∀ (ad' : Nat → Nat) (H' : Heap) (locs' : List Loc) (arr' : Array Slot), x_W kc D A ad' g' σ' τ' H' → va_S A s.heap H' locs' → x_ag M n0 ad0 ad' g' → x_lr ad' ls' arr' M.2.2.1 → W p l e R s m args below meth c H' locs' g'.2.2.1 g'.2.2.2 Z (F0 m pc' arr' (st'.map (x_cv ad'))) := fun k ad' H' locs' arr' w1 w2 w3 w4 => k hok p e R s m args below meth c fc D kc A Z n0 ad0 hK hex hA hscr hret ad' H' locs' arr' w1 w2 w3 w4
  obtain ⟨hx, hb, hml, hown, hts, hini, hr1, hr2, hr3, hr4⟩ := id fc
  obtain ⟨rfl, rfl⟩ := x_ok1 (i := .dup2) hi
  rcases st with _ | ⟨(x | _ | _ | _ | _ | _ | _), st⟩ <;> first | exact False.elim h | skip
  rcases st with _ | ⟨(_ | _ | _ | _ | _ | y | _), st⟩ <;> first | exact False.elim h | skip
  exact lv_dup2_11 hx hb hd rfl rfl (go h ad H locs arr hW hS hag hl)
set_option maxHeartbeats 1000000 in
theorem xs_dup (l : Launch) {M : xM} {pc len a b : Nat} {v : Value} {ls st : List Value} {g : xG} {σ : xS} {τ : xL} {Q : xQ} {raw : Instr} (hd : decode (x_by M.1) pc = .ok (raw, len)) (hi : x_oki (M.1, M.2.1, M.2.2.1, M.2.2.2.2.2.1) pc raw len .dup a b v = true)
    (h : x_stp M .dup (pc + len) a b v ls st g σ τ (fun pc ls st g σ τ => x_snd l M pc ls st g σ τ Q) Q (fun M' as g σ τ Q' => x_snd l M' 0 (x_loc as M'.2.2.1) [] g σ τ Q')) : x_snd l M pc ls st g σ τ Q := by
  intro hok p e R s m args below meth c fc D kc A Z n0 ad0 hK hex hA hscr hret ad H locs arr hW hS hag hl
  have go : ∀ {pc' : Nat} {ls' st' : List Value} {g' : xG} {σ' : xS} {τ' : xL}, x_snd l M pc' ls' st' g' σ' τ' Q → ∀ (ad' : Nat → Nat) (H' : Heap) (locs' : List Loc) (arr' : Array Slot), x_W kc D A ad' g' σ' τ' H' → va_S A s.heap H' locs' → x_ag M n0 ad0 ad' g' → x_lr ad' ls' arr' M.2.2.1 → W p l e R s m args below meth c H' locs' g'.2.2.1 g'.2.2.2 Z (F0 m pc' arr' (st'.map (x_cv ad'))) := fun k ad' H' locs' arr' w1 w2 w3 w4 => k hok p e R s m args below meth c fc D kc A Z n0 ad0 hK hex hA hscr hret ad' H' locs' arr' w1 w2 w3 w4
  obtain ⟨hx, hb, hml, hown, hts, hini, hr1, hr2, hr3, hr4⟩ := id fc
  obtain ⟨rfl, rfl⟩ := x_ok1 (i := .dup) hi
  rcases st with _ | ⟨(x | _ | _ | _ | _ | x | _), st⟩ <;> first | exact False.elim h | exact lv_dup hx hb hd rfl (go h ad H locs arr hW hS hag hl)
set_option maxHeartbeats 1000000 in
theorem xs_idiv (l : Launch) {M : xM} {pc len a b : Nat} {v : Value} {ls st : List Value} {g : xG} {σ : xS} {τ : xL} {Q : xQ} {raw : Instr} (hd : decode (x_by M.1) pc = .ok (raw, len)) (hi : x_oki (M.1, M.2.1, M.2.2.1, M.2.2.2.2.2.1) pc raw len .idiv a b v = true)
    (h : x_stp M .idiv (pc + len) a b v ls st g σ τ (fun pc ls st g σ τ => x_snd l M pc ls st g σ τ Q) Q (fun M' as g σ τ Q' => x_snd l M' 0 (x_loc as M'.2.2.1) [] g σ τ Q')) : x_snd l M pc ls st g σ τ Q := by
  intro hok p e R s m args below meth c fc D kc A Z n0 ad0 hK hex hA hscr hret ad H locs arr hW hS hag hl
  have go : ∀ {pc' : Nat} {ls' st' : List Value} {g' : xG} {σ' : xS} {τ' : xL}, x_snd l M pc' ls' st' g' σ' τ' Q → ∀ (ad' : Nat → Nat) (H' : Heap) (locs' : List Loc) (arr' : Array Slot), x_W kc D A ad' g' σ' τ' H' → va_S A s.heap H' locs' → x_ag M n0 ad0 ad' g' → x_lr ad' ls' arr' M.2.2.1 → W p l e R s m args below meth c H' locs' g'.2.2.1 g'.2.2.2 Z (F0 m pc' arr' (st'.map (x_cv ad'))) := fun k ad' H' locs' arr' w1 w2 w3 w4 => k hok p e R s m args below meth c fc D kc A Z n0 ad0 hK hex hA hscr hret ad' H' locs' arr' w1 w2 w3 w4
  obtain ⟨hx, hb, hml, hown, hts, hini, hr1, hr2, hr3, hr4⟩ := id fc
  obtain ⟨rfl, rfl⟩ := x_ok1 (i := .idiv) hi
  rcases st with _ | ⟨(x | _ | _ | _ | _ | _ | _), st⟩ <;> first | exact False.elim h | skip
  rcases st with _ | ⟨(y | _ | _ | _ | _ | _ | _), st⟩ <;> first | exact False.elim h | skip
  exact lv_idiv hx hb hd h.1 (go h.2 ad H locs arr hW hS hag hl)
set_option maxHeartbeats 1000000 in
theorem xs_irem (l : Launch) {M : xM} {pc len a b : Nat} {v : Value} {ls st : List Value} {g : xG} {σ : xS} {τ : xL} {Q : xQ} {raw : Instr} (hd : decode (x_by M.1) pc = .ok (raw, len)) (hi : x_oki (M.1, M.2.1, M.2.2.1, M.2.2.2.2.2.1) pc raw len .irem a b v = true)
    (h : x_stp M .irem (pc + len) a b v ls st g σ τ (fun pc ls st g σ τ => x_snd l M pc ls st g σ τ Q) Q (fun M' as g σ τ Q' => x_snd l M' 0 (x_loc as M'.2.2.1) [] g σ τ Q')) : x_snd l M pc ls st g σ τ Q := by
  intro hok p e R s m args below meth c fc D kc A Z n0 ad0 hK hex hA hscr hret ad H locs arr hW hS hag hl
  have go : ∀ {pc' : Nat} {ls' st' : List Value} {g' : xG} {σ' : xS} {τ' : xL}, x_snd l M pc' ls' st' g' σ' τ' Q → ∀ (ad' : Nat → Nat) (H' : Heap) (locs' : List Loc) (arr' : Array Slot), x_W kc D A ad' g' σ' τ' H' → va_S A s.heap H' locs' → x_ag M n0 ad0 ad' g' → x_lr ad' ls' arr' M.2.2.1 → W p l e R s m args below meth c H' locs' g'.2.2.1 g'.2.2.2 Z (F0 m pc' arr' (st'.map (x_cv ad'))) := fun k ad' H' locs' arr' w1 w2 w3 w4 => k hok p e R s m args below meth c fc D kc A Z n0 ad0 hK hex hA hscr hret ad' H' locs' arr' w1 w2 w3 w4
  obtain ⟨hx, hb, hml, hown, hts, hini, hr1, hr2, hr3, hr4⟩ := id fc
  obtain ⟨rfl, rfl⟩ := x_ok1 (i := .irem) hi
  rcases st with _ | ⟨(x | _ | _ | _ | _ | _ | _), st⟩ <;> first | exact False.elim h | skip
  rcases st with _ | ⟨(y | _ | _ | _ | _ | _ | _), st⟩ <;> first | exact False.elim h | skip
  exact lv_irem hx hb hd h.1 (go h.2 ad H locs arr hW hS hag hl)
set_option maxHeartbeats 1000000 in
theorem xs_ldiv (l : Launch) {M : xM} {pc len a b : Nat} {v : Value} {ls st : List Value} {g : xG} {σ : xS} {τ : xL} {Q : xQ} {raw : Instr} (hd : decode (x_by M.1) pc = .ok (raw, len)) (hi : x_oki (M.1, M.2.1, M.2.2.1, M.2.2.2.2.2.1) pc raw len .ldiv a b v = true)
    (h : x_stp M .ldiv (pc + len) a b v ls st g σ τ (fun pc ls st g σ τ => x_snd l M pc ls st g σ τ Q) Q (fun M' as g σ τ Q' => x_snd l M' 0 (x_loc as M'.2.2.1) [] g σ τ Q')) : x_snd l M pc ls st g σ τ Q := by
  intro hok p e R s m args below meth c fc D kc A Z n0 ad0 hK hex hA hscr hret ad H locs arr hW hS hag hl
  have go : ∀ {pc' : Nat} {ls' st' : List Value} {g' : xG} {σ' : xS} {τ' : xL}, x_snd l M pc' ls' st' g' σ' τ' Q → ∀ (ad' : Nat → Nat) (H' : Heap) (locs' : List Loc) (arr' : Array Slot), x_W kc D A ad' g' σ' τ' H' → va_S A s.heap H' locs' → x_ag M n0 ad0 ad' g' → x_lr ad' ls' arr' M.2.2.1 → W p l e R s m args below meth c H' locs' g'.2.2.1 g'.2.2.2 Z (F0 m pc' arr' (st'.map (x_cv ad'))) := fun k ad' H' locs' arr' w1 w2 w3 w4 => k hok p e R s m args below meth c fc D kc A Z n0 ad0 hK hex hA hscr hret ad' H' locs' arr' w1 w2 w3 w4
  obtain ⟨hx, hb, hml, hown, hts, hini, hr1, hr2, hr3, hr4⟩ := id fc
  obtain ⟨rfl, rfl⟩ := x_ok1 (i := .ldiv) hi
  rcases st with _ | ⟨(_ | x | _ | _ | _ | _ | _), st⟩ <;> first | exact False.elim h | skip
  rcases st with _ | ⟨(_ | y | _ | _ | _ | _ | _), st⟩ <;> first | exact False.elim h | skip
  exact lv_ldiv hx hb hd h.1 (go h.2 ad H locs arr hW hS hag hl)
set_option maxHeartbeats 1000000 in
theorem xs_lrem (l : Launch) {M : xM} {pc len a b : Nat} {v : Value} {ls st : List Value} {g : xG} {σ : xS} {τ : xL} {Q : xQ} {raw : Instr} (hd : decode (x_by M.1) pc = .ok (raw, len)) (hi : x_oki (M.1, M.2.1, M.2.2.1, M.2.2.2.2.2.1) pc raw len .lrem a b v = true)
    (h : x_stp M .lrem (pc + len) a b v ls st g σ τ (fun pc ls st g σ τ => x_snd l M pc ls st g σ τ Q) Q (fun M' as g σ τ Q' => x_snd l M' 0 (x_loc as M'.2.2.1) [] g σ τ Q')) : x_snd l M pc ls st g σ τ Q := by
  intro hok p e R s m args below meth c fc D kc A Z n0 ad0 hK hex hA hscr hret ad H locs arr hW hS hag hl
  have go : ∀ {pc' : Nat} {ls' st' : List Value} {g' : xG} {σ' : xS} {τ' : xL}, x_snd l M pc' ls' st' g' σ' τ' Q → ∀ (ad' : Nat → Nat) (H' : Heap) (locs' : List Loc) (arr' : Array Slot), x_W kc D A ad' g' σ' τ' H' → va_S A s.heap H' locs' → x_ag M n0 ad0 ad' g' → x_lr ad' ls' arr' M.2.2.1 → W p l e R s m args below meth c H' locs' g'.2.2.1 g'.2.2.2 Z (F0 m pc' arr' (st'.map (x_cv ad'))) := fun k ad' H' locs' arr' w1 w2 w3 w4 => k hok p e R s m args below meth c fc D kc A Z n0 ad0 hK hex hA hscr hret ad' H' locs' arr' w1 w2 w3 w4
  obtain ⟨hx, hb, hml, hown, hts, hini, hr1, hr2, hr3, hr4⟩ := id fc
  obtain ⟨rfl, rfl⟩ := x_ok1 (i := .lrem) hi
  rcases st with _ | ⟨(_ | x | _ | _ | _ | _ | _), st⟩ <;> first | exact False.elim h | skip
  rcases st with _ | ⟨(_ | y | _ | _ | _ | _ | _), st⟩ <;> first | exact False.elim h | skip
  exact lv_lrem hx hb hd h.1 (go h.2 ad H locs arr hW hS hag hl)
set_option maxHeartbeats 1000000 in
theorem xs_iconst (l : Launch) {M : xM} {pc len a b : Nat} {v : Value} {ls st : List Value} {g : xG} {σ : xS} {τ : xL} {Q : xQ} {k : Int} {raw : Instr} (hd : decode (x_by M.1) pc = .ok (raw, len)) (hi : x_oki (M.1, M.2.1, M.2.2.1, M.2.2.2.2.2.1) pc raw len (.iconst k) a b v = true)
    (h : x_stp M (.iconst k) (pc + len) a b v ls st g σ τ (fun pc ls st g σ τ => x_snd l M pc ls st g σ τ Q) Q (fun M' as g σ τ Q' => x_snd l M' 0 (x_loc as M'.2.2.1) [] g σ τ Q')) : x_snd l M pc ls st g σ τ Q := by
  intro hok p e R s m args below meth c fc D kc A Z n0 ad0 hK hex hA hscr hret ad H locs arr hW hS hag hl
  have go : ∀ {pc' : Nat} {ls' st' : List Value} {g' : xG} {σ' : xS} {τ' : xL}, x_snd l M pc' ls' st' g' σ' τ' Q → ∀ (ad' : Nat → Nat) (H' : Heap) (locs' : List Loc) (arr' : Array Slot), x_W kc D A ad' g' σ' τ' H' → va_S A s.heap H' locs' → x_ag M n0 ad0 ad' g' → x_lr ad' ls' arr' M.2.2.1 → W p l e R s m args below meth c H' locs' g'.2.2.1 g'.2.2.2 Z (F0 m pc' arr' (st'.map (x_cv ad'))) := fun k ad' H' locs' arr' w1 w2 w3 w4 => k hok p e R s m args below meth c fc D kc A Z n0 ad0 hK hex hA hscr hret ad' H' locs' arr' w1 w2 w3 w4
  obtain ⟨hx, hb, hml, hown, hts, hini, hr1, hr2, hr3, hr4⟩ := id fc
  have hg := go h ad H locs arr hW hS hag hl
  simp only [x_oki] at hi
  split at hi
  · obtain ⟨rfl, rfl⟩ := x_ok2 hi
    exact lv_iconst hx hb hd rfl hg
  · obtain ⟨rfl, rfl⟩ := x_ok2 hi
    exact lv_bipush hx hb hd rfl hg
  · obtain ⟨rfl, rfl⟩ := x_ok2 hi
    exact lv_sipush hx hb hd rfl hg
  · obtain ⟨rfl, rfl⟩ := x_ok2 hi
    exact lv_lconst hx hb hd rfl hg
  · split at hi
    · obtain ⟨h1, h2⟩ := x_ok3 hi
      have := Nat.eq_of_beq_eq_true h1
      subst this
      exact lv_ldc hx hb hown (hts _ (x_has_in h2 rfl)) hd hg
    · cases hi
  · split at hi
    · obtain ⟨h1, h2⟩ := x_ok3 hi
      have := Nat.eq_of_beq_eq_true h1
      subst this
      exact lv_ldcw hx hb hown (hts _ (x_has_in h2 rfl)) hd hg
    · cases hi
  · split at hi
    · obtain ⟨h1, h2⟩ := x_ok3 hi
      have := Nat.eq_of_beq_eq_true h1
      subst this
      exact lv_ldc2 hx hb hown (hts _ (x_has_in h2 rfl)) hd hg
    · cases hi
  · cases hi
set_option maxHeartbeats 1000000 in
theorem xs_iload (l : Launch) {M : xM} {pc len a b : Nat} {v : Value} {ls st : List Value} {g : xG} {σ : xS} {τ : xL} {Q : xQ} {k : Nat} {raw : Instr} (hd : decode (x_by M.1) pc = .ok (raw, len)) (hi : x_oki (M.1, M.2.1, M.2.2.1, M.2.2.2.2.2.1) pc raw len (.iload k) a b v = true)
    (h : x_stp M (.iload k) (pc + len) a b v ls st g σ τ (fun pc ls st g σ τ => x_snd l M pc ls st g σ τ Q) Q (fun M' as g σ τ Q' => x_snd l M' 0 (x_loc as M'.2.2.1) [] g σ τ Q')) : x_snd l M pc ls st g σ τ Q := by
  intro hok p e R s m args below meth c fc D kc A Z n0 ad0 hK hex hA hscr hret ad H locs arr hW hS hag hl
  have go : ∀ {pc' : Nat} {ls' st' : List Value} {g' : xG} {σ' : xS} {τ' : xL}, x_snd l M pc' ls' st' g' σ' τ' Q → ∀ (ad' : Nat → Nat) (H' : Heap) (locs' : List Loc) (arr' : Array Slot), x_W kc D A ad' g' σ' τ' H' → va_S A s.heap H' locs' → x_ag M n0 ad0 ad' g' → x_lr ad' ls' arr' M.2.2.1 → W p l e R s m args below meth c H' locs' g'.2.2.1 g'.2.2.2 Z (F0 m pc' arr' (st'.map (x_cv ad'))) := fun k ad' H' locs' arr' w1 w2 w3 w4 => k hok p e R s m args below meth c fc D kc A Z n0 ad0 hK hex hA hscr hret ad' H' locs' arr' w1 w2 w3 w4
  obtain ⟨hx, hb, hml, hown, hts, hini, hr1, hr2, hr3, hr4⟩ := id fc
  simp only [x_stp] at h
  cases hq : x_nth ls k with
  | none => rw [hq] at h; exact h.elim
  | some w =>
    rw [hq] at h
    cases w <;> first | exact False.elim h | skip
    have hg := go h ad H locs arr hW hS hag hl
    have hv := x_lr_get hl hq (by simp)
    simp only [x_oki] at hi
    split at hi
    · obtain ⟨h1, h2⟩ := x_ok3 hi
      have e1 := Nat.eq_of_beq_eq_true h1
      have e2 := Nat.eq_of_beq_eq_true h2
      subst e1
      exact lv_iload_n hx hb hd e2 hv hg
    · obtain ⟨h1, h2⟩ := x_ok3 hi
      have e1 := Nat.eq_of_beq_eq_true h1
      have e2 := Nat.eq_of_beq_eq_true h2
      subst e1
      subst e2
      exact lv_iload hx hb hd hv hg
    · cases hi
set_option maxHeartbeats 1000000 in
theorem xs_lload (l : Launch) {M : xM} {pc len a b : Nat} {v : Value} {ls st : List Value} {g : xG} {σ : xS} {τ : xL} {Q : xQ} {k : Nat} {raw : Instr} (hd : decode (x_by M.1) pc = .ok (raw, len)) (hi : x_oki (M.1, M.2.1, M.2.2.1, M.2.2.2.2.2.1) pc raw len (.lload k) a b v = true)
    (h : x_stp M (.lload k) (pc + len) a b v ls st g σ τ (fun pc ls st g σ τ => x_snd l M pc ls st g σ τ Q) Q (fun M' as g σ τ Q' => x_snd l M' 0 (x_loc as M'.2.2.1) [] g σ τ Q')) : x_snd l M pc ls st g σ τ Q := by
  intro hok p e R s m args below meth c fc D kc A Z n0 ad0 hK hex hA hscr hret ad H locs arr hW hS hag hl
  have go : ∀ {pc' : Nat} {ls' st' : List Value} {g' : xG} {σ' : xS} {τ' : xL}, x_snd l M pc' ls' st' g' σ' τ' Q → ∀ (ad' : Nat → Nat) (H' : Heap) (locs' : List Loc) (arr' : Array Slot), x_W kc D A ad' g' σ' τ' H' → va_S A s.heap H' locs' → x_ag M n0 ad0 ad' g' → x_lr ad' ls' arr' M.2.2.1 → W p l e R s m args below meth c H' locs' g'.2.2.1 g'.2.2.2 Z (F0 m pc' arr' (st'.map (x_cv ad'))) := fun k ad' H' locs' arr' w1 w2 w3 w4 => k hok p e R s m args below meth c fc D kc A Z n0 ad0 hK hex hA hscr hret ad' H' locs' arr' w1 w2 w3 w4
  obtain ⟨hx, hb, hml, hown, hts, hini, hr1, hr2, hr3, hr4⟩ := id fc
  simp only [x_stp] at h
  cases hq : x_nth ls k with
  | none => rw [hq] at h; exact h.elim
  | some w =>
    rw [hq] at h
    cases w <;> first | exact False.elim h | skip
    have hg := go h ad H locs arr hW hS hag hl
    have hv := x_lr_get hl hq (by simp)
    simp only [x_oki] at hi
    split at hi
    · obtain ⟨h1, h2⟩ := x_ok3 hi
      have e1 := Nat.eq_of_beq_eq_true h1
      have e2 := Nat.eq_of_beq_eq_true h2
      subst e1
      exact lv_lload_n hx hb hd e2 hv hg
    · obtain ⟨h1, h2⟩ := x_ok3 hi
      have e1 := Nat.eq_of_beq_eq_true h1
      have e2 := Nat.eq_of_beq_eq_true h2
      subst e1
      subst e2
      exact lv_lload hx hb hd hv hg
    · cases hi
set_option maxHeartbeats 1000000 in
theorem xs_aload (l : Launch) {M : xM} {pc len a b : Nat} {v : Value} {ls st : List Value} {g : xG} {σ : xS} {τ : xL} {Q : xQ} {k : Nat} {raw : Instr} (hd : decode (x_by M.1) pc = .ok (raw, len)) (hi : x_oki (M.1, M.2.1, M.2.2.1, M.2.2.2.2.2.1) pc raw len (.aload k) a b v = true)
    (h : x_stp M (.aload k) (pc + len) a b v ls st g σ τ (fun pc ls st g σ τ => x_snd l M pc ls st g σ τ Q) Q (fun M' as g σ τ Q' => x_snd l M' 0 (x_loc as M'.2.2.1) [] g σ τ Q')) : x_snd l M pc ls st g σ τ Q := by
  intro hok p e R s m args below meth c fc D kc A Z n0 ad0 hK hex hA hscr hret ad H locs arr hW hS hag hl
  have go : ∀ {pc' : Nat} {ls' st' : List Value} {g' : xG} {σ' : xS} {τ' : xL}, x_snd l M pc' ls' st' g' σ' τ' Q → ∀ (ad' : Nat → Nat) (H' : Heap) (locs' : List Loc) (arr' : Array Slot), x_W kc D A ad' g' σ' τ' H' → va_S A s.heap H' locs' → x_ag M n0 ad0 ad' g' → x_lr ad' ls' arr' M.2.2.1 → W p l e R s m args below meth c H' locs' g'.2.2.1 g'.2.2.2 Z (F0 m pc' arr' (st'.map (x_cv ad'))) := fun k ad' H' locs' arr' w1 w2 w3 w4 => k hok p e R s m args below meth c fc D kc A Z n0 ad0 hK hex hA hscr hret ad' H' locs' arr' w1 w2 w3 w4
  obtain ⟨hx, hb, hml, hown, hts, hini, hr1, hr2, hr3, hr4⟩ := id fc
  simp only [x_stp] at h
  cases hq : x_nth ls k with
  | none => rw [hq] at h; exact h.elim
  | some w =>
    rw [hq] at h
    cases w <;> first | exact False.elim h | skip
    all_goals
      have hg := go h ad H locs arr hW hS hag hl
      have hv := x_lr_get hl hq (by simp)
      simp only [x_oki] at hi
      split at hi
      · obtain ⟨h1, h2⟩ := x_ok3 hi
        have e1 := Nat.eq_of_beq_eq_true h1
        have e2 := Nat.eq_of_beq_eq_true h2
        subst e1
        exact lv_aload_n hx hb hd e2 hv hg
      · obtain ⟨h1, h2⟩ := x_ok3 hi
        have e1 := Nat.eq_of_beq_eq_true h1
        have e2 := Nat.eq_of_beq_eq_true h2
        subst e1
        subst e2
        exact lv_aload hx hb hd hv hg
      · cases hi
set_option maxHeartbeats 1000000 in
theorem xs_istore (l : Launch) {M : xM} {pc len a b : Nat} {v : Value} {ls st : List Value} {g : xG} {σ : xS} {τ : xL} {Q : xQ} {k : Nat} {raw : Instr} (hd : decode (x_by M.1) pc = .ok (raw, len)) (hi : x_oki (M.1, M.2.1, M.2.2.1, M.2.2.2.2.2.1) pc raw len (.istore k) a b v = true)
    (h : x_stp M (.istore k) (pc + len) a b v ls st g σ τ (fun pc ls st g σ τ => x_snd l M pc ls st g σ τ Q) Q (fun M' as g σ τ Q' => x_snd l M' 0 (x_loc as M'.2.2.1) [] g σ τ Q')) : x_snd l M pc ls st g σ τ Q := by
  intro hok p e R s m args below meth c fc D kc A Z n0 ad0 hK hex hA hscr hret ad H locs arr hW hS hag hl
  have go : ∀ {pc' : Nat} {ls' st' : List Value} {g' : xG} {σ' : xS} {τ' : xL}, x_snd l M pc' ls' st' g' σ' τ' Q → ∀ (ad' : Nat → Nat) (H' : Heap) (locs' : List Loc) (arr' : Array Slot), x_W kc D A ad' g' σ' τ' H' → va_S A s.heap H' locs' → x_ag M n0 ad0 ad' g' → x_lr ad' ls' arr' M.2.2.1 → W p l e R s m args below meth c H' locs' g'.2.2.1 g'.2.2.2 Z (F0 m pc' arr' (st'.map (x_cv ad'))) := fun k ad' H' locs' arr' w1 w2 w3 w4 => k hok p e R s m args below meth c fc D kc A Z n0 ad0 hK hex hA hscr hret ad' H' locs' arr' w1 w2 w3 w4
  obtain ⟨hx, hb, hml, hown, hts, hini, hr1, hr2, hr3, hr4⟩ := id fc
  rcases st with _ | ⟨(x | _ | _ | _ | _ | _ | _), st⟩ <;> first | exact False.elim h | skip
  obtain ⟨hlow, h⟩ := x_bif_t h
  obtain ⟨-, h⟩ := x_set_iff _ _ _ h
  simp only [x_oki] at hi
  split at hi
  · obtain ⟨h1, h2⟩ := x_ok3 hi
    obtain ⟨h2, h3⟩ := x_ok3 h2
    have e1 := Nat.eq_of_beq_eq_true h1
    have e2 := Nat.eq_of_beq_eq_true h2
    subst e1
    exact lv_istore_n hx hb hd e2 hl (Nat.le_of_ble_eq_true h3) rfl (fun arr' hl' => go h ad H locs arr' hW hS hag (x_lr_store1 hlow hl'))
  · obtain ⟨h1, h2⟩ := x_ok3 hi
    obtain ⟨h2, h3⟩ := x_ok3 h2
    have e1 := Nat.eq_of_beq_eq_true h1
    have e2 := Nat.eq_of_beq_eq_true h2
    subst e1
    subst e2
    exact lv_istore hx hb hd hl (Nat.le_of_ble_eq_true h3) rfl (fun arr' hl' => go h ad H locs arr' hW hS hag (x_lr_store1 hlow hl'))
  · cases hi
set_option maxHeartbeats 1000000 in
theorem xs_astore (l : Launch) {M : xM} {pc len a b : Nat} {v : Value} {ls st : List Value} {g : xG} {σ : xS} {τ : xL} {Q : xQ} {k : Nat} {raw : Instr} (hd : decode (x_by M.1) pc = .ok (raw, len)) (hi : x_oki (M.1, M.2.1, M.2.2.1, M.2.2.2.2.2.1) pc raw len (.astore k) a b v = true)
    (h : x_stp M (.astore k) (pc + len) a b v ls st g σ τ (fun pc ls st g σ τ => x_snd l M pc ls st g σ τ Q) Q (fun M' as g σ τ Q' => x_snd l M' 0 (x_loc as M'.2.2.1) [] g σ τ Q')) : x_snd l M pc ls st g σ τ Q := by
  intro hok p e R s m args below meth c fc D kc A Z n0 ad0 hK hex hA hscr hret ad H locs arr hW hS hag hl
  have go : ∀ {pc' : Nat} {ls' st' : List Value} {g' : xG} {σ' : xS} {τ' : xL}, x_snd l M pc' ls' st' g' σ' τ' Q → ∀ (ad' : Nat → Nat) (H' : Heap) (locs' : List Loc) (arr' : Array Slot), x_W kc D A ad' g' σ' τ' H' → va_S A s.heap H' locs' → x_ag M n0 ad0 ad' g' → x_lr ad' ls' arr' M.2.2.1 → W p l e R s m args below meth c H' locs' g'.2.2.1 g'.2.2.2 Z (F0 m pc' arr' (st'.map (x_cv ad'))) := fun k ad' H' locs' arr' w1 w2 w3 w4 => k hok p e R s m args below meth c fc D kc A Z n0 ad0 hK hex hA hscr hret ad' H' locs' arr' w1 w2 w3 w4
  obtain ⟨hx, hb, hml, hown, hts, hini, hr1, hr2, hr3, hr4⟩ := id fc
  rcases st with _ | ⟨(_ | _ | _ | _ | _ | x | _), st⟩ <;> first | exact False.elim h | skip
  obtain ⟨hlow, h⟩ := x_bif_t h
  obtain ⟨-, h⟩ := x_set_iff _ _ _ h
  simp only [x_oki] at hi
  split at hi
  · obtain ⟨h1, h2⟩ := x_ok3 hi
    obtain ⟨h2, h3⟩ := x_ok3 h2
    have e1 := Nat.eq_of_beq_eq_true h1
    have e2 := Nat.eq_of_beq_eq_true h2
    subst e1
    exact lv_astore_n hx hb hd e2 hl (Nat.le_of_ble_eq_true h3) rfl (fun arr' hl' => go h ad H locs arr' hW hS hag (x_lr_store1 hlow hl'))
  · obtain ⟨h1, h2⟩ := x_ok3 hi
    obtain ⟨h2, h3⟩ := x_ok3 h2
    have e1 := Nat.eq_of_beq_eq_true h1
    have e2 := Nat.eq_of_beq_eq_true h2
    subst e1
    subst e2
    exact lv_astore hx hb hd hl (Nat.le_of_ble_eq_true h3) rfl (fun arr' hl' => go h ad H locs arr' hW hS hag (x_lr_store1 hlow hl'))
  · cases hi
set_option maxHeartbeats 1000000 in
theorem xs_lstore (l : Launch) {M : xM} {pc len a b : Nat} {v : Value} {ls st : List Value} {g : xG} {σ : xS} {τ : xL} {Q : xQ} {k : Nat} {raw : Instr} (hd : decode (x_by M.1) pc = .ok (raw, len)) (hi : x_oki (M.1, M.2.1, M.2.2.1, M.2.2.2.2.2.1) pc raw len (.lstore k) a b v = true)
    (h : x_stp M (.lstore k) (pc + len) a b v ls st g σ τ (fun pc ls st g σ τ => x_snd l M pc ls st g σ τ Q) Q (fun M' as g σ τ Q' => x_snd l M' 0 (x_loc as M'.2.2.1) [] g σ τ Q')) : x_snd l M pc ls st g σ τ Q := by
  intro hok p e R s m args below meth c fc D kc A Z n0 ad0 hK hex hA hscr hret ad H locs arr hW hS hag hl
  have go : ∀ {pc' : Nat} {ls' st' : List Value} {g' : xG} {σ' : xS} {τ' : xL}, x_snd l M pc' ls' st' g' σ' τ' Q → ∀ (ad' : Nat → Nat) (H' : Heap) (locs' : List Loc) (arr' : Array Slot), x_W kc D A ad' g' σ' τ' H' → va_S A s.heap H' locs' → x_ag M n0 ad0 ad' g' → x_lr ad' ls' arr' M.2.2.1 → W p l e R s m args below meth c H' locs' g'.2.2.1 g'.2.2.2 Z (F0 m pc' arr' (st'.map (x_cv ad'))) := fun k ad' H' locs' arr' w1 w2 w3 w4 => k hok p e R s m args below meth c fc D kc A Z n0 ad0 hK hex hA hscr hret ad' H' locs' arr' w1 w2 w3 w4
  obtain ⟨hx, hb, hml, hown, hts, hini, hr1, hr2, hr3, hr4⟩ := id fc
  rcases st with _ | ⟨(_ | x | _ | _ | _ | _ | _), st⟩ <;> first | exact False.elim h | skip
  obtain ⟨hlow, h⟩ := x_bif_t h
  obtain ⟨-, h⟩ := x_set_iff _ _ _ h
  obtain ⟨-, h⟩ := x_set_iff _ _ _ h
  simp only [x_oki] at hi
  split at hi
  · obtain ⟨h1, h2⟩ := x_ok3 hi
    obtain ⟨h2, h3⟩ := x_ok3 h2
    have e1 := Nat.eq_of_beq_eq_true h1
    have e2 := Nat.eq_of_beq_eq_true h2
    subst e1
    exact lv_lstore_n hx hb hd e2 hl (Nat.le_of_ble_eq_true h3) rfl (fun arr' hl' => go h ad H locs arr' hW hS hag (x_lr_store2 hlow hl'))
  · obtain ⟨h1, h2⟩ := x_ok3 hi
    obtain ⟨h2, h3⟩ := x_ok3 h2
    have e1 := Nat.eq_of_beq_eq_true h1
    have e2 := Nat.eq_of_beq_eq_true h2
    subst e1
    subst e2
    exact lv_lstore hx hb hd hl (Nat.le_of_ble_eq_true h3) rfl (fun arr' hl' => go h ad H locs arr' hW hS hag (x_lr_store2 hlow hl'))
  · cases hi
set_option maxHeartbeats 1000000 in
theorem xs_iinc (l : Launch) {M : xM} {pc len a b : Nat} {v : Value} {ls st : List Value} {g : xG} {σ : xS} {τ : xL} {Q : xQ} {k : Nat} {k2 : Int} {raw : Instr} (hd : decode (x_by M.1) pc = .ok (raw, len)) (hi : x_oki (M.1, M.2.1, M.2.2.1, M.2.2.2.2.2.1) pc raw len (.iinc k k2) a b v = true)
    (h : x_stp M (.iinc k k2) (pc + len) a b v ls st g σ τ (fun pc ls st g σ τ => x_snd l M pc ls st g σ τ Q) Q (fun M' as g σ τ Q' => x_snd l M' 0 (x_loc as M'.2.2.1) [] g σ τ Q')) : x_snd l M pc ls st g σ τ Q := by
  intro hok p e R s m args below meth c fc D kc A Z n0 ad0 hK hex hA hscr hret ad H locs arr hW hS hag hl
  have go : ∀ {pc' : Nat} {ls' st' : List Value} {g' : xG} {σ' : xS} {τ' : xL}, x_snd l M pc' ls' st' g' σ' τ' Q → ∀ (ad' : Nat → Nat) (H' : Heap) (locs' : List Loc) (arr' : Array Slot), x_W kc D A ad' g' σ' τ' H' → va_S A s.heap H' locs' → x_ag M n0 ad0 ad' g' → x_lr ad' ls' arr' M.2.2.1 → W p l e R s m args below meth c H' locs' g'.2.2.1 g'.2.2.2 Z (F0 m pc' arr' (st'.map (x_cv ad'))) := fun k ad' H' locs' arr' w1 w2 w3 w4 => k hok p e R s m args below meth c fc D kc A Z n0 ad0 hK hex hA hscr hret ad' H' locs' arr' w1 w2 w3 w4
  obtain ⟨hx, hb, hml, hown, hts, hini, hr1, hr2, hr3, hr4⟩ := id fc
  simp only [x_stp] at h
  cases hq : x_nth ls k with
  | none => rw [hq] at h; exact h.elim
  | some w =>
    rw [hq] at h
    cases w <;> first | exact False.elim h | skip
    rename_i x
    cases v <;> first | exact False.elim h | skip
    rename_i d
    obtain ⟨hlow, h⟩ := x_bif_t h
    obtain ⟨-, h⟩ := x_set_iff _ _ _ h
    simp only [x_oki] at hi
    split at hi
    · obtain ⟨h1, i2⟩ := x_ok3 hi
      obtain ⟨h2, i3⟩ := x_ok3 i2
      obtain ⟨h3, h4⟩ := x_ok3 i3
      have e1 := Nat.eq_of_beq_eq_true h1
      have e2 := Nat.eq_of_beq_eq_true h2
      have e4 := of_decide_eq_true h4
      subst e1
      subst e2
      cases e4
      rw [x_nth_get] at hq
      obtain ⟨j, hj⟩ := List.getElem?_of_mem ((x_as_mem (ad := ad) ls 0 _).mpr ⟨_, _, hq, by simp, rfl⟩)
      rw [Nat.zero_add] at hj
      exact lv_iinc hx hb hd hl hj rfl (Nat.le_of_ble_eq_true h3) rfl (fun arr' hl' => go h ad H locs arr' hW hS hag (x_lr_store1 hlow hl'))
    · cases hi
set_option maxHeartbeats 1000000 in
theorem xs_ifCond (l : Launch) {M : xM} {pc len a b : Nat} {v : Value} {ls st : List Value} {g : xG} {σ : xS} {τ : xL} {Q : xQ} {cd : ClassFile.Cond} {k2 : Int} {raw : Instr} (hd : decode (x_by M.1) pc = .ok (raw, len)) (hi : x_oki (M.1, M.2.1, M.2.2.1, M.2.2.2.2.2.1) pc raw len (.ifCond cd k2) a b v = true)
    (h : x_stp M (.ifCond cd k2) (pc + len) a b v ls st g σ τ (fun pc ls st g σ τ => x_snd l M pc ls st g σ τ Q) Q (fun M' as g σ τ Q' => x_snd l M' 0 (x_loc as M'.2.2.1) [] g σ τ Q')) : x_snd l M pc ls st g σ τ Q := by
  intro hok p e R s m args below meth c fc D kc A Z n0 ad0 hK hex hA hscr hret ad H locs arr hW hS hag hl
  have go : ∀ {pc' : Nat} {ls' st' : List Value} {g' : xG} {σ' : xS} {τ' : xL}, x_snd l M pc' ls' st' g' σ' τ' Q → ∀ (ad' : Nat → Nat) (H' : Heap) (locs' : List Loc) (arr' : Array Slot), x_W kc D A ad' g' σ' τ' H' → va_S A s.heap H' locs' → x_ag M n0 ad0 ad' g' → x_lr ad' ls' arr' M.2.2.1 → W p l e R s m args below meth c H' locs' g'.2.2.1 g'.2.2.2 Z (F0 m pc' arr' (st'.map (x_cv ad'))) := fun k ad' H' locs' arr' w1 w2 w3 w4 => k hok p e R s m args below meth c fc D kc A Z n0 ad0 hK hex hA hscr hret ad' H' locs' arr' w1 w2 w3 w4
  obtain ⟨hx, hb, hml, hown, hts, hini, hr1, hr2, hr3, hr4⟩ := id fc
  rcases st with _ | ⟨(y | _ | _ | _ | _ | _ | _), st⟩ <;> first | exact False.elim h | skip
  simp only [x_oki] at hi
  split at hi
  · obtain ⟨h1, h2⟩ := x_ok3 hi
    obtain ⟨h2, h3⟩ := x_ok3 h2
    have e1 := Nat.eq_of_beq_eq_true h1
    have e2 := of_decide_eq_true h2
    have e3 := of_decide_eq_true h3
    subst e1
    rw [e2] at hd
    simp only [x_stp] at h
    cases cd
    · exact lv_if_eq hx hb hd e3 (fun q => go (h.1 q) ad H locs arr hW hS hag hl) (fun q => go (h.2 q) ad H locs arr hW hS hag hl)
    · exact lv_if_ne hx hb hd e3 (fun q => go (h.1 q) ad H locs arr hW hS hag hl) (fun q => go (h.2 q) ad H locs arr hW hS hag hl)
    · exact lv_if_lt hx hb hd e3 (fun q => go (h.1 q) ad H locs arr hW hS hag hl) (fun q => go (h.2 q) ad H locs arr hW hS hag hl)
    · exact lv_if_ge hx hb hd e3 (fun q => go (h.1 q) ad H locs arr hW hS hag hl) (fun q => go (h.2 q) ad H locs arr hW hS hag hl)
    · exact lv_if_gt hx hb hd e3 (fun q => go (h.1 q) ad H locs arr hW hS hag hl) (fun q => go (h.2 q) ad H locs arr hW hS hag hl)
    · exact lv_if_le hx hb hd e3 (fun q => go (h.1 q) ad H locs arr hW hS hag hl) (fun q => go (h.2 q) ad H locs arr hW hS hag hl)
  · cases hi
set_option maxHeartbeats 1000000 in
theorem xs_if_icmp (l : Launch) {M : xM} {pc len a b : Nat} {v : Value} {ls st : List Value} {g : xG} {σ : xS} {τ : xL} {Q : xQ} {cd : ClassFile.Cond} {k2 : Int} {raw : Instr} (hd : decode (x_by M.1) pc = .ok (raw, len)) (hi : x_oki (M.1, M.2.1, M.2.2.1, M.2.2.2.2.2.1) pc raw len (.if_icmp cd k2) a b v = true)
    (h : x_stp M (.if_icmp cd k2) (pc + len) a b v ls st g σ τ (fun pc ls st g σ τ => x_snd l M pc ls st g σ τ Q) Q (fun M' as g σ τ Q' => x_snd l M' 0 (x_loc as M'.2.2.1) [] g σ τ Q')) : x_snd l M pc ls st g σ τ Q := by
  intro hok p e R s m args below meth c fc D kc A Z n0 ad0 hK hex hA hscr hret ad H locs arr hW hS hag hl
  have go : ∀ {pc' : Nat} {ls' st' : List Value} {g' : xG} {σ' : xS} {τ' : xL}, x_snd l M pc' ls' st' g' σ' τ' Q → ∀ (ad' : Nat → Nat) (H' : Heap) (locs' : List Loc) (arr' : Array Slot), x_W kc D A ad' g' σ' τ' H' → va_S A s.heap H' locs' → x_ag M n0 ad0 ad' g' → x_lr ad' ls' arr' M.2.2.1 → W p l e R s m args below meth c H' locs' g'.2.2.1 g'.2.2.2 Z (F0 m pc' arr' (st'.map (x_cv ad'))) := fun k ad' H' locs' arr' w1 w2 w3 w4 => k hok p e R s m args below meth c fc D kc A Z n0 ad0 hK hex hA hscr hret ad' H' locs' arr' w1 w2 w3 w4
  obtain ⟨hx, hb, hml, hown, hts, hini, hr1, hr2, hr3, hr4⟩ := id fc
  rcases st with _ | ⟨(y | _ | _ | _ | _ | _ | _), st⟩ <;> first | exact False.elim h | skip
  rcases st with _ | ⟨(x | _ | _ | _ | _ | _ | _), st⟩ <;> first | exact False.elim h | skip
  simp only [x_oki] at hi
  split at hi
  · obtain ⟨h1, h2⟩ := x_ok3 hi
    obtain ⟨h2, h3⟩ := x_ok3 h2
    have e1 := Nat.eq_of_beq_eq_true h1
    have e2 := of_decide_eq_true h2
    have e3 := of_decide_eq_true h3
    subst e1
    rw [e2] at hd
    simp only [x_stp] at h
    cases cd
    · exact lv_icmp_eq hx hb hd e3 (fun q => go (h.1 q) ad H locs arr hW hS hag hl) (fun q => go (h.2 q) ad H locs arr hW hS hag hl)
    · exact lv_icmp_ne hx hb hd e3 (fun q => go (h.1 q) ad H locs arr hW hS hag hl) (fun q => go (h.2 q) ad H locs arr hW hS hag hl)
    · exact lv_icmp_lt hx hb hd e3 (fun q => go (h.1 q) ad H locs arr hW hS hag hl) (fun q => go (h.2 q) ad H locs arr hW hS hag hl)
    · exact lv_icmp_ge hx hb hd e3 (fun q => go (h.1 q) ad H locs arr hW hS hag hl) (fun q => go (h.2 q) ad H locs arr hW hS hag hl)
    · exact lv_icmp_gt hx hb hd e3 (fun q => go (h.1 q) ad H locs arr hW hS hag hl) (fun q => go (h.2 q) ad H locs arr hW hS hag hl)
    · exact lv_icmp_le hx hb hd e3 (fun q => go (h.1 q) ad H locs arr hW hS hag hl) (fun q => go (h.2 q) ad H locs arr hW hS hag hl)
  · cases hi
set_option maxHeartbeats 1000000 in
theorem xs_goto (l : Launch) {M : xM} {pc len a b : Nat} {v : Value} {ls st : List Value} {g : xG} {σ : xS} {τ : xL} {Q : xQ} {k2 : Int} {raw : Instr} (hd : decode (x_by M.1) pc = .ok (raw, len)) (hi : x_oki (M.1, M.2.1, M.2.2.1, M.2.2.2.2.2.1) pc raw len (.goto k2) a b v = true)
    (h : x_stp M (.goto k2) (pc + len) a b v ls st g σ τ (fun pc ls st g σ τ => x_snd l M pc ls st g σ τ Q) Q (fun M' as g σ τ Q' => x_snd l M' 0 (x_loc as M'.2.2.1) [] g σ τ Q')) : x_snd l M pc ls st g σ τ Q := by
  intro hok p e R s m args below meth c fc D kc A Z n0 ad0 hK hex hA hscr hret ad H locs arr hW hS hag hl
  have go : ∀ {pc' : Nat} {ls' st' : List Value} {g' : xG} {σ' : xS} {τ' : xL}, x_snd l M pc' ls' st' g' σ' τ' Q → ∀ (ad' : Nat → Nat) (H' : Heap) (locs' : List Loc) (arr' : Array Slot), x_W kc D A ad' g' σ' τ' H' → va_S A s.heap H' locs' → x_ag M n0 ad0 ad' g' → x_lr ad' ls' arr' M.2.2.1 → W p l e R s m args below meth c H' locs' g'.2.2.1 g'.2.2.2 Z (F0 m pc' arr' (st'.map (x_cv ad'))) := fun k ad' H' locs' arr' w1 w2 w3 w4 => k hok p e R s m args below meth c fc D kc A Z n0 ad0 hK hex hA hscr hret ad' H' locs' arr' w1 w2 w3 w4
  obtain ⟨hx, hb, hml, hown, hts, hini, hr1, hr2, hr3, hr4⟩ := id fc
  simp only [x_oki] at hi
  split at hi
  · obtain ⟨e1, e3⟩ := x_ok2 hi
    subst e1
    exact lv_goto hx hb hd e3 (go h ad H locs arr hW hS hag hl)
  · cases hi
set_option maxHeartbeats 1000000 in
theorem xs_ireturn (l : Launch) {M : xM} {pc len a b : Nat} {v : Value} {ls st : List Value} {g : xG} {σ : xS} {τ : xL} {Q : xQ} {raw : Instr} (hd : decode (x_by M.1) pc = .ok (raw, len)) (hi : x_oki (M.1, M.2.1, M.2.2.1, M.2.2.2.2.2.1) pc raw len .ireturn a b v = true)
    (h : x_stp M .ireturn (pc + len) a b v ls st g σ τ (fun pc ls st g σ τ => x_snd l M pc ls st g σ τ Q) Q (fun M' as g σ τ Q' => x_snd l M' 0 (x_loc as M'.2.2.1) [] g σ τ Q')) : x_snd l M pc ls st g σ τ Q := by
  intro hok p e R s m args below meth c fc D kc A Z n0 ad0 hK hex hA hscr hret ad H locs arr hW hS hag hl
  have go : ∀ {pc' : Nat} {ls' st' : List Value} {g' : xG} {σ' : xS} {τ' : xL}, x_snd l M pc' ls' st' g' σ' τ' Q → ∀ (ad' : Nat → Nat) (H' : Heap) (locs' : List Loc) (arr' : Array Slot), x_W kc D A ad' g' σ' τ' H' → va_S A s.heap H' locs' → x_ag M n0 ad0 ad' g' → x_lr ad' ls' arr' M.2.2.1 → W p l e R s m args below meth c H' locs' g'.2.2.1 g'.2.2.2 Z (F0 m pc' arr' (st'.map (x_cv ad'))) := fun k ad' H' locs' arr' w1 w2 w3 w4 => k hok p e R s m args below meth c fc D kc A Z n0 ad0 hK hex hA hscr hret ad' H' locs' arr' w1 w2 w3 w4
  obtain ⟨hx, hb, hml, hown, hts, hini, hr1, hr2, hr3, hr4⟩ := id fc
  obtain ⟨rfl, rfl⟩ := x_ok1 (i := .ireturn) hi
  rcases st with _ | ⟨(x | _ | _ | _ | _ | _ | _), (_ | ⟨_, _⟩)⟩ <;> first | exact False.elim h | skip
  simp only [x_stp] at h
  cases hq : Nat.beq M.2.2.2.2.1 1
  · rw [hq] at h
    obtain ⟨h1, h2, h3⟩ := x_bif_t h
    exact hret (some (.int x)) g σ τ ad H locs arr pc h3 hW hS hag ⟨hd, Or.inr ⟨Nat.eq_of_beq_eq_true h1, h2⟩⟩
  · rw [hq] at h
    exact hret (some (.int x)) g σ τ ad H locs arr pc h hW hS hag ⟨hd, Or.inl (Nat.eq_of_beq_eq_true hq)⟩
set_option maxHeartbeats 1000000 in
theorem xs_lreturn (l : Launch) {M : xM} {pc len a b : Nat} {v : Value} {ls st : List Value} {g : xG} {σ : xS} {τ : xL} {Q : xQ} {raw : Instr} (hd : decode (x_by M.1) pc = .ok (raw, len)) (hi : x_oki (M.1, M.2.1, M.2.2.1, M.2.2.2.2.2.1) pc raw len .lreturn a b v = true)
    (h : x_stp M .lreturn (pc + len) a b v ls st g σ τ (fun pc ls st g σ τ => x_snd l M pc ls st g σ τ Q) Q (fun M' as g σ τ Q' => x_snd l M' 0 (x_loc as M'.2.2.1) [] g σ τ Q')) : x_snd l M pc ls st g σ τ Q := by
  intro hok p e R s m args below meth c fc D kc A Z n0 ad0 hK hex hA hscr hret ad H locs arr hW hS hag hl
  have go : ∀ {pc' : Nat} {ls' st' : List Value} {g' : xG} {σ' : xS} {τ' : xL}, x_snd l M pc' ls' st' g' σ' τ' Q → ∀ (ad' : Nat → Nat) (H' : Heap) (locs' : List Loc) (arr' : Array Slot), x_W kc D A ad' g' σ' τ' H' → va_S A s.heap H' locs' → x_ag M n0 ad0 ad' g' → x_lr ad' ls' arr' M.2.2.1 → W p l e R s m args below meth c H' locs' g'.2.2.1 g'.2.2.2 Z (F0 m pc' arr' (st'.map (x_cv ad'))) := fun k ad' H' locs' arr' w1 w2 w3 w4 => k hok p e R s m args below meth c fc D kc A Z n0 ad0 hK hex hA hscr hret ad' H' locs' arr' w1 w2 w3 w4
  obtain ⟨hx, hb, hml, hown, hts, hini, hr1, hr2, hr3, hr4⟩ := id fc
  obtain ⟨rfl, rfl⟩ := x_ok1 (i := .lreturn) hi
  rcases st with _ | ⟨(_ | x | _ | _ | _ | _ | _), (_ | ⟨_, _⟩)⟩ <;> first | exact False.elim h | skip
  obtain ⟨h1, h2⟩ := x_bif_t h
  exact hret (some (.long x)) g σ τ ad H locs arr pc h2 hW hS hag ⟨Nat.eq_of_beq_eq_true h1, hd⟩
set_option maxHeartbeats 1000000 in
theorem xs_return (l : Launch) {M : xM} {pc len a b : Nat} {v : Value} {ls st : List Value} {g : xG} {σ : xS} {τ : xL} {Q : xQ} {raw : Instr} (hd : decode (x_by M.1) pc = .ok (raw, len)) (hi : x_oki (M.1, M.2.1, M.2.2.1, M.2.2.2.2.2.1) pc raw len .return_ a b v = true)
    (h : x_stp M .return_ (pc + len) a b v ls st g σ τ (fun pc ls st g σ τ => x_snd l M pc ls st g σ τ Q) Q (fun M' as g σ τ Q' => x_snd l M' 0 (x_loc as M'.2.2.1) [] g σ τ Q')) : x_snd l M pc ls st g σ τ Q := by
  intro hok p e R s m args below meth c fc D kc A Z n0 ad0 hK hex hA hscr hret ad H locs arr hW hS hag hl
  have go : ∀ {pc' : Nat} {ls' st' : List Value} {g' : xG} {σ' : xS} {τ' : xL}, x_snd l M pc' ls' st' g' σ' τ' Q → ∀ (ad' : Nat → Nat) (H' : Heap) (locs' : List Loc) (arr' : Array Slot), x_W kc D A ad' g' σ' τ' H' → va_S A s.heap H' locs' → x_ag M n0 ad0 ad' g' → x_lr ad' ls' arr' M.2.2.1 → W p l e R s m args below meth c H' locs' g'.2.2.1 g'.2.2.2 Z (F0 m pc' arr' (st'.map (x_cv ad'))) := fun k ad' H' locs' arr' w1 w2 w3 w4 => k hok p e R s m args below meth c fc D kc A Z n0 ad0 hK hex hA hscr hret ad' H' locs' arr' w1 w2 w3 w4
  obtain ⟨hx, hb, hml, hown, hts, hini, hr1, hr2, hr3, hr4⟩ := id fc
  obtain ⟨rfl, rfl⟩ := x_ok1 (i := .return_) hi
  rcases st with _ | ⟨_, _⟩ <;> first | exact False.elim h | skip
  obtain ⟨h1, h2⟩ := x_bif_t h
  exact hret none g σ τ ad H locs arr pc h2 hW hS hag ⟨Nat.eq_of_beq_eq_true h1, hd⟩
end
section
theorem x_at_obj {kc : Nat → ClassId} {ad : Nat → Nat} {sh : List (Nat × Nat)} {ρ : xR} {σ : xS} {τ : xL} {q kd n : Nat} (h : x_nth sh q = some (kd, n)) (hk : kd < 16) : (x_wd kc ad sh ρ σ τ)[q]? = some (ad q, .inr (kd, (List.range n).map (x_val ad ρ σ τ q kd))) := by
  rw [x_wd_get, h]
  simp [x_cell, hk]
theorem x_at_arr {kc : Nat → ClassId} {ad : Nat → Nat} {sh : List (Nat × Nat)} {ρ : xR} {σ : xS} {τ : xL} {q kd n : Nat} (h : x_nth sh q = some (kd, n)) (hk : ¬ kd < 16) (hk2 : kd < 18) : (x_wd kc ad sh ρ σ τ)[q]? = some (ad q, .inl (kc kd, n, .inl (σ q))) := by
  rw [x_wd_get, h]
  simp [x_cell, hk, hk2]
theorem x_at_ref {kc : Nat → ClassId} {ad : Nat → Nat} {sh : List (Nat × Nat)} {ρ : xR} {σ : xS} {τ : xL} {q kd n : Nat} (h : x_nth sh q = some (kd, n)) (hk : ¬ kd < 18) : (x_wd kc ad sh ρ σ τ)[q]? = some (ad q, .inl (kc kd, n, .inr (.inr (.inr (.inr (fun j => (ρ q j).map ad)))))) := by
  rw [x_wd_get, h]
  simp [x_cell, hk, show ¬ kd < 16 by omega]
theorem x_fs_at {ad : Nat → Nat} {ρ : xR} {σ : xS} {τ : xL} {q kd n b : Nat} (h : b < n) : ((List.range n).map (x_val ad ρ σ τ q kd))[b]? = some (x_val ad ρ σ τ q kd b) := by
  rw [List.getElem?_map, List.getElem?_range h]
  rfl
theorem x_fs_set {ad : Nat → Nat} {ρ ρ' : xR} {σ σ' : xS} {τ τ' : xL} {q kd n b : Nat} {w : Value} (hb : x_val ad ρ' σ' τ' q kd b = w) (ho : ∀ k, k ≠ b → x_val ad ρ' σ' τ' q kd k = x_val ad ρ σ τ q kd k) : (List.range n).map (x_val ad ρ' σ' τ' q kd) = ((List.range n).map (x_val ad ρ σ τ q kd)).set b w := by
  apply List.ext_getElem?
  intro k
  by_cases hk : k = b
  · subst hk
    by_cases hl : k < n
    · rw [List.getElem?_set_self (by simpa using hl), x_fs_at hl, hb]
    · rw [List.getElem?_eq_none (by simp; omega), List.getElem?_eq_none (by simp; omega)]
  · rw [List.getElem?_set_ne (Ne.symm hk), List.getElem?_map, List.getElem?_map]
    by_cases hl : k < n
    · rw [List.getElem?_range hl]
      simp [ho k hk]
    · rw [List.getElem?_eq_none (by simpa using hl)]
      rfl
theorem x_nar01 {x : Int32} (h : x = 0 ∨ x = 1) : vp_nar .boolean x = x := by
  rcases h with rfl | rfl <;> decide
theorem x_sw_at {K : Nat → Prop} {d : Nat} {x : Int32} : ∀ (sw : List (Int32 × Nat)) (j : Nat) (t : Nat), sw[j]? = some (x, t) → (∀ (i : Nat) (y : Int32) (u : Nat), i < j → sw[i]? = some (y, u) → y ≠ x) → x_sw sw x d K → K t
  | [], _, _, h, _, _ => by simp at h
  | (y, u) :: r, 0, t, h, _, hs => by
    simp only [List.getElem?_cons_zero, Option.some.injEq, Prod.mk.injEq] at h
    obtain ⟨rfl, rfl⟩ := h
    exact hs.1 rfl
  | (y, u) :: r, j + 1, t, h, hn, hs => by
    have hy : ¬ x = y := fun e => hn 0 y u (by omega) (by simp) e.symm
    exact x_sw_at r j t (by simpa using h) (fun i z w hi hz => hn (i + 1) z w (by omega) (by simpa using hz)) (hs.2 hy)
theorem x_sw_none {K : Nat → Prop} {d : Nat} {x : Int32} : ∀ (sw : List (Int32 × Nat)), (∀ (i : Nat) (y : Int32) (u : Nat), sw[i]? = some (y, u) → y ≠ x) → x_sw sw x d K → K d
  | [], _, hs => hs
  | (y, u) :: r, hn, hs => x_sw_none r (fun i z w hz => hn (i + 1) z w (by simpa using hz)) (hs.2 (fun e => hn 0 y u (by simp) e.symm))
theorem x_swt_at {pc : Nat} : ∀ (os : List Int) (lo : Int) (sw : List (Int32 × Nat)), x_swt_ok pc lo os sw = true → ∀ (i : Nat), (∀ (y : Int32) (u : Nat), sw[i]? = some (y, u) → y.toInt = lo + (i : Int)) ∧ (∀ o : Int, os[i]? = some o → ∃ (y : Int32) (u : Nat), sw[i]? = some (y, u) ∧ (pc : Int) + o = (u : Int)) ∧ sw.length = os.length
  | [], lo, [], _, i => by simp
  | o :: os, lo, (v, t) :: r, h, i => by
    simp only [x_swt_ok, Bool.and_eq_true, decide_eq_true_eq] at h
    obtain ⟨h1, h2, h3⟩ := h
    cases i with
    | zero =>
      have := (x_swt_at os (lo + 1) r h3 0).2.2
      refine ⟨fun y u e => ?_, fun o' e => ⟨v, t, by simp, ?_⟩, by simp [this]⟩
      · simp only [List.getElem?_cons_zero, Option.some.injEq, Prod.mk.injEq] at e
        rw [← e.1, h1]
        simp
      · simp only [List.getElem?_cons_zero, Option.some.injEq] at e
        rw [← e, h2]
    | succ i =>
      obtain ⟨g1, g2, g3⟩ := x_swt_at os (lo + 1) r h3 i
      refine ⟨fun y u e => ?_, fun o' e => ?_, by simp [g3]⟩
      · have := g1 y u (by simpa using e)
        rw [this]
        omega
      · obtain ⟨y, u, e1, e2⟩ := g2 o' (by simpa using e)
        exact ⟨y, u, by simpa using e1, e2⟩
  | [], _, _ :: _, h, _ => by simp [x_swt_ok] at h
  | _ :: _, _, [], h, _ => by simp [x_swt_ok] at h
theorem x_swl_at {pc d : Nat} {di : Int} {K : Nat → Prop} {x : Int32} (hdi : (pc : Int) + di = (d : Int)) : ∀ (os : List (Int × Int)) (sw : List (Int32 × Nat)), x_swl_ok pc os sw = true → x_sw sw x d K → ∃ u : Nat, (pc : Int) + Op.lookupswitch.offset os di x.toInt = (u : Int) ∧ K u
  | [], [], _, h => ⟨d, hdi, h⟩
  | (k, o) :: os, (v, t) :: r, h, hs => by
    simp only [x_swl_ok, Bool.and_eq_true, decide_eq_true_eq] at h
    obtain ⟨h1, h2, h3⟩ := h
    by_cases e : x = v
    · refine ⟨t, ?_, hs.1 e⟩
      rw [Op.lookupswitch.offset_cons, if_pos (by rw [e, h1])]
      exact h2
    · obtain ⟨u, e1, e2⟩ := x_swl_at hdi os r h3 (hs.2 e)
      exact ⟨u, by rw [lv_osw e h1]; exact e1, e2⟩
  | [], _ :: _, h, _ => by simp [x_swl_ok] at h
  | _ :: _, [], h, _ => by simp [x_swl_ok] at h
set_option maxHeartbeats 1000000 in
theorem xs_switch (l : Launch) {M : xM} {pc len a b : Nat} {v : Value} {ls st : List Value} {g : xG} {σ : xS} {τ : xL} {Q : xQ} {k2 : Int} {ps2 : Array (Int × Int)} {raw : Instr} (hd : decode (x_by M.1) pc = .ok (raw, len)) (hi : x_oki (M.1, M.2.1, M.2.2.1, M.2.2.2.2.2.1) pc raw len (.lookupswitch k2 ps2) a b v = true)
    (h : x_stp M (.lookupswitch k2 ps2) (pc + len) a b v ls st g σ τ (fun pc ls st g σ τ => x_snd l M pc ls st g σ τ Q) Q (fun M' as g σ τ Q' => x_snd l M' 0 (x_loc as M'.2.2.1) [] g σ τ Q')) : x_snd l M pc ls st g σ τ Q := by
  intro hok p e R s m args below meth c fc D kc A Z n0 ad0 hK hex hA hscr hret ad H locs arr hW hS hag hl
  have go : ∀ {pc' : Nat} {ls' st' : List Value} {g' : xG} {σ' : xS} {τ' : xL}, x_snd l M pc' ls' st' g' σ' τ' Q → ∀ (ad' : Nat → Nat) (H' : Heap) (locs' : List Loc) (arr' : Array Slot), x_W kc D A ad' g' σ' τ' H' → va_S A s.heap H' locs' → x_ag M n0 ad0 ad' g' → x_lr ad' ls' arr' M.2.2.1 → W p l e R s m args below meth c H' locs' g'.2.2.1 g'.2.2.2 Z (F0 m pc' arr' (st'.map (x_cv ad'))) := fun k ad' H' locs' arr' w1 w2 w3 w4 => k hok p e R s m args below meth c fc D kc A Z n0 ad0 hK hex hA hscr hret ad' H' locs' arr' w1 w2 w3 w4
  obtain ⟨hx, hb, hml, hown, hts, hini, hr1, hr2, hr3, hr4⟩ := id fc
  rcases st with _ | ⟨(x | _ | _ | _ | _ | _ | _), st⟩ <;> first | exact False.elim h | skip
  simp only [x_stp] at h
  cases hsw : x_nth x_swt b with
  | none => rw [hsw] at h; exact h.elim
  | some sw =>
    rw [hsw] at h
    simp only [x_oki, hsw] at hi
    split at hi
    · rename_i dflt lo hi' offs
      obtain ⟨h1, h2⟩ := x_ok3 hi
      obtain ⟨h2, h3⟩ := x_ok3 h2
      have e1 := of_decide_eq_true h1
      have e2 := of_decide_eq_true h2
      by_cases hin : x.toInt < lo ∨ hi' < x.toInt
      · refine lv_tableOut hx hb hd hin e1 (go (x_sw_none (K := fun pc => x_snd l M pc ls st g σ τ Q) sw (fun i y u hy e => ?_) h) ad H locs arr hW hS hag hl)
        have h4 := (x_swt_at offs.toList lo sw h3 i)
        have h5 := h4.1 y u hy
        have h6 : i < sw.length := (List.getElem?_eq_some_iff.mp hy).1
        rw [h4.2.2] at h6
        rw [e] at h5
        omega
      · have g1 : ¬ x.toInt < lo := fun q => hin (Or.inl q)
        have g2 : ¬ hi' < x.toInt := fun q => hin (Or.inr q)
        have hlt : (x.toInt - lo).toNat < offs.toList.length := by omega
        obtain ⟨o, ho⟩ : ∃ o, offs.toList[(x.toInt - lo).toNat]? = some o := ⟨_, List.getElem?_eq_getElem hlt⟩
        obtain ⟨y, u, e3, e4⟩ := (x_swt_at offs.toList lo sw h3 (x.toInt - lo).toNat).2.1 o ho
        have e5 := (x_swt_at offs.toList lo sw h3 (x.toInt - lo).toNat).1 y u e3
        have hxy : y = x := Int32.toInt_inj.mp (by rw [e5]; omega)
        subst hxy
        refine lv_tableIn hx hb hd g1 g2 (by rw [← Array.getElem?_toList]; exact ho) e4 (go (x_sw_at (K := fun pc => x_snd l M pc ls st g σ τ Q) sw _ u e3 (fun i z w hi2 hz e => ?_) h) ad H locs arr hW hS hag hl)
        have e6 := (x_swt_at offs.toList lo sw h3 i).1 z w hz
        rw [e] at e6
        omega
    · rename_i dflt ps
      obtain ⟨h1, h2⟩ := x_ok3 hi
      obtain ⟨h2, h3⟩ := x_ok3 h2
      have e1 := of_decide_eq_true h1
      obtain ⟨u, e2, e3⟩ := x_swl_at (K := fun pc => x_snd l M pc ls st g σ τ Q) e1 ps.toList sw h3 h
      exact lv_lookup hx hb hd h2 rfl e2 (go e3 ad H locs arr hW hS hag hl)
    · cases hi
set_option maxHeartbeats 1000000 in
theorem xs_getfield (l : Launch) {M : xM} {pc len a b : Nat} {v : Value} {ls st : List Value} {g : xG} {σ : xS} {τ : xL} {Q : xQ} {k2 : Nat} {raw : Instr} (hd : decode (x_by M.1) pc = .ok (raw, len)) (hi : x_oki (M.1, M.2.1, M.2.2.1, M.2.2.2.2.2.1) pc raw len (.getfield k2) a b v = true)
    (h : x_stp M (.getfield k2) (pc + len) a b v ls st g σ τ (fun pc ls st g σ τ => x_snd l M pc ls st g σ τ Q) Q (fun M' as g σ τ Q' => x_snd l M' 0 (x_loc as M'.2.2.1) [] g σ τ Q')) : x_snd l M pc ls st g σ τ Q := by
  intro hok p e R s m args below meth c fc D kc A Z n0 ad0 hK hex hA hscr hret ad H locs arr hW hS hag hl
  have go : ∀ {pc' : Nat} {ls' st' : List Value} {g' : xG} {σ' : xS} {τ' : xL}, x_snd l M pc' ls' st' g' σ' τ' Q → ∀ (ad' : Nat → Nat) (H' : Heap) (locs' : List Loc) (arr' : Array Slot), x_W kc D A ad' g' σ' τ' H' → va_S A s.heap H' locs' → x_ag M n0 ad0 ad' g' → x_lr ad' ls' arr' M.2.2.1 → W p l e R s m args below meth c H' locs' g'.2.2.1 g'.2.2.2 Z (F0 m pc' arr' (st'.map (x_cv ad'))) := fun k ad' H' locs' arr' w1 w2 w3 w4 => k hok p e R s m args below meth c fc D kc A Z n0 ad0 hK hex hA hscr hret ad' H' locs' arr' w1 w2 w3 w4
  obtain ⟨hx, hb, hml, hown, hts, hini, hr1, hr2, hr3, hr4⟩ := id fc
  rcases st with _ | ⟨(_ | _ | _ | _ | _ | q | _), st⟩ <;> first | exact False.elim h | skip
  simp only [x_stp] at h
  cases hq : x_nth g.1 q with
  | none => rw [hq] at h; exact h.elim
  | some s2 =>
    obtain ⟨kd, n⟩ := s2
    rw [hq] at h
    obtain ⟨hc, h9⟩ := x_bif_t h
    clear h
    obtain ⟨hc1, hc2⟩ := x_ok3 hc
    have e0 := Nat.eq_of_beq_eq_true hc1
    subst e0
    have hbn : b < n := Nat.le_of_ble_eq_true hc2
    simp only [x_oki] at hi
    split at hi
    · obtain ⟨h1, j2⟩ := x_ok3 hi
      obtain ⟨h2, j3⟩ := x_ok3 j2
      obtain ⟨h3, j4⟩ := x_ok3 j3
      obtain ⟨h4, h5⟩ := x_ok3 j4
      have e1 := Nat.eq_of_beq_eq_true h1
      subst e1
      have hk8 : kd < 8 := Nat.le_of_ble_eq_true h2
      have hbN : b < x_clN kd := Nat.le_of_ble_eq_true h3
      have htag := Nat.eq_of_beq_eq_true h4
      have hlink := hts _ (x_has_in h5 rfl)
      obtain ⟨C, T, N, ty, c1, c2, c3, c4, c5, c6, c7, c8, c9, -, -⟩ := x_class kd hk8
      rw [c7] at hbN
      rw [c6] at hlink
      have hat := x_at_obj (kc := kc) (ad := ad) (ρ := g.2.1) (σ := σ) (τ := τ) hq (show kd < 16 by omega)
      refine va_get (v := x_val ad g.2.1 σ τ q kd b) hx hb hts c3 hown hK hW.1 q hat c1 b hbN hlink (fun x hx2 => ?_) (x_fs_at hbn) hd ?_
      · rw [c8 b hbN] at hx2
        exact hx2
      · cases v with
        | int x =>
          have e : x_val ad g.2.1 σ τ q kd b = .int (σ q b) := by unfold x_val; rw [htag]; rfl
          rw [e]
          exact go h9 ad H locs arr hW hS hag hl
        | long x =>
          have e : x_val ad g.2.1 σ τ q kd b = .long (τ q b) := by unfold x_val; rw [htag]; rfl
          rw [e]
          exact go h9 ad H locs arr hW hS hag hl
        | _ =>
          cases hr : g.2.1 q b with
          | none => simp only [hr] at h9
          | some r =>
            simp only [hr] at h9
            have e : x_val ad g.2.1 σ τ q kd b = .ref (ad r) := by unfold x_val; rw [htag, hr]; rfl
            rw [e]
            exact go h9 ad H locs arr hW hS hag hl
    · cases hi
set_option maxHeartbeats 1000000 in
theorem xs_putfield (l : Launch) {M : xM} {pc len a b : Nat} {v : Value} {ls st : List Value} {g : xG} {σ : xS} {τ : xL} {Q : xQ} {k2 : Nat} {raw : Instr} (hd : decode (x_by M.1) pc = .ok (raw, len)) (hi : x_oki (M.1, M.2.1, M.2.2.1, M.2.2.2.2.2.1) pc raw len (.putfield k2) a b v = true)
    (h : x_stp M (.putfield k2) (pc + len) a b v ls st g σ τ (fun pc ls st g σ τ => x_snd l M pc ls st g σ τ Q) Q (fun M' as g σ τ Q' => x_snd l M' 0 (x_loc as M'.2.2.1) [] g σ τ Q')) : x_snd l M pc ls st g σ τ Q := by
  intro hok p e R s m args below meth c fc D kc A Z n0 ad0 hK hex hA hscr hret ad H locs arr hW hS hag hl
  have go : ∀ {pc' : Nat} {ls' st' : List Value} {g' : xG} {σ' : xS} {τ' : xL}, x_snd l M pc' ls' st' g' σ' τ' Q → ∀ (ad' : Nat → Nat) (H' : Heap) (locs' : List Loc) (arr' : Array Slot), x_W kc D A ad' g' σ' τ' H' → va_S A s.heap H' locs' → x_ag M n0 ad0 ad' g' → x_lr ad' ls' arr' M.2.2.1 → W p l e R s m args below meth c H' locs' g'.2.2.1 g'.2.2.2 Z (F0 m pc' arr' (st'.map (x_cv ad'))) := fun k ad' H' locs' arr' w1 w2 w3 w4 => k hok p e R s m args below meth c fc D kc A Z n0 ad0 hK hex hA hscr hret ad' H' locs' arr' w1 w2 w3 w4
  obtain ⟨hx, hb, hml, hown, hts, hini, hr1, hr2, hr3, hr4⟩ := id fc
  rcases st with _ | ⟨w, st⟩
  · exact False.elim h
  rcases st with _ | ⟨(_ | _ | _ | _ | _ | q | _), st⟩ <;> first | exact False.elim h | skip
  simp only [x_stp] at h
  cases hq : x_nth g.1 q with
  | none => rw [hq] at h; exact h.elim
  | some s2 =>
    obtain ⟨kd, n⟩ := s2
    rw [hq] at h
    obtain ⟨hc, h9⟩ := x_bif_t h
    clear h
    obtain ⟨hc1, hc2⟩ := x_ok3 hc
    have e0 := Nat.eq_of_beq_eq_true hc1
    subst e0
    have hbn : b < n := Nat.le_of_ble_eq_true hc2
    simp only [x_oki] at hi
    split at hi
    · obtain ⟨h1, j2⟩ := x_ok3 hi
      obtain ⟨h2, j3⟩ := x_ok3 j2
      obtain ⟨h3, j4⟩ := x_ok3 j3
      obtain ⟨h4, j5⟩ := x_ok3 j4
      obtain ⟨h5, h6⟩ := x_ok3 j5
      have e1 := Nat.eq_of_beq_eq_true h1
      subst e1
      have hk8 : kd < 8 := Nat.le_of_ble_eq_true h2
      have hbN : b < x_clN kd := Nat.le_of_ble_eq_true h3
      have htag := Nat.eq_of_beq_eq_true h4
      have hlink := hts _ (x_has_in h5 rfl)
      obtain ⟨C, T, N, ty, c1, c2, c3, c4, c5, c6, c7, c8, c9, -, -⟩ := x_class kd hk8
      rw [c7] at hbN
      rw [c6] at hlink h6
      have hat := x_at_obj (kc := kc) (ad := ad) (ρ := g.2.1) (σ := σ) (τ := τ) hq (show kd < 16 by omega)
      have hsame : ∀ x, s.fieldFound? (T b).1 (T b).2.1 (T b).2.2.1 = some x → s.fieldFound? (x_cn kd) (T b).2.1 (T b).2.2.1 = some x := fun x hx2 => by
        rw [c8 b hbN] at hx2
        exact hx2
      -- the step, for a value that fits
      have stp : ∀ (w' : Value), narrow (ty b) w' = w' → fits (ty b) w' = true → (∀ (H1 : Heap) (locs1 : List Loc), va_P D x_cl ((x_wd kc ad g.1 g.2.1 σ τ).set q (ad q, .inr (kd, ((List.range n).map (x_val ad g.2.1 σ τ q kd)).set b w'))) H1 → va_D A ((x_wd kc ad g.1 g.2.1 σ τ).set q (ad q, .inr (kd, ((List.range n).map (x_val ad g.2.1 σ τ q kd)).set b w'))) → va_S A s.heap H1 locs1 → W p l e R s m args below meth c H1 locs1 g.2.2.1 g.2.2.2 Z (F0 m (pc + 3) arr (st.map (x_cv ad)))) → W p l e R s m args below meth c H locs g.2.2.1 g.2.2.2 Z (F0 m pc arr (w' :: .ref (ad q) :: st.map (x_cv ad))) := by
        intro w' hn hf kk
        cases hfin : (T b).2.2.2 with
        | false => exact va_put hx hb hts c3 ty c4 c5 hown hK hW.1 hW.2.1 hS q hat c1 b hbN hlink hsame hfin (c4 b hbN) hn hf (by simpa using hbn) hd kk
        | true =>
          rw [hfin] at h6
          simp only [Bool.not_true, Bool.false_or] at h6
          obtain ⟨h7, h8⟩ := x_ok3 h6
          have e7 := of_decide_eq_true h7
          have e8 := Nat.eq_of_beq_eq_true h8
          exact va_putF hx hb hts c3 ty c4 c5 hown hK hW.1 hW.2.1 hS q hat c1 b hbN hlink hsame hfin (hini e7) (by rw [c8 b hbN, e8]) (c4 b hbN) hn hf (by simpa using hbn) hd kk
      have c9b := c9 b hbN
      cases v with
      | int x =>
        cases w <;> first | exact False.elim h9 | skip
        rename_i x
        have ety : ty b = .int := c9b.1 htag
        refine stp (.int x) (by rw [ety]; rfl) (by rw [ety]; rfl) (fun H1 locs1 hP1 hD1 hS1 => ?_)
        have ew := x_wd_upd (kc := kc) (ad := ad) (ρ := g.2.1) (ρ' := g.2.1) (σ := σ) (σ' := x_row σ q (upd (σ q) b x)) (τ := τ) (τ' := τ) hq (fun _ _ => rfl) (fun k hk => x_row_ne hk) (fun _ _ => rfl)
        have ec : x_cell kc ad g.2.1 (x_row σ q (upd (σ q) b x)) τ q (kd, n) = .inr (kd, ((List.range n).map (x_val ad g.2.1 σ τ q kd)).set b (.int x)) := by
          rw [← x_fs_set (ρ' := g.2.1) (σ' := x_row σ q (upd (σ q) b x)) (τ' := τ)]
          · simp [x_cell, show kd < 16 by omega]
          · unfold x_val
            rw [htag]
            simp [x_tag, x_row_eq, upd]
          · intro k hk
            unfold x_val
            simp [x_row_eq, upd, hk]
        rw [ec] at ew
        rw [← ew] at hP1 hD1
        exact go h9 ad H1 locs1 arr ⟨hP1, hD1, hW.2.2⟩ hS1 hag hl
      | long x =>
        cases w <;> first | exact False.elim h9 | skip
        rename_i x
        have ety : ty b = .long := c9b.2.1 htag
        refine stp (.long x) (by rw [ety]; rfl) (by rw [ety]; rfl) (fun H1 locs1 hP1 hD1 hS1 => ?_)
        have ew := x_wd_upd (kc := kc) (ad := ad) (ρ := g.2.1) (ρ' := g.2.1) (σ := σ) (σ' := σ) (τ := τ) (τ' := x_row τ q (vp_updL (τ q) b x)) hq (fun _ _ => rfl) (fun _ _ => rfl) (fun k hk => x_row_ne hk)
        have ec : x_cell kc ad g.2.1 σ (x_row τ q (vp_updL (τ q) b x)) q (kd, n) = .inr (kd, ((List.range n).map (x_val ad g.2.1 σ τ q kd)).set b (.long x)) := by
          rw [← x_fs_set (ρ' := g.2.1) (σ' := σ) (τ' := x_row τ q (vp_updL (τ q) b x))]
          · simp [x_cell, show kd < 16 by omega]
          · unfold x_val
            rw [htag]
            simp [x_tag, x_row_eq, vp_updL]
          · intro k hk
            unfold x_val
            simp [x_row_eq, vp_updL, hk]
        rw [ec] at ew
        rw [← ew] at hP1 hD1
        exact go h9 ad H1 locs1 arr ⟨hP1, hD1, hW.2.2⟩ hS1 hag hl
      | retAddr x =>
        cases w <;> first | exact False.elim h9 | skip
        rename_i r
        obtain ⟨hr, h8⟩ := x_bif_t h9
        clear h9
        have hrl : r < g.1.length := Nat.le_of_ble_eq_true hr
        have ety := x_isr_ok (c9b.2.2.1 htag) (ad r)
        refine stp (.ref (ad r)) ety.1 ety.2.1 (fun H1 locs1 hP1 hD1 hS1 => ?_)
        have ew := x_wd_upd (kc := kc) (ad := ad) (ρ := g.2.1) (ρ' := x_wr g.2.1 q b r) (σ := σ) (σ' := σ) (τ := τ) (τ' := τ) hq (fun k hk => x_wr_ne hk) (fun _ _ => rfl) (fun _ _ => rfl)
        have er : ∀ k, x_wr g.2.1 q b r q k = if k = b then some r else g.2.1 q k := by
          intro k
          have e1 : Nat.beq q q = true := Nat.beq_refl q
          by_cases hk : k = b
          · subst hk
            simp [x_wr]
          · have e2 : Nat.beq k b = false := by
              cases hb2 : Nat.beq k b
              · rfl
              · exact absurd (Nat.eq_of_beq_eq_true hb2) hk
            simp [x_wr, e2, hk]
        have ec : x_cell kc ad (x_wr g.2.1 q b r) σ τ q (kd, n) = .inr (kd, ((List.range n).map (x_val ad g.2.1 σ τ q kd)).set b (.ref (ad r))) := by
          rw [← x_fs_set (ρ' := x_wr g.2.1 q b r) (σ' := σ) (τ' := τ)]
          · simp [x_cell, show kd < 16 by omega]
          · unfold x_val
            rw [htag, er]
            simp [x_tag, va_rf]
          · intro k hk
            unfold x_val
            rw [er]
            simp [hk]
        rw [ec] at ew
        rw [← ew] at hP1 hD1
        refine go h8 ad H1 locs1 arr ⟨hP1, hD1, fun q' j r' hr' => ?_⟩ hS1 hag hl
        by_cases hq' : q' = q
        · subst hq'
          simp only [er] at hr'
          by_cases hj : j = b
          · rw [if_pos hj] at hr'
            cases hr'
            exact hrl
          · rw [if_neg hj] at hr'
            exact hW.2.2 _ _ _ hr'
        · simp only [x_wr_ne hq'] at hr'
          exact hW.2.2 _ _ _ hr'
      | _ => cases w <;> exact False.elim h9
    · cases hi
set_option maxHeartbeats 1000000 in
theorem xs_iaload (l : Launch) {M : xM} {pc len a b : Nat} {v : Value} {ls st : List Value} {g : xG} {σ : xS} {τ : xL} {Q : xQ} {raw : Instr} (hd : decode (x_by M.1) pc = .ok (raw, len)) (hi : x_oki (M.1, M.2.1, M.2.2.1, M.2.2.2.2.2.1) pc raw len .iaload a b v = true)
    (h : x_stp M .iaload (pc + len) a b v ls st g σ τ (fun pc ls st g σ τ => x_snd l M pc ls st g σ τ Q) Q (fun M' as g σ τ Q' => x_snd l M' 0 (x_loc as M'.2.2.1) [] g σ τ Q')) : x_snd l M pc ls st g σ τ Q := by
  intro hok p e R s m args below meth c fc D kc A Z n0 ad0 hK hex hA hscr hret ad H locs arr hW hS hag hl
  have go : ∀ {pc' : Nat} {ls' st' : List Value} {g' : xG} {σ' : xS} {τ' : xL}, x_snd l M pc' ls' st' g' σ' τ' Q → ∀ (ad' : Nat → Nat) (H' : Heap) (locs' : List Loc) (arr' : Array Slot), x_W kc D A ad' g' σ' τ' H' → va_S A s.heap H' locs' → x_ag M n0 ad0 ad' g' → x_lr ad' ls' arr' M.2.2.1 → W p l e R s m args below meth c H' locs' g'.2.2.1 g'.2.2.2 Z (F0 m pc' arr' (st'.map (x_cv ad'))) := fun k ad' H' locs' arr' w1 w2 w3 w4 => k hok p e R s m args below meth c fc D kc A Z n0 ad0 hK hex hA hscr hret ad' H' locs' arr' w1 w2 w3 w4
  obtain ⟨hx, hb, hml, hown, hts, hini, hr1, hr2, hr3, hr4⟩ := id fc
  obtain ⟨rfl, rfl⟩ := x_ok1 (i := .iaload) hi
  rcases st with _ | ⟨(j | _ | _ | _ | _ | _ | _), st⟩ <;> first | exact False.elim h | skip
  rcases st with _ | ⟨(_ | _ | _ | _ | _ | q | q), st⟩ <;> first | exact False.elim h | skip
  · obtain ⟨n, h1, h2, h3⟩ := h
    exact va_iald hx hb hK hW.1 q 0 (x_at_arr h1 (by omega) (by omega)) rfl h2 hd (go h3 ad H locs arr hW hS hag hl)
  · obtain ⟨⟨h0, h1, h2⟩, h3⟩ := h
    obtain ⟨g1, g2, g3⟩ := hscr h0
    subst h1
    exact va_sld hx hb g1 g2 g3 hS h2 hd (go h3 ad H locs arr hW hS hag hl)
set_option maxHeartbeats 1000000 in
theorem xs_baload (l : Launch) {M : xM} {pc len a b : Nat} {v : Value} {ls st : List Value} {g : xG} {σ : xS} {τ : xL} {Q : xQ} {raw : Instr} (hd : decode (x_by M.1) pc = .ok (raw, len)) (hi : x_oki (M.1, M.2.1, M.2.2.1, M.2.2.2.2.2.1) pc raw len .baload a b v = true)
    (h : x_stp M .baload (pc + len) a b v ls st g σ τ (fun pc ls st g σ τ => x_snd l M pc ls st g σ τ Q) Q (fun M' as g σ τ Q' => x_snd l M' 0 (x_loc as M'.2.2.1) [] g σ τ Q')) : x_snd l M pc ls st g σ τ Q := by
  intro hok p e R s m args below meth c fc D kc A Z n0 ad0 hK hex hA hscr hret ad H locs arr hW hS hag hl
  have go : ∀ {pc' : Nat} {ls' st' : List Value} {g' : xG} {σ' : xS} {τ' : xL}, x_snd l M pc' ls' st' g' σ' τ' Q → ∀ (ad' : Nat → Nat) (H' : Heap) (locs' : List Loc) (arr' : Array Slot), x_W kc D A ad' g' σ' τ' H' → va_S A s.heap H' locs' → x_ag M n0 ad0 ad' g' → x_lr ad' ls' arr' M.2.2.1 → W p l e R s m args below meth c H' locs' g'.2.2.1 g'.2.2.2 Z (F0 m pc' arr' (st'.map (x_cv ad'))) := fun k ad' H' locs' arr' w1 w2 w3 w4 => k hok p e R s m args below meth c fc D kc A Z n0 ad0 hK hex hA hscr hret ad' H' locs' arr' w1 w2 w3 w4
  obtain ⟨hx, hb, hml, hown, hts, hini, hr1, hr2, hr3, hr4⟩ := id fc
  obtain ⟨rfl, rfl⟩ := x_ok1 (i := .baload) hi
  rcases st with _ | ⟨(j | _ | _ | _ | _ | _ | _), st⟩ <;> first | exact False.elim h | skip
  rcases st with _ | ⟨(_ | _ | _ | _ | _ | q | _), st⟩ <;> first | exact False.elim h | skip
  obtain ⟨n, h1, h2, h3⟩ := h
  exact va_zald hx hb hK hW.1 q 1 (x_at_arr h1 (by omega) (by omega)) rfl h2 hd (go h3 ad H locs arr hW hS hag hl)
set_option maxHeartbeats 1000000 in
theorem xs_iastore (l : Launch) {M : xM} {pc len a b : Nat} {v : Value} {ls st : List Value} {g : xG} {σ : xS} {τ : xL} {Q : xQ} {raw : Instr} (hd : decode (x_by M.1) pc = .ok (raw, len)) (hi : x_oki (M.1, M.2.1, M.2.2.1, M.2.2.2.2.2.1) pc raw len .iastore a b v = true)
    (h : x_stp M .iastore (pc + len) a b v ls st g σ τ (fun pc ls st g σ τ => x_snd l M pc ls st g σ τ Q) Q (fun M' as g σ τ Q' => x_snd l M' 0 (x_loc as M'.2.2.1) [] g σ τ Q')) : x_snd l M pc ls st g σ τ Q := by
  intro hok p e R s m args below meth c fc D kc A Z n0 ad0 hK hex hA hscr hret ad H locs arr hW hS hag hl
  have go : ∀ {pc' : Nat} {ls' st' : List Value} {g' : xG} {σ' : xS} {τ' : xL}, x_snd l M pc' ls' st' g' σ' τ' Q → ∀ (ad' : Nat → Nat) (H' : Heap) (locs' : List Loc) (arr' : Array Slot), x_W kc D A ad' g' σ' τ' H' → va_S A s.heap H' locs' → x_ag M n0 ad0 ad' g' → x_lr ad' ls' arr' M.2.2.1 → W p l e R s m args below meth c H' locs' g'.2.2.1 g'.2.2.2 Z (F0 m pc' arr' (st'.map (x_cv ad'))) := fun k ad' H' locs' arr' w1 w2 w3 w4 => k hok p e R s m args below meth c fc D kc A Z n0 ad0 hK hex hA hscr hret ad' H' locs' arr' w1 w2 w3 w4
  obtain ⟨hx, hb, hml, hown, hts, hini, hr1, hr2, hr3, hr4⟩ := id fc
  obtain ⟨rfl, rfl⟩ := x_ok1 (i := .iastore) hi
  rcases st with _ | ⟨(x | _ | _ | _ | _ | _ | _), st⟩ <;> first | exact False.elim h | skip
  rcases st with _ | ⟨(j | _ | _ | _ | _ | _ | _), st⟩ <;> first | exact False.elim h | skip
  rcases st with _ | ⟨(_ | _ | _ | _ | _ | q | _), st⟩ <;> first | exact False.elim h | skip
  obtain ⟨n, h1, h2, h3⟩ := h
  have ew := x_wd_upd (kc := kc) (ad := ad) (ρ := g.2.1) (ρ' := g.2.1) (σ := σ) (σ' := x_row σ q (upd (σ q) j.toNatClampNeg x)) (τ := τ) (τ' := τ) h1 (fun _ _ => rfl) (fun k hk => x_row_ne hk) (fun _ _ => rfl)
  have ec : x_cell kc ad g.2.1 (x_row σ q (upd (σ q) j.toNatClampNeg x)) τ q (16, n) = .inl (kc 16, n, .inl (upd (σ q) j.toNatClampNeg x)) := by
    simp [x_cell, x_row_eq]
  rw [ec] at ew
  refine va_iast hx hb hK hW.1 hW.2.1 hS q 0 (x_at_arr h1 (by omega) (by omega)) rfl h2 hd (fun H1 locs1 hP1 hD1 hS1 => ?_)
  rw [← ew] at hP1 hD1
  exact go h3 ad H1 locs1 arr ⟨hP1, hD1, hW.2.2⟩ hS1 hag hl
set_option maxHeartbeats 1000000 in
theorem xs_bastore (l : Launch) {M : xM} {pc len a b : Nat} {v : Value} {ls st : List Value} {g : xG} {σ : xS} {τ : xL} {Q : xQ} {raw : Instr} (hd : decode (x_by M.1) pc = .ok (raw, len)) (hi : x_oki (M.1, M.2.1, M.2.2.1, M.2.2.2.2.2.1) pc raw len .bastore a b v = true)
    (h : x_stp M .bastore (pc + len) a b v ls st g σ τ (fun pc ls st g σ τ => x_snd l M pc ls st g σ τ Q) Q (fun M' as g σ τ Q' => x_snd l M' 0 (x_loc as M'.2.2.1) [] g σ τ Q')) : x_snd l M pc ls st g σ τ Q := by
  intro hok p e R s m args below meth c fc D kc A Z n0 ad0 hK hex hA hscr hret ad H locs arr hW hS hag hl
  have go : ∀ {pc' : Nat} {ls' st' : List Value} {g' : xG} {σ' : xS} {τ' : xL}, x_snd l M pc' ls' st' g' σ' τ' Q → ∀ (ad' : Nat → Nat) (H' : Heap) (locs' : List Loc) (arr' : Array Slot), x_W kc D A ad' g' σ' τ' H' → va_S A s.heap H' locs' → x_ag M n0 ad0 ad' g' → x_lr ad' ls' arr' M.2.2.1 → W p l e R s m args below meth c H' locs' g'.2.2.1 g'.2.2.2 Z (F0 m pc' arr' (st'.map (x_cv ad'))) := fun k ad' H' locs' arr' w1 w2 w3 w4 => k hok p e R s m args below meth c fc D kc A Z n0 ad0 hK hex hA hscr hret ad' H' locs' arr' w1 w2 w3 w4
  obtain ⟨hx, hb, hml, hown, hts, hini, hr1, hr2, hr3, hr4⟩ := id fc
  obtain ⟨rfl, rfl⟩ := x_ok1 (i := .bastore) hi
  rcases st with _ | ⟨(x | _ | _ | _ | _ | _ | _), st⟩ <;> first | exact False.elim h | skip
  rcases st with _ | ⟨(j | _ | _ | _ | _ | _ | _), st⟩ <;> first | exact False.elim h | skip
  rcases st with _ | ⟨(_ | _ | _ | _ | _ | q | _), st⟩ <;> first | exact False.elim h | skip
  obtain ⟨n, h1, h2, h4, h3⟩ := h
  have ew := x_wd_upd (kc := kc) (ad := ad) (ρ := g.2.1) (ρ' := g.2.1) (σ := σ) (σ' := x_row σ q (upd (σ q) j.toNatClampNeg x)) (τ := τ) (τ' := τ) h1 (fun _ _ => rfl) (fun k hk => x_row_ne hk) (fun _ _ => rfl)
  have ec : x_cell kc ad g.2.1 (x_row σ q (upd (σ q) j.toNatClampNeg x)) τ q (17, n) = .inl (kc 17, n, .inl (upd (σ q) j.toNatClampNeg x)) := by
    simp [x_cell, x_row_eq]
  rw [ec] at ew
  refine va_zast hx hb hK hW.1 hW.2.1 hS q 1 (x_at_arr h1 (by omega) (by omega)) rfl h2 hd (fun H1 locs1 hP1 hD1 hS1 => ?_)
  rw [x_nar01 h4, ← ew] at hP1 hD1
  exact go h3 ad H1 locs1 arr ⟨hP1, hD1, hW.2.2⟩ hS1 hag hl
set_option maxHeartbeats 1000000 in
theorem xs_aaload (l : Launch) {M : xM} {pc len a b : Nat} {v : Value} {ls st : List Value} {g : xG} {σ : xS} {τ : xL} {Q : xQ} {raw : Instr} (hd : decode (x_by M.1) pc = .ok (raw, len)) (hi : x_oki (M.1, M.2.1, M.2.2.1, M.2.2.2.2.2.1) pc raw len .aaload a b v = true)
    (h : x_stp M .aaload (pc + len) a b v ls st g σ τ (fun pc ls st g σ τ => x_snd l M pc ls st g σ τ Q) Q (fun M' as g σ τ Q' => x_snd l M' 0 (x_loc as M'.2.2.1) [] g σ τ Q')) : x_snd l M pc ls st g σ τ Q := by
  intro hok p e R s m args below meth c fc D kc A Z n0 ad0 hK hex hA hscr hret ad H locs arr hW hS hag hl
  have go : ∀ {pc' : Nat} {ls' st' : List Value} {g' : xG} {σ' : xS} {τ' : xL}, x_snd l M pc' ls' st' g' σ' τ' Q → ∀ (ad' : Nat → Nat) (H' : Heap) (locs' : List Loc) (arr' : Array Slot), x_W kc D A ad' g' σ' τ' H' → va_S A s.heap H' locs' → x_ag M n0 ad0 ad' g' → x_lr ad' ls' arr' M.2.2.1 → W p l e R s m args below meth c H' locs' g'.2.2.1 g'.2.2.2 Z (F0 m pc' arr' (st'.map (x_cv ad'))) := fun k ad' H' locs' arr' w1 w2 w3 w4 => k hok p e R s m args below meth c fc D kc A Z n0 ad0 hK hex hA hscr hret ad' H' locs' arr' w1 w2 w3 w4
  obtain ⟨hx, hb, hml, hown, hts, hini, hr1, hr2, hr3, hr4⟩ := id fc
  obtain ⟨rfl, rfl⟩ := x_ok1 (i := .aaload) hi
  rcases st with _ | ⟨(j | _ | _ | _ | _ | _ | _), st⟩ <;> first | exact False.elim h | skip
  rcases st with _ | ⟨(_ | _ | _ | _ | _ | q | _), st⟩ <;> first | exact False.elim h | skip
  obtain ⟨kd, n, r, h1, h2, h3, h4, h5⟩ := h
  have hlt : j.toNatClampNeg < n := Nat.not_le.mp fun q => h3 (Or.inr q)
  have hat := x_at_ref (kc := kc) (ad := ad) (ρ := g.2.1) (σ := σ) (τ := τ) h1 (by rcases h2 with rfl | rfl <;> omega)
  have hg := go h5 ad H locs arr hW hS hag hl
  have ty : ∃ ty : FieldType, ty.isReference = true ∧ ArrOfT s (kc kd) ty := by
    rcases h2 with rfl | rfl
    · exact ⟨.array .int, rfl, (hK.2 2 (kc 18, .array .int) rfl).1⟩
    · exact ⟨.object "SnowTracks$Pass", rfl, (hK.2 3 (kc 19, .object "SnowTracks$Pass") rfl).1⟩
  obtain ⟨ty, t1, t2⟩ := ty
  exact W.aald (v := .ref (ad r)) (ty := ty) hx hb (hW.1 q _ hat) (t2 n (fun i => va_rf ((g.2.1 q i).map ad))) t1 (fun q => by cases q) (by show ¬ (j < 0 ∨ (arrV _ _ _).slots.size ≤ _); rw [arrV_size]; exact h3) (by show (arrV _ _ _).slots[_]? = _; rw [arrV_read _ _ hlt]; show some (va_rf ((g.2.1 q j.toNatClampNeg).map ad)) = _; rw [h4]; rfl) rfl rfl hd hg
set_option maxHeartbeats 1000000 in
theorem xs_aastore (l : Launch) {M : xM} {pc len a b : Nat} {v : Value} {ls st : List Value} {g : xG} {σ : xS} {τ : xL} {Q : xQ} {raw : Instr} (hd : decode (x_by M.1) pc = .ok (raw, len)) (hi : x_oki (M.1, M.2.1, M.2.2.1, M.2.2.2.2.2.1) pc raw len .aastore a b v = true)
    (h : x_stp M .aastore (pc + len) a b v ls st g σ τ (fun pc ls st g σ τ => x_snd l M pc ls st g σ τ Q) Q (fun M' as g σ τ Q' => x_snd l M' 0 (x_loc as M'.2.2.1) [] g σ τ Q')) : x_snd l M pc ls st g σ τ Q := by
  intro hok p e R s m args below meth c fc D kc A Z n0 ad0 hK hex hA hscr hret ad H locs arr hW hS hag hl
  have go : ∀ {pc' : Nat} {ls' st' : List Value} {g' : xG} {σ' : xS} {τ' : xL}, x_snd l M pc' ls' st' g' σ' τ' Q → ∀ (ad' : Nat → Nat) (H' : Heap) (locs' : List Loc) (arr' : Array Slot), x_W kc D A ad' g' σ' τ' H' → va_S A s.heap H' locs' → x_ag M n0 ad0 ad' g' → x_lr ad' ls' arr' M.2.2.1 → W p l e R s m args below meth c H' locs' g'.2.2.1 g'.2.2.2 Z (F0 m pc' arr' (st'.map (x_cv ad'))) := fun k ad' H' locs' arr' w1 w2 w3 w4 => k hok p e R s m args below meth c fc D kc A Z n0 ad0 hK hex hA hscr hret ad' H' locs' arr' w1 w2 w3 w4
  obtain ⟨hx, hb, hml, hown, hts, hini, hr1, hr2, hr3, hr4⟩ := id fc
  obtain ⟨rfl, rfl⟩ := x_ok1 (i := .aastore) hi
  rcases st with _ | ⟨(_ | _ | _ | _ | _ | r | _), st⟩ <;> first | exact False.elim h | skip
  rcases st with _ | ⟨(j | _ | _ | _ | _ | _ | _), st⟩ <;> first | exact False.elim h | skip
  rcases st with _ | ⟨(_ | _ | _ | _ | _ | q | _), st⟩ <;> first | exact False.elim h | skip
  obtain ⟨n, n2, h1, h2, h3, h4⟩ := h
  have ew := x_wd_upd (kc := kc) (ad := ad) (ρ := g.2.1) (ρ' := x_wr g.2.1 q j.toNatClampNeg r) (σ := σ) (σ' := σ) (τ := τ) (τ' := τ) h1 (fun k hk => x_wr_ne hk) (fun _ _ => rfl) (fun _ _ => rfl)
  have er : ∀ k, x_wr g.2.1 q j.toNatClampNeg r q k = if k = j.toNatClampNeg then some r else g.2.1 q k := by
    intro k
    have e1 : Nat.beq q q = true := Nat.beq_refl q
    by_cases hk : k = j.toNatClampNeg
    · subst hk
      simp [x_wr]
    · have e2 : Nat.beq k j.toNatClampNeg = false := by
        cases hb2 : Nat.beq k j.toNatClampNeg
        · rfl
        · exact absurd (Nat.eq_of_beq_eq_true hb2) hk
      simp [x_wr, e2, hk]
  have ec : x_cell kc ad (x_wr g.2.1 q j.toNatClampNeg r) σ τ q (19, n) = .inl (kc 19, n, .inr (.inr (.inr (.inr (va_up (fun i => (g.2.1 q i).map ad) j.toNatClampNeg (some (ad r))))))) := by
    have : (fun i => (x_wr g.2.1 q j.toNatClampNeg r q i).map ad) = va_up (fun i => (g.2.1 q i).map ad) j.toNatClampNeg (some (ad r)) := by
      funext k
      rw [er]
      by_cases hk : k = j.toNatClampNeg
      · simp [va_up, hk]
      · simp [va_up, hk]
    simp [x_cell, this]
  rw [ec] at ew
  refine va_astq hx hb hK hW.1 hW.2.1 hS q 3 r 2 (r := ("SnowTracks$Pass", x_F2, 8)) (x_at_ref h1 (by omega)) rfl (x_at_obj h3 (by omega)) rfl h2 hd (fun H1 locs1 hP1 hD1 hS1 => ?_)
  rw [← ew] at hP1 hD1
  refine go h4 ad H1 locs1 arr ⟨hP1, hD1, fun q' j' r' hr' => ?_⟩ hS1 hag hl
  by_cases hq' : q' = q
  · subst hq'
    simp only [er] at hr'
    by_cases hj : j' = j.toNatClampNeg
    · rw [if_pos hj] at hr'
      cases hr'
      exact x_nth_lt h3
    · rw [if_neg hj] at hr'
      exact hW.2.2 _ _ _ hr'
  · simp only [x_wr_ne hq'] at hr'
    exact hW.2.2 _ _ _ hr'
set_option maxHeartbeats 1000000 in
theorem xs_arraylength (l : Launch) {M : xM} {pc len a b : Nat} {v : Value} {ls st : List Value} {g : xG} {σ : xS} {τ : xL} {Q : xQ} {raw : Instr} (hd : decode (x_by M.1) pc = .ok (raw, len)) (hi : x_oki (M.1, M.2.1, M.2.2.1, M.2.2.2.2.2.1) pc raw len .arraylength a b v = true)
    (h : x_stp M .arraylength (pc + len) a b v ls st g σ τ (fun pc ls st g σ τ => x_snd l M pc ls st g σ τ Q) Q (fun M' as g σ τ Q' => x_snd l M' 0 (x_loc as M'.2.2.1) [] g σ τ Q')) : x_snd l M pc ls st g σ τ Q := by
  intro hok p e R s m args below meth c fc D kc A Z n0 ad0 hK hex hA hscr hret ad H locs arr hW hS hag hl
  have go : ∀ {pc' : Nat} {ls' st' : List Value} {g' : xG} {σ' : xS} {τ' : xL}, x_snd l M pc' ls' st' g' σ' τ' Q → ∀ (ad' : Nat → Nat) (H' : Heap) (locs' : List Loc) (arr' : Array Slot), x_W kc D A ad' g' σ' τ' H' → va_S A s.heap H' locs' → x_ag M n0 ad0 ad' g' → x_lr ad' ls' arr' M.2.2.1 → W p l e R s m args below meth c H' locs' g'.2.2.1 g'.2.2.2 Z (F0 m pc' arr' (st'.map (x_cv ad'))) := fun k ad' H' locs' arr' w1 w2 w3 w4 => k hok p e R s m args below meth c fc D kc A Z n0 ad0 hK hex hA hscr hret ad' H' locs' arr' w1 w2 w3 w4
  obtain ⟨hx, hb, hml, hown, hts, hini, hr1, hr2, hr3, hr4⟩ := id fc
  obtain ⟨rfl, rfl⟩ := x_ok1 (i := .arraylength) hi
  rcases st with _ | ⟨(_ | _ | _ | _ | _ | q | q), st⟩ <;> first | exact False.elim h | skip
  · obtain ⟨kd, n, h1, h2, h3⟩ := h
    have hg := go h3 ad H locs arr hW hS hag hl
    rcases h2 with rfl | rfl | rfl | rfl
    · exact va_alen hx hb hK hW.1 q 0 (x_at_arr h1 (by omega) (by omega)) rfl rfl hd hg
    · exact va_alen hx hb hK hW.1 q 1 (x_at_arr h1 (by omega) (by omega)) rfl rfl hd hg
    · exact va_alen hx hb hK hW.1 q 2 (x_at_ref h1 (by omega)) rfl rfl hd hg
    · exact va_alen hx hb hK hW.1 q 3 (x_at_ref h1 (by omega)) rfl rfl hd hg
  · obtain ⟨⟨h0, h1⟩, h3⟩ := h
    obtain ⟨g1, g2, g3⟩ := hscr h0
    subst h1
    exact va_slen hx hb g1 g2 g3 hS hd (go h3 ad H locs arr hW hS hag hl)
set_option maxHeartbeats 1000000 in
theorem xs_objinit (l : Launch) {M : xM} {pc len a b : Nat} {v : Value} {ls st : List Value} {g : xG} {σ : xS} {τ : xL} {Q : xQ} {k2 : Nat} {raw : Instr} (hd : decode (x_by M.1) pc = .ok (raw, len)) (hi : x_oki (M.1, M.2.1, M.2.2.1, M.2.2.2.2.2.1) pc raw len (.invokedynamic k2) a b v = true)
    (h : x_stp M (.invokedynamic k2) (pc + len) a b v ls st g σ τ (fun pc ls st g σ τ => x_snd l M pc ls st g σ τ Q) Q (fun M' as g σ τ Q' => x_snd l M' 0 (x_loc as M'.2.2.1) [] g σ τ Q')) : x_snd l M pc ls st g σ τ Q := by
  intro hok p e R s m args below meth c fc D kc A Z n0 ad0 hK hex hA hscr hret ad H locs arr hW hS hag hl
  have go : ∀ {pc' : Nat} {ls' st' : List Value} {g' : xG} {σ' : xS} {τ' : xL}, x_snd l M pc' ls' st' g' σ' τ' Q → ∀ (ad' : Nat → Nat) (H' : Heap) (locs' : List Loc) (arr' : Array Slot), x_W kc D A ad' g' σ' τ' H' → va_S A s.heap H' locs' → x_ag M n0 ad0 ad' g' → x_lr ad' ls' arr' M.2.2.1 → W p l e R s m args below meth c H' locs' g'.2.2.1 g'.2.2.2 Z (F0 m pc' arr' (st'.map (x_cv ad'))) := fun k ad' H' locs' arr' w1 w2 w3 w4 => k hok p e R s m args below meth c fc D kc A Z n0 ad0 hK hex hA hscr hret ad' H' locs' arr' w1 w2 w3 w4
  obtain ⟨hx, hb, hml, hown, hts, hini, hr1, hr2, hr3, hr4⟩ := id fc
  rcases st with _ | ⟨(_ | _ | _ | _ | _ | q | _), st⟩ <;> first | exact False.elim h | skip
  obtain ⟨hc, h⟩ := x_bif_t h
  have hcat := x_cat_sum ad st 0 hc
  simp only [x_oki] at hi
  split at hi
  · obtain ⟨h1, h2⟩ := x_ok3 hi
    obtain ⟨h2, h3⟩ := x_ok3 h2
    obtain ⟨h3, h4⟩ := x_ok3 h3
    have e1 := Nat.eq_of_beq_eq_true h1
    subst e1
    have e3 := Nat.le_of_ble_eq_true h3
    have e4 := Nat.le_of_ble_eq_true h4
    refine W.objInit hx hb hown (hts _ (x_has_in h2 rfl)) (hts _ (x_tbl_in (by decide +kernel) rfl)) (hts _ (x_tbl_in (by decide +kernel) rfl)) rfl (by rw [hml]; exact hl.1) rfl hd (by omega) ?_ (go h ad H locs arr hW hS hag hl)
    show 2 * 0 + _ + 12 ≤ R.locals
    omega
  · cases hi
set_option maxHeartbeats 1000000 in
theorem xs_copy (l : Launch) {M : xM} {pc len a b : Nat} {v : Value} {ls st : List Value} {g : xG} {σ : xS} {τ : xL} {Q : xQ} {k2 k3 : Nat} {raw : Instr} (hd : decode (x_by M.1) pc = .ok (raw, len)) (hi : x_oki (M.1, M.2.1, M.2.2.1, M.2.2.2.2.2.1) pc raw len (.invokeinterface k2 k3) a b v = true)
    (h : x_stp M (.invokeinterface k2 k3) (pc + len) a b v ls st g σ τ (fun pc ls st g σ τ => x_snd l M pc ls st g σ τ Q) Q (fun M' as g σ τ Q' => x_snd l M' 0 (x_loc as M'.2.2.1) [] g σ τ Q')) : x_snd l M pc ls st g σ τ Q := by
  intro hok p e R s m args below meth c fc D kc A Z n0 ad0 hK hex hA hscr hret ad H locs arr hW hS hag hl
  have go : ∀ {pc' : Nat} {ls' st' : List Value} {g' : xG} {σ' : xS} {τ' : xL}, x_snd l M pc' ls' st' g' σ' τ' Q → ∀ (ad' : Nat → Nat) (H' : Heap) (locs' : List Loc) (arr' : Array Slot), x_W kc D A ad' g' σ' τ' H' → va_S A s.heap H' locs' → x_ag M n0 ad0 ad' g' → x_lr ad' ls' arr' M.2.2.1 → W p l e R s m args below meth c H' locs' g'.2.2.1 g'.2.2.2 Z (F0 m pc' arr' (st'.map (x_cv ad'))) := fun k ad' H' locs' arr' w1 w2 w3 w4 => k hok p e R s m args below meth c fc D kc A Z n0 ad0 hK hex hA hscr hret ad' H' locs' arr' w1 w2 w3 w4
  obtain ⟨hx, hb, hml, hown, hts, hini, hr1, hr2, hr3, hr4⟩ := id fc
  rcases st with _ | ⟨(n | _ | _ | _ | _ | _ | _), st⟩ <;> first | exact False.elim h | skip
  rcases st with _ | ⟨(dp | _ | _ | _ | _ | _ | _), st⟩ <;> first | exact False.elim h | skip
  rcases st with _ | ⟨(_ | _ | _ | _ | _ | q1 | _), st⟩ <;> first | exact False.elim h | skip
  rcases st with _ | ⟨(sp | _ | _ | _ | _ | _ | _), st⟩ <;> first | exact False.elim h | skip
  rcases st with _ | ⟨(_ | _ | _ | _ | _ | q0 | _), st⟩ <;> first | exact False.elim h | skip
  obtain ⟨n0, n1, h1, h2, ⟨g1, g2, g3, g4, g5⟩, h3⟩ := h
  obtain ⟨hc, h3⟩ := x_bif_t h3
  have hcat := x_cat_sum ad st 0 hc
  simp only [x_oki] at hi
  split at hi
  · obtain ⟨i1, i2⟩ := x_ok3 hi
    obtain ⟨i2, i3⟩ := x_ok3 i2
    obtain ⟨i3, i4⟩ := x_ok3 i3
    have e1 := Nat.eq_of_beq_eq_true i1
    subst e1
    have e3 := Nat.le_of_ble_eq_true i3
    have e4 := Nat.le_of_ble_eq_true i4
    have ew := x_wd_upd (kc := kc) (ad := ad) (ρ := g.2.1) (ρ' := g.2.1) (σ := σ) (σ' := x_row σ q1 (va_cpy (σ q0) (σ q1) sp.toNatClampNeg dp.toNatClampNeg n.toNatClampNeg)) (τ := τ) (τ' := τ) h2 (fun _ _ => rfl) (fun k hk => x_row_ne hk) (fun _ _ => rfl)
    have ec : x_cell kc ad g.2.1 (x_row σ q1 (va_cpy (σ q0) (σ q1) sp.toNatClampNeg dp.toNatClampNeg n.toNatClampNeg)) τ q1 (16, n1) = .inl (kc 16, n1, .inl (va_cpy (σ q0) (σ q1) sp.toNatClampNeg dp.toNatClampNeg n.toNatClampNeg)) := by
      simp [x_cell, x_row_eq]
    rw [ec] at ew
    have hnw : nativeFrameWords "java/lang/System" "arraycopy" 5 ≤ 41 := by decide +kernel
    refine va_copyi (ty := .int) hx hb (by rw [hml]; exact hl.1.symm) hown (hts _ (x_has_in i2 rfl)) (hts _ (x_tbl_in (by decide +kernel) rfl)) (hts _ (x_tbl_in (by decide +kernel) rfl)) (hts _ (x_tbl_in (by decide +kernel) rfl)) hK hW.1 hW.2.1 hS q0 q1 0 0 (x_at_arr h1 (by omega) (by omega)) (x_at_arr h2 (by omega) (by omega)) rfl rfl rfl g1 g2 g3 g4 g5 (fun _ _ => rfl) (by omega) (by omega) hd (fun H1 locs1 hP1 hD1 hS1 => ?_)
    rw [← ew] at hP1 hD1
    exact go h3 ad H1 locs1 arr ⟨hP1, hD1, hW.2.2⟩ hS1 hag hl
  · cases hi
set_option maxHeartbeats 1000000 in
theorem xs_dadd (l : Launch) {M : xM} {pc len a b : Nat} {v : Value} {ls st : List Value} {g : xG} {σ : xS} {τ : xL} {Q : xQ} {raw : Instr} (hd : decode (x_by M.1) pc = .ok (raw, len)) (hi : x_oki (M.1, M.2.1, M.2.2.1, M.2.2.2.2.2.1) pc raw len .dadd a b v = true)
    (h : x_stp M .dadd (pc + len) a b v ls st g σ τ (fun pc ls st g σ τ => x_snd l M pc ls st g σ τ Q) Q (fun M' as g σ τ Q' => x_snd l M' 0 (x_loc as M'.2.2.1) [] g σ τ Q')) : x_snd l M pc ls st g σ τ Q := by
  intro hok p e R s m args below meth c fc D kc A Z n0 ad0 hK hex hA hscr hret ad H locs arr hW hS hag hl
  have go : ∀ {pc' : Nat} {ls' st' : List Value} {g' : xG} {σ' : xS} {τ' : xL}, x_snd l M pc' ls' st' g' σ' τ' Q → ∀ (ad' : Nat → Nat) (H' : Heap) (locs' : List Loc) (arr' : Array Slot), x_W kc D A ad' g' σ' τ' H' → va_S A s.heap H' locs' → x_ag M n0 ad0 ad' g' → x_lr ad' ls' arr' M.2.2.1 → W p l e R s m args below meth c H' locs' g'.2.2.1 g'.2.2.2 Z (F0 m pc' arr' (st'.map (x_cv ad'))) := fun k ad' H' locs' arr' w1 w2 w3 w4 => k hok p e R s m args below meth c fc D kc A Z n0 ad0 hK hex hA hscr hret ad' H' locs' arr' w1 w2 w3 w4
  obtain ⟨hx, hb, hml, hown, hts, hini, hr1, hr2, hr3, hr4⟩ := id fc
  rcases st with _ | ⟨(y | _ | _ | _ | _ | _ | _), st⟩ <;> first | exact False.elim h | skip
  rcases st with _ | ⟨(x | _ | _ | _ | _ | _ | _), st⟩ <;> first | exact False.elim h | skip
  obtain ⟨hc, h⟩ := x_bif_t h
  have hcat := x_cat_sum ad st 0 hc
  simp only [x_oki] at hi
  split at hi
  · obtain ⟨i1, i2⟩ := x_ok3 hi
    obtain ⟨i2, i3⟩ := x_ok3 i2
    obtain ⟨i3, i4⟩ := x_ok3 i3
    have e1 := Nat.eq_of_beq_eq_true i1
    subst e1
    have e3 := Nat.le_of_ble_eq_true i3
    have e4 := Nat.le_of_ble_eq_true i4
    obtain ⟨-, -, -, b1, b2⟩ := id hag
    exact va_mmax hx hb (by rw [hml]; exact hl.1.symm) hown (hts _ (x_has_in i2 rfl)) (hts _ (x_tbl_in (by decide +kernel) rfl)) (hts _ (x_tbl_in (by decide +kernel) rfl)) (hts _ (x_tbl_in (by decide +kernel) rfl)) (by omega) (by omega) (by omega) (by omega) hd (go h ad H locs arr hW hS hag hl)
  · cases hi
set_option maxHeartbeats 1000000 in
theorem xs_dsub (l : Launch) {M : xM} {pc len a b : Nat} {v : Value} {ls st : List Value} {g : xG} {σ : xS} {τ : xL} {Q : xQ} {raw : Instr} (hd : decode (x_by M.1) pc = .ok (raw, len)) (hi : x_oki (M.1, M.2.1, M.2.2.1, M.2.2.2.2.2.1) pc raw len .dsub a b v = true)
    (h : x_stp M .dsub (pc + len) a b v ls st g σ τ (fun pc ls st g σ τ => x_snd l M pc ls st g σ τ Q) Q (fun M' as g σ τ Q' => x_snd l M' 0 (x_loc as M'.2.2.1) [] g σ τ Q')) : x_snd l M pc ls st g σ τ Q := by
  intro hok p e R s m args below meth c fc D kc A Z n0 ad0 hK hex hA hscr hret ad H locs arr hW hS hag hl
  have go : ∀ {pc' : Nat} {ls' st' : List Value} {g' : xG} {σ' : xS} {τ' : xL}, x_snd l M pc' ls' st' g' σ' τ' Q → ∀ (ad' : Nat → Nat) (H' : Heap) (locs' : List Loc) (arr' : Array Slot), x_W kc D A ad' g' σ' τ' H' → va_S A s.heap H' locs' → x_ag M n0 ad0 ad' g' → x_lr ad' ls' arr' M.2.2.1 → W p l e R s m args below meth c H' locs' g'.2.2.1 g'.2.2.2 Z (F0 m pc' arr' (st'.map (x_cv ad'))) := fun k ad' H' locs' arr' w1 w2 w3 w4 => k hok p e R s m args below meth c fc D kc A Z n0 ad0 hK hex hA hscr hret ad' H' locs' arr' w1 w2 w3 w4
  obtain ⟨hx, hb, hml, hown, hts, hini, hr1, hr2, hr3, hr4⟩ := id fc
  rcases st with _ | ⟨(y | _ | _ | _ | _ | _ | _), st⟩ <;> first | exact False.elim h | skip
  rcases st with _ | ⟨(x | _ | _ | _ | _ | _ | _), st⟩ <;> first | exact False.elim h | skip
  obtain ⟨hc, h⟩ := x_bif_t h
  have hcat := x_cat_sum ad st 0 hc
  simp only [x_oki] at hi
  split at hi
  · obtain ⟨i1, i2⟩ := x_ok3 hi
    obtain ⟨i2, i3⟩ := x_ok3 i2
    obtain ⟨i3, i4⟩ := x_ok3 i3
    have e1 := Nat.eq_of_beq_eq_true i1
    subst e1
    have e3 := Nat.le_of_ble_eq_true i3
    have e4 := Nat.le_of_ble_eq_true i4
    obtain ⟨-, -, -, b1, b2⟩ := id hag
    exact va_mmin hx hb (by rw [hml]; exact hl.1.symm) hown (hts _ (x_has_in i2 rfl)) (hts _ (x_tbl_in (by decide +kernel) rfl)) (hts _ (x_tbl_in (by decide +kernel) rfl)) (hts _ (x_tbl_in (by decide +kernel) rfl)) (by omega) (by omega) (by omega) (by omega) hd (go h ad H locs arr hW hS hag hl)
  · cases hi
set_option maxHeartbeats 1000000 in
theorem xs_dneg (l : Launch) {M : xM} {pc len a b : Nat} {v : Value} {ls st : List Value} {g : xG} {σ : xS} {τ : xL} {Q : xQ} {raw : Instr} (hd : decode (x_by M.1) pc = .ok (raw, len)) (hi : x_oki (M.1, M.2.1, M.2.2.1, M.2.2.2.2.2.1) pc raw len .dneg a b v = true)
    (h : x_stp M .dneg (pc + len) a b v ls st g σ τ (fun pc ls st g σ τ => x_snd l M pc ls st g σ τ Q) Q (fun M' as g σ τ Q' => x_snd l M' 0 (x_loc as M'.2.2.1) [] g σ τ Q')) : x_snd l M pc ls st g σ τ Q := by
  intro hok p e R s m args below meth c fc D kc A Z n0 ad0 hK hex hA hscr hret ad H locs arr hW hS hag hl
  have go : ∀ {pc' : Nat} {ls' st' : List Value} {g' : xG} {σ' : xS} {τ' : xL}, x_snd l M pc' ls' st' g' σ' τ' Q → ∀ (ad' : Nat → Nat) (H' : Heap) (locs' : List Loc) (arr' : Array Slot), x_W kc D A ad' g' σ' τ' H' → va_S A s.heap H' locs' → x_ag M n0 ad0 ad' g' → x_lr ad' ls' arr' M.2.2.1 → W p l e R s m args below meth c H' locs' g'.2.2.1 g'.2.2.2 Z (F0 m pc' arr' (st'.map (x_cv ad'))) := fun k ad' H' locs' arr' w1 w2 w3 w4 => k hok p e R s m args below meth c fc D kc A Z n0 ad0 hK hex hA hscr hret ad' H' locs' arr' w1 w2 w3 w4
  obtain ⟨hx, hb, hml, hown, hts, hini, hr1, hr2, hr3, hr4⟩ := id fc
  rcases st with _ | ⟨(y | _ | _ | _ | _ | _ | _), st⟩ <;> first | exact False.elim h | skip
  obtain ⟨hc, h⟩ := x_bif_t h
  have hcat := x_cat_sum ad st 0 hc
  simp only [x_oki] at hi
  split at hi
  · obtain ⟨i1, i2⟩ := x_ok3 hi
    obtain ⟨i2, i3⟩ := x_ok3 i2
    obtain ⟨i3, i4⟩ := x_ok3 i3
    have e1 := Nat.eq_of_beq_eq_true i1
    subst e1
    have e3 := Nat.le_of_ble_eq_true i3
    have e4 := Nat.le_of_ble_eq_true i4
    obtain ⟨-, -, -, b1, b2⟩ := id hag
    exact va_mabs hx hb (by rw [hml]; exact hl.1.symm) hown (hts _ (x_has_in i2 rfl)) (hts _ (x_tbl_in (by decide +kernel) rfl)) (hts _ (x_tbl_in (by decide +kernel) rfl)) (hts _ (x_tbl_in (by decide +kernel) rfl)) (by omega) (by omega) (by omega) (by omega) hd (go h ad H locs arr hW hS hag hl)
  · cases hi
end
section
/-! CALLS: a callee's walk is its contract -/
theorem x_AA_moved {u U : State} (hvm : u.vm.Alike U.vm) (h : x_AA u) : x_AA U := by
  obtain ⟨comp, c, k, h1, h2, h3, h4⟩ := h
  obtain ⟨k', hk', he⟩ := hvm.2.2 _ _ h2
  exact ⟨comp, c, k', by rw [hvm.findClass]; exact h1, hk', by rw [he]; exact h3, by rw [hvm.findClass]; exact h4⟩
theorem x_ex_moved {s U : State} (hW : s.WarmedH U.vm) (h : x_ex s) : x_ex U := by
  refine ⟨fun w hw hn => ?_, h.2.1.moved hW.alike, x_AA_moved hW.alike h.2.2⟩
  have h1 := h.1 w hw hn
  cases w <;> first | exact va_Nw.warmM hW h1 | exact absurd hn (by simp [x_nw])
theorem x_ex_same {s U : State} (hW : s.vm = U.vm) (h : x_ex s) : x_ex U := by
  refine ⟨fun w hw hn => ?_, h.2.1.moved (by rw [hW]; exact Vm.Alike.refl _), x_AA_moved (by rw [hW]; exact Vm.Alike.refl _) h.2.2⟩
  have h1 := h.1 w hw hn
  cases w <;> first | exact va_Nw.same rfl hW h1 | exact absurd hn (by simp [x_nw])
def x_Qc {S : Type} (post : Option Value → S → Prop) (B : S → State → Prop) (A : Nat → Prop) : Array Value → State → Outcome → State → Prop := fun _ st oc t => (∃ (v : Option Value) (u : S), oc = .returned v ∧ post v u ∧ B u t) ∧ va_F A st t
section XC
variable {p : Program} {l : Launch} {e : Env} {R : Room} {s : State} {m : MethodId} {args : Array Value} {below : List Frame} {meth : Method} {c : Code} {H : Heap} {locs : List Loc} {cells slots : Nat} {Q : State → Prop}
variable {pc : Nat} {ls : Array Slot} {rest st0 : List Value} {a : Array Value} {A0 A1 : Nat → Prop} {H0 : Heap} {mc ms : Nat} {free : Addr → Prop}
theorem x_callW {S : Type} {post : Option Value → S → Prop} {B : S → State → Prop} (hr : va_Run p l e R s m args below meth c H locs cells slots mc ms (F0 m pc ls st0) rest (x_Qc post B A1 a) free) (hS : va_S A0 H0 H locs) (hA : ∀ q, q < H.size → A1 q → A0 q) (hf : ∀ q, free q → A0 q)
    (kk : ∀ (v : Option Value) (u : S) (t : State) (H1 : Heap) (locs1 : List Loc), t.heap = H1 → s.vm.Alike t.vm → post v u → B u t → va_S A0 H0 H1 locs1 → W p l e R s m args below meth c H1 locs1 (cells + mc) (slots + ms) Q (F0 m (pc + 3) ls (v.toList ++ rest))) : W p l e R s m args below meth c H locs cells slots Q (F0 m pc ls st0) := by
  intro T hT X
  obtain ⟨v, st₀, t, T', L, h0, X', hL, e1, e2, ⟨⟨r, u, hv, hp, hb⟩, hz, hk⟩, st⟩ := hr T hT X
  cases hv
  rw [h0] at hz hk
  obtain ⟨t2, a1, b1⟩ := kk v u t T'.heap (locs ++ L) e1.symm (by rw [← e2]; exact X'.warmed.alike) hp hb
    ⟨Nat.le_trans hS.1 (by rw [e1]; exact hz), fun q h1 h2 => by rw [e1, hk q (Nat.lt_of_lt_of_le h1 hS.1) (fun z => h2 (hA q (Nat.lt_of_lt_of_le h1 hS.1) z))]; exact hS.2.1 q h1 h2, fun q hq => by
      rcases List.mem_append.mp hq with h | h
      · exact hS.2.2 q h
      · exact hf _ (hL q h)⟩ T' rfl X'
  exact ⟨t2, st t2 a1, b1⟩
end XC
def x_ws (a : Nat) (M : xM) : List Jvm.Cond := Cond.code (x_y a) (x_by a) M.2.2.1 (x_rty M.2.2.2.2.1) :: x_tbl
def x_rm (M : xM) : Room := { frames := M.2.2.2.2.2.1.1, cells := M.2.2.2.2.2.1.2.2.1, slots := M.2.2.2.2.2.1.2.2.2, locals := M.2.2.2.2.2.1.2.1 }
abbrev xU := xG × xS × xL × (Nat → Nat)
def x_post (Q : xQ) (v : Option Value) (u : xU) : Prop := Q v u.1 u.2.1 u.2.2.1 ∧ ∀ (ad : Nat → Nat) (x : Value), v = some x → x_cv ad x = x
def x_B (M : xM) (kc : Nat → ClassId) (D : va_G) (ad : Nat → Nat) (n : Nat) (A : Nat → Prop) (u : xU) (t : State) : Prop := x_W kc D A u.2.2.2 u.1 u.2.1 u.2.2.1 t.heap ∧ (∀ k, k < n → u.2.2.2 k = ad k) ∧ n ≤ u.1.1.length ∧ (M.2.2.2.2.2.1.2.2.1 = 0 → u.2.2.2 = ad)
/-- what is known of a callee -/
theorem x_cal {a : Nat} {M : xM} (h : x_nth x_tab a = some M) : x_okM M = true ∧ x_cok a M = true := by
  constructor
  · rw [x_nth_get] at h
    exact x_tab_ok M (List.mem_of_getElem? h)
  · have := x_allI_at x_tab 0 a M x_tab_cok h
    rwa [Nat.zero_add] at this
theorem x_cok_all {a : Nat} {M : xM} (h : x_cok a M = true) : M.1 = a ∧ Cond.code (x_y a) (x_by a) M.2.2.1 (x_rty M.2.2.2.2.1) ∈ x_tbl ∧ Cond.initialized (x_y a).cls ∈ x_tbl ∧ (x_y a).cls = x_cn M.2.1 ∧ Jvm.plainName (x_y a).cls = true ∧ ((x_y a).cls ≠ "java/lang/invoke/MethodHandle" ∧ (x_y a).cls ≠ "java/lang/invoke/VarHandle") ∧
    (x_kd a = 1 → Cond.static (x_y a) ∈ x_tbl ∧ (parseMethodDescriptor (x_y a).desc).map (fun d => d.parameters.length) = some M.2.2.2.1) ∧
    (x_kd a = 0 → Cond.instanceMethod (x_y a) ∈ x_tbl ∧ Cond.selects (x_y a).cls (x_y a) (x_y a) ∈ x_tbl ∧ (parseMethodDescriptor (x_y a).desc).map (fun d => d.parameters.length + 1) = some M.2.2.2.1 ∧ M.2.1 < 8) ∧
    (x_kd a = 2 → Cond.instanceMethod (x_y a) ∈ x_tbl ∧ (x_y a).name = "<init>" ∧ (parseMethodDescriptor (x_y a).desc).map (fun d => d.parameters.length + 1) = some M.2.2.2.1 ∧ M.2.1 < 8 ∧ M.2.2.2.2.1 = 0) := by
  unfold x_cok at h
  cases hq : x_nth x_cp a with
  | none => rw [hq] at h; cases h
  | some r =>
    obtain ⟨pc, pi, pm, ps, kd⟩ := r
    have hkd : x_kd a = kd := by unfold x_kd; rw [hq]
    rw [hq] at h
    dsimp only at h
    obtain ⟨a1, h⟩ := x_ok3 h
    obtain ⟨a2, h⟩ := x_ok3 h
    obtain ⟨a3, h⟩ := x_ok3 h
    obtain ⟨a4, h⟩ := x_ok3 h
    obtain ⟨a5, h⟩ := x_ok3 h
    obtain ⟨a6, h⟩ := x_ok3 h
    rw [hkd]
    refine ⟨Nat.eq_of_beq_eq_true a1, x_has_in a2 rfl, x_has_in a3 rfl, of_decide_eq_true a4, a5, of_decide_eq_true a6, ?_, ?_, ?_⟩
    · rintro rfl
      obtain ⟨b1, h⟩ := x_ok3 h
      obtain ⟨b2, h⟩ := x_ok3 h
      exact ⟨x_has_in b1 rfl, of_decide_eq_true b2⟩
    · rintro rfl
      obtain ⟨b1, h⟩ := x_ok3 h
      obtain ⟨b2, h⟩ := x_ok3 h
      obtain ⟨b3, h⟩ := x_ok3 h
      exact ⟨x_has_in b1 rfl, x_has_in b2 rfl, of_decide_eq_true b3, Nat.le_of_ble_eq_true h⟩
    · rintro rfl
      obtain ⟨b1, h⟩ := x_ok3 h
      obtain ⟨b2, h⟩ := x_ok3 h
      obtain ⟨b3, h⟩ := x_ok3 h
      obtain ⟨b4, h⟩ := x_ok3 h
      exact ⟨x_has_in b1 rfl, of_decide_eq_true b2, of_decide_eq_true b3, Nat.le_of_ble_eq_true b4, Nat.eq_of_beq_eq_true h⟩
theorem x_tbl_good {w : Jvm.Cond} (h : w ∈ x_tbl) : goodWord w = true := (List.mem_filter.mp h).2
theorem x_ws_good {a : Nat} {M : xM} (h : x_cok a M = true) : GoodIn x_tbl (x_ws a M) := by
  intro w hw
  have hm : w ∈ x_tbl := by
    rcases List.mem_cons.mp hw with rfl | hw
    · exact (x_cok_all h).2.1
    · exact hw
  exact ⟨hm, good_of_word (x_tbl_good hm)⟩
set_option maxHeartbeats 1000000 in
/-- the contract of a method, out of its walk -/
theorem x_met (l : Launch) {a : Nat} {M : xM} (hM : x_nth x_tab a = some M) {as : List Value} {g : xG} {σ : xS} {τ : xL} {Q : xQ} (h : x_snd l M 0 (x_loc as M.2.2.1) [] (g.1, g.2.1, 0, 0) σ τ Q) (hw : x_words as ≤ M.2.2.1) (hml0 : M.2.2.1 < 1000) (D : va_G) (kc : Nat → ClassId) (ad : Nat → Nat) (sz : Nat) :
    Met l (x_y a) (x_ws a M) (x_rm M) (va_Pc (as.map (x_cv ad)) (fun U => U.heap.size = sz ∧ x_W kc D (fun _ => True) ad g σ τ U.heap ∧ va_K D x_cl (x_tys kc) U ∧ x_ex U)) (x_Qc (x_post Q) (x_B M kc D ad g.1.length (va_A (x_wd kc ad g.1 g.2.1 σ τ) sz)) (va_A (x_wd kc ad g.1 g.2.1 σ τ) sz)) M.2.2.2.2.2.1.2.2.1 M.2.2.2.2.2.1.2.2.2 (va_A (x_wd kc ad g.1 g.2.1 σ τ) sz) := by
  obtain ⟨hok, hcok⟩ := x_cal hM
  obtain ⟨c1, c2, c3, c4, c5, c6, -, -, -⟩ := x_cok_all hcok
  have hlaw : M.1 ≠ 226 := by
    have h1 := x_nth_lt hM
    have h2 : x_tab.length = 226 := by decide +kernel
    omega
  refine Met.ofW (cc := x_by a) (maxL := M.2.2.1) (ret := x_rty M.2.2.2.2.1) c5 rfl ?_
  intro p e s m args below meth c s₁ B hml hv
  obtain ⟨rfl, hsz, hW, hK, hex⟩ := hv
  have hts0 := atoms_spec (ws := x_ws a M) B.pre
  have hts : ∀ w ∈ x_tbl, w.before (as.map (x_cv ad)).toArray s = true := fun w hw => hts0 w (List.mem_cons_of_mem _ hw)
  have hown : s.vm.findClass (x_cn M.2.1) = some m.cls := by
    rw [← c4]
    exact findClass_of_methodNamed B.named
  have hlocks := B.notSynchronized
  have hr := B.returns
  subst hsz
  have hD := hW.2.1.self (sz := s.heap.size)
  generalize hAe : va_A (x_wd kc ad g.1 g.2.1 σ τ) s.heap.size = A at hD ⊢
  have hA : ∀ q : Nat, s.heap.size ≤ q → A q := fun q h => by rw [← hAe]; exact Or.inr h
  have hl := lv_entry (as.map (x_cv ad)) (n := M.2.2.1) (by rw [x_words_sl as (by omega)]; exact hw)
  rw [lg_entry_eq]
  refine h hok p e _ s m _ below meth c ⟨B.exec, by rw [B.bytes, c1], hml, hown, hts, fun hn => ?_, Nat.le_refl _, Nat.le_refl _, Nat.le_refl _, Nat.le_refl _⟩ D kc A _ g.1.length ad hK hex hA (fun q => absurd q hlaw) ?_ ad s.heap [] _ ⟨hW.1, hD, hW.2.2⟩ va_S.rf ⟨fun _ _ => rfl, Nat.le_refl _, fun _ => rfl, Nat.zero_le _, Nat.zero_le _⟩ ⟨hl.1, hl.2.1, fun q hq => hl.2.2 q (x_loc_as as M.2.2.1 0 hw hml0 q hq)⟩
  · have := (name_of_methodNamed B.named B.method).1
    rw [this, ← c1]
    exact hn
  · intro r g' σ' τ' ad' H locs arr pc hQ hW' hS hag hrt
    refine W.widen hag.2.2.2.1 hag.2.2.2.2 ?_
    have post : ∀ (v : Option Value), v = r → (∀ (ad : Nat → Nat) (x : Value), v = some x → x_cv ad x = x) → ∀ t : State, t.heap = H → s.WarmedH t.vm → x_Qc (x_post Q) (x_B M kc D ad g.1.length A) A (as.map (x_cv ad)).toArray s (.returned v) t := by
      intro v hv hn t ht hWt
      refine ⟨⟨v, (g', σ', τ', ad'), rfl, ⟨by rw [hv]; exact hQ, hn⟩, ⟨by rw [ht]; exact hW', hag.1, hag.2.1, hag.2.2.1⟩⟩, hS.F ht⟩
    cases r with
    | none =>
      obtain ⟨r1, r2⟩ := hrt
      rw [r1] at hr
      rw [c1] at r2
      exact W.vret B.exec B.bytes hr (post none rfl (fun _ _ q => by cases q)) hS.2.2 r2
    | some x =>
      cases x with
      | int x =>
        obtain ⟨r1, r2⟩ := hrt
        rw [c1] at r1
        rcases r2 with r2 | ⟨r2, r3⟩
        · rw [r2] at hr
          exact W.iret B.exec B.bytes hr (post _ rfl (fun _ y q => by cases q; rfl)) hS.2.2 r1
        · rw [r2] at hr
          exact W.zret (ty := .boolean) B.exec B.bytes hr (by rcases r3 with rfl | rfl <;> decide) (post _ rfl (fun _ y q => by cases q; rfl)) hS.2.2 r1
      | long x =>
        obtain ⟨r1, r2⟩ := hrt
        rw [r1] at hr
        rw [c1] at r2
        exact W.lret B.exec B.bytes hr (post _ rfl (fun _ y q => by cases q; rfl)) hS.2.2 r2
      | _ => exact False.elim hrt
end
section
theorem x_room_all {M M' : xM} {nc ns : Nat} (h : x_room M M' nc ns = true) : M'.2.2.2.2.2.1.1 + 1 ≤ M.2.2.2.2.2.1.1 ∧ 8 + (M'.2.2.1 + 11) + M'.2.2.2.2.2.1.2.1 ≤ M.2.2.2.2.2.1.2.1 ∧ nc + M'.2.2.2.2.2.1.2.2.1 ≤ M.2.2.2.2.2.1.2.2.1 ∧ ns + M'.2.2.2.2.2.1.2.2.2 ≤ M.2.2.2.2.2.1.2.2.2 ∧ M'.2.2.1 < 1000 := by
  unfold x_room at h
  obtain ⟨h1, h⟩ := x_ok3 h
  obtain ⟨h2, h⟩ := x_ok3 h
  obtain ⟨h3, h⟩ := x_ok3 h
  obtain ⟨h4, h5⟩ := x_ok3 h
  exact ⟨Nat.le_of_ble_eq_true h1, Nat.le_of_ble_eq_true h2, Nat.le_of_ble_eq_true h3, Nat.le_of_ble_eq_true h4, Nat.le_of_ble_eq_true h5⟩
theorem x_par {y : MethodName} {n k : Nat} {f : Nat → Nat} (h : (parseMethodDescriptor y.desc).map (fun d => f d.parameters.length) = some k) (hf : ∀ x, f x = k → n = x) : ∀ sig, parseMethodDescriptor y.desc = some sig → n = sig.parameters.length := by
  intro sig hs
  rw [hs] at h
  exact hf _ (Option.some.inj h)
/-- what a call's preparation gives -/
def x_Pc (kc : Nat → ClassId) (D : va_G) (ad : Nat → Nat) (g : xG) (σ : xS) (τ : xL) (sz : Nat) (U : State) : Prop := U.heap.size = sz ∧ x_W kc D (fun _ => True) ad g σ τ U.heap ∧ va_K D x_cl (x_tys kc) U ∧ x_ex U
theorem x_blind {kc : Nat → ClassId} {D : va_G} {ad : Nat → Nat} {g : xG} {σ : xS} {τ : xL} {sz : Nat} {vs : List Value} : FrameBlind (va_Pc vs (x_Pc kc D ad g σ τ sz)) := by
  intro a U fr mk q
  obtain ⟨q0, q1, q2, q3, q4⟩ := q
  exact ⟨q0, q1, q2, va_K.moved (u := U) (U := U.calling fr mk a) (Vm.Alike.refl U.vm) q3, x_ex_same (s := U) (U := U.calling fr mk a) rfl q4⟩
theorem x_prep {s : State} {H : Heap} {kc : Nat → ClassId} {D : va_G} {A : Nat → Prop} {ad : Nat → Nat} {g : xG} {σ : xS} {τ : xL} {vs : List Value} (hK : va_K D x_cl (x_tys kc) s) (hex : x_ex s) (hW : x_W kc D A ad g σ τ H) : ∀ U : State, U.heap = H → s.WarmedH U.vm → va_Pc vs (x_Pc kc D ad g σ τ H.size) vs.toArray U := fun U hU hWU =>
  ⟨rfl, by rw [hU], by rw [hU]; exact ⟨hW.1, hW.2.1.weaken (fun _ _ _ _ => trivial), hW.2.2⟩, va_K.moved hWU.alike hK, x_ex_moved hWU hex⟩
set_option maxHeartbeats 1000000 in
theorem xs_static (l : Launch) {M : xM} {pc len a b : Nat} {v : Value} {ls st : List Value} {g : xG} {σ : xS} {τ : xL} {Q : xQ} {k2 : Nat} {raw : Instr} (hd : decode (x_by M.1) pc = .ok (raw, len)) (hi : x_oki (M.1, M.2.1, M.2.2.1, M.2.2.2.2.2.1) pc raw len (.invokestatic k2) a b v = true)
    (h : x_stp M (.invokestatic k2) (pc + len) a b v ls st g σ τ (fun pc ls st g σ τ => x_snd l M pc ls st g σ τ Q) Q (fun M' as g σ τ Q' => x_snd l M' 0 (x_loc as M'.2.2.1) [] g σ τ Q')) : x_snd l M pc ls st g σ τ Q := by
  intro hok p e R s m args below meth c fc D kc A Z n0 ad0 hK hex hA hscr hret ad H locs arr hW hS hag hl
  have go : ∀ {pc' : Nat} {ls' st' : List Value} {g' : xG} {σ' : xS} {τ' : xL}, x_snd l M pc' ls' st' g' σ' τ' Q → ∀ (ad' : Nat → Nat) (H' : Heap) (locs' : List Loc) (arr' : Array Slot), x_W kc D A ad' g' σ' τ' H' → va_S A s.heap H' locs' → x_ag M n0 ad0 ad' g' → x_lr ad' ls' arr' M.2.2.1 → W p l e R s m args below meth c H' locs' g'.2.2.1 g'.2.2.2 Z (F0 m pc' arr' (st'.map (x_cv ad'))) := fun k ad' H' locs' arr' w1 w2 w3 w4 => k hok p e R s m args below meth c fc D kc A Z n0 ad0 hK hex hA hscr hret ad' H' locs' arr' w1 w2 w3 w4
  obtain ⟨hx, hb, hml, hown, hts, hini, hr1, hr2, hr3, hr4⟩ := id fc
  unfold x_stp x_call at h
  dsimp only at h
  cases hM : x_nth x_tab a with
  | none => rw [hM] at h; exact h.elim
  | some M' =>
    rw [hM] at h
    dsimp only at h
    obtain ⟨hrm, h1⟩ := x_bif_t h
    clear h
    obtain ⟨r1, r2, r3, r4, r5⟩ := x_room_all hrm
    obtain ⟨bs, rest, rfl, hbl, h2⟩ := x_pop_iff _ _ _ h1
    clear h1
    rw [List.append_nil] at h2
    obtain ⟨hc, hC⟩ := x_bif_t h2
    clear h2
    obtain ⟨hcat, hc2⟩ := x_ok3 hc
    obtain ⟨hrecv, hc3⟩ := x_ok3 hc2
    obtain ⟨hwd0, hrf⟩ := x_ok3 hc3
    clear hc hc2 hc3
    have hwd := Nat.le_of_ble_eq_true hwd0
    clear hwd0
    have hcs := x_cat_sum ad rest 0 hcat
    obtain ⟨hok', hcok⟩ := x_cal hM
    obtain ⟨c1, c2, c3, c4, c5, c6, c7, c8, c9⟩ := x_cok_all hcok
    generalize has : bs.reverse = as at hC hrecv hwd
    have hbs : bs = as.reverse := by rw [← has, List.reverse_reverse]
    subst hbs
    have hMet := x_met l hM hC hwd r5 D kc ad H.size
    have hFc := va_free (wc := x_wd kc ad g.1 g.2.1 σ τ) hW.2.1 hS hA (List.range g.1.length) (by
      apply List.ext_getElem?
      intro k
      rw [List.getElem?_map, List.getElem?_map]
      by_cases hk : k < g.1.length
      · rw [List.getElem?_range hk, List.getElem?_eq_getElem (by rw [x_wd_len]; exact hk)]
        simp [List.getElem?_eq_getElem (show k < (x_wd kc ad g.1 g.2.1 σ τ).length by rw [x_wd_len]; exact hk)]
      · rw [List.getElem?_eq_none (by simpa using hk), List.getElem?_eq_none (by rw [x_wd_len]; omega)]
        rfl)
    have hag' : ∀ (u : xU), (∀ k, k < g.1.length → u.2.2.2 k = ad k) → (M'.2.2.2.2.2.1.2.2.1 = 0 → u.2.2.2 = ad) → rest.map (x_cv u.2.2.2) = rest.map (x_cv ad) ∧ x_as u.2.2.2 0 ls = x_as ad 0 ls := by
      intro u h1 h2
      rcases Bool.or_eq_true_iff.mp hrf with hz | hz
      · rw [h2 (Nat.eq_of_beq_eq_true hz)]
        exact ⟨rfl, rfl⟩
      · obtain ⟨z1, z2⟩ := x_refs_app _ _ hz
        exact ⟨x_cv_ag h1 _ z2, x_as_ag h1 _ _ z1⟩
    have fin : ∀ (pcc : Nat), pcc = pc + len → va_Run p l e R s m args below meth c H locs g.2.2.1 g.2.2.2 M'.2.2.2.2.2.1.2.2.1 M'.2.2.2.2.2.1.2.2.2 (F0 m pc arr ((as.reverse ++ rest).map (x_cv ad))) (rest.map (x_cv ad)) (x_Qc (x_post fun r g' σ' τ' => x_snd l M (pc + len) ls (x_push r rest) (g'.1, g'.2.1, g.2.2.1 + M'.2.2.2.2.2.1.2.2.1, g.2.2.2 + M'.2.2.2.2.2.1.2.2.2) σ' τ' Q) (x_B M' kc D ad g.1.length (va_A (x_wd kc ad g.1 g.2.1 σ τ) H.size)) (va_A (x_wd kc ad g.1 g.2.1 σ τ) H.size) (as.map (x_cv ad)).toArray) (va_A (x_wd kc ad g.1 g.2.1 σ τ) H.size) → len = 3 → W p l e R s m args below meth c H locs g.2.2.1 g.2.2.2 Z (F0 m pc arr ((as.reverse ++ rest).map (x_cv ad))) := by
      intro pcc hpcc run hlen3
      refine x_callW run hS (fun q _ h => hFc q h) hFc (fun v u t H1 locs1 ht hvm hp hB hS1 => ?_)
      obtain ⟨hp1, hp2⟩ := hp
      obtain ⟨b1, b2, b3, b4⟩ := hB
      rw [ht] at b1
      obtain ⟨e1, e2⟩ := hag' u b2 b4
      have hgo := go hp1 u.2.2.2 H1 locs1 arr ⟨b1.1, b1.2.1.weaken (fun k q _ h => hFc q.1 h), b1.2.2⟩ hS1 ⟨fun k hk => by rw [b2 k (Nat.lt_of_lt_of_le hk hag.2.1)]; exact hag.1 k hk, Nat.le_trans hag.2.1 b3, fun hz => by rw [b4 (by omega)]; exact hag.2.2.1 hz, r3, r4⟩ (by unfold x_lr; rw [e2]; exact hl)
      subst hlen3
      refine W.eq (g2 := F0 m (pc + 3) arr ((x_push v rest).map (x_cv u.2.2.2))) ?_ hgo
      cases v with
      | none => rw [show x_push none rest = rest from rfl, e1]; rfl
      | some x =>
        rw [show x_push (some x) rest = x :: rest from rfl, List.map_cons, e1, hp2 u.2.2.2 x rfl]
        rfl
    simp only [x_oki] at hi
    split at hi
    · rename_i idx
      obtain ⟨i1, i2⟩ := x_ok3 hi
      obtain ⟨i3, i4⟩ := x_ok3 i2
      have e1 := Nat.eq_of_beq_eq_true i1
      obtain ⟨st1, st2⟩ := c7 (Nat.eq_of_beq_eq_true i3)
      have hstack : (as.reverse ++ rest).map (x_cv ad) = (as.map (x_cv ad)).reverse ++ rest.map (x_cv ad) := by
        rw [List.map_append, List.map_reverse]
      have hlen : as.length = M'.2.2.2.1 := by rw [← hbl, List.length_reverse]
      have hpar := x_par (n := as.length) (f := fun x => x) st2 (fun x hx => by rw [hlen]; exact hx.symm)
      have hW8 : 2 * 0 + ((rest.map (x_cv ad)).map fun v => v.category).sum ≤ 8 := by omega
      subst e1
      rcases Bool.or_eq_true_iff.mp i4 with i5 | i5
      · exact fin _ rfl (va_runS (own := x_cn M.2.1) ⟨hx, hb, hml, hown, hts⟩ hMet ⟨⟨rfl, rfl, by show _ + 1 ≤ _; exact Nat.le_trans r1 hr1, by show _ ≤ _; exact Nat.le_trans r2 hr2, pay_in hts (x_ws_good hcok), List.mem_cons_self, hts _ c2, hts _ c3, c6, hpar, hts _ (x_has_in i5 rfl)⟩, hts _ st1⟩ ⟨x_blind, x_prep hK hex hW⟩ rfl (by simp) hl.1 hstack hW8 hd ⟨by omega, by omega⟩) rfl
      · exact fin _ rfl (va_runSN (own := x_cn M.2.1) ⟨hx, hb, hml, hown, hts⟩ hMet ⟨⟨⟨rfl, rfl, by show _ + 1 ≤ _; exact Nat.le_trans r1 hr1, by show _ ≤ _; exact Nat.le_trans r2 hr2, pay_in hts (x_ws_good hcok), List.mem_cons_self⟩, hts _ c2, hts _ c3, c6, hpar, va_Nw.use rfl (hex.1 _ (x_has_lw i5) rfl)⟩, hts _ st1, trivial⟩ ⟨x_blind, x_prep hK hex hW⟩ rfl (by simp) hl.1 hstack hW8 hd ⟨by omega, by omega⟩) rfl
    · cases hi
set_option maxHeartbeats 1000000 in
theorem xs_virtual (l : Launch) {M : xM} {pc len a b : Nat} {v : Value} {ls st : List Value} {g : xG} {σ : xS} {τ : xL} {Q : xQ} {k2 : Nat} {raw : Instr} (hd : decode (x_by M.1) pc = .ok (raw, len)) (hi : x_oki (M.1, M.2.1, M.2.2.1, M.2.2.2.2.2.1) pc raw len (.invokevirtual k2) a b v = true)
    (h : x_stp M (.invokevirtual k2) (pc + len) a b v ls st g σ τ (fun pc ls st g σ τ => x_snd l M pc ls st g σ τ Q) Q (fun M' as g σ τ Q' => x_snd l M' 0 (x_loc as M'.2.2.1) [] g σ τ Q')) : x_snd l M pc ls st g σ τ Q := by
  intro hok p e R s m args below meth c fc D kc A Z n0 ad0 hK hex hA hscr hret ad H locs arr hW hS hag hl
  have go : ∀ {pc' : Nat} {ls' st' : List Value} {g' : xG} {σ' : xS} {τ' : xL}, x_snd l M pc' ls' st' g' σ' τ' Q → ∀ (ad' : Nat → Nat) (H' : Heap) (locs' : List Loc) (arr' : Array Slot), x_W kc D A ad' g' σ' τ' H' → va_S A s.heap H' locs' → x_ag M n0 ad0 ad' g' → x_lr ad' ls' arr' M.2.2.1 → W p l e R s m args below meth c H' locs' g'.2.2.1 g'.2.2.2 Z (F0 m pc' arr' (st'.map (x_cv ad'))) := fun k ad' H' locs' arr' w1 w2 w3 w4 => k hok p e R s m args below meth c fc D kc A Z n0 ad0 hK hex hA hscr hret ad' H' locs' arr' w1 w2 w3 w4
  obtain ⟨hx, hb, hml, hown, hts, hini, hr1, hr2, hr3, hr4⟩ := id fc
  unfold x_stp x_call at h
  dsimp only at h
  cases hM : x_nth x_tab a with
  | none => rw [hM] at h; exact h.elim
  | some M' =>
    rw [hM] at h
    dsimp only at h
    obtain ⟨hrm, h1⟩ := x_bif_t h
    clear h
    obtain ⟨r1, r2, r3, r4, r5⟩ := x_room_all hrm
    obtain ⟨bs, rest, rfl, hbl, h2⟩ := x_pop_iff _ _ _ h1
    clear h1
    rw [List.append_nil] at h2
    obtain ⟨hc, hC⟩ := x_bif_t h2
    clear h2
    obtain ⟨hcat, hc2⟩ := x_ok3 hc
    obtain ⟨hrecv, hc3⟩ := x_ok3 hc2
    obtain ⟨hwd0, hrf⟩ := x_ok3 hc3
    clear hc hc2 hc3
    have hwd := Nat.le_of_ble_eq_true hwd0
    clear hwd0
    have hcs := x_cat_sum ad rest 0 hcat
    obtain ⟨hok', hcok⟩ := x_cal hM
    obtain ⟨c1, c2, c3, c4, c5, c6, c7, c8, c9⟩ := x_cok_all hcok
    generalize has : bs.reverse = as at hC hrecv hwd
    have hbs : bs = as.reverse := by rw [← has, List.reverse_reverse]
    subst hbs
    have hMet := x_met l hM hC hwd r5 D kc ad H.size
    have hFc := va_free (wc := x_wd kc ad g.1 g.2.1 σ τ) hW.2.1 hS hA (List.range g.1.length) (by
      apply List.ext_getElem?
      intro k
      rw [List.getElem?_map, List.getElem?_map]
      by_cases hk : k < g.1.length
      · rw [List.getElem?_range hk, List.getElem?_eq_getElem (by rw [x_wd_len]; exact hk)]
        simp [List.getElem?_eq_getElem (show k < (x_wd kc ad g.1 g.2.1 σ τ).length by rw [x_wd_len]; exact hk)]
      · rw [List.getElem?_eq_none (by simpa using hk), List.getElem?_eq_none (by rw [x_wd_len]; omega)]
        rfl)
    have hag' : ∀ (u : xU), (∀ k, k < g.1.length → u.2.2.2 k = ad k) → (M'.2.2.2.2.2.1.2.2.1 = 0 → u.2.2.2 = ad) → rest.map (x_cv u.2.2.2) = rest.map (x_cv ad) ∧ x_as u.2.2.2 0 ls = x_as ad 0 ls := by
      intro u h1 h2
      rcases Bool.or_eq_true_iff.mp hrf with hz | hz
      · rw [h2 (Nat.eq_of_beq_eq_true hz)]
        exact ⟨rfl, rfl⟩
      · obtain ⟨z1, z2⟩ := x_refs_app _ _ hz
        exact ⟨x_cv_ag h1 _ z2, x_as_ag h1 _ _ z1⟩
    have fin : ∀ (pcc : Nat), pcc = pc + len → va_Run p l e R s m args below meth c H locs g.2.2.1 g.2.2.2 M'.2.2.2.2.2.1.2.2.1 M'.2.2.2.2.2.1.2.2.2 (F0 m pc arr ((as.reverse ++ rest).map (x_cv ad))) (rest.map (x_cv ad)) (x_Qc (x_post fun r g' σ' τ' => x_snd l M (pc + len) ls (x_push r rest) (g'.1, g'.2.1, g.2.2.1 + M'.2.2.2.2.2.1.2.2.1, g.2.2.2 + M'.2.2.2.2.2.1.2.2.2) σ' τ' Q) (x_B M' kc D ad g.1.length (va_A (x_wd kc ad g.1 g.2.1 σ τ) H.size)) (va_A (x_wd kc ad g.1 g.2.1 σ τ) H.size) (as.map (x_cv ad)).toArray) (va_A (x_wd kc ad g.1 g.2.1 σ τ) H.size) → len = 3 → W p l e R s m args below meth c H locs g.2.2.1 g.2.2.2 Z (F0 m pc arr ((as.reverse ++ rest).map (x_cv ad))) := by
      intro pcc hpcc run hlen3
      refine x_callW run hS (fun q _ h => hFc q h) hFc (fun v u t H1 locs1 ht hvm hp hB hS1 => ?_)
      obtain ⟨hp1, hp2⟩ := hp
      obtain ⟨b1, b2, b3, b4⟩ := hB
      rw [ht] at b1
      obtain ⟨e1, e2⟩ := hag' u b2 b4
      have hgo := go hp1 u.2.2.2 H1 locs1 arr ⟨b1.1, b1.2.1.weaken (fun k q _ h => hFc q.1 h), b1.2.2⟩ hS1 ⟨fun k hk => by rw [b2 k (Nat.lt_of_lt_of_le hk hag.2.1)]; exact hag.1 k hk, Nat.le_trans hag.2.1 b3, fun hz => by rw [b4 (by omega)]; exact hag.2.2.1 hz, r3, r4⟩ (by unfold x_lr; rw [e2]; exact hl)
      subst hlen3
      refine W.eq (g2 := F0 m (pc + 3) arr ((x_push v rest).map (x_cv u.2.2.2))) ?_ hgo
      cases v with
      | none => rw [show x_push none rest = rest from rfl, e1]; rfl
      | some x =>
        rw [show x_push (some x) rest = x :: rest from rfl, List.map_cons, e1, hp2 u.2.2.2 x rfl]
        rfl
    simp only [x_oki] at hi
    split at hi
    · rename_i idx
      obtain ⟨i1, i2⟩ := x_ok3 hi
      obtain ⟨i3, i5⟩ := x_ok3 i2
      have e1 := Nat.eq_of_beq_eq_true i1
      obtain ⟨st1, st2, st3, st4⟩ := c8 (Nat.eq_of_beq_eq_true i3)
      have hrec : ∃ q as', as = .ref q :: as' ∧ ∃ n, x_nth g.1 q = some (M'.2.1, n) := by
        simp only [Bool.not_true, Bool.false_or] at hrecv
        cases as with
        | nil => exact absurd hrecv (by simp [x_recv])
        | cons v as' =>
          cases v with
          | ref q =>
            unfold x_recv at hrecv
            cases hq : x_nth g.1 q with
            | none => simp [hq] at hrecv
            | some w =>
              obtain ⟨kd, n⟩ := w
              simp only [hq] at hrecv
              exact ⟨q, as', rfl, n, by rw [← Nat.eq_of_beq_eq_true hrecv]; exact hq⟩
          | _ => exact absurd hrecv (by simp [x_recv])
      obtain ⟨q, as', rfl, nq, hq⟩ := hrec
      have hstack : ((Value.ref q :: as').reverse ++ rest).map (x_cv ad) = (as'.map (x_cv ad)).reverse ++ .ref (ad q) :: rest.map (x_cv ad) := by
        rw [List.map_append, List.map_reverse, List.map_cons, List.reverse_cons, List.append_assoc]
        rfl
      have hlen : as'.length + 1 = M'.2.2.2.1 := by rw [← hbl, List.length_reverse]; rfl
      have hW8 : 2 * 0 + ((rest.map (x_cv ad)).map fun v => v.category).sum ≤ 8 := by omega
      have hpar := x_par (n := as'.length) (f := fun x => x + 1) st3 (fun x hx => by omega)
      obtain ⟨C, T, N, ty, d1, d2, -⟩ := x_class M'.2.1 st4
      have hcell := va_recv hK hW.1 d1 (x_at_obj (kc := kc) (ad := ad) (ρ := g.2.1) (σ := σ) (τ := τ) hq (by omega))
      rw [show ((C, T, N) : vw_C).1 = (x_y a).cls from by rw [c4]; exact d2] at hcell
      subst e1
      exact fin _ rfl (va_runV (own := x_cn M.2.1) (C := (x_y a).cls) (b := ad q) (As := as'.map (x_cv ad)) ⟨hx, hb, hml, hown, hts⟩ hMet ⟨⟨rfl, rfl, by show _ + 1 ≤ _; exact Nat.le_trans r1 hr1, by show _ ≤ _; exact Nat.le_trans r2 hr2, pay_in hts (x_ws_good hcok), List.mem_cons_self, hts _ c2, hts _ c3, c6, hpar, hts _ (x_has_in i5 rfl)⟩, hts _ st1, hts _ st2⟩ ⟨x_blind, hcell, x_prep hK hex hW⟩ rfl (by simp) hl.1 hstack hW8 hd ⟨by omega, by omega⟩) rfl
    · cases hi
set_option maxHeartbeats 1000000 in
theorem xs_special (l : Launch) {M : xM} {pc len a b : Nat} {v : Value} {ls st : List Value} {g : xG} {σ : xS} {τ : xL} {Q : xQ} {k2 : Nat} {raw : Instr} (hd : decode (x_by M.1) pc = .ok (raw, len)) (hi : x_oki (M.1, M.2.1, M.2.2.1, M.2.2.2.2.2.1) pc raw len (.invokespecial k2) a b v = true)
    (h : x_stp M (.invokespecial k2) (pc + len) a b v ls st g σ τ (fun pc ls st g σ τ => x_snd l M pc ls st g σ τ Q) Q (fun M' as g σ τ Q' => x_snd l M' 0 (x_loc as M'.2.2.1) [] g σ τ Q')) : x_snd l M pc ls st g σ τ Q := by
  intro hok p e R s m args below meth c fc D kc A Z n0 ad0 hK hex hA hscr hret ad H locs arr hW hS hag hl
  have go : ∀ {pc' : Nat} {ls' st' : List Value} {g' : xG} {σ' : xS} {τ' : xL}, x_snd l M pc' ls' st' g' σ' τ' Q → ∀ (ad' : Nat → Nat) (H' : Heap) (locs' : List Loc) (arr' : Array Slot), x_W kc D A ad' g' σ' τ' H' → va_S A s.heap H' locs' → x_ag M n0 ad0 ad' g' → x_lr ad' ls' arr' M.2.2.1 → W p l e R s m args below meth c H' locs' g'.2.2.1 g'.2.2.2 Z (F0 m pc' arr' (st'.map (x_cv ad'))) := fun k ad' H' locs' arr' w1 w2 w3 w4 => k hok p e R s m args below meth c fc D kc A Z n0 ad0 hK hex hA hscr hret ad' H' locs' arr' w1 w2 w3 w4
  obtain ⟨hx, hb, hml, hown, hts, hini, hr1, hr2, hr3, hr4⟩ := id fc
  unfold x_stp x_call at h
  dsimp only at h
  cases hM : x_nth x_tab a with
  | none => rw [hM] at h; exact h.elim
  | some M' =>
    rw [hM] at h
    dsimp only at h
    obtain ⟨hrm, h1⟩ := x_bif_t h
    clear h
    obtain ⟨r1, r2, r3, r4, r5⟩ := x_room_all hrm
    obtain ⟨bs, rest, rfl, hbl, h2⟩ := x_pop_iff _ _ _ h1
    clear h1
    rw [List.append_nil] at h2
    obtain ⟨hc, hC⟩ := x_bif_t h2
    clear h2
    obtain ⟨hcat, hc2⟩ := x_ok3 hc
    obtain ⟨hrecv, hc3⟩ := x_ok3 hc2
    obtain ⟨hwd0, hrf⟩ := x_ok3 hc3
    clear hc hc2 hc3
    have hwd := Nat.le_of_ble_eq_true hwd0
    clear hwd0
    have hcs := x_cat_sum ad rest 0 hcat
    obtain ⟨hok', hcok⟩ := x_cal hM
    obtain ⟨c1, c2, c3, c4, c5, c6, c7, c8, c9⟩ := x_cok_all hcok
    generalize has : bs.reverse = as at hC hrecv hwd
    have hbs : bs = as.reverse := by rw [← has, List.reverse_reverse]
    subst hbs
    have hMet := x_met l hM hC hwd r5 D kc ad H.size
    have hFc := va_free (wc := x_wd kc ad g.1 g.2.1 σ τ) hW.2.1 hS hA (List.range g.1.length) (by
      apply List.ext_getElem?
      intro k
      rw [List.getElem?_map, List.getElem?_map]
      by_cases hk : k < g.1.length
      · rw [List.getElem?_range hk, List.getElem?_eq_getElem (by rw [x_wd_len]; exact hk)]
        simp [List.getElem?_eq_getElem (show k < (x_wd kc ad g.1 g.2.1 σ τ).length by rw [x_wd_len]; exact hk)]
      · rw [List.getElem?_eq_none (by simpa using hk), List.getElem?_eq_none (by rw [x_wd_len]; omega)]
        rfl)
    have hag' : ∀ (u : xU), (∀ k, k < g.1.length → u.2.2.2 k = ad k) → (M'.2.2.2.2.2.1.2.2.1 = 0 → u.2.2.2 = ad) → rest.map (x_cv u.2.2.2) = rest.map (x_cv ad) ∧ x_as u.2.2.2 0 ls = x_as ad 0 ls := by
      intro u h1 h2
      rcases Bool.or_eq_true_iff.mp hrf with hz | hz
      · rw [h2 (Nat.eq_of_beq_eq_true hz)]
        exact ⟨rfl, rfl⟩
      · obtain ⟨z1, z2⟩ := x_refs_app _ _ hz
        exact ⟨x_cv_ag h1 _ z2, x_as_ag h1 _ _ z1⟩
    have fin : ∀ (pcc : Nat), pcc = pc + len → va_Run p l e R s m args below meth c H locs g.2.2.1 g.2.2.2 M'.2.2.2.2.2.1.2.2.1 M'.2.2.2.2.2.1.2.2.2 (F0 m pc arr ((as.reverse ++ rest).map (x_cv ad))) (rest.map (x_cv ad)) (x_Qc (x_post fun r g' σ' τ' => x_snd l M (pc + len) ls (x_push r rest) (g'.1, g'.2.1, g.2.2.1 + M'.2.2.2.2.2.1.2.2.1, g.2.2.2 + M'.2.2.2.2.2.1.2.2.2) σ' τ' Q) (x_B M' kc D ad g.1.length (va_A (x_wd kc ad g.1 g.2.1 σ τ) H.size)) (va_A (x_wd kc ad g.1 g.2.1 σ τ) H.size) (as.map (x_cv ad)).toArray) (va_A (x_wd kc ad g.1 g.2.1 σ τ) H.size) → len = 3 → W p l e R s m args below meth c H locs g.2.2.1 g.2.2.2 Z (F0 m pc arr ((as.reverse ++ rest).map (x_cv ad))) := by
      intro pcc hpcc run hlen3
      refine x_callW run hS (fun q _ h => hFc q h) hFc (fun v u t H1 locs1 ht hvm hp hB hS1 => ?_)
      obtain ⟨hp1, hp2⟩ := hp
      obtain ⟨b1, b2, b3, b4⟩ := hB
      rw [ht] at b1
      obtain ⟨e1, e2⟩ := hag' u b2 b4
      have hgo := go hp1 u.2.2.2 H1 locs1 arr ⟨b1.1, b1.2.1.weaken (fun k q _ h => hFc q.1 h), b1.2.2⟩ hS1 ⟨fun k hk => by rw [b2 k (Nat.lt_of_lt_of_le hk hag.2.1)]; exact hag.1 k hk, Nat.le_trans hag.2.1 b3, fun hz => by rw [b4 (by omega)]; exact hag.2.2.1 hz, r3, r4⟩ (by unfold x_lr; rw [e2]; exact hl)
      subst hlen3
      refine W.eq (g2 := F0 m (pc + 3) arr ((x_push v rest).map (x_cv u.2.2.2))) ?_ hgo
      cases v with
      | none => rw [show x_push none rest = rest from rfl, e1]; rfl
      | some x =>
        rw [show x_push (some x) rest = x :: rest from rfl, List.map_cons, e1, hp2 u.2.2.2 x rfl]
        rfl
    simp only [x_oki] at hi
    split at hi
    · rename_i idx
      obtain ⟨i1, i2⟩ := x_ok3 hi
      obtain ⟨i3, i4⟩ := x_ok3 i2
      have e1 := Nat.eq_of_beq_eq_true i1
      obtain ⟨st1, st2, st3, st4, st5⟩ := c9 (Nat.eq_of_beq_eq_true i3)
      have hrec : ∃ q as', as = .ref q :: as' ∧ ∃ n, x_nth g.1 q = some (M'.2.1, n) := by
        simp only [Bool.not_true, Bool.false_or] at hrecv
        cases as with
        | nil => exact absurd hrecv (by simp [x_recv])
        | cons v as' =>
          cases v with
          | ref q =>
            unfold x_recv at hrecv
            cases hq : x_nth g.1 q with
            | none => simp [hq] at hrecv
            | some w =>
              obtain ⟨kd, n⟩ := w
              simp only [hq] at hrecv
              exact ⟨q, as', rfl, n, by rw [← Nat.eq_of_beq_eq_true hrecv]; exact hq⟩
          | _ => exact absurd hrecv (by simp [x_recv])
      obtain ⟨q, as', rfl, nq, hq⟩ := hrec
      have hstack : ((Value.ref q :: as').reverse ++ rest).map (x_cv ad) = (as'.map (x_cv ad)).reverse ++ .ref (ad q) :: rest.map (x_cv ad) := by
        rw [List.map_append, List.map_reverse, List.map_cons, List.reverse_cons, List.append_assoc]
        rfl
      have hlen : as'.length + 1 = M'.2.2.2.1 := by rw [← hbl, List.length_reverse]; rfl
      have hW8 : 2 * 0 + ((rest.map (x_cv ad)).map fun v => v.category).sum ≤ 8 := by omega
      have hpar := x_par (n := as'.length) (f := fun x => x + 1) st3 (fun x hx => by omega)
      have hcm : Cond.code (x_y a) (x_by a) M'.2.2.1 none ∈ x_ws a M' := by unfold x_ws; rw [st5]; exact List.mem_cons_self
      have hcb : (Cond.code (x_y a) (x_by a) M'.2.2.1 none).before args s = true := by
        have := hts _ c2
        rw [st5] at this
        exact this
      subst e1
      rcases Bool.or_eq_true_iff.mp i4 with i5 | i5
      · exact fin _ rfl (va_runI (own := x_cn M.2.1) (b := ad q) (As := as'.map (x_cv ad)) ⟨hx, hb, hml, hown, hts⟩ hMet ⟨⟨rfl, rfl, by show _ + 1 ≤ _; exact Nat.le_trans r1 hr1, by show _ ≤ _; exact Nat.le_trans r2 hr2, pay_in hts (x_ws_good hcok), hcm, hcb, hts _ c3, c6, hpar, hts _ (x_has_in i5 rfl)⟩, st2, hts _ st1⟩ ⟨x_blind, x_prep hK hex hW⟩ rfl (by simp) hl.1 hstack hW8 hd ⟨by omega, by omega⟩) rfl
      · exact fin _ rfl (va_runIN (own := x_cn M.2.1) (b := ad q) (As := as'.map (x_cv ad)) ⟨hx, hb, hml, hown, hts⟩ hMet ⟨⟨⟨rfl, rfl, by show _ + 1 ≤ _; exact Nat.le_trans r1 hr1, by show _ ≤ _; exact Nat.le_trans r2 hr2, pay_in hts (x_ws_good hcok), hcm⟩, hcb, hts _ c3, c6, hpar, va_Nw.use rfl (hex.1 _ (x_has_lw i5) rfl)⟩, st2, hts _ st1⟩ ⟨x_blind, x_prep hK hex hW⟩ rfl (by simp) hl.1 hstack hW8 hd ⟨by omega, by omega⟩) rfl
    · cases hi
end
section
theorem x_cell_ad {kc : Nat → ClassId} {ad ad' : Nat → Nat} {ρ : xR} {σ : xS} {τ : xL} {q : Nat} {s : Nat × Nat} (h : ∀ j r, ρ q j = some r → ad' r = ad r) : x_cell kc ad' ρ σ τ q s = x_cell kc ad ρ σ τ q s := by
  have e : ∀ j, (ρ q j).map ad' = (ρ q j).map ad := by
    intro j
    cases hj : ρ q j with
    | none => rfl
    | some r => simp [h j r hj]
  have e2 : x_val ad' ρ σ τ q s.1 = x_val ad ρ σ τ q s.1 := by
    funext k
    simp only [x_val, e]
  simp only [x_cell, e, e2]
theorem x_nth_app_l {α : Type} {l r : List α} {k : Nat} (h : k < l.length) : x_nth (l ++ r) k = x_nth l k := by
  rw [x_nth_get, x_nth_get, List.getElem?_append_left h]
theorem x_nth_app_r {α : Type} {l r : List α} {k : Nat} : x_nth (l ++ r) (l.length + k) = x_nth r k := by
  rw [x_nth_get, x_nth_get, List.getElem?_append_right (by omega)]
  congr 1
  omega
theorem x_wd_app {kc : Nat → ClassId} {ad ad' : Nat → Nat} {sh l : List (Nat × Nat)} {ρ ρ' : xR} {σ σ' : xS} {τ τ' : xL} (hag : ∀ k, k < sh.length → ad' k = ad k) (hwf : ∀ q j r, ρ q j = some r → r < sh.length) (h1 : ∀ k, k < sh.length → ρ' k = ρ k) (h2 : ∀ k, k < sh.length → σ' k = σ k) (h3 : ∀ k, k < sh.length → τ' k = τ k) :
    x_wd kc ad' (sh ++ l) ρ' σ' τ' = x_wd kc ad sh ρ σ τ ++ (List.range l.length).map (fun j => (ad' (sh.length + j), x_cell kc ad' ρ' σ' τ' (sh.length + j) ((x_nth l j).getD (0, 0)))) := by
  apply List.ext_getElem?
  intro k
  rw [x_wd_get]
  by_cases hk : k < sh.length
  · rw [x_nth_app_l hk, List.getElem?_append_left (by rw [x_wd_len]; exact hk), x_wd_get, hag k hk]
    congr 1
    funext s
    rw [x_cell_congr (h1 k hk) (h2 k hk) (h3 k hk), x_cell_ad (fun j r hr => hag r (hwf k j r hr))]
  · obtain ⟨j, rfl⟩ : ∃ j, k = sh.length + j := ⟨k - sh.length, by omega⟩
    rw [x_nth_app_r, List.getElem?_append_right (by rw [x_wd_len]; omega), x_wd_len, Nat.add_sub_cancel_left, List.getElem?_map]
    by_cases hj : j < l.length
    · rw [List.getElem?_range hj, x_nth_get, List.getElem?_eq_getElem hj]
      simp [x_nth_get, List.getElem?_eq_getElem hj]
    · rw [List.getElem?_eq_none (by simpa using hj), x_nth_get, List.getElem?_eq_none (by omega)]
      rfl
def x_ad (ad : Nat → Nat) (n q : Nat) : Nat → Nat := fun k => if k = n then q else ad k
theorem x_ad_n {ad : Nat → Nat} {n q : Nat} : x_ad ad n q n = q := if_pos rfl
theorem x_ad_lt {ad : Nat → Nat} {n q k : Nat} (h : k < n) : x_ad ad n q k = ad k := if_neg (Nat.ne_of_lt h)
theorem x_zs_lt {α : Type} {z : α} {σ : Nat → Nat → α} {q k : Nat} (h : k < q) : x_zs z σ q k = σ k := by
  funext j
  exact if_neg (by omega)
theorem x_zs_ge {α : Type} {z : α} {σ : Nat → Nat → α} {q k : Nat} (h : q ≤ k) : x_zs z σ q k = fun _ => z := by
  funext j
  exact if_pos h
theorem x_no_ne {ρ : xR} {q k : Nat} (h : k ≠ q) : x_no ρ q k = ρ k := by
  funext j
  have e : Nat.beq k q = false := by
    cases hb : Nat.beq k q
    · rfl
    · exact absurd (Nat.eq_of_beq_eq_true hb) h
  simp [x_no, e]
theorem x_no_eq {ρ : xR} {q : Nat} : x_no ρ q q = fun _ => none := by
  funext j
  simp [x_no]
/-- the world with one more cell -/
theorem x_push1 {kc : Nat → ClassId} {ad : Nat → Nat} {sh : List (Nat × Nat)} {ρ : xR} {σ : xS} {τ : xL} {q : Nat} {s : Nat × Nat} (hwf : ∀ q j r, ρ q j = some r → r < sh.length) :
    x_wd kc (x_ad ad sh.length q) (sh ++ [s]) (x_no ρ sh.length) (x_zs 0 σ sh.length) (x_zs 0 τ sh.length) = x_wd kc ad sh ρ σ τ ++ [(q, x_cell kc (x_ad ad sh.length q) (x_no ρ sh.length) (x_zs 0 σ sh.length) (x_zs 0 τ sh.length) sh.length s)] := by
  rw [x_wd_app (ad := ad) (ρ := ρ) (σ := σ) (τ := τ) (fun k hk => x_ad_lt hk) hwf (fun k hk => x_no_ne (Nat.ne_of_lt hk)) (fun k hk => x_zs_lt hk) (fun k hk => x_zs_lt hk)]
  congr 1
  simp [x_nth, x_ad_n]
def x_dv (ci k : Nat) : Value := match x_ft ci k with
  | 0 => .int 0
  | 1 => .long 0
  | _ => .null
set_option maxHeartbeats 1000000 in
theorem xs_new (l : Launch) {M : xM} {pc len a b : Nat} {v : Value} {ls st : List Value} {g : xG} {σ : xS} {τ : xL} {Q : xQ} {k2 : Nat} {raw : Instr} (hd : decode (x_by M.1) pc = .ok (raw, len)) (hi : x_oki (M.1, M.2.1, M.2.2.1, M.2.2.2.2.2.1) pc raw len (.new k2) a b v = true)
    (h : x_stp M (.new k2) (pc + len) a b v ls st g σ τ (fun pc ls st g σ τ => x_snd l M pc ls st g σ τ Q) Q (fun M' as g σ τ Q' => x_snd l M' 0 (x_loc as M'.2.2.1) [] g σ τ Q')) : x_snd l M pc ls st g σ τ Q := by
  intro hok p e R s m args below meth c fc D kc A Z n0 ad0 hK hex hA hscr hret ad H locs arr hW hS hag hl
  have go : ∀ {pc' : Nat} {ls' st' : List Value} {g' : xG} {σ' : xS} {τ' : xL}, x_snd l M pc' ls' st' g' σ' τ' Q → ∀ (ad' : Nat → Nat) (H' : Heap) (locs' : List Loc) (arr' : Array Slot), x_W kc D A ad' g' σ' τ' H' → va_S A s.heap H' locs' → x_ag M n0 ad0 ad' g' → x_lr ad' ls' arr' M.2.2.1 → W p l e R s m args below meth c H' locs' g'.2.2.1 g'.2.2.2 Z (F0 m pc' arr' (st'.map (x_cv ad'))) := fun k ad' H' locs' arr' w1 w2 w3 w4 => k hok p e R s m args below meth c fc D kc A Z n0 ad0 hK hex hA hscr hret ad' H' locs' arr' w1 w2 w3 w4
  obtain ⟨hx, hb, hml, hown, hts, hini, hr1, hr2, hr3, hr4⟩ := id fc
  obtain ⟨hc, h⟩ := x_bif_t h
  obtain ⟨hc1, hc⟩ := x_ok3 hc
  obtain ⟨hc2, hrf⟩ := x_ok3 hc
  have hc1 := Nat.le_of_ble_eq_true hc1
  have hc2 := Nat.le_of_ble_eq_true hc2
  simp only [x_oki] at hi
  split at hi
  · obtain ⟨i1, i2⟩ := x_ok3 hi
    obtain ⟨i3, i4⟩ := x_ok3 i2
    obtain ⟨i5, i6⟩ := x_ok3 i4
    have e1 := Nat.eq_of_beq_eq_true i1
    have ha8 : a < 8 := Nat.le_of_ble_eq_true i3
    have hbN := Nat.eq_of_beq_eq_true i5
    obtain ⟨C, T, N, ty, c1, c2, c3, c4, c5, c6, c7, c8, c9, c10, c11⟩ := x_class a ha8
    rw [c7] at hbN
    subst e1
    subst hbN
    have hlink := hts _ (x_has_in i6 rfl)
    rw [← c2] at hlink
    have hfs : ∀ j, j < b → defaultValue (ty j) = vp_V ((List.range b).map (x_dv a)) j := by
      intro j hj
      have e : vp_V ((List.range b).map (x_dv a)) j = x_dv a j := by
        unfold vp_V
        rw [List.getD_eq_getElem?_getD, List.getElem?_map, List.getElem?_range hj]
        rfl
      rw [e]
      obtain ⟨d1, d2, d3, d4⟩ := c9 j hj
      unfold x_dv
      rcases (show x_ft a j = 0 ∨ x_ft a j = 1 ∨ x_ft a j = 2 by omega) with hq | hq | hq
      · rw [hq, d1 hq]; rfl
      · rw [hq, d2 hq]; rfl
      · rw [hq]; exact (x_isr_ok (d3 hq) 0).2.2
    refine va_new (ci := a) (fs := (List.range b).map (x_dv a)) hx hb hts c3 ty c4 hown hlink (hts _ c10) (hts _ c11) hK hW.1 hW.2.1 hS hA c1 hfs (by omega) (by omega) hd (fun q H1 hP1 hD1 hS1 => ?_)
    · have ec : x_cell kc (x_ad ad g.1.length q) (x_no g.2.1 g.1.length) (x_zs 0 σ g.1.length) (x_zs 0 τ g.1.length) g.1.length (a, b) = .inr (a, (List.range b).map (x_dv a)) := by
        have : x_val (x_ad ad g.1.length q) (x_no g.2.1 g.1.length) (x_zs 0 σ g.1.length) (x_zs 0 τ g.1.length) g.1.length a = x_dv a := by
          funext k
          unfold x_val x_dv
          rcases x_ft a k with _ | _ | n <;> simp [x_no_eq, x_zs_ge (Nat.le_refl g.1.length), va_rf]
        simp [x_cell, this, show a < 16 by omega]
      have ew := x_push1 (kc := kc) (ad := ad) (ρ := g.2.1) (σ := σ) (τ := τ) (q := q) (s := (a, b)) hW.2.2
      rw [ec] at ew
      rw [← ew] at hP1 hD1
      have e2 : x_as (x_ad ad g.1.length q) 0 ls = x_as ad 0 ls := x_as_ag (fun k hk => x_ad_lt hk) _ _ (x_refs_app _ _ hrf).1
      have e3 : st.map (x_cv (x_ad ad g.1.length q)) = st.map (x_cv ad) := x_cv_ag (fun k hk => x_ad_lt hk) _ (x_refs_app _ _ hrf).2
      refine W.eq (g2 := F0 m (pc + 3) arr ((Value.ref g.1.length :: st).map (x_cv (x_ad ad g.1.length q)))) ?_ (go h (x_ad ad g.1.length q) H1 locs arr ⟨hP1, hD1, fun q' j r hr => ?_⟩ hS1 ⟨fun k hk => ?_, ?_, fun hz => ?_, hc1, hc2⟩ ?_)
      · rw [List.map_cons, e3]
        show _ = F0 m _ arr (.ref (x_ad ad g.1.length q g.1.length) :: _)
        rw [x_ad_n]
      · by_cases hq : q' = g.1.length
        · subst hq
          simp [x_no] at hr
        · simp only [x_no_ne hq] at hr
          have := hW.2.2 _ _ _ hr
          simp only [List.length_append, List.length_cons, List.length_nil]
          omega
      · rw [x_ad_lt (Nat.lt_of_lt_of_le hk hag.2.1)]
        exact hag.1 k hk
      · simp only [List.length_append]
        exact Nat.le_trans hag.2.1 (by omega)
      · omega
      · unfold x_lr
        rw [e2]
        exact hl
  · cases hi
set_option maxHeartbeats 1000000 in
theorem xs_newarray (l : Launch) {M : xM} {pc len a b : Nat} {v : Value} {ls st : List Value} {g : xG} {σ : xS} {τ : xL} {Q : xQ} {t : ArrayType} {raw : Instr} (hd : decode (x_by M.1) pc = .ok (raw, len)) (hi : x_oki (M.1, M.2.1, M.2.2.1, M.2.2.2.2.2.1) pc raw len (.newarray t) a b v = true)
    (h : x_stp M (.newarray t) (pc + len) a b v ls st g σ τ (fun pc ls st g σ τ => x_snd l M pc ls st g σ τ Q) Q (fun M' as g σ τ Q' => x_snd l M' 0 (x_loc as M'.2.2.1) [] g σ τ Q')) : x_snd l M pc ls st g σ τ Q := by
  intro hok p e R s m args below meth c fc D kc A Z n0 ad0 hK hex hA hscr hret ad H locs arr hW hS hag hl
  have go : ∀ {pc' : Nat} {ls' st' : List Value} {g' : xG} {σ' : xS} {τ' : xL}, x_snd l M pc' ls' st' g' σ' τ' Q → ∀ (ad' : Nat → Nat) (H' : Heap) (locs' : List Loc) (arr' : Array Slot), x_W kc D A ad' g' σ' τ' H' → va_S A s.heap H' locs' → x_ag M n0 ad0 ad' g' → x_lr ad' ls' arr' M.2.2.1 → W p l e R s m args below meth c H' locs' g'.2.2.1 g'.2.2.2 Z (F0 m pc' arr' (st'.map (x_cv ad'))) := fun k ad' H' locs' arr' w1 w2 w3 w4 => k hok p e R s m args below meth c fc D kc A Z n0 ad0 hK hex hA hscr hret ad' H' locs' arr' w1 w2 w3 w4
  obtain ⟨hx, hb, hml, hown, hts, hini, hr1, hr2, hr3, hr4⟩ := id fc
  rcases st with _ | ⟨(n | _ | _ | _ | _ | _ | _), st⟩ <;> first | exact False.elim h | skip
  obtain ⟨N, rfl, hN, h⟩ := h
  obtain ⟨hc, h⟩ := x_bif_t h
  obtain ⟨hc1, hc⟩ := x_ok3 hc
  obtain ⟨hc2, hrf⟩ := x_ok3 hc
  have hc1 := Nat.le_of_ble_eq_true hc1
  have hc2 := Nat.le_of_ble_eq_true hc2
  simp only [x_oki] at hi
  split at hi
  · obtain ⟨e1, e2⟩ := x_ok2 hi
    subst e1
    rw [e2] at hd
    clear e2 hi
    cases t <;> first | exact False.elim h | skip
    · rename_i hdec
      have hnc : (nI N).toNatClampNeg = N := nI_clamp (by omega)
      refine va_newa (atype := .boolean) (a0 := (N, .inl (fun _ => 0))) (N' := N) hx hb (hts _ (x_tbl_in (w := .arrayClass .boolean) (by decide +kernel) rfl)) rfl hK hW.1 hW.2.1 hS hA (fun cA => ?_) (nI_pos (by omega)) hnc (by show N * 1 ≤ _; omega) (by omega) (by omega) hd (fun q cA H1 hK1 hP1 hD1 hS1 => ?_)
      · rw [vp_cell_i]
        rfl
      have ecA : cA = kc 17 := x_RA_eq (hK1.2 4 (cA, .boolean) rfl).2 (hK.2 1 (kc 17, .boolean) rfl).2
      subst ecA
      have ec : x_cell kc (x_ad ad g.1.length q) (x_no g.2.1 g.1.length) (x_zs 0 σ g.1.length) (x_zs 0 τ g.1.length) g.1.length (17, N) = .inl (kc 17, N, .inl (fun _ => 0)) := by
        simp [x_cell, x_zs_ge (Nat.le_refl g.1.length)]
      have ew := x_push1 (kc := kc) (ad := ad) (ρ := g.2.1) (σ := σ) (τ := τ) (q := q) (s := (17, N)) hW.2.2
      rw [ec] at ew
      rw [← ew] at hP1 hD1
      have e2 : x_as (x_ad ad g.1.length q) 0 ls = x_as ad 0 ls := x_as_ag (fun k hk => x_ad_lt hk) _ _ (x_refs_app _ _ hrf).1
      have e3 : st.map (x_cv (x_ad ad g.1.length q)) = st.map (x_cv ad) := x_cv_ag (fun k hk => x_ad_lt hk) _ (x_refs_app _ _ hrf).2
      refine W.eq (g2 := F0 m (pc + 2) arr ((Value.ref g.1.length :: st).map (x_cv (x_ad ad g.1.length q)))) ?_ (go h (x_ad ad g.1.length q) H1 locs arr ⟨hP1, hD1, fun q' j r hr => ?_⟩ hS1 ⟨fun k hk => ?_, ?_, fun hz => ?_, hc1, hc2⟩ ?_)
      · rw [List.map_cons, e3]
        show _ = F0 m _ arr (.ref (x_ad ad g.1.length q g.1.length) :: _)
        rw [x_ad_n]
      · by_cases hq : q' = g.1.length
        · subst hq
          simp [x_no] at hr
        · simp only [x_no_ne hq] at hr
          have := hW.2.2 _ _ _ hr
          simp only [List.length_append, List.length_cons, List.length_nil]
          omega
      · rw [x_ad_lt (Nat.lt_of_lt_of_le hk hag.2.1)]
        exact hag.1 k hk
      · simp only [List.length_append]
        exact Nat.le_trans hag.2.1 (by omega)
      · omega
      · unfold x_lr
        rw [e2]
        exact hl
    · rename_i hdec
      have hnc : (nI N).toNatClampNeg = N := nI_clamp (by omega)
      refine va_newa (atype := .int) (a0 := (N, .inl (fun _ => 0))) (N' := N) hx hb (hts _ (x_tbl_in (w := .arrayClass .int) (by decide +kernel) rfl)) rfl hK hW.1 hW.2.1 hS hA (fun cA => ?_) (nI_pos (by omega)) hnc (by show N * 4 ≤ _; omega) (by omega) (by omega) hd (fun q cA H1 hK1 hP1 hD1 hS1 => ?_)
      · rw [vp_cell_i]
        rfl
      have ecA : cA = kc 16 := x_RA_eq (hK1.2 4 (cA, .int) rfl).2 (hK.2 0 (kc 16, .int) rfl).2
      subst ecA
      have ec : x_cell kc (x_ad ad g.1.length q) (x_no g.2.1 g.1.length) (x_zs 0 σ g.1.length) (x_zs 0 τ g.1.length) g.1.length (16, N) = .inl (kc 16, N, .inl (fun _ => 0)) := by
        simp [x_cell, x_zs_ge (Nat.le_refl g.1.length)]
      have ew := x_push1 (kc := kc) (ad := ad) (ρ := g.2.1) (σ := σ) (τ := τ) (q := q) (s := (16, N)) hW.2.2
      rw [ec] at ew
      rw [← ew] at hP1 hD1
      have e2 : x_as (x_ad ad g.1.length q) 0 ls = x_as ad 0 ls := x_as_ag (fun k hk => x_ad_lt hk) _ _ (x_refs_app _ _ hrf).1
      have e3 : st.map (x_cv (x_ad ad g.1.length q)) = st.map (x_cv ad) := x_cv_ag (fun k hk => x_ad_lt hk) _ (x_refs_app _ _ hrf).2
      refine W.eq (g2 := F0 m (pc + 2) arr ((Value.ref g.1.length :: st).map (x_cv (x_ad ad g.1.length q)))) ?_ (go h (x_ad ad g.1.length q) H1 locs arr ⟨hP1, hD1, fun q' j r hr => ?_⟩ hS1 ⟨fun k hk => ?_, ?_, fun hz => ?_, hc1, hc2⟩ ?_)
      · rw [List.map_cons, e3]
        show _ = F0 m _ arr (.ref (x_ad ad g.1.length q g.1.length) :: _)
        rw [x_ad_n]
      · by_cases hq : q' = g.1.length
        · subst hq
          simp [x_no] at hr
        · simp only [x_no_ne hq] at hr
          have := hW.2.2 _ _ _ hr
          simp only [List.length_append, List.length_cons, List.length_nil]
          omega
      · rw [x_ad_lt (Nat.lt_of_lt_of_le hk hag.2.1)]
        exact hag.1 k hk
      · simp only [List.length_append]
        exact Nat.le_trans hag.2.1 (by omega)
      · omega
      · unfold x_lr
        rw [e2]
        exact hl
  · cases hi
set_option maxHeartbeats 1000000 in
theorem xs_anewarray (l : Launch) {M : xM} {pc len a b : Nat} {v : Value} {ls st : List Value} {g : xG} {σ : xS} {τ : xL} {Q : xQ} {k2 : Nat} {raw : Instr} (hd : decode (x_by M.1) pc = .ok (raw, len)) (hi : x_oki (M.1, M.2.1, M.2.2.1, M.2.2.2.2.2.1) pc raw len (.anewarray k2) a b v = true)
    (h : x_stp M (.anewarray k2) (pc + len) a b v ls st g σ τ (fun pc ls st g σ τ => x_snd l M pc ls st g σ τ Q) Q (fun M' as g σ τ Q' => x_snd l M' 0 (x_loc as M'.2.2.1) [] g σ τ Q')) : x_snd l M pc ls st g σ τ Q := by
  intro hok p e R s m args below meth c fc D kc A Z n0 ad0 hK hex hA hscr hret ad H locs arr hW hS hag hl
  have go : ∀ {pc' : Nat} {ls' st' : List Value} {g' : xG} {σ' : xS} {τ' : xL}, x_snd l M pc' ls' st' g' σ' τ' Q → ∀ (ad' : Nat → Nat) (H' : Heap) (locs' : List Loc) (arr' : Array Slot), x_W kc D A ad' g' σ' τ' H' → va_S A s.heap H' locs' → x_ag M n0 ad0 ad' g' → x_lr ad' ls' arr' M.2.2.1 → W p l e R s m args below meth c H' locs' g'.2.2.1 g'.2.2.2 Z (F0 m pc' arr' (st'.map (x_cv ad'))) := fun k ad' H' locs' arr' w1 w2 w3 w4 => k hok p e R s m args below meth c fc D kc A Z n0 ad0 hK hex hA hscr hret ad' H' locs' arr' w1 w2 w3 w4
  obtain ⟨hx, hb, hml, hown, hts, hini, hr1, hr2, hr3, hr4⟩ := id fc
  rcases st with _ | ⟨(n | _ | _ | _ | _ | _ | _), st⟩ <;> first | exact False.elim h | skip
  obtain ⟨N, rfl, hN, h⟩ := h
  obtain ⟨hc, h⟩ := x_bif_t h
  obtain ⟨hc1, hc⟩ := x_ok3 hc
  obtain ⟨hc2, hrf⟩ := x_ok3 hc
  have hc1 := Nat.le_of_ble_eq_true hc1
  have hc2 := Nat.le_of_ble_eq_true hc2
  simp only [x_oki] at hi
  split at hi
  · obtain ⟨i1, i2⟩ := x_ok3 hi
    have e1 := Nat.eq_of_beq_eq_true i1
    subst e1
    have hnc : (nI N).toNatClampNeg = N := nI_clamp (by omega)
    refine va_newq (N' := N) hx hb hown (hts _ (x_has_in i2 rfl)) hex.2.1 hK hW.1 hW.2.1 hS hA (nI_pos (by omega)) hnc (by omega) (by omega) (by omega) hd (fun q cA H1 hK1 hP1 hD1 hS1 => ?_)
    · have ecA : cA = kc 19 := x_RA_eq (hK1.2 4 (cA, .object "SnowTracks$Pass") rfl).2 (hK.2 3 (kc 19, .object "SnowTracks$Pass") rfl).2
      subst ecA
      have ec : x_cell kc (x_ad ad g.1.length q) (x_no g.2.1 g.1.length) (x_zs 0 σ g.1.length) (x_zs 0 τ g.1.length) g.1.length (19, N) = .inl (kc 19, N, .inr (.inr (.inr (.inr (fun _ => none))))) := by
        simp [x_cell, x_no_eq]
      have ew := x_push1 (kc := kc) (ad := ad) (ρ := g.2.1) (σ := σ) (τ := τ) (q := q) (s := (19, N)) hW.2.2
      rw [ec] at ew
      rw [← ew] at hP1 hD1
      have e2 : x_as (x_ad ad g.1.length q) 0 ls = x_as ad 0 ls := x_as_ag (fun k hk => x_ad_lt hk) _ _ (x_refs_app _ _ hrf).1
      have e3 : st.map (x_cv (x_ad ad g.1.length q)) = st.map (x_cv ad) := x_cv_ag (fun k hk => x_ad_lt hk) _ (x_refs_app _ _ hrf).2
      refine W.eq (g2 := F0 m (pc + 3) arr ((Value.ref g.1.length :: st).map (x_cv (x_ad ad g.1.length q)))) ?_ (go h (x_ad ad g.1.length q) H1 locs arr ⟨hP1, hD1, fun q' j r hr => ?_⟩ hS1 ⟨fun k hk => ?_, ?_, fun hz => ?_, hc1, hc2⟩ ?_)
      · rw [List.map_cons, e3]
        show _ = F0 m _ arr (.ref (x_ad ad g.1.length q g.1.length) :: _)
        rw [x_ad_n]
      · by_cases hq : q' = g.1.length
        · subst hq
          simp [x_no] at hr
        · simp only [x_no_ne hq] at hr
          have := hW.2.2 _ _ _ hr
          simp only [List.length_append, List.length_cons, List.length_nil]
          omega
      · rw [x_ad_lt (Nat.lt_of_lt_of_le hk hag.2.1)]
        exact hag.1 k hk
      · simp only [List.length_append]
        exact Nat.le_trans hag.2.1 (by omega)
      · omega
      · unfold x_lr
        rw [e2]
        exact hl
  · cases hi
end
section
section XMNA
variable {p : Program} {l : Launch} {e : Env} {R : Room} {s : State} {m : MethodId} {args : Array Value} {below : List Frame} {meth : Method} {c : Code} {H : Heap} {locs : List Loc} {cells slots : Nat} {Q : State → Prop}
/-- new int[N][P] -/
theorem x_mna {cc : ByteArray} {pc : Nat} {ls : Array Slot} {rest : List Value} (hexec : p.tables.exec = Jvm.exec) (hb : c.code = cc) {own : String} {index : Nat} (hown : s.vm.findClass own = some m.cls) (hclink : (Cond.classLink own index "[[I").before args s = true) (hAA : x_AA s) (harr : (Cond.arrayClass .int).before args s = true) {N P : Nat} (hN : N ≤ 100) (hP : P ≤ 100) (hcells : cells + (1 + N) ≤ R.cells) (hslots : slots + (N + N * P) ≤ R.slots) (hdg : decode cc pc = .ok (.multianewarray index 2, 4))
    (kk : ∀ (H1 : Heap) (cA comp : ClassId), s.vm.findClass "[[I" = some cA → s.vm.findClass "[I" = some comp → H1.size = H.size + 1 + N → (∀ x : Nat, x < H.size → H1[x]? = H[x]?) → H1[H.size]? = some (arrV cA N (fun j => va_rf (if j < N then some (H.size + 1 + j) else none))) → (∀ j, j < N → H1[H.size + 1 + j]? = some (arrV comp P (fun _ => .int 0))) → W p l e R s m args below meth c H1 locs (cells + 1 + N) (slots + N + N * P) Q (F0 m (pc + 4) ls (.ref H.size :: rest))) :
    W p l e R s m args below meth c H locs cells slots Q (F0 m pc ls (.int (nI P) :: .int (nI N) :: rest)) := by
  sorry
end XMNA
set_option maxHeartbeats 1000000 in
theorem xs_multi (l : Launch) {M : xM} {pc len a b : Nat} {v : Value} {ls st : List Value} {g : xG} {σ : xS} {τ : xL} {Q : xQ} {k2 k3 : Nat} {raw : Instr} (hd : decode (x_by M.1) pc = .ok (raw, len)) (hi : x_oki (M.1, M.2.1, M.2.2.1, M.2.2.2.2.2.1) pc raw len (.multianewarray k2 k3) a b v = true)
    (h : x_stp M (.multianewarray k2 k3) (pc + len) a b v ls st g σ τ (fun pc ls st g σ τ => x_snd l M pc ls st g σ τ Q) Q (fun M' as g σ τ Q' => x_snd l M' 0 (x_loc as M'.2.2.1) [] g σ τ Q')) : x_snd l M pc ls st g σ τ Q := by
  intro hok p e R s m args below meth c fc D kc A Z n0 ad0 hK hex hA hscr hret ad H locs arr hW hS hag hl
  have go : ∀ {pc' : Nat} {ls' st' : List Value} {g' : xG} {σ' : xS} {τ' : xL}, x_snd l M pc' ls' st' g' σ' τ' Q → ∀ (ad' : Nat → Nat) (H' : Heap) (locs' : List Loc) (arr' : Array Slot), x_W kc D A ad' g' σ' τ' H' → va_S A s.heap H' locs' → x_ag M n0 ad0 ad' g' → x_lr ad' ls' arr' M.2.2.1 → W p l e R s m args below meth c H' locs' g'.2.2.1 g'.2.2.2 Z (F0 m pc' arr' (st'.map (x_cv ad'))) := fun k ad' H' locs' arr' w1 w2 w3 w4 => k hok p e R s m args below meth c fc D kc A Z n0 ad0 hK hex hA hscr hret ad' H' locs' arr' w1 w2 w3 w4
  obtain ⟨hx, hb, hml, hown, hts, hini, hr1, hr2, hr3, hr4⟩ := id fc
  rcases st with _ | ⟨(kk | _ | _ | _ | _ | _ | _), st⟩ <;> first | exact False.elim h | skip
  rcases st with _ | ⟨(n | _ | _ | _ | _ | _ | _), st⟩ <;> first | exact False.elim h | skip
  obtain ⟨N, P, rfl, rfl, hN, hP, h⟩ := h
  obtain ⟨hc, h⟩ := x_bif_t h
  obtain ⟨hc1, hc⟩ := x_ok3 hc
  obtain ⟨hc2, hrf⟩ := x_ok3 hc
  have hc1 := Nat.le_of_ble_eq_true hc1
  have hc2 := Nat.le_of_ble_eq_true hc2
  simp only [x_oki] at hi
  split at hi
  · obtain ⟨i1, i2⟩ := x_ok3 hi
    obtain ⟨i3, i4⟩ := x_ok3 i2
    have e1 := Nat.eq_of_beq_eq_true i1
    have e2 := Nat.eq_of_beq_eq_true i3
    subst e1
    subst e2
    refine x_mna hx hb hown (hts _ (x_has_in i4 rfl)) hex.2.2 (hts _ (x_tbl_in (w := .arrayClass .int) (by decide +kernel) rfl)) hN hP (by omega) (by omega) hd (fun H1 cA comp f1 f2 hz hold hout hin => ?_)
    have ek18 : cA = kc 18 := by
      have h1 := (hK.2 2 (kc 18, .array .int) rfl).2
      have e : s.vm.findClass "[[I" = some (kc 18) := h1
      exact Option.some.inj (f1.symm.trans e)
    have ek16 : comp = kc 16 := by
      have h1 := (hK.2 0 (kc 16, .int) rfl).2
      have e : s.vm.findClass "[I" = some (kc 16) := h1
      exact Option.some.inj (f2.symm.trans e)
    subst ek18
    subst ek16
    generalize hn : g.1.length = n at *
    obtain ⟨ad', had'⟩ : ∃ ad' : Nat → Nat, ad' = fun k => if k < n then ad k else H.size + (k - n) := ⟨_, rfl⟩
    have a1 : ∀ k, k < n → ad' k = ad k := fun k hk => by rw [had']; exact if_pos hk
    have a2 : ∀ j, ad' (n + j) = H.size + j := fun j => by rw [had']; show (if n + j < n then _ else _) = _; rw [if_neg (by omega)]; omega
    have ew := x_wd_app (kc := kc) (ad := ad) (ad' := ad') (sh := g.1) (l := (18, N) :: List.replicate N (16, P)) (ρ := g.2.1) (ρ' := x_wrr g.2.1 n N) (σ := σ) (σ' := x_zs 0 σ n) (τ := τ) (τ' := x_zs 0 τ n) (by rw [hn]; exact a1) hW.2.2 (fun k hk => by
      funext j
      have e : Nat.beq k n = false := by
        cases hb2 : Nat.beq k n
        · rfl
        · have := Nat.eq_of_beq_eq_true hb2
          omega
      simp [x_wrr, e]) (fun k hk => x_zs_lt (by omega)) (fun k hk => x_zs_lt (by omega))
    rw [hn] at ew
    have hout' : H1[ad' (n + 0)]? = some (vp_cell (kc 18) (N, .inr (.inr (.inr (.inr (fun j => (x_wrr g.2.1 n N n j).map ad')))))) := by
      rw [a2 0, Nat.add_zero, hout, vp_cell_q]
      congr 2
      funext j
      have e : (x_wrr g.2.1 n N n j).map ad' = if j < N then some (H.size + 1 + j) else none := by
        by_cases hj : j < N
        · have e1 : Nat.blt j N = true := Nat.ble_eq_true_of_le hj
          simp only [x_wrr, Nat.beq_refl, cond_true, e1, Option.map_some, if_pos hj]
          rw [show n + 1 + j = n + (1 + j) by omega, a2]
          congr 1
          omega
        · have e1 : Nat.blt j N = false := by
            cases hb2 : Nat.blt j N
            · rfl
            · exact absurd (Nat.le_of_ble_eq_true hb2) hj
          simp only [x_wrr, Nat.beq_refl, cond_true, e1, cond_false, Option.map_none, if_neg hj]
      rw [e]
    have hin' : ∀ j, j < N → H1[ad' (n + (j + 1))]? = some (vp_cell (kc 16) (P, .inl (x_zs 0 σ n (n + (j + 1))))) := by
      intro j hj
      rw [a2, show H.size + (j + 1) = H.size + 1 + j by omega, hin j hj, vp_cell_i, x_zs_ge (by omega)]
    have hlt : ∀ (k : Nat) (q : Nat × va_E), (x_wd kc ad g.1 g.2.1 σ τ)[k]? = some q → q.1 < H.size := fun k q hk => (hW.1 k q hk).lt
    have htail : ∀ (k : Nat) (q : Nat × va_E), ((List.range ((18, N) :: List.replicate N (16, P)).length).map (fun j => (ad' (n + j), x_cell kc ad' (x_wrr g.2.1 n N) (x_zs 0 σ n) (x_zs 0 τ n) (n + j) ((x_nth ((18, N) :: List.replicate N (16, P)) j).getD (0, 0)))))[k]? = some q → q.1 = H.size + k ∧ va_at D x_cl q H1 := by
      intro k q hk
      have hkl : k < N + 1 := by
        have := (List.getElem?_eq_some_iff.mp hk).1
        simpa using this
      rw [List.getElem?_map, List.getElem?_range (by simpa using hkl)] at hk
      simp only [Option.map_some, Option.some.injEq] at hk
      subst hk
      refine ⟨a2 k, ?_⟩
      cases k with
      | zero => exact hout'
      | succ j =>
        have hj : j < N := by omega
        have e : x_nth ((18, N) :: List.replicate N (16, P)) (j + 1) = some (16, P) := by
          rw [x_nth_get]
          simp [hj]
        rw [e]
        exact hin' j hj
    have hP1 : va_P D x_cl (x_wd kc ad' (g.1 ++ (18, N) :: List.replicate N (16, P)) (x_wrr g.2.1 n N) (x_zs 0 σ n) (x_zs 0 τ n)) H1 := by
      rw [ew]
      exact (hW.1.kept (fun k q hk => hold q.1 (hlt k q hk))).app (fun k q hk => (htail k q hk).2)
    have hD1 : va_D A (x_wd kc ad' (g.1 ++ (18, N) :: List.replicate N (16, P)) (x_wrr g.2.1 n N) (x_zs 0 σ n) (x_zs 0 τ n)) := by
      rw [ew]
      refine hW.2.1.app ⟨fun i j x y hi2 hj2 hxy => ?_, fun k q hk => ?_⟩ (fun i j x y hi2 hj2 hxy => ?_)
      · have := (htail i x hi2).1
        have := (htail j y hj2).1
        omega
      · exact hA _ (by rw [(htail k q hk).1]; exact Nat.le_trans hS.1 (by omega))
      · have := hlt i x hi2
        have := (htail j y hj2).1
        omega
    have hS1 : va_S A s.heap H1 locs := ⟨Nat.le_trans hS.1 (by omega), fun q h1 h2 => by rw [hold q (Nat.lt_of_lt_of_le h1 hS.1)]; exact hS.2.1 q h1 h2, hS.2.2⟩
    have e2 : x_as ad' 0 ls = x_as ad 0 ls := x_as_ag a1 _ _ (x_refs_app _ _ hrf).1
    have e3 : st.map (x_cv ad') = st.map (x_cv ad) := x_cv_ag a1 _ (x_refs_app _ _ hrf).2
    refine W.eq (g2 := F0 m (pc + 4) arr ((Value.ref n :: st).map (x_cv ad'))) ?_ (go h ad' H1 locs arr ⟨hP1, hD1, fun q' j r hr => ?_⟩ hS1 ⟨fun k hk => ?_, ?_, fun hz => ?_, by show _ + 1 + N ≤ _; omega, by show _ + N + N * P ≤ _; omega⟩ ?_)
    · rw [List.map_cons, e3]
      show _ = F0 m _ arr (.ref (ad' n) :: _)
      have := a2 0
      simp only [Nat.add_zero] at this
      rw [this]
    · simp only [List.length_append, List.length_cons, List.length_replicate, hn]
      by_cases hq : q' = n
      · subst hq
        simp only [x_wrr, Nat.beq_refl, cond_true] at hr
        cases hb2 : Nat.blt j N
        · rw [hb2] at hr
          cases hr
        · rw [hb2] at hr
          have := Nat.le_of_ble_eq_true hb2
          cases hr
          omega
      · have e : Nat.beq q' n = false := by
          cases hb2 : Nat.beq q' n
          · rfl
          · exact absurd (Nat.eq_of_beq_eq_true hb2) hq
        simp only [x_wrr, e, cond_false] at hr
        have := hW.2.2 _ _ _ hr
        omega
    · rw [a1 k (Nat.lt_of_lt_of_le hk (by rw [← hn]; exact hag.2.1))]
      exact hag.1 k hk
    · simp only [List.length_append]
      exact Nat.le_trans hag.2.1 (by omega)
    · omega
    · unfold x_lr
      rw [e2]
      exact hl
  · cases hi
end
section
set_option maxHeartbeats 4000000 in
/-- every step of the small machine is a walk of the machine -/
theorem x_step_snd (l : Launch) (M : xM) (pc : Nat) (ls st : List Value) (g : xG) (σ : xS) (τ : xL) (Q : xQ) (h : x_one (x_snd l) M pc ls st g σ τ Q) : x_snd l M pc ls st g σ τ Q := by
  intro hok
  revert hok
  by_cases hok : x_okM M = true
  · intro hok2
    unfold x_one at h
    cases hf : x_fnd M.2.2.2.2.2.2.1 pc with
    | none => rw [hf] at h; exact h.elim
    | some row =>
      obtain ⟨i, nx, a, b, v⟩ := row
      rw [hf] at h
      obtain ⟨raw, len, hd, hnx, hi⟩ := x_okM_at hok hf
      subst hnx
      refine (?_ : x_snd l M pc ls st g σ τ Q) hok2
      cases i
      all_goals first
        | exact False.elim h
        | exact xs_iconst l hd hi h
        | exact xs_iload l hd hi h
        | exact xs_lload l hd hi h
        | exact xs_aload l hd hi h
        | exact xs_istore l hd hi h
        | exact xs_lstore l hd hi h
        | exact xs_astore l hd hi h
        | exact xs_iinc l hd hi h
        | exact xs_iadd l hd hi h
        | exact xs_isub l hd hi h
        | exact xs_imul l hd hi h
        | exact xs_iand l hd hi h
        | exact xs_ior l hd hi h
        | exact xs_ixor l hd hi h
        | exact xs_ishl l hd hi h
        | exact xs_ishr l hd hi h
        | exact xs_iushr l hd hi h
        | exact xs_idiv l hd hi h
        | exact xs_irem l hd hi h
        | exact xs_ineg l hd hi h
        | exact xs_i2l l hd hi h
        | exact xs_i2b l hd hi h
        | exact xs_l2i l hd hi h
        | exact xs_ladd l hd hi h
        | exact xs_lmul l hd hi h
        | exact xs_ldiv l hd hi h
        | exact xs_lrem l hd hi h
        | exact xs_lcmp l hd hi h
        | exact xs_dup l hd hi h
        | exact xs_dup2 l hd hi h
        | exact xs_pop l hd hi h
        | exact xs_ifCond l hd hi h
        | exact xs_if_icmp l hd hi h
        | exact xs_goto l hd hi h
        | exact xs_getfield l hd hi h
        | exact xs_putfield l hd hi h
        | exact xs_iaload l hd hi h
        | exact xs_iastore l hd hi h
        | exact xs_baload l hd hi h
        | exact xs_bastore l hd hi h
        | exact xs_aaload l hd hi h
        | exact xs_aastore l hd hi h
        | exact xs_arraylength l hd hi h
        | exact xs_dadd l hd hi h
        | exact xs_dsub l hd hi h
        | exact xs_dneg l hd hi h
        | exact xs_new l hd hi h
        | exact xs_newarray l hd hi h
        | exact xs_anewarray l hd hi h
        | exact xs_ireturn l hd hi h
        | exact xs_lreturn l hd hi h
        | exact xs_switch l hd hi h
        | exact xs_objinit l hd hi h
        | exact xs_copy l hd hi h
        | exact xs_static l hd hi h
        | exact xs_virtual l hd hi h
        | exact xs_special l hd hi h
        | exact xs_multi l hd hi h
        | exact xs_return l hd hi h
  · exact fun q => absurd q hok
/-- SOUNDNESS -/
theorem x_sound (l : Launch) {M : xM} {pc : Nat} {ls st : List Value} {g : xG} {σ : xS} {τ : xL} {Q : xQ} (h : Ev M pc ls st g σ τ Q) : x_snd l M pc ls st g σ τ Q := h (x_snd l) (fun M pc ls st g σ τ Q h => x_step_snd l M pc ls st g σ τ Q h)
end
section
/-! THE CLAIM OUT OF ONE WALK OF THE LAW'S BODY. Your part is whole_start (and what it stands on); all else here is the same for every law, but numbers. -/
def R_law : String := "SnowTracksLaw"
def lw_P (b : Addr) (xs : List Int32) (args : Array Value) (s : State) : Prop := args = #[.ref b] ∧ s.IntsAt b xs ∧ xs.length ≤ 3072 ∧ (Jvm.Cond.and given_1 narrow_1).before args s = true
def lw_Q (_ : Array Value) (s : State) (o : Outcome) (t : State) : Prop := o = .returned (some (.int 1)) ∧ Framed s o t [] 600000 7302250
def lw_Z (below : List Frame) (a : Array Value) (s : State) : State → Prop := fun t => ∃ o, t.status = .running ∧ Ended t below o ∧ lw_Q a s o t
/-- the law's own end, with 1 on the stack, nothing written that was there before, its room as the claim has it -/
theorem lw_ret {p : Program} {l : Launch} {e : Env} {s : State} {m : MethodId} {below : List Frame} {meth : Method} {c : Code} {b : Nat} (hx : p.tables.exec = Jvm.exec) (hb : c.code = code) (hr : meth.sig.returnType = ret) (hlocks : meth.locks = false) {pc : Nat} {H : Heap} {ls : Array Slot} (hdg : decode code pc = .ok (.ireturn, 1)) : W p l e room_1 s m #[Value.ref b] below meth c H [] 600000 7302250 (lw_Z below #[Value.ref b] s) (F0 m pc ls [.int 1]) := by
  intro T hT X
  obtain ⟨fs, hret, hrun, hended, hW, hframe⟩ := X.leave (v := some (.int 1)) (hlocks := hlocks) (fun h => by rw [hr] at h; cases h)
  have hmeth' : T.vm.method? m = some meth := X.method'
  refine ⟨T.setFrames fs, ?_, .returned (some (.int 1)), hrun, hended, rfl, ⟨_, rfl⟩, hW, hframe⟩
  jvm_step X.here [X.here.top, hx, hb, hdg, hmeth', hr, ret, narrow_b1]
  (try refine ⟨rfl, ?_⟩); (try refine ⟨rfl, ?_⟩)
  first | (intro acts; rw [hret _ acts rfl rfl rfl]) | rw [hret _ _ rfl rfl rfl]
  exact Steps.refl _
/-- what holds at the law's entry: the machine, the code, the tables' words (any of lw_tbl by 'hts w (by decide +kernel)'), the script of L ints xs at the cell b, what the Statement gives of the start (any of its parts by flat_of_before) -/
def lw_At (p : Program) (s : State) (m : MethodId) (meth : Method) (c : Code) (b L : Nat) (xs : Nat → Int32) : Prop :=
  p.tables.exec = Jvm.exec ∧ c.code = code ∧ meth.sig.returnType = ret ∧ c.maxLocals = 4 ∧ s.vm.findClass R_law = some m.cls ∧ (∀ w ∈ lw_tbl, w.before #[Value.ref b] s = true) ∧ va_X b L xs s s.heap ∧ b < s.heap.size ∧ meth.locks = false ∧ (Jvm.Cond.and given_1 narrow_1).before #[Value.ref b] s = true

theorem x_AA_of {args : Array Value} {s : State} (h : (Cond.arrayOver (.array .int)).before args s = true) : x_AA s := by
  have et : (FieldType.array .int).toString = "[I" := by decide +kernel
  have et2 : "[" ++ (FieldType.array .int).toString = "[[I" := by decide +kernel
  simp only [Cond.before, Cond.holds, Cond.value, beq_iff_eq] at h
  rw [et2, et] at h
  cases hc : s.vm.findClass "[I" with
  | none => simp [hc] at h
  | some comp =>
    simp only [hc, Option.bind_some, Option.bind_eq_some_iff, Option.map_eq_some_iff] at h
    obtain ⟨c, hi, k, hk, hb⟩ := h
    obtain ⟨hlt, hp, -⟩ := Array.findIdx?_eq_some_iff_getElem.mp hi
    have hkk : s.vm.classes[c] = k := (Array.getElem?_eq_some_iff.mp hk).2
    rw [hkk] at hp
    cases hkind : k.kind with
    | array component ty =>
      rw [hkind] at hb hp
      simp only [beq_iff_eq] at hp
      simp only [Bool.and_eq_true, decide_eq_true_eq] at hb
      refine ⟨comp, c, k, hc, hk, ?_, hb.2⟩
      rw [hkind, hp, hb.1]
    | _ => rw [hkind] at hb; simp at hb
/-- the law's start, out of its walk in the small machine -/
theorem x_start {p : Program} {e : Env} {s : State} {m : MethodId} {below : List Frame} {meth : Method} {c : Code} (l : Launch) {b L : Nat} {xs : Nat → Int32} (C0 : lw_At p s m meth c b L xs) (hE : Ev (m_L_law b L xs) 0 [.retAddr b, .null, .null, .null] [] ([], fun _ _ => none, 0, 0) (fun _ _ => 0) (fun _ _ => 0) (fun r _ _ _ => r = some (.int 1))) :
    W p l e room_1 s m #[Value.ref b] below meth c s.heap [] 0 0 (lw_Z below #[Value.ref b] s) (entryFrame m ([Value.ref b] : List Value).toArray 4) := by
  obtain ⟨hx, hb, hr, hml, hown, hts0, hX, hbl, hlocks, hgv⟩ := C0
  have hts : ∀ w ∈ x_tbl, w.before #[Value.ref b] s = true := fun w hw => hts0 w (List.mem_filter.mp hw).1
  have hkn : ∀ ci : Nat, ∃ (cC : ClassId) (iS : Nat → Nat), ∀ q : vw_C, x_cl[ci]? = some q → u_Kn s q.1 q.2.1 q.2.2 cC iS := by
    intro ci
    by_cases hci : ci < 8
    · obtain ⟨C, T, N, ty, c1, c2, c3, -, -, -, -, -, -, c10, -⟩ := x_class ci hci
      obtain ⟨cC, iS, hk⟩ := u_known hts c3 (hts _ c10)
      exact ⟨cC, iS, fun q hq => by rw [c1] at hq; cases hq; exact hk⟩
    · refine ⟨0, fun _ => 0, fun q hq => ?_⟩
      have := (List.getElem?_eq_some_iff.mp hq).1
      exact absurd this hci
  have hd : ∃ (dC : Nat → ClassId) (dI : Nat → Nat → Nat), ∀ (k : Nat) (q : vw_C), x_cl[k]? = some q → u_Kn s q.1 q.2.1 q.2.2 (dC k) (dI k) :=
    ⟨fun k => (hkn k).choose, fun k => (hkn k).choose_spec.choose, fun k q hq => (hkn k).choose_spec.choose_spec q hq⟩
  obtain ⟨dC, dI, hKc⟩ := hd
  obtain ⟨cI, kI, compI, f1, f2, f3⟩ := Cond.arrayClass_spec (hts (.arrayClass .int) (x_tbl_in (by decide +kernel) rfl))
  obtain ⟨cZ, kZ, compZ, z1, z2, z3⟩ := Cond.arrayClass_spec (hts (.arrayClass .boolean) (x_tbl_in (by decide +kernel) rfl))
  have hAO := hts0 (.arrayOver (.object "SnowTracks$Pass")) (by decide +kernel)
  obtain ⟨compP, cP, kP, p1, p2, p3, p4, p5⟩ := Cond.arrayOver_spec hAO
  have hAA := x_AA_of (hts0 (.arrayOver (.array .int)) (by decide +kernel))
  obtain ⟨compA, cA, kA, a1, a2, a3, a4⟩ := id hAA
  obtain ⟨kc, hkc⟩ : ∃ kc : Nat → ClassId, kc = fun k => if k = 16 then cI else if k = 17 then cZ else if k = 18 then cA else cP := ⟨_, rfl⟩
  have k16 : kc 16 = cI := by rw [hkc]; rfl
  have k17 : kc 17 = cZ := by rw [hkc]; rfl
  have k18 : kc 18 = cA := by rw [hkc]; rfl
  have k19 : kc 19 = cP := by rw [hkc]; rfl
  have hK : va_K (dC, dI) x_cl (x_tys kc) s := by
    refine ⟨hKc, fun k q hk => ?_⟩
    unfold x_tys at hk
    rw [k16, k17, k18, k19] at hk
    match k, hk with
    | 0, hk => cases hk; exact ⟨fun n z => ⟨(fun k h => by cases h), kI, f2, compI, f3⟩, f1⟩
    | 1, hk => cases hk; exact ⟨fun n z => ⟨(fun k h => by cases h), kZ, z2, compZ, z3⟩, z1⟩
    | 2, hk => cases hk; exact ⟨fun n z => ⟨(fun k h => by cases h), kA, a2, compA, a3⟩, a4⟩
    | 3, hk => cases hk; exact ⟨fun n z => ⟨(fun k h => by cases h), kP, p3, compP, p4⟩, kP, compP, p3, p4, p1, p5⟩
    | k + 4, hk => simp at hk
  have hex : x_ex s := ⟨fun w hw hn => va_Nw.of (by cases w <;> first | rfl | exact absurd hn (by simp [x_nw])) (hts0 w hw), hAO, hAA⟩
  have hA : ∀ q : Nat, s.heap.size ≤ q → (fun q : Nat => s.heap.size ≤ q) q := fun _ h => h
  have hl := lv_entry ([.ref b]) (n := 4) (Nat.le_of_ble_eq_true rfl)
  rw [lg_entry_eq]
  refine x_sound l hE (ok_L_law b L xs) p e room_1 s m #[Value.ref b] below meth c ⟨hx, hb, hml, hown, hts, fun h => absurd (show (x_y 226).name = "<init>" from h) (by decide +kernel), Nat.le_refl _, Nat.le_refl _, Nat.le_refl _, Nat.le_refl _⟩ (dC, dI) kc (fun q => s.heap.size ≤ q) (lw_Z below #[Value.ref b] s) 0 (fun _ => 0) hK hex hA (fun _ => ⟨hX, hbl, Nat.not_le.mpr hbl⟩) ?_ (fun _ => 0) s.heap [] _ ⟨fun k q h => ?_, ⟨fun i j x y h => ?_, fun k q h => ?_⟩, fun q j r h => by cases h⟩ va_S.rf ⟨fun _ _ => rfl, Nat.le_refl _, fun _ => rfl, Nat.zero_le _, Nat.zero_le _⟩ ⟨hl.1, hl.2.1, fun q hq => hl.2.2 q ?_⟩
  · intro r g σ τ ad H locs arr pc hQ hW hS hag hrt
    have hQ : r = some (.int 1) := hQ
    subst hQ
    refine va_forget hS.2.2 ?_
    refine W.widen hag.2.2.2.1 hag.2.2.2.2 ?_
    exact lw_ret hx hb hr hlocks hrt.1
  · simp [x_wd] at h
  · simp [x_wd] at h
  · simp [x_wd] at h
  · exact hq
end
section
/-! NUMBERS: ints as naturals, sets as bits -/
theorem q_and (a b : Nat) : nI a &&& nI b = nI (a &&& b) := by
  apply Int32.toBitVec_inj.1
  show BitVec.ofNat 32 a &&& BitVec.ofNat 32 b = BitVec.ofNat 32 (a &&& b)
  apply BitVec.eq_of_getLsbD_eq
  intro i hi
  simp [hi]
theorem q_or (a b : Nat) : nI a ||| nI b = nI (a ||| b) := by
  apply Int32.toBitVec_inj.1
  show BitVec.ofNat 32 a ||| BitVec.ofNat 32 b = BitVec.ofNat 32 (a ||| b)
  apply BitVec.eq_of_getLsbD_eq
  intro i hi
  simp [hi]
theorem q_sm : ∀ n, n < 32 → ((nI n &&& 31).toBitVec.smod 32).toNat = n := by decide +kernel
theorem q_shl {a k : Nat} (hk : k < 32) (h : a * 2 ^ k < 2 ^ 32) : nI a <<< (nI k &&& 31) = nI (a * 2 ^ k) := pk_shlN _ k (q_sm k hk) h
theorem q_shl1 {k : Nat} (hk : k < 31) : (1 : Int32) <<< (nI k &&& 31) = nI (2 ^ k) := by
  have h2 : (2 : Nat) ^ k < 2 ^ 31 := Nat.pow_lt_pow_right (by decide) hk
  have := q_shl (a := 1) (k := k) (by omega) (by omega)
  rw [Nat.one_mul] at this
  exact this
theorem q_shr {a k : Nat} (ha : a < 2 ^ 31) (hk : k < 32) : nI a >>> (nI k &&& 31) = nI (a / 2 ^ k) := pk_shrN ha _ k (q_sm k hk)
/-- those of a that are not in b -/
def nd (a b : Nat) : Nat := a ^^^ (a &&& b)
theorem nd_bit (a b i : Nat) : (nd a b).testBit i = (a.testBit i && !b.testBit i) := by
  unfold nd
  rw [Nat.testBit_xor, Nat.testBit_and]
  cases a.testBit i <;> cases b.testBit i <;> rfl
theorem q_m1 : ∀ i, i < 32 → (-1 : Int32).toBitVec.getLsbD i = true := by decide +kernel
theorem q_nd (a b : Nat) : nI a &&& (nI b ^^^ (-1)) = nI (nd a b) := by
  apply Int32.toBitVec_inj.1
  show BitVec.ofNat 32 a &&& (BitVec.ofNat 32 b ^^^ (-1 : Int32).toBitVec) = BitVec.ofNat 32 (nd a b)
  apply BitVec.eq_of_getLsbD_eq
  intro i hi
  rw [BitVec.getLsbD_and, BitVec.getLsbD_xor, q_m1 i hi, BitVec.getLsbD_ofNat, BitVec.getLsbD_ofNat, BitVec.getLsbD_ofNat, nd_bit]
  simp [hi]
theorem q_bit {s i : Nat} (hs : s < 2 ^ 31) (hi : i < 32) : (nI s >>> (nI i &&& 31)) &&& 1 = nI (if s.testBit i then 1 else 0) := by
  rw [q_shr hs hi, show (1 : Int32) = nI 1 from rfl, q_and]
  congr 1
  rw [Nat.and_one_is_mod, Nat.testBit_eq_decide_div_mod_eq]
  by_cases h : s / 2 ^ i % 2 = 1
  · simp [h]
  · have : s / 2 ^ i % 2 = 0 := by omega
    simp [this]
theorem q_eq {a b : Nat} (ha : a < 2 ^ 31) (hb : b < 2 ^ 31) : nI a = nI b ↔ a = b := nI_eq ha hb
/-- an answer that is true or false -/
def x_b (p : Prop) [Decidable p] : Int32 := if p then 1 else 0
theorem x_b_t {p : Prop} [Decidable p] (h : p) : x_b p = 1 := if_pos h
theorem x_b_f {p : Prop} [Decidable p] (h : ¬ p) : x_b p = 0 := if_neg h
theorem x_b_0 {p : Prop} [Decidable p] : x_b p = 0 ↔ ¬ p := by
  by_cases h : p
  · rw [x_b_t h]; simp [h]
  · rw [x_b_f h]; simp [h]
theorem x_b_01 {p : Prop} [Decidable p] : x_b p = 0 ∨ x_b p = 1 := by
  by_cases h : p
  · exact Or.inr (x_b_t h)
  · exact Or.inl (x_b_f h)
/-- a method evaluates: from the arguments and the store to an answer and a store -/
def Rn (M : xM) (as : List Value) (σ : xS) (τ : xL) (r : Option Value) (σ' : xS) (τ' : xL) : Prop := ∀ Q : xQ, Q r x_g σ' τ' → Ev M 0 (x_loc as M.2.2.1) [] x_g σ τ Q
/-- a loop that counts up -/
theorem ev_iter {M : xM} {pc : Nat} {st : List Value} {g : xG} {Q : xQ} (N : Nat) (F : Nat → List Value × xS × xL) (step : ∀ i, i < N → Ev M pc (F (i + 1)).1 st g (F (i + 1)).2.1 (F (i + 1)).2.2 Q → Ev M pc (F i).1 st g (F i).2.1 (F i).2.2 Q) (fin : Ev M pc (F N).1 st g (F N).2.1 (F N).2.2 Q) : Ev M pc (F 0).1 st g (F 0).2.1 (F 0).2.2 Q := by
  have h : ∀ k, k ≤ N → Ev M pc (F (N - k)).1 st g (F (N - k)).2.1 (F (N - k)).2.2 Q := by
    intro k
    induction k with
    | zero => exact fun _ => fin
    | succ k ih =>
      intro hk
      have := ih (by omega)
      have e : N - k = N - (k + 1) + 1 := by omega
      rw [e] at this
      exact step _ (by omega) this
  have := h N (Nat.le_refl N)
  rwa [Nat.sub_self] at this
/-- places in a row: a number below its length -/
theorem q_in {i n : Nat} (h : i < n) (hn : n < 2 ^ 31) : vp_in (nI i) n := vp_in_nI h hn
theorem x_row_same {α : Type} (σ : Nat → Nat → α) (q : Nat) : x_row σ q (σ q) = σ := by
  funext k
  by_cases h : k = q
  · subst h
    exact x_row_eq
  · exact x_row_ne h
theorem x_row_row {α : Type} (σ : Nat → Nat → α) (q : Nat) (f g : Nat → α) : x_row (x_row σ q f) q g = x_row σ q g := by
  funext k
  by_cases h : k = q
  · subst h
    rw [x_row_eq, x_row_eq]
  · rw [x_row_ne h, x_row_ne h, x_row_ne h]
end
section
theorem bn_t {c A B : Prop} (h : ¬ c) (a : A) : (¬ c → A) ∧ (c → B) := ⟨fun _ => a, fun q => absurd q h⟩
theorem bn_f {c A B : Prop} (h : c) (b : B) : (¬ c → A) ∧ (c → B) := ⟨fun q => absurd h q, fun _ => b⟩
theorem xb1 {p : Prop} [Decidable p] (h : p) : ¬ x_b p = 0 := fun q => x_b_0.mp q h
theorem xb0 {p : Prop} [Decidable p] (h : ¬ p) : x_b p = 0 := x_b_f h
/-- naturals in the first n places of a row -/
def emb (n : Nat) (A : Nat → Nat) (s : Nat → Int32) : Nat → Int32 := fun k => if k < n then nI (A k) else s k
theorem emb_at {n k : Nat} {A : Nat → Nat} {s : Nat → Int32} (h : k < n) : emb n A s k = nI (A k) := if_pos h
def nup (A : Nat → Nat) (i v : Nat) : Nat → Nat := fun k => if k = i then v else A k
theorem nup_eq {A : Nat → Nat} {i v : Nat} : nup A i v i = v := if_pos rfl
theorem nup_ne {A : Nat → Nat} {i v k : Nat} (h : k ≠ i) : nup A i v k = A k := if_neg h
theorem emb_upd {n i v : Nat} {A : Nat → Nat} {s : Nat → Int32} (h : i < n) : upd (emb n A s) i (nI v) = emb n (nup A i v) s := by
  funext k
  by_cases hk : k = i
  · subst hk
    simp [upd, emb, nup, h]
  · simp [upd, emb, nup, hk]
theorem emb_self {n : Nat} {A : Nat → Nat} {s : Nat → Int32} (h : ∀ k, k < n → s k = nI (A k)) : emb n A s = s := by
  funext k
  by_cases hk : k < n
  · simp [emb, hk, h k hk]
  · simp [emb, hk]
theorem emb_congr {n : Nat} {A B : Nat → Nat} {s : Nat → Int32} (h : ∀ k, k < n → A k = B k) : emb n A s = emb n B s := by
  funext k
  by_cases hk : k < n
  · simp [emb, hk, h k hk]
  · simp [emb, hk]
theorem e_J_fill (σ : xS) (τ : xL) (q n : Nat) (v : Int32) (hq : x_nth x_sh q = some (16, n)) (hn : n < 2 ^ 31) : Rn m_J_fill [.ref q, .int v] σ τ none (x_row σ q (fun j => if j < n then v else σ q j)) τ := by
  intro Q h
  refine ev_go 100 [5] ?_
  refine ⟨16, n, hq, Or.inl rfl, ?_⟩
  have e0 : x_row σ q (fun j => if j < 0 then v else σ q j) = σ := by
    rw [show (fun j => if j < 0 then v else σ q j) = σ q from by funext j; simp]
    exact x_row_same σ q
  have := ev_iter (M := m_J_fill) (pc := 5) (st := []) (g := x_g) (Q := Q) n (fun i => ([.ref q, .int v, .int (nI i), .int (nI n)], x_row σ q (fun j => if j < i then v else σ q j), τ)) (fun i hi k => ?_) ?_
  · dsimp only at this
    rw [e0] at this
    exact this
  · dsimp only at k ⊢
    refine ev_go 100 [5] ?_
    refine br_f (nI_ge hi hn) ?_
    refine ⟨n, hq, q_in hi hn, ?_⟩
    show Ev m_J_fill 5 [.ref q, .int v, .int (nI i + 1), .int (nI n)] [] x_g (x_row (x_row σ q (fun j => if j < i then v else σ q j)) q (upd (x_row σ q (fun j => if j < i then v else σ q j) q) (nI i).toNatClampNeg v)) τ Q
    rw [nI_1, nI_clamp (by omega), x_row_row, x_row_eq, show upd (fun j => if j < i then v else σ q j) i v = (fun j => if j < i + 1 then v else σ q j) from ?_]
    · exact k
    · funext j
      by_cases hj : j = i
      · simp [upd, hj]
      · simp only [upd, hj, if_false]
        by_cases h2 : j < i
        · simp [h2, show j < i + 1 by omega]
        · simp [h2, show ¬ j < i + 1 by omega]
  · dsimp only
    refine ev_go 100 [5] ?_
    refine br_t (nI_le (Nat.le_refl n) hn) ?_
    exact h
theorem sh_rows : ∀ k, k < 6 → x_nth x_sh (3 + k) = some (16, 40) := by decide +kernel
theorem rf_rows : ∀ k, k < 6 → x_rf 2 k = some (3 + k) := by decide +kernel
theorem sh_texts : ∀ k, k < 4 → x_nth x_sh (12 + k) = some (16, 80) := by decide +kernel
theorem rf_texts : ∀ k, k < 4 → x_rf 11 k = some (12 + k) := by decide +kernel
theorem in_lt {x : Int32} {n : Nat} (h : vp_in x n) : x.toNatClampNeg < n := Nat.not_le.mp fun q => h (Or.inr q)
/-! shelves: 1 the rows, 10 the texts -/
theorem e_H_isNumber1 (σ : xS) (τ : xL) (r : Int32) : Rn m_H_isNumber [.ref 1, .int r] σ τ (some (.int (x_b (¬ r < 0 ∧ ¬ nI 6 ≤ r)))) σ τ := by
  intro Q h
  refine ev_go 100 [] ?_
  refine And.intro (fun h1 => ?_) (fun h1 => ?_)
  · rw [x_b_f (fun q => q.1 h1)] at h
    exact ⟨Or.inl rfl, h⟩
  · refine ⟨16, 6, rfl, Or.inl rfl, ?_⟩
    refine And.intro (fun h2 => ?_) (fun h2 => ?_)
    · rw [x_b_f (fun q => q.2 h2)] at h
      exact ⟨Or.inl rfl, h⟩
    · rw [x_b_t ⟨h1, h2⟩] at h
      exact ⟨Or.inr rfl, h⟩
theorem e_H_isNumber10 (σ : xS) (τ : xL) (r : Int32) : Rn m_H_isNumber [.ref 10, .int r] σ τ (some (.int (x_b (¬ r < 0 ∧ ¬ nI 4 ≤ r)))) σ τ := by
  intro Q h
  refine ev_go 100 [] ?_
  refine And.intro (fun h1 => ?_) (fun h1 => ?_)
  · rw [x_b_f (fun q => q.1 h1)] at h
    exact ⟨Or.inl rfl, h⟩
  · refine ⟨16, 4, rfl, Or.inl rfl, ?_⟩
    refine And.intro (fun h2 => ?_) (fun h2 => ?_)
    · rw [x_b_f (fun q => q.2 h2)] at h
      exact ⟨Or.inl rfl, h⟩
    · rw [x_b_t ⟨h1, h2⟩] at h
      exact ⟨Or.inr rfl, h⟩
theorem e_H_isThere1 (σ : xS) (τ : xL) (r : Int32) (hr : vp_in r 6) : Rn m_H_isThere [.ref 1, .int r] σ τ (some (.int (x_b (¬ σ 9 r.toNatClampNeg < 0)))) σ τ := by
  intro Q h
  refine ev_go 100 [] ?_
  refine ⟨6, rfl, hr, ?_⟩
  refine And.intro (fun h1 => ?_) (fun h1 => ?_)
  · rw [x_b_f (fun q => q h1)] at h
    exact ⟨Or.inl rfl, h⟩
  · rw [x_b_t h1] at h
    exact ⟨Or.inr rfl, h⟩
theorem e_H_isThere10 (σ : xS) (τ : xL) (r : Int32) (hr : vp_in r 4) : Rn m_H_isThere [.ref 10, .int r] σ τ (some (.int (x_b (¬ σ 16 r.toNatClampNeg < 0)))) σ τ := by
  intro Q h
  refine ev_go 100 [] ?_
  refine ⟨4, rfl, hr, ?_⟩
  refine And.intro (fun h1 => ?_) (fun h1 => ?_)
  · rw [x_b_f (fun q => q h1)] at h
    exact ⟨Or.inl rfl, h⟩
  · rw [x_b_t h1] at h
    exact ⟨Or.inr rfl, h⟩
theorem e_H_hasPlace1 (σ : xS) (τ : xL) (r i : Int32) (hr : vp_in r 6) : Rn m_H_hasPlace [.ref 1, .int r, .int i] σ τ (some (.int (x_b (¬ i < 0 ∧ ¬ σ 9 r.toNatClampNeg ≤ i)))) σ τ := by
  intro Q h
  refine ev_go 100 [] ?_
  refine And.intro (fun h1 => ?_) (fun h1 => ?_)
  · rw [x_b_f (fun q => q.1 h1)] at h
    exact ⟨Or.inl rfl, h⟩
  · refine ⟨6, rfl, hr, ?_⟩
    refine And.intro (fun h2 => ?_) (fun h2 => ?_)
    · rw [x_b_f (fun q => q.2 h2)] at h
      exact ⟨Or.inl rfl, h⟩
    · rw [x_b_t ⟨h1, h2⟩] at h
      exact ⟨Or.inr rfl, h⟩
theorem e_H_hasPlace10 (σ : xS) (τ : xL) (r i : Int32) (hr : vp_in r 4) : Rn m_H_hasPlace [.ref 10, .int r, .int i] σ τ (some (.int (x_b (¬ i < 0 ∧ ¬ σ 16 r.toNatClampNeg ≤ i)))) σ τ := by
  intro Q h
  refine ev_go 100 [] ?_
  refine And.intro (fun h1 => ?_) (fun h1 => ?_)
  · rw [x_b_f (fun q => q.1 h1)] at h
    exact ⟨Or.inl rfl, h⟩
  · refine ⟨4, rfl, hr, ?_⟩
    refine And.intro (fun h2 => ?_) (fun h2 => ?_)
    · rw [x_b_f (fun q => q.2 h2)] at h
      exact ⟨Or.inl rfl, h⟩
    · rw [x_b_t ⟨h1, h2⟩] at h
      exact ⟨Or.inr rfl, h⟩
theorem e_H_make1 (σ : xS) (τ : xL) (r n : Int32) (hr : vp_in r 6) (hb : σ 1 2 = 0) : Rn m_H_make [.ref 1, .int r, .int n] σ τ none (x_row (x_row σ (3 + r.toNatClampNeg) (fun j => if j < 40 then 0 else σ (3 + r.toNatClampNeg) j)) 9 (upd (x_row σ (3 + r.toNatClampNeg) (fun j => if j < 40 then 0 else σ (3 + r.toNatClampNeg) j) 9) r.toNatClampNeg n)) τ := by
  intro Q h
  refine ev_go 100 [] ?_
  refine ⟨18, 6, 3 + r.toNatClampNeg, rfl, Or.inl rfl, hr, rf_rows _ (in_lt hr), ?_⟩
  refine e_J_fill σ τ (3 + r.toNatClampNeg) 40 (σ 1 2) (sh_rows _ (in_lt hr)) (by decide) _ ?_
  rw [hb]
  refine ⟨6, rfl, hr, ?_⟩
  exact h
theorem e_H_make10 (σ : xS) (τ : xL) (r n : Int32) (hr : vp_in r 4) (hb : σ 10 2 = 32) : Rn m_H_make [.ref 10, .int r, .int n] σ τ none (x_row (x_row σ (12 + r.toNatClampNeg) (fun j => if j < 80 then 32 else σ (12 + r.toNatClampNeg) j)) 16 (upd (x_row σ (12 + r.toNatClampNeg) (fun j => if j < 80 then 32 else σ (12 + r.toNatClampNeg) j) 16) r.toNatClampNeg n)) τ := by
  intro Q h
  refine ev_go 100 [] ?_
  refine ⟨18, 4, 12 + r.toNatClampNeg, rfl, Or.inl rfl, hr, rf_texts _ (in_lt hr), ?_⟩
  refine e_J_fill σ τ (12 + r.toNatClampNeg) 80 (σ 10 2) (sh_texts _ (in_lt hr)) (by decide) _ ?_
  rw [hb]
  refine ⟨4, rfl, hr, ?_⟩
  exact h
/-- a finding, in the class and in the model -/
def c_ref (σ : xS) (f : Int32) : xS := x_row (x_row σ 0 (upd (σ 0) 11 f)) 48 (upd (σ 48) f.toNatClampNeg (σ 48 f.toNatClampNeg + 1))
def m_fnd (σ : xS) (f : Int32) : xS := x_row (x_row σ 67 (upd (σ 67) 0 f)) 68 (upd (σ 68) f.toNatClampNeg (σ 68 f.toNatClampNeg + 1))
theorem e_S_refuse (σ : xS) (τ : xL) (f : Int32) (hf : vp_in f 6) : Rn m_S_refuse [.ref 0, .int f] σ τ (some (.int (-3))) (c_ref σ f) τ := by
  intro Q h
  refine ev_go 100 [] ?_
  refine ⟨6, rfl, hf, ?_⟩
  refine ⟨6, rfl, hf, ?_⟩
  exact h
theorem e_M_finds (σ : xS) (τ : xL) (f : Int32) (hf : vp_in f 6) : Rn m_M_finds [.ref 67, .int f] σ τ (some (.int (-3))) (m_fnd σ f) τ := by
  intro Q h
  refine ev_go 100 [] ?_
  refine ⟨6, rfl, hf, ?_⟩
  refine ⟨6, rfl, hf, ?_⟩
  exact h
theorem e_M_tells (σ : xS) (τ : xL) (v a : Int32) : Rn m_M_tells [.ref 67, .int v, .int a] σ τ (some (.int a)) (x_row σ 67 (upd (σ 67) 2 v)) τ := by
  intro Q h
  refine ev_go 100 [] ?_
  exact h
theorem e_M_in (σ : xS) (τ : xL) (x y z : Int32) : Rn m_M_in [.int x, .int y, .int z] σ τ (some (.int (x_b (¬ x < y ∧ ¬ z < x)))) σ τ := by
  intro Q h
  refine ev_go 100 [] ?_
  refine And.intro (fun h1 => ?_) (fun h1 => And.intro (fun h2 => ?_) (fun h2 => ?_))
  · rw [x_b_f (fun q => q.1 h1)] at h
    exact ⟨Or.inl rfl, h⟩
  · rw [x_b_f (fun q => q.2 h2)] at h
    exact ⟨Or.inl rfl, h⟩
  · rw [x_b_t ⟨h1, h2⟩] at h
    exact ⟨Or.inr rfl, h⟩
theorem e_M_isRow (σ : xS) (τ : xL) (r : Int32) : Rn m_M_isRow [.int r] σ τ (some (.int (x_b (¬ r < 0 ∧ ¬ 5 < r)))) σ τ := by
  intro Q h
  refine ev_go 100 [] ?_
  refine e_M_in σ τ r 0 5 _ ?_
  exact ⟨x_b_01, h⟩
theorem e_M_isText (σ : xS) (τ : xL) (r : Int32) : Rn m_M_isText [.int r] σ τ (some (.int (x_b (¬ r < 0 ∧ ¬ 3 < r)))) σ τ := by
  intro Q h
  refine ev_go 100 [] ?_
  refine e_M_in σ τ r 0 3 _ ?_
  exact ⟨x_b_01, h⟩
end
section
/-! THE RELATION between the class's cells and the model's -/
/-- a pass: tracks, crossings, wind; kinds, sizes, fills; overs, unders -/
abbrev xP := Nat × Nat × Nat × (Nat → Nat) × (Nat → Nat) × (Nat → Nat) × (Nat → Nat) × (Nat → Nat)
abbrev pn (P : xP) : Nat := P.1
abbrev pc (P : xP) : Nat := P.2.1
abbrev pw (P : xP) : Nat := P.2.2.1
abbrev pk (P : xP) : Nat → Nat := P.2.2.2.1
abbrev pz (P : xP) : Nat → Nat := P.2.2.2.2.1
abbrev pf (P : xP) : Nat → Nat := P.2.2.2.2.2.1
abbrev po (P : xP) : Nat → Nat := P.2.2.2.2.2.2.1
abbrev pu (P : xP) : Nat → Nat := P.2.2.2.2.2.2.2
/-- a pass of the class, at the object o -/
def PC (σ : xS) (o : Nat) (P : xP) : Prop := σ o 0 = nI (pn P) ∧ σ o 1 = nI (pc P) ∧ σ o 2 = nI (pw P) ∧ (∀ i, i < pn P → σ (o + 1) i = nI (pk P i) ∧ σ (o + 2) i = nI (pz P i) ∧ σ (o + 3) i = nI (pf P i)) ∧ ∀ k, k < pc P → σ (o + 4) k = nI (po P k) ∧ σ (o + 5) k = nI (pu P k)
/-- the model's pass -/
def PM (σ : xS) (P : xP) : Prop := σ 67 10 = nI (pn P) ∧ σ 67 14 = nI (pc P) ∧ σ 67 17 = nI (pw P) ∧ (∀ i, i < pn P → σ 74 i = nI (pk P i) ∧ σ 75 i = nI (pz P i) ∧ σ 76 i = nI (pf P i)) ∧ ∀ k, k < pc P → σ 77 k = nI (po P k) ∧ σ 78 k = nI (pu P k)
def PV (P : xP) : Prop := pn P ≤ 7 ∧ pc P ≤ 16 ∧ pw P ≤ 1 ∧ (∀ i, i < pn P → pk P i ≤ 5 ∧ pz P i ≤ 9 ∧ pf P i ≤ 10) ∧ ∀ k, k < pc P → po P k < pn P ∧ pu P k < pn P ∧ po P k ≠ pu P k
def RelR (σ : xS) : Prop := σ 1 2 = 0 ∧ ∀ r, r < 6 → ((σ 9 r = -1 ∧ σ 69 r = -9) ∨ ∃ n, n ≤ 40 ∧ σ 9 r = nI n ∧ σ 69 r = nI n) ∧ ∀ i, i < 40 → σ (3 + r) i = σ 70 (40 * r + i)
def RelT (σ : xS) : Prop := σ 10 2 = 32 ∧ ∀ r, r < 4 → ((σ 16 r = -1 ∧ σ 72 r = -9) ∨ ∃ n, n ≤ 80 ∧ σ 16 r = nI n ∧ σ 72 r = nI n) ∧ ∀ i, i < 80 → σ (12 + r) i = σ 73 (80 * r + i)
def RelK (σ : xS) (P : xP) : Prop := ∀ k, k < 3 → (σ (49 + 6 * k) 0 = 0 ∧ σ 84 (42 * k) = -9) ∨ ∃ P', PC σ (49 + 6 * k) P' ∧ PV P' ∧ pn P' = pn P ∧ 0 < pn P ∧ (∀ i, i < pn P → pk P' i = pk P i ∧ pz P' i = pz P i) ∧ σ 84 (42 * k) = nI (pc P') ∧ σ 84 (42 * k + 1) = nI (pw P') ∧ (∀ i, i < pn P → σ 84 (42 * k + 2 + i) = nI (pf P' i)) ∧ ∀ j, j < pc P' → σ 84 (42 * k + 9 + j) = nI (po P' j) ∧ σ 84 (42 * k + 25 + j) = nI (pu P' j)
def RelA (σ : xS) (τ : xL) : Prop := σ 0 8 = σ 67 2 ∧ σ 0 11 = σ 67 0 ∧ (∀ f, f < 6 → σ 48 f = σ 68 f) ∧ τ 0 9 = τ 67 3 ∧ τ 0 10 = τ 67 4
def RelP (σ : xS) : Prop := ∃ P, PC σ 17 P ∧ PM σ P ∧ PV P ∧ RelK σ P
def Rel (σ : xS) (τ : xL) : Prop := RelR σ ∧ RelT σ ∧ RelP σ ∧ RelA σ τ
/-- the class's method, then the model's: the same answer, and the relation again -/
def Pair (MS MM : xM) (as : List Value) : Prop := ∀ σ τ, Rel σ τ → Ev MS 0 (x_loc (.ref 0 :: as) MS.2.2.1) [] x_g σ τ (fun r1 g1 σ1 τ1 => g1 = x_g ∧ Ev MM 0 (x_loc (.ref 67 :: as) MM.2.2.1) [] x_g σ1 τ1 (fun r2 g2 σ2 τ2 => g2 = x_g ∧ r1 = r2 ∧ (∃ v, r1 = some v) ∧ Rel σ2 τ2))
theorem RelR.congr {σ σ' : xS} (h : RelR σ) (h1 : σ' 1 2 = σ 1 2) (h2 : ∀ q, 3 ≤ q → q ≤ 9 → σ' q = σ q) (h3 : σ' 69 = σ 69) (h4 : σ' 70 = σ 70) : RelR σ' := by
  refine ⟨by rw [h1]; exact h.1, fun r hr => ?_⟩
  rw [h2 9 (by omega) (by omega), h3, h4, h2 (3 + r) (by omega) (by omega)]
  exact h.2 r hr
theorem RelT.congr {σ σ' : xS} (h : RelT σ) (h1 : σ' 10 2 = σ 10 2) (h2 : ∀ q, 12 ≤ q → q ≤ 16 → σ' q = σ q) (h3 : σ' 72 = σ 72) (h4 : σ' 73 = σ 73) : RelT σ' := by
  refine ⟨by rw [h1]; exact h.1, fun r hr => ?_⟩
  rw [h2 16 (by omega) (by omega), h3, h4, h2 (12 + r) (by omega) (by omega)]
  exact h.2 r hr
theorem PC.congr {σ σ' : xS} {o : Nat} {P : xP} (h : PC σ o P) (h1 : ∀ q, o ≤ q → q ≤ o + 5 → σ' q = σ q) : PC σ' o P := by
  unfold PC
  rw [h1 o (by omega) (by omega), h1 (o + 1) (by omega) (by omega), h1 (o + 2) (by omega) (by omega), h1 (o + 3) (by omega) (by omega), h1 (o + 4) (by omega) (by omega), h1 (o + 5) (by omega) (by omega)]
  exact h
theorem PM.congr {σ σ' : xS} {P : xP} (h : PM σ P) (h1 : σ' 67 10 = σ 67 10) (h2 : σ' 67 14 = σ 67 14) (h3 : σ' 67 17 = σ 67 17) (h4 : ∀ q, 74 ≤ q → q ≤ 78 → σ' q = σ q) : PM σ' P := by
  unfold PM
  rw [h1, h2, h3, h4 74 (by omega) (by omega), h4 75 (by omega) (by omega), h4 76 (by omega) (by omega), h4 77 (by omega) (by omega), h4 78 (by omega) (by omega)]
  exact h
theorem RelK.congr {σ σ' : xS} {P : xP} (h : RelK σ P) (h1 : ∀ q, 49 ≤ q → q ≤ 66 → σ' q = σ q) (h2 : σ' 84 = σ 84) : RelK σ' P := by
  intro k hk
  rw [h1 (49 + 6 * k) (by omega) (by omega), h2]
  rcases h k hk with h | ⟨P', a, b⟩
  · exact Or.inl h
  · exact Or.inr ⟨P', a.congr (fun q q1 q2 => h1 q (by omega) (by omega)), b⟩
theorem RelP.congr {σ σ' : xS} (h : RelP σ) (h1 : ∀ q, 17 ≤ q → q ≤ 22 → σ' q = σ q) (h2 : ∀ q, 49 ≤ q → q ≤ 66 → σ' q = σ q) (h3 : σ' 67 10 = σ 67 10) (h4 : σ' 67 14 = σ 67 14) (h5 : σ' 67 17 = σ 67 17) (h6 : ∀ q, 74 ≤ q → q ≤ 78 → σ' q = σ q) (h7 : σ' 84 = σ 84) : RelP σ' := by
  obtain ⟨P, a, b, c, d⟩ := h
  exact ⟨P, a.congr (fun q q1 q2 => h1 q (by omega) (by omega)), b.congr h3 h4 h5 h6, c, d.congr h2 h7⟩
/-- a store that differs from one of the relation's in scratch alone -/
def Scr (σ σ' : xS) : Prop := (∀ q, q ≤ 22 → q ≠ 0 → σ' q = σ q) ∧ (∀ q, 49 ≤ q → q ≤ 66 → σ' q = σ q) ∧ σ' 69 = σ 69 ∧ σ' 70 = σ 70 ∧ σ' 72 = σ 72 ∧ σ' 73 = σ 73 ∧ (∀ q, 74 ≤ q → q ≤ 78 → σ' q = σ q) ∧ σ' 84 = σ 84 ∧ σ' 67 10 = σ 67 10 ∧ σ' 67 14 = σ 67 14 ∧ σ' 67 17 = σ 67 17
theorem Rel.scr {σ σ' : xS} {τ τ' : xL} (h : Rel σ τ) (hs : Scr σ σ') (hA : RelA σ' τ') : Rel σ' τ' := by
  obtain ⟨h1, h2, h3, -⟩ := h
  obtain ⟨a1, a2, a3, a4, a5, a6, a7, a8, a9, a10, a11⟩ := hs
  exact ⟨h1.congr (by rw [a1 1 (by omega) (by omega)]) (fun q q1 q2 => a1 q (by omega) (by omega)) a3 a4, h2.congr (by rw [a1 10 (by omega) (by omega)]) (fun q q1 q2 => a1 q (by omega) (by omega)) a5 a6, h3.congr (fun q q1 q2 => a1 q (by omega) (by omega)) a2 a9 a10 a11 a7 a8, hA⟩
theorem RelA.find {σ : xS} {τ : xL} (h : RelA σ τ) {f : Nat} (hf : f < 6) : RelA (m_fnd (c_ref σ (nI f)) (nI f)) τ := by
  obtain ⟨h1, h2, h3, h4, h5⟩ := h
  have hc : (nI f).toNatClampNeg = f := nI_clamp (by omega)
  refine ⟨?_, ?_, ?_, h4, h5⟩
  · simp [m_fnd, c_ref, x_row, upd, h1]
  · simp [m_fnd, c_ref, x_row, upd]
  · intro g hg
    simp only [m_fnd, c_ref, x_row, upd, hc]
    by_cases e : g = f
    · simp [e, h3 f hf, upd]
    · simp [e, h3 g hg, upd]
theorem Scr.find {σ : xS} (f : Int32) : Scr σ (m_fnd (c_ref σ f) f) := by
  refine ⟨fun q q1 q2 => ?_, fun q q1 q2 => ?_, rfl, rfl, rfl, rfl, fun q q1 q2 => ?_, rfl, rfl, rfl, rfl⟩
  · simp [m_fnd, c_ref, x_row, show q ≠ 68 by omega, show q ≠ 67 by omega, show q ≠ 48 by omega, q2]
  · simp [m_fnd, c_ref, x_row, show q ≠ 68 by omega, show q ≠ 67 by omega, show q ≠ 48 by omega, show q ≠ 0 by omega]
  · simp [m_fnd, c_ref, x_row, show q ≠ 68 by omega, show q ≠ 67 by omega, show q ≠ 48 by omega, show q ≠ 0 by omega]
theorem Rel.find {σ : xS} {τ : xL} (h : Rel σ τ) {f : Nat} (hf : f < 6) : Rel (m_fnd (c_ref σ (nI f)) (nI f)) τ := h.scr (Scr.find _) (h.2.2.2.find hf)
/-- a value told by both -/
def c_told (σ : xS) (v : Int32) : xS := x_row σ 0 (upd (σ 0) 8 v)
def m_told (σ : xS) (v : Int32) : xS := x_row σ 67 (upd (σ 67) 2 v)
theorem RelA.told {σ : xS} {τ : xL} (h : RelA σ τ) (v : Int32) : RelA (m_told (c_told σ v) v) τ := by
  obtain ⟨h1, h2, h3, h4, h5⟩ := h
  refine ⟨?_, ?_, fun f hf => ?_, h4, h5⟩
  · simp [m_told, c_told, x_row, upd]
  · simp [m_told, c_told, x_row, upd, h2]
  · simp [m_told, c_told, x_row, h3 f hf]
theorem Scr.told {σ : xS} (v : Int32) : Scr σ (m_told (c_told σ v) v) := by
  refine ⟨fun q q1 q2 => ?_, fun q q1 q2 => ?_, rfl, rfl, rfl, rfl, fun q q1 q2 => ?_, rfl, rfl, rfl, rfl⟩
  · simp [m_told, c_told, x_row, show q ≠ 67 by omega, q2]
  · simp [m_told, c_told, x_row, show q ≠ 67 by omega, show q ≠ 0 by omega]
  · simp [m_told, c_told, x_row, show q ≠ 67 by omega, show q ≠ 0 by omega]
theorem Rel.told {σ : xS} {τ : xL} (h : Rel σ τ) (v : Int32) : Rel (m_told (c_told σ v) v) τ := h.scr (Scr.told v) (h.2.2.2.told v)
/-- an int is below 0, at least n, or a number below n -/
theorem q_ix (x : Int32) (n : Nat) (hn : n < 2 ^ 31) : (x < 0 ∨ nI n ≤ x) ∨ ∃ j, j < n ∧ x = nI j := by
  rcases pk_ix x hn with h | h | h
  · exact Or.inl (Or.inl h)
  · exact Or.inl (Or.inr h)
  · exact Or.inr h
theorem q_lt_le (x : Int32) (n : Nat) (hn : n + 1 < 2 ^ 31) : nI n < x ↔ nI (n + 1) ≤ x := by
  rw [Int32.lt_iff_toInt_lt, Int32.le_iff_toInt_le, nI_toInt (by omega), nI_toInt (by omega)]
  omega
theorem q_5 (x : Int32) : (5 : Int32) < x ↔ nI 6 ≤ x := q_lt_le x 5 (by decide)
theorem q_3 (x : Int32) : (3 : Int32) < x ↔ nI 4 ≤ x := q_lt_le x 3 (by decide)
end
section
/-! ROWS AND TEXTS -/
def blk (f : Nat → Int32) (a n : Nat) (v : Int32) : Nat → Int32 := fun j => if a ≤ j ∧ j < a + n then v else f j
theorem blk_0 (f : Nat → Int32) (a : Nat) (v : Int32) : blk f a 0 v = f := by
  funext j
  simp only [blk]
  rw [if_neg (by omega)]
theorem blk_s (f : Nat → Int32) (a n : Nat) (v : Int32) : upd (blk f a n v) (a + n) v = blk f a (n + 1) v := by
  funext j
  by_cases h : j = a + n
  · subst h
    simp [upd, blk]
  · simp only [upd, blk, h, if_false]
    by_cases h2 : a ≤ j ∧ j < a + n
    · rw [if_pos h2, if_pos (by omega)]
    · rw [if_neg h2, if_neg (by omega)]
theorem e_M_rowBar_bad (σ : xS) (τ : xL) (r : Int32) (h0 : r < 0 ∨ nI 6 ≤ r) : Rn m_M_rowBar [.ref 67, .int r] σ τ (some (.int (-1))) σ τ := by
  intro Q h
  refine ev_go 100 [] ?_
  refine e_M_isRow σ τ r _ ?_
  refine bn_f (xb0 (fun q => h0.elim q.1 (fun z => q.2 ((q_5 r).mpr z)))) ?_
  exact h
theorem in_row {k : Nat} (h : k < 6) : ¬ nI k < 0 ∧ ¬ (5 : Int32) < nI k := ⟨nI_pos (by omega), fun q => nI_ge h (by decide) ((q_5 _).mp q)⟩
theorem in_text {k : Nat} (h : k < 4) : ¬ nI k < 0 ∧ ¬ (3 : Int32) < nI k := ⟨nI_pos (by omega), fun q => nI_ge h (by decide) ((q_3 _).mp q)⟩
theorem in_row6 {k : Nat} (h : k < 6) : ¬ nI k < 0 ∧ ¬ nI 6 ≤ nI k := ⟨nI_pos (by omega), nI_ge h (by decide)⟩
theorem in_text4 {k : Nat} (h : k < 4) : ¬ nI k < 0 ∧ ¬ nI 4 ≤ nI k := ⟨nI_pos (by omega), nI_ge h (by decide)⟩
theorem e_M_rowBar_no (σ : xS) (τ : xL) {k : Nat} (hk : k < 6) (h0 : σ 69 k = -9) : Rn m_M_rowBar [.ref 67, .int (nI k)] σ τ (some (.int (-3))) (m_fnd σ 1) τ := by
  intro Q h
  refine ev_go 100 [] ?_
  refine e_M_isRow σ τ _ _ ?_
  refine bn_t (xb1 (in_row hk)) ?_
  refine ⟨6, rfl, q_in hk (by decide), ?_⟩
  refine bn_f (by rw [nI_clamp (by omega)]; exact h0) ?_
  refine e_M_finds σ τ 1 (q_in (i := 1) (by decide) (by decide)) _ ?_
  exact h
theorem e_M_rowBar_ok (σ : xS) (τ : xL) {k : Nat} (hk : k < 6) (h0 : ¬ σ 69 k = -9) : Rn m_M_rowBar [.ref 67, .int (nI k)] σ τ (some (.int 0)) σ τ := by
  intro Q h
  refine ev_go 100 [] ?_
  refine e_M_isRow σ τ _ _ ?_
  refine bn_t (xb1 (in_row hk)) ?_
  refine ⟨6, rfl, q_in hk (by decide), ?_⟩
  refine bn_t (by rw [nI_clamp (by omega)]; exact h0) ?_
  exact h
theorem e_M_textBar_bad (σ : xS) (τ : xL) (r : Int32) (h0 : r < 0 ∨ nI 4 ≤ r) : Rn m_M_textBar [.ref 67, .int r] σ τ (some (.int (-1))) σ τ := by
  intro Q h
  refine ev_go 100 [] ?_
  refine e_M_isText σ τ r _ ?_
  refine bn_f (xb0 (fun q => h0.elim q.1 (fun z => q.2 ((q_3 r).mpr z)))) ?_
  exact h
theorem e_M_textBar_no (σ : xS) (τ : xL) {k : Nat} (hk : k < 4) (h0 : σ 72 k = -9) : Rn m_M_textBar [.ref 67, .int (nI k)] σ τ (some (.int (-3))) (m_fnd σ 1) τ := by
  intro Q h
  refine ev_go 100 [] ?_
  refine e_M_isText σ τ _ _ ?_
  refine bn_t (xb1 (in_text hk)) ?_
  refine ⟨4, rfl, q_in hk (by decide), ?_⟩
  refine bn_f (by rw [nI_clamp (by omega)]; exact h0) ?_
  refine e_M_finds σ τ 1 (q_in (i := 1) (by decide) (by decide)) _ ?_
  exact h
theorem e_M_textBar_ok (σ : xS) (τ : xL) {k : Nat} (hk : k < 4) (h0 : ¬ σ 72 k = -9) : Rn m_M_textBar [.ref 67, .int (nI k)] σ τ (some (.int 0)) σ τ := by
  intro Q h
  refine ev_go 100 [] ?_
  refine e_M_isText σ τ _ _ ?_
  refine bn_t (xb1 (in_text hk)) ?_
  refine ⟨4, rfl, q_in hk (by decide), ?_⟩
  refine bn_t (by rw [nI_clamp (by omega)]; exact h0) ?_
  exact h
/-- the model's row made -/
def m_row (σ : xS) (k : Nat) (n : Int32) : xS := x_row (x_row σ 69 (upd (σ 69) k n)) 70 (blk (σ 70) (40 * k) 40 0)
theorem e_M_row_ok (σ : xS) (τ : xL) {k : Nat} (hk : k < 6) {n : Int32} (h1 : n ≤ 40) (h0 : 0 ≤ n) : Rn m_M_row [.ref 67, .int (nI k), .int n] σ τ (some (.int n)) (m_row σ k n) τ := by
  intro Q h
  refine ev_go 100 [34] ?_
  refine e_M_isRow σ τ _ _ ?_
  refine br_f (xb1 (in_row hk)) ?_
  refine br_t h1 ?_
  refine br_t h0 ?_
  refine ⟨6, rfl, q_in hk (by decide), ?_⟩
  have := ev_iter (M := m_M_row) (pc := 34) (st := []) (g := x_g) (Q := Q) 40 (fun i => ([.ref 67, .int (nI k), .int n, .int (nI i)], x_row (x_row σ 69 (upd (σ 69) k n)) 70 (blk (σ 70) (40 * k) i 0), τ)) (fun i hi kk => ?_) ?_
  · dsimp only at this
    rw [blk_0, show x_row (x_row σ 69 (upd (σ 69) k n)) 70 (σ 70) = x_row σ 69 (upd (σ 69) k n) from x_row_same (x_row σ 69 (upd (σ 69) k n)) 70] at this
    show Ev m_M_row 34 [.ref 67, .int (nI k), .int n, .int 0] [] x_g (x_row σ 69 (upd (σ 69) (nI k).toNatClampNeg n)) τ Q
    rw [nI_clamp (by omega)]
    exact this
  · dsimp only at kk ⊢
    refine ev_go 100 [34] ?_
    refine br_f (nI_ge (b := 40) hi (by decide)) ?_
    have e : (40 : Int32) * nI k + nI i = nI (40 * k + i) := by rw [show (40 : Int32) = nI 40 from rfl, pk_mul, nI_add]
    refine ⟨240, rfl, by rw [e]; exact q_in (by omega) (by decide), ?_⟩
    show Ev m_M_row 34 [.ref 67, .int (nI k), .int n, .int (nI i + 1)] [] x_g (x_row (x_row (x_row σ 69 (upd (σ 69) k n)) 70 (blk (σ 70) (40 * k) i 0)) 70 (upd (blk (σ 70) (40 * k) i 0) ((40 : Int32) * nI k + nI i).toNatClampNeg 0)) τ Q
    rw [e, nI_clamp (by omega), nI_1, x_row_row, blk_s]
    exact kk
  · dsimp only
    refine ev_go 100 [34] ?_
    refine br_t (nI_le (a := 40) (Nat.le_refl 40) (by decide)) ?_
    exact h
def m_text (σ : xS) (k : Nat) (n : Int32) : xS := x_row (x_row σ 72 (upd (σ 72) k n)) 73 (blk (σ 73) (80 * k) 80 32)
theorem e_M_text_ok (σ : xS) (τ : xL) {k : Nat} (hk : k < 4) {n : Int32} (h1 : n ≤ 80) (h0 : 0 ≤ n) : Rn m_M_text [.ref 67, .int (nI k), .int n] σ τ (some (.int n)) (m_text σ k n) τ := by
  intro Q h
  refine ev_go 100 [34] ?_
  refine e_M_isText σ τ _ _ ?_
  refine br_f (xb1 (in_text hk)) ?_
  refine br_t h1 ?_
  refine br_t h0 ?_
  refine ⟨4, rfl, q_in hk (by decide), ?_⟩
  have := ev_iter (M := m_M_text) (pc := 34) (st := []) (g := x_g) (Q := Q) 80 (fun i => ([.ref 67, .int (nI k), .int n, .int (nI i)], x_row (x_row σ 72 (upd (σ 72) k n)) 73 (blk (σ 73) (80 * k) i 32), τ)) (fun i hi kk => ?_) ?_
  · dsimp only at this
    rw [blk_0, show x_row (x_row σ 72 (upd (σ 72) k n)) 73 (σ 73) = x_row σ 72 (upd (σ 72) k n) from x_row_same (x_row σ 72 (upd (σ 72) k n)) 73] at this
    show Ev m_M_text 34 [.ref 67, .int (nI k), .int n, .int 0] [] x_g (x_row σ 72 (upd (σ 72) (nI k).toNatClampNeg n)) τ Q
    rw [nI_clamp (by omega)]
    exact this
  · dsimp only at kk ⊢
    refine ev_go 100 [34] ?_
    refine br_f (nI_ge (b := 80) hi (by decide)) ?_
    have e : (80 : Int32) * nI k + nI i = nI (80 * k + i) := by rw [show (80 : Int32) = nI 80 from rfl, pk_mul, nI_add]
    refine ⟨320, rfl, by rw [e]; exact q_in (by omega) (by decide), ?_⟩
    show Ev m_M_text 34 [.ref 67, .int (nI k), .int n, .int (nI i + 1)] [] x_g (x_row (x_row (x_row σ 72 (upd (σ 72) k n)) 73 (blk (σ 73) (80 * k) i 32)) 73 (upd (blk (σ 73) (80 * k) i 32) ((80 : Int32) * nI k + nI i).toNatClampNeg 32)) τ Q
    rw [e, nI_clamp (by omega), nI_1, x_row_row, blk_s]
    exact kk
  · dsimp only
    refine ev_go 100 [34] ?_
    refine br_t (nI_le (a := 80) (Nat.le_refl 80) (by decide)) ?_
    exact h
/-- the class's row made -/
def c_row (σ : xS) (k : Nat) (n : Int32) : xS := x_row (x_row σ (3 + k) (fun j => if j < 40 then 0 else σ (3 + k) j)) 9 (upd (σ 9) k n)
theorem e_H_make_row (σ : xS) (τ : xL) {k : Nat} (hk : k < 6) (n : Int32) (hb : σ 1 2 = 0) : Rn m_H_make [.ref 1, .int (nI k), .int n] σ τ none (c_row σ k n) τ := by
  have := e_H_make1 σ τ (nI k) n (q_in hk (by decide)) hb
  rw [nI_clamp (by omega), x_row_ne (show 9 ≠ 3 + k by omega)] at this
  exact this
def c_text (σ : xS) (k : Nat) (n : Int32) : xS := x_row (x_row σ (12 + k) (fun j => if j < 80 then 32 else σ (12 + k) j)) 16 (upd (σ 16) k n)
theorem e_H_make_text (σ : xS) (τ : xL) {k : Nat} (hk : k < 4) (n : Int32) (hb : σ 10 2 = 32) : Rn m_H_make [.ref 10, .int (nI k), .int n] σ τ none (c_text σ k n) τ := by
  have := e_H_make10 σ τ (nI k) n (q_in hk (by decide)) hb
  rw [nI_clamp (by omega), x_row_ne (show 16 ≠ 12 + k by omega)] at this
  exact this
theorem RelR.made {σ : xS} (h : RelR σ) {k n : Nat} (hk : k < 6) (hn : n ≤ 40) : RelR (m_row (c_row σ k (nI n)) k (nI n)) := by
  refine ⟨?_, fun r hr => ⟨?_, fun i hi => ?_⟩⟩
  · simp only [m_row, c_row, x_row_ne (show 1 ≠ 70 by omega), x_row_ne (show 1 ≠ 69 by omega), x_row_ne (show 1 ≠ 9 by omega), x_row_ne (show 1 ≠ 3 + k by omega)]
    exact h.1
  · have e9 : m_row (c_row σ k (nI n)) k (nI n) 9 = upd (σ 9) k (nI n) := by
      simp only [m_row, c_row, x_row_ne (show 9 ≠ 70 by omega), x_row_ne (show 9 ≠ 69 by omega), x_row_eq]
    have e69 : m_row (c_row σ k (nI n)) k (nI n) 69 = upd (σ 69) k (nI n) := by
      simp only [m_row, c_row, x_row_ne (show 69 ≠ 70 by omega), x_row_ne (show 69 ≠ 9 by omega), x_row_ne (show 69 ≠ 3 + k by omega), x_row_eq]
    rw [e9, e69]
    by_cases e : r = k
    · subst e
      exact Or.inr ⟨n, hn, by simp [upd], by simp [upd]⟩
    · simp only [upd, e, if_false]
      exact (h.2 r hr).1
  · have e70 : m_row (c_row σ k (nI n)) k (nI n) 70 = blk (σ 70) (40 * k) 40 0 := by
      simp only [m_row, c_row, x_row_eq, x_row_ne (show 70 ≠ 69 by omega), x_row_ne (show 70 ≠ 9 by omega), x_row_ne (show 70 ≠ 3 + k by omega)]
    rw [e70]
    by_cases e : r = k
    · subst e
      have : m_row (c_row σ r (nI n)) r (nI n) (3 + r) = fun j => if j < 40 then 0 else σ (3 + r) j := by
        simp only [m_row, c_row, x_row_ne (show 3 + r ≠ 70 by omega), x_row_ne (show 3 + r ≠ 69 by omega), x_row_ne (show 3 + r ≠ 9 by omega), x_row_eq]
      rw [this]
      simp [blk, hi]
    · have : m_row (c_row σ k (nI n)) k (nI n) (3 + r) = σ (3 + r) := by
        simp only [m_row, c_row, x_row_ne (show 3 + r ≠ 70 by omega), x_row_ne (show 3 + r ≠ 69 by omega), x_row_ne (show 3 + r ≠ 9 by omega), x_row_ne (show 3 + r ≠ 3 + k by omega)]
      rw [this, (h.2 r hr).2 i hi]
      simp only [blk]
      rw [if_neg (by omega)]
theorem RelT.made {σ : xS} (h : RelT σ) {k n : Nat} (hk : k < 4) (hn : n ≤ 80) : RelT (m_text (c_text σ k (nI n)) k (nI n)) := by
  refine ⟨?_, fun r hr => ⟨?_, fun i hi => ?_⟩⟩
  · simp only [m_text, c_text, x_row_ne (show 10 ≠ 73 by omega), x_row_ne (show 10 ≠ 72 by omega), x_row_ne (show 10 ≠ 16 by omega), x_row_ne (show 10 ≠ 12 + k by omega)]
    exact h.1
  · have e9 : m_text (c_text σ k (nI n)) k (nI n) 16 = upd (σ 16) k (nI n) := by
      simp only [m_text, c_text, x_row_ne (show 16 ≠ 73 by omega), x_row_ne (show 16 ≠ 72 by omega), x_row_eq]
    have e69 : m_text (c_text σ k (nI n)) k (nI n) 72 = upd (σ 72) k (nI n) := by
      simp only [m_text, c_text, x_row_ne (show 72 ≠ 73 by omega), x_row_ne (show 72 ≠ 16 by omega), x_row_ne (show 72 ≠ 12 + k by omega), x_row_eq]
    rw [e9, e69]
    by_cases e : r = k
    · subst e
      exact Or.inr ⟨n, hn, by simp [upd], by simp [upd]⟩
    · simp only [upd, e, if_false]
      exact (h.2 r hr).1
  · have e70 : m_text (c_text σ k (nI n)) k (nI n) 73 = blk (σ 73) (80 * k) 80 32 := by
      simp only [m_text, c_text, x_row_eq, x_row_ne (show 73 ≠ 72 by omega), x_row_ne (show 73 ≠ 16 by omega), x_row_ne (show 73 ≠ 12 + k by omega)]
    rw [e70]
    by_cases e : r = k
    · subst e
      have : m_text (c_text σ r (nI n)) r (nI n) (12 + r) = fun j => if j < 80 then 32 else σ (12 + r) j := by
        simp only [m_text, c_text, x_row_ne (show 12 + r ≠ 73 by omega), x_row_ne (show 12 + r ≠ 72 by omega), x_row_ne (show 12 + r ≠ 16 by omega), x_row_eq]
      rw [this]
      simp [blk, hi]
    · have : m_text (c_text σ k (nI n)) k (nI n) (12 + r) = σ (12 + r) := by
        simp only [m_text, c_text, x_row_ne (show 12 + r ≠ 73 by omega), x_row_ne (show 12 + r ≠ 72 by omega), x_row_ne (show 12 + r ≠ 16 by omega), x_row_ne (show 12 + r ≠ 12 + k by omega)]
      rw [this, (h.2 r hr).2 i hi]
      simp only [blk]
      rw [if_neg (by omega)]
theorem Rel.row {σ : xS} {τ : xL} (h : Rel σ τ) {k n : Nat} (hk : k < 6) (hn : n ≤ 40) : Rel (m_row (c_row σ k (nI n)) k (nI n)) τ := by
  obtain ⟨h1, h2, h3, h4⟩ := h
  have e : ∀ q, q ≠ 70 → q ≠ 69 → q ≠ 9 → q ≠ 3 + k → m_row (c_row σ k (nI n)) k (nI n) q = σ q := fun q q1 q2 q3 q4 => by
    simp only [m_row, c_row, x_row_ne q1, x_row_ne q2, x_row_ne q3, x_row_ne q4]
  refine ⟨h1.made hk hn, h2.congr (by rw [e 10 (by omega) (by omega) (by omega) (by omega)]) (fun q q1 q2 => e q (by omega) (by omega) (by omega) (by omega)) (e 72 (by omega) (by omega) (by omega) (by omega)) (e 73 (by omega) (by omega) (by omega) (by omega)), h3.congr (fun q q1 q2 => e q (by omega) (by omega) (by omega) (by omega)) (fun q q1 q2 => e q (by omega) (by omega) (by omega) (by omega)) (by rw [e 67 (by omega) (by omega) (by omega) (by omega)]) (by rw [e 67 (by omega) (by omega) (by omega) (by omega)]) (by rw [e 67 (by omega) (by omega) (by omega) (by omega)]) (fun q q1 q2 => e q (by omega) (by omega) (by omega) (by omega)) (e 84 (by omega) (by omega) (by omega) (by omega)), ?_⟩
  unfold RelA
  rw [e 0 (by omega) (by omega) (by omega) (by omega), e 67 (by omega) (by omega) (by omega) (by omega), e 48 (by omega) (by omega) (by omega) (by omega), e 68 (by omega) (by omega) (by omega) (by omega)]
  exact h4
theorem Rel.text {σ : xS} {τ : xL} (h : Rel σ τ) {k n : Nat} (hk : k < 4) (hn : n ≤ 80) : Rel (m_text (c_text σ k (nI n)) k (nI n)) τ := by
  obtain ⟨h1, h2, h3, h4⟩ := h
  have e : ∀ q, q ≠ 73 → q ≠ 72 → q ≠ 16 → q ≠ 12 + k → m_text (c_text σ k (nI n)) k (nI n) q = σ q := fun q q1 q2 q3 q4 => by
    simp only [m_text, c_text, x_row_ne q1, x_row_ne q2, x_row_ne q3, x_row_ne q4]
  refine ⟨h1.congr (by rw [e 1 (by omega) (by omega) (by omega) (by omega)]) (fun q q1 q2 => e q (by omega) (by omega) (by omega) (by omega)) (e 69 (by omega) (by omega) (by omega) (by omega)) (e 70 (by omega) (by omega) (by omega) (by omega)), h2.made hk hn, h3.congr (fun q q1 q2 => e q (by omega) (by omega) (by omega) (by omega)) (fun q q1 q2 => e q (by omega) (by omega) (by omega) (by omega)) (by rw [e 67 (by omega) (by omega) (by omega) (by omega)]) (by rw [e 67 (by omega) (by omega) (by omega) (by omega)]) (by rw [e 67 (by omega) (by omega) (by omega) (by omega)]) (fun q q1 q2 => e q (by omega) (by omega) (by omega) (by omega)) (e 84 (by omega) (by omega) (by omega) (by omega)), ?_⟩
  unfold RelA
  rw [e 0 (by omega) (by omega) (by omega) (by omega), e 67 (by omega) (by omega) (by omega) (by omega), e 48 (by omega) (by omega) (by omega) (by omega), e 68 (by omega) (by omega) (by omega) (by omega)]
  exact h4
theorem in1 : vp_in 1 6 := q_in (i := 1) (by decide) (by decide)
theorem in2 : vp_in 2 6 := q_in (i := 2) (by decide) (by decide)
theorem in3 : vp_in 3 6 := q_in (i := 3) (by decide) (by decide)
theorem in4 : vp_in 4 6 := q_in (i := 4) (by decide) (by decide)
theorem in5 : vp_in 5 6 := q_in (i := 5) (by decide) (by decide)
theorem pair_row (r n : Int32) : Pair m_S_row m_M_row [.int r, .int n] := by
  intro σ τ hR
  refine ev_go 100 [] ?_
  refine e_H_isNumber1 σ τ r _ ?_
  rcases q_ix r 6 (by decide) with h0 | ⟨k, hk, rfl⟩
  · refine br_t (xb0 (fun q => h0.elim q.1 q.2)) ?_
    refine ⟨rfl, ?_⟩
    refine ev_go 100 [] ?_
    refine e_M_isRow σ τ r _ ?_
    refine br_t (xb0 (fun q => h0.elim q.1 (fun z => q.2 ((q_5 r).mpr z)))) ?_
    exact ⟨rfl, rfl, ⟨_, rfl⟩, hR⟩
  · refine br_f (xb1 (in_row6 hk)) ?_
    refine And.intro (fun h1 => ?_) (fun h1 => ?_)
    · refine And.intro (fun h2 => ?_) (fun h2 => ?_)
      · obtain ⟨j, hj, rfl⟩ := nI_of2 (M := 40) (n := 40) (by decide) (Int32.not_lt.mpr h2) h1
        refine e_H_make_row σ τ hk _ hR.1.1 _ ?_
        refine ⟨rfl, ?_⟩
        refine e_M_row_ok _ τ hk h1 h2 _ ?_
        exact ⟨rfl, rfl, ⟨_, rfl⟩, hR.row hk hj⟩
      · refine e_S_refuse σ τ 5 in5 _ ?_
        refine ⟨rfl, ?_⟩
        refine ev_go 100 [] ?_
        refine e_M_isRow _ τ _ _ ?_
        refine br_f (xb1 (in_row hk)) ?_
        refine br_t h1 ?_
        refine br_f h2 ?_
        refine e_M_finds _ τ 5 in5 _ ?_
        exact ⟨rfl, rfl, ⟨_, rfl⟩, hR.find (f := 5) (by decide)⟩
    · refine ⟨rfl, ?_⟩
      refine ev_go 100 [] ?_
      refine e_M_isRow _ τ _ _ ?_
      refine br_f (xb1 (in_row hk)) ?_
      refine br_f h1 ?_
      exact ⟨rfl, rfl, ⟨_, rfl⟩, hR⟩
theorem pair_text (r n : Int32) : Pair m_S_text m_M_text [.int r, .int n] := by
  intro σ τ hR
  refine ev_go 100 [] ?_
  refine e_H_isNumber10 σ τ r _ ?_
  rcases q_ix r 4 (by decide) with h0 | ⟨k, hk, rfl⟩
  · refine br_t (xb0 (fun q => h0.elim q.1 q.2)) ?_
    refine ⟨rfl, ?_⟩
    refine ev_go 100 [] ?_
    refine e_M_isText σ τ r _ ?_
    refine br_t (xb0 (fun q => h0.elim q.1 (fun z => q.2 ((q_3 r).mpr z)))) ?_
    exact ⟨rfl, rfl, ⟨_, rfl⟩, hR⟩
  · refine br_f (xb1 (in_text4 hk)) ?_
    refine And.intro (fun h1 => ?_) (fun h1 => ?_)
    · refine And.intro (fun h2 => ?_) (fun h2 => ?_)
      · obtain ⟨j, hj, rfl⟩ := nI_of2 (M := 80) (n := 80) (by decide) (Int32.not_lt.mpr h2) h1
        refine e_H_make_text σ τ hk _ hR.2.1.1 _ ?_
        refine ⟨rfl, ?_⟩
        refine e_M_text_ok _ τ hk h1 h2 _ ?_
        exact ⟨rfl, rfl, ⟨_, rfl⟩, hR.text hk hj⟩
      · refine e_S_refuse σ τ 5 in5 _ ?_
        refine ⟨rfl, ?_⟩
        refine ev_go 100 [] ?_
        refine e_M_isText _ τ _ _ ?_
        refine br_f (xb1 (in_text hk)) ?_
        refine br_t h1 ?_
        refine br_f h2 ?_
        refine e_M_finds _ τ 5 in5 _ ?_
        exact ⟨rfl, rfl, ⟨_, rfl⟩, hR.find (f := 5) (by decide)⟩
    · refine ⟨rfl, ?_⟩
      refine ev_go 100 [] ?_
      refine e_M_isText _ τ _ _ ?_
      refine br_f (xb1 (in_text hk)) ?_
      refine br_f h1 ?_
      exact ⟨rfl, rfl, ⟨_, rfl⟩, hR⟩
end
section
theorem Rel.rows {σ σ' : xS} {τ τ' : xL} (h : Rel σ τ) (hR : RelR σ') (h2 : ∀ q, 10 ≤ q → q ≤ 22 → σ' q = σ q) (h3 : ∀ q, 49 ≤ q → q ≤ 66 → σ' q = σ q) (h4 : ∀ q, 72 ≤ q → q ≤ 78 → σ' q = σ q) (h5 : σ' 84 = σ 84) (h6 : σ' 67 10 = σ 67 10) (h7 : σ' 67 14 = σ 67 14) (h8 : σ' 67 17 = σ 67 17) (hA : RelA σ' τ') : Rel σ' τ' := by
  obtain ⟨-, b, c, -⟩ := h
  exact ⟨hR, b.congr (by rw [h2 10 (by omega) (by omega)]) (fun q q1 q2 => h2 q (by omega) (by omega)) (h4 72 (by omega) (by omega)) (h4 73 (by omega) (by omega)), c.congr (fun q q1 q2 => h2 q (by omega) (by omega)) h3 h6 h7 h8 (fun q q1 q2 => h4 q (by omega) (by omega)) h5, hA⟩
theorem Rel.texts {σ σ' : xS} {τ τ' : xL} (h : Rel σ τ) (hT : RelT σ') (h2 : ∀ q, q ≤ 9 → σ' q = σ q) (h2b : ∀ q, 17 ≤ q → q ≤ 22 → σ' q = σ q) (h3 : ∀ q, 48 ≤ q → q ≤ 70 → σ' q = σ q) (h4 : ∀ q, 74 ≤ q → q ≤ 78 → σ' q = σ q) (h5 : σ' 84 = σ 84) (ht : τ' = τ) : Rel σ' τ' := by
  subst ht
  obtain ⟨a, -, c, d⟩ := h
  refine ⟨a.congr (by rw [h2 1 (by omega)]) (fun q q1 q2 => h2 q (by omega)) (h3 69 (by omega) (by omega)) (h3 70 (by omega) (by omega)), hT, c.congr h2b (fun q q1 q2 => h3 q (by omega) (by omega)) (by rw [h3 67 (by omega) (by omega)]) (by rw [h3 67 (by omega) (by omega)]) (by rw [h3 67 (by omega) (by omega)]) h4 h5, ?_⟩
  unfold RelA
  rw [h2 0 (by omega), h3 67 (by omega) (by omega), h3 48 (by omega) (by omega), h3 68 (by omega) (by omega)]
  exact d
/-- sizes of rows in the two -/
theorem RelR.size {σ : xS} (h : RelR σ) {k : Nat} (hk : k < 6) : (σ 9 k = -1 ∧ σ 69 k = -9) ∨ ∃ n, n ≤ 40 ∧ σ 9 k = nI n ∧ σ 69 k = nI n := (h.2 k hk).1
theorem RelT.size {σ : xS} (h : RelT σ) {k : Nat} (hk : k < 4) : (σ 16 k = -1 ∧ σ 72 k = -9) ∨ ∃ n, n ≤ 80 ∧ σ 16 k = nI n ∧ σ 72 k = nI n := (h.2 k hk).1
theorem nI_ne9 {n : Nat} (h : n < 2 ^ 31) : ¬ nI n = (-9 : Int32) := fun e => by
  have := congrArg Int32.toInt e
  rw [nI_toInt h, show ((-9 : Int32)).toInt = -9 from by decide] at this
  omega
theorem nI_ne1 {n : Nat} (h : n < 2 ^ 31) : ¬ nI n = (-1 : Int32) := fun e => by
  have := congrArg Int32.toInt e
  rw [nI_toInt h, show ((-1 : Int32)).toInt = -1 from by decide] at this
  omega
theorem q_pred {n : Nat} (hn : n < 2 ^ 30) (x : Int32) : nI n - 1 < x ↔ nI n ≤ x := by
  rw [Int32.lt_iff_toInt_lt, Int32.le_iff_toInt_le, show (1 : Int32) = nI 1 from rfl, pk_sub_toInt hn (by decide), nI_toInt (by omega)]
  omega
theorem e_S_tellPlace_bad (σ : xS) (τ : xL) (r i : Int32) (h0 : r < 0 ∨ nI 6 ≤ r) : Rn m_S_tellPlace [.ref 0, .int r, .int i] σ τ (some (.int (-1))) σ τ := by
  intro Q h
  refine ev_go 100 [] ?_
  refine e_H_isNumber1 σ τ r _ ?_
  refine bn_f (xb0 (fun q => h0.elim q.1 q.2)) ?_
  exact h
theorem e_S_tellPlace_no (σ : xS) (τ : xL) {k : Nat} (hk : k < 6) (i : Int32) (h0 : σ 9 k = -1) : Rn m_S_tellPlace [.ref 0, .int (nI k), .int i] σ τ (some (.int (-3))) (c_ref σ 1) τ := by
  intro Q h
  refine ev_go 100 [] ?_
  refine e_H_isNumber1 σ τ _ _ ?_
  refine bn_t (xb1 (in_row6 hk)) ?_
  refine e_H_isThere1 σ τ _ (q_in hk (by decide)) _ ?_
  refine bn_f (xb0 (fun q => q (by rw [nI_clamp (by omega), h0]; decide))) ?_
  refine e_S_refuse σ τ 1 in1 _ ?_
  exact h
theorem e_S_tellPlace_bey (σ : xS) (τ : xL) {k n : Nat} (hk : k < 6) (hn : n ≤ 40) (i : Int32) (h0 : σ 9 k = nI n) (hi : i < 0 ∨ nI n ≤ i) : Rn m_S_tellPlace [.ref 0, .int (nI k), .int i] σ τ (some (.int (-3))) (c_ref σ 2) τ := by
  intro Q h
  refine ev_go 100 [] ?_
  refine e_H_isNumber1 σ τ _ _ ?_
  refine bn_t (xb1 (in_row6 hk)) ?_
  refine e_H_isThere1 σ τ _ (q_in hk (by decide)) _ ?_
  refine bn_t (xb1 (by rw [nI_clamp (by omega), h0]; exact nI_pos (by omega))) ?_
  refine e_H_hasPlace1 σ τ _ i (q_in hk (by decide)) _ ?_
  refine bn_f (xb0 (fun q => by rw [nI_clamp (by omega), h0] at q; exact hi.elim q.1 q.2)) ?_
  refine e_S_refuse σ τ 2 in2 _ ?_
  exact h
theorem e_S_tellPlace_ok (σ : xS) (τ : xL) {k n j : Nat} (hk : k < 6) (hn : n ≤ 40) (h0 : σ 9 k = nI n) (hj : j < n) : Rn m_S_tellPlace [.ref 0, .int (nI k), .int (nI j)] σ τ (some (.int 1)) (c_told σ (σ (3 + k) j)) τ := by
  intro Q h
  refine ev_go 100 [] ?_
  refine e_H_isNumber1 σ τ _ _ ?_
  refine bn_t (xb1 (in_row6 hk)) ?_
  refine e_H_isThere1 σ τ _ (q_in hk (by decide)) _ ?_
  refine bn_t (xb1 (by rw [nI_clamp (by omega), h0]; exact nI_pos (by omega))) ?_
  refine e_H_hasPlace1 σ τ _ _ (q_in hk (by decide)) _ ?_
  refine bn_t (xb1 (by rw [nI_clamp (by omega), h0]; exact ⟨nI_pos (by omega), nI_ge hj (by omega)⟩)) ?_
  refine ⟨18, 6, 3 + k, rfl, Or.inl rfl, q_in hk (by decide), by rw [nI_clamp (by omega)]; exact rf_rows k hk, ?_⟩
  refine ⟨40, sh_rows k hk, q_in (by omega) (by decide), ?_⟩
  have e : (nI j).toNatClampNeg = j := nI_clamp (by omega)
  show Q (some (.int 1)) x_g (x_row σ 0 (upd (σ 0) 8 (σ (3 + k) (nI j).toNatClampNeg))) τ
  rw [e]
  exact h
theorem pair_at (r i : Int32) : Pair m_S_at m_M_at [.int r, .int i] := by
  intro σ τ hR
  refine ev_go 100 [] ?_
  rcases q_ix r 6 (by decide) with h0 | ⟨k, hk, rfl⟩
  · refine e_S_tellPlace_bad σ τ r i h0 _ ?_
    refine ⟨rfl, ?_⟩
    refine ev_go 100 [] ?_
    refine e_M_rowBar_bad σ τ r h0 _ ?_
    refine br_f (by decide) ?_
    exact ⟨rfl, rfl, ⟨_, rfl⟩, hR⟩
  · rcases hR.1.size hk with ⟨h1, h2⟩ | ⟨n, hn, h1, h2⟩
    · refine e_S_tellPlace_no σ τ hk i h1 _ ?_
      refine ⟨rfl, ?_⟩
      refine ev_go 100 [] ?_
      refine e_M_rowBar_no (c_ref σ 1) τ hk h2 _ ?_
      refine br_f (by decide) ?_
      exact ⟨rfl, rfl, ⟨_, rfl⟩, hR.find (f := 1) (by decide)⟩
    · rcases q_ix i n (by omega) with hi | ⟨j, hj, rfl⟩
      · refine e_S_tellPlace_bey σ τ hk hn i h1 hi _ ?_
        refine ⟨rfl, ?_⟩
        refine ev_go 100 [] ?_
        refine e_M_rowBar_ok (c_ref σ 2) τ hk (by show ¬ σ 69 k = -9; rw [h2]; exact nI_ne9 (by omega)) _ ?_
        refine br_t rfl ?_
        refine ⟨6, rfl, q_in hk (by decide), ?_⟩
        refine e_M_in _ τ i 0 _ _ ?_
        refine br_t (xb0 (fun q => ?_)) ?_
        · have q2 : ¬ (σ 69 (nI k).toNatClampNeg - 1) < i := q.2
          rw [nI_clamp (by omega), h2, q_pred (by omega)] at q2
          exact hi.elim q.1 q2
        refine e_M_finds _ τ 2 in2 _ ?_
        exact ⟨rfl, rfl, ⟨_, rfl⟩, hR.find (f := 2) (by decide)⟩
      · refine e_S_tellPlace_ok σ τ hk hn h1 hj _ ?_
        refine ⟨rfl, ?_⟩
        refine ev_go 100 [] ?_
        refine e_M_rowBar_ok (c_told σ (σ (3 + k) j)) τ hk (by show ¬ σ 69 k = -9; rw [h2]; exact nI_ne9 (by omega)) _ ?_
        refine br_t rfl ?_
        refine ⟨6, rfl, q_in hk (by decide), ?_⟩
        refine e_M_in _ τ _ 0 _ _ ?_
        refine br_f (xb1 ⟨nI_pos (by omega), ?_⟩) ?_
        · show ¬ (σ 69 (nI k).toNatClampNeg - 1) < nI j
          rw [nI_clamp (by omega), h2, q_pred (by omega)]
          exact nI_ge hj (by omega)
        have e : (40 : Int32) * nI k + nI j = nI (40 * k + j) := by rw [show (40 : Int32) = nI 40 from rfl, pk_mul, nI_add]
        refine ⟨240, rfl, by rw [e]; exact q_in (by omega) (by decide), ?_⟩
        refine e_M_tells _ τ _ _ _ ?_
        refine ⟨rfl, rfl, ⟨_, rfl⟩, ?_⟩
        show Rel (m_told (c_told σ (σ (3 + k) j)) (σ 70 ((40 : Int32) * nI k + nI j).toNatClampNeg)) τ
        rw [e, nI_clamp (by omega), ← (hR.1.2 k hk).2 j (by omega)]
        exact hR.told _
theorem RelR.set {σ σ' : xS} (h : RelR σ) {k j : Nat} (hk : k < 6) (hj : j < 40) {v : Int32} (h1 : σ' 1 2 = σ 1 2) (h2 : σ' 9 = σ 9) (h3 : σ' 69 = σ 69) (h4 : ∀ r, r < 6 → σ' (3 + r) = if r = k then upd (σ (3 + k)) j v else σ (3 + r)) (h5 : σ' 70 = upd (σ 70) (40 * k + j) v) : RelR σ' := by
  refine ⟨by rw [h1]; exact h.1, fun r hr => ⟨by rw [h2, h3]; exact (h.2 r hr).1, fun i hi => ?_⟩⟩
  rw [h4 r hr, h5]
  by_cases e : r = k
  · subst e
    rw [if_pos rfl]
    by_cases e2 : i = j
    · subst e2
      simp [upd]
    · simp only [upd, e2, if_false, show ¬ 40 * r + i = 40 * r + j by omega]
      exact (h.2 r hr).2 i hi
  · rw [if_neg e]
    simp only [upd, show ¬ 40 * r + i = 40 * k + j by omega, if_false]
    exact (h.2 r hr).2 i hi
theorem pair_lay (r i v : Int32) : Pair m_S_lay m_M_lay [.int r, .int i, .int v] := by
  intro σ τ hR
  refine ev_go 100 [] ?_
  rcases q_ix r 6 (by decide) with h0 | ⟨k, hk, rfl⟩
  · refine e_S_tellPlace_bad σ τ r i h0 _ ?_
    refine bn_t (by decide) ?_
    refine ⟨rfl, ?_⟩
    refine ev_go 100 [] ?_
    refine e_M_rowBar_bad σ τ r h0 _ ?_
    refine br_f (by decide) ?_
    exact ⟨rfl, rfl, ⟨_, rfl⟩, hR⟩
  · rcases hR.1.size hk with ⟨h1, h2⟩ | ⟨n, hn, h1, h2⟩
    · refine e_S_tellPlace_no σ τ hk i h1 _ ?_
      refine bn_t (by decide) ?_
      refine ⟨rfl, ?_⟩
      refine ev_go 100 [] ?_
      refine e_M_rowBar_no (c_ref σ 1) τ hk h2 _ ?_
      refine br_f (by decide) ?_
      exact ⟨rfl, rfl, ⟨_, rfl⟩, hR.find (f := 1) (by decide)⟩
    · rcases q_ix i n (by omega) with hi | ⟨j, hj, rfl⟩
      · refine e_S_tellPlace_bey σ τ hk hn i h1 hi _ ?_
        refine bn_t (by decide) ?_
        refine ⟨rfl, ?_⟩
        refine ev_go 100 [] ?_
        refine e_M_rowBar_ok (c_ref σ 2) τ hk (by show ¬ σ 69 k = -9; rw [h2]; exact nI_ne9 (by omega)) _ ?_
        refine br_t rfl ?_
        refine ⟨6, rfl, q_in hk (by decide), ?_⟩
        refine e_M_in _ τ i 0 _ _ ?_
        refine bn_f (xb0 (fun q => ?_)) ?_
        · have q2 : ¬ (σ 69 (nI k).toNatClampNeg - 1) < i := q.2
          rw [nI_clamp (by omega), h2, q_pred (by omega)] at q2
          exact hi.elim q.1 q2
        refine e_M_finds _ τ 2 in2 _ ?_
        exact ⟨rfl, rfl, ⟨_, rfl⟩, hR.find (f := 2) (by decide)⟩
      · refine e_S_tellPlace_ok σ τ hk hn h1 hj _ ?_
        refine bn_f rfl ?_
        refine ⟨18, 6, 3 + k, rfl, Or.inl rfl, q_in hk (by decide), by rw [nI_clamp (by omega)]; exact rf_rows k hk, ?_⟩
        refine ⟨40, sh_rows k hk, q_in (by omega) (by decide), ?_⟩
        refine ⟨rfl, ?_⟩
        refine ev_go 100 [] ?_
        have hx : ∀ q, q ≠ 0 → q ≠ 3 + k → x_row (c_told σ (σ (3 + k) j)) (3 + k) (upd (c_told σ (σ (3 + k) j) (3 + k)) (nI j).toNatClampNeg v) q = σ q := fun q q1 q2 => by
          rw [x_row_ne q2, c_told, x_row_ne q1]
        refine e_M_rowBar_ok _ τ hk (by rw [hx 69 (by omega) (by omega), h2]; exact nI_ne9 (by omega)) _ ?_
        refine br_t rfl ?_
        refine ⟨6, rfl, q_in hk (by decide), ?_⟩
        refine e_M_in _ τ _ 0 _ _ ?_
        refine bn_t (xb1 ⟨nI_pos (by omega), ?_⟩) ?_
        · rw [hx 69 (by omega) (by omega), nI_clamp (by omega), h2, q_pred (by omega)]
          exact nI_ge hj (by omega)
        have e : (40 : Int32) * nI k + nI j = nI (40 * k + j) := by rw [show (40 : Int32) = nI 40 from rfl, pk_mul, nI_add]
        refine ⟨240, rfl, by rw [e]; exact q_in (by omega) (by decide), ?_⟩
        refine ⟨240, rfl, by rw [e]; exact q_in (by omega) (by decide), ?_⟩
        refine e_M_tells _ τ _ _ _ ?_
        refine ⟨rfl, rfl, ⟨_, rfl⟩, ?_⟩
        rw [hx 70 (by omega) (by omega), e, nI_clamp (n := 40 * k + j) (by omega), ← (hR.1.2 k hk).2 j (by omega)]
        rw [nI_clamp (show j < 2 ^ 31 by omega), show c_told σ (σ (3 + k) j) (3 + k) = σ (3 + k) from x_row_ne (by omega)] at hx ⊢
        generalize hA : σ (3 + k) j = a at hx ⊢
        generalize hS : x_row (c_told σ a) (3 + k) (upd (σ (3 + k)) j v) = σ1 at hx ⊢
        have hz : ∀ q, q ≠ 67 → q ≠ 70 → x_row (x_row σ1 70 (upd (σ 70) (40 * k + j) v)) 67 (upd (x_row σ1 70 (upd (σ 70) (40 * k + j) v) 67) 2 a) q = σ1 q := fun q q1 q2 => by
          rw [x_row_ne q1, x_row_ne q2]
        have h67 : x_row (x_row σ1 70 (upd (σ 70) (40 * k + j) v)) 67 (upd (x_row σ1 70 (upd (σ 70) (40 * k + j) v) 67) 2 a) 67 = upd (σ 67) 2 a := by
          rw [x_row_eq, x_row_ne (by omega), hx 67 (by omega) (by omega)]
        have h0 : σ1 0 = upd (σ 0) 8 a := by
          rw [← hS, x_row_ne (by omega), c_told, x_row_eq]
        refine hR.rows (hR.1.set hk (show j < 40 by omega) (v := v) (by rw [hz 1 (by omega) (by omega), hx 1 (by omega) (by omega)]) (by rw [hz 9 (by omega) (by omega), hx 9 (by omega) (by omega)]) (by rw [hz 69 (by omega) (by omega), hx 69 (by omega) (by omega)]) (fun r hr => ?_) (by rw [x_row_ne (by omega), x_row_eq])) (fun q q1 q2 => by rw [hz q (by omega) (by omega), hx q (by omega) (by omega)]) (fun q q1 q2 => by rw [hz q (by omega) (by omega), hx q (by omega) (by omega)]) (fun q q1 q2 => by rw [hz q (by omega) (by omega), hx q (by omega) (by omega)]) (by rw [hz 84 (by omega) (by omega), hx 84 (by omega) (by omega)]) (by rw [h67]; rfl) (by rw [h67]; rfl) (by rw [h67]; rfl) ?_
        · rw [hz (3 + r) (by omega) (by omega)]
          by_cases e : r = k
          · subst e
            rw [← hS, x_row_eq, if_pos rfl]
          · rw [hx (3 + r) (by omega) (by omega), if_neg e]
        · obtain ⟨a1, a2, a3, a4, a5⟩ := hR.2.2.2
          refine ⟨?_, ?_, fun f hf => ?_, a4, a5⟩
          · rw [h67, hz 0 (by omega) (by omega), h0]
            simp [upd]
          · rw [h67, hz 0 (by omega) (by omega), h0]
            simp [upd, a2]
          · rw [hz 48 (by omega) (by omega), hx 48 (by omega) (by omega), hz 68 (by omega) (by omega), hx 68 (by omega) (by omega)]
            exact a3 f hf
end
section
theorem pair_tear (r : Int32) : Pair m_S_tear m_M_tear [.int r] := by
  intro σ τ hR
  refine ev_go 100 [] ?_
  refine e_H_isNumber1 σ τ r _ ?_
  rcases q_ix r 6 (by decide) with h0 | ⟨k, hk, rfl⟩
  · refine bn_f (xb0 (fun q => h0.elim q.1 q.2)) ?_
    refine ⟨rfl, ?_⟩
    refine ev_go 100 [] ?_
    refine e_M_rowBar_bad σ τ r h0 _ ?_
    refine br_f (by decide) ?_
    exact ⟨rfl, rfl, ⟨_, rfl⟩, hR⟩
  · refine bn_t (xb1 (in_row6 hk)) ?_
    refine e_H_isThere1 σ τ _ (q_in hk (by decide)) _ ?_
    rcases hR.1.size hk with ⟨h1, h2⟩ | ⟨n, hn, h1, h2⟩
    · refine bn_f (xb0 (fun q => q (by rw [nI_clamp (by omega), h1]; decide))) ?_
      refine e_S_refuse σ τ 1 in1 _ ?_
      refine ⟨rfl, ?_⟩
      refine ev_go 100 [] ?_
      refine e_M_rowBar_no (c_ref σ 1) τ hk h2 _ ?_
      refine br_f (by decide) ?_
      exact ⟨rfl, rfl, ⟨_, rfl⟩, hR.find (f := 1) (by decide)⟩
    · refine bn_t (xb1 (by rw [nI_clamp (by omega), h1]; exact nI_pos (by omega))) ?_
      refine ⟨6, rfl, q_in hk (by decide), ?_⟩
      refine ⟨rfl, ?_⟩
      refine ev_go 100 [] ?_
      refine e_M_rowBar_ok _ τ hk (by show ¬ σ 69 k = -9; rw [h2]; exact nI_ne9 (by omega)) _ ?_
      refine br_t rfl ?_
      refine ⟨6, rfl, q_in hk (by decide), ?_⟩
      refine ⟨rfl, rfl, ⟨_, rfl⟩, ?_⟩
      show Rel (x_row (x_row σ 9 (upd (σ 9) (nI k).toNatClampNeg (-1))) 69 (upd (σ 69) (nI k).toNatClampNeg (-9))) τ
      rw [nI_clamp (by omega)]
      have hz : ∀ q, q ≠ 9 → q ≠ 69 → x_row (x_row σ 9 (upd (σ 9) k (-1))) 69 (upd (σ 69) k (-9)) q = σ q := fun q q1 q2 => by
        rw [x_row_ne q2, x_row_ne q1]
      have h9 : x_row (x_row σ 9 (upd (σ 9) k (-1))) 69 (upd (σ 69) k (-9)) 9 = upd (σ 9) k (-1) := by rw [x_row_ne (by omega), x_row_eq]
      have h69 : x_row (x_row σ 9 (upd (σ 9) k (-1))) 69 (upd (σ 69) k (-9)) 69 = upd (σ 69) k (-9) := by rw [x_row_eq]
      refine hR.rows ⟨by rw [hz 1 (by omega) (by omega)]; exact hR.1.1, fun r hr => ⟨?_, fun i hi => ?_⟩⟩ (fun q q1 q2 => hz q (by omega) (by omega)) (fun q q1 q2 => hz q (by omega) (by omega)) (fun q q1 q2 => hz q (by omega) (by omega)) (hz 84 (by omega) (by omega)) (by rw [hz 67 (by omega) (by omega)]) (by rw [hz 67 (by omega) (by omega)]) (by rw [hz 67 (by omega) (by omega)]) ?_
      · rw [h9, h69]
        by_cases e : r = k
        · exact Or.inl ⟨by simp [upd, e], by simp [upd, e]⟩
        · simp only [upd, e, if_false]
          exact (hR.1.2 r hr).1
      · rw [hz (3 + r) (by omega) (by omega), hz 70 (by omega) (by omega)]
        exact (hR.1.2 r hr).2 i hi
      · unfold RelA
        rw [hz 0 (by omega) (by omega), hz 67 (by omega) (by omega), hz 48 (by omega) (by omega), hz 68 (by omega) (by omega)]
        exact hR.2.2.2
theorem RelT.set {σ σ' : xS} (h : RelT σ) {k j : Nat} (hk : k < 4) (hj : j < 80) {v : Int32} (h1 : σ' 10 2 = σ 10 2) (h2 : σ' 16 = σ 16) (h3 : σ' 72 = σ 72) (h4 : ∀ r, r < 4 → σ' (12 + r) = if r = k then upd (σ (12 + k)) j v else σ (12 + r)) (h5 : σ' 73 = upd (σ 73) (80 * k + j) v) : RelT σ' := by
  refine ⟨by rw [h1]; exact h.1, fun r hr => ⟨by rw [h2, h3]; exact (h.2 r hr).1, fun i hi => ?_⟩⟩
  rw [h4 r hr, h5]
  by_cases e : r = k
  · subst e
    rw [if_pos rfl]
    by_cases e2 : i = j
    · subst e2
      simp [upd]
    · simp only [upd, e2, if_false, show ¬ 80 * r + i = 80 * r + j by omega]
      exact (h.2 r hr).2 i hi
  · rw [if_neg e]
    simp only [upd, show ¬ 80 * r + i = 80 * k + j by omega, if_false]
    exact (h.2 r hr).2 i hi
theorem pair_put (r i v : Int32) : Pair m_S_put m_M_put [.int r, .int i, .int v] := by
  intro σ τ hR
  refine ev_go 100 [] ?_
  refine e_H_isNumber10 σ τ r _ ?_
  rcases q_ix r 4 (by decide) with h0 | ⟨k, hk, rfl⟩
  · refine bn_f (xb0 (fun q => h0.elim q.1 q.2)) ?_
    refine ⟨rfl, ?_⟩
    refine ev_go 100 [] ?_
    refine e_M_textBar_bad σ τ r h0 _ ?_
    refine br_f (by decide) ?_
    exact ⟨rfl, rfl, ⟨_, rfl⟩, hR⟩
  · refine bn_t (xb1 (in_text4 hk)) ?_
    refine e_H_isThere10 σ τ _ (q_in hk (by decide)) _ ?_
    rcases hR.2.1.size hk with ⟨h1, h2⟩ | ⟨n, hn, h1, h2⟩
    · refine bn_f (xb0 (fun q => q (by rw [nI_clamp (by omega), h1]; decide))) ?_
      refine e_S_refuse σ τ 1 in1 _ ?_
      refine ⟨rfl, ?_⟩
      refine ev_go 100 [] ?_
      refine e_M_textBar_no (c_ref σ 1) τ hk h2 _ ?_
      refine br_f (by decide) ?_
      exact ⟨rfl, rfl, ⟨_, rfl⟩, hR.find (f := 1) (by decide)⟩
    · refine bn_t (xb1 (by rw [nI_clamp (by omega), h1]; exact nI_pos (by omega))) ?_
      refine e_H_hasPlace10 σ τ _ _ (q_in hk (by decide)) _ ?_
      rcases q_ix i n (by omega) with hi | ⟨j, hj, rfl⟩
      · refine bn_f (xb0 (fun q => by rw [nI_clamp (by omega), h1] at q; exact hi.elim q.1 q.2)) ?_
        refine e_S_refuse σ τ 2 in2 _ ?_
        refine ⟨rfl, ?_⟩
        refine ev_go 100 [] ?_
        refine e_M_textBar_ok (c_ref σ 2) τ hk (by show ¬ σ 72 k = -9; rw [h2]; exact nI_ne9 (by omega)) _ ?_
        refine br_t rfl ?_
        refine ⟨4, rfl, q_in hk (by decide), ?_⟩
        refine e_M_in _ τ i 0 _ _ ?_
        refine bn_f (xb0 (fun q => ?_)) ?_
        · have q2 : ¬ (σ 72 (nI k).toNatClampNeg - 1) < i := q.2
          rw [nI_clamp (by omega), h2, q_pred (by omega)] at q2
          exact hi.elim q.1 q2
        refine e_M_finds _ τ 2 in2 _ ?_
        exact ⟨rfl, rfl, ⟨_, rfl⟩, hR.find (f := 2) (by decide)⟩
      · refine bn_t (xb1 (by rw [nI_clamp (by omega), h1]; exact ⟨nI_pos (by omega), nI_ge hj (by omega)⟩)) ?_
        refine ⟨18, 4, 12 + k, rfl, Or.inl rfl, q_in hk (by decide), by rw [nI_clamp (by omega)]; exact rf_texts k hk, ?_⟩
        refine ⟨80, sh_texts k hk, q_in (by omega) (by decide), ?_⟩
        refine ⟨18, 4, 12 + k, rfl, Or.inl rfl, q_in hk (by decide), by rw [nI_clamp (by omega)]; exact rf_texts k hk, ?_⟩
        refine ⟨80, sh_texts k hk, q_in (by omega) (by decide), ?_⟩
        refine ⟨rfl, ?_⟩
        refine ev_go 100 [] ?_
        have hx : ∀ q, q ≠ 12 + k → x_row σ (12 + k) (upd (σ (12 + k)) (nI j).toNatClampNeg v.toInt8.toInt32) q = σ q := fun q q2 => x_row_ne q2
        refine e_M_textBar_ok _ τ hk (by rw [hx 72 (by omega), h2]; exact nI_ne9 (by omega)) _ ?_
        refine br_t rfl ?_
        refine ⟨4, rfl, q_in hk (by decide), ?_⟩
        refine e_M_in _ τ _ 0 _ _ ?_
        refine bn_t (xb1 ⟨nI_pos (by omega), ?_⟩) ?_
        · rw [hx 72 (by omega), nI_clamp (by omega), h2, q_pred (by omega)]
          exact nI_ge hj (by omega)
        have e : (80 : Int32) * nI k + nI j = nI (80 * k + j) := by rw [show (80 : Int32) = nI 80 from rfl, pk_mul, nI_add]
        refine ⟨320, rfl, by rw [e]; exact q_in (by omega) (by decide), ?_⟩
        refine ⟨320, rfl, by rw [e]; exact q_in (by omega) (by decide), ?_⟩
        refine ⟨rfl, ?_, ⟨_, rfl⟩, ?_⟩
        · show some (Value.int (σ (12 + k) (nI j).toNatClampNeg + 1000)) = some (Value.int (1000 + x_row σ (12 + k) (upd (σ (12 + k)) (nI j).toNatClampNeg v.toInt8.toInt32) 73 ((80 : Int32) * nI k + nI j).toNatClampNeg))
          rw [hx 73 (by omega), e, nI_clamp (n := 80 * k + j) (by omega), nI_clamp (n := j) (by omega), ← (hR.2.1.2 k hk).2 j (by omega), Int32.add_comm]
        · show Rel (x_row (x_row σ (12 + k) (upd (σ (12 + k)) (nI j).toNatClampNeg v.toInt8.toInt32)) 73 (upd (x_row σ (12 + k) (upd (σ (12 + k)) (nI j).toNatClampNeg v.toInt8.toInt32) 73) ((80 : Int32) * nI k + nI j).toNatClampNeg v.toInt8.toInt32)) τ
          rw [hx 73 (by omega), e, nI_clamp (n := 80 * k + j) (by omega)]
          rw [nI_clamp (n := j) (by omega)] at hx ⊢
          generalize v.toInt8.toInt32 = w at hx ⊢
          have hz : ∀ q, q ≠ 12 + k → q ≠ 73 → x_row (x_row σ (12 + k) (upd (σ (12 + k)) j w)) 73 (upd (σ 73) (80 * k + j) w) q = σ q := fun q q1 q2 => by
            rw [x_row_ne q2, x_row_ne q1]
          refine hR.texts (hR.2.1.set hk (show j < 80 by omega) (v := w) (by rw [hz 10 (by omega) (by omega)]) (hz 16 (by omega) (by omega)) (hz 72 (by omega) (by omega)) (fun r hr => ?_) x_row_eq) (fun q q1 => hz q (by omega) (by omega)) (fun q q1 q2 => hz q (by omega) (by omega)) (fun q q1 q2 => hz q (by omega) (by omega)) (fun q q1 q2 => hz q (by omega) (by omega)) (hz 84 (by omega) (by omega)) rfl
          by_cases e : r = k
          · subst e
            rw [x_row_ne (by omega), x_row_eq, if_pos rfl]
          · rw [hz (12 + r) (by omega) (by omega), if_neg e]
theorem cpy_0 {α : Type} (f g : Nat → α) (sp dp : Nat) : va_cpy f g sp dp 0 = g := by
  funext j
  simp only [va_cpy]
  rw [if_neg (by omega)]
theorem cpy_s (f g : Nat → Int32) (sp dp n : Nat) : upd (va_cpy f g sp dp n) (dp + n) (f (sp + n)) = va_cpy f g sp dp (n + 1) := by
  funext j
  by_cases h : j = dp + n
  · subst h
    simp only [upd, va_cpy, if_true]
    rw [if_pos (by omega), show dp + n - dp = n by omega]
  · simp only [upd, va_cpy, h, if_false]
    by_cases h2 : dp ≤ j ∧ j < dp + n
    · rw [if_pos h2, if_pos (by omega)]
    · rw [if_neg h2, if_neg (by omega)]
theorem e_H_hasPlaces (σ : xS) (τ : xL) {k : Nat} (hk : k < 6) (i n : Int32) : Rn m_H_hasPlaces [.ref 1, .int (nI k), .int i, .int n] σ τ (some (.int (x_b (¬ i < 0 ∧ ¬ σ 9 k < n ∧ ¬ (σ 9 k - n) < i)))) σ τ := by
  intro Q h
  refine ev_go 100 [] ?_
  have e : (nI k).toNatClampNeg = k := nI_clamp (by omega)
  refine And.intro (fun h1 => ?_) (fun h1 => ?_)
  · rw [x_b_f (fun q => q.1 h1)] at h
    exact ⟨Or.inl rfl, h⟩
  · refine ⟨6, rfl, q_in hk (by decide), ?_⟩
    refine And.intro (fun h2 => ?_) (fun h2 => ?_)
    · rw [e] at h2
      rw [x_b_f (fun q => q.2.1 h2)] at h
      exact ⟨Or.inl rfl, h⟩
    · rw [e] at h2
      refine ⟨6, rfl, q_in hk (by decide), ?_⟩
      refine And.intro (fun h3 => ?_) (fun h3 => ?_)
      · rw [e] at h3
        rw [x_b_f (fun q => q.2.2 h3)] at h
        exact ⟨Or.inl rfl, h⟩
      · rw [e] at h3
        rw [x_b_t ⟨h1, h2, h3⟩] at h
        exact ⟨Or.inr rfl, h⟩
/-- places i .. i + n - 1 of a row of size s -/
theorem q_places {s : Nat} (hs : s ≤ 40) (i n : Int32) (hn : ¬ n < 0) : (¬ i < 0 ∧ ¬ nI s < n ∧ ¬ (nI s - n) < i) ↔ ∃ a b : Nat, i = nI a ∧ n = nI b ∧ a + b ≤ s := by
  obtain ⟨b, hb, rfl⟩ := nI_of hn
  constructor
  · rintro ⟨h1, h2, h3⟩
    obtain ⟨a, ha, rfl⟩ := nI_of h1
    have hbs : b ≤ s := by
      rcases Nat.lt_or_ge s b with q | q
      · exact absurd (nI_lt q hb) h2
      · exact q
    rw [pk_sub hbs] at h3
    refine ⟨a, b, rfl, rfl, ?_⟩
    rcases Nat.lt_or_ge (s - b) a with q | q
    · exact absurd (nI_lt q ha) h3
    · omega
  · rintro ⟨a, b', rfl, hb', h⟩
    have hbb : b = b' ∨ 2 ^ 31 ≤ b' := by
      rcases Nat.lt_or_ge b' (2 ^ 31) with q | q
      · exact Or.inl ((nI_eq hb q).mp hb')
      · exact Or.inr q
    have hbb : b = b' := by omega
    subst hbb
    exact ⟨nI_pos (by omega), nI_nlt (by omega) (by omega), by rw [pk_sub (by omega)]; exact nI_nlt (by omega) (by omega)⟩
end
section
theorem q_sub_toInt {a b : Nat} (ha : a < 2 ^ 31) (hb : b < 2 ^ 31) : (nI a - nI b).toInt = (a : Int) - b := by
  rw [Int32.toInt_sub, nI_toInt ha, nI_toInt hb]
  exact Int.bmod_eq_of_le (by omega) (by omega)
theorem q_fit {s : Nat} (hs : s ≤ 40) {i n : Int32} (hn : ¬ n < 0) (hi : ¬ i < 0) (h : ¬ (nI s - n) < i) : ∃ a b : Nat, i = nI a ∧ n = nI b ∧ a + b ≤ s := by
  obtain ⟨b, hb, rfl⟩ := nI_of hn
  obtain ⟨a, ha, rfl⟩ := nI_of hi
  refine ⟨a, b, rfl, rfl, ?_⟩
  rw [Int32.lt_iff_toInt_lt, q_sub_toInt (by omega) hb, nI_toInt ha] at h
  omega
/-- the model's copying -/
def m_cp (σ : xS) (a i b j n : Nat) : xS := x_row (x_row σ 71 (va_cpy (σ 70) (σ 71) (40 * a + i) 0 n)) 70 (va_cpy (σ 70) (σ 70) (40 * a + i) (40 * b + j) n)
theorem e_M_copy_ok (σ : xS) (τ : xL) {a b i j n s t : Nat} (ha : a < 6) (hb : b < 6) (hs : σ 69 a = nI s) (ht : σ 69 b = nI t) (hs4 : s ≤ 40) (ht4 : t ≤ 40) (hi : i + n ≤ s) (hj : j + n ≤ t) : Rn m_M_copy [.ref 67, .int (nI a), .int (nI i), .int (nI b), .int (nI j), .int (nI n)] σ τ (some (.int 1)) (m_cp σ a i b j n) τ := by
  intro Q h
  refine ev_go 200 [100] ?_
  refine e_M_isRow σ τ _ _ ?_
  refine br_f (xb1 (in_row ha)) ?_
  refine e_M_isRow σ τ _ _ ?_
  refine bn_t (xb1 (in_row hb)) ?_
  refine br_t (nI_pos' (by omega)) ?_
  have ea : (nI a).toNatClampNeg = a := nI_clamp (by omega)
  have eb : (nI b).toNatClampNeg = b := nI_clamp (by omega)
  refine ⟨6, rfl, q_in ha (by decide), ?_⟩
  refine br_f (by rw [ea, hs]; exact nI_ne9 (by omega)) ?_
  refine ⟨6, rfl, q_in hb (by decide), ?_⟩
  refine bn_t (by rw [eb, ht]; exact nI_ne9 (by omega)) ?_
  refine br_f (nI_pos (by omega)) ?_
  refine br_f (nI_pos (by omega)) ?_
  refine ⟨6, rfl, q_in ha (by decide), ?_⟩
  refine br_f (by rw [ea, hs, pk_sub (by omega)]; exact nI_nlt (by omega) (by omega)) ?_
  refine ⟨6, rfl, q_in hb (by decide), ?_⟩
  refine br_t (by rw [eb, ht, pk_sub (by omega)]; exact nI_le (by omega) (by omega)) ?_
  have := ev_iter (M := m_M_copy) (pc := 100) (st := []) (g := x_g) (Q := Q) n (fun k => ([.ref 67, .int (nI a), .int (nI i), .int (nI b), .int (nI j), .int (nI n), .int (nI k)], x_row σ 71 (va_cpy (σ 70) (σ 71) (40 * a + i) 0 k), τ)) (fun k hk kk => ?_) ?_
  · dsimp only at this
    rw [cpy_0, x_row_same] at this
    exact this
  · dsimp only at kk ⊢
    refine ev_go 200 [100] ?_
    refine br_f (nI_ge hk (by omega)) ?_
    have e : (40 : Int32) * nI a + nI i + nI k = nI (40 * a + i + k) := by rw [show (40 : Int32) = nI 40 from rfl, pk_mul, nI_add, nI_add]
    refine ⟨240, rfl, by rw [e]; exact q_in (by omega) (by decide), ?_⟩
    refine ⟨40, rfl, q_in (by omega) (by decide), ?_⟩
    show Ev m_M_copy 100 [.ref 67, .int (nI a), .int (nI i), .int (nI b), .int (nI j), .int (nI n), .int (nI k + 1)] [] x_g (x_row (x_row σ 71 (va_cpy (σ 70) (σ 71) (40 * a + i) 0 k)) 71 (upd (va_cpy (σ 70) (σ 71) (40 * a + i) 0 k) (nI k).toNatClampNeg (σ 70 ((40 : Int32) * nI a + nI i + nI k).toNatClampNeg))) τ Q
    rw [e, nI_clamp (n := 40 * a + i + k) (by omega), nI_clamp (n := k) (by omega), nI_1, x_row_row]
    have := cpy_s (σ 70) (σ 71) (40 * a + i) 0 k
    rw [Nat.zero_add] at this
    rw [this]
    exact kk
  · dsimp only
    refine ev_go 200 [137] ?_
    refine br_t (nI_le (Nat.le_refl n) (by omega)) ?_
    have := ev_iter (M := m_M_copy) (pc := 137) (st := []) (g := x_g) (Q := Q) n (fun k => ([.ref 67, .int (nI a), .int (nI i), .int (nI b), .int (nI j), .int (nI n), .int (nI k)], x_row (x_row σ 71 (va_cpy (σ 70) (σ 71) (40 * a + i) 0 n)) 70 (va_cpy (σ 70) (σ 70) (40 * a + i) (40 * b + j) k), τ)) (fun k hk kk => ?_) ?_
    · dsimp only at this
      rw [cpy_0, show x_row (x_row σ 71 (va_cpy (σ 70) (σ 71) (40 * a + i) 0 n)) 70 (σ 70) = x_row σ 71 (va_cpy (σ 70) (σ 71) (40 * a + i) 0 n) from x_row_same (x_row σ 71 (va_cpy (σ 70) (σ 71) (40 * a + i) 0 n)) 70] at this
      exact this
    · dsimp only at kk ⊢
      refine ev_go 200 [137] ?_
      refine br_f (nI_ge hk (by omega)) ?_
      have e : (40 : Int32) * nI b + nI j + nI k = nI (40 * b + j + k) := by rw [show (40 : Int32) = nI 40 from rfl, pk_mul, nI_add, nI_add]
      refine ⟨40, rfl, q_in (by omega) (by decide), ?_⟩
      refine ⟨240, rfl, by rw [e]; exact q_in (by omega) (by decide), ?_⟩
      show Ev m_M_copy 137 [.ref 67, .int (nI a), .int (nI i), .int (nI b), .int (nI j), .int (nI n), .int (nI k + 1)] [] x_g (x_row (x_row (x_row σ 71 (va_cpy (σ 70) (σ 71) (40 * a + i) 0 n)) 70 (va_cpy (σ 70) (σ 70) (40 * a + i) (40 * b + j) k)) 70 (upd (va_cpy (σ 70) (σ 70) (40 * a + i) (40 * b + j) k) ((40 : Int32) * nI b + nI j + nI k).toNatClampNeg (va_cpy (σ 70) (σ 71) (40 * a + i) 0 n (nI k).toNatClampNeg))) τ Q
      rw [e, nI_clamp (n := 40 * b + j + k) (by omega), nI_clamp (n := k) (by omega), nI_1, x_row_row, show va_cpy (σ 70) (σ 71) (40 * a + i) 0 n k = σ 70 (40 * a + i + k) from pk_cpy_in (Nat.zero_le k) (by omega), cpy_s]
      exact kk
    · dsimp only
      refine ev_go 200 [137] ?_
      refine br_t (nI_le (Nat.le_refl n) (by omega)) ?_
      exact h
theorem e_M_copy_bey (σ : xS) (τ : xL) {a b s t : Nat} (ha : a < 6) (hb : b < 6) (hs : σ 69 a = nI s) (ht : σ 69 b = nI t) (hs4 : s ≤ 40) (ht4 : t ≤ 40) (i j n : Int32) (hn : ¬ n < 0) (h0 : ¬ ((∃ x y : Nat, i = nI x ∧ n = nI y ∧ x + y ≤ s) ∧ ∃ x y : Nat, j = nI x ∧ n = nI y ∧ x + y ≤ t)) : Rn m_M_copy [.ref 67, .int (nI a), .int i, .int (nI b), .int j, .int n] σ τ (some (.int (-3))) (m_fnd σ 2) τ := by
  intro Q h
  refine ev_go 200 [] ?_
  refine e_M_isRow σ τ _ _ ?_
  refine br_f (xb1 (in_row ha)) ?_
  refine e_M_isRow σ τ _ _ ?_
  refine bn_t (xb1 (in_row hb)) ?_
  refine br_t (Int32.not_lt.mp hn) ?_
  have ea : (nI a).toNatClampNeg = a := nI_clamp (by omega)
  have eb : (nI b).toNatClampNeg = b := nI_clamp (by omega)
  refine ⟨6, rfl, q_in ha (by decide), ?_⟩
  refine br_f (by rw [ea, hs]; exact nI_ne9 (by omega)) ?_
  refine ⟨6, rfl, q_in hb (by decide), ?_⟩
  refine bn_t (by rw [eb, ht]; exact nI_ne9 (by omega)) ?_
  refine And.intro (fun h1 => ?_) (fun h1 => And.intro (fun h2 => ?_) (fun h2 => ?_))
  · refine e_M_finds σ τ 2 in2 _ ?_
    exact h
  · refine e_M_finds σ τ 2 in2 _ ?_
    exact h
  · refine ⟨6, rfl, q_in ha (by decide), ?_⟩
    refine And.intro (fun h3 => ?_) (fun h3 => ?_)
    · refine e_M_finds σ τ 2 in2 _ ?_
      exact h
    · rw [ea, hs] at h3
      refine ⟨6, rfl, q_in hb (by decide), ?_⟩
      refine And.intro (fun h4 => ?_) (fun h4 => ?_)
      · rw [eb, ht] at h4
        exact absurd ⟨q_fit hs4 hn h1 h3, q_fit ht4 hn h2 (Int32.not_lt.mpr h4)⟩ h0
      · refine e_M_finds σ τ 2 in2 _ ?_
        exact h
theorem RelR.cp {σ σ' : xS} (h : RelR σ) {a b i j n : Nat} (ha : a < 6) (hb : b < 6) (hi : i + n ≤ 40) (hj : j + n ≤ 40) (h1 : σ' 1 2 = σ 1 2) (h2 : σ' 9 = σ 9) (h3 : σ' 69 = σ 69) (h4 : ∀ r, r < 6 → σ' (3 + r) = if r = b then va_cpy (σ (3 + a)) (σ (3 + b)) i j n else σ (3 + r)) (h5 : σ' 70 = va_cpy (σ 70) (σ 70) (40 * a + i) (40 * b + j) n) : RelR σ' := by
  refine ⟨by rw [h1]; exact h.1, fun r hr => ⟨by rw [h2, h3]; exact (h.2 r hr).1, fun x hx => ?_⟩⟩
  rw [h4 r hr, h5]
  by_cases e : r = b
  · subst e
    rw [if_pos rfl]
    by_cases e2 : j ≤ x ∧ x < j + n
    · rw [pk_cpy_in e2.1 e2.2, pk_cpy_in (by omega) (by omega), (h.2 a ha).2 (i + (x - j)) (by omega)]
      congr 1
      omega
    · rw [pk_cpy_out (by omega), pk_cpy_out (by omega)]
      exact (h.2 r hr).2 x hx
  · rw [if_neg e, pk_cpy_out (by omega)]
    exact (h.2 r hr).2 x hx
theorem pair_copy (r i t j n : Int32) : Pair m_S_copy m_M_copy [.int r, .int i, .int t, .int j, .int n] := by
  intro σ τ hR
  refine ev_go 200 [] ?_
  refine e_H_isNumber1 σ τ r _ ?_
  have bad : ∀ (h0 : (r < 0 ∨ nI 6 ≤ r) ∨ (t < 0 ∨ nI 6 ≤ t)), Ev m_M_copy 0 (x_loc [.ref 67, .int r, .int i, .int t, .int j, .int n] m_M_copy.2.2.1) [] x_g σ τ (fun r2 g2 σ2 τ2 => g2 = x_g ∧ some (Value.int (-1)) = r2 ∧ (∃ v, some (Value.int (-1)) = some v) ∧ Rel σ2 τ2) := by
    intro h0
    refine ev_go 200 [] ?_
    refine e_M_isRow σ τ _ _ ?_
    refine And.intro (fun h1 => ?_) (fun h1 => ?_)
    · exact ⟨rfl, rfl, ⟨_, rfl⟩, hR⟩
    · refine e_M_isRow σ τ _ _ ?_
      refine bn_f (xb0 (fun q => ?_)) ?_
      · have h2 := Classical.not_not.mp (fun z => h1 (xb0 z))
        rcases h0 with h0 | h0
        · exact h0.elim h2.1 (fun z => h2.2 ((q_5 r).mpr z))
        · exact h0.elim q.1 (fun z => q.2 ((q_5 t).mpr z))
      · exact ⟨rfl, rfl, ⟨_, rfl⟩, hR⟩
  rcases q_ix r 6 (by decide) with h0 | ⟨a, ha, rfl⟩
  · refine br_t (xb0 (fun q => h0.elim q.1 q.2)) ?_
    exact ⟨rfl, bad (Or.inl h0)⟩
  refine br_f (xb1 (in_row6 ha)) ?_
  refine e_H_isNumber1 σ τ t _ ?_
  rcases q_ix t 6 (by decide) with h0 | ⟨b, hb, rfl⟩
  · refine bn_f (xb0 (fun q => h0.elim q.1 q.2)) ?_
    exact ⟨rfl, bad (Or.inr h0)⟩
  refine bn_t (xb1 (in_row6 hb)) ?_
  refine And.intro (fun hn => ?_) (fun hn => ?_)
  · have ea : (nI a).toNatClampNeg = a := nI_clamp (by omega)
    have eb : (nI b).toNatClampNeg = b := nI_clamp (by omega)
    have none : (σ 9 a = -1 ∧ σ 69 a = -9) ∨ (σ 9 b = -1 ∧ σ 69 b = -9) → Ev m_M_copy 0 (x_loc [.ref 67, .int (nI a), .int i, .int (nI b), .int j, .int n] m_M_copy.2.2.1) [] x_g (c_ref σ 1) τ (fun r2 g2 σ2 τ2 => g2 = x_g ∧ some (Value.int (-3)) = r2 ∧ (∃ v, some (Value.int (-3)) = some v) ∧ Rel σ2 τ2) := by
      intro h0
      refine ev_go 200 [] ?_
      refine e_M_isRow _ τ _ _ ?_
      refine br_f (xb1 (in_row ha)) ?_
      refine e_M_isRow _ τ _ _ ?_
      refine bn_t (xb1 (in_row hb)) ?_
      refine br_t hn ?_
      refine ⟨6, rfl, q_in ha (by decide), ?_⟩
      refine And.intro (fun h1 => ?_) (fun h1 => ?_)
      · refine e_M_finds _ τ 1 in1 _ ?_
        exact ⟨rfl, rfl, ⟨_, rfl⟩, hR.find (f := 1) (by decide)⟩
      · refine ⟨6, rfl, q_in hb (by decide), ?_⟩
        refine bn_f ?_ ?_
        · rcases h0 with h0 | h0
          · exact absurd (show σ 69 (nI a).toNatClampNeg = -9 by rw [ea]; exact h0.2) h1
          · show σ 69 (nI b).toNatClampNeg = -9
            rw [eb]
            exact h0.2
        · refine e_M_finds _ τ 1 in1 _ ?_
          exact ⟨rfl, rfl, ⟨_, rfl⟩, hR.find (f := 1) (by decide)⟩
    refine e_H_isThere1 σ τ _ (q_in ha (by decide)) _ ?_
    rcases hR.1.size ha with h1 | ⟨s, hs, h1, h2⟩
    · refine br_t (xb0 (fun q => q (by rw [ea, h1.1]; decide))) ?_
      refine e_S_refuse σ τ 1 in1 _ ?_
      exact ⟨rfl, none (Or.inl h1)⟩
    refine br_f (xb1 (by rw [ea, h1]; exact nI_pos (by omega))) ?_
    refine e_H_isThere1 σ τ _ (q_in hb (by decide)) _ ?_
    rcases hR.1.size hb with h3 | ⟨u, hu, h3, h4⟩
    · refine bn_f (xb0 (fun q => q (by rw [eb, h3.1]; decide))) ?_
      refine e_S_refuse σ τ 1 in1 _ ?_
      exact ⟨rfl, none (Or.inr h3)⟩
    refine bn_t (xb1 (by rw [eb, h3]; exact nI_pos (by omega))) ?_
    have hn' := Int32.not_lt.mpr hn
    have bey : ¬ ((∃ x y : Nat, i = nI x ∧ n = nI y ∧ x + y ≤ s) ∧ ∃ x y : Nat, j = nI x ∧ n = nI y ∧ x + y ≤ u) → Ev m_M_copy 0 (x_loc [.ref 67, .int (nI a), .int i, .int (nI b), .int j, .int n] m_M_copy.2.2.1) [] x_g (c_ref σ 2) τ (fun r2 g2 σ2 τ2 => g2 = x_g ∧ some (Value.int (-3)) = r2 ∧ (∃ v, some (Value.int (-3)) = some v) ∧ Rel σ2 τ2) := fun h0 => e_M_copy_bey (c_ref σ 2) τ ha hb h2 h4 hs hu i j n hn' h0 _ ⟨rfl, rfl, ⟨_, rfl⟩, hR.find (f := 2) (by decide)⟩
    refine e_H_hasPlaces σ τ ha i n _ ?_
    rw [h1]
    by_cases hA : ∃ x y : Nat, i = nI x ∧ n = nI y ∧ x + y ≤ s
    · refine br_f (xb1 ((q_places hs i n hn').mpr hA)) ?_
      refine e_H_hasPlaces σ τ hb j n _ ?_
      rw [h3]
      by_cases hB : ∃ x y : Nat, j = nI x ∧ n = nI y ∧ x + y ≤ u
      · refine bn_t (xb1 ((q_places hu j n hn').mpr hB)) ?_
        obtain ⟨x, y, rfl, rfl, hxy⟩ := hA
        obtain ⟨z, y', rfl, hy, hzy⟩ := hB
        have : y = y' := (nI_eq (by omega) (by omega)).mp hy
        subst this
        refine ⟨18, 6, 3 + a, rfl, Or.inl rfl, q_in ha (by decide), by rw [ea]; exact rf_rows a ha, ?_⟩
        refine ⟨18, 6, 3 + b, rfl, Or.inl rfl, q_in hb (by decide), by rw [eb]; exact rf_rows b hb, ?_⟩
        refine ⟨40, 40, sh_rows a ha, sh_rows b hb, ⟨nI_pos (by omega), nI_pos (by omega), nI_pos (by omega), by rw [nI_clamp (by omega), nI_clamp (by omega)]; omega, by rw [nI_clamp (by omega), nI_clamp (by omega)]; omega⟩, ?_⟩
        refine ⟨rfl, ?_⟩
        have hx : ∀ q, q ≠ 3 + b → x_row σ (3 + b) (va_cpy (σ (3 + a)) (σ (3 + b)) (nI x).toNatClampNeg (nI z).toNatClampNeg (nI y).toNatClampNeg) q = σ q := fun q q2 => x_row_ne q2
        refine e_M_copy_ok _ τ ha hb (by rw [hx 69 (by omega)]; exact h2) (by rw [hx 69 (by omega)]; exact h4) hs hu hxy hzy _ ?_
        refine ⟨rfl, rfl, ⟨_, rfl⟩, ?_⟩
        unfold m_cp
        rw [hx 70 (by omega), hx 71 (by omega)]
        rw [nI_clamp (n := x) (by omega), nI_clamp (n := y) (by omega), nI_clamp (n := z) (by omega)] at hx ⊢
        have hz : ∀ q, q ≠ 70 → q ≠ 71 → x_row (x_row (x_row σ (3 + b) (va_cpy (σ (3 + a)) (σ (3 + b)) x z y)) 71 (va_cpy (σ 70) (σ 71) (40 * a + x) 0 y)) 70 (va_cpy (σ 70) (σ 70) (40 * a + x) (40 * b + z) y) q = x_row σ (3 + b) (va_cpy (σ (3 + a)) (σ (3 + b)) x z y) q := fun q q1 q2 => by
          rw [x_row_ne q1, x_row_ne q2]
        refine hR.rows (hR.1.cp ha hb (show x + y ≤ 40 by omega) (show z + y ≤ 40 by omega) (by rw [hz 1 (by omega) (by omega), hx 1 (by omega)]) (by rw [hz 9 (by omega) (by omega), hx 9 (by omega)]) (by rw [hz 69 (by omega) (by omega), hx 69 (by omega)]) (fun r hr => ?_) x_row_eq) (fun q q1 q2 => by rw [hz q (by omega) (by omega), hx q (by omega)]) (fun q q1 q2 => by rw [hz q (by omega) (by omega), hx q (by omega)]) (fun q q1 q2 => by rw [hz q (by omega) (by omega), hx q (by omega)]) (by rw [hz 84 (by omega) (by omega), hx 84 (by omega)]) (by rw [hz 67 (by omega) (by omega), hx 67 (by omega)]) (by rw [hz 67 (by omega) (by omega), hx 67 (by omega)]) (by rw [hz 67 (by omega) (by omega), hx 67 (by omega)]) ?_
        · rw [hz (3 + r) (by omega) (by omega)]
          by_cases e : r = b
          · subst e
            rw [x_row_eq, if_pos rfl]
          · rw [hx (3 + r) (by omega), if_neg e]
        · unfold RelA
          rw [hz 0 (by omega) (by omega), hz 67 (by omega) (by omega), hz 48 (by omega) (by omega), hz 68 (by omega) (by omega), hx 0 (by omega), hx 67 (by omega), hx 48 (by omega), hx 68 (by omega)]
          exact hR.2.2.2
      · refine bn_f (xb0 (fun q => hB ((q_places hu j n hn').mp q))) ?_
        refine e_S_refuse σ τ 2 in2 _ ?_
        exact ⟨rfl, bey (fun q => hB q.2)⟩
    · refine br_t (xb0 (fun q => hA ((q_places hs i n hn').mp q))) ?_
      refine e_S_refuse σ τ 2 in2 _ ?_
      exact ⟨rfl, bey (fun q => hA q.1)⟩
  · refine e_S_refuse σ τ 5 in5 _ ?_
    refine ⟨rfl, ?_⟩
    refine ev_go 200 [] ?_
    refine e_M_isRow _ τ _ _ ?_
    refine br_f (xb1 (in_row ha)) ?_
    refine e_M_isRow _ τ _ _ ?_
    refine bn_t (xb1 (in_row hb)) ?_
    refine br_f hn ?_
    refine e_M_finds _ τ 5 in5 _ ?_
    exact ⟨rfl, rfl, ⟨_, rfl⟩, hR.find (f := 5) (by decide)⟩
end
section
def sm (f : Nat → Int32) : Nat → Int64
  | 0 => 0
  | i + 1 => sm f i + (f i).toInt64
theorem sm_congr {f g : Nat → Int32} : ∀ n, (∀ i, i < n → f i = g i) → sm f n = sm g n
  | 0, _ => rfl
  | n + 1, h => by
    simp only [sm]
    rw [sm_congr n (fun i hi => h i (by omega)), h n (by omega)]
theorem nI_l0 {n : Nat} (h : n < 2 ^ 31) (h0 : 0 < n) : ¬ (nI n).toInt64 = 0 := by
  rw [nI_l h]
  intro e
  have := congrArg Int64.toInt e
  rw [lN_toInt h, show ((0 : Int64)).toInt = 0 from by decide] at this
  omega
theorem e_H_sum (σ : xS) (τ : xL) {k n : Nat} (hk : k < 6) (hn : n ≤ 40) (h0 : σ 9 k = nI n) : Rn m_H_sum [.ref 1, .int (nI k)] σ τ (some (.long (sm (σ (3 + k)) n))) σ τ := by
  intro Q h
  refine ev_go 100 [5] ?_
  have ek : (nI k).toNatClampNeg = k := nI_clamp (by omega)
  refine ev_iter (M := m_H_sum) (pc := 5) (st := []) (g := x_g) (Q := Q) n (fun i => ([.ref 1, .int (nI k), .long (sm (σ (3 + k)) i), .null, .int (nI i)], σ, τ)) (fun i hi kk => ?_) ?_
  · dsimp only at kk ⊢
    refine ev_go 100 [5] ?_
    refine ⟨6, rfl, q_in hk (by decide), ?_⟩
    refine br_f (by rw [ek, h0]; exact nI_ge hi (by omega)) ?_
    refine ⟨18, 6, 3 + k, rfl, Or.inl rfl, q_in hk (by decide), by rw [ek]; exact rf_rows k hk, ?_⟩
    refine ⟨40, sh_rows k hk, q_in (by omega) (by decide), ?_⟩
    show Ev m_H_sum 5 [.ref 1, .int (nI k), .long (sm (σ (3 + k)) i + (σ (3 + k) (nI i).toNatClampNeg).toInt64), .null, .int (nI i + 1)] [] x_g σ τ Q
    rw [nI_clamp (n := i) (by omega), nI_1]
    exact kk
  · dsimp only
    refine ev_go 100 [5] ?_
    refine ⟨6, rfl, q_in hk (by decide), ?_⟩
    refine br_t (by rw [ek, h0]; exact nI_le (Nat.le_refl n) (by omega)) ?_
    exact h
theorem pair_mean (r : Int32) : Pair m_S_mean m_M_mean [.int r] := by
  intro σ τ hR
  refine ev_go 100 [] ?_
  refine e_H_isNumber1 σ τ r _ ?_
  rcases q_ix r 6 (by decide) with h0 | ⟨k, hk, rfl⟩
  · refine bn_f (xb0 (fun q => h0.elim q.1 q.2)) ?_
    refine ⟨rfl, ?_⟩
    refine ev_go 100 [] ?_
    refine e_M_rowBar_bad σ τ r h0 _ ?_
    refine br_f (by decide) ?_
    exact ⟨rfl, rfl, ⟨_, rfl⟩, hR⟩
  · refine bn_t (xb1 (in_row6 hk)) ?_
    have ek : (nI k).toNatClampNeg = k := nI_clamp (by omega)
    refine e_H_isThere1 σ τ _ (q_in hk (by decide)) _ ?_
    rcases hR.1.size hk with ⟨h1, h2⟩ | ⟨n, hn, h1, h2⟩
    · refine bn_f (xb0 (fun q => q (by rw [ek, h1]; decide))) ?_
      refine e_S_refuse σ τ 1 in1 _ ?_
      refine ⟨rfl, ?_⟩
      refine ev_go 100 [] ?_
      refine e_M_rowBar_no (c_ref σ 1) τ hk h2 _ ?_
      refine br_f (by decide) ?_
      exact ⟨rfl, rfl, ⟨_, rfl⟩, hR.find (f := 1) (by decide)⟩
    · refine bn_t (xb1 (by rw [ek, h1]; exact nI_pos (by omega))) ?_
      refine ⟨6, rfl, q_in hk (by decide), ?_⟩
      rcases Nat.eq_zero_or_pos n with hz | hz
      · subst hz
        refine br_f (by rw [ek, h1]; decide) ?_
        refine e_S_refuse σ τ 4 in4 _ ?_
        refine ⟨rfl, ?_⟩
        refine ev_go 100 [] ?_
        refine e_M_rowBar_ok (c_ref σ 4) τ hk (by show ¬ σ 69 k = -9; rw [h2]; exact nI_ne9 (by omega)) _ ?_
        refine br_t rfl ?_
        refine ⟨6, rfl, q_in hk (by decide), ?_⟩
        refine bn_f (by rw [ek]; exact h2) ?_
        refine e_M_finds _ τ 4 in4 _ ?_
        exact ⟨rfl, rfl, ⟨_, rfl⟩, hR.find (f := 4) (by decide)⟩
      · refine br_t (by rw [ek, h1]; exact nI_lt (a := 0) hz (by omega)) ?_
        refine e_H_sum σ τ hk hn h1 _ ?_
        refine ⟨by rw [ek, h1]; exact nI_l0 (by omega) hz, ?_⟩
        rw [ek, h1]
        refine ⟨rfl, ?_⟩
        generalize hv : (sm (σ (3 + k)) n / (nI n).toInt64).toInt32 = v
        have h2' : c_told σ v 69 k = nI n := h2
        refine ev_go 100 [32] ?_
        refine e_M_rowBar_ok (c_told σ v) τ hk (by rw [h2']; exact nI_ne9 (by omega)) _ ?_
        refine br_t rfl ?_
        refine ⟨6, rfl, q_in hk (by decide), ?_⟩
        refine bn_t (by rw [ek, h2']; exact nI_ne0 hz (by omega)) ?_
        refine ev_iter (M := m_M_mean) (pc := 32) (st := []) (g := x_g) n (fun i => ([.ref 67, .int (nI k), .int 0, .long (sm (fun x => σ 70 (40 * k + x)) i), .null, .int (nI i)], c_told σ v, τ)) (fun i hi kk => ?_) ?_
        · dsimp only at kk ⊢
          refine ev_go 100 [32] ?_
          refine ⟨6, rfl, q_in hk (by decide), ?_⟩
          refine br_f (by rw [ek, h2']; exact nI_ge hi (by omega)) ?_
          have e : (40 : Int32) * nI k + nI i = nI (40 * k + i) := by rw [show (40 : Int32) = nI 40 from rfl, pk_mul, nI_add]
          refine ⟨240, rfl, by rw [e]; exact q_in (by omega) (by decide), ?_⟩
          show Ev m_M_mean 32 [.ref 67, .int (nI k), .int 0, .long (sm (fun x => σ 70 (40 * k + x)) i + (σ 70 ((40 : Int32) * nI k + nI i).toNatClampNeg).toInt64), .null, .int (nI i + 1)] [] x_g (c_told σ v) τ _
          rw [e, nI_clamp (n := 40 * k + i) (by omega), nI_1]
          exact kk
        · dsimp only
          refine ev_go 100 [32] ?_
          refine ⟨6, rfl, q_in hk (by decide), ?_⟩
          refine br_t (by rw [ek, h2']; exact nI_le (Nat.le_refl n) (by omega)) ?_
          refine ⟨6, rfl, q_in hk (by decide), ?_⟩
          refine ⟨by rw [ek, h2']; exact nI_l0 (by omega) hz, ?_⟩
          rw [ek, h2']
          refine e_M_tells (c_told σ v) τ _ _ _ ?_
          refine ⟨rfl, rfl, ⟨_, rfl⟩, ?_⟩
          rw [← sm_congr (f := σ (3 + k)) n (fun i hi => (hR.1.2 k hk).2 i (by omega)), hv]
          exact hR.told v
end
section
/-! KINDS: 0 foot, 1 heavy, 2 hare, 3 twice, 4 cart, 5 leveret -/
def su (k w : Nat) : Bool := match w with
  | 0 => true
  | 1 => k == 1 || k == 4
  | 2 => k == 2 || k == 5
  | _ => k == w
def tO (o b : Nat) : Bool := match o with
  | 1 => false
  | 3 => false
  | 4 => b == 2 || b == 5
  | 5 => b == 0
  | _ => true
def tB (b o : Nat) : Bool := match b with
  | 3 => false
  | 2 => o == 4
  | 5 => o == 4
  | _ => true
/-- a crossing tells -/
def tl (P : xP) (k : Nat) : Bool := tO (pk P (po P k)) (pk P (pu P k)) && tB (pk P (pu P k)) (pk P (po P k))
theorem k6 {o : Nat} (h : o ≤ 5) : o = 0 ∨ o = 1 ∨ o = 2 ∨ o = 3 ∨ o = 4 ∨ o = 5 := by omega
theorem e_P_isSuch (σ : xS) (τ : xL) {k w : Nat} (hk : k ≤ 5) (hw : w ≤ 5) : Rn m_P_isSuch [.int (nI k), .int (nI w)] σ τ (some (.int (x_b (su k w = true)))) σ τ := by
  intro Q h
  rcases k6 hk with rfl | rfl | rfl | rfl | rfl | rfl <;> rcases k6 hw with rfl | rfl | rfl | rfl | rfl | rfl
  all_goals
    refine ev_go 100 [] ?_
    repeat first
      | exact ⟨Or.inl rfl, h⟩
      | exact ⟨Or.inr rfl, h⟩
      | refine br_t (by decide) ?_
      | refine br_f (by decide) ?_
      | refine bn_t (by decide) ?_
      | refine bn_f (by decide) ?_
theorem e_P_tellsAsOver (σ : xS) (τ : xL) {k w : Nat} (hk : k ≤ 5) (hw : w ≤ 5) : Rn m_P_tellsAsOver [.int (nI k), .int (nI w)] σ τ (some (.int (x_b (tO k w = true)))) σ τ := by
  intro Q h
  rcases k6 hk with rfl | rfl | rfl | rfl | rfl | rfl <;> rcases k6 hw with rfl | rfl | rfl | rfl | rfl | rfl
  all_goals
    refine ev_go 100 [] ?_
    repeat first
      | exact ⟨Or.inl rfl, h⟩
      | exact ⟨Or.inr rfl, h⟩
      | refine br_t (by decide) ?_
      | refine br_f (by decide) ?_
      | refine bn_t (by decide) ?_
      | refine bn_f (by decide) ?_
theorem e_P_tellsAsBeneath (σ : xS) (τ : xL) {k w : Nat} (hk : k ≤ 5) (hw : w ≤ 5) : Rn m_P_tellsAsBeneath [.int (nI k), .int (nI w)] σ τ (some (.int (x_b (tB k w = true)))) σ τ := by
  intro Q h
  rcases k6 hk with rfl | rfl | rfl | rfl | rfl | rfl <;> rcases k6 hw with rfl | rfl | rfl | rfl | rfl | rfl
  all_goals
    refine ev_go 100 [] ?_
    repeat first
      | exact ⟨Or.inl rfl, h⟩
      | exact ⟨Or.inr rfl, h⟩
      | refine br_t (by decide) ?_
      | refine br_f (by decide) ?_
      | refine bn_t (by decide) ?_
      | refine bn_f (by decide) ?_
theorem cl7 {n : Nat} (h : n < 2 ^ 31) : (nI n).toNatClampNeg = n := nI_clamp h
theorem e_P_isOfKind (σ : xS) (τ : xL) {P : xP} (hP : PC σ 17 P) (hV : PV P) {i w : Nat} (hi : i < pn P) (hw : w ≤ 5) : Rn m_P_isOfKind [.ref 17, .int (nI i), .int (nI w)] σ τ (some (.int (x_b (su (pk P i) w = true)))) σ τ := by
  intro Q h
  have h7 := hV.1
  refine ev_go 100 [] ?_
  refine ⟨7, rfl, q_in (by omega) (by decide), ?_⟩
  have e : σ 18 (nI i).toNatClampNeg = nI (pk P i) := by rw [cl7 (by omega)]; exact (hP.2.2.2.1 i hi).1
  rw [e]
  refine e_P_isSuch σ τ (hV.2.2.2.1 i hi).1 hw _ ?_
  exact ⟨x_b_01, h⟩
theorem e_P_tells (σ : xS) (τ : xL) {P : xP} (hP : PC σ 17 P) (hV : PV P) {k : Nat} (hk : k < pc P) : Rn m_P_tells [.ref 17, .int (nI k)] σ τ (some (.int (x_b (tl P k = true)))) σ τ := by
  intro Q h
  have h7 := hV.1
  have h16 := hV.2.1
  obtain ⟨v1, v2, v3⟩ := hV.2.2.2.2 k hk
  obtain ⟨w1, -, -⟩ := hV.2.2.2.1 _ v1
  obtain ⟨w2, -, -⟩ := hV.2.2.2.1 _ v2
  have eo : σ 21 (nI k).toNatClampNeg = nI (po P k) := by rw [cl7 (by omega)]; exact (hP.2.2.2.2 k hk).1
  have eu : σ 22 (nI k).toNatClampNeg = nI (pu P k) := by rw [cl7 (by omega)]; exact (hP.2.2.2.2 k hk).2
  have ko : σ 18 (nI (po P k)).toNatClampNeg = nI (pk P (po P k)) := by rw [cl7 (by omega)]; exact (hP.2.2.2.1 _ v1).1
  have ku : σ 18 (nI (pu P k)).toNatClampNeg = nI (pk P (pu P k)) := by rw [cl7 (by omega)]; exact (hP.2.2.2.1 _ v2).1
  refine ev_go 100 [] ?_
  refine ⟨16, rfl, q_in (by omega) (by decide), ?_⟩
  rw [eo]
  refine ⟨7, rfl, q_in (by omega) (by decide), ?_⟩
  rw [ko]
  refine ⟨16, rfl, q_in (by omega) (by decide), ?_⟩
  rw [eu]
  refine ⟨7, rfl, q_in (by omega) (by decide), ?_⟩
  rw [ku]
  refine e_P_tellsAsOver σ τ w1 w2 _ ?_
  by_cases h1 : tO (pk P (po P k)) (pk P (pu P k)) = true
  · refine br_f (xb1 h1) ?_
    refine e_P_tellsAsBeneath σ τ w2 w1 _ ?_
    by_cases h2 : tB (pk P (pu P k)) (pk P (po P k)) = true
    · refine br_f (xb1 h2) ?_
      rw [x_b_t (show tl P k = true by unfold tl; rw [h1, h2]; rfl)] at h
      exact ⟨Or.inr rfl, h⟩
    · refine br_t (xb0 h2) ?_
      rw [x_b_f (show ¬ tl P k = true by unfold tl; rw [h1]; simpa using h2)] at h
      exact ⟨Or.inl rfl, h⟩
  · refine br_t (xb0 h1) ?_
    rw [x_b_f (show ¬ tl P k = true by unfold tl; simp only [Bool.and_eq_true]; exact fun q => h1 q.1)] at h
    exact ⟨Or.inl rfl, h⟩
theorem q_ltI {a b : Nat} (ha : a < 2 ^ 31) (hb : b < 2 ^ 31) : nI a < nI b ↔ a < b := nI_ltI ha hb
/-- a model's kind, asked -/
theorem e_M_isA (σ : xS) (τ : xL) {P : xP} (hP : PM σ P) (hV : PV P) {i w : Nat} (hi : i < pn P) (hw : w ≤ 5) (hw0 : 0 < w) : Rn m_M_isA [.ref 67, .int (nI i), .int (nI w)] σ τ (some (.int (x_b (su (pk P i) w = true)))) σ τ := by
  intro Q h
  have h7 := hV.1
  obtain ⟨hk, -, -⟩ := hV.2.2.2.1 i hi
  have e : σ 74 (nI i).toNatClampNeg = nI (pk P i) := by rw [cl7 (by omega)]; exact (hP.2.2.2.1 i hi).1
  refine ev_go 100 [] ?_
  refine ⟨7, rfl, q_in (by omega) (by decide), ?_⟩
  rw [e]
  generalize pk P i = k at hk e h ⊢
  rcases k6 hk with rfl | rfl | rfl | rfl | rfl | rfl <;> rcases k6 hw with rfl | rfl | rfl | rfl | rfl | rfl
  all_goals first
    | exact absurd hw0 (by decide)
    | skip
  all_goals
    repeat first
      | exact ⟨Or.inl rfl, h⟩
      | exact ⟨Or.inr rfl, h⟩
      | refine br_t (by decide) ?_
      | refine br_f (by decide) ?_
      | refine bn_t (by decide) ?_
      | refine bn_f (by decide) ?_
      | (refine ⟨7, rfl, q_in (by omega) (by decide), ?_⟩; rw [e])
theorem e_M_letsOver (σ : xS) (τ : xL) {P : xP} (hP : PM σ P) (hV : PV P) {i j : Nat} (hi : i < pn P) (hj : j < pn P) : Rn m_M_letsOver [.ref 67, .int (nI i), .int (nI j)] σ τ (some (.int (x_b (tO (pk P i) (pk P j) = true)))) σ τ := by
  intro Q h
  have h7 := hV.1
  obtain ⟨hk, -, -⟩ := hV.2.2.2.1 i hi
  obtain ⟨hk2, -, -⟩ := hV.2.2.2.1 j hj
  have e : σ 74 (nI i).toNatClampNeg = nI (pk P i) := by rw [cl7 (by omega)]; exact (hP.2.2.2.1 i hi).1
  have e2 : σ 74 (nI j).toNatClampNeg = nI (pk P j) := by rw [cl7 (by omega)]; exact (hP.2.2.2.1 j hj).1
  have hA := e_M_isA σ τ hP hV hj (w := 2) (by decide) (by decide)
  refine ev_go 100 [] ?_
  refine ⟨7, rfl, q_in (by omega) (by decide), ?_⟩
  rw [e]
  generalize pk P i = k at hk e h ⊢
  generalize pk P j = k2 at hk2 e2 h hA ⊢
  rcases k6 hk with rfl | rfl | rfl | rfl | rfl | rfl
  · refine br_t (by decide) ?_
    exact ⟨Or.inr rfl, h⟩
  · refine br_f (by decide) (br_t (by decide) ?_)
    exact ⟨Or.inl rfl, h⟩
  · refine br_f (by decide) (br_f (by decide) (br_t (by decide) ?_))
    exact ⟨Or.inr rfl, h⟩
  · refine br_f (by decide) (br_f (by decide) (br_f (by decide) (br_t (by decide) ?_)))
    exact ⟨Or.inl rfl, h⟩
  · refine br_f (by decide) (br_f (by decide) (br_f (by decide) (br_f (by decide) (br_t (by decide) ?_))))
    refine hA _ ?_
    exact ⟨x_b_01, h⟩
  · refine br_f (by decide) (br_f (by decide) (br_f (by decide) (br_f (by decide) (br_f (by decide) (br_t (by decide) ?_)))))
    refine ⟨7, rfl, q_in (by omega) (by decide), ?_⟩
    rw [e2]
    rcases k6 hk2 with rfl | rfl | rfl | rfl | rfl | rfl
    all_goals
      repeat first
        | exact ⟨Or.inl rfl, h⟩
        | exact ⟨Or.inr rfl, h⟩
        | refine bn_t (by decide) ?_
        | refine bn_f (by decide) ?_
theorem e_M_letsUnder (σ : xS) (τ : xL) {P : xP} (hP : PM σ P) (hV : PV P) {i j : Nat} (hi : i < pn P) (hj : j < pn P) : Rn m_M_letsUnder [.ref 67, .int (nI i), .int (nI j)] σ τ (some (.int (x_b (tB (pk P i) (pk P j) = true)))) σ τ := by
  intro Q h
  have h7 := hV.1
  obtain ⟨hk, -, -⟩ := hV.2.2.2.1 i hi
  obtain ⟨hk2, -, -⟩ := hV.2.2.2.1 j hj
  have e : σ 74 (nI i).toNatClampNeg = nI (pk P i) := by rw [cl7 (by omega)]; exact (hP.2.2.2.1 i hi).1
  have e2 : σ 74 (nI j).toNatClampNeg = nI (pk P j) := by rw [cl7 (by omega)]; exact (hP.2.2.2.1 j hj).1
  have hA := e_M_isA σ τ hP hV hi (w := 2) (by decide) (by decide)
  refine ev_go 100 [] ?_
  refine hA _ ?_
  generalize pk P i = k at hk e h ⊢
  generalize pk P j = k2 at hk2 e2 h ⊢
  rcases k6 hk with rfl | rfl | rfl | rfl | rfl | rfl <;> rcases k6 hk2 with rfl | rfl | rfl | rfl | rfl | rfl
  all_goals
    repeat first
      | exact ⟨Or.inl rfl, h⟩
      | exact ⟨Or.inr rfl, h⟩
      | refine br_t (by decide) ?_
      | refine br_f (by decide) ?_
      | refine bn_t (by decide) ?_
      | refine bn_f (by decide) ?_
      | (refine ⟨7, rfl, q_in (by omega) (by decide), ?_⟩; first | rw [e] | rw [e2])
theorem e_M_isTelling (σ : xS) (τ : xL) {P : xP} (hP : PM σ P) (hV : PV P) {k : Nat} (hk : k < pc P) : Rn m_M_isTelling [.ref 67, .int (nI k)] σ τ (some (.int (x_b (tl P k = true)))) σ τ := by
  intro Q h
  have h7 := hV.1
  have h16 := hV.2.1
  obtain ⟨v1, v2, v3⟩ := hV.2.2.2.2 k hk
  have eo : σ 77 (nI k).toNatClampNeg = nI (po P k) := by rw [cl7 (by omega)]; exact (hP.2.2.2.2 k hk).1
  have eu : σ 78 (nI k).toNatClampNeg = nI (pu P k) := by rw [cl7 (by omega)]; exact (hP.2.2.2.2 k hk).2
  refine ev_go 100 [] ?_
  refine ⟨16, rfl, q_in (by omega) (by decide), ?_⟩
  rw [eo]
  refine ⟨16, rfl, q_in (by omega) (by decide), ?_⟩
  rw [eu]
  refine e_M_letsOver σ τ hP hV v1 v2 _ ?_
  by_cases h1 : tO (pk P (po P k)) (pk P (pu P k)) = true
  · refine br_f (xb1 h1) ?_
    refine ⟨16, rfl, q_in (by omega) (by decide), ?_⟩
    rw [eu]
    refine ⟨16, rfl, q_in (by omega) (by decide), ?_⟩
    rw [eo]
    refine e_M_letsUnder σ τ hP hV v2 v1 _ ?_
    by_cases h2 : tB (pk P (pu P k)) (pk P (po P k)) = true
    · refine br_f (xb1 h2) ?_
      rw [x_b_t (show tl P k = true by unfold tl; rw [h1, h2]; rfl)] at h
      exact ⟨Or.inr rfl, h⟩
    · refine br_t (xb0 h2) ?_
      rw [x_b_f (show ¬ tl P k = true by unfold tl; rw [h1]; simpa using h2)] at h
      exact ⟨Or.inl rfl, h⟩
  · refine br_t (xb0 h1) ?_
    rw [x_b_f (show ¬ tl P k = true by unfold tl; simp only [Bool.and_eq_true]; exact fun q => h1 q.1)] at h
    exact ⟨Or.inl rfl, h⟩
/-- is it a track; are they two -/
theorem e_P_isTrack (σ : xS) (τ : xL) (i : Int32) : Rn m_P_isTrack [.ref 17, .int i] σ τ (some (.int (x_b (¬ i < 0 ∧ ¬ σ 17 0 ≤ i)))) σ τ := by
  intro Q h
  refine ev_go 100 [] ?_
  refine And.intro (fun h1 => ?_) (fun h1 => And.intro (fun h2 => ?_) (fun h2 => ?_))
  · rw [x_b_f (fun q => q.1 h1)] at h
    exact ⟨Or.inl rfl, h⟩
  · rw [x_b_f (fun q => q.2 h2)] at h
    exact ⟨Or.inl rfl, h⟩
  · rw [x_b_t ⟨h1, h2⟩] at h
    exact ⟨Or.inr rfl, h⟩
theorem e_P_isTrackD (σ : xS) (τ : xL) (i : Int32) : Rn m_P_isTrack [.ref 24, .int i] σ τ (some (.int (x_b (¬ i < 0 ∧ ¬ σ 24 0 ≤ i)))) σ τ := by
  intro Q h
  refine ev_go 100 [] ?_
  refine And.intro (fun h1 => ?_) (fun h1 => And.intro (fun h2 => ?_) (fun h2 => ?_))
  · rw [x_b_f (fun q => q.1 h1)] at h
    exact ⟨Or.inl rfl, h⟩
  · rw [x_b_f (fun q => q.2 h2)] at h
    exact ⟨Or.inl rfl, h⟩
  · rw [x_b_t ⟨h1, h2⟩] at h
    exact ⟨Or.inr rfl, h⟩
theorem e_P_areTwo (σ : xS) (τ : xL) (i j : Int32) : Rn m_P_areTwo [.ref 17, .int i, .int j] σ τ (some (.int (x_b ((¬ i < 0 ∧ ¬ σ 17 0 ≤ i) ∧ (¬ j < 0 ∧ ¬ σ 17 0 ≤ j) ∧ ¬ i = j)))) σ τ := by
  intro Q h
  refine ev_go 100 [] ?_
  refine e_P_isTrack σ τ i _ ?_
  by_cases h1 : ¬ i < 0 ∧ ¬ σ 17 0 ≤ i
  · refine br_f (xb1 h1) ?_
    refine e_P_isTrack σ τ j _ ?_
    by_cases h2 : ¬ j < 0 ∧ ¬ σ 17 0 ≤ j
    · refine br_f (xb1 h2) ?_
      refine And.intro (fun h3 => ?_) (fun h3 => ?_)
      · rw [x_b_f (fun q => q.2.2 h3)] at h
        exact ⟨Or.inl rfl, h⟩
      · rw [x_b_t ⟨h1, h2, h3⟩] at h
        exact ⟨Or.inr rfl, h⟩
    · refine br_t (xb0 h2) ?_
      rw [x_b_f (fun q => h2 q.2.1)] at h
      exact ⟨Or.inl rfl, h⟩
  · refine br_t (xb0 h1) ?_
    rw [x_b_f (fun q => h1 q.1)] at h
    exact ⟨Or.inl rfl, h⟩
theorem e_P_areTwoD (σ : xS) (τ : xL) (i j : Int32) : Rn m_P_areTwo [.ref 24, .int i, .int j] σ τ (some (.int (x_b ((¬ i < 0 ∧ ¬ σ 24 0 ≤ i) ∧ (¬ j < 0 ∧ ¬ σ 24 0 ≤ j) ∧ ¬ i = j)))) σ τ := by
  intro Q h
  refine ev_go 100 [] ?_
  refine e_P_isTrackD σ τ i _ ?_
  by_cases h1 : ¬ i < 0 ∧ ¬ σ 24 0 ≤ i
  · refine br_f (xb1 h1) ?_
    refine e_P_isTrackD σ τ j _ ?_
    by_cases h2 : ¬ j < 0 ∧ ¬ σ 24 0 ≤ j
    · refine br_f (xb1 h2) ?_
      refine And.intro (fun h3 => ?_) (fun h3 => ?_)
      · rw [x_b_f (fun q => q.2.2 h3)] at h
        exact ⟨Or.inl rfl, h⟩
      · rw [x_b_t ⟨h1, h2, h3⟩] at h
        exact ⟨Or.inr rfl, h⟩
    · refine br_t (xb0 h2) ?_
      rw [x_b_f (fun q => h2 q.2.1)] at h
      exact ⟨Or.inl rfl, h⟩
  · refine br_t (xb0 h1) ?_
    rw [x_b_f (fun q => h1 q.1)] at h
    exact ⟨Or.inl rfl, h⟩
/-- a number of a track, as both test it -/
theorem q_trk {n : Nat} (hn : n ≤ 7) (i : Int32) : (¬ i < 0 ∧ ¬ nI n ≤ i) ↔ ∃ k, k < n ∧ i = nI k := by
  constructor
  · rintro ⟨h1, h2⟩
    rcases q_ix i n (by omega) with h | h
    · exact (h.elim h1 h2).elim
    · exact h
  · rintro ⟨k, hk, rfl⟩
    exact ⟨nI_pos (by omega), nI_ge hk (by omega)⟩
theorem e_M_isTrack (σ : xS) (τ : xL) {P : xP} (hP : PM σ P) (hV : PV P) (i : Int32) : Rn m_M_isTrack [.ref 67, .int i] σ τ (some (.int (x_b (¬ i < 0 ∧ ¬ nI (pn P) ≤ i)))) σ τ := by
  intro Q h
  have h7 := hV.1
  refine ev_go 100 [] ?_
  refine e_M_in σ τ i 0 _ _ ?_
  rw [hP.1]
  rw [show x_b (¬ i < 0 ∧ ¬ (nI (pn P) - 1) < i) = x_b (¬ i < 0 ∧ ¬ nI (pn P) ≤ i) from by
    by_cases q : ¬ i < 0 ∧ ¬ nI (pn P) ≤ i
    · rw [x_b_t q, x_b_t ⟨q.1, fun z => q.2 ((q_pred (by omega) i).mp z)⟩]
    · rw [x_b_f q, x_b_f (fun z => q ⟨z.1, fun y => z.2 ((q_pred (by omega) i).mpr y)⟩)]]
  exact ⟨x_b_01, h⟩
theorem e_M_arePair (σ : xS) (τ : xL) {P : xP} (hP : PM σ P) (hV : PV P) (i j : Int32) : Rn m_M_arePair [.ref 67, .int i, .int j] σ τ (some (.int (x_b ((¬ i < 0 ∧ ¬ nI (pn P) ≤ i) ∧ (¬ j < 0 ∧ ¬ nI (pn P) ≤ j) ∧ ¬ i = j)))) σ τ := by
  intro Q h
  refine ev_go 100 [] ?_
  refine e_M_isTrack σ τ hP hV i _ ?_
  by_cases h1 : ¬ i < 0 ∧ ¬ nI (pn P) ≤ i
  · refine br_f (xb1 h1) ?_
    refine e_M_isTrack σ τ hP hV j _ ?_
    by_cases h2 : ¬ j < 0 ∧ ¬ nI (pn P) ≤ j
    · refine br_f (xb1 h2) ?_
      refine And.intro (fun h3 => ?_) (fun h3 => ?_)
      · rw [x_b_f (fun q => q.2.2 h3)] at h
        exact ⟨Or.inl rfl, h⟩
      · rw [x_b_t ⟨h1, h2, h3⟩] at h
        exact ⟨Or.inr rfl, h⟩
    · refine br_t (xb0 h2) ?_
      rw [x_b_f (fun q => h2 q.2.1)] at h
      exact ⟨Or.inl rfl, h⟩
  · refine br_t (xb0 h1) ?_
    rw [x_b_f (fun q => h1 q.1)] at h
    exact ⟨Or.inl rfl, h⟩
end
section
/-! CALLS THAT SHOW OR CHANGE ONE THING -/
theorem pair_asked : Pair m_S_asked m_M_asked [] := by
  intro σ τ hR
  refine ev_go 100 [] ?_
  refine ⟨rfl, ?_⟩
  refine ev_go 100 [] ?_
  exact ⟨rfl, by rw [hR.2.2.2.1], ⟨_, rfl⟩, hR⟩
theorem pair_finding : Pair m_S_finding m_M_finding [] := by
  intro σ τ hR
  refine ev_go 100 [] ?_
  refine ⟨rfl, ?_⟩
  refine ev_go 100 [] ?_
  exact ⟨rfl, by rw [hR.2.2.2.2.1], ⟨_, rfl⟩, hR⟩
theorem pair_upper : Pair m_S_upper m_M_upper [] := by
  intro σ τ hR
  refine ev_go 100 [] ?_
  refine ⟨rfl, ?_⟩
  refine ev_go 100 [] ?_
  exact ⟨rfl, by rw [hR.2.2.2.2.2.2.1], ⟨_, rfl⟩, hR⟩
theorem pair_lower : Pair m_S_lower m_M_lower [] := by
  intro σ τ hR
  refine ev_go 100 [] ?_
  refine ⟨rfl, ?_⟩
  refine ev_go 100 [] ?_
  exact ⟨rfl, by rw [hR.2.2.2.2.2.2.2], ⟨_, rfl⟩, hR⟩
theorem q_lt01 {f : Int32} (h : f < 0) : f < 1 := by
  have e1 : (0 : Int32).toInt = 0 := by decide
  have e2 : (1 : Int32).toInt = 1 := by decide
  rw [Int32.lt_iff_toInt_lt] at h ⊢
  omega
theorem pair_findings (f : Int32) : Pair m_S_findings m_M_findings [.int f] := by
  intro σ τ hR
  refine ev_go 100 [] ?_
  have bad : (f < 1 ∨ 5 < f) → Ev m_M_findings 0 (x_loc [.ref 67, .int f] m_M_findings.2.2.1) [] x_g σ τ (fun r2 g2 σ2 τ2 => g2 = x_g ∧ some (Value.int (-1)) = r2 ∧ (∃ v, some (Value.int (-1)) = some v) ∧ Rel σ2 τ2) := by
    intro h0
    refine ev_go 100 [] ?_
    refine e_M_in σ τ f 1 5 _ ?_
    refine br_t (xb0 (fun q => h0.elim q.1 q.2)) ?_
    exact ⟨rfl, rfl, ⟨_, rfl⟩, hR⟩
  refine And.intro (fun h1 => ?_) (fun h1 => And.intro (fun h2 => ?_) (fun h2 => ?_))
  · exact ⟨rfl, bad (Or.inl h1)⟩
  · have h3 : ¬ (5 : Int32) < f := Int32.not_lt.mpr h2
    have h4 : ∃ j, j < 6 ∧ f = nI j := by
      rcases q_ix f 6 (by decide) with (h | h) | h
      · exact absurd (q_lt01 h) h1
      · exact absurd ((q_5 f).mpr h) h3
      · exact h
    obtain ⟨j, hj, rfl⟩ := h4
    refine ⟨6, rfl, q_in hj (by decide), ?_⟩
    refine ⟨rfl, ?_⟩
    refine ev_go 100 [] ?_
    refine e_M_in σ τ _ 1 5 _ ?_
    refine br_f (xb1 ⟨h1, h3⟩) ?_
    refine ⟨6, rfl, q_in hj (by decide), ?_⟩
    refine ⟨rfl, ?_, ⟨_, rfl⟩, hR⟩
    rw [cl7 (by omega), hR.2.2.2.2.2.1 j hj]
  · exact ⟨rfl, bad (Or.inr (Int32.not_le.mp h2))⟩
/-- the pass as it is now -/
theorem Rel.pass {σ σ' : xS} {τ : xL} {P : xP} (h : Rel σ τ) (h1 : PC σ' 17 P) (h2 : PM σ' P) (h3 : PV P) (h4 : RelK σ' P) (a1 : ∀ q, q ≤ 16 → σ' q = σ q) (a2 : ∀ q, 48 ≤ q → q ≤ 48 → σ' q = σ q) (a3 : ∀ q, 68 ≤ q → q ≤ 73 → σ' q = σ q) (a4 : ∀ j, j ≤ 2 → σ' 67 j = σ 67 j) : Rel σ' τ := by
  obtain ⟨b1, b2, -, b4⟩ := h
  refine ⟨b1.congr (by rw [a1 1 (by omega)]) (fun q q1 q2 => a1 q (by omega)) (a3 69 (by omega) (by omega)) (a3 70 (by omega) (by omega)), b2.congr (by rw [a1 10 (by omega)]) (fun q q1 q2 => a1 q (by omega)) (a3 72 (by omega) (by omega)) (a3 73 (by omega) (by omega)), ⟨P, h1, h2, h3, h4⟩, ?_⟩
  unfold RelA
  rw [a1 0 (by omega), a4 2 (by omega), a4 0 (by omega), a2 48 (by omega) (by omega), a3 68 (by omega) (by omega)]
  exact b4
theorem pair_wind (v : Int32) : Pair m_S_wind m_M_wind [.int v] := by
  intro σ τ hR
  obtain ⟨P, hC, hM, hV, hK⟩ := hR.2.2.1
  refine ev_go 100 [] ?_
  have bad : (v < 0 ∨ 1 < v) → Ev m_M_wind 0 (x_loc [.ref 67, .int v] m_M_wind.2.2.1) [] x_g σ τ (fun r2 g2 σ2 τ2 => g2 = x_g ∧ some (Value.int (-1)) = r2 ∧ (∃ v, some (Value.int (-1)) = some v) ∧ Rel σ2 τ2) := by
    intro h0
    refine ev_go 100 [] ?_
    refine e_M_in σ τ v 0 1 _ ?_
    refine bn_f (xb0 (fun q => h0.elim q.1 q.2)) ?_
    exact ⟨rfl, rfl, ⟨_, rfl⟩, hR⟩
  refine And.intro (fun h1 => ?_) (fun h1 => And.intro (fun h2 => ?_) (fun h2 => ?_))
  · exact ⟨rfl, bad (Or.inl h1)⟩
  · obtain ⟨w, hw, rfl⟩ := nI_of2 (M := 1) (n := 1) (by decide) h1 h2
    refine ⟨rfl, ?_⟩
    refine ev_go 100 [] ?_
    refine e_M_in _ τ _ 0 1 _ ?_
    refine bn_t (xb1 ⟨h1, Int32.not_lt.mpr h2⟩) ?_
    refine ⟨rfl, ?_, ⟨_, rfl⟩, ?_⟩
    · show some (Value.int (σ 17 2)) = some (Value.int (σ 67 17))
      rw [hC.2.2.1, hM.2.2.1]
    · show Rel (x_row (x_row σ 17 (upd (σ 17) 2 (nI w))) 67 (upd (σ 67) 17 (nI w))) τ
      have hz : ∀ q, q ≠ 17 → q ≠ 67 → x_row (x_row σ 17 (upd (σ 17) 2 (nI w))) 67 (upd (σ 67) 17 (nI w)) q = σ q := fun q q1 q2 => by
        rw [x_row_ne q2, x_row_ne q1]
      have h17 : x_row (x_row σ 17 (upd (σ 17) 2 (nI w))) 67 (upd (σ 67) 17 (nI w)) 17 = upd (σ 17) 2 (nI w) := rfl
      have h67 : x_row (x_row σ 17 (upd (σ 17) 2 (nI w))) 67 (upd (σ 67) 17 (nI w)) 67 = upd (σ 67) 17 (nI w) := rfl
      refine hR.pass (P := (pn P, pc P, w, P.2.2.2)) ⟨?_, ?_, ?_, ?_, ?_⟩ ⟨?_, ?_, ?_, ?_, ?_⟩ ⟨hV.1, hV.2.1, hw, hV.2.2.2⟩ (hK.congr (fun q q1 q2 => hz q (by omega) (by omega)) (hz 84 (by omega) (by omega))) (fun q q1 => hz q (by omega) (by omega)) (fun q q1 q2 => hz q (by omega) (by omega)) (fun q q1 q2 => hz q (by omega) (by omega)) (fun j hj => ?_)
      · rw [h17]; exact hC.1
      · rw [h17]; exact hC.2.1
      · rw [h17]; rfl
      · intro i hi
        rw [hz 18 (by omega) (by omega), hz 19 (by omega) (by omega), hz 20 (by omega) (by omega)]
        exact hC.2.2.2.1 i hi
      · intro i hi
        rw [hz 21 (by omega) (by omega), hz 22 (by omega) (by omega)]
        exact hC.2.2.2.2 i hi
      · rw [h67]; exact hM.1
      · rw [h67]; exact hM.2.1
      · rw [h67]; rfl
      · intro i hi
        rw [hz 74 (by omega) (by omega), hz 75 (by omega) (by omega), hz 76 (by omega) (by omega)]
        exact hM.2.2.2.1 i hi
      · intro i hi
        rw [hz 77 (by omega) (by omega), hz 78 (by omega) (by omega)]
        exact hM.2.2.2.2 i hi
      · rw [h67]
        simp only [upd]
        rw [if_neg (by omega)]
  · exact ⟨rfl, bad (Or.inr (Int32.not_le.mp h2))⟩
theorem pair_fill (i v : Int32) : Pair m_S_fill m_M_fill [.int i, .int v] := by
  intro σ τ hR
  obtain ⟨P, hC, hM, hV, hK⟩ := hR.2.2.1
  have h7 := hV.1
  refine ev_go 100 [] ?_
  refine e_P_isTrack σ τ i _ ?_
  have bad : ¬ ((¬ i < 0 ∧ ¬ nI (pn P) ≤ i) ∧ ¬ v < 0 ∧ ¬ 10 < v) → Ev m_M_fill 0 (x_loc [.ref 67, .int i, .int v] m_M_fill.2.2.1) [] x_g σ τ (fun r2 g2 σ2 τ2 => g2 = x_g ∧ some (Value.int (-1)) = r2 ∧ (∃ v, some (Value.int (-1)) = some v) ∧ Rel σ2 τ2) := by
    intro h0
    refine ev_go 100 [] ?_
    refine e_M_isTrack σ τ hM hV i _ ?_
    by_cases h1 : ¬ i < 0 ∧ ¬ nI (pn P) ≤ i
    · refine br_f (xb1 h1) ?_
      refine e_M_in σ τ v 0 10 _ ?_
      refine bn_f (xb0 (fun q => h0 ⟨h1, q⟩)) ?_
      exact ⟨rfl, rfl, ⟨_, rfl⟩, hR⟩
    · refine br_t (xb0 h1) ?_
      exact ⟨rfl, rfl, ⟨_, rfl⟩, hR⟩
  rw [hC.1]
  by_cases h1 : ¬ i < 0 ∧ ¬ nI (pn P) ≤ i
  · refine br_f (xb1 h1) ?_
    refine And.intro (fun h2 => ?_) (fun h2 => And.intro (fun h3 => ?_) (fun h3 => ?_))
    · exact ⟨rfl, bad (fun q => q.2.1 h2)⟩
    · obtain ⟨k, hk, rfl⟩ := (q_trk h7 i).mp h1
      obtain ⟨w, hw, rfl⟩ := nI_of2 (M := 10) (n := 10) (by decide) h2 h3
      have ek : (nI k).toNatClampNeg = k := cl7 (by omega)
      refine ⟨7, rfl, q_in (by omega) (by decide), ?_⟩
      refine ⟨7, rfl, q_in (by omega) (by decide), ?_⟩
      refine ⟨rfl, ?_⟩
      have hx : ∀ q, q ≠ 20 → x_row σ 20 (upd (σ 20) (nI k).toNatClampNeg (nI w)) q = σ q := fun q q1 => x_row_ne q1
      have hM' : PM (x_row σ 20 (upd (σ 20) (nI k).toNatClampNeg (nI w))) P := hM.congr (by rw [hx 67 (by omega)]) (by rw [hx 67 (by omega)]) (by rw [hx 67 (by omega)]) (fun q q1 q2 => hx q (by omega))
      refine ev_go 100 [] ?_
      refine e_M_isTrack _ τ hM' hV _ _ ?_
      refine br_f (xb1 h1) ?_
      refine e_M_in _ τ _ 0 10 _ ?_
      refine bn_t (xb1 ⟨h2, Int32.not_lt.mpr h3⟩) ?_
      refine ⟨7, rfl, q_in (by omega) (by decide), ?_⟩
      refine ⟨7, rfl, q_in (by omega) (by decide), ?_⟩
      refine ⟨rfl, ?_, ⟨_, rfl⟩, ?_⟩
      · show some (Value.int (σ 20 (nI k).toNatClampNeg)) = some (Value.int (σ 76 (nI k).toNatClampNeg))
        rw [ek, (hC.2.2.2.1 k hk).2.2, (hM.2.2.2.1 k hk).2.2]
      · show Rel (x_row (x_row σ 20 (upd (σ 20) (nI k).toNatClampNeg (nI w))) 76 (upd (σ 76) (nI k).toNatClampNeg (nI w))) τ
        rw [ek]
        have hz : ∀ q, q ≠ 20 → q ≠ 76 → x_row (x_row σ 20 (upd (σ 20) k (nI w))) 76 (upd (σ 76) k (nI w)) q = σ q := fun q q1 q2 => by
          rw [x_row_ne q2, x_row_ne q1]
        have h20 : x_row (x_row σ 20 (upd (σ 20) k (nI w))) 76 (upd (σ 76) k (nI w)) 20 = upd (σ 20) k (nI w) := rfl
        have h76 : x_row (x_row σ 20 (upd (σ 20) k (nI w))) 76 (upd (σ 76) k (nI w)) 76 = upd (σ 76) k (nI w) := rfl
        refine hR.pass (P := (pn P, pc P, pw P, pk P, pz P, nup (pf P) k w, po P, pu P)) ⟨?_, ?_, ?_, ?_, ?_⟩ ⟨?_, ?_, ?_, ?_, ?_⟩ ⟨hV.1, hV.2.1, hV.2.2.1, fun i hi => ?_, hV.2.2.2.2⟩ (hK.congr (fun q q1 q2 => hz q (by omega) (by omega)) (hz 84 (by omega) (by omega))) (fun q q1 => hz q (by omega) (by omega)) (fun q q1 q2 => hz q (by omega) (by omega)) (fun q q1 q2 => hz q (by omega) (by omega)) (fun j hj => by rw [hz 67 (by omega) (by omega)])
        · rw [hz 17 (by omega) (by omega)]; exact hC.1
        · rw [hz 17 (by omega) (by omega)]; exact hC.2.1
        · rw [hz 17 (by omega) (by omega)]; exact hC.2.2.1
        · intro i hi
          rw [hz 18 (by omega) (by omega), hz 19 (by omega) (by omega), h20]
          refine ⟨(hC.2.2.2.1 i hi).1, (hC.2.2.2.1 i hi).2.1, ?_⟩
          show upd (σ 20) k (nI w) i = nI (nup (pf P) k w i)
          by_cases e : i = k
          · simp [upd, nup, e]
          · simp only [upd, nup, e, if_false]
            exact (hC.2.2.2.1 i hi).2.2
        · intro i hi
          rw [hz 21 (by omega) (by omega), hz 22 (by omega) (by omega)]
          exact hC.2.2.2.2 i hi
        · rw [hz 67 (by omega) (by omega)]; exact hM.1
        · rw [hz 67 (by omega) (by omega)]; exact hM.2.1
        · rw [hz 67 (by omega) (by omega)]; exact hM.2.2.1
        · intro i hi
          rw [hz 74 (by omega) (by omega), hz 75 (by omega) (by omega), h76]
          refine ⟨(hM.2.2.2.1 i hi).1, (hM.2.2.2.1 i hi).2.1, ?_⟩
          show upd (σ 76) k (nI w) i = nI (nup (pf P) k w i)
          by_cases e : i = k
          · simp [upd, nup, e]
          · simp only [upd, nup, e, if_false]
            exact (hM.2.2.2.1 i hi).2.2
        · intro i hi
          rw [hz 77 (by omega) (by omega), hz 78 (by omega) (by omega)]
          exact hM.2.2.2.2 i hi
        · refine ⟨(hV.2.2.2.1 i hi).1, (hV.2.2.2.1 i hi).2.1, ?_⟩
          show nup (pf P) k w i ≤ 10
          by_cases e : i = k
          · simp [nup, e, hw]
          · simp only [nup, e, if_false]
            exact (hV.2.2.2.1 i hi).2.2
    · exact ⟨rfl, bad (fun q => q.2.2 (Int32.not_le.mp h3))⟩
  · refine br_t (xb0 h1) ?_
    exact ⟨rfl, bad (fun q => h1 q.1)⟩
theorem pair_snow (n : Int32) : Pair m_S_snow m_M_snow [.int n] := by
  intro σ τ hR
  obtain ⟨P, hC, hM, hV, hK⟩ := hR.2.2.1
  have h16 := hV.2.1
  refine ev_go 100 [] ?_
  have bad : (n < 0 ∨ nI (pc P) < n) → Ev m_M_snow 0 (x_loc [.ref 67, .int n] m_M_snow.2.2.1) [] x_g σ τ (fun r2 g2 σ2 τ2 => g2 = x_g ∧ some (Value.int (-1)) = r2 ∧ (∃ v, some (Value.int (-1)) = some v) ∧ Rel σ2 τ2) := by
    intro h0
    refine ev_go 100 [] ?_
    refine e_M_in σ τ n 0 _ _ ?_
    rw [hM.2.1]
    refine bn_f (xb0 (fun q => h0.elim q.1 q.2)) ?_
    exact ⟨rfl, rfl, ⟨_, rfl⟩, hR⟩
  refine And.intro (fun h1 => ?_) (fun h1 => And.intro (fun h2 => ?_) (fun h2 => ?_))
  · exact ⟨rfl, bad (Or.inl h1)⟩
  · rw [hC.2.1] at h2
    obtain ⟨w, hw, rfl⟩ := nI_of2 (M := nI (pc P)) (n := pc P) (nI_toInt (by omega)) h1 h2
    refine ⟨rfl, ?_⟩
    refine ev_go 100 [] ?_
    refine e_M_in _ τ _ 0 _ _ ?_
    refine bn_t (xb1 ⟨h1, ?_⟩) ?_
    · show ¬ σ 67 14 < nI w
      rw [hM.2.1]
      exact Int32.not_lt.mpr h2
    refine ⟨rfl, ?_, ⟨_, rfl⟩, ?_⟩
    · show some (Value.int (σ 17 1 - nI w)) = some (Value.int (σ 67 14 - nI w))
      rw [hC.2.1, hM.2.1]
    · show Rel (x_row (x_row σ 17 (upd (σ 17) 1 (nI w))) 67 (upd (σ 67) 14 (nI w))) τ
      have hz : ∀ q, q ≠ 17 → q ≠ 67 → x_row (x_row σ 17 (upd (σ 17) 1 (nI w))) 67 (upd (σ 67) 14 (nI w)) q = σ q := fun q q1 q2 => by
        rw [x_row_ne q2, x_row_ne q1]
      have h17 : x_row (x_row σ 17 (upd (σ 17) 1 (nI w))) 67 (upd (σ 67) 14 (nI w)) 17 = upd (σ 17) 1 (nI w) := rfl
      have h67 : x_row (x_row σ 17 (upd (σ 17) 1 (nI w))) 67 (upd (σ 67) 14 (nI w)) 67 = upd (σ 67) 14 (nI w) := rfl
      refine hR.pass (P := (pn P, w, P.2.2)) ⟨?_, ?_, ?_, ?_, ?_⟩ ⟨?_, ?_, ?_, ?_, ?_⟩ ⟨hV.1, by show w ≤ 16; omega, hV.2.2.1, hV.2.2.2.1, fun k hk => hV.2.2.2.2 k (Nat.lt_of_lt_of_le hk hw)⟩ (hK.congr (fun q q1 q2 => hz q (by omega) (by omega)) (hz 84 (by omega) (by omega))) (fun q q1 => hz q (by omega) (by omega)) (fun q q1 q2 => hz q (by omega) (by omega)) (fun q q1 q2 => hz q (by omega) (by omega)) (fun j hj => ?_)
      · rw [h17]; exact hC.1
      · rw [h17]; rfl
      · rw [h17]; exact hC.2.2.1
      · intro i hi
        rw [hz 18 (by omega) (by omega), hz 19 (by omega) (by omega), hz 20 (by omega) (by omega)]
        exact hC.2.2.2.1 i hi
      · intro i hi
        rw [hz 21 (by omega) (by omega), hz 22 (by omega) (by omega)]
        exact hC.2.2.2.2 i (Nat.lt_of_lt_of_le hi hw)
      · rw [h67]; exact hM.1
      · rw [h67]; rfl
      · rw [h67]; exact hM.2.2.1
      · intro i hi
        rw [hz 74 (by omega) (by omega), hz 75 (by omega) (by omega), hz 76 (by omega) (by omega)]
        exact hM.2.2.2.1 i hi
      · intro i hi
        rw [hz 77 (by omega) (by omega), hz 78 (by omega) (by omega)]
        exact hM.2.2.2.2 i (Nat.lt_of_lt_of_le hi hw)
      · rw [h67]
        simp only [upd]
        rw [if_neg (by omega)]
  · rw [hC.2.1] at h2
    exact ⟨rfl, bad (Or.inr (Int32.not_le.mp h2))⟩
end
section
/-! COUNTING AND SETS -/
def pop : Nat → Nat → Nat
  | 0, _ => 0
  | k + 1, r => r % 2 + pop k (r / 2)
/-- how many in a set -/
def pp (s : Nat) : Nat := pop 32 s
def cnt (f : Nat → Bool) : Nat → Nat
  | 0 => 0
  | n + 1 => cnt f n + (if f n = true then 1 else 0)
/-- a set by its members below n -/
def bs (f : Nat → Bool) : Nat → Nat
  | 0 => 0
  | n + 1 => if f n = true then bs f n ||| 2 ^ n else bs f n
theorem cnt_le (f : Nat → Bool) : ∀ n, cnt f n ≤ n
  | 0 => Nat.le_refl 0
  | n + 1 => by
    have := cnt_le f n
    simp only [cnt]
    split <;> omega
theorem cnt_congr {f g : Nat → Bool} : ∀ n, (∀ i, i < n → f i = g i) → cnt f n = cnt g n
  | 0, _ => rfl
  | n + 1, h => by
    simp only [cnt]
    rw [cnt_congr n (fun i hi => h i (by omega)), h n (by omega)]
theorem cnt_shift (f : Nat → Bool) : ∀ n, cnt f (n + 1) = (if f 0 = true then 1 else 0) + cnt (fun i => f (i + 1)) n
  | 0 => by simp [cnt]
  | n + 1 => by
    have := cnt_shift f n
    rw [cnt, this, cnt]
    omega
theorem cnt_zero {f : Nat → Bool} : ∀ n, (∀ i, i < n → f i = false) → cnt f n = 0
  | 0, _ => rfl
  | n + 1, h => by
    simp only [cnt]
    rw [cnt_zero n (fun i hi => h i (by omega)), h n (by omega)]
    rfl
theorem cnt_more {f : Nat → Bool} {n : Nat} : ∀ m, (∀ i, n ≤ i → f i = false) → cnt f (n + m) = cnt f n
  | 0, _ => rfl
  | m + 1, h => by
    show cnt f (n + m) + (if f (n + m) = true then 1 else 0) = _
    rw [cnt_more m h, h (n + m) (by omega)]
    rfl
theorem bs_bit (f : Nat → Bool) : ∀ n i, (bs f n).testBit i = (decide (i < n) && f i)
  | 0, i => by simp [bs]
  | n + 1, i => by
    have ih := bs_bit f n i
    simp only [bs]
    by_cases hf : f n = true
    · rw [if_pos hf, Nat.testBit_or, ih, Nat.testBit_two_pow]
      by_cases e : n = i
      · subst e
        simp [hf]
      · by_cases h : i < n
        · simp [h, e, show i < n + 1 by omega]
        · simp [h, e, show ¬ i < n + 1 by omega]
    · rw [if_neg hf, ih]
      by_cases e : i = n
      · subst e
        simp [hf]
      · by_cases h : i < n
        · simp [h, show i < n + 1 by omega]
        · simp [h, show ¬ i < n + 1 by omega]
theorem bs_lt (f : Nat → Bool) (n : Nat) : bs f n < 2 ^ n := by
  apply Nat.lt_pow_two_of_testBit
  intro i hi
  rw [bs_bit]
  simp [show ¬ i < n by omega]
theorem pop_cnt : ∀ k s, pop k s = cnt (fun i => s.testBit i) k
  | 0, _ => rfl
  | k + 1, s => by
    rw [pop, pop_cnt k, cnt_shift]
    congr 1
    · rw [Nat.testBit_zero]
      by_cases h : s % 2 = 1
      · simp [h]
      · have : s % 2 = 0 := by omega
        simp [this]
    · apply cnt_congr
      intro i hi
      rw [Nat.testBit_succ]
theorem bit_big {s n i : Nat} (h : s < 2 ^ n) (hi : n ≤ i) : s.testBit i = false := Nat.testBit_lt_two_pow (Nat.lt_of_lt_of_le h (Nat.pow_le_pow_right (by decide) hi))
theorem pp_cnt {s n : Nat} (h : s < 2 ^ n) (hn : n ≤ 32) : pp s = cnt (fun i => s.testBit i) n := by
  unfold pp
  rw [pop_cnt, show 32 = n + (32 - n) by omega]
  exact cnt_more _ (fun i hi => bit_big h hi)
theorem pp_bs (f : Nat → Bool) {n : Nat} (hn : n ≤ 32) : pp (bs f n) = cnt f n := by
  rw [pp_cnt (bs_lt f n) hn]
  apply cnt_congr
  intro i hi
  rw [bs_bit]
  simp [hi]
theorem pp_le {s n : Nat} (h : s < 2 ^ n) (hn : n ≤ 32) : pp s ≤ n := by
  rw [pp_cnt h hn]
  exact cnt_le _ n
/-- the last member taken off -/
theorem low_even {q : Nat} (hq : 0 < q) : (2 * q) &&& (2 * q - 1) = 2 * (q &&& (q - 1)) := by
  apply Nat.eq_of_testBit_eq
  intro i
  rw [Nat.testBit_and]
  cases i with
  | zero =>
    rw [Nat.testBit_zero, Nat.testBit_zero]
    simp
  | succ i =>
    rw [Nat.testBit_succ, Nat.testBit_succ, Nat.testBit_succ, show 2 * q / 2 = q by omega, show (2 * q - 1) / 2 = q - 1 by omega, show 2 * (q &&& (q - 1)) / 2 = q &&& (q - 1) by omega, Nat.testBit_and]
theorem low_odd (q : Nat) : (2 * q + 1) &&& (2 * q + 1 - 1) = 2 * q := by
  apply Nat.eq_of_testBit_eq
  intro i
  rw [Nat.testBit_and, show 2 * q + 1 - 1 = 2 * q by omega]
  cases i with
  | zero =>
    rw [Nat.testBit_zero, Nat.testBit_zero]
    simp
  | succ i =>
    rw [Nat.testBit_succ, Nat.testBit_succ, show (2 * q + 1) / 2 = q by omega, show 2 * q / 2 = q by omega, Bool.and_self]
theorem pop_low : ∀ k r, 0 < r → r < 2 ^ k → pop k (r &&& (r - 1)) + 1 = pop k r
  | 0, r, h, h2 => by
    simp at h2
    omega
  | k + 1, r, h, h2 => by
    rcases Nat.mod_two_eq_zero_or_one r with e | e
    · obtain ⟨q, rfl⟩ : ∃ q, r = 2 * q := ⟨r / 2, by omega⟩
      have hq : 0 < q := by omega
      rw [low_even hq]
      simp only [pop]
      have ih := pop_low k q hq (by rw [Nat.pow_succ] at h2; omega)
      rw [show 2 * (q &&& (q - 1)) % 2 = 0 by omega, show 2 * (q &&& (q - 1)) / 2 = q &&& (q - 1) by omega, show 2 * q % 2 = 0 by omega, show 2 * q / 2 = q by omega]
      omega
    · obtain ⟨q, rfl⟩ : ∃ q, r = 2 * q + 1 := ⟨r / 2, by omega⟩
      rw [low_odd]
      simp only [pop]
      rw [show 2 * q % 2 = 0 by omega, show 2 * q / 2 = q by omega, show (2 * q + 1) % 2 = 1 by omega, show (2 * q + 1) / 2 = q by omega]
      omega
theorem low_lt {r : Nat} (h : 0 < r) : r &&& (r - 1) < r := Nat.lt_of_le_of_lt Nat.and_le_right (by omega)
theorem pop_0 : ∀ k, pop k 0 = 0
  | 0 => rfl
  | k + 1 => by
    simp only [pop]
    rw [show 0 / 2 = 0 from rfl, pop_0 k]
theorem e_M_bits (σ : xS) (τ : xL) {s : Nat} (hs : s < 2 ^ 31) : Rn m_M_bits [.int (nI s)] σ τ (some (.int (nI (pp s)))) σ τ := by
  intro Q h
  refine ev_go 100 [4] ?_
  have key : ∀ (m r c : Nat), r ≤ m → r < 2 ^ 31 → c + pp r = pp s → Ev m_M_bits 4 [.int (nI s), .int (nI c), .int (nI r)] [] x_g σ τ Q := by
    intro m
    induction m with
    | zero =>
      intro r c hr _ hc
      have : r = 0 := by omega
      subst this
      refine ev_go 100 [4] ?_
      refine br_t rfl ?_
      rw [← hc, show pp 0 = 0 from pop_0 32, Nat.add_zero] at h
      exact h
    | succ m ih =>
      intro r c hr hr2 hc
      rcases Nat.eq_zero_or_pos r with h0 | h0
      · subst h0
        refine ev_go 100 [4] ?_
        refine br_t rfl ?_
        rw [← hc, show pp 0 = 0 from pop_0 32, Nat.add_zero] at h
        exact h
      · have hlt := low_lt h0
        have hp := pop_low 32 r h0 (by omega)
        refine ev_go 100 [4] ?_
        refine br_f (nI_ne0 h0 hr2) ?_
        show Ev m_M_bits 4 [.int (nI s), .int (nI c + 1), .int (nI r &&& (nI r - 1))] [] x_g σ τ Q
        rw [nI_1, show nI r - 1 = nI (r - 1) from pk_sub (a := r) (b := 1) h0, q_and]
        exact ih (r &&& (r - 1)) (c + 1) (by omega) (by omega) (by unfold pp at hc ⊢; omega)
  exact key s s 0 (Nat.le_refl s) hs (Nat.zero_add _)
def jb1 (x : Int32) : Int32 := x - ((x.toUInt32 >>> ((1 : Int32).toUInt32 &&& Int32.toUInt32 31)).toInt32 &&& 1431655765)
def jb2 (x : Int32) : Int32 := (x &&& 858993459) + ((x.toUInt32 >>> ((2 : Int32).toUInt32 &&& Int32.toUInt32 31)).toInt32 &&& 858993459)
def jb3 (x : Int32) : Int32 := (x + (x.toUInt32 >>> ((4 : Int32).toUInt32 &&& Int32.toUInt32 31)).toInt32) &&& 252645135
def jb4 (x : Int32) : Int32 := x + (x.toUInt32 >>> ((8 : Int32).toUInt32 &&& Int32.toUInt32 31)).toInt32
def jb5 (x : Int32) : Int32 := x + (x.toUInt32 >>> ((16 : Int32).toUInt32 &&& Int32.toUInt32 31)).toInt32
theorem jb_ok : ∀ s : Fin 128, jb5 (jb4 (jb3 (jb2 (jb1 (nI s.val))))) &&& 63 = nI (pp s.val) := by decide +kernel
theorem e_J_bitCount (σ : xS) (τ : xL) {s : Nat} (hs : s < 128) : Rn m_J_bitCount [.int (nI s)] σ τ (some (.int (nI (pp s)))) σ τ := by
  intro Q h
  rw [← jb_ok ⟨s, hs⟩] at h
  refine ev_go 100 [] ?_
  exact h
theorem e_S_has (σ : xS) (τ : xL) {s i : Nat} (hs : s < 2 ^ 31) (hi : i < 32) : Rn m_S_has [.int (nI s), .int (nI i)] σ τ (some (.int (x_b (s.testBit i = true)))) σ τ := by
  intro Q h
  refine ev_go 100 [] ?_
  have e := q_bit hs hi
  by_cases hb : s.testBit i = true
  · rw [if_pos hb] at e
    refine br_f (by rw [e]; decide) ?_
    rw [x_b_t hb] at h
    exact ⟨Or.inr rfl, h⟩
  · rw [if_neg hb] at e
    refine br_t (by rw [e]; decide) ?_
    rw [x_b_f hb] at h
    exact ⟨Or.inl rfl, h⟩
theorem e_M_has (σ : xS) (τ : xL) {s i : Nat} (hs : s < 2 ^ 31) (hi : i < 32) : Rn m_M_has [.int (nI s), .int (nI i)] σ τ (some (.int (x_b (s.testBit i = true)))) σ τ := by
  intro Q h
  refine ev_go 100 [] ?_
  have e := q_bit hs hi
  by_cases hb : s.testBit i = true
  · rw [if_pos hb] at e
    refine bn_f (by rw [e]; decide) ?_
    rw [x_b_t hb] at h
    exact ⟨Or.inr rfl, h⟩
  · rw [if_neg hb] at e
    refine bn_t (by rw [e]; decide) ?_
    rw [x_b_f hb] at h
    exact ⟨Or.inl rfl, h⟩
/-- numbers of crossings, of tracks -/
theorem e_P_telling (σ : xS) (τ : xL) {P : xP} (hP : PC σ 17 P) (hV : PV P) : Rn m_P_telling [.ref 17] σ τ (some (.int (nI (cnt (tl P) (pc P))))) σ τ := by
  intro Q h
  have h16 := hV.2.1
  refine ev_go 100 [4] ?_
  refine ev_iter (M := m_P_telling) (pc := 4) (st := []) (g := x_g) (Q := Q) (pc P) (fun i => ([.ref 17, .int (nI (cnt (tl P) i)), .int (nI i)], σ, τ)) (fun i hi kk => ?_) ?_
  · dsimp only at kk ⊢
    refine ev_go 100 [4] ?_
    refine br_f (by rw [hP.2.1]; exact nI_ge hi (by omega)) ?_
    refine e_P_tells σ τ hP hV hi _ ?_
    by_cases ht : tl P i = true
    · refine br_f (xb1 ht) ?_
      show Ev m_P_telling 4 [.ref 17, .int (nI (cnt (tl P) i) + 1), .int (nI i + 1)] [] x_g σ τ Q
      rw [nI_1, nI_1, show cnt (tl P) i + 1 = cnt (tl P) (i + 1) by simp [cnt, ht]]
      exact kk
    · refine br_t (xb0 ht) ?_
      show Ev m_P_telling 4 [.ref 17, .int (nI (cnt (tl P) i)), .int (nI i + 1)] [] x_g σ τ Q
      rw [nI_1, show cnt (tl P) i = cnt (tl P) (i + 1) by simp [cnt, ht]]
      exact kk
  · dsimp only
    refine ev_go 100 [4] ?_
    refine br_t (by rw [hP.2.1]; exact nI_le (Nat.le_refl _) (by omega)) ?_
    exact h
/-- those of a kind -/
def knd (P : xP) (w : Nat) : Nat → Bool := fun i => su (pk P i) w
theorem e_P_ofKind (σ : xS) (τ : xL) {P : xP} (hP : PC σ 17 P) (hV : PV P) {w : Nat} (hw : w ≤ 5) : Rn m_P_ofKind [.ref 17, .int (nI w)] σ τ (some (.int (nI (cnt (knd P w) (pn P))))) σ τ := by
  intro Q h
  have h7 := hV.1
  refine ev_go 100 [4] ?_
  refine ev_iter (M := m_P_ofKind) (pc := 4) (st := []) (g := x_g) (Q := Q) (pn P) (fun i => ([.ref 17, .int (nI w), .int (nI (cnt (knd P w) i)), .int (nI i)], σ, τ)) (fun i hi kk => ?_) ?_
  · dsimp only at kk ⊢
    refine ev_go 100 [4] ?_
    refine br_f (by rw [hP.1]; exact nI_ge hi (by omega)) ?_
    refine e_P_isOfKind σ τ hP hV hi hw _ ?_
    by_cases ht : knd P w i = true
    · refine br_f (xb1 ht) ?_
      show Ev m_P_ofKind 4 [.ref 17, .int (nI w), .int (nI (cnt (knd P w) i) + 1), .int (nI i + 1)] [] x_g σ τ Q
      rw [nI_1, nI_1, show cnt (knd P w) i + 1 = cnt (knd P w) (i + 1) by simp [cnt, ht]]
      exact kk
    · refine br_t (xb0 ht) ?_
      show Ev m_P_ofKind 4 [.ref 17, .int (nI w), .int (nI (cnt (knd P w) i)), .int (nI i + 1)] [] x_g σ τ Q
      rw [nI_1, show cnt (knd P w) i = cnt (knd P w) (i + 1) by simp [cnt, ht]]
      exact kk
  · dsimp only
    refine ev_go 100 [4] ?_
    refine br_t (by rw [hP.1]; exact nI_le (Nat.le_refl _) (by omega)) ?_
    exact h
theorem e_M_tellingBits (σ : xS) (τ : xL) {P : xP} (hP : PM σ P) (hV : PV P) : Rn m_M_tellingBits [.ref 67] σ τ (some (.int (nI (bs (tl P) (pc P))))) σ τ := by
  intro Q h
  have h16 := hV.2.1
  refine ev_go 100 [4] ?_
  refine ev_iter (M := m_M_tellingBits) (pc := 4) (st := []) (g := x_g) (Q := Q) (pc P) (fun i => ([.ref 67, .int (nI (bs (tl P) i)), .int (nI i)], σ, τ)) (fun i hi kk => ?_) ?_
  · dsimp only at kk ⊢
    refine ev_go 100 [4] ?_
    refine br_f (by rw [hP.2.1]; exact nI_ge hi (by omega)) ?_
    refine e_M_isTelling σ τ hP hV hi _ ?_
    by_cases ht : tl P i = true
    · refine br_f (xb1 ht) ?_
      show Ev m_M_tellingBits 4 [.ref 67, .int (nI (bs (tl P) i) ||| ((1 : Int32) <<< (nI i &&& 31))), .int (nI i + 1)] [] x_g σ τ Q
      rw [nI_1, q_shl1 (by omega), q_or, show bs (tl P) i ||| 2 ^ i = bs (tl P) (i + 1) by simp [bs, ht]]
      exact kk
    · refine br_t (xb0 ht) ?_
      show Ev m_M_tellingBits 4 [.ref 67, .int (nI (bs (tl P) i) ||| nI 0), .int (nI i + 1)] [] x_g σ τ Q
      rw [nI_1, q_or, Nat.or_zero, show bs (tl P) i = bs (tl P) (i + 1) by simp [bs, ht]]
      exact kk
  · dsimp only
    refine ev_go 100 [4] ?_
    refine br_t (by rw [hP.2.1]; exact nI_le (Nat.le_refl _) (by omega)) ?_
    exact h
theorem e_M_allOf (σ : xS) (τ : xL) {P : xP} (hP : PM σ P) (hV : PV P) {w : Nat} (hw : w ≤ 5) (hw0 : 0 < w) : Rn m_M_allOf [.ref 67, .int (nI w)] σ τ (some (.int (nI (bs (knd P w) (pn P))))) σ τ := by
  intro Q h
  have h7 := hV.1
  refine ev_go 100 [4] ?_
  refine ev_iter (M := m_M_allOf) (pc := 4) (st := []) (g := x_g) (Q := Q) (pn P) (fun i => ([.ref 67, .int (nI w), .int (nI (bs (knd P w) i)), .int (nI i)], σ, τ)) (fun i hi kk => ?_) ?_
  · dsimp only at kk ⊢
    refine ev_go 100 [4] ?_
    refine br_f (by rw [hP.1]; exact nI_ge hi (by omega)) ?_
    refine e_M_isA σ τ hP hV hi hw hw0 _ ?_
    by_cases ht : knd P w i = true
    · refine br_f (xb1 ht) ?_
      show Ev m_M_allOf 4 [.ref 67, .int (nI w), .int (nI (bs (knd P w) i) ||| ((1 : Int32) <<< (nI i &&& 31))), .int (nI i + 1)] [] x_g σ τ Q
      rw [nI_1, q_shl1 (by omega), q_or, show bs (knd P w) i ||| 2 ^ i = bs (knd P w) (i + 1) by simp [bs, ht]]
      exact kk
    · refine br_t (xb0 ht) ?_
      show Ev m_M_allOf 4 [.ref 67, .int (nI w), .int (nI (bs (knd P w) i) ||| nI 0), .int (nI i + 1)] [] x_g σ τ Q
      rw [nI_1, q_or, Nat.or_zero, show bs (knd P w) i = bs (knd P w) (i + 1) by simp [bs, ht]]
      exact kk
  · dsimp only
    refine ev_go 100 [4] ?_
    refine br_t (by rw [hP.1]; exact nI_le (Nat.le_refl _) (by omega)) ?_
    exact h
end
section
/-! STORES: what agrees outside some cells, rows of naturals, loops with what holds of the store -/
def Ag (L : List Nat) (σ σ' : xS) : Prop := ∀ q, q ∉ L → σ' q = σ q
theorem Ag.refl {L : List Nat} {σ : xS} : Ag L σ σ := fun _ _ => rfl
theorem Ag.trans {L : List Nat} {σ σ' σ'' : xS} (h : Ag L σ σ') (h' : Ag L σ' σ'') : Ag L σ σ'' := fun q hq => (h' q hq).trans (h q hq)
theorem Ag.mono {L L' : List Nat} {σ σ' : xS} (h : Ag L σ σ') (hL : ∀ q, q ∈ L → q ∈ L') : Ag L' σ σ' := fun q hq => h q (fun z => hq (hL q z))
theorem Ag.row {L : List Nat} {σ σ' : xS} {q : Nat} {f : Nat → Int32} (h : Ag L σ σ') (hq : q ∈ L) : Ag L σ (x_row σ' q f) := fun p hp => by
  have hpq : p ≠ q := fun e => hp (e ▸ hq)
  rw [x_row_ne hpq]
  exact h p hp
def Ar (σ : xS) (q n : Nat) (A : Nat → Nat) : Prop := ∀ j, j < n → σ q j = nI (A j)
theorem Ar.ag {σ σ' : xS} {q n : Nat} {A : Nat → Nat} {L : List Nat} (h : Ar σ q n A) (hA : Ag L σ σ') (hq : q ∉ L) : Ar σ' q n A := fun j hj => by
  rw [hA q hq]
  exact h j hj
theorem Ar.up {σ : xS} {q n k v : Nat} {A : Nat → Nat} (h : Ar σ q n A) : Ar (x_row σ q (upd (σ q) k (nI v))) q n (nup A k v) := fun j hj => by
  rw [x_row_eq]
  simp only [upd, nup]
  by_cases e : j = k
  · simp [e]
  · simp [e, h j hj]
theorem Ar.ne {σ : xS} {q q' n : Nat} {A : Nat → Nat} {f : Nat → Int32} (h : Ar σ q n A) (hq : q ≠ q') : Ar (x_row σ q' f) q n A := fun j hj => by
  rw [x_row_ne hq]
  exact h j hj
theorem Ar.congr {σ : xS} {q n : Nat} {A B : Nat → Nat} (h : Ar σ q n A) (hAB : ∀ j, j < n → A j = B j) : Ar σ q n B := fun j hj => by
  rw [h j hj, hAB j hj]
theorem Ar.mono {σ : xS} {q n m : Nat} {A : Nat → Nat} (h : Ar σ q n A) (hm : m ≤ n) : Ar σ q m A := fun j hj => h j (by omega)
/-- read at a place -/
theorem Ar.get {σ : xS} {q n : Nat} {A : Nat → Nat} (h : Ar σ q n A) {j : Nat} (hj : j < n) (hb : j < 2 ^ 31) : σ q (nI j).toNatClampNeg = nI (A j) := by
  rw [nI_clamp hb]
  exact h j hj
theorem PC.ag {σ σ' : xS} {o : Nat} {P : xP} {L : List Nat} (h : PC σ o P) (hA : Ag L σ σ') (hL : ∀ q, q ∈ L → q < o ∨ o + 5 < q) : PC σ' o P := h.congr (fun q q1 q2 => hA q (fun z => by have := hL q z; omega))
theorem PM.ag {σ σ' : xS} {P : xP} {L : List Nat} (h : PM σ P) (hA : Ag L σ σ') (hL : ∀ q, q ∈ L → q ≠ 67 ∧ (q < 74 ∨ 78 < q)) : PM σ' P := by
  have h67 : σ' 67 = σ 67 := hA 67 (fun z => (hL 67 z).1 rfl)
  exact h.congr (by rw [h67]) (by rw [h67]) (by rw [h67]) (fun q q1 q2 => hA q (fun z => by have := hL q z; omega))
/-- cells that the relation doesn't speak of -/
abbrev scrq (q : Nat) : Prop := (23 ≤ q ∧ q ≤ 47) ∨ q = 71 ∨ (79 ≤ q ∧ q ≤ 83) ∨ 85 ≤ q
theorem Rel.ag {σ σ' : xS} {τ : xL} {L : List Nat} (h : Rel σ τ) (hA : Ag L σ σ') (hL : ∀ q, q ∈ L → scrq q) : Rel σ' τ := by
  have e : ∀ q, ¬ scrq q → σ' q = σ q := fun q hq => hA q (fun z => hq (hL q z))
  unfold scrq at e
  refine h.scr ⟨fun q q1 q2 => e q (by omega), fun q q1 q2 => e q (by omega), e 69 (by omega), e 70 (by omega), e 72 (by omega), e 73 (by omega), fun q q1 q2 => e q (by omega), e 84 (by omega), by rw [e 67 (by omega)], by rw [e 67 (by omega)], by rw [e 67 (by omega)]⟩ ?_
  unfold RelA
  rw [e 0 (by omega), e 67 (by omega), e 48 (by omega), e 68 (by omega)]
  exact h.2.2.2
/-- a method evaluates to this answer and to a store of which something holds -/
def Rs (M : xM) (as : List Value) (σ : xS) (τ : xL) (r : Option Value) (Φ : xS → Prop) : Prop := ∀ Q : xQ, (∀ σ', Φ σ' → Q r x_g σ' τ) → Ev M 0 (x_loc as M.2.2.1) [] x_g σ τ Q
theorem ev_lp {M : xM} {pc : Nat} {st : List Value} {g : xG} {Q : xQ} {τ : xL} (N : Nat) (F : Nat → List Value) (I : Nat → xS → Prop)
    (step : ∀ i, i < N → ∀ σ, I i σ → (∀ σ', I (i + 1) σ' → Ev M pc (F (i + 1)) st g σ' τ Q) → Ev M pc (F i) st g σ τ Q)
    (fin : ∀ σ, I N σ → Ev M pc (F N) st g σ τ Q) : ∀ σ, I 0 σ → Ev M pc (F 0) st g σ τ Q := by
  have h : ∀ k, k ≤ N → ∀ σ, I (N - k) σ → Ev M pc (F (N - k)) st g σ τ Q := by
    intro k
    induction k with
    | zero => exact fun _ => fin
    | succ k ih =>
      intro hk σ hI
      have := ih (by omega)
      have e : N - k = N - (k + 1) + 1 := by omega
      rw [e] at this
      exact step _ (by omega) σ hI this
  have := h N (Nat.le_refl N)
  rwa [Nat.sub_self] at this
/-- sets by their members -/
theorem bs_ext {f g : Nat → Bool} {n : Nat} (h : ∀ i, i < n → f i = g i) : bs f n = bs g n := by
  apply Nat.eq_of_testBit_eq
  intro i
  rw [bs_bit, bs_bit]
  by_cases hi : i < n
  · simp [hi, h i hi]
  · simp [hi]
theorem bs_or {f : Nat → Bool} {n i : Nat} (hi : i < n) : bs f n ||| 2 ^ i = bs (fun x => f x || x == i) n := by
  apply Nat.eq_of_testBit_eq
  intro x
  rw [Nat.testBit_or, bs_bit, bs_bit, Nat.testBit_two_pow]
  by_cases hx : x = i
  · subst hx
    simp [hi]
  · by_cases h : x < n
    · simp [h, hx, show ¬ i = x from fun e => hx e.symm]
    · simp [h, show ¬ i = x by omega]
theorem bs_and {f g : Nat → Bool} {n : Nat} : bs f n &&& bs g n = bs (fun x => f x && g x) n := by
  apply Nat.eq_of_testBit_eq
  intro x
  rw [Nat.testBit_and, bs_bit, bs_bit, bs_bit]
  by_cases h : x < n <;> simp [h]
theorem bs_orb {f g : Nat → Bool} {n : Nat} : bs f n ||| bs g n = bs (fun x => f x || g x) n := by
  apply Nat.eq_of_testBit_eq
  intro x
  rw [Nat.testBit_or, bs_bit, bs_bit, bs_bit]
  by_cases h : x < n <;> simp [h]
theorem bs_nd {f g : Nat → Bool} {n : Nat} : nd (bs f n) (bs g n) = bs (fun x => f x && !g x) n := by
  apply Nat.eq_of_testBit_eq
  intro x
  rw [nd_bit, bs_bit, bs_bit, bs_bit]
  by_cases h : x < n <;> simp [h]
theorem bs_all {n : Nat} : bs (fun _ => true) n = 2 ^ n - 1 := by
  apply Nat.eq_of_testBit_eq
  intro x
  rw [bs_bit, Nat.testBit_two_pow_sub_one]
  simp
theorem bs_one {i n : Nat} (hi : i < n) : bs (fun x => x == i) n = 2 ^ i := by
  apply Nat.eq_of_testBit_eq
  intro x
  rw [bs_bit, Nat.testBit_two_pow]
  by_cases h : x = i
  · subst h
    simp [hi]
  · simp [h, show ¬ i = x from fun e => h e.symm]
theorem bs_self {s n : Nat} (h : s < 2 ^ n) : bs (fun x => s.testBit x) n = s := by
  apply Nat.eq_of_testBit_eq
  intro x
  rw [bs_bit]
  by_cases hx : x < n
  · simp [hx]
  · simp [hx, bit_big h (Nat.not_lt.mp hx)]
theorem bs_0 {n : Nat} : bs (fun _ => false) n = 0 := by
  apply Nat.eq_of_testBit_eq
  intro x
  rw [bs_bit]
  simp
theorem bs_eq0 {f : Nat → Bool} {n : Nat} : bs f n = 0 ↔ ∀ i, i < n → f i = false := by
  constructor
  · intro h i hi
    have := bs_bit f n i
    rw [h] at this
    simpa [hi] using this.symm
  · intro h
    rw [bs_ext h, bs_0]
theorem p2_7 {n : Nat} (h : n ≤ 7) : 2 ^ n ≤ 128 := Nat.pow_le_pow_right (n := 2) (by decide) h
theorem bs7 (f : Nat → Bool) {n : Nat} (h : n ≤ 7) : bs f n < 128 := Nat.lt_of_lt_of_le (bs_lt f n) (p2_7 h)
/-- some below n -/
def anb (f : Nat → Bool) : Nat → Bool
  | 0 => false
  | n + 1 => anb f n || f n
theorem anb_iff {f : Nat → Bool} : ∀ {n : Nat}, anb f n = true ↔ ∃ i, i < n ∧ f i = true
  | 0 => by simp [anb]
  | n + 1 => by
    simp only [anb, Bool.or_eq_true, anb_iff (n := n)]
    constructor
    · rintro (⟨i, h1, h2⟩ | h)
      · exact ⟨i, by omega, h2⟩
      · exact ⟨n, by omega, h⟩
    · rintro ⟨i, h1, h2⟩
      by_cases e : i = n
      · subst e
        exact Or.inr h2
      · exact Or.inl ⟨i, by omega, h2⟩
theorem Ar.orb {σ : xS} {q n N j i : Nat} {e : Nat → Nat → Bool} (h : Ar σ q N (fun j => bs (e j) n)) (hi : i < n) : Ar (x_row σ q (upd (σ q) j (nI (bs (e j) n ||| 2 ^ i)))) q N (fun j' => bs (fun i' => e j' i' || (j' == j && i' == i)) n) := by
  refine h.up.congr (fun x _ => ?_)
  simp only [nup]
  by_cases hx : x = j
  · subst hx
    simp only [if_true]
    rw [bs_or hi]
    apply bs_ext
    intro y _
    simp
  · rw [if_neg hx]
    apply bs_ext
    intro y _
    simp [hx]
theorem or_r {a x y : Bool} (h : x = y) : (a || x) = (a || y) := by rw [h]
theorem and_r {a x y : Bool} (h : x = y) : (a && x) = (a && y) := by rw [h]
/-- a local that a loop leaves behind -/
def lc (a b : Value) : Nat → Value
  | 0 => a
  | _ + 1 => b
end
section
/-! WHO IS TOLD AHEAD OF WHOM: e j i, i is told to have gone ahead of j -/
def eC (P : xP) (f : Nat → Bool) (c : Nat) (j i : Nat) : Bool := anb (fun k => f k && (po P k == j && pu P k == i)) c
def wt (P : xP) (i j : Nat) : Bool := !(pk P i == 3) && !(pk P j == 3) && !(pf P i == 10) && !(pf P j == 10) && decide (pf P j + 2 ≤ pf P i)
def eW (P : xP) (t : Nat → Bool) (j i : Nat) : Bool := decide (i < pn P) && (decide (j < pn P) && (t i && (t j && wt P i j)))
def ed (P : xP) (f t : Nat → Bool) (w : Bool) (j i : Nat) : Bool := eC P f (pc P) j i || (w && eW P t j i)
theorem eC_lt {P : xP} (hV : PV P) {f : Nat → Bool} {j i : Nat} (h : eC P f (pc P) j i = true) : i < pn P ∧ j < pn P ∧ i ≠ j := by
  obtain ⟨k, hk, h⟩ := anb_iff.mp h
  simp only [Bool.and_eq_true, beq_iff_eq] at h
  obtain ⟨-, rfl, rfl⟩ := h
  obtain ⟨a, b, c⟩ := hV.2.2.2.2 k hk
  exact ⟨b, a, fun z => c z.symm⟩
theorem eW_lt {P : xP} {t : Nat → Bool} {j i : Nat} (h : eW P t j i = true) : i < pn P ∧ j < pn P ∧ i ≠ j := by
  simp only [eW, wt, Bool.and_eq_true, decide_eq_true_eq] at h
  refine ⟨h.1, h.2.1, fun z => ?_⟩
  subst z
  have := h.2.2.2.2.2
  omega
theorem ed_lt {P : xP} (hV : PV P) {f t : Nat → Bool} {w : Bool} {j i : Nat} (h : ed P f t w j i = true) : i < pn P ∧ j < pn P ∧ i ≠ j := by
  simp only [ed, Bool.or_eq_true, Bool.and_eq_true] at h
  rcases h with h | h
  · exact eC_lt hV h
  · exact eW_lt h.2
/-- the graph's head -/
def GH (σ : xS) (n : Nat) : Prop := σ 31 0 = nI n ∧ σ 31 1 = nI (2 ^ n - 1)
theorem GH.ag {σ σ' : xS} {n : Nat} {L : List Nat} (h : GH σ n) (hA : Ag L σ σ') (hL : 31 ∉ L) : GH σ' n := by
  unfold GH
  rw [hA 31 hL]
  exact h
theorem e_G_clear (σ : xS) (τ : xL) {n : Nat} (hn : n ≤ 7) {v : Int32} (hv : v = nI n) : Rs m_G_clear [.ref 31, .int v] σ τ none (fun σ' => Ag [31, 32] σ σ' ∧ GH σ' n ∧ Ar σ' 32 7 (fun j => bs (fun _ => false) n)) := by
  intro Q h
  subst hv
  refine ev_go 100 [] ?_
  refine e_J_fill _ τ 32 7 0 rfl (by decide) _ ?_
  have e1 : (1 : Int32) <<< (nI n &&& 31) - 1 = nI (2 ^ n - 1) := by
    rw [q_shl1 (by omega)]
    exact pk_sub (a := 2 ^ n) (b := 1) (Nat.one_le_two_pow)
  rw [e1]
  refine h _ ⟨?_, ⟨?_, ?_⟩, ?_⟩
  · exact ((Ag.refl.row (by decide)).row (by decide)).row (by decide)
  · rfl
  · rfl
  · intro j hj
    rw [bs_0]
    show (if j < 7 then (0 : Int32) else _) = _
    rw [if_pos hj]
    rfl
theorem e_G_addCrossings (σ : xS) (τ : xL) {P : xP} (hP : PC σ 17 P) (hV : PV P) {e : Nat → Nat → Bool} (hA : Ar σ 32 7 (fun j => bs (e j) (pn P))) : Rs m_G_addCrossings [.ref 31, .ref 17] σ τ none (fun σ' => Ag [32] σ σ' ∧ Ar σ' 32 7 (fun j => bs (fun i => e j i || eC P (tl P) (pc P) j i) (pn P))) := by
  intro Q h
  have h7 := hV.1
  have h16 := hV.2.1
  refine ev_go 100 [2] ?_
  refine ev_lp (M := m_G_addCrossings) (pc := 2) (st := []) (g := x_g) (Q := Q) (τ := τ) (pc P) (fun k => [.ref 31, .ref 17, .int (nI k)]) (fun k σ' => Ag [32] σ σ' ∧ Ar σ' 32 7 (fun j => bs (fun i => e j i || eC P (tl P) k j i) (pn P))) (fun k hk σ1 hI kk => ?_) (fun σ1 hI => ?_) σ ⟨Ag.refl, by simpa [eC, anb] using hA⟩
  · obtain ⟨hg, hI⟩ := hI
    have hP1 := hP.ag hg (by decide)
    obtain ⟨v1, v2, v3⟩ := hV.2.2.2.2 k hk
    have eo : σ1 21 (nI k).toNatClampNeg = nI (po P k) := by rw [cl7 (by omega)]; exact (hP1.2.2.2.2 k hk).1
    have eu : σ1 22 (nI k).toNatClampNeg = nI (pu P k) := by rw [cl7 (by omega)]; exact (hP1.2.2.2.2 k hk).2
    refine ev_go 100 [2] ?_
    refine br_f (by rw [hP1.2.1]; exact nI_ge hk (by omega)) ?_
    refine e_P_tells σ1 τ hP1 hV hk _ ?_
    by_cases ht : tl P k = true
    · refine br_f (xb1 ht) ?_
      refine ⟨16, rfl, q_in (by omega) (by decide), ?_⟩
      rw [eo]
      refine ⟨7, rfl, q_in (by omega) (by decide), ?_⟩
      refine ⟨16, rfl, q_in (by omega) (by decide), ?_⟩
      refine ⟨7, rfl, q_in (by omega) (by decide), ?_⟩
      rw [eu, hI.get (by omega) (by omega), q_shl1 (by omega), q_or, cl7 (by omega)]
      show Ev m_G_addCrossings 2 [.ref 31, .ref 17, .int (nI k + 1)] [] x_g _ τ Q
      rw [nI_1]
      refine kk _ ⟨hg.row (by decide), ?_⟩
      refine (hI.orb (e := fun j i => e j i || eC P (tl P) k j i) v2).congr (fun j _ => bs_ext (fun i _ => ?_))
      simp only [eC, anb, ht, Bool.true_and, Bool.or_assoc]
      refine or_r (or_r ?_)
      rw [Bool.beq_comm (a := j), Bool.beq_comm (a := i)]
    · refine br_t (xb0 ht) ?_
      show Ev m_G_addCrossings 2 [.ref 31, .ref 17, .int (nI k + 1)] [] x_g _ τ Q
      rw [nI_1]
      refine kk _ ⟨hg, hI.congr (fun j _ => bs_ext (fun i _ => ?_))⟩
      simp only [Bool.not_eq_true] at ht
      simp [eC, anb, ht]
  · refine ev_go 100 [2] ?_
    refine br_t (by rw [hI.1 17 (by decide), hP.2.1]; exact nI_le (Nat.le_refl _) (by omega)) ?_
    exact h _ hI
theorem e_P_windTells (σ : xS) (τ : xL) {P : xP} (hP : PC σ 17 P) (hV : PV P) {i j : Nat} (hi : i < pn P) (hj : j < pn P) : Rn m_P_windTells [.ref 17, .int (nI i), .int (nI j)] σ τ (some (.int (x_b ((pw P == 1 && wt P i j) = true)))) σ τ := by
  intro Q h
  have h7 := hV.1
  obtain ⟨a1, a2, a3⟩ := hV.2.2.2.1 i hi
  obtain ⟨b1, b2, b3⟩ := hV.2.2.2.1 j hj
  have hw := hV.2.2.1
  have e1 : σ 18 (nI i).toNatClampNeg = nI (pk P i) := by rw [cl7 (by omega)]; exact (hP.2.2.2.1 i hi).1
  have e2 : σ 18 (nI j).toNatClampNeg = nI (pk P j) := by rw [cl7 (by omega)]; exact (hP.2.2.2.1 j hj).1
  have f1 : σ 20 (nI i).toNatClampNeg = nI (pf P i) := by rw [cl7 (by omega)]; exact (hP.2.2.2.1 i hi).2.2
  have f2 : σ 20 (nI j).toNatClampNeg = nI (pf P j) := by rw [cl7 (by omega)]; exact (hP.2.2.2.1 j hj).2.2
  have hsub : nI (pf P i) - nI (pf P j) < 2 ↔ ¬ pf P j + 2 ≤ pf P i := by
    rw [Int32.lt_iff_toInt_lt, q_sub_toInt (by omega) (by omega), show ((2 : Int32)).toInt = 2 from by decide]
    omega
  have hq : (pw P == 1 && wt P i j) = true ↔ pw P = 1 ∧ (¬ pk P i = 3 ∧ ¬ pk P j = 3) ∧ (¬ pf P i = 10 ∧ ¬ pf P j = 10) ∧ pf P j + 2 ≤ pf P i := by
    simp only [wt, Bool.and_eq_true, beq_iff_eq, Bool.not_eq_true', beq_eq_false_iff_ne, decide_eq_true_eq, ne_eq]
    constructor
    · rintro ⟨x1, ⟨⟨⟨x2, x3⟩, x4⟩, x5⟩, x6⟩
      exact ⟨x1, ⟨x2, x3⟩, ⟨x4, x5⟩, x6⟩
    · rintro ⟨x1, ⟨x2, x3⟩, ⟨x4, x5⟩, x6⟩
      exact ⟨x1, ⟨⟨⟨x2, x3⟩, x4⟩, x5⟩, x6⟩
  have fin : ∀ (u v : Prop) [Decidable u] [Decidable v], (u ↔ (¬ pk P i = 3 ∧ ¬ pk P j = 3)) → (v ↔ (¬ pf P i = 10 ∧ ¬ pf P j = 10)) → Ev m_P_windTells 55 [.ref 17, .int (nI i), .int (nI j), .int (x_b u), .int (x_b v)] [] x_g σ τ Q := by
    intro u v _ _ hu hv
    refine ev_go 100 [] ?_
    by_cases w1 : pw P = 1
    · refine bn_f (by rw [hP.2.2.1, w1]; rfl) ?_
      by_cases hu1 : u
      · refine br_f (xb1 hu1) ?_
        by_cases hv1 : v
        · refine br_f (xb1 hv1) ?_
          refine ⟨7, rfl, q_in (by omega) (by decide), ?_⟩
          refine ⟨7, rfl, q_in (by omega) (by decide), ?_⟩
          rw [f1, f2]
          by_cases hd : pf P j + 2 ≤ pf P i
          · refine br_f (fun z => hsub.mp z hd) ?_
            rw [x_b_t (hq.mpr ⟨w1, hu.mp hu1, hv.mp hv1, hd⟩)] at h
            exact ⟨Or.inr rfl, h⟩
          · refine br_t (hsub.mpr hd) ?_
            rw [x_b_f (fun z => hd (hq.mp z).2.2.2)] at h
            exact ⟨Or.inl rfl, h⟩
        · refine br_t (xb0 hv1) ?_
          rw [x_b_f (fun z => hv1 (hv.mpr (hq.mp z).2.2.1))] at h
          exact ⟨Or.inl rfl, h⟩
      · refine br_t (xb0 hu1) ?_
        rw [x_b_f (fun z => hu1 (hu.mpr (hq.mp z).2.1))] at h
        exact ⟨Or.inl rfl, h⟩
    · refine bn_t (fun z => w1 ((nI_eq (b := 1) (by omega) (by decide)).mp (hP.2.2.1 ▸ z))) ?_
      rw [x_b_f (fun z => w1 (hq.mp z).1)] at h
      exact ⟨Or.inl rfl, h⟩
  have two : ∀ (u : Prop) [Decidable u], (u ↔ (¬ pk P i = 3 ∧ ¬ pk P j = 3)) → Ev m_P_windTells 26 [.ref 17, .int (nI i), .int (nI j), .int (x_b u), .null] [] x_g σ τ Q := by
    intro u _ hu
    refine ev_go 100 [55] ?_
    refine ⟨7, rfl, q_in (by omega) (by decide), ?_⟩
    rw [f1]
    by_cases g1 : pf P i = 10
    · refine br_t (by rw [g1]; rfl) ?_
      have := fin u False hu (by simp [g1])
      rwa [x_b_f (p := False) id] at this
    · refine br_f (fun z => g1 ((nI_eq (b := 10) (by omega) (by decide)).mp z)) ?_
      refine ⟨7, rfl, q_in (by omega) (by decide), ?_⟩
      rw [f2]
      by_cases g2 : pf P j = 10
      · refine br_t (by rw [g2]; rfl) ?_
        have := fin u False hu (by simp [g2])
        rwa [x_b_f (p := False) id] at this
      · refine br_f (fun z => g2 ((nI_eq (b := 10) (by omega) (by decide)).mp z)) ?_
        have := fin u True hu (by simp [g1, g2])
        rwa [x_b_t trivial] at this
  refine ev_go 100 [26] ?_
  refine ⟨7, rfl, q_in (by omega) (by decide), ?_⟩
  rw [e1]
  by_cases g1 : pk P i = 3
  · refine br_t (by rw [g1]; rfl) ?_
    have := two False (by simp [g1])
    rwa [x_b_f (p := False) id] at this
  · refine br_f (fun z => g1 ((nI_eq (b := 3) (by omega) (by decide)).mp z)) ?_
    refine ⟨7, rfl, q_in (by omega) (by decide), ?_⟩
    rw [e2]
    by_cases g2 : pk P j = 3
    · refine br_t (by rw [g2]; rfl) ?_
      have := two False (by simp [g2])
      rwa [x_b_f (p := False) id] at this
    · refine br_f (fun z => g2 ((nI_eq (b := 3) (by omega) (by decide)).mp z)) ?_
      have := two True (by simp [g1, g2])
      rwa [x_b_t trivial] at this
theorem e_G_addWind (σ : xS) (τ : xL) {P : xP} (hP : PC σ 17 P) (hV : PV P) {e : Nat → Nat → Bool} (hA : Ar σ 32 7 (fun j => bs (e j) (pn P))) : Rs m_G_addWind [.ref 31, .ref 17] σ τ none (fun σ' => Ag [32] σ σ' ∧ Ar σ' 32 7 (fun j => bs (fun i => e j i || (pw P == 1 && eW P (fun _ => true) j i)) (pn P))) := by
  intro Q h
  have h7 := hV.1
  refine ev_go 100 [2] ?_
  refine ev_lp (M := m_G_addWind) (pc := 2) (st := []) (g := x_g) (Q := Q) (τ := τ) (pn P) (fun k => [.ref 31, .ref 17, .int (nI k), lc .null (.int (nI (pn P))) k]) (fun k σ' => Ag [32] σ σ' ∧ Ar σ' 32 7 (fun j => bs (fun i => e j i || (decide (i < k) && (decide (j < pn P) && (pw P == 1 && wt P i j)))) (pn P))) (fun k hk σ1 hI kk => ?_) (fun σ1 hI => ?_) σ ⟨Ag.refl, by simpa using hA⟩
  · refine ev_go 100 [12] ?_
    refine br_f (by rw [hI.1 17 (by decide), hP.1]; exact nI_ge hk (by omega)) ?_
    refine ev_lp (M := m_G_addWind) (pc := 12) (st := []) (g := x_g) (Q := Q) (τ := τ) (pn P) (fun l => [.ref 31, .ref 17, .int (nI k), .int (nI l)]) (fun l σ' => Ag [32] σ σ' ∧ Ar σ' 32 7 (fun j => bs (fun i => (e j i || (decide (i < k) && (decide (j < pn P) && (pw P == 1 && wt P i j)))) || (i == k && (decide (j < l) && (pw P == 1 && wt P i j)))) (pn P))) (fun l hl σ2 hJ kk2 => ?_) (fun σ2 hJ => ?_) σ1 ⟨hI.1, by simpa using hI.2⟩
    · obtain ⟨hg, hJ⟩ := hJ
      have hP1 := hP.ag hg (by decide)
      refine ev_go 100 [12] ?_
      refine br_f (by rw [hP1.1]; exact nI_ge hl (by omega)) ?_
      refine e_P_windTells σ2 τ hP1 hV hk hl _ ?_
      by_cases ht : (pw P == 1 && wt P k l) = true
      · refine br_f (xb1 ht) ?_
        refine ⟨7, rfl, q_in (by omega) (by decide), ?_⟩
        refine ⟨7, rfl, q_in (by omega) (by decide), ?_⟩
        rw [hJ.get (by omega) (by omega), q_shl1 (by omega), q_or, cl7 (by omega)]
        show Ev m_G_addWind 12 [.ref 31, .ref 17, .int (nI k), .int (nI l + 1)] [] x_g _ τ Q
        rw [nI_1]
        refine kk2 _ ⟨hg.row (by decide), ?_⟩
        refine (hJ.orb (e := fun j i => (e j i || (decide (i < k) && (decide (j < pn P) && (pw P == 1 && wt P i j)))) || (i == k && (decide (j < l) && (pw P == 1 && wt P i j)))) hk).congr (fun j _ => bs_ext (fun i _ => ?_))
        rw [Bool.or_assoc]
        refine or_r ?_
        by_cases e1 : i = k
        · subst e1
          by_cases e2 : j = l
          · subst e2
            simp [ht]
          · by_cases e3 : j < l
            · simp [e2, e3, show j < l + 1 by omega]
            · simp [e2, e3, show ¬ j < l + 1 by omega]
        · have e1' : (i == k) = false := beq_eq_false_iff_ne.mpr e1
          rw [e1']
          cases (j == l) <;> rfl
      · refine br_t (xb0 ht) ?_
        show Ev m_G_addWind 12 [.ref 31, .ref 17, .int (nI k), .int (nI l + 1)] [] x_g _ τ Q
        rw [nI_1]
        refine kk2 _ ⟨hg, hJ.congr (fun j _ => bs_ext (fun i _ => ?_))⟩
        refine or_r ?_
        by_cases e1 : i = k
        · subst e1
          by_cases e2 : j = l
          · subst e2
            simp only [Bool.not_eq_true] at ht
            simp [ht]
          · by_cases e3 : j < l
            · simp [e3, show j < l + 1 by omega]
            · simp [e3, show ¬ j < l + 1 by omega]
        · have e1' : (i == k) = false := beq_eq_false_iff_ne.mpr e1
          rw [e1']
          rfl
    · refine ev_go 100 [2] ?_
      refine br_t (by rw [hJ.1 17 (by decide), hP.1]; exact nI_le (Nat.le_refl _) (by omega)) ?_
      show Ev m_G_addWind 2 [.ref 31, .ref 17, .int (nI k + 1), .int (nI (pn P))] [] x_g _ τ Q
      rw [nI_1]
      refine kk _ ⟨hJ.1, hJ.2.congr (fun j _ => bs_ext (fun i _ => ?_))⟩
      rw [Bool.or_assoc]
      refine or_r ?_
      by_cases e1 : i = k
      · subst e1
        simp
      · by_cases e3 : i < k
        · simp [e1, e3, show i < k + 1 by omega]
        · simp [e1, e3, show ¬ i < k + 1 by omega]
  · refine ev_go 100 [2] ?_
    refine br_t (by rw [hI.1 17 (by decide), hP.1]; exact nI_le (Nat.le_refl _) (by omega)) ?_
    refine h _ ⟨hI.1, hI.2.congr (fun j _ => bs_ext (fun i hi => ?_))⟩
    simp [eW, hi]
    cases (pw P == 1) <;> simp
theorem e_G_takeAll (σ : xS) (τ : xL) {P : xP} (hP : PC σ 17 P) (hV : PV P) : Rs m_G_takeAll [.ref 31, .ref 17] σ τ none (fun σ' => Ag [31, 32] σ σ' ∧ GH σ' (pn P) ∧ Ar σ' 32 7 (fun j => bs (ed P (tl P) (fun _ => true) (pw P == 1) j) (pn P))) := by
  intro Q h
  refine ev_go 100 [] ?_
  refine e_G_clear σ τ hV.1 hP.1 _ (fun σ1 h1 => ?_)
  have hP1 := hP.ag h1.1 (by decide)
  refine e_G_addCrossings σ1 τ hP1 hV h1.2.2 _ (fun σ2 h2 => ?_)
  have hP2 := hP1.ag h2.1 (by decide)
  refine e_G_addWind σ2 τ hP2 hV h2.2 _ (fun σ3 h3 => ?_)
  refine h _ ⟨(h1.1.trans (h2.1.mono (by decide))).trans (h3.1.mono (by decide)), (h1.2.1.ag h2.1 (by decide)).ag h3.1 (by decide), h3.2.congr (fun j _ => bs_ext (fun i _ => ?_))⟩
  simp [ed]
end
section
/-! THE MODEL'S EDGES -/
theorem ev_lj {α : Type} {M : xM} {pc : Nat} {st : List Value} {g : xG} {Q : xQ} {τ : xL} (N : Nat) (F : Nat → α → List Value) (I : Nat → xS → Prop)
    (step : ∀ i, i < N → ∀ u σ, I i σ → (∀ u' σ', I (i + 1) σ' → Ev M pc (F (i + 1) u') st g σ' τ Q) → Ev M pc (F i u) st g σ τ Q)
    (fin : ∀ u σ, I N σ → Ev M pc (F N u) st g σ τ Q) : ∀ u σ, I 0 σ → Ev M pc (F 0 u) st g σ τ Q := by
  have h : ∀ k, k ≤ N → ∀ u σ, I (N - k) σ → Ev M pc (F (N - k) u) st g σ τ Q := by
    intro k
    induction k with
    | zero => exact fun _ => fin
    | succ k ih =>
      intro hk u σ hI
      have := ih (by omega)
      have e : N - k = N - (k + 1) + 1 := by omega
      rw [e] at this
      exact step _ (by omega) u σ hI this
  have := h N (Nat.le_refl N)
  rwa [Nat.sub_self] at this
theorem e_M_isByWind (σ : xS) (τ : xL) {P : xP} (hP : PM σ P) (hV : PV P) {i j : Nat} (hi : i < pn P) (hj : j < pn P) : Rn m_M_isByWind [.ref 67, .int (nI i), .int (nI j)] σ τ (some (.int (x_b (wt P i j = true)))) σ τ := by
  intro Q h
  have h7 := hV.1
  obtain ⟨a1, a2, a3⟩ := hV.2.2.2.1 i hi
  obtain ⟨b1, b2, b3⟩ := hV.2.2.2.1 j hj
  have e1 : σ 74 (nI i).toNatClampNeg = nI (pk P i) := by rw [cl7 (by omega)]; exact (hP.2.2.2.1 i hi).1
  have e2 : σ 74 (nI j).toNatClampNeg = nI (pk P j) := by rw [cl7 (by omega)]; exact (hP.2.2.2.1 j hj).1
  have f1 : σ 76 (nI i).toNatClampNeg = nI (pf P i) := by rw [cl7 (by omega)]; exact (hP.2.2.2.1 i hi).2.2
  have f2 : σ 76 (nI j).toNatClampNeg = nI (pf P j) := by rw [cl7 (by omega)]; exact (hP.2.2.2.1 j hj).2.2
  have hq : wt P i j = true ↔ (((¬ pk P i = 3 ∧ ¬ pk P j = 3) ∧ ¬ pf P i = 10) ∧ ¬ pf P j = 10) ∧ pf P j + 2 ≤ pf P i := by
    simp only [wt, Bool.and_eq_true, beq_iff_eq, Bool.not_eq_true', beq_eq_false_iff_ne, decide_eq_true_eq, ne_eq]
  refine ev_go 100 [] ?_
  refine ⟨7, rfl, q_in (by omega) (by decide), ?_⟩
  rw [e1]
  by_cases g1 : pk P i = 3
  · refine br_t (by rw [g1]; rfl) ?_
    rw [x_b_f (fun z => (hq.mp z).1.1.1.1 g1)] at h
    exact ⟨Or.inl rfl, h⟩
  refine br_f (fun z => g1 ((nI_eq (b := 3) (by omega) (by decide)).mp z)) ?_
  refine ⟨7, rfl, q_in (by omega) (by decide), ?_⟩
  rw [e2]
  by_cases g2 : pk P j = 3
  · refine br_t (by rw [g2]; rfl) ?_
    rw [x_b_f (fun z => (hq.mp z).1.1.1.2 g2)] at h
    exact ⟨Or.inl rfl, h⟩
  refine br_f (fun z => g2 ((nI_eq (b := 3) (by omega) (by decide)).mp z)) ?_
  refine ⟨7, rfl, q_in (by omega) (by decide), ?_⟩
  rw [f1]
  by_cases g3 : pf P i = 10
  · refine br_t (by rw [g3]; rfl) ?_
    rw [x_b_f (fun z => (hq.mp z).1.1.2 g3)] at h
    exact ⟨Or.inl rfl, h⟩
  refine br_f (fun z => g3 ((nI_eq (b := 10) (by omega) (by decide)).mp z)) ?_
  refine ⟨7, rfl, q_in (by omega) (by decide), ?_⟩
  rw [f2]
  by_cases g4 : pf P j = 10
  · refine br_t (by rw [g4]; rfl) ?_
    rw [x_b_f (fun z => (hq.mp z).1.2 g4)] at h
    exact ⟨Or.inl rfl, h⟩
  refine br_f (fun z => g4 ((nI_eq (b := 10) (by omega) (by decide)).mp z)) ?_
  refine ⟨7, rfl, q_in (by omega) (by decide), ?_⟩
  refine ⟨7, rfl, q_in (by omega) (by decide), ?_⟩
  rw [f1, f2]
  have hlt : nI (pf P i) < nI (pf P j) + 2 ↔ pf P i < pf P j + 2 := by
    rw [show (2 : Int32) = nI 2 from rfl, nI_add]
    exact q_ltI (by omega) (by omega)
  by_cases g5 : pf P j + 2 ≤ pf P i
  · refine br_f (fun z => Nat.not_lt.mpr g5 (hlt.mp z)) ?_
    rw [x_b_t (hq.mpr ⟨⟨⟨⟨g1, g2⟩, g3⟩, g4⟩, g5⟩)] at h
    exact ⟨Or.inr rfl, h⟩
  · refine br_t (hlt.mpr (Nat.not_le.mp g5)) ?_
    rw [x_b_f (fun z => g5 (hq.mp z).2)] at h
    exact ⟨Or.inl rfl, h⟩
/-- which crossings tell when some crossings and some tracks are left out -/
def fT (P : xP) (a b : Nat) : Nat → Bool := fun k => !a.testBit k && (!b.testBit (po P k) && (!b.testBit (pu P k) && tl P k))
def tT (b : Nat) : Nat → Bool := fun i => !b.testBit i
theorem e_M_findAhead (σ : xS) (τ : xL) {P : xP} (hP : PM σ P) (hV : PV P) {a b w : Nat} (ha : a < 2 ^ 31) (hb : b < 2 ^ 31) (hw : w ≤ 1) {vw : Int32} (hvw : vw = nI w) : Rs m_M_findAhead [.ref 67, .int (nI a), .int (nI b), .int vw] σ τ none (fun σ' => Ag [85] σ σ' ∧ Ar σ' 85 7 (fun j => bs (ed P (fT P a b) (tT b) (w == 1) j) (pn P))) := by
  intro Q h
  subst hvw
  have h7 := hV.1
  have h16 := hV.2.1
  -- the third loop
  have third : ∀ (u : Value × Value) (σ1 : xS), Ag [85] σ σ1 → Ar σ1 85 7 (fun j => bs (fun i => eC P (fT P a b) (pc P) j i) (pn P)) → Ev m_M_findAhead 131 [.ref 67, .int (nI a), .int (nI b), .int (nI w), .int (nI 0), u.1, u.2] [] x_g σ1 τ Q := by
    intro u σ1 hg hA
    by_cases hw1 : w = 1
    · subst hw1
      refine ev_lj (α := Value × Value) (M := m_M_findAhead) (pc := 131) (st := []) (g := x_g) (Q := Q) (τ := τ) (pn P) (fun j u => [.ref 67, .int (nI a), .int (nI b), .int (nI 1), .int (nI j), u.1, u.2]) (fun l σ' => Ag [85] σ σ' ∧ Ar σ' 85 7 (fun j => bs (fun i => eC P (fT P a b) (pc P) j i || (decide (j < l) && eW P (tT b) j i)) (pn P))) (fun l hl u σ1 hI kk => ?_) (fun u σ1 hI => ?_) u σ1 ⟨hg, by simpa using hA⟩
      · obtain ⟨hg, hI⟩ := hI
        have hP1 := hP.ag hg (by decide)
        refine ev_go 100 [148] ?_
        refine br_f (by rw [hP1.1]; exact nI_ge hl (by omega)) ?_
        refine bn_f rfl ?_
        refine ev_lj (α := Value) (M := m_M_findAhead) (pc := 148) (st := []) (g := x_g) (Q := Q) (τ := τ) (pn P) (fun i u => [.ref 67, .int (nI a), .int (nI b), .int (nI 1), .int (nI l), .int (nI i), u]) (fun k σ' => Ag [85] σ σ' ∧ Ar σ' 85 7 (fun j => bs (fun i => (eC P (fT P a b) (pc P) j i || (decide (j < l) && eW P (tT b) j i)) || (j == l && (decide (i < k) && eW P (tT b) j i))) (pn P))) (fun k hk u σ2 hJ kk2 => ?_) (fun u σ2 hJ => ?_) u.2 σ1 ⟨hg, by simpa using hI⟩
        · obtain ⟨hg2, hJ⟩ := hJ
          have hP2 := hP.ag hg2 (by decide)
          have ejoin : (tT b k && (tT b l && wt P k l)) = eW P (tT b) l k := by simp [eW, hk, hl]
          have join : Ev m_M_findAhead 191 [.ref 67, .int (nI a), .int (nI b), .int (nI 1), .int (nI l), .int (nI k), u] [.int (x_b (eW P (tT b) l k = true))] x_g σ2 τ Q := by
            refine ev_go 100 [148] ?_
            refine ⟨7, rfl, q_in (by omega) (by decide), ?_⟩
            by_cases ht : eW P (tT b) l k = true
            · refine br_f (xb1 ht) ?_
              refine ⟨7, rfl, q_in (by omega) (by decide), ?_⟩
              rw [hJ.get (by omega) (by omega), q_shl1 (by omega), q_or, cl7 (by omega)]
              show Ev m_M_findAhead 148 [.ref 67, .int (nI a), .int (nI b), .int (nI 1), .int (nI l), .int (nI k + 1), .int (x_b (eW P (tT b) l k = true))] [] x_g _ τ Q
              rw [nI_1]
              refine kk2 _ _ ⟨hg2.row (by decide), ?_⟩
              refine (hJ.orb (e := fun j i => (eC P (fT P a b) (pc P) j i || (decide (j < l) && eW P (tT b) j i)) || (j == l && (decide (i < k) && eW P (tT b) j i))) hk).congr (fun j _ => bs_ext (fun i _ => ?_))
              rw [Bool.or_assoc]
              refine or_r ?_
              by_cases e1 : j = l
              · subst e1
                by_cases e2 : i = k
                · subst e2
                  simp [ht]
                · by_cases e3 : i < k
                  · simp [e2, e3, show i < k + 1 by omega]
                  · simp [e2, e3, show ¬ i < k + 1 by omega]
              · have e1' : (j == l) = false := beq_eq_false_iff_ne.mpr e1
                rw [e1']
                rfl
            · refine br_t (xb0 ht) ?_
              refine ⟨7, rfl, q_in (by omega) (by decide), ?_⟩
              rw [hJ.get (by omega) (by omega), show (0 : Int32) = nI 0 from rfl, q_or, cl7 (by omega), Nat.or_zero]
              show Ev m_M_findAhead 148 [.ref 67, .int (nI a), .int (nI b), .int (nI 1), .int (nI l), .int (nI k + 1), .int (x_b (eW P (tT b) l k = true))] [] x_g _ τ Q
              rw [nI_1]
              refine kk2 _ _ ⟨hg2.row (by decide), hJ.up.congr (fun j _ => ?_)⟩
              simp only [Bool.not_eq_true] at ht
              have key : ∀ j i, ((eC P (fT P a b) (pc P) j i || (decide (j < l) && eW P (tT b) j i)) || (j == l && (decide (i < k) && eW P (tT b) j i))) = ((eC P (fT P a b) (pc P) j i || (decide (j < l) && eW P (tT b) j i)) || (j == l && (decide (i < k + 1) && eW P (tT b) j i))) := by
                intro j i
                refine or_r ?_
                by_cases e1 : j = l
                · subst e1
                  by_cases e2 : i = k
                  · subst e2
                    simp [ht]
                  · by_cases e3 : i < k
                    · simp [e3, show i < k + 1 by omega]
                    · simp [e3, show ¬ i < k + 1 by omega]
                · have e1' : (j == l) = false := beq_eq_false_iff_ne.mpr e1
                  rw [e1']
                  rfl
              simp only [nup]
              by_cases e1 : j = l
              · subst e1
                rw [if_pos rfl]
                exact bs_ext (fun i _ => key j i)
              · rw [if_neg e1]
                exact bs_ext (fun i _ => key j i)
          refine ev_go 100 [191] ?_
          refine br_f (by rw [hP2.1]; exact nI_ge hk (by omega)) ?_
          refine e_M_has σ2 τ hb (by omega) _ ?_
          by_cases t1 : b.testBit k = true
          · refine bn_t (xb1 t1) ?_
            rw [x_b_f (by rw [← ejoin]; simp [tT, t1])] at join
            exact join
          refine bn_f (xb0 t1) ?_
          refine e_M_has σ2 τ hb (by omega) _ ?_
          by_cases t2 : b.testBit l = true
          · refine bn_t (xb1 t2) ?_
            rw [x_b_f (by rw [← ejoin]; simp [tT, t2])] at join
            exact join
          refine bn_f (xb0 t2) ?_
          refine e_M_isByWind σ2 τ hP2 hV hk hl _ ?_
          by_cases t3 : wt P k l = true
          · refine br_f (xb1 t3) ?_
            rw [x_b_t (by rw [← ejoin]; simp [tT, t1, t2, t3])] at join
            exact join
          · refine br_t (xb0 t3) ?_
            rw [x_b_f (by rw [← ejoin]; simp [tT, t3])] at join
            exact join
        · obtain ⟨hg2, hJ⟩ := hJ
          have hP2 := hP.ag hg2 (by decide)
          refine ev_go 100 [131] ?_
          refine br_t (by rw [hP2.1]; exact nI_le (Nat.le_refl _) (by omega)) ?_
          show Ev m_M_findAhead 131 [.ref 67, .int (nI a), .int (nI b), .int (nI 1), .int (nI l + 1), .int (nI (pn P)), u] [] x_g _ τ Q
          rw [nI_1]
          refine kk (_, _) _ ⟨hg2, hJ.congr (fun j _ => bs_ext (fun i hi => ?_))⟩
          rw [Bool.or_assoc]
          refine or_r ?_
          by_cases e1 : j = l
          · subst e1
            simp [hi]
          · by_cases e3 : j < l
            · simp [e1, e3, show j < l + 1 by omega]
            · simp [e1, e3, show ¬ j < l + 1 by omega]
      · obtain ⟨hg, hI⟩ := hI
        refine ev_go 100 [] ?_
        refine br_t (by rw [hg 67 (by decide), hP.1]; exact nI_le (Nat.le_refl _) (by omega)) ?_
        refine h _ ⟨hg, hI.congr (fun j _ => bs_ext (fun i hi => ?_))⟩
        simp only [ed]
        refine or_r ?_
        by_cases hj : j < pn P
        · simp [hj]
        · simp [hj, eW]
    · have hw0 : w = 0 := by omega
      subst hw0
      have fin : Q none x_g σ1 τ := h _ ⟨hg, hA.congr (fun j _ => bs_ext (fun i hi => by simp [ed]))⟩
      refine ev_go 100 [] ?_
      refine And.intro (fun _ => ?_) (fun _ => ?_)
      · exact fin
      · refine bn_t (by decide) ?_
        exact fin
  have second : ∀ (u : Value × Value) (σ1 : xS), Ag [85] σ σ1 → Ar σ1 85 7 (fun j => 0) → Ev m_M_findAhead 27 [.ref 67, .int (nI a), .int (nI b), .int (nI w), .int (nI 0), u.1, u.2] [] x_g σ1 τ Q := by
    intro u σ1 hg hA
    refine ev_lj (α := Value × Value) (M := m_M_findAhead) (pc := 27) (st := []) (g := x_g) (Q := Q) (τ := τ) (pc P) (fun j u => [.ref 67, .int (nI a), .int (nI b), .int (nI w), .int (nI j), u.1, u.2]) (fun l σ' => Ag [85] σ σ' ∧ Ar σ' 85 7 (fun j => bs (fun i => eC P (fT P a b) l j i) (pn P))) (fun k hk u σ1 hI kk => ?_) (fun u σ1 hI => ?_) u σ1 ⟨hg, hA.congr (fun j _ => by simp only [eC, anb]; rw [bs_0])⟩
    · obtain ⟨hg, hI⟩ := hI
      have hP1 := hP.ag hg (by decide)
      obtain ⟨v1, v2, v3⟩ := hV.2.2.2.2 k hk
      have eo : σ1 77 (nI k).toNatClampNeg = nI (po P k) := by rw [cl7 (by omega)]; exact (hP1.2.2.2.2 k hk).1
      have eu : σ1 78 (nI k).toNatClampNeg = nI (pu P k) := by rw [cl7 (by omega)]; exact (hP1.2.2.2.2 k hk).2
      have join : Ev m_M_findAhead 87 [.ref 67, .int (nI a), .int (nI b), .int (nI w), .int (nI k), u.1, u.2] [.int (x_b (fT P a b k = true))] x_g σ1 τ Q := by
        refine ev_go 100 [27] ?_
        refine ⟨16, rfl, q_in (by omega) (by decide), ?_⟩
        rw [eo]
        refine ⟨7, rfl, q_in (by omega) (by decide), ?_⟩
        by_cases ht : fT P a b k = true
        · refine br_f (xb1 ht) ?_
          refine ⟨16, rfl, q_in (by omega) (by decide), ?_⟩
          refine ⟨7, rfl, q_in (by omega) (by decide), ?_⟩
          rw [eu, hI.get (by omega) (by omega), q_shl1 (by omega), q_or, cl7 (by omega)]
          show Ev m_M_findAhead 27 [.ref 67, .int (nI a), .int (nI b), .int (nI w), .int (nI k + 1), _, _] [] x_g _ τ Q
          rw [nI_1]
          refine kk (_, _) _ ⟨hg.row (by decide), ?_⟩
          refine (hI.orb (e := fun j i => eC P (fT P a b) k j i) v2).congr (fun j _ => bs_ext (fun i _ => ?_))
          simp only [eC, anb, ht, Bool.true_and]
          refine or_r ?_
          rw [Bool.beq_comm (a := j), Bool.beq_comm (a := i)]
        · refine br_t (xb0 ht) ?_
          refine ⟨7, rfl, q_in (by omega) (by decide), ?_⟩
          rw [hI.get (by omega) (by omega), show (0 : Int32) = nI 0 from rfl, q_or, cl7 (by omega), Nat.or_zero]
          show Ev m_M_findAhead 27 [.ref 67, .int (nI a), .int (nI b), .int (nI w), .int (nI k + 1), _, _] [] x_g _ τ Q
          rw [nI_1]
          refine kk (_, _) _ ⟨hg.row (by decide), hI.up.congr (fun j _ => ?_)⟩
          simp only [Bool.not_eq_true] at ht
          simp only [nup]
          by_cases e1 : j = po P k
          · subst e1
            rw [if_pos rfl]
            exact bs_ext (fun i _ => by simp [eC, anb, ht])
          · rw [if_neg e1]
            exact bs_ext (fun i _ => by simp [eC, anb, ht])
      refine ev_go 100 [87] ?_
      refine br_f (by rw [hP1.2.1]; exact nI_ge hk (by omega)) ?_
      refine e_M_has σ1 τ ha (by omega) _ ?_
      by_cases t1 : a.testBit k = true
      · refine bn_t (xb1 t1) ?_
        rw [x_b_f (by simp [fT, t1])] at join
        exact join
      refine bn_f (xb0 t1) ?_
      refine ⟨16, rfl, q_in (by omega) (by decide), ?_⟩
      rw [eo]
      refine e_M_has σ1 τ hb (by omega) _ ?_
      by_cases t2 : b.testBit (po P k) = true
      · refine bn_t (xb1 t2) ?_
        rw [x_b_f (by simp [fT, t2])] at join
        exact join
      refine bn_f (xb0 t2) ?_
      refine ⟨16, rfl, q_in (by omega) (by decide), ?_⟩
      rw [eu]
      refine e_M_has σ1 τ hb (by omega) _ ?_
      by_cases t3 : b.testBit (pu P k) = true
      · refine bn_t (xb1 t3) ?_
        rw [x_b_f (by simp [fT, t3])] at join
        exact join
      refine bn_f (xb0 t3) ?_
      refine e_M_isTelling σ1 τ hP1 hV hk _ ?_
      by_cases t4 : tl P k = true
      · refine br_f (xb1 t4) ?_
        rw [x_b_t (by simp [fT, t1, t2, t3, t4])] at join
        exact join
      · refine br_t (xb0 t4) ?_
        rw [x_b_f (by simp [fT, t4])] at join
        exact join
    · refine ev_go 100 [131] ?_
      refine br_t (by rw [hI.1 67 (by decide), hP.2.1]; exact nI_le (Nat.le_refl _) (by omega)) ?_
      exact third _ _ hI.1 hI.2
  refine ev_go 100 [3] ?_
  refine ev_lp (M := m_M_findAhead) (pc := 3) (st := []) (g := x_g) (Q := Q) (τ := τ) 7 (fun k => [.ref 67, .int (nI a), .int (nI b), .int (nI w), .int (nI k), .null, .null]) (fun k σ' => Ag [85] σ σ' ∧ Ar σ' 85 k (fun j => 0)) (fun k hk σ1 hI kk => ?_) (fun σ1 hI => ?_) σ ⟨Ag.refl, fun j hj => absurd hj (Nat.not_lt_zero j)⟩
  · refine ev_go 100 [3] ?_
    refine br_f (nI_ge (b := 7) hk (by decide)) ?_
    refine ⟨7, rfl, q_in (by omega) (by decide), ?_⟩
    show Ev m_M_findAhead 3 [.ref 67, .int (nI a), .int (nI b), .int (nI w), .int (nI k + 1), .null, .null] [] x_g _ τ Q
    rw [nI_1, cl7 (by omega)]
    refine kk _ ⟨hI.1.row (by decide), fun j hj => ?_⟩
    rw [x_row_eq]
    simp only [upd]
    by_cases e : j = k
    · rw [if_pos e]
      rfl
    · rw [if_neg e]
      exact hI.2 j (by omega)
  · refine ev_go 100 [27] ?_
    refine br_t (nI_le (a := 7) (Nat.le_refl 7) (by decide)) ?_
    exact second (_, _) σ1 hI.1 hI.2
end
section
/-! WHO SURELY WENT AHEAD: wr e n i j, i surely ahead of j -/
def wr (e : Nat → Nat → Bool) : Nat → Nat → Nat → Bool
  | 0, i, j => e j i
  | m + 1, i, j => wr e m i j || (wr e m i m && wr e m m j)
theorem wr_r (e : Nat → Nat → Bool) (m j : Nat) : wr e (m + 1) m j = wr e m m j := by
  simp only [wr]
  cases wr e m m j <;> simp
theorem wr_c (e : Nat → Nat → Bool) (m i : Nat) : wr e (m + 1) i m = wr e m i m := by
  simp only [wr]
  cases wr e m i m <;> simp
/-- a row in which those below k are new -/
theorem Ar.nx {σ : xS} {q n k v : Nat} {A B : Nat → Nat} (h : Ar σ q n (fun i => if i < k then B i else A i)) (hv : v = B k) : Ar (x_row σ q (upd (σ q) k (nI v))) q n (fun i => if i < k + 1 then B i else A i) := by
  refine h.up.congr (fun j _ => ?_)
  simp only [nup]
  by_cases e : j = k
  · subst e
    simp [hv]
  · rw [if_neg e]
    by_cases e2 : j < k
    · rw [if_pos e2, if_pos (by omega)]
    · rw [if_neg e2, if_neg (by omega)]
theorem Ar.nx0 {σ : xS} {q n k : Nat} {A B : Nat → Nat} (h : Ar σ q n (fun i => if i < k then B i else A i)) (hv : A k = B k) : Ar σ q n (fun i => if i < k + 1 then B i else A i) := by
  refine h.congr (fun j _ => ?_)
  by_cases e : j = k
  · subst e
    simp [hv]
  · by_cases e2 : j < k
    · rw [if_pos e2, if_pos (by omega)]
    · rw [if_neg e2, if_neg (by omega)]
theorem e_G_close (σ : xS) (τ : xL) {n : Nat} (h7 : n ≤ 7) (hG : GH σ n) {e : Nat → Nat → Bool} (hB : Ar σ 32 7 (fun j => bs (e j) n)) : Rs m_G_close [.ref 31] σ τ none (fun σ' => Ag [33] σ σ' ∧ Ar σ' 33 n (fun i => bs (wr e n i) n)) := by
  intro Q h
  have two : ∀ (u : Value) (σ1 : xS), Ag [33] σ σ1 → Ar σ1 33 n (fun i => bs (wr e 0 i) n) → Ev m_G_close 67 [.ref 31, .int (nI 0), u] [] x_g σ1 τ Q := by
    intro u σ1 hg hA
    refine ev_lj (α := Value) (M := m_G_close) (pc := 67) (st := []) (g := x_g) (Q := Q) (τ := τ) n (fun k u => [.ref 31, .int (nI k), u]) (fun m σ' => Ag [33] σ σ' ∧ Ar σ' 33 n (fun i => bs (wr e m i) n)) (fun m hm u σ1 hI kk => ?_) (fun u σ1 hI => ?_) u σ1 ⟨hg, hA⟩
    · refine ev_go 100 [77] ?_
      refine br_f (by rw [hI.1 31 (by decide), hG.1]; exact nI_ge hm (by omega)) ?_
      refine ev_lp (M := m_G_close) (pc := 77) (st := []) (g := x_g) (Q := Q) (τ := τ) n (fun k => [.ref 31, .int (nI m), .int (nI k)]) (fun k σ' => Ag [33] σ σ' ∧ Ar σ' 33 n (fun i => if i < k then bs (wr e (m + 1) i) n else bs (wr e m i) n)) (fun k hk σ2 hJ kk2 => ?_) (fun σ2 hJ => ?_) σ1 ⟨hI.1, by simpa using hI.2⟩
      · obtain ⟨hg2, hJ⟩ := hJ
        have r1 : σ2 33 (nI k).toNatClampNeg = nI (bs (wr e m k) n) := by
          have := hJ.get hk (by omega)
          rwa [if_neg (Nat.lt_irrefl k)] at this
        have r2 : σ2 33 (nI m).toNatClampNeg = nI (bs (wr e m m) n) := by
          rw [hJ.get hm (by omega)]
          by_cases z : m < k
          · rw [if_pos z]
            exact congrArg nI (bs_ext (fun j _ => wr_r e m j))
          · rw [if_neg z]
        refine ev_go 100 [77] ?_
        refine br_f (by rw [hg2 31 (by decide), hG.1]; exact nI_ge hk (by omega)) ?_
        refine ⟨7, rfl, q_in (by omega) (by decide), ?_⟩
        rw [r1]
        refine e_S_has σ2 τ (Nat.lt_trans (bs7 _ h7) (by decide)) (by omega) _ ?_
        by_cases t : (bs (wr e m k) n).testBit m = true
        · refine br_f (xb1 t) ?_
          refine ⟨7, rfl, q_in (by omega) (by decide), ?_⟩
          refine ⟨7, rfl, q_in (by omega) (by decide), ?_⟩
          refine ⟨7, rfl, q_in (by omega) (by decide), ?_⟩
          rw [r1, r2, q_or, cl7 (by omega)]
          show Ev m_G_close 77 [.ref 31, .int (nI m), .int (nI k + 1)] [] x_g _ τ Q
          rw [nI_1]
          refine kk2 _ ⟨hg2.row (by decide), hJ.nx ?_⟩
          rw [bs_orb]
          rw [bs_bit] at t
          simp only [Bool.and_eq_true] at t
          exact bs_ext (fun j _ => by simp [wr, t.2])
        · refine br_t (xb0 t) ?_
          show Ev m_G_close 77 [.ref 31, .int (nI m), .int (nI k + 1)] [] x_g _ τ Q
          rw [nI_1]
          refine kk2 _ ⟨hg2, hJ.nx0 ?_⟩
          rw [bs_bit] at t
          simp [hm] at t
          exact bs_ext (fun j _ => by simp [wr, t])
      · refine ev_go 100 [67] ?_
        refine br_t (by rw [hJ.1 31 (by decide), hG.1]; exact nI_le (Nat.le_refl _) (by omega)) ?_
        show Ev m_G_close 67 [.ref 31, .int (nI m + 1), .int (nI n)] [] x_g _ τ Q
        rw [nI_1]
        exact kk _ _ ⟨hJ.1, hJ.2.congr (fun i hi => by rw [if_pos hi])⟩
    · refine ev_go 100 [] ?_
      refine br_t (by rw [hI.1 31 (by decide), hG.1]; exact nI_le (Nat.le_refl _) (by omega)) ?_
      exact h _ hI
  refine ev_go 100 [10] ?_
  refine e_J_fill σ τ 33 7 0 rfl (by decide) _ ?_
  refine ev_lj (α := Value) (M := m_G_close) (pc := 10) (st := []) (g := x_g) (Q := Q) (τ := τ) n (fun k u => [.ref 31, .int (nI k), u]) (fun m σ' => Ag [33] σ σ' ∧ Ar σ' 33 n (fun i => bs (fun j => decide (j < m) && e j i) n)) (fun m hm u σ1 hI kk => ?_) (fun u σ1 hI => ?_) .null _ ⟨Ag.refl.row (by decide), fun j hj => ?_⟩
  · refine ev_go 100 [20] ?_
    refine br_f (by rw [hI.1 31 (by decide), hG.1]; exact nI_ge hm (by omega)) ?_
    refine ev_lp (M := m_G_close) (pc := 20) (st := []) (g := x_g) (Q := Q) (τ := τ) n (fun k => [.ref 31, .int (nI m), .int (nI k)]) (fun k σ' => Ag [33] σ σ' ∧ Ar σ' 33 n (fun i => bs (fun j => (decide (j < m) && e j i) || (j == m && (decide (i < k) && e j i))) n)) (fun k hk σ2 hJ kk2 => ?_) (fun σ2 hJ => ?_) σ1 ⟨hI.1, by simpa using hI.2⟩
    · obtain ⟨hg2, hJ⟩ := hJ
      refine ev_go 100 [20] ?_
      refine br_f (by rw [hg2 31 (by decide), hG.1]; exact nI_ge hk (by omega)) ?_
      refine ⟨7, rfl, q_in (by omega) (by decide), ?_⟩
      rw [(hB.ag hg2 (by decide)).get (by omega) (by omega)]
      refine e_S_has σ2 τ (Nat.lt_trans (bs7 _ h7) (by decide)) (by omega) _ ?_
      have eb : (bs (e m) n).testBit k = e m k := by rw [bs_bit]; simp [hk]
      by_cases t : (bs (e m) n).testBit k = true
      · refine br_f (xb1 t) ?_
        rw [eb] at t
        refine ⟨7, rfl, q_in (by omega) (by decide), ?_⟩
        refine ⟨7, rfl, q_in (by omega) (by decide), ?_⟩
        rw [hJ.get (by omega) (by omega), q_shl1 (by omega), q_or, cl7 (by omega)]
        show Ev m_G_close 20 [.ref 31, .int (nI m), .int (nI k + 1)] [] x_g _ τ Q
        rw [nI_1]
        refine kk2 _ ⟨hg2.row (by decide), ?_⟩
        refine (hJ.orb (e := fun i j => (decide (j < m) && e j i) || (j == m && (decide (i < k) && e j i))) hm).congr (fun i _ => bs_ext (fun j _ => ?_))
        rw [Bool.or_assoc]
        refine or_r ?_
        by_cases e1 : j = m
        · subst e1
          by_cases e2 : i = k
          · subst e2
            simp [t]
          · by_cases e3 : i < k
            · simp [e2, e3, show i < k + 1 by omega]
            · simp [e2, e3, show ¬ i < k + 1 by omega]
        · have e1' : (j == m) = false := beq_eq_false_iff_ne.mpr e1
          rw [e1']
          cases (i == k) <;> rfl
      · refine br_t (xb0 t) ?_
        rw [eb] at t
        simp only [Bool.not_eq_true] at t
        show Ev m_G_close 20 [.ref 31, .int (nI m), .int (nI k + 1)] [] x_g _ τ Q
        rw [nI_1]
        refine kk2 _ ⟨hg2, hJ.congr (fun i _ => bs_ext (fun j _ => ?_))⟩
        refine or_r ?_
        by_cases e1 : j = m
        · subst e1
          by_cases e2 : i = k
          · subst e2
            simp [t]
          · by_cases e3 : i < k
            · simp [e3, show i < k + 1 by omega]
            · simp [e3, show ¬ i < k + 1 by omega]
        · have e1' : (j == m) = false := beq_eq_false_iff_ne.mpr e1
          rw [e1']
          rfl
    · refine ev_go 100 [10] ?_
      refine br_t (by rw [hJ.1 31 (by decide), hG.1]; exact nI_le (Nat.le_refl _) (by omega)) ?_
      show Ev m_G_close 10 [.ref 31, .int (nI m + 1), .int (nI n)] [] x_g _ τ Q
      rw [nI_1]
      refine kk _ _ ⟨hJ.1, hJ.2.congr (fun i hi => ?_)⟩
      refine bs_ext (fun j _ => ?_)
      by_cases e1 : j = m
      · subst e1
        simp [hi]
      · by_cases e3 : j < m
        · simp [e1, e3, show j < m + 1 by omega]
        · simp [e1, e3, show ¬ j < m + 1 by omega]
  · refine ev_go 100 [67] ?_
    refine br_t (by rw [hI.1 31 (by decide), hG.1]; exact nI_le (Nat.le_refl _) (by omega)) ?_
    exact two _ _ hI.1 (hI.2.congr (fun i hi => bs_ext (fun j hj => by simp [wr, hj])))
  · rw [x_row_eq]
    show (if j < 7 then (0 : Int32) else _) = _
    rw [if_pos (by omega)]
    show (0 : Int32) = nI (bs (fun x => decide (x < 0) && e x j) n)
    rw [show (fun x => decide (x < 0) && e x j) = (fun _ => false) from by funext x; simp, bs_0]
    rfl
theorem e_M_findSurely (σ : xS) (τ : xL) {n : Nat} (h7 : n ≤ 7) (hG : σ 67 10 = nI n) {e : Nat → Nat → Bool} (hB : Ar σ 85 n (fun j => bs (e j) n)) : Rs m_M_findSurely [.ref 67] σ τ none (fun σ' => Ag [86] σ σ' ∧ Ar σ' 86 n (fun j => bs (fun i => wr e n i j) n)) := by
  intro Q h
  have two : ∀ (u : Value) (σ1 : xS), Ag [86] σ σ1 → Ar σ1 86 n (fun j => bs (fun i => wr e 0 i j) n) → Ev m_M_findSurely 30 [.ref 67, .int (nI 0), u] [] x_g σ1 τ Q := by
    intro u σ1 hg hA
    refine ev_lj (α := Value) (M := m_M_findSurely) (pc := 30) (st := []) (g := x_g) (Q := Q) (τ := τ) n (fun k u => [.ref 67, .int (nI k), u]) (fun m σ' => Ag [86] σ σ' ∧ Ar σ' 86 n (fun j => bs (fun i => wr e m i j) n)) (fun m hm u σ1 hI kk => ?_) (fun u σ1 hI => ?_) u σ1 ⟨hg, hA⟩
    · refine ev_go 100 [40] ?_
      refine br_f (by rw [hI.1 67 (by decide), hG]; exact nI_ge hm (by omega)) ?_
      refine ev_lp (M := m_M_findSurely) (pc := 40) (st := []) (g := x_g) (Q := Q) (τ := τ) n (fun k => [.ref 67, .int (nI m), .int (nI k)]) (fun k σ' => Ag [86] σ σ' ∧ Ar σ' 86 n (fun j => if j < k then bs (fun i => wr e (m + 1) i j) n else bs (fun i => wr e m i j) n)) (fun k hk σ2 hJ kk2 => ?_) (fun σ2 hJ => ?_) σ1 ⟨hI.1, by simpa using hI.2⟩
      · obtain ⟨hg2, hJ⟩ := hJ
        have r1 : σ2 86 (nI k).toNatClampNeg = nI (bs (fun i => wr e m i k) n) := by
          have := hJ.get hk (by omega)
          rwa [if_neg (Nat.lt_irrefl k)] at this
        have r2 : σ2 86 (nI m).toNatClampNeg = nI (bs (fun i => wr e m i m) n) := by
          rw [hJ.get hm (by omega)]
          by_cases z : m < k
          · rw [if_pos z]
            exact congrArg nI (bs_ext (fun j _ => wr_c e m j))
          · rw [if_neg z]
        refine ev_go 100 [40] ?_
        refine br_f (by rw [hg2 67 (by decide), hG]; exact nI_ge hk (by omega)) ?_
        refine ⟨7, rfl, q_in (by omega) (by decide), ?_⟩
        refine ⟨7, rfl, q_in (by omega) (by decide), ?_⟩
        rw [r1]
        refine e_M_has σ2 τ (Nat.lt_trans (bs7 _ h7) (by decide)) (by omega) _ ?_
        by_cases t : (bs (fun i => wr e m i k) n).testBit m = true
        · refine br_f (xb1 t) ?_
          refine ⟨7, rfl, q_in (by omega) (by decide), ?_⟩
          refine ⟨7, rfl, q_in (by omega) (by decide), ?_⟩
          rw [r2, q_or, cl7 (by omega)]
          show Ev m_M_findSurely 40 [.ref 67, .int (nI m), .int (nI k + 1)] [] x_g _ τ Q
          rw [nI_1]
          refine kk2 _ ⟨hg2.row (by decide), hJ.nx ?_⟩
          rw [bs_orb]
          rw [bs_bit] at t
          simp only [Bool.and_eq_true] at t
          exact bs_ext (fun j _ => by simp [wr, t.2])
        · refine br_t (xb0 t) ?_
          refine ⟨7, rfl, q_in (by omega) (by decide), ?_⟩
          rw [show (0 : Int32) = nI 0 from rfl, q_or, cl7 (by omega), Nat.or_zero]
          show Ev m_M_findSurely 40 [.ref 67, .int (nI m), .int (nI k + 1)] [] x_g _ τ Q
          rw [nI_1]
          refine kk2 _ ⟨hg2.row (by decide), hJ.nx ?_⟩
          rw [bs_bit] at t
          simp [hm] at t
          exact bs_ext (fun j _ => by simp [wr, t])
      · refine ev_go 100 [30] ?_
        refine br_t (by rw [hJ.1 67 (by decide), hG]; exact nI_le (Nat.le_refl _) (by omega)) ?_
        show Ev m_M_findSurely 30 [.ref 67, .int (nI m + 1), .int (nI n)] [] x_g _ τ Q
        rw [nI_1]
        exact kk _ _ ⟨hJ.1, hJ.2.congr (fun i hi => by rw [if_pos hi])⟩
    · refine ev_go 100 [] ?_
      refine br_t (by rw [hI.1 67 (by decide), hG]; exact nI_le (Nat.le_refl _) (by omega)) ?_
      exact h _ hI
  refine ev_go 100 [2] ?_
  refine ev_lp (M := m_M_findSurely) (pc := 2) (st := []) (g := x_g) (Q := Q) (τ := τ) n (fun k => [.ref 67, .int (nI k), .null]) (fun k σ' => Ag [86] σ σ' ∧ Ar σ' 86 k (fun j => bs (fun i => wr e 0 i j) n)) (fun k hk σ1 hI kk => ?_) (fun σ1 hI => ?_) σ ⟨Ag.refl, fun j hj => absurd hj (Nat.not_lt_zero j)⟩
  · refine ev_go 100 [2] ?_
    refine br_f (by rw [hI.1 67 (by decide), hG]; exact nI_ge hk (by omega)) ?_
    refine ⟨7, rfl, q_in (by omega) (by decide), ?_⟩
    refine ⟨7, rfl, q_in (by omega) (by decide), ?_⟩
    rw [(hB.ag hI.1 (by decide)).get hk (by omega), cl7 (by omega)]
    show Ev m_M_findSurely 2 [.ref 67, .int (nI k + 1), .null] [] x_g _ τ Q
    rw [nI_1]
    refine kk _ ⟨hI.1.row (by decide), fun j hj => ?_⟩
    rw [x_row_eq]
    simp only [upd]
    by_cases e : j = k
    · rw [if_pos e, e]
      rfl
    · rw [if_neg e]
      exact hI.2 j (by omega)
  · refine ev_go 100 [30] ?_
    refine br_t (by rw [hI.1 67 (by decide), hG]; exact nI_le (Nat.le_refl _) (by omega)) ?_
    exact two _ _ hI.1 hI.2
/-- a ring there is -/
def rg (e : Nat → Nat → Bool) (n : Nat) : Bool := anb (fun i => wr e n i i) n
theorem e_M_isRing (σ : xS) (τ : xL) {n : Nat} (h7 : n ≤ 7) (hG : σ 67 10 = nI n) {e : Nat → Nat → Bool} (hB : Ar σ 85 n (fun j => bs (e j) n)) : Rs m_M_isRing [.ref 67] σ τ (some (.int (x_b (rg e n = true)))) (fun σ' => Ag [86] σ σ' ∧ Ar σ' 86 n (fun j => bs (fun i => wr e n i j) n)) := by
  intro Q h
  refine ev_go 100 [8] ?_
  refine e_M_findSurely σ τ h7 hG hB _ (fun σ1 h1 => ?_)
  have hG1 : σ1 67 10 = nI n := by rw [h1.1 67 (by decide)]; exact hG
  refine ev_iter (M := m_M_isRing) (pc := 8) (st := []) (g := x_g) (Q := Q) n (fun i => ([.ref 67, .int (x_b (anb (fun i => wr e n i i) i = true)), .int (nI i)], σ1, τ)) (fun i hi kk => ?_) ?_
  · dsimp only at kk ⊢
    have join : Ev m_M_isRing 38 [.ref 67, .int (x_b (anb (fun i => wr e n i i) i = true)), .int (nI i)] [.int (x_b (anb (fun i => wr e n i i) (i + 1) = true))] x_g σ1 τ Q := by
      refine ev_go 100 [8] ?_
      show Ev m_M_isRing 8 [.ref 67, .int (x_b (anb (fun i => wr e n i i) (i + 1) = true)), .int (nI i + 1)] [] x_g _ τ Q
      rw [nI_1]
      exact kk
    refine ev_go 100 [38] ?_
    refine br_f (by rw [hG1]; exact nI_ge hi (by omega)) ?_
    by_cases t1 : anb (fun i => wr e n i i) i = true
    · refine bn_t (xb1 t1) ?_
      rw [x_b_t (p := anb (fun i => wr e n i i) (i + 1) = true) (by simp [anb, t1])] at join
      exact join
    refine bn_f (xb0 t1) ?_
    refine ⟨7, rfl, q_in (by omega) (by decide), ?_⟩
    rw [h1.2.get hi (by omega)]
    refine e_M_has σ1 τ (Nat.lt_trans (bs7 _ h7) (by decide)) (by omega) _ ?_
    have eb : (bs (fun x => wr e n x i) n).testBit i = wr e n i i := by rw [bs_bit]; simp [hi]
    by_cases t : (bs (fun x => wr e n x i) n).testBit i = true
    · refine br_f (xb1 t) ?_
      rw [eb] at t
      rw [x_b_t (p := anb (fun i => wr e n i i) (i + 1) = true) (by simp [anb, t])] at join
      exact join
    · refine br_t (xb0 t) ?_
      rw [eb] at t
      rw [x_b_f (p := anb (fun i => wr e n i i) (i + 1) = true) (by simp only [anb, Bool.or_eq_true]; exact fun z => z.elim t1 t)] at join
      exact join
  · dsimp only
    refine ev_go 100 [8] ?_
    refine br_t (by rw [hG1]; exact nI_le (Nat.le_refl _) (by omega)) ?_
    exact ⟨x_b_01, h _ h1⟩
end
section
/-! RINGS AND LAYERS -/
theorem wr_s {e : Nat → Nat → Bool} {m i j : Nat} (h : wr e m i j = true) : wr e (m + 1) i j = true := by
  simp [wr, h]
theorem wr_up {e : Nat → Nat → Bool} {m i j : Nat} (h : wr e m i j = true) : ∀ k, wr e (m + k) i j = true
  | 0 => h
  | k + 1 => wr_s (wr_up h k)
theorem wr_le {e : Nat → Nat → Bool} {m m' i j : Nat} (h : wr e m i j = true) (hm : m ≤ m') : wr e m' i j = true := by
  have := wr_up h (m' - m)
  rwa [show m + (m' - m) = m' by omega] at this
theorem wr_base {e : Nat → Nat → Bool} {m i j : Nat} (h : e j i = true) : wr e m i j = true := wr_le (m := 0) h (Nat.zero_le m)
theorem wr_trans {e : Nat → Nat → Bool} : ∀ {m k i j : Nat}, k < m → wr e m i k = true → wr e m k j = true → wr e m i j = true
  | 0, k, _, _, h, _, _ => absurd h (Nat.not_lt_zero k)
  | m + 1, k, i, j, h, h1, h2 => by
    have IH := @wr_trans e m
    by_cases hk : k = m
    · subst hk
      rw [wr_c] at h1
      rw [wr_r] at h2
      simp [wr, h1, h2]
    · have hk' : k < m := by omega
      simp only [wr, Bool.or_eq_true, Bool.and_eq_true] at h1 h2 ⊢
      rcases h1 with h1 | ⟨h1, h1'⟩ <;> rcases h2 with h2 | ⟨h2, h2'⟩
      · exact Or.inl (IH hk' h1 h2)
      · exact Or.inr ⟨IH hk' h1 h2, h2'⟩
      · exact Or.inr ⟨h1, IH hk' h1' h2⟩
      · exact Or.inr ⟨h1, h2'⟩
/-- the last step to j -/
theorem wr_last {e : Nat → Nat → Bool} {n : Nat} : ∀ {m i j : Nat}, m ≤ n → wr e m i j = true → ∃ p, e j p = true ∧ (p = i ∨ wr e n i p = true)
  | 0, i, j, _, h => ⟨i, h, Or.inl rfl⟩
  | m + 1, i, j, hm, h => by
    simp only [wr, Bool.or_eq_true, Bool.and_eq_true] at h
    rcases h with h | ⟨h1, h2⟩
    · exact wr_last (by omega) h
    · obtain ⟨p, a, b⟩ := wr_last (n := n) (m := m) (by omega) h2
      refine ⟨p, a, Or.inr ?_⟩
      rcases b with rfl | b
      · exact wr_le h1 (by omega)
      · exact wr_trans (by omega) (wr_le h1 (by omega)) b
theorem wr_min {e R : Nat → Nat → Bool} {n : Nat} (hb : ∀ i j, e j i = true → R i j = true) (ht : ∀ i k j, k < n → R i k = true → R k j = true → R i j = true) : ∀ {m i j : Nat}, m ≤ n → wr e m i j = true → R i j = true
  | 0, i, j, _, h => hb i j h
  | m + 1, i, j, hm, h => by
    simp only [wr, Bool.or_eq_true, Bool.and_eq_true] at h
    rcases h with h | ⟨h1, h2⟩
    · exact wr_min hb ht (by omega) h
    · exact ht i m j (by omega) (wr_min hb ht (by omega) h1) (wr_min hb ht (by omega) h2)
def eIn (e : Nat → Nat → Bool) (n : Nat) : Prop := ∀ j i, e j i = true → i < n ∧ j < n
theorem wr_lt {e : Nat → Nat → Bool} {n : Nat} (he : eIn e n) : ∀ {m i j : Nat}, wr e m i j = true → i < n ∧ j < n
  | 0, i, j, h => he j i h
  | m + 1, i, j, h => by
    simp only [wr, Bool.or_eq_true, Bool.and_eq_true] at h
    rcases h with h | ⟨h1, h2⟩
    · exact wr_lt he h
    · exact ⟨(wr_lt he h1).1, (wr_lt he h2).2⟩
theorem cnt_mono {f g : Nat → Bool} : ∀ {n : Nat}, (∀ i, i < n → f i = true → g i = true) → cnt f n ≤ cnt g n
  | 0, _ => Nat.le_refl 0
  | n + 1, h => by
    have := cnt_mono (n := n) (fun i hi => h i (by omega))
    simp only [cnt]
    by_cases hf : f n = true
    · rw [if_pos hf, if_pos (h n (by omega) hf)]
      omega
    · rw [if_neg hf]
      omega
theorem cnt_lt {f g : Nat → Bool} : ∀ {n : Nat}, (∀ i, i < n → f i = true → g i = true) → (∃ j, j < n ∧ g j = true ∧ f j = false) → cnt f n < cnt g n
  | 0, _, ⟨j, hj, _⟩ => absurd hj (Nat.not_lt_zero j)
  | n + 1, h, ⟨j, hj, h1, h2⟩ => by
    have hm := cnt_mono (n := n) (fun i hi => h i (by omega))
    simp only [cnt]
    by_cases e : j = n
    · subst e
      simp [h1, h2]
      omega
    · have := cnt_lt (n := n) (fun i hi => h i (by omega)) ⟨j, by omega, h1, h2⟩
      by_cases hf : f n = true
      · rw [if_pos hf, if_pos (h n (by omega) hf)]
        omega
      · rw [if_neg hf]
        omega
theorem least {p : Nat → Prop} : ∀ t, p t → ∃ u, u ≤ t ∧ p u ∧ ∀ v, v < u → ¬ p v := by
  intro t
  induction t using Nat.strongRecOn with
  | ind t ih =>
    intro ht
    by_cases h : ∃ v, v < t ∧ p v
    · obtain ⟨v, hv, hp⟩ := h
      obtain ⟨u, a, b⟩ := ih v hv hp
      exact ⟨u, by omega, b⟩
    · exact ⟨t, Nat.le_refl t, ht, fun v hv hp => h ⟨v, hv, hp⟩⟩
theorem anb_no {f : Nat → Bool} {n : Nat} : anb f n = false ↔ ∀ i, i < n → f i = false := by
  constructor
  · intro h i hi
    cases hf : f i
    · rfl
    · rw [anb_iff.mpr ⟨i, hi, hf⟩] at h
      exact absurd h (by decide)
  · intro h
    cases hf : anb f n
    · rfl
    · obtain ⟨i, hi, h2⟩ := anb_iff.mp hf
      rw [h i hi] at h2
      exact absurd h2 (by decide)
theorem bs_anb {f : Nat → Bool} {n : Nat} : bs f n = 0 ↔ anb f n = false := bs_eq0.trans anb_no.symm
def fm (e : Nat → Nat → Bool) (n : Nat) (s : Nat → Bool) : Nat → Bool := fun i => s i && !(anb (fun k => e i k && s k) n)
def pl (e : Nat → Nat → Bool) (n : Nat) (s : Nat → Bool) : Nat → Nat → Bool
  | 0 => s
  | t + 1 => fun i => pl e n s t i && !(fm e n (pl e n s t) i)
/-- without a ring, some of each set has none of it ahead -/
theorem mini {e : Nat → Nat → Bool} {n : Nat} (hr : rg e n = false) {u : Nat → Bool} : ∀ (c x : Nat), cnt (fun k => wr e n k x) n ≤ c → x < n → u x = true → ∃ i, i < n ∧ u i = true ∧ ∀ k, k < n → u k = true → e i k = false := by
  have hirr : ∀ i, i < n → wr e n i i = false := anb_no.mp hr
  intro c
  induction c with
  | zero =>
    intro x hc hx hu
    refine ⟨x, hx, hu, fun k hk huk => ?_⟩
    cases he : e x k
    · rfl
    · have : cnt (fun _ => false) n < cnt (fun k => wr e n k x) n := cnt_lt (fun i _ h => absurd h (by decide)) ⟨k, hk, wr_base he, rfl⟩
      omega
  | succ c ih =>
    intro x hc hx hu
    by_cases h : ∃ k, k < n ∧ u k = true ∧ e x k = true
    · obtain ⟨k, hk, huk, he⟩ := h
      refine ih k ?_ hk huk
      have : cnt (fun y => wr e n y k) n < cnt (fun y => wr e n y x) n := cnt_lt (fun y _ hy => wr_trans hk hy (wr_base he)) ⟨k, hk, wr_base he, hirr k hk⟩
      omega
    · refine ⟨x, hx, hu, fun k hk huk => ?_⟩
      cases he : e x k
      · rfl
      · exact absurd ⟨k, hk, huk, he⟩ h
theorem pl_empty {e : Nat → Nat → Bool} {n : Nat} (hr : rg e n = false) (s : Nat → Bool) : ∀ t, (∃ t', t' ≤ t ∧ bs (pl e n s t') n = 0) ∨ cnt (pl e n s t) n + t ≤ n
  | 0 => Or.inr (cnt_le _ n)
  | t + 1 => by
    rcases pl_empty hr s t with ⟨t', a, b⟩ | h
    · exact Or.inl ⟨t', by omega, b⟩
    · by_cases h0 : bs (pl e n s t) n = 0
      · exact Or.inl ⟨t, by omega, h0⟩
      · right
        have : ∃ x, x < n ∧ pl e n s t x = true := by
          cases ha : anb (pl e n s t) n
          · exact absurd (bs_anb.mpr ha) h0
          · exact anb_iff.mp ha
        obtain ⟨x, hx, hux⟩ := this
        obtain ⟨i, hi, hui, hmin⟩ := mini hr _ x (Nat.le_refl _) hx hux
        have hf : fm e n (pl e n s t) i = true := by
          simp only [fm, Bool.and_eq_true, Bool.not_eq_true']
          refine ⟨hui, anb_no.mpr (fun k hk => ?_)⟩
          cases hk2 : pl e n s t k
          · simp
          · simp [hmin k hk hk2]
        have : cnt (pl e n s (t + 1)) n < cnt (pl e n s t) n := cnt_lt (fun k _ hk => by simp only [pl, Bool.and_eq_true] at hk; exact hk.1) ⟨i, hi, hui, by simp [pl, hf]⟩
        omega
/-- all come off, without a ring -/
theorem pl_all {e : Nat → Nat → Bool} {n : Nat} (hr : rg e n = false) (s : Nat → Bool) : ∃ t, t ≤ n ∧ bs (pl e n s t) n = 0 ∧ ∀ t', t' < t → ¬ bs (pl e n s t') n = 0 := by
  have : ∃ t', t' ≤ n ∧ bs (pl e n s t') n = 0 := by
    rcases pl_empty hr s n with h | h
    · exact h
    · refine ⟨n, Nat.le_refl n, bs_eq0.mpr (fun i hi => ?_)⟩
      cases hp : pl e n s n i
      · rfl
      · have : cnt (fun _ => false) n < cnt (pl e n s n) n := cnt_lt (fun i _ h => absurd h (by decide)) ⟨i, hi, hp, rfl⟩
        omega
  obtain ⟨t', a, b⟩ := this
  obtain ⟨u, c, d, f⟩ := least (p := fun t => bs (pl e n s t) n = 0) t' b
  exact ⟨u, by omega, d, f⟩
/-- a ring stays -/
theorem pl_ring {e : Nat → Nat → Bool} {n : Nat} (he : eIn e n) {s : Nat → Bool} (hs : ∀ j i, e j i = true → s j = true) (hr : rg e n = true) : ∀ t, ¬ bs (pl e n s t) n = 0 := by
  have key : ∀ t i, i < n → wr e n i i = true → pl e n s t i = true := by
    intro t
    induction t with
    | zero =>
      intro i hi h
      obtain ⟨p, a, _⟩ := wr_last (Nat.le_refl n) h
      exact hs i p a
    | succ t ih =>
      intro i hi h
      obtain ⟨p, a, b⟩ := wr_last (Nat.le_refl n) h
      have hp := (he i p a).1
      have hpp : wr e n p p = true := by
        rcases b with rfl | b
        · exact h
        · exact wr_trans hi (wr_base a) b
      simp only [pl, fm, Bool.and_eq_true, Bool.not_eq_true']
      refine ⟨ih i hi h, ?_⟩
      rw [anb_iff.mpr ⟨p, hp, by simp [a, ih p hp hpp]⟩]
      simp
  intro t h0
  obtain ⟨i, hi, h⟩ := anb_iff.mp hr
  have := bs_eq0.mp h0 i hi
  rw [key t i hi h] at this
  exact absurd this (by decide)
theorem e_G_surelyAheadOf (σ : xS) (τ : xL) {n : Nat} (h7 : n ≤ 7) (hG : GH σ n) {a : Nat → Nat → Bool} (hA : Ar σ 33 n (fun i => bs (a i) n)) {j : Nat} (hj : j < n) : Rn m_G_surelyAheadOf [.ref 31, .int (nI j)] σ τ (some (.int (nI (bs (fun i => a i j) n)))) σ τ := by
  intro Q h
  refine ev_go 100 [4] ?_
  refine ev_iter (M := m_G_surelyAheadOf) (pc := 4) (st := []) (g := x_g) (Q := Q) n (fun i => ([.ref 31, .int (nI j), .int (nI (bs (fun i => a i j) i)), .int (nI i)], σ, τ)) (fun i hi kk => ?_) ?_
  · dsimp only at kk ⊢
    refine ev_go 100 [4] ?_
    refine br_f (by rw [hG.1]; exact nI_ge hi (by omega)) ?_
    refine ⟨7, rfl, q_in (by omega) (by decide), ?_⟩
    rw [hA.get hi (by omega)]
    refine e_S_has σ τ (Nat.lt_trans (bs7 _ h7) (by decide)) (by omega) _ ?_
    have eb : (bs (a i) n).testBit j = a i j := by rw [bs_bit]; simp [hj]
    by_cases t : (bs (a i) n).testBit j = true
    · refine br_f (xb1 t) ?_
      rw [eb] at t
      show Ev m_G_surelyAheadOf 4 [.ref 31, .int (nI j), .int (nI (bs (fun i => a i j) i) ||| ((1 : Int32) <<< (nI i &&& 31))), .int (nI i + 1)] [] x_g σ τ Q
      rw [nI_1, q_shl1 (by omega), q_or, show bs (fun i => a i j) i ||| 2 ^ i = bs (fun i => a i j) (i + 1) by simp [bs, t]]
      exact kk
    · refine br_t (xb0 t) ?_
      rw [eb] at t
      show Ev m_G_surelyAheadOf 4 [.ref 31, .int (nI j), .int (nI (bs (fun i => a i j) i)), .int (nI i + 1)] [] x_g σ τ Q
      rw [nI_1, show bs (fun i => a i j) i = bs (fun i => a i j) (i + 1) by simp [bs, t]]
      exact kk
  · dsimp only
    refine ev_go 100 [4] ?_
    refine br_t (by rw [hG.1]; exact nI_le (Nat.le_refl _) (by omega)) ?_
    exact h
theorem e_G_foremostOf (σ : xS) (τ : xL) {n : Nat} (h7 : n ≤ 7) (hG : GH σ n) {e : Nat → Nat → Bool} (hB : Ar σ 32 7 (fun j => bs (e j) n)) (s : Nat → Bool) : Rn m_G_foremostOf [.ref 31, .int (nI (bs s n))] σ τ (some (.int (nI (bs (fm e n s) n)))) σ τ := by
  intro Q h
  refine ev_go 100 [4] ?_
  refine ev_iter (M := m_G_foremostOf) (pc := 4) (st := []) (g := x_g) (Q := Q) n (fun i => ([.ref 31, .int (nI (bs s n)), .int (nI (bs (fm e n s) i)), .int (nI i)], σ, τ)) (fun i hi kk => ?_) ?_
  · dsimp only at kk ⊢
    refine ev_go 100 [4] ?_
    refine br_f (by rw [hG.1]; exact nI_ge hi (by omega)) ?_
    refine e_S_has σ τ (Nat.lt_trans (bs7 _ h7) (by decide)) (by omega) _ ?_
    have eb : (bs s n).testBit i = s i := by rw [bs_bit]; simp [hi]
    by_cases t : (bs s n).testBit i = true
    · refine br_f (xb1 t) ?_
      rw [eb] at t
      refine ⟨7, rfl, q_in (by omega) (by decide), ?_⟩
      rw [hB.get (by omega) (by omega)]
      have ea : nI (bs (e i) n) &&& nI (bs s n) = nI (bs (fun k => e i k && s k) n) := by rw [q_and, bs_and]
      by_cases t2 : anb (fun k => e i k && s k) n = true
      · refine bn_t (by rw [ea]; exact fun z => by have := (nI_eq (b := 0) (Nat.lt_trans (bs7 _ h7) (by decide)) (by decide)).mp z; rw [bs_anb, t2] at this; exact absurd this (by decide)) ?_
        show Ev m_G_foremostOf 4 [.ref 31, .int (nI (bs s n)), .int (nI (bs (fm e n s) i)), .int (nI i + 1)] [] x_g σ τ Q
        rw [nI_1, show bs (fm e n s) i = bs (fm e n s) (i + 1) by simp [bs, fm, t2]]
        exact kk
      · refine bn_f (by rw [ea, bs_anb.mpr (by simpa using t2)]; rfl) ?_
        have hf : fm e n s i = true := by simp only [fm, t]; simpa using t2
        show Ev m_G_foremostOf 4 [.ref 31, .int (nI (bs s n)), .int (nI (bs (fm e n s) i) ||| ((1 : Int32) <<< (nI i &&& 31))), .int (nI i + 1)] [] x_g σ τ Q
        rw [nI_1, q_shl1 (by omega), q_or, show bs (fm e n s) i ||| 2 ^ i = bs (fm e n s) (i + 1) by simp [bs, hf]]
        exact kk
    · refine br_t (xb0 t) ?_
      rw [eb] at t
      show Ev m_G_foremostOf 4 [.ref 31, .int (nI (bs s n)), .int (nI (bs (fm e n s) i)), .int (nI i + 1)] [] x_g σ τ Q
      rw [nI_1, show bs (fm e n s) i = bs (fm e n s) (i + 1) by simp [bs, fm, t]]
      exact kk
  · dsimp only
    refine ev_go 100 [4] ?_
    refine br_t (by rw [hG.1]; exact nI_le (Nat.le_refl _) (by omega)) ?_
    exact h
theorem e_G_layersOf_step (σ : xS) (τ : xL) {n : Nat} (h7 : n ≤ 7) (hG : GH σ n) {e : Nat → Nat → Bool} (hB : Ar σ 32 7 (fun j => bs (e j) n)) (s : Nat → Bool) {Q : xQ} {i : Nat} (hi : i ≤ 7) (h0 : ¬ bs (pl e n s i) n = 0) (kk : Ev m_G_layersOf 4 [.ref 31, .int (nI (bs s n)), .int (nI (bs (pl e n s (i + 1)) n)), .int (nI (i + 1))] [] x_g σ τ Q) : Ev m_G_layersOf 4 [.ref 31, .int (nI (bs s n)), .int (nI (bs (pl e n s i) n)), .int (nI i)] [] x_g σ τ Q := by
  refine ev_go 100 [4] ?_
  refine br_f (nI_ne0 (Nat.pos_of_ne_zero h0) (Nat.lt_trans (bs7 _ h7) (by decide))) ?_
  refine br_f (fun z => Nat.not_lt.mpr hi ((q_ltI (a := 7) (by decide) (by omega)).mp z)) ?_
  refine e_G_foremostOf σ τ h7 hG hB (pl e n s i) _ ?_
  show Ev m_G_layersOf 4 [.ref 31, .int (nI (bs s n)), .int (nI (bs (pl e n s i) n) &&& (nI (bs (fm e n (pl e n s i)) n) ^^^ (-1))), .int (nI i + 1)] [] x_g σ τ Q
  rw [nI_1, q_nd, bs_nd]
  exact kk
theorem e_G_layersOf_ok (σ : xS) (τ : xL) {n : Nat} (h7 : n ≤ 7) (hG : GH σ n) {e : Nat → Nat → Bool} (hB : Ar σ 32 7 (fun j => bs (e j) n)) (s : Nat → Bool) {v : Int32} (hv : v = nI (bs s n)) {t : Nat} (ht : t ≤ 8) (h0 : bs (pl e n s t) n = 0) (h1 : ∀ t', t' < t → ¬ bs (pl e n s t') n = 0) : Rn m_G_layersOf [.ref 31, .int v] σ τ (some (.int (nI t))) σ τ := by
  intro Q h
  subst hv
  refine ev_go 100 [4] ?_
  refine ev_iter (M := m_G_layersOf) (pc := 4) (st := []) (g := x_g) (Q := Q) t (fun i => ([.ref 31, .int (nI (bs s n)), .int (nI (bs (pl e n s i) n)), .int (nI i)], σ, τ)) (fun i hi kk => e_G_layersOf_step σ τ h7 hG hB s (by omega) (h1 i hi) kk) ?_
  dsimp only
  rw [h0]
  refine ev_go 100 [] ?_
  refine br_t rfl ?_
  refine bn_f rfl ?_
  exact h
theorem e_G_layersOf_no (σ : xS) (τ : xL) {n : Nat} (h7 : n ≤ 7) (hG : GH σ n) {e : Nat → Nat → Bool} (hB : Ar σ 32 7 (fun j => bs (e j) n)) (s : Nat → Bool) {v : Int32} (hv : v = nI (bs s n)) (h1 : ∀ t', ¬ bs (pl e n s t') n = 0) : Rn m_G_layersOf [.ref 31, .int v] σ τ (some (.int (-1))) σ τ := by
  intro Q h
  subst hv
  refine ev_go 100 [4] ?_
  refine ev_iter (M := m_G_layersOf) (pc := 4) (st := []) (g := x_g) (Q := Q) 8 (fun i => ([.ref 31, .int (nI (bs s n)), .int (nI (bs (pl e n s i) n)), .int (nI i)], σ, τ)) (fun i hi kk => e_G_layersOf_step σ τ h7 hG hB s (by omega) (h1 i) kk) ?_
  dsimp only
  have hne := nI_ne0 (Nat.pos_of_ne_zero (h1 8)) (Nat.lt_trans (bs7 (pl e n s 8) h7) (by decide))
  refine ev_go 100 [] ?_
  refine br_f hne ?_
  refine br_t (by decide) ?_
  refine bn_t hne ?_
  exact h
/-- the edges of a pass -/
abbrev edP (P : xP) : Nat → Nat → Bool := ed P (tl P) (fun _ => true) (pw P == 1)
theorem edP_in {P : xP} (hV : PV P) : eIn (edP P) (pn P) := fun _ _ h => ⟨(ed_lt hV h).1, (ed_lt hV h).2.1⟩
/-- the graph's edges are told -/
def Gr (σ : xS) (n : Nat) (e : Nat → Nat → Bool) : Prop := GH σ n ∧ Ar σ 32 7 (fun j => bs (e j) n)
def Gc (σ : xS) (n : Nat) (e : Nat → Nat → Bool) : Prop := Gr σ n e ∧ Ar σ 33 n (fun i => bs (wr e n i) n)
theorem Gr.ag {σ σ' : xS} {n : Nat} {e : Nat → Nat → Bool} {L : List Nat} (h : Gr σ n e) (hA : Ag L σ σ') (h1 : 31 ∉ L) (h2 : 32 ∉ L) : Gr σ' n e := ⟨h.1.ag hA h1, h.2.ag hA h2⟩
theorem Gc.ag {σ σ' : xS} {n : Nat} {e : Nat → Nat → Bool} {L : List Nat} (h : Gc σ n e) (hA : Ag L σ σ') (h1 : 31 ∉ L) (h2 : 32 ∉ L) (h3 : 33 ∉ L) : Gc σ' n e := ⟨h.1.ag hA h1 h2, h.2.ag hA h3⟩
theorem e_S_closesToRing (σ : xS) (τ : xL) {P : xP} (hP : PC σ 17 P) (hV : PV P) : Rs m_S_closesToRing [.ref 0] σ τ (some (.int (x_b (rg (edP P) (pn P) = true)))) (fun σ' => Ag [31, 32, 33] σ σ' ∧ Gc σ' (pn P) (edP P)) := by
  intro Q h
  refine ev_go 100 [] ?_
  refine e_G_takeAll σ τ hP hV _ (fun σ1 h1 => ?_)
  refine e_G_close σ1 τ hV.1 h1.2.1 h1.2.2 _ (fun σ2 h2 => ?_)
  have hG := h1.2.1.ag h2.1 (by decide)
  have hB := h1.2.2.ag h2.1 (by decide)
  have fin := h σ2 ⟨(h1.1.mono (by decide)).trans (h2.1.mono (by decide)), ⟨hG, hB⟩, h2.2⟩
  have hv : σ2 31 1 = nI (bs (fun _ => true) (pn P)) := by rw [hG.2, bs_all]
  cases hr : rg (edP P) (pn P)
  · obtain ⟨t, a, b, c⟩ := pl_all hr (fun _ => true)
    refine e_G_layersOf_ok σ2 τ hV.1 hG hB (fun _ => true) hv (by have := hV.1; omega) b c _ ?_
    refine br_t (nI_le (a := 0) (Nat.zero_le _) (by have := hV.1; omega)) ?_
    rw [hr] at fin
    exact ⟨Or.inl rfl, fin⟩
  · refine e_G_layersOf_no σ2 τ hV.1 hG hB (fun _ => true) hv (pl_ring (edP_in hV) (fun _ _ _ => rfl) hr) _ ?_
    refine br_f (by decide) ?_
    rw [hr] at fin
    exact ⟨Or.inr rfl, fin⟩
end
section
/-! CALLS THAT ASK WHO WENT AHEAD -/
theorem Ag.cref {σ : xS} {f : Int32} : Ag [0, 48] σ (c_ref σ f) := by
  intro q hq
  simp only [List.mem_cons, List.not_mem_nil, or_false, not_or] at hq
  unfold c_ref
  rw [x_row_ne hq.2, x_row_ne hq.1]
theorem Ag.ctold {σ : xS} {v : Int32} : Ag [0] σ (c_told σ v) := by
  intro q hq
  simp only [List.mem_cons, List.not_mem_nil, or_false] at hq
  unfold c_told
  rw [x_row_ne hq]
theorem Rel.fnd {σ σ1 σ2 : xS} {τ : xL} {L1 L2 : List Nat} (hR : Rel σ τ) (h1 : Ag L1 σ σ1) (hL1 : ∀ q, q ∈ L1 → scrq q) {f : Nat} (hf : f < 6) (h2 : Ag L2 (c_ref σ1 (nI f)) σ2) (hL2 : ∀ q, q ∈ L2 → scrq q) : Rel (m_fnd σ2 (nI f)) τ := by
  refine ((hR.ag h1 hL1).find hf).ag (L := L2) (fun q hq => ?_) hL2
  have n67 : 67 ∉ L2 := fun z => by have := hL2 67 z; unfold scrq at this; omega
  have n68 : 68 ∉ L2 := fun z => by have := hL2 68 z; unfold scrq at this; omega
  unfold m_fnd
  by_cases e1 : q = 68
  · subst e1
    rw [x_row_eq, x_row_eq, h2 68 n68]
  · rw [x_row_ne e1, x_row_ne e1]
    by_cases e2 : q = 67
    · subst e2
      rw [x_row_eq, x_row_eq, h2 67 n67]
    · rw [x_row_ne e2, x_row_ne e2, h2 q hq]
theorem Rel.tld {σ σ1 σ2 : xS} {τ : xL} {L1 L2 : List Nat} (hR : Rel σ τ) (h1 : Ag L1 σ σ1) (hL1 : ∀ q, q ∈ L1 → scrq q) {v : Int32} (h2 : Ag L2 (c_told σ1 v) σ2) (hL2 : ∀ q, q ∈ L2 → scrq q) : Rel (m_told σ2 v) τ := by
  refine ((hR.ag h1 hL1).told v).ag (L := L2) (fun q hq => ?_) hL2
  have n67 : 67 ∉ L2 := fun z => by have := hL2 67 z; unfold scrq at this; omega
  unfold m_told
  by_cases e2 : q = 67
  · subst e2
    rw [x_row_eq, x_row_eq, h2 67 n67]
  · rw [x_row_ne e2, x_row_ne e2, h2 q hq]
theorem q_two {n : Nat} (hn : n ≤ 7) (i j : Int32) : ((¬ i < 0 ∧ ¬ nI n ≤ i) ∧ (¬ j < 0 ∧ ¬ nI n ≤ j) ∧ ¬ i = j) ↔ ∃ a b, a < n ∧ b < n ∧ a ≠ b ∧ i = nI a ∧ j = nI b := by
  rw [q_trk hn, q_trk hn]
  constructor
  · rintro ⟨⟨a, ha, rfl⟩, ⟨b, hb, rfl⟩, h⟩
    exact ⟨a, b, ha, hb, fun e => h (by rw [e]), rfl, rfl⟩
  · rintro ⟨a, b, ha, hb, hab, rfl, rfl⟩
    exact ⟨⟨a, ha, rfl⟩, ⟨b, hb, rfl⟩, fun e => hab ((nI_eq (by omega) (by omega)).mp e)⟩
theorem ed00 (P : xP) (w : Bool) : ed P (fT P 0 0) (tT 0) w = ed P (tl P) (fun _ => true) w := by
  have h1 : fT P 0 0 = tl P := by funext k; simp [fT]
  have h2 : tT 0 = fun _ => true := by funext k; simp [tT]
  rw [h1, h2]
/-- the model's edges are told -/
def Mr (σ : xS) (n : Nat) (e : Nat → Nat → Bool) : Prop := Ar σ 85 7 (fun j => bs (e j) n)
def Mc (σ : xS) (n : Nat) (e : Nat → Nat → Bool) : Prop := Mr σ n e ∧ Ar σ 86 n (fun j => bs (fun i => wr e n i j) n)
theorem e_M_findNow (σ : xS) (τ : xL) {P : xP} (hP : PM σ P) (hV : PV P) : Rs m_M_findNow [.ref 67] σ τ none (fun σ' => Ag [85, 86] σ σ' ∧ Mc σ' (pn P) (edP P)) := by
  intro Q h
  refine ev_go 100 [] ?_
  refine e_M_findAhead σ τ hP hV (a := 0) (b := 0) (by decide) (by decide) hV.2.2.1 hP.2.2.1 _ (fun σ1 h1 => ?_)
  rw [ed00] at h1
  have hP1 := hP.ag h1.1 (by decide)
  refine e_M_findSurely σ1 τ hV.1 hP1.1 (h1.2.mono hV.1) _ (fun σ2 h2 => ?_)
  exact h σ2 ⟨(h1.1.mono (by decide)).trans (h2.1.mono (by decide)), h1.2.ag h2.1 (by decide), h2.2⟩
theorem e_M_isRingNow (σ : xS) (τ : xL) {P : xP} (hP : PM σ P) (hV : PV P) : Rs m_M_isRingNow [.ref 67] σ τ (some (.int (x_b (rg (edP P) (pn P) = true)))) (fun σ' => Ag [85, 86] σ σ' ∧ Mc σ' (pn P) (edP P)) := by
  intro Q h
  refine ev_go 100 [] ?_
  refine e_M_findAhead σ τ hP hV (a := 0) (b := 0) (by decide) (by decide) hV.2.2.1 hP.2.2.1 _ (fun σ1 h1 => ?_)
  rw [ed00] at h1
  have hP1 := hP.ag h1.1 (by decide)
  refine e_M_isRing σ1 τ hV.1 hP1.1 (h1.2.mono hV.1) _ (fun σ2 h2 => ?_)
  exact ⟨x_b_01, h σ2 ⟨(h1.1.mono (by decide)).trans (h2.1.mono (by decide)), h1.2.ag h2.1 (by decide), h2.2⟩⟩
theorem b31 {f : Nat → Bool} {n : Nat} (h : n ≤ 7) : bs f n < 2 ^ 31 := Nat.lt_trans (bs7 _ h) (by decide)
theorem pair_ahead (i j : Int32) : Pair m_S_ahead m_M_ahead [.int i, .int j] := by
  intro σ τ hR
  obtain ⟨P, hC, hM, hV, hK⟩ := hR.2.2.1
  have h7 := hV.1
  refine ev_go 100 [] ?_
  refine e_P_areTwo σ τ i j _ ?_
  rw [hC.1]
  by_cases h2 : ((¬ i < 0 ∧ ¬ nI (pn P) ≤ i) ∧ (¬ j < 0 ∧ ¬ nI (pn P) ≤ j) ∧ ¬ i = j)
  · refine bn_t (xb1 h2) ?_
    refine e_G_takeAll σ τ hC hV _ (fun σ1 h1 => ?_)
    obtain ⟨a, b, ha, hb, hab, rfl, rfl⟩ := (q_two hV.1 i j).mp h2
    refine ⟨7, rfl, q_in (by omega) (by decide), ?_⟩
    rw [h1.2.2.get (by omega) (by omega)]
    have fin : Ev m_M_ahead 0 (x_loc [.ref 67, .int (nI a), .int (nI b)] m_M_ahead.2.2.1) [] x_g σ1 τ (fun r2 g2 σ2 τ2 => g2 = x_g ∧ some (.int (nI (if (bs (edP P b) (pn P)).testBit a then 1 else 0))) = r2 ∧ (∃ v, some (Value.int (nI (if (bs (edP P b) (pn P)).testBit a then 1 else 0))) = some v) ∧ Rel σ2 τ2) := by
      have hM1 := hM.ag h1.1 (by decide)
      refine ev_go 100 [] ?_
      refine e_M_arePair σ1 τ hM1 hV _ _ _ ?_
      refine bn_t (xb1 h2) ?_
      refine e_M_findNow σ1 τ hM1 hV _ (fun σ2 h3 => ?_)
      refine ⟨7, rfl, q_in (by omega) (by decide), ?_⟩
      rw [Ar.get (A := fun j => bs (edP P j) (pn P)) h3.2.1 (by omega) (by omega)]
      refine ⟨rfl, ?_, ⟨_, rfl⟩, (hR.ag h1.1 (by decide)).ag h3.1 (by decide)⟩
      rw [q_bit (b31 h7) (by omega)]
    refine e_S_has σ1 τ (b31 h7) (by omega) _ ?_
    by_cases t : (bs (edP P b) (pn P)).testBit a = true
    · refine br_f (xb1 t) ?_
      rw [if_pos t] at fin
      exact ⟨rfl, fin⟩
    · refine br_t (xb0 t) ?_
      rw [if_neg t] at fin
      exact ⟨rfl, fin⟩
  · refine bn_f (xb0 h2) ?_
    refine ⟨rfl, ?_⟩
    refine ev_go 100 [] ?_
    refine e_M_arePair σ τ hM hV _ _ _ ?_
    refine bn_f (xb0 h2) ?_
    exact ⟨rfl, rfl, ⟨_, rfl⟩, hR⟩
theorem pair_sure (i j : Int32) : Pair m_S_sure m_M_sure [.int i, .int j] := by
  intro σ τ hR
  obtain ⟨P, hC, hM, hV, hK⟩ := hR.2.2.1
  have h7 := hV.1
  refine ev_go 100 [] ?_
  refine e_P_areTwo σ τ i j _ ?_
  rw [hC.1]
  by_cases h2 : ((¬ i < 0 ∧ ¬ nI (pn P) ≤ i) ∧ (¬ j < 0 ∧ ¬ nI (pn P) ≤ j) ∧ ¬ i = j)
  · refine bn_t (xb1 h2) ?_
    refine e_S_closesToRing σ τ hC hV _ (fun σ1 h1 => ?_)
    have hM1 := hM.ag h1.1 (by decide)
    by_cases hr : rg (edP P) (pn P) = true
    · refine br_f (xb1 hr) ?_
      refine e_S_refuse σ1 τ 4 in4 _ ?_
      refine ⟨rfl, ?_⟩
      have hM2 := hM1.ag (Ag.cref (f := 4)) (by decide)
      refine ev_go 100 [] ?_
      refine e_M_arePair _ τ hM2 hV _ _ _ ?_
      refine bn_t (xb1 h2) ?_
      refine e_M_isRingNow _ τ hM2 hV _ (fun σ2 h3 => ?_)
      refine br_f (xb1 hr) ?_
      refine e_M_finds σ2 τ 4 in4 _ ?_
      exact ⟨rfl, rfl, ⟨_, rfl⟩, hR.fnd h1.1 (by decide) (f := 4) (by decide) h3.1 (by decide)⟩
    · refine br_t (xb0 hr) ?_
      obtain ⟨a, b, ha, hb, hab, rfl, rfl⟩ := (q_two hV.1 i j).mp h2
      have e1 : (bs (wr (edP P) (pn P) a) (pn P)).testBit b = wr (edP P) (pn P) a b := by rw [bs_bit]; simp [hb]
      have e2 : (bs (wr (edP P) (pn P) b) (pn P)).testBit a = wr (edP P) (pn P) b a := by rw [bs_bit]; simp [ha]
      have f1 : (bs (fun x => wr (edP P) (pn P) x b) (pn P)).testBit a = wr (edP P) (pn P) a b := by rw [bs_bit]; simp [ha]
      have f2 : (bs (fun x => wr (edP P) (pn P) x a) (pn P)).testBit b = wr (edP P) (pn P) b a := by rw [bs_bit]; simp [hb]
      have mod : ∀ v : Int32, (v = if wr (edP P) (pn P) a b = true then 1 else if wr (edP P) (pn P) b a = true then 2 else 0) → Ev m_M_sure 0 (x_loc [.ref 67, .int (nI a), .int (nI b)] m_M_sure.2.2.1) [] x_g σ1 τ (fun r2 g2 σ2 τ2 => g2 = x_g ∧ some (.int v) = r2 ∧ (∃ w, some (Value.int v) = some w) ∧ Rel σ2 τ2) := by
        intro v hv
        refine ev_go 100 [] ?_
        refine e_M_arePair _ τ hM1 hV _ _ _ ?_
        refine bn_t (xb1 h2) ?_
        refine e_M_isRingNow _ τ hM1 hV _ (fun σ2 h3 => ?_)
        have hfin := (hR.ag h1.1 (by decide)).ag h3.1 (by decide)
        refine br_t (xb0 hr) ?_
        refine ⟨7, rfl, q_in (by omega) (by decide), ?_⟩
        rw [h3.2.2.get (by omega) (by omega)]
        refine e_M_has σ2 τ (b31 h7) (by omega) _ ?_
        by_cases t : (bs (fun x => wr (edP P) (pn P) x b) (pn P)).testBit a = true
        · refine br_f (xb1 t) ?_
          rw [f1] at t
          rw [if_pos t] at hv
          subst hv
          exact ⟨rfl, rfl, ⟨_, rfl⟩, hfin⟩
        · refine br_t (xb0 t) ?_
          rw [f1] at t
          rw [if_neg t] at hv
          refine ⟨7, rfl, q_in (by omega) (by decide), ?_⟩
          rw [h3.2.2.get (by omega) (by omega)]
          refine e_M_has σ2 τ (b31 h7) (by omega) _ ?_
          by_cases t2 : (bs (fun x => wr (edP P) (pn P) x a) (pn P)).testBit b = true
          · refine br_f (xb1 t2) ?_
            rw [f2] at t2
            rw [if_pos t2] at hv
            subst hv
            exact ⟨rfl, rfl, ⟨_, rfl⟩, hfin⟩
          · refine br_t (xb0 t2) ?_
            rw [f2] at t2
            rw [if_neg t2] at hv
            subst hv
            exact ⟨rfl, rfl, ⟨_, rfl⟩, hfin⟩
      refine ⟨7, rfl, q_in (by omega) (by decide), ?_⟩
      rw [h1.2.2.get (by omega) (by omega)]
      refine e_S_has σ1 τ (b31 h7) (by omega) _ ?_
      by_cases t : (bs (wr (edP P) (pn P) a) (pn P)).testBit b = true
      · refine br_f (xb1 t) ?_
        rw [e1] at t
        exact ⟨rfl, mod _ (by rw [if_pos t])⟩
      · refine br_t (xb0 t) ?_
        rw [e1] at t
        refine ⟨7, rfl, q_in (by omega) (by decide), ?_⟩
        rw [h1.2.2.get (by omega) (by omega)]
        refine e_S_has σ1 τ (b31 h7) (by omega) _ ?_
        by_cases t2 : (bs (wr (edP P) (pn P) b) (pn P)).testBit a = true
        · refine br_f (xb1 t2) ?_
          rw [e2] at t2
          exact ⟨rfl, mod _ (by rw [if_neg t, if_pos t2])⟩
        · refine br_t (xb0 t2) ?_
          rw [e2] at t2
          exact ⟨rfl, mod _ (by rw [if_neg t, if_neg t2])⟩
  · refine bn_f (xb0 h2) ?_
    refine ⟨rfl, ?_⟩
    refine ev_go 100 [] ?_
    refine e_M_arePair σ τ hM hV _ _ _ ?_
    refine bn_f (xb0 h2) ?_
    exact ⟨rfl, rfl, ⟨_, rfl⟩, hR⟩
theorem e_M_behind (σ : xS) (τ : xL) {n : Nat} (h7 : n ≤ 7) (hG : σ 67 10 = nI n) {a : Nat → Nat → Bool} (hA : Ar σ 86 n (fun j => bs (fun i => a i j) n)) {i : Nat} (hi : i < n) : Rn m_M_behind [.ref 67, .int (nI i)] σ τ (some (.int (nI (cnt (a i) n)))) σ τ := by
  intro Q h
  refine ev_go 100 [4] ?_
  refine ev_iter (M := m_M_behind) (pc := 4) (st := []) (g := x_g) (Q := Q) n (fun k => ([.ref 67, .int (nI i), .int (nI (cnt (a i) k)), .int (nI k)], σ, τ)) (fun k hk kk => ?_) ?_
  · dsimp only at kk ⊢
    refine ev_go 100 [4] ?_
    refine br_f (by rw [hG]; exact nI_ge hk (by omega)) ?_
    refine ⟨7, rfl, q_in (by omega) (by decide), ?_⟩
    rw [hA.get hk (by omega)]
    show Ev m_M_behind 4 [.ref 67, .int (nI i), .int (nI (cnt (a i) k) + ((nI (bs (fun x => a x k) n) >>> (nI i &&& 31)) &&& 1)), .int (nI k + 1)] [] x_g σ τ Q
    rw [nI_1, q_bit (b31 h7) (by omega), nI_add, show (bs (fun x => a x k) n).testBit i = a i k by rw [bs_bit]; simp [hi]]
    exact kk
  · dsimp only
    refine ev_go 100 [4] ?_
    refine br_t (by rw [hG]; exact nI_le (Nat.le_refl _) (by omega)) ?_
    exact h
theorem pair_place (i : Int32) : Pair m_S_place m_M_place [.int i] := by
  intro σ τ hR
  obtain ⟨P, hC, hM, hV, hK⟩ := hR.2.2.1
  have h7 := hV.1
  refine ev_go 100 [] ?_
  refine e_P_isTrack σ τ i _ ?_
  rw [hC.1]
  by_cases h2 : (¬ i < 0 ∧ ¬ nI (pn P) ≤ i)
  · refine bn_t (xb1 h2) ?_
    refine e_S_closesToRing σ τ hC hV _ (fun σ1 h1 => ?_)
    have hM1 := hM.ag h1.1 (by decide)
    have hC1 := hC.ag h1.1 (by decide)
    by_cases hr : rg (edP P) (pn P) = true
    · refine br_f (xb1 hr) ?_
      refine e_S_refuse σ1 τ 4 in4 _ ?_
      refine ⟨rfl, ?_⟩
      have hM2 := hM1.ag (Ag.cref (f := 4)) (by decide)
      refine ev_go 100 [] ?_
      refine e_M_isTrack _ τ hM2 hV _ _ ?_
      refine bn_t (xb1 h2) ?_
      refine e_M_isRingNow _ τ hM2 hV _ (fun σ2 h3 => ?_)
      refine br_f (xb1 hr) ?_
      refine e_M_finds σ2 τ 4 in4 _ ?_
      exact ⟨rfl, rfl, ⟨_, rfl⟩, hR.fnd h1.1 (by decide) (f := 4) (by decide) h3.1 (by decide)⟩
    · refine br_t (xb0 hr) ?_
      obtain ⟨a, ha, rfl⟩ := (q_trk hV.1 i).mp h2
      refine ⟨7, rfl, q_in (by omega) (by decide), ?_⟩
      rw [h1.2.2.get (by omega) (by omega)]
      refine e_J_bitCount σ1 τ (bs7 _ h7) _ ?_
      refine e_G_surelyAheadOf _ τ h7 (n := pn P) (a := wr (edP P) (pn P)) (h1.2.1.1.ag (Ag.ctold (v := _)) (by decide)) (h1.2.2.ag (Ag.ctold (v := _)) (by decide)) ha _ ?_
      refine e_J_bitCount _ τ (bs7 _ h7) _ ?_
      refine ⟨rfl, ?_⟩
      rw [pp_bs _ (by omega), pp_bs _ (by omega), hC1.1]
      generalize hv : nI (pn P) - 1 - nI (cnt (wr (edP P) (pn P) a) (pn P)) = v
      have hM2 := hM1.ag (Ag.ctold (v := v)) (by decide)
      refine ev_go 100 [] ?_
      refine e_M_isTrack _ τ hM2 hV _ _ ?_
      refine bn_t (xb1 h2) ?_
      refine e_M_isRingNow _ τ hM2 hV _ (fun σ2 h3 => ?_)
      refine br_t (xb0 hr) ?_
      have hM3 := hM2.ag h3.1 (by decide)
      refine e_M_behind σ2 τ h7 hM3.1 h3.2.2 ha _ ?_
      refine ⟨7, rfl, q_in (by omega) (by decide), ?_⟩
      rw [h3.2.2.get (by omega) (by omega)]
      refine e_M_bits σ2 τ (b31 h7) _ ?_
      refine e_M_tells σ2 τ _ _ _ ?_
      rw [pp_bs _ (by omega), hM3.1, hv]
      exact ⟨rfl, rfl, ⟨_, rfl⟩, hR.tld h1.1 (by decide) h3.1 (by decide)⟩
  · refine bn_f (xb0 h2) ?_
    refine ⟨rfl, ?_⟩
    refine ev_go 100 [] ?_
    refine e_M_isTrack σ τ hM hV _ _ ?_
    refine bn_f (xb0 h2) ?_
    exact ⟨rfl, rfl, ⟨_, rfl⟩, hR⟩
theorem e_M_isBetween (σ : xS) (τ : xL) {n : Nat} (h7 : n ≤ 7) (hG : σ 67 10 = nI n) {a : Nat → Nat → Bool} (hA : Ar σ 86 n (fun j => bs (fun i => a i j) n)) {i j : Nat} (hi : i < n) (hj : j < n) : Rn m_M_isBetween [.ref 67, .int (nI i), .int (nI j)] σ τ (some (.int (x_b (anb (fun k => a i k && a k j) n = true)))) σ τ := by
  intro Q h
  refine ev_go 100 [5] ?_
  refine ev_iter (M := m_M_isBetween) (pc := 5) (st := []) (g := x_g) (Q := Q) n (fun k => ([.ref 67, .int (nI i), .int (nI j), .int (x_b (anb (fun k => a i k && a k j) k = true)), .int (nI k)], σ, τ)) (fun k hk kk => ?_) ?_
  · dsimp only at kk ⊢
    have join : Ev m_M_isBetween 51 [.ref 67, .int (nI i), .int (nI j), .int (x_b (anb (fun k => a i k && a k j) k = true)), .int (nI k)] [.int (x_b (anb (fun k => a i k && a k j) (k + 1) = true))] x_g σ τ Q := by
      refine ev_go 100 [5] ?_
      show Ev m_M_isBetween 5 [.ref 67, .int (nI i), .int (nI j), .int (x_b (anb (fun k => a i k && a k j) (k + 1) = true)), .int (nI k + 1)] [] x_g σ τ Q
      rw [nI_1]
      exact kk
    refine ev_go 100 [51] ?_
    refine br_f (by rw [hG]; exact nI_ge hk (by omega)) ?_
    by_cases t0 : anb (fun k => a i k && a k j) k = true
    · refine bn_t (xb1 t0) ?_
      rw [x_b_t (p := anb (fun k => a i k && a k j) (k + 1) = true) (by simp [anb, t0])] at join
      exact join
    refine bn_f (xb0 t0) ?_
    refine ⟨7, rfl, q_in (by omega) (by decide), ?_⟩
    rw [hA.get hk (by omega)]
    refine e_M_has σ τ (b31 h7) (by omega) _ ?_
    have e1 : (bs (fun x => a x k) n).testBit i = a i k := by rw [bs_bit]; simp [hi]
    have e2 : (bs (fun x => a x j) n).testBit k = a k j := by rw [bs_bit]; simp [hk]
    by_cases t1 : (bs (fun x => a x k) n).testBit i = true
    · refine br_f (xb1 t1) ?_
      rw [e1] at t1
      refine ⟨7, rfl, q_in (by omega) (by decide), ?_⟩
      rw [hA.get hj (by omega)]
      refine e_M_has σ τ (b31 h7) (by omega) _ ?_
      by_cases t2 : (bs (fun x => a x j) n).testBit k = true
      · refine br_f (xb1 t2) ?_
        rw [e2] at t2
        rw [x_b_t (p := anb (fun k => a i k && a k j) (k + 1) = true) (by simp [anb, t1, t2])] at join
        exact join
      · refine br_t (xb0 t2) ?_
        rw [e2] at t2
        rw [x_b_f (p := anb (fun k => a i k && a k j) (k + 1) = true) (by simp only [anb, Bool.or_eq_true, Bool.and_eq_true]; exact fun z => z.elim t0 (fun y => t2 y.2))] at join
        exact join
    · refine br_t (xb0 t1) ?_
      rw [e1] at t1
      rw [x_b_f (p := anb (fun k => a i k && a k j) (k + 1) = true) (by simp only [anb, Bool.or_eq_true, Bool.and_eq_true]; exact fun z => z.elim t0 (fun y => t1 y.1))] at join
      exact join
  · dsimp only
    refine ev_go 100 [5] ?_
    refine br_t (by rw [hG]; exact nI_le (Nat.le_refl _) (by omega)) ?_
    exact ⟨x_b_01, h⟩
theorem pair_meet (i j : Int32) : Pair m_S_meet m_M_meet [.int i, .int j] := by
  intro σ τ hR
  obtain ⟨P, hC, hM, hV, hK⟩ := hR.2.2.1
  have h7 := hV.1
  refine ev_go 100 [] ?_
  refine e_P_areTwo σ τ i j _ ?_
  rw [hC.1]
  by_cases h2 : ((¬ i < 0 ∧ ¬ nI (pn P) ≤ i) ∧ (¬ j < 0 ∧ ¬ nI (pn P) ≤ j) ∧ ¬ i = j)
  · refine bn_t (xb1 h2) ?_
    refine e_S_closesToRing σ τ hC hV _ (fun σ1 h1 => ?_)
    have hM1 := hM.ag h1.1 (by decide)
    by_cases hr : rg (edP P) (pn P) = true
    · refine br_f (xb1 hr) ?_
      refine e_S_refuse σ1 τ 4 in4 _ ?_
      refine ⟨rfl, ?_⟩
      have hM2 := hM1.ag (Ag.cref (f := 4)) (by decide)
      refine ev_go 100 [] ?_
      refine e_M_arePair _ τ hM2 hV _ _ _ ?_
      refine bn_t (xb1 h2) ?_
      refine e_M_isRingNow _ τ hM2 hV _ (fun σ2 h3 => ?_)
      refine br_f (xb1 hr) ?_
      refine e_M_finds σ2 τ 4 in4 _ ?_
      exact ⟨rfl, rfl, ⟨_, rfl⟩, hR.fnd h1.1 (by decide) (f := 4) (by decide) h3.1 (by decide)⟩
    · refine br_t (xb0 hr) ?_
      obtain ⟨a, b, ha, hb, hab, rfl, rfl⟩ := (q_two hV.1 i j).mp h2
      have mod : ∀ v : Int32, (v = if anb (fun k => wr (edP P) (pn P) a k && wr (edP P) (pn P) k b) (pn P) = true ∨ anb (fun k => wr (edP P) (pn P) b k && wr (edP P) (pn P) k a) (pn P) = true then 0 else 1) → Ev m_M_meet 0 (x_loc [.ref 67, .int (nI a), .int (nI b)] m_M_meet.2.2.1) [] x_g σ1 τ (fun r2 g2 σ2 τ2 => g2 = x_g ∧ some (.int v) = r2 ∧ (∃ w, some (Value.int v) = some w) ∧ Rel σ2 τ2) := by
        intro v hv
        refine ev_go 100 [] ?_
        refine e_M_arePair _ τ hM1 hV _ _ _ ?_
        refine bn_t (xb1 h2) ?_
        refine e_M_isRingNow _ τ hM1 hV _ (fun σ2 h3 => ?_)
        have hfin := (hR.ag h1.1 (by decide)).ag h3.1 (by decide)
        have hM2 := hM1.ag h3.1 (by decide)
        refine br_t (xb0 hr) ?_
        refine e_M_isBetween σ2 τ h7 hM2.1 h3.2.2 ha hb _ ?_
        by_cases t1 : anb (fun k => wr (edP P) (pn P) a k && wr (edP P) (pn P) k b) (pn P) = true
        · refine bn_t (xb1 t1) ?_
          rw [if_pos (Or.inl t1)] at hv
          subst hv
          exact ⟨rfl, rfl, ⟨_, rfl⟩, hfin⟩
        · refine bn_f (xb0 t1) ?_
          refine e_M_isBetween σ2 τ h7 hM2.1 h3.2.2 hb ha _ ?_
          by_cases t2 : anb (fun k => wr (edP P) (pn P) b k && wr (edP P) (pn P) k a) (pn P) = true
          · refine br_f (xb1 t2) ?_
            rw [if_pos (Or.inr t2)] at hv
            subst hv
            exact ⟨rfl, rfl, ⟨_, rfl⟩, hfin⟩
          · refine br_t (xb0 t2) ?_
            rw [if_neg (fun z => z.elim t1 t2)] at hv
            subst hv
            exact ⟨rfl, rfl, ⟨_, rfl⟩, hfin⟩
      refine ⟨7, rfl, q_in (by omega) (by decide), ?_⟩
      rw [h1.2.2.get (by omega) (by omega)]
      refine e_G_surelyAheadOf σ1 τ h7 h1.2.1.1 h1.2.2 hb _ ?_
      refine ⟨7, rfl, q_in (by omega) (by decide), ?_⟩
      rw [h1.2.2.get (by omega) (by omega)]
      refine e_G_surelyAheadOf σ1 τ h7 h1.2.1.1 h1.2.2 ha _ ?_
      have ev : (nI (bs (wr (edP P) (pn P) a) (pn P)) &&& nI (bs (fun i => wr (edP P) (pn P) i b) (pn P))) ||| (nI (bs (wr (edP P) (pn P) b) (pn P)) &&& nI (bs (fun i => wr (edP P) (pn P) i a) (pn P))) = nI (bs (fun k => (wr (edP P) (pn P) a k && wr (edP P) (pn P) k b) || (wr (edP P) (pn P) b k && wr (edP P) (pn P) k a)) (pn P)) := by
        rw [q_and, q_and, bs_and, bs_and, q_or, bs_orb]
      have hiff : bs (fun k => (wr (edP P) (pn P) a k && wr (edP P) (pn P) k b) || (wr (edP P) (pn P) b k && wr (edP P) (pn P) k a)) (pn P) = 0 ↔ ¬ (anb (fun k => wr (edP P) (pn P) a k && wr (edP P) (pn P) k b) (pn P) = true ∨ anb (fun k => wr (edP P) (pn P) b k && wr (edP P) (pn P) k a) (pn P) = true) := by
        rw [bs_eq0, not_or, Bool.not_eq_true, Bool.not_eq_true, anb_no, anb_no]
        constructor
        · intro h
          exact ⟨fun k hk => (Bool.or_eq_false_iff.mp (h k hk)).1, fun k hk => (Bool.or_eq_false_iff.mp (h k hk)).2⟩
        · intro h k hk
          exact Bool.or_eq_false_iff.mpr ⟨h.1 k hk, h.2 k hk⟩
      by_cases hz : bs (fun k => (wr (edP P) (pn P) a k && wr (edP P) (pn P) k b) || (wr (edP P) (pn P) b k && wr (edP P) (pn P) k a)) (pn P) = 0
      · refine bn_f (by rw [ev, hz]; rfl) ?_
        exact ⟨rfl, mod _ (by rw [if_neg (hiff.mp hz)])⟩
      · refine bn_t (by rw [ev]; exact nI_ne0 (Nat.pos_of_ne_zero hz) (b31 h7)) ?_
        exact ⟨rfl, mod _ (by rw [if_pos (Classical.not_not.mp (fun z => hz (hiff.mpr z)))])⟩
  · refine bn_f (xb0 h2) ?_
    refine ⟨rfl, ?_⟩
    refine ev_go 100 [] ?_
    refine e_M_arePair σ τ hM hV _ _ _ ?_
    refine bn_f (xb0 h2) ?_
    exact ⟨rfl, rfl, ⟨_, rfl⟩, hR⟩
end
section
/-! CHAINS -/
theorem cnt_all {f : Nat → Bool} : ∀ {n : Nat}, (∀ i, i < n → f i = true) → cnt f n = n
  | 0, _ => rfl
  | n + 1, h => by
    simp only [cnt]
    rw [cnt_all (n := n) (fun i hi => h i (by omega)), if_pos (h n (by omega))]
theorem dec_le {f : Nat → Bool} (hd : ∀ t, f (t + 1) = true → f t = true) : ∀ {t u : Nat}, u ≤ t → f t = true → f u = true := by
  intro t
  induction t with
  | zero => intro u hu h; rwa [show u = 0 by omega]
  | succ t ih =>
    intro u hu h
    by_cases e : u = t + 1
    · rwa [e]
    · exact ih (by omega) (hd t h)
theorem dec_cnt {f : Nat → Bool} (hd : ∀ t, f (t + 1) = true → f t = true) : ∀ N t, t < N → (f t = true ↔ t < cnt f N)
  | 0, t, h => absurd h (Nat.not_lt_zero t)
  | N + 1, t, h => by
    simp only [cnt]
    by_cases hN : f N = true
    · rw [cnt_all (n := N) (fun i hi => dec_le hd (by omega) hN), if_pos hN]
      exact ⟨fun _ => h, fun _ => dec_le hd (by omega) hN⟩
    · rw [if_neg hN]
      by_cases e : t = N
      · subst e
        have := cnt_le f t
        constructor
        · exact fun z => absurd z hN
        · intro z
          omega
      · have := dec_cnt hd N t (by omega)
        rwa [Nat.add_zero]
/-- in how many layers a track still is -/
def ly (e : Nat → Nat → Bool) (n : Nat) (s : Nat → Bool) (x : Nat) : Nat := cnt (fun t => pl e n s t x) 9
theorem ly_iff {e : Nat → Nat → Bool} {n : Nat} {s : Nat → Bool} {x t : Nat} (ht : t < 9) : pl e n s t x = true ↔ t < ly e n s x := dec_cnt (f := fun t => pl e n s t x) (fun t h => by simp only [pl, Bool.and_eq_true] at h; exact h.1) 9 t ht
theorem pl_sub {e : Nat → Nat → Bool} {n : Nat} {s : Nat → Bool} {x : Nat} : ∀ {t : Nat}, pl e n s t x = true → s x = true
  | 0, h => h
  | t + 1, h => by
    simp only [pl, Bool.and_eq_true] at h
    exact pl_sub h.1
section LY
variable {e : Nat → Nat → Bool} {n : Nat} {s : Nat → Bool} (h7 : n ≤ 7) (hr : rg e n = false)
theorem ly_le (h7 : n ≤ 7) (hr : rg e n = false) {t : Nat} (ht : t ≤ 8) (h0 : bs (pl e n s t) n = 0) {x : Nat} (hx : x < n) : ly e n s x ≤ t := by
  have := bs_eq0.mp h0 x hx
  have h2 := @ly_iff e n s x t (by omega)
  rw [this] at h2
  simp at h2
  omega
theorem ly_le7 (h7 : n ≤ 7) (hr : rg e n = false) {x : Nat} (hx : x < n) : ly e n s x ≤ n := by
  obtain ⟨t, a, b, _⟩ := pl_all hr s
  have := ly_le h7 hr (s := s) (by omega) b hx
  omega
theorem ly_pos {x : Nat} (hs : s x = true) : 1 ≤ ly e n s x := (@ly_iff e n s x 0 (by decide)).mp hs
theorem ly_dir (h7 : n ≤ 7) (hr : rg e n = false) {x k : Nat} (hx : x < n) (hk : k < n) (hs : s x = true) (he : e x k = true) : ly e n s k < ly e n s x := by
  have h1 := ly_pos (e := e) (n := n) hs
  have h8 := ly_le7 (s := s) h7 hr hx
  have a := (@ly_iff e n s x (ly e n s x - 1) (by omega)).mpr (by omega)
  have b : ¬ pl e n s (ly e n s x - 1 + 1) x = true := by
    rw [ly_iff (by omega)]
    omega
  simp only [pl, a, Bool.true_and, Bool.not_eq_true', Bool.not_eq_false, fm] at b
  have c := anb_no.mp (by simpa using b) k hk
  simp only [he, Bool.true_and] at c
  have d := @ly_iff e n s k (ly e n s x - 1) (by omega)
  rw [c] at d
  simp at d
  omega
theorem ly_pred (h7 : n ≤ 7) (hr : rg e n = false) {x : Nat} (hx : x < n) (h1 : 1 < ly e n s x) : ∃ k, k < n ∧ e x k = true ∧ s k = true ∧ ly e n s k + 1 = ly e n s x := by
  have h8 := ly_le7 (s := s) h7 hr hx
  obtain ⟨t, ht⟩ : ∃ t, ly e n s x = t + 2 := ⟨ly e n s x - 2, by omega⟩
  have a := (@ly_iff e n s x (t + 1) (by omega)).mpr (by omega)
  have hs : s x = true := pl_sub a
  simp only [pl, fm, Bool.and_eq_true, Bool.not_eq_true'] at a
  have b : anb (fun k => e x k && pl e n s t k) n = true := by
    have := a.2
    rw [a.1] at this
    simpa using this
  obtain ⟨k, hk, hb⟩ := anb_iff.mp b
  simp only [Bool.and_eq_true] at hb
  have c := (@ly_iff e n s k t (by omega)).mp hb.2
  have d := ly_dir h7 hr hx hk hs hb.1
  exact ⟨k, hk, hb.1, pl_sub hb.2, by omega⟩
theorem ly_wr (h7 : n ≤ 7) (hr : rg e n = false) (he : eIn e n) (hup : ∀ j i, e j i = true → s i = true → s j = true) {i j : Nat} (h : wr e n i j = true) (hi : s i = true) : s j = true ∧ ly e n s i < ly e n s j := by
  have := wr_min (e := e) (n := n) (R := fun i j => decide (s i = true → s j = true ∧ ly e n s i < ly e n s j)) (fun i j hij => ?_) (fun i k j _ h1 h2 => ?_) (Nat.le_refl n) h
  · simp only [decide_eq_true_eq] at this
    exact this hi
  · simp only [decide_eq_true_eq]
    intro hs
    exact ⟨hup j i hij hs, ly_dir h7 hr (he j i hij).2 (he j i hij).1 (hup j i hij hs) hij⟩
  · simp only [decide_eq_true_eq] at h1 h2 ⊢
    intro hs
    have a := h1 hs
    have b := h2 a.1
    exact ⟨b.1, by omega⟩
theorem ly_top (h7 : n ≤ 7) {t : Nat} (ht : t ≤ 8) (h1 : ∀ t', t' < t → ¬ bs (pl e n s t') n = 0) (h0 : 0 < t) : ∃ x, x < n ∧ t ≤ ly e n s x := by
  have a : anb (pl e n s (t - 1)) n = true := by
    cases hq : anb (pl e n s (t - 1)) n
    · exact absurd (bs_anb.mpr hq) (h1 (t - 1) (by omega))
    · rfl
  obtain ⟨x, hx, hp⟩ := anb_iff.mp a
  have := (@ly_iff e n s x (t - 1) (by omega)).mp hp
  exact ⟨x, hx, by omega⟩
end LY
/-- turned round -/
def eT (e : Nat → Nat → Bool) : Nat → Nat → Bool := fun j i => e i j
theorem wr_T (e : Nat → Nat → Bool) : ∀ m i j, wr (eT e) m i j = wr e m j i
  | 0, i, j => rfl
  | m + 1, i, j => by
    simp only [wr]
    rw [wr_T e m, wr_T e m, wr_T e m, Bool.and_comm]
theorem rg_T (e : Nat → Nat → Bool) (n : Nat) : rg (eT e) n = rg e n := by
  unfold rg
  rw [show (fun i => wr (eT e) n i i) = fun i => wr e n i i from by funext i; exact wr_T e n i i]
/-- how long a chain that ends at x, that begins at x -/
def hD (e : Nat → Nat → Bool) (n : Nat) : Nat → Nat := ly e n (fun _ => true)
def hU (e : Nat → Nat → Bool) (n : Nat) : Nat → Nat := ly (eT e) n (fun _ => true)
theorem pl_dn {e : Nat → Nat → Bool} {n : Nat} {s : Nat → Bool} (hd : ∀ x k, e x k = true → s x = true → s k = true) : ∀ t x, x < n → pl e n s t x = (s x && pl e n (fun _ => true) t x)
  | 0, x, _ => by simp [pl]
  | t + 1, x, hx => by
    have ih : ∀ y, y < n → pl e n s t y = (s y && pl e n (fun _ => true) t y) := fun y hy => pl_dn hd t y hy
    simp only [pl, fm]
    rw [ih x hx]
    cases hs : s x
    · simp
    · cases hp : pl e n (fun _ => true) t x
      · simp
      · simp only [Bool.true_and]
        congr 2
        have : ∀ k, k < n → (e x k && pl e n s t k) = (e x k && pl e n (fun _ => true) t k) := by
          intro k hk
          cases he : e x k
          · rfl
          · rw [ih k hk, hd x k he hs]
            rfl
        have e2 : ∀ m, m ≤ n → anb (fun k => e x k && pl e n s t k) m = anb (fun k => e x k && pl e n (fun _ => true) t k) m := by
          intro m
          induction m with
          | zero => intro _; rfl
          | succ m ihm =>
            intro hm
            simp only [anb]
            rw [ihm (by omega), this m (by omega)]
        rw [e2 n (Nat.le_refl n)]
/-- the layers of one and those ahead of it -/
theorem lay_dn {e : Nat → Nat → Bool} {n : Nat} (h7 : n ≤ 7) (hr : rg e n = false) (he : eIn e n) {i : Nat} (hi : i < n) : bs (pl e n (fun x => wr e n x i || x == i) (hD e n i)) n = 0 ∧ ∀ t', t' < hD e n i → ¬ bs (pl e n (fun x => wr e n x i || x == i) t') n = 0 := by
  have hd : ∀ x k, e x k = true → (wr e n x i || x == i) = true → (wr e n k i || k == i) = true := by
    intro x k hxk hx
    simp only [Bool.or_eq_true, beq_iff_eq] at hx ⊢
    rcases hx with h | rfl
    · exact Or.inl (wr_trans (he x k hxk).2 (wr_base hxk) h)
    · exact Or.inl (wr_base hxk)
  have hl : hD e n i ≤ n := ly_le7 h7 hr hi
  constructor
  · apply bs_eq0.mpr
    intro x hx
    rw [pl_dn hd _ x hx]
    cases hs : (wr e n x i || x == i)
    · rfl
    · simp only [Bool.true_and]
      have : ly e n (fun _ => true) x ≤ hD e n i := by
        simp only [Bool.or_eq_true, beq_iff_eq] at hs
        rcases hs with h | rfl
        · exact Nat.le_of_lt (ly_wr (s := fun _ => true) h7 hr he (fun _ _ _ _ => rfl) h rfl).2
        · exact Nat.le_refl _
      cases hp : pl e n (fun _ => true) (hD e n i) x
      · rfl
      · have := (@ly_iff e n (fun _ => true) x (hD e n i) (by omega)).mp hp
        omega
  · intro t' ht' h0
    have := bs_eq0.mp h0 i hi
    rw [pl_dn hd _ i hi] at this
    simp only [beq_self_eq_true, Bool.or_true, Bool.true_and] at this
    have h2 := (@ly_iff e n (fun _ => true) i t' (by omega)).mpr ht'
    rw [this] at h2
    exact absurd h2 (by decide)
/-- the layers of one and those behind it -/
theorem lay_up {e : Nat → Nat → Bool} {n : Nat} (h7 : n ≤ 7) (hr : rg e n = false) (he : eIn e n) {i : Nat} (hi : i < n) : bs (pl e n (fun x => wr e n i x || x == i) (hU e n i)) n = 0 ∧ ∀ t', t' < hU e n i → ¬ bs (pl e n (fun x => wr e n i x || x == i) t') n = 0 := by
  have hirr : wr e n i i = false := anb_no.mp hr i hi
  have hrT : rg (eT e) n = false := by rw [rg_T]; exact hr
  have heT : eIn (eT e) n := fun j i h => ⟨(he i j h).2, (he i j h).1⟩
  have hup : ∀ j k, e j k = true → (wr e n i k || k == i) = true → (wr e n i j || j == i) = true := by
    intro j k hjk hk
    simp only [Bool.or_eq_true, beq_iff_eq] at hk ⊢
    rcases hk with h | rfl
    · exact Or.inl (wr_trans (he j k hjk).1 h (wr_base hjk))
    · exact Or.inl (wr_base hjk)
  have gU : ∀ x y, wr e n x y = true → hU e n y < hU e n x := by
    intro x y hxy
    exact (ly_wr (s := fun _ => true) h7 hrT heT (fun _ _ _ _ => rfl) (by rw [wr_T]; exact hxy) rfl).2
  obtain ⟨t, a, b, c⟩ := pl_all hr (fun x => wr e n i x || x == i)
  have hi1 : ly e n (fun x => wr e n i x || x == i) i = 1 := by
    have p1 := ly_pos (e := e) (n := n) (s := fun x => wr e n i x || x == i) (x := i) (by simp)
    by_cases h1 : 1 < ly e n (fun x => wr e n i x || x == i) i
    · obtain ⟨k, hk, hek, hsk, _⟩ := ly_pred h7 hr hi h1
      simp only [Bool.or_eq_true, beq_iff_eq] at hsk
      have : wr e n i i = true := by
        rcases hsk with h | rfl
        · exact wr_trans hk h (wr_base hek)
        · exact wr_base hek
      rw [hirr] at this
      exact absurd this (by decide)
    · omega
  have ht0 : 0 < t := by
    have := ly_le (s := fun x => wr e n i x || x == i) h7 hr (by omega) b hi
    omega
  -- t at most hU i
  have up : ∀ m x, x < n → ly e n (fun x => wr e n i x || x == i) x = m + 1 → hU e n x + m ≤ hU e n i := by
    intro m
    induction m with
    | zero =>
      intro x hx hm
      have : x = i := by
        have hs : (wr e n i x || x == i) = true := pl_sub ((@ly_iff e n (fun x => wr e n i x || x == i) x 0 (by decide)).mpr (by omega))
        simp only [Bool.or_eq_true, beq_iff_eq] at hs
        rcases hs with h | h
        · have := (ly_wr h7 hr he hup h (by simp)).2
          omega
        · exact h
      subst this
      omega
    | succ m ih =>
      intro x hx hm
      obtain ⟨k, hk, hek, hsk, hlk⟩ := ly_pred (s := fun x => wr e n i x || x == i) h7 hr hx (by omega)
      have := ih k hk (by omega)
      have := gU k x (wr_base hek)
      omega
  have dn : ∀ m x, x < n → (wr e n i x || x == i) = true → hU e n x = m + 1 → ly e n (fun x => wr e n i x || x == i) x + m ≤ t := by
    intro m
    induction m with
    | zero =>
      intro x hx hs _
      have := ly_le (s := fun x => wr e n i x || x == i) h7 hr (by omega) b hx
      omega
    | succ m ih =>
      intro x hx hs hm
      obtain ⟨k, hk, hek, _, hlk⟩ := ly_pred (s := fun _ => true) h7 hrT hx (show 1 < ly (eT e) n (fun _ => true) x by unfold hU at hm; omega)
      have hxk : wr e n x k = true := wr_base (show e k x = true from hek)
      have hsk := hup k x hek hs
      have := ih k hk hsk (by unfold hU at hm ⊢; omega)
      have := (ly_wr h7 hr he hup hxk hs).2
      omega
  have e1 : t = hU e n i := by
    obtain ⟨x, hx, hxt⟩ := ly_top h7 (by omega) c ht0
    have hxt2 := ly_le (s := fun x => wr e n i x || x == i) h7 hr (by omega) b hx
    have := up (t - 1) x hx (by omega)
    have hp : 1 ≤ hU e n x := ly_pos rfl
    have hpi : 1 ≤ hU e n i := ly_pos rfl
    have := dn (hU e n i - 1) i hi (by simp) (by omega)
    omega
  subst e1
  exact ⟨b, c⟩
theorem e_M_findChains (σ : xS) (τ : xL) {n : Nat} (h7 : n ≤ 7) (hG : σ 67 10 = nI n) {a : Nat → Nat → Bool} (hA : Ar σ 86 n (fun j => bs (fun i => a i j) n)) {v : Int32} {d : Nat → Nat → Bool} (hv : (v = 1 ∧ ∀ i j, d i j = a j i) ∨ (v = 0 ∧ ∀ i j, d i j = a i j)) {h : Nat → Nat} (h1 : ∀ x, x < n → 1 ≤ h x ∧ h x ≤ n) (h2 : ∀ x y, x < n → y < n → d x y = true → h y < h x) (h3 : ∀ x, x < n → 1 < h x → ∃ y, y < n ∧ d x y = true ∧ h y + 1 = h x) : Rs m_M_findChains [.ref 67, .int v] σ τ none (fun σ' => Ag [89] σ σ' ∧ Ar σ' 89 n h) := by
  intro Q hQ
  have main : ∀ (u : Value × Value × Value) (σ1 : xS), Ag [89] σ σ1 → Ar σ1 89 n (fun _ => 1) → Ev m_M_findChains 25 [.ref 67, .int v, .int (nI 0), u.1, u.2.1, u.2.2] [] x_g σ1 τ Q := by
    intro u σ1 hg hC
    refine ev_lj (α := Value × Value × Value) (M := m_M_findChains) (pc := 25) (st := []) (g := x_g) (Q := Q) (τ := τ) n (fun r u => [.ref 67, .int v, .int (nI r), u.1, u.2.1, u.2.2]) (fun r σ' => Ag [89] σ σ' ∧ ∃ C, Ar σ' 89 n C ∧ (∀ x, x < n → C x ≤ h x) ∧ ∀ x, x < n → min (h x) (r + 1) ≤ C x) (fun r hr u σ1 hI kk => ?_) (fun u σ1 hI => ?_) u σ1 ⟨hg, fun _ => 1, hC, fun x hx => (h1 x hx).1, fun x hx => Nat.min_le_right _ _⟩
    · refine ev_go 100 [35] ?_
      refine br_f (by rw [hI.1 67 (by decide), hG]; exact nI_ge hr (by omega)) ?_
      refine ev_lj (α := Value × Value) (M := m_M_findChains) (pc := 35) (st := []) (g := x_g) (Q := Q) (τ := τ) n (fun i u => [.ref 67, .int v, .int (nI r), .int (nI i), u.1, u.2]) (fun i σ' => Ag [89] σ σ' ∧ ∃ C, Ar σ' 89 n C ∧ (∀ x, x < n → C x ≤ h x) ∧ (∀ x, x < n → min (h x) (r + 1) ≤ C x) ∧ ∀ x, x < i → min (h x) (r + 2) ≤ C x) (fun i hi u σ2 hJ kk2 => ?_) (fun u σ2 hJ => ?_) (_, _) σ1 ⟨hI.1, hI.2.choose, hI.2.choose_spec.1, hI.2.choose_spec.2.1, hI.2.choose_spec.2.2, fun x hx => absurd hx (Nat.not_lt_zero x)⟩
      · obtain ⟨hg2, C0, c1, c2, c3, c4⟩ := hJ
        refine ev_go 100 [46] ?_
        refine br_f (by rw [hg2 67 (by decide), hG]; exact nI_ge hi (by omega)) ?_
        refine ev_lj (α := Value) (M := m_M_findChains) (pc := 46) (st := []) (g := x_g) (Q := Q) (τ := τ) n (fun j u => [.ref 67, .int v, .int (nI r), .int (nI i), .int (nI j), u]) (fun j σ' => Ag [89] σ σ' ∧ ∃ C, Ar σ' 89 n C ∧ (∀ x, x < n → C x ≤ h x) ∧ (∀ x, x < n → min (h x) (r + 1) ≤ C x) ∧ (∀ x, x < i → min (h x) (r + 2) ≤ C x) ∧ ∀ y, y < j → d i y = true → C y + 1 ≤ C i) (fun j hj u σ3 hK kk3 => ?_) (fun u σ3 hK => ?_) _ σ2 ⟨hg2, C0, c1, c2, c3, c4, fun x hx => absurd hx (Nat.not_lt_zero x)⟩
        · obtain ⟨hg3, C, k1, k2, k3, k4, k5⟩ := hK
          have b1 := h1 i hi
          have b2 := h1 j hj
          have b3 := k2 i hi
          have b4 := k2 j hj
          have hA3 := hA.ag hg3 (by decide)
          have join : Ev m_M_findChains 84 [.ref 67, .int v, .int (nI r), .int (nI i), .int (nI j), u] [.int (x_b (d i j = true))] x_g σ3 τ Q := by
            have keep : ¬ (d i j = true ∧ C i < C j + 1) → Ev m_M_findChains 46 [.ref 67, .int v, .int (nI r), .int (nI i), .int (nI (j + 1)), .int (x_b (d i j = true))] [] x_g (x_row σ3 89 (upd (σ3 89) i (nI (C i)))) τ Q := by
              intro hn
              refine kk3 _ _ ⟨hg3.row (by decide), nup C i (C i), k1.up, ?_, ?_, ?_, ?_⟩
              all_goals rw [show nup C i (C i) = C from by funext x; simp only [nup]; split <;> simp [*]]
              · exact k2
              · exact k3
              · exact k4
              · intro y hy hd
                by_cases e : y = j
                · subst e
                  have : ¬ C i < C y + 1 := fun z => hn ⟨hd, z⟩
                  omega
                · exact k5 y (by omega) hd
            refine ev_go 100 [46] ?_
            by_cases hd : d i j = true
            · refine br_f (xb1 hd) ?_
              refine ⟨7, rfl, q_in (by omega) (by decide), ?_⟩
              rw [k1.get hj (by omega)]
              refine ⟨7, rfl, q_in (by omega) (by decide), ?_⟩
              rw [k1.get hi (by omega)]
              have hle : nI (C j) + 1 ≤ nI (C i) ↔ ¬ C i < C j + 1 := by
                rw [nI_1, ← Int32.not_lt, q_ltI (by omega) (by omega)]
              by_cases hlt : C i < C j + 1
              · refine br_f (fun z => hle.mp z hlt) ?_
                refine ⟨7, rfl, q_in (by omega) (by decide), ?_⟩
                refine ⟨7, rfl, q_in (by omega) (by decide), ?_⟩
                rw [k1.get hj (by omega), cl7 (by omega), nI_1]
                show Ev m_M_findChains 46 [.ref 67, .int v, .int (nI r), .int (nI i), .int (nI j + 1), .int (x_b (d i j = true))] [] x_g _ τ Q
                rw [nI_1]
                have hij : j ≠ i := fun e => by
                  have := h2 i j hi hj hd
                  rw [e] at this
                  omega
                refine kk3 _ _ ⟨hg3.row (by decide), nup C i (C j + 1), k1.up, ?_, ?_, ?_, ?_⟩
                · intro x hx
                  simp only [nup]
                  by_cases e : x = i
                  · subst e
                    rw [if_pos rfl]
                    have := h2 x j hx hj hd
                    omega
                  · rw [if_neg e]
                    exact k2 x hx
                · intro x hx
                  simp only [nup]
                  by_cases e : x = i
                  · subst e
                    rw [if_pos rfl]
                    have := k3 x hx
                    omega
                  · rw [if_neg e]
                    exact k3 x hx
                · intro x hx
                  simp only [nup]
                  rw [if_neg (by omega)]
                  exact k4 x hx
                · intro y hy hdy
                  simp only [nup]
                  have hyi : y ≠ i := fun e => by
                    have := h2 i y hi (by omega) hdy
                    rw [e] at this
                    omega
                  rw [if_pos trivial, if_neg hyi]
                  by_cases e : y = j
                  · subst e
                    omega
                  · have := k5 y (by omega) hdy
                    omega
              · refine br_t (hle.mpr hlt) ?_
                refine ⟨7, rfl, q_in (by omega) (by decide), ?_⟩
                refine ⟨7, rfl, q_in (by omega) (by decide), ?_⟩
                rw [k1.get hi (by omega), cl7 (by omega)]
                show Ev m_M_findChains 46 [.ref 67, .int v, .int (nI r), .int (nI i), .int (nI j + 1), .int (x_b (d i j = true))] [] x_g _ τ Q
                rw [nI_1]
                exact keep (fun z => hlt z.2)
            · refine br_t (xb0 hd) ?_
              refine ⟨7, rfl, q_in (by omega) (by decide), ?_⟩
              refine ⟨7, rfl, q_in (by omega) (by decide), ?_⟩
              rw [k1.get hi (by omega), cl7 (by omega)]
              show Ev m_M_findChains 46 [.ref 67, .int v, .int (nI r), .int (nI i), .int (nI j + 1), .int (x_b (d i j = true))] [] x_g _ τ Q
              rw [nI_1]
              exact keep (fun z => hd z.1)
          refine ev_go 100 [84] ?_
          refine br_f (by rw [hg3 67 (by decide), hG]; exact nI_ge hj (by omega)) ?_
          rcases hv with ⟨rfl, hdv⟩ | ⟨rfl, hdv⟩
          · refine br_f (by decide) ?_
            refine ⟨7, rfl, q_in (by omega) (by decide), ?_⟩
            rw [hA3.get hi (by omega)]
            refine e_M_has σ3 τ (b31 h7) (by omega) _ ?_
            rw [show (bs (fun x => a x i) n).testBit j = d i j by rw [bs_bit, hdv]; simp [hj]]
            exact join
          · refine br_t rfl ?_
            refine ⟨7, rfl, q_in (by omega) (by decide), ?_⟩
            rw [hA3.get hj (by omega)]
            refine e_M_has σ3 τ (b31 h7) (by omega) _ ?_
            rw [show (bs (fun x => a x j) n).testBit i = d i j by rw [bs_bit, hdv]; simp [hi]]
            exact join
        · obtain ⟨hg3, C, k1, k2, k3, k4, k5⟩ := hK
          refine ev_go 100 [35] ?_
          refine br_t (by rw [hg3 67 (by decide), hG]; exact nI_le (Nat.le_refl _) (by omega)) ?_
          show Ev m_M_findChains 35 [.ref 67, .int v, .int (nI r), .int (nI i + 1), .int (nI n), u] [] x_g _ τ Q
          rw [nI_1]
          refine kk2 (_, _) _ ⟨hg3, C, k1, k2, k3, fun x hx => ?_⟩
          by_cases e : x = i
          · subst e
            by_cases hx1 : 1 < h x
            · obtain ⟨y, hy, hdy, hhy⟩ := h3 x hi hx1
              have := k5 y hy hdy
              have := k3 y hy
              omega
            · have := k3 x hi
              have := h1 x hi
              omega
          · exact k4 x (by omega)
      · obtain ⟨hg2, C, c1, c2, c3, c4⟩ := hJ
        refine ev_go 100 [25] ?_
        refine br_t (by rw [hg2 67 (by decide), hG]; exact nI_le (Nat.le_refl _) (by omega)) ?_
        show Ev m_M_findChains 25 [.ref 67, .int v, .int (nI r + 1), .int (nI n), u.1, u.2] [] x_g _ τ Q
        rw [nI_1]
        exact kk (_, _, _) _ ⟨hg2, C, c1, c2, c4⟩
    · obtain ⟨hg2, C, c1, c2, c3⟩ := hI
      refine ev_go 100 [25] ?_
      refine br_t (by rw [hg2 67 (by decide), hG]; exact nI_le (Nat.le_refl _) (by omega)) ?_
      refine hQ _ ⟨hg2, c1.congr (fun x hx => ?_)⟩
      have := c2 x hx
      have := c3 x hx
      have := h1 x hx
      omega
  refine ev_go 100 [2] ?_
  refine ev_lp (M := m_M_findChains) (pc := 2) (st := []) (g := x_g) (Q := Q) (τ := τ) n (fun k => [.ref 67, .int v, .int (nI k), .null, .null, .null]) (fun k σ' => Ag [89] σ σ' ∧ Ar σ' 89 k (fun _ => 1)) (fun k hk σ1 hI kk => ?_) (fun σ1 hI => ?_) σ ⟨Ag.refl, fun j hj => absurd hj (Nat.not_lt_zero j)⟩
  · refine ev_go 100 [2] ?_
    refine br_f (by rw [hI.1 67 (by decide), hG]; exact nI_ge hk (by omega)) ?_
    refine ⟨7, rfl, q_in (by omega) (by decide), ?_⟩
    show Ev m_M_findChains 2 [.ref 67, .int v, .int (nI k + 1), .null, .null, .null] [] x_g _ τ Q
    rw [nI_1, cl7 (by omega)]
    refine kk _ ⟨hI.1.row (by decide), fun j hj => ?_⟩
    rw [x_row_eq]
    simp only [upd]
    by_cases e : j = k
    · rw [if_pos e]
      rfl
    · rw [if_neg e]
      exact hI.2 j (by omega)
  · refine ev_go 100 [25] ?_
    refine br_t (by rw [hI.1 67 (by decide), hG]; exact nI_le (Nat.le_refl _) (by omega)) ?_
    exact main (_, _, _) σ1 hI.1 hI.2
theorem pair_chain (i : Int32) : Pair m_S_chain m_M_chain [.int i] := by
  intro σ τ hR
  obtain ⟨P, hC, hM, hV, hK⟩ := hR.2.2.1
  have h7 := hV.1
  refine ev_go 100 [] ?_
  refine e_P_isTrack σ τ i _ ?_
  rw [hC.1]
  by_cases h2 : (¬ i < 0 ∧ ¬ nI (pn P) ≤ i)
  · refine bn_t (xb1 h2) ?_
    refine e_S_closesToRing σ τ hC hV _ (fun σ1 h1 => ?_)
    have hM1 := hM.ag h1.1 (by decide)
    by_cases hr : rg (edP P) (pn P) = true
    · refine br_f (xb1 hr) ?_
      refine e_S_refuse σ1 τ 4 in4 _ ?_
      refine ⟨rfl, ?_⟩
      have hM2 := hM1.ag (Ag.cref (f := 4)) (by decide)
      refine ev_go 100 [] ?_
      refine e_M_isTrack _ τ hM2 hV _ _ ?_
      refine bn_t (xb1 h2) ?_
      refine e_M_isRingNow _ τ hM2 hV _ (fun σ2 h3 => ?_)
      refine br_f (xb1 hr) ?_
      refine e_M_finds σ2 τ 4 in4 _ ?_
      exact ⟨rfl, rfl, ⟨_, rfl⟩, hR.fnd h1.1 (by decide) (f := 4) (by decide) h3.1 (by decide)⟩
    · refine br_t (xb0 hr) ?_
      obtain ⟨a, ha, rfl⟩ := (q_trk hV.1 i).mp h2
      have hr' : rg (edP P) (pn P) = false := by simpa using hr
      have he := edP_in hV
      have heT : eIn (eT (edP P)) (pn P) := fun j i h => ⟨(he i j h).2, (he i j h).1⟩
      have hrT : rg (eT (edP P)) (pn P) = false := by rw [rg_T]; exact hr'
      have lU := lay_up h7 hr' he ha
      have lD := lay_dn h7 hr' he ha
      have bU : hU (edP P) (pn P) a ≤ 7 := Nat.le_trans (ly_le7 h7 hrT ha) h7
      have bD : hD (edP P) (pn P) a ≤ 7 := Nat.le_trans (ly_le7 h7 hr' ha) h7
      refine ⟨7, rfl, q_in (by omega) (by decide), ?_⟩
      refine e_G_layersOf_ok σ1 τ h7 h1.2.1.1 h1.2.1.2 (fun x => wr (edP P) (pn P) a x || x == a) (by rw [h1.2.2.get (by omega) (by omega), q_shl1 (by omega), q_or, bs_or ha]) (by omega) lU.1 lU.2 _ ?_
      have hGc := h1.2.ag (Ag.ctold (v := nI (hU (edP P) (pn P) a))) (by decide) (by decide) (by decide)
      refine e_G_surelyAheadOf (c_told σ1 (nI (hU (edP P) (pn P) a))) τ h7 hGc.1.1 hGc.2 ha _ ?_
      refine e_G_layersOf_ok (c_told σ1 (nI (hU (edP P) (pn P) a))) τ h7 hGc.1.1 hGc.1.2 (fun x => wr (edP P) (pn P) x a || x == a) (by rw [q_shl1 (by omega), q_or, bs_or ha]) (by omega) lD.1 lD.2 _ ?_
      refine ⟨rfl, ?_⟩
      have hM2 := hM1.ag (Ag.ctold (v := nI (hU (edP P) (pn P) a))) (by decide)
      refine ev_go 100 [] ?_
      refine e_M_isTrack _ τ hM2 hV _ _ ?_
      refine bn_t (xb1 h2) ?_
      refine e_M_isRingNow _ τ hM2 hV _ (fun σ2 h3 => ?_)
      refine br_t (xb0 hr) ?_
      have hM3 := hM2.ag h3.1 (by decide)
      refine e_M_findChains σ2 τ h7 hM3.1 h3.2.2 (d := fun i j => wr (edP P) (pn P) j i) (Or.inl ⟨rfl, fun _ _ => rfl⟩) (h := hD (edP P) (pn P)) (fun x hx => ⟨ly_pos rfl, ly_le7 h7 hr' hx⟩) (fun x y hx hy hd => (ly_wr (s := fun _ => true) h7 hr' he (fun _ _ _ _ => rfl) hd rfl).2) (fun x hx h1x => ?_) _ (fun σ3 h4 => ?_)
      · obtain ⟨k, hk, hek, _, hlk⟩ := ly_pred (s := fun _ => true) h7 hr' hx h1x
        exact ⟨k, hk, wr_base hek, hlk⟩
      refine ⟨7, rfl, q_in (by omega) (by decide), ?_⟩
      rw [h4.2.get ha (by omega)]
      have hM4 := hM3.ag h4.1 (by decide)
      refine e_M_findChains σ3 τ h7 hM4.1 (h3.2.2.ag h4.1 (by decide)) (d := fun i j => wr (edP P) (pn P) i j) (Or.inr ⟨rfl, fun _ _ => rfl⟩) (h := hU (edP P) (pn P)) (fun x hx => ⟨ly_pos rfl, ly_le7 h7 hrT hx⟩) (fun x y hx hy hd => (ly_wr (s := fun _ => true) h7 hrT heT (fun _ _ _ _ => rfl) (by rw [wr_T]; exact hd) rfl).2) (fun x hx h1x => ?_) _ (fun σ4 h5 => ?_)
      · obtain ⟨k, hk, hek, _, hlk⟩ := ly_pred (s := fun _ => true) h7 hrT hx h1x
        exact ⟨k, hk, wr_base (show edP P k x = true from hek), hlk⟩
      refine ⟨7, rfl, q_in (by omega) (by decide), ?_⟩
      rw [h5.2.get ha (by omega)]
      refine e_M_tells σ4 τ _ _ _ ?_
      exact ⟨rfl, rfl, ⟨_, rfl⟩, hR.tld (L2 := [85, 86, 89]) h1.1 (by decide) (((h3.1.mono (by decide)).trans (h4.1.mono (by decide))).trans (h5.1.mono (by decide))) (by decide)⟩
  · refine bn_f (xb0 h2) ?_
    refine ⟨rfl, ?_⟩
    refine ev_go 100 [] ?_
    refine e_M_isTrack σ τ hM hV _ _ ?_
    refine bn_f (xb0 h2) ?_
    exact ⟨rfl, rfl, ⟨_, rfl⟩, hR⟩
end
section
/-! IN HOW MANY ORDERS -/
def sg (f : Nat → Nat) : Nat → Nat
  | 0 => 0
  | n + 1 => sg f n + f n
theorem sg_congr {f g : Nat → Nat} : ∀ {n : Nat}, (∀ i, i < n → f i = g i) → sg f n = sg g n
  | 0, _ => rfl
  | n + 1, h => by
    simp only [sg]
    rw [sg_congr (n := n) (fun i hi => h i (by omega)), h n (by omega)]
theorem sg_le {f g : Nat → Nat} : ∀ {n : Nat}, (∀ i, i < n → f i ≤ g i) → sg f n ≤ sg g n
  | 0, _ => Nat.le_refl 0
  | n + 1, h => by
    have := sg_le (n := n) (fun i hi => h i (by omega))
    have := h n (by omega)
    simp only [sg]
    omega
theorem sg_const (c : Nat) : ∀ n, sg (fun _ => c) n = n * c
  | 0 => by simp [sg]
  | n + 1 => by
    simp only [sg]
    rw [sg_const c n, Nat.succ_mul]
theorem sg_one {f : Nat → Nat} : ∀ {n i : Nat}, i < n → f i ≤ sg f n
  | 0, i, h => absurd h (Nat.not_lt_zero i)
  | n + 1, i, h => by
    simp only [sg]
    by_cases e : i = n
    · subst e
      omega
    · have := sg_one (f := f) (n := n) (i := i) (by omega)
      omega
/-- one can go next when a set has gone -/
def cf (e : Nat → Nat → Bool) (n S i : Nat) : Bool := !S.testBit i && decide (nd (bs (e i) n) S = 0)
theorem or_lt {S i n : Nat} (hS : S < 2 ^ n) (hi : i < n) : S ||| 2 ^ i < 2 ^ n := Nat.or_lt_two_pow hS (Nat.pow_lt_pow_right (by decide) hi)
theorem or_gt {S i : Nat} (h : S.testBit i = false) : S < S ||| 2 ^ i := by
  have h1 : S ≤ S ||| 2 ^ i := Nat.left_le_or
  rcases Nat.lt_or_eq_of_le h1 with h2 | h2
  · exact h2
  · rw [h2, Nat.testBit_or, Nat.testBit_two_pow_self] at h
    simp at h
theorem cf_no {e : Nat → Nat → Bool} {n S i : Nat} (h : cf e n S i = true) : S.testBit i = false := by
  simp only [cf, Bool.and_eq_true, Bool.not_eq_true'] at h
  exact h.1
def wyf (e : Nat → Nat → Bool) (n : Nat) : Nat → Nat → Nat
  | 0, _ => 1
  | f + 1, S => if S = 2 ^ n - 1 then 1 else sg (fun i => if cf e n S i = true then wyf e n f (S ||| 2 ^ i) else 0) n
/-- in how many ways the others can go on when S has gone -/
def wy (e : Nat → Nat → Bool) (n S : Nat) : Nat := wyf e n (2 ^ n - 1 - S) S
theorem wyf_st {e : Nat → Nat → Bool} {n : Nat} : ∀ f S, S < 2 ^ n → 2 ^ n - 1 - S ≤ f → wyf e n f S = wy e n S := by
  intro f
  induction f using Nat.strongRecOn with
  | ind f ih =>
    intro S hS hf
    unfold wy
    have hp := Nat.one_le_two_pow (n := n)
    by_cases hz : S = 2 ^ n - 1
    · subst hz
      rw [Nat.sub_self]
      cases f with
      | zero => rfl
      | succ f => simp [wyf]
    · obtain ⟨g, hg⟩ : ∃ g, 2 ^ n - 1 - S = g + 1 := ⟨2 ^ n - 1 - S - 1, by omega⟩
      obtain ⟨f', rfl⟩ : ∃ f', f = f' + 1 := ⟨f - 1, by omega⟩
      rw [hg]
      simp only [wyf, if_neg hz]
      apply sg_congr
      intro i hi
      by_cases hc : cf e n S i = true
      · rw [if_pos hc, if_pos hc]
        have h1 := or_lt hS hi
        have h2 := or_gt (cf_no hc)
        rw [ih f' (by omega) _ h1 (by omega), ih g (by omega) _ h1 (by omega)]
      · rw [if_neg hc, if_neg hc]
theorem wy_all (e : Nat → Nat → Bool) (n : Nat) : wy e n (2 ^ n - 1) = 1 := by
  unfold wy
  rw [Nat.sub_self]
  rfl
theorem wy_eq {e : Nat → Nat → Bool} {n S : Nat} (hS : S < 2 ^ n - 1) : wy e n S = sg (fun i => if cf e n S i = true then wy e n (S ||| 2 ^ i) else 0) n := by
  obtain ⟨g, hg⟩ : ∃ g, 2 ^ n - 1 - S = g + 1 := ⟨2 ^ n - 1 - S - 1, by omega⟩
  rw [wy, hg]
  simp only [wyf, if_neg (show ¬ S = 2 ^ n - 1 by omega)]
  apply sg_congr
  intro i hi
  by_cases hc : cf e n S i = true
  · rw [if_pos hc, if_pos hc]
    have h1 := or_lt (show S < 2 ^ n by omega) hi
    have h2 := or_gt (cf_no hc)
    exact wyf_st g _ h1 (by omega)
  · rw [if_neg hc, if_neg hc]
/-- how many have not gone -/
def lf (n S : Nat) : Nat := cnt (fun i => !S.testBit i) n
theorem lf_or {n S i : Nat} (hi : i < n) (h : S.testBit i = false) : lf n (S ||| 2 ^ i) < lf n S := by
  refine cnt_lt (fun k _ hk => ?_) ⟨i, hi, by simp [h], by simp [Nat.testBit_or, Nat.testBit_two_pow_self]⟩
  simp only [Nat.testBit_or, Bool.not_or, Bool.and_eq_true] at hk
  exact hk.1
theorem wy_le {e : Nat → Nat → Bool} {n : Nat} (h7 : n ≤ 7) : ∀ (c S : Nat), S < 2 ^ n → lf n S ≤ c → wy e n S ≤ 7 ^ c := by
  intro c
  induction c with
  | zero =>
    intro S hS hc
    by_cases hz : S = 2 ^ n - 1
    · rw [hz, wy_all]
      exact Nat.le_refl 1
    · rw [wy_eq (by omega), sg_congr (g := fun _ => 0) (fun i hi => ?_), sg_const]
      · simp
      · rw [if_neg]
        intro hcf
        have := lf_or hi (cf_no hcf)
        omega
  | succ c ih =>
    intro S hS hc
    by_cases hz : S = 2 ^ n - 1
    · rw [hz, wy_all]
      exact Nat.one_le_pow _ _ (by decide)
    · rw [wy_eq (by omega)]
      have : sg (fun i => if cf e n S i = true then wy e n (S ||| 2 ^ i) else 0) n ≤ sg (fun _ => 7 ^ c) n := by
        apply sg_le
        intro i hi
        by_cases hcf : cf e n S i = true
        · rw [if_pos hcf]
          have := lf_or hi (cf_no hcf)
          exact ih _ (or_lt hS hi) (by omega)
        · rw [if_neg hcf]
          exact Nat.zero_le _
      rw [sg_const] at this
      rw [Nat.pow_succ]
      have := Nat.mul_le_mul_right (7 ^ c) h7
      rw [Nat.mul_comm (7 ^ c) 7]
      omega
theorem wy_b {e : Nat → Nat → Bool} {n S : Nat} (h7 : n ≤ 7) (hS : S < 2 ^ n) : wy e n S ≤ 823543 := by
  have := wy_le (e := e) h7 7 S hS (Nat.le_trans (cnt_le _ n) h7)
  exact this
theorem wy_b31 {e : Nat → Nat → Bool} {n S : Nat} (h7 : n ≤ 7) (hS : S < 2 ^ n) : wy e n S < 2 ^ 31 := Nat.lt_of_le_of_lt (wy_b h7 hS) (by decide)
theorem nd_0 {a S : Nat} : nd a S = 0 ↔ ∀ k, a.testBit k = true → S.testBit k = true := by
  constructor
  · intro h k hk
    have := nd_bit a S k
    rw [h, Nat.zero_testBit, hk] at this
    simpa using this.symm
  · intro h
    apply Nat.eq_of_testBit_eq
    intro k
    rw [nd_bit, Nat.zero_testBit]
    cases ha : a.testBit k
    · rfl
    · rw [h k ha]
      rfl
theorem cf_iff {e : Nat → Nat → Bool} {n S i : Nat} : cf e n S i = true ↔ S.testBit i = false ∧ ∀ k, k < n → e i k = true → S.testBit k = true := by
  simp only [cf, Bool.and_eq_true, Bool.not_eq_true', decide_eq_true_eq, nd_0, bs_bit]
  constructor
  · rintro ⟨h1, h2⟩
    exact ⟨h1, fun k hk he => h2 k ⟨hk, he⟩⟩
  · rintro ⟨h1, h2⟩
    exact ⟨h1, fun k hk => h2 k hk.1 hk.2⟩
/-- a set that isn't all lacks one -/
theorem lack {n S : Nat} (hS : S < 2 ^ n) (h : S ≠ 2 ^ n - 1) : ∃ x, x < n ∧ S.testBit x = false := by
  apply Classical.byContradiction
  intro hn
  apply h
  apply Nat.eq_of_testBit_eq
  intro i
  rw [Nat.testBit_two_pow_sub_one]
  by_cases hi : i < n
  · simp only [hi, decide_true]
    cases hb : S.testBit i
    · exact absurd ⟨i, hi, hb⟩ hn
    · rfl
  · simp only [hi, decide_false]
    exact bit_big hS (Nat.not_lt.mp hi)
/-- without a ring some one can go next -/
theorem cf_ex {e : Nat → Nat → Bool} {n S : Nat} (hr : rg e n = false) (hS : S < 2 ^ n) (h : S ≠ 2 ^ n - 1) : ∃ i, i < n ∧ cf e n S i = true := by
  obtain ⟨x, hx, hb⟩ := lack hS h
  obtain ⟨i, hi, hu, hm⟩ := mini hr (u := fun k => !S.testBit k) _ x (Nat.le_refl _) hx (by simp [hb])
  refine ⟨i, hi, cf_iff.mpr ⟨by simpa using hu, fun k hk he => ?_⟩⟩
  cases hbk : S.testBit k
  · have := hm k hk (by simp [hbk])
    rw [he] at this
    exact absurd this (by decide)
  · rfl
theorem wy_pos {e : Nat → Nat → Bool} {n : Nat} (hr : rg e n = false) : ∀ (c S : Nat), S < 2 ^ n → lf n S ≤ c → 1 ≤ wy e n S := by
  intro c
  induction c with
  | zero =>
    intro S hS hc
    by_cases hz : S = 2 ^ n - 1
    · rw [hz, wy_all]
      exact Nat.le_refl 1
    · obtain ⟨i, hi, hcf⟩ := cf_ex hr hS hz
      have := lf_or hi (cf_no hcf)
      omega
  | succ c ih =>
    intro S hS hc
    by_cases hz : S = 2 ^ n - 1
    · rw [hz, wy_all]
      exact Nat.le_refl 1
    · obtain ⟨i, hi, hcf⟩ := cf_ex hr hS hz
      have := lf_or hi (cf_no hcf)
      have h1 := ih _ (or_lt hS hi) (by omega)
      rw [wy_eq (by omega)]
      have h2 := sg_one (f := fun i => if cf e n S i = true then wy e n (S ||| 2 ^ i) else 0) hi
      simp only [if_pos hcf] at h2
      omega
theorem e_G_canFollow (σ : xS) (τ : xL) {n : Nat} (h7 : n ≤ 7) {e : Nat → Nat → Bool} (hB : Ar σ 32 7 (fun j => bs (e j) n)) {S i : Nat} (hS : S < 2 ^ n) (hi : i < n) : Rn m_G_canFollow [.ref 31, .int (nI S), .int (nI i)] σ τ (some (.int (x_b (cf e n S i = true)))) σ τ := by
  intro Q h
  have h128 := p2_7 h7
  refine ev_go 100 [] ?_
  refine e_S_has σ τ (by omega) (by omega) _ ?_
  by_cases t : S.testBit i = true
  · refine bn_t (xb1 t) ?_
    rw [x_b_f (by simp [cf, t])] at h
    exact ⟨Or.inl rfl, h⟩
  · refine bn_f (xb0 t) ?_
    refine ⟨7, rfl, q_in (by omega) (by decide), ?_⟩
    rw [hB.get (by omega) (by omega)]
    have hnd : nd (bs (e i) n) S < 2 ^ 31 := by
      have : nd (bs (e i) n) S < 2 ^ n := Nat.xor_lt_two_pow (bs_lt _ _) (Nat.and_lt_two_pow _ hS)
      omega
    by_cases t2 : nd (bs (e i) n) S = 0
    · refine bn_f (by rw [q_nd, t2]; rfl) ?_
      rw [x_b_t (by simp only [cf, t2]; simpa using t)] at h
      exact ⟨Or.inr rfl, h⟩
    · refine bn_t (by rw [q_nd]; exact nI_ne0 (Nat.pos_of_ne_zero t2) hnd) ?_
      rw [x_b_f (by simp [cf, t2])] at h
      exact ⟨Or.inl rfl, h⟩
theorem m1_sub (x : Int32) : x + (-1) = x - 1 := (Int32.sub_eq_add_neg x 1).symm
theorem e_G_countOnward (σ : xS) (τ : xL) {n : Nat} (h7 : n ≤ 7) {e : Nat → Nat → Bool} (hG : Gr σ n e) : Rs m_G_countOnward [.ref 31] σ τ none (fun σ' => Ag [34] σ σ' ∧ Ar σ' 34 (2 ^ n) (wy e n)) := by
  intro Q h
  have h128 := p2_7 h7
  have hp := Nat.one_le_two_pow (n := n)
  refine ev_go 100 [17] ?_
  refine ⟨128, rfl, by rw [hG.1.2]; exact q_in (by omega) (by decide), ?_⟩
  show Ev m_G_countOnward 17 [.ref 31, .int (σ 31 1 - 1), .null, .null] [] x_g (x_row σ 34 (upd (σ 34) (σ 31 1).toNatClampNeg 1)) τ Q
  rw [hG.1.2, cl7 (by omega)]
  refine ev_lj (α := Value × Value) (M := m_G_countOnward) (pc := 17) (st := []) (g := x_g) (Q := Q) (τ := τ) (2 ^ n - 1) (fun k u => [.ref 31, .int (nI (2 ^ n - 1 - k) - 1), u.1, u.2]) (fun k σ' => Ag [34] σ σ' ∧ ∀ S, 2 ^ n - 1 - k ≤ S → S < 2 ^ n → σ' 34 S = nI (wy e n S)) (fun k hk u σ1 hI kk => ?_) (fun u σ1 hI => ?_) (_, _) _ ⟨Ag.refl.row (by decide), fun S h1 h2 => ?_⟩
  · obtain ⟨s, hs⟩ : ∃ s, 2 ^ n - 1 - k = s + 1 := ⟨2 ^ n - 1 - k - 1, by omega⟩
    rw [hs, nI_pred]
    have hG1 := hG.ag hI.1 (by decide) (by decide)
    refine ev_go 100 [25] ?_
    refine br_f (nI_pos (by omega)) ?_
    refine ev_iter (M := m_G_countOnward) (pc := 25) (st := []) (g := x_g) (Q := Q) n (fun i => ([.ref 31, .int (nI s), .int (nI (sg (fun i => if cf e n s i = true then wy e n (s ||| 2 ^ i) else 0) i)), .int (nI i)], σ1, τ)) (fun i hi kk2 => ?_) ?_
    · dsimp only at kk2 ⊢
      refine ev_go 100 [25] ?_
      refine br_f (by rw [hG1.1.1]; exact nI_ge hi (by omega)) ?_
      refine e_G_canFollow σ1 τ h7 hG1.2 (S := s) (by omega) hi _ ?_
      by_cases hc : cf e n s i = true
      · refine br_f (xb1 hc) ?_
        have h1 := or_lt (show s < 2 ^ n by omega) hi
        have h2 := or_gt (cf_no hc)
        refine ⟨128, rfl, by rw [q_shl1 (by omega), q_or]; exact q_in (by omega) (by decide), ?_⟩
        show Ev m_G_countOnward 25 [.ref 31, .int (nI s), .int (nI (sg (fun i => if cf e n s i = true then wy e n (s ||| 2 ^ i) else 0) i) + σ1 34 (nI s ||| ((1 : Int32) <<< (nI i &&& 31))).toNatClampNeg), .int (nI i + 1)] [] x_g σ1 τ Q
        rw [q_shl1 (by omega), q_or, cl7 (by omega), hI.2 _ (by omega) (by omega), nI_1, nI_add]
        simp only [sg, if_pos hc] at kk2
        exact kk2
      · refine br_t (xb0 hc) ?_
        show Ev m_G_countOnward 25 [.ref 31, .int (nI s), .int (nI (sg (fun i => if cf e n s i = true then wy e n (s ||| 2 ^ i) else 0) i)), .int (nI i + 1)] [] x_g σ1 τ Q
        rw [nI_1]
        simp only [sg, if_neg hc, Nat.add_zero] at kk2
        exact kk2
    · dsimp only
      refine ev_go 100 [17] ?_
      refine br_t (by rw [hG1.1.1]; exact nI_le (Nat.le_refl _) (by omega)) ?_
      refine ⟨128, rfl, q_in (by omega) (by decide), ?_⟩
      rw [← wy_eq (by omega), cl7 (by omega)]
      show Ev m_G_countOnward 17 [.ref 31, .int (nI s + (-1)), _, _] [] x_g _ τ Q
      rw [m1_sub, show s = 2 ^ n - 1 - (k + 1) by omega]
      refine kk (_, _) _ ⟨hI.1.row (by decide), fun S h1 h2 => ?_⟩
      rw [x_row_eq]
      simp only [upd]
      by_cases e1 : S = 2 ^ n - 1 - (k + 1)
      · rw [if_pos e1, e1]
      · rw [if_neg e1]
        exact hI.2 S (by omega) h2
  · rw [Nat.sub_self]
    refine ev_go 100 [] ?_
    refine br_t (by decide) ?_
    exact h _ ⟨hI.1, fun S hS => hI.2 S (by omega) hS⟩
  · have : S = 2 ^ n - 1 := by omega
    subst this
    rw [x_row_eq, wy_all]
    simp only [upd, if_true]
    rfl
theorem e_M_countOrders (σ : xS) (τ : xL) {n : Nat} (h7 : n ≤ 7) (hn : σ 67 10 = nI n) {e : Nat → Nat → Bool} (hB : Mr σ n e) : Rs m_M_countOrders [.ref 67] σ τ (some (.int (nI (wy e n 0)))) (fun σ' => Ag [87] σ σ' ∧ Ar σ' 87 (2 ^ n) (wy e n)) := by
  intro Q h
  have h128 := p2_7 h7
  have hp := Nat.one_le_two_pow (n := n)
  have e0 : (1 : Int32) <<< (σ 67 10 &&& 31) - 1 = nI (2 ^ n - 1) := by
    rw [hn, q_shl1 (by omega)]
    exact pk_sub (a := 2 ^ n) (b := 1) hp
  refine ev_go 100 [20] ?_
  refine ⟨128, rfl, by rw [e0]; exact q_in (by omega) (by decide), ?_⟩
  show Ev m_M_countOrders 20 [.ref 67, .int ((1 : Int32) <<< (σ 67 10 &&& 31) - 1), .int ((1 : Int32) <<< (σ 67 10 &&& 31) - 1 - 1), .null, .null] [] x_g (x_row σ 87 (upd (σ 87) ((1 : Int32) <<< (σ 67 10 &&& 31) - 1).toNatClampNeg 1)) τ Q
  rw [e0, cl7 (by omega)]
  refine ev_lj (α := Value × Value) (M := m_M_countOrders) (pc := 20) (st := []) (g := x_g) (Q := Q) (τ := τ) (2 ^ n - 1) (fun k u => [.ref 67, .int (nI (2 ^ n - 1)), .int (nI (2 ^ n - 1 - k) - 1), u.1, u.2]) (fun k σ' => Ag [87] σ σ' ∧ ∀ S, 2 ^ n - 1 - k ≤ S → S < 2 ^ n → σ' 87 S = nI (wy e n S)) (fun k hk u σ1 hI kk => ?_) (fun u σ1 hI => ?_) (_, _) _ ⟨Ag.refl.row (by decide), fun S h1 h2 => ?_⟩
  · obtain ⟨s, hs⟩ : ∃ s, 2 ^ n - 1 - k = s + 1 := ⟨2 ^ n - 1 - k - 1, by omega⟩
    rw [hs, nI_pred]
    have hB1 : Ar σ1 85 7 (fun j => bs (e j) n) := hB.ag hI.1 (by decide)
    have hn1 : σ1 67 10 = nI n := by rw [hI.1 67 (by decide)]; exact hn
    refine ev_go 100 [29] ?_
    refine br_f (nI_pos (by omega)) ?_
    refine ev_iter (M := m_M_countOrders) (pc := 29) (st := []) (g := x_g) (Q := Q) n (fun i => ([.ref 67, .int (nI (2 ^ n - 1)), .int (nI s), .int (nI (sg (fun i => if cf e n s i = true then wy e n (s ||| 2 ^ i) else 0) i)), .int (nI i)], σ1, τ)) (fun i hi kk2 => ?_) ?_
    · dsimp only at kk2 ⊢
      have no : ¬ cf e n s i = true → Ev m_M_countOrders 29 [.ref 67, .int (nI (2 ^ n - 1)), .int (nI s), .int (nI (sg (fun i => if cf e n s i = true then wy e n (s ||| 2 ^ i) else 0) i) + 0), .int (nI i + 1)] [] x_g σ1 τ Q := by
        intro hc
        rw [nI_1, show (0 : Int32) = nI 0 from rfl, nI_add]
        simp only [sg, if_neg hc, Nat.add_zero] at kk2 ⊢
        exact kk2
      refine ev_go 100 [29] ?_
      refine br_f (by rw [hn1]; exact nI_ge hi (by omega)) ?_
      refine e_M_has σ1 τ (by omega) (by omega) _ ?_
      by_cases t : s.testBit i = true
      · refine bn_t (xb1 t) ?_
        exact no (by simp [cf, t])
      · refine bn_f (xb0 t) ?_
        refine ⟨7, rfl, q_in (by omega) (by decide), ?_⟩
        rw [hB1.get (by omega) (by omega)]
        have hnd : nd (bs (e i) n) s < 2 ^ 31 := by
          have : nd (bs (e i) n) s < 2 ^ n := Nat.xor_lt_two_pow (bs_lt _ _) (Nat.and_lt_two_pow _ (by omega))
          omega
        by_cases t2 : nd (bs (e i) n) s = 0
        · refine bn_f (by rw [q_nd, t2]; rfl) ?_
          have hc : cf e n s i = true := by simp only [cf, t2]; simpa using t
          have h1 := or_lt (show s < 2 ^ n by omega) hi
          have h2 := or_gt (cf_no hc)
          refine ⟨128, rfl, by rw [q_shl1 (by omega), q_or]; exact q_in (by omega) (by decide), ?_⟩
          show Ev m_M_countOrders 29 [.ref 67, .int (nI (2 ^ n - 1)), .int (nI s), .int (nI (sg (fun i => if cf e n s i = true then wy e n (s ||| 2 ^ i) else 0) i) + σ1 87 (nI s ||| ((1 : Int32) <<< (nI i &&& 31))).toNatClampNeg), .int (nI i + 1)] [] x_g σ1 τ Q
          rw [q_shl1 (by omega), q_or, cl7 (by omega), hI.2 _ (by omega) (by omega), nI_1, nI_add]
          simp only [sg, if_pos hc] at kk2
          exact kk2
        · refine bn_t (by rw [q_nd]; exact nI_ne0 (Nat.pos_of_ne_zero t2) hnd) ?_
          exact no (by simp [cf, t2])
    · dsimp only
      refine ev_go 100 [20] ?_
      refine br_t (by rw [hn1]; exact nI_le (Nat.le_refl _) (by omega)) ?_
      refine ⟨128, rfl, q_in (by omega) (by decide), ?_⟩
      rw [← wy_eq (by omega), cl7 (by omega)]
      show Ev m_M_countOrders 20 [.ref 67, .int (nI (2 ^ n - 1)), .int (nI s + (-1)), _, _] [] x_g _ τ Q
      rw [m1_sub, show s = 2 ^ n - 1 - (k + 1) by omega]
      refine kk (_, _) _ ⟨hI.1.row (by decide), fun S h1 h2 => ?_⟩
      rw [x_row_eq]
      simp only [upd]
      by_cases e1 : S = 2 ^ n - 1 - (k + 1)
      · rw [if_pos e1, e1]
      · rw [if_neg e1]
        exact hI.2 S (by omega) h2
  · rw [Nat.sub_self]
    refine ev_go 100 [] ?_
    refine br_t (by decide) ?_
    refine ⟨128, rfl, q_in (i := 0) (by decide) (by decide), ?_⟩
    rw [show σ1 87 (0 : Int32).toNatClampNeg = nI (wy e n 0) from hI.2 0 (by omega) (by omega)]
    exact h _ ⟨hI.1, fun S hS => hI.2 S (by omega) hS⟩
  · have : S = 2 ^ n - 1 := by omega
    subst this
    rw [x_row_eq, wy_all]
    simp only [upd, if_true]
    rfl
end
section
theorem law_ev (b L : Nat) (xs : Nat → Int32) (hL : L ≤ 3072) : Ev (m_L_law b L xs) 0 [.retAddr b, .null, .null, .null] [] ([], fun _ _ => none, 0, 0) (fun _ _ => 0) (fun _ _ => 0) (fun r _ _ _ => r = some (.int 1)) := sorry
theorem whole_start {p : Program} {e : Env} {s : State} {m : MethodId} {below : List Frame} {meth : Method} {c : Code} (l : Launch) {b L : Nat} {xs : Nat → Int32} (hL : L ≤ 3072) (C0 : lw_At p s m meth c b L xs) : W p l e room_1 s m #[Value.ref b] below meth c s.heap [] 0 0 (lw_Z below #[Value.ref b] s) (entryFrame m ([Value.ref b] : List Value).toArray 4) := x_start l C0 (law_ev b L xs hL)
-- ===== YOUR PART ENDS =====
set_option maxHeartbeats 4000000 in
theorem lw_walk (l : Launch) (b : Addr) (xs : List Int32) : MetFree l x (headSpec (Jvm.Cond.code x code maxLocals ret :: tables_1) room_1) (lw_P b xs) (fun _ _ _ _ _ => True) lw_Q := by
  refine MetFree.of_bodyS (code := code) (maxLocals := maxLocals) (ret := ret) (by decide) ?_ ?_
  · intro args s m h hn
    obtain ⟨meth, c, h1, h2, h3, h4, h5, h6, -, -⟩ := Cond.code_spec hn (atoms_spec (ws := Jvm.Cond.code x code maxLocals ret :: tables_1) h _ List.mem_cons_self)
    exact ⟨meth, c, h1, h2, h3, h4, h5, h6⟩
  · intro p e s m args below meth c s₁ B hml0 hP _
    obtain ⟨rfl, hx, hbd, hgv⟩ := hP
    obtain ⟨scr, harrAt, hlist, hof, hsmall⟩ := hx
    obtain ⟨hcb, hkn, -, -⟩ := State.arrayAt?_spec harrAt
    have hown : s.vm.findClass R_law = some m.cls := findClass_of_methodNamed B.named
    have hts0 : ∀ c ∈ (Jvm.Cond.code x code maxLocals ret :: tables_1), c.before #[Value.ref b] s = true := atoms_spec (ws := Jvm.Cond.code x code maxLocals ret :: tables_1) B.pre
    have hts : ∀ w ∈ lw_tbl, w.before #[Value.ref b] s = true := k2_hts_sels lw_privs (fun w hw => hts0 w (List.mem_cons_of_mem _ hw)) lw_privs_ok
    have hml : c.maxLocals = 4 := B.maxLocals_eq (hts0 _ List.mem_cons_self)
    have X₀ : Stand p l e room_1 s m #[Value.ref b] below meth c s₁ [] 0 0 := Stand.of_body B
    have hh0 : s₁.heap = s.heap := by rw [B.state]; rfl
    have hsz : scr.slots.size = xs.length := by rw [← Array.length_toList, hlist, List.length_map]
    have hval : ∀ j : Nat, j < xs.length → scr.slots[j]? = some (.int (xs.getD j 0)) := fun j hj => by
      rw [← Array.getElem?_toList, hlist]
      simp [hj]
    have hbl : b < s.heap.size := (Array.getElem?_eq_some_iff.mp hcb).1
    have hX : va_X b xs.length (fun j => xs.getD j 0) s s.heap := ⟨scr, hcb, hof, hkn, hsz, hval⟩
    have K : W p l e room_1 s m #[Value.ref b] below meth c s₁.heap [] 0 0 (lw_Z below #[Value.ref b] s) (entryFrame m ([Value.ref b] : List Value).toArray 4) := by
      rw [hh0]
      exact whole_start l hbd ⟨B.exec, B.bytes, B.returns, hml, hown, hts, hX, hbl, B.notSynchronized, hgv⟩
    obtain ⟨t, a1, o, b1, b2, b3⟩ := K s₁ rfl X₀
    exact ⟨t, o, a1, b1, b2, b3⟩
theorem lw_pre_spec {args : Array Value} {s : State} (h : (Jvm.Cond.and given_1 narrow_1).before args s = true) (hr : rest_1_c.before args s = true) : ∃ (b : Addr) (xs : List Int32), lw_P b xs args s := by
  have hs := flat_of_before _ h
  have hq := flat_of_before _ hr
  have hc : (Cond.count 1).before args s = true := hs _ (by decide +kernel)
  have harr : (Cond.arrayOf (.arg 0) .int).before args s = true := hs _ (by decide +kernel)
  have hle : (Cond.le (.length (.arg 0)) (.int 3072)).before args s = true := hs _ (by decide +kernel)
  have hlen : (Cond.isInt (.length (.arg 0))).before args s = true := hq _ (by decide +kernel)
  have hall : (Cond.all (.arg 0) (.isInt (.elem (.arg 0) (.index 0)))).before args s = true := hq _ (by decide +kernel)
  obtain ⟨b, xs, hb, hx⟩ := State.ints_of_pre rfl harr hlen hall
  have hsm : xs.length < 2 ^ 31 := hx.choose_spec.2.2.2
  have hev : (Term.length (.arg 0)).eval args s none [] s = some (.int xs.length.toInt32) := hx.length_eval hb
  have hv := Cond.le_ints hev (show (Term.int 3072).eval args s none [] s = some (.int 3072) from rfl)
  have hd : xs.length.toInt32 ≤ 3072 := by
    simpa [Cond.before, Cond.holds, hv] using hle
  have hN : xs.length ≤ 3072 := (Int32.ofNat_le_ofNat hsm (by decide)).mp (show Int32.ofNat xs.length ≤ Int32.ofNat 3072 from hd)
  exact ⟨b, xs, Cond.one_arg hc (show args[0]? = some (.ref b) from hb), hx, hN, h⟩
theorem lw_comes (l : Launch) : Comes l x (Jvm.Cond.code x code maxLocals ret :: tables_1) room_1 (fun tb e args s => Calls_1 tb e args s ∧ rest_1 tb e args s ∧ Pre_1 tb e args s)
    (fun _ _ args s o t => lw_Q args s o t) := by
  intro p e ha hc hk s m args below hf hfit hheap happ hpre
  obtain ⟨b, xs, hP⟩ := lw_pre_spec hpre.2.2 hpre.2.1
  obtain ⟨k, o, h1, h2, h3, hQ⟩ := lw_walk l b xs p e ha hc hk s m args below hf ((Spec.applies_iff_loose hf).mp happ).1 hP trivial
  exact ⟨k, o, h1, h2, h3, hQ⟩
theorem lw_frame {s t : State} {o : Outcome} {args : Array Value} (h : Framed s o t [] 600000 7302250) :
    Framed s o t (fieldLocs frame_1_writes args s ++ arrayLocs frame_1_arrays args s ++ staticLocs frame_1_statics s) 600000 7302250 := h
theorem lw_limb (L : Cond) (hL : ∀ (args : Array Value) (s t : State), L.after args s (.returned (some (.int 1))) t = true) :
    ArmFor flags0 classFile x code maxLocals ret World_1 tables_1 room_1 Calls_1 rest_1 Pre_1
      (fun tb e a s o t => postC L tb e a s o t ∧ Framed s o t (fieldLocs frame_1_writes a s ++ arrayLocs frame_1_arrays a s ++ staticLocs frame_1_statics s) 600000 7302250) := by
  intro l _ _ _ p e ha hc hk s m args below hf hfit hheap happ hpre
  obtain ⟨k, o, h1, h2, h3, rfl, hF⟩ := lw_comes l p e ha hc hk s m args below hf hfit hheap happ hpre
  exact ⟨k, _, h1, h2, h3, hL args s _, lw_frame hF⟩
theorem i_vc : Claimed_1_1 ∧ Claimed_1_2 := ⟨lw_limb limb_1_1 (fun args s t => by simp [limb_1_1, Cond.after, Cond.holds, Cond.value]), lw_limb limb_1_2 (fun args s t => Cond.after_iff.mpr (by
  first | (rw [show limb_1_2 = Cond.eq .result (.int 1) from rfl, Cond.eq_ints (x := 1) (y := 1) rfl rfl]; simp; done) | (simp [limb_1_2, Cond.value, Term.eval]; done)))⟩
end
