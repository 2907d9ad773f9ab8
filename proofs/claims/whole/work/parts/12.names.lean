def x_cnl : List String := ["SnowTracks$Dropping", "SnowTracks$Graph", "SnowTracks$Pass", "SnowTracks$People", "SnowTracks$Reader", "SnowTracks$Shelf", "SnowTracks", "SnowTracksModel", "SnowTracksLaw", "java/util/Arrays", "java/lang/Integer", "java/lang/Math"]
def x_cn (k : Nat) : String := (x_nth x_cnl k).getD ""
def x_yl : List MethodName := [⟨"SnowTracks", "<init>", "()V"⟩, ⟨"SnowTracks$Shelf", "<init>", "(III)V"⟩, ⟨"java/util/Arrays", "fill", "([II)V"⟩, ⟨"SnowTracks$Pass", "<init>", "()V"⟩, ⟨"SnowTracks$Reader", "<init>", "()V"⟩, ⟨"SnowTracks$Graph", "<init>", "()V"⟩, ⟨"SnowTracks$Dropping", "<init>", "()V"⟩, ⟨"SnowTracks$People", "<init>", "()V"⟩, ⟨"SnowTracks", "row", "(II)I"⟩, ⟨"SnowTracks$Shelf", "isNumber", "(I)Z"⟩, ⟨"SnowTracks", "refuse", "(I)I"⟩, ⟨"SnowTracks$Shelf", "make", "(II)V"⟩, ⟨"SnowTracks", "lay", "(III)I"⟩, ⟨"SnowTracks", "tellPlace", "(II)I"⟩, ⟨"SnowTracks$Shelf", "isThere", "(I)Z"⟩, ⟨"SnowTracks$Shelf", "hasPlace", "(II)Z"⟩, ⟨"SnowTracks", "at", "(II)I"⟩, ⟨"SnowTracks", "tear", "(I)I"⟩, ⟨"SnowTracks", "copy", "(IIIII)I"⟩, ⟨"SnowTracks$Shelf", "hasPlaces", "(III)Z"⟩, ⟨"SnowTracks", "mean", "(I)I"⟩, ⟨"SnowTracks$Shelf", "sum", "(I)J"⟩, ⟨"SnowTracks", "text", "(II)I"⟩, ⟨"SnowTracks", "put", "(III)I"⟩, ⟨"SnowTracks", "fault", "(I)I"⟩, ⟨"SnowTracks$Reader", "read", "([II)I"⟩, ⟨"SnowTracks$Pass", "clear", "()V"⟩, ⟨"SnowTracks$Reader", "readItem", "([III)I"⟩, ⟨"SnowTracks$Reader", "signAt", "([III)I"⟩, ⟨"SnowTracks$Reader", "kindOf", "(I)I"⟩, ⟨"SnowTracks$Reader", "readTrack", "(I[III)I"⟩, ⟨"SnowTracks$Reader", "figureOf", "(I)I"⟩, ⟨"SnowTracks$Pass", "addTrack", "(III)V"⟩, ⟨"SnowTracks$Pass", "isTrack", "(I)Z"⟩, ⟨"SnowTracks$Reader", "readCrossing", "(I[III)I"⟩, ⟨"SnowTracks$Pass", "areTwo", "(II)Z"⟩, ⟨"SnowTracks$Pass", "addCrossing", "(II)V"⟩, ⟨"SnowTracks", "pass", "(I)I"⟩, ⟨"SnowTracks$Pass", "takeFrom", "(LSnowTracks$Pass;)V"⟩, ⟨"SnowTracks", "track", "(II)I"⟩, ⟨"SnowTracks$Pass", "ofTrack", "(II)I"⟩, ⟨"SnowTracks$Pass", "timesIn", "([II)I"⟩, ⟨"SnowTracks", "crossing", "(I)I"⟩, ⟨"SnowTracks$Pass", "tells", "(I)Z"⟩, ⟨"SnowTracks$Pass", "tellsAsOver", "(II)Z"⟩, ⟨"SnowTracks$Pass", "tellsAsBeneath", "(II)Z"⟩, ⟨"SnowTracks$Pass", "pairOf", "(I)I"⟩, ⟨"SnowTracks", "mark", "(II)I"⟩, ⟨"SnowTracks$Pass", "isOfKind", "(II)Z"⟩, ⟨"SnowTracks$Pass", "isSuch", "(II)Z"⟩, ⟨"SnowTracks$Pass", "silentAt", "([II)I"⟩, ⟨"SnowTracks$Pass", "tracksCrossed", "(I)I"⟩, ⟨"SnowTracks$Pass", "opposite", "([I[II)I"⟩, ⟨"java/lang/Integer", "bitCount", "(I)I"⟩, ⟨"SnowTracks$Pass", "haresUnder", "(I)I"⟩, ⟨"SnowTracks", "has", "(II)Z"⟩, ⟨"SnowTracks$Pass", "ofKind", "(I)I"⟩, ⟨"SnowTracks", "wind", "(I)I"⟩, ⟨"SnowTracks", "fill", "(II)I"⟩, ⟨"SnowTracks", "cross", "(II)I"⟩, ⟨"SnowTracks", "snow", "(I)I"⟩, ⟨"SnowTracks", "keep", "(I)I"⟩, ⟨"SnowTracks", "on", "(I)I"⟩, ⟨"SnowTracks", "isKept", "(I)Z"⟩, ⟨"SnowTracks", "ahead", "(II)I"⟩, ⟨"SnowTracks$Graph", "takeAll", "(LSnowTracks$Pass;)V"⟩, ⟨"SnowTracks$Graph", "clear", "(I)V"⟩, ⟨"SnowTracks$Graph", "addCrossings", "(LSnowTracks$Pass;)V"⟩, ⟨"SnowTracks$Graph", "addWind", "(LSnowTracks$Pass;)V"⟩, ⟨"SnowTracks$Pass", "windTells", "(II)Z"⟩, ⟨"SnowTracks", "orders", "()I"⟩, ⟨"SnowTracks$Graph", "countOnward", "()V"⟩, ⟨"SnowTracks$Graph", "canFollow", "(II)Z"⟩, ⟨"SnowTracks", "tellFraction", "(JJ)V"⟩, ⟨"SnowTracks", "first", "(I)I"⟩, ⟨"SnowTracks", "layOrder", "(II)V"⟩, ⟨"SnowTracks$Graph", "findOrder", "(I)V"⟩, ⟨"SnowTracks", "nth", "(II)I"⟩, ⟨"SnowTracks", "sure", "(II)I"⟩, ⟨"SnowTracks", "closesToRing", "()Z"⟩, ⟨"SnowTracks$Graph", "close", "()V"⟩, ⟨"SnowTracks$Graph", "layersOf", "(I)I"⟩, ⟨"SnowTracks$Graph", "foremostOf", "(I)I"⟩, ⟨"SnowTracks", "odds", "(II)I"⟩, ⟨"SnowTracks$Graph", "countCome", "()V"⟩, ⟨"SnowTracks$Graph", "ordersWith", "(II)I"⟩, ⟨"SnowTracks", "place", "(I)I"⟩, ⟨"SnowTracks$Graph", "surelyAheadOf", "(I)I"⟩, ⟨"SnowTracks", "judge", "(I)I"⟩, ⟨"SnowTracks", "findingOfOrder", "(I)I"⟩, ⟨"SnowTracks$Shelf", "indexOf", "(II)I"⟩, ⟨"SnowTracks", "meet", "(II)I"⟩, ⟨"SnowTracks", "chain", "(I)I"⟩, ⟨"SnowTracks", "ring", "(I)I"⟩, ⟨"SnowTracks$Graph", "findRing", "()I"⟩, ⟨"SnowTracks$Graph", "stepBack", "(II)V"⟩, ⟨"SnowTracks$Graph", "followRing", "(II)Z"⟩, ⟨"SnowTracks", "wrong", "()I"⟩, ⟨"SnowTracks$Dropping", "clear", "()V"⟩, ⟨"SnowTracks$Dropping", "addPair", "(III)V"⟩, ⟨"SnowTracks$Dropping", "leastWeight", "(LSnowTracks$Graph;)I"⟩, ⟨"SnowTracks$Dropping", "weightAgainst", "(II)I"⟩, ⟨"SnowTracks", "twice", "()I"⟩, ⟨"SnowTracks", "look", "()I"⟩, ⟨"SnowTracks", "hide", "(II)I"⟩, ⟨"SnowTracks$Pass", "tellingOutOf", "(I)I"⟩, ⟨"SnowTracks", "people", "()I"⟩, ⟨"SnowTracks$People", "take", "(LSnowTracks$Pass;)V"⟩, ⟨"SnowTracks$People", "topOf", "(I)I"⟩, ⟨"SnowTracks$People", "mostWith", "(I)I"⟩, ⟨"SnowTracks$People", "fewest", "()I"⟩, ⟨"SnowTracks", "story", "(I)I"⟩, ⟨"SnowTracks", "findingOfClaims", "(I)I"⟩, ⟨"SnowTracks", "aheadByClaim", "(II)I"⟩, ⟨"SnowTracks", "behindByClaim", "(II)I"⟩, ⟨"SnowTracks$Graph", "addSure", "(II)V"⟩, ⟨"SnowTracks", "hold", "(I)I"⟩, ⟨"SnowTracks", "believe", "(I)I"⟩, ⟨"SnowTracks", "walks", "(III)I"⟩, ⟨"SnowTracks", "walk", "(III)V"⟩, ⟨"SnowTracks", "asked", "()I"⟩, ⟨"SnowTracks", "upper", "()J"⟩, ⟨"SnowTracks", "lower", "()J"⟩, ⟨"SnowTracks", "count", "(I)I"⟩, ⟨"SnowTracks", "howMany", "(I)I"⟩, ⟨"SnowTracks$Pass", "telling", "()I"⟩, ⟨"SnowTracks", "keptPasses", "()I"⟩, ⟨"SnowTracks$Shelf", "there", "()I"⟩, ⟨"SnowTracks", "finding", "()I"⟩, ⟨"SnowTracks", "findings", "(I)I"⟩, ⟨"SnowTracks", "digest", "()J"⟩, ⟨"SnowTracks$Shelf", "addTo", "(J)J"⟩, ⟨"SnowTracksModel", "<init>", "()V"⟩, ⟨"SnowTracksModel", "row", "(II)I"⟩, ⟨"SnowTracksModel", "isRow", "(I)Z"⟩, ⟨"SnowTracksModel", "in", "(III)Z"⟩, ⟨"SnowTracksModel", "finds", "(I)I"⟩, ⟨"SnowTracksModel", "lay", "(III)I"⟩, ⟨"SnowTracksModel", "rowBar", "(I)I"⟩, ⟨"SnowTracksModel", "tells", "(II)I"⟩, ⟨"SnowTracksModel", "at", "(II)I"⟩, ⟨"SnowTracksModel", "tear", "(I)I"⟩, ⟨"SnowTracksModel", "copy", "(IIIII)I"⟩, ⟨"SnowTracksModel", "mean", "(I)I"⟩, ⟨"SnowTracksModel", "text", "(II)I"⟩, ⟨"SnowTracksModel", "isText", "(I)Z"⟩, ⟨"SnowTracksModel", "put", "(III)I"⟩, ⟨"SnowTracksModel", "textBar", "(I)I"⟩, ⟨"SnowTracksModel", "fault", "(I)I"⟩, ⟨"SnowTracksModel", "readAll", "(I)I"⟩, ⟨"SnowTracksModel", "byteAt", "(II)I"⟩, ⟨"SnowTracksModel", "isFigure", "(I)Z"⟩, ⟨"SnowTracksModel", "readCrossing", "(I)Z"⟩, ⟨"SnowTracksModel", "readTrack", "(I)Z"⟩, ⟨"SnowTracksModel", "kindBy", "(I)I"⟩, ⟨"SnowTracksModel", "pass", "(I)I"⟩, ⟨"SnowTracksModel", "track", "(II)I"⟩, ⟨"SnowTracksModel", "isTrack", "(I)Z"⟩, ⟨"SnowTracksModel", "trackOf", "(II)I"⟩, ⟨"SnowTracksModel", "crossing", "(I)I"⟩, ⟨"SnowTracksModel", "isTelling", "(I)Z"⟩, ⟨"SnowTracksModel", "letsOver", "(II)Z"⟩, ⟨"SnowTracksModel", "isA", "(II)Z"⟩, ⟨"SnowTracksModel", "letsUnder", "(II)Z"⟩, ⟨"SnowTracksModel", "mark", "(II)I"⟩, ⟨"SnowTracksModel", "beside", "(IZZ)I"⟩, ⟨"SnowTracksModel", "bits", "(I)I"⟩, ⟨"SnowTracksModel", "allOf", "(I)I"⟩, ⟨"SnowTracksModel", "wind", "(I)I"⟩, ⟨"SnowTracksModel", "fill", "(II)I"⟩, ⟨"SnowTracksModel", "cross", "(II)I"⟩, ⟨"SnowTracksModel", "arePair", "(II)Z"⟩, ⟨"SnowTracksModel", "snow", "(I)I"⟩, ⟨"SnowTracksModel", "keep", "(I)I"⟩, ⟨"SnowTracksModel", "on", "(I)I"⟩, ⟨"SnowTracksModel", "ahead", "(II)I"⟩, ⟨"SnowTracksModel", "findNow", "()V"⟩, ⟨"SnowTracksModel", "findAhead", "(III)V"⟩, ⟨"SnowTracksModel", "has", "(II)Z"⟩, ⟨"SnowTracksModel", "isByWind", "(II)Z"⟩, ⟨"SnowTracksModel", "findSurely", "()V"⟩, ⟨"SnowTracksModel", "orders", "()I"⟩, ⟨"SnowTracksModel", "countOrders", "()I"⟩, ⟨"SnowTracksModel", "parts", "(JJ)I"⟩, ⟨"SnowTracksModel", "first", "(I)I"⟩, ⟨"SnowTracksModel", "putOrder", "(II)V"⟩, ⟨"SnowTracksModel", "nth", "(II)I"⟩, ⟨"SnowTracksModel", "sure", "(II)I"⟩, ⟨"SnowTracksModel", "isRingNow", "()Z"⟩, ⟨"SnowTracksModel", "isRing", "()Z"⟩, ⟨"SnowTracksModel", "odds", "(II)I"⟩, ⟨"SnowTracksModel", "countWith", "(II)I"⟩, ⟨"SnowTracksModel", "place", "(I)I"⟩, ⟨"SnowTracksModel", "behind", "(I)I"⟩, ⟨"SnowTracksModel", "judge", "(I)I"⟩, ⟨"SnowTracksModel", "orderBar", "(I)I"⟩, ⟨"SnowTracksModel", "meet", "(II)I"⟩, ⟨"SnowTracksModel", "isBetween", "(II)Z"⟩, ⟨"SnowTracksModel", "chain", "(I)I"⟩, ⟨"SnowTracksModel", "findChains", "(Z)V"⟩, ⟨"SnowTracksModel", "ring", "(I)I"⟩, ⟨"SnowTracksModel", "ringBy", "(I)I"⟩, ⟨"SnowTracksModel", "findFar", "(I)V"⟩, ⟨"SnowTracksModel", "wrong", "()I"⟩, ⟨"SnowTracksModel", "tellingBits", "()I"⟩, ⟨"SnowTracksModel", "twice", "()I"⟩, ⟨"SnowTracksModel", "look", "()I"⟩, ⟨"SnowTracksModel", "hide", "(II)I"⟩, ⟨"SnowTracksModel", "people", "()I"⟩, ⟨"SnowTracksModel", "areOnes", "(I)Z"⟩, ⟨"SnowTracksModel", "story", "(I)I"⟩, ⟨"SnowTracksModel", "claimBar", "(I)I"⟩, ⟨"SnowTracksModel", "claims", "(II)V"⟩, ⟨"SnowTracksModel", "hold", "(I)I"⟩, ⟨"SnowTracksModel", "believe", "(I)I"⟩, ⟨"SnowTracksModel", "walks", "(III)I"⟩, ⟨"SnowTracksModel", "asked", "()I"⟩, ⟨"SnowTracksModel", "upper", "()J"⟩, ⟨"SnowTracksModel", "lower", "()J"⟩, ⟨"SnowTracksModel", "count", "(I)I"⟩, ⟨"SnowTracksModel", "counted", "(I)I"⟩, ⟨"SnowTracksModel", "finding", "()I"⟩, ⟨"SnowTracksModel", "findings", "(I)I"⟩, ⟨"SnowTracksModel", "digest", "()J"⟩, ⟨"SnowTracksModel", "mixPass", "()V"⟩, ⟨"SnowTracksModel", "mix", "(I)V"⟩]
def x_y (k : Nat) : MethodName := (x_nth x_yl k).getD ⟨"", "", ""⟩
def x_bl : List ByteArray := [prog_1_method_1_code, prog_7_method_1_code, prog_13_method_103_code, prog_4_method_1_code, prog_6_method_1_code, prog_3_method_1_code, prog_2_method_1_code, prog_5_method_1_code, prog_1_method_2_code, prog_7_method_2_code, prog_1_method_48_code, prog_7_method_6_code, prog_1_method_3_code, prog_1_method_49_code, prog_7_method_3_code, prog_7_method_4_code, prog_1_method_4_code, prog_1_method_5_code, prog_1_method_6_code, prog_7_method_5_code, prog_1_method_7_code, prog_7_method_7_code, prog_1_method_8_code, prog_1_method_9_code, prog_1_method_10_code, prog_6_method_2_code, prog_4_method_2_code, prog_6_method_3_code, prog_6_method_6_code, prog_6_method_8_code, prog_6_method_4_code, prog_6_method_7_code, prog_4_method_4_code, prog_4_method_6_code, prog_6_method_5_code, prog_4_method_7_code, prog_4_method_5_code, prog_1_method_11_code, prog_4_method_3_code, prog_1_method_12_code, prog_4_method_11_code, prog_4_method_12_code, prog_1_method_13_code, prog_4_method_14_code, prog_4_method_15_code, prog_4_method_16_code, prog_4_method_13_code, prog_1_method_14_code, prog_4_method_8_code, prog_4_method_9_code, prog_4_method_20_code, prog_4_method_22_code, prog_4_method_21_code, prog_10_method_49_code, prog_4_method_23_code, prog_1_method_50_code, prog_4_method_10_code, prog_1_method_15_code, prog_1_method_16_code, prog_1_method_17_code, prog_1_method_18_code, prog_1_method_19_code, prog_1_method_20_code, prog_1_method_51_code, prog_1_method_21_code, prog_3_method_3_code, prog_3_method_2_code, prog_3_method_4_code, prog_3_method_5_code, prog_4_method_19_code, prog_1_method_22_code, prog_3_method_12_code, prog_3_method_11_code, prog_1_method_54_code, prog_1_method_23_code, prog_1_method_56_code, prog_3_method_15_code, prog_1_method_24_code, prog_1_method_25_code, prog_1_method_55_code, prog_3_method_6_code, prog_3_method_10_code, prog_3_method_9_code, prog_1_method_26_code, prog_3_method_13_code, prog_3_method_14_code, prog_1_method_27_code, prog_3_method_8_code, prog_1_method_28_code, prog_1_method_57_code, prog_7_method_8_code, prog_1_method_29_code, prog_1_method_30_code, prog_1_method_31_code, prog_3_method_16_code, prog_3_method_17_code, prog_3_method_18_code, prog_1_method_32_code, prog_2_method_2_code, prog_2_method_3_code, prog_2_method_4_code, prog_2_method_5_code, prog_1_method_33_code, prog_1_method_34_code, prog_1_method_35_code, prog_4_method_18_code, prog_1_method_36_code, prog_5_method_2_code, prog_5_method_3_code, prog_5_method_4_code, prog_5_method_5_code, prog_1_method_37_code, prog_1_method_58_code, prog_1_method_59_code, prog_1_method_60_code, prog_3_method_7_code, prog_1_method_38_code, prog_1_method_39_code, prog_1_method_40_code, prog_1_method_61_code, prog_1_method_41_code, prog_1_method_42_code, prog_1_method_43_code, prog_1_method_44_code, prog_1_method_52_code, prog_4_method_17_code, prog_1_method_53_code, prog_7_method_9_code, prog_1_method_45_code, prog_1_method_46_code, prog_1_method_47_code, prog_7_method_10_code, prog_9_method_1_code, prog_9_method_11_code, prog_9_method_9_code, prog_9_method_3_code, prog_9_method_6_code, prog_9_method_12_code, prog_9_method_10_code, prog_9_method_7_code, prog_9_method_13_code, prog_9_method_14_code, prog_9_method_15_code, prog_9_method_16_code, prog_9_method_19_code, prog_9_method_17_code, prog_9_method_20_code, prog_9_method_18_code, prog_9_method_27_code, prog_9_method_26_code, prog_9_method_21_code, prog_9_method_23_code, prog_9_method_25_code, prog_9_method_24_code, prog_9_method_22_code, prog_9_method_28_code, prog_9_method_36_code, prog_9_method_29_code, prog_9_method_35_code, prog_9_method_37_code, prog_9_method_34_code, prog_9_method_32_code, prog_9_method_31_code, prog_9_method_33_code, prog_9_method_40_code, prog_9_method_38_code, prog_9_method_5_code, prog_9_method_39_code, prog_9_method_41_code, prog_9_method_42_code, prog_9_method_43_code, prog_9_method_30_code, prog_9_method_44_code, prog_9_method_45_code, prog_9_method_46_code, prog_9_method_53_code, prog_9_method_51_code, prog_9_method_48_code, prog_9_method_4_code, prog_9_method_47_code, prog_9_method_49_code, prog_9_method_56_code, prog_9_method_54_code, prog_9_method_8_code, prog_9_method_58_code, prog_9_method_57_code, prog_9_method_59_code, prog_9_method_60_code, prog_9_method_52_code, prog_9_method_50_code, prog_9_method_61_code, prog_9_method_55_code, prog_9_method_63_code, prog_9_method_62_code, prog_9_method_65_code, prog_9_method_64_code, prog_9_method_67_code, prog_9_method_66_code, prog_9_method_68_code, prog_9_method_69_code, prog_9_method_72_code, prog_9_method_71_code, prog_9_method_70_code, prog_9_method_74_code, prog_9_method_73_code, prog_9_method_75_code, prog_9_method_76_code, prog_9_method_77_code, prog_9_method_79_code, prog_9_method_78_code, prog_9_method_82_code, prog_9_method_80_code, prog_9_method_81_code, prog_9_method_83_code, prog_9_method_84_code, prog_9_method_85_code, prog_9_method_86_code, prog_9_method_87_code, prog_9_method_88_code, prog_9_method_90_code, prog_9_method_89_code, prog_9_method_91_code, prog_9_method_92_code, prog_9_method_95_code, prog_9_method_94_code, prog_9_method_93_code, code]
def x_by (k : Nat) : ByteArray := (x_nth x_bl k).getD ⟨#[]⟩
def x_F0 : u_T := fun k => match k with
  | 0 => ("SnowTracks$Dropping", "pairs", "I", false)
  | 1 => ("SnowTracks$Dropping", "who", "[I", true)
  | 2 => ("SnowTracks$Dropping", "whom", "[I", true)
  | 3 => ("SnowTracks$Dropping", "weights", "[I", true)
  | _ => ("SnowTracks$Dropping", "least", "[I", true)
def x_t0 : Nat → FieldType := fun k => match k with
  | 0 => .int
  | 1 => .array .int
  | 2 => .array .int
  | 3 => .array .int
  | _ => .array .int
def x_F1 : u_T := fun k => match k with
  | 0 => ("SnowTracks$Graph", "tracks", "I", false)
  | 1 => ("SnowTracks$Graph", "all", "I", false)
  | 2 => ("SnowTracks$Graph", "before", "[I", true)
  | 3 => ("SnowTracks$Graph", "after", "[I", true)
  | 4 => ("SnowTracks$Graph", "onward", "[I", true)
  | 5 => ("SnowTracks$Graph", "come", "[I", true)
  | 6 => ("SnowTracks$Graph", "orderTracks", "[I", true)
  | 7 => ("SnowTracks$Graph", "ringTracks", "[I", true)
  | _ => ("SnowTracks$Graph", "back", "[I", true)
def x_t1 : Nat → FieldType := fun k => match k with
  | 0 => .int
  | 1 => .int
  | 2 => .array .int
  | 3 => .array .int
  | 4 => .array .int
  | 5 => .array .int
  | 6 => .array .int
  | 7 => .array .int
  | _ => .array .int
def x_F2 : u_T := fun k => match k with
  | 0 => ("SnowTracks$Pass", "tracks", "I", false)
  | 1 => ("SnowTracks$Pass", "crossings", "I", false)
  | 2 => ("SnowTracks$Pass", "wind", "I", false)
  | 3 => ("SnowTracks$Pass", "kinds", "[I", true)
  | 4 => ("SnowTracks$Pass", "sizes", "[I", true)
  | 5 => ("SnowTracks$Pass", "fills", "[I", true)
  | 6 => ("SnowTracks$Pass", "overs", "[I", true)
  | _ => ("SnowTracks$Pass", "beneaths", "[I", true)
def x_t2 : Nat → FieldType := fun k => match k with
  | 0 => .int
  | 1 => .int
  | 2 => .int
  | 3 => .array .int
  | 4 => .array .int
  | 5 => .array .int
  | 6 => .array .int
  | _ => .array .int
def x_F3 : u_T := fun k => match k with
  | 0 => ("SnowTracks$People", "all", "I", false)
  | 1 => ("SnowTracks$People", "ones", "[I", true)
  | 2 => ("SnowTracks$People", "fewestOf", "[I", true)
  | _ => ("SnowTracks$People", "alike", "[I", true)
def x_t3 : Nat → FieldType := fun k => match k with
  | 0 => .int
  | 1 => .array .int
  | 2 => .array .int
  | _ => .array .int
def x_F4 : u_T := fun k => match k with
  | _ => ("SnowTracks$Reader", "draft", "LSnowTracks$Pass;", true)
def x_t4 : Nat → FieldType := fun k => match k with
  | _ => .object "SnowTracks$Pass"
def x_F5 : u_T := fun k => match k with
  | 0 => ("SnowTracks$Shelf", "ints", "[[I", true)
  | 1 => ("SnowTracks$Shelf", "sizes", "[I", true)
  | _ => ("SnowTracks$Shelf", "blank", "I", true)
def x_t5 : Nat → FieldType := fun k => match k with
  | 0 => .array (.array .int)
  | 1 => .array .int
  | _ => .int
def x_F6 : u_T := fun k => match k with
  | 0 => ("SnowTracks", "rows", "LSnowTracks$Shelf;", true)
  | 1 => ("SnowTracks", "texts", "LSnowTracks$Shelf;", true)
  | 2 => ("SnowTracks", "now", "LSnowTracks$Pass;", true)
  | 3 => ("SnowTracks", "reader", "LSnowTracks$Reader;", true)
  | 4 => ("SnowTracks", "kept", "[LSnowTracks$Pass;", true)
  | 5 => ("SnowTracks", "graph", "LSnowTracks$Graph;", true)
  | 6 => ("SnowTracks", "dropping", "LSnowTracks$Dropping;", true)
  | 7 => ("SnowTracks", "folk", "LSnowTracks$People;", true)
  | 8 => ("SnowTracks", "told", "I", false)
  | 9 => ("SnowTracks", "toldUpper", "J", false)
  | 10 => ("SnowTracks", "toldLower", "J", false)
  | 11 => ("SnowTracks", "latestFinding", "I", false)
  | _ => ("SnowTracks", "findingCounts", "[I", true)
def x_t6 : Nat → FieldType := fun k => match k with
  | 0 => .object "SnowTracks$Shelf"
  | 1 => .object "SnowTracks$Shelf"
  | 2 => .object "SnowTracks$Pass"
  | 3 => .object "SnowTracks$Reader"
  | 4 => .array (.object "SnowTracks$Pass")
  | 5 => .object "SnowTracks$Graph"
  | 6 => .object "SnowTracks$Dropping"
  | 7 => .object "SnowTracks$People"
  | 8 => .int
  | 9 => .long
  | 10 => .long
  | 11 => .int
  | _ => .array .int
def x_F7 : u_T := fun k => match k with
  | 0 => ("SnowTracksModel", "latest", "I", false)
  | 1 => ("SnowTracksModel", "came", "[I", true)
  | 2 => ("SnowTracksModel", "asked", "I", false)
  | 3 => ("SnowTracksModel", "up", "J", false)
  | 4 => ("SnowTracksModel", "down", "J", false)
  | 5 => ("SnowTracksModel", "sizes", "[I", true)
  | 6 => ("SnowTracksModel", "items", "[I", true)
  | 7 => ("SnowTracksModel", "carried", "[I", true)
  | 8 => ("SnowTracksModel", "lengths", "[I", true)
  | 9 => ("SnowTracksModel", "bytes", "[I", true)
  | 10 => ("SnowTracksModel", "many", "I", false)
  | 11 => ("SnowTracksModel", "kinds", "[I", true)
  | 12 => ("SnowTracksModel", "large", "[I", true)
  | 13 => ("SnowTracksModel", "fills", "[I", true)
  | 14 => ("SnowTracksModel", "crossed", "I", false)
  | 15 => ("SnowTracksModel", "over", "[I", true)
  | 16 => ("SnowTracksModel", "under", "[I", true)
  | 17 => ("SnowTracksModel", "wind", "I", false)
  | 18 => ("SnowTracksModel", "place", "I", false)
  | 19 => ("SnowTracksModel", "readMany", "I", false)
  | 20 => ("SnowTracksModel", "readCrossed", "I", false)
  | 21 => ("SnowTracksModel", "readKind", "[I", true)
  | 22 => ("SnowTracksModel", "readLarge", "[I", true)
  | 23 => ("SnowTracksModel", "readFill", "[I", true)
  | 24 => ("SnowTracksModel", "readOver", "[I", true)
  | 25 => ("SnowTracksModel", "readUnder", "[I", true)
  | 26 => ("SnowTracksModel", "kept", "[I", true)
  | 27 => ("SnowTracksModel", "ahead", "[I", true)
  | 28 => ("SnowTracksModel", "surely", "[I", true)
  | 29 => ("SnowTracksModel", "ways", "[I", true)
  | 30 => ("SnowTracksModel", "placeOf", "[I", true)
  | 31 => ("SnowTracksModel", "chains", "[I", true)
  | 32 => ("SnowTracksModel", "far", "[I", true)
  | 33 => ("SnowTracksModel", "fewest", "[I", true)
  | 34 => ("SnowTracksModel", "isOnes", "[Z", true)
  | _ => ("SnowTracksModel", "mixed", "J", false)
def x_t7 : Nat → FieldType := fun k => match k with
  | 0 => .int
  | 1 => .array .int
  | 2 => .int
  | 3 => .long
  | 4 => .long
  | 5 => .array .int
  | 6 => .array .int
  | 7 => .array .int
  | 8 => .array .int
  | 9 => .array .int
  | 10 => .int
  | 11 => .array .int
  | 12 => .array .int
  | 13 => .array .int
  | 14 => .int
  | 15 => .array .int
  | 16 => .array .int
  | 17 => .int
  | 18 => .int
  | 19 => .int
  | 20 => .int
  | 21 => .array .int
  | 22 => .array .int
  | 23 => .array .int
  | 24 => .array .int
  | 25 => .array .int
  | 26 => .array .int
  | 27 => .array .int
  | 28 => .array .int
  | 29 => .array .int
  | 30 => .array .int
  | 31 => .array .int
  | 32 => .array .int
  | 33 => .array .int
  | 34 => .array .boolean
  | _ => .long
abbrev x_cl : List vw_C := [("SnowTracks$Dropping", x_F0, 5), ("SnowTracks$Graph", x_F1, 9), ("SnowTracks$Pass", x_F2, 8), ("SnowTracks$People", x_F3, 4), ("SnowTracks$Reader", x_F4, 1), ("SnowTracks$Shelf", x_F5, 3), ("SnowTracks", x_F6, 13), ("SnowTracksModel", x_F7, 36)]
def x_ftl : List (List Nat) := [[0, 2, 2, 2, 2], [0, 0, 2, 2, 2, 2, 2, 2, 2], [0, 0, 0, 2, 2, 2, 2, 2], [0, 2, 2, 2], [2], [2, 2, 0], [2, 2, 2, 2, 2, 2, 2, 2, 0, 1, 1, 0, 2], [0, 2, 0, 1, 1, 2, 2, 2, 2, 2, 0, 2, 2, 2, 0, 2, 2, 0, 0, 0, 0, 2, 2, 2, 2, 2, 2, 2, 2, 2, 2, 2, 2, 2, 2, 1]]
/-- the kind of a field: 0 int, 1 long, 2 a reference -/
def x_ft (ci k : Nat) : Nat := match x_nth x_ftl ci with
  | some l => (x_nth l k).getD 2
  | none => 2
def x_rty (k : Nat) : Option FieldType := match k with
  | 0 => none
  | 1 => some .int
  | 2 => some .boolean
  | _ => some .long
theorem x_nm0 : ∀ a, a < 5 → ∀ b, b < 5 → a ≠ b → (x_F0 a).2.1 ≠ (x_F0 b).2.1 := by decide +kernel
theorem x_ty0 : ∀ k, k < 5 → parseFieldDescriptor (x_F0 k).2.2.1 = some (x_t0 k) := by decide +kernel
theorem x_in0 : ∀ w ∈ u_ws "SnowTracks$Dropping" x_F0 5, w ∈ lw_tbl := by decide +kernel
theorem x_nm1 : ∀ a, a < 9 → ∀ b, b < 9 → a ≠ b → (x_F1 a).2.1 ≠ (x_F1 b).2.1 := by decide +kernel
theorem x_ty1 : ∀ k, k < 9 → parseFieldDescriptor (x_F1 k).2.2.1 = some (x_t1 k) := by decide +kernel
theorem x_in1 : ∀ w ∈ u_ws "SnowTracks$Graph" x_F1 9, w ∈ lw_tbl := by decide +kernel
theorem x_nm2 : ∀ a, a < 8 → ∀ b, b < 8 → a ≠ b → (x_F2 a).2.1 ≠ (x_F2 b).2.1 := by decide +kernel
theorem x_ty2 : ∀ k, k < 8 → parseFieldDescriptor (x_F2 k).2.2.1 = some (x_t2 k) := by decide +kernel
theorem x_in2 : ∀ w ∈ u_ws "SnowTracks$Pass" x_F2 8, w ∈ lw_tbl := by decide +kernel
theorem x_nm3 : ∀ a, a < 4 → ∀ b, b < 4 → a ≠ b → (x_F3 a).2.1 ≠ (x_F3 b).2.1 := by decide +kernel
theorem x_ty3 : ∀ k, k < 4 → parseFieldDescriptor (x_F3 k).2.2.1 = some (x_t3 k) := by decide +kernel
theorem x_in3 : ∀ w ∈ u_ws "SnowTracks$People" x_F3 4, w ∈ lw_tbl := by decide +kernel
theorem x_nm4 : ∀ a, a < 1 → ∀ b, b < 1 → a ≠ b → (x_F4 a).2.1 ≠ (x_F4 b).2.1 := by decide +kernel
theorem x_ty4 : ∀ k, k < 1 → parseFieldDescriptor (x_F4 k).2.2.1 = some (x_t4 k) := by decide +kernel
theorem x_in4 : ∀ w ∈ u_ws "SnowTracks$Reader" x_F4 1, w ∈ lw_tbl := by decide +kernel
theorem x_nm5 : ∀ a, a < 3 → ∀ b, b < 3 → a ≠ b → (x_F5 a).2.1 ≠ (x_F5 b).2.1 := by decide +kernel
theorem x_ty5 : ∀ k, k < 3 → parseFieldDescriptor (x_F5 k).2.2.1 = some (x_t5 k) := by decide +kernel
theorem x_in5 : ∀ w ∈ u_ws "SnowTracks$Shelf" x_F5 3, w ∈ lw_tbl := by decide +kernel
theorem x_nm6 : ∀ a, a < 13 → ∀ b, b < 13 → a ≠ b → (x_F6 a).2.1 ≠ (x_F6 b).2.1 := by decide +kernel
theorem x_ty6 : ∀ k, k < 13 → parseFieldDescriptor (x_F6 k).2.2.1 = some (x_t6 k) := by decide +kernel
theorem x_in6 : ∀ w ∈ u_ws "SnowTracks" x_F6 13, w ∈ lw_tbl := by decide +kernel
theorem x_nm7 : ∀ a, a < 36 → ∀ b, b < 36 → a ≠ b → (x_F7 a).2.1 ≠ (x_F7 b).2.1 := by decide +kernel
theorem x_ty7 : ∀ k, k < 36 → parseFieldDescriptor (x_F7 k).2.2.1 = some (x_t7 k) := by decide +kernel
theorem x_in7 : ∀ w ∈ u_ws "SnowTracksModel" x_F7 36, w ∈ lw_tbl := by decide +kernel
def x_cp : List (Nat × Nat × Nat × Nat × Nat) := [(79, 63, 78, 0, 2), (87, 64, 86, 0, 2), (93, 65, 92, 0, 1), (111, 66, 110, 0, 2), (156, 67, 155, 0, 2), (170, 68, 169, 0, 2), (212, 69, 211, 0, 2), (234, 70, 233, 0, 2), (292, 63, 290, 291, 0), (296, 64, 294, 295, 0), (300, 63, 299, 0, 0), (304, 64, 302, 303, 0), (308, 63, 306, 307, 0), (312, 63, 311, 1, 0), (316, 64, 314, 315, 0), (320, 64, 318, 319, 0), (324, 63, 322, 323, 0), (328, 63, 326, 327, 0), (332, 63, 330, 331, 0), (336, 64, 334, 335, 0), (343, 63, 341, 342, 0), (347, 64, 345, 346, 0), (351, 63, 349, 350, 0), (355, 63, 353, 354, 0), (359, 63, 357, 358, 0), (363, 67, 361, 362, 0), (367, 66, 365, 366, 0), (371, 67, 370, 2, 0), (374, 67, 373, 0, 1), (377, 67, 376, 0, 1), (381, 67, 380, 3, 0), (384, 67, 383, 0, 1), (388, 66, 386, 387, 0), (392, 66, 390, 391, 0), (396, 67, 395, 4, 0), (400, 66, 398, 399, 0), (405, 66, 403, 404, 0), (409, 63, 407, 408, 0), (413, 66, 411, 412, 0), (419, 63, 417, 418, 0), (424, 66, 422, 423, 0), (428, 66, 427, 5, 0), (432, 63, 430, 431, 0), (436, 66, 434, 435, 0), (439, 66, 438, 0, 1), (442, 66, 441, 0, 1), (446, 66, 444, 445, 0), (450, 63, 448, 449, 0), (454, 66, 452, 453, 0), (457, 66, 456, 0, 1), (461, 66, 459, 460, 0), (466, 66, 464, 465, 0), (470, 66, 469, 6, 0), (473, 73, 472, 0, 1), (480, 66, 478, 479, 0), (483, 63, 482, 0, 1), (488, 66, 486, 487, 0), (492, 63, 490, 491, 0), (496, 63, 494, 495, 0), (500, 63, 498, 499, 0), (506, 63, 504, 505, 0), (510, 63, 508, 509, 0), (514, 63, 512, 513, 0), (518, 63, 517, 7, 0), (522, 63, 520, 521, 0), (526, 68, 524, 525, 0), (530, 68, 528, 529, 0), (535, 68, 533, 534, 0), (540, 68, 538, 539, 0), (544, 66, 542, 543, 0), (549, 63, 547, 548, 0), (553, 68, 551, 552, 0), (557, 68, 555, 556, 0), (562, 63, 561, 8, 0), (566, 63, 564, 565, 0), (570, 63, 569, 9, 0), (574, 68, 572, 573, 0), (578, 63, 576, 577, 0), (582, 63, 580, 581, 0), (586, 63, 585, 10, 0), (590, 68, 588, 589, 0), (594, 68, 592, 593, 0), (598, 68, 597, 11, 0), (602, 63, 600, 601, 0), (606, 68, 604, 605, 0), (610, 68, 608, 609, 0), (614, 63, 612, 613, 0), (618, 68, 616, 617, 0), (622, 63, 620, 621, 0), (626, 63, 625, 12, 0), (630, 64, 628, 629, 0), (634, 63, 632, 633, 0), (638, 63, 636, 637, 0), (642, 63, 640, 641, 0), (646, 68, 644, 645, 0), (650, 68, 649, 13, 0), (654, 68, 653, 14, 0), (658, 63, 656, 657, 0), (664, 69, 662, 663, 0), (669, 69, 667, 668, 0), (673, 69, 671, 672, 0), (680, 69, 679, 15, 0), (687, 63, 685, 686, 0), (691, 63, 689, 690, 0), (698, 63, 696, 697, 0), (703, 66, 701, 702, 0), (708, 63, 706, 707, 0), (712, 70, 710, 711, 0), (720, 70, 719, 0, 1), (724, 70, 722, 723, 0), (730, 70, 728, 729, 0), (735, 63, 733, 734, 0), (739, 63, 738, 16, 0), (743, 63, 742, 17, 0), (747, 63, 746, 18, 0), (751, 68, 749, 750, 0), (755, 63, 753, 754, 0), (759, 63, 757, 758, 0), (763, 63, 761, 762, 0), (770, 63, 769, 19, 0), (774, 63, 772, 773, 0), (778, 63, 776, 777, 0), (782, 63, 780, 781, 0), (786, 63, 784, 785, 0), (790, 63, 789, 20, 0), (794, 66, 792, 793, 0), (798, 63, 797, 21, 0), (802, 64, 800, 801, 0), (807, 63, 805, 806, 0), (811, 63, 809, 810, 0), (815, 63, 813, 814, 0), (821, 64, 819, 820, 0), (827, 71, 826, 0, 2), (942, 71, 940, 941, 0), (945, 71, 944, 0, 1), (948, 71, 947, 0, 1), (952, 71, 951, 22, 0), (956, 71, 954, 955, 0), (960, 71, 959, 23, 0), (964, 71, 963, 24, 0), (968, 71, 966, 967, 0), (972, 71, 970, 971, 0), (976, 71, 974, 975, 0), (980, 71, 978, 979, 0), (984, 71, 982, 983, 0), (987, 71, 986, 0, 1), (991, 71, 989, 990, 0), (995, 71, 994, 25, 0), (999, 71, 997, 998, 0), (1003, 71, 1002, 26, 0), (1007, 71, 1006, 27, 0), (1010, 71, 1009, 0, 1), (1014, 71, 1013, 28, 0), (1018, 71, 1017, 29, 0), (1021, 71, 1020, 0, 1), (1025, 71, 1023, 1024, 0), (1029, 71, 1027, 1028, 0), (1033, 71, 1032, 30, 0), (1037, 71, 1036, 31, 0), (1041, 71, 1039, 1040, 0), (1045, 71, 1044, 32, 0), (1049, 71, 1048, 33, 0), (1053, 71, 1052, 34, 0), (1057, 71, 1056, 35, 0), (1061, 71, 1059, 1060, 0), (1065, 71, 1064, 36, 0), (1068, 71, 1067, 0, 1), (1072, 71, 1071, 37, 0), (1076, 71, 1074, 1075, 0), (1080, 71, 1078, 1079, 0), (1084, 71, 1082, 1083, 0), (1088, 71, 1087, 38, 0), (1092, 71, 1090, 1091, 0), (1096, 71, 1094, 1095, 0), (1100, 71, 1098, 1099, 0), (1104, 71, 1102, 1103, 0), (1108, 71, 1107, 39, 0), (1112, 71, 1111, 40, 0), (1115, 71, 1114, 0, 1), (1119, 71, 1118, 41, 0), (1123, 71, 1122, 42, 0), (1127, 71, 1125, 1126, 0), (1131, 71, 1130, 43, 0), (1135, 71, 1134, 44, 0), (1139, 71, 1137, 1138, 0), (1143, 71, 1142, 45, 0), (1148, 71, 1146, 1147, 0), (1152, 71, 1150, 1151, 0), (1156, 71, 1155, 46, 0), (1160, 71, 1159, 47, 0), (1164, 71, 1162, 1163, 0), (1168, 71, 1167, 48, 0), (1172, 71, 1170, 1171, 0), (1176, 71, 1175, 49, 0), (1180, 71, 1178, 1179, 0), (1184, 71, 1183, 50, 0), (1188, 71, 1186, 1187, 0), (1192, 71, 1191, 51, 0), (1196, 71, 1194, 1195, 0), (1200, 71, 1199, 52, 0), (1204, 71, 1202, 1203, 0), (1208, 71, 1207, 53, 0), (1212, 71, 1211, 54, 0), (1216, 71, 1214, 1215, 0), (1220, 71, 1219, 55, 0), (1224, 71, 1222, 1223, 0), (1228, 71, 1226, 1227, 0), (1232, 71, 1230, 1231, 0), (1236, 71, 1234, 1235, 0), (1240, 71, 1239, 56, 0), (1244, 71, 1242, 1243, 0), (1248, 71, 1247, 57, 0), (1252, 71, 1251, 58, 0), (1256, 71, 1254, 1255, 0), (1260, 71, 1258, 1259, 0), (1264, 71, 1262, 1263, 0), (1272, 71, 1270, 1271, 0), (1276, 71, 1274, 1275, 0), (1280, 71, 1278, 1279, 0), (1284, 71, 1282, 1283, 0), (1288, 71, 1287, 59, 0), (1292, 71, 1290, 1291, 0), (1296, 71, 1294, 1295, 0), (1300, 71, 1298, 1299, 0), (1305, 71, 1304, 60, 0), (1309, 71, 1308, 61, 0)]
/-- the kind of a method: 0 of an object, 1 static, 2 a constructor -/
def x_kd (a : Nat) : Nat := match x_nth x_cp a with
  | some (_, _, _, _, kd) => kd
  | none => 3
