def x_cnl : List String := ["SnowTracks$Dropping", "SnowTracks$Graph", "SnowTracks$Pass", "SnowTracks$People", "SnowTracks$Reader", "SnowTracks$Shelf", "SnowTracks", "SnowTracksModel", "SnowTracksLaw", "java/util/Arrays", "java/lang/Integer", "java/lang/Math"]
def x_cn (k : Nat) : String := (x_nth x_cnl k).getD ""
def x_yl : List MethodName := [⟨"SnowTracks", "<init>", "()V"⟩, ⟨"SnowTracks$Shelf", "<init>", "(III)V"⟩, ⟨"java/util/Arrays", "fill", "([II)V"⟩, ⟨"SnowTracks$Pass", "<init>", "()V"⟩, ⟨"SnowTracks$Reader", "<init>", "()V"⟩, ⟨"SnowTracks$Graph", "<init>", "()V"⟩, ⟨"SnowTracks$Dropping", "<init>", "()V"⟩, ⟨"SnowTracks$People", "<init>", "()V"⟩, ⟨"SnowTracks", "row", "(II)I"⟩, ⟨"SnowTracks$Shelf", "isNumber", "(I)Z"⟩, ⟨"SnowTracks", "refuse", "(I)I"⟩, ⟨"SnowTracks$Shelf", "make", "(II)V"⟩, ⟨"SnowTracks", "lay", "(III)I"⟩, ⟨"SnowTracks", "tellPlace", "(II)I"⟩, ⟨"SnowTracks$Shelf", "isThere", "(I)Z"⟩, ⟨"SnowTracks$Shelf", "hasPlace", "(II)Z"⟩, ⟨"SnowTracks", "at", "(II)I"⟩, ⟨"SnowTracks", "tear", "(I)I"⟩, ⟨"SnowTracks", "copy", "(IIIII)I"⟩, ⟨"SnowTracks$Shelf", "hasPlaces", "(III)Z"⟩, ⟨"SnowTracks", "mean", "(I)I"⟩, ⟨"SnowTracks$Shelf", "sum", "(I)J"⟩, ⟨"SnowTracks", "text", "(II)I"⟩, ⟨"SnowTracks", "put", "(III)I"⟩, ⟨"SnowTracks", "fault", "(I)I"⟩, ⟨"SnowTracks$Reader", "read", "([II)I"⟩, ⟨"SnowTracks$Pass", "clear", "()V"⟩, ⟨"SnowTracks$Reader", "readItem", "([III)I"⟩, ⟨"SnowTracks$Reader", "signAt", "([III)I"⟩, ⟨"SnowTracks$Reader", "kindOf", "(I)I"⟩, ⟨"SnowTracks$Reader", "readTrack", "(I[III)I"⟩, ⟨"SnowTracks$Reader", "figureOf", "(I)I"⟩, ⟨"SnowTracks$Pass", "addTrack", "(III)V"⟩, ⟨"SnowTracks$Pass", "isTrack", "(I)Z"⟩, ⟨"SnowTracks$Reader", "readCrossing", "(I[III)I"⟩, ⟨"SnowTracks$Pass", "areTwo", "(II)Z"⟩, ⟨"SnowTracks$Pass", "addCrossing", "(II)V"⟩, ⟨"SnowTracks", "pass", "(I)I"⟩, ⟨"SnowTracks$Pass", "takeFrom", "(LSnowTracks$Pass;)V"⟩, ⟨"SnowTracks", "track", "(II)I"⟩, ⟨"SnowTracks$Pass", "ofTrack", "(II)I"⟩, ⟨"SnowTracks$Pass", "timesIn", "([II)I"⟩, ⟨"SnowTracks", "crossing", "(I)I"⟩, ⟨"SnowTracks$Pass", "tells", "(I)Z"⟩, ⟨"SnowTracks$Pass", "tellsAsOver", "(II)Z"⟩, ⟨"SnowTracks$Pass", "tellsAsBeneath", "(II)Z"⟩, ⟨"SnowTracks$Pass", "pairOf", "(I)I"⟩, ⟨"SnowTracks", "mark", "(II)I"⟩, ⟨"SnowTracks$Pass", "isOfKind", "(II)Z"⟩, ⟨"SnowTracks$Pass", "isSuch", "(II)Z"⟩, ⟨"SnowTracks$Pass", "silentAt", "([II)I"⟩, ⟨"SnowTracks$Pass", "tracksCrossed", "(I)I"⟩, ⟨"SnowTracks$Pass", "opposite", "([I[II)I"⟩, ⟨"java/lang/Integer", "bitCount", "(I)I"⟩, ⟨"SnowTracks$Pass", "haresUnder", "(I)I"⟩, ⟨"SnowTracks", "has", "(II)Z"⟩, ⟨"SnowTracks$Pass", "ofKind", "(I)I"⟩, ⟨"SnowTracks", "wind", "(I)I"⟩, ⟨"SnowTracks", "fill", "(II)I"⟩, ⟨"SnowTracks", "cross", "(II)I"⟩, ⟨"SnowTracks", "snow", "(I)I"⟩, ⟨"SnowTracks", "keep", "(I)I"⟩, ⟨"SnowTracks", "on", "(I)I"⟩, ⟨"SnowTracks", "isKept", "(I)Z"⟩, ⟨"SnowTracks", "ahead", "(II)I"⟩, ⟨"SnowTracks$Graph", "takeAll", "(LSnowTracks$Pass;)V"⟩, ⟨"SnowTracks$Graph", "clear", "(I)V"⟩, ⟨"SnowTracks$Graph", "addCrossings", "(LSnowTracks$Pass;)V"⟩, ⟨"SnowTracks$Graph", "addWind", "(LSnowTracks$Pass;)V"⟩, ⟨"SnowTracks$Pass", "windTells", "(II)Z"⟩, ⟨"SnowTracks", "orders", "()I"⟩, ⟨"SnowTracks$Graph", "countOnward", "()V"⟩, ⟨"SnowTracks$Graph", "canFollow", "(II)Z"⟩, ⟨"SnowTracks", "tellFraction", "(JJ)V"⟩, ⟨"SnowTracks", "first", "(I)I"⟩, ⟨"SnowTracks", "layOrder", "(II)V"⟩, ⟨"SnowTracks$Graph", "findOrder", "(I)V"⟩, ⟨"SnowTracks", "nth", "(II)I"⟩, ⟨"SnowTracks", "sure", "(II)I"⟩, ⟨"SnowTracks", "closesToRing", "()Z"⟩, ⟨"SnowTracks$Graph", "close", "()V"⟩, ⟨"SnowTracks$Graph", "layersOf", "(I)I"⟩, ⟨"SnowTracks$Graph", "foremostOf", "(I)I"⟩, ⟨"SnowTracks", "odds", "(II)I"⟩, ⟨"SnowTracks$Graph", "countCome", "()V"⟩, ⟨"SnowTracks$Graph", "ordersWith", "(II)I"⟩, ⟨"SnowTracks", "place", "(I)I"⟩, ⟨"SnowTracks$Graph", "surelyAheadOf", "(I)I"⟩, ⟨"SnowTracks", "judge", "(I)I"⟩, ⟨"SnowTracks", "findingOfOrder", "(I)I"⟩, ⟨"SnowTracks$Shelf", "indexOf", "(II)I"⟩, ⟨"SnowTracks", "meet", "(II)I"⟩, ⟨"SnowTracks", "chain", "(I)I"⟩, ⟨"SnowTracks", "ring", "(I)I"⟩, ⟨"SnowTracks$Graph", "findRing", "()I"⟩, ⟨"SnowTracks$Graph", "stepBack", "(II)V"⟩, ⟨"SnowTracks$Graph", "followRing", "(II)Z"⟩, ⟨"SnowTracks", "wrong", "()I"⟩, ⟨"SnowTracks$Dropping", "clear", "()V"⟩, ⟨"SnowTracks$Dropping", "addPair", "(III)V"⟩, ⟨"SnowTracks$Dropping", "leastWeight", "(LSnowTracks$Graph;)I"⟩, ⟨"SnowTracks$Dropping", "weightAgainst", "(II)I"⟩, ⟨"SnowTracks", "twice", "()I"⟩, ⟨"SnowTracks", "look", "()I"⟩, ⟨"SnowTracks", "hide", "(II)I"⟩, ⟨"SnowTracks$Pass", "tellingOutOf", "(I)I"⟩, ⟨"SnowTracks", "people", "()I"⟩, ⟨"SnowTracks$People", "take", "(LSnowTracks$Pass;)V"⟩, ⟨"SnowTracks$People", "topOf", "(I)I"⟩, ⟨"SnowTracks$People", "mostWith", "(I)I"⟩, ⟨"SnowTracks$People", "fewest", "()I"⟩, ⟨"SnowTracks", "story", "(I)I"⟩, ⟨"SnowTracks", "findingOfClaims", "(I)I"⟩, ⟨"SnowTracks", "aheadByClaim", "(II)I"⟩, ⟨"SnowTracks", "behindByClaim", "(II)I"⟩, ⟨"SnowTracks$Graph", "addSure", "(II)V"⟩, ⟨"SnowTracks", "hold", "(I)I"⟩, ⟨"SnowTracks", "believe", "(I)I"⟩, ⟨"SnowTracks", "walks", "(III)I"⟩, ⟨"SnowTracks", "walk", "(III)V"⟩, ⟨"SnowTracks", "asked", "()I"⟩, ⟨"SnowTracks", "upper", "()J"⟩, ⟨"SnowTracks", "lower", "()J"⟩, ⟨"SnowTracks", "count", "(I)I"⟩, ⟨"SnowTracks", "howMany", "(I)I"⟩, ⟨"SnowTracks$Pass", "telling", "()I"⟩, ⟨"SnowTracks", "keptPasses", "()I"⟩, ⟨"SnowTracks$Shelf", "there", "()I"⟩, ⟨"SnowTracks", "finding", "()I"⟩, ⟨"SnowTracks", "findings", "(I)I"⟩, ⟨"SnowTracks", "digest", "()J"⟩, ⟨"SnowTracks$Shelf", "addTo", "(J)J"⟩, ⟨"SnowTracksModel", "<init>", "()V"⟩, ⟨"SnowTracksModel", "row", "(II)I"⟩, ⟨"SnowTracksModel", "isRow", "(I)Z"⟩, ⟨"SnowTracksModel", "in", "(III)Z"⟩, ⟨"SnowTracksModel", "finds", "(I)I"⟩, ⟨"SnowTracksModel", "lay", "(III)I"⟩, ⟨"SnowTracksModel", "rowBar", "(I)I"⟩, ⟨"SnowTracksModel", "tells", "(II)I"⟩, ⟨"SnowTracksModel", "at", "(II)I"⟩, ⟨"SnowTracksModel", "tear", "(I)I"⟩, ⟨"SnowTracksModel", "copy", "(IIIII)I"⟩, ⟨"SnowTracksModel", "mean", "(I)I"⟩, ⟨"SnowTracksModel", "text", "(II)I"⟩, ⟨"SnowTracksModel", "isText", "(I)Z"⟩, ⟨"SnowTracksModel", "put", "(III)I"⟩, ⟨"SnowTracksModel", "textBar", "(I)I"⟩, ⟨"SnowTracksModel", "fault", "(I)I"⟩, ⟨"SnowTracksModel", "readAll", "(I)I"⟩, ⟨"SnowTracksModel", "byteAt", "(II)I"⟩, ⟨"SnowTracksModel", "isFigure", "(I)Z"⟩, ⟨"SnowTracksModel", "readCrossing", "(I)Z"⟩, ⟨"SnowTracksModel", "readTrack", "(I)Z"⟩, ⟨"SnowTracksModel", "kindBy", "(I)I"⟩, ⟨"SnowTracksModel", "pass", "(I)I"⟩, ⟨"SnowTracksModel", "track", "(II)I"⟩, ⟨"SnowTracksModel", "isTrack", "(I)Z"⟩, ⟨"SnowTracksModel", "trackOf", "(II)I"⟩, ⟨"SnowTracksModel", "crossing", "(I)I"⟩, ⟨"SnowTracksModel", "isTelling", "(I)Z"⟩, ⟨"SnowTracksModel", "letsOver", "(II)Z"⟩, ⟨"SnowTracksModel", "isA", "(II)Z"⟩, ⟨"SnowTracksModel", "letsUnder", "(II)Z"⟩, ⟨"SnowTracksModel", "mark", "(II)I"⟩, ⟨"SnowTracksModel", "beside", "(IZZ)I"⟩, ⟨"SnowTracksModel", "bits", "(I)I"⟩, ⟨"SnowTracksModel", "allOf", "(I)I"⟩, ⟨"SnowTracksModel", "wind", "(I)I"⟩, ⟨"SnowTracksModel", "fill", "(II)I"⟩, ⟨"SnowTracksModel", "cross", "(II)I"⟩, ⟨"SnowTracksModel", "arePair", "(II)Z"⟩, ⟨"SnowTracksModel", "snow", "(I)I"⟩, ⟨"SnowTracksModel", "keep", "(I)I"⟩, ⟨"SnowTracksModel", "on", "(I)I"⟩, ⟨"SnowTracksModel", "ahead", "(II)I"⟩, ⟨"SnowTracksModel", "findNow", "()V"⟩, ⟨"SnowTracksModel", "findAhead", "(III)V"⟩, ⟨"SnowTracksModel", "has", "(II)Z"⟩, ⟨"SnowTracksModel", "isByWind", "(II)Z"⟩, ⟨"SnowTracksModel", "findSurely", "()V"⟩, ⟨"SnowTracksModel", "orders", "()I"⟩, ⟨"SnowTracksModel", "countOrders", "()I"⟩, ⟨"SnowTracksModel", "parts", "(JJ)I"⟩, ⟨"SnowTracksModel", "first", "(I)I"⟩, ⟨"SnowTracksModel", "putOrder", "(II)V"⟩, ⟨"SnowTracksModel", "nth", "(II)I"⟩, ⟨"SnowTracksModel", "sure", "(II)I"⟩, ⟨"SnowTracksModel", "isRingNow", "()Z"⟩, ⟨"SnowTracksModel", "isRing", "()Z"⟩, ⟨"SnowTracksModel", "odds", "(II)I"⟩, ⟨"SnowTracksModel", "countWith", "(II)I"⟩, ⟨"SnowTracksModel", "place", "(I)I"⟩, ⟨"SnowTracksModel", "behind", "(I)I"⟩, ⟨"SnowTracksModel", "judge", "(I)I"⟩, ⟨"SnowTracksModel", "orderBar", "(I)I"⟩, ⟨"SnowTracksModel", "meet", "(II)I"⟩, ⟨"SnowTracksModel", "isBetween", "(II)Z"⟩, ⟨"SnowTracksModel", "chain", "(I)I"⟩, ⟨"SnowTracksModel", "findChains", "(Z)V"⟩, ⟨"SnowTracksModel", "ring", "(I)I"⟩, ⟨"SnowTracksModel", "ringBy", "(I)I"⟩, ⟨"SnowTracksModel", "findFar", "(I)V"⟩, ⟨"SnowTracksModel", "wrong", "()I"⟩, ⟨"SnowTracksModel", "tellingBits", "()I"⟩, ⟨"SnowTracksModel", "twice", "()I"⟩, ⟨"SnowTracksModel", "look", "()I"⟩, ⟨"SnowTracksModel", "hide", "(II)I"⟩, ⟨"SnowTracksModel", "people", "()I"⟩, ⟨"SnowTracksModel", "areOnes", "(I)Z"⟩, ⟨"SnowTracksModel", "story", "(I)I"⟩, ⟨"SnowTracksModel", "claimBar", "(I)I"⟩, ⟨"SnowTracksModel", "claims", "(II)V"⟩, ⟨"SnowTracksModel", "hold", "(I)I"⟩, ⟨"SnowTracksModel", "believe", "(I)I"⟩, ⟨"SnowTracksModel", "walks", "(III)I"⟩, ⟨"SnowTracksModel", "asked", "()I"⟩, ⟨"SnowTracksModel", "upper", "()J"⟩, ⟨"SnowTracksModel", "lower", "()J"⟩, ⟨"SnowTracksModel", "count", "(I)I"⟩, ⟨"SnowTracksModel", "counted", "(I)I"⟩, ⟨"SnowTracksModel", "finding", "()I"⟩, ⟨"SnowTracksModel", "findings", "(I)I"⟩, ⟨"SnowTracksModel", "digest", "()J"⟩, ⟨"SnowTracksModel", "mixPass", "()V"⟩, ⟨"SnowTracksModel", "mix", "(I)V"⟩]
def x_y (k : Nat) : MethodName := (x_nth x_yl k).getD ⟨"", "", ""⟩
def x_bl : List ByteArray := [prog_1_method_1_code, prog_7_method_1_code, prog_13_method_103_code, prog_4_method_1_code, prog_6_method_1_code, prog_3_method_1_code, prog_2_method_1_code, prog_5_method_1_code, prog_1_method_2_code, prog_7_method_2_code, prog_1_method_48_code, prog_7_method_6_code, prog_1_method_3_code, prog_1_method_49_code, prog_7_method_3_code, prog_7_method_4_code, prog_1_method_4_code, prog_1_method_5_code, prog_1_method_6_code, prog_7_method_5_code, prog_1_method_7_code, prog_7_method_7_code, prog_1_method_8_code, prog_1_method_9_code, prog_1_method_10_code, prog_6_method_2_code, prog_4_method_2_code, prog_6_method_3_code, prog_6_method_6_code, prog_6_method_8_code, prog_6_method_4_code, prog_6_method_7_code, prog_4_method_4_code, prog_4_method_6_code, prog_6_method_5_code, prog_4_method_7_code, prog_4_method_5_code, prog_1_method_11_code, prog_4_method_3_code, prog_1_method_12_code, prog_4_method_11_code, prog_4_method_12_code, prog_1_method_13_code, prog_4_method_14_code, prog_4_method_15_code, prog_4_method_16_code, prog_4_method_13_code, prog_1_method_14_code, prog_4_method_8_code, prog_4_method_9_code, prog_4_method_20_code, prog_4_method_22_code, prog_4_method_21_code, prog_10_method_49_code, prog_4_method_23_code, prog_1_method_50_code, prog_4_method_10_code, prog_1_method_15_code, prog_1_method_16_code, prog_1_method_17_code, prog_1_method_18_code, prog_1_method_19_code, prog_1_method_20_code, prog_1_method_51_code, prog_1_method_21_code, prog_3_method_3_code, prog_3_method_2_code, prog_3_method_4_code, prog_3_method_5_code, prog_4_method_19_code, prog_1_method_22_code, prog_3_method_12_code, prog_3_method_11_code, prog_1_method_54_code, prog_1_method_23_code, prog_1_method_56_code, prog_3_method_15_code, prog_1_method_24_code, prog_1_method_25_code, prog_1_method_55_code, prog_3_method_6_code, prog_3_method_10_code, prog_3_method_9_code, prog_1_method_26_code, prog_3_method_13_code, prog_3_method_14_code, prog_1_method_27_code, prog_3_method_8_code, prog_1_method_28_code, prog_1_method_57_code, prog_7_method_8_code, prog_1_method_29_code, prog_1_method_30_code, prog_1_method_31_code, prog_3_method_16_code, prog_3_method_17_code, prog_3_method_18_code, prog_1_method_32_code, prog_2_method_2_code, prog_2_method_3_code, prog_2_method_4_code, prog_2_method_5_code, prog_1_method_33_code, prog_1_method_34_code, prog_1_method_35_code, prog_4_method_18_code, prog_1_method_36_code, prog_5_method_2_code, prog_5_method_3_code, prog_5_method_4_code, prog_5_method_5_code, prog_1_method_37_code, prog_1_method_58_code, prog_1_method_59_code, prog_1_method_60_code, prog_3_method_7_code, prog_1_method_38_code, prog_1_method_39_code, prog_1_method_40_code, prog_1_method_61_code, prog_1_method_41_code, prog_1_method_42_code, prog_1_method_43_code, prog_1_method_44_code, prog_1_method_52_code, prog_4_method_17_code, prog_1_method_53_code, prog_7_method_9_code, prog_1_method_45_code, prog_1_method_46_code, prog_1_method_47_code, prog_7_method_10_code, prog_9_method_1_code, prog_9_method_11_code, prog_9_method_9_code, prog_9_method_3_code, prog_9_method_6_code, prog_9_method_12_code, prog_9_method_10_code, prog_9_method_7_code, prog_9_method_13_code, prog_9_method_14_code, prog_9_method_15_code, prog_9_method_16_code, prog_9_method_19_code, prog_9_method_17_code, prog_9_method_20_code, prog_9_method_18_code, prog_9_method_27_code, prog_9_method_26_code, prog_9_method_21_code, prog_9_method_23_code, prog_9_method_25_code, prog_9_method_24_code, prog_9_method_22_code, prog_9_method_28_code, prog_9_method_36_code, prog_9_method_29_code, prog_9_method_35_code, prog_9_method_37_code, prog_9_method_34_code, prog_9_method_32_code, prog_9_method_31_code, prog_9_method_33_code, prog_9_method_40_code, prog_9_method_38_code, prog_9_method_5_code, prog_9_method_39_code, prog_9_method_41_code, prog_9_method_42_code, prog_9_method_43_code, prog_9_method_30_code, prog_9_method_44_code, prog_9_method_45_code, prog_9_method_46_code, prog_9_method_53_code, prog_9_method_51_code, prog_9_method_48_code, prog_9_method_4_code, prog_9_method_47_code, prog_9_method_49_code, prog_9_method_56_code, prog_9_method_54_code, prog_9_method_8_code, prog_9_method_58_code, prog_9_method_57_code, prog_9_method_59_code, prog_9_method_60_code, prog_9_method_52_code, prog_9_method_50_code, prog_9_method_61_code, prog_9_method_55_code, prog_9_method_63_code, prog_9_method_62_code, prog_9_method_65_code, prog_9_method_64_code, prog_9_method_67_code, prog_9_method_66_code, prog_9_method_68_code, prog_9_method_69_code, prog_9_method_72_code, prog_9_method_71_code, prog_9_method_70_code, prog_9_method_74_code, prog_9_method_73_code, prog_9_method_75_code, prog_9_method_76_code, prog_9_method_77_code, prog_9_method_79_code, prog_9_method_78_code, prog_9_method_82_code, prog_9_method_80_code, prog_9_method_81_code, prog_9_method_83_code, prog_9_method_84_code, prog_9_method_85_code, prog_9_method_86_code, prog_9_method_87_code, prog_9_method_88_code, prog_9_method_90_code, prog_9_method_89_code, prog_9_method_91_code, prog_9_method_92_code, prog_9_method_95_code, prog_9_method_94_code, prog_9_method_93_code, code]
def x_by (k : Nat) : ByteArray := (x_nth x_bl k).getD ⟨#[]⟩
def x_F0 : u_T := fun k => match k with
  | 0 => ("SnowTracks$Dropping", "pairs", "I", false)
  | 1 => ("SnowTracks$Dropping", "who", "[I", true)
  | 2 => ("SnowTracks$Dropping", "whom", "[I", true)
  | 3 => ("SnowTracks$Dropping", "weights", "[I", true)
  | _ => ("SnowTracks$Dropping", "least", "[I", true)
def x_t0 : Nat → FieldType := fun k => match k with
  | 0 => .int
  | 1 => .array .int
  | 2 => .array .int
  | 3 => .array .int
  | _ => .array .int
def x_F1 : u_T := fun k => match k with
  | 0 => ("SnowTracks$Graph", "tracks", "I", false)
  | 1 => ("SnowTracks$Graph", "all", "I", false)
  | 2 => ("SnowTracks$Graph", "before", "[I", true)
  | 3 => ("SnowTracks$Graph", "after", "[I", true)
  | 4 => ("SnowTracks$Graph", "onward", "[I", true)
  | 5 => ("SnowTracks$Graph", "come", "[I", true)
  | 6 => ("SnowTracks$Graph", "orderTracks", "[I", true)
  | 7 => ("SnowTracks$Graph", "ringTracks", "[I", true)
  | _ => ("SnowTracks$Graph", "back", "[I", true)
def x_t1 : Nat → FieldType := fun k => match k with
  | 0 => .int
  | 1 => .int
  | 2 => .array .int
  | 3 => .array .int
  | 4 => .array .int
  | 5 => .array .int
  | 6 => .array .int
  | 7 => .array .int
  | _ => .array .int
def x_F2 : u_T := fun k => match k with
  | 0 => ("SnowTracks$Pass", "tracks", "I", false)
  | 1 => ("SnowTracks$Pass", "crossings", "I", false)
  | 2 => ("SnowTracks$Pass", "wind", "I", false)
  | 3 => ("SnowTracks$Pass", "kinds", "[I", true)
  | 4 => ("SnowTracks$Pass", "sizes", "[I", true)
  | 5 => ("SnowTracks$Pass", "fills", "[I", true)
  | 6 => ("SnowTracks$Pass", "overs", "[I", true)
  | _ => ("SnowTracks$Pass", "beneaths", "[I", true)
def x_t2 : Nat → FieldType := fun k => match k with
  | 0 => .int
  | 1 => .int
  | 2 => .int
  | 3 => .array .int
  | 4 => .array .int
  | 5 => .array .int
  | 6 => .array .int
  | _ => .array .int
def x_F3 : u_T := fun k => match k with
  | 0 => ("SnowTracks$People", "all", "I", false)
  | 1 => ("SnowTracks$People", "ones", "[I", true)
  | 2 => ("SnowTracks$People", "fewestOf", "[I", true)
  | _ => ("SnowTracks$People", "alike", "[I", true)
def x_t3 : Nat → FieldType := fun k => match k with
  | 0 => .int
  | 1 => .array .int
  | 2 => .array .int
  | _ => .array .int
def x_F4 : u_T := fun k => match k with
  | _ => ("SnowTracks$Reader", "draft", "LSnowTracks$Pass;", true)
def x_t4 : Nat → FieldType := fun k => match k with
  | _ => .object "SnowTracks$Pass"
def x_F5 : u_T := fun k => match k with
  | 0 => ("SnowTracks$Shelf", "ints", "[[I", true)
  | 1 => ("SnowTracks$Shelf", "sizes", "[I", true)
  | _ => ("SnowTracks$Shelf", "blank", "I", true)
def x_t5 : Nat → FieldType := fun k => match k with
  | 0 => .array (.array .int)
  | 1 => .array .int
  | _ => .int
def x_F6 : u_T := fun k => match k with
  | 0 => ("SnowTracks", "rows", "LSnowTracks$Shelf;", true)
  | 1 => ("SnowTracks", "texts", "LSnowTracks$Shelf;", true)
  | 2 => ("SnowTracks", "now", "LSnowTracks$Pass;", true)
  | 3 => ("SnowTracks", "reader", "LSnowTracks$Reader;", true)
  | 4 => ("SnowTracks", "kept", "[LSnowTracks$Pass;", true)
  | 5 => ("SnowTracks", "graph", "LSnowTracks$Graph;", true)
  | 6 => ("SnowTracks", "dropping", "LSnowTracks$Dropping;", true)
  | 7 => ("SnowTracks", "folk", "LSnowTracks$People;", true)
  | 8 => ("SnowTracks", "told", "I", false)
  | 9 => ("SnowTracks", "toldUpper", "J", false)
  | 10 => ("SnowTracks", "toldLower", "J", false)
  | 11 => ("SnowTracks", "latestFinding", "I", false)
  | _ => ("SnowTracks", "findingCounts", "[I", true)
def x_t6 : Nat → FieldType := fun k => match k with
  | 0 => .object "SnowTracks$Shelf"
  | 1 => .object "SnowTracks$Shelf"
  | 2 => .object "SnowTracks$Pass"
  | 3 => .object "SnowTracks$Reader"
  | 4 => .array (.object "SnowTracks$Pass")
  | 5 => .object "SnowTracks$Graph"
  | 6 => .object "SnowTracks$Dropping"
  | 7 => .object "SnowTracks$People"
  | 8 => .int
  | 9 => .long
  | 10 => .long
  | 11 => .int
  | _ => .array .int
def x_F7 : u_T := fun k => match k with
  | 0 => ("SnowTracksModel", "latest", "I", false)
  | 1 => ("SnowTracksModel", "came", "[I", true)
  | 2 => ("SnowTracksModel", "asked", "I", false)
  | 3 => ("SnowTracksModel", "up", "J", false)
  | 4 => ("SnowTracksModel", "down", "J", false)
  | 5 => ("SnowTracksModel", "sizes", "[I", true)
  | 6 => ("SnowTracksModel", "items", "[I", true)
  | 7 => ("SnowTracksModel", "carried", "[I", true)
  | 8 => ("SnowTracksModel", "lengths", "[I", true)
  | 9 => ("SnowTracksModel", "bytes", "[I", true)
  | 10 => ("SnowTracksModel", "many", "I", false)
  | 11 => ("SnowTracksModel", "kinds", "[I", true)
  | 12 => ("SnowTracksModel", "large", "[I", true)
  | 13 => ("SnowTracksModel", "fills", "[I", true)
  | 14 => ("SnowTracksModel", "crossed", "I", false)
  | 15 => ("SnowTracksModel", "over", "[I", true)
  | 16 => ("SnowTracksModel", "under", "[I", true)
  | 17 => ("SnowTracksModel", "wind", "I", false)
  | 18 => ("SnowTracksModel", "place", "I", false)
  | 19 => ("SnowTracksModel", "readMany", "I", false)
  | 20 => ("SnowTracksModel", "readCrossed", "I", false)
  | 21 => ("SnowTracksModel", "readKind", "[I", true)
  | 22 => ("SnowTracksModel", "readLarge", "[I", true)
  | 23 => ("SnowTracksModel", "readFill", "[I", true)
  | 24 => ("SnowTracksModel", "readOver", "[I", true)
  | 25 => ("SnowTracksModel", "readUnder", "[I", true)
  | 26 => ("SnowTracksModel", "kept", "[I", true)
  | 27 => ("SnowTracksModel", "ahead", "[I", true)
  | 28 => ("SnowTracksModel", "surely", "[I", true)
  | 29 => ("SnowTracksModel", "ways", "[I", true)
  | 30 => ("SnowTracksModel", "placeOf", "[I", true)
  | 31 => ("SnowTracksModel", "chains", "[I", true)
  | 32 => ("SnowTracksModel", "far", "[I", true)
  | 33 => ("SnowTracksModel", "fewest", "[I", true)
  | 34 => ("SnowTracksModel", "isOnes", "[Z", true)
  | _ => ("SnowTracksModel", "mixed", "J", false)
def x_t7 : Nat → FieldType := fun k => match k with
  | 0 => .int
  | 1 => .array .int
  | 2 => .int
  | 3 => .long
  | 4 => .long
  | 5 => .array .int
  | 6 => .array .int
  | 7 => .array .int
  | 8 => .array .int
  | 9 => .array .int
  | 10 => .int
  | 11 => .array .int
  | 12 => .array .int
  | 13 => .array .int
  | 14 => .int
  | 15 => .array .int
  | 16 => .array .int
  | 17 => .int
  | 18 => .int
  | 19 => .int
  | 20 => .int
  | 21 => .array .int
  | 22 => .array .int
  | 23 => .array .int
  | 24 => .array .int
  | 25 => .array .int
  | 26 => .array .int
  | 27 => .array .int
  | 28 => .array .int
  | 29 => .array .int
  | 30 => .array .int
  | 31 => .array .int
  | 32 => .array .int
  | 33 => .array .int
  | 34 => .array .boolean
  | _ => .long
abbrev x_cl : List vw_C := [("SnowTracks$Dropping", x_F0, 5), ("SnowTracks$Graph", x_F1, 9), ("SnowTracks$Pass", x_F2, 8), ("SnowTracks$People", x_F3, 4), ("SnowTracks$Reader", x_F4, 1), ("SnowTracks$Shelf", x_F5, 3), ("SnowTracks", x_F6, 13), ("SnowTracksModel", x_F7, 36)]
def x_ftl : List (List Nat) := [[0, 2, 2, 2, 2], [0, 0, 2, 2, 2, 2, 2, 2, 2], [0, 0, 0, 2, 2, 2, 2, 2], [0, 2, 2, 2], [2], [2, 2, 0], [2, 2, 2, 2, 2, 2, 2, 2, 0, 1, 1, 0, 2], [0, 2, 0, 1, 1, 2, 2, 2, 2, 2, 0, 2, 2, 2, 0, 2, 2, 0, 0, 0, 0, 2, 2, 2, 2, 2, 2, 2, 2, 2, 2, 2, 2, 2, 2, 1]]
/-- the kind of a field: 0 int, 1 long, 2 a reference -/
def x_ft (ci k : Nat) : Nat := match x_nth x_ftl ci with
  | some l => (x_nth l k).getD 2
  | none => 2
def x_rty (k : Nat) : Option FieldType := match k with
  | 0 => none
  | 1 => some .int
  | 2 => some .boolean
  | _ => some .long
theorem x_nm0 : ∀ a, a < 5 → ∀ b, b < 5 → a ≠ b → (x_F0 a).2.1 ≠ (x_F0 b).2.1 := by decide +kernel
theorem x_ty0 : ∀ k, k < 5 → parseFieldDescriptor (x_F0 k).2.2.1 = some (x_t0 k) := by decide +kernel
theorem x_in0 : ∀ w ∈ u_ws "SnowTracks$Dropping" x_F0 5, w ∈ lw_tbl := by decide +kernel
theorem x_nm1 : ∀ a, a < 9 → ∀ b, b < 9 → a ≠ b → (x_F1 a).2.1 ≠ (x_F1 b).2.1 := by decide +kernel
theorem x_ty1 : ∀ k, k < 9 → parseFieldDescriptor (x_F1 k).2.2.1 = some (x_t1 k) := by decide +kernel
theorem x_in1 : ∀ w ∈ u_ws "SnowTracks$Graph" x_F1 9, w ∈ lw_tbl := by decide +kernel
theorem x_nm2 : ∀ a, a < 8 → ∀ b, b < 8 → a ≠ b → (x_F2 a).2.1 ≠ (x_F2 b).2.1 := by decide +kernel
theorem x_ty2 : ∀ k, k < 8 → parseFieldDescriptor (x_F2 k).2.2.1 = some (x_t2 k) := by decide +kernel
theorem x_in2 : ∀ w ∈ u_ws "SnowTracks$Pass" x_F2 8, w ∈ lw_tbl := by decide +kernel
theorem x_nm3 : ∀ a, a < 4 → ∀ b, b < 4 → a ≠ b → (x_F3 a).2.1 ≠ (x_F3 b).2.1 := by decide +kernel
theorem x_ty3 : ∀ k, k < 4 → parseFieldDescriptor (x_F3 k).2.2.1 = some (x_t3 k) := by decide +kernel
theorem x_in3 : ∀ w ∈ u_ws "SnowTracks$People" x_F3 4, w ∈ lw_tbl := by decide +kernel
theorem x_nm4 : ∀ a, a < 1 → ∀ b, b < 1 → a ≠ b → (x_F4 a).2.1 ≠ (x_F4 b).2.1 := by decide +kernel
theorem x_ty4 : ∀ k, k < 1 → parseFieldDescriptor (x_F4 k).2.2.1 = some (x_t4 k) := by decide +kernel
theorem x_in4 : ∀ w ∈ u_ws "SnowTracks$Reader" x_F4 1, w ∈ lw_tbl := by decide +kernel
theorem x_nm5 : ∀ a, a < 3 → ∀ b, b < 3 → a ≠ b → (x_F5 a).2.1 ≠ (x_F5 b).2.1 := by decide +kernel
theorem x_ty5 : ∀ k, k < 3 → parseFieldDescriptor (x_F5 k).2.2.1 = some (x_t5 k) := by decide +kernel
theorem x_in5 : ∀ w ∈ u_ws "SnowTracks$Shelf" x_F5 3, w ∈ lw_tbl := by decide +kernel
theorem x_nm6 : ∀ a, a < 13 → ∀ b, b < 13 → a ≠ b → (x_F6 a).2.1 ≠ (x_F6 b).2.1 := by decide +kernel
theorem x_ty6 : ∀ k, k < 13 → parseFieldDescriptor (x_F6 k).2.2.1 = some (x_t6 k) := by decide +kernel
theorem x_in6 : ∀ w ∈ u_ws "SnowTracks" x_F6 13, w ∈ lw_tbl := by decide +kernel
theorem x_nm7 : ∀ a, a < 36 → ∀ b, b < 36 → a ≠ b → (x_F7 a).2.1 ≠ (x_F7 b).2.1 := by decide +kernel
theorem x_ty7 : ∀ k, k < 36 → parseFieldDescriptor (x_F7 k).2.2.1 = some (x_t7 k) := by decide +kernel
theorem x_in7 : ∀ w ∈ u_ws "SnowTracksModel" x_F7 36, w ∈ lw_tbl := by decide +kernel
