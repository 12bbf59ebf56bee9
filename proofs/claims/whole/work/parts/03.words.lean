/-! the good words of the tables, each by its place -/
def wA : List Cond := lw_tbl.filter goodWord
theorem wA_tbl {w : Cond} (h : w ∈ tables_1) (hg : goodWord w = true) : w ∈ wA := List.mem_filter.mpr ⟨List.mem_append_right _ h, hg⟩
theorem wA_S {i : Nat} {w : Cond} (h : (k2_sels lw_privs)[i]? = some w) (hg : goodWord w = true) : w ∈ wA := List.mem_filter.mpr ⟨List.mem_append_left _ (List.mem_of_getElem? h), hg⟩
theorem wA_1 {i : Nat} {w : Cond} (h : tables_1_1[i]? = some w) (hg : goodWord w = true) : w ∈ wA := wA_tbl (by unfold tables_1; exact List.mem_append_left _ (List.mem_of_getElem? h)) hg
theorem wA_2 {i : Nat} {w : Cond} (h : tables_1_2[i]? = some w) (hg : goodWord w = true) : w ∈ wA := wA_tbl (by unfold tables_1; exact List.mem_append_right _ (List.mem_append_left _ (List.mem_of_getElem? h))) hg
theorem wA_3 {i : Nat} {w : Cond} (h : tables_1_3[i]? = some w) (hg : goodWord w = true) : w ∈ wA := wA_tbl (by unfold tables_1; exact List.mem_append_right _ (List.mem_append_right _ (List.mem_append_left _ (List.mem_of_getElem? h)))) hg
theorem wA_4 {i : Nat} {w : Cond} (h : tables_1_4[i]? = some w) (hg : goodWord w = true) : w ∈ wA := wA_tbl (by unfold tables_1; exact List.mem_append_right _ (List.mem_append_right _ (List.mem_append_right _ (List.mem_append_left _ (List.mem_of_getElem? h))))) hg
theorem wA_5 {i : Nat} {w : Cond} (h : tables_1_5[i]? = some w) (hg : goodWord w = true) : w ∈ wA := wA_tbl (by unfold tables_1; exact List.mem_append_right _ (List.mem_append_right _ (List.mem_append_right _ (List.mem_append_right _ (List.mem_append_left _ (List.mem_of_getElem? h)))))) hg
theorem wA_6 {i : Nat} {w : Cond} (h : tables_1_6[i]? = some w) (hg : goodWord w = true) : w ∈ wA := wA_tbl (by unfold tables_1; exact List.mem_append_right _ (List.mem_append_right _ (List.mem_append_right _ (List.mem_append_right _ (List.mem_append_right _ (List.mem_append_left _ (List.mem_of_getElem? h))))))) hg
theorem wA_7 {i : Nat} {w : Cond} (h : tables_1_7[i]? = some w) (hg : goodWord w = true) : w ∈ wA := wA_tbl (by unfold tables_1; exact List.mem_append_right _ (List.mem_append_right _ (List.mem_append_right _ (List.mem_append_right _ (List.mem_append_right _ (List.mem_append_right _ (List.mem_append_left _ (List.mem_of_getElem? h)))))))) hg
theorem wA_8 {i : Nat} {w : Cond} (h : tables_1_8[i]? = some w) (hg : goodWord w = true) : w ∈ wA := wA_tbl (by unfold tables_1; exact List.mem_append_right _ (List.mem_append_right _ (List.mem_append_right _ (List.mem_append_right _ (List.mem_append_right _ (List.mem_append_right _ (List.mem_append_right _ (List.mem_of_getElem? h)))))))) hg
theorem wfJ0_9 : Cond.fieldLink RJ0 9 "java/lang/String" "value" "[B" ∈ wA := wA_8 (i := 130) rfl rfl
theorem wfJ0_15 : Cond.fieldLink RJ0 15 "java/lang/String" "coder" "B" ∈ wA := wA_8 (i := 131) rfl rfl
theorem wfJ0_38 : Cond.fieldLink RJ0 38 "java/lang/String" "COMPACT_STRINGS" "Z" ∈ wA := wA_3 (i := 10) rfl rfl
theorem wfJ0_1053 : Cond.fieldLink RJ0 1053 "jdk/internal/util/Preconditions" "SIOOBE_FORMATTER" "Ljava/util/function/BiFunction;" ∈ wA := wA_3 (i := 26) rfl rfl
theorem wfJ2_44 : Cond.fieldLink RJ2 44 "java/lang/StringUTF16" "$assertionsDisabled" "Z" ∈ wA := wA_3 (i := 44) rfl rfl
theorem wfJ2_59 : Cond.fieldLink RJ2 59 "java/lang/StringUTF16" "HI_BYTE_SHIFT" "I" ∈ wA := wA_3 (i := 46) rfl rfl
theorem wfJ2_63 : Cond.fieldLink RJ2 63 "java/lang/StringUTF16" "LO_BYTE_SHIFT" "I" ∈ wA := wA_3 (i := 48) rfl rfl
theorem wfX0_9 : Cond.fieldLink RX0 9 "RingPlaces$Loudness" "answer" "[I" ∈ wA := wA_2 (i := 56) rfl rfl
theorem wfX0_15 : Cond.fieldLink RX0 15 "RingPlaces$Loudness" "loud" "[I" ∈ wA := wA_2 (i := 60) rfl rfl
theorem wfX0_18 : Cond.fieldLink RX0 18 "RingPlaces$Loudness" "next" "[I" ∈ wA := wA_2 (i := 61) rfl rfl
theorem wfX0_21 : Cond.fieldLink RX0 21 "RingPlaces$Standing" "ring" "LRingPlaces$Ring;" ∈ wA := wA_1 (i := 188) rfl rfl
theorem wfX0_27 : Cond.fieldLink RX0 27 "RingPlaces$Loudness" "ring" "LRingPlaces$Ring;" ∈ wA := wA_2 (i := 58) rfl rfl
theorem wfX0_28 : Cond.fieldLink RX0 28 "RingPlaces$Loudness" "standing" "LRingPlaces$Standing;" ∈ wA := wA_2 (i := 59) rfl rfl
theorem wfX0_32 : Cond.fieldLink RX0 32 "RingPlaces$Ring" "things" "I" ∈ wA := wA_1 (i := 64) rfl rfl
theorem wfX0_68 : Cond.fieldLink RX0 68 "RingPlaces$Standing" "degree" "[I" ∈ wA := wA_1 (i := 193) rfl rfl
theorem wfX1_9 : Cond.fieldLink RX1 9 "RingPlaces$Narrowing" "answerCost" "I" ∈ wA := wA_2 (i := 79) rfl rfl
theorem wfX1_15 : Cond.fieldLink RX1 15 "RingPlaces$Narrowing" "able" "[I" ∈ wA := wA_2 (i := 84) rfl rfl
theorem wfX1_19 : Cond.fieldLink RX1 19 "RingPlaces$Narrowing" "ableCount" "I" ∈ wA := wA_2 (i := 85) rfl rfl
theorem wfX1_22 : Cond.fieldLink RX1 22 "RingPlaces$Standing" "ring" "LRingPlaces$Ring;" ∈ wA := wA_1 (i := 187) rfl rfl
theorem wfX1_28 : Cond.fieldLink RX1 28 "RingPlaces$Narrowing" "ring" "LRingPlaces$Ring;" ∈ wA := wA_2 (i := 81) rfl rfl
theorem wfX1_29 : Cond.fieldLink RX1 29 "RingPlaces$Narrowing" "standing" "LRingPlaces$Standing;" ∈ wA := wA_2 (i := 82) rfl rfl
theorem wfX1_33 : Cond.fieldLink RX1 33 "RingPlaces$Narrowing" "trial" "LRingPlaces$Standing;" ∈ wA := wA_2 (i := 83) rfl rfl
theorem wfX1_50 : Cond.fieldLink RX1 50 "RingPlaces$Ring" "things" "I" ∈ wA := wA_1 (i := 65) rfl rfl
theorem wfX1_65 : Cond.fieldLink RX1 65 "RingPlaces$Standing" "sharp" "[I" ∈ wA := wA_1 (i := 204) rfl rfl
theorem wfX1_73 : Cond.fieldLink RX1 73 "RingPlaces$Standing" "degree" "[I" ∈ wA := wA_1 (i := 195) rfl rfl
theorem wfX1_76 : Cond.fieldLink RX1 76 "RingPlaces$Standing" "voice" "[I" ∈ wA := wA_1 (i := 199) rfl rfl
theorem wfX10_70 : Cond.fieldLink RX10 70 "RingPlaces$Word" "text" "Ljava/lang/String;" ∈ wA := wA_8 (i := 129) rfl rfl
theorem wfX10_84 : Cond.fieldLink RX10 84 "RingPlaces$Word" "ALL" "[LRingPlaces$Word;" ∈ wA := wA_2 (i := 235) rfl rfl
theorem wfX11_9 : Cond.fieldLink RX11 9 "RingPlaces" "tape" "[B" ∈ wA := wA_2 (i := 136) rfl rfl
theorem wfX11_13 : Cond.fieldLink RX11 13 "RingPlaces" "tapeLength" "I" ∈ wA := wA_2 (i := 137) rfl rfl
theorem wfX11_17 : Cond.fieldLink RX11 17 "RingPlaces" "faultKind" "I" ∈ wA := wA_2 (i := 138) rfl rfl
theorem wfX11_20 : Cond.fieldLink RX11 20 "RingPlaces" "row" "[I" ∈ wA := wA_2 (i := 139) rfl rfl
theorem wfX11_24 : Cond.fieldLink RX11 24 "RingPlaces" "rowLength" "I" ∈ wA := wA_2 (i := 140) rfl rfl
theorem wfX11_27 : Cond.fieldLink RX11 27 "RingPlaces" "kept" "[Z" ∈ wA := wA_2 (i := 151) rfl rfl
theorem wfX11_33 : Cond.fieldLink RX11 33 "RingPlaces" "keptRings" "[LRingPlaces$Ring;" ∈ wA := wA_2 (i := 152) rfl rfl
theorem wfX11_39 : Cond.fieldLink RX11 39 "RingPlaces" "keptStandings" "[LRingPlaces$Standing;" ∈ wA := wA_2 (i := 153) rfl rfl
theorem wfX11_48 : Cond.fieldLink RX11 48 "RingPlaces" "reader" "LRingPlaces$Reader;" ∈ wA := wA_2 (i := 141) rfl rfl
theorem wfX11_53 : Cond.fieldLink RX11 53 "RingPlaces" "ring" "LRingPlaces$Ring;" ∈ wA := wA_2 (i := 142) rfl rfl
theorem wfX11_60 : Cond.fieldLink RX11 60 "RingPlaces" "standing" "LRingPlaces$Standing;" ∈ wA := wA_2 (i := 143) rfl rfl
theorem wfX11_64 : Cond.fieldLink RX11 64 "RingPlaces" "trial" "LRingPlaces$Standing;" ∈ wA := wA_2 (i := 144) rfl rfl
theorem wfX11_70 : Cond.fieldLink RX11 70 "RingPlaces" "orders" "LRingPlaces$Orders;" ∈ wA := wA_2 (i := 145) rfl rfl
theorem wfX11_79 : Cond.fieldLink RX11 79 "RingPlaces" "search" "LRingPlaces$Search;" ∈ wA := wA_2 (i := 146) rfl rfl
theorem wfX11_88 : Cond.fieldLink RX11 88 "RingPlaces" "loudness" "LRingPlaces$Loudness;" ∈ wA := wA_2 (i := 147) rfl rfl
theorem wfX11_95 : Cond.fieldLink RX11 95 "RingPlaces" "narrowing" "LRingPlaces$Narrowing;" ∈ wA := wA_2 (i := 148) rfl rfl
theorem wfX11_102 : Cond.fieldLink RX11 102 "RingPlaces" "papers" "LRingPlaces$Papers;" ∈ wA := wA_2 (i := 149) rfl rfl
theorem wfX11_109 : Cond.fieldLink RX11 109 "RingPlaces" "sharing" "LRingPlaces$Shares;" ∈ wA := wA_2 (i := 150) rfl rfl
theorem wfX11_121 : Cond.fieldLink RX11 121 "RingPlaces$Reader" "faultKind" "I" ∈ wA := wA_1 (i := 148) rfl rfl
theorem wfX11_122 : Cond.fieldLink RX11 122 "RingPlaces$Reader" "draft" "LRingPlaces$Ring;" ∈ wA := wA_1 (i := 146) rfl rfl
theorem wfX11_142 : Cond.fieldLink RX11 142 "RingPlaces$Ring" "cells" "[J" ∈ wA := wA_1 (i := 51) rfl rfl
theorem wfX11_146 : Cond.fieldLink RX11 146 "RingPlaces$Ring" "placeCount" "I" ∈ wA := wA_1 (i := 74) rfl rfl
theorem wfX11_149 : Cond.fieldLink RX11 149 "RingPlaces$Ring" "places" "[I" ∈ wA := wA_1 (i := 55) rfl rfl
theorem wfX11_171 : Cond.fieldLink RX11 171 "RingPlaces$Standing" "degree" "[I" ∈ wA := wA_1 (i := 197) rfl rfl
theorem wfX11_174 : Cond.fieldLink RX11 174 "RingPlaces$Standing" "voice" "[I" ∈ wA := wA_1 (i := 201) rfl rfl
theorem wfX11_184 : Cond.fieldLink RX11 184 "RingPlaces$Standing" "hears" "[I" ∈ wA := wA_1 (i := 206) rfl rfl
theorem wfX11_210 : Cond.fieldLink RX11 210 "RingPlaces$Orders" "answerLength" "I" ∈ wA := wA_1 (i := 232) rfl rfl
theorem wfX11_213 : Cond.fieldLink RX11 213 "RingPlaces$Orders" "answer" "[I" ∈ wA := wA_1 (i := 230) rfl rfl
theorem wfX11_233 : Cond.fieldLink RX11 233 "RingPlaces$Loudness" "answer" "[I" ∈ wA := wA_2 (i := 57) rfl rfl
theorem wfX11_243 : Cond.fieldLink RX11 243 "RingPlaces$Narrowing" "answerCost" "I" ∈ wA := wA_2 (i := 80) rfl rfl
theorem wfX11_274 : Cond.fieldLink RX11 274 "RingPlaces$Shares" "lands" "I" ∈ wA := wA_2 (i := 116) rfl rfl
theorem wfX11_277 : Cond.fieldLink RX11 277 "RingPlaces$Shares" "moves" "I" ∈ wA := wA_2 (i := 118) rfl rfl
theorem wfX11_290 : Cond.fieldLink RX11 290 "RingPlaces$Ring" "lands" "I" ∈ wA := wA_1 (i := 62) rfl rfl
theorem wfX11_291 : Cond.fieldLink RX11 291 "RingPlaces$Ring" "things" "I" ∈ wA := wA_1 (i := 71) rfl rfl
theorem wfX11_297 : Cond.fieldLink RX11 297 "RingPlaces$Ring" "apart" "I" ∈ wA := wA_1 (i := 81) rfl rfl
theorem wfX12_7 : Cond.fieldLink RX12 7 "RingPlacesModel" "tape" "[I" ∈ wA := wA_6 (i := 34) rfl rfl
theorem wfX12_13 : Cond.fieldLink RX12 13 "RingPlacesModel" "now" "[I" ∈ wA := wA_6 (i := 45) rfl rfl
theorem wfX12_16 : Cond.fieldLink RX12 16 "RingPlacesModel" "read" "[I" ∈ wA := wA_6 (i := 46) rfl rfl
theorem wfX12_19 : Cond.fieldLink RX12 19 "RingPlacesModel" "kept" "[I" ∈ wA := wA_6 (i := 47) rfl rfl
theorem wfX12_22 : Cond.fieldLink RX12 22 "RingPlacesModel" "ground" "[J" ∈ wA := wA_6 (i := 48) rfl rfl
theorem wfX12_26 : Cond.fieldLink RX12 26 "RingPlacesModel" "readGround" "[J" ∈ wA := wA_6 (i := 49) rfl rfl
theorem wfX12_29 : Cond.fieldLink RX12 29 "RingPlacesModel" "keptGround" "[J" ∈ wA := wA_6 (i := 50) rfl rfl
theorem wfX12_32 : Cond.fieldLink RX12 32 "RingPlacesModel" "name" "[J" ∈ wA := wA_6 (i := 51) rfl rfl
theorem wfX12_35 : Cond.fieldLink RX12 35 "RingPlacesModel" "isKept" "[Z" ∈ wA := wA_6 (i := 52) rfl rfl
theorem wfX12_39 : Cond.fieldLink RX12 39 "RingPlacesModel" "louds" "[I" ∈ wA := wA_6 (i := 55) rfl rfl
theorem wfX12_42 : Cond.fieldLink RX12 42 "RingPlacesModel" "sharps" "[I" ∈ wA := wA_6 (i := 56) rfl rfl
theorem wfX12_45 : Cond.fieldLink RX12 45 "RingPlacesModel" "row" "[I" ∈ wA := wA_6 (i := 57) rfl rfl
theorem wfX12_48 : Cond.fieldLink RX12 48 "RingPlacesModel" "along" "[I" ∈ wA := wA_6 (i := 58) rfl rfl
theorem wfX12_51 : Cond.fieldLink RX12 51 "RingPlacesModel" "needs" "[I" ∈ wA := wA_6 (i := 59) rfl rfl
theorem wfX12_54 : Cond.fieldLink RX12 54 "RingPlacesModel" "best" "[I" ∈ wA := wA_6 (i := 60) rfl rfl
theorem wfX12_57 : Cond.fieldLink RX12 57 "RingPlacesModel" "order" "[I" ∈ wA := wA_6 (i := 62) rfl rfl
theorem wfX12_60 : Cond.fieldLink RX12 60 "RingPlacesModel" "shortRow" "[I" ∈ wA := wA_6 (i := 63) rfl rfl
theorem wfX12_63 : Cond.fieldLink RX12 63 "RingPlacesModel" "was" "[I" ∈ wA := wA_6 (i := 66) rfl rfl
theorem wfX12_66 : Cond.fieldLink RX12 66 "RingPlacesModel" "saved" "[I" ∈ wA := wA_6 (i := 67) rfl rfl
theorem wfX12_69 : Cond.fieldLink RX12 69 "RingPlacesModel" "next" "[I" ∈ wA := wA_6 (i := 69) rfl rfl
theorem wfX12_72 : Cond.fieldLink RX12 72 "RingPlacesModel" "fitted" "[I" ∈ wA := wA_6 (i := 70) rfl rfl
theorem wfX12_75 : Cond.fieldLink RX12 75 "RingPlacesModel" "narrowCost" "I" ∈ wA := wA_6 (i := 72) rfl rfl
theorem wfX12_79 : Cond.fieldLink RX12 79 "RingPlacesModel" "beam" "[I" ∈ wA := wA_6 (i := 73) rfl rfl
theorem wfX12_82 : Cond.fieldLink RX12 82 "RingPlacesModel" "heardAhead" "[I" ∈ wA := wA_6 (i := 74) rfl rfl
theorem wfX12_85 : Cond.fieldLink RX12 85 "RingPlacesModel" "sharesMost" "[I" ∈ wA := wA_6 (i := 75) rfl rfl
theorem wfX12_88 : Cond.fieldLink RX12 88 "RingPlacesModel" "sharesMoved" "[I" ∈ wA := wA_6 (i := 76) rfl rfl
theorem wfX12_91 : Cond.fieldLink RX12 91 "RingPlacesModel" "nextMost" "[I" ∈ wA := wA_6 (i := 77) rfl rfl
theorem wfX12_94 : Cond.fieldLink RX12 94 "RingPlacesModel" "nextMoved" "[I" ∈ wA := wA_6 (i := 78) rfl rfl
theorem wfX12_97 : Cond.fieldLink RX12 97 "RingPlacesModel" "thrown" "I" ∈ wA := wA_6 (i := 33) rfl rfl
theorem wfX12_100 : Cond.fieldLink RX12 100 "RingPlacesModel" "taped" "I" ∈ wA := wA_6 (i := 35) rfl rfl
theorem wfX12_107 : Cond.fieldLink RX12 107 "RingPlacesModel" "size" "I" ∈ wA := wA_6 (i := 36) rfl rfl
theorem wfX12_110 : Cond.fieldLink RX12 110 "RingPlacesModel" "to" "I" ∈ wA := wA_6 (i := 37) rfl rfl
theorem wfX12_113 : Cond.fieldLink RX12 113 "RingPlacesModel" "from" "I" ∈ wA := wA_6 (i := 38) rfl rfl
theorem wfX12_116 : Cond.fieldLink RX12 116 "RingPlacesModel" "kind" "I" ∈ wA := wA_6 (i := 39) rfl rfl
theorem wfX12_126 : Cond.fieldLink RX12 126 "RingPlacesModel" "word" "J" ∈ wA := wA_6 (i := 43) rfl rfl
theorem wfX12_130 : Cond.fieldLink RX12 130 "RingPlacesModel" "number" "I" ∈ wA := wA_6 (i := 40) rfl rfl
theorem wfX12_153 : Cond.fieldLink RX12 153 "RingPlacesModel" "fault" "I" ∈ wA := wA_6 (i := 41) rfl rfl
theorem wfX12_156 : Cond.fieldLink RX12 156 "RingPlacesModel" "spot" "I" ∈ wA := wA_6 (i := 42) rfl rfl
theorem wfX12_166 : Cond.fieldLink RX12 166 "RingPlacesModel" "told" "I" ∈ wA := wA_6 (i := 44) rfl rfl
theorem wfX12_172 : Cond.fieldLink RX12 172 "RingPlacesModel" "isBegun" "Z" ∈ wA := wA_6 (i := 53) rfl rfl
theorem wfX12_213 : Cond.fieldLink RX12 213 "RingPlacesModel" "had" "I" ∈ wA := wA_6 (i := 54) rfl rfl
theorem wfX12_296 : Cond.fieldLink RX12 296 "RingPlacesModel" "rowMany" "I" ∈ wA := wA_6 (i := 61) rfl rfl
theorem wfX12_309 : Cond.fieldLink RX12 309 "RingPlacesModel" "least" "I" ∈ wA := wA_6 (i := 64) rfl rfl
theorem wfX12_316 : Cond.fieldLink RX12 316 "RingPlacesModel" "shortMany" "I" ∈ wA := wA_6 (i := 65) rfl rfl
theorem wfX12_338 : Cond.fieldLink RX12 338 "RingPlacesModel" "mostWorth" "I" ∈ wA := wA_6 (i := 68) rfl rfl
theorem wfX12_348 : Cond.fieldLink RX12 348 "RingPlacesModel" "fitMany" "I" ∈ wA := wA_6 (i := 71) rfl rfl
theorem wfX2_9 : Cond.fieldLink RX2 9 "RingPlaces$Orders" "answer" "[I" ∈ wA := wA_1 (i := 229) rfl rfl
theorem wfX2_15 : Cond.fieldLink RX2 15 "RingPlaces$Orders" "answerLength" "I" ∈ wA := wA_1 (i := 231) rfl rfl
theorem wfX2_19 : Cond.fieldLink RX2 19 "RingPlaces$Orders" "sorted" "[I" ∈ wA := wA_1 (i := 234) rfl rfl
theorem wfX2_22 : Cond.fieldLink RX2 22 "RingPlaces$Orders" "order" "[I" ∈ wA := wA_1 (i := 235) rfl rfl
theorem wfX2_25 : Cond.fieldLink RX2 25 "RingPlaces$Orders" "spot" "[I" ∈ wA := wA_1 (i := 236) rfl rfl
theorem wfX2_28 : Cond.fieldLink RX2 28 "RingPlaces$Orders" "length" "I" ∈ wA := wA_1 (i := 237) rfl rfl
theorem wfX2_31 : Cond.fieldLink RX2 31 "RingPlaces$Orders" "best" "I" ∈ wA := wA_1 (i := 238) rfl rfl
theorem wfX2_34 : Cond.fieldLink RX2 34 "RingPlaces$Orders" "ring" "LRingPlaces$Ring;" ∈ wA := wA_1 (i := 233) rfl rfl
theorem wfX3_9 : Cond.fieldLink RX3 9 "RingPlaces$Papers" "ring" "LRingPlaces$Ring;" ∈ wA := wA_2 (i := 105) rfl rfl
theorem wfX3_25 : Cond.fieldLink RX3 25 "RingPlaces$Ring" "thereFirst" "Z" ∈ wA := wA_1 (i := 83) rfl rfl
theorem wfX3_38 : Cond.fieldLink RX3 38 "RingPlaces$Ring" "things" "I" ∈ wA := wA_1 (i := 69) rfl rfl
theorem wfX3_53 : Cond.fieldLink RX3 53 "RingPlaces$Ring" "placeCount" "I" ∈ wA := wA_1 (i := 75) rfl rfl
theorem wfX3_56 : Cond.fieldLink RX3 56 "RingPlaces$Ring" "places" "[I" ∈ wA := wA_1 (i := 56) rfl rfl
theorem wfX4_12 : Cond.fieldLink RX4 12 "RingPlaces$Reader" "draft" "LRingPlaces$Ring;" ∈ wA := wA_1 (i := 145) rfl rfl
theorem wfX4_18 : Cond.fieldLink RX4 18 "RingPlaces$Reader" "faultKind" "I" ∈ wA := wA_1 (i := 147) rfl rfl
theorem wfX4_22 : Cond.fieldLink RX4 22 "RingPlaces$Reader" "faultPlace" "I" ∈ wA := wA_1 (i := 149) rfl rfl
theorem wfX4_25 : Cond.fieldLink RX4 25 "RingPlaces$Reader" "at" "I" ∈ wA := wA_1 (i := 151) rfl rfl
theorem wfX4_28 : Cond.fieldLink RX4 28 "RingPlaces$Reader" "landNames" "[I" ∈ wA := wA_1 (i := 152) rfl rfl
theorem wfX4_32 : Cond.fieldLink RX4 32 "RingPlaces$Reader" "thingNames" "[I" ∈ wA := wA_1 (i := 153) rfl rfl
theorem wfX4_35 : Cond.fieldLink RX4 35 "RingPlaces$Reader" "apartTold" "Z" ∈ wA := wA_1 (i := 154) rfl rfl
theorem wfX4_39 : Cond.fieldLink RX4 39 "RingPlaces$Reader" "firstTold" "Z" ∈ wA := wA_1 (i := 155) rfl rfl
theorem wfX4_42 : Cond.fieldLink RX4 42 "RingPlaces$Reader" "toldOnce" "I" ∈ wA := wA_1 (i := 156) rfl rfl
theorem wfX4_45 : Cond.fieldLink RX4 45 "RingPlaces$Reader" "number" "I" ∈ wA := wA_1 (i := 157) rfl rfl
theorem wfX4_53 : Cond.fieldLink RX4 53 "RingPlaces$Reader" "tokens" "LRingPlaces$Tokens;" ∈ wA := wA_1 (i := 150) rfl rfl
theorem wfX4_64 : Cond.fieldLink RX4 64 "RingPlaces$Tokens" "kinds" "[I" ∈ wA := wA_1 (i := 116) rfl rfl
theorem wfX4_67 : Cond.fieldLink RX4 67 "RingPlaces$Tokens" "words" "[LRingPlaces$Word;" ∈ wA := wA_1 (i := 122) rfl rfl
theorem wfX4_83 : Cond.fieldLink RX4 83 "RingPlaces$Tokens" "starts" "[I" ∈ wA := wA_1 (i := 118) rfl rfl
theorem wfX4_86 : Cond.fieldLink RX4 86 "RingPlaces$Tokens" "last" "I" ∈ wA := wA_1 (i := 124) rfl rfl
theorem wfX4_92 : Cond.fieldLink RX4 92 "RingPlaces$Word" "LAND_LINE" "LRingPlaces$Word;" ∈ wA := wA_3 (i := 58) rfl rfl
theorem wfX4_101 : Cond.fieldLink RX4 101 "RingPlaces$Word" "THING_LINE" "LRingPlaces$Word;" ∈ wA := wA_3 (i := 80) rfl rfl
theorem wfX4_107 : Cond.fieldLink RX4 107 "RingPlaces$Word" "APART_LINE" "LRingPlaces$Word;" ∈ wA := wA_3 (i := 141) rfl rfl
theorem wfX4_113 : Cond.fieldLink RX4 113 "RingPlaces$Word" "PLACE_LINE" "LRingPlaces$Word;" ∈ wA := wA_3 (i := 147) rfl rfl
theorem wfX4_119 : Cond.fieldLink RX4 119 "RingPlaces$Word" "FIRST_LINE" "LRingPlaces$Word;" ∈ wA := wA_3 (i := 157) rfl rfl
theorem wfX4_125 : Cond.fieldLink RX4 125 "RingPlaces$Word" "PAPER_LINE" "LRingPlaces$Word;" ∈ wA := wA_3 (i := 163) rfl rfl
theorem wfX4_131 : Cond.fieldLink RX4 131 "RingPlaces$Word" "NARROW_LINE" "LRingPlaces$Word;" ∈ wA := wA_3 (i := 176) rfl rfl
theorem wfX4_137 : Cond.fieldLink RX4 137 "RingPlaces$Ring" "lands" "I" ∈ wA := wA_1 (i := 61) rfl rfl
theorem wfX4_143 : Cond.fieldLink RX4 143 "RingPlaces$Tokens" "values" "[I" ∈ wA := wA_1 (i := 120) rfl rfl
theorem wfX4_146 : Cond.fieldLink RX4 146 "RingPlaces$Ring" "things" "I" ∈ wA := wA_1 (i := 70) rfl rfl
theorem wfX4_164 : Cond.fieldLink RX4 164 "RingPlaces$Word" "GROUND_PART" "LRingPlaces$Word;" ∈ wA := wA_3 (i := 111) rfl rfl
theorem wfX4_170 : Cond.fieldLink RX4 170 "RingPlaces$Word" "VOICE_PART" "LRingPlaces$Word;" ∈ wA := wA_3 (i := 121) rfl rfl
theorem wfX4_176 : Cond.fieldLink RX4 176 "RingPlaces$Word" "DEAD_PART" "LRingPlaces$Word;" ∈ wA := wA_3 (i := 135) rfl rfl
theorem wfX4_182 : Cond.fieldLink RX4 182 "RingPlaces$Word" "what" "I" ∈ wA := wA_8 (i := 132) rfl rfl
theorem wfX4_185 : Cond.fieldLink RX4 185 "RingPlaces$Word" "least" "I" ∈ wA := wA_8 (i := 133) rfl rfl
theorem wfX4_188 : Cond.fieldLink RX4 188 "RingPlaces$Word" "greatest" "I" ∈ wA := wA_8 (i := 134) rfl rfl
theorem wfX4_203 : Cond.fieldLink RX4 203 "RingPlaces$Ring" "apart" "I" ∈ wA := wA_1 (i := 80) rfl rfl
theorem wfX4_206 : Cond.fieldLink RX4 206 "RingPlaces$Ring" "placeCount" "I" ∈ wA := wA_1 (i := 77) rfl rfl
theorem wfX4_212 : Cond.fieldLink RX4 212 "RingPlaces$Ring" "places" "[I" ∈ wA := wA_1 (i := 58) rfl rfl
theorem wfX4_215 : Cond.fieldLink RX4 215 "RingPlaces$Word" "THERE_PART" "LRingPlaces$Word;" ∈ wA := wA_3 (i := 165) rfl rfl
theorem wfX4_218 : Cond.fieldLink RX4 218 "RingPlaces$Ring" "thereFirst" "Z" ∈ wA := wA_1 (i := 84) rfl rfl
theorem wfX5_9 : Cond.fieldLink RX5 9 "RingPlaces$Ring" "cells" "[J" ∈ wA := wA_1 (i := 50) rfl rfl
theorem wfX5_15 : Cond.fieldLink RX5 15 "RingPlaces$Ring" "places" "[I" ∈ wA := wA_1 (i := 53) rfl rfl
theorem wfX5_19 : Cond.fieldLink RX5 19 "RingPlaces$Ring" "lands" "I" ∈ wA := wA_1 (i := 59) rfl rfl
theorem wfX5_23 : Cond.fieldLink RX5 23 "RingPlaces$Ring" "things" "I" ∈ wA := wA_1 (i := 63) rfl rfl
theorem wfX5_26 : Cond.fieldLink RX5 26 "RingPlaces$Ring" "placeCount" "I" ∈ wA := wA_1 (i := 72) rfl rfl
theorem wfX5_29 : Cond.fieldLink RX5 29 "RingPlaces$Ring" "apart" "I" ∈ wA := wA_1 (i := 78) rfl rfl
theorem wfX5_32 : Cond.fieldLink RX5 32 "RingPlaces$Ring" "thereFirst" "Z" ∈ wA := wA_1 (i := 82) rfl rfl
theorem wfX5_36 : Cond.fieldLink RX5 36 "RingPlaces$Ring" "facts" "[I" ∈ wA := wA_1 (i := 85) rfl rfl
theorem wfX6_9 : Cond.fieldLink RX6 9 "RingPlaces$Search" "wanted" "[I" ∈ wA := wA_2 (i := 25) rfl rfl
theorem wfX6_15 : Cond.fieldLink RX6 15 "RingPlaces$Search" "length" "I" ∈ wA := wA_2 (i := 26) rfl rfl
theorem wfX6_19 : Cond.fieldLink RX6 19 "RingPlaces$Search" "otherwise" "Z" ∈ wA := wA_2 (i := 27) rfl rfl
theorem wfX6_23 : Cond.fieldLink RX6 23 "RingPlaces$Search" "bestWorth" "I" ∈ wA := wA_2 (i := 28) rfl rfl
theorem wfX6_26 : Cond.fieldLink RX6 26 "RingPlaces$Search" "bestDegree" "[I" ∈ wA := wA_2 (i := 29) rfl rfl
theorem wfX6_29 : Cond.fieldLink RX6 29 "RingPlaces$Search" "bestVoice" "[I" ∈ wA := wA_2 (i := 30) rfl rfl
theorem wfX6_32 : Cond.fieldLink RX6 32 "RingPlaces$Standing" "ring" "LRingPlaces$Ring;" ∈ wA := wA_1 (i := 190) rfl rfl
theorem wfX6_38 : Cond.fieldLink RX6 38 "RingPlaces$Search" "ring" "LRingPlaces$Ring;" ∈ wA := wA_2 (i := 22) rfl rfl
theorem wfX6_39 : Cond.fieldLink RX6 39 "RingPlaces$Search" "standing" "LRingPlaces$Standing;" ∈ wA := wA_2 (i := 23) rfl rfl
theorem wfX6_43 : Cond.fieldLink RX6 43 "RingPlaces$Search" "trial" "LRingPlaces$Standing;" ∈ wA := wA_2 (i := 24) rfl rfl
theorem wfX6_78 : Cond.fieldLink RX6 78 "RingPlaces$Ring" "things" "I" ∈ wA := wA_1 (i := 66) rfl rfl
theorem wfX6_103 : Cond.fieldLink RX6 103 "RingPlaces$Ring" "places" "[I" ∈ wA := wA_1 (i := 57) rfl rfl
theorem wfX6_113 : Cond.fieldLink RX6 113 "RingPlaces$Standing" "degree" "[I" ∈ wA := wA_1 (i := 196) rfl rfl
theorem wfX6_116 : Cond.fieldLink RX6 116 "RingPlaces$Standing" "voice" "[I" ∈ wA := wA_1 (i := 200) rfl rfl
theorem wfX6_119 : Cond.fieldLink RX6 119 "RingPlaces$Ring" "placeCount" "I" ∈ wA := wA_1 (i := 76) rfl rfl
theorem wfX7_9 : Cond.fieldLink RX7 9 "RingPlaces$Shares" "lands" "I" ∈ wA := wA_2 (i := 115) rfl rfl
theorem wfX7_15 : Cond.fieldLink RX7 15 "RingPlaces$Shares" "moves" "I" ∈ wA := wA_2 (i := 117) rfl rfl
theorem wfX7_18 : Cond.fieldLink RX7 18 "RingPlaces$Shares" "fewest" "[I" ∈ wA := wA_2 (i := 121) rfl rfl
theorem wfX7_22 : Cond.fieldLink RX7 22 "RingPlaces$Shares" "movesTo" "[I" ∈ wA := wA_2 (i := 122) rfl rfl
theorem wfX7_25 : Cond.fieldLink RX7 25 "RingPlaces$Standing" "ring" "LRingPlaces$Ring;" ∈ wA := wA_1 (i := 189) rfl rfl
theorem wfX7_31 : Cond.fieldLink RX7 31 "RingPlaces$Shares" "ring" "LRingPlaces$Ring;" ∈ wA := wA_2 (i := 119) rfl rfl
theorem wfX7_32 : Cond.fieldLink RX7 32 "RingPlaces$Shares" "standing" "LRingPlaces$Standing;" ∈ wA := wA_2 (i := 120) rfl rfl
theorem wfX7_36 : Cond.fieldLink RX7 36 "RingPlaces$Ring" "lands" "I" ∈ wA := wA_1 (i := 60) rfl rfl
theorem wfX7_39 : Cond.fieldLink RX7 39 "RingPlaces$Ring" "placeCount" "I" ∈ wA := wA_1 (i := 73) rfl rfl
theorem wfX7_56 : Cond.fieldLink RX7 56 "RingPlaces$Ring" "places" "[I" ∈ wA := wA_1 (i := 54) rfl rfl
theorem wfX7_59 : Cond.fieldLink RX7 59 "RingPlaces$Ring" "things" "I" ∈ wA := wA_1 (i := 67) rfl rfl
theorem wfX7_73 : Cond.fieldLink RX7 73 "RingPlaces$Standing" "degree" "[I" ∈ wA := wA_1 (i := 194) rfl rfl
theorem wfX8_9 : Cond.fieldLink RX8 9 "RingPlaces$Standing" "degree" "[I" ∈ wA := wA_1 (i := 192) rfl rfl
theorem wfX8_15 : Cond.fieldLink RX8 15 "RingPlaces$Standing" "voice" "[I" ∈ wA := wA_1 (i := 198) rfl rfl
theorem wfX8_18 : Cond.fieldLink RX8 18 "RingPlaces$Standing" "loud" "[I" ∈ wA := wA_1 (i := 202) rfl rfl
theorem wfX8_21 : Cond.fieldLink RX8 21 "RingPlaces$Standing" "sharp" "[I" ∈ wA := wA_1 (i := 203) rfl rfl
theorem wfX8_24 : Cond.fieldLink RX8 24 "RingPlaces$Standing" "hears" "[I" ∈ wA := wA_1 (i := 205) rfl rfl
theorem wfX8_27 : Cond.fieldLink RX8 27 "RingPlaces$Standing" "tooNear" "[I" ∈ wA := wA_1 (i := 207) rfl rfl
theorem wfX8_30 : Cond.fieldLink RX8 30 "RingPlaces$Standing" "ring" "LRingPlaces$Ring;" ∈ wA := wA_1 (i := 191) rfl rfl
theorem wfX8_50 : Cond.fieldLink RX8 50 "RingPlaces$Ring" "things" "I" ∈ wA := wA_1 (i := 68) rfl rfl
theorem wfX8_80 : Cond.fieldLink RX8 80 "RingPlaces$Ring" "apart" "I" ∈ wA := wA_1 (i := 79) rfl rfl
theorem wfX8_83 : Cond.fieldLink RX8 83 "RingPlaces$Ring" "cells" "[J" ∈ wA := wA_1 (i := 52) rfl rfl
theorem wfX9_11 : Cond.fieldLink RX9 11 "RingPlaces$Tokens" "kinds" "[I" ∈ wA := wA_1 (i := 115) rfl rfl
theorem wfX9_15 : Cond.fieldLink RX9 15 "RingPlaces$Tokens" "starts" "[I" ∈ wA := wA_1 (i := 117) rfl rfl
theorem wfX9_18 : Cond.fieldLink RX9 18 "RingPlaces$Tokens" "values" "[I" ∈ wA := wA_1 (i := 119) rfl rfl
theorem wfX9_23 : Cond.fieldLink RX9 23 "RingPlaces$Tokens" "words" "[LRingPlaces$Word;" ∈ wA := wA_1 (i := 121) rfl rfl
theorem wfX9_27 : Cond.fieldLink RX9 27 "RingPlaces$Tokens" "last" "I" ∈ wA := wA_1 (i := 123) rfl rfl
theorem wfX9_31 : Cond.fieldLink RX9 31 "RingPlaces$Tokens" "length" "I" ∈ wA := wA_1 (i := 126) rfl rfl
theorem wfX9_34 : Cond.fieldLink RX9 34 "RingPlaces$Tokens" "next" "I" ∈ wA := wA_1 (i := 127) rfl rfl
theorem wfX9_37 : Cond.fieldLink RX9 37 "RingPlaces$Tokens" "tape" "[B" ∈ wA := wA_1 (i := 125) rfl rfl
theorem wlJ0_335 : Cond.methodLink RJ0 335 yJ0_coder_7d493 ∈ wA := wA_3 (i := 6) rfl rfl
theorem wlJ0_492 : Cond.methodLink RJ0 492 yJ0_isLatin1_aae02 ∈ wA := wA_3 (i := 16) rfl rfl
theorem wlJ0_495 : Cond.methodLink RJ0 495 yJ1_charAt_3b067 ∈ wA := wA_3 (i := 20) rfl rfl
theorem wlJ0_498 : Cond.methodLink RJ0 498 yJ2_charAt_3b067 ∈ wA := wA_3 (i := 31) rfl rfl
theorem wlJ0_1059 : Cond.methodLink RJ0 1059 yJ3_checkIndex_8e157 ∈ wA := wA_3 (i := 28) rfl rfl
theorem wlJ1_9 : Cond.methodLink RJ1 9 yJ0_checkIndex_df160 ∈ wA := wA_3 (i := 23) rfl rfl
theorem wlJ2_48 : Cond.methodLink RJ2 48 yJ2_length_9d52b ∈ wA := wA_3 (i := 37) rfl rfl
theorem wlJ2_67 : Cond.methodLink RJ2 67 yJ2_checkIndex_2214a ∈ wA := wA_3 (i := 34) rfl rfl
theorem wlJ2_71 : Cond.methodLink RJ2 71 yJ2_getChar_3b067 ∈ wA := wA_3 (i := 41) rfl rfl
theorem wlJ2_414 : Cond.methodLink RJ2 414 yJ0_checkIndex_df160 ∈ wA := wA_3 (i := 40) rfl rfl
theorem wlL_7 : Cond.methodLink RL 7 yX11_thing ∈ wA := wA_5 (i := 194) rfl rfl
theorem wlL_15 : Cond.methodLink RL 15 yX11_drift ∈ wA := wA_6 (i := 23) rfl rfl
theorem wlL_19 : Cond.methodLink RL 19 yX11_init ∈ wA := wA_1 (i := 28) rfl rfl
theorem wlL_22 : Cond.methodLink RL 22 yX12_init ∈ wA := wA_6 (i := 29) rfl rfl
theorem wlL_23 : Cond.methodLink RL 23 yX11_feed ∈ wA := wA_2 (i := 191) rfl rfl
theorem wlL_27 : Cond.methodLink RL 27 yX12_feed ∈ wA := wA_6 (i := 176) rfl rfl
theorem wlL_28 : Cond.methodLink RL 28 yX11_end ∈ wA := wA_2 (i := 199) rfl rfl
theorem wlL_32 : Cond.methodLink RL 32 yX12_end ∈ wA := wA_6 (i := 184) rfl rfl
theorem wlL_33 : Cond.methodLink RL 33 yX11_ring ∈ wA := wA_2 (i := 203) rfl rfl
theorem wlL_37 : Cond.methodLink RL 37 yX12_ring ∈ wA := wA_6 (i := 188) rfl rfl
theorem wlL_38 : Cond.methodLink RL 38 yX11_fault ∈ wA := wA_3 (i := 198) rfl rfl
theorem wlL_41 : Cond.methodLink RL 41 yX12_fault ∈ wA := wA_7 (i := 55) rfl rfl
theorem wlL_42 : Cond.methodLink RL 42 yL_thing ∈ wA := wA_5 (i := 190) rfl rfl
theorem wlL_47 : Cond.methodLink RL 47 yX12_thing ∈ wA := wA_7 (i := 59) rfl rfl
theorem wlL_48 : Cond.methodLink RL 48 yX12_thrown ∈ wA := wA_6 (i := 172) rfl rfl
theorem wlL_51 : Cond.methodLink RL 51 yX11_ground ∈ wA := wA_3 (i := 202) rfl rfl
theorem wlL_55 : Cond.methodLink RL 55 yX12_ground ∈ wA := wA_7 (i := 79) rfl rfl
theorem wlL_56 : Cond.methodLink RL 56 yX11_place ∈ wA := wA_3 (i := 210) rfl rfl
theorem wlL_60 : Cond.methodLink RL 60 yX12_place ∈ wA := wA_7 (i := 83) rfl rfl
theorem wlL_61 : Cond.methodLink RL 61 yX11_stand ∈ wA := wA_3 (i := 214) rfl rfl
theorem wlL_65 : Cond.methodLink RL 65 yX12_stand ∈ wA := wA_7 (i := 87) rfl rfl
theorem wlL_66 : Cond.methodLink RL 66 yX11_lift ∈ wA := wA_4 (i := 10) rfl rfl
theorem wlL_69 : Cond.methodLink RL 69 yX12_lift ∈ wA := wA_7 (i := 91) rfl rfl
theorem wlL_70 : Cond.methodLink RL 70 yX11_stands ∈ wA := wA_4 (i := 18) rfl rfl
theorem wlL_73 : Cond.methodLink RL 73 yX12_stands ∈ wA := wA_7 (i := 103) rfl rfl
theorem wlL_74 : Cond.methodLink RL 74 yX11_reach ∈ wA := wA_4 (i := 22) rfl rfl
theorem wlL_77 : Cond.methodLink RL 77 yX12_reach ∈ wA := wA_7 (i := 111) rfl rfl
theorem wlL_78 : Cond.methodLink RL 78 yX11_heard ∈ wA := wA_4 (i := 31) rfl rfl
theorem wlL_81 : Cond.methodLink RL 81 yX12_heard ∈ wA := wA_7 (i := 133) rfl rfl
theorem wlL_82 : Cond.methodLink RL 82 yX11_wrong ∈ wA := wA_4 (i := 35) rfl rfl
theorem wlL_85 : Cond.methodLink RL 85 yX12_wrong ∈ wA := wA_7 (i := 141) rfl rfl
theorem wlL_86 : Cond.methodLink RL 86 yX11_judge ∈ wA := wA_4 (i := 59) rfl rfl
theorem wlL_89 : Cond.methodLink RL 89 yX12_judge ∈ wA := wA_7 (i := 157) rfl rfl
theorem wlL_90 : Cond.methodLink RL 90 yX11_need ∈ wA := wA_4 (i := 69) rfl rfl
theorem wlL_93 : Cond.methodLink RL 93 yX12_need ∈ wA := wA_7 (i := 165) rfl rfl
theorem wlL_94 : Cond.methodLink RL 94 yX11_arc ∈ wA := wA_4 (i := 88) rfl rfl
theorem wlL_97 : Cond.methodLink RL 97 yX12_arc ∈ wA := wA_7 (i := 177) rfl rfl
theorem wlL_98 : Cond.methodLink RL 98 yX11_shortest ∈ wA := wA_4 (i := 110) rfl rfl
theorem wlL_101 : Cond.methodLink RL 101 yX12_shortest ∈ wA := wA_7 (i := 193) rfl rfl
theorem wlL_102 : Cond.methodLink RL 102 yX11_orderAt ∈ wA := wA_4 (i := 128) rfl rfl
theorem wlL_105 : Cond.methodLink RL 105 yX12_orderAt ∈ wA := wA_7 (i := 201) rfl rfl
theorem wlL_106 : Cond.methodLink RL 106 yX11_find ∈ wA := wA_4 (i := 132) rfl rfl
theorem wlL_109 : Cond.methodLink RL 109 yX12_find ∈ wA := wA_7 (i := 205) rfl rfl
theorem wlL_110 : Cond.methodLink RL 110 yX11_ways ∈ wA := wA_4 (i := 177) rfl rfl
theorem wlL_113 : Cond.methodLink RL 113 yX12_ways ∈ wA := wA_7 (i := 229) rfl rfl
theorem wlL_114 : Cond.methodLink RL 114 yX11_most ∈ wA := wA_4 (i := 189) rfl rfl
theorem wlL_117 : Cond.methodLink RL 117 yX12_most ∈ wA := wA_7 (i := 237) rfl rfl
theorem wlL_118 : Cond.methodLink RL 118 yX11_fit ∈ wA := wA_4 (i := 210) rfl rfl
theorem wlL_121 : Cond.methodLink RL 121 yX12_fit ∈ wA := wA_8 (i := 5) rfl rfl
theorem wlL_122 : Cond.methodLink RL 122 yX11_fitOf ∈ wA := wA_5 (i := 1) rfl rfl
theorem wlL_125 : Cond.methodLink RL 125 yX12_fitOf ∈ wA := wA_8 (i := 14) rfl rfl
theorem wlL_126 : Cond.methodLink RL 126 yX11_letIn ∈ wA := wA_5 (i := 5) rfl rfl
theorem wlL_129 : Cond.methodLink RL 129 yX12_letIn ∈ wA := wA_8 (i := 18) rfl rfl
theorem wlL_130 : Cond.methodLink RL 130 yX11_narrow ∈ wA := wA_5 (i := 18) rfl rfl
theorem wlL_133 : Cond.methodLink RL 133 yX12_narrow ∈ wA := wA_8 (i := 29) rfl rfl
theorem wlL_134 : Cond.methodLink RL 134 yX11_narrowCost ∈ wA := wA_5 (i := 48) rfl rfl
theorem wlL_137 : Cond.methodLink RL 137 yX12_narrowCost ∈ wA := wA_8 (i := 33) rfl rfl
theorem wlL_138 : Cond.methodLink RL 138 yX11_sell ∈ wA := wA_5 (i := 52) rfl rfl
theorem wlL_141 : Cond.methodLink RL 141 yX12_sell ∈ wA := wA_8 (i := 37) rfl rfl
theorem wlL_142 : Cond.methodLink RL 142 yX11_good ∈ wA := wA_5 (i := 67) rfl rfl
theorem wlL_145 : Cond.methodLink RL 145 yX12_good ∈ wA := wA_8 (i := 45) rfl rfl
theorem wlL_146 : Cond.methodLink RL 146 yX11_right ∈ wA := wA_5 (i := 83) rfl rfl
theorem wlL_149 : Cond.methodLink RL 149 yX12_right ∈ wA := wA_8 (i := 56) rfl rfl
theorem wlL_150 : Cond.methodLink RL 150 yX11_barred ∈ wA := wA_5 (i := 97) rfl rfl
theorem wlL_153 : Cond.methodLink RL 153 yX12_barred ∈ wA := wA_8 (i := 68) rfl rfl
theorem wlL_154 : Cond.methodLink RL 154 yX11_shares ∈ wA := wA_5 (i := 123) rfl rfl
theorem wlL_157 : Cond.methodLink RL 157 yX12_shares ∈ wA := wA_8 (i := 76) rfl rfl
theorem wlL_158 : Cond.methodLink RL 158 yL_drift ∈ wA := wA_6 (i := 20) rfl rfl
theorem wlL_161 : Cond.methodLink RL 161 yX12_drift ∈ wA := wA_8 (i := 88) rfl rfl
theorem wlL_162 : Cond.methodLink RL 162 yX11_meets ∈ wA := wA_5 (i := 156) rfl rfl
theorem wlL_166 : Cond.methodLink RL 166 yX12_meets ∈ wA := wA_8 (i := 96) rfl rfl
theorem wlL_167 : Cond.methodLink RL 167 yX11_image ∈ wA := wA_5 (i := 173) rfl rfl
theorem wlL_170 : Cond.methodLink RL 170 yX12_image ∈ wA := wA_8 (i := 100) rfl rfl
theorem wlL_171 : Cond.methodLink RL 171 yX11_restore ∈ wA := wA_5 (i := 177) rfl rfl
theorem wlL_174 : Cond.methodLink RL 174 yX12_restore ∈ wA := wA_8 (i := 104) rfl rfl
theorem wlL_175 : Cond.methodLink RL 175 yX11_count ∈ wA := wA_5 (i := 181) rfl rfl
theorem wlL_178 : Cond.methodLink RL 178 yX12_count ∈ wA := wA_8 (i := 108) rfl rfl
theorem wlX0_3 : Cond.methodLink RX0 3 objectInit ∈ wA := wA_2 (i := 55) rfl rfl
theorem wlX0_38 : Cond.methodLink RX0 38 yX5_isDead ∈ wA := wA_4 (i := 218) rfl rfl
theorem wlX0_42 : Cond.methodLink RX0 42 yX5_told ∈ wA := wA_4 (i := 219) rfl rfl
theorem wlX0_46 : Cond.methodLink RX0 46 yX0_hearAnew ∈ wA := wA_4 (i := 220) rfl rfl
theorem wlX0_50 : Cond.methodLink RX0 50 yX0_takeNext ∈ wA := wA_4 (i := 233) rfl rfl
theorem wlX0_53 : Cond.methodLink RX0 53 yX0_keepAnswer ∈ wA := wA_4 (i := 237) rfl rfl
theorem wlX0_57 : Cond.methodLink RX0 57 yX8_isLiving ∈ wA := wA_4 (i := 224) rfl rfl
theorem wlX0_60 : Cond.methodLink RX0 60 yX0_neededBy ∈ wA := wA_4 (i := 225) rfl rfl
theorem wlX0_64 : Cond.methodLink RX0 64 yX8_touching ∈ wA := wA_4 (i := 229) rfl rfl
theorem wlX0_78 : Cond.methodLink RX0 78 Lib.Math.max.name ∈ wA := wA_4 (i := 232) rfl rfl
theorem wlX1_3 : Cond.methodLink RX1 3 objectInit ∈ wA := wA_2 (i := 78) rfl rfl
theorem wlX1_36 : Cond.methodLink RX1 36 yX1_gatherAble ∈ wA := wA_5 (i := 26) rfl rfl
theorem wlX1_39 : Cond.methodLink RX1 39 yX1_costOf ∈ wA := wA_5 (i := 32) rfl rfl
theorem wlX1_43 : Cond.methodLink RX1 43 yX1_isRightWith ∈ wA := wA_5 (i := 36) rfl rfl
theorem wlX1_47 : Cond.methodLink RX1 47 yX1_thingsOf ∈ wA := wA_5 (i := 44) rfl rfl
theorem wlX1_55 : Cond.methodLink RX1 55 yX8_isUp ∈ wA := wA_5 (i := 30) rfl rfl
theorem wlX1_58 : Cond.methodLink RX1 58 yX5_told ∈ wA := wA_5 (i := 31) rfl rfl
theorem wlX1_62 : Cond.methodLink RX1 62 yX8_clear ∈ wA := wA_5 (i := 40) rfl rfl
theorem wlX1_68 : Cond.methodLink RX1 68 Lib.Math.min.name ∈ wA := wA_5 (i := 41) rfl rfl
theorem wlX1_79 : Cond.methodLink RX1 79 yX8_put ∈ wA := wA_5 (i := 42) rfl rfl
theorem wlX1_83 : Cond.methodLink RX1 83 yX8_firstWrong ∈ wA := wA_5 (i := 43) rfl rfl
theorem wlX10_87 : Cond.methodLink RX10 87 yX10_lies ∈ wA := wA_2 (i := 237) rfl rfl
theorem wlX10_91 : Cond.methodLink RX10 91 yJ0_length_8abf5 ∈ wA := wA_3 (i := 2) rfl rfl
theorem wlX10_97 : Cond.methodLink RX10 97 yJ0_charAt_5068e ∈ wA := wA_3 (i := 12) rfl rfl
theorem wlX11_1 : Cond.methodLink RX11 1 objectInit ∈ wA := wA_1 (i := 31) rfl rfl
theorem wlX11_45 : Cond.methodLink RX11 45 yX4_init ∈ wA := wA_1 (i := 40) rfl rfl
theorem wlX11_57 : Cond.methodLink RX11 57 yX8_init ∈ wA := wA_1 (i := 183) rfl rfl
theorem wlX11_69 : Cond.methodLink RX11 69 yX2_init ∈ wA := wA_1 (i := 225) rfl rfl
theorem wlX11_76 : Cond.methodLink RX11 76 yX6_init ∈ wA := wA_2 (i := 18) rfl rfl
theorem wlX11_85 : Cond.methodLink RX11 85 yX0_init ∈ wA := wA_2 (i := 52) rfl rfl
theorem wlX11_94 : Cond.methodLink RX11 94 yX1_init ∈ wA := wA_2 (i := 75) rfl rfl
theorem wlX11_101 : Cond.methodLink RX11 101 yX3_init ∈ wA := wA_2 (i := 101) rfl rfl
theorem wlX11_108 : Cond.methodLink RX11 108 yX7_init ∈ wA := wA_2 (i := 111) rfl rfl
theorem wlX11_113 : Cond.methodLink RX11 113 yX11_append ∈ wA := wA_2 (i := 195) rfl rfl
theorem wlX11_117 : Cond.methodLink RX11 117 yX4_readText ∈ wA := wA_2 (i := 207) rfl rfl
theorem wlX11_125 : Cond.methodLink RX11 125 yX5_copyFrom ∈ wA := wA_3 (i := 186) rfl rfl
theorem wlX11_128 : Cond.methodLink RX11 128 yX8_clear ∈ wA := wA_3 (i := 193) rfl rfl
theorem wlX11_131 : Cond.methodLink RX11 131 yX5_has ∈ wA := wA_3 (i := 206) rfl rfl
theorem wlX11_138 : Cond.methodLink RX11 138 yX5_told ∈ wA := wA_6 (i := 19) rfl rfl
theorem wlX11_152 : Cond.methodLink RX11 152 yX11_isDegree ∈ wA := wA_3 (i := 218) rfl rfl
theorem wlX11_155 : Cond.methodLink RX11 155 yX11_isVoice ∈ wA := wA_3 (i := 221) rfl rfl
theorem wlX11_158 : Cond.methodLink RX11 158 yX8_isUp ∈ wA := wA_3 (i := 224) rfl rfl
theorem wlX11_161 : Cond.methodLink RX11 161 yX8_take ∈ wA := wA_3 (i := 228) rfl rfl
theorem wlX11_164 : Cond.methodLink RX11 164 yX8_put ∈ wA := wA_4 (i := 6) rfl rfl
theorem wlX11_168 : Cond.methodLink RX11 168 yX11_hasUp ∈ wA := wA_4 (i := 14) rfl rfl
theorem wlX11_177 : Cond.methodLink RX11 177 yX8_touching ∈ wA := wA_4 (i := 26) rfl rfl
theorem wlX11_181 : Cond.methodLink RX11 181 yX8_reachOn ∈ wA := wA_4 (i := 27) rfl rfl
theorem wlX11_187 : Cond.methodLink RX11 187 yX8_isLiving ∈ wA := wA_4 (i := 39) rfl rfl
theorem wlX11_190 : Cond.methodLink RX11 190 yX8_wrongOf ∈ wA := wA_4 (i := 47) rfl rfl
theorem wlX11_193 : Cond.methodLink RX11 193 yX8_firstWrong ∈ wA := wA_4 (i := 63) rfl rfl
theorem wlX11_197 : Cond.methodLink RX11 197 yX5_needOf ∈ wA := wA_4 (i := 73) rfl rfl
theorem wlX11_200 : Cond.methodLink RX11 200 yX11_takeRow ∈ wA := wA_4 (i := 92) rfl rfl
theorem wlX11_203 : Cond.methodLink RX11 203 yX2_arcOf ∈ wA := wA_4 (i := 100) rfl rfl
theorem wlX11_207 : Cond.methodLink RX11 207 yX2_shortestOf ∈ wA := wA_4 (i := 114) rfl rfl
theorem wlX11_216 : Cond.methodLink RX11 216 yX11_takeLiving ∈ wA := wA_4 (i := 136) rfl rfl
theorem wlX11_220 : Cond.methodLink RX11 220 yX6_findFirst ∈ wA := wA_4 (i := 141) rfl rfl
theorem wlX11_224 : Cond.methodLink RX11 224 yX6_countWays ∈ wA := wA_4 (i := 181) rfl rfl
theorem wlX11_227 : Cond.methodLink RX11 227 yX6_findMost ∈ wA := wA_4 (i := 193) rfl rfl
theorem wlX11_230 : Cond.methodLink RX11 230 yX0_settle ∈ wA := wA_4 (i := 214) rfl rfl
theorem wlX11_234 : Cond.methodLink RX11 234 yX5_isDead ∈ wA := wA_4 (i := 140) rfl rfl
theorem wlX11_237 : Cond.methodLink RX11 237 yX6_admit ∈ wA := wA_5 (i := 9) rfl rfl
theorem wlX11_240 : Cond.methodLink RX11 240 yX1_cheapestSet ∈ wA := wA_5 (i := 22) rfl rfl
theorem wlX11_246 : Cond.methodLink RX11 246 yX8_copyFrom ∈ wA := wA_5 (i := 56) rfl rfl
theorem wlX11_248 : Cond.methodLink RX11 248 yX8_swapDegrees ∈ wA := wA_5 (i := 57) rfl rfl
theorem wlX11_252 : Cond.methodLink RX11 252 yX11_isSaleLet ∈ wA := wA_5 (i := 63) rfl rfl
theorem wlX11_255 : Cond.methodLink RX11 255 yX11_isDay ∈ wA := wA_5 (i := 71) rfl rfl
theorem wlX11_258 : Cond.methodLink RX11 258 yX3_isGood ∈ wA := wA_5 (i := 74) rfl rfl
theorem wlX11_261 : Cond.methodLink RX11 261 yX3_rightOf ∈ wA := wA_5 (i := 87) rfl rfl
theorem wlX11_265 : Cond.methodLink RX11 265 yX3_barredFor ∈ wA := wA_5 (i := 101) rfl rfl
theorem wlX11_268 : Cond.methodLink RX11 268 yX3_clearedFor ∈ wA := wA_5 (i := 119) rfl rfl
theorem wlX11_271 : Cond.methodLink RX11 271 yX7_divide ∈ wA := wA_5 (i := 127) rfl rfl
theorem wlX11_280 : Cond.methodLink RX11 280 yX11_hasDead ∈ wA := wA_5 (i := 160) rfl rfl
theorem wlX11_283 : Cond.methodLink RX11 283 yX5_driftOf ∈ wA := wA_5 (i := 164) rfl rfl
theorem wlX11_286 : Cond.methodLink RX11 286 yX8_isMetAt ∈ wA := wA_5 (i := 168) rfl rfl
theorem wlX11_294 : Cond.methodLink RX11 294 yX8_howManyUp ∈ wA := wA_5 (i := 185) rfl rfl
theorem wlX11_300 : Cond.methodLink RX11 300 yX11_isInRow ∈ wA := wA_4 (i := 96) rfl rfl
theorem wlX12_1 : Cond.methodLink RX12 1 objectInit ∈ wA := wA_6 (i := 32) rfl rfl
theorem wlX12_103 : Cond.methodLink RX12 103 yX12_come ∈ wA := wA_6 (i := 180) rfl rfl
theorem wlX12_119 : Cond.methodLink RX12 119 yX12_isLetter ∈ wA := wA_6 (i := 204) rfl rfl
theorem wlX12_123 : Cond.methodLink RX12 123 yX12_isDigit ∈ wA := wA_6 (i := 207) rfl rfl
theorem wlX12_133 : Cond.methodLink RX12 133 yX12_byteAt ∈ wA := wA_6 (i := 210) rfl rfl
theorem wlX12_141 : Cond.methodLink RX12 141 yX12_spelt ∈ wA := wA_6 (i := 227) rfl rfl
theorem wlX12_145 : Cond.methodLink RX12 145 yX12_on ∈ wA := wA_6 (i := 230) rfl rfl
theorem wlX12_149 : Cond.methodLink RX12 149 yX12_wordOf ∈ wA := wA_6 (i := 224) rfl rfl
theorem wlX12_159 : Cond.methodLink RX12 159 yX12_bad ∈ wA := wA_6 (i := 233) rfl rfl
theorem wlX12_162 : Cond.methodLink RX12 162 yX12_isIn ∈ wA := wA_7 (i := 21) rfl rfl
theorem wlX12_169 : Cond.methodLink RX12 169 yX12_go ∈ wA := wA_6 (i := 200) rfl rfl
theorem wlX12_176 : Cond.methodLink RX12 176 yX12_things ∈ wA := wA_7 (i := 67) rfl rfl
theorem wlX12_180 : Cond.methodLink RX12 180 yX12_of ∈ wA := wA_7 (i := 75) rfl rfl
theorem wlX12_184 : Cond.methodLink RX12 184 yX12_at ∈ wA := wA_7 (i := 99) rfl rfl
theorem wlX12_187 : Cond.methodLink RX12 187 yX12_isName ∈ wA := wA_7 (i := 5) rfl rfl
theorem wlX12_191 : Cond.methodLink RX12 191 yX12_findRead ∈ wA := wA_7 (i := 9) rfl rfl
theorem wlX12_194 : Cond.methodLink RX12 194 yX12_readNew ∈ wA := wA_7 (i := 1) rfl rfl
theorem wlX12_197 : Cond.methodLink RX12 197 yX12_readNumber ∈ wA := wA_7 (i := 17) rfl rfl
theorem wlX12_201 : Cond.methodLink RX12 201 yX12_isWord ∈ wA := wA_6 (i := 220) rfl rfl
theorem wlX12_204 : Cond.methodLink RX12 204 yX12_has ∈ wA := wA_7 (i := 24) rfl rfl
theorem wlX12_207 : Cond.methodLink RX12 207 yX12_readPart ∈ wA := wA_7 (i := 27) rfl rfl
theorem wlX12_210 : Cond.methodLink RX12 210 yX12_readOnce ∈ wA := wA_7 (i := 39) rfl rfl
theorem wlX12_216 : Cond.methodLink RX12 216 yX12_readLand ∈ wA := wA_6 (i := 237) rfl rfl
theorem wlX12_219 : Cond.methodLink RX12 219 yX12_readThing ∈ wA := wA_7 (i := 13) rfl rfl
theorem wlX12_222 : Cond.methodLink RX12 222 yX12_readPlace ∈ wA := wA_7 (i := 31) rfl rfl
theorem wlX12_225 : Cond.methodLink RX12 225 yX12_readPaper ∈ wA := wA_7 (i := 35) rfl rfl
theorem wlX12_228 : Cond.methodLink RX12 228 yX12_readNarrow ∈ wA := wA_7 (i := 43) rfl rfl
theorem wlX12_231 : Cond.methodLink RX12 231 yX12_readSingle ∈ wA := wA_7 (i := 47) rfl rfl
theorem wlX12_234 : Cond.methodLink RX12 234 yX12_lay ∈ wA := wA_6 (i := 192) rfl rfl
theorem wlX12_237 : Cond.methodLink RX12 237 yX12_take ∈ wA := wA_6 (i := 196) rfl rfl
theorem wlX12_240 : Cond.methodLink RX12 240 yX12_readLine ∈ wA := wA_6 (i := 216) rfl rfl
theorem wlX12_243 : Cond.methodLink RX12 243 yX12_put ∈ wA := wA_7 (i := 51) rfl rfl
theorem wlX12_247 : Cond.methodLink RX12 247 yX12_isThing ∈ wA := wA_7 (i := 63) rfl rfl
theorem wlX12_250 : Cond.methodLink RX12 250 yX12_refuse ∈ wA := wA_7 (i := 71) rfl rfl
theorem wlX12_253 : Cond.methodLink RX12 253 yX12_isUp ∈ wA := wA_7 (i := 95) rfl rfl
theorem wlX12_256 : Cond.methodLink RX12 256 yX12_voice ∈ wA := wA_7 (i := 107) rfl rfl
theorem wlX12_259 : Cond.methodLink RX12 259 yX12_touches ∈ wA := wA_7 (i := 123) rfl rfl
theorem wlX12_262 : Cond.methodLink RX12 262 yX12_apart ∈ wA := wA_7 (i := 127) rfl rfl
theorem wlX12_265 : Cond.methodLink RX12 265 yX12_reachBy ∈ wA := wA_7 (i := 130) rfl rfl
theorem wlX12_269 : Cond.methodLink RX12 269 yX12_reachOf ∈ wA := wA_7 (i := 119) rfl rfl
theorem wlX12_272 : Cond.methodLink RX12 272 yX12_isInArc ∈ wA := wA_7 (i := 153) rfl rfl
theorem wlX12_275 : Cond.methodLink RX12 275 yX12_heardBy ∈ wA := wA_7 (i := 137) rfl rfl
theorem wlX12_278 : Cond.methodLink RX12 278 yX12_isDead ∈ wA := wA_7 (i := 145) rfl rfl
theorem wlX12_281 : Cond.methodLink RX12 281 yX12_wrongOf ∈ wA := wA_7 (i := 149) rfl rfl
theorem wlX12_284 : Cond.methodLink RX12 284 yX12_layBeams ∈ wA := wA_7 (i := 115) rfl rfl
theorem wlX12_287 : Cond.methodLink RX12 287 yX12_firstWrong ∈ wA := wA_7 (i := 161) rfl rfl
theorem wlX12_290 : Cond.methodLink RX12 290 yX12_bears ∈ wA := wA_7 (i := 173) rfl rfl
theorem wlX12_293 : Cond.methodLink RX12 293 yX12_needOf ∈ wA := wA_7 (i := 169) rfl rfl
theorem wlX12_299 : Cond.methodLink RX12 299 yX12_takeRow ∈ wA := wA_7 (i := 181) rfl rfl
theorem wlX12_302 : Cond.methodLink RX12 302 yX12_layNeeds ∈ wA := wA_7 (i := 185) rfl rfl
theorem wlX12_305 : Cond.methodLink RX12 305 yX12_spanOf ∈ wA := wA_7 (i := 189) rfl rfl
theorem wlX12_312 : Cond.methodLink RX12 312 yX12_tryOrder ∈ wA := wA_7 (i := 197) rfl rfl
theorem wlX12_319 : Cond.methodLink RX12 319 yX12_finds ∈ wA := wA_7 (i := 221) rfl rfl
theorem wlX12_322 : Cond.methodLink RX12 322 yX12_takeFree ∈ wA := wA_7 (i := 209) rfl rfl
theorem wlX12_325 : Cond.methodLink RX12 325 yX12_save ∈ wA := wA_7 (i := 213) rfl rfl
theorem wlX12_329 : Cond.methodLink RX12 329 yX12_liftRow ∈ wA := wA_7 (i := 217) rfl rfl
theorem wlX12_332 : Cond.methodLink RX12 332 yX12_bring ∈ wA := wA_7 (i := 225) rfl rfl
theorem wlX12_335 : Cond.methodLink RX12 335 yX12_waysFrom ∈ wA := wA_7 (i := 233) rfl rfl
theorem wlX12_341 : Cond.methodLink RX12 341 yX12_tryWorth ∈ wA := wA_8 (i := 1) rfl rfl
theorem wlX12_345 : Cond.methodLink RX12 345 yX12_louder ∈ wA := wA_8 (i := 9) rfl rfl
theorem wlX12_351 : Cond.methodLink RX12 351 yX12_bits ∈ wA := wA_8 (i := 22) rfl rfl
theorem wlX12_354 : Cond.methodLink RX12 354 yX12_isMovable ∈ wA := wA_8 (i := 25) rfl rfl
theorem wlX12_357 : Cond.methodLink RX12 357 yX12_isLet ∈ wA := wA_8 (i := 41) rfl rfl
theorem wlX12_360 : Cond.methodLink RX12 360 yX12_isDay ∈ wA := wA_8 (i := 49) rfl rfl
theorem wlX12_363 : Cond.methodLink RX12 363 yX12_isGood ∈ wA := wA_8 (i := 52) rfl rfl
theorem wlX12_366 : Cond.methodLink RX12 366 yX12_rankOf ∈ wA := wA_8 (i := 64) rfl rfl
theorem wlX12_369 : Cond.methodLink RX12 369 yX12_rightOf ∈ wA := wA_8 (i := 60) rfl rfl
theorem wlX12_372 : Cond.methodLink RX12 372 yX12_middleOf ∈ wA := wA_8 (i := 72) rfl rfl
theorem wlX12_375 : Cond.methodLink RX12 375 yX12_better ∈ wA := wA_8 (i := 84) rfl rfl
theorem wlX12_378 : Cond.methodLink RX12 378 yX12_shareLand ∈ wA := wA_8 (i := 80) rfl rfl
theorem wlX12_381 : Cond.methodLink RX12 381 yX12_driftOf ∈ wA := wA_8 (i := 92) rfl rfl
theorem wlX2_3 : Cond.methodLink RX2 3 objectInit ∈ wA := wA_1 (i := 228) rfl rfl
theorem wlX2_38 : Cond.methodLink RX2 38 yX2_spotBehind ∈ wA := wA_4 (i := 104) rfl rfl
theorem wlX2_42 : Cond.methodLink RX2 42 yX5_needOf ∈ wA := wA_4 (i := 108) rfl rfl
theorem wlX2_48 : Cond.methodLink RX2 48 Lib.Math.max.name ∈ wA := wA_4 (i := 109) rfl rfl
theorem wlX2_53 : Cond.methodLink RX2 53 yX2_arcOf ∈ wA := wA_4 (i := 118) rfl rfl
theorem wlX2_57 : Cond.methodLink RX2 57 yX2_sortRow ∈ wA := wA_4 (i := 119) rfl rfl
theorem wlX2_61 : Cond.methodLink RX2 61 yX2_tryOrders ∈ wA := wA_4 (i := 123) rfl rfl
theorem wlX2_65 : Cond.methodLink RX2 65 arraycopyName ∈ wA := wA_4 (i := 127) rfl rfl
theorem wlX3_3 : Cond.methodLink RX3 3 objectInit ∈ wA := wA_2 (i := 104) rfl rfl
theorem wlX3_15 : Cond.methodLink RX3 15 yX5_told ∈ wA := wA_5 (i := 78) rfl rfl
theorem wlX3_21 : Cond.methodLink RX3 21 yX3_wasThereBy ∈ wA := wA_5 (i := 79) rfl rfl
theorem wlX3_29 : Cond.methodLink RX3 29 yX3_isGood ∈ wA := wA_5 (i := 96) rfl rfl
theorem wlX3_32 : Cond.methodLink RX3 32 yX5_needOf ∈ wA := wA_5 (i := 91) rfl rfl
theorem wlX3_35 : Cond.methodLink RX3 35 yX3_rankOf ∈ wA := wA_5 (i := 92) rfl rfl
theorem wlX3_42 : Cond.methodLink RX3 42 yX3_barredBy ∈ wA := wA_5 (i := 105) rfl rfl
theorem wlX3_46 : Cond.methodLink RX3 46 yX3_rightOf ∈ wA := wA_5 (i := 109) rfl rfl
theorem wlX3_49 : Cond.methodLink RX3 49 yX5_middleOfArc ∈ wA := wA_5 (i := 110) rfl rfl
theorem wlX3_60 : Cond.methodLink RX3 60 yX5_isInArc ∈ wA := wA_5 (i := 117) rfl rfl
theorem wlX4_3 : Cond.methodLink RX4 3 objectInit ∈ wA := wA_1 (i := 43) rfl rfl
theorem wlX4_50 : Cond.methodLink RX4 50 yX9_init ∈ wA := wA_1 (i := 109) rfl rfl
theorem wlX4_57 : Cond.methodLink RX4 57 yX9_cut ∈ wA := wA_2 (i := 211) rfl rfl
theorem wlX4_61 : Cond.methodLink RX4 61 yX5_clear ∈ wA := wA_3 (i := 50) rfl rfl
theorem wlX4_71 : Cond.methodLink RX4 71 yX4_readLine ∈ wA := wA_3 (i := 54) rfl rfl
theorem wlX4_75 : Cond.methodLink RX4 75 yX4_passSemicolon ∈ wA := wA_3 (i := 182) rfl rfl
theorem wlX4_79 : Cond.methodLink RX4 79 yX4_refuse ∈ wA := wA_3 (i := 64) rfl rfl
theorem wlX4_89 : Cond.methodLink RX4 89 yX4_pass ∈ wA := wA_3 (i := 68) rfl rfl
theorem wlX4_98 : Cond.methodLink RX4 98 yX4_readLand ∈ wA := wA_3 (i := 60) rfl rfl
theorem wlX4_104 : Cond.methodLink RX4 104 yX4_readThing ∈ wA := wA_3 (i := 82) rfl rfl
theorem wlX4_110 : Cond.methodLink RX4 110 yX4_readApart ∈ wA := wA_3 (i := 143) rfl rfl
theorem wlX4_116 : Cond.methodLink RX4 116 yX4_readPlace ∈ wA := wA_3 (i := 149) rfl rfl
theorem wlX4_122 : Cond.methodLink RX4 122 yX4_readFirst ∈ wA := wA_3 (i := 159) rfl rfl
theorem wlX4_128 : Cond.methodLink RX4 128 yX4_readPaper ∈ wA := wA_3 (i := 167) rfl rfl
theorem wlX4_134 : Cond.methodLink RX4 134 yX4_readNarrow ∈ wA := wA_3 (i := 178) rfl rfl
theorem wlX4_140 : Cond.methodLink RX4 140 yX4_isNewName ∈ wA := wA_3 (i := 72) rfl rfl
theorem wlX4_149 : Cond.methodLink RX4 149 yX4_indexOfName ∈ wA := wA_3 (i := 86) rfl rfl
theorem wlX4_153 : Cond.methodLink RX4 153 yX5_addThing ∈ wA := wA_3 (i := 90) rfl rfl
theorem wlX4_156 : Cond.methodLink RX4 156 yX4_readFact ∈ wA := wA_3 (i := 98) rfl rfl
theorem wlX4_160 : Cond.methodLink RX4 160 yX4_readPart ∈ wA := wA_3 (i := 107) rfl rfl
theorem wlX4_167 : Cond.methodLink RX4 167 yX4_readGround ∈ wA := wA_3 (i := 113) rfl rfl
theorem wlX4_173 : Cond.methodLink RX4 173 yX4_readVoice ∈ wA := wA_3 (i := 123) rfl rfl
theorem wlX4_179 : Cond.methodLink RX4 179 yX4_passOnce ∈ wA := wA_3 (i := 137) rfl rfl
theorem wlX4_191 : Cond.methodLink RX4 191 yX4_isNumber ∈ wA := wA_3 (i := 102) rfl rfl
theorem wlX4_195 : Cond.methodLink RX4 195 yX5_addCells ∈ wA := wA_3 (i := 117) rfl rfl
theorem wlX4_199 : Cond.methodLink RX4 199 yX5_addVoice ∈ wA := wA_3 (i := 127) rfl rfl
theorem wlX4_209 : Cond.methodLink RX4 209 yX5_hasPlaceAt ∈ wA := wA_3 (i := 153) rfl rfl
theorem wlX4_221 : Cond.methodLink RX4 221 yX4_passThing ∈ wA := wA_3 (i := 171) rfl rfl
theorem wlX4_225 : Cond.methodLink RX4 225 yX5_told ∈ wA := wA_3 (i := 175) rfl rfl
theorem wlX4_229 : Cond.methodLink RX4 229 yX4_indexOf ∈ wA := wA_3 (i := 76) rfl rfl
theorem wlX4_232 : Cond.methodLink RX4 232 yX5_tell ∈ wA := wA_3 (i := 106) rfl rfl
theorem wlX5_3 : Cond.methodLink RX5 3 objectInit ∈ wA := wA_1 (i := 49) rfl rfl
theorem wlX5_39 : Cond.methodLink RX5 39 arraycopyName ∈ wA := wA_3 (i := 190) rfl rfl
theorem wlX5_45 : Cond.methodLink RX5 45 yX5_tell ∈ wA := wA_3 (i := 94) rfl rfl
theorem wlX5_49 : Cond.methodLink RX5 49 yX5_told ∈ wA := wA_3 (i := 131) rfl rfl
theorem wlX5_53 : Cond.methodLink RX5 53 yJ9_floorMod_7cf53 ∈ wA := wA_5 (i := 114) rfl rfl
theorem wlX5_58 : Cond.methodLink RX5 58 yX5_shareCell ∈ wA := wA_4 (i := 77) rfl rfl
theorem wlX5_62 : Cond.methodLink RX5 62 yX5_quietFrom ∈ wA := wA_4 (i := 81) rfl rfl
theorem wlX5_65 : Cond.methodLink RX5 65 Lib.Math.max.name ∈ wA := wA_4 (i := 85) rfl rfl
theorem wlX6_3 : Cond.methodLink RX6 3 objectInit ∈ wA := wA_2 (i := 21) rfl rfl
theorem wlX6_46 : Cond.methodLink RX6 46 yX6_begin ∈ wA := wA_4 (i := 145) rfl rfl
theorem wlX6_50 : Cond.methodLink RX6 50 yX6_isRight ∈ wA := wA_4 (i := 161) rfl rfl
theorem wlX6_54 : Cond.methodLink RX6 54 yX6_placeFrom ∈ wA := wA_4 (i := 166) rfl rfl
theorem wlX6_58 : Cond.methodLink RX6 58 yX8_copyFrom ∈ wA := wA_4 (i := 149) rfl rfl
theorem wlX6_62 : Cond.methodLink RX6 62 yX6_waysFrom ∈ wA := wA_4 (i := 185) rfl rfl
theorem wlX6_66 : Cond.methodLink RX6 66 yX6_mostFrom ∈ wA := wA_4 (i := 197) rfl rfl
theorem wlX6_70 : Cond.methodLink RX6 70 yX8_put ∈ wA := wA_4 (i := 176) rfl rfl
theorem wlX6_74 : Cond.methodLink RX6 74 yX6_admitMoving ∈ wA := wA_5 (i := 13) rfl rfl
theorem wlX6_83 : Cond.methodLink RX6 83 yX8_isLiving ∈ wA := wA_5 (i := 17) rfl rfl
theorem wlX6_86 : Cond.methodLink RX6 86 yX6_want ∈ wA := wA_4 (i := 154) rfl rfl
theorem wlX6_90 : Cond.methodLink RX6 90 yX5_has ∈ wA := wA_4 (i := 158) rfl rfl
theorem wlX6_93 : Cond.methodLink RX6 93 yX8_isUp ∈ wA := wA_4 (i := 159) rfl rfl
theorem wlX6_96 : Cond.methodLink RX6 96 yX8_take ∈ wA := wA_4 (i := 160) rfl rfl
theorem wlX6_99 : Cond.methodLink RX6 99 yX8_firstWrong ∈ wA := wA_4 (i := 165) rfl rfl
theorem wlX6_106 : Cond.methodLink RX6 106 yX5_hasVoice ∈ wA := wA_4 (i := 174) rfl rfl
theorem wlX6_110 : Cond.methodLink RX6 110 yX5_isInArc ∈ wA := wA_4 (i := 175) rfl rfl
theorem wlX6_122 : Cond.methodLink RX6 122 yX6_putRightly ∈ wA := wA_4 (i := 170) rfl rfl
theorem wlX6_125 : Cond.methodLink RX6 125 yX6_worthFrom ∈ wA := wA_4 (i := 201) rfl rfl
theorem wlX6_128 : Cond.methodLink RX6 128 yX6_keepBest ∈ wA := wA_4 (i := 206) rfl rfl
theorem wlX6_131 : Cond.methodLink RX6 131 yX5_told ∈ wA := wA_4 (i := 205) rfl rfl
theorem wlX7_3 : Cond.methodLink RX7 3 objectInit ∈ wA := wA_2 (i := 114) rfl rfl
theorem wlX7_42 : Cond.methodLink RX7 42 yX7_movesOf ∈ wA := wA_5 (i := 131) rfl rfl
theorem wlX7_46 : Cond.methodLink RX7 46 yX7_addLand ∈ wA := wA_5 (i := 138) rfl rfl
theorem wlX7_49 : Cond.methodLink RX7 49 yX7_pickBest ∈ wA := wA_5 (i := 146) rfl rfl
theorem wlX7_52 : Cond.methodLink RX7 52 yX7_offer ∈ wA := wA_5 (i := 142) rfl rfl
theorem wlX7_62 : Cond.methodLink RX7 62 yX5_told ∈ wA := wA_5 (i := 135) rfl rfl
theorem wlX7_65 : Cond.methodLink RX7 65 yX5_isDead ∈ wA := wA_5 (i := 136) rfl rfl
theorem wlX7_69 : Cond.methodLink RX7 69 yX5_isInArc ∈ wA := wA_5 (i := 137) rfl rfl
theorem wlX7_76 : Cond.methodLink RX7 76 yJ6_bitCount_0f7a4 ∈ wA := wA_5 (i := 150) rfl rfl
theorem wlX8_3 : Cond.methodLink RX8 3 objectInit ∈ wA := wA_1 (i := 186) rfl rfl
theorem wlX8_34 : Cond.methodLink RX8 34 yX5_told ∈ wA := wA_3 (i := 197) rfl rfl
theorem wlX8_40 : Cond.methodLink RX8 40 arraycopyName ∈ wA := wA_4 (i := 153) rfl rfl
theorem wlX8_46 : Cond.methodLink RX8 46 yX5_isDead ∈ wA := wA_4 (i := 43) rfl rfl
theorem wlX8_54 : Cond.methodLink RX8 54 yX8_isUp ∈ wA := wA_5 (i := 189) rfl rfl
theorem wlX8_57 : Cond.methodLink RX8 57 yX8_meetAll ∈ wA := wA_3 (i := 232) rfl rfl
theorem wlX8_61 : Cond.methodLink RX8 61 yX8_take ∈ wA := wA_5 (i := 61) rfl rfl
theorem wlX8_65 : Cond.methodLink RX8 65 yX8_put ∈ wA := wA_5 (i := 62) rfl rfl
theorem wlX8_69 : Cond.methodLink RX8 69 yX8_touching ∈ wA := wA_3 (i := 236) rfl rfl
theorem wlX8_87 : Cond.methodLink RX8 87 yX5_isInArc ∈ wA := wA_4 (i := 51) rfl rfl
theorem wlX8_90 : Cond.methodLink RX8 90 yX5_hasVoice ∈ wA := wA_4 (i := 55) rfl rfl
theorem wlX8_93 : Cond.methodLink RX8 93 yX8_isLiving ∈ wA := wA_4 (i := 67) rfl rfl
theorem wlX8_96 : Cond.methodLink RX8 96 yX8_wrongOf ∈ wA := wA_4 (i := 68) rfl rfl
theorem wlX8_100 : Cond.methodLink RX8 100 yX5_shareCell ∈ wA := wA_5 (i := 172) rfl rfl
theorem wlX9_3 : Cond.methodLink RX9 3 objectInit ∈ wA := wA_1 (i := 112) rfl rfl
theorem wlX9_41 : Cond.methodLink RX9 41 Lib.Math.min.name ∈ wA := wA_2 (i := 215) rfl rfl
theorem wlX9_47 : Cond.methodLink RX9 47 yX9_cutOne ∈ wA := wA_2 (i := 218) rfl rfl
theorem wlX9_50 : Cond.methodLink RX9 50 yX9_isLetter ∈ wA := wA_2 (i := 222) rfl rfl
theorem wlX9_54 : Cond.methodLink RX9 54 yX9_isDigit ∈ wA := wA_2 (i := 225) rfl rfl
theorem wlX9_57 : Cond.methodLink RX9 57 yX9_cutRun ∈ wA := wA_2 (i := 228) rfl rfl
theorem wlX9_60 : Cond.methodLink RX9 60 yX10_lyingAt ∈ wA := wA_2 (i := 232) rfl rfl
theorem wnX0 : Cond.initialized RX0 ∈ wA := wA_1 (i := 8) rfl rfl
theorem wnX1 : Cond.initialized RX1 ∈ wA := wA_1 (i := 9) rfl rfl
theorem wnX2 : Cond.initialized RX2 ∈ wA := wA_1 (i := 6) rfl rfl
theorem wnX3 : Cond.initialized RX3 ∈ wA := wA_1 (i := 10) rfl rfl
theorem wnX4 : Cond.initialized RX4 ∈ wA := wA_1 (i := 2) rfl rfl
theorem wnX5 : Cond.initialized RX5 ∈ wA := wA_1 (i := 3) rfl rfl
theorem wnX6 : Cond.initialized RX6 ∈ wA := wA_1 (i := 7) rfl rfl
theorem wnX7 : Cond.initialized RX7 ∈ wA := wA_1 (i := 11) rfl rfl
theorem wnX8 : Cond.initialized RX8 ∈ wA := wA_1 (i := 5) rfl rfl
theorem wnX9 : Cond.initialized RX9 ∈ wA := wA_1 (i := 4) rfl rfl
theorem wnX10 : Cond.initialized RX10 ∈ wA := wA_1 (i := 15) rfl rfl
theorem wnX11 : Cond.initialized RX11 ∈ wA := wA_1 (i := 1) rfl rfl
theorem wnX12 : Cond.initialized RX12 ∈ wA := wA_1 (i := 12) rfl rfl
theorem wnJ6 : Cond.initialized RJ6 ∈ wA := wA_1 (i := 25) rfl rfl
theorem wnJ9 : Cond.initialized RJ9 ∈ wA := wA_1 (i := 13) rfl rfl
theorem wnJ0 : Cond.initialized RJ0 ∈ wA := wA_1 (i := 16) rfl rfl
theorem wnJ1 : Cond.initialized RJ1 ∈ wA := wA_1 (i := 17) rfl rfl
theorem wnJ2 : Cond.initialized RJ2 ∈ wA := wA_1 (i := 19) rfl rfl
theorem wnJ10 : Cond.initialized RJ10 ∈ wA := wA_1 (i := 20) rfl rfl
theorem wnJ3 : Cond.initialized RJ3 ∈ wA := wA_1 (i := 18) rfl rfl
theorem wcX0_init : Cond.code yX0_init cX0_init 3 none ∈ wA := wA_2 (i := 54) rfl rfl
theorem wcX0_settle : Cond.code yX0_settle cX0_settle 2 (some .int) ∈ wA := wA_4 (i := 217) rfl rfl
theorem wcX0_hearAnew : Cond.code yX0_hearAnew cX0_hearAnew 2 (some .boolean) ∈ wA := wA_4 (i := 223) rfl rfl
theorem wcX0_neededBy : Cond.code yX0_neededBy cX0_neededBy 5 (some .int) ∈ wA := wA_4 (i := 228) rfl rfl
theorem wcX0_takeNext : Cond.code yX0_takeNext cX0_takeNext 3 (some .boolean) ∈ wA := wA_4 (i := 236) rfl rfl
theorem wcX0_keepAnswer : Cond.code yX0_keepAnswer cX0_keepAnswer 3 (some .int) ∈ wA := wA_5 (i := 0) rfl rfl
theorem wcX1_init : Cond.code yX1_init cX1_init 3 none ∈ wA := wA_2 (i := 77) rfl rfl
theorem wcX1_cheapestSet : Cond.code yX1_cheapestSet cX1_cheapestSet 5 (some .int) ∈ wA := wA_5 (i := 25) rfl rfl
theorem wcX1_gatherAble : Cond.code yX1_gatherAble cX1_gatherAble 2 none ∈ wA := wA_5 (i := 29) rfl rfl
theorem wcX1_costOf : Cond.code yX1_costOf cX1_costOf 4 (some .int) ∈ wA := wA_5 (i := 35) rfl rfl
theorem wcX1_thingsOf : Cond.code yX1_thingsOf cX1_thingsOf 4 (some .int) ∈ wA := wA_5 (i := 47) rfl rfl
theorem wcX1_isRightWith : Cond.code yX1_isRightWith cX1_isRightWith 3 (some .boolean) ∈ wA := wA_5 (i := 39) rfl rfl
theorem wcX2_init : Cond.code yX2_init cX2_init 2 none ∈ wA := wA_1 (i := 227) rfl rfl
theorem wcX2_arcOf : Cond.code yX2_arcOf cX2_arcOf 4 (some .int) ∈ wA := wA_4 (i := 103) rfl rfl
theorem wcX2_spotBehind : Cond.code yX2_spotBehind cX2_spotBehind 7 (some .int) ∈ wA := wA_4 (i := 107) rfl rfl
theorem wcX2_shortestOf : Cond.code yX2_shortestOf cX2_shortestOf 3 (some .int) ∈ wA := wA_4 (i := 117) rfl rfl
theorem wcX2_sortRow : Cond.code yX2_sortRow cX2_sortRow 4 none ∈ wA := wA_4 (i := 122) rfl rfl
theorem wcX2_tryOrders : Cond.code yX2_tryOrders cX2_tryOrders 5 none ∈ wA := wA_4 (i := 126) rfl rfl
theorem wcX3_init : Cond.code yX3_init cX3_init 2 none ∈ wA := wA_2 (i := 103) rfl rfl
theorem wcX3_isGood : Cond.code yX3_isGood cX3_isGood 4 (some .boolean) ∈ wA := wA_5 (i := 77) rfl rfl
theorem wcX3_wasThereBy : Cond.code yX3_wasThereBy cX3_wasThereBy 4 (some .boolean) ∈ wA := wA_5 (i := 82) rfl rfl
theorem wcX3_rankOf : Cond.code yX3_rankOf cX3_rankOf 3 (some .int) ∈ wA := wA_5 (i := 95) rfl rfl
theorem wcX3_rightOf : Cond.code yX3_rightOf cX3_rightOf 6 (some .int) ∈ wA := wA_5 (i := 90) rfl rfl
theorem wcX3_barredFor : Cond.code yX3_barredFor cX3_barredFor 5 (some .int) ∈ wA := wA_5 (i := 104) rfl rfl
theorem wcX3_clearedFor : Cond.code yX3_clearedFor cX3_clearedFor 6 (some .int) ∈ wA := wA_5 (i := 122) rfl rfl
theorem wcX3_barredBy : Cond.code yX3_barredBy cX3_barredBy 9 (some .int) ∈ wA := wA_5 (i := 108) rfl rfl
theorem wcX4_init : Cond.code yX4_init cX4_init 2 none ∈ wA := wA_1 (i := 42) rfl rfl
theorem wcX4_readText : Cond.code yX4_readText cX4_readText 3 (some .int) ∈ wA := wA_2 (i := 210) rfl rfl
theorem wcX4_refuse : Cond.code yX4_refuse cX4_refuse 2 (some .boolean) ∈ wA := wA_3 (i := 67) rfl rfl
theorem wcX4_pass : Cond.code yX4_pass cX4_pass 1 none ∈ wA := wA_3 (i := 71) rfl rfl
theorem wcX4_passSemicolon : Cond.code yX4_passSemicolon cX4_passSemicolon 1 (some .boolean) ∈ wA := wA_3 (i := 185) rfl rfl
theorem wcX4_readLine : Cond.code yX4_readLine cX4_readLine 2 (some .boolean) ∈ wA := wA_3 (i := 57) rfl rfl
theorem wcX4_readLand : Cond.code yX4_readLand cX4_readLand 1 (some .boolean) ∈ wA := wA_3 (i := 63) rfl rfl
theorem wcX4_readThing : Cond.code yX4_readThing cX4_readThing 5 (some .boolean) ∈ wA := wA_3 (i := 85) rfl rfl
theorem wcX4_readPart : Cond.code yX4_readPart cX4_readPart 3 (some .boolean) ∈ wA := wA_3 (i := 110) rfl rfl
theorem wcX4_readGround : Cond.code yX4_readGround cX4_readGround 3 (some .boolean) ∈ wA := wA_3 (i := 116) rfl rfl
theorem wcX4_readVoice : Cond.code yX4_readVoice cX4_readVoice 2 (some .boolean) ∈ wA := wA_3 (i := 126) rfl rfl
theorem wcX4_readApart : Cond.code yX4_readApart cX4_readApart 1 (some .boolean) ∈ wA := wA_3 (i := 146) rfl rfl
theorem wcX4_readPlace : Cond.code yX4_readPlace cX4_readPlace 1 (some .boolean) ∈ wA := wA_3 (i := 152) rfl rfl
theorem wcX4_readFirst : Cond.code yX4_readFirst cX4_readFirst 2 (some .boolean) ∈ wA := wA_3 (i := 162) rfl rfl
theorem wcX4_readPaper : Cond.code yX4_readPaper cX4_readPaper 2 (some .boolean) ∈ wA := wA_3 (i := 170) rfl rfl
theorem wcX4_readNarrow : Cond.code yX4_readNarrow cX4_readNarrow 2 (some .boolean) ∈ wA := wA_3 (i := 181) rfl rfl
theorem wcX4_passThing : Cond.code yX4_passThing cX4_passThing 3 (some .int) ∈ wA := wA_3 (i := 174) rfl rfl
theorem wcX4_passOnce : Cond.code yX4_passOnce cX4_passOnce 2 (some .boolean) ∈ wA := wA_3 (i := 140) rfl rfl
theorem wcX4_isNewName : Cond.code yX4_isNewName cX4_isNewName 1 (some .boolean) ∈ wA := wA_3 (i := 75) rfl rfl
theorem wcX4_indexOfName : Cond.code yX4_indexOfName cX4_indexOfName 4 (some .int) ∈ wA := wA_3 (i := 89) rfl rfl
theorem wcX4_indexOf : Cond.code yX4_indexOf cX4_indexOf 4 (some .int) ∈ wA := wA_3 (i := 79) rfl rfl
theorem wcX4_readFact : Cond.code yX4_readFact cX4_readFact 5 (some .boolean) ∈ wA := wA_3 (i := 101) rfl rfl
theorem wcX4_isNumber : Cond.code yX4_isNumber cX4_isNumber 3 (some .boolean) ∈ wA := wA_3 (i := 105) rfl rfl
theorem wcX5_init : Cond.code yX5_init cX5_init 1 none ∈ wA := wA_1 (i := 48) rfl rfl
theorem wcX5_clear : Cond.code yX5_clear cX5_clear 1 none ∈ wA := wA_3 (i := 53) rfl rfl
theorem wcX5_copyFrom : Cond.code yX5_copyFrom cX5_copyFrom 2 none ∈ wA := wA_3 (i := 189) rfl rfl
theorem wcX5_has : Cond.code yX5_has cX5_has 2 (some .boolean) ∈ wA := wA_3 (i := 209) rfl rfl
theorem wcX5_told : Cond.code yX5_told cX5_told 4 (some .int) ∈ wA := wA_3 (i := 134) rfl rfl
theorem wcX5_tell : Cond.code yX5_tell cX5_tell 5 none ∈ wA := wA_3 (i := 97) rfl rfl
theorem wcX5_addThing : Cond.code yX5_addThing cX5_addThing 4 none ∈ wA := wA_3 (i := 93) rfl rfl
theorem wcX5_addCells : Cond.code yX5_addCells cX5_addCells 5 none ∈ wA := wA_3 (i := 120) rfl rfl
theorem wcX5_addVoice : Cond.code yX5_addVoice cX5_addVoice 3 none ∈ wA := wA_3 (i := 130) rfl rfl
theorem wcX5_hasPlaceAt : Cond.code yX5_hasPlaceAt cX5_hasPlaceAt 3 (some .boolean) ∈ wA := wA_3 (i := 156) rfl rfl
theorem wcX5_isDead : Cond.code yX5_isDead cX5_isDead 2 (some .boolean) ∈ wA := wA_4 (i := 46) rfl rfl
theorem wcX5_hasVoice : Cond.code yX5_hasVoice cX5_hasVoice 3 (some .boolean) ∈ wA := wA_4 (i := 58) rfl rfl
theorem wcX5_shareCell : Cond.code yX5_shareCell cX5_shareCell 3 (some .boolean) ∈ wA := wA_4 (i := 80) rfl rfl
theorem wcX5_isInArc : Cond.code yX5_isInArc cX5_isInArc 5 (some .boolean) ∈ wA := wA_4 (i := 54) rfl rfl
theorem wcX5_middleOfArc : Cond.code yX5_middleOfArc cX5_middleOfArc 4 (some .int) ∈ wA := wA_5 (i := 113) rfl rfl
theorem wcX5_needOf : Cond.code yX5_needOf cX5_needOf 4 (some .int) ∈ wA := wA_4 (i := 76) rfl rfl
theorem wcX5_quietFrom : Cond.code yX5_quietFrom cX5_quietFrom 6 (some .int) ∈ wA := wA_4 (i := 84) rfl rfl
theorem wcX5_driftOf : Cond.code yX5_driftOf cX5_driftOf 8 (some .int) ∈ wA := wA_5 (i := 167) rfl rfl
theorem wcX6_init : Cond.code yX6_init cX6_init 3 none ∈ wA := wA_2 (i := 20) rfl rfl
theorem wcX6_findFirst : Cond.code yX6_findFirst cX6_findFirst 3 (some .boolean) ∈ wA := wA_4 (i := 144) rfl rfl
theorem wcX6_countWays : Cond.code yX6_countWays cX6_countWays 3 (some .int) ∈ wA := wA_4 (i := 184) rfl rfl
theorem wcX6_findMost : Cond.code yX6_findMost cX6_findMost 4 (some .int) ∈ wA := wA_4 (i := 196) rfl rfl
theorem wcX6_admit : Cond.code yX6_admit cX6_admit 4 (some .int) ∈ wA := wA_5 (i := 12) rfl rfl
theorem wcX6_admitMoving : Cond.code yX6_admitMoving cX6_admitMoving 4 (some .boolean) ∈ wA := wA_5 (i := 16) rfl rfl
theorem wcX6_begin : Cond.code yX6_begin cX6_begin 4 none ∈ wA := wA_4 (i := 148) rfl rfl
theorem wcX6_want : Cond.code yX6_want cX6_want 2 none ∈ wA := wA_4 (i := 157) rfl rfl
theorem wcX6_isRight : Cond.code yX6_isRight cX6_isRight 1 (some .boolean) ∈ wA := wA_4 (i := 164) rfl rfl
theorem wcX6_putRightly : Cond.code yX6_putRightly cX6_putRightly 5 (some .boolean) ∈ wA := wA_4 (i := 173) rfl rfl
theorem wcX6_placeFrom : Cond.code yX6_placeFrom cX6_placeFrom 5 (some .boolean) ∈ wA := wA_4 (i := 169) rfl rfl
theorem wcX6_waysFrom : Cond.code yX6_waysFrom cX6_waysFrom 6 (some .int) ∈ wA := wA_4 (i := 188) rfl rfl
theorem wcX6_mostFrom : Cond.code yX6_mostFrom cX6_mostFrom 6 none ∈ wA := wA_4 (i := 200) rfl rfl
theorem wcX6_worthFrom : Cond.code yX6_worthFrom cX6_worthFrom 4 (some .int) ∈ wA := wA_4 (i := 204) rfl rfl
theorem wcX6_keepBest : Cond.code yX6_keepBest cX6_keepBest 3 none ∈ wA := wA_4 (i := 209) rfl rfl
theorem wcX7_init : Cond.code yX7_init cX7_init 2 none ∈ wA := wA_2 (i := 113) rfl rfl
theorem wcX7_divide : Cond.code yX7_divide cX7_divide 3 none ∈ wA := wA_5 (i := 130) rfl rfl
theorem wcX7_addLand : Cond.code yX7_addLand cX7_addLand 3 none ∈ wA := wA_5 (i := 141) rfl rfl
theorem wcX7_offer : Cond.code yX7_offer cX7_offer 5 none ∈ wA := wA_5 (i := 145) rfl rfl
theorem wcX7_movesOf : Cond.code yX7_movesOf cX7_movesOf 6 (some .int) ∈ wA := wA_5 (i := 134) rfl rfl
theorem wcX7_pickBest : Cond.code yX7_pickBest cX7_pickBest 3 none ∈ wA := wA_5 (i := 149) rfl rfl
theorem wcX8_init : Cond.code yX8_init cX8_init 3 none ∈ wA := wA_1 (i := 185) rfl rfl
theorem wcX8_clear : Cond.code yX8_clear cX8_clear 2 none ∈ wA := wA_3 (i := 196) rfl rfl
theorem wcX8_copyFrom : Cond.code yX8_copyFrom cX8_copyFrom 2 none ∈ wA := wA_4 (i := 152) rfl rfl
theorem wcX8_isUp : Cond.code yX8_isUp cX8_isUp 2 (some .boolean) ∈ wA := wA_3 (i := 227) rfl rfl
theorem wcX8_isLiving : Cond.code yX8_isLiving cX8_isLiving 2 (some .boolean) ∈ wA := wA_4 (i := 42) rfl rfl
theorem wcX8_howManyUp : Cond.code yX8_howManyUp cX8_howManyUp 3 (some .int) ∈ wA := wA_5 (i := 188) rfl rfl
theorem wcX8_put : Cond.code yX8_put cX8_put 4 none ∈ wA := wA_4 (i := 9) rfl rfl
theorem wcX8_take : Cond.code yX8_take cX8_take 2 none ∈ wA := wA_3 (i := 231) rfl rfl
theorem wcX8_swapDegrees : Cond.code yX8_swapDegrees cX8_swapDegrees 7 none ∈ wA := wA_5 (i := 60) rfl rfl
theorem wcX8_meetAll : Cond.code yX8_meetAll cX8_meetAll 5 none ∈ wA := wA_3 (i := 235) rfl rfl
theorem wcX8_touching : Cond.code yX8_touching cX8_touching 3 (some .boolean) ∈ wA := wA_3 (i := 239) rfl rfl
theorem wcX8_reachOn : Cond.code yX8_reachOn cX8_reachOn 3 (some .int) ∈ wA := wA_4 (i := 30) rfl rfl
theorem wcX8_wrongOf : Cond.code yX8_wrongOf cX8_wrongOf 2 (some .int) ∈ wA := wA_4 (i := 50) rfl rfl
theorem wcX8_firstWrong : Cond.code yX8_firstWrong cX8_firstWrong 2 (some .int) ∈ wA := wA_4 (i := 66) rfl rfl
theorem wcX8_isMetAt : Cond.code yX8_isMetAt cX8_isMetAt 5 (some .boolean) ∈ wA := wA_5 (i := 171) rfl rfl
theorem wcX9_init : Cond.code yX9_init cX9_init 2 none ∈ wA := wA_1 (i := 111) rfl rfl
theorem wcX9_cut : Cond.code yX9_cut cX9_cut 3 none ∈ wA := wA_2 (i := 214) rfl rfl
theorem wcX9_cutOne : Cond.code yX9_cutOne cX9_cutOne 1 none ∈ wA := wA_2 (i := 221) rfl rfl
theorem wcX9_cutRun : Cond.code yX9_cutRun cX9_cutRun 4 none ∈ wA := wA_2 (i := 231) rfl rfl
theorem wcX9_isLetter : Cond.code yX9_isLetter cX9_isLetter 1 (some .boolean) ∈ wA := wA_2 (i := 224) rfl rfl
theorem wcX9_isDigit : Cond.code yX9_isDigit cX9_isDigit 1 (some .boolean) ∈ wA := wA_2 (i := 227) rfl rfl
theorem wcX10_lyingAt : Cond.code yX10_lyingAt cX10_lyingAt 4 (some (.object "RingPlaces$Word")) ∈ wA := wA_2 (i := 234) rfl rfl
theorem wcX10_lies : Cond.code yX10_lies cX10_lies 5 (some .boolean) ∈ wA := wA_3 (i := 1) rfl rfl
theorem wcX11_init : Cond.code yX11_init cX11_init 2 none ∈ wA := wA_1 (i := 30) rfl rfl
theorem wcX11_feed : Cond.code yX11_feed cX11_feed 6 (some .int) ∈ wA := wA_2 (i := 194) rfl rfl
theorem wcX11_end : Cond.code yX11_end cX11_end 2 (some .boolean) ∈ wA := wA_2 (i := 202) rfl rfl
theorem wcX11_ring : Cond.code yX11_ring cX11_ring 2 (some .int) ∈ wA := wA_2 (i := 206) rfl rfl
theorem wcX11_fault : Cond.code yX11_fault cX11_fault 1 (some .int) ∈ wA := wA_3 (i := 201) rfl rfl
theorem wcX11_thing : Cond.code yX11_thing cX11_thing 3 (some .int) ∈ wA := wA_5 (i := 197) rfl rfl
theorem wcX11_ground : Cond.code yX11_ground cX11_ground 2 (some .long) ∈ wA := wA_3 (i := 205) rfl rfl
theorem wcX11_place : Cond.code yX11_place cX11_place 2 (some .int) ∈ wA := wA_3 (i := 213) rfl rfl
theorem wcX11_stand : Cond.code yX11_stand cX11_stand 4 (some .boolean) ∈ wA := wA_3 (i := 217) rfl rfl
theorem wcX11_lift : Cond.code yX11_lift cX11_lift 2 (some .boolean) ∈ wA := wA_4 (i := 13) rfl rfl
theorem wcX11_stands : Cond.code yX11_stands cX11_stands 3 (some .int) ∈ wA := wA_4 (i := 21) rfl rfl
theorem wcX11_reach : Cond.code yX11_reach cX11_reach 3 (some .int) ∈ wA := wA_4 (i := 25) rfl rfl
theorem wcX11_heard : Cond.code yX11_heard cX11_heard 2 (some .int) ∈ wA := wA_4 (i := 34) rfl rfl
theorem wcX11_wrong : Cond.code yX11_wrong cX11_wrong 2 (some .int) ∈ wA := wA_4 (i := 38) rfl rfl
theorem wcX11_judge : Cond.code yX11_judge cX11_judge 1 (some .int) ∈ wA := wA_4 (i := 62) rfl rfl
theorem wcX11_need : Cond.code yX11_need cX11_need 3 (some .int) ∈ wA := wA_4 (i := 72) rfl rfl
theorem wcX11_arc : Cond.code yX11_arc cX11_arc 1 (some .int) ∈ wA := wA_4 (i := 91) rfl rfl
theorem wcX11_shortest : Cond.code yX11_shortest cX11_shortest 1 (some .int) ∈ wA := wA_4 (i := 113) rfl rfl
theorem wcX11_orderAt : Cond.code yX11_orderAt cX11_orderAt 2 (some .int) ∈ wA := wA_4 (i := 131) rfl rfl
theorem wcX11_find : Cond.code yX11_find cX11_find 1 (some .int) ∈ wA := wA_4 (i := 135) rfl rfl
theorem wcX11_ways : Cond.code yX11_ways cX11_ways 1 (some .int) ∈ wA := wA_4 (i := 180) rfl rfl
theorem wcX11_most : Cond.code yX11_most cX11_most 1 (some .int) ∈ wA := wA_4 (i := 192) rfl rfl
theorem wcX11_fit : Cond.code yX11_fit cX11_fit 1 (some .int) ∈ wA := wA_4 (i := 213) rfl rfl
theorem wcX11_fitOf : Cond.code yX11_fitOf cX11_fitOf 2 (some .int) ∈ wA := wA_5 (i := 4) rfl rfl
theorem wcX11_letIn : Cond.code yX11_letIn cX11_letIn 2 (some .int) ∈ wA := wA_5 (i := 8) rfl rfl
theorem wcX11_narrow : Cond.code yX11_narrow cX11_narrow 1 (some .int) ∈ wA := wA_5 (i := 21) rfl rfl
theorem wcX11_narrowCost : Cond.code yX11_narrowCost cX11_narrowCost 1 (some .int) ∈ wA := wA_5 (i := 51) rfl rfl
theorem wcX11_sell : Cond.code yX11_sell cX11_sell 3 (some .int) ∈ wA := wA_5 (i := 55) rfl rfl
theorem wcX11_good : Cond.code yX11_good cX11_good 3 (some .int) ∈ wA := wA_5 (i := 70) rfl rfl
theorem wcX11_right : Cond.code yX11_right cX11_right 4 (some .int) ∈ wA := wA_5 (i := 86) rfl rfl
theorem wcX11_barred : Cond.code yX11_barred cX11_barred 4 (some .int) ∈ wA := wA_5 (i := 100) rfl rfl
theorem wcX11_shares : Cond.code yX11_shares cX11_shares 2 (some .int) ∈ wA := wA_5 (i := 126) rfl rfl
theorem wcX11_drift : Cond.code yX11_drift cX11_drift 4 (some .int) ∈ wA := wA_6 (i := 26) rfl rfl
theorem wcX11_meets : Cond.code yX11_meets cX11_meets 6 (some .int) ∈ wA := wA_5 (i := 159) rfl rfl
theorem wcX11_image : Cond.code yX11_image cX11_image 2 (some .boolean) ∈ wA := wA_5 (i := 176) rfl rfl
theorem wcX11_restore : Cond.code yX11_restore cX11_restore 2 (some .boolean) ∈ wA := wA_5 (i := 180) rfl rfl
theorem wcX11_count : Cond.code yX11_count cX11_count 2 (some .int) ∈ wA := wA_5 (i := 184) rfl rfl
theorem wcX11_append : Cond.code yX11_append cX11_append 3 none ∈ wA := wA_2 (i := 198) rfl rfl
theorem wcX11_isDegree : Cond.code yX11_isDegree cX11_isDegree 1 (some .boolean) ∈ wA := wA_3 (i := 220) rfl rfl
theorem wcX11_isVoice : Cond.code yX11_isVoice cX11_isVoice 1 (some .boolean) ∈ wA := wA_3 (i := 223) rfl rfl
theorem wcX11_isDay : Cond.code yX11_isDay cX11_isDay 1 (some .boolean) ∈ wA := wA_5 (i := 73) rfl rfl
theorem wcX11_hasUp : Cond.code yX11_hasUp cX11_hasUp 2 (some .boolean) ∈ wA := wA_4 (i := 17) rfl rfl
theorem wcX11_hasDead : Cond.code yX11_hasDead cX11_hasDead 2 (some .boolean) ∈ wA := wA_5 (i := 163) rfl rfl
theorem wcX11_takeRow : Cond.code yX11_takeRow cX11_takeRow 6 (some .boolean) ∈ wA := wA_4 (i := 95) rfl rfl
theorem wcX11_isInRow : Cond.code yX11_isInRow cX11_isInRow 3 (some .boolean) ∈ wA := wA_4 (i := 99) rfl rfl
theorem wcX11_takeLiving : Cond.code yX11_takeLiving cX11_takeLiving 2 (some .boolean) ∈ wA := wA_4 (i := 139) rfl rfl
theorem wcX11_isSaleLet : Cond.code yX11_isSaleLet cX11_isSaleLet 4 (some .boolean) ∈ wA := wA_5 (i := 66) rfl rfl
theorem wcX11_gapBetween : Cond.code yX11_gapBetween cX11_gapBetween 3 (some .int) ∈ wA := wA_4 (i := 2) rfl rfl
theorem wcX11_reachAt : Cond.code yX11_reachAt cX11_reachAt 4 (some .int) ∈ wA := wA_4 (i := 5) rfl rfl
theorem wcX12_init : Cond.code yX12_init cX12_init 1 none ∈ wA := wA_6 (i := 31) rfl rfl
theorem wcX12_thrown : Cond.code yX12_thrown cX12_thrown 1 (some .int) ∈ wA := wA_6 (i := 175) rfl rfl
theorem wcX12_refuse : Cond.code yX12_refuse cX12_refuse 1 (some .int) ∈ wA := wA_7 (i := 74) rfl rfl
theorem wcX12_come : Cond.code yX12_come cX12_come 3 none ∈ wA := wA_6 (i := 183) rfl rfl
theorem wcX12_feed : Cond.code yX12_feed cX12_feed 6 (some .int) ∈ wA := wA_6 (i := 179) rfl rfl
theorem wcX12_end : Cond.code yX12_end cX12_end 2 (some .boolean) ∈ wA := wA_6 (i := 187) rfl rfl
theorem wcX12_take : Cond.code yX12_take cX12_take 2 (some .int) ∈ wA := wA_6 (i := 199) rfl rfl
theorem wcX12_isIn : Cond.code yX12_isIn cX12_isIn 3 (some .boolean) ∈ wA := wA_7 (i := 23) rfl rfl
theorem wcX12_has : Cond.code yX12_has cX12_has 2 (some .boolean) ∈ wA := wA_7 (i := 26) rfl rfl
theorem wcX12_bits : Cond.code yX12_bits cX12_bits 3 (some .int) ∈ wA := wA_8 (i := 24) rfl rfl
theorem wcX12_byteAt : Cond.code yX12_byteAt cX12_byteAt 2 (some .int) ∈ wA := wA_6 (i := 213) rfl rfl
theorem wcX12_isDigit : Cond.code yX12_isDigit cX12_isDigit 1 (some .boolean) ∈ wA := wA_6 (i := 209) rfl rfl
theorem wcX12_isLetter : Cond.code yX12_isLetter cX12_isLetter 1 (some .boolean) ∈ wA := wA_6 (i := 206) rfl rfl
theorem wcX12_go : Cond.code yX12_go cX12_go 5 none ∈ wA := wA_6 (i := 203) rfl rfl
theorem wcX12_spelt : Cond.code yX12_spelt cX12_spelt 4 (some .long) ∈ wA := wA_6 (i := 229) rfl rfl
theorem wcX12_on : Cond.code yX12_on cX12_on 6 (some .long) ∈ wA := wA_6 (i := 232) rfl rfl
theorem wcX12_wordOf : Cond.code yX12_wordOf cX12_wordOf 1 (some .long) ∈ wA := wA_6 (i := 226) rfl rfl
theorem wcX12_isWord : Cond.code yX12_isWord cX12_isWord 2 (some .boolean) ∈ wA := wA_6 (i := 223) rfl rfl
theorem wcX12_isName : Cond.code yX12_isName cX12_isName 2 (some .boolean) ∈ wA := wA_7 (i := 8) rfl rfl
theorem wcX12_bad : Cond.code yX12_bad cX12_bad 2 (some .boolean) ∈ wA := wA_6 (i := 236) rfl rfl
theorem wcX12_readNumber : Cond.code yX12_readNumber cX12_readNumber 3 (some .boolean) ∈ wA := wA_7 (i := 20) rfl rfl
theorem wcX12_lay : Cond.code yX12_lay cX12_lay 2 none ∈ wA := wA_6 (i := 195) rfl rfl
theorem wcX12_things : Cond.code yX12_things cX12_things 1 (some .int) ∈ wA := wA_7 (i := 70) rfl rfl
theorem wcX12_isThing : Cond.code yX12_isThing cX12_isThing 2 (some .boolean) ∈ wA := wA_7 (i := 66) rfl rfl
theorem wcX12_of : Cond.code yX12_of cX12_of 3 (some .int) ∈ wA := wA_7 (i := 78) rfl rfl
theorem wcX12_isDead : Cond.code yX12_isDead cX12_isDead 2 (some .boolean) ∈ wA := wA_7 (i := 148) rfl rfl
theorem wcX12_at : Cond.code yX12_at cX12_at 2 (some .int) ∈ wA := wA_7 (i := 102) rfl rfl
theorem wcX12_voice : Cond.code yX12_voice cX12_voice 2 (some .int) ∈ wA := wA_7 (i := 110) rfl rfl
theorem wcX12_isUp : Cond.code yX12_isUp cX12_isUp 2 (some .boolean) ∈ wA := wA_7 (i := 98) rfl rfl
theorem wcX12_put : Cond.code yX12_put cX12_put 4 none ∈ wA := wA_7 (i := 54) rfl rfl
theorem wcX12_findRead : Cond.code yX12_findRead cX12_findRead 2 (some .int) ∈ wA := wA_7 (i := 12) rfl rfl
theorem wcX12_readNew : Cond.code yX12_readNew cX12_readNew 2 (some .boolean) ∈ wA := wA_7 (i := 4) rfl rfl
theorem wcX12_readThing : Cond.code yX12_readThing cX12_readThing 6 (some .boolean) ∈ wA := wA_7 (i := 16) rfl rfl
theorem wcX12_readPart : Cond.code yX12_readPart cX12_readPart 6 (some .boolean) ∈ wA := wA_7 (i := 30) rfl rfl
theorem wcX12_readPlace : Cond.code yX12_readPlace cX12_readPlace 3 (some .boolean) ∈ wA := wA_7 (i := 34) rfl rfl
theorem wcX12_readOnce : Cond.code yX12_readOnce cX12_readOnce 3 (some .boolean) ∈ wA := wA_7 (i := 42) rfl rfl
theorem wcX12_readPaper : Cond.code yX12_readPaper cX12_readPaper 5 (some .boolean) ∈ wA := wA_7 (i := 38) rfl rfl
theorem wcX12_readNarrow : Cond.code yX12_readNarrow cX12_readNarrow 2 (some .boolean) ∈ wA := wA_7 (i := 46) rfl rfl
theorem wcX12_readSingle : Cond.code yX12_readSingle cX12_readSingle 3 (some .boolean) ∈ wA := wA_7 (i := 50) rfl rfl
theorem wcX12_readLand : Cond.code yX12_readLand cX12_readLand 1 (some .boolean) ∈ wA := wA_7 (i := 0) rfl rfl
theorem wcX12_readLine : Cond.code yX12_readLine cX12_readLine 3 (some .boolean) ∈ wA := wA_6 (i := 219) rfl rfl
theorem wcX12_ring : Cond.code yX12_ring cX12_ring 3 (some .int) ∈ wA := wA_6 (i := 191) rfl rfl
theorem wcX12_fault : Cond.code yX12_fault cX12_fault 1 (some .int) ∈ wA := wA_7 (i := 58) rfl rfl
theorem wcX12_thing : Cond.code yX12_thing cX12_thing 3 (some .int) ∈ wA := wA_7 (i := 62) rfl rfl
theorem wcX12_ground : Cond.code yX12_ground cX12_ground 2 (some .long) ∈ wA := wA_7 (i := 82) rfl rfl
theorem wcX12_place : Cond.code yX12_place cX12_place 2 (some .int) ∈ wA := wA_7 (i := 86) rfl rfl
theorem wcX12_stand : Cond.code yX12_stand cX12_stand 4 (some .boolean) ∈ wA := wA_7 (i := 90) rfl rfl
theorem wcX12_lift : Cond.code yX12_lift cX12_lift 2 (some .boolean) ∈ wA := wA_7 (i := 94) rfl rfl
theorem wcX12_stands : Cond.code yX12_stands cX12_stands 3 (some .int) ∈ wA := wA_7 (i := 106) rfl rfl
theorem wcX12_apart : Cond.code yX12_apart cX12_apart 3 (some .int) ∈ wA := wA_7 (i := 129) rfl rfl
theorem wcX12_touches : Cond.code yX12_touches cX12_touches 3 (some .boolean) ∈ wA := wA_7 (i := 126) rfl rfl
theorem wcX12_layBeams : Cond.code yX12_layBeams cX12_layBeams 2 none ∈ wA := wA_7 (i := 118) rfl rfl
theorem wcX12_reachBy : Cond.code yX12_reachBy cX12_reachBy 3 (some .int) ∈ wA := wA_7 (i := 132) rfl rfl
theorem wcX12_reachOf : Cond.code yX12_reachOf cX12_reachOf 3 (some .int) ∈ wA := wA_7 (i := 122) rfl rfl
theorem wcX12_heardBy : Cond.code yX12_heardBy cX12_heardBy 4 (some .int) ∈ wA := wA_7 (i := 140) rfl rfl
theorem wcX12_isInArc : Cond.code yX12_isInArc cX12_isInArc 5 (some .boolean) ∈ wA := wA_7 (i := 156) rfl rfl
theorem wcX12_wrongOf : Cond.code yX12_wrongOf cX12_wrongOf 3 (some .int) ∈ wA := wA_7 (i := 152) rfl rfl
theorem wcX12_firstWrong : Cond.code yX12_firstWrong cX12_firstWrong 2 (some .int) ∈ wA := wA_7 (i := 164) rfl rfl
theorem wcX12_reach : Cond.code yX12_reach cX12_reach 3 (some .int) ∈ wA := wA_7 (i := 114) rfl rfl
theorem wcX12_heard : Cond.code yX12_heard cX12_heard 2 (some .int) ∈ wA := wA_7 (i := 136) rfl rfl
theorem wcX12_wrong : Cond.code yX12_wrong cX12_wrong 2 (some .int) ∈ wA := wA_7 (i := 144) rfl rfl
theorem wcX12_judge : Cond.code yX12_judge cX12_judge 1 (some .int) ∈ wA := wA_7 (i := 160) rfl rfl
theorem wcX12_bears : Cond.code yX12_bears cX12_bears 4 (some .boolean) ∈ wA := wA_7 (i := 176) rfl rfl
theorem wcX12_needOf : Cond.code yX12_needOf cX12_needOf 4 (some .int) ∈ wA := wA_7 (i := 172) rfl rfl
theorem wcX12_need : Cond.code yX12_need cX12_need 3 (some .int) ∈ wA := wA_7 (i := 168) rfl rfl
theorem wcX12_takeRow : Cond.code yX12_takeRow cX12_takeRow 5 (some .boolean) ∈ wA := wA_7 (i := 184) rfl rfl
theorem wcX12_layNeeds : Cond.code yX12_layNeeds cX12_layNeeds 3 (some .boolean) ∈ wA := wA_7 (i := 188) rfl rfl
theorem wcX12_spanOf : Cond.code yX12_spanOf cX12_spanOf 5 (some .int) ∈ wA := wA_7 (i := 192) rfl rfl
theorem wcX12_arc : Cond.code yX12_arc cX12_arc 2 (some .int) ∈ wA := wA_7 (i := 180) rfl rfl
theorem wcX12_tryOrder : Cond.code yX12_tryOrder cX12_tryOrder 4 none ∈ wA := wA_7 (i := 200) rfl rfl
theorem wcX12_shortest : Cond.code yX12_shortest cX12_shortest 4 (some .int) ∈ wA := wA_7 (i := 196) rfl rfl
theorem wcX12_orderAt : Cond.code yX12_orderAt cX12_orderAt 2 (some .int) ∈ wA := wA_7 (i := 204) rfl rfl
theorem wcX12_save : Cond.code yX12_save cX12_save 3 none ∈ wA := wA_7 (i := 216) rfl rfl
theorem wcX12_bring : Cond.code yX12_bring cX12_bring 3 none ∈ wA := wA_7 (i := 228) rfl rfl
theorem wcX12_takeFree : Cond.code yX12_takeFree cX12_takeFree 3 (some .boolean) ∈ wA := wA_7 (i := 212) rfl rfl
theorem wcX12_finds : Cond.code yX12_finds cX12_finds 6 (some .boolean) ∈ wA := wA_7 (i := 224) rfl rfl
theorem wcX12_liftRow : Cond.code yX12_liftRow cX12_liftRow 2 none ∈ wA := wA_7 (i := 220) rfl rfl
theorem wcX12_find : Cond.code yX12_find cX12_find 1 (some .int) ∈ wA := wA_7 (i := 208) rfl rfl
theorem wcX12_waysFrom : Cond.code yX12_waysFrom cX12_waysFrom 6 (some .int) ∈ wA := wA_7 (i := 236) rfl rfl
theorem wcX12_ways : Cond.code yX12_ways cX12_ways 2 (some .int) ∈ wA := wA_7 (i := 232) rfl rfl
theorem wcX12_tryWorth : Cond.code yX12_tryWorth cX12_tryWorth 6 none ∈ wA := wA_8 (i := 4) rfl rfl
theorem wcX12_most : Cond.code yX12_most cX12_most 1 (some .int) ∈ wA := wA_8 (i := 0) rfl rfl
theorem wcX12_louder : Cond.code yX12_louder cX12_louder 4 (some .int) ∈ wA := wA_8 (i := 12) rfl rfl
theorem wcX12_fit : Cond.code yX12_fit cX12_fit 4 (some .int) ∈ wA := wA_8 (i := 8) rfl rfl
theorem wcX12_fitOf : Cond.code yX12_fitOf cX12_fitOf 2 (some .int) ∈ wA := wA_8 (i := 17) rfl rfl
theorem wcX12_isMovable : Cond.code yX12_isMovable cX12_isMovable 3 (some .boolean) ∈ wA := wA_8 (i := 28) rfl rfl
theorem wcX12_letIn : Cond.code yX12_letIn cX12_letIn 5 (some .int) ∈ wA := wA_8 (i := 21) rfl rfl
theorem wcX12_narrow : Cond.code yX12_narrow cX12_narrow 9 (some .int) ∈ wA := wA_8 (i := 32) rfl rfl
theorem wcX12_narrowCost : Cond.code yX12_narrowCost cX12_narrowCost 1 (some .int) ∈ wA := wA_8 (i := 36) rfl rfl
theorem wcX12_isLet : Cond.code yX12_isLet cX12_isLet 4 (some .boolean) ∈ wA := wA_8 (i := 44) rfl rfl
theorem wcX12_sell : Cond.code yX12_sell cX12_sell 4 (some .int) ∈ wA := wA_8 (i := 40) rfl rfl
theorem wcX12_isDay : Cond.code yX12_isDay cX12_isDay 1 (some .boolean) ∈ wA := wA_8 (i := 51) rfl rfl
theorem wcX12_isGood : Cond.code yX12_isGood cX12_isGood 3 (some .boolean) ∈ wA := wA_8 (i := 55) rfl rfl
theorem wcX12_good : Cond.code yX12_good cX12_good 3 (some .int) ∈ wA := wA_8 (i := 48) rfl rfl
theorem wcX12_rankOf : Cond.code yX12_rankOf cX12_rankOf 3 (some .int) ∈ wA := wA_8 (i := 67) rfl rfl
theorem wcX12_rightOf : Cond.code yX12_rightOf cX12_rightOf 6 (some .int) ∈ wA := wA_8 (i := 63) rfl rfl
theorem wcX12_right : Cond.code yX12_right cX12_right 4 (some .int) ∈ wA := wA_8 (i := 59) rfl rfl
theorem wcX12_middleOf : Cond.code yX12_middleOf cX12_middleOf 2 (some .int) ∈ wA := wA_8 (i := 75) rfl rfl
theorem wcX12_barred : Cond.code yX12_barred cX12_barred 9 (some .int) ∈ wA := wA_8 (i := 71) rfl rfl
theorem wcX12_better : Cond.code yX12_better cX12_better 4 none ∈ wA := wA_8 (i := 87) rfl rfl
theorem wcX12_shareLand : Cond.code yX12_shareLand cX12_shareLand 5 none ∈ wA := wA_8 (i := 83) rfl rfl
theorem wcX12_shares : Cond.code yX12_shares cX12_shares 4 (some .int) ∈ wA := wA_8 (i := 79) rfl rfl
theorem wcX12_driftOf : Cond.code yX12_driftOf cX12_driftOf 7 (some .int) ∈ wA := wA_8 (i := 95) rfl rfl
theorem wcX12_drift : Cond.code yX12_drift cX12_drift 4 (some .int) ∈ wA := wA_8 (i := 91) rfl rfl
theorem wcX12_meets : Cond.code yX12_meets cX12_meets 8 (some .int) ∈ wA := wA_8 (i := 99) rfl rfl
theorem wcX12_image : Cond.code yX12_image cX12_image 3 (some .boolean) ∈ wA := wA_8 (i := 103) rfl rfl
theorem wcX12_restore : Cond.code yX12_restore cX12_restore 3 (some .boolean) ∈ wA := wA_8 (i := 107) rfl rfl
theorem wcX12_count : Cond.code yX12_count cX12_count 4 (some .int) ∈ wA := wA_8 (i := 111) rfl rfl
theorem wcJ6_bitCount_0f7a4 : Cond.code yJ6_bitCount_0f7a4 cJ6_bitCount_0f7a4 1 (some .int) ∈ wA := wA_5 (i := 152) rfl rfl
theorem wcJ9_floorMod_7cf53 : Cond.code yJ9_floorMod_7cf53 cJ9_floorMod_7cf53 3 (some .int) ∈ wA := wA_5 (i := 116) rfl rfl
theorem wcJ9_max_7cf53 : Cond.code yJ9_max_7cf53 cJ9_max_7cf53 2 (some .int) ∈ wA := wA_4 (i := 87) rfl rfl
theorem wcJ9_min_7cf53 : Cond.code yJ9_min_7cf53 cJ9_min_7cf53 2 (some .int) ∈ wA := wA_2 (i := 217) rfl rfl
theorem wcJ0_length_8abf5 : Cond.code yJ0_length_8abf5 cJ0_length_8abf5 1 (some .int) ∈ wA := wA_3 (i := 5) rfl rfl
theorem wcJ0_charAt_5068e : Cond.code yJ0_charAt_5068e cJ0_charAt_5068e 2 (some .char) ∈ wA := wA_3 (i := 15) rfl rfl
theorem wcJ0_coder_7d493 : Cond.code yJ0_coder_7d493 cJ0_coder_7d493 1 (some .byte) ∈ wA := wA_3 (i := 9) rfl rfl
theorem wcJ0_isLatin1_aae02 : Cond.code yJ0_isLatin1_aae02 cJ0_isLatin1_aae02 1 (some .boolean) ∈ wA := wA_3 (i := 19) rfl rfl
theorem wcJ0_checkIndex_df160 : Cond.code yJ0_checkIndex_df160 cJ0_checkIndex_df160 2 none ∈ wA := wA_3 (i := 25) rfl rfl
theorem wcJ1_charAt_3b067 : Cond.code yJ1_charAt_3b067 cJ1_charAt_3b067 2 (some .char) ∈ wA := wA_3 (i := 22) rfl rfl
theorem wcJ2_getChar_3b067 : Cond.code yJ2_getChar_3b067 cJ2_getChar_3b067 2 (some .char) ∈ wA := wA_3 (i := 43) rfl rfl
theorem wcJ2_length_9d52b : Cond.code yJ2_length_9d52b cJ2_length_9d52b 1 (some .int) ∈ wA := wA_3 (i := 39) rfl rfl
theorem wcJ2_charAt_3b067 : Cond.code yJ2_charAt_3b067 cJ2_charAt_3b067 2 (some .char) ∈ wA := wA_3 (i := 33) rfl rfl
theorem wcJ2_checkIndex_2214a : Cond.code yJ2_checkIndex_2214a cJ2_checkIndex_2214a 2 none ∈ wA := wA_3 (i := 36) rfl rfl
theorem wcJ3_checkIndex_8e157 : Cond.code yJ3_checkIndex_8e157 cJ3_checkIndex_8e157 3 (some .int) ∈ wA := wA_3 (i := 30) rfl rfl
theorem wmX0_init : Cond.instanceMethod yX0_init ∈ wA := wA_2 (i := 53) rfl rfl
theorem wmX0_settle : Cond.instanceMethod yX0_settle ∈ wA := wA_4 (i := 215) rfl rfl
theorem wvX0_settle : Cond.selects RX0 yX0_settle yX0_settle ∈ wA := wA_4 (i := 216) rfl rfl
theorem wmX0_hearAnew : Cond.instanceMethod yX0_hearAnew ∈ wA := wA_4 (i := 222) rfl rfl
theorem wvX0_hearAnew : Cond.selects RX0 yX0_hearAnew yX0_hearAnew ∈ wA := wA_S (i := 43) rfl rfl
theorem wmX0_neededBy : Cond.instanceMethod yX0_neededBy ∈ wA := wA_4 (i := 227) rfl rfl
theorem wvX0_neededBy : Cond.selects RX0 yX0_neededBy yX0_neededBy ∈ wA := wA_S (i := 44) rfl rfl
theorem wmX0_takeNext : Cond.instanceMethod yX0_takeNext ∈ wA := wA_4 (i := 235) rfl rfl
theorem wvX0_takeNext : Cond.selects RX0 yX0_takeNext yX0_takeNext ∈ wA := wA_S (i := 45) rfl rfl
theorem wmX0_keepAnswer : Cond.instanceMethod yX0_keepAnswer ∈ wA := wA_4 (i := 239) rfl rfl
theorem wvX0_keepAnswer : Cond.selects RX0 yX0_keepAnswer yX0_keepAnswer ∈ wA := wA_S (i := 46) rfl rfl
theorem wmX1_init : Cond.instanceMethod yX1_init ∈ wA := wA_2 (i := 76) rfl rfl
theorem wmX1_cheapestSet : Cond.instanceMethod yX1_cheapestSet ∈ wA := wA_5 (i := 23) rfl rfl
theorem wvX1_cheapestSet : Cond.selects RX1 yX1_cheapestSet yX1_cheapestSet ∈ wA := wA_5 (i := 24) rfl rfl
theorem wmX1_gatherAble : Cond.instanceMethod yX1_gatherAble ∈ wA := wA_5 (i := 28) rfl rfl
theorem wvX1_gatherAble : Cond.selects RX1 yX1_gatherAble yX1_gatherAble ∈ wA := wA_S (i := 48) rfl rfl
theorem wmX1_costOf : Cond.instanceMethod yX1_costOf ∈ wA := wA_5 (i := 34) rfl rfl
theorem wvX1_costOf : Cond.selects RX1 yX1_costOf yX1_costOf ∈ wA := wA_S (i := 49) rfl rfl
theorem wmX1_thingsOf : Cond.instanceMethod yX1_thingsOf ∈ wA := wA_5 (i := 46) rfl rfl
theorem wvX1_thingsOf : Cond.selects RX1 yX1_thingsOf yX1_thingsOf ∈ wA := wA_S (i := 51) rfl rfl
theorem wmX1_isRightWith : Cond.instanceMethod yX1_isRightWith ∈ wA := wA_5 (i := 38) rfl rfl
theorem wvX1_isRightWith : Cond.selects RX1 yX1_isRightWith yX1_isRightWith ∈ wA := wA_S (i := 50) rfl rfl
theorem wmX2_init : Cond.instanceMethod yX2_init ∈ wA := wA_1 (i := 226) rfl rfl
theorem wmX2_arcOf : Cond.instanceMethod yX2_arcOf ∈ wA := wA_4 (i := 101) rfl rfl
theorem wvX2_arcOf : Cond.selects RX2 yX2_arcOf yX2_arcOf ∈ wA := wA_4 (i := 102) rfl rfl
theorem wmX2_spotBehind : Cond.instanceMethod yX2_spotBehind ∈ wA := wA_4 (i := 106) rfl rfl
theorem wvX2_spotBehind : Cond.selects RX2 yX2_spotBehind yX2_spotBehind ∈ wA := wA_S (i := 30) rfl rfl
theorem wmX2_shortestOf : Cond.instanceMethod yX2_shortestOf ∈ wA := wA_4 (i := 115) rfl rfl
theorem wvX2_shortestOf : Cond.selects RX2 yX2_shortestOf yX2_shortestOf ∈ wA := wA_4 (i := 116) rfl rfl
theorem wmX2_sortRow : Cond.instanceMethod yX2_sortRow ∈ wA := wA_4 (i := 121) rfl rfl
theorem wvX2_sortRow : Cond.selects RX2 yX2_sortRow yX2_sortRow ∈ wA := wA_S (i := 31) rfl rfl
theorem wmX2_tryOrders : Cond.instanceMethod yX2_tryOrders ∈ wA := wA_4 (i := 125) rfl rfl
theorem wvX2_tryOrders : Cond.selects RX2 yX2_tryOrders yX2_tryOrders ∈ wA := wA_S (i := 32) rfl rfl
theorem wmX3_init : Cond.instanceMethod yX3_init ∈ wA := wA_2 (i := 102) rfl rfl
theorem wmX3_isGood : Cond.instanceMethod yX3_isGood ∈ wA := wA_5 (i := 75) rfl rfl
theorem wvX3_isGood : Cond.selects RX3 yX3_isGood yX3_isGood ∈ wA := wA_5 (i := 76) rfl rfl
theorem wmX3_wasThereBy : Cond.instanceMethod yX3_wasThereBy ∈ wA := wA_5 (i := 81) rfl rfl
theorem wvX3_wasThereBy : Cond.selects RX3 yX3_wasThereBy yX3_wasThereBy ∈ wA := wA_S (i := 53) rfl rfl
theorem wmX3_rankOf : Cond.instanceMethod yX3_rankOf ∈ wA := wA_5 (i := 94) rfl rfl
theorem wvX3_rankOf : Cond.selects RX3 yX3_rankOf yX3_rankOf ∈ wA := wA_S (i := 54) rfl rfl
theorem wmX3_rightOf : Cond.instanceMethod yX3_rightOf ∈ wA := wA_5 (i := 88) rfl rfl
theorem wvX3_rightOf : Cond.selects RX3 yX3_rightOf yX3_rightOf ∈ wA := wA_5 (i := 89) rfl rfl
theorem wmX3_barredFor : Cond.instanceMethod yX3_barredFor ∈ wA := wA_5 (i := 102) rfl rfl
theorem wvX3_barredFor : Cond.selects RX3 yX3_barredFor yX3_barredFor ∈ wA := wA_5 (i := 103) rfl rfl
theorem wmX3_clearedFor : Cond.instanceMethod yX3_clearedFor ∈ wA := wA_5 (i := 120) rfl rfl
theorem wvX3_clearedFor : Cond.selects RX3 yX3_clearedFor yX3_clearedFor ∈ wA := wA_5 (i := 121) rfl rfl
theorem wmX3_barredBy : Cond.instanceMethod yX3_barredBy ∈ wA := wA_5 (i := 107) rfl rfl
theorem wvX3_barredBy : Cond.selects RX3 yX3_barredBy yX3_barredBy ∈ wA := wA_S (i := 55) rfl rfl
theorem wmX4_init : Cond.instanceMethod yX4_init ∈ wA := wA_1 (i := 41) rfl rfl
theorem wmX4_readText : Cond.instanceMethod yX4_readText ∈ wA := wA_2 (i := 208) rfl rfl
theorem wvX4_readText : Cond.selects RX4 yX4_readText yX4_readText ∈ wA := wA_2 (i := 209) rfl rfl
theorem wmX4_refuse : Cond.instanceMethod yX4_refuse ∈ wA := wA_3 (i := 66) rfl rfl
theorem wvX4_refuse : Cond.selects RX4 yX4_refuse yX4_refuse ∈ wA := wA_S (i := 6) rfl rfl
theorem wmX4_pass : Cond.instanceMethod yX4_pass ∈ wA := wA_3 (i := 70) rfl rfl
theorem wvX4_pass : Cond.selects RX4 yX4_pass yX4_pass ∈ wA := wA_S (i := 7) rfl rfl
theorem wmX4_passSemicolon : Cond.instanceMethod yX4_passSemicolon ∈ wA := wA_3 (i := 184) rfl rfl
theorem wvX4_passSemicolon : Cond.selects RX4 yX4_passSemicolon yX4_passSemicolon ∈ wA := wA_S (i := 24) rfl rfl
theorem wmX4_readLine : Cond.instanceMethod yX4_readLine ∈ wA := wA_3 (i := 56) rfl rfl
theorem wvX4_readLine : Cond.selects RX4 yX4_readLine yX4_readLine ∈ wA := wA_S (i := 4) rfl rfl
theorem wmX4_readLand : Cond.instanceMethod yX4_readLand ∈ wA := wA_3 (i := 62) rfl rfl
theorem wvX4_readLand : Cond.selects RX4 yX4_readLand yX4_readLand ∈ wA := wA_S (i := 5) rfl rfl
theorem wmX4_readThing : Cond.instanceMethod yX4_readThing ∈ wA := wA_3 (i := 84) rfl rfl
theorem wvX4_readThing : Cond.selects RX4 yX4_readThing yX4_readThing ∈ wA := wA_S (i := 10) rfl rfl
theorem wmX4_readPart : Cond.instanceMethod yX4_readPart ∈ wA := wA_3 (i := 109) rfl rfl
theorem wvX4_readPart : Cond.selects RX4 yX4_readPart yX4_readPart ∈ wA := wA_S (i := 14) rfl rfl
theorem wmX4_readGround : Cond.instanceMethod yX4_readGround ∈ wA := wA_3 (i := 115) rfl rfl
theorem wvX4_readGround : Cond.selects RX4 yX4_readGround yX4_readGround ∈ wA := wA_S (i := 15) rfl rfl
theorem wmX4_readVoice : Cond.instanceMethod yX4_readVoice ∈ wA := wA_3 (i := 125) rfl rfl
theorem wvX4_readVoice : Cond.selects RX4 yX4_readVoice yX4_readVoice ∈ wA := wA_S (i := 16) rfl rfl
theorem wmX4_readApart : Cond.instanceMethod yX4_readApart ∈ wA := wA_3 (i := 145) rfl rfl
theorem wvX4_readApart : Cond.selects RX4 yX4_readApart yX4_readApart ∈ wA := wA_S (i := 18) rfl rfl
theorem wmX4_readPlace : Cond.instanceMethod yX4_readPlace ∈ wA := wA_3 (i := 151) rfl rfl
theorem wvX4_readPlace : Cond.selects RX4 yX4_readPlace yX4_readPlace ∈ wA := wA_S (i := 19) rfl rfl
theorem wmX4_readFirst : Cond.instanceMethod yX4_readFirst ∈ wA := wA_3 (i := 161) rfl rfl
theorem wvX4_readFirst : Cond.selects RX4 yX4_readFirst yX4_readFirst ∈ wA := wA_S (i := 20) rfl rfl
theorem wmX4_readPaper : Cond.instanceMethod yX4_readPaper ∈ wA := wA_3 (i := 169) rfl rfl
theorem wvX4_readPaper : Cond.selects RX4 yX4_readPaper yX4_readPaper ∈ wA := wA_S (i := 21) rfl rfl
theorem wmX4_readNarrow : Cond.instanceMethod yX4_readNarrow ∈ wA := wA_3 (i := 180) rfl rfl
theorem wvX4_readNarrow : Cond.selects RX4 yX4_readNarrow yX4_readNarrow ∈ wA := wA_S (i := 23) rfl rfl
theorem wmX4_passThing : Cond.instanceMethod yX4_passThing ∈ wA := wA_3 (i := 173) rfl rfl
theorem wvX4_passThing : Cond.selects RX4 yX4_passThing yX4_passThing ∈ wA := wA_S (i := 22) rfl rfl
theorem wmX4_passOnce : Cond.instanceMethod yX4_passOnce ∈ wA := wA_3 (i := 139) rfl rfl
theorem wvX4_passOnce : Cond.selects RX4 yX4_passOnce yX4_passOnce ∈ wA := wA_S (i := 17) rfl rfl
theorem wmX4_isNewName : Cond.instanceMethod yX4_isNewName ∈ wA := wA_3 (i := 74) rfl rfl
theorem wvX4_isNewName : Cond.selects RX4 yX4_isNewName yX4_isNewName ∈ wA := wA_S (i := 8) rfl rfl
theorem wmX4_indexOfName : Cond.instanceMethod yX4_indexOfName ∈ wA := wA_3 (i := 88) rfl rfl
theorem wvX4_indexOfName : Cond.selects RX4 yX4_indexOfName yX4_indexOfName ∈ wA := wA_S (i := 11) rfl rfl
theorem wmX4_indexOf : Cond.instanceMethod yX4_indexOf ∈ wA := wA_3 (i := 78) rfl rfl
theorem wvX4_indexOf : Cond.selects RX4 yX4_indexOf yX4_indexOf ∈ wA := wA_S (i := 9) rfl rfl
theorem wmX4_readFact : Cond.instanceMethod yX4_readFact ∈ wA := wA_3 (i := 100) rfl rfl
theorem wvX4_readFact : Cond.selects RX4 yX4_readFact yX4_readFact ∈ wA := wA_S (i := 12) rfl rfl
theorem wmX4_isNumber : Cond.instanceMethod yX4_isNumber ∈ wA := wA_3 (i := 104) rfl rfl
theorem wvX4_isNumber : Cond.selects RX4 yX4_isNumber yX4_isNumber ∈ wA := wA_S (i := 13) rfl rfl
theorem wmX5_init : Cond.instanceMethod yX5_init ∈ wA := wA_1 (i := 47) rfl rfl
theorem wmX5_clear : Cond.instanceMethod yX5_clear ∈ wA := wA_3 (i := 51) rfl rfl
theorem wvX5_clear : Cond.selects RX5 yX5_clear yX5_clear ∈ wA := wA_3 (i := 52) rfl rfl
theorem wmX5_copyFrom : Cond.instanceMethod yX5_copyFrom ∈ wA := wA_3 (i := 187) rfl rfl
theorem wvX5_copyFrom : Cond.selects RX5 yX5_copyFrom yX5_copyFrom ∈ wA := wA_3 (i := 188) rfl rfl
theorem wmX5_has : Cond.instanceMethod yX5_has ∈ wA := wA_3 (i := 207) rfl rfl
theorem wvX5_has : Cond.selects RX5 yX5_has yX5_has ∈ wA := wA_3 (i := 208) rfl rfl
theorem wmX5_told : Cond.instanceMethod yX5_told ∈ wA := wA_3 (i := 132) rfl rfl
theorem wvX5_told : Cond.selects RX5 yX5_told yX5_told ∈ wA := wA_3 (i := 133) rfl rfl
theorem wmX5_tell : Cond.instanceMethod yX5_tell ∈ wA := wA_3 (i := 95) rfl rfl
theorem wvX5_tell : Cond.selects RX5 yX5_tell yX5_tell ∈ wA := wA_3 (i := 96) rfl rfl
theorem wmX5_addThing : Cond.instanceMethod yX5_addThing ∈ wA := wA_3 (i := 91) rfl rfl
theorem wvX5_addThing : Cond.selects RX5 yX5_addThing yX5_addThing ∈ wA := wA_3 (i := 92) rfl rfl
theorem wmX5_addCells : Cond.instanceMethod yX5_addCells ∈ wA := wA_3 (i := 118) rfl rfl
theorem wvX5_addCells : Cond.selects RX5 yX5_addCells yX5_addCells ∈ wA := wA_3 (i := 119) rfl rfl
theorem wmX5_addVoice : Cond.instanceMethod yX5_addVoice ∈ wA := wA_3 (i := 128) rfl rfl
theorem wvX5_addVoice : Cond.selects RX5 yX5_addVoice yX5_addVoice ∈ wA := wA_3 (i := 129) rfl rfl
theorem wmX5_hasPlaceAt : Cond.instanceMethod yX5_hasPlaceAt ∈ wA := wA_3 (i := 154) rfl rfl
theorem wvX5_hasPlaceAt : Cond.selects RX5 yX5_hasPlaceAt yX5_hasPlaceAt ∈ wA := wA_3 (i := 155) rfl rfl
theorem wmX5_isDead : Cond.instanceMethod yX5_isDead ∈ wA := wA_4 (i := 44) rfl rfl
theorem wvX5_isDead : Cond.selects RX5 yX5_isDead yX5_isDead ∈ wA := wA_4 (i := 45) rfl rfl
theorem wmX5_hasVoice : Cond.instanceMethod yX5_hasVoice ∈ wA := wA_4 (i := 56) rfl rfl
theorem wvX5_hasVoice : Cond.selects RX5 yX5_hasVoice yX5_hasVoice ∈ wA := wA_4 (i := 57) rfl rfl
theorem wmX5_shareCell : Cond.instanceMethod yX5_shareCell ∈ wA := wA_4 (i := 78) rfl rfl
theorem wvX5_shareCell : Cond.selects RX5 yX5_shareCell yX5_shareCell ∈ wA := wA_4 (i := 79) rfl rfl
theorem wmX5_isInArc : Cond.instanceMethod yX5_isInArc ∈ wA := wA_4 (i := 52) rfl rfl
theorem wvX5_isInArc : Cond.selects RX5 yX5_isInArc yX5_isInArc ∈ wA := wA_4 (i := 53) rfl rfl
theorem wmX5_middleOfArc : Cond.instanceMethod yX5_middleOfArc ∈ wA := wA_5 (i := 111) rfl rfl
theorem wvX5_middleOfArc : Cond.selects RX5 yX5_middleOfArc yX5_middleOfArc ∈ wA := wA_5 (i := 112) rfl rfl
theorem wmX5_needOf : Cond.instanceMethod yX5_needOf ∈ wA := wA_4 (i := 74) rfl rfl
theorem wvX5_needOf : Cond.selects RX5 yX5_needOf yX5_needOf ∈ wA := wA_4 (i := 75) rfl rfl
theorem wmX5_quietFrom : Cond.instanceMethod yX5_quietFrom ∈ wA := wA_4 (i := 83) rfl rfl
theorem wvX5_quietFrom : Cond.selects RX5 yX5_quietFrom yX5_quietFrom ∈ wA := wA_S (i := 27) rfl rfl
theorem wmX5_driftOf : Cond.instanceMethod yX5_driftOf ∈ wA := wA_5 (i := 165) rfl rfl
theorem wvX5_driftOf : Cond.selects RX5 yX5_driftOf yX5_driftOf ∈ wA := wA_5 (i := 166) rfl rfl
theorem wmX6_init : Cond.instanceMethod yX6_init ∈ wA := wA_2 (i := 19) rfl rfl
theorem wmX6_findFirst : Cond.instanceMethod yX6_findFirst ∈ wA := wA_4 (i := 142) rfl rfl
theorem wvX6_findFirst : Cond.selects RX6 yX6_findFirst yX6_findFirst ∈ wA := wA_4 (i := 143) rfl rfl
theorem wmX6_countWays : Cond.instanceMethod yX6_countWays ∈ wA := wA_4 (i := 182) rfl rfl
theorem wvX6_countWays : Cond.selects RX6 yX6_countWays yX6_countWays ∈ wA := wA_4 (i := 183) rfl rfl
theorem wmX6_findMost : Cond.instanceMethod yX6_findMost ∈ wA := wA_4 (i := 194) rfl rfl
theorem wvX6_findMost : Cond.selects RX6 yX6_findMost yX6_findMost ∈ wA := wA_4 (i := 195) rfl rfl
theorem wmX6_admit : Cond.instanceMethod yX6_admit ∈ wA := wA_5 (i := 10) rfl rfl
theorem wvX6_admit : Cond.selects RX6 yX6_admit yX6_admit ∈ wA := wA_5 (i := 11) rfl rfl
theorem wmX6_admitMoving : Cond.instanceMethod yX6_admitMoving ∈ wA := wA_5 (i := 15) rfl rfl
theorem wvX6_admitMoving : Cond.selects RX6 yX6_admitMoving yX6_admitMoving ∈ wA := wA_S (i := 47) rfl rfl
theorem wmX6_begin : Cond.instanceMethod yX6_begin ∈ wA := wA_4 (i := 147) rfl rfl
theorem wvX6_begin : Cond.selects RX6 yX6_begin yX6_begin ∈ wA := wA_S (i := 34) rfl rfl
theorem wmX6_want : Cond.instanceMethod yX6_want ∈ wA := wA_4 (i := 156) rfl rfl
theorem wvX6_want : Cond.selects RX6 yX6_want yX6_want ∈ wA := wA_S (i := 35) rfl rfl
theorem wmX6_isRight : Cond.instanceMethod yX6_isRight ∈ wA := wA_4 (i := 163) rfl rfl
theorem wvX6_isRight : Cond.selects RX6 yX6_isRight yX6_isRight ∈ wA := wA_S (i := 36) rfl rfl
theorem wmX6_putRightly : Cond.instanceMethod yX6_putRightly ∈ wA := wA_4 (i := 172) rfl rfl
theorem wvX6_putRightly : Cond.selects RX6 yX6_putRightly yX6_putRightly ∈ wA := wA_S (i := 38) rfl rfl
theorem wmX6_placeFrom : Cond.instanceMethod yX6_placeFrom ∈ wA := wA_4 (i := 168) rfl rfl
theorem wvX6_placeFrom : Cond.selects RX6 yX6_placeFrom yX6_placeFrom ∈ wA := wA_S (i := 37) rfl rfl
theorem wmX6_waysFrom : Cond.instanceMethod yX6_waysFrom ∈ wA := wA_4 (i := 187) rfl rfl
theorem wvX6_waysFrom : Cond.selects RX6 yX6_waysFrom yX6_waysFrom ∈ wA := wA_S (i := 39) rfl rfl
theorem wmX6_mostFrom : Cond.instanceMethod yX6_mostFrom ∈ wA := wA_4 (i := 199) rfl rfl
theorem wvX6_mostFrom : Cond.selects RX6 yX6_mostFrom yX6_mostFrom ∈ wA := wA_S (i := 40) rfl rfl
theorem wmX6_worthFrom : Cond.instanceMethod yX6_worthFrom ∈ wA := wA_4 (i := 203) rfl rfl
theorem wvX6_worthFrom : Cond.selects RX6 yX6_worthFrom yX6_worthFrom ∈ wA := wA_S (i := 41) rfl rfl
theorem wmX6_keepBest : Cond.instanceMethod yX6_keepBest ∈ wA := wA_4 (i := 208) rfl rfl
theorem wvX6_keepBest : Cond.selects RX6 yX6_keepBest yX6_keepBest ∈ wA := wA_S (i := 42) rfl rfl
theorem wmX7_init : Cond.instanceMethod yX7_init ∈ wA := wA_2 (i := 112) rfl rfl
theorem wmX7_divide : Cond.instanceMethod yX7_divide ∈ wA := wA_5 (i := 128) rfl rfl
theorem wvX7_divide : Cond.selects RX7 yX7_divide yX7_divide ∈ wA := wA_5 (i := 129) rfl rfl
theorem wmX7_addLand : Cond.instanceMethod yX7_addLand ∈ wA := wA_5 (i := 140) rfl rfl
theorem wvX7_addLand : Cond.selects RX7 yX7_addLand yX7_addLand ∈ wA := wA_S (i := 57) rfl rfl
theorem wmX7_offer : Cond.instanceMethod yX7_offer ∈ wA := wA_5 (i := 144) rfl rfl
theorem wvX7_offer : Cond.selects RX7 yX7_offer yX7_offer ∈ wA := wA_S (i := 58) rfl rfl
theorem wmX7_movesOf : Cond.instanceMethod yX7_movesOf ∈ wA := wA_5 (i := 133) rfl rfl
theorem wvX7_movesOf : Cond.selects RX7 yX7_movesOf yX7_movesOf ∈ wA := wA_S (i := 56) rfl rfl
theorem wmX7_pickBest : Cond.instanceMethod yX7_pickBest ∈ wA := wA_5 (i := 148) rfl rfl
theorem wvX7_pickBest : Cond.selects RX7 yX7_pickBest yX7_pickBest ∈ wA := wA_S (i := 59) rfl rfl
theorem wmX8_init : Cond.instanceMethod yX8_init ∈ wA := wA_1 (i := 184) rfl rfl
theorem wmX8_clear : Cond.instanceMethod yX8_clear ∈ wA := wA_3 (i := 194) rfl rfl
theorem wvX8_clear : Cond.selects RX8 yX8_clear yX8_clear ∈ wA := wA_3 (i := 195) rfl rfl
theorem wmX8_copyFrom : Cond.instanceMethod yX8_copyFrom ∈ wA := wA_4 (i := 150) rfl rfl
theorem wvX8_copyFrom : Cond.selects RX8 yX8_copyFrom yX8_copyFrom ∈ wA := wA_4 (i := 151) rfl rfl
theorem wmX8_isUp : Cond.instanceMethod yX8_isUp ∈ wA := wA_3 (i := 225) rfl rfl
theorem wvX8_isUp : Cond.selects RX8 yX8_isUp yX8_isUp ∈ wA := wA_3 (i := 226) rfl rfl
theorem wmX8_isLiving : Cond.instanceMethod yX8_isLiving ∈ wA := wA_4 (i := 40) rfl rfl
theorem wvX8_isLiving : Cond.selects RX8 yX8_isLiving yX8_isLiving ∈ wA := wA_4 (i := 41) rfl rfl
theorem wmX8_howManyUp : Cond.instanceMethod yX8_howManyUp ∈ wA := wA_5 (i := 186) rfl rfl
theorem wvX8_howManyUp : Cond.selects RX8 yX8_howManyUp yX8_howManyUp ∈ wA := wA_5 (i := 187) rfl rfl
theorem wmX8_put : Cond.instanceMethod yX8_put ∈ wA := wA_4 (i := 7) rfl rfl
theorem wvX8_put : Cond.selects RX8 yX8_put yX8_put ∈ wA := wA_4 (i := 8) rfl rfl
theorem wmX8_take : Cond.instanceMethod yX8_take ∈ wA := wA_3 (i := 229) rfl rfl
theorem wvX8_take : Cond.selects RX8 yX8_take yX8_take ∈ wA := wA_3 (i := 230) rfl rfl
theorem wmX8_swapDegrees : Cond.instanceMethod yX8_swapDegrees ∈ wA := wA_5 (i := 58) rfl rfl
theorem wvX8_swapDegrees : Cond.selects RX8 yX8_swapDegrees yX8_swapDegrees ∈ wA := wA_5 (i := 59) rfl rfl
theorem wmX8_meetAll : Cond.instanceMethod yX8_meetAll ∈ wA := wA_3 (i := 234) rfl rfl
theorem wvX8_meetAll : Cond.selects RX8 yX8_meetAll yX8_meetAll ∈ wA := wA_S (i := 25) rfl rfl
theorem wmX8_touching : Cond.instanceMethod yX8_touching ∈ wA := wA_3 (i := 237) rfl rfl
theorem wvX8_touching : Cond.selects RX8 yX8_touching yX8_touching ∈ wA := wA_3 (i := 238) rfl rfl
theorem wmX8_reachOn : Cond.instanceMethod yX8_reachOn ∈ wA := wA_4 (i := 28) rfl rfl
theorem wvX8_reachOn : Cond.selects RX8 yX8_reachOn yX8_reachOn ∈ wA := wA_4 (i := 29) rfl rfl
theorem wmX8_wrongOf : Cond.instanceMethod yX8_wrongOf ∈ wA := wA_4 (i := 48) rfl rfl
theorem wvX8_wrongOf : Cond.selects RX8 yX8_wrongOf yX8_wrongOf ∈ wA := wA_4 (i := 49) rfl rfl
theorem wmX8_firstWrong : Cond.instanceMethod yX8_firstWrong ∈ wA := wA_4 (i := 64) rfl rfl
theorem wvX8_firstWrong : Cond.selects RX8 yX8_firstWrong yX8_firstWrong ∈ wA := wA_4 (i := 65) rfl rfl
theorem wmX8_isMetAt : Cond.instanceMethod yX8_isMetAt ∈ wA := wA_5 (i := 169) rfl rfl
theorem wvX8_isMetAt : Cond.selects RX8 yX8_isMetAt yX8_isMetAt ∈ wA := wA_5 (i := 170) rfl rfl
theorem wmX9_init : Cond.instanceMethod yX9_init ∈ wA := wA_1 (i := 110) rfl rfl
theorem wmX9_cut : Cond.instanceMethod yX9_cut ∈ wA := wA_2 (i := 212) rfl rfl
theorem wvX9_cut : Cond.selects RX9 yX9_cut yX9_cut ∈ wA := wA_2 (i := 213) rfl rfl
theorem wmX9_cutOne : Cond.instanceMethod yX9_cutOne ∈ wA := wA_2 (i := 220) rfl rfl
theorem wvX9_cutOne : Cond.selects RX9 yX9_cutOne yX9_cutOne ∈ wA := wA_S (i := 1) rfl rfl
theorem wmX9_cutRun : Cond.instanceMethod yX9_cutRun ∈ wA := wA_2 (i := 230) rfl rfl
theorem wvX9_cutRun : Cond.selects RX9 yX9_cutRun yX9_cutRun ∈ wA := wA_S (i := 2) rfl rfl
theorem wsX9_isLetter_t : Cond.static yX9_isLetter ∈ wA := wA_2 (i := 223) rfl rfl
theorem wsX9_isDigit_t : Cond.static yX9_isDigit ∈ wA := wA_2 (i := 226) rfl rfl
theorem wsX10_lyingAt_t : Cond.static yX10_lyingAt ∈ wA := wA_2 (i := 233) rfl rfl
theorem wmX10_lies : Cond.instanceMethod yX10_lies ∈ wA := wA_2 (i := 239) rfl rfl
theorem wvX10_lies : Cond.selects RX10 yX10_lies yX10_lies ∈ wA := wA_S (i := 3) rfl rfl
theorem wmX11_init : Cond.instanceMethod yX11_init ∈ wA := wA_1 (i := 29) rfl rfl
theorem wmX11_feed : Cond.instanceMethod yX11_feed ∈ wA := wA_2 (i := 192) rfl rfl
theorem wvX11_feed : Cond.selects RX11 yX11_feed yX11_feed ∈ wA := wA_2 (i := 193) rfl rfl
theorem wmX11_end : Cond.instanceMethod yX11_end ∈ wA := wA_2 (i := 200) rfl rfl
theorem wvX11_end : Cond.selects RX11 yX11_end yX11_end ∈ wA := wA_2 (i := 201) rfl rfl
theorem wmX11_ring : Cond.instanceMethod yX11_ring ∈ wA := wA_2 (i := 204) rfl rfl
theorem wvX11_ring : Cond.selects RX11 yX11_ring yX11_ring ∈ wA := wA_2 (i := 205) rfl rfl
theorem wmX11_fault : Cond.instanceMethod yX11_fault ∈ wA := wA_3 (i := 199) rfl rfl
theorem wvX11_fault : Cond.selects RX11 yX11_fault yX11_fault ∈ wA := wA_3 (i := 200) rfl rfl
theorem wmX11_thing : Cond.instanceMethod yX11_thing ∈ wA := wA_5 (i := 195) rfl rfl
theorem wvX11_thing : Cond.selects RX11 yX11_thing yX11_thing ∈ wA := wA_5 (i := 196) rfl rfl
theorem wmX11_ground : Cond.instanceMethod yX11_ground ∈ wA := wA_3 (i := 203) rfl rfl
theorem wvX11_ground : Cond.selects RX11 yX11_ground yX11_ground ∈ wA := wA_3 (i := 204) rfl rfl
theorem wmX11_place : Cond.instanceMethod yX11_place ∈ wA := wA_3 (i := 211) rfl rfl
theorem wvX11_place : Cond.selects RX11 yX11_place yX11_place ∈ wA := wA_3 (i := 212) rfl rfl
theorem wmX11_stand : Cond.instanceMethod yX11_stand ∈ wA := wA_3 (i := 215) rfl rfl
theorem wvX11_stand : Cond.selects RX11 yX11_stand yX11_stand ∈ wA := wA_3 (i := 216) rfl rfl
theorem wmX11_lift : Cond.instanceMethod yX11_lift ∈ wA := wA_4 (i := 11) rfl rfl
theorem wvX11_lift : Cond.selects RX11 yX11_lift yX11_lift ∈ wA := wA_4 (i := 12) rfl rfl
theorem wmX11_stands : Cond.instanceMethod yX11_stands ∈ wA := wA_4 (i := 19) rfl rfl
theorem wvX11_stands : Cond.selects RX11 yX11_stands yX11_stands ∈ wA := wA_4 (i := 20) rfl rfl
theorem wmX11_reach : Cond.instanceMethod yX11_reach ∈ wA := wA_4 (i := 23) rfl rfl
theorem wvX11_reach : Cond.selects RX11 yX11_reach yX11_reach ∈ wA := wA_4 (i := 24) rfl rfl
theorem wmX11_heard : Cond.instanceMethod yX11_heard ∈ wA := wA_4 (i := 32) rfl rfl
theorem wvX11_heard : Cond.selects RX11 yX11_heard yX11_heard ∈ wA := wA_4 (i := 33) rfl rfl
theorem wmX11_wrong : Cond.instanceMethod yX11_wrong ∈ wA := wA_4 (i := 36) rfl rfl
theorem wvX11_wrong : Cond.selects RX11 yX11_wrong yX11_wrong ∈ wA := wA_4 (i := 37) rfl rfl
theorem wmX11_judge : Cond.instanceMethod yX11_judge ∈ wA := wA_4 (i := 60) rfl rfl
theorem wvX11_judge : Cond.selects RX11 yX11_judge yX11_judge ∈ wA := wA_4 (i := 61) rfl rfl
theorem wmX11_need : Cond.instanceMethod yX11_need ∈ wA := wA_4 (i := 70) rfl rfl
theorem wvX11_need : Cond.selects RX11 yX11_need yX11_need ∈ wA := wA_4 (i := 71) rfl rfl
theorem wmX11_arc : Cond.instanceMethod yX11_arc ∈ wA := wA_4 (i := 89) rfl rfl
theorem wvX11_arc : Cond.selects RX11 yX11_arc yX11_arc ∈ wA := wA_4 (i := 90) rfl rfl
theorem wmX11_shortest : Cond.instanceMethod yX11_shortest ∈ wA := wA_4 (i := 111) rfl rfl
theorem wvX11_shortest : Cond.selects RX11 yX11_shortest yX11_shortest ∈ wA := wA_4 (i := 112) rfl rfl
theorem wmX11_orderAt : Cond.instanceMethod yX11_orderAt ∈ wA := wA_4 (i := 129) rfl rfl
theorem wvX11_orderAt : Cond.selects RX11 yX11_orderAt yX11_orderAt ∈ wA := wA_4 (i := 130) rfl rfl
theorem wmX11_find : Cond.instanceMethod yX11_find ∈ wA := wA_4 (i := 133) rfl rfl
theorem wvX11_find : Cond.selects RX11 yX11_find yX11_find ∈ wA := wA_4 (i := 134) rfl rfl
theorem wmX11_ways : Cond.instanceMethod yX11_ways ∈ wA := wA_4 (i := 178) rfl rfl
theorem wvX11_ways : Cond.selects RX11 yX11_ways yX11_ways ∈ wA := wA_4 (i := 179) rfl rfl
theorem wmX11_most : Cond.instanceMethod yX11_most ∈ wA := wA_4 (i := 190) rfl rfl
theorem wvX11_most : Cond.selects RX11 yX11_most yX11_most ∈ wA := wA_4 (i := 191) rfl rfl
theorem wmX11_fit : Cond.instanceMethod yX11_fit ∈ wA := wA_4 (i := 211) rfl rfl
theorem wvX11_fit : Cond.selects RX11 yX11_fit yX11_fit ∈ wA := wA_4 (i := 212) rfl rfl
theorem wmX11_fitOf : Cond.instanceMethod yX11_fitOf ∈ wA := wA_5 (i := 2) rfl rfl
theorem wvX11_fitOf : Cond.selects RX11 yX11_fitOf yX11_fitOf ∈ wA := wA_5 (i := 3) rfl rfl
theorem wmX11_letIn : Cond.instanceMethod yX11_letIn ∈ wA := wA_5 (i := 6) rfl rfl
theorem wvX11_letIn : Cond.selects RX11 yX11_letIn yX11_letIn ∈ wA := wA_5 (i := 7) rfl rfl
theorem wmX11_narrow : Cond.instanceMethod yX11_narrow ∈ wA := wA_5 (i := 19) rfl rfl
theorem wvX11_narrow : Cond.selects RX11 yX11_narrow yX11_narrow ∈ wA := wA_5 (i := 20) rfl rfl
theorem wmX11_narrowCost : Cond.instanceMethod yX11_narrowCost ∈ wA := wA_5 (i := 49) rfl rfl
theorem wvX11_narrowCost : Cond.selects RX11 yX11_narrowCost yX11_narrowCost ∈ wA := wA_5 (i := 50) rfl rfl
theorem wmX11_sell : Cond.instanceMethod yX11_sell ∈ wA := wA_5 (i := 53) rfl rfl
theorem wvX11_sell : Cond.selects RX11 yX11_sell yX11_sell ∈ wA := wA_5 (i := 54) rfl rfl
theorem wmX11_good : Cond.instanceMethod yX11_good ∈ wA := wA_5 (i := 68) rfl rfl
theorem wvX11_good : Cond.selects RX11 yX11_good yX11_good ∈ wA := wA_5 (i := 69) rfl rfl
theorem wmX11_right : Cond.instanceMethod yX11_right ∈ wA := wA_5 (i := 84) rfl rfl
theorem wvX11_right : Cond.selects RX11 yX11_right yX11_right ∈ wA := wA_5 (i := 85) rfl rfl
theorem wmX11_barred : Cond.instanceMethod yX11_barred ∈ wA := wA_5 (i := 98) rfl rfl
theorem wvX11_barred : Cond.selects RX11 yX11_barred yX11_barred ∈ wA := wA_5 (i := 99) rfl rfl
theorem wmX11_shares : Cond.instanceMethod yX11_shares ∈ wA := wA_5 (i := 124) rfl rfl
theorem wvX11_shares : Cond.selects RX11 yX11_shares yX11_shares ∈ wA := wA_5 (i := 125) rfl rfl
theorem wmX11_drift : Cond.instanceMethod yX11_drift ∈ wA := wA_6 (i := 24) rfl rfl
theorem wvX11_drift : Cond.selects RX11 yX11_drift yX11_drift ∈ wA := wA_6 (i := 25) rfl rfl
theorem wmX11_meets : Cond.instanceMethod yX11_meets ∈ wA := wA_5 (i := 157) rfl rfl
theorem wvX11_meets : Cond.selects RX11 yX11_meets yX11_meets ∈ wA := wA_5 (i := 158) rfl rfl
theorem wmX11_image : Cond.instanceMethod yX11_image ∈ wA := wA_5 (i := 174) rfl rfl
theorem wvX11_image : Cond.selects RX11 yX11_image yX11_image ∈ wA := wA_5 (i := 175) rfl rfl
theorem wmX11_restore : Cond.instanceMethod yX11_restore ∈ wA := wA_5 (i := 178) rfl rfl
theorem wvX11_restore : Cond.selects RX11 yX11_restore yX11_restore ∈ wA := wA_5 (i := 179) rfl rfl
theorem wmX11_count : Cond.instanceMethod yX11_count ∈ wA := wA_5 (i := 182) rfl rfl
theorem wvX11_count : Cond.selects RX11 yX11_count yX11_count ∈ wA := wA_5 (i := 183) rfl rfl
theorem wmX11_append : Cond.instanceMethod yX11_append ∈ wA := wA_2 (i := 197) rfl rfl
theorem wvX11_append : Cond.selects RX11 yX11_append yX11_append ∈ wA := wA_S (i := 0) rfl rfl
theorem wsX11_isDegree_t : Cond.static yX11_isDegree ∈ wA := wA_3 (i := 219) rfl rfl
theorem wsX11_isVoice_t : Cond.static yX11_isVoice ∈ wA := wA_3 (i := 222) rfl rfl
theorem wsX11_isDay_t : Cond.static yX11_isDay ∈ wA := wA_5 (i := 72) rfl rfl
theorem wmX11_hasUp : Cond.instanceMethod yX11_hasUp ∈ wA := wA_4 (i := 16) rfl rfl
theorem wvX11_hasUp : Cond.selects RX11 yX11_hasUp yX11_hasUp ∈ wA := wA_S (i := 26) rfl rfl
theorem wmX11_hasDead : Cond.instanceMethod yX11_hasDead ∈ wA := wA_5 (i := 162) rfl rfl
theorem wvX11_hasDead : Cond.selects RX11 yX11_hasDead yX11_hasDead ∈ wA := wA_S (i := 60) rfl rfl
theorem wmX11_takeRow : Cond.instanceMethod yX11_takeRow ∈ wA := wA_4 (i := 94) rfl rfl
theorem wvX11_takeRow : Cond.selects RX11 yX11_takeRow yX11_takeRow ∈ wA := wA_S (i := 28) rfl rfl
theorem wmX11_isInRow : Cond.instanceMethod yX11_isInRow ∈ wA := wA_4 (i := 98) rfl rfl
theorem wvX11_isInRow : Cond.selects RX11 yX11_isInRow yX11_isInRow ∈ wA := wA_S (i := 29) rfl rfl
theorem wmX11_takeLiving : Cond.instanceMethod yX11_takeLiving ∈ wA := wA_4 (i := 138) rfl rfl
theorem wvX11_takeLiving : Cond.selects RX11 yX11_takeLiving yX11_takeLiving ∈ wA := wA_S (i := 33) rfl rfl
theorem wmX11_isSaleLet : Cond.instanceMethod yX11_isSaleLet ∈ wA := wA_5 (i := 65) rfl rfl
theorem wvX11_isSaleLet : Cond.selects RX11 yX11_isSaleLet yX11_isSaleLet ∈ wA := wA_S (i := 52) rfl rfl
theorem wsX11_gapBetween_t : Cond.static yX11_gapBetween ∈ wA := wA_4 (i := 1) rfl rfl
theorem wsX11_reachAt_t : Cond.static yX11_reachAt ∈ wA := wA_4 (i := 4) rfl rfl
theorem wmX12_init : Cond.instanceMethod yX12_init ∈ wA := wA_6 (i := 30) rfl rfl
theorem wmX12_thrown : Cond.instanceMethod yX12_thrown ∈ wA := wA_6 (i := 173) rfl rfl
theorem wvX12_thrown : Cond.selects RX12 yX12_thrown yX12_thrown ∈ wA := wA_6 (i := 174) rfl rfl
theorem wmX12_refuse : Cond.instanceMethod yX12_refuse ∈ wA := wA_7 (i := 73) rfl rfl
theorem wvX12_refuse : Cond.selects RX12 yX12_refuse yX12_refuse ∈ wA := wA_S (i := 85) rfl rfl
theorem wmX12_come : Cond.instanceMethod yX12_come ∈ wA := wA_6 (i := 182) rfl rfl
theorem wvX12_come : Cond.selects RX12 yX12_come yX12_come ∈ wA := wA_S (i := 62) rfl rfl
theorem wmX12_feed : Cond.instanceMethod yX12_feed ∈ wA := wA_6 (i := 177) rfl rfl
theorem wvX12_feed : Cond.selects RX12 yX12_feed yX12_feed ∈ wA := wA_6 (i := 178) rfl rfl
theorem wmX12_end : Cond.instanceMethod yX12_end ∈ wA := wA_6 (i := 185) rfl rfl
theorem wvX12_end : Cond.selects RX12 yX12_end yX12_end ∈ wA := wA_6 (i := 186) rfl rfl
theorem wmX12_take : Cond.instanceMethod yX12_take ∈ wA := wA_6 (i := 198) rfl rfl
theorem wvX12_take : Cond.selects RX12 yX12_take yX12_take ∈ wA := wA_S (i := 64) rfl rfl
theorem wsX12_isIn_t : Cond.static yX12_isIn ∈ wA := wA_7 (i := 22) rfl rfl
theorem wsX12_has_t : Cond.static yX12_has ∈ wA := wA_7 (i := 25) rfl rfl
theorem wsX12_bits_t : Cond.static yX12_bits ∈ wA := wA_8 (i := 23) rfl rfl
theorem wmX12_byteAt : Cond.instanceMethod yX12_byteAt ∈ wA := wA_6 (i := 212) rfl rfl
theorem wvX12_byteAt : Cond.selects RX12 yX12_byteAt yX12_byteAt ∈ wA := wA_S (i := 66) rfl rfl
theorem wsX12_isDigit_t : Cond.static yX12_isDigit ∈ wA := wA_6 (i := 208) rfl rfl
theorem wsX12_isLetter_t : Cond.static yX12_isLetter ∈ wA := wA_6 (i := 205) rfl rfl
theorem wmX12_go : Cond.instanceMethod yX12_go ∈ wA := wA_6 (i := 202) rfl rfl
theorem wvX12_go : Cond.selects RX12 yX12_go yX12_go ∈ wA := wA_S (i := 65) rfl rfl
theorem wsX12_spelt_t : Cond.static yX12_spelt ∈ wA := wA_6 (i := 228) rfl rfl
theorem wsX12_on_t : Cond.static yX12_on ∈ wA := wA_6 (i := 231) rfl rfl
theorem wsX12_wordOf_t : Cond.static yX12_wordOf ∈ wA := wA_6 (i := 225) rfl rfl
theorem wmX12_isWord : Cond.instanceMethod yX12_isWord ∈ wA := wA_6 (i := 222) rfl rfl
theorem wvX12_isWord : Cond.selects RX12 yX12_isWord yX12_isWord ∈ wA := wA_S (i := 68) rfl rfl
theorem wmX12_isName : Cond.instanceMethod yX12_isName ∈ wA := wA_7 (i := 7) rfl rfl
theorem wvX12_isName : Cond.selects RX12 yX12_isName yX12_isName ∈ wA := wA_S (i := 72) rfl rfl
theorem wmX12_bad : Cond.instanceMethod yX12_bad ∈ wA := wA_6 (i := 235) rfl rfl
theorem wvX12_bad : Cond.selects RX12 yX12_bad yX12_bad ∈ wA := wA_S (i := 69) rfl rfl
theorem wmX12_readNumber : Cond.instanceMethod yX12_readNumber ∈ wA := wA_7 (i := 19) rfl rfl
theorem wvX12_readNumber : Cond.selects RX12 yX12_readNumber yX12_readNumber ∈ wA := wA_S (i := 75) rfl rfl
theorem wmX12_lay : Cond.instanceMethod yX12_lay ∈ wA := wA_6 (i := 194) rfl rfl
theorem wvX12_lay : Cond.selects RX12 yX12_lay yX12_lay ∈ wA := wA_S (i := 63) rfl rfl
theorem wmX12_things : Cond.instanceMethod yX12_things ∈ wA := wA_7 (i := 69) rfl rfl
theorem wvX12_things : Cond.selects RX12 yX12_things yX12_things ∈ wA := wA_S (i := 84) rfl rfl
theorem wmX12_isThing : Cond.instanceMethod yX12_isThing ∈ wA := wA_7 (i := 65) rfl rfl
theorem wvX12_isThing : Cond.selects RX12 yX12_isThing yX12_isThing ∈ wA := wA_S (i := 83) rfl rfl
theorem wmX12_of : Cond.instanceMethod yX12_of ∈ wA := wA_7 (i := 77) rfl rfl
theorem wvX12_of : Cond.selects RX12 yX12_of yX12_of ∈ wA := wA_S (i := 86) rfl rfl
theorem wmX12_isDead : Cond.instanceMethod yX12_isDead ∈ wA := wA_7 (i := 147) rfl rfl
theorem wvX12_isDead : Cond.selects RX12 yX12_isDead yX12_isDead ∈ wA := wA_S (i := 94) rfl rfl
theorem wmX12_at : Cond.instanceMethod yX12_at ∈ wA := wA_7 (i := 101) rfl rfl
theorem wvX12_at : Cond.selects RX12 yX12_at yX12_at ∈ wA := wA_S (i := 88) rfl rfl
theorem wmX12_voice : Cond.instanceMethod yX12_voice ∈ wA := wA_7 (i := 109) rfl rfl
theorem wvX12_voice : Cond.selects RX12 yX12_voice yX12_voice ∈ wA := wA_S (i := 89) rfl rfl
theorem wmX12_isUp : Cond.instanceMethod yX12_isUp ∈ wA := wA_7 (i := 97) rfl rfl
theorem wvX12_isUp : Cond.selects RX12 yX12_isUp yX12_isUp ∈ wA := wA_S (i := 87) rfl rfl
theorem wmX12_put : Cond.instanceMethod yX12_put ∈ wA := wA_7 (i := 53) rfl rfl
theorem wvX12_put : Cond.selects RX12 yX12_put yX12_put ∈ wA := wA_S (i := 82) rfl rfl
theorem wmX12_findRead : Cond.instanceMethod yX12_findRead ∈ wA := wA_7 (i := 11) rfl rfl
theorem wvX12_findRead : Cond.selects RX12 yX12_findRead yX12_findRead ∈ wA := wA_S (i := 73) rfl rfl
theorem wmX12_readNew : Cond.instanceMethod yX12_readNew ∈ wA := wA_7 (i := 3) rfl rfl
theorem wvX12_readNew : Cond.selects RX12 yX12_readNew yX12_readNew ∈ wA := wA_S (i := 71) rfl rfl
theorem wmX12_readThing : Cond.instanceMethod yX12_readThing ∈ wA := wA_7 (i := 15) rfl rfl
theorem wvX12_readThing : Cond.selects RX12 yX12_readThing yX12_readThing ∈ wA := wA_S (i := 74) rfl rfl
theorem wmX12_readPart : Cond.instanceMethod yX12_readPart ∈ wA := wA_7 (i := 29) rfl rfl
theorem wvX12_readPart : Cond.selects RX12 yX12_readPart yX12_readPart ∈ wA := wA_S (i := 76) rfl rfl
theorem wmX12_readPlace : Cond.instanceMethod yX12_readPlace ∈ wA := wA_7 (i := 33) rfl rfl
theorem wvX12_readPlace : Cond.selects RX12 yX12_readPlace yX12_readPlace ∈ wA := wA_S (i := 77) rfl rfl
theorem wmX12_readOnce : Cond.instanceMethod yX12_readOnce ∈ wA := wA_7 (i := 41) rfl rfl
theorem wvX12_readOnce : Cond.selects RX12 yX12_readOnce yX12_readOnce ∈ wA := wA_S (i := 79) rfl rfl
theorem wmX12_readPaper : Cond.instanceMethod yX12_readPaper ∈ wA := wA_7 (i := 37) rfl rfl
theorem wvX12_readPaper : Cond.selects RX12 yX12_readPaper yX12_readPaper ∈ wA := wA_S (i := 78) rfl rfl
theorem wmX12_readNarrow : Cond.instanceMethod yX12_readNarrow ∈ wA := wA_7 (i := 45) rfl rfl
theorem wvX12_readNarrow : Cond.selects RX12 yX12_readNarrow yX12_readNarrow ∈ wA := wA_S (i := 80) rfl rfl
theorem wmX12_readSingle : Cond.instanceMethod yX12_readSingle ∈ wA := wA_7 (i := 49) rfl rfl
theorem wvX12_readSingle : Cond.selects RX12 yX12_readSingle yX12_readSingle ∈ wA := wA_S (i := 81) rfl rfl
theorem wmX12_readLand : Cond.instanceMethod yX12_readLand ∈ wA := wA_6 (i := 239) rfl rfl
theorem wvX12_readLand : Cond.selects RX12 yX12_readLand yX12_readLand ∈ wA := wA_S (i := 70) rfl rfl
theorem wmX12_readLine : Cond.instanceMethod yX12_readLine ∈ wA := wA_6 (i := 218) rfl rfl
theorem wvX12_readLine : Cond.selects RX12 yX12_readLine yX12_readLine ∈ wA := wA_S (i := 67) rfl rfl
theorem wmX12_ring : Cond.instanceMethod yX12_ring ∈ wA := wA_6 (i := 189) rfl rfl
theorem wvX12_ring : Cond.selects RX12 yX12_ring yX12_ring ∈ wA := wA_6 (i := 190) rfl rfl
theorem wmX12_fault : Cond.instanceMethod yX12_fault ∈ wA := wA_7 (i := 56) rfl rfl
theorem wvX12_fault : Cond.selects RX12 yX12_fault yX12_fault ∈ wA := wA_7 (i := 57) rfl rfl
theorem wmX12_thing : Cond.instanceMethod yX12_thing ∈ wA := wA_7 (i := 60) rfl rfl
theorem wvX12_thing : Cond.selects RX12 yX12_thing yX12_thing ∈ wA := wA_7 (i := 61) rfl rfl
theorem wmX12_ground : Cond.instanceMethod yX12_ground ∈ wA := wA_7 (i := 80) rfl rfl
theorem wvX12_ground : Cond.selects RX12 yX12_ground yX12_ground ∈ wA := wA_7 (i := 81) rfl rfl
theorem wmX12_place : Cond.instanceMethod yX12_place ∈ wA := wA_7 (i := 84) rfl rfl
theorem wvX12_place : Cond.selects RX12 yX12_place yX12_place ∈ wA := wA_7 (i := 85) rfl rfl
theorem wmX12_stand : Cond.instanceMethod yX12_stand ∈ wA := wA_7 (i := 88) rfl rfl
theorem wvX12_stand : Cond.selects RX12 yX12_stand yX12_stand ∈ wA := wA_7 (i := 89) rfl rfl
theorem wmX12_lift : Cond.instanceMethod yX12_lift ∈ wA := wA_7 (i := 92) rfl rfl
theorem wvX12_lift : Cond.selects RX12 yX12_lift yX12_lift ∈ wA := wA_7 (i := 93) rfl rfl
theorem wmX12_stands : Cond.instanceMethod yX12_stands ∈ wA := wA_7 (i := 104) rfl rfl
theorem wvX12_stands : Cond.selects RX12 yX12_stands yX12_stands ∈ wA := wA_7 (i := 105) rfl rfl
theorem wsX12_apart_t : Cond.static yX12_apart ∈ wA := wA_7 (i := 128) rfl rfl
theorem wmX12_touches : Cond.instanceMethod yX12_touches ∈ wA := wA_7 (i := 125) rfl rfl
theorem wvX12_touches : Cond.selects RX12 yX12_touches yX12_touches ∈ wA := wA_S (i := 92) rfl rfl
theorem wmX12_layBeams : Cond.instanceMethod yX12_layBeams ∈ wA := wA_7 (i := 117) rfl rfl
theorem wvX12_layBeams : Cond.selects RX12 yX12_layBeams yX12_layBeams ∈ wA := wA_S (i := 90) rfl rfl
theorem wsX12_reachBy_t : Cond.static yX12_reachBy ∈ wA := wA_7 (i := 131) rfl rfl
theorem wmX12_reachOf : Cond.instanceMethod yX12_reachOf ∈ wA := wA_7 (i := 121) rfl rfl
theorem wvX12_reachOf : Cond.selects RX12 yX12_reachOf yX12_reachOf ∈ wA := wA_S (i := 91) rfl rfl
theorem wmX12_heardBy : Cond.instanceMethod yX12_heardBy ∈ wA := wA_7 (i := 139) rfl rfl
theorem wvX12_heardBy : Cond.selects RX12 yX12_heardBy yX12_heardBy ∈ wA := wA_S (i := 93) rfl rfl
theorem wmX12_isInArc : Cond.instanceMethod yX12_isInArc ∈ wA := wA_7 (i := 155) rfl rfl
theorem wvX12_isInArc : Cond.selects RX12 yX12_isInArc yX12_isInArc ∈ wA := wA_S (i := 96) rfl rfl
theorem wmX12_wrongOf : Cond.instanceMethod yX12_wrongOf ∈ wA := wA_7 (i := 151) rfl rfl
theorem wvX12_wrongOf : Cond.selects RX12 yX12_wrongOf yX12_wrongOf ∈ wA := wA_S (i := 95) rfl rfl
theorem wmX12_firstWrong : Cond.instanceMethod yX12_firstWrong ∈ wA := wA_7 (i := 163) rfl rfl
theorem wvX12_firstWrong : Cond.selects RX12 yX12_firstWrong yX12_firstWrong ∈ wA := wA_S (i := 97) rfl rfl
theorem wmX12_reach : Cond.instanceMethod yX12_reach ∈ wA := wA_7 (i := 112) rfl rfl
theorem wvX12_reach : Cond.selects RX12 yX12_reach yX12_reach ∈ wA := wA_7 (i := 113) rfl rfl
theorem wmX12_heard : Cond.instanceMethod yX12_heard ∈ wA := wA_7 (i := 134) rfl rfl
theorem wvX12_heard : Cond.selects RX12 yX12_heard yX12_heard ∈ wA := wA_7 (i := 135) rfl rfl
theorem wmX12_wrong : Cond.instanceMethod yX12_wrong ∈ wA := wA_7 (i := 142) rfl rfl
theorem wvX12_wrong : Cond.selects RX12 yX12_wrong yX12_wrong ∈ wA := wA_7 (i := 143) rfl rfl
theorem wmX12_judge : Cond.instanceMethod yX12_judge ∈ wA := wA_7 (i := 158) rfl rfl
theorem wvX12_judge : Cond.selects RX12 yX12_judge yX12_judge ∈ wA := wA_7 (i := 159) rfl rfl
theorem wmX12_bears : Cond.instanceMethod yX12_bears ∈ wA := wA_7 (i := 175) rfl rfl
theorem wvX12_bears : Cond.selects RX12 yX12_bears yX12_bears ∈ wA := wA_S (i := 99) rfl rfl
theorem wmX12_needOf : Cond.instanceMethod yX12_needOf ∈ wA := wA_7 (i := 171) rfl rfl
theorem wvX12_needOf : Cond.selects RX12 yX12_needOf yX12_needOf ∈ wA := wA_S (i := 98) rfl rfl
theorem wmX12_need : Cond.instanceMethod yX12_need ∈ wA := wA_7 (i := 166) rfl rfl
theorem wvX12_need : Cond.selects RX12 yX12_need yX12_need ∈ wA := wA_7 (i := 167) rfl rfl
theorem wmX12_takeRow : Cond.instanceMethod yX12_takeRow ∈ wA := wA_7 (i := 183) rfl rfl
theorem wvX12_takeRow : Cond.selects RX12 yX12_takeRow yX12_takeRow ∈ wA := wA_S (i := 100) rfl rfl
theorem wmX12_layNeeds : Cond.instanceMethod yX12_layNeeds ∈ wA := wA_7 (i := 187) rfl rfl
theorem wvX12_layNeeds : Cond.selects RX12 yX12_layNeeds yX12_layNeeds ∈ wA := wA_S (i := 101) rfl rfl
theorem wmX12_spanOf : Cond.instanceMethod yX12_spanOf ∈ wA := wA_7 (i := 191) rfl rfl
theorem wvX12_spanOf : Cond.selects RX12 yX12_spanOf yX12_spanOf ∈ wA := wA_S (i := 102) rfl rfl
theorem wmX12_arc : Cond.instanceMethod yX12_arc ∈ wA := wA_7 (i := 178) rfl rfl
theorem wvX12_arc : Cond.selects RX12 yX12_arc yX12_arc ∈ wA := wA_7 (i := 179) rfl rfl
theorem wmX12_tryOrder : Cond.instanceMethod yX12_tryOrder ∈ wA := wA_7 (i := 199) rfl rfl
theorem wvX12_tryOrder : Cond.selects RX12 yX12_tryOrder yX12_tryOrder ∈ wA := wA_S (i := 103) rfl rfl
theorem wmX12_shortest : Cond.instanceMethod yX12_shortest ∈ wA := wA_7 (i := 194) rfl rfl
theorem wvX12_shortest : Cond.selects RX12 yX12_shortest yX12_shortest ∈ wA := wA_7 (i := 195) rfl rfl
theorem wmX12_orderAt : Cond.instanceMethod yX12_orderAt ∈ wA := wA_7 (i := 202) rfl rfl
theorem wvX12_orderAt : Cond.selects RX12 yX12_orderAt yX12_orderAt ∈ wA := wA_7 (i := 203) rfl rfl
theorem wmX12_save : Cond.instanceMethod yX12_save ∈ wA := wA_7 (i := 215) rfl rfl
theorem wvX12_save : Cond.selects RX12 yX12_save yX12_save ∈ wA := wA_S (i := 105) rfl rfl
theorem wmX12_bring : Cond.instanceMethod yX12_bring ∈ wA := wA_7 (i := 227) rfl rfl
theorem wvX12_bring : Cond.selects RX12 yX12_bring yX12_bring ∈ wA := wA_S (i := 108) rfl rfl
theorem wmX12_takeFree : Cond.instanceMethod yX12_takeFree ∈ wA := wA_7 (i := 211) rfl rfl
theorem wvX12_takeFree : Cond.selects RX12 yX12_takeFree yX12_takeFree ∈ wA := wA_S (i := 104) rfl rfl
theorem wmX12_finds : Cond.instanceMethod yX12_finds ∈ wA := wA_7 (i := 223) rfl rfl
theorem wvX12_finds : Cond.selects RX12 yX12_finds yX12_finds ∈ wA := wA_S (i := 107) rfl rfl
theorem wmX12_liftRow : Cond.instanceMethod yX12_liftRow ∈ wA := wA_7 (i := 219) rfl rfl
theorem wvX12_liftRow : Cond.selects RX12 yX12_liftRow yX12_liftRow ∈ wA := wA_S (i := 106) rfl rfl
theorem wmX12_find : Cond.instanceMethod yX12_find ∈ wA := wA_7 (i := 206) rfl rfl
theorem wvX12_find : Cond.selects RX12 yX12_find yX12_find ∈ wA := wA_7 (i := 207) rfl rfl
theorem wmX12_waysFrom : Cond.instanceMethod yX12_waysFrom ∈ wA := wA_7 (i := 235) rfl rfl
theorem wvX12_waysFrom : Cond.selects RX12 yX12_waysFrom yX12_waysFrom ∈ wA := wA_S (i := 109) rfl rfl
theorem wmX12_ways : Cond.instanceMethod yX12_ways ∈ wA := wA_7 (i := 230) rfl rfl
theorem wvX12_ways : Cond.selects RX12 yX12_ways yX12_ways ∈ wA := wA_7 (i := 231) rfl rfl
theorem wmX12_tryWorth : Cond.instanceMethod yX12_tryWorth ∈ wA := wA_8 (i := 3) rfl rfl
theorem wvX12_tryWorth : Cond.selects RX12 yX12_tryWorth yX12_tryWorth ∈ wA := wA_S (i := 110) rfl rfl
theorem wmX12_most : Cond.instanceMethod yX12_most ∈ wA := wA_7 (i := 238) rfl rfl
theorem wvX12_most : Cond.selects RX12 yX12_most yX12_most ∈ wA := wA_7 (i := 239) rfl rfl
theorem wmX12_louder : Cond.instanceMethod yX12_louder ∈ wA := wA_8 (i := 11) rfl rfl
theorem wvX12_louder : Cond.selects RX12 yX12_louder yX12_louder ∈ wA := wA_S (i := 111) rfl rfl
theorem wmX12_fit : Cond.instanceMethod yX12_fit ∈ wA := wA_8 (i := 6) rfl rfl
theorem wvX12_fit : Cond.selects RX12 yX12_fit yX12_fit ∈ wA := wA_8 (i := 7) rfl rfl
theorem wmX12_fitOf : Cond.instanceMethod yX12_fitOf ∈ wA := wA_8 (i := 15) rfl rfl
theorem wvX12_fitOf : Cond.selects RX12 yX12_fitOf yX12_fitOf ∈ wA := wA_8 (i := 16) rfl rfl
theorem wmX12_isMovable : Cond.instanceMethod yX12_isMovable ∈ wA := wA_8 (i := 27) rfl rfl
theorem wvX12_isMovable : Cond.selects RX12 yX12_isMovable yX12_isMovable ∈ wA := wA_S (i := 112) rfl rfl
theorem wmX12_letIn : Cond.instanceMethod yX12_letIn ∈ wA := wA_8 (i := 19) rfl rfl
theorem wvX12_letIn : Cond.selects RX12 yX12_letIn yX12_letIn ∈ wA := wA_8 (i := 20) rfl rfl
theorem wmX12_narrow : Cond.instanceMethod yX12_narrow ∈ wA := wA_8 (i := 30) rfl rfl
theorem wvX12_narrow : Cond.selects RX12 yX12_narrow yX12_narrow ∈ wA := wA_8 (i := 31) rfl rfl
theorem wmX12_narrowCost : Cond.instanceMethod yX12_narrowCost ∈ wA := wA_8 (i := 34) rfl rfl
theorem wvX12_narrowCost : Cond.selects RX12 yX12_narrowCost yX12_narrowCost ∈ wA := wA_8 (i := 35) rfl rfl
theorem wmX12_isLet : Cond.instanceMethod yX12_isLet ∈ wA := wA_8 (i := 43) rfl rfl
theorem wvX12_isLet : Cond.selects RX12 yX12_isLet yX12_isLet ∈ wA := wA_S (i := 113) rfl rfl
theorem wmX12_sell : Cond.instanceMethod yX12_sell ∈ wA := wA_8 (i := 38) rfl rfl
theorem wvX12_sell : Cond.selects RX12 yX12_sell yX12_sell ∈ wA := wA_8 (i := 39) rfl rfl
theorem wsX12_isDay_t : Cond.static yX12_isDay ∈ wA := wA_8 (i := 50) rfl rfl
theorem wmX12_isGood : Cond.instanceMethod yX12_isGood ∈ wA := wA_8 (i := 54) rfl rfl
theorem wvX12_isGood : Cond.selects RX12 yX12_isGood yX12_isGood ∈ wA := wA_S (i := 114) rfl rfl
theorem wmX12_good : Cond.instanceMethod yX12_good ∈ wA := wA_8 (i := 46) rfl rfl
theorem wvX12_good : Cond.selects RX12 yX12_good yX12_good ∈ wA := wA_8 (i := 47) rfl rfl
theorem wmX12_rankOf : Cond.instanceMethod yX12_rankOf ∈ wA := wA_8 (i := 66) rfl rfl
theorem wvX12_rankOf : Cond.selects RX12 yX12_rankOf yX12_rankOf ∈ wA := wA_S (i := 116) rfl rfl
theorem wmX12_rightOf : Cond.instanceMethod yX12_rightOf ∈ wA := wA_8 (i := 62) rfl rfl
theorem wvX12_rightOf : Cond.selects RX12 yX12_rightOf yX12_rightOf ∈ wA := wA_S (i := 115) rfl rfl
theorem wmX12_right : Cond.instanceMethod yX12_right ∈ wA := wA_8 (i := 57) rfl rfl
theorem wvX12_right : Cond.selects RX12 yX12_right yX12_right ∈ wA := wA_8 (i := 58) rfl rfl
theorem wmX12_middleOf : Cond.instanceMethod yX12_middleOf ∈ wA := wA_8 (i := 74) rfl rfl
theorem wvX12_middleOf : Cond.selects RX12 yX12_middleOf yX12_middleOf ∈ wA := wA_S (i := 117) rfl rfl
theorem wmX12_barred : Cond.instanceMethod yX12_barred ∈ wA := wA_8 (i := 69) rfl rfl
theorem wvX12_barred : Cond.selects RX12 yX12_barred yX12_barred ∈ wA := wA_8 (i := 70) rfl rfl
theorem wmX12_better : Cond.instanceMethod yX12_better ∈ wA := wA_8 (i := 86) rfl rfl
theorem wvX12_better : Cond.selects RX12 yX12_better yX12_better ∈ wA := wA_S (i := 119) rfl rfl
theorem wmX12_shareLand : Cond.instanceMethod yX12_shareLand ∈ wA := wA_8 (i := 82) rfl rfl
theorem wvX12_shareLand : Cond.selects RX12 yX12_shareLand yX12_shareLand ∈ wA := wA_S (i := 118) rfl rfl
theorem wmX12_shares : Cond.instanceMethod yX12_shares ∈ wA := wA_8 (i := 77) rfl rfl
theorem wvX12_shares : Cond.selects RX12 yX12_shares yX12_shares ∈ wA := wA_8 (i := 78) rfl rfl
theorem wmX12_driftOf : Cond.instanceMethod yX12_driftOf ∈ wA := wA_8 (i := 94) rfl rfl
theorem wvX12_driftOf : Cond.selects RX12 yX12_driftOf yX12_driftOf ∈ wA := wA_S (i := 120) rfl rfl
theorem wmX12_drift : Cond.instanceMethod yX12_drift ∈ wA := wA_8 (i := 89) rfl rfl
theorem wvX12_drift : Cond.selects RX12 yX12_drift yX12_drift ∈ wA := wA_8 (i := 90) rfl rfl
theorem wmX12_meets : Cond.instanceMethod yX12_meets ∈ wA := wA_8 (i := 97) rfl rfl
theorem wvX12_meets : Cond.selects RX12 yX12_meets yX12_meets ∈ wA := wA_8 (i := 98) rfl rfl
theorem wmX12_image : Cond.instanceMethod yX12_image ∈ wA := wA_8 (i := 101) rfl rfl
theorem wvX12_image : Cond.selects RX12 yX12_image yX12_image ∈ wA := wA_8 (i := 102) rfl rfl
theorem wmX12_restore : Cond.instanceMethod yX12_restore ∈ wA := wA_8 (i := 105) rfl rfl
theorem wvX12_restore : Cond.selects RX12 yX12_restore yX12_restore ∈ wA := wA_8 (i := 106) rfl rfl
theorem wmX12_count : Cond.instanceMethod yX12_count ∈ wA := wA_8 (i := 109) rfl rfl
theorem wvX12_count : Cond.selects RX12 yX12_count yX12_count ∈ wA := wA_8 (i := 110) rfl rfl
theorem wsJ6_bitCount_0f7a4_t : Cond.static yJ6_bitCount_0f7a4 ∈ wA := wA_5 (i := 151) rfl rfl
theorem wsJ9_floorMod_7cf53_t : Cond.static yJ9_floorMod_7cf53 ∈ wA := wA_5 (i := 115) rfl rfl
theorem wmJ0_length_8abf5 : Cond.instanceMethod yJ0_length_8abf5 ∈ wA := wA_3 (i := 3) rfl rfl
theorem wvJ0_length_8abf5 : Cond.selects RJ0 yJ0_length_8abf5 yJ0_length_8abf5 ∈ wA := wA_3 (i := 4) rfl rfl
theorem wmJ0_charAt_5068e : Cond.instanceMethod yJ0_charAt_5068e ∈ wA := wA_3 (i := 13) rfl rfl
theorem wvJ0_charAt_5068e : Cond.selects RJ0 yJ0_charAt_5068e yJ0_charAt_5068e ∈ wA := wA_3 (i := 14) rfl rfl
theorem wmJ0_coder_7d493 : Cond.instanceMethod yJ0_coder_7d493 ∈ wA := wA_3 (i := 7) rfl rfl
theorem wvJ0_coder_7d493 : Cond.selects RJ0 yJ0_coder_7d493 yJ0_coder_7d493 ∈ wA := wA_3 (i := 8) rfl rfl
theorem wmJ0_isLatin1_aae02 : Cond.instanceMethod yJ0_isLatin1_aae02 ∈ wA := wA_3 (i := 17) rfl rfl
theorem wvJ0_isLatin1_aae02 : Cond.selects RJ0 yJ0_isLatin1_aae02 yJ0_isLatin1_aae02 ∈ wA := wA_3 (i := 18) rfl rfl
theorem wsJ0_checkIndex_df160_t : Cond.static yJ0_checkIndex_df160 ∈ wA := wA_3 (i := 24) rfl rfl
theorem wsJ1_charAt_3b067_t : Cond.static yJ1_charAt_3b067 ∈ wA := wA_3 (i := 21) rfl rfl
theorem wsJ2_getChar_3b067_t : Cond.static yJ2_getChar_3b067 ∈ wA := wA_3 (i := 42) rfl rfl
theorem wsJ2_length_9d52b_t : Cond.static yJ2_length_9d52b ∈ wA := wA_3 (i := 38) rfl rfl
theorem wsJ2_charAt_3b067_t : Cond.static yJ2_charAt_3b067 ∈ wA := wA_3 (i := 32) rfl rfl
theorem wsJ2_checkIndex_2214a_t : Cond.static yJ2_checkIndex_2214a ∈ wA := wA_3 (i := 35) rfl rfl
theorem wsJ3_checkIndex_8e157_t : Cond.static yJ3_checkIndex_8e157 ∈ wA := wA_3 (i := 29) rfl rfl
theorem wiX0 : ∀ x ∈ u_ws RX0 TX0 5, x ∈ wA := by
  intro x hx
  obtain ⟨k, hk, rfl⟩ := List.mem_map.mp hx
  have hk := List.mem_range.mp hk
  match k, hk with
  | 0, _ => exact wA_2 (i := 62) rfl rfl
  | 1, _ => exact wA_2 (i := 64) rfl rfl
  | 2, _ => exact wA_2 (i := 66) rfl rfl
  | 3, _ => exact wA_2 (i := 68) rfl rfl
  | 4, _ => exact wA_2 (i := 70) rfl rfl
  | k + 5, hk => exact absurd hk (by omega)
theorem wiX1 : ∀ x ∈ u_ws RX1 TX1 6, x ∈ wA := by
  intro x hx
  obtain ⟨k, hk, rfl⟩ := List.mem_map.mp hx
  have hk := List.mem_range.mp hk
  match k, hk with
  | 0, _ => exact wA_2 (i := 86) rfl rfl
  | 1, _ => exact wA_2 (i := 88) rfl rfl
  | 2, _ => exact wA_2 (i := 90) rfl rfl
  | 3, _ => exact wA_2 (i := 92) rfl rfl
  | 4, _ => exact wA_2 (i := 94) rfl rfl
  | 5, _ => exact wA_2 (i := 96) rfl rfl
  | k + 6, hk => exact absurd hk (by omega)
theorem wiX2 : ∀ x ∈ u_ws RX2 TX2 8, x ∈ wA := by
  intro x hx
  obtain ⟨k, hk, rfl⟩ := List.mem_map.mp hx
  have hk := List.mem_range.mp hk
  match k, hk with
  | 0, _ => exact wA_1 (i := 239) rfl rfl
  | 1, _ => exact wA_2 (i := 1) rfl rfl
  | 2, _ => exact wA_2 (i := 3) rfl rfl
  | 3, _ => exact wA_2 (i := 5) rfl rfl
  | 4, _ => exact wA_2 (i := 7) rfl rfl
  | 5, _ => exact wA_2 (i := 9) rfl rfl
  | 6, _ => exact wA_2 (i := 11) rfl rfl
  | 7, _ => exact wA_2 (i := 13) rfl rfl
  | k + 8, hk => exact absurd hk (by omega)
theorem wiX3 : ∀ x ∈ u_ws RX3 TX3 1, x ∈ wA := by
  intro x hx
  obtain ⟨k, hk, rfl⟩ := List.mem_map.mp hx
  have hk := List.mem_range.mp hk
  match k, hk with
  | 0, _ => exact wA_2 (i := 106) rfl rfl
  | k + 1, hk => exact absurd hk (by omega)
theorem wiX4 : ∀ x ∈ u_ws RX4 TX4 11, x ∈ wA := by
  intro x hx
  obtain ⟨k, hk, rfl⟩ := List.mem_map.mp hx
  have hk := List.mem_range.mp hk
  match k, hk with
  | 0, _ => exact wA_1 (i := 158) rfl rfl
  | 1, _ => exact wA_1 (i := 160) rfl rfl
  | 2, _ => exact wA_1 (i := 162) rfl rfl
  | 3, _ => exact wA_1 (i := 164) rfl rfl
  | 4, _ => exact wA_1 (i := 166) rfl rfl
  | 5, _ => exact wA_1 (i := 168) rfl rfl
  | 6, _ => exact wA_1 (i := 170) rfl rfl
  | 7, _ => exact wA_1 (i := 172) rfl rfl
  | 8, _ => exact wA_1 (i := 174) rfl rfl
  | 9, _ => exact wA_1 (i := 176) rfl rfl
  | 10, _ => exact wA_1 (i := 178) rfl rfl
  | k + 11, hk => exact absurd hk (by omega)
theorem wiX5 : ∀ x ∈ u_ws RX5 TX5 8, x ∈ wA := by
  intro x hx
  obtain ⟨k, hk, rfl⟩ := List.mem_map.mp hx
  have hk := List.mem_range.mp hk
  match k, hk with
  | 0, _ => exact wA_1 (i := 86) rfl rfl
  | 1, _ => exact wA_1 (i := 88) rfl rfl
  | 2, _ => exact wA_1 (i := 90) rfl rfl
  | 3, _ => exact wA_1 (i := 92) rfl rfl
  | 4, _ => exact wA_1 (i := 94) rfl rfl
  | 5, _ => exact wA_1 (i := 96) rfl rfl
  | 6, _ => exact wA_1 (i := 98) rfl rfl
  | 7, _ => exact wA_1 (i := 100) rfl rfl
  | k + 8, hk => exact absurd hk (by omega)
theorem wiX6 : ∀ x ∈ u_ws RX6 TX6 9, x ∈ wA := by
  intro x hx
  obtain ⟨k, hk, rfl⟩ := List.mem_map.mp hx
  have hk := List.mem_range.mp hk
  match k, hk with
  | 0, _ => exact wA_2 (i := 31) rfl rfl
  | 1, _ => exact wA_2 (i := 33) rfl rfl
  | 2, _ => exact wA_2 (i := 35) rfl rfl
  | 3, _ => exact wA_2 (i := 37) rfl rfl
  | 4, _ => exact wA_2 (i := 39) rfl rfl
  | 5, _ => exact wA_2 (i := 41) rfl rfl
  | 6, _ => exact wA_2 (i := 43) rfl rfl
  | 7, _ => exact wA_2 (i := 45) rfl rfl
  | 8, _ => exact wA_2 (i := 47) rfl rfl
  | k + 9, hk => exact absurd hk (by omega)
theorem wiX7 : ∀ x ∈ u_ws RX7 TX7 6, x ∈ wA := by
  intro x hx
  obtain ⟨k, hk, rfl⟩ := List.mem_map.mp hx
  have hk := List.mem_range.mp hk
  match k, hk with
  | 0, _ => exact wA_2 (i := 123) rfl rfl
  | 1, _ => exact wA_2 (i := 125) rfl rfl
  | 2, _ => exact wA_2 (i := 127) rfl rfl
  | 3, _ => exact wA_2 (i := 129) rfl rfl
  | 4, _ => exact wA_2 (i := 131) rfl rfl
  | 5, _ => exact wA_2 (i := 133) rfl rfl
  | k + 6, hk => exact absurd hk (by omega)
theorem wiX8 : ∀ x ∈ u_ws RX8 TX8 7, x ∈ wA := by
  intro x hx
  obtain ⟨k, hk, rfl⟩ := List.mem_map.mp hx
  have hk := List.mem_range.mp hk
  match k, hk with
  | 0, _ => exact wA_1 (i := 208) rfl rfl
  | 1, _ => exact wA_1 (i := 210) rfl rfl
  | 2, _ => exact wA_1 (i := 212) rfl rfl
  | 3, _ => exact wA_1 (i := 214) rfl rfl
  | 4, _ => exact wA_1 (i := 216) rfl rfl
  | 5, _ => exact wA_1 (i := 218) rfl rfl
  | 6, _ => exact wA_1 (i := 220) rfl rfl
  | k + 7, hk => exact absurd hk (by omega)
theorem wiX9 : ∀ x ∈ u_ws RX9 TX9 8, x ∈ wA := by
  intro x hx
  obtain ⟨k, hk, rfl⟩ := List.mem_map.mp hx
  have hk := List.mem_range.mp hk
  match k, hk with
  | 0, _ => exact wA_1 (i := 128) rfl rfl
  | 1, _ => exact wA_1 (i := 130) rfl rfl
  | 2, _ => exact wA_1 (i := 132) rfl rfl
  | 3, _ => exact wA_1 (i := 134) rfl rfl
  | 4, _ => exact wA_1 (i := 136) rfl rfl
  | 5, _ => exact wA_1 (i := 138) rfl rfl
  | 6, _ => exact wA_1 (i := 140) rfl rfl
  | 7, _ => exact wA_1 (i := 142) rfl rfl
  | k + 8, hk => exact absurd hk (by omega)
theorem wiX11 : ∀ x ∈ u_ws RX11 TX11 18, x ∈ wA := by
  intro x hx
  obtain ⟨k, hk, rfl⟩ := List.mem_map.mp hx
  have hk := List.mem_range.mp hk
  match k, hk with
  | 0, _ => exact wA_2 (i := 154) rfl rfl
  | 1, _ => exact wA_2 (i := 156) rfl rfl
  | 2, _ => exact wA_2 (i := 158) rfl rfl
  | 3, _ => exact wA_2 (i := 160) rfl rfl
  | 4, _ => exact wA_2 (i := 162) rfl rfl
  | 5, _ => exact wA_2 (i := 164) rfl rfl
  | 6, _ => exact wA_2 (i := 166) rfl rfl
  | 7, _ => exact wA_2 (i := 168) rfl rfl
  | 8, _ => exact wA_2 (i := 170) rfl rfl
  | 9, _ => exact wA_2 (i := 172) rfl rfl
  | 10, _ => exact wA_2 (i := 174) rfl rfl
  | 11, _ => exact wA_2 (i := 176) rfl rfl
  | 12, _ => exact wA_2 (i := 178) rfl rfl
  | 13, _ => exact wA_2 (i := 180) rfl rfl
  | 14, _ => exact wA_2 (i := 182) rfl rfl
  | 15, _ => exact wA_2 (i := 184) rfl rfl
  | 16, _ => exact wA_2 (i := 186) rfl rfl
  | 17, _ => exact wA_2 (i := 188) rfl rfl
  | k + 18, hk => exact absurd hk (by omega)
theorem wiX12 : ∀ x ∈ u_ws RX12 TX12 46, x ∈ wA := by
  intro x hx
  obtain ⟨k, hk, rfl⟩ := List.mem_map.mp hx
  have hk := List.mem_range.mp hk
  match k, hk with
  | 0, _ => exact wA_6 (i := 79) rfl rfl
  | 1, _ => exact wA_6 (i := 81) rfl rfl
  | 2, _ => exact wA_6 (i := 83) rfl rfl
  | 3, _ => exact wA_6 (i := 85) rfl rfl
  | 4, _ => exact wA_6 (i := 87) rfl rfl
  | 5, _ => exact wA_6 (i := 89) rfl rfl
  | 6, _ => exact wA_6 (i := 91) rfl rfl
  | 7, _ => exact wA_6 (i := 93) rfl rfl
  | 8, _ => exact wA_6 (i := 95) rfl rfl
  | 9, _ => exact wA_6 (i := 97) rfl rfl
  | 10, _ => exact wA_6 (i := 99) rfl rfl
  | 11, _ => exact wA_6 (i := 101) rfl rfl
  | 12, _ => exact wA_6 (i := 103) rfl rfl
  | 13, _ => exact wA_6 (i := 105) rfl rfl
  | 14, _ => exact wA_6 (i := 107) rfl rfl
  | 15, _ => exact wA_6 (i := 109) rfl rfl
  | 16, _ => exact wA_6 (i := 111) rfl rfl
  | 17, _ => exact wA_6 (i := 113) rfl rfl
  | 18, _ => exact wA_6 (i := 115) rfl rfl
  | 19, _ => exact wA_6 (i := 117) rfl rfl
  | 20, _ => exact wA_6 (i := 119) rfl rfl
  | 21, _ => exact wA_6 (i := 121) rfl rfl
  | 22, _ => exact wA_6 (i := 123) rfl rfl
  | 23, _ => exact wA_6 (i := 125) rfl rfl
  | 24, _ => exact wA_6 (i := 127) rfl rfl
  | 25, _ => exact wA_6 (i := 129) rfl rfl
  | 26, _ => exact wA_6 (i := 131) rfl rfl
  | 27, _ => exact wA_6 (i := 133) rfl rfl
  | 28, _ => exact wA_6 (i := 135) rfl rfl
  | 29, _ => exact wA_6 (i := 137) rfl rfl
  | 30, _ => exact wA_6 (i := 139) rfl rfl
  | 31, _ => exact wA_6 (i := 141) rfl rfl
  | 32, _ => exact wA_6 (i := 143) rfl rfl
  | 33, _ => exact wA_6 (i := 145) rfl rfl
  | 34, _ => exact wA_6 (i := 147) rfl rfl
  | 35, _ => exact wA_6 (i := 149) rfl rfl
  | 36, _ => exact wA_6 (i := 151) rfl rfl
  | 37, _ => exact wA_6 (i := 153) rfl rfl
  | 38, _ => exact wA_6 (i := 155) rfl rfl
  | 39, _ => exact wA_6 (i := 157) rfl rfl
  | 40, _ => exact wA_6 (i := 159) rfl rfl
  | 41, _ => exact wA_6 (i := 161) rfl rfl
  | 42, _ => exact wA_6 (i := 163) rfl rfl
  | 43, _ => exact wA_6 (i := 165) rfl rfl
  | 44, _ => exact wA_6 (i := 167) rfl rfl
  | 45, _ => exact wA_6 (i := 169) rfl rfl
  | k + 46, hk => exact absurd hk (by omega)
theorem wkJ6_265 : Cond.constant RJ6 265 (1431655765) ∈ wA := wA_5 (i := 153) rfl rfl
theorem wkJ6_266 : Cond.constant RJ6 266 (858993459) ∈ wA := wA_5 (i := 154) rfl rfl
theorem wkJ6_267 : Cond.constant RJ6 267 (252645135) ∈ wA := wA_5 (i := 155) rfl rfl
theorem wkX12_344 : Cond.constant RX12 344 (100000) ∈ wA := wA_8 (i := 13) rfl rfl
theorem wkX12_137 : Cond.constantLong RX12 137 (27) ∈ wA := wA_6 (i := 214) rfl rfl
theorem wkX12_139 : Cond.constantLong RX12 139 (96) ∈ wA := wA_6 (i := 215) rfl rfl
theorem wxsmax : Cond.static Lib.Math.max.name ∈ wA := wA_4 (i := 86) rfl rfl
theorem wxcmax : Cond.code Lib.Math.max.name Lib.Math.max.code 2 (some .int) ∈ wA := wA_4 (i := 87) rfl rfl
theorem wxsmin : Cond.static Lib.Math.min.name ∈ wA := wA_2 (i := 216) rfl rfl
theorem wxcmin : Cond.code Lib.Math.min.name Lib.Math.min.code 2 (some .int) ∈ wA := wA_2 (i := 217) rfl rfl
theorem wxmi : Cond.initialized "java/lang/Math" ∈ wA := wA_1 (i := 13) rfl rfl
theorem wxsi : Cond.initialized "java/lang/System" ∈ wA := wA_1 (i := 20) rfl rfl
theorem wxnc : Cond.native arraycopyName ∈ wA := wA_3 (i := 192) rfl rfl
theorem wxsc : Cond.static arraycopyName ∈ wA := wA_3 (i := 191) rfl rfl
