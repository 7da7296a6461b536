def lw_big : List Cond := lw_tbl.filter goodWord
theorem bg {w : Cond} (h : w ∈ lw_tbl) (g : goodWord w = true) : w ∈ lw_big := List.mem_filter.mpr ⟨h, g⟩
theorem big_in {w : Cond} (h : w ∈ lw_big) : w ∈ lw_tbl := (List.mem_filter.mp h).1
theorem big_good {w : Cond} (h : w ∈ lw_big) : (w.onTables && w.keeps) = true ∨ ∃ ty, w = .arrayClass ty := good_of_word (List.mem_filter.mp h).2
theorem big_gi {c : Cond} {b : List Cond} (hb : ∀ w ∈ lw_big, w ∈ b) (hc : c ∈ lw_big) : GoodIn b (c :: lw_big) := fun w hw => (List.mem_cons.mp hw).elim (fun e => by rw [e]; exact ⟨hb _ hc, big_good hc⟩) (fun h => ⟨hb _ h, big_good h⟩)
theorem in0 {w : Cond} (h : w ∈ k2_sels lw_privs) : w ∈ lw_tbl := List.mem_append_left _ h
theorem inT {w : Cond} (h : w ∈ tables_1) : w ∈ lw_tbl := List.mem_append_right _ h
theorem in1 {w : Cond} (h : w ∈ tables_1_1) : w ∈ lw_tbl := inT (List.mem_append_left _ h)
theorem in2 {w : Cond} (h : w ∈ tables_1_2) : w ∈ lw_tbl := inT (List.mem_append_right _ (List.mem_append_left _ h))
theorem in3 {w : Cond} (h : w ∈ tables_1_3) : w ∈ lw_tbl := inT (List.mem_append_right _ (List.mem_append_right _ (List.mem_append_left _ h)))
theorem in4 {w : Cond} (h : w ∈ tables_1_4) : w ∈ lw_tbl := inT (List.mem_append_right _ (List.mem_append_right _ (List.mem_append_right _ (List.mem_append_left _ h))))
theorem in5 {w : Cond} (h : w ∈ tables_1_5) : w ∈ lw_tbl := inT (List.mem_append_right _ (List.mem_append_right _ (List.mem_append_right _ (List.mem_append_right _ (h)))))
theorem lfX9_12 : Cond.fieldLink RX9 12 "PictureReel" "reader" "LPictureReel$StreamReader;" ∈ lw_big := bg (in2 (List.mem_of_getElem? (i := 126) rfl)) rfl
theorem lfX9_16 : Cond.fieldLink RX9 16 "PictureReel$StreamReader" "source" "LPictureReel$ByteRow;" ∈ lw_big := bg (in2 (List.mem_of_getElem? (i := 23) rfl)) rfl
theorem lfX9_20 : Cond.fieldLink RX9 20 "PictureReel" "tape" "LPictureReel$ByteRow;" ∈ lw_big := bg (in2 (List.mem_of_getElem? (i := 125) rfl)) rfl
theorem lfX9_26 : Cond.fieldLink RX9 26 "PictureReel" "made" "LPictureReel$ByteRow;" ∈ lw_big := bg (in2 (List.mem_of_getElem? (i := 129) rfl)) rfl
theorem lfX9_32 : Cond.fieldLink RX9 32 "PictureReel" "picture" "LPictureReel$Picture;" ∈ lw_big := bg (in2 (List.mem_of_getElem? (i := 128) rfl)) rfl
theorem lfX9_39 : Cond.fieldLink RX9 39 "PictureReel" "writer" "LPictureReel$StreamWriter;" ∈ lw_big := bg (in2 (List.mem_of_getElem? (i := 127) rfl)) rfl
theorem lfX9_43 : Cond.fieldLink RX9 43 "PictureReel" "hasRead" "Z" ∈ lw_big := bg (in2 (List.mem_of_getElem? (i := 130) rfl)) rfl
theorem lfX9_47 : Cond.fieldLink RX9 47 "PictureReel$ByteRow" "size" "I" ∈ lw_big := bg (in1 (List.mem_of_getElem? (i := 37) rfl)) rfl
theorem lfX9_65 : Cond.fieldLink RX9 65 "PictureReel$StreamReader" "kind" "I" ∈ lw_big := bg (in2 (List.mem_of_getElem? (i := 33) rfl)) rfl
theorem lfX9_72 : Cond.fieldLink RX9 72 "PictureReel$Picture" "frameCount" "I" ∈ lw_big := bg (in2 (List.mem_of_getElem? (i := 0) rfl)) rfl
theorem lfX9_75 : Cond.fieldLink RX9 75 "PictureReel$StreamReader" "place" "I" ∈ lw_big := bg (in2 (List.mem_of_getElem? (i := 35) rfl)) rfl
theorem lfX9_102 : Cond.fieldLink RX9 102 "PictureReel$Table" "colours" "[I" ∈ lw_big := bg (in1 (List.mem_of_getElem? (i := 149) rfl)) rfl
theorem lfX9_126 : Cond.fieldLink RX9 126 "PictureReel$Frame" "ways" "LPictureReel$Ways;" ∈ lw_big := bg (in1 (List.mem_of_getElem? (i := 196) rfl)) rfl
theorem lfX9_160 : Cond.fieldLink RX9 160 "PictureReel$Picture" "width" "I" ∈ lw_big := bg (in1 (List.mem_of_getElem? (i := 228) rfl)) rfl
theorem lfX9_163 : Cond.fieldLink RX9 163 "PictureReel$Picture" "height" "I" ∈ lw_big := bg (in1 (List.mem_of_getElem? (i := 231) rfl)) rfl
theorem lfX9_166 : Cond.fieldLink RX9 166 "PictureReel$Picture" "global" "LPictureReel$Table;" ∈ lw_big := bg (in2 (List.mem_of_getElem? (i := 4) rfl)) rfl
theorem lfX9_170 : Cond.fieldLink RX9 170 "PictureReel$Table" "size" "I" ∈ lw_big := bg (in1 (List.mem_of_getElem? (i := 156) rfl)) rfl
theorem lfX9_171 : Cond.fieldLink RX9 171 "PictureReel$Picture" "background" "I" ∈ lw_big := bg (in1 (List.mem_of_getElem? (i := 234) rfl)) rfl
theorem lfX9_174 : Cond.fieldLink RX9 174 "PictureReel$Picture" "aspect" "I" ∈ lw_big := bg (in1 (List.mem_of_getElem? (i := 237) rfl)) rfl
theorem lfX9_177 : Cond.fieldLink RX9 177 "PictureReel$Frame" "left" "I" ∈ lw_big := bg (in1 (List.mem_of_getElem? (i := 175) rfl)) rfl
theorem lfX9_180 : Cond.fieldLink RX9 180 "PictureReel$Frame" "top" "I" ∈ lw_big := bg (in1 (List.mem_of_getElem? (i := 178) rfl)) rfl
theorem lfX9_183 : Cond.fieldLink RX9 183 "PictureReel$Frame" "width" "I" ∈ lw_big := bg (in1 (List.mem_of_getElem? (i := 181) rfl)) rfl
theorem lfX9_184 : Cond.fieldLink RX9 184 "PictureReel$Frame" "height" "I" ∈ lw_big := bg (in1 (List.mem_of_getElem? (i := 184) rfl)) rfl
theorem lfX9_185 : Cond.fieldLink RX9 185 "PictureReel$Frame" "local" "LPictureReel$Table;" ∈ lw_big := bg (in1 (List.mem_of_getElem? (i := 192) rfl)) rfl
theorem lfX9_188 : Cond.fieldLink RX9 188 "PictureReel$Frame" "interlaced" "Z" ∈ lw_big := bg (in1 (List.mem_of_getElem? (i := 188) rfl)) rfl
theorem lfX9_191 : Cond.fieldLink RX9 191 "PictureReel$Ways" "disposal" "I" ∈ lw_big := bg (in1 (List.mem_of_getElem? (i := 115) rfl)) rfl
theorem lfX9_194 : Cond.fieldLink RX9 194 "PictureReel$Ways" "transparent" "I" ∈ lw_big := bg (in1 (List.mem_of_getElem? (i := 119) rfl)) rfl
theorem lfX9_197 : Cond.fieldLink RX9 197 "PictureReel$Ways" "delay" "I" ∈ lw_big := bg (in1 (List.mem_of_getElem? (i := 122) rfl)) rfl
theorem lfX9_200 : Cond.fieldLink RX9 200 "PictureReel$Ways" "input" "Z" ∈ lw_big := bg (in1 (List.mem_of_getElem? (i := 125) rfl)) rfl
theorem lfX9_203 : Cond.fieldLink RX9 203 "PictureReel$Frame" "places" "[I" ∈ lw_big := bg (in1 (List.mem_of_getElem? (i := 200) rfl)) rfl
theorem lfX0_9 : Cond.fieldLink RX0 9 "PictureReel$ByteRow" "bytes" "[I" ∈ lw_big := bg (in1 (List.mem_of_getElem? (i := 35) rfl)) rfl
theorem lfX0_15 : Cond.fieldLink RX0 15 "PictureReel$ByteRow" "size" "I" ∈ lw_big := bg (in1 (List.mem_of_getElem? (i := 36) rfl)) rfl
theorem lfX0_19 : Cond.fieldLink RX0 19 "PictureReel$ByteRow" "over" "Z" ∈ lw_big := bg (in1 (List.mem_of_getElem? (i := 41) rfl)) rfl
theorem lfX1_12 : Cond.fieldLink RX1 12 "PictureReel$CodeReader" "bytes" "LPictureReel$ByteRow;" ∈ lw_big := bg (in1 (List.mem_of_getElem? (i := 59) rfl)) rfl
theorem lfX1_18 : Cond.fieldLink RX1 18 "PictureReel$CodeReader" "order" "[I" ∈ lw_big := bg (in1 (List.mem_of_getElem? (i := 61) rfl)) rfl
theorem lfX1_22 : Cond.fieldLink RX1 22 "PictureReel$CodeReader" "ahead" "[I" ∈ lw_big := bg (in1 (List.mem_of_getElem? (i := 63) rfl)) rfl
theorem lfX1_25 : Cond.fieldLink RX1 25 "PictureReel$CodeReader" "first" "[I" ∈ lw_big := bg (in1 (List.mem_of_getElem? (i := 64) rfl)) rfl
theorem lfX1_28 : Cond.fieldLink RX1 28 "PictureReel$CodeReader" "last" "[I" ∈ lw_big := bg (in1 (List.mem_of_getElem? (i := 65) rfl)) rfl
theorem lfX1_31 : Cond.fieldLink RX1 31 "PictureReel$CodeReader" "lengths" "[I" ∈ lw_big := bg (in1 (List.mem_of_getElem? (i := 66) rfl)) rfl
theorem lfX1_42 : Cond.fieldLink RX1 42 "PictureReel$ByteRow" "size" "I" ∈ lw_big := bg (in1 (List.mem_of_getElem? (i := 38) rfl)) rfl
theorem lfX1_46 : Cond.fieldLink RX1 46 "PictureReel$CodeReader" "done" "I" ∈ lw_big := bg (in1 (List.mem_of_getElem? (i := 72) rfl)) rfl
theorem lfX1_49 : Cond.fieldLink RX1 49 "PictureReel$CodeReader" "bitAt" "I" ∈ lw_big := bg (in1 (List.mem_of_getElem? (i := 68) rfl)) rfl
theorem lfX1_63 : Cond.fieldLink RX1 63 "PictureReel$CodeReader" "least" "I" ∈ lw_big := bg (in1 (List.mem_of_getElem? (i := 67) rfl)) rfl
theorem lfX1_66 : Cond.fieldLink RX1 66 "PictureReel$CodeReader" "bits" "I" ∈ lw_big := bg (in1 (List.mem_of_getElem? (i := 69) rfl)) rfl
theorem lfX1_69 : Cond.fieldLink RX1 69 "PictureReel$CodeReader" "next" "I" ∈ lw_big := bg (in1 (List.mem_of_getElem? (i := 70) rfl)) rfl
theorem lfX1_72 : Cond.fieldLink RX1 72 "PictureReel$CodeReader" "former" "I" ∈ lw_big := bg (in1 (List.mem_of_getElem? (i := 71) rfl)) rfl
theorem lfX2_12 : Cond.fieldLink RX2 12 "PictureReel$CodeWriter" "bytes" "LPictureReel$ByteRow;" ∈ lw_big := bg (in2 (List.mem_of_getElem? (i := 77) rfl)) rfl
theorem lfX2_18 : Cond.fieldLink RX2 18 "PictureReel$CodeWriter" "order" "[I" ∈ lw_big := bg (in2 (List.mem_of_getElem? (i := 79) rfl)) rfl
theorem lfX2_22 : Cond.fieldLink RX2 22 "PictureReel$CodeWriter" "child" "[I" ∈ lw_big := bg (in2 (List.mem_of_getElem? (i := 81) rfl)) rfl
theorem lfX2_25 : Cond.fieldLink RX2 25 "PictureReel$CodeWriter" "sibling" "[I" ∈ lw_big := bg (in2 (List.mem_of_getElem? (i := 82) rfl)) rfl
theorem lfX2_28 : Cond.fieldLink RX2 28 "PictureReel$CodeWriter" "last" "[I" ∈ lw_big := bg (in2 (List.mem_of_getElem? (i := 83) rfl)) rfl
theorem lfX2_31 : Cond.fieldLink RX2 31 "PictureReel$CodeWriter" "least" "I" ∈ lw_big := bg (in2 (List.mem_of_getElem? (i := 84) rfl)) rfl
theorem lfX2_38 : Cond.fieldLink RX2 38 "PictureReel$CodeWriter" "held" "I" ∈ lw_big := bg (in2 (List.mem_of_getElem? (i := 89) rfl)) rfl
theorem lfX2_41 : Cond.fieldLink RX2 41 "PictureReel$CodeWriter" "heldBits" "I" ∈ lw_big := bg (in2 (List.mem_of_getElem? (i := 90) rfl)) rfl
theorem lfX2_44 : Cond.fieldLink RX2 44 "PictureReel$CodeWriter" "at" "I" ∈ lw_big := bg (in2 (List.mem_of_getElem? (i := 88) rfl)) rfl
theorem lfX2_51 : Cond.fieldLink RX2 51 "PictureReel$CodeWriter" "next" "I" ∈ lw_big := bg (in2 (List.mem_of_getElem? (i := 86) rfl)) rfl
theorem lfX2_54 : Cond.fieldLink RX2 54 "PictureReel$CodeWriter" "bits" "I" ∈ lw_big := bg (in2 (List.mem_of_getElem? (i := 85) rfl)) rfl
theorem lfX2_67 : Cond.fieldLink RX2 67 "PictureReel$CodeWriter" "former" "I" ∈ lw_big := bg (in2 (List.mem_of_getElem? (i := 87) rfl)) rfl
theorem lfX3_9 : Cond.fieldLink RX3 9 "PictureReel$Frame" "left" "I" ∈ lw_big := bg (in1 (List.mem_of_getElem? (i := 173) rfl)) rfl
theorem lfX3_15 : Cond.fieldLink RX3 15 "PictureReel$Frame" "top" "I" ∈ lw_big := bg (in1 (List.mem_of_getElem? (i := 176) rfl)) rfl
theorem lfX3_18 : Cond.fieldLink RX3 18 "PictureReel$Frame" "width" "I" ∈ lw_big := bg (in1 (List.mem_of_getElem? (i := 179) rfl)) rfl
theorem lfX3_21 : Cond.fieldLink RX3 21 "PictureReel$Frame" "height" "I" ∈ lw_big := bg (in1 (List.mem_of_getElem? (i := 182) rfl)) rfl
theorem lfX3_24 : Cond.fieldLink RX3 24 "PictureReel$Frame" "interlaced" "Z" ∈ lw_big := bg (in1 (List.mem_of_getElem? (i := 185) rfl)) rfl
theorem lfX3_31 : Cond.fieldLink RX3 31 "PictureReel$Frame" "local" "LPictureReel$Table;" ∈ lw_big := bg (in1 (List.mem_of_getElem? (i := 189) rfl)) rfl
theorem lfX3_38 : Cond.fieldLink RX3 38 "PictureReel$Frame" "ways" "LPictureReel$Ways;" ∈ lw_big := bg (in1 (List.mem_of_getElem? (i := 194) rfl)) rfl
theorem lfX3_42 : Cond.fieldLink RX3 42 "PictureReel$Frame" "places" "[I" ∈ lw_big := bg (in1 (List.mem_of_getElem? (i := 199) rfl)) rfl
theorem lfX3_67 : Cond.fieldLink RX3 67 "PictureReel$Frame" "PASS_STARTS" "[I" ∈ lw_big := bg (in3 (List.mem_of_getElem? (i := 79) rfl)) rfl
theorem lfX3_70 : Cond.fieldLink RX3 70 "PictureReel$Frame" "PASS_SHIFTS" "[I" ∈ lw_big := bg (in3 (List.mem_of_getElem? (i := 81) rfl)) rfl
theorem lfX4_12 : Cond.fieldLink RX4 12 "PictureReel$Picture" "global" "LPictureReel$Table;" ∈ lw_big := bg (in2 (List.mem_of_getElem? (i := 1) rfl)) rfl
theorem lfX4_20 : Cond.fieldLink RX4 20 "PictureReel$Picture" "frames" "[LPictureReel$Frame;" ∈ lw_big := bg (in2 (List.mem_of_getElem? (i := 5) rfl)) rfl
theorem lfX4_29 : Cond.fieldLink RX4 29 "PictureReel$Picture" "width" "I" ∈ lw_big := bg (in1 (List.mem_of_getElem? (i := 226) rfl)) rfl
theorem lfX4_33 : Cond.fieldLink RX4 33 "PictureReel$Picture" "height" "I" ∈ lw_big := bg (in1 (List.mem_of_getElem? (i := 229) rfl)) rfl
theorem lfX4_36 : Cond.fieldLink RX4 36 "PictureReel$Picture" "background" "I" ∈ lw_big := bg (in1 (List.mem_of_getElem? (i := 232) rfl)) rfl
theorem lfX4_39 : Cond.fieldLink RX4 39 "PictureReel$Picture" "aspect" "I" ∈ lw_big := bg (in1 (List.mem_of_getElem? (i := 235) rfl)) rfl
theorem lfX4_42 : Cond.fieldLink RX4 42 "PictureReel$Picture" "frameCount" "I" ∈ lw_big := bg (in1 (List.mem_of_getElem? (i := 238) rfl)) rfl
theorem lfX4_48 : Cond.fieldLink RX4 48 "PictureReel$Table" "size" "I" ∈ lw_big := bg (in1 (List.mem_of_getElem? (i := 154) rfl)) rfl
theorem lfX4_51 : Cond.fieldLink RX4 51 "PictureReel$Frame" "local" "LPictureReel$Table;" ∈ lw_big := bg (in1 (List.mem_of_getElem? (i := 190) rfl)) rfl
theorem lfX4_57 : Cond.fieldLink RX4 57 "PictureReel$Frame" "interlaced" "Z" ∈ lw_big := bg (in1 (List.mem_of_getElem? (i := 187) rfl)) rfl
theorem lfX4_65 : Cond.fieldLink RX4 65 "PictureReel$Table" "colours" "[I" ∈ lw_big := bg (in1 (List.mem_of_getElem? (i := 150) rfl)) rfl
theorem lfX4_85 : Cond.fieldLink RX4 85 "PictureReel$Frame" "ways" "LPictureReel$Ways;" ∈ lw_big := bg (in1 (List.mem_of_getElem? (i := 197) rfl)) rfl
theorem lfX4_89 : Cond.fieldLink RX4 89 "PictureReel$Ways" "transparent" "I" ∈ lw_big := bg (in1 (List.mem_of_getElem? (i := 118) rfl)) rfl
theorem lfX4_98 : Cond.fieldLink RX4 98 "PictureReel$Ways" "disposal" "I" ∈ lw_big := bg (in1 (List.mem_of_getElem? (i := 114) rfl)) rfl
theorem lfX5_12 : Cond.fieldLink RX5 12 "PictureReel$StreamReader" "source" "LPictureReel$ByteRow;" ∈ lw_big := bg (in2 (List.mem_of_getElem? (i := 22) rfl)) rfl
theorem lfX5_21 : Cond.fieldLink RX5 21 "PictureReel$StreamReader" "codes" "LPictureReel$CodeReader;" ∈ lw_big := bg (in2 (List.mem_of_getElem? (i := 24) rfl)) rfl
theorem lfX5_28 : Cond.fieldLink RX5 28 "PictureReel$StreamReader" "pending" "LPictureReel$Ways;" ∈ lw_big := bg (in2 (List.mem_of_getElem? (i := 25) rfl)) rfl
theorem lfX5_35 : Cond.fieldLink RX5 35 "PictureReel$StreamReader" "draft" "LPictureReel$Picture;" ∈ lw_big := bg (in2 (List.mem_of_getElem? (i := 26) rfl)) rfl
theorem lfX5_39 : Cond.fieldLink RX5 39 "PictureReel$StreamReader" "kind" "I" ∈ lw_big := bg (in2 (List.mem_of_getElem? (i := 32) rfl)) rfl
theorem lfX5_43 : Cond.fieldLink RX5 43 "PictureReel$StreamReader" "place" "I" ∈ lw_big := bg (in2 (List.mem_of_getElem? (i := 34) rfl)) rfl
theorem lfX5_46 : Cond.fieldLink RX5 46 "PictureReel$ByteRow" "size" "I" ∈ lw_big := bg (in1 (List.mem_of_getElem? (i := 39) rfl)) rfl
theorem lfX5_55 : Cond.fieldLink RX5 55 "PictureReel$StreamReader" "length" "I" ∈ lw_big := bg (in2 (List.mem_of_getElem? (i := 27) rfl)) rfl
theorem lfX5_58 : Cond.fieldLink RX5 58 "PictureReel$StreamReader" "at" "I" ∈ lw_big := bg (in2 (List.mem_of_getElem? (i := 28) rfl)) rfl
theorem lfX5_61 : Cond.fieldLink RX5 61 "PictureReel$StreamReader" "older" "Z" ∈ lw_big := bg (in2 (List.mem_of_getElem? (i := 29) rfl)) rfl
theorem lfX5_65 : Cond.fieldLink RX5 65 "PictureReel$StreamReader" "ended" "Z" ∈ lw_big := bg (in2 (List.mem_of_getElem? (i := 31) rfl)) rfl
theorem lfX5_113 : Cond.fieldLink RX5 113 "PictureReel$Picture" "global" "LPictureReel$Table;" ∈ lw_big := bg (in2 (List.mem_of_getElem? (i := 3) rfl)) rfl
theorem lfX5_121 : Cond.fieldLink RX5 121 "PictureReel$Table" "size" "I" ∈ lw_big := bg (in1 (List.mem_of_getElem? (i := 155) rfl)) rfl
theorem lfX5_122 : Cond.fieldLink RX5 122 "PictureReel$Table" "colours" "[I" ∈ lw_big := bg (in1 (List.mem_of_getElem? (i := 151) rfl)) rfl
theorem lfX5_132 : Cond.fieldLink RX5 132 "PictureReel$StreamReader" "controlled" "Z" ∈ lw_big := bg (in2 (List.mem_of_getElem? (i := 30) rfl)) rfl
theorem lfX5_172 : Cond.fieldLink RX5 172 "PictureReel$CodeReader" "order" "[I" ∈ lw_big := bg (in1 (List.mem_of_getElem? (i := 62) rfl)) rfl
theorem lfX5_194 : Cond.fieldLink RX5 194 "PictureReel$Frame" "ways" "LPictureReel$Ways;" ∈ lw_big := bg (in1 (List.mem_of_getElem? (i := 198) rfl)) rfl
theorem lfX5_201 : Cond.fieldLink RX5 201 "PictureReel$Frame" "local" "LPictureReel$Table;" ∈ lw_big := bg (in1 (List.mem_of_getElem? (i := 193) rfl)) rfl
theorem lfX5_204 : Cond.fieldLink RX5 204 "PictureReel$CodeReader" "bytes" "LPictureReel$ByteRow;" ∈ lw_big := bg (in1 (List.mem_of_getElem? (i := 60) rfl)) rfl
theorem lfX6_12 : Cond.fieldLink RX6 12 "PictureReel$StreamWriter" "codes" "LPictureReel$CodeWriter;" ∈ lw_big := bg (in2 (List.mem_of_getElem? (i := 118) rfl)) rfl
theorem lfX6_21 : Cond.fieldLink RX6 21 "PictureReel$StreamWriter" "draft" "LPictureReel$ByteRow;" ∈ lw_big := bg (in2 (List.mem_of_getElem? (i := 119) rfl)) rfl
theorem lfX6_32 : Cond.fieldLink RX6 32 "PictureReel$Picture" "frameCount" "I" ∈ lw_big := bg (in1 (List.mem_of_getElem? (i := 239) rfl)) rfl
theorem lfX6_38 : Cond.fieldLink RX6 38 "PictureReel$ByteRow" "over" "Z" ∈ lw_big := bg (in1 (List.mem_of_getElem? (i := 42) rfl)) rfl
theorem lfX6_42 : Cond.fieldLink RX6 42 "PictureReel$Picture" "frames" "[LPictureReel$Frame;" ∈ lw_big := bg (in2 (List.mem_of_getElem? (i := 6) rfl)) rfl
theorem lfX6_46 : Cond.fieldLink RX6 46 "PictureReel$Frame" "ways" "LPictureReel$Ways;" ∈ lw_big := bg (in1 (List.mem_of_getElem? (i := 195) rfl)) rfl
theorem lfX6_80 : Cond.fieldLink RX6 80 "PictureReel$StreamWriter" "START" "[I" ∈ lw_big := bg (in3 (List.mem_of_getElem? (i := 183) rfl)) rfl
theorem lfX6_84 : Cond.fieldLink RX6 84 "PictureReel$Picture" "width" "I" ∈ lw_big := bg (in1 (List.mem_of_getElem? (i := 227) rfl)) rfl
theorem lfX6_90 : Cond.fieldLink RX6 90 "PictureReel$Picture" "height" "I" ∈ lw_big := bg (in1 (List.mem_of_getElem? (i := 230) rfl)) rfl
theorem lfX6_93 : Cond.fieldLink RX6 93 "PictureReel$Picture" "global" "LPictureReel$Table;" ∈ lw_big := bg (in2 (List.mem_of_getElem? (i := 2) rfl)) rfl
theorem lfX6_100 : Cond.fieldLink RX6 100 "PictureReel$Picture" "background" "I" ∈ lw_big := bg (in1 (List.mem_of_getElem? (i := 233) rfl)) rfl
theorem lfX6_103 : Cond.fieldLink RX6 103 "PictureReel$Picture" "aspect" "I" ∈ lw_big := bg (in1 (List.mem_of_getElem? (i := 236) rfl)) rfl
theorem lfX6_110 : Cond.fieldLink RX6 110 "PictureReel$Table" "size" "I" ∈ lw_big := bg (in1 (List.mem_of_getElem? (i := 153) rfl)) rfl
theorem lfX6_113 : Cond.fieldLink RX6 113 "PictureReel$Table" "colours" "[I" ∈ lw_big := bg (in1 (List.mem_of_getElem? (i := 148) rfl)) rfl
theorem lfX6_116 : Cond.fieldLink RX6 116 "PictureReel$Ways" "transparent" "I" ∈ lw_big := bg (in1 (List.mem_of_getElem? (i := 117) rfl)) rfl
theorem lfX6_121 : Cond.fieldLink RX6 121 "PictureReel$Ways" "disposal" "I" ∈ lw_big := bg (in1 (List.mem_of_getElem? (i := 113) rfl)) rfl
theorem lfX6_124 : Cond.fieldLink RX6 124 "PictureReel$Ways" "input" "Z" ∈ lw_big := bg (in1 (List.mem_of_getElem? (i := 124) rfl)) rfl
theorem lfX6_127 : Cond.fieldLink RX6 127 "PictureReel$Ways" "delay" "I" ∈ lw_big := bg (in1 (List.mem_of_getElem? (i := 121) rfl)) rfl
theorem lfX6_130 : Cond.fieldLink RX6 130 "PictureReel$Frame" "left" "I" ∈ lw_big := bg (in1 (List.mem_of_getElem? (i := 174) rfl)) rfl
theorem lfX6_133 : Cond.fieldLink RX6 133 "PictureReel$Frame" "top" "I" ∈ lw_big := bg (in1 (List.mem_of_getElem? (i := 177) rfl)) rfl
theorem lfX6_136 : Cond.fieldLink RX6 136 "PictureReel$Frame" "width" "I" ∈ lw_big := bg (in1 (List.mem_of_getElem? (i := 180) rfl)) rfl
theorem lfX6_137 : Cond.fieldLink RX6 137 "PictureReel$Frame" "height" "I" ∈ lw_big := bg (in1 (List.mem_of_getElem? (i := 183) rfl)) rfl
theorem lfX6_138 : Cond.fieldLink RX6 138 "PictureReel$Frame" "local" "LPictureReel$Table;" ∈ lw_big := bg (in1 (List.mem_of_getElem? (i := 191) rfl)) rfl
theorem lfX6_141 : Cond.fieldLink RX6 141 "PictureReel$Frame" "interlaced" "Z" ∈ lw_big := bg (in1 (List.mem_of_getElem? (i := 186) rfl)) rfl
theorem lfX6_144 : Cond.fieldLink RX6 144 "PictureReel$CodeWriter" "order" "[I" ∈ lw_big := bg (in2 (List.mem_of_getElem? (i := 80) rfl)) rfl
theorem lfX6_160 : Cond.fieldLink RX6 160 "PictureReel$CodeWriter" "bytes" "LPictureReel$ByteRow;" ∈ lw_big := bg (in2 (List.mem_of_getElem? (i := 78) rfl)) rfl
theorem lfX6_163 : Cond.fieldLink RX6 163 "PictureReel$ByteRow" "size" "I" ∈ lw_big := bg (in1 (List.mem_of_getElem? (i := 40) rfl)) rfl
theorem lfX7_9 : Cond.fieldLink RX7 9 "PictureReel$Table" "colours" "[I" ∈ lw_big := bg (in1 (List.mem_of_getElem? (i := 147) rfl)) rfl
theorem lfX7_15 : Cond.fieldLink RX7 15 "PictureReel$Table" "size" "I" ∈ lw_big := bg (in1 (List.mem_of_getElem? (i := 152) rfl)) rfl
theorem lfX8_18 : Cond.fieldLink RX8 18 "PictureReel$Ways" "disposal" "I" ∈ lw_big := bg (in1 (List.mem_of_getElem? (i := 112) rfl)) rfl
theorem lfX8_22 : Cond.fieldLink RX8 22 "PictureReel$Ways" "transparent" "I" ∈ lw_big := bg (in1 (List.mem_of_getElem? (i := 116) rfl)) rfl
theorem lfX8_25 : Cond.fieldLink RX8 25 "PictureReel$Ways" "delay" "I" ∈ lw_big := bg (in1 (List.mem_of_getElem? (i := 120) rfl)) rfl
theorem lfX8_28 : Cond.fieldLink RX8 28 "PictureReel$Ways" "input" "Z" ∈ lw_big := bg (in1 (List.mem_of_getElem? (i := 123) rfl)) rfl
theorem lfX10_7 : Cond.fieldLink RX10 7 "PictureReelModel" "tape" "[B" ∈ lw_big := bg (in4 (List.mem_of_getElem? (i := 75) rfl)) rfl
theorem lfX10_13 : Cond.fieldLink RX10 13 "PictureReelModel" "out" "[B" ∈ lw_big := bg (in4 (List.mem_of_getElem? (i := 76) rfl)) rfl
theorem lfX10_16 : Cond.fieldLink RX10 16 "PictureReelModel" "fault" "I" ∈ lw_big := bg (in4 (List.mem_of_getElem? (i := 79) rfl)) rfl
theorem lfX10_20 : Cond.fieldLink RX10 20 "PictureReelModel" "faultPlace" "I" ∈ lw_big := bg (in4 (List.mem_of_getElem? (i := 80) rfl)) rfl
theorem lfX10_23 : Cond.fieldLink RX10 23 "PictureReelModel" "head" "[I" ∈ lw_big := bg (in4 (List.mem_of_getElem? (i := 82) rfl)) rfl
theorem lfX10_27 : Cond.fieldLink RX10 27 "PictureReelModel" "global" "[I" ∈ lw_big := bg (in4 (List.mem_of_getElem? (i := 83) rfl)) rfl
theorem lfX10_30 : Cond.fieldLink RX10 30 "PictureReelModel" "field" "[I" ∈ lw_big := bg (in4 (List.mem_of_getElem? (i := 84) rfl)) rfl
theorem lfX10_33 : Cond.fieldLink RX10 33 "PictureReelModel" "local" "[I" ∈ lw_big := bg (in4 (List.mem_of_getElem? (i := 85) rfl)) rfl
theorem lfX10_37 : Cond.fieldLink RX10 37 "PictureReelModel" "index" "[S" ∈ lw_big := bg (in4 (List.mem_of_getElem? (i := 86) rfl)) rfl
theorem lfX10_41 : Cond.fieldLink RX10 41 "PictureReelModel" "data" "[B" ∈ lw_big := bg (in4 (List.mem_of_getElem? (i := 96) rfl)) rfl
theorem lfX10_44 : Cond.fieldLink RX10 44 "PictureReelModel" "ahead" "[S" ∈ lw_big := bg (in4 (List.mem_of_getElem? (i := 99) rfl)) rfl
theorem lfX10_47 : Cond.fieldLink RX10 47 "PictureReelModel" "last" "[S" ∈ lw_big := bg (in4 (List.mem_of_getElem? (i := 100) rfl)) rfl
theorem lfX10_50 : Cond.fieldLink RX10 50 "PictureReelModel" "first" "[S" ∈ lw_big := bg (in4 (List.mem_of_getElem? (i := 101) rfl)) rfl
theorem lfX10_53 : Cond.fieldLink RX10 53 "PictureReelModel" "long1" "[S" ∈ lw_big := bg (in4 (List.mem_of_getElem? (i := 102) rfl)) rfl
theorem lfX10_56 : Cond.fieldLink RX10 56 "PictureReelModel" "row" "[B" ∈ lw_big := bg (in4 (List.mem_of_getElem? (i := 110) rfl)) rfl
theorem lfX10_59 : Cond.fieldLink RX10 59 "PictureReelModel" "heir" "[S" ∈ lw_big := bg (in4 (List.mem_of_getElem? (i := 111) rfl)) rfl
theorem lfX10_62 : Cond.fieldLink RX10 62 "PictureReelModel" "beside" "[S" ∈ lw_big := bg (in4 (List.mem_of_getElem? (i := 112) rfl)) rfl
theorem lfX10_66 : Cond.fieldLink RX10 66 "PictureReelModel" "now" "I" ∈ lw_big := bg (in4 (List.mem_of_getElem? (i := 81) rfl)) rfl
theorem lfX10_76 : Cond.fieldLink RX10 76 "PictureReelModel" "taped" "I" ∈ lw_big := bg (in4 (List.mem_of_getElem? (i := 77) rfl)) rfl
theorem lfX10_83 : Cond.fieldLink RX10 83 "PictureReelModel" "outs" "I" ∈ lw_big := bg (in4 (List.mem_of_getElem? (i := 78) rfl)) rfl
theorem lfX10_90 : Cond.fieldLink RX10 90 "PictureReelModel" "at" "I" ∈ lw_big := bg (in4 (List.mem_of_getElem? (i := 87) rfl)) rfl
theorem lfX10_93 : Cond.fieldLink RX10 93 "PictureReelModel" "end" "I" ∈ lw_big := bg (in4 (List.mem_of_getElem? (i := 88) rfl)) rfl
theorem lfX10_103 : Cond.fieldLink RX10 103 "PictureReelModel" "into" "I" ∈ lw_big := bg (in4 (List.mem_of_getElem? (i := 89) rfl)) rfl
theorem lfX10_115 : Cond.fieldLink RX10 115 "PictureReelModel" "isOld" "Z" ∈ lw_big := bg (in4 (List.mem_of_getElem? (i := 90) rfl)) rfl
theorem lfX10_126 : Cond.fieldLink RX10 126 "PictureReelModel" "waits" "Z" ∈ lw_big := bg (in4 (List.mem_of_getElem? (i := 91) rfl)) rfl
theorem lfX10_129 : Cond.fieldLink RX10 129 "PictureReelModel" "disposal" "I" ∈ lw_big := bg (in4 (List.mem_of_getElem? (i := 92) rfl)) rfl
theorem lfX10_132 : Cond.fieldLink RX10 132 "PictureReelModel" "transparent" "I" ∈ lw_big := bg (in4 (List.mem_of_getElem? (i := 93) rfl)) rfl
theorem lfX10_135 : Cond.fieldLink RX10 135 "PictureReelModel" "delay" "I" ∈ lw_big := bg (in4 (List.mem_of_getElem? (i := 94) rfl)) rfl
theorem lfX10_138 : Cond.fieldLink RX10 138 "PictureReelModel" "input" "I" ∈ lw_big := bg (in4 (List.mem_of_getElem? (i := 95) rfl)) rfl
theorem lfX10_174 : Cond.fieldLink RX10 174 "PictureReelModel" "dataEnd" "I" ∈ lw_big := bg (in4 (List.mem_of_getElem? (i := 97) rfl)) rfl
theorem lfX10_177 : Cond.fieldLink RX10 177 "PictureReelModel" "size" "I" ∈ lw_big := bg (in4 (List.mem_of_getElem? (i := 103) rfl)) rfl
theorem lfX10_180 : Cond.fieldLink RX10 180 "PictureReelModel" "next" "I" ∈ lw_big := bg (in4 (List.mem_of_getElem? (i := 104) rfl)) rfl
theorem lfX10_183 : Cond.fieldLink RX10 183 "PictureReelModel" "before" "I" ∈ lw_big := bg (in4 (List.mem_of_getElem? (i := 105) rfl)) rfl
theorem lfX10_186 : Cond.fieldLink RX10 186 "PictureReelModel" "bit" "I" ∈ lw_big := bg (in4 (List.mem_of_getElem? (i := 98) rfl)) rfl
theorem lfX10_237 : Cond.fieldLink RX10 237 "PictureReelModel" "written" "I" ∈ lw_big := bg (in4 (List.mem_of_getElem? (i := 106) rfl)) rfl
theorem lfX10_259 : Cond.fieldLink RX10 259 "PictureReelModel" "rowMany" "I" ∈ lw_big := bg (in4 (List.mem_of_getElem? (i := 109) rfl)) rfl
theorem lfX10_265 : Cond.fieldLink RX10 265 "PictureReelModel" "bits" "I" ∈ lw_big := bg (in4 (List.mem_of_getElem? (i := 107) rfl)) rfl
theorem lfX10_268 : Cond.fieldLink RX10 268 "PictureReelModel" "bitMany" "I" ∈ lw_big := bg (in4 (List.mem_of_getElem? (i := 108) rfl)) rfl
theorem lmX9_3 : Cond.methodLink RX9 3 objectInit ∈ lw_big := bg (in1 (List.mem_of_getElem? (i := 20) rfl)) rfl
theorem lmX9_11 : Cond.methodLink RX9 11 yX5_init ∈ lw_big := bg (in1 (List.mem_of_getElem? (i := 25) rfl)) rfl
theorem lmX9_25 : Cond.methodLink RX9 25 yX0_init ∈ lw_big := bg (in2 (List.mem_of_getElem? (i := 60) rfl)) rfl
theorem lmX9_31 : Cond.methodLink RX9 31 yX4_init ∈ lw_big := bg (in2 (List.mem_of_getElem? (i := 62) rfl)) rfl
theorem lmX9_38 : Cond.methodLink RX9 38 yX6_init ∈ lw_big := bg (in2 (List.mem_of_getElem? (i := 65) rfl)) rfl
theorem lmX9_51 : Cond.methodLink RX9 51 yX0_addFour ∈ lw_big := bg (in2 (List.mem_of_getElem? (i := 148) rfl)) rfl
theorem lmX9_55 : Cond.methodLink RX9 55 yX0_copyFrom ∈ lw_big := bg (in2 (List.mem_of_getElem? (i := 160) rfl)) rfl
theorem lmX9_59 : Cond.methodLink RX9 59 yX5_parse ∈ lw_big := bg (in2 (List.mem_of_getElem? (i := 171) rfl)) rfl
theorem lmX9_62 : Cond.methodLink RX9 62 yX0_clear ∈ lw_big := bg (in3 (List.mem_of_getElem? (i := 105) rfl)) rfl
theorem lmX9_68 : Cond.methodLink RX9 68 yX5_exchange ∈ lw_big := bg (in3 (List.mem_of_getElem? (i := 106) rfl)) rfl
theorem lmX9_78 : Cond.methodLink RX9 78 yX9_isSide ∈ lw_big := bg (in3 (List.mem_of_getElem? (i := 118) rfl)) rfl
theorem lmX9_82 : Cond.methodLink RX9 82 yX9_isTableSize ∈ lw_big := bg (in3 (List.mem_of_getElem? (i := 119) rfl)) rfl
theorem lmX9_85 : Cond.methodLink RX9 85 yX9_isByte ∈ lw_big := bg (in3 (List.mem_of_getElem? (i := 128) rfl)) rfl
theorem lmX9_88 : Cond.methodLink RX9 88 yX4_reset ∈ lw_big := bg (in3 (List.mem_of_getElem? (i := 131) rfl)) rfl
theorem lmX9_92 : Cond.methodLink RX9 92 yX9_tableAt ∈ lw_big := bg (in3 (List.mem_of_getElem? (i := 136) rfl)) rfl
theorem lmX9_96 : Cond.methodLink RX9 96 yX7_has ∈ lw_big := bg (in3 (List.mem_of_getElem? (i := 144) rfl)) rfl
theorem lmX9_106 : Cond.methodLink RX9 106 yX4_hasRoom ∈ lw_big := bg (in3 (List.mem_of_getElem? (i := 153) rfl)) rfl
theorem lmX9_110 : Cond.methodLink RX9 110 yX4_holds ∈ lw_big := bg (in3 (List.mem_of_getElem? (i := 154) rfl)) rfl
theorem lmX9_114 : Cond.methodLink RX9 114 yX4_givesTable ∈ lw_big := bg (in3 (List.mem_of_getElem? (i := 155) rfl)) rfl
theorem lmX9_117 : Cond.methodLink RX9 117 yX4_addFrame ∈ lw_big := bg (in3 (List.mem_of_getElem? (i := 156) rfl)) rfl
theorem lmX9_121 : Cond.methodLink RX9 121 yX4_frameAt ∈ lw_big := bg (in3 (List.mem_of_getElem? (i := 140) rfl)) rfl
theorem lmX9_132 : Cond.methodLink RX9 132 yX8_become ∈ lw_big := bg (in3 (List.mem_of_getElem? (i := 162) rfl)) rfl
theorem lmX9_138 : Cond.methodLink RX9 138 yX3_size ∈ lw_big := bg (in3 (List.mem_of_getElem? (i := 167) rfl)) rfl
theorem lmX9_141 : Cond.methodLink RX9 141 yX4_tableOf ∈ lw_big := bg (in3 (List.mem_of_getElem? (i := 168) rfl)) rfl
theorem lmX9_145 : Cond.methodLink RX9 145 yX3_fill ∈ lw_big := bg (in3 (List.mem_of_getElem? (i := 169) rfl)) rfl
theorem lmX9_149 : Cond.methodLink RX9 149 yX6_compose ∈ lw_big := bg (in3 (List.mem_of_getElem? (i := 174) rfl)) rfl
theorem lmX9_153 : Cond.methodLink RX9 153 yX6_exchange ∈ lw_big := bg (in4 (List.mem_of_getElem? (i := 17) rfl)) rfl
theorem lmX9_156 : Cond.methodLink RX9 156 yX0_at ∈ lw_big := bg (in4 (List.mem_of_getElem? (i := 25) rfl)) rfl
theorem lmX9_206 : Cond.methodLink RX9 206 yX4_colourAt ∈ lw_big := bg (in4 (List.mem_of_getElem? (i := 46) rfl)) rfl
theorem lmX9_210 : Cond.methodLink RX9 210 yJ6_bitCount_0f7a4 ∈ lw_big := bg (in3 (List.mem_of_getElem? (i := 122) rfl)) rfl
theorem lmX0_3 : Cond.methodLink RX0 3 objectInit ∈ lw_big := bg (in1 (List.mem_of_getElem? (i := 34) rfl)) rfl
theorem lmX0_23 : Cond.methodLink RX0 23 yX0_add ∈ lw_big := bg (in2 (List.mem_of_getElem? (i := 152) rfl)) rfl
theorem lmX0_27 : Cond.methodLink RX0 27 arraycopyName ∈ lw_big := bg (in2 (List.mem_of_getElem? (i := 164) rfl)) rfl
theorem lmX1_3 : Cond.methodLink RX1 3 objectInit ∈ lw_big := bg (in1 (List.mem_of_getElem? (i := 56) rfl)) rfl
theorem lmX1_11 : Cond.methodLink RX1 11 yX0_init ∈ lw_big := bg (in1 (List.mem_of_getElem? (i := 58) rfl)) rfl
theorem lmX1_34 : Cond.methodLink RX1 34 yX1_start ∈ lw_big := bg (in3 (List.mem_of_getElem? (i := 43) rfl)) rfl
theorem lmX1_38 : Cond.methodLink RX1 38 yX1_nextCode ∈ lw_big := bg (in3 (List.mem_of_getElem? (i := 51) rfl)) rfl
theorem lmX1_52 : Cond.methodLink RX1 52 yX1_forget ∈ lw_big := bg (in3 (List.mem_of_getElem? (i := 47) rfl)) rfl
theorem lmX1_55 : Cond.methodLink RX1 55 yX1_isKnown ∈ lw_big := bg (in3 (List.mem_of_getElem? (i := 59) rfl)) rfl
theorem lmX1_59 : Cond.methodLink RX1 59 yX1_putOut ∈ lw_big := bg (in3 (List.mem_of_getElem? (i := 67) rfl)) rfl
theorem lmX1_75 : Cond.methodLink RX1 75 yX0_at ∈ lw_big := bg (in3 (List.mem_of_getElem? (i := 55) rfl)) rfl
theorem lmX1_79 : Cond.methodLink RX1 79 yJ9_max_7cf53 ∈ lw_big := bg (in3 (List.mem_of_getElem? (i := 56) rfl)) rfl
theorem lmX1_85 : Cond.methodLink RX1 85 yX1_tell ∈ lw_big := bg (in3 (List.mem_of_getElem? (i := 63) rfl)) rfl
theorem lmX2_3 : Cond.methodLink RX2 3 objectInit ∈ lw_big := bg (in2 (List.mem_of_getElem? (i := 74) rfl)) rfl
theorem lmX2_11 : Cond.methodLink RX2 11 yX0_init ∈ lw_big := bg (in2 (List.mem_of_getElem? (i := 76) rfl)) rfl
theorem lmX2_35 : Cond.methodLink RX2 35 yX0_clear ∈ lw_big := bg (in3 (List.mem_of_getElem? (i := 225) rfl)) rfl
theorem lmX2_47 : Cond.methodLink RX2 47 yX2_putClear ∈ lw_big := bg (in3 (List.mem_of_getElem? (i := 226) rfl)) rfl
theorem lmX2_57 : Cond.methodLink RX2 57 yX2_putLongest ∈ lw_big := bg (in3 (List.mem_of_getElem? (i := 235) rfl)) rfl
theorem lmX2_60 : Cond.methodLink RX2 60 yX2_putCode ∈ lw_big := bg (in3 (List.mem_of_getElem? (i := 230) rfl)) rfl
theorem lmX2_64 : Cond.methodLink RX2 64 yX0_add ∈ lw_big := bg (in3 (List.mem_of_getElem? (i := 234) rfl)) rfl
theorem lmX2_70 : Cond.methodLink RX2 70 yX2_tell ∈ lw_big := bg (in3 (List.mem_of_getElem? (i := 239) rfl)) rfl
theorem lmX2_73 : Cond.methodLink RX2 73 yX2_longest ∈ lw_big := bg (in4 (List.mem_of_getElem? (i := 3) rfl)) rfl
theorem lmX2_77 : Cond.methodLink RX2 77 yX2_childOf ∈ lw_big := bg (in4 (List.mem_of_getElem? (i := 7) rfl)) rfl
theorem lmX3_3 : Cond.methodLink RX3 3 objectInit ∈ lw_big := bg (in1 (List.mem_of_getElem? (i := 168) rfl)) rfl
theorem lmX3_30 : Cond.methodLink RX3 30 yX7_init ∈ lw_big := bg (in1 (List.mem_of_getElem? (i := 170) rfl)) rfl
theorem lmX3_37 : Cond.methodLink RX3 37 yX8_init ∈ lw_big := bg (in1 (List.mem_of_getElem? (i := 172) rfl)) rfl
theorem lmX3_46 : Cond.methodLink RX3 46 yX8_reset ∈ lw_big := bg (in3 (List.mem_of_getElem? (i := 12) rfl)) rfl
theorem lmX3_49 : Cond.methodLink RX3 49 yX3_size ∈ lw_big := bg (in3 (List.mem_of_getElem? (i := 13) rfl)) rfl
theorem lmX3_53 : Cond.methodLink RX3 53 yX3_fill ∈ lw_big := bg (in3 (List.mem_of_getElem? (i := 17) rfl)) rfl
theorem lmX3_57 : Cond.methodLink RX3 57 yX3_lineOf ∈ lw_big := bg (in3 (List.mem_of_getElem? (i := 75) rfl)) rfl
theorem lmX3_61 : Cond.methodLink RX3 61 arraycopyName ∈ lw_big := bg (in3 (List.mem_of_getElem? (i := 83) rfl)) rfl
theorem lmX4_3 : Cond.methodLink RX4 3 objectInit ∈ lw_big := bg (in1 (List.mem_of_getElem? (i := 140) rfl)) rfl
theorem lmX4_11 : Cond.methodLink RX4 11 yX7_init ∈ lw_big := bg (in1 (List.mem_of_getElem? (i := 143) rfl)) rfl
theorem lmX4_24 : Cond.methodLink RX4 24 yX3_init ∈ lw_big := bg (in1 (List.mem_of_getElem? (i := 165) rfl)) rfl
theorem lmX4_25 : Cond.methodLink RX4 25 yX4_reset ∈ lw_big := bg (in1 (List.mem_of_getElem? (i := 218) rfl)) rfl
theorem lmX4_45 : Cond.methodLink RX4 45 yX7_reset ∈ lw_big := bg (in1 (List.mem_of_getElem? (i := 222) rfl)) rfl
theorem lmX4_54 : Cond.methodLink RX4 54 yX3_reset ∈ lw_big := bg (in3 (List.mem_of_getElem? (i := 8) rfl)) rfl
theorem lmX4_61 : Cond.methodLink RX4 61 yX7_has ∈ lw_big := bg (in4 (List.mem_of_getElem? (i := 50) rfl)) rfl
theorem lmX4_69 : Cond.methodLink RX4 69 yX4_leftBehind ∈ lw_big := bg (in4 (List.mem_of_getElem? (i := 51) rfl)) rfl
theorem lmX4_73 : Cond.methodLink RX4 73 yX4_shown ∈ lw_big := bg (in4 (List.mem_of_getElem? (i := 59) rfl)) rfl
theorem lmX4_77 : Cond.methodLink RX4 77 yX3_covers ∈ lw_big := bg (in4 (List.mem_of_getElem? (i := 55) rfl)) rfl
theorem lmX4_81 : Cond.methodLink RX4 81 yX3_indexAt ∈ lw_big := bg (in4 (List.mem_of_getElem? (i := 63) rfl)) rfl
theorem lmX4_94 : Cond.methodLink RX4 94 yX4_tableOf ∈ lw_big := bg (in4 (List.mem_of_getElem? (i := 67) rfl)) rfl
theorem lmX5_3 : Cond.methodLink RX5 3 objectInit ∈ lw_big := bg (in1 (List.mem_of_getElem? (i := 28) rfl)) rfl
theorem lmX5_11 : Cond.methodLink RX5 11 yX0_init ∈ lw_big := bg (in1 (List.mem_of_getElem? (i := 31) rfl)) rfl
theorem lmX5_20 : Cond.methodLink RX5 20 yX1_init ∈ lw_big := bg (in1 (List.mem_of_getElem? (i := 53) rfl)) rfl
theorem lmX5_27 : Cond.methodLink RX5 27 yX8_init ∈ lw_big := bg (in1 (List.mem_of_getElem? (i := 100) rfl)) rfl
theorem lmX5_34 : Cond.methodLink RX5 34 yX4_init ∈ lw_big := bg (in1 (List.mem_of_getElem? (i := 137) rfl)) rfl
theorem lmX5_49 : Cond.methodLink RX5 49 yJ9_min_7cf53 ∈ lw_big := bg (in2 (List.mem_of_getElem? (i := 175) rfl)) rfl
theorem lmX5_68 : Cond.methodLink RX5 68 yX5_dropControl ∈ lw_big := bg (in2 (List.mem_of_getElem? (i := 178) rfl)) rfl
theorem lmX5_71 : Cond.methodLink RX5 71 yX5_parseStart ∈ lw_big := bg (in2 (List.mem_of_getElem? (i := 183) rfl)) rfl
theorem lmX5_74 : Cond.methodLink RX5 74 yX5_parseScreen ∈ lw_big := bg (in2 (List.mem_of_getElem? (i := 201) rfl)) rfl
theorem lmX5_77 : Cond.methodLink RX5 77 yX5_parseBlock ∈ lw_big := bg (in2 (List.mem_of_getElem? (i := 220) rfl)) rfl
theorem lmX5_80 : Cond.methodLink RX5 80 yX5_refuse ∈ lw_big := bg (in2 (List.mem_of_getElem? (i := 191) rfl)) rfl
theorem lmX5_84 : Cond.methodLink RX5 84 yX0_at ∈ lw_big := bg (in2 (List.mem_of_getElem? (i := 195) rfl)) rfl
theorem lmX5_87 : Cond.methodLink RX5 87 yX5_nextByte ∈ lw_big := bg (in2 (List.mem_of_getElem? (i := 187) rfl)) rfl
theorem lmX5_97 : Cond.methodLink RX5 97 yX5_nextNumber ∈ lw_big := bg (in2 (List.mem_of_getElem? (i := 205) rfl)) rfl
theorem lmX5_104 : Cond.methodLink RX5 104 yX7_sizeByMark ∈ lw_big := bg (in2 (List.mem_of_getElem? (i := 212) rfl)) rfl
theorem lmX5_109 : Cond.methodLink RX5 109 yX4_reset ∈ lw_big := bg (in2 (List.mem_of_getElem? (i := 215) rfl)) rfl
theorem lmX5_117 : Cond.methodLink RX5 117 yX5_parseTable ∈ lw_big := bg (in2 (List.mem_of_getElem? (i := 216) rfl)) rfl
theorem lmX5_125 : Cond.methodLink RX5 125 yX5_parseImage ∈ lw_big := bg (in2 (List.mem_of_getElem? (i := 224) rfl)) rfl
theorem lmX5_129 : Cond.methodLink RX5 129 yX5_parseExtension ∈ lw_big := bg (in3 (List.mem_of_getElem? (i := 84) rfl)) rfl
theorem lmX5_135 : Cond.methodLink RX5 135 yX5_parseEnd ∈ lw_big := bg (in3 (List.mem_of_getElem? (i := 101) rfl)) rfl
theorem lmX5_138 : Cond.methodLink RX5 138 yX5_expect ∈ lw_big := bg (in3 (List.mem_of_getElem? (i := 88) rfl)) rfl
theorem lmX5_141 : Cond.methodLink RX5 141 yX5_skip ∈ lw_big := bg (in3 (List.mem_of_getElem? (i := 92) rfl)) rfl
theorem lmX5_144 : Cond.methodLink RX5 144 yX5_gatherRows ∈ lw_big := bg (in3 (List.mem_of_getElem? (i := 25) rfl)) rfl
theorem lmX5_147 : Cond.methodLink RX5 147 yX5_parseControl ∈ lw_big := bg (in3 (List.mem_of_getElem? (i := 96) rfl)) rfl
theorem lmX5_150 : Cond.methodLink RX5 150 yX8_become ∈ lw_big := bg (in3 (List.mem_of_getElem? (i := 100) rfl)) rfl
theorem lmX5_154 : Cond.methodLink RX5 154 yX8_reset ∈ lw_big := bg (in2 (List.mem_of_getElem? (i := 182) rfl)) rfl
theorem lmX5_156 : Cond.methodLink RX5 156 yX5_parseFrame ∈ lw_big := bg (in2 (List.mem_of_getElem? (i := 228) rfl)) rfl
theorem lmX5_160 : Cond.methodLink RX5 160 yX3_size ∈ lw_big := bg (in3 (List.mem_of_getElem? (i := 34) rfl)) rfl
theorem lmX5_164 : Cond.methodLink RX5 164 yX4_tableOf ∈ lw_big := bg (in3 (List.mem_of_getElem? (i := 35) rfl)) rfl
theorem lmX5_168 : Cond.methodLink RX5 168 yX1_decode ∈ lw_big := bg (in3 (List.mem_of_getElem? (i := 39) rfl)) rfl
theorem lmX5_175 : Cond.methodLink RX5 175 yX3_fromStreamOrder ∈ lw_big := bg (in3 (List.mem_of_getElem? (i := 71) rfl)) rfl
theorem lmX5_179 : Cond.methodLink RX5 179 yX4_hasRoom ∈ lw_big := bg (in2 (List.mem_of_getElem? (i := 232) rfl)) rfl
theorem lmX5_183 : Cond.methodLink RX5 183 yX4_holds ∈ lw_big := bg (in2 (List.mem_of_getElem? (i := 236) rfl)) rfl
theorem lmX5_187 : Cond.methodLink RX5 187 yX4_givesTable ∈ lw_big := bg (in3 (List.mem_of_getElem? (i := 0) rfl)) rfl
theorem lmX5_190 : Cond.methodLink RX5 190 yX4_addFrame ∈ lw_big := bg (in3 (List.mem_of_getElem? (i := 4) rfl)) rfl
theorem lmX5_197 : Cond.methodLink RX5 197 yX8_copyFrom ∈ lw_big := bg (in3 (List.mem_of_getElem? (i := 21) rfl)) rfl
theorem lmX5_207 : Cond.methodLink RX5 207 yX0_clear ∈ lw_big := bg (in3 (List.mem_of_getElem? (i := 29) rfl)) rfl
theorem lmX5_210 : Cond.methodLink RX5 210 yX0_add ∈ lw_big := bg (in3 (List.mem_of_getElem? (i := 33) rfl)) rfl
theorem lmX6_3 : Cond.methodLink RX6 3 objectInit ∈ lw_big := bg (in2 (List.mem_of_getElem? (i := 68) rfl)) rfl
theorem lmX6_11 : Cond.methodLink RX6 11 yX2_init ∈ lw_big := bg (in2 (List.mem_of_getElem? (i := 71) rfl)) rfl
theorem lmX6_20 : Cond.methodLink RX6 20 yX0_init ∈ lw_big := bg (in2 (List.mem_of_getElem? (i := 117) rfl)) rfl
theorem lmX6_25 : Cond.methodLink RX6 25 yX0_clear ∈ lw_big := bg (in3 (List.mem_of_getElem? (i := 178) rfl)) rfl
theorem lmX6_28 : Cond.methodLink RX6 28 yX6_putScreen ∈ lw_big := bg (in3 (List.mem_of_getElem? (i := 179) rfl)) rfl
theorem lmX6_52 : Cond.methodLink RX6 52 yX6_putControl ∈ lw_big := bg (in3 (List.mem_of_getElem? (i := 205) rfl)) rfl
theorem lmX6_56 : Cond.methodLink RX6 56 yX4_tableOf ∈ lw_big := bg (in3 (List.mem_of_getElem? (i := 209) rfl)) rfl
theorem lmX6_60 : Cond.methodLink RX6 60 yX7_power ∈ lw_big := bg (in3 (List.mem_of_getElem? (i := 210) rfl)) rfl
theorem lmX6_66 : Cond.methodLink RX6 66 yJ9_max_7cf53 ∈ lw_big := bg (in3 (List.mem_of_getElem? (i := 211) rfl)) rfl
theorem lmX6_72 : Cond.methodLink RX6 72 yX6_putImage ∈ lw_big := bg (in3 (List.mem_of_getElem? (i := 212) rfl)) rfl
theorem lmX6_76 : Cond.methodLink RX6 76 yX0_add ∈ lw_big := bg (in3 (List.mem_of_getElem? (i := 184) rfl)) rfl
theorem lmX6_87 : Cond.methodLink RX6 87 yX0_addTwo ∈ lw_big := bg (in3 (List.mem_of_getElem? (i := 185) rfl)) rfl
theorem lmX6_97 : Cond.methodLink RX6 97 yX7_mark ∈ lw_big := bg (in3 (List.mem_of_getElem? (i := 189) rfl)) rfl
theorem lmX6_106 : Cond.methodLink RX6 106 yX6_putTable ∈ lw_big := bg (in3 (List.mem_of_getElem? (i := 201) rfl)) rfl
theorem lmX6_147 : Cond.methodLink RX6 147 yX3_toStreamOrder ∈ lw_big := bg (in3 (List.mem_of_getElem? (i := 216) rfl)) rfl
theorem lmX6_151 : Cond.methodLink RX6 151 yX3_size ∈ lw_big := bg (in3 (List.mem_of_getElem? (i := 220) rfl)) rfl
theorem lmX6_153 : Cond.methodLink RX6 153 yX2_encode ∈ lw_big := bg (in3 (List.mem_of_getElem? (i := 221) rfl)) rfl
theorem lmX6_157 : Cond.methodLink RX6 157 yX6_putRows ∈ lw_big := bg (in4 (List.mem_of_getElem? (i := 11) rfl)) rfl
theorem lmX6_164 : Cond.methodLink RX6 164 yJ9_min_7cf53 ∈ lw_big := bg (in4 (List.mem_of_getElem? (i := 15) rfl)) rfl
theorem lmX6_167 : Cond.methodLink RX6 167 yX0_at ∈ lw_big := bg (in4 (List.mem_of_getElem? (i := 16) rfl)) rfl
theorem lmX7_3 : Cond.methodLink RX7 3 objectInit ∈ lw_big := bg (in1 (List.mem_of_getElem? (i := 146) rfl)) rfl
theorem lmX7_19 : Cond.methodLink RX7 19 yJ6_numberOfTrailingZeros_0f7a4 ∈ lw_big := bg (in3 (List.mem_of_getElem? (i := 197) rfl)) rfl
theorem lmX7_25 : Cond.methodLink RX7 25 yX7_power ∈ lw_big := bg (in3 (List.mem_of_getElem? (i := 193) rfl)) rfl
theorem lmX8_3 : Cond.methodLink RX8 3 objectInit ∈ lw_big := bg (in1 (List.mem_of_getElem? (i := 103) rfl)) rfl
theorem lmX8_9 : Cond.methodLink RX8 9 yX8_reset ∈ lw_big := bg (in1 (List.mem_of_getElem? (i := 104) rfl)) rfl
theorem lmX8_14 : Cond.methodLink RX8 14 yX8_become ∈ lw_big := bg (in1 (List.mem_of_getElem? (i := 108) rfl)) rfl
theorem lmL_9 : Cond.methodLink RL 9 yX9_init ∈ lw_big := bg (in1 (List.mem_of_getElem? (i := 17) rfl)) rfl
theorem lmL_12 : Cond.methodLink RL 12 yX10_init ∈ lw_big := bg (in4 (List.mem_of_getElem? (i := 70) rfl)) rfl
theorem lmL_13 : Cond.methodLink RL 13 yX9_feed ∈ lw_big := bg (in2 (List.mem_of_getElem? (i := 144) rfl)) rfl
theorem lmL_17 : Cond.methodLink RL 17 yX10_feed ∈ lw_big := bg (in4 (List.mem_of_getElem? (i := 192) rfl)) rfl
theorem lmL_18 : Cond.methodLink RL 18 yX9_take ∈ lw_big := bg (in2 (List.mem_of_getElem? (i := 156) rfl)) rfl
theorem lmL_22 : Cond.methodLink RL 22 yX10_take ∈ lw_big := bg (in4 (List.mem_of_getElem? (i := 199) rfl)) rfl
theorem lmL_23 : Cond.methodLink RL 23 yX9_read ∈ lw_big := bg (in2 (List.mem_of_getElem? (i := 167) rfl)) rfl
theorem lmL_27 : Cond.methodLink RL 27 yX10_read ∈ lw_big := bg (in4 (List.mem_of_getElem? (i := 203) rfl)) rfl
theorem lmL_28 : Cond.methodLink RL 28 yX9_fault ∈ lw_big := bg (in3 (List.mem_of_getElem? (i := 110) rfl)) rfl
theorem lmL_31 : Cond.methodLink RL 31 yX10_fault ∈ lw_big := bg (in5 (List.mem_of_getElem? (i := 86) rfl)) rfl
theorem lmL_32 : Cond.methodLink RL 32 yX9_begin ∈ lw_big := bg (in3 (List.mem_of_getElem? (i := 114) rfl)) rfl
theorem lmL_36 : Cond.methodLink RL 36 yX10_begin ∈ lw_big := bg (in5 (List.mem_of_getElem? (i := 90) rfl)) rfl
theorem lmL_37 : Cond.methodLink RL 37 yX9_colour ∈ lw_big := bg (in3 (List.mem_of_getElem? (i := 132) rfl)) rfl
theorem lmL_41 : Cond.methodLink RL 41 yX10_colour ∈ lw_big := bg (in5 (List.mem_of_getElem? (i := 100) rfl)) rfl
theorem lmL_42 : Cond.methodLink RL 42 yX9_frame ∈ lw_big := bg (in3 (List.mem_of_getElem? (i := 149) rfl)) rfl
theorem lmL_46 : Cond.methodLink RL 46 yX10_frame ∈ lw_big := bg (in5 (List.mem_of_getElem? (i := 113) rfl)) rfl
theorem lmL_47 : Cond.methodLink RL 47 yX9_control ∈ lw_big := bg (in3 (List.mem_of_getElem? (i := 157) rfl)) rfl
theorem lmL_51 : Cond.methodLink RL 51 yX10_control ∈ lw_big := bg (in5 (List.mem_of_getElem? (i := 117) rfl)) rfl
theorem lmL_52 : Cond.methodLink RL 52 yX9_paint ∈ lw_big := bg (in3 (List.mem_of_getElem? (i := 163) rfl)) rfl
theorem lmL_55 : Cond.methodLink RL 55 yX10_paint ∈ lw_big := bg (in5 (List.mem_of_getElem? (i := 122) rfl)) rfl
theorem lmL_56 : Cond.methodLink RL 56 yX9_write ∈ lw_big := bg (in3 (List.mem_of_getElem? (i := 170) rfl)) rfl
theorem lmL_59 : Cond.methodLink RL 59 yX10_write ∈ lw_big := bg (in5 (List.mem_of_getElem? (i := 126) rfl)) rfl
theorem lmL_60 : Cond.methodLink RL 60 yX9_out ∈ lw_big := bg (in4 (List.mem_of_getElem? (i := 21) rfl)) rfl
theorem lmL_63 : Cond.methodLink RL 63 yX10_out ∈ lw_big := bg (in5 (List.mem_of_getElem? (i := 177) rfl)) rfl
theorem lmL_64 : Cond.methodLink RL 64 yX9_about ∈ lw_big := bg (in4 (List.mem_of_getElem? (i := 26) rfl)) rfl
theorem lmL_67 : Cond.methodLink RL 67 yX10_about ∈ lw_big := bg (in5 (List.mem_of_getElem? (i := 181) rfl)) rfl
theorem lmL_68 : Cond.methodLink RL 68 yX9_frameOf ∈ lw_big := bg (in4 (List.mem_of_getElem? (i := 30) rfl)) rfl
theorem lmL_72 : Cond.methodLink RL 72 yX10_frameOf ∈ lw_big := bg (in5 (List.mem_of_getElem? (i := 185) rfl)) rfl
theorem lmL_73 : Cond.methodLink RL 73 yX9_colourOf ∈ lw_big := bg (in4 (List.mem_of_getElem? (i := 34) rfl)) rfl
theorem lmL_76 : Cond.methodLink RL 76 yX10_colourOf ∈ lw_big := bg (in5 (List.mem_of_getElem? (i := 189) rfl)) rfl
theorem lmL_77 : Cond.methodLink RL 77 yX9_index ∈ lw_big := bg (in4 (List.mem_of_getElem? (i := 38) rfl)) rfl
theorem lmL_80 : Cond.methodLink RL 80 yX10_index ∈ lw_big := bg (in5 (List.mem_of_getElem? (i := 193) rfl)) rfl
theorem lmL_81 : Cond.methodLink RL 81 yX9_canvas ∈ lw_big := bg (in4 (List.mem_of_getElem? (i := 42) rfl)) rfl
theorem lmL_85 : Cond.methodLink RL 85 yX10_canvas ∈ lw_big := bg (in5 (List.mem_of_getElem? (i := 197) rfl)) rfl
theorem lmX10_1 : Cond.methodLink RX10 1 objectInit ∈ lw_big := bg (in4 (List.mem_of_getElem? (i := 73) rfl)) rfl
theorem lmX10_69 : Cond.methodLink RX10 69 yX10_frames ∈ lw_big := bg (in5 (List.mem_of_getElem? (i := 82) rfl)) rfl
theorem lmX10_73 : Cond.methodLink RX10 73 yX10_field ∈ lw_big := bg (in5 (List.mem_of_getElem? (i := 26) rfl)) rfl
theorem lmX10_79 : Cond.methodLink RX10 79 yX10_within ∈ lw_big := bg (in4 (List.mem_of_getElem? (i := 196) rfl)) rfl
theorem lmX10_86 : Cond.methodLink RX10 86 yX10_good ∈ lw_big := bg (in4 (List.mem_of_getElem? (i := 219) rfl)) rfl
theorem lmX10_96 : Cond.methodLink RX10 96 yX10_wrong ∈ lw_big := bg (in4 (List.mem_of_getElem? (i := 223) rfl)) rfl
theorem lmX10_100 : Cond.methodLink RX10 100 yX10_one ∈ lw_big := bg (in4 (List.mem_of_getElem? (i := 215) rfl)) rfl
theorem lmX10_106 : Cond.methodLink RX10 106 yX10_readHead ∈ lw_big := bg (in4 (List.mem_of_getElem? (i := 207) rfl)) rfl
theorem lmX10_109 : Cond.methodLink RX10 109 yX10_readBlocks ∈ lw_big := bg (in4 (List.mem_of_getElem? (i := 235) rfl)) rfl
theorem lmX10_112 : Cond.methodLink RX10 112 yX10_must ∈ lw_big := bg (in4 (List.mem_of_getElem? (i := 211) rfl)) rfl
theorem lmX10_119 : Cond.methodLink RX10 119 yX10_two ∈ lw_big := bg (in4 (List.mem_of_getElem? (i := 227) rfl)) rfl
theorem lmX10_122 : Cond.methodLink RX10 122 yX10_readTable ∈ lw_big := bg (in4 (List.mem_of_getElem? (i := 231) rfl)) rfl
theorem lmX10_141 : Cond.methodLink RX10 141 yX10_forget ∈ lw_big := bg (in4 (List.mem_of_getElem? (i := 239) rfl)) rfl
theorem lmX10_144 : Cond.methodLink RX10 144 yX10_readImage ∈ lw_big := bg (in5 (List.mem_of_getElem? (i := 3) rfl)) rfl
theorem lmX10_148 : Cond.methodLink RX10 148 yX10_readMore ∈ lw_big := bg (in5 (List.mem_of_getElem? (i := 66) rfl)) rfl
theorem lmX10_151 : Cond.methodLink RX10 151 yX10_skip ∈ lw_big := bg (in5 (List.mem_of_getElem? (i := 74) rfl)) rfl
theorem lmX10_154 : Cond.methodLink RX10 154 yX10_length ∈ lw_big := bg (in5 (List.mem_of_getElem? (i := 70) rfl)) rfl
theorem lmX10_157 : Cond.methodLink RX10 157 yX10_rows ∈ lw_big := bg (in5 (List.mem_of_getElem? (i := 78) rfl)) rfl
theorem lmX10_160 : Cond.methodLink RX10 160 yX10_localAt ∈ lw_big := bg (in5 (List.mem_of_getElem? (i := 7) rfl)) rfl
theorem lmX10_163 : Cond.methodLink RX10 163 yX10_setField ∈ lw_big := bg (in5 (List.mem_of_getElem? (i := 10) rfl)) rfl
theorem lmX10_167 : Cond.methodLink RX10 167 yX10_gather ∈ lw_big := bg (in5 (List.mem_of_getElem? (i := 14) rfl)) rfl
theorem lmX10_170 : Cond.methodLink RX10 170 yX10_codes ∈ lw_big := bg (in5 (List.mem_of_getElem? (i := 18) rfl)) rfl
theorem lmX10_189 : Cond.methodLink RX10 189 yX10_places ∈ lw_big := bg (in5 (List.mem_of_getElem? (i := 22) rfl)) rfl
theorem lmX10_193 : Cond.methodLink RX10 193 yX10_colours ∈ lw_big := bg (in5 (List.mem_of_getElem? (i := 30) rfl)) rfl
theorem lmX10_196 : Cond.methodLink RX10 196 yX10_alone ∈ lw_big := bg (in5 (List.mem_of_getElem? (i := 34) rfl)) rfl
theorem lmX10_199 : Cond.methodLink RX10 199 yX10_restart ∈ lw_big := bg (in5 (List.mem_of_getElem? (i := 38) rfl)) rfl
theorem lmX10_202 : Cond.methodLink RX10 202 yX10_code ∈ lw_big := bg (in5 (List.mem_of_getElem? (i := 42) rfl)) rfl
theorem lmX10_205 : Cond.methodLink RX10 205 yX10_put ∈ lw_big := bg (in5 (List.mem_of_getElem? (i := 46) rfl)) rfl
theorem lmX10_209 : Cond.methodLink RX10 209 yX10_tell ∈ lw_big := bg (in5 (List.mem_of_getElem? (i := 62) rfl)) rfl
theorem lmX10_212 : Cond.methodLink RX10 212 yX10_placeOf ∈ lw_big := bg (in5 (List.mem_of_getElem? (i := 50) rfl)) rfl
theorem lmX10_215 : Cond.methodLink RX10 215 yX10_setIndex ∈ lw_big := bg (in5 (List.mem_of_getElem? (i := 57) rfl)) rfl
theorem lmX10_218 : Cond.methodLink RX10 218 yX10_line ∈ lw_big := bg (in5 (List.mem_of_getElem? (i := 54) rfl)) rfl
theorem lmX10_221 : Cond.methodLink RX10 221 yX10_isWithin ∈ lw_big := bg (in5 (List.mem_of_getElem? (i := 94) rfl)) rfl
theorem lmX10_225 : Cond.methodLink RX10 225 yX10_isTable ∈ lw_big := bg (in5 (List.mem_of_getElem? (i := 97) rfl)) rfl
theorem lmX10_229 : Cond.methodLink RX10 229 yX10_isFrame ∈ lw_big := bg (in5 (List.mem_of_getElem? (i := 108) rfl)) rfl
theorem lmX10_232 : Cond.methodLink RX10 232 yX10_isColour ∈ lw_big := bg (in5 (List.mem_of_getElem? (i := 104) rfl)) rfl
theorem lmX10_240 : Cond.methodLink RX10 240 yX10_say ∈ lw_big := bg (in5 (List.mem_of_getElem? (i := 130) rfl)) rfl
theorem lmX10_243 : Cond.methodLink RX10 243 yX10_sayTwo ∈ lw_big := bg (in5 (List.mem_of_getElem? (i := 134) rfl)) rfl
theorem lmX10_246 : Cond.methodLink RX10 246 yX10_bitsOf ∈ lw_big := bg (in5 (List.mem_of_getElem? (i := 138) rfl)) rfl
theorem lmX10_250 : Cond.methodLink RX10 250 yX10_sayTable ∈ lw_big := bg (in5 (List.mem_of_getElem? (i := 141) rfl)) rfl
theorem lmX10_253 : Cond.methodLink RX10 253 yX10_sayFrame ∈ lw_big := bg (in5 (List.mem_of_getElem? (i := 145) rfl)) rfl
theorem lmX10_256 : Cond.methodLink RX10 256 yX10_sayCodes ∈ lw_big := bg (in5 (List.mem_of_getElem? (i := 149) rfl)) rfl
theorem lmX10_262 : Cond.methodLink RX10 262 yX10_sayRow ∈ lw_big := bg (in5 (List.mem_of_getElem? (i := 157) rfl)) rfl
theorem lmX10_271 : Cond.methodLink RX10 271 yX10_indexAt ∈ lw_big := bg (in5 (List.mem_of_getElem? (i := 169) rfl)) rfl
theorem lmX10_274 : Cond.methodLink RX10 274 yX10_indexOf ∈ lw_big := bg (in5 (List.mem_of_getElem? (i := 165) rfl)) rfl
theorem lmX10_277 : Cond.methodLink RX10 277 yX10_sayBits ∈ lw_big := bg (in5 (List.mem_of_getElem? (i := 153) rfl)) rfl
theorem lmX10_280 : Cond.methodLink RX10 280 yX10_sayLongest ∈ lw_big := bg (in5 (List.mem_of_getElem? (i := 161) rfl)) rfl
theorem lmX10_283 : Cond.methodLink RX10 283 yX10_stands ∈ lw_big := bg (in5 (List.mem_of_getElem? (i := 173) rfl)) rfl
theorem lmX10_287 : Cond.methodLink RX10 287 yX10_covers ∈ lw_big := bg (in5 (List.mem_of_getElem? (i := 201) rfl)) rfl
theorem lkX9_101 : Cond.constant RX9 101 (16777215) ∈ lw_big := bg (in3 (List.mem_of_getElem? (i := 148) rfl)) rfl
theorem lkX9_125 : Cond.constant RX9 125 (65535) ∈ lw_big := bg (in3 (List.mem_of_getElem? (i := 161) rfl)) rfl
theorem lkX10_36 : Cond.constant RX10 36 (196608) ∈ lw_big := bg (in4 (List.mem_of_getElem? (i := 74) rfl)) rfl
theorem lkX10_65 : Cond.constant RX10 65 (98304) ∈ lw_big := bg (in5 (List.mem_of_getElem? (i := 61) rfl)) rfl
theorem lkX10_235 : Cond.constant RX10 235 (16777215) ∈ lw_big := bg (in5 (List.mem_of_getElem? (i := 112) rfl)) rfl
theorem lkX10_236 : Cond.constant RX10 236 (65535) ∈ lw_big := bg (in5 (List.mem_of_getElem? (i := 121) rfl)) rfl
theorem lkJ6_264 : Cond.constant RJ6 264 (65536) ∈ lw_big := bg (in3 (List.mem_of_getElem? (i := 200) rfl)) rfl
theorem lkJ6_265 : Cond.constant RJ6 265 (1431655765) ∈ lw_big := bg (in3 (List.mem_of_getElem? (i := 125) rfl)) rfl
theorem lkJ6_266 : Cond.constant RJ6 266 (858993459) ∈ lw_big := bg (in3 (List.mem_of_getElem? (i := 126) rfl)) rfl
theorem lkJ6_267 : Cond.constant RJ6 267 (252645135) ∈ lw_big := bg (in3 (List.mem_of_getElem? (i := 127) rfl)) rfl
theorem lcX9_9 : Cond.classLink RX9 9 RX5 ∈ lw_big := bg (in1 (List.mem_of_getElem? (i := 23) rfl)) rfl
theorem lcX9_23 : Cond.classLink RX9 23 RX0 ∈ lw_big := bg (in2 (List.mem_of_getElem? (i := 59) rfl)) rfl
theorem lcX9_29 : Cond.classLink RX9 29 RX4 ∈ lw_big := bg (in2 (List.mem_of_getElem? (i := 61) rfl)) rfl
theorem lcX9_36 : Cond.classLink RX9 36 RX6 ∈ lw_big := bg (in2 (List.mem_of_getElem? (i := 63) rfl)) rfl
theorem lcX1_9 : Cond.classLink RX1 9 RX0 ∈ lw_big := bg (in1 (List.mem_of_getElem? (i := 57) rfl)) rfl
theorem lcX2_9 : Cond.classLink RX2 9 RX0 ∈ lw_big := bg (in2 (List.mem_of_getElem? (i := 75) rfl)) rfl
theorem lcX3_28 : Cond.classLink RX3 28 RX7 ∈ lw_big := bg (in1 (List.mem_of_getElem? (i := 169) rfl)) rfl
theorem lcX3_35 : Cond.classLink RX3 35 RX8 ∈ lw_big := bg (in1 (List.mem_of_getElem? (i := 171) rfl)) rfl
theorem lcX4_9 : Cond.classLink RX4 9 RX7 ∈ lw_big := bg (in1 (List.mem_of_getElem? (i := 141) rfl)) rfl
theorem lcX4_18 : Cond.classLink RX4 18 RX3 ∈ lw_big := bg (in1 (List.mem_of_getElem? (i := 162) rfl)) rfl
theorem lcX5_9 : Cond.classLink RX5 9 RX0 ∈ lw_big := bg (in1 (List.mem_of_getElem? (i := 29) rfl)) rfl
theorem lcX5_18 : Cond.classLink RX5 18 RX1 ∈ lw_big := bg (in1 (List.mem_of_getElem? (i := 51) rfl)) rfl
theorem lcX5_25 : Cond.classLink RX5 25 RX8 ∈ lw_big := bg (in1 (List.mem_of_getElem? (i := 98) rfl)) rfl
theorem lcX5_32 : Cond.classLink RX5 32 RX4 ∈ lw_big := bg (in1 (List.mem_of_getElem? (i := 135) rfl)) rfl
theorem lcX6_9 : Cond.classLink RX6 9 RX2 ∈ lw_big := bg (in2 (List.mem_of_getElem? (i := 69) rfl)) rfl
theorem lcX6_18 : Cond.classLink RX6 18 RX0 ∈ lw_big := bg (in2 (List.mem_of_getElem? (i := 116) rfl)) rfl
theorem lcL_7 : Cond.classLink RL 7 RX9 ∈ lw_big := bg (in1 (List.mem_of_getElem? (i := 15) rfl)) rfl
theorem lcL_10 : Cond.classLink RL 10 RX10 ∈ lw_big := bg (in4 (List.mem_of_getElem? (i := 68) rfl)) rfl
theorem wiX0 : Cond.initialized RX0 ∈ lw_big := bg (in1 (List.mem_of_getElem? (i := 3) rfl)) rfl
theorem wnX0 : Cond.instantiable RX0 3 ∈ lw_big := bg (in1 (List.mem_of_getElem? (i := 30) rfl)) rfl
theorem uwX0 : ∀ w ∈ u_ws RX0 TX0 3, w ∈ lw_big := fun w h => (fun (q : w ∈ lw_tbl ∧ goodWord w = true) => bg q.1 q.2) ((show ∀ w ∈ u_ws RX0 TX0 3, w ∈ lw_tbl ∧ goodWord w = true by decide +kernel) w h)
theorem wiX1 : Cond.initialized RX1 ∈ lw_big := bg (in1 (List.mem_of_getElem? (i := 4) rfl)) rfl
theorem wnX1 : Cond.instantiable RX1 12 ∈ lw_big := bg (in1 (List.mem_of_getElem? (i := 52) rfl)) rfl
theorem uwX1 : ∀ w ∈ u_ws RX1 TX1 12, w ∈ lw_big := fun w h => (fun (q : w ∈ lw_tbl ∧ goodWord w = true) => bg q.1 q.2) ((show ∀ w ∈ u_ws RX1 TX1 12, w ∈ lw_tbl ∧ goodWord w = true by decide +kernel) w h)
theorem wiX2 : Cond.initialized RX2 ∈ lw_big := bg (in1 (List.mem_of_getElem? (i := 10) rfl)) rfl
theorem wnX2 : Cond.instantiable RX2 12 ∈ lw_big := bg (in2 (List.mem_of_getElem? (i := 70) rfl)) rfl
theorem uwX2 : ∀ w ∈ u_ws RX2 TX2 12, w ∈ lw_big := fun w h => (fun (q : w ∈ lw_tbl ∧ goodWord w = true) => bg q.1 q.2) ((show ∀ w ∈ u_ws RX2 TX2 12, w ∈ lw_tbl ∧ goodWord w = true by decide +kernel) w h)
theorem wiX3 : Cond.initialized RX3 ∈ lw_big := bg (in1 (List.mem_of_getElem? (i := 8) rfl)) rfl
theorem wnX3 : Cond.instantiable RX3 8 ∈ lw_big := bg (in1 (List.mem_of_getElem? (i := 164) rfl)) rfl
theorem uwX3 : ∀ w ∈ u_ws RX3 TX3 8, w ∈ lw_big := fun w h => (fun (q : w ∈ lw_tbl ∧ goodWord w = true) => bg q.1 q.2) ((show ∀ w ∈ u_ws RX3 TX3 8, w ∈ lw_tbl ∧ goodWord w = true by decide +kernel) w h)
theorem wiX4 : Cond.initialized RX4 ∈ lw_big := bg (in1 (List.mem_of_getElem? (i := 6) rfl)) rfl
theorem wnX4 : Cond.instantiable RX4 7 ∈ lw_big := bg (in1 (List.mem_of_getElem? (i := 136) rfl)) rfl
theorem uwX4 : ∀ w ∈ u_ws RX4 TX4 7, w ∈ lw_big := fun w h => (fun (q : w ∈ lw_tbl ∧ goodWord w = true) => bg q.1 q.2) ((show ∀ w ∈ u_ws RX4 TX4 7, w ∈ lw_tbl ∧ goodWord w = true by decide +kernel) w h)
theorem wiX5 : Cond.initialized RX5 ∈ lw_big := bg (in1 (List.mem_of_getElem? (i := 2) rfl)) rfl
theorem wnX5 : Cond.instantiable RX5 11 ∈ lw_big := bg (in1 (List.mem_of_getElem? (i := 24) rfl)) rfl
theorem uwX5 : ∀ w ∈ u_ws RX5 TX5 11, w ∈ lw_big := fun w h => (fun (q : w ∈ lw_tbl ∧ goodWord w = true) => bg q.1 q.2) ((show ∀ w ∈ u_ws RX5 TX5 11, w ∈ lw_tbl ∧ goodWord w = true by decide +kernel) w h)
theorem wiX6 : Cond.initialized RX6 ∈ lw_big := bg (in1 (List.mem_of_getElem? (i := 9) rfl)) rfl
theorem wnX6 : Cond.instantiable RX6 2 ∈ lw_big := bg (in2 (List.mem_of_getElem? (i := 64) rfl)) rfl
theorem uwX6 : ∀ w ∈ u_ws RX6 TX6 2, w ∈ lw_big := fun w h => (fun (q : w ∈ lw_tbl ∧ goodWord w = true) => bg q.1 q.2) ((show ∀ w ∈ u_ws RX6 TX6 2, w ∈ lw_tbl ∧ goodWord w = true by decide +kernel) w h)
theorem wiX7 : Cond.initialized RX7 ∈ lw_big := bg (in1 (List.mem_of_getElem? (i := 7) rfl)) rfl
theorem wnX7 : Cond.instantiable RX7 2 ∈ lw_big := bg (in1 (List.mem_of_getElem? (i := 142) rfl)) rfl
theorem uwX7 : ∀ w ∈ u_ws RX7 TX7 2, w ∈ lw_big := fun w h => (fun (q : w ∈ lw_tbl ∧ goodWord w = true) => bg q.1 q.2) ((show ∀ w ∈ u_ws RX7 TX7 2, w ∈ lw_tbl ∧ goodWord w = true by decide +kernel) w h)
theorem wiX8 : Cond.initialized RX8 ∈ lw_big := bg (in1 (List.mem_of_getElem? (i := 5) rfl)) rfl
theorem wnX8 : Cond.instantiable RX8 4 ∈ lw_big := bg (in1 (List.mem_of_getElem? (i := 99) rfl)) rfl
theorem uwX8 : ∀ w ∈ u_ws RX8 TX8 4, w ∈ lw_big := fun w h => (fun (q : w ∈ lw_tbl ∧ goodWord w = true) => bg q.1 q.2) ((show ∀ w ∈ u_ws RX8 TX8 4, w ∈ lw_tbl ∧ goodWord w = true by decide +kernel) w h)
theorem wiX9 : Cond.initialized RX9 ∈ lw_big := bg (in1 (List.mem_of_getElem? (i := 1) rfl)) rfl
theorem wnX9 : Cond.instantiable RX9 6 ∈ lw_big := bg (in1 (List.mem_of_getElem? (i := 16) rfl)) rfl
theorem uwX9 : ∀ w ∈ u_ws RX9 TX9 6, w ∈ lw_big := fun w h => (fun (q : w ∈ lw_tbl ∧ goodWord w = true) => bg q.1 q.2) ((show ∀ w ∈ u_ws RX9 TX9 6, w ∈ lw_tbl ∧ goodWord w = true by decide +kernel) w h)
theorem wiX10 : Cond.initialized RX10 ∈ lw_big := bg (in1 (List.mem_of_getElem? (i := 11) rfl)) rfl
theorem wnX10 : Cond.instantiable RX10 38 ∈ lw_big := bg (in4 (List.mem_of_getElem? (i := 69) rfl)) rfl
theorem uwX10 : ∀ w ∈ u_ws RX10 TX10 38, w ∈ lw_big := fun w h => (fun (q : w ∈ lw_tbl ∧ goodWord w = true) => bg q.1 q.2) ((show ∀ w ∈ u_ws RX10 TX10 38, w ∈ lw_tbl ∧ goodWord w = true by decide +kernel) w h)
theorem wiJ6 : Cond.initialized RJ6 ∈ lw_big := bg (in1 (List.mem_of_getElem? (i := 14) rfl)) rfl
theorem wiJ9 : Cond.initialized RJ9 ∈ lw_big := bg (in1 (List.mem_of_getElem? (i := 13) rfl)) rfl
theorem wiJ10 : Cond.initialized RJ10 ∈ lw_big := bg (in1 (List.mem_of_getElem? (i := 12) rfl)) rfl
theorem wcX0_init : Cond.code yX0_init cX0_init 1 none ∈ lw_big := bg (in1 (List.mem_of_getElem? (i := 33) rfl)) rfl
theorem wmX0_init : Cond.instanceMethod yX0_init ∈ lw_big := bg (in1 (List.mem_of_getElem? (i := 32) rfl)) rfl
theorem wcX0_clear : Cond.code yX0_clear cX0_clear 1 none ∈ lw_big := bg (in3 (List.mem_of_getElem? (i := 32) rfl)) rfl
theorem wmX0_clear : Cond.instanceMethod yX0_clear ∈ lw_big := bg (in3 (List.mem_of_getElem? (i := 30) rfl)) rfl
theorem wsX0_clear : Cond.selects RX0 yX0_clear yX0_clear ∈ lw_big := bg (in3 (List.mem_of_getElem? (i := 31) rfl)) rfl
theorem wcX0_add : Cond.code yX0_add cX0_add 2 none ∈ lw_big := bg (in2 (List.mem_of_getElem? (i := 155) rfl)) rfl
theorem wmX0_add : Cond.instanceMethod yX0_add ∈ lw_big := bg (in2 (List.mem_of_getElem? (i := 153) rfl)) rfl
theorem wsX0_add : Cond.selects RX0 yX0_add yX0_add ∈ lw_big := bg (in2 (List.mem_of_getElem? (i := 154) rfl)) rfl
theorem wcX0_addTwo : Cond.code yX0_addTwo cX0_addTwo 2 none ∈ lw_big := bg (in3 (List.mem_of_getElem? (i := 188) rfl)) rfl
theorem wmX0_addTwo : Cond.instanceMethod yX0_addTwo ∈ lw_big := bg (in3 (List.mem_of_getElem? (i := 186) rfl)) rfl
theorem wsX0_addTwo : Cond.selects RX0 yX0_addTwo yX0_addTwo ∈ lw_big := bg (in3 (List.mem_of_getElem? (i := 187) rfl)) rfl
theorem wcX0_addFour : Cond.code yX0_addFour cX0_addFour 2 none ∈ lw_big := bg (in2 (List.mem_of_getElem? (i := 151) rfl)) rfl
theorem wmX0_addFour : Cond.instanceMethod yX0_addFour ∈ lw_big := bg (in2 (List.mem_of_getElem? (i := 149) rfl)) rfl
theorem wsX0_addFour : Cond.selects RX0 yX0_addFour yX0_addFour ∈ lw_big := bg (in2 (List.mem_of_getElem? (i := 150) rfl)) rfl
theorem wcX0_at : Cond.code yX0_at cX0_at 2 (some .int) ∈ lw_big := bg (in2 (List.mem_of_getElem? (i := 198) rfl)) rfl
theorem wmX0_at : Cond.instanceMethod yX0_at ∈ lw_big := bg (in2 (List.mem_of_getElem? (i := 196) rfl)) rfl
theorem wsX0_at : Cond.selects RX0 yX0_at yX0_at ∈ lw_big := bg (in2 (List.mem_of_getElem? (i := 197) rfl)) rfl
theorem wcX0_copyFrom : Cond.code yX0_copyFrom cX0_copyFrom 2 none ∈ lw_big := bg (in2 (List.mem_of_getElem? (i := 163) rfl)) rfl
theorem wmX0_copyFrom : Cond.instanceMethod yX0_copyFrom ∈ lw_big := bg (in2 (List.mem_of_getElem? (i := 161) rfl)) rfl
theorem wsX0_copyFrom : Cond.selects RX0 yX0_copyFrom yX0_copyFrom ∈ lw_big := bg (in2 (List.mem_of_getElem? (i := 162) rfl)) rfl
theorem wcX1_init : Cond.code yX1_init cX1_init 1 none ∈ lw_big := bg (in1 (List.mem_of_getElem? (i := 55) rfl)) rfl
theorem wmX1_init : Cond.instanceMethod yX1_init ∈ lw_big := bg (in1 (List.mem_of_getElem? (i := 54) rfl)) rfl
theorem wcX1_decode : Cond.code yX1_decode cX1_decode 7 (some .boolean) ∈ lw_big := bg (in3 (List.mem_of_getElem? (i := 42) rfl)) rfl
theorem wmX1_decode : Cond.instanceMethod yX1_decode ∈ lw_big := bg (in3 (List.mem_of_getElem? (i := 40) rfl)) rfl
theorem wsX1_decode : Cond.selects RX1 yX1_decode yX1_decode ∈ lw_big := bg (in3 (List.mem_of_getElem? (i := 41) rfl)) rfl
theorem wcX1_start : Cond.code yX1_start cX1_start 3 none ∈ lw_big := bg (in3 (List.mem_of_getElem? (i := 46) rfl)) rfl
theorem wmX1_start : Cond.instanceMethod yX1_start ∈ lw_big := bg (in3 (List.mem_of_getElem? (i := 45) rfl)) rfl
theorem wsX1_start : Cond.selects RX1 yX1_start yX1_start ∈ lw_big := bg (in0 (List.mem_of_getElem? (i := 11) rfl)) rfl
theorem wcX1_forget : Cond.code yX1_forget cX1_forget 1 none ∈ lw_big := bg (in3 (List.mem_of_getElem? (i := 50) rfl)) rfl
theorem wmX1_forget : Cond.instanceMethod yX1_forget ∈ lw_big := bg (in3 (List.mem_of_getElem? (i := 49) rfl)) rfl
theorem wsX1_forget : Cond.selects RX1 yX1_forget yX1_forget ∈ lw_big := bg (in0 (List.mem_of_getElem? (i := 12) rfl)) rfl
theorem wcX1_nextCode : Cond.code yX1_nextCode cX1_nextCode 4 (some .int) ∈ lw_big := bg (in3 (List.mem_of_getElem? (i := 54) rfl)) rfl
theorem wmX1_nextCode : Cond.instanceMethod yX1_nextCode ∈ lw_big := bg (in3 (List.mem_of_getElem? (i := 53) rfl)) rfl
theorem wsX1_nextCode : Cond.selects RX1 yX1_nextCode yX1_nextCode ∈ lw_big := bg (in0 (List.mem_of_getElem? (i := 13) rfl)) rfl
theorem wcX1_isKnown : Cond.code yX1_isKnown cX1_isKnown 3 (some .boolean) ∈ lw_big := bg (in3 (List.mem_of_getElem? (i := 62) rfl)) rfl
theorem wmX1_isKnown : Cond.instanceMethod yX1_isKnown ∈ lw_big := bg (in3 (List.mem_of_getElem? (i := 61) rfl)) rfl
theorem wsX1_isKnown : Cond.selects RX1 yX1_isKnown yX1_isKnown ∈ lw_big := bg (in0 (List.mem_of_getElem? (i := 14) rfl)) rfl
theorem wcX1_tell : Cond.code yX1_tell cX1_tell 2 none ∈ lw_big := bg (in3 (List.mem_of_getElem? (i := 66) rfl)) rfl
theorem wmX1_tell : Cond.instanceMethod yX1_tell ∈ lw_big := bg (in3 (List.mem_of_getElem? (i := 65) rfl)) rfl
theorem wsX1_tell : Cond.selects RX1 yX1_tell yX1_tell ∈ lw_big := bg (in0 (List.mem_of_getElem? (i := 15) rfl)) rfl
theorem wcX1_putOut : Cond.code yX1_putOut cX1_putOut 7 (some .boolean) ∈ lw_big := bg (in3 (List.mem_of_getElem? (i := 70) rfl)) rfl
theorem wmX1_putOut : Cond.instanceMethod yX1_putOut ∈ lw_big := bg (in3 (List.mem_of_getElem? (i := 69) rfl)) rfl
theorem wsX1_putOut : Cond.selects RX1 yX1_putOut yX1_putOut ∈ lw_big := bg (in0 (List.mem_of_getElem? (i := 16) rfl)) rfl
theorem wcX2_init : Cond.code yX2_init cX2_init 1 none ∈ lw_big := bg (in2 (List.mem_of_getElem? (i := 73) rfl)) rfl
theorem wmX2_init : Cond.instanceMethod yX2_init ∈ lw_big := bg (in2 (List.mem_of_getElem? (i := 72) rfl)) rfl
theorem wcX2_encode : Cond.code yX2_encode cX2_encode 4 none ∈ lw_big := bg (in3 (List.mem_of_getElem? (i := 224) rfl)) rfl
theorem wmX2_encode : Cond.instanceMethod yX2_encode ∈ lw_big := bg (in3 (List.mem_of_getElem? (i := 222) rfl)) rfl
theorem wsX2_encode : Cond.selects RX2 yX2_encode yX2_encode ∈ lw_big := bg (in3 (List.mem_of_getElem? (i := 223) rfl)) rfl
theorem wcX2_putClear : Cond.code yX2_putClear cX2_putClear 4 none ∈ lw_big := bg (in3 (List.mem_of_getElem? (i := 229) rfl)) rfl
theorem wmX2_putClear : Cond.instanceMethod yX2_putClear ∈ lw_big := bg (in3 (List.mem_of_getElem? (i := 228) rfl)) rfl
theorem wsX2_putClear : Cond.selects RX2 yX2_putClear yX2_putClear ∈ lw_big := bg (in0 (List.mem_of_getElem? (i := 28) rfl)) rfl
theorem wcX2_putLongest : Cond.code yX2_putLongest cX2_putLongest 3 none ∈ lw_big := bg (in3 (List.mem_of_getElem? (i := 238) rfl)) rfl
theorem wmX2_putLongest : Cond.instanceMethod yX2_putLongest ∈ lw_big := bg (in3 (List.mem_of_getElem? (i := 237) rfl)) rfl
theorem wsX2_putLongest : Cond.selects RX2 yX2_putLongest yX2_putLongest ∈ lw_big := bg (in0 (List.mem_of_getElem? (i := 30) rfl)) rfl
theorem wcX2_tell : Cond.code yX2_tell cX2_tell 2 none ∈ lw_big := bg (in4 (List.mem_of_getElem? (i := 2) rfl)) rfl
theorem wmX2_tell : Cond.instanceMethod yX2_tell ∈ lw_big := bg (in4 (List.mem_of_getElem? (i := 1) rfl)) rfl
theorem wsX2_tell : Cond.selects RX2 yX2_tell yX2_tell ∈ lw_big := bg (in0 (List.mem_of_getElem? (i := 31) rfl)) rfl
theorem wcX2_longest : Cond.code yX2_longest cX2_longest 4 (some .int) ∈ lw_big := bg (in4 (List.mem_of_getElem? (i := 6) rfl)) rfl
theorem wmX2_longest : Cond.instanceMethod yX2_longest ∈ lw_big := bg (in4 (List.mem_of_getElem? (i := 5) rfl)) rfl
theorem wsX2_longest : Cond.selects RX2 yX2_longest yX2_longest ∈ lw_big := bg (in0 (List.mem_of_getElem? (i := 32) rfl)) rfl
theorem wcX2_childOf : Cond.code yX2_childOf cX2_childOf 5 (some .int) ∈ lw_big := bg (in4 (List.mem_of_getElem? (i := 10) rfl)) rfl
theorem wmX2_childOf : Cond.instanceMethod yX2_childOf ∈ lw_big := bg (in4 (List.mem_of_getElem? (i := 9) rfl)) rfl
theorem wsX2_childOf : Cond.selects RX2 yX2_childOf yX2_childOf ∈ lw_big := bg (in0 (List.mem_of_getElem? (i := 33) rfl)) rfl
theorem wcX2_putCode : Cond.code yX2_putCode cX2_putCode 3 none ∈ lw_big := bg (in3 (List.mem_of_getElem? (i := 233) rfl)) rfl
theorem wmX2_putCode : Cond.instanceMethod yX2_putCode ∈ lw_big := bg (in3 (List.mem_of_getElem? (i := 232) rfl)) rfl
theorem wsX2_putCode : Cond.selects RX2 yX2_putCode yX2_putCode ∈ lw_big := bg (in0 (List.mem_of_getElem? (i := 29) rfl)) rfl
theorem wcX3_init : Cond.code yX3_init cX3_init 1 none ∈ lw_big := bg (in1 (List.mem_of_getElem? (i := 167) rfl)) rfl
theorem wmX3_init : Cond.instanceMethod yX3_init ∈ lw_big := bg (in1 (List.mem_of_getElem? (i := 166) rfl)) rfl
theorem wcX3_reset : Cond.code yX3_reset cX3_reset 5 none ∈ lw_big := bg (in3 (List.mem_of_getElem? (i := 11) rfl)) rfl
theorem wmX3_reset : Cond.instanceMethod yX3_reset ∈ lw_big := bg (in3 (List.mem_of_getElem? (i := 9) rfl)) rfl
theorem wsX3_reset : Cond.selects RX3 yX3_reset yX3_reset ∈ lw_big := bg (in3 (List.mem_of_getElem? (i := 10) rfl)) rfl
theorem wcX3_size : Cond.code yX3_size cX3_size 1 (some .int) ∈ lw_big := bg (in3 (List.mem_of_getElem? (i := 16) rfl)) rfl
theorem wmX3_size : Cond.instanceMethod yX3_size ∈ lw_big := bg (in3 (List.mem_of_getElem? (i := 14) rfl)) rfl
theorem wsX3_size : Cond.selects RX3 yX3_size yX3_size ∈ lw_big := bg (in3 (List.mem_of_getElem? (i := 15) rfl)) rfl
theorem wcX3_fill : Cond.code yX3_fill cX3_fill 5 none ∈ lw_big := bg (in3 (List.mem_of_getElem? (i := 20) rfl)) rfl
theorem wmX3_fill : Cond.instanceMethod yX3_fill ∈ lw_big := bg (in3 (List.mem_of_getElem? (i := 18) rfl)) rfl
theorem wsX3_fill : Cond.selects RX3 yX3_fill yX3_fill ∈ lw_big := bg (in3 (List.mem_of_getElem? (i := 19) rfl)) rfl
theorem wcX3_covers : Cond.code yX3_covers cX3_covers 3 (some .boolean) ∈ lw_big := bg (in4 (List.mem_of_getElem? (i := 58) rfl)) rfl
theorem wmX3_covers : Cond.instanceMethod yX3_covers ∈ lw_big := bg (in4 (List.mem_of_getElem? (i := 56) rfl)) rfl
theorem wsX3_covers : Cond.selects RX3 yX3_covers yX3_covers ∈ lw_big := bg (in4 (List.mem_of_getElem? (i := 57) rfl)) rfl
theorem wcX3_indexAt : Cond.code yX3_indexAt cX3_indexAt 3 (some .int) ∈ lw_big := bg (in4 (List.mem_of_getElem? (i := 66) rfl)) rfl
theorem wmX3_indexAt : Cond.instanceMethod yX3_indexAt ∈ lw_big := bg (in4 (List.mem_of_getElem? (i := 64) rfl)) rfl
theorem wsX3_indexAt : Cond.selects RX3 yX3_indexAt yX3_indexAt ∈ lw_big := bg (in4 (List.mem_of_getElem? (i := 65) rfl)) rfl
theorem wcX3_fromStreamOrder : Cond.code yX3_fromStreamOrder cX3_fromStreamOrder 3 none ∈ lw_big := bg (in3 (List.mem_of_getElem? (i := 74) rfl)) rfl
theorem wmX3_fromStreamOrder : Cond.instanceMethod yX3_fromStreamOrder ∈ lw_big := bg (in3 (List.mem_of_getElem? (i := 72) rfl)) rfl
theorem wsX3_fromStreamOrder : Cond.selects RX3 yX3_fromStreamOrder yX3_fromStreamOrder ∈ lw_big := bg (in3 (List.mem_of_getElem? (i := 73) rfl)) rfl
theorem wcX3_toStreamOrder : Cond.code yX3_toStreamOrder cX3_toStreamOrder 3 none ∈ lw_big := bg (in3 (List.mem_of_getElem? (i := 219) rfl)) rfl
theorem wmX3_toStreamOrder : Cond.instanceMethod yX3_toStreamOrder ∈ lw_big := bg (in3 (List.mem_of_getElem? (i := 217) rfl)) rfl
theorem wsX3_toStreamOrder : Cond.selects RX3 yX3_toStreamOrder yX3_toStreamOrder ∈ lw_big := bg (in3 (List.mem_of_getElem? (i := 218) rfl)) rfl
theorem wcX3_lineOf : Cond.code yX3_lineOf cX3_lineOf 7 (some .int) ∈ lw_big := bg (in3 (List.mem_of_getElem? (i := 78) rfl)) rfl
theorem wmX3_lineOf : Cond.instanceMethod yX3_lineOf ∈ lw_big := bg (in3 (List.mem_of_getElem? (i := 77) rfl)) rfl
theorem wsX3_lineOf : Cond.selects RX3 yX3_lineOf yX3_lineOf ∈ lw_big := bg (in0 (List.mem_of_getElem? (i := 17) rfl)) rfl
theorem wcX4_init : Cond.code yX4_init cX4_init 2 none ∈ lw_big := bg (in1 (List.mem_of_getElem? (i := 139) rfl)) rfl
theorem wmX4_init : Cond.instanceMethod yX4_init ∈ lw_big := bg (in1 (List.mem_of_getElem? (i := 138) rfl)) rfl
theorem wcX4_reset : Cond.code yX4_reset cX4_reset 6 none ∈ lw_big := bg (in1 (List.mem_of_getElem? (i := 221) rfl)) rfl
theorem wmX4_reset : Cond.instanceMethod yX4_reset ∈ lw_big := bg (in1 (List.mem_of_getElem? (i := 219) rfl)) rfl
theorem wsX4_reset : Cond.selects RX4 yX4_reset yX4_reset ∈ lw_big := bg (in1 (List.mem_of_getElem? (i := 220) rfl)) rfl
theorem wcX4_hasRoom : Cond.code yX4_hasRoom cX4_hasRoom 1 (some .boolean) ∈ lw_big := bg (in2 (List.mem_of_getElem? (i := 235) rfl)) rfl
theorem wmX4_hasRoom : Cond.instanceMethod yX4_hasRoom ∈ lw_big := bg (in2 (List.mem_of_getElem? (i := 233) rfl)) rfl
theorem wsX4_hasRoom : Cond.selects RX4 yX4_hasRoom yX4_hasRoom ∈ lw_big := bg (in2 (List.mem_of_getElem? (i := 234) rfl)) rfl
theorem wcX4_holds : Cond.code yX4_holds cX4_holds 5 (some .boolean) ∈ lw_big := bg (in2 (List.mem_of_getElem? (i := 239) rfl)) rfl
theorem wmX4_holds : Cond.instanceMethod yX4_holds ∈ lw_big := bg (in2 (List.mem_of_getElem? (i := 237) rfl)) rfl
theorem wsX4_holds : Cond.selects RX4 yX4_holds yX4_holds ∈ lw_big := bg (in2 (List.mem_of_getElem? (i := 238) rfl)) rfl
theorem wcX4_givesTable : Cond.code yX4_givesTable cX4_givesTable 2 (some .boolean) ∈ lw_big := bg (in3 (List.mem_of_getElem? (i := 3) rfl)) rfl
theorem wmX4_givesTable : Cond.instanceMethod yX4_givesTable ∈ lw_big := bg (in3 (List.mem_of_getElem? (i := 1) rfl)) rfl
theorem wsX4_givesTable : Cond.selects RX4 yX4_givesTable yX4_givesTable ∈ lw_big := bg (in3 (List.mem_of_getElem? (i := 2) rfl)) rfl
theorem wcX4_frameAt : Cond.code yX4_frameAt cX4_frameAt 2 (some (.object "PictureReel$Frame")) ∈ lw_big := bg (in3 (List.mem_of_getElem? (i := 143) rfl)) rfl
theorem wmX4_frameAt : Cond.instanceMethod yX4_frameAt ∈ lw_big := bg (in3 (List.mem_of_getElem? (i := 141) rfl)) rfl
theorem wsX4_frameAt : Cond.selects RX4 yX4_frameAt yX4_frameAt ∈ lw_big := bg (in3 (List.mem_of_getElem? (i := 142) rfl)) rfl
theorem wcX4_tableOf : Cond.code yX4_tableOf cX4_tableOf 2 (some (.object "PictureReel$Table")) ∈ lw_big := bg (in3 (List.mem_of_getElem? (i := 38) rfl)) rfl
theorem wmX4_tableOf : Cond.instanceMethod yX4_tableOf ∈ lw_big := bg (in3 (List.mem_of_getElem? (i := 36) rfl)) rfl
theorem wsX4_tableOf : Cond.selects RX4 yX4_tableOf yX4_tableOf ∈ lw_big := bg (in3 (List.mem_of_getElem? (i := 37) rfl)) rfl
theorem wcX4_addFrame : Cond.code yX4_addFrame cX4_addFrame 8 (some (.object "PictureReel$Frame")) ∈ lw_big := bg (in3 (List.mem_of_getElem? (i := 7) rfl)) rfl
theorem wmX4_addFrame : Cond.instanceMethod yX4_addFrame ∈ lw_big := bg (in3 (List.mem_of_getElem? (i := 5) rfl)) rfl
theorem wsX4_addFrame : Cond.selects RX4 yX4_addFrame yX4_addFrame ∈ lw_big := bg (in3 (List.mem_of_getElem? (i := 6) rfl)) rfl
theorem wcX4_colourAt : Cond.code yX4_colourAt cX4_colourAt 7 (some .int) ∈ lw_big := bg (in4 (List.mem_of_getElem? (i := 49) rfl)) rfl
theorem wmX4_colourAt : Cond.instanceMethod yX4_colourAt ∈ lw_big := bg (in4 (List.mem_of_getElem? (i := 47) rfl)) rfl
theorem wsX4_colourAt : Cond.selects RX4 yX4_colourAt yX4_colourAt ∈ lw_big := bg (in4 (List.mem_of_getElem? (i := 48) rfl)) rfl
theorem wcX4_shown : Cond.code yX4_shown cX4_shown 6 (some .int) ∈ lw_big := bg (in4 (List.mem_of_getElem? (i := 62) rfl)) rfl
theorem wmX4_shown : Cond.instanceMethod yX4_shown ∈ lw_big := bg (in4 (List.mem_of_getElem? (i := 61) rfl)) rfl
theorem wsX4_shown : Cond.selects RX4 yX4_shown yX4_shown ∈ lw_big := bg (in0 (List.mem_of_getElem? (i := 36) rfl)) rfl
theorem wcX4_leftBehind : Cond.code yX4_leftBehind cX4_leftBehind 6 (some .int) ∈ lw_big := bg (in4 (List.mem_of_getElem? (i := 54) rfl)) rfl
theorem wmX4_leftBehind : Cond.instanceMethod yX4_leftBehind ∈ lw_big := bg (in4 (List.mem_of_getElem? (i := 53) rfl)) rfl
theorem wsX4_leftBehind : Cond.selects RX4 yX4_leftBehind yX4_leftBehind ∈ lw_big := bg (in0 (List.mem_of_getElem? (i := 35) rfl)) rfl
theorem wcX5_init : Cond.code yX5_init cX5_init 1 none ∈ lw_big := bg (in1 (List.mem_of_getElem? (i := 27) rfl)) rfl
theorem wmX5_init : Cond.instanceMethod yX5_init ∈ lw_big := bg (in1 (List.mem_of_getElem? (i := 26) rfl)) rfl
theorem wcX5_exchange : Cond.code yX5_exchange cX5_exchange 3 (some (.object "PictureReel$Picture")) ∈ lw_big := bg (in3 (List.mem_of_getElem? (i := 109) rfl)) rfl
theorem wmX5_exchange : Cond.instanceMethod yX5_exchange ∈ lw_big := bg (in3 (List.mem_of_getElem? (i := 107) rfl)) rfl
theorem wsX5_exchange : Cond.selects RX5 yX5_exchange yX5_exchange ∈ lw_big := bg (in3 (List.mem_of_getElem? (i := 108) rfl)) rfl
theorem wcX5_parse : Cond.code yX5_parse cX5_parse 3 none ∈ lw_big := bg (in2 (List.mem_of_getElem? (i := 174) rfl)) rfl
theorem wmX5_parse : Cond.instanceMethod yX5_parse ∈ lw_big := bg (in2 (List.mem_of_getElem? (i := 172) rfl)) rfl
theorem wsX5_parse : Cond.selects RX5 yX5_parse yX5_parse ∈ lw_big := bg (in2 (List.mem_of_getElem? (i := 173) rfl)) rfl
theorem wcX5_refuse : Cond.code yX5_refuse cX5_refuse 3 none ∈ lw_big := bg (in2 (List.mem_of_getElem? (i := 194) rfl)) rfl
theorem wmX5_refuse : Cond.instanceMethod yX5_refuse ∈ lw_big := bg (in2 (List.mem_of_getElem? (i := 193) rfl)) rfl
theorem wsX5_refuse : Cond.selects RX5 yX5_refuse yX5_refuse ∈ lw_big := bg (in0 (List.mem_of_getElem? (i := 3) rfl)) rfl
theorem wcX5_nextByte : Cond.code yX5_nextByte cX5_nextByte 1 (some .int) ∈ lw_big := bg (in2 (List.mem_of_getElem? (i := 190) rfl)) rfl
theorem wmX5_nextByte : Cond.instanceMethod yX5_nextByte ∈ lw_big := bg (in2 (List.mem_of_getElem? (i := 189) rfl)) rfl
theorem wsX5_nextByte : Cond.selects RX5 yX5_nextByte yX5_nextByte ∈ lw_big := bg (in0 (List.mem_of_getElem? (i := 2) rfl)) rfl
theorem wcX5_nextNumber : Cond.code yX5_nextNumber cX5_nextNumber 2 (some .int) ∈ lw_big := bg (in2 (List.mem_of_getElem? (i := 208) rfl)) rfl
theorem wmX5_nextNumber : Cond.instanceMethod yX5_nextNumber ∈ lw_big := bg (in2 (List.mem_of_getElem? (i := 207) rfl)) rfl
theorem wsX5_nextNumber : Cond.selects RX5 yX5_nextNumber yX5_nextNumber ∈ lw_big := bg (in0 (List.mem_of_getElem? (i := 5) rfl)) rfl
theorem wcX5_skip : Cond.code yX5_skip cX5_skip 3 none ∈ lw_big := bg (in3 (List.mem_of_getElem? (i := 95) rfl)) rfl
theorem wmX5_skip : Cond.instanceMethod yX5_skip ∈ lw_big := bg (in3 (List.mem_of_getElem? (i := 94) rfl)) rfl
theorem wsX5_skip : Cond.selects RX5 yX5_skip yX5_skip ∈ lw_big := bg (in0 (List.mem_of_getElem? (i := 20) rfl)) rfl
theorem wcX5_expect : Cond.code yX5_expect cX5_expect 3 none ∈ lw_big := bg (in3 (List.mem_of_getElem? (i := 91) rfl)) rfl
theorem wmX5_expect : Cond.instanceMethod yX5_expect ∈ lw_big := bg (in3 (List.mem_of_getElem? (i := 90) rfl)) rfl
theorem wsX5_expect : Cond.selects RX5 yX5_expect yX5_expect ∈ lw_big := bg (in0 (List.mem_of_getElem? (i := 19) rfl)) rfl
theorem wcX5_parseStart : Cond.code yX5_parseStart cX5_parseStart 4 none ∈ lw_big := bg (in2 (List.mem_of_getElem? (i := 186) rfl)) rfl
theorem wmX5_parseStart : Cond.instanceMethod yX5_parseStart ∈ lw_big := bg (in2 (List.mem_of_getElem? (i := 185) rfl)) rfl
theorem wsX5_parseStart : Cond.selects RX5 yX5_parseStart yX5_parseStart ∈ lw_big := bg (in0 (List.mem_of_getElem? (i := 1) rfl)) rfl
theorem wcX5_parseScreen : Cond.code yX5_parseScreen cX5_parseScreen 6 none ∈ lw_big := bg (in2 (List.mem_of_getElem? (i := 204) rfl)) rfl
theorem wmX5_parseScreen : Cond.instanceMethod yX5_parseScreen ∈ lw_big := bg (in2 (List.mem_of_getElem? (i := 203) rfl)) rfl
theorem wsX5_parseScreen : Cond.selects RX5 yX5_parseScreen yX5_parseScreen ∈ lw_big := bg (in0 (List.mem_of_getElem? (i := 4) rfl)) rfl
theorem wcX5_parseTable : Cond.code yX5_parseTable cX5_parseTable 6 none ∈ lw_big := bg (in2 (List.mem_of_getElem? (i := 219) rfl)) rfl
theorem wmX5_parseTable : Cond.instanceMethod yX5_parseTable ∈ lw_big := bg (in2 (List.mem_of_getElem? (i := 218) rfl)) rfl
theorem wsX5_parseTable : Cond.selects RX5 yX5_parseTable yX5_parseTable ∈ lw_big := bg (in0 (List.mem_of_getElem? (i := 6) rfl)) rfl
theorem wcX5_parseBlock : Cond.code yX5_parseBlock cX5_parseBlock 3 none ∈ lw_big := bg (in2 (List.mem_of_getElem? (i := 223) rfl)) rfl
theorem wmX5_parseBlock : Cond.instanceMethod yX5_parseBlock ∈ lw_big := bg (in2 (List.mem_of_getElem? (i := 222) rfl)) rfl
theorem wsX5_parseBlock : Cond.selects RX5 yX5_parseBlock yX5_parseBlock ∈ lw_big := bg (in0 (List.mem_of_getElem? (i := 7) rfl)) rfl
theorem wcX5_parseEnd : Cond.code yX5_parseEnd cX5_parseEnd 1 none ∈ lw_big := bg (in3 (List.mem_of_getElem? (i := 104) rfl)) rfl
theorem wmX5_parseEnd : Cond.instanceMethod yX5_parseEnd ∈ lw_big := bg (in3 (List.mem_of_getElem? (i := 103) rfl)) rfl
theorem wsX5_parseEnd : Cond.selects RX5 yX5_parseEnd yX5_parseEnd ∈ lw_big := bg (in0 (List.mem_of_getElem? (i := 22) rfl)) rfl
theorem wcX5_parseExtension : Cond.code yX5_parseExtension cX5_parseExtension 3 none ∈ lw_big := bg (in3 (List.mem_of_getElem? (i := 87) rfl)) rfl
theorem wmX5_parseExtension : Cond.instanceMethod yX5_parseExtension ∈ lw_big := bg (in3 (List.mem_of_getElem? (i := 86) rfl)) rfl
theorem wsX5_parseExtension : Cond.selects RX5 yX5_parseExtension yX5_parseExtension ∈ lw_big := bg (in0 (List.mem_of_getElem? (i := 18) rfl)) rfl
theorem wcX5_parseControl : Cond.code yX5_parseControl cX5_parseControl 5 none ∈ lw_big := bg (in3 (List.mem_of_getElem? (i := 99) rfl)) rfl
theorem wmX5_parseControl : Cond.instanceMethod yX5_parseControl ∈ lw_big := bg (in3 (List.mem_of_getElem? (i := 98) rfl)) rfl
theorem wsX5_parseControl : Cond.selects RX5 yX5_parseControl yX5_parseControl ∈ lw_big := bg (in0 (List.mem_of_getElem? (i := 21) rfl)) rfl
theorem wcX5_dropControl : Cond.code yX5_dropControl cX5_dropControl 1 none ∈ lw_big := bg (in2 (List.mem_of_getElem? (i := 181) rfl)) rfl
theorem wmX5_dropControl : Cond.instanceMethod yX5_dropControl ∈ lw_big := bg (in2 (List.mem_of_getElem? (i := 180) rfl)) rfl
theorem wsX5_dropControl : Cond.selects RX5 yX5_dropControl yX5_dropControl ∈ lw_big := bg (in0 (List.mem_of_getElem? (i := 0) rfl)) rfl
theorem wcX5_parseImage : Cond.code yX5_parseImage cX5_parseImage 5 none ∈ lw_big := bg (in2 (List.mem_of_getElem? (i := 227) rfl)) rfl
theorem wmX5_parseImage : Cond.instanceMethod yX5_parseImage ∈ lw_big := bg (in2 (List.mem_of_getElem? (i := 226) rfl)) rfl
theorem wsX5_parseImage : Cond.selects RX5 yX5_parseImage yX5_parseImage ∈ lw_big := bg (in0 (List.mem_of_getElem? (i := 8) rfl)) rfl
theorem wcX5_parseFrame : Cond.code yX5_parseFrame cX5_parseFrame 9 (some (.object "PictureReel$Frame")) ∈ lw_big := bg (in2 (List.mem_of_getElem? (i := 231) rfl)) rfl
theorem wmX5_parseFrame : Cond.instanceMethod yX5_parseFrame ∈ lw_big := bg (in2 (List.mem_of_getElem? (i := 230) rfl)) rfl
theorem wsX5_parseFrame : Cond.selects RX5 yX5_parseFrame yX5_parseFrame ∈ lw_big := bg (in0 (List.mem_of_getElem? (i := 9) rfl)) rfl
theorem wcX5_gatherRows : Cond.code yX5_gatherRows cX5_gatherRows 4 none ∈ lw_big := bg (in3 (List.mem_of_getElem? (i := 28) rfl)) rfl
theorem wmX5_gatherRows : Cond.instanceMethod yX5_gatherRows ∈ lw_big := bg (in3 (List.mem_of_getElem? (i := 27) rfl)) rfl
theorem wsX5_gatherRows : Cond.selects RX5 yX5_gatherRows yX5_gatherRows ∈ lw_big := bg (in0 (List.mem_of_getElem? (i := 10) rfl)) rfl
theorem wcX6_init : Cond.code yX6_init cX6_init 1 none ∈ lw_big := bg (in2 (List.mem_of_getElem? (i := 67) rfl)) rfl
theorem wmX6_init : Cond.instanceMethod yX6_init ∈ lw_big := bg (in2 (List.mem_of_getElem? (i := 66) rfl)) rfl
theorem wcX6_exchange : Cond.code yX6_exchange cX6_exchange 3 (some (.object "PictureReel$ByteRow")) ∈ lw_big := bg (in4 (List.mem_of_getElem? (i := 20) rfl)) rfl
theorem wmX6_exchange : Cond.instanceMethod yX6_exchange ∈ lw_big := bg (in4 (List.mem_of_getElem? (i := 18) rfl)) rfl
theorem wsX6_exchange : Cond.selects RX6 yX6_exchange yX6_exchange ∈ lw_big := bg (in4 (List.mem_of_getElem? (i := 19) rfl)) rfl
theorem wcX6_compose : Cond.code yX6_compose cX6_compose 4 (some .boolean) ∈ lw_big := bg (in3 (List.mem_of_getElem? (i := 177) rfl)) rfl
theorem wmX6_compose : Cond.instanceMethod yX6_compose ∈ lw_big := bg (in3 (List.mem_of_getElem? (i := 175) rfl)) rfl
theorem wsX6_compose : Cond.selects RX6 yX6_compose yX6_compose ∈ lw_big := bg (in3 (List.mem_of_getElem? (i := 176) rfl)) rfl
theorem wcX6_putScreen : Cond.code yX6_putScreen cX6_putScreen 3 none ∈ lw_big := bg (in3 (List.mem_of_getElem? (i := 182) rfl)) rfl
theorem wmX6_putScreen : Cond.instanceMethod yX6_putScreen ∈ lw_big := bg (in3 (List.mem_of_getElem? (i := 181) rfl)) rfl
theorem wsX6_putScreen : Cond.selects RX6 yX6_putScreen yX6_putScreen ∈ lw_big := bg (in0 (List.mem_of_getElem? (i := 24) rfl)) rfl
theorem wcX6_putTable : Cond.code yX6_putTable cX6_putTable 4 none ∈ lw_big := bg (in3 (List.mem_of_getElem? (i := 204) rfl)) rfl
theorem wmX6_putTable : Cond.instanceMethod yX6_putTable ∈ lw_big := bg (in3 (List.mem_of_getElem? (i := 203) rfl)) rfl
theorem wsX6_putTable : Cond.selects RX6 yX6_putTable yX6_putTable ∈ lw_big := bg (in0 (List.mem_of_getElem? (i := 25) rfl)) rfl
theorem wcX6_putControl : Cond.code yX6_putControl cX6_putControl 3 none ∈ lw_big := bg (in3 (List.mem_of_getElem? (i := 208) rfl)) rfl
theorem wmX6_putControl : Cond.instanceMethod yX6_putControl ∈ lw_big := bg (in3 (List.mem_of_getElem? (i := 207) rfl)) rfl
theorem wsX6_putControl : Cond.selects RX6 yX6_putControl yX6_putControl ∈ lw_big := bg (in0 (List.mem_of_getElem? (i := 26) rfl)) rfl
theorem wcX6_putImage : Cond.code yX6_putImage cX6_putImage 3 none ∈ lw_big := bg (in3 (List.mem_of_getElem? (i := 215) rfl)) rfl
theorem wmX6_putImage : Cond.instanceMethod yX6_putImage ∈ lw_big := bg (in3 (List.mem_of_getElem? (i := 214) rfl)) rfl
theorem wsX6_putImage : Cond.selects RX6 yX6_putImage yX6_putImage ∈ lw_big := bg (in0 (List.mem_of_getElem? (i := 27) rfl)) rfl
theorem wcX6_putRows : Cond.code yX6_putRows cX6_putRows 5 none ∈ lw_big := bg (in4 (List.mem_of_getElem? (i := 14) rfl)) rfl
theorem wmX6_putRows : Cond.instanceMethod yX6_putRows ∈ lw_big := bg (in4 (List.mem_of_getElem? (i := 13) rfl)) rfl
theorem wsX6_putRows : Cond.selects RX6 yX6_putRows yX6_putRows ∈ lw_big := bg (in0 (List.mem_of_getElem? (i := 34) rfl)) rfl
theorem wcX7_init : Cond.code yX7_init cX7_init 1 none ∈ lw_big := bg (in1 (List.mem_of_getElem? (i := 145) rfl)) rfl
theorem wmX7_init : Cond.instanceMethod yX7_init ∈ lw_big := bg (in1 (List.mem_of_getElem? (i := 144) rfl)) rfl
theorem wcX7_reset : Cond.code yX7_reset cX7_reset 3 none ∈ lw_big := bg (in1 (List.mem_of_getElem? (i := 225) rfl)) rfl
theorem wmX7_reset : Cond.instanceMethod yX7_reset ∈ lw_big := bg (in1 (List.mem_of_getElem? (i := 223) rfl)) rfl
theorem wsX7_reset : Cond.selects RX7 yX7_reset yX7_reset ∈ lw_big := bg (in1 (List.mem_of_getElem? (i := 224) rfl)) rfl
theorem wcX7_has : Cond.code yX7_has cX7_has 2 (some .boolean) ∈ lw_big := bg (in3 (List.mem_of_getElem? (i := 147) rfl)) rfl
theorem wmX7_has : Cond.instanceMethod yX7_has ∈ lw_big := bg (in3 (List.mem_of_getElem? (i := 145) rfl)) rfl
theorem wsX7_has : Cond.selects RX7 yX7_has yX7_has ∈ lw_big := bg (in3 (List.mem_of_getElem? (i := 146) rfl)) rfl
theorem wcX7_power : Cond.code yX7_power cX7_power 1 (some .int) ∈ lw_big := bg (in3 (List.mem_of_getElem? (i := 196) rfl)) rfl
theorem wmX7_power : Cond.instanceMethod yX7_power ∈ lw_big := bg (in3 (List.mem_of_getElem? (i := 194) rfl)) rfl
theorem wsX7_power : Cond.selects RX7 yX7_power yX7_power ∈ lw_big := bg (in3 (List.mem_of_getElem? (i := 195) rfl)) rfl
theorem wcX7_mark : Cond.code yX7_mark cX7_mark 1 (some .int) ∈ lw_big := bg (in3 (List.mem_of_getElem? (i := 192) rfl)) rfl
theorem wmX7_mark : Cond.instanceMethod yX7_mark ∈ lw_big := bg (in3 (List.mem_of_getElem? (i := 190) rfl)) rfl
theorem wsX7_mark : Cond.selects RX7 yX7_mark yX7_mark ∈ lw_big := bg (in3 (List.mem_of_getElem? (i := 191) rfl)) rfl
theorem wcX7_sizeByMark : Cond.code yX7_sizeByMark cX7_sizeByMark 1 (some .int) ∈ lw_big := bg (in2 (List.mem_of_getElem? (i := 214) rfl)) rfl
theorem wtX7_sizeByMark : Cond.static yX7_sizeByMark ∈ lw_big := bg (in2 (List.mem_of_getElem? (i := 213) rfl)) rfl
theorem wcX8_init : Cond.code yX8_init cX8_init 1 none ∈ lw_big := bg (in1 (List.mem_of_getElem? (i := 102) rfl)) rfl
theorem wmX8_init : Cond.instanceMethod yX8_init ∈ lw_big := bg (in1 (List.mem_of_getElem? (i := 101) rfl)) rfl
theorem wcX8_reset : Cond.code yX8_reset cX8_reset 1 none ∈ lw_big := bg (in1 (List.mem_of_getElem? (i := 107) rfl)) rfl
theorem wmX8_reset : Cond.instanceMethod yX8_reset ∈ lw_big := bg (in1 (List.mem_of_getElem? (i := 105) rfl)) rfl
theorem wsX8_reset : Cond.selects RX8 yX8_reset yX8_reset ∈ lw_big := bg (in1 (List.mem_of_getElem? (i := 106) rfl)) rfl
theorem wcX8_become : Cond.code yX8_become cX8_become 5 none ∈ lw_big := bg (in1 (List.mem_of_getElem? (i := 111) rfl)) rfl
theorem wmX8_become : Cond.instanceMethod yX8_become ∈ lw_big := bg (in1 (List.mem_of_getElem? (i := 109) rfl)) rfl
theorem wsX8_become : Cond.selects RX8 yX8_become yX8_become ∈ lw_big := bg (in1 (List.mem_of_getElem? (i := 110) rfl)) rfl
theorem wcX8_copyFrom : Cond.code yX8_copyFrom cX8_copyFrom 2 none ∈ lw_big := bg (in3 (List.mem_of_getElem? (i := 24) rfl)) rfl
theorem wmX8_copyFrom : Cond.instanceMethod yX8_copyFrom ∈ lw_big := bg (in3 (List.mem_of_getElem? (i := 22) rfl)) rfl
theorem wsX8_copyFrom : Cond.selects RX8 yX8_copyFrom yX8_copyFrom ∈ lw_big := bg (in3 (List.mem_of_getElem? (i := 23) rfl)) rfl
theorem wcX9_init : Cond.code yX9_init cX9_init 1 none ∈ lw_big := bg (in1 (List.mem_of_getElem? (i := 19) rfl)) rfl
theorem wmX9_init : Cond.instanceMethod yX9_init ∈ lw_big := bg (in1 (List.mem_of_getElem? (i := 18) rfl)) rfl
theorem wcX9_feed : Cond.code yX9_feed cX9_feed 6 (some .int) ∈ lw_big := bg (in2 (List.mem_of_getElem? (i := 147) rfl)) rfl
theorem wmX9_feed : Cond.instanceMethod yX9_feed ∈ lw_big := bg (in2 (List.mem_of_getElem? (i := 145) rfl)) rfl
theorem wsX9_feed : Cond.selects RX9 yX9_feed yX9_feed ∈ lw_big := bg (in2 (List.mem_of_getElem? (i := 146) rfl)) rfl
theorem wcX9_take : Cond.code yX9_take cX9_take 1 (some .int) ∈ lw_big := bg (in2 (List.mem_of_getElem? (i := 159) rfl)) rfl
theorem wmX9_take : Cond.instanceMethod yX9_take ∈ lw_big := bg (in2 (List.mem_of_getElem? (i := 157) rfl)) rfl
theorem wsX9_take : Cond.selects RX9 yX9_take yX9_take ∈ lw_big := bg (in2 (List.mem_of_getElem? (i := 158) rfl)) rfl
theorem wcX9_read : Cond.code yX9_read cX9_read 2 (some .int) ∈ lw_big := bg (in2 (List.mem_of_getElem? (i := 170) rfl)) rfl
theorem wmX9_read : Cond.instanceMethod yX9_read ∈ lw_big := bg (in2 (List.mem_of_getElem? (i := 168) rfl)) rfl
theorem wsX9_read : Cond.selects RX9 yX9_read yX9_read ∈ lw_big := bg (in2 (List.mem_of_getElem? (i := 169) rfl)) rfl
theorem wcX9_fault : Cond.code yX9_fault cX9_fault 2 (some .int) ∈ lw_big := bg (in3 (List.mem_of_getElem? (i := 113) rfl)) rfl
theorem wmX9_fault : Cond.instanceMethod yX9_fault ∈ lw_big := bg (in3 (List.mem_of_getElem? (i := 111) rfl)) rfl
theorem wsX9_fault : Cond.selects RX9 yX9_fault yX9_fault ∈ lw_big := bg (in3 (List.mem_of_getElem? (i := 112) rfl)) rfl
theorem wcX9_begin : Cond.code yX9_begin cX9_begin 5 (some .boolean) ∈ lw_big := bg (in3 (List.mem_of_getElem? (i := 117) rfl)) rfl
theorem wmX9_begin : Cond.instanceMethod yX9_begin ∈ lw_big := bg (in3 (List.mem_of_getElem? (i := 115) rfl)) rfl
theorem wsX9_begin : Cond.selects RX9 yX9_begin yX9_begin ∈ lw_big := bg (in3 (List.mem_of_getElem? (i := 116) rfl)) rfl
theorem wcX9_colour : Cond.code yX9_colour cX9_colour 5 (some .boolean) ∈ lw_big := bg (in3 (List.mem_of_getElem? (i := 135) rfl)) rfl
theorem wmX9_colour : Cond.instanceMethod yX9_colour ∈ lw_big := bg (in3 (List.mem_of_getElem? (i := 133) rfl)) rfl
theorem wsX9_colour : Cond.selects RX9 yX9_colour yX9_colour ∈ lw_big := bg (in3 (List.mem_of_getElem? (i := 134) rfl)) rfl
theorem wcX9_frame : Cond.code yX9_frame cX9_frame 7 (some .int) ∈ lw_big := bg (in3 (List.mem_of_getElem? (i := 152) rfl)) rfl
theorem wmX9_frame : Cond.instanceMethod yX9_frame ∈ lw_big := bg (in3 (List.mem_of_getElem? (i := 150) rfl)) rfl
theorem wsX9_frame : Cond.selects RX9 yX9_frame yX9_frame ∈ lw_big := bg (in3 (List.mem_of_getElem? (i := 151) rfl)) rfl
theorem wcX9_control : Cond.code yX9_control cX9_control 7 (some .boolean) ∈ lw_big := bg (in3 (List.mem_of_getElem? (i := 160) rfl)) rfl
theorem wmX9_control : Cond.instanceMethod yX9_control ∈ lw_big := bg (in3 (List.mem_of_getElem? (i := 158) rfl)) rfl
theorem wsX9_control : Cond.selects RX9 yX9_control yX9_control ∈ lw_big := bg (in3 (List.mem_of_getElem? (i := 159) rfl)) rfl
theorem wcX9_paint : Cond.code yX9_paint cX9_paint 6 (some .boolean) ∈ lw_big := bg (in3 (List.mem_of_getElem? (i := 166) rfl)) rfl
theorem wmX9_paint : Cond.instanceMethod yX9_paint ∈ lw_big := bg (in3 (List.mem_of_getElem? (i := 164) rfl)) rfl
theorem wsX9_paint : Cond.selects RX9 yX9_paint yX9_paint ∈ lw_big := bg (in3 (List.mem_of_getElem? (i := 165) rfl)) rfl
theorem wcX9_write : Cond.code yX9_write cX9_write 1 (some .int) ∈ lw_big := bg (in3 (List.mem_of_getElem? (i := 173) rfl)) rfl
theorem wmX9_write : Cond.instanceMethod yX9_write ∈ lw_big := bg (in3 (List.mem_of_getElem? (i := 171) rfl)) rfl
theorem wsX9_write : Cond.selects RX9 yX9_write yX9_write ∈ lw_big := bg (in3 (List.mem_of_getElem? (i := 172) rfl)) rfl
theorem wcX9_out : Cond.code yX9_out cX9_out 2 (some .int) ∈ lw_big := bg (in4 (List.mem_of_getElem? (i := 24) rfl)) rfl
theorem wmX9_out : Cond.instanceMethod yX9_out ∈ lw_big := bg (in4 (List.mem_of_getElem? (i := 22) rfl)) rfl
theorem wsX9_out : Cond.selects RX9 yX9_out yX9_out ∈ lw_big := bg (in4 (List.mem_of_getElem? (i := 23) rfl)) rfl
theorem wcX9_about : Cond.code yX9_about cX9_about 2 (some .int) ∈ lw_big := bg (in4 (List.mem_of_getElem? (i := 29) rfl)) rfl
theorem wmX9_about : Cond.instanceMethod yX9_about ∈ lw_big := bg (in4 (List.mem_of_getElem? (i := 27) rfl)) rfl
theorem wsX9_about : Cond.selects RX9 yX9_about yX9_about ∈ lw_big := bg (in4 (List.mem_of_getElem? (i := 28) rfl)) rfl
theorem wcX9_frameOf : Cond.code yX9_frameOf cX9_frameOf 4 (some .int) ∈ lw_big := bg (in4 (List.mem_of_getElem? (i := 33) rfl)) rfl
theorem wmX9_frameOf : Cond.instanceMethod yX9_frameOf ∈ lw_big := bg (in4 (List.mem_of_getElem? (i := 31) rfl)) rfl
theorem wsX9_frameOf : Cond.selects RX9 yX9_frameOf yX9_frameOf ∈ lw_big := bg (in4 (List.mem_of_getElem? (i := 32) rfl)) rfl
theorem wcX9_colourOf : Cond.code yX9_colourOf cX9_colourOf 4 (some .int) ∈ lw_big := bg (in4 (List.mem_of_getElem? (i := 37) rfl)) rfl
theorem wmX9_colourOf : Cond.instanceMethod yX9_colourOf ∈ lw_big := bg (in4 (List.mem_of_getElem? (i := 35) rfl)) rfl
theorem wsX9_colourOf : Cond.selects RX9 yX9_colourOf yX9_colourOf ∈ lw_big := bg (in4 (List.mem_of_getElem? (i := 36) rfl)) rfl
theorem wcX9_index : Cond.code yX9_index cX9_index 4 (some .int) ∈ lw_big := bg (in4 (List.mem_of_getElem? (i := 41) rfl)) rfl
theorem wmX9_index : Cond.instanceMethod yX9_index ∈ lw_big := bg (in4 (List.mem_of_getElem? (i := 39) rfl)) rfl
theorem wsX9_index : Cond.selects RX9 yX9_index yX9_index ∈ lw_big := bg (in4 (List.mem_of_getElem? (i := 40) rfl)) rfl
theorem wcX9_canvas : Cond.code yX9_canvas cX9_canvas 4 (some .int) ∈ lw_big := bg (in4 (List.mem_of_getElem? (i := 45) rfl)) rfl
theorem wmX9_canvas : Cond.instanceMethod yX9_canvas ∈ lw_big := bg (in4 (List.mem_of_getElem? (i := 43) rfl)) rfl
theorem wsX9_canvas : Cond.selects RX9 yX9_canvas yX9_canvas ∈ lw_big := bg (in4 (List.mem_of_getElem? (i := 44) rfl)) rfl
theorem wcX9_tableAt : Cond.code yX9_tableAt cX9_tableAt 3 (some (.object "PictureReel$Table")) ∈ lw_big := bg (in3 (List.mem_of_getElem? (i := 139) rfl)) rfl
theorem wmX9_tableAt : Cond.instanceMethod yX9_tableAt ∈ lw_big := bg (in3 (List.mem_of_getElem? (i := 138) rfl)) rfl
theorem wsX9_tableAt : Cond.selects RX9 yX9_tableAt yX9_tableAt ∈ lw_big := bg (in0 (List.mem_of_getElem? (i := 23) rfl)) rfl
theorem wcX9_isSide : Cond.code yX9_isSide cX9_isSide 1 (some .boolean) ∈ lw_big := bg (in2 (List.mem_of_getElem? (i := 211) rfl)) rfl
theorem wtX9_isSide : Cond.static yX9_isSide ∈ lw_big := bg (in2 (List.mem_of_getElem? (i := 210) rfl)) rfl
theorem wcX9_isByte : Cond.code yX9_isByte cX9_isByte 1 (some .boolean) ∈ lw_big := bg (in3 (List.mem_of_getElem? (i := 130) rfl)) rfl
theorem wtX9_isByte : Cond.static yX9_isByte ∈ lw_big := bg (in3 (List.mem_of_getElem? (i := 129) rfl)) rfl
theorem wcX9_isTableSize : Cond.code yX9_isTableSize cX9_isTableSize 1 (some .boolean) ∈ lw_big := bg (in3 (List.mem_of_getElem? (i := 121) rfl)) rfl
theorem wtX9_isTableSize : Cond.static yX9_isTableSize ∈ lw_big := bg (in3 (List.mem_of_getElem? (i := 120) rfl)) rfl
theorem wcX10_init : Cond.code yX10_init cX10_init 1 none ∈ lw_big := bg (in4 (List.mem_of_getElem? (i := 72) rfl)) rfl
theorem wmX10_init : Cond.instanceMethod yX10_init ∈ lw_big := bg (in4 (List.mem_of_getElem? (i := 71) rfl)) rfl
theorem wcX10_field : Cond.code yX10_field cX10_field 4 (some .int) ∈ lw_big := bg (in5 (List.mem_of_getElem? (i := 29) rfl)) rfl
theorem wmX10_field : Cond.instanceMethod yX10_field ∈ lw_big := bg (in5 (List.mem_of_getElem? (i := 28) rfl)) rfl
theorem wsX10_field : Cond.selects RX10 yX10_field yX10_field ∈ lw_big := bg (in0 (List.mem_of_getElem? (i := 51) rfl)) rfl
theorem wcX10_setField : Cond.code yX10_setField cX10_setField 5 none ∈ lw_big := bg (in5 (List.mem_of_getElem? (i := 13) rfl)) rfl
theorem wmX10_setField : Cond.instanceMethod yX10_setField ∈ lw_big := bg (in5 (List.mem_of_getElem? (i := 12) rfl)) rfl
theorem wsX10_setField : Cond.selects RX10 yX10_setField yX10_setField ∈ lw_big := bg (in0 (List.mem_of_getElem? (i := 47) rfl)) rfl
theorem wcX10_indexAt : Cond.code yX10_indexAt cX10_indexAt 4 (some .int) ∈ lw_big := bg (in5 (List.mem_of_getElem? (i := 172) rfl)) rfl
theorem wmX10_indexAt : Cond.instanceMethod yX10_indexAt ∈ lw_big := bg (in5 (List.mem_of_getElem? (i := 171) rfl)) rfl
theorem wsX10_indexAt : Cond.selects RX10 yX10_indexAt yX10_indexAt ∈ lw_big := bg (in0 (List.mem_of_getElem? (i := 76) rfl)) rfl
theorem wcX10_setIndex : Cond.code yX10_setIndex cX10_setIndex 5 none ∈ lw_big := bg (in5 (List.mem_of_getElem? (i := 60) rfl)) rfl
theorem wmX10_setIndex : Cond.instanceMethod yX10_setIndex ∈ lw_big := bg (in5 (List.mem_of_getElem? (i := 59) rfl)) rfl
theorem wsX10_setIndex : Cond.selects RX10 yX10_setIndex yX10_setIndex ∈ lw_big := bg (in0 (List.mem_of_getElem? (i := 58) rfl)) rfl
theorem wcX10_localAt : Cond.code yX10_localAt cX10_localAt 3 (some .int) ∈ lw_big := bg (in5 (List.mem_of_getElem? (i := 9) rfl)) rfl
theorem wtX10_localAt : Cond.static yX10_localAt ∈ lw_big := bg (in5 (List.mem_of_getElem? (i := 8) rfl)) rfl
theorem wcX10_frames : Cond.code yX10_frames cX10_frames 1 (some .int) ∈ lw_big := bg (in5 (List.mem_of_getElem? (i := 85) rfl)) rfl
theorem wmX10_frames : Cond.instanceMethod yX10_frames ∈ lw_big := bg (in5 (List.mem_of_getElem? (i := 84) rfl)) rfl
theorem wsX10_frames : Cond.selects RX10 yX10_frames yX10_frames ∈ lw_big := bg (in0 (List.mem_of_getElem? (i := 64) rfl)) rfl
theorem wcX10_isFrame : Cond.code yX10_isFrame cX10_isFrame 2 (some .boolean) ∈ lw_big := bg (in5 (List.mem_of_getElem? (i := 111) rfl)) rfl
theorem wmX10_isFrame : Cond.instanceMethod yX10_isFrame ∈ lw_big := bg (in5 (List.mem_of_getElem? (i := 110) rfl)) rfl
theorem wsX10_isFrame : Cond.selects RX10 yX10_isFrame yX10_isFrame ∈ lw_big := bg (in0 (List.mem_of_getElem? (i := 66) rfl)) rfl
theorem wcX10_places : Cond.code yX10_places cX10_places 3 (some .int) ∈ lw_big := bg (in5 (List.mem_of_getElem? (i := 25) rfl)) rfl
theorem wmX10_places : Cond.instanceMethod yX10_places ∈ lw_big := bg (in5 (List.mem_of_getElem? (i := 24) rfl)) rfl
theorem wsX10_places : Cond.selects RX10 yX10_places yX10_places ∈ lw_big := bg (in0 (List.mem_of_getElem? (i := 50) rfl)) rfl
theorem wcX10_colours : Cond.code yX10_colours cX10_colours 3 (some .int) ∈ lw_big := bg (in5 (List.mem_of_getElem? (i := 33) rfl)) rfl
theorem wmX10_colours : Cond.instanceMethod yX10_colours ∈ lw_big := bg (in5 (List.mem_of_getElem? (i := 32) rfl)) rfl
theorem wsX10_colours : Cond.selects RX10 yX10_colours yX10_colours ∈ lw_big := bg (in0 (List.mem_of_getElem? (i := 52) rfl)) rfl
theorem wcX10_within : Cond.code yX10_within cX10_within 4 (some .int) ∈ lw_big := bg (in4 (List.mem_of_getElem? (i := 198) rfl)) rfl
theorem wtX10_within : Cond.static yX10_within ∈ lw_big := bg (in4 (List.mem_of_getElem? (i := 197) rfl)) rfl
theorem wcX10_feed : Cond.code yX10_feed cX10_feed 7 (some .int) ∈ lw_big := bg (in4 (List.mem_of_getElem? (i := 195) rfl)) rfl
theorem wmX10_feed : Cond.instanceMethod yX10_feed ∈ lw_big := bg (in4 (List.mem_of_getElem? (i := 193) rfl)) rfl
theorem wsX10_feed : Cond.selects RX10 yX10_feed yX10_feed ∈ lw_big := bg (in4 (List.mem_of_getElem? (i := 194) rfl)) rfl
theorem wcX10_take : Cond.code yX10_take cX10_take 2 (some .int) ∈ lw_big := bg (in4 (List.mem_of_getElem? (i := 202) rfl)) rfl
theorem wmX10_take : Cond.instanceMethod yX10_take ∈ lw_big := bg (in4 (List.mem_of_getElem? (i := 200) rfl)) rfl
theorem wsX10_take : Cond.selects RX10 yX10_take yX10_take ∈ lw_big := bg (in4 (List.mem_of_getElem? (i := 201) rfl)) rfl
theorem wcX10_wrong : Cond.code yX10_wrong cX10_wrong 3 none ∈ lw_big := bg (in4 (List.mem_of_getElem? (i := 226) rfl)) rfl
theorem wmX10_wrong : Cond.instanceMethod yX10_wrong ∈ lw_big := bg (in4 (List.mem_of_getElem? (i := 225) rfl)) rfl
theorem wsX10_wrong : Cond.selects RX10 yX10_wrong yX10_wrong ∈ lw_big := bg (in0 (List.mem_of_getElem? (i := 41) rfl)) rfl
theorem wcX10_good : Cond.code yX10_good cX10_good 1 (some .boolean) ∈ lw_big := bg (in4 (List.mem_of_getElem? (i := 222) rfl)) rfl
theorem wmX10_good : Cond.instanceMethod yX10_good ∈ lw_big := bg (in4 (List.mem_of_getElem? (i := 221) rfl)) rfl
theorem wsX10_good : Cond.selects RX10 yX10_good yX10_good ∈ lw_big := bg (in0 (List.mem_of_getElem? (i := 40) rfl)) rfl
theorem wcX10_one : Cond.code yX10_one cX10_one 1 (some .int) ∈ lw_big := bg (in4 (List.mem_of_getElem? (i := 218) rfl)) rfl
theorem wmX10_one : Cond.instanceMethod yX10_one ∈ lw_big := bg (in4 (List.mem_of_getElem? (i := 217) rfl)) rfl
theorem wsX10_one : Cond.selects RX10 yX10_one yX10_one ∈ lw_big := bg (in0 (List.mem_of_getElem? (i := 39) rfl)) rfl
theorem wcX10_two : Cond.code yX10_two cX10_two 2 (some .int) ∈ lw_big := bg (in4 (List.mem_of_getElem? (i := 230) rfl)) rfl
theorem wmX10_two : Cond.instanceMethod yX10_two ∈ lw_big := bg (in4 (List.mem_of_getElem? (i := 229) rfl)) rfl
theorem wsX10_two : Cond.selects RX10 yX10_two yX10_two ∈ lw_big := bg (in0 (List.mem_of_getElem? (i := 42) rfl)) rfl
theorem wcX10_read : Cond.code yX10_read cX10_read 2 (some .int) ∈ lw_big := bg (in4 (List.mem_of_getElem? (i := 206) rfl)) rfl
theorem wmX10_read : Cond.instanceMethod yX10_read ∈ lw_big := bg (in4 (List.mem_of_getElem? (i := 204) rfl)) rfl
theorem wsX10_read : Cond.selects RX10 yX10_read yX10_read ∈ lw_big := bg (in4 (List.mem_of_getElem? (i := 205) rfl)) rfl
theorem wcX10_must : Cond.code yX10_must cX10_must 3 none ∈ lw_big := bg (in4 (List.mem_of_getElem? (i := 214) rfl)) rfl
theorem wmX10_must : Cond.instanceMethod yX10_must ∈ lw_big := bg (in4 (List.mem_of_getElem? (i := 213) rfl)) rfl
theorem wsX10_must : Cond.selects RX10 yX10_must yX10_must ∈ lw_big := bg (in0 (List.mem_of_getElem? (i := 38) rfl)) rfl
theorem wcX10_readHead : Cond.code yX10_readHead cX10_readHead 5 none ∈ lw_big := bg (in4 (List.mem_of_getElem? (i := 210) rfl)) rfl
theorem wmX10_readHead : Cond.instanceMethod yX10_readHead ∈ lw_big := bg (in4 (List.mem_of_getElem? (i := 209) rfl)) rfl
theorem wsX10_readHead : Cond.selects RX10 yX10_readHead yX10_readHead ∈ lw_big := bg (in0 (List.mem_of_getElem? (i := 37) rfl)) rfl
theorem wcX10_readTable : Cond.code yX10_readTable cX10_readTable 6 none ∈ lw_big := bg (in4 (List.mem_of_getElem? (i := 234) rfl)) rfl
theorem wmX10_readTable : Cond.instanceMethod yX10_readTable ∈ lw_big := bg (in4 (List.mem_of_getElem? (i := 233) rfl)) rfl
theorem wsX10_readTable : Cond.selects RX10 yX10_readTable yX10_readTable ∈ lw_big := bg (in0 (List.mem_of_getElem? (i := 43) rfl)) rfl
theorem wcX10_forget : Cond.code yX10_forget cX10_forget 1 none ∈ lw_big := bg (in5 (List.mem_of_getElem? (i := 2) rfl)) rfl
theorem wmX10_forget : Cond.instanceMethod yX10_forget ∈ lw_big := bg (in5 (List.mem_of_getElem? (i := 1) rfl)) rfl
theorem wsX10_forget : Cond.selects RX10 yX10_forget yX10_forget ∈ lw_big := bg (in0 (List.mem_of_getElem? (i := 45) rfl)) rfl
theorem wcX10_readBlocks : Cond.code yX10_readBlocks cX10_readBlocks 4 none ∈ lw_big := bg (in4 (List.mem_of_getElem? (i := 238) rfl)) rfl
theorem wmX10_readBlocks : Cond.instanceMethod yX10_readBlocks ∈ lw_big := bg (in4 (List.mem_of_getElem? (i := 237) rfl)) rfl
theorem wsX10_readBlocks : Cond.selects RX10 yX10_readBlocks yX10_readBlocks ∈ lw_big := bg (in0 (List.mem_of_getElem? (i := 44) rfl)) rfl
theorem wcX10_length : Cond.code yX10_length cX10_length 3 none ∈ lw_big := bg (in5 (List.mem_of_getElem? (i := 73) rfl)) rfl
theorem wmX10_length : Cond.instanceMethod yX10_length ∈ lw_big := bg (in5 (List.mem_of_getElem? (i := 72) rfl)) rfl
theorem wsX10_length : Cond.selects RX10 yX10_length yX10_length ∈ lw_big := bg (in0 (List.mem_of_getElem? (i := 61) rfl)) rfl
theorem wcX10_skip : Cond.code yX10_skip cX10_skip 3 none ∈ lw_big := bg (in5 (List.mem_of_getElem? (i := 77) rfl)) rfl
theorem wmX10_skip : Cond.instanceMethod yX10_skip ∈ lw_big := bg (in5 (List.mem_of_getElem? (i := 76) rfl)) rfl
theorem wsX10_skip : Cond.selects RX10 yX10_skip yX10_skip ∈ lw_big := bg (in0 (List.mem_of_getElem? (i := 62) rfl)) rfl
theorem wcX10_rows : Cond.code yX10_rows cX10_rows 2 none ∈ lw_big := bg (in5 (List.mem_of_getElem? (i := 81) rfl)) rfl
theorem wmX10_rows : Cond.instanceMethod yX10_rows ∈ lw_big := bg (in5 (List.mem_of_getElem? (i := 80) rfl)) rfl
theorem wsX10_rows : Cond.selects RX10 yX10_rows yX10_rows ∈ lw_big := bg (in0 (List.mem_of_getElem? (i := 63) rfl)) rfl
theorem wcX10_readMore : Cond.code yX10_readMore cX10_readMore 5 none ∈ lw_big := bg (in5 (List.mem_of_getElem? (i := 69) rfl)) rfl
theorem wmX10_readMore : Cond.instanceMethod yX10_readMore ∈ lw_big := bg (in5 (List.mem_of_getElem? (i := 68) rfl)) rfl
theorem wsX10_readMore : Cond.selects RX10 yX10_readMore yX10_readMore ∈ lw_big := bg (in0 (List.mem_of_getElem? (i := 60) rfl)) rfl
theorem wcX10_readImage : Cond.code yX10_readImage cX10_readImage 12 none ∈ lw_big := bg (in5 (List.mem_of_getElem? (i := 6) rfl)) rfl
theorem wmX10_readImage : Cond.instanceMethod yX10_readImage ∈ lw_big := bg (in5 (List.mem_of_getElem? (i := 5) rfl)) rfl
theorem wsX10_readImage : Cond.selects RX10 yX10_readImage yX10_readImage ∈ lw_big := bg (in0 (List.mem_of_getElem? (i := 46) rfl)) rfl
theorem wcX10_gather : Cond.code yX10_gather cX10_gather 3 none ∈ lw_big := bg (in5 (List.mem_of_getElem? (i := 17) rfl)) rfl
theorem wmX10_gather : Cond.instanceMethod yX10_gather ∈ lw_big := bg (in5 (List.mem_of_getElem? (i := 16) rfl)) rfl
theorem wsX10_gather : Cond.selects RX10 yX10_gather yX10_gather ∈ lw_big := bg (in0 (List.mem_of_getElem? (i := 48) rfl)) rfl
theorem wcX10_restart : Cond.code yX10_restart cX10_restart 2 none ∈ lw_big := bg (in5 (List.mem_of_getElem? (i := 41) rfl)) rfl
theorem wmX10_restart : Cond.instanceMethod yX10_restart ∈ lw_big := bg (in5 (List.mem_of_getElem? (i := 40) rfl)) rfl
theorem wsX10_restart : Cond.selects RX10 yX10_restart yX10_restart ∈ lw_big := bg (in0 (List.mem_of_getElem? (i := 54) rfl)) rfl
theorem wcX10_alone : Cond.code yX10_alone cX10_alone 3 none ∈ lw_big := bg (in5 (List.mem_of_getElem? (i := 37) rfl)) rfl
theorem wmX10_alone : Cond.instanceMethod yX10_alone ∈ lw_big := bg (in5 (List.mem_of_getElem? (i := 36) rfl)) rfl
theorem wsX10_alone : Cond.selects RX10 yX10_alone yX10_alone ∈ lw_big := bg (in0 (List.mem_of_getElem? (i := 53) rfl)) rfl
theorem wcX10_tell : Cond.code yX10_tell cX10_tell 2 none ∈ lw_big := bg (in5 (List.mem_of_getElem? (i := 65) rfl)) rfl
theorem wmX10_tell : Cond.instanceMethod yX10_tell ∈ lw_big := bg (in5 (List.mem_of_getElem? (i := 64) rfl)) rfl
theorem wsX10_tell : Cond.selects RX10 yX10_tell yX10_tell ∈ lw_big := bg (in0 (List.mem_of_getElem? (i := 59) rfl)) rfl
theorem wcX10_code : Cond.code yX10_code cX10_code 3 (some .int) ∈ lw_big := bg (in5 (List.mem_of_getElem? (i := 45) rfl)) rfl
theorem wmX10_code : Cond.instanceMethod yX10_code ∈ lw_big := bg (in5 (List.mem_of_getElem? (i := 44) rfl)) rfl
theorem wsX10_code : Cond.selects RX10 yX10_code yX10_code ∈ lw_big := bg (in0 (List.mem_of_getElem? (i := 55) rfl)) rfl
theorem wcX10_codes : Cond.code yX10_codes cX10_codes 11 (some .boolean) ∈ lw_big := bg (in5 (List.mem_of_getElem? (i := 21) rfl)) rfl
theorem wmX10_codes : Cond.instanceMethod yX10_codes ∈ lw_big := bg (in5 (List.mem_of_getElem? (i := 20) rfl)) rfl
theorem wsX10_codes : Cond.selects RX10 yX10_codes yX10_codes ∈ lw_big := bg (in0 (List.mem_of_getElem? (i := 49) rfl)) rfl
theorem wcX10_put : Cond.code yX10_put cX10_put 9 (some .boolean) ∈ lw_big := bg (in5 (List.mem_of_getElem? (i := 49) rfl)) rfl
theorem wmX10_put : Cond.instanceMethod yX10_put ∈ lw_big := bg (in5 (List.mem_of_getElem? (i := 48) rfl)) rfl
theorem wsX10_put : Cond.selects RX10 yX10_put yX10_put ∈ lw_big := bg (in0 (List.mem_of_getElem? (i := 56) rfl)) rfl
theorem wcX10_placeOf : Cond.code yX10_placeOf cX10_placeOf 5 (some .int) ∈ lw_big := bg (in5 (List.mem_of_getElem? (i := 53) rfl)) rfl
theorem wmX10_placeOf : Cond.instanceMethod yX10_placeOf ∈ lw_big := bg (in5 (List.mem_of_getElem? (i := 52) rfl)) rfl
theorem wsX10_placeOf : Cond.selects RX10 yX10_placeOf yX10_placeOf ∈ lw_big := bg (in0 (List.mem_of_getElem? (i := 57) rfl)) rfl
theorem wcX10_line : Cond.code yX10_line cX10_line 5 (some .int) ∈ lw_big := bg (in5 (List.mem_of_getElem? (i := 56) rfl)) rfl
theorem wtX10_line : Cond.static yX10_line ∈ lw_big := bg (in5 (List.mem_of_getElem? (i := 55) rfl)) rfl
theorem wcX10_fault : Cond.code yX10_fault cX10_fault 2 (some .int) ∈ lw_big := bg (in5 (List.mem_of_getElem? (i := 89) rfl)) rfl
theorem wmX10_fault : Cond.instanceMethod yX10_fault ∈ lw_big := bg (in5 (List.mem_of_getElem? (i := 87) rfl)) rfl
theorem wsX10_fault : Cond.selects RX10 yX10_fault yX10_fault ∈ lw_big := bg (in5 (List.mem_of_getElem? (i := 88) rfl)) rfl
theorem wcX10_isTable : Cond.code yX10_isTable cX10_isTable 1 (some .boolean) ∈ lw_big := bg (in5 (List.mem_of_getElem? (i := 99) rfl)) rfl
theorem wtX10_isTable : Cond.static yX10_isTable ∈ lw_big := bg (in5 (List.mem_of_getElem? (i := 98) rfl)) rfl
theorem wcX10_isWithin : Cond.code yX10_isWithin cX10_isWithin 3 (some .boolean) ∈ lw_big := bg (in5 (List.mem_of_getElem? (i := 96) rfl)) rfl
theorem wtX10_isWithin : Cond.static yX10_isWithin ∈ lw_big := bg (in5 (List.mem_of_getElem? (i := 95) rfl)) rfl
theorem wcX10_begin : Cond.code yX10_begin cX10_begin 6 (some .boolean) ∈ lw_big := bg (in5 (List.mem_of_getElem? (i := 93) rfl)) rfl
theorem wmX10_begin : Cond.instanceMethod yX10_begin ∈ lw_big := bg (in5 (List.mem_of_getElem? (i := 91) rfl)) rfl
theorem wsX10_begin : Cond.selects RX10 yX10_begin yX10_begin ∈ lw_big := bg (in5 (List.mem_of_getElem? (i := 92) rfl)) rfl
theorem wcX10_isColour : Cond.code yX10_isColour cX10_isColour 3 (some .boolean) ∈ lw_big := bg (in5 (List.mem_of_getElem? (i := 107) rfl)) rfl
theorem wmX10_isColour : Cond.instanceMethod yX10_isColour ∈ lw_big := bg (in5 (List.mem_of_getElem? (i := 106) rfl)) rfl
theorem wsX10_isColour : Cond.selects RX10 yX10_isColour yX10_isColour ∈ lw_big := bg (in0 (List.mem_of_getElem? (i := 65) rfl)) rfl
theorem wcX10_colour : Cond.code yX10_colour cX10_colour 4 (some .boolean) ∈ lw_big := bg (in5 (List.mem_of_getElem? (i := 103) rfl)) rfl
theorem wmX10_colour : Cond.instanceMethod yX10_colour ∈ lw_big := bg (in5 (List.mem_of_getElem? (i := 101) rfl)) rfl
theorem wsX10_colour : Cond.selects RX10 yX10_colour yX10_colour ∈ lw_big := bg (in5 (List.mem_of_getElem? (i := 102) rfl)) rfl
theorem wcX10_frame : Cond.code yX10_frame cX10_frame 11 (some .int) ∈ lw_big := bg (in5 (List.mem_of_getElem? (i := 116) rfl)) rfl
theorem wmX10_frame : Cond.instanceMethod yX10_frame ∈ lw_big := bg (in5 (List.mem_of_getElem? (i := 114) rfl)) rfl
theorem wsX10_frame : Cond.selects RX10 yX10_frame yX10_frame ∈ lw_big := bg (in5 (List.mem_of_getElem? (i := 115) rfl)) rfl
theorem wcX10_control : Cond.code yX10_control cX10_control 6 (some .boolean) ∈ lw_big := bg (in5 (List.mem_of_getElem? (i := 120) rfl)) rfl
theorem wmX10_control : Cond.instanceMethod yX10_control ∈ lw_big := bg (in5 (List.mem_of_getElem? (i := 118) rfl)) rfl
theorem wsX10_control : Cond.selects RX10 yX10_control yX10_control ∈ lw_big := bg (in5 (List.mem_of_getElem? (i := 119) rfl)) rfl
theorem wcX10_paint : Cond.code yX10_paint cX10_paint 7 (some .boolean) ∈ lw_big := bg (in5 (List.mem_of_getElem? (i := 125) rfl)) rfl
theorem wmX10_paint : Cond.instanceMethod yX10_paint ∈ lw_big := bg (in5 (List.mem_of_getElem? (i := 123) rfl)) rfl
theorem wsX10_paint : Cond.selects RX10 yX10_paint yX10_paint ∈ lw_big := bg (in5 (List.mem_of_getElem? (i := 124) rfl)) rfl
theorem wcX10_say : Cond.code yX10_say cX10_say 2 none ∈ lw_big := bg (in5 (List.mem_of_getElem? (i := 133) rfl)) rfl
theorem wmX10_say : Cond.instanceMethod yX10_say ∈ lw_big := bg (in5 (List.mem_of_getElem? (i := 132) rfl)) rfl
theorem wsX10_say : Cond.selects RX10 yX10_say yX10_say ∈ lw_big := bg (in0 (List.mem_of_getElem? (i := 67) rfl)) rfl
theorem wcX10_sayTwo : Cond.code yX10_sayTwo cX10_sayTwo 2 none ∈ lw_big := bg (in5 (List.mem_of_getElem? (i := 137) rfl)) rfl
theorem wmX10_sayTwo : Cond.instanceMethod yX10_sayTwo ∈ lw_big := bg (in5 (List.mem_of_getElem? (i := 136) rfl)) rfl
theorem wsX10_sayTwo : Cond.selects RX10 yX10_sayTwo yX10_sayTwo ∈ lw_big := bg (in0 (List.mem_of_getElem? (i := 68) rfl)) rfl
theorem wcX10_sayTable : Cond.code yX10_sayTable cX10_sayTable 5 none ∈ lw_big := bg (in5 (List.mem_of_getElem? (i := 144) rfl)) rfl
theorem wmX10_sayTable : Cond.instanceMethod yX10_sayTable ∈ lw_big := bg (in5 (List.mem_of_getElem? (i := 143) rfl)) rfl
theorem wsX10_sayTable : Cond.selects RX10 yX10_sayTable yX10_sayTable ∈ lw_big := bg (in0 (List.mem_of_getElem? (i := 69) rfl)) rfl
theorem wcX10_bitsOf : Cond.code yX10_bitsOf cX10_bitsOf 2 (some .int) ∈ lw_big := bg (in5 (List.mem_of_getElem? (i := 140) rfl)) rfl
theorem wtX10_bitsOf : Cond.static yX10_bitsOf ∈ lw_big := bg (in5 (List.mem_of_getElem? (i := 139) rfl)) rfl
theorem wcX10_write : Cond.code yX10_write cX10_write 3 (some .int) ∈ lw_big := bg (in5 (List.mem_of_getElem? (i := 129) rfl)) rfl
theorem wmX10_write : Cond.instanceMethod yX10_write ∈ lw_big := bg (in5 (List.mem_of_getElem? (i := 127) rfl)) rfl
theorem wsX10_write : Cond.selects RX10 yX10_write yX10_write ∈ lw_big := bg (in5 (List.mem_of_getElem? (i := 128) rfl)) rfl
theorem wcX10_sayFrame : Cond.code yX10_sayFrame cX10_sayFrame 5 none ∈ lw_big := bg (in5 (List.mem_of_getElem? (i := 148) rfl)) rfl
theorem wmX10_sayFrame : Cond.instanceMethod yX10_sayFrame ∈ lw_big := bg (in5 (List.mem_of_getElem? (i := 147) rfl)) rfl
theorem wsX10_sayFrame : Cond.selects RX10 yX10_sayFrame yX10_sayFrame ∈ lw_big := bg (in0 (List.mem_of_getElem? (i := 70) rfl)) rfl
theorem wcX10_sayRow : Cond.code yX10_sayRow cX10_sayRow 2 none ∈ lw_big := bg (in5 (List.mem_of_getElem? (i := 160) rfl)) rfl
theorem wmX10_sayRow : Cond.instanceMethod yX10_sayRow ∈ lw_big := bg (in5 (List.mem_of_getElem? (i := 159) rfl)) rfl
theorem wsX10_sayRow : Cond.selects RX10 yX10_sayRow yX10_sayRow ∈ lw_big := bg (in0 (List.mem_of_getElem? (i := 73) rfl)) rfl
theorem wcX10_sayBits : Cond.code yX10_sayBits cX10_sayBits 3 none ∈ lw_big := bg (in5 (List.mem_of_getElem? (i := 156) rfl)) rfl
theorem wmX10_sayBits : Cond.instanceMethod yX10_sayBits ∈ lw_big := bg (in5 (List.mem_of_getElem? (i := 155) rfl)) rfl
theorem wsX10_sayBits : Cond.selects RX10 yX10_sayBits yX10_sayBits ∈ lw_big := bg (in0 (List.mem_of_getElem? (i := 72) rfl)) rfl
theorem wcX10_indexOf : Cond.code yX10_indexOf cX10_indexOf 3 (some .int) ∈ lw_big := bg (in5 (List.mem_of_getElem? (i := 168) rfl)) rfl
theorem wmX10_indexOf : Cond.instanceMethod yX10_indexOf ∈ lw_big := bg (in5 (List.mem_of_getElem? (i := 167) rfl)) rfl
theorem wsX10_indexOf : Cond.selects RX10 yX10_indexOf yX10_indexOf ∈ lw_big := bg (in0 (List.mem_of_getElem? (i := 75) rfl)) rfl
theorem wcX10_stands : Cond.code yX10_stands cX10_stands 7 (some .boolean) ∈ lw_big := bg (in5 (List.mem_of_getElem? (i := 176) rfl)) rfl
theorem wmX10_stands : Cond.instanceMethod yX10_stands ∈ lw_big := bg (in5 (List.mem_of_getElem? (i := 175) rfl)) rfl
theorem wsX10_stands : Cond.selects RX10 yX10_stands yX10_stands ∈ lw_big := bg (in0 (List.mem_of_getElem? (i := 77) rfl)) rfl
theorem wcX10_sayCodes : Cond.code yX10_sayCodes cX10_sayCodes 6 none ∈ lw_big := bg (in5 (List.mem_of_getElem? (i := 152) rfl)) rfl
theorem wmX10_sayCodes : Cond.instanceMethod yX10_sayCodes ∈ lw_big := bg (in5 (List.mem_of_getElem? (i := 151) rfl)) rfl
theorem wsX10_sayCodes : Cond.selects RX10 yX10_sayCodes yX10_sayCodes ∈ lw_big := bg (in0 (List.mem_of_getElem? (i := 71) rfl)) rfl
theorem wcX10_sayLongest : Cond.code yX10_sayLongest cX10_sayLongest 11 (some .int) ∈ lw_big := bg (in5 (List.mem_of_getElem? (i := 164) rfl)) rfl
theorem wmX10_sayLongest : Cond.instanceMethod yX10_sayLongest ∈ lw_big := bg (in5 (List.mem_of_getElem? (i := 163) rfl)) rfl
theorem wsX10_sayLongest : Cond.selects RX10 yX10_sayLongest yX10_sayLongest ∈ lw_big := bg (in0 (List.mem_of_getElem? (i := 74) rfl)) rfl
theorem wcX10_out : Cond.code yX10_out cX10_out 2 (some .int) ∈ lw_big := bg (in5 (List.mem_of_getElem? (i := 180) rfl)) rfl
theorem wmX10_out : Cond.instanceMethod yX10_out ∈ lw_big := bg (in5 (List.mem_of_getElem? (i := 178) rfl)) rfl
theorem wsX10_out : Cond.selects RX10 yX10_out yX10_out ∈ lw_big := bg (in5 (List.mem_of_getElem? (i := 179) rfl)) rfl
theorem wcX10_about : Cond.code yX10_about cX10_about 2 (some .int) ∈ lw_big := bg (in5 (List.mem_of_getElem? (i := 184) rfl)) rfl
theorem wmX10_about : Cond.instanceMethod yX10_about ∈ lw_big := bg (in5 (List.mem_of_getElem? (i := 182) rfl)) rfl
theorem wsX10_about : Cond.selects RX10 yX10_about yX10_about ∈ lw_big := bg (in5 (List.mem_of_getElem? (i := 183) rfl)) rfl
theorem wcX10_frameOf : Cond.code yX10_frameOf cX10_frameOf 3 (some .int) ∈ lw_big := bg (in5 (List.mem_of_getElem? (i := 188) rfl)) rfl
theorem wmX10_frameOf : Cond.instanceMethod yX10_frameOf ∈ lw_big := bg (in5 (List.mem_of_getElem? (i := 186) rfl)) rfl
theorem wsX10_frameOf : Cond.selects RX10 yX10_frameOf yX10_frameOf ∈ lw_big := bg (in5 (List.mem_of_getElem? (i := 187) rfl)) rfl
theorem wcX10_colourOf : Cond.code yX10_colourOf cX10_colourOf 3 (some .int) ∈ lw_big := bg (in5 (List.mem_of_getElem? (i := 192) rfl)) rfl
theorem wmX10_colourOf : Cond.instanceMethod yX10_colourOf ∈ lw_big := bg (in5 (List.mem_of_getElem? (i := 190) rfl)) rfl
theorem wsX10_colourOf : Cond.selects RX10 yX10_colourOf yX10_colourOf ∈ lw_big := bg (in5 (List.mem_of_getElem? (i := 191) rfl)) rfl
theorem wcX10_index : Cond.code yX10_index cX10_index 3 (some .int) ∈ lw_big := bg (in5 (List.mem_of_getElem? (i := 196) rfl)) rfl
theorem wmX10_index : Cond.instanceMethod yX10_index ∈ lw_big := bg (in5 (List.mem_of_getElem? (i := 194) rfl)) rfl
theorem wsX10_index : Cond.selects RX10 yX10_index yX10_index ∈ lw_big := bg (in5 (List.mem_of_getElem? (i := 195) rfl)) rfl
theorem wcX10_covers : Cond.code yX10_covers cX10_covers 7 (some .int) ∈ lw_big := bg (in5 (List.mem_of_getElem? (i := 204) rfl)) rfl
theorem wmX10_covers : Cond.instanceMethod yX10_covers ∈ lw_big := bg (in5 (List.mem_of_getElem? (i := 203) rfl)) rfl
theorem wsX10_covers : Cond.selects RX10 yX10_covers yX10_covers ∈ lw_big := bg (in0 (List.mem_of_getElem? (i := 78) rfl)) rfl
theorem wcX10_canvas : Cond.code yX10_canvas cX10_canvas 10 (some .int) ∈ lw_big := bg (in5 (List.mem_of_getElem? (i := 200) rfl)) rfl
theorem wmX10_canvas : Cond.instanceMethod yX10_canvas ∈ lw_big := bg (in5 (List.mem_of_getElem? (i := 198) rfl)) rfl
theorem wsX10_canvas : Cond.selects RX10 yX10_canvas yX10_canvas ∈ lw_big := bg (in5 (List.mem_of_getElem? (i := 199) rfl)) rfl
theorem wcJ6_numberOfTrailingZeros_0f7a4 : Cond.code yJ6_numberOfTrailingZeros_0f7a4 cJ6_numberOfTrailingZeros_0f7a4 2 (some .int) ∈ lw_big := bg (in3 (List.mem_of_getElem? (i := 199) rfl)) rfl
theorem wtJ6_numberOfTrailingZeros_0f7a4 : Cond.static yJ6_numberOfTrailingZeros_0f7a4 ∈ lw_big := bg (in3 (List.mem_of_getElem? (i := 198) rfl)) rfl
theorem wcJ6_bitCount_0f7a4 : Cond.code yJ6_bitCount_0f7a4 cJ6_bitCount_0f7a4 1 (some .int) ∈ lw_big := bg (in3 (List.mem_of_getElem? (i := 124) rfl)) rfl
theorem wtJ6_bitCount_0f7a4 : Cond.static yJ6_bitCount_0f7a4 ∈ lw_big := bg (in3 (List.mem_of_getElem? (i := 123) rfl)) rfl
theorem wcJ9_max_7cf53 : Cond.code yJ9_max_7cf53 cJ9_max_7cf53 2 (some .int) ∈ lw_big := bg (in3 (List.mem_of_getElem? (i := 58) rfl)) rfl
theorem wtJ9_max_7cf53 : Cond.static yJ9_max_7cf53 ∈ lw_big := bg (in3 (List.mem_of_getElem? (i := 57) rfl)) rfl
theorem wcJ9_min_7cf53 : Cond.code yJ9_min_7cf53 cJ9_min_7cf53 2 (some .int) ∈ lw_big := bg (in2 (List.mem_of_getElem? (i := 177) rfl)) rfl
theorem wtJ9_min_7cf53 : Cond.static yJ9_min_7cf53 ∈ lw_big := bg (in2 (List.mem_of_getElem? (i := 176) rfl)) rfl
theorem wmO : Cond.instanceMethod objectInit ∈ lw_big := bg (in1 (List.mem_of_getElem? (i := 21) rfl)) rfl
theorem wcO : Cond.code objectInit ⟨#[0xb1]⟩ 1 none ∈ lw_big := bg (in1 (List.mem_of_getElem? (i := 22) rfl)) rfl
theorem wtC : Cond.static arraycopyName ∈ lw_big := bg (in2 (List.mem_of_getElem? (i := 165) rfl)) rfl
theorem wvC : Cond.native arraycopyName ∈ lw_big := bg (in2 (List.mem_of_getElem? (i := 166) rfl)) rfl
theorem wa_int : Cond.arrayClass .int ∈ lw_big := bg (in1 (List.mem_of_getElem? (i := 50) rfl)) rfl
theorem wa_byte : Cond.arrayClass .byte ∈ lw_big := bg (in4 (List.mem_of_getElem? (i := 190) rfl)) rfl
theorem wa_short : Cond.arrayClass .short ∈ lw_big := bg (in4 (List.mem_of_getElem? (i := 191) rfl)) rfl
