theorem w_1 : (Jvm.Cond.initialized "RoadOfDoors") ∈ tW := tW_t (i := 1) (by decide +kernel) rfl
theorem w_2 : (Jvm.Cond.initialized "java/lang/Math") ∈ tW := tW_t (i := 2) (by decide +kernel) rfl
theorem w_3 : (Jvm.Cond.initialized "RoadOfDoors$Text") ∈ tW := tW_t (i := 3) (by decide +kernel) rfl
theorem w_4 : (Jvm.Cond.initialized "RoadOfDoors$Road") ∈ tW := tW_t (i := 4) (by decide +kernel) rfl
theorem w_5 : (Jvm.Cond.initialized "RoadOfDoors$Traveller") ∈ tW := tW_t (i := 5) (by decide +kernel) rfl
theorem w_6 : (Jvm.Cond.initialized "RoadOfDoors$Tape") ∈ tW := tW_t (i := 6) (by decide +kernel) rfl
theorem w_7 : (Jvm.Cond.initialized "RoadOfDoors$Rules") ∈ tW := tW_t (i := 7) (by decide +kernel) rfl
theorem w_8 : (Jvm.Cond.initialized "RoadOfDoors$Ways") ∈ tW := tW_t (i := 8) (by decide +kernel) rfl
theorem w_9 : (Jvm.Cond.initialized "RoadOfDoors$Reader") ∈ tW := tW_t (i := 9) (by decide +kernel) rfl
theorem w_10 : (Jvm.Cond.initialized "RoadOfDoors$Earnings") ∈ tW := tW_t (i := 10) (by decide +kernel) rfl
theorem w_11 : (Jvm.Cond.initialized "RoadOfDoorsModel") ∈ tW := tW_t (i := 11) (by decide +kernel) rfl
theorem w_16 : (Jvm.Cond.initialized "java/lang/System") ∈ tW := tW_t (i := 16) (by decide +kernel) rfl
theorem w_17 : (Jvm.Cond.initialized "java/util/Arrays") ∈ tW := tW_t (i := 17) (by decide +kernel) rfl
theorem w_27 : (Jvm.Cond.static ({ cls := "java/lang/Math", name := "min", desc := "(II)I" } : Jvm.MethodName)) ∈ tW := tW_t (i := 27) (by decide +kernel) rfl
theorem w_28 : (Jvm.Cond.code ({ cls := "java/lang/Math", name := "min", desc := "(II)I" } : Jvm.MethodName) prog_12_method_69_code (2 : Nat) (Option.some Jvm.ClassFile.FieldType.int)) ∈ tW := tW_t (i := 28) (by decide +kernel) rfl
theorem w_39 : (Jvm.Cond.fieldLink "RoadOfDoors$Text" (9 : Nat) "RoadOfDoors$Text" "words" "[I") ∈ tW := tW_t (i := 39) (by decide +kernel) rfl
theorem w_40 : (Jvm.Cond.fieldLink "RoadOfDoors$Rules" (86 : Nat) "RoadOfDoors$Text" "words" "[I") ∈ tW := tW_t (i := 40) (by decide +kernel) rfl
theorem w_41 : (Jvm.Cond.fieldLink "RoadOfDoors$Text" (15 : Nat) "RoadOfDoors$Text" "knocks" "[I") ∈ tW := tW_t (i := 41) (by decide +kernel) rfl
theorem w_42 : (Jvm.Cond.fieldLink "RoadOfDoors" (174 : Nat) "RoadOfDoors$Text" "knocks" "[I") ∈ tW := tW_t (i := 42) (by decide +kernel) rfl
theorem w_43 : (Jvm.Cond.fieldLink "RoadOfDoors$Text" (18 : Nat) "RoadOfDoors$Text" "amounts" "[I") ∈ tW := tW_t (i := 43) (by decide +kernel) rfl
theorem w_44 : (Jvm.Cond.fieldLink "RoadOfDoors" (177 : Nat) "RoadOfDoors$Text" "amounts" "[I") ∈ tW := tW_t (i := 44) (by decide +kernel) rfl
theorem w_45 : (Jvm.Cond.fieldLink "RoadOfDoors$Text" (21 : Nat) "RoadOfDoors$Text" "length" "I") ∈ tW := tW_t (i := 45) (by decide +kernel) rfl
theorem w_46 : (Jvm.Cond.fieldLink "RoadOfDoors$Rules" (83 : Nat) "RoadOfDoors$Text" "length" "I") ∈ tW := tW_t (i := 46) (by decide +kernel) rfl
theorem w_47 : (Jvm.Cond.fieldLink "RoadOfDoors$Text" (25 : Nat) "RoadOfDoors$Text" "clauses" "I") ∈ tW := tW_t (i := 47) (by decide +kernel) rfl
theorem w_48 : (Jvm.Cond.fieldLink "RoadOfDoors$Reader" (89 : Nat) "RoadOfDoors$Text" "clauses" "I") ∈ tW := tW_t (i := 48) (by decide +kernel) rfl
theorem w_49 : (Jvm.Cond.fieldLink "RoadOfDoors" (171 : Nat) "RoadOfDoors$Text" "clauses" "I") ∈ tW := tW_t (i := 49) (by decide +kernel) rfl
theorem w_50 : (Jvm.Cond.fieldLink "RoadOfDoors$Text" (28 : Nat) "RoadOfDoors$Text" "looksAt" "I") ∈ tW := tW_t (i := 50) (by decide +kernel) rfl
theorem w_51 : (Jvm.Cond.fieldLink "RoadOfDoors$Rules" (48 : Nat) "RoadOfDoors$Text" "looksAt" "I") ∈ tW := tW_t (i := 51) (by decide +kernel) rfl
theorem w_52 : (Jvm.Cond.fieldLink "RoadOfDoors$Text" (31 : Nat) "RoadOfDoors$Text" "canOpen" "Z") ∈ tW := tW_t (i := 52) (by decide +kernel) rfl
theorem w_53 : (Jvm.Cond.fieldLink "RoadOfDoors$Rules" (43 : Nat) "RoadOfDoors$Text" "canOpen" "Z") ∈ tW := tW_t (i := 53) (by decide +kernel) rfl
theorem w_54 : (Jvm.Cond.fieldLink "RoadOfDoors$Reader" (85 : Nat) "RoadOfDoors$Text" "canOpen" "Z") ∈ tW := tW_t (i := 54) (by decide +kernel) rfl
theorem w_83 : (Jvm.Cond.fieldLink "RoadOfDoors$Traveller" (15 : Nat) "RoadOfDoors$Traveller" "load" "I") ∈ tW := tW_t (i := 83) (by decide +kernel) rfl
theorem w_84 : (Jvm.Cond.fieldLink "RoadOfDoors" (198 : Nat) "RoadOfDoors$Traveller" "load" "I") ∈ tW := tW_t (i := 84) (by decide +kernel) rfl
theorem w_85 : (Jvm.Cond.fieldLink "RoadOfDoors$Traveller" (19 : Nat) "RoadOfDoors$Traveller" "keys" "I") ∈ tW := tW_t (i := 85) (by decide +kernel) rfl
theorem w_86 : (Jvm.Cond.fieldLink "RoadOfDoors" (201 : Nat) "RoadOfDoors$Traveller" "keys" "I") ∈ tW := tW_t (i := 86) (by decide +kernel) rfl
theorem w_87 : (Jvm.Cond.fieldLink "RoadOfDoors$Traveller" (25 : Nat) "RoadOfDoors$Traveller" "purse" "I") ∈ tW := tW_t (i := 87) (by decide +kernel) rfl
theorem w_88 : (Jvm.Cond.fieldLink "RoadOfDoors" (195 : Nat) "RoadOfDoors$Traveller" "purse" "I") ∈ tW := tW_t (i := 88) (by decide +kernel) rfl
theorem w_89 : (Jvm.Cond.fieldLink "RoadOfDoors$Traveller" (22 : Nat) "RoadOfDoors$Traveller" "hour" "I") ∈ tW := tW_t (i := 89) (by decide +kernel) rfl
theorem w_90 : (Jvm.Cond.fieldLink "RoadOfDoors" (168 : Nat) "RoadOfDoors$Traveller" "hour" "I") ∈ tW := tW_t (i := 90) (by decide +kernel) rfl
theorem w_91 : (Jvm.Cond.fieldLink "RoadOfDoors$Traveller" (28 : Nat) "RoadOfDoors$Traveller" "waited" "I") ∈ tW := tW_t (i := 91) (by decide +kernel) rfl
theorem w_92 : (Jvm.Cond.fieldLink "RoadOfDoors" (193 : Nat) "RoadOfDoors$Traveller" "waited" "I") ∈ tW := tW_t (i := 92) (by decide +kernel) rfl
theorem w_93 : (Jvm.Cond.fieldLink "RoadOfDoors$Traveller" (31 : Nat) "RoadOfDoors$Traveller" "door" "I") ∈ tW := tW_t (i := 93) (by decide +kernel) rfl
theorem w_94 : (Jvm.Cond.fieldLink "RoadOfDoors" (190 : Nat) "RoadOfDoors$Traveller" "door" "I") ∈ tW := tW_t (i := 94) (by decide +kernel) rfl
theorem w_95 : (Jvm.Cond.fieldLink "RoadOfDoors$Traveller" (34 : Nat) "RoadOfDoors$Traveller" "steps" "I") ∈ tW := tW_t (i := 95) (by decide +kernel) rfl
theorem w_96 : (Jvm.Cond.fieldLink "RoadOfDoors" (187 : Nat) "RoadOfDoors$Traveller" "steps" "I") ∈ tW := tW_t (i := 96) (by decide +kernel) rfl
theorem w_97 : (Jvm.Cond.fieldLink "RoadOfDoors$Traveller" (9 : Nat) "RoadOfDoors$Traveller" "before" "[I") ∈ tW := tW_t (i := 97) (by decide +kernel) rfl
theorem w_116 : (Jvm.Cond.fieldLink "RoadOfDoors$Road" (9 : Nat) "RoadOfDoors$Road" "rain" "[I") ∈ tW := tW_t (i := 116) (by decide +kernel) rfl
theorem w_117 : (Jvm.Cond.fieldLink "RoadOfDoors" (90 : Nat) "RoadOfDoors$Road" "rain" "[I") ∈ tW := tW_t (i := 117) (by decide +kernel) rfl
theorem w_118 : (Jvm.Cond.fieldLink "RoadOfDoors$Rules" (77 : Nat) "RoadOfDoors$Road" "rain" "[I") ∈ tW := tW_t (i := 118) (by decide +kernel) rfl
theorem w_119 : (Jvm.Cond.fieldLink "RoadOfDoors$Road" (15 : Nat) "RoadOfDoors$Road" "mood" "[I") ∈ tW := tW_t (i := 119) (by decide +kernel) rfl
theorem w_120 : (Jvm.Cond.fieldLink "RoadOfDoors" (100 : Nat) "RoadOfDoors$Road" "mood" "[I") ∈ tW := tW_t (i := 120) (by decide +kernel) rfl
theorem w_121 : (Jvm.Cond.fieldLink "RoadOfDoors$Rules" (80 : Nat) "RoadOfDoors$Road" "mood" "[I") ∈ tW := tW_t (i := 121) (by decide +kernel) rfl
theorem w_122 : (Jvm.Cond.fieldLink "RoadOfDoors$Road" (18 : Nat) "RoadOfDoors$Road" "rule" "[I") ∈ tW := tW_t (i := 122) (by decide +kernel) rfl
theorem w_123 : (Jvm.Cond.fieldLink "RoadOfDoors$Earnings" (60 : Nat) "RoadOfDoors$Road" "rule" "[I") ∈ tW := tW_t (i := 123) (by decide +kernel) rfl
theorem w_124 : (Jvm.Cond.fieldLink "RoadOfDoors" (130 : Nat) "RoadOfDoors$Road" "rule" "[I") ∈ tW := tW_t (i := 124) (by decide +kernel) rfl
theorem w_125 : (Jvm.Cond.fieldLink "RoadOfDoors$Road" (21 : Nat) "RoadOfDoors$Road" "unhinged" "[Z") ∈ tW := tW_t (i := 125) (by decide +kernel) rfl
theorem w_126 : (Jvm.Cond.fieldLink "RoadOfDoors$Ways" (62 : Nat) "RoadOfDoors$Road" "unhinged" "[Z") ∈ tW := tW_t (i := 126) (by decide +kernel) rfl
theorem w_127 : (Jvm.Cond.fieldLink "RoadOfDoors" (103 : Nat) "RoadOfDoors$Road" "unhinged" "[Z") ∈ tW := tW_t (i := 127) (by decide +kernel) rfl
theorem w_128 : (Jvm.Cond.fieldLink "RoadOfDoors$Earnings" (74 : Nat) "RoadOfDoors$Road" "unhinged" "[Z") ∈ tW := tW_t (i := 128) (by decide +kernel) rfl
theorem w_129 : (Jvm.Cond.fieldLink "RoadOfDoors$Road" (25 : Nat) "RoadOfDoors$Road" "guests" "[I") ∈ tW := tW_t (i := 129) (by decide +kernel) rfl
theorem w_130 : (Jvm.Cond.fieldLink "RoadOfDoors$Earnings" (78 : Nat) "RoadOfDoors$Road" "guests" "[I") ∈ tW := tW_t (i := 130) (by decide +kernel) rfl
theorem w_131 : (Jvm.Cond.fieldLink "RoadOfDoors$Road" (28 : Nat) "RoadOfDoors$Road" "seen" "[I") ∈ tW := tW_t (i := 131) (by decide +kernel) rfl
theorem w_132 : (Jvm.Cond.fieldLink "RoadOfDoors" (250 : Nat) "RoadOfDoors$Road" "seen" "[I") ∈ tW := tW_t (i := 132) (by decide +kernel) rfl
theorem w_133 : (Jvm.Cond.fieldLink "RoadOfDoors$Road" (34 : Nat) "RoadOfDoors$Road" "traveller" "LRoadOfDoors$Traveller;") ∈ tW := tW_t (i := 133) (by decide +kernel) rfl
theorem w_134 : (Jvm.Cond.fieldLink "RoadOfDoors" (145 : Nat) "RoadOfDoors$Road" "traveller" "LRoadOfDoors$Traveller;") ∈ tW := tW_t (i := 134) (by decide +kernel) rfl
theorem w_135 : (Jvm.Cond.fieldLink "RoadOfDoors$Rules" (38 : Nat) "RoadOfDoors$Road" "told" "I") ∈ tW := tW_t (i := 135) (by decide +kernel) rfl
theorem w_136 : (Jvm.Cond.fieldLink "RoadOfDoors$Road" (56 : Nat) "RoadOfDoors$Road" "told" "I") ∈ tW := tW_t (i := 136) (by decide +kernel) rfl
theorem w_137 : (Jvm.Cond.fieldLink "RoadOfDoors$Earnings" (85 : Nat) "RoadOfDoors$Road" "told" "I") ∈ tW := tW_t (i := 137) (by decide +kernel) rfl
theorem w_138 : (Jvm.Cond.fieldLink "RoadOfDoors" (117 : Nat) "RoadOfDoors$Road" "told" "I") ∈ tW := tW_t (i := 138) (by decide +kernel) rfl
theorem w_139 : (Jvm.Cond.fieldLink "RoadOfDoors$Road" (38 : Nat) "RoadOfDoors$Road" "guestCount" "I") ∈ tW := tW_t (i := 139) (by decide +kernel) rfl
theorem w_140 : (Jvm.Cond.fieldLink "RoadOfDoors$Earnings" (71 : Nat) "RoadOfDoors$Road" "guestCount" "I") ∈ tW := tW_t (i := 140) (by decide +kernel) rfl
theorem w_141 : (Jvm.Cond.fieldLink "RoadOfDoors" (227 : Nat) "RoadOfDoors$Road" "guestCount" "I") ∈ tW := tW_t (i := 141) (by decide +kernel) rfl
theorem w_142 : (Jvm.Cond.fieldLink "RoadOfDoors$Road" (59 : Nat) "RoadOfDoors$Road" "seenCount" "I") ∈ tW := tW_t (i := 142) (by decide +kernel) rfl
theorem w_143 : (Jvm.Cond.fieldLink "RoadOfDoors" (247 : Nat) "RoadOfDoors$Road" "seenCount" "I") ∈ tW := tW_t (i := 143) (by decide +kernel) rfl
theorem w_171 : (Jvm.Cond.fieldLink "RoadOfDoors$Tape" (9 : Nat) "RoadOfDoors$Tape" "bytes" "[B") ∈ tW := tW_t (i := 171) (by decide +kernel) rfl
theorem w_172 : (Jvm.Cond.fieldLink "RoadOfDoors$Tape" (15 : Nat) "RoadOfDoors$Tape" "length" "I") ∈ tW := tW_t (i := 172) (by decide +kernel) rfl
theorem w_173 : (Jvm.Cond.fieldLink "RoadOfDoors" (110 : Nat) "RoadOfDoors$Tape" "length" "I") ∈ tW := tW_t (i := 173) (by decide +kernel) rfl
theorem w_174 : (Jvm.Cond.fieldLink "RoadOfDoors$Reader" (46 : Nat) "RoadOfDoors$Tape" "kind" "I") ∈ tW := tW_t (i := 174) (by decide +kernel) rfl
theorem w_175 : (Jvm.Cond.fieldLink "RoadOfDoors$Tape" (39 : Nat) "RoadOfDoors$Tape" "kind" "I") ∈ tW := tW_t (i := 175) (by decide +kernel) rfl
theorem w_176 : (Jvm.Cond.fieldLink "RoadOfDoors$Reader" (63 : Nat) "RoadOfDoors$Tape" "number" "I") ∈ tW := tW_t (i := 176) (by decide +kernel) rfl
theorem w_177 : (Jvm.Cond.fieldLink "RoadOfDoors$Tape" (65 : Nat) "RoadOfDoors$Tape" "number" "I") ∈ tW := tW_t (i := 177) (by decide +kernel) rfl
theorem w_178 : (Jvm.Cond.fieldLink "RoadOfDoors$Reader" (53 : Nat) "RoadOfDoors$Tape" "start" "I") ∈ tW := tW_t (i := 178) (by decide +kernel) rfl
theorem w_179 : (Jvm.Cond.fieldLink "RoadOfDoors$Tape" (30 : Nat) "RoadOfDoors$Tape" "start" "I") ∈ tW := tW_t (i := 179) (by decide +kernel) rfl
theorem w_180 : (Jvm.Cond.fieldLink "RoadOfDoors$Tape" (19 : Nat) "RoadOfDoors$Tape" "after" "I") ∈ tW := tW_t (i := 180) (by decide +kernel) rfl
theorem w_201 : (Jvm.Cond.fieldLink "RoadOfDoors$Rules" (18 : Nat) "RoadOfDoors$Rules" "doors" "I") ∈ tW := tW_t (i := 201) (by decide +kernel) rfl
theorem w_202 : (Jvm.Cond.fieldLink "RoadOfDoors$Rules" (22 : Nat) "RoadOfDoors$Rules" "road" "LRoadOfDoors$Road;") ∈ tW := tW_t (i := 202) (by decide +kernel) rfl
theorem w_203 : (Jvm.Cond.fieldLink "RoadOfDoors$Rules" (26 : Nat) "RoadOfDoors$Rules" "texts" "[LRoadOfDoors$Text;") ∈ tW := tW_t (i := 203) (by decide +kernel) rfl
theorem w_204 : (Jvm.Cond.fieldLink "RoadOfDoors$Rules" (9 : Nat) "RoadOfDoors$Rules" "names" "[I") ∈ tW := tW_t (i := 204) (by decide +kernel) rfl
theorem w_205 : (Jvm.Cond.fieldLink "RoadOfDoors$Rules" (15 : Nat) "RoadOfDoors$Rules" "values" "[I") ∈ tW := tW_t (i := 205) (by decide +kernel) rfl
theorem w_206 : (Jvm.Cond.fieldLink "RoadOfDoors$Rules" (30 : Nat) "RoadOfDoors$Rules" "leasts" "[J") ∈ tW := tW_t (i := 206) (by decide +kernel) rfl
theorem w_207 : (Jvm.Cond.fieldLink "RoadOfDoors$Rules" (34 : Nat) "RoadOfDoors$Rules" "stale" "Z") ∈ tW := tW_t (i := 207) (by decide +kernel) rfl
theorem w_230 : (Jvm.Cond.fieldLink "RoadOfDoors$Ways" (105 : Nat) "RoadOfDoors$Ways" "gifts" "I") ∈ tW := tW_t (i := 230) (by decide +kernel) rfl
theorem w_231 : (Jvm.Cond.fieldLink "RoadOfDoors" (218 : Nat) "RoadOfDoors$Ways" "gifts" "I") ∈ tW := tW_t (i := 231) (by decide +kernel) rfl
theorem w_232 : (Jvm.Cond.fieldLink "RoadOfDoors$Ways" (108 : Nat) "RoadOfDoors$Ways" "hours" "I") ∈ tW := tW_t (i := 232) (by decide +kernel) rfl
theorem w_233 : (Jvm.Cond.fieldLink "RoadOfDoors" (221 : Nat) "RoadOfDoors$Ways" "hours" "I") ∈ tW := tW_t (i := 233) (by decide +kernel) rfl
theorem w_234 : (Jvm.Cond.fieldLink "RoadOfDoors$Ways" (9 : Nat) "RoadOfDoors$Ways" "acts" "[I") ∈ tW := tW_t (i := 234) (by decide +kernel) rfl
theorem w_235 : (Jvm.Cond.fieldLink "RoadOfDoors" (224 : Nat) "RoadOfDoors$Ways" "acts" "[I") ∈ tW := tW_t (i := 235) (by decide +kernel) rfl
theorem w_236 : (Jvm.Cond.fieldLink "RoadOfDoors$Ways" (15 : Nat) "RoadOfDoors$Ways" "given" "[I") ∈ tW := tW_t (i := 236) (by decide +kernel) rfl
theorem w_237 : (Jvm.Cond.fieldLink "RoadOfDoors$Earnings" (103 : Nat) "RoadOfDoors$Ways" "given" "[I") ∈ tW := tW_t (i := 237) (by decide +kernel) rfl
theorem w_238 : (Jvm.Cond.fieldLink "RoadOfDoors$Ways" (30 : Nat) "RoadOfDoors$Ways" "doors" "I") ∈ tW := tW_t (i := 238) (by decide +kernel) rfl
theorem w_239 : (Jvm.Cond.fieldLink "RoadOfDoors$Ways" (34 : Nat) "RoadOfDoors$Ways" "road" "LRoadOfDoors$Road;") ∈ tW := tW_t (i := 239) (by decide +kernel) rfl
theorem w_240 : (Jvm.Cond.fieldLink "RoadOfDoors$Ways" (38 : Nat) "RoadOfDoors$Ways" "rules" "LRoadOfDoors$Rules;") ∈ tW := tW_t (i := 240) (by decide +kernel) rfl
theorem w_241 : (Jvm.Cond.fieldLink "RoadOfDoors$Ways" (18 : Nat) "RoadOfDoors$Ways" "costs" "[I") ∈ tW := tW_t (i := 241) (by decide +kernel) rfl
theorem w_242 : (Jvm.Cond.fieldLink "RoadOfDoors$Ways" (21 : Nat) "RoadOfDoors$Ways" "goes" "[I") ∈ tW := tW_t (i := 242) (by decide +kernel) rfl
theorem w_243 : (Jvm.Cond.fieldLink "RoadOfDoors$Ways" (24 : Nat) "RoadOfDoors$Ways" "places" "[I") ∈ tW := tW_t (i := 243) (by decide +kernel) rfl
theorem w_244 : (Jvm.Cond.fieldLink "RoadOfDoors$Ways" (27 : Nat) "RoadOfDoors$Ways" "mostWaited" "[I") ∈ tW := tW_t (i := 244) (by decide +kernel) rfl
theorem w_245 : (Jvm.Cond.fieldLink "RoadOfDoors$Ways" (46 : Nat) "RoadOfDoors$Ways" "firstHour" "I") ∈ tW := tW_t (i := 245) (by decide +kernel) rfl
theorem w_277 : (Jvm.Cond.fieldLink "RoadOfDoors$Reader" (9 : Nat) "RoadOfDoors$Reader" "fault" "I") ∈ tW := tW_t (i := 277) (by decide +kernel) rfl
theorem w_278 : (Jvm.Cond.fieldLink "RoadOfDoors" (124 : Nat) "RoadOfDoors$Reader" "fault" "I") ∈ tW := tW_t (i := 278) (by decide +kernel) rfl
theorem w_279 : (Jvm.Cond.fieldLink "RoadOfDoors$Reader" (15 : Nat) "RoadOfDoors$Reader" "place" "I") ∈ tW := tW_t (i := 279) (by decide +kernel) rfl
theorem w_280 : (Jvm.Cond.fieldLink "RoadOfDoors" (127 : Nat) "RoadOfDoors$Reader" "place" "I") ∈ tW := tW_t (i := 280) (by decide +kernel) rfl
theorem w_281 : (Jvm.Cond.fieldLink "RoadOfDoors$Reader" (22 : Nat) "RoadOfDoors$Reader" "tape" "LRoadOfDoors$Tape;") ∈ tW := tW_t (i := 281) (by decide +kernel) rfl
theorem w_282 : (Jvm.Cond.fieldLink "RoadOfDoors$Reader" (18 : Nat) "RoadOfDoors$Reader" "pile" "[I") ∈ tW := tW_t (i := 282) (by decide +kernel) rfl
theorem w_283 : (Jvm.Cond.fieldLink "RoadOfDoors$Reader" (26 : Nat) "RoadOfDoors$Reader" "text" "LRoadOfDoors$Text;") ∈ tW := tW_t (i := 283) (by decide +kernel) rfl
theorem w_284 : (Jvm.Cond.fieldLink "RoadOfDoors$Reader" (30 : Nat) "RoadOfDoors$Reader" "state" "I") ∈ tW := tW_t (i := 284) (by decide +kernel) rfl
theorem w_285 : (Jvm.Cond.fieldLink "RoadOfDoors$Reader" (95 : Nat) "RoadOfDoors$Reader" "height" "I") ∈ tW := tW_t (i := 285) (by decide +kernel) rfl
theorem w_286 : (Jvm.Cond.fieldLink "RoadOfDoors$Reader" (98 : Nat) "RoadOfDoors$Reader" "nested" "I") ∈ tW := tW_t (i := 286) (by decide +kernel) rfl
theorem w_287 : (Jvm.Cond.fieldLink "RoadOfDoors$Reader" (101 : Nat) "RoadOfDoors$Reader" "unclosed" "I") ∈ tW := tW_t (i := 287) (by decide +kernel) rfl
theorem w_288 : (Jvm.Cond.fieldLink "RoadOfDoors$Reader" (104 : Nat) "RoadOfDoors$Reader" "compared" "Z") ∈ tW := tW_t (i := 288) (by decide +kernel) rfl
theorem w_316 : (Jvm.Cond.fieldLink "RoadOfDoors$Earnings" (9 : Nat) "RoadOfDoors$Earnings" "trial" "[I") ∈ tW := tW_t (i := 316) (by decide +kernel) rfl
theorem w_317 : (Jvm.Cond.fieldLink "RoadOfDoors" (244 : Nat) "RoadOfDoors$Earnings" "trial" "[I") ∈ tW := tW_t (i := 317) (by decide +kernel) rfl
theorem w_318 : (Jvm.Cond.fieldLink "RoadOfDoors$Earnings" (18 : Nat) "RoadOfDoors$Earnings" "doors" "I") ∈ tW := tW_t (i := 318) (by decide +kernel) rfl
theorem w_319 : (Jvm.Cond.fieldLink "RoadOfDoors$Earnings" (22 : Nat) "RoadOfDoors$Earnings" "road" "LRoadOfDoors$Road;") ∈ tW := tW_t (i := 319) (by decide +kernel) rfl
theorem w_320 : (Jvm.Cond.fieldLink "RoadOfDoors$Earnings" (26 : Nat) "RoadOfDoors$Earnings" "rules" "LRoadOfDoors$Rules;") ∈ tW := tW_t (i := 320) (by decide +kernel) rfl
theorem w_321 : (Jvm.Cond.fieldLink "RoadOfDoors$Earnings" (30 : Nat) "RoadOfDoors$Earnings" "ways" "LRoadOfDoors$Ways;") ∈ tW := tW_t (i := 321) (by decide +kernel) rfl
theorem w_322 : (Jvm.Cond.fieldLink "RoadOfDoors$Earnings" (15 : Nat) "RoadOfDoors$Earnings" "past" "[I") ∈ tW := tW_t (i := 322) (by decide +kernel) rfl
theorem w_323 : (Jvm.Cond.fieldLink "RoadOfDoors$Earnings" (49 : Nat) "RoadOfDoors$Earnings" "changed" "I") ∈ tW := tW_t (i := 323) (by decide +kernel) rfl
theorem w_324 : (Jvm.Cond.fieldLink "RoadOfDoors$Earnings" (34 : Nat) "RoadOfDoors$Earnings" "settled" "Z") ∈ tW := tW_t (i := 324) (by decide +kernel) rfl
theorem w_342 : (Jvm.Cond.fieldLink "RoadOfDoors" (37 : Nat) "RoadOfDoors" "doors" "I") ∈ tW := tW_t (i := 342) (by decide +kernel) rfl
theorem w_343 : (Jvm.Cond.fieldLink "RoadOfDoors" (41 : Nat) "RoadOfDoors" "road" "LRoadOfDoors$Road;") ∈ tW := tW_t (i := 343) (by decide +kernel) rfl
theorem w_344 : (Jvm.Cond.fieldLink "RoadOfDoors" (45 : Nat) "RoadOfDoors" "saved" "LRoadOfDoors$Road;") ∈ tW := tW_t (i := 344) (by decide +kernel) rfl
theorem w_345 : (Jvm.Cond.fieldLink "RoadOfDoors" (48 : Nat) "RoadOfDoors" "texts" "[LRoadOfDoors$Text;") ∈ tW := tW_t (i := 345) (by decide +kernel) rfl
theorem w_346 : (Jvm.Cond.fieldLink "RoadOfDoors" (52 : Nat) "RoadOfDoors" "tape" "LRoadOfDoors$Tape;") ∈ tW := tW_t (i := 346) (by decide +kernel) rfl
theorem w_347 : (Jvm.Cond.fieldLink "RoadOfDoors" (61 : Nat) "RoadOfDoors" "reader" "LRoadOfDoors$Reader;") ∈ tW := tW_t (i := 347) (by decide +kernel) rfl
theorem w_348 : (Jvm.Cond.fieldLink "RoadOfDoors" (65 : Nat) "RoadOfDoors" "rules" "LRoadOfDoors$Rules;") ∈ tW := tW_t (i := 348) (by decide +kernel) rfl
theorem w_349 : (Jvm.Cond.fieldLink "RoadOfDoors" (69 : Nat) "RoadOfDoors" "ways" "LRoadOfDoors$Ways;") ∈ tW := tW_t (i := 349) (by decide +kernel) rfl
theorem w_350 : (Jvm.Cond.fieldLink "RoadOfDoors" (78 : Nat) "RoadOfDoors" "earnings" "LRoadOfDoors$Earnings;") ∈ tW := tW_t (i := 350) (by decide +kernel) rfl
theorem w_374 : (Jvm.Cond.methodLink "RoadOfDoors" (82 : Nat) ({ cls := "RoadOfDoors", name := "isHour", desc := "(I)Z" } : Jvm.MethodName)) ∈ tW := tW_t (i := 374) (by decide +kernel) rfl
theorem w_375 : (Jvm.Cond.static ({ cls := "RoadOfDoors", name := "isHour", desc := "(I)Z" } : Jvm.MethodName)) ∈ tW := tW_t (i := 375) (by decide +kernel) rfl
theorem w_377 : (Jvm.Cond.methodLink "RoadOfDoors" (86 : Nat) ({ cls := "RoadOfDoors", name := "within", desc := "(III)Z" } : Jvm.MethodName)) ∈ tW := tW_t (i := 377) (by decide +kernel) rfl
theorem w_378 : (Jvm.Cond.static ({ cls := "RoadOfDoors", name := "within", desc := "(III)Z" } : Jvm.MethodName)) ∈ tW := tW_t (i := 378) (by decide +kernel) rfl
theorem w_380 : (Jvm.Cond.methodLink "RoadOfDoors" (94 : Nat) ({ cls := "RoadOfDoors", name := "outlookChanged", desc := "()V" } : Jvm.MethodName)) ∈ tW := tW_t (i := 380) (by decide +kernel) rfl
theorem w_382 : (Jvm.Cond.instanceMethod ({ cls := "RoadOfDoors", name := "outlookChanged", desc := "()V" } : Jvm.MethodName)) ∈ tW := tW_t (i := 382) (by decide +kernel) rfl
theorem w_384 : (Jvm.Cond.methodLink "RoadOfDoors" (263 : Nat) ({ cls := "RoadOfDoors$Rules", name := "forget", desc := "()V" } : Jvm.MethodName)) ∈ tW := tW_t (i := 384) (by decide +kernel) rfl
theorem w_385 : (Jvm.Cond.instanceMethod ({ cls := "RoadOfDoors$Rules", name := "forget", desc := "()V" } : Jvm.MethodName)) ∈ tW := tW_t (i := 385) (by decide +kernel) rfl
theorem w_386 : (Jvm.Cond.selects "RoadOfDoors$Rules" ({ cls := "RoadOfDoors$Rules", name := "forget", desc := "()V" } : Jvm.MethodName) ({ cls := "RoadOfDoors$Rules", name := "forget", desc := "()V" } : Jvm.MethodName)) ∈ tW := tW_t (i := 386) (by decide +kernel) rfl
theorem w_388 : (Jvm.Cond.methodLink "RoadOfDoors" (107 : Nat) ({ cls := "RoadOfDoors$Earnings", name := "forget", desc := "()V" } : Jvm.MethodName)) ∈ tW := tW_t (i := 388) (by decide +kernel) rfl
theorem w_389 : (Jvm.Cond.instanceMethod ({ cls := "RoadOfDoors$Earnings", name := "forget", desc := "()V" } : Jvm.MethodName)) ∈ tW := tW_t (i := 389) (by decide +kernel) rfl
theorem w_390 : (Jvm.Cond.selects "RoadOfDoors$Earnings" ({ cls := "RoadOfDoors$Earnings", name := "forget", desc := "()V" } : Jvm.MethodName) ({ cls := "RoadOfDoors$Earnings", name := "forget", desc := "()V" } : Jvm.MethodName)) ∈ tW := tW_t (i := 390) (by decide +kernel) rfl
theorem w_396 : (Jvm.Cond.methodLink "RoadOfDoors" (97 : Nat) ({ cls := "RoadOfDoors", name := "isDoor", desc := "(I)Z" } : Jvm.MethodName)) ∈ tW := tW_t (i := 396) (by decide +kernel) rfl
theorem w_398 : (Jvm.Cond.instanceMethod ({ cls := "RoadOfDoors", name := "isDoor", desc := "(I)Z" } : Jvm.MethodName)) ∈ tW := tW_t (i := 398) (by decide +kernel) rfl
theorem w_412 : (Jvm.Cond.methodLink "RoadOfDoors" (113 : Nat) ({ cls := "RoadOfDoors$Tape", name := "add", desc := "(I)V" } : Jvm.MethodName)) ∈ tW := tW_t (i := 412) (by decide +kernel) rfl
theorem w_413 : (Jvm.Cond.instanceMethod ({ cls := "RoadOfDoors$Tape", name := "add", desc := "(I)V" } : Jvm.MethodName)) ∈ tW := tW_t (i := 413) (by decide +kernel) rfl
theorem w_414 : (Jvm.Cond.selects "RoadOfDoors$Tape" ({ cls := "RoadOfDoors$Tape", name := "add", desc := "(I)V" } : Jvm.MethodName) ({ cls := "RoadOfDoors$Tape", name := "add", desc := "(I)V" } : Jvm.MethodName)) ∈ tW := tW_t (i := 414) (by decide +kernel) rfl
theorem w_424 : (Jvm.Cond.methodLink "RoadOfDoors" (120 : Nat) ({ cls := "RoadOfDoors$Reader", name := "read", desc := "(LRoadOfDoors$Text;)Z" } : Jvm.MethodName)) ∈ tW := tW_t (i := 424) (by decide +kernel) rfl
theorem w_425 : (Jvm.Cond.instanceMethod ({ cls := "RoadOfDoors$Reader", name := "read", desc := "(LRoadOfDoors$Text;)Z" } : Jvm.MethodName)) ∈ tW := tW_t (i := 425) (by decide +kernel) rfl
theorem w_426 : (Jvm.Cond.selects "RoadOfDoors$Reader" ({ cls := "RoadOfDoors$Reader", name := "read", desc := "(LRoadOfDoors$Text;)Z" } : Jvm.MethodName) ({ cls := "RoadOfDoors$Reader", name := "read", desc := "(LRoadOfDoors$Text;)Z" } : Jvm.MethodName)) ∈ tW := tW_t (i := 426) (by decide +kernel) rfl
theorem w_428 : (Jvm.Cond.methodLink "RoadOfDoors$Reader" (33 : Nat) ({ cls := "RoadOfDoors$Text", name := "empties", desc := "()V" } : Jvm.MethodName)) ∈ tW := tW_t (i := 428) (by decide +kernel) rfl
theorem w_429 : (Jvm.Cond.instanceMethod ({ cls := "RoadOfDoors$Text", name := "empties", desc := "()V" } : Jvm.MethodName)) ∈ tW := tW_t (i := 429) (by decide +kernel) rfl
theorem w_430 : (Jvm.Cond.selects "RoadOfDoors$Text" ({ cls := "RoadOfDoors$Text", name := "empties", desc := "()V" } : Jvm.MethodName) ({ cls := "RoadOfDoors$Text", name := "empties", desc := "()V" } : Jvm.MethodName)) ∈ tW := tW_t (i := 430) (by decide +kernel) rfl
theorem w_432 : (Jvm.Cond.methodLink "RoadOfDoors$Reader" (38 : Nat) ({ cls := "RoadOfDoors$Tape", name := "rewinds", desc := "()V" } : Jvm.MethodName)) ∈ tW := tW_t (i := 432) (by decide +kernel) rfl
theorem w_433 : (Jvm.Cond.instanceMethod ({ cls := "RoadOfDoors$Tape", name := "rewinds", desc := "()V" } : Jvm.MethodName)) ∈ tW := tW_t (i := 433) (by decide +kernel) rfl
theorem w_434 : (Jvm.Cond.selects "RoadOfDoors$Tape" ({ cls := "RoadOfDoors$Tape", name := "rewinds", desc := "()V" } : Jvm.MethodName) ({ cls := "RoadOfDoors$Tape", name := "rewinds", desc := "()V" } : Jvm.MethodName)) ∈ tW := tW_t (i := 434) (by decide +kernel) rfl
theorem w_436 : (Jvm.Cond.methodLink "RoadOfDoors$Reader" (43 : Nat) ({ cls := "RoadOfDoors$Tape", name := "nextToken", desc := "()V" } : Jvm.MethodName)) ∈ tW := tW_t (i := 436) (by decide +kernel) rfl
theorem w_437 : (Jvm.Cond.instanceMethod ({ cls := "RoadOfDoors$Tape", name := "nextToken", desc := "()V" } : Jvm.MethodName)) ∈ tW := tW_t (i := 437) (by decide +kernel) rfl
theorem w_438 : (Jvm.Cond.selects "RoadOfDoors$Tape" ({ cls := "RoadOfDoors$Tape", name := "nextToken", desc := "()V" } : Jvm.MethodName) ({ cls := "RoadOfDoors$Tape", name := "nextToken", desc := "()V" } : Jvm.MethodName)) ∈ tW := tW_t (i := 438) (by decide +kernel) rfl
theorem w_440 : (Jvm.Cond.methodLink "RoadOfDoors$Tape" (22 : Nat) ({ cls := "RoadOfDoors$Tape", name := "byteAt", desc := "(I)I" } : Jvm.MethodName)) ∈ tW := tW_t (i := 440) (by decide +kernel) rfl
theorem w_442 : (Jvm.Cond.instanceMethod ({ cls := "RoadOfDoors$Tape", name := "byteAt", desc := "(I)I" } : Jvm.MethodName)) ∈ tW := tW_t (i := 442) (by decide +kernel) rfl
theorem w_444 : (Jvm.Cond.methodLink "RoadOfDoors$Tape" (26 : Nat) ({ cls := "RoadOfDoors$Tape", name := "isBlank", desc := "(I)Z" } : Jvm.MethodName)) ∈ tW := tW_t (i := 444) (by decide +kernel) rfl
theorem w_445 : (Jvm.Cond.static ({ cls := "RoadOfDoors$Tape", name := "isBlank", desc := "(I)Z" } : Jvm.MethodName)) ∈ tW := tW_t (i := 445) (by decide +kernel) rfl
theorem w_447 : (Jvm.Cond.methodLink "RoadOfDoors$Tape" (33 : Nat) ({ cls := "java/lang/Math", name := "min", desc := "(II)I" } : Jvm.MethodName)) ∈ tW := tW_t (i := 447) (by decide +kernel) rfl
theorem w_448 : (Jvm.Cond.methodLink "RoadOfDoors$Tape" (42 : Nat) ({ cls := "RoadOfDoors$Tape", name := "isLetter", desc := "(I)Z" } : Jvm.MethodName)) ∈ tW := tW_t (i := 448) (by decide +kernel) rfl
theorem w_449 : (Jvm.Cond.static ({ cls := "RoadOfDoors$Tape", name := "isLetter", desc := "(I)Z" } : Jvm.MethodName)) ∈ tW := tW_t (i := 449) (by decide +kernel) rfl
theorem w_452 : (Jvm.Cond.methodLink "RoadOfDoors$Tape" (45 : Nat) ({ cls := "RoadOfDoors$Tape", name := "readWord", desc := "()V" } : Jvm.MethodName)) ∈ tW := tW_t (i := 452) (by decide +kernel) rfl
theorem w_454 : (Jvm.Cond.instanceMethod ({ cls := "RoadOfDoors$Tape", name := "readWord", desc := "()V" } : Jvm.MethodName)) ∈ tW := tW_t (i := 454) (by decide +kernel) rfl
theorem w_456 : (Jvm.Cond.methodLink "RoadOfDoors$Tape" (68 : Nat) ({ cls := "RoadOfDoors$Tape", name := "nameSpelt", desc := "()I" } : Jvm.MethodName)) ∈ tW := tW_t (i := 456) (by decide +kernel) rfl
theorem w_458 : (Jvm.Cond.instanceMethod ({ cls := "RoadOfDoors$Tape", name := "nameSpelt", desc := "()I" } : Jvm.MethodName)) ∈ tW := tW_t (i := 458) (by decide +kernel) rfl
theorem w_461 : (Jvm.Cond.methodLink "RoadOfDoors$Tape" (85 : Nat) ({ cls := "RoadOfDoors$Tape", name := "spells", desc := "(Ljava/lang/String;)Z" } : Jvm.MethodName)) ∈ tW := tW_t (i := 461) (by decide +kernel) rfl
theorem w_463 : (Jvm.Cond.instanceMethod ({ cls := "RoadOfDoors$Tape", name := "spells", desc := "(Ljava/lang/String;)Z" } : Jvm.MethodName)) ∈ tW := tW_t (i := 463) (by decide +kernel) rfl
theorem w_520 : (Jvm.Cond.methodLink "RoadOfDoors$Tape" (72 : Nat) ({ cls := "RoadOfDoors$Tape", name := "wordSpelt", desc := "()I" } : Jvm.MethodName)) ∈ tW := tW_t (i := 520) (by decide +kernel) rfl
theorem w_522 : (Jvm.Cond.instanceMethod ({ cls := "RoadOfDoors$Tape", name := "wordSpelt", desc := "()I" } : Jvm.MethodName)) ∈ tW := tW_t (i := 522) (by decide +kernel) rfl
theorem w_531 : (Jvm.Cond.methodLink "RoadOfDoors$Tape" (48 : Nat) ({ cls := "RoadOfDoors$Tape", name := "isDigit", desc := "(I)Z" } : Jvm.MethodName)) ∈ tW := tW_t (i := 531) (by decide +kernel) rfl
theorem w_532 : (Jvm.Cond.static ({ cls := "RoadOfDoors$Tape", name := "isDigit", desc := "(I)Z" } : Jvm.MethodName)) ∈ tW := tW_t (i := 532) (by decide +kernel) rfl
theorem w_534 : (Jvm.Cond.methodLink "RoadOfDoors$Tape" (51 : Nat) ({ cls := "RoadOfDoors$Tape", name := "readNumber", desc := "()V" } : Jvm.MethodName)) ∈ tW := tW_t (i := 534) (by decide +kernel) rfl
theorem w_536 : (Jvm.Cond.instanceMethod ({ cls := "RoadOfDoors$Tape", name := "readNumber", desc := "()V" } : Jvm.MethodName)) ∈ tW := tW_t (i := 536) (by decide +kernel) rfl
theorem w_538 : (Jvm.Cond.methodLink "RoadOfDoors$Tape" (54 : Nat) ({ cls := "RoadOfDoors$Tape", name := "signAt", desc := "(IZ)I" } : Jvm.MethodName)) ∈ tW := tW_t (i := 538) (by decide +kernel) rfl
theorem w_539 : (Jvm.Cond.static ({ cls := "RoadOfDoors$Tape", name := "signAt", desc := "(IZ)I" } : Jvm.MethodName)) ∈ tW := tW_t (i := 539) (by decide +kernel) rfl
theorem w_541 : (Jvm.Cond.methodLink "RoadOfDoors$Tape" (58 : Nat) ({ cls := "RoadOfDoors$Tape", name := "isTwoSigned", desc := "(I)Z" } : Jvm.MethodName)) ∈ tW := tW_t (i := 541) (by decide +kernel) rfl
theorem w_542 : (Jvm.Cond.static ({ cls := "RoadOfDoors$Tape", name := "isTwoSigned", desc := "(I)Z" } : Jvm.MethodName)) ∈ tW := tW_t (i := 542) (by decide +kernel) rfl
theorem w_544 : (Jvm.Cond.methodLink "RoadOfDoors$Reader" (49 : Nat) ({ cls := "RoadOfDoors$Reader", name := "take", desc := "(I)V" } : Jvm.MethodName)) ∈ tW := tW_t (i := 544) (by decide +kernel) rfl
theorem w_546 : (Jvm.Cond.instanceMethod ({ cls := "RoadOfDoors$Reader", name := "take", desc := "(I)V" } : Jvm.MethodName)) ∈ tW := tW_t (i := 546) (by decide +kernel) rfl
theorem w_548 : (Jvm.Cond.methodLink "RoadOfDoors$Reader" (56 : Nat) ({ cls := "RoadOfDoors$Reader", name := "takeClause", desc := "(I)V" } : Jvm.MethodName)) ∈ tW := tW_t (i := 548) (by decide +kernel) rfl
theorem w_550 : (Jvm.Cond.instanceMethod ({ cls := "RoadOfDoors$Reader", name := "takeClause", desc := "(I)V" } : Jvm.MethodName)) ∈ tW := tW_t (i := 550) (by decide +kernel) rfl
theorem w_552 : (Jvm.Cond.methodLink "RoadOfDoors$Reader" (82 : Nat) ({ cls := "RoadOfDoors$Reader", name := "refuse", desc := "(I)V" } : Jvm.MethodName)) ∈ tW := tW_t (i := 552) (by decide +kernel) rfl
theorem w_554 : (Jvm.Cond.instanceMethod ({ cls := "RoadOfDoors$Reader", name := "refuse", desc := "(I)V" } : Jvm.MethodName)) ∈ tW := tW_t (i := 554) (by decide +kernel) rfl
theorem w_556 : (Jvm.Cond.methodLink "RoadOfDoors$Reader" (92 : Nat) ({ cls := "RoadOfDoors$Text", name := "addClause", desc := "(I)V" } : Jvm.MethodName)) ∈ tW := tW_t (i := 556) (by decide +kernel) rfl
theorem w_557 : (Jvm.Cond.instanceMethod ({ cls := "RoadOfDoors$Text", name := "addClause", desc := "(I)V" } : Jvm.MethodName)) ∈ tW := tW_t (i := 557) (by decide +kernel) rfl
theorem w_558 : (Jvm.Cond.selects "RoadOfDoors$Text" ({ cls := "RoadOfDoors$Text", name := "addClause", desc := "(I)V" } : Jvm.MethodName) ({ cls := "RoadOfDoors$Text", name := "addClause", desc := "(I)V" } : Jvm.MethodName)) ∈ tW := tW_t (i := 558) (by decide +kernel) rfl
theorem w_560 : (Jvm.Cond.methodLink "RoadOfDoors$Reader" (59 : Nat) ({ cls := "RoadOfDoors$Reader", name := "takeNumber", desc := "(III)V" } : Jvm.MethodName)) ∈ tW := tW_t (i := 560) (by decide +kernel) rfl
theorem w_562 : (Jvm.Cond.instanceMethod ({ cls := "RoadOfDoors$Reader", name := "takeNumber", desc := "(III)V" } : Jvm.MethodName)) ∈ tW := tW_t (i := 562) (by decide +kernel) rfl
theorem w_565 : (Jvm.Cond.methodLink "RoadOfDoors$Reader" (66 : Nat) ({ cls := "RoadOfDoors$Text", name := "setKnocks", desc := "(I)V" } : Jvm.MethodName)) ∈ tW := tW_t (i := 565) (by decide +kernel) rfl
theorem w_566 : (Jvm.Cond.instanceMethod ({ cls := "RoadOfDoors$Text", name := "setKnocks", desc := "(I)V" } : Jvm.MethodName)) ∈ tW := tW_t (i := 566) (by decide +kernel) rfl
theorem w_567 : (Jvm.Cond.selects "RoadOfDoors$Text" ({ cls := "RoadOfDoors$Text", name := "setKnocks", desc := "(I)V" } : Jvm.MethodName) ({ cls := "RoadOfDoors$Text", name := "setKnocks", desc := "(I)V" } : Jvm.MethodName)) ∈ tW := tW_t (i := 567) (by decide +kernel) rfl
theorem w_570 : (Jvm.Cond.methodLink "RoadOfDoors$Reader" (69 : Nat) ({ cls := "RoadOfDoors$Reader", name := "takeSign", desc := "(II)V" } : Jvm.MethodName)) ∈ tW := tW_t (i := 570) (by decide +kernel) rfl
theorem w_572 : (Jvm.Cond.instanceMethod ({ cls := "RoadOfDoors$Reader", name := "takeSign", desc := "(II)V" } : Jvm.MethodName)) ∈ tW := tW_t (i := 572) (by decide +kernel) rfl
theorem w_574 : (Jvm.Cond.methodLink "RoadOfDoors$Reader" (73 : Nat) ({ cls := "RoadOfDoors$Text", name := "setAmount", desc := "(I)V" } : Jvm.MethodName)) ∈ tW := tW_t (i := 574) (by decide +kernel) rfl
theorem w_575 : (Jvm.Cond.instanceMethod ({ cls := "RoadOfDoors$Text", name := "setAmount", desc := "(I)V" } : Jvm.MethodName)) ∈ tW := tW_t (i := 575) (by decide +kernel) rfl
theorem w_576 : (Jvm.Cond.selects "RoadOfDoors$Text" ({ cls := "RoadOfDoors$Text", name := "setAmount", desc := "(I)V" } : Jvm.MethodName) ({ cls := "RoadOfDoors$Text", name := "setAmount", desc := "(I)V" } : Jvm.MethodName)) ∈ tW := tW_t (i := 576) (by decide +kernel) rfl
theorem w_578 : (Jvm.Cond.methodLink "RoadOfDoors$Reader" (76 : Nat) ({ cls := "RoadOfDoors$Reader", name := "takeOne", desc := "(I)V" } : Jvm.MethodName)) ∈ tW := tW_t (i := 578) (by decide +kernel) rfl
theorem w_580 : (Jvm.Cond.instanceMethod ({ cls := "RoadOfDoors$Reader", name := "takeOne", desc := "(I)V" } : Jvm.MethodName)) ∈ tW := tW_t (i := 580) (by decide +kernel) rfl
theorem w_582 : (Jvm.Cond.methodLink "RoadOfDoors$Reader" (111 : Nat) ({ cls := "RoadOfDoors$Reader", name := "nest", desc := "(I)V" } : Jvm.MethodName)) ∈ tW := tW_t (i := 582) (by decide +kernel) rfl
theorem w_584 : (Jvm.Cond.instanceMethod ({ cls := "RoadOfDoors$Reader", name := "nest", desc := "(I)V" } : Jvm.MethodName)) ∈ tW := tW_t (i := 584) (by decide +kernel) rfl
theorem w_586 : (Jvm.Cond.methodLink "RoadOfDoors$Reader" (131 : Nat) ({ cls := "RoadOfDoors$Reader", name := "put", desc := "(I)V" } : Jvm.MethodName)) ∈ tW := tW_t (i := 586) (by decide +kernel) rfl
theorem w_588 : (Jvm.Cond.instanceMethod ({ cls := "RoadOfDoors$Reader", name := "put", desc := "(I)V" } : Jvm.MethodName)) ∈ tW := tW_t (i := 588) (by decide +kernel) rfl
theorem w_590 : (Jvm.Cond.methodLink "RoadOfDoors$Reader" (114 : Nat) ({ cls := "RoadOfDoors$Reader", name := "atAsk", desc := "()Z" } : Jvm.MethodName)) ∈ tW := tW_t (i := 590) (by decide +kernel) rfl
theorem w_592 : (Jvm.Cond.instanceMethod ({ cls := "RoadOfDoors$Reader", name := "atAsk", desc := "()Z" } : Jvm.MethodName)) ∈ tW := tW_t (i := 592) (by decide +kernel) rfl
theorem w_594 : (Jvm.Cond.methodLink "RoadOfDoors$Reader" (127 : Nat) ({ cls := "RoadOfDoors$Reader", name := "pileAt", desc := "(I)I" } : Jvm.MethodName)) ∈ tW := tW_t (i := 594) (by decide +kernel) rfl
theorem w_596 : (Jvm.Cond.instanceMethod ({ cls := "RoadOfDoors$Reader", name := "pileAt", desc := "(I)I" } : Jvm.MethodName)) ∈ tW := tW_t (i := 596) (by decide +kernel) rfl
theorem w_598 : (Jvm.Cond.methodLink "RoadOfDoors$Reader" (118 : Nat) ({ cls := "RoadOfDoors$Text", name := "addName", desc := "(I)V" } : Jvm.MethodName)) ∈ tW := tW_t (i := 598) (by decide +kernel) rfl
theorem w_599 : (Jvm.Cond.instanceMethod ({ cls := "RoadOfDoors$Text", name := "addName", desc := "(I)V" } : Jvm.MethodName)) ∈ tW := tW_t (i := 599) (by decide +kernel) rfl
theorem w_600 : (Jvm.Cond.selects "RoadOfDoors$Text" ({ cls := "RoadOfDoors$Text", name := "addName", desc := "(I)V" } : Jvm.MethodName) ({ cls := "RoadOfDoors$Text", name := "addName", desc := "(I)V" } : Jvm.MethodName)) ∈ tW := tW_t (i := 600) (by decide +kernel) rfl
theorem w_602 : (Jvm.Cond.methodLink "RoadOfDoors$Text" (35 : Nat) ({ cls := "RoadOfDoors$Text", name := "addWord", desc := "(I)V" } : Jvm.MethodName)) ∈ tW := tW_t (i := 602) (by decide +kernel) rfl
theorem w_603 : (Jvm.Cond.instanceMethod ({ cls := "RoadOfDoors$Text", name := "addWord", desc := "(I)V" } : Jvm.MethodName)) ∈ tW := tW_t (i := 603) (by decide +kernel) rfl
theorem w_604 : (Jvm.Cond.selects "RoadOfDoors$Text" ({ cls := "RoadOfDoors$Text", name := "addWord", desc := "(I)V" } : Jvm.MethodName) ({ cls := "RoadOfDoors$Text", name := "addWord", desc := "(I)V" } : Jvm.MethodName)) ∈ tW := tW_t (i := 604) (by decide +kernel) rfl
theorem w_606 : (Jvm.Cond.methodLink "RoadOfDoors$Reader" (121 : Nat) ({ cls := "RoadOfDoors$Reader", name := "endOne", desc := "()V" } : Jvm.MethodName)) ∈ tW := tW_t (i := 606) (by decide +kernel) rfl
theorem w_608 : (Jvm.Cond.instanceMethod ({ cls := "RoadOfDoors$Reader", name := "endOne", desc := "()V" } : Jvm.MethodName)) ∈ tW := tW_t (i := 608) (by decide +kernel) rfl
theorem w_610 : (Jvm.Cond.methodLink "RoadOfDoors$Reader" (134 : Nat) ({ cls := "RoadOfDoors$Reader", name := "joinDownTo", desc := "(I)V" } : Jvm.MethodName)) ∈ tW := tW_t (i := 610) (by decide +kernel) rfl
theorem w_612 : (Jvm.Cond.instanceMethod ({ cls := "RoadOfDoors$Reader", name := "joinDownTo", desc := "(I)V" } : Jvm.MethodName)) ∈ tW := tW_t (i := 612) (by decide +kernel) rfl
theorem w_614 : (Jvm.Cond.methodLink "RoadOfDoors$Reader" (137 : Nat) ({ cls := "RoadOfDoors$Reader", name := "levelOf", desc := "(I)I" } : Jvm.MethodName)) ∈ tW := tW_t (i := 614) (by decide +kernel) rfl
theorem w_615 : (Jvm.Cond.static ({ cls := "RoadOfDoors$Reader", name := "levelOf", desc := "(I)I" } : Jvm.MethodName)) ∈ tW := tW_t (i := 615) (by decide +kernel) rfl
theorem w_617 : (Jvm.Cond.methodLink "RoadOfDoors$Reader" (124 : Nat) ({ cls := "RoadOfDoors$Text", name := "addWord", desc := "(I)V" } : Jvm.MethodName)) ∈ tW := tW_t (i := 617) (by decide +kernel) rfl
theorem w_618 : (Jvm.Cond.methodLink "RoadOfDoors$Reader" (79 : Nat) ({ cls := "RoadOfDoors$Reader", name := "takeBehindOne", desc := "(I)V" } : Jvm.MethodName)) ∈ tW := tW_t (i := 618) (by decide +kernel) rfl
theorem w_620 : (Jvm.Cond.instanceMethod ({ cls := "RoadOfDoors$Reader", name := "takeBehindOne", desc := "(I)V" } : Jvm.MethodName)) ∈ tW := tW_t (i := 620) (by decide +kernel) rfl
theorem w_622 : (Jvm.Cond.methodLink "RoadOfDoors$Reader" (140 : Nat) ({ cls := "RoadOfDoors$Reader", name := "join", desc := "(II)V" } : Jvm.MethodName)) ∈ tW := tW_t (i := 622) (by decide +kernel) rfl
theorem w_624 : (Jvm.Cond.instanceMethod ({ cls := "RoadOfDoors$Reader", name := "join", desc := "(II)V" } : Jvm.MethodName)) ∈ tW := tW_t (i := 624) (by decide +kernel) rfl
theorem w_626 : (Jvm.Cond.methodLink "RoadOfDoors$Reader" (143 : Nat) ({ cls := "RoadOfDoors$Reader", name := "close", desc := "()V" } : Jvm.MethodName)) ∈ tW := tW_t (i := 626) (by decide +kernel) rfl
theorem w_628 : (Jvm.Cond.instanceMethod ({ cls := "RoadOfDoors$Reader", name := "close", desc := "()V" } : Jvm.MethodName)) ∈ tW := tW_t (i := 628) (by decide +kernel) rfl
theorem w_642 : (Jvm.Cond.methodLink "RoadOfDoors" (133 : Nat) ({ cls := "RoadOfDoors", name := "isKnock", desc := "(IIIII)Z" } : Jvm.MethodName)) ∈ tW := tW_t (i := 642) (by decide +kernel) rfl
theorem w_644 : (Jvm.Cond.instanceMethod ({ cls := "RoadOfDoors", name := "isKnock", desc := "(IIIII)Z" } : Jvm.MethodName)) ∈ tW := tW_t (i := 644) (by decide +kernel) rfl
theorem w_646 : (Jvm.Cond.methodLink "RoadOfDoors" (137 : Nat) ({ cls := "RoadOfDoors$Rules", name := "opensBy", desc := "(IIIIIII)Z" } : Jvm.MethodName)) ∈ tW := tW_t (i := 646) (by decide +kernel) rfl
theorem w_647 : (Jvm.Cond.instanceMethod ({ cls := "RoadOfDoors$Rules", name := "opensBy", desc := "(IIIIIII)Z" } : Jvm.MethodName)) ∈ tW := tW_t (i := 647) (by decide +kernel) rfl
theorem w_648 : (Jvm.Cond.selects "RoadOfDoors$Rules" ({ cls := "RoadOfDoors$Rules", name := "opensBy", desc := "(IIIIIII)Z" } : Jvm.MethodName) ({ cls := "RoadOfDoors$Rules", name := "opensBy", desc := "(IIIIIII)Z" } : Jvm.MethodName)) ∈ tW := tW_t (i := 648) (by decide +kernel) rfl
theorem w_650 : (Jvm.Cond.methodLink "RoadOfDoors$Rules" (51 : Nat) ({ cls := "RoadOfDoors$Rules", name := "isOpening", desc := "(I)Z" } : Jvm.MethodName)) ∈ tW := tW_t (i := 650) (by decide +kernel) rfl
theorem w_651 : (Jvm.Cond.instanceMethod ({ cls := "RoadOfDoors$Rules", name := "isOpening", desc := "(I)Z" } : Jvm.MethodName)) ∈ tW := tW_t (i := 651) (by decide +kernel) rfl
theorem w_652 : (Jvm.Cond.selects "RoadOfDoors$Rules" ({ cls := "RoadOfDoors$Rules", name := "isOpening", desc := "(I)Z" } : Jvm.MethodName) ({ cls := "RoadOfDoors$Rules", name := "isOpening", desc := "(I)Z" } : Jvm.MethodName)) ∈ tW := tW_t (i := 652) (by decide +kernel) rfl
theorem w_654 : (Jvm.Cond.methodLink "RoadOfDoors$Rules" (55 : Nat) ({ cls := "RoadOfDoors$Rules", name := "face", desc := "(III)V" } : Jvm.MethodName)) ∈ tW := tW_t (i := 654) (by decide +kernel) rfl
theorem w_656 : (Jvm.Cond.instanceMethod ({ cls := "RoadOfDoors$Rules", name := "face", desc := "(III)V" } : Jvm.MethodName)) ∈ tW := tW_t (i := 656) (by decide +kernel) rfl
theorem w_658 : (Jvm.Cond.methodLink "RoadOfDoors$Rules" (59 : Nat) ({ cls := "RoadOfDoors$Rules", name := "holds", desc := "(LRoadOfDoors$Text;)Z" } : Jvm.MethodName)) ∈ tW := tW_t (i := 658) (by decide +kernel) rfl
theorem w_660 : (Jvm.Cond.instanceMethod ({ cls := "RoadOfDoors$Rules", name := "holds", desc := "(LRoadOfDoors$Text;)Z" } : Jvm.MethodName)) ∈ tW := tW_t (i := 660) (by decide +kernel) rfl
theorem w_662 : (Jvm.Cond.methodLink "RoadOfDoors$Rules" (89 : Nat) ({ cls := "RoadOfDoors$Rules", name := "joined", desc := "(III)I" } : Jvm.MethodName)) ∈ tW := tW_t (i := 662) (by decide +kernel) rfl
theorem w_663 : (Jvm.Cond.static ({ cls := "RoadOfDoors$Rules", name := "joined", desc := "(III)I" } : Jvm.MethodName)) ∈ tW := tW_t (i := 663) (by decide +kernel) rfl
theorem w_665 : (Jvm.Cond.constantLong "RoadOfDoors$Rules" (92 : Nat) (1000000 : Int64)) ∈ tW := tW_t (i := 665) (by decide +kernel) rfl
theorem w_666 : (Jvm.Cond.constant "RoadOfDoors$Rules" (94 : Nat) (1000000 : Int32)) ∈ tW := tW_t (i := 666) (by decide +kernel) rfl
theorem w_667 : (Jvm.Cond.constantLong "RoadOfDoors$Rules" (95 : Nat) (-1000000 : Int64)) ∈ tW := tW_t (i := 667) (by decide +kernel) rfl
theorem w_668 : (Jvm.Cond.constant "RoadOfDoors$Rules" (97 : Nat) (-1000000 : Int32)) ∈ tW := tW_t (i := 668) (by decide +kernel) rfl
theorem w_673 : (Jvm.Cond.methodLink "RoadOfDoors" (141 : Nat) ({ cls := "RoadOfDoors", name := "isTraveller", desc := "(IIII)Z" } : Jvm.MethodName)) ∈ tW := tW_t (i := 673) (by decide +kernel) rfl
theorem w_675 : (Jvm.Cond.instanceMethod ({ cls := "RoadOfDoors", name := "isTraveller", desc := "(IIII)Z" } : Jvm.MethodName)) ∈ tW := tW_t (i := 675) (by decide +kernel) rfl
theorem w_677 : (Jvm.Cond.methodLink "RoadOfDoors" (149 : Nat) ({ cls := "RoadOfDoors$Traveller", name := "starts", desc := "(IIII)V" } : Jvm.MethodName)) ∈ tW := tW_t (i := 677) (by decide +kernel) rfl
theorem w_678 : (Jvm.Cond.instanceMethod ({ cls := "RoadOfDoors$Traveller", name := "starts", desc := "(IIII)V" } : Jvm.MethodName)) ∈ tW := tW_t (i := 678) (by decide +kernel) rfl
theorem w_679 : (Jvm.Cond.selects "RoadOfDoors$Traveller" ({ cls := "RoadOfDoors$Traveller", name := "starts", desc := "(IIII)V" } : Jvm.MethodName) ({ cls := "RoadOfDoors$Traveller", name := "starts", desc := "(IIII)V" } : Jvm.MethodName)) ∈ tW := tW_t (i := 679) (by decide +kernel) rfl
theorem w_685 : (Jvm.Cond.methodLink "RoadOfDoors" (155 : Nat) ({ cls := "RoadOfDoors", name := "canKnock", desc := "(II)Z" } : Jvm.MethodName)) ∈ tW := tW_t (i := 685) (by decide +kernel) rfl
theorem w_687 : (Jvm.Cond.instanceMethod ({ cls := "RoadOfDoors", name := "canKnock", desc := "(II)Z" } : Jvm.MethodName)) ∈ tW := tW_t (i := 687) (by decide +kernel) rfl
theorem w_689 : (Jvm.Cond.methodLink "RoadOfDoors" (159 : Nat) ({ cls := "RoadOfDoors", name := "knocked", desc := "(II)Z" } : Jvm.MethodName)) ∈ tW := tW_t (i := 689) (by decide +kernel) rfl
theorem w_691 : (Jvm.Cond.instanceMethod ({ cls := "RoadOfDoors", name := "knocked", desc := "(II)Z" } : Jvm.MethodName)) ∈ tW := tW_t (i := 691) (by decide +kernel) rfl
theorem w_693 : (Jvm.Cond.methodLink "RoadOfDoors" (204 : Nat) ({ cls := "RoadOfDoors", name := "hasKey", desc := "(II)Z" } : Jvm.MethodName)) ∈ tW := tW_t (i := 693) (by decide +kernel) rfl
theorem w_694 : (Jvm.Cond.static ({ cls := "RoadOfDoors", name := "hasKey", desc := "(II)Z" } : Jvm.MethodName)) ∈ tW := tW_t (i := 694) (by decide +kernel) rfl
theorem w_696 : (Jvm.Cond.methodLink "RoadOfDoors" (264 : Nat) ({ cls := "RoadOfDoors$Traveller", name := "keepsStep", desc := "()V" } : Jvm.MethodName)) ∈ tW := tW_t (i := 696) (by decide +kernel) rfl
theorem w_697 : (Jvm.Cond.instanceMethod ({ cls := "RoadOfDoors$Traveller", name := "keepsStep", desc := "()V" } : Jvm.MethodName)) ∈ tW := tW_t (i := 697) (by decide +kernel) rfl
theorem w_698 : (Jvm.Cond.selects "RoadOfDoors$Traveller" ({ cls := "RoadOfDoors$Traveller", name := "keepsStep", desc := "()V" } : Jvm.MethodName) ({ cls := "RoadOfDoors$Traveller", name := "keepsStep", desc := "()V" } : Jvm.MethodName)) ∈ tW := tW_t (i := 698) (by decide +kernel) rfl
theorem w_700 : (Jvm.Cond.methodLink "RoadOfDoors$Traveller" (43 : Nat) ({ cls := "java/lang/System", name := "arraycopy", desc := "(Ljava/lang/Object;ILjava/lang/Object;II)V" } : Jvm.MethodName)) ∈ tW := tW_t (i := 700) (by decide +kernel) rfl
theorem w_701 : (Jvm.Cond.static ({ cls := "java/lang/System", name := "arraycopy", desc := "(Ljava/lang/Object;ILjava/lang/Object;II)V" } : Jvm.MethodName)) ∈ tW := tW_t (i := 701) (by decide +kernel) rfl
theorem w_702 : (Jvm.Cond.native ({ cls := "java/lang/System", name := "arraycopy", desc := "(Ljava/lang/Object;ILjava/lang/Object;II)V" } : Jvm.MethodName)) ∈ tW := tW_t (i := 702) (by decide +kernel) rfl
theorem w_703 : (Jvm.Cond.methodLink "RoadOfDoors" (267 : Nat) ({ cls := "RoadOfDoors$Traveller", name := "hourGoes", desc := "()V" } : Jvm.MethodName)) ∈ tW := tW_t (i := 703) (by decide +kernel) rfl
theorem w_704 : (Jvm.Cond.instanceMethod ({ cls := "RoadOfDoors$Traveller", name := "hourGoes", desc := "()V" } : Jvm.MethodName)) ∈ tW := tW_t (i := 704) (by decide +kernel) rfl
theorem w_705 : (Jvm.Cond.selects "RoadOfDoors$Traveller" ({ cls := "RoadOfDoors$Traveller", name := "hourGoes", desc := "()V" } : Jvm.MethodName) ({ cls := "RoadOfDoors$Traveller", name := "hourGoes", desc := "()V" } : Jvm.MethodName)) ∈ tW := tW_t (i := 705) (by decide +kernel) rfl
theorem w_707 : (Jvm.Cond.methodLink "RoadOfDoors" (270 : Nat) ({ cls := "RoadOfDoors$Traveller", name := "stays", desc := "()V" } : Jvm.MethodName)) ∈ tW := tW_t (i := 707) (by decide +kernel) rfl
theorem w_708 : (Jvm.Cond.instanceMethod ({ cls := "RoadOfDoors$Traveller", name := "stays", desc := "()V" } : Jvm.MethodName)) ∈ tW := tW_t (i := 708) (by decide +kernel) rfl
theorem w_709 : (Jvm.Cond.selects "RoadOfDoors$Traveller" ({ cls := "RoadOfDoors$Traveller", name := "stays", desc := "()V" } : Jvm.MethodName) ({ cls := "RoadOfDoors$Traveller", name := "stays", desc := "()V" } : Jvm.MethodName)) ∈ tW := tW_t (i := 709) (by decide +kernel) rfl
theorem w_711 : (Jvm.Cond.methodLink "RoadOfDoors$Traveller" (37 : Nat) ({ cls := "java/lang/Math", name := "min", desc := "(II)I" } : Jvm.MethodName)) ∈ tW := tW_t (i := 711) (by decide +kernel) rfl
theorem w_716 : (Jvm.Cond.methodLink "RoadOfDoors" (162 : Nat) ({ cls := "RoadOfDoors", name := "canWait", desc := "(I)Z" } : Jvm.MethodName)) ∈ tW := tW_t (i := 716) (by decide +kernel) rfl
theorem w_718 : (Jvm.Cond.instanceMethod ({ cls := "RoadOfDoors", name := "canWait", desc := "(I)Z" } : Jvm.MethodName)) ∈ tW := tW_t (i := 718) (by decide +kernel) rfl
theorem w_720 : (Jvm.Cond.methodLink "RoadOfDoors" (165 : Nat) ({ cls := "RoadOfDoors", name := "waited", desc := "(I)V" } : Jvm.MethodName)) ∈ tW := tW_t (i := 720) (by decide +kernel) rfl
theorem w_722 : (Jvm.Cond.instanceMethod ({ cls := "RoadOfDoors", name := "waited", desc := "(I)V" } : Jvm.MethodName)) ∈ tW := tW_t (i := 722) (by decide +kernel) rfl
theorem w_728 : (Jvm.Cond.methodLink "RoadOfDoors" (180 : Nat) ({ cls := "RoadOfDoors", name := "clauseDone", desc := "(II)Z" } : Jvm.MethodName)) ∈ tW := tW_t (i := 728) (by decide +kernel) rfl
theorem w_730 : (Jvm.Cond.instanceMethod ({ cls := "RoadOfDoors", name := "clauseDone", desc := "(II)Z" } : Jvm.MethodName)) ∈ tW := tW_t (i := 730) (by decide +kernel) rfl
theorem w_736 : (Jvm.Cond.methodLink "RoadOfDoors" (183 : Nat) ({ cls := "RoadOfDoors$Traveller", name := "stepsBack", desc := "()Z" } : Jvm.MethodName)) ∈ tW := tW_t (i := 736) (by decide +kernel) rfl
theorem w_737 : (Jvm.Cond.instanceMethod ({ cls := "RoadOfDoors$Traveller", name := "stepsBack", desc := "()Z" } : Jvm.MethodName)) ∈ tW := tW_t (i := 737) (by decide +kernel) rfl
theorem w_738 : (Jvm.Cond.selects "RoadOfDoors$Traveller" ({ cls := "RoadOfDoors$Traveller", name := "stepsBack", desc := "()Z" } : Jvm.MethodName) ({ cls := "RoadOfDoors$Traveller", name := "stepsBack", desc := "()Z" } : Jvm.MethodName)) ∈ tW := tW_t (i := 738) (by decide +kernel) rfl
theorem w_749 : (Jvm.Cond.methodLink "RoadOfDoors" (207 : Nat) ({ cls := "RoadOfDoors$Rules", name := "learn", desc := "(III)V" } : Jvm.MethodName)) ∈ tW := tW_t (i := 749) (by decide +kernel) rfl
theorem w_750 : (Jvm.Cond.instanceMethod ({ cls := "RoadOfDoors$Rules", name := "learn", desc := "(III)V" } : Jvm.MethodName)) ∈ tW := tW_t (i := 750) (by decide +kernel) rfl
theorem w_751 : (Jvm.Cond.selects "RoadOfDoors$Rules" ({ cls := "RoadOfDoors$Rules", name := "learn", desc := "(III)V" } : Jvm.MethodName) ({ cls := "RoadOfDoors$Rules", name := "learn", desc := "(III)V" } : Jvm.MethodName)) ∈ tW := tW_t (i := 751) (by decide +kernel) rfl
theorem w_753 : (Jvm.Cond.methodLink "RoadOfDoors$Rules" (63 : Nat) ({ cls := "java/util/Arrays", name := "fill", desc := "([JJ)V" } : Jvm.MethodName)) ∈ tW := tW_t (i := 753) (by decide +kernel) rfl
theorem w_754 : (Jvm.Cond.static ({ cls := "java/util/Arrays", name := "fill", desc := "([JJ)V" } : Jvm.MethodName)) ∈ tW := tW_t (i := 754) (by decide +kernel) rfl
theorem w_756 : (Jvm.Cond.methodLink "RoadOfDoors$Rules" (69 : Nat) ({ cls := "RoadOfDoors$Rules", name := "placeOf", desc := "(III)I" } : Jvm.MethodName)) ∈ tW := tW_t (i := 756) (by decide +kernel) rfl
theorem w_757 : (Jvm.Cond.instanceMethod ({ cls := "RoadOfDoors$Rules", name := "placeOf", desc := "(III)I" } : Jvm.MethodName)) ∈ tW := tW_t (i := 757) (by decide +kernel) rfl
theorem w_758 : (Jvm.Cond.selects "RoadOfDoors$Rules" ({ cls := "RoadOfDoors$Rules", name := "placeOf", desc := "(III)I" } : Jvm.MethodName) ({ cls := "RoadOfDoors$Rules", name := "placeOf", desc := "(III)I" } : Jvm.MethodName)) ∈ tW := tW_t (i := 758) (by decide +kernel) rfl
theorem w_760 : (Jvm.Cond.methodLink "RoadOfDoors$Rules" (73 : Nat) ({ cls := "RoadOfDoors$Rules", name := "searched", desc := "(LRoadOfDoors$Text;)J" } : Jvm.MethodName)) ∈ tW := tW_t (i := 760) (by decide +kernel) rfl
theorem w_762 : (Jvm.Cond.instanceMethod ({ cls := "RoadOfDoors$Rules", name := "searched", desc := "(LRoadOfDoors$Text;)J" } : Jvm.MethodName)) ∈ tW := tW_t (i := 762) (by decide +kernel) rfl
theorem w_764 : (Jvm.Cond.methodLink "RoadOfDoors" (211 : Nat) ({ cls := "RoadOfDoors$Ways", name := "findSoonest", desc := "([IIIIII)Z" } : Jvm.MethodName)) ∈ tW := tW_t (i := 764) (by decide +kernel) rfl
theorem w_765 : (Jvm.Cond.instanceMethod ({ cls := "RoadOfDoors$Ways", name := "findSoonest", desc := "([IIIIII)Z" } : Jvm.MethodName)) ∈ tW := tW_t (i := 765) (by decide +kernel) rfl
theorem w_766 : (Jvm.Cond.selects "RoadOfDoors$Ways" ({ cls := "RoadOfDoors$Ways", name := "findSoonest", desc := "([IIIIII)Z" } : Jvm.MethodName) ({ cls := "RoadOfDoors$Ways", name := "findSoonest", desc := "([IIIIII)Z" } : Jvm.MethodName)) ∈ tW := tW_t (i := 766) (by decide +kernel) rfl
theorem w_768 : (Jvm.Cond.methodLink "RoadOfDoors$Ways" (58 : Nat) ({ cls := "RoadOfDoors$Ways", name := "findCheapest", desc := "([IIIIII)Z" } : Jvm.MethodName)) ∈ tW := tW_t (i := 768) (by decide +kernel) rfl
theorem w_769 : (Jvm.Cond.instanceMethod ({ cls := "RoadOfDoors$Ways", name := "findCheapest", desc := "([IIIIII)Z" } : Jvm.MethodName)) ∈ tW := tW_t (i := 769) (by decide +kernel) rfl
theorem w_770 : (Jvm.Cond.selects "RoadOfDoors$Ways" ({ cls := "RoadOfDoors$Ways", name := "findCheapest", desc := "([IIIIII)Z" } : Jvm.MethodName) ({ cls := "RoadOfDoors$Ways", name := "findCheapest", desc := "([IIIIII)Z" } : Jvm.MethodName)) ∈ tW := tW_t (i := 770) (by decide +kernel) rfl
theorem w_772 : (Jvm.Cond.methodLink "RoadOfDoors$Ways" (42 : Nat) ({ cls := "RoadOfDoors$Ways", name := "canPass", desc := "([III)Z" } : Jvm.MethodName)) ∈ tW := tW_t (i := 772) (by decide +kernel) rfl
theorem w_774 : (Jvm.Cond.instanceMethod ({ cls := "RoadOfDoors$Ways", name := "canPass", desc := "([III)Z" } : Jvm.MethodName)) ∈ tW := tW_t (i := 774) (by decide +kernel) rfl
theorem w_777 : (Jvm.Cond.methodLink "RoadOfDoors$Ways" (72 : Nat) ({ cls := "RoadOfDoors$Rules", name := "isOpening", desc := "(I)Z" } : Jvm.MethodName)) ∈ tW := tW_t (i := 777) (by decide +kernel) rfl
theorem w_778 : (Jvm.Cond.methodLink "RoadOfDoors$Ways" (78 : Nat) ({ cls := "RoadOfDoors$Rules", name := "placeOf", desc := "(III)I" } : Jvm.MethodName)) ∈ tW := tW_t (i := 778) (by decide +kernel) rfl
theorem w_779 : (Jvm.Cond.methodLink "RoadOfDoors$Ways" (82 : Nat) ({ cls := "RoadOfDoors$Rules", name := "looksAtWaited", desc := "(I)Z" } : Jvm.MethodName)) ∈ tW := tW_t (i := 779) (by decide +kernel) rfl
theorem w_780 : (Jvm.Cond.instanceMethod ({ cls := "RoadOfDoors$Rules", name := "looksAtWaited", desc := "(I)Z" } : Jvm.MethodName)) ∈ tW := tW_t (i := 780) (by decide +kernel) rfl
theorem w_781 : (Jvm.Cond.selects "RoadOfDoors$Rules" ({ cls := "RoadOfDoors$Rules", name := "looksAtWaited", desc := "(I)Z" } : Jvm.MethodName) ({ cls := "RoadOfDoors$Rules", name := "looksAtWaited", desc := "(I)Z" } : Jvm.MethodName)) ∈ tW := tW_t (i := 781) (by decide +kernel) rfl
theorem w_783 : (Jvm.Cond.methodLink "RoadOfDoors$Ways" (49 : Nat) ({ cls := "RoadOfDoors$Ways", name := "cheapest", desc := "(I)I" } : Jvm.MethodName)) ∈ tW := tW_t (i := 783) (by decide +kernel) rfl
theorem w_785 : (Jvm.Cond.instanceMethod ({ cls := "RoadOfDoors$Ways", name := "cheapest", desc := "(I)I" } : Jvm.MethodName)) ∈ tW := tW_t (i := 785) (by decide +kernel) rfl
theorem w_787 : (Jvm.Cond.constant "RoadOfDoors$Ways" (53 : Nat) (1048576 : Int32)) ∈ tW := tW_t (i := 787) (by decide +kernel) rfl
theorem w_788 : (Jvm.Cond.methodLink "RoadOfDoors$Ways" (85 : Nat) ({ cls := "java/util/Arrays", name := "fill", desc := "([IIII)V" } : Jvm.MethodName)) ∈ tW := tW_t (i := 788) (by decide +kernel) rfl
theorem w_789 : (Jvm.Cond.static ({ cls := "java/util/Arrays", name := "fill", desc := "([IIII)V" } : Jvm.MethodName)) ∈ tW := tW_t (i := 789) (by decide +kernel) rfl
theorem w_791 : (Jvm.Cond.methodLink "java/util/Arrays" (13 : Nat) ({ cls := "java/util/Arrays", name := "rangeCheck", desc := "(III)V" } : Jvm.MethodName)) ∈ tW := tW_t (i := 791) (by decide +kernel) rfl
theorem w_792 : (Jvm.Cond.static ({ cls := "java/util/Arrays", name := "rangeCheck", desc := "(III)V" } : Jvm.MethodName)) ∈ tW := tW_t (i := 792) (by decide +kernel) rfl
theorem w_794 : (Jvm.Cond.methodLink "RoadOfDoors$Ways" (91 : Nat) ({ cls := "java/lang/Math", name := "min", desc := "(II)I" } : Jvm.MethodName)) ∈ tW := tW_t (i := 794) (by decide +kernel) rfl
theorem w_795 : (Jvm.Cond.methodLink "RoadOfDoors$Ways" (97 : Nat) ({ cls := "RoadOfDoors$Rules", name := "leastsAt", desc := "(II)J" } : Jvm.MethodName)) ∈ tW := tW_t (i := 795) (by decide +kernel) rfl
theorem w_796 : (Jvm.Cond.instanceMethod ({ cls := "RoadOfDoors$Rules", name := "leastsAt", desc := "(II)J" } : Jvm.MethodName)) ∈ tW := tW_t (i := 796) (by decide +kernel) rfl
theorem w_797 : (Jvm.Cond.selects "RoadOfDoors$Rules" ({ cls := "RoadOfDoors$Rules", name := "leastsAt", desc := "(II)J" } : Jvm.MethodName) ({ cls := "RoadOfDoors$Rules", name := "leastsAt", desc := "(II)J" } : Jvm.MethodName)) ∈ tW := tW_t (i := 797) (by decide +kernel) rfl
theorem w_799 : (Jvm.Cond.methodLink "RoadOfDoors$Ways" (101 : Nat) ({ cls := "RoadOfDoors$Ways", name := "choose", desc := "(IIJ)V" } : Jvm.MethodName)) ∈ tW := tW_t (i := 799) (by decide +kernel) rfl
theorem w_801 : (Jvm.Cond.instanceMethod ({ cls := "RoadOfDoors$Ways", name := "choose", desc := "(IIJ)V" } : Jvm.MethodName)) ∈ tW := tW_t (i := 801) (by decide +kernel) rfl
theorem w_803 : (Jvm.Cond.methodLink "RoadOfDoors$Ways" (54 : Nat) ({ cls := "RoadOfDoors$Ways", name := "walk", desc := "(I)V" } : Jvm.MethodName)) ∈ tW := tW_t (i := 803) (by decide +kernel) rfl
theorem w_805 : (Jvm.Cond.instanceMethod ({ cls := "RoadOfDoors$Ways", name := "walk", desc := "(I)V" } : Jvm.MethodName)) ∈ tW := tW_t (i := 805) (by decide +kernel) rfl
theorem w_807 : (Jvm.Cond.methodLink "RoadOfDoors$Ways" (111 : Nat) ({ cls := "java/util/Arrays", name := "fill", desc := "([II)V" } : Jvm.MethodName)) ∈ tW := tW_t (i := 807) (by decide +kernel) rfl
theorem w_808 : (Jvm.Cond.static ({ cls := "java/util/Arrays", name := "fill", desc := "([II)V" } : Jvm.MethodName)) ∈ tW := tW_t (i := 808) (by decide +kernel) rfl
theorem w_810 : (Jvm.Cond.methodLink "RoadOfDoors" (215 : Nat) ({ cls := "RoadOfDoors$Ways", name := "findCheapest", desc := "([IIIIII)Z" } : Jvm.MethodName)) ∈ tW := tW_t (i := 810) (by decide +kernel) rfl
theorem w_815 : (Jvm.Cond.methodLink "RoadOfDoors" (230 : Nat) ({ cls := "RoadOfDoors$Road", name := "addGuest", desc := "(IIII)V" } : Jvm.MethodName)) ∈ tW := tW_t (i := 815) (by decide +kernel) rfl
theorem w_816 : (Jvm.Cond.instanceMethod ({ cls := "RoadOfDoors$Road", name := "addGuest", desc := "(IIII)V" } : Jvm.MethodName)) ∈ tW := tW_t (i := 816) (by decide +kernel) rfl
theorem w_817 : (Jvm.Cond.selects "RoadOfDoors$Road" ({ cls := "RoadOfDoors$Road", name := "addGuest", desc := "(IIII)V" } : Jvm.MethodName) ({ cls := "RoadOfDoors$Road", name := "addGuest", desc := "(IIII)V" } : Jvm.MethodName)) ∈ tW := tW_t (i := 817) (by decide +kernel) rfl
theorem w_828 : (Jvm.Cond.methodLink "RoadOfDoors" (233 : Nat) ({ cls := "RoadOfDoors$Earnings", name := "earnedNow", desc := "(I)I" } : Jvm.MethodName)) ∈ tW := tW_t (i := 828) (by decide +kernel) rfl
theorem w_829 : (Jvm.Cond.instanceMethod ({ cls := "RoadOfDoors$Earnings", name := "earnedNow", desc := "(I)I" } : Jvm.MethodName)) ∈ tW := tW_t (i := 829) (by decide +kernel) rfl
theorem w_830 : (Jvm.Cond.selects "RoadOfDoors$Earnings" ({ cls := "RoadOfDoors$Earnings", name := "earnedNow", desc := "(I)I" } : Jvm.MethodName) ({ cls := "RoadOfDoors$Earnings", name := "earnedNow", desc := "(I)I" } : Jvm.MethodName)) ∈ tW := tW_t (i := 830) (by decide +kernel) rfl
theorem w_832 : (Jvm.Cond.methodLink "RoadOfDoors$Earnings" (38 : Nat) ({ cls := "RoadOfDoors$Earnings", name := "startTrial", desc := "(Z)V" } : Jvm.MethodName)) ∈ tW := tW_t (i := 832) (by decide +kernel) rfl
theorem w_834 : (Jvm.Cond.instanceMethod ({ cls := "RoadOfDoors$Earnings", name := "startTrial", desc := "(Z)V" } : Jvm.MethodName)) ∈ tW := tW_t (i := 834) (by decide +kernel) rfl
theorem w_836 : (Jvm.Cond.methodLink "RoadOfDoors$Earnings" (65 : Nat) ({ cls := "java/lang/System", name := "arraycopy", desc := "(Ljava/lang/Object;ILjava/lang/Object;II)V" } : Jvm.MethodName)) ∈ tW := tW_t (i := 836) (by decide +kernel) rfl
theorem w_838 : (Jvm.Cond.methodLink "RoadOfDoors$Earnings" (88 : Nat) ({ cls := "RoadOfDoors$Rules", name := "learn", desc := "(III)V" } : Jvm.MethodName)) ∈ tW := tW_t (i := 838) (by decide +kernel) rfl
theorem w_839 : (Jvm.Cond.methodLink "RoadOfDoors$Earnings" (42 : Nat) ({ cls := "RoadOfDoors$Earnings", name := "earned", desc := "(I)I" } : Jvm.MethodName)) ∈ tW := tW_t (i := 839) (by decide +kernel) rfl
theorem w_841 : (Jvm.Cond.instanceMethod ({ cls := "RoadOfDoors$Earnings", name := "earned", desc := "(I)I" } : Jvm.MethodName)) ∈ tW := tW_t (i := 841) (by decide +kernel) rfl
theorem w_843 : (Jvm.Cond.methodLink "RoadOfDoors$Earnings" (94 : Nat) ({ cls := "RoadOfDoors$Rules", name := "isOpening", desc := "(I)Z" } : Jvm.MethodName)) ∈ tW := tW_t (i := 843) (by decide +kernel) rfl
theorem w_844 : (Jvm.Cond.methodLink "RoadOfDoors$Earnings" (97 : Nat) ({ cls := "RoadOfDoors$Ways", name := "findCheapest", desc := "([IIIIII)Z" } : Jvm.MethodName)) ∈ tW := tW_t (i := 844) (by decide +kernel) rfl
theorem w_849 : (Jvm.Cond.methodLink "RoadOfDoors" (237 : Nat) ({ cls := "RoadOfDoors$Earnings", name := "firstUneven", desc := "()I" } : Jvm.MethodName)) ∈ tW := tW_t (i := 849) (by decide +kernel) rfl
theorem w_850 : (Jvm.Cond.instanceMethod ({ cls := "RoadOfDoors$Earnings", name := "firstUneven", desc := "()I" } : Jvm.MethodName)) ∈ tW := tW_t (i := 850) (by decide +kernel) rfl
theorem w_851 : (Jvm.Cond.selects "RoadOfDoors$Earnings" ({ cls := "RoadOfDoors$Earnings", name := "firstUneven", desc := "()I" } : Jvm.MethodName) ({ cls := "RoadOfDoors$Earnings", name := "firstUneven", desc := "()I" } : Jvm.MethodName)) ∈ tW := tW_t (i := 851) (by decide +kernel) rfl
theorem w_853 : (Jvm.Cond.methodLink "RoadOfDoors$Earnings" (46 : Nat) ({ cls := "RoadOfDoors$Earnings", name := "bestRule", desc := "(I)I" } : Jvm.MethodName)) ∈ tW := tW_t (i := 853) (by decide +kernel) rfl
theorem w_855 : (Jvm.Cond.instanceMethod ({ cls := "RoadOfDoors$Earnings", name := "bestRule", desc := "(I)I" } : Jvm.MethodName)) ∈ tW := tW_t (i := 855) (by decide +kernel) rfl
theorem w_861 : (Jvm.Cond.methodLink "RoadOfDoors" (241 : Nat) ({ cls := "RoadOfDoors$Earnings", name := "roundsChanged", desc := "()I" } : Jvm.MethodName)) ∈ tW := tW_t (i := 861) (by decide +kernel) rfl
theorem w_862 : (Jvm.Cond.instanceMethod ({ cls := "RoadOfDoors$Earnings", name := "roundsChanged", desc := "()I" } : Jvm.MethodName)) ∈ tW := tW_t (i := 862) (by decide +kernel) rfl
theorem w_863 : (Jvm.Cond.selects "RoadOfDoors$Earnings" ({ cls := "RoadOfDoors$Earnings", name := "roundsChanged", desc := "()I" } : Jvm.MethodName) ({ cls := "RoadOfDoors$Earnings", name := "roundsChanged", desc := "()I" } : Jvm.MethodName)) ∈ tW := tW_t (i := 863) (by decide +kernel) rfl
theorem w_865 : (Jvm.Cond.methodLink "RoadOfDoors$Earnings" (52 : Nat) ({ cls := "RoadOfDoors$Earnings", name := "trialNumber", desc := "()I" } : Jvm.MethodName)) ∈ tW := tW_t (i := 865) (by decide +kernel) rfl
theorem w_867 : (Jvm.Cond.instanceMethod ({ cls := "RoadOfDoors$Earnings", name := "trialNumber", desc := "()I" } : Jvm.MethodName)) ∈ tW := tW_t (i := 867) (by decide +kernel) rfl
theorem w_869 : (Jvm.Cond.methodLink "RoadOfDoors$Earnings" (56 : Nat) ({ cls := "RoadOfDoors$Earnings", name := "isPast", desc := "(I)Z" } : Jvm.MethodName)) ∈ tW := tW_t (i := 869) (by decide +kernel) rfl
theorem w_871 : (Jvm.Cond.instanceMethod ({ cls := "RoadOfDoors$Earnings", name := "isPast", desc := "(I)Z" } : Jvm.MethodName)) ∈ tW := tW_t (i := 871) (by decide +kernel) rfl
theorem w_881 : (Jvm.Cond.methodLink "RoadOfDoors" (253 : Nat) ({ cls := "RoadOfDoors", name := "agrees", desc := "(III)Z" } : Jvm.MethodName)) ∈ tW := tW_t (i := 881) (by decide +kernel) rfl
theorem w_883 : (Jvm.Cond.instanceMethod ({ cls := "RoadOfDoors", name := "agrees", desc := "(III)Z" } : Jvm.MethodName)) ∈ tW := tW_t (i := 883) (by decide +kernel) rfl
theorem w_889 : (Jvm.Cond.methodLink "RoadOfDoors" (256 : Nat) ({ cls := "RoadOfDoors$Road", name := "becomes", desc := "(LRoadOfDoors$Road;)V" } : Jvm.MethodName)) ∈ tW := tW_t (i := 889) (by decide +kernel) rfl
theorem w_890 : (Jvm.Cond.instanceMethod ({ cls := "RoadOfDoors$Road", name := "becomes", desc := "(LRoadOfDoors$Road;)V" } : Jvm.MethodName)) ∈ tW := tW_t (i := 890) (by decide +kernel) rfl
theorem w_891 : (Jvm.Cond.selects "RoadOfDoors$Road" ({ cls := "RoadOfDoors$Road", name := "becomes", desc := "(LRoadOfDoors$Road;)V" } : Jvm.MethodName) ({ cls := "RoadOfDoors$Road", name := "becomes", desc := "(LRoadOfDoors$Road;)V" } : Jvm.MethodName)) ∈ tW := tW_t (i := 891) (by decide +kernel) rfl
theorem w_893 : (Jvm.Cond.methodLink "RoadOfDoors$Road" (46 : Nat) ({ cls := "java/lang/System", name := "arraycopy", desc := "(Ljava/lang/Object;ILjava/lang/Object;II)V" } : Jvm.MethodName)) ∈ tW := tW_t (i := 893) (by decide +kernel) rfl
theorem w_894 : (Jvm.Cond.methodLink "RoadOfDoors$Road" (52 : Nat) ({ cls := "RoadOfDoors$Traveller", name := "becomes", desc := "(LRoadOfDoors$Traveller;)V" } : Jvm.MethodName)) ∈ tW := tW_t (i := 894) (by decide +kernel) rfl
theorem w_895 : (Jvm.Cond.instanceMethod ({ cls := "RoadOfDoors$Traveller", name := "becomes", desc := "(LRoadOfDoors$Traveller;)V" } : Jvm.MethodName)) ∈ tW := tW_t (i := 895) (by decide +kernel) rfl
theorem w_896 : (Jvm.Cond.selects "RoadOfDoors$Traveller" ({ cls := "RoadOfDoors$Traveller", name := "becomes", desc := "(LRoadOfDoors$Traveller;)V" } : Jvm.MethodName) ({ cls := "RoadOfDoors$Traveller", name := "becomes", desc := "(LRoadOfDoors$Traveller;)V" } : Jvm.MethodName)) ∈ tW := tW_t (i := 896) (by decide +kernel) rfl
theorem w_906 : (Jvm.Cond.methodLink "RoadOfDoors" (260 : Nat) ({ cls := "RoadOfDoors", name := "aboutPart", desc := "(I)I" } : Jvm.MethodName)) ∈ tW := tW_t (i := 906) (by decide +kernel) rfl
theorem w_908 : (Jvm.Cond.instanceMethod ({ cls := "RoadOfDoors", name := "aboutPart", desc := "(I)I" } : Jvm.MethodName)) ∈ tW := tW_t (i := 908) (by decide +kernel) rfl
theorem w_920 : (Jvm.Cond.methodLink "RoadOfDoorsModel" (65 : Nat) ({ cls := "RoadOfDoorsModel", name := "copy", desc := "([I[I)V" } : Jvm.MethodName)) ∈ tW := tW_t (i := 920) (by decide +kernel) rfl
theorem w_921 : (Jvm.Cond.static ({ cls := "RoadOfDoorsModel", name := "copy", desc := "([I[I)V" } : Jvm.MethodName)) ∈ tW := tW_t (i := 921) (by decide +kernel) rfl
theorem w_923 : (Jvm.Cond.fieldLink "RoadOfDoorsModel" (7 : Nat) "RoadOfDoorsModel" "a" "[I") ∈ tW := tW_t (i := 923) (by decide +kernel) rfl
theorem w_924 : (Jvm.Cond.fieldLink "RoadOfDoorsModel" (13 : Nat) "RoadOfDoorsModel" "image" "[I") ∈ tW := tW_t (i := 924) (by decide +kernel) rfl
theorem w_925 : (Jvm.Cond.fieldLink "RoadOfDoorsModel" (62 : Nat) "RoadOfDoorsModel" "doors" "I") ∈ tW := tW_t (i := 925) (by decide +kernel) rfl
theorem w_926 : (Jvm.Cond.fieldLink "RoadOfDoorsModel" (16 : Nat) "RoadOfDoorsModel" "texts" "[I") ∈ tW := tW_t (i := 926) (by decide +kernel) rfl
theorem w_927 : (Jvm.Cond.fieldLink "RoadOfDoorsModel" (19 : Nat) "RoadOfDoorsModel" "tape" "[I") ∈ tW := tW_t (i := 927) (by decide +kernel) rfl
theorem w_928 : (Jvm.Cond.fieldLink "RoadOfDoorsModel" (80 : Nat) "RoadOfDoorsModel" "taped" "I") ∈ tW := tW_t (i := 928) (by decide +kernel) rfl
theorem w_929 : (Jvm.Cond.fieldLink "RoadOfDoorsModel" (22 : Nat) "RoadOfDoorsModel" "fault" "I") ∈ tW := tW_t (i := 929) (by decide +kernel) rfl
theorem w_930 : (Jvm.Cond.fieldLink "RoadOfDoorsModel" (26 : Nat) "RoadOfDoorsModel" "faultPlace" "I") ∈ tW := tW_t (i := 930) (by decide +kernel) rfl
theorem w_931 : (Jvm.Cond.fieldLink "RoadOfDoorsModel" (87 : Nat) "RoadOfDoorsModel" "at" "I") ∈ tW := tW_t (i := 931) (by decide +kernel) rfl
theorem w_932 : (Jvm.Cond.fieldLink "RoadOfDoorsModel" (94 : Nat) "RoadOfDoorsModel" "place" "I") ∈ tW := tW_t (i := 932) (by decide +kernel) rfl
theorem w_933 : (Jvm.Cond.fieldLink "RoadOfDoorsModel" (97 : Nat) "RoadOfDoorsModel" "token" "I") ∈ tW := tW_t (i := 933) (by decide +kernel) rfl
theorem w_934 : (Jvm.Cond.fieldLink "RoadOfDoorsModel" (103 : Nat) "RoadOfDoorsModel" "number" "I") ∈ tW := tW_t (i := 934) (by decide +kernel) rfl
theorem w_935 : (Jvm.Cond.fieldLink "RoadOfDoorsModel" (110 : Nat) "RoadOfDoorsModel" "word" "J") ∈ tW := tW_t (i := 935) (by decide +kernel) rfl
theorem w_936 : (Jvm.Cond.fieldLink "RoadOfDoorsModel" (122 : Nat) "RoadOfDoorsModel" "text0" "I") ∈ tW := tW_t (i := 936) (by decide +kernel) rfl
theorem w_937 : (Jvm.Cond.fieldLink "RoadOfDoorsModel" (125 : Nat) "RoadOfDoorsModel" "written" "I") ∈ tW := tW_t (i := 937) (by decide +kernel) rfl
theorem w_938 : (Jvm.Cond.fieldLink "RoadOfDoorsModel" (29 : Nat) "RoadOfDoorsModel" "pile" "[I") ∈ tW := tW_t (i := 938) (by decide +kernel) rfl
theorem w_939 : (Jvm.Cond.fieldLink "RoadOfDoorsModel" (128 : Nat) "RoadOfDoorsModel" "piled" "I") ∈ tW := tW_t (i := 939) (by decide +kernel) rfl
theorem w_940 : (Jvm.Cond.fieldLink "RoadOfDoorsModel" (135 : Nat) "RoadOfDoorsModel" "opens" "I") ∈ tW := tW_t (i := 940) (by decide +kernel) rfl
theorem w_941 : (Jvm.Cond.fieldLink "RoadOfDoorsModel" (131 : Nat) "RoadOfDoorsModel" "isWhole" "Z") ∈ tW := tW_t (i := 941) (by decide +kernel) rfl
theorem w_942 : (Jvm.Cond.fieldLink "RoadOfDoorsModel" (201 : Nat) "RoadOfDoorsModel" "once" "Z") ∈ tW := tW_t (i := 942) (by decide +kernel) rfl
theorem w_943 : (Jvm.Cond.fieldLink "RoadOfDoorsModel" (32 : Nat) "RoadOfDoorsModel" "named" "[I") ∈ tW := tW_t (i := 943) (by decide +kernel) rfl
theorem w_944 : (Jvm.Cond.fieldLink "RoadOfDoorsModel" (35 : Nat) "RoadOfDoorsModel" "values" "[J") ∈ tW := tW_t (i := 944) (by decide +kernel) rfl
theorem w_945 : (Jvm.Cond.fieldLink "RoadOfDoorsModel" (39 : Nat) "RoadOfDoorsModel" "truth" "[Z") ∈ tW := tW_t (i := 945) (by decide +kernel) rfl
theorem w_946 : (Jvm.Cond.fieldLink "RoadOfDoorsModel" (43 : Nat) "RoadOfDoorsModel" "goer" "[I") ∈ tW := tW_t (i := 946) (by decide +kernel) rfl
theorem w_947 : (Jvm.Cond.fieldLink "RoadOfDoorsModel" (46 : Nat) "RoadOfDoorsModel" "tried" "[I") ∈ tW := tW_t (i := 947) (by decide +kernel) rfl
theorem w_948 : (Jvm.Cond.fieldLink "RoadOfDoorsModel" (50 : Nat) "RoadOfDoorsModel" "leasts" "[I") ∈ tW := tW_t (i := 948) (by decide +kernel) rfl
theorem w_949 : (Jvm.Cond.fieldLink "RoadOfDoorsModel" (53 : Nat) "RoadOfDoorsModel" "left" "[I") ∈ tW := tW_t (i := 949) (by decide +kernel) rfl
theorem w_950 : (Jvm.Cond.fieldLink "RoadOfDoorsModel" (56 : Nat) "RoadOfDoorsModel" "done" "[I") ∈ tW := tW_t (i := 950) (by decide +kernel) rfl
theorem w_951 : (Jvm.Cond.fieldLink "RoadOfDoorsModel" (59 : Nat) "RoadOfDoorsModel" "doneAt" "[I") ∈ tW := tW_t (i := 951) (by decide +kernel) rfl
theorem w_952 : (Jvm.Cond.fieldLink "RoadOfDoorsModel" (285 : Nat) "RoadOfDoorsModel" "doneMany" "I") ∈ tW := tW_t (i := 952) (by decide +kernel) rfl
theorem w_1022 : (Jvm.Cond.methodLink "RoadOfDoorsModel" (73 : Nat) ({ cls := "RoadOfDoorsModel", name := "isHour", desc := "(I)Z" } : Jvm.MethodName)) ∈ tW := tW_t (i := 1022) (by decide +kernel) rfl
theorem w_1023 : (Jvm.Cond.static ({ cls := "RoadOfDoorsModel", name := "isHour", desc := "(I)Z" } : Jvm.MethodName)) ∈ tW := tW_t (i := 1023) (by decide +kernel) rfl
theorem w_1025 : (Jvm.Cond.methodLink "RoadOfDoorsModel" (69 : Nat) ({ cls := "RoadOfDoorsModel", name := "isIn", desc := "(III)Z" } : Jvm.MethodName)) ∈ tW := tW_t (i := 1025) (by decide +kernel) rfl
theorem w_1026 : (Jvm.Cond.static ({ cls := "RoadOfDoorsModel", name := "isIn", desc := "(III)Z" } : Jvm.MethodName)) ∈ tW := tW_t (i := 1026) (by decide +kernel) rfl
theorem w_1032 : (Jvm.Cond.methodLink "RoadOfDoorsModel" (77 : Nat) ({ cls := "RoadOfDoorsModel", name := "isDoor", desc := "(I)Z" } : Jvm.MethodName)) ∈ tW := tW_t (i := 1032) (by decide +kernel) rfl
theorem w_1034 : (Jvm.Cond.instanceMethod ({ cls := "RoadOfDoorsModel", name := "isDoor", desc := "(I)Z" } : Jvm.MethodName)) ∈ tW := tW_t (i := 1034) (by decide +kernel) rfl
theorem w_1048 : (Jvm.Cond.methodLink "RoadOfDoorsModel" (83 : Nat) ({ cls := "RoadOfDoorsModel", name := "four", desc := "(I)V" } : Jvm.MethodName)) ∈ tW := tW_t (i := 1048) (by decide +kernel) rfl
theorem w_1050 : (Jvm.Cond.instanceMethod ({ cls := "RoadOfDoorsModel", name := "four", desc := "(I)V" } : Jvm.MethodName)) ∈ tW := tW_t (i := 1050) (by decide +kernel) rfl
theorem w_1060 : (Jvm.Cond.methodLink "RoadOfDoorsModel" (213 : Nat) ({ cls := "RoadOfDoorsModel", name := "readText", desc := "()I" } : Jvm.MethodName)) ∈ tW := tW_t (i := 1060) (by decide +kernel) rfl
theorem w_1062 : (Jvm.Cond.instanceMethod ({ cls := "RoadOfDoorsModel", name := "readText", desc := "()I" } : Jvm.MethodName)) ∈ tW := tW_t (i := 1062) (by decide +kernel) rfl
theorem w_1064 : (Jvm.Cond.methodLink "RoadOfDoorsModel" (150 : Nat) ({ cls := "RoadOfDoorsModel", name := "nextToken", desc := "()V" } : Jvm.MethodName)) ∈ tW := tW_t (i := 1064) (by decide +kernel) rfl
theorem w_1066 : (Jvm.Cond.instanceMethod ({ cls := "RoadOfDoorsModel", name := "nextToken", desc := "()V" } : Jvm.MethodName)) ∈ tW := tW_t (i := 1066) (by decide +kernel) rfl
theorem w_1068 : (Jvm.Cond.methodLink "RoadOfDoorsModel" (90 : Nat) ({ cls := "RoadOfDoorsModel", name := "byteAt", desc := "(I)I" } : Jvm.MethodName)) ∈ tW := tW_t (i := 1068) (by decide +kernel) rfl
theorem w_1070 : (Jvm.Cond.instanceMethod ({ cls := "RoadOfDoorsModel", name := "byteAt", desc := "(I)I" } : Jvm.MethodName)) ∈ tW := tW_t (i := 1070) (by decide +kernel) rfl
theorem w_1072 : (Jvm.Cond.methodLink "RoadOfDoorsModel" (100 : Nat) ({ cls := "RoadOfDoorsModel", name := "isDigit", desc := "(I)Z" } : Jvm.MethodName)) ∈ tW := tW_t (i := 1072) (by decide +kernel) rfl
theorem w_1073 : (Jvm.Cond.static ({ cls := "RoadOfDoorsModel", name := "isDigit", desc := "(I)Z" } : Jvm.MethodName)) ∈ tW := tW_t (i := 1073) (by decide +kernel) rfl
theorem w_1075 : (Jvm.Cond.constant "RoadOfDoorsModel" (106 : Nat) (100000 : Int32)) ∈ tW := tW_t (i := 1075) (by decide +kernel) rfl
theorem w_1076 : (Jvm.Cond.methodLink "RoadOfDoorsModel" (107 : Nat) ({ cls := "RoadOfDoorsModel", name := "isLetter", desc := "(I)Z" } : Jvm.MethodName)) ∈ tW := tW_t (i := 1076) (by decide +kernel) rfl
theorem w_1077 : (Jvm.Cond.static ({ cls := "RoadOfDoorsModel", name := "isLetter", desc := "(I)Z" } : Jvm.MethodName)) ∈ tW := tW_t (i := 1077) (by decide +kernel) rfl
theorem w_1079 : (Jvm.Cond.methodLink "RoadOfDoorsModel" (210 : Nat) ({ cls := "RoadOfDoorsModel", name := "clause", desc := "()I" } : Jvm.MethodName)) ∈ tW := tW_t (i := 1079) (by decide +kernel) rfl
theorem w_1081 : (Jvm.Cond.instanceMethod ({ cls := "RoadOfDoorsModel", name := "clause", desc := "()I" } : Jvm.MethodName)) ∈ tW := tW_t (i := 1081) (by decide +kernel) rfl
theorem w_1083 : (Jvm.Cond.methodLink "RoadOfDoorsModel" (198 : Nat) ({ cls := "RoadOfDoorsModel", name := "sortOf", desc := "()I" } : Jvm.MethodName)) ∈ tW := tW_t (i := 1083) (by decide +kernel) rfl
theorem w_1085 : (Jvm.Cond.instanceMethod ({ cls := "RoadOfDoorsModel", name := "sortOf", desc := "()I" } : Jvm.MethodName)) ∈ tW := tW_t (i := 1085) (by decide +kernel) rfl
theorem w_1087 : (Jvm.Cond.methodLink "RoadOfDoorsModel" (118 : Nat) ({ cls := "RoadOfDoorsModel", name := "w5", desc := "(IIIII)J" } : Jvm.MethodName)) ∈ tW := tW_t (i := 1087) (by decide +kernel) rfl
theorem w_1088 : (Jvm.Cond.static ({ cls := "RoadOfDoorsModel", name := "w5", desc := "(IIIII)J" } : Jvm.MethodName)) ∈ tW := tW_t (i := 1088) (by decide +kernel) rfl
theorem w_1090 : (Jvm.Cond.methodLink "RoadOfDoorsModel" (114 : Nat) ({ cls := "RoadOfDoorsModel", name := "w3", desc := "(III)J" } : Jvm.MethodName)) ∈ tW := tW_t (i := 1090) (by decide +kernel) rfl
theorem w_1091 : (Jvm.Cond.static ({ cls := "RoadOfDoorsModel", name := "w3", desc := "(III)J" } : Jvm.MethodName)) ∈ tW := tW_t (i := 1091) (by decide +kernel) rfl
theorem w_1093 : (Jvm.Cond.methodLink "RoadOfDoorsModel" (179 : Nat) ({ cls := "RoadOfDoorsModel", name := "isWord", desc := "(J)Z" } : Jvm.MethodName)) ∈ tW := tW_t (i := 1093) (by decide +kernel) rfl
theorem w_1095 : (Jvm.Cond.instanceMethod ({ cls := "RoadOfDoorsModel", name := "isWord", desc := "(J)Z" } : Jvm.MethodName)) ∈ tW := tW_t (i := 1095) (by decide +kernel) rfl
theorem w_1097 : (Jvm.Cond.methodLink "RoadOfDoorsModel" (142 : Nat) ({ cls := "RoadOfDoorsModel", name := "w4", desc := "(IIII)J" } : Jvm.MethodName)) ∈ tW := tW_t (i := 1097) (by decide +kernel) rfl
theorem w_1098 : (Jvm.Cond.static ({ cls := "RoadOfDoorsModel", name := "w4", desc := "(IIII)J" } : Jvm.MethodName)) ∈ tW := tW_t (i := 1098) (by decide +kernel) rfl
theorem w_1100 : (Jvm.Cond.methodLink "RoadOfDoorsModel" (204 : Nat) ({ cls := "RoadOfDoorsModel", name := "either", desc := "()I" } : Jvm.MethodName)) ∈ tW := tW_t (i := 1100) (by decide +kernel) rfl
theorem w_1102 : (Jvm.Cond.instanceMethod ({ cls := "RoadOfDoorsModel", name := "either", desc := "()I" } : Jvm.MethodName)) ∈ tW := tW_t (i := 1102) (by decide +kernel) rfl
theorem w_1104 : (Jvm.Cond.methodLink "RoadOfDoorsModel" (189 : Nat) ({ cls := "RoadOfDoorsModel", name := "asks", desc := "()I" } : Jvm.MethodName)) ∈ tW := tW_t (i := 1104) (by decide +kernel) rfl
theorem w_1106 : (Jvm.Cond.instanceMethod ({ cls := "RoadOfDoorsModel", name := "asks", desc := "()I" } : Jvm.MethodName)) ∈ tW := tW_t (i := 1106) (by decide +kernel) rfl
theorem w_1108 : (Jvm.Cond.methodLink "RoadOfDoorsModel" (183 : Nat) ({ cls := "RoadOfDoorsModel", name := "summed", desc := "()I" } : Jvm.MethodName)) ∈ tW := tW_t (i := 1108) (by decide +kernel) rfl
theorem w_1110 : (Jvm.Cond.instanceMethod ({ cls := "RoadOfDoorsModel", name := "summed", desc := "()I" } : Jvm.MethodName)) ∈ tW := tW_t (i := 1110) (by decide +kernel) rfl
theorem w_1112 : (Jvm.Cond.methodLink "RoadOfDoorsModel" (170 : Nat) ({ cls := "RoadOfDoorsModel", name := "goesOn", desc := "()Z" } : Jvm.MethodName)) ∈ tW := tW_t (i := 1112) (by decide +kernel) rfl
theorem w_1114 : (Jvm.Cond.instanceMethod ({ cls := "RoadOfDoorsModel", name := "goesOn", desc := "()Z" } : Jvm.MethodName)) ∈ tW := tW_t (i := 1114) (by decide +kernel) rfl
theorem w_1116 : (Jvm.Cond.methodLink "RoadOfDoorsModel" (163 : Nat) ({ cls := "RoadOfDoorsModel", name := "hasParen", desc := "()Z" } : Jvm.MethodName)) ∈ tW := tW_t (i := 1116) (by decide +kernel) rfl
theorem w_1118 : (Jvm.Cond.instanceMethod ({ cls := "RoadOfDoorsModel", name := "hasParen", desc := "()Z" } : Jvm.MethodName)) ∈ tW := tW_t (i := 1118) (by decide +kernel) rfl
theorem w_1120 : (Jvm.Cond.methodLink "RoadOfDoorsModel" (173 : Nat) ({ cls := "RoadOfDoorsModel", name := "behindOne", desc := "()I" } : Jvm.MethodName)) ∈ tW := tW_t (i := 1120) (by decide +kernel) rfl
theorem w_1122 : (Jvm.Cond.instanceMethod ({ cls := "RoadOfDoorsModel", name := "behindOne", desc := "()I" } : Jvm.MethodName)) ∈ tW := tW_t (i := 1122) (by decide +kernel) rfl
theorem w_1124 : (Jvm.Cond.methodLink "RoadOfDoorsModel" (167 : Nat) ({ cls := "RoadOfDoorsModel", name := "settle", desc := "(I)V" } : Jvm.MethodName)) ∈ tW := tW_t (i := 1124) (by decide +kernel) rfl
theorem w_1126 : (Jvm.Cond.instanceMethod ({ cls := "RoadOfDoorsModel", name := "settle", desc := "(I)V" } : Jvm.MethodName)) ∈ tW := tW_t (i := 1126) (by decide +kernel) rfl
theorem w_1128 : (Jvm.Cond.methodLink "RoadOfDoorsModel" (138 : Nat) ({ cls := "RoadOfDoorsModel", name := "emit", desc := "(II)V" } : Jvm.MethodName)) ∈ tW := tW_t (i := 1128) (by decide +kernel) rfl
theorem w_1130 : (Jvm.Cond.instanceMethod ({ cls := "RoadOfDoorsModel", name := "emit", desc := "(II)V" } : Jvm.MethodName)) ∈ tW := tW_t (i := 1130) (by decide +kernel) rfl
theorem w_1132 : (Jvm.Cond.methodLink "RoadOfDoorsModel" (160 : Nat) ({ cls := "RoadOfDoorsModel", name := "push", desc := "(I)V" } : Jvm.MethodName)) ∈ tW := tW_t (i := 1132) (by decide +kernel) rfl
theorem w_1134 : (Jvm.Cond.instanceMethod ({ cls := "RoadOfDoorsModel", name := "push", desc := "(I)V" } : Jvm.MethodName)) ∈ tW := tW_t (i := 1134) (by decide +kernel) rfl
theorem w_1136 : (Jvm.Cond.methodLink "RoadOfDoorsModel" (153 : Nat) ({ cls := "RoadOfDoorsModel", name := "whole", desc := "()V" } : Jvm.MethodName)) ∈ tW := tW_t (i := 1136) (by decide +kernel) rfl
theorem w_1138 : (Jvm.Cond.instanceMethod ({ cls := "RoadOfDoorsModel", name := "whole", desc := "()V" } : Jvm.MethodName)) ∈ tW := tW_t (i := 1138) (by decide +kernel) rfl
theorem w_1140 : (Jvm.Cond.methodLink "RoadOfDoorsModel" (176 : Nat) ({ cls := "RoadOfDoorsModel", name := "beginOne", desc := "()I" } : Jvm.MethodName)) ∈ tW := tW_t (i := 1140) (by decide +kernel) rfl
theorem w_1142 : (Jvm.Cond.instanceMethod ({ cls := "RoadOfDoorsModel", name := "beginOne", desc := "()I" } : Jvm.MethodName)) ∈ tW := tW_t (i := 1142) (by decide +kernel) rfl
theorem w_1144 : (Jvm.Cond.methodLink "RoadOfDoorsModel" (156 : Nat) ({ cls := "RoadOfDoorsModel", name := "nameOf", desc := "()I" } : Jvm.MethodName)) ∈ tW := tW_t (i := 1144) (by decide +kernel) rfl
theorem w_1146 : (Jvm.Cond.instanceMethod ({ cls := "RoadOfDoorsModel", name := "nameOf", desc := "()I" } : Jvm.MethodName)) ∈ tW := tW_t (i := 1146) (by decide +kernel) rfl
theorem w_1148 : (Jvm.Cond.methodLink "RoadOfDoorsModel" (146 : Nat) ({ cls := "RoadOfDoorsModel", name := "w6", desc := "(IIIIII)J" } : Jvm.MethodName)) ∈ tW := tW_t (i := 1148) (by decide +kernel) rfl
theorem w_1149 : (Jvm.Cond.static ({ cls := "RoadOfDoorsModel", name := "w6", desc := "(IIIIII)J" } : Jvm.MethodName)) ∈ tW := tW_t (i := 1149) (by decide +kernel) rfl
theorem w_1151 : (Jvm.Cond.methodLink "RoadOfDoorsModel" (186 : Nat) ({ cls := "RoadOfDoorsModel", name := "compareOf", desc := "()I" } : Jvm.MethodName)) ∈ tW := tW_t (i := 1151) (by decide +kernel) rfl
theorem w_1153 : (Jvm.Cond.instanceMethod ({ cls := "RoadOfDoorsModel", name := "compareOf", desc := "()I" } : Jvm.MethodName)) ∈ tW := tW_t (i := 1153) (by decide +kernel) rfl
theorem w_1155 : (Jvm.Cond.constantLong "RoadOfDoorsModel" (192 : Nat) (28530 : Int64)) ∈ tW := tW_t (i := 1155) (by decide +kernel) rfl
theorem w_1156 : (Jvm.Cond.methodLink "RoadOfDoorsModel" (207 : Nat) ({ cls := "RoadOfDoorsModel", name := "knocked", desc := "(I)I" } : Jvm.MethodName)) ∈ tW := tW_t (i := 1156) (by decide +kernel) rfl
theorem w_1158 : (Jvm.Cond.instanceMethod ({ cls := "RoadOfDoorsModel", name := "knocked", desc := "(I)I" } : Jvm.MethodName)) ∈ tW := tW_t (i := 1158) (by decide +kernel) rfl
theorem w_1160 : (Jvm.Cond.methodLink "RoadOfDoorsModel" (194 : Nat) ({ cls := "RoadOfDoorsModel", name := "figure", desc := "(III)I" } : Jvm.MethodName)) ∈ tW := tW_t (i := 1160) (by decide +kernel) rfl
theorem w_1162 : (Jvm.Cond.instanceMethod ({ cls := "RoadOfDoorsModel", name := "figure", desc := "(III)I" } : Jvm.MethodName)) ∈ tW := tW_t (i := 1162) (by decide +kernel) rfl
theorem w_1172 : (Jvm.Cond.methodLink "RoadOfDoorsModel" (216 : Nat) ({ cls := "RoadOfDoorsModel", name := "isRule", desc := "(I)Z" } : Jvm.MethodName)) ∈ tW := tW_t (i := 1172) (by decide +kernel) rfl
theorem w_1174 : (Jvm.Cond.instanceMethod ({ cls := "RoadOfDoorsModel", name := "isRule", desc := "(I)Z" } : Jvm.MethodName)) ∈ tW := tW_t (i := 1174) (by decide +kernel) rfl
theorem w_1177 : (Jvm.Cond.instanceMethod ({ cls := "RoadOfDoorsModel", name := "opens", desc := "(IIIIII)Z" } : Jvm.MethodName)) ∈ tW := tW_t (i := 1177) (by decide +kernel) rfl
theorem w_1178 : (Jvm.Cond.selects "RoadOfDoorsModel" ({ cls := "RoadOfDoorsModel", name := "opens", desc := "(IIIIII)Z" } : Jvm.MethodName) ({ cls := "RoadOfDoorsModel", name := "opens", desc := "(IIIIII)Z" } : Jvm.MethodName)) ∈ tW := tW_t (i := 1178) (by decide +kernel) rfl
theorem w_1180 : (Jvm.Cond.methodLink "RoadOfDoorsModel" (238 : Nat) ({ cls := "RoadOfDoorsModel", name := "isKnock", desc := "(II)Z" } : Jvm.MethodName)) ∈ tW := tW_t (i := 1180) (by decide +kernel) rfl
theorem w_1181 : (Jvm.Cond.static ({ cls := "RoadOfDoorsModel", name := "isKnock", desc := "(II)Z" } : Jvm.MethodName)) ∈ tW := tW_t (i := 1181) (by decide +kernel) rfl
theorem w_1183 : (Jvm.Cond.methodLink "RoadOfDoorsModel" (242 : Nat) ({ cls := "RoadOfDoorsModel", name := "isOpen", desc := "(IIIIIII)Z" } : Jvm.MethodName)) ∈ tW := tW_t (i := 1183) (by decide +kernel) rfl
theorem w_1185 : (Jvm.Cond.instanceMethod ({ cls := "RoadOfDoorsModel", name := "isOpen", desc := "(IIIIIII)Z" } : Jvm.MethodName)) ∈ tW := tW_t (i := 1185) (by decide +kernel) rfl
theorem w_1187 : (Jvm.Cond.methodLink "RoadOfDoorsModel" (235 : Nat) ({ cls := "RoadOfDoorsModel", name := "work", desc := "(II)V" } : Jvm.MethodName)) ∈ tW := tW_t (i := 1187) (by decide +kernel) rfl
theorem w_1189 : (Jvm.Cond.instanceMethod ({ cls := "RoadOfDoorsModel", name := "work", desc := "(II)V" } : Jvm.MethodName)) ∈ tW := tW_t (i := 1189) (by decide +kernel) rfl
theorem w_1191 : (Jvm.Cond.methodLink "RoadOfDoorsModel" (227 : Nat) ({ cls := "RoadOfDoorsModel", name := "two", desc := "(IJJ)J" } : Jvm.MethodName)) ∈ tW := tW_t (i := 1191) (by decide +kernel) rfl
theorem w_1192 : (Jvm.Cond.static ({ cls := "RoadOfDoorsModel", name := "two", desc := "(IJJ)J" } : Jvm.MethodName)) ∈ tW := tW_t (i := 1192) (by decide +kernel) rfl
theorem w_1194 : (Jvm.Cond.methodLink "RoadOfDoorsModel" (223 : Nat) ({ cls := "RoadOfDoorsModel", name := "clip", desc := "(J)J" } : Jvm.MethodName)) ∈ tW := tW_t (i := 1194) (by decide +kernel) rfl
theorem w_1195 : (Jvm.Cond.static ({ cls := "RoadOfDoorsModel", name := "clip", desc := "(J)J" } : Jvm.MethodName)) ∈ tW := tW_t (i := 1195) (by decide +kernel) rfl
theorem w_1197 : (Jvm.Cond.constantLong "RoadOfDoorsModel" (219 : Nat) (1000000 : Int64)) ∈ tW := tW_t (i := 1197) (by decide +kernel) rfl
theorem w_1198 : (Jvm.Cond.constantLong "RoadOfDoorsModel" (221 : Nat) (-1000000 : Int64)) ∈ tW := tW_t (i := 1198) (by decide +kernel) rfl
theorem w_1199 : (Jvm.Cond.methodLink "RoadOfDoorsModel" (231 : Nat) ({ cls := "RoadOfDoorsModel", name := "isAsked", desc := "(IJJ)Z" } : Jvm.MethodName)) ∈ tW := tW_t (i := 1199) (by decide +kernel) rfl
theorem w_1200 : (Jvm.Cond.static ({ cls := "RoadOfDoorsModel", name := "isAsked", desc := "(IJJ)Z" } : Jvm.MethodName)) ∈ tW := tW_t (i := 1200) (by decide +kernel) rfl
theorem w_1206 : (Jvm.Cond.methodLink "RoadOfDoorsModel" (246 : Nat) ({ cls := "RoadOfDoorsModel", name := "isTraveller", desc := "(IIII)Z" } : Jvm.MethodName)) ∈ tW := tW_t (i := 1206) (by decide +kernel) rfl
theorem w_1208 : (Jvm.Cond.instanceMethod ({ cls := "RoadOfDoorsModel", name := "isTraveller", desc := "(IIII)Z" } : Jvm.MethodName)) ∈ tW := tW_t (i := 1208) (by decide +kernel) rfl
theorem w_1215 : (Jvm.Cond.instanceMethod ({ cls := "RoadOfDoorsModel", name := "knock", desc := "(II)I" } : Jvm.MethodName)) ∈ tW := tW_t (i := 1215) (by decide +kernel) rfl
theorem w_1216 : (Jvm.Cond.selects "RoadOfDoorsModel" ({ cls := "RoadOfDoorsModel", name := "knock", desc := "(II)I" } : Jvm.MethodName) ({ cls := "RoadOfDoorsModel", name := "knock", desc := "(II)I" } : Jvm.MethodName)) ∈ tW := tW_t (i := 1216) (by decide +kernel) rfl
theorem w_1218 : (Jvm.Cond.methodLink "RoadOfDoorsModel" (250 : Nat) ({ cls := "RoadOfDoorsModel", name := "keepStep", desc := "()V" } : Jvm.MethodName)) ∈ tW := tW_t (i := 1218) (by decide +kernel) rfl
theorem w_1220 : (Jvm.Cond.instanceMethod ({ cls := "RoadOfDoorsModel", name := "keepStep", desc := "()V" } : Jvm.MethodName)) ∈ tW := tW_t (i := 1220) (by decide +kernel) rfl
theorem w_1222 : (Jvm.Cond.methodLink "RoadOfDoorsModel" (253 : Nat) ({ cls := "RoadOfDoorsModel", name := "has", desc := "(II)Z" } : Jvm.MethodName)) ∈ tW := tW_t (i := 1222) (by decide +kernel) rfl
theorem w_1223 : (Jvm.Cond.static ({ cls := "RoadOfDoorsModel", name := "has", desc := "(II)Z" } : Jvm.MethodName)) ∈ tW := tW_t (i := 1223) (by decide +kernel) rfl
theorem w_1225 : (Jvm.Cond.methodLink "RoadOfDoorsModel" (256 : Nat) ({ cls := "RoadOfDoorsModel", name := "opens", desc := "(IIIIII)Z" } : Jvm.MethodName)) ∈ tW := tW_t (i := 1225) (by decide +kernel) rfl
theorem w_1226 : (Jvm.Cond.methodLink "RoadOfDoorsModel" (259 : Nat) ({ cls := "RoadOfDoorsModel", name := "hourBy", desc := "(Z)V" } : Jvm.MethodName)) ∈ tW := tW_t (i := 1226) (by decide +kernel) rfl
theorem w_1228 : (Jvm.Cond.instanceMethod ({ cls := "RoadOfDoorsModel", name := "hourBy", desc := "(Z)V" } : Jvm.MethodName)) ∈ tW := tW_t (i := 1228) (by decide +kernel) rfl
theorem w_1231 : (Jvm.Cond.instanceMethod ({ cls := "RoadOfDoorsModel", name := "later", desc := "(I)I" } : Jvm.MethodName)) ∈ tW := tW_t (i := 1231) (by decide +kernel) rfl
theorem w_1232 : (Jvm.Cond.selects "RoadOfDoorsModel" ({ cls := "RoadOfDoorsModel", name := "later", desc := "(I)I" } : Jvm.MethodName) ({ cls := "RoadOfDoorsModel", name := "later", desc := "(I)I" } : Jvm.MethodName)) ∈ tW := tW_t (i := 1232) (by decide +kernel) rfl
theorem w_1238 : (Jvm.Cond.methodLink "RoadOfDoorsModel" (270 : Nat) ({ cls := "RoadOfDoorsModel", name := "isPlayed", desc := "(I)Z" } : Jvm.MethodName)) ∈ tW := tW_t (i := 1238) (by decide +kernel) rfl
theorem w_1240 : (Jvm.Cond.instanceMethod ({ cls := "RoadOfDoorsModel", name := "isPlayed", desc := "(I)Z" } : Jvm.MethodName)) ∈ tW := tW_t (i := 1240) (by decide +kernel) rfl
theorem w_1242 : (Jvm.Cond.methodLink "RoadOfDoorsModel" (263 : Nat) ({ cls := "RoadOfDoorsModel", name := "knock", desc := "(II)I" } : Jvm.MethodName)) ∈ tW := tW_t (i := 1242) (by decide +kernel) rfl
theorem w_1243 : (Jvm.Cond.methodLink "RoadOfDoorsModel" (267 : Nat) ({ cls := "RoadOfDoorsModel", name := "later", desc := "(I)I" } : Jvm.MethodName)) ∈ tW := tW_t (i := 1243) (by decide +kernel) rfl
theorem w_1252 : (Jvm.Cond.methodLink "RoadOfDoorsModel" (295 : Nat) ({ cls := "RoadOfDoorsModel", name := "forgetLeasts", desc := "(II)V" } : Jvm.MethodName)) ∈ tW := tW_t (i := 1252) (by decide +kernel) rfl
theorem w_1254 : (Jvm.Cond.instanceMethod ({ cls := "RoadOfDoorsModel", name := "forgetLeasts", desc := "(II)V" } : Jvm.MethodName)) ∈ tW := tW_t (i := 1254) (by decide +kernel) rfl
theorem w_1256 : (Jvm.Cond.constant "RoadOfDoorsModel" (273 : Nat) (53760 : Int32)) ∈ tW := tW_t (i := 1256) (by decide +kernel) rfl
theorem w_1257 : (Jvm.Cond.methodLink "RoadOfDoorsModel" (298 : Nat) ({ cls := "RoadOfDoorsModel", name := "soonestOf", desc := "(II)I" } : Jvm.MethodName)) ∈ tW := tW_t (i := 1257) (by decide +kernel) rfl
theorem w_1259 : (Jvm.Cond.instanceMethod ({ cls := "RoadOfDoorsModel", name := "soonestOf", desc := "(II)I" } : Jvm.MethodName)) ∈ tW := tW_t (i := 1259) (by decide +kernel) rfl
theorem w_1261 : (Jvm.Cond.methodLink "RoadOfDoorsModel" (288 : Nat) ({ cls := "RoadOfDoorsModel", name := "reckon", desc := "(IIZ)I" } : Jvm.MethodName)) ∈ tW := tW_t (i := 1261) (by decide +kernel) rfl
theorem w_1263 : (Jvm.Cond.instanceMethod ({ cls := "RoadOfDoorsModel", name := "reckon", desc := "(IIZ)I" } : Jvm.MethodName)) ∈ tW := tW_t (i := 1263) (by decide +kernel) rfl
theorem w_1265 : (Jvm.Cond.constant "RoadOfDoorsModel" (281 : Nat) (1000000 : Int32)) ∈ tW := tW_t (i := 1265) (by decide +kernel) rfl
theorem w_1266 : (Jvm.Cond.methodLink "RoadOfDoorsModel" (282 : Nat) ({ cls := "RoadOfDoorsModel", name := "by", desc := "(IIIII)I" } : Jvm.MethodName)) ∈ tW := tW_t (i := 1266) (by decide +kernel) rfl
theorem w_1268 : (Jvm.Cond.instanceMethod ({ cls := "RoadOfDoorsModel", name := "by", desc := "(IIIII)I" } : Jvm.MethodName)) ∈ tW := tW_t (i := 1268) (by decide +kernel) rfl
theorem w_1270 : (Jvm.Cond.methodLink "RoadOfDoorsModel" (274 : Nat) ({ cls := "RoadOfDoorsModel", name := "leftAt", desc := "(III)I" } : Jvm.MethodName)) ∈ tW := tW_t (i := 1270) (by decide +kernel) rfl
theorem w_1271 : (Jvm.Cond.static ({ cls := "RoadOfDoorsModel", name := "leftAt", desc := "(III)I" } : Jvm.MethodName)) ∈ tW := tW_t (i := 1271) (by decide +kernel) rfl
theorem w_1273 : (Jvm.Cond.methodLink "RoadOfDoorsModel" (277 : Nat) ({ cls := "RoadOfDoorsModel", name := "leastGift", desc := "(IIIII)I" } : Jvm.MethodName)) ∈ tW := tW_t (i := 1273) (by decide +kernel) rfl
theorem w_1275 : (Jvm.Cond.instanceMethod ({ cls := "RoadOfDoorsModel", name := "leastGift", desc := "(IIIII)I" } : Jvm.MethodName)) ∈ tW := tW_t (i := 1275) (by decide +kernel) rfl
theorem w_1277 : (Jvm.Cond.methodLink "RoadOfDoorsModel" (292 : Nat) ({ cls := "RoadOfDoorsModel", name := "follow", desc := "(I)V" } : Jvm.MethodName)) ∈ tW := tW_t (i := 1277) (by decide +kernel) rfl
theorem w_1279 : (Jvm.Cond.instanceMethod ({ cls := "RoadOfDoorsModel", name := "follow", desc := "(I)V" } : Jvm.MethodName)) ∈ tW := tW_t (i := 1279) (by decide +kernel) rfl
theorem w_1281 : (Jvm.Cond.methodLink "RoadOfDoorsModel" (301 : Nat) ({ cls := "RoadOfDoorsModel", name := "cheapest", desc := "(II)I" } : Jvm.MethodName)) ∈ tW := tW_t (i := 1281) (by decide +kernel) rfl
theorem w_1283 : (Jvm.Cond.instanceMethod ({ cls := "RoadOfDoorsModel", name := "cheapest", desc := "(II)I" } : Jvm.MethodName)) ∈ tW := tW_t (i := 1283) (by decide +kernel) rfl
theorem w_1297 : (Jvm.Cond.methodLink "RoadOfDoorsModel" (304 : Nat) ({ cls := "RoadOfDoorsModel", name := "beginGuests", desc := "()V" } : Jvm.MethodName)) ∈ tW := tW_t (i := 1297) (by decide +kernel) rfl
theorem w_1299 : (Jvm.Cond.instanceMethod ({ cls := "RoadOfDoorsModel", name := "beginGuests", desc := "()V" } : Jvm.MethodName)) ∈ tW := tW_t (i := 1299) (by decide +kernel) rfl
theorem w_1301 : (Jvm.Cond.methodLink "RoadOfDoorsModel" (307 : Nat) ({ cls := "RoadOfDoorsModel", name := "earned", desc := "(I)I" } : Jvm.MethodName)) ∈ tW := tW_t (i := 1301) (by decide +kernel) rfl
theorem w_1303 : (Jvm.Cond.instanceMethod ({ cls := "RoadOfDoorsModel", name := "earned", desc := "(I)I" } : Jvm.MethodName)) ∈ tW := tW_t (i := 1303) (by decide +kernel) rfl
theorem w_1309 : (Jvm.Cond.methodLink "RoadOfDoorsModel" (310 : Nat) ({ cls := "RoadOfDoorsModel", name := "bestRule", desc := "(I)I" } : Jvm.MethodName)) ∈ tW := tW_t (i := 1309) (by decide +kernel) rfl
theorem w_1311 : (Jvm.Cond.instanceMethod ({ cls := "RoadOfDoorsModel", name := "bestRule", desc := "(I)I" } : Jvm.MethodName)) ∈ tW := tW_t (i := 1311) (by decide +kernel) rfl
theorem w_1325 : (Jvm.Cond.methodLink "RoadOfDoorsModel" (313 : Nat) ({ cls := "RoadOfDoorsModel", name := "canKeep", desc := "(III)Z" } : Jvm.MethodName)) ∈ tW := tW_t (i := 1325) (by decide +kernel) rfl
theorem w_1327 : (Jvm.Cond.instanceMethod ({ cls := "RoadOfDoorsModel", name := "canKeep", desc := "(III)Z" } : Jvm.MethodName)) ∈ tW := tW_t (i := 1327) (by decide +kernel) rfl
theorem kc_X8_within : Cond.code yX8_within cX8_within 3 (some .boolean) ∈ tW := tW_t (i := 379) (by decide +kernel) rfl
theorem kc_X3_forget : Cond.code yX3_forget cX3_forget 1 none ∈ tW := tW_t (i := 387) (by decide +kernel) rfl
theorem kc_X0_forget : Cond.code yX0_forget cX0_forget 1 none ∈ tW := tW_t (i := 391) (by decide +kernel) rfl
theorem kc_X8_isHour : Cond.code yX8_isHour cX8_isHour 1 (some .boolean) ∈ tW := tW_t (i := 376) (by decide +kernel) rfl
theorem kc_X8_outlookChanged : Cond.code yX8_outlookChanged cX8_outlookChanged 1 none ∈ tW := tW_t (i := 383) (by decide +kernel) rfl
theorem wp_0 : Cond.selects "RoadOfDoors" ({ cls := "RoadOfDoors", name := "outlookChanged", desc := "()V" } : Jvm.MethodName) ({ cls := "RoadOfDoors", name := "outlookChanged", desc := "()V" } : Jvm.MethodName) ∈ tW := tW_p (i := 0) (by decide +kernel) rfl
theorem kc_X8_isDoor : Cond.code yX8_isDoor cX8_isDoor 2 (some .boolean) ∈ tW := tW_t (i := 399) (by decide +kernel) rfl
theorem wp_1 : Cond.selects "RoadOfDoors" ({ cls := "RoadOfDoors", name := "isDoor", desc := "(I)Z" } : Jvm.MethodName) ({ cls := "RoadOfDoors", name := "isDoor", desc := "(I)Z" } : Jvm.MethodName) ∈ tW := tW_p (i := 1) (by decide +kernel) rfl
theorem kc_X4_add : Cond.code yX4_add cX4_add 3 none ∈ tW := tW_t (i := 415) (by decide +kernel) rfl
theorem kc_X4_spells : Cond.code yX4_spells cX4_spells 3 (some .boolean) ∈ tW := tW_t (i := 464) (by decide +kernel) rfl
theorem wp_5 : Cond.selects "RoadOfDoors$Tape" ({ cls := "RoadOfDoors$Tape", name := "spells", desc := "(Ljava/lang/String;)Z" } : Jvm.MethodName) ({ cls := "RoadOfDoors$Tape", name := "spells", desc := "(Ljava/lang/String;)Z" } : Jvm.MethodName) ∈ tW := tW_p (i := 5) (by decide +kernel) rfl
theorem kc_X4_byteAt : Cond.code yX4_byteAt cX4_byteAt 2 (some .int) ∈ tW := tW_t (i := 443) (by decide +kernel) rfl
theorem wp_2 : Cond.selects "RoadOfDoors$Tape" ({ cls := "RoadOfDoors$Tape", name := "byteAt", desc := "(I)I" } : Jvm.MethodName) ({ cls := "RoadOfDoors$Tape", name := "byteAt", desc := "(I)I" } : Jvm.MethodName) ∈ tW := tW_p (i := 2) (by decide +kernel) rfl
theorem kc_X4_isLetter : Cond.code yX4_isLetter cX4_isLetter 1 (some .boolean) ∈ tW := tW_t (i := 450) (by decide +kernel) rfl
theorem kc_X4_nameSpelt : Cond.code yX4_nameSpelt cX4_nameSpelt 1 (some .int) ∈ tW := tW_t (i := 459) (by decide +kernel) rfl
theorem wp_4 : Cond.selects "RoadOfDoors$Tape" ({ cls := "RoadOfDoors$Tape", name := "nameSpelt", desc := "()I" } : Jvm.MethodName) ({ cls := "RoadOfDoors$Tape", name := "nameSpelt", desc := "()I" } : Jvm.MethodName) ∈ tW := tW_p (i := 4) (by decide +kernel) rfl
theorem kc_X4_wordSpelt : Cond.code yX4_wordSpelt cX4_wordSpelt 1 (some .int) ∈ tW := tW_t (i := 523) (by decide +kernel) rfl
theorem wp_6 : Cond.selects "RoadOfDoors$Tape" ({ cls := "RoadOfDoors$Tape", name := "wordSpelt", desc := "()I" } : Jvm.MethodName) ({ cls := "RoadOfDoors$Tape", name := "wordSpelt", desc := "()I" } : Jvm.MethodName) ∈ tW := tW_p (i := 6) (by decide +kernel) rfl
theorem kc_X4_isDigit : Cond.code yX4_isDigit cX4_isDigit 1 (some .boolean) ∈ tW := tW_t (i := 533) (by decide +kernel) rfl
theorem kc_X4_isBlank : Cond.code yX4_isBlank cX4_isBlank 1 (some .boolean) ∈ tW := tW_t (i := 446) (by decide +kernel) rfl
theorem kc_X4_signAt : Cond.code yX4_signAt cX4_signAt 2 (some .int) ∈ tW := tW_t (i := 540) (by decide +kernel) rfl
theorem kc_X4_isTwoSigned : Cond.code yX4_isTwoSigned cX4_isTwoSigned 1 (some .boolean) ∈ tW := tW_t (i := 543) (by decide +kernel) rfl
theorem kc_X4_readNumber : Cond.code yX4_readNumber cX4_readNumber 3 none ∈ tW := tW_t (i := 537) (by decide +kernel) rfl
theorem wp_7 : Cond.selects "RoadOfDoors$Tape" ({ cls := "RoadOfDoors$Tape", name := "readNumber", desc := "()V" } : Jvm.MethodName) ({ cls := "RoadOfDoors$Tape", name := "readNumber", desc := "()V" } : Jvm.MethodName) ∈ tW := tW_p (i := 7) (by decide +kernel) rfl
theorem kc_X4_readWord : Cond.code yX4_readWord cX4_readWord 2 none ∈ tW := tW_t (i := 455) (by decide +kernel) rfl
theorem wp_3 : Cond.selects "RoadOfDoors$Tape" ({ cls := "RoadOfDoors$Tape", name := "readWord", desc := "()V" } : Jvm.MethodName) ({ cls := "RoadOfDoors$Tape", name := "readWord", desc := "()V" } : Jvm.MethodName) ∈ tW := tW_p (i := 3) (by decide +kernel) rfl
theorem kc_X5_addClause : Cond.code yX5_addClause cX5_addClause 2 none ∈ tW := tW_t (i := 559) (by decide +kernel) rfl
theorem kc_X1_refuse : Cond.code yX1_refuse cX1_refuse 2 none ∈ tW := tW_t (i := 555) (by decide +kernel) rfl
theorem wp_10 : Cond.selects "RoadOfDoors$Reader" ({ cls := "RoadOfDoors$Reader", name := "refuse", desc := "(I)V" } : Jvm.MethodName) ({ cls := "RoadOfDoors$Reader", name := "refuse", desc := "(I)V" } : Jvm.MethodName) ∈ tW := tW_p (i := 10) (by decide +kernel) rfl
theorem kc_X1_put : Cond.code yX1_put cX1_put 2 none ∈ tW := tW_t (i := 589) (by decide +kernel) rfl
theorem wp_15 : Cond.selects "RoadOfDoors$Reader" ({ cls := "RoadOfDoors$Reader", name := "put", desc := "(I)V" } : Jvm.MethodName) ({ cls := "RoadOfDoors$Reader", name := "put", desc := "(I)V" } : Jvm.MethodName) ∈ tW := tW_p (i := 15) (by decide +kernel) rfl
theorem kc_X1_pileAt : Cond.code yX1_pileAt cX1_pileAt 2 (some .int) ∈ tW := tW_t (i := 597) (by decide +kernel) rfl
theorem wp_17 : Cond.selects "RoadOfDoors$Reader" ({ cls := "RoadOfDoors$Reader", name := "pileAt", desc := "(I)I" } : Jvm.MethodName) ({ cls := "RoadOfDoors$Reader", name := "pileAt", desc := "(I)I" } : Jvm.MethodName) ∈ tW := tW_p (i := 17) (by decide +kernel) rfl
theorem kc_X5_addWord : Cond.code yX5_addWord cX5_addWord 2 none ∈ tW := tW_t (i := 605) (by decide +kernel) rfl
theorem kc_X1_levelOf : Cond.code yX1_levelOf cX1_levelOf 1 (some .int) ∈ tW := tW_t (i := 616) (by decide +kernel) rfl
theorem kc_X1_joinDownTo : Cond.code yX1_joinDownTo cX1_joinDownTo 4 none ∈ tW := tW_t (i := 613) (by decide +kernel) rfl
theorem wp_19 : Cond.selects "RoadOfDoors$Reader" ({ cls := "RoadOfDoors$Reader", name := "joinDownTo", desc := "(I)V" } : Jvm.MethodName) ({ cls := "RoadOfDoors$Reader", name := "joinDownTo", desc := "(I)V" } : Jvm.MethodName) ∈ tW := tW_p (i := 19) (by decide +kernel) rfl
theorem kc_X1_endOne : Cond.code yX1_endOne cX1_endOne 1 none ∈ tW := tW_t (i := 609) (by decide +kernel) rfl
theorem wp_18 : Cond.selects "RoadOfDoors$Reader" ({ cls := "RoadOfDoors$Reader", name := "endOne", desc := "()V" } : Jvm.MethodName) ({ cls := "RoadOfDoors$Reader", name := "endOne", desc := "()V" } : Jvm.MethodName) ∈ tW := tW_p (i := 18) (by decide +kernel) rfl
theorem kc_X5_addName : Cond.code yX5_addName cX5_addName 2 none ∈ tW := tW_t (i := 601) (by decide +kernel) rfl
theorem kc_X1_atAsk : Cond.code yX1_atAsk cX1_atAsk 2 (some .boolean) ∈ tW := tW_t (i := 593) (by decide +kernel) rfl
theorem wp_16 : Cond.selects "RoadOfDoors$Reader" ({ cls := "RoadOfDoors$Reader", name := "atAsk", desc := "()Z" } : Jvm.MethodName) ({ cls := "RoadOfDoors$Reader", name := "atAsk", desc := "()Z" } : Jvm.MethodName) ∈ tW := tW_p (i := 16) (by decide +kernel) rfl
theorem kc_X1_nest : Cond.code yX1_nest cX1_nest 2 none ∈ tW := tW_t (i := 585) (by decide +kernel) rfl
theorem wp_14 : Cond.selects "RoadOfDoors$Reader" ({ cls := "RoadOfDoors$Reader", name := "nest", desc := "(I)V" } : Jvm.MethodName) ({ cls := "RoadOfDoors$Reader", name := "nest", desc := "(I)V" } : Jvm.MethodName) ∈ tW := tW_p (i := 14) (by decide +kernel) rfl
theorem kc_X1_join : Cond.code yX1_join cX1_join 3 none ∈ tW := tW_t (i := 625) (by decide +kernel) rfl
theorem wp_21 : Cond.selects "RoadOfDoors$Reader" ({ cls := "RoadOfDoors$Reader", name := "join", desc := "(II)V" } : Jvm.MethodName) ({ cls := "RoadOfDoors$Reader", name := "join", desc := "(II)V" } : Jvm.MethodName) ∈ tW := tW_p (i := 21) (by decide +kernel) rfl
theorem kc_X1_close : Cond.code yX1_close cX1_close 1 none ∈ tW := tW_t (i := 629) (by decide +kernel) rfl
theorem wp_22 : Cond.selects "RoadOfDoors$Reader" ({ cls := "RoadOfDoors$Reader", name := "close", desc := "()V" } : Jvm.MethodName) ({ cls := "RoadOfDoors$Reader", name := "close", desc := "()V" } : Jvm.MethodName) ∈ tW := tW_p (i := 22) (by decide +kernel) rfl
theorem kc_X1_takeClause : Cond.code yX1_takeClause cX1_takeClause 2 none ∈ tW := tW_t (i := 551) (by decide +kernel) rfl
theorem wp_9 : Cond.selects "RoadOfDoors$Reader" ({ cls := "RoadOfDoors$Reader", name := "takeClause", desc := "(I)V" } : Jvm.MethodName) ({ cls := "RoadOfDoors$Reader", name := "takeClause", desc := "(I)V" } : Jvm.MethodName) ∈ tW := tW_p (i := 9) (by decide +kernel) rfl
theorem kc_X1_takeNumber : Cond.code yX1_takeNumber cX1_takeNumber 4 none ∈ tW := tW_t (i := 563) (by decide +kernel) rfl
theorem wp_11 : Cond.selects "RoadOfDoors$Reader" ({ cls := "RoadOfDoors$Reader", name := "takeNumber", desc := "(III)V" } : Jvm.MethodName) ({ cls := "RoadOfDoors$Reader", name := "takeNumber", desc := "(III)V" } : Jvm.MethodName) ∈ tW := tW_p (i := 11) (by decide +kernel) rfl
theorem kc_X5_setKnocks : Cond.code yX5_setKnocks cX5_setKnocks 2 none ∈ tW := tW_t (i := 568) (by decide +kernel) rfl
theorem kc_X1_takeSign : Cond.code yX1_takeSign cX1_takeSign 3 none ∈ tW := tW_t (i := 573) (by decide +kernel) rfl
theorem wp_12 : Cond.selects "RoadOfDoors$Reader" ({ cls := "RoadOfDoors$Reader", name := "takeSign", desc := "(II)V" } : Jvm.MethodName) ({ cls := "RoadOfDoors$Reader", name := "takeSign", desc := "(II)V" } : Jvm.MethodName) ∈ tW := tW_p (i := 12) (by decide +kernel) rfl
theorem kc_X5_setAmount : Cond.code yX5_setAmount cX5_setAmount 2 none ∈ tW := tW_t (i := 577) (by decide +kernel) rfl
theorem kc_X1_takeOne : Cond.code yX1_takeOne cX1_takeOne 2 none ∈ tW := tW_t (i := 581) (by decide +kernel) rfl
theorem wp_13 : Cond.selects "RoadOfDoors$Reader" ({ cls := "RoadOfDoors$Reader", name := "takeOne", desc := "(I)V" } : Jvm.MethodName) ({ cls := "RoadOfDoors$Reader", name := "takeOne", desc := "(I)V" } : Jvm.MethodName) ∈ tW := tW_p (i := 13) (by decide +kernel) rfl
theorem kc_X1_takeBehindOne : Cond.code yX1_takeBehindOne cX1_takeBehindOne 4 none ∈ tW := tW_t (i := 621) (by decide +kernel) rfl
theorem wp_20 : Cond.selects "RoadOfDoors$Reader" ({ cls := "RoadOfDoors$Reader", name := "takeBehindOne", desc := "(I)V" } : Jvm.MethodName) ({ cls := "RoadOfDoors$Reader", name := "takeBehindOne", desc := "(I)V" } : Jvm.MethodName) ∈ tW := tW_p (i := 20) (by decide +kernel) rfl
theorem kc_X5_empties : Cond.code yX5_empties cX5_empties 1 none ∈ tW := tW_t (i := 431) (by decide +kernel) rfl
theorem kc_X4_rewinds : Cond.code yX4_rewinds cX4_rewinds 1 none ∈ tW := tW_t (i := 435) (by decide +kernel) rfl
theorem kc_X4_nextToken : Cond.code yX4_nextToken cX4_nextToken 3 none ∈ tW := tW_t (i := 439) (by decide +kernel) rfl
theorem kc_X1_take : Cond.code yX1_take cX1_take 2 none ∈ tW := tW_t (i := 547) (by decide +kernel) rfl
theorem wp_8 : Cond.selects "RoadOfDoors$Reader" ({ cls := "RoadOfDoors$Reader", name := "take", desc := "(I)V" } : Jvm.MethodName) ({ cls := "RoadOfDoors$Reader", name := "take", desc := "(I)V" } : Jvm.MethodName) ∈ tW := tW_p (i := 8) (by decide +kernel) rfl
theorem kc_X1_read : Cond.code yX1_read cX1_read 4 (some .boolean) ∈ tW := tW_t (i := 427) (by decide +kernel) rfl
theorem kc_X3_joined : Cond.code yX3_joined cX3_joined 5 (some .int) ∈ tW := tW_t (i := 664) (by decide +kernel) rfl
theorem kc_X3_isOpening : Cond.code yX3_isOpening cX3_isOpening 2 (some .boolean) ∈ tW := tW_t (i := 653) (by decide +kernel) rfl
theorem kc_X3_face : Cond.code yX3_face cX3_face 4 none ∈ tW := tW_t (i := 657) (by decide +kernel) rfl
theorem wp_24 : Cond.selects "RoadOfDoors$Rules" ({ cls := "RoadOfDoors$Rules", name := "face", desc := "(III)V" } : Jvm.MethodName) ({ cls := "RoadOfDoors$Rules", name := "face", desc := "(III)V" } : Jvm.MethodName) ∈ tW := tW_p (i := 24) (by decide +kernel) rfl
theorem kc_X3_holds : Cond.code yX3_holds cX3_holds 6 (some .boolean) ∈ tW := tW_t (i := 661) (by decide +kernel) rfl
theorem wp_25 : Cond.selects "RoadOfDoors$Rules" ({ cls := "RoadOfDoors$Rules", name := "holds", desc := "(LRoadOfDoors$Text;)Z" } : Jvm.MethodName) ({ cls := "RoadOfDoors$Rules", name := "holds", desc := "(LRoadOfDoors$Text;)Z" } : Jvm.MethodName) ∈ tW := tW_p (i := 25) (by decide +kernel) rfl
theorem kc_X8_isKnock : Cond.code yX8_isKnock cX8_isKnock 6 (some .boolean) ∈ tW := tW_t (i := 645) (by decide +kernel) rfl
theorem wp_23 : Cond.selects "RoadOfDoors" ({ cls := "RoadOfDoors", name := "isKnock", desc := "(IIIII)Z" } : Jvm.MethodName) ({ cls := "RoadOfDoors", name := "isKnock", desc := "(IIIII)Z" } : Jvm.MethodName) ∈ tW := tW_p (i := 23) (by decide +kernel) rfl
theorem kc_X3_opensBy : Cond.code yX3_opensBy cX3_opensBy 8 (some .boolean) ∈ tW := tW_t (i := 649) (by decide +kernel) rfl
theorem kc_X8_isTraveller : Cond.code yX8_isTraveller cX8_isTraveller 5 (some .boolean) ∈ tW := tW_t (i := 676) (by decide +kernel) rfl
theorem wp_26 : Cond.selects "RoadOfDoors" ({ cls := "RoadOfDoors", name := "isTraveller", desc := "(IIII)Z" } : Jvm.MethodName) ({ cls := "RoadOfDoors", name := "isTraveller", desc := "(IIII)Z" } : Jvm.MethodName) ∈ tW := tW_p (i := 26) (by decide +kernel) rfl
theorem kc_X6_starts : Cond.code yX6_starts cX6_starts 5 none ∈ tW := tW_t (i := 680) (by decide +kernel) rfl
theorem kc_X6_keepsStep : Cond.code yX6_keepsStep cX6_keepsStep 1 none ∈ tW := tW_t (i := 699) (by decide +kernel) rfl
theorem kc_X6_hourGoes : Cond.code yX6_hourGoes cX6_hourGoes 1 none ∈ tW := tW_t (i := 706) (by decide +kernel) rfl
theorem kc_X6_stays : Cond.code yX6_stays cX6_stays 1 none ∈ tW := tW_t (i := 710) (by decide +kernel) rfl
theorem kc_X8_hasKey : Cond.code yX8_hasKey cX8_hasKey 2 (some .boolean) ∈ tW := tW_t (i := 695) (by decide +kernel) rfl
theorem kc_X8_canKnock : Cond.code yX8_canKnock cX8_canKnock 3 (some .boolean) ∈ tW := tW_t (i := 688) (by decide +kernel) rfl
theorem wp_27 : Cond.selects "RoadOfDoors" ({ cls := "RoadOfDoors", name := "canKnock", desc := "(II)Z" } : Jvm.MethodName) ({ cls := "RoadOfDoors", name := "canKnock", desc := "(II)Z" } : Jvm.MethodName) ∈ tW := tW_p (i := 27) (by decide +kernel) rfl
theorem kc_X8_knocked : Cond.code yX8_knocked cX8_knocked 6 (some .boolean) ∈ tW := tW_t (i := 692) (by decide +kernel) rfl
theorem wp_28 : Cond.selects "RoadOfDoors" ({ cls := "RoadOfDoors", name := "knocked", desc := "(II)Z" } : Jvm.MethodName) ({ cls := "RoadOfDoors", name := "knocked", desc := "(II)Z" } : Jvm.MethodName) ∈ tW := tW_p (i := 28) (by decide +kernel) rfl
theorem kc_X8_canWait : Cond.code yX8_canWait cX8_canWait 2 (some .boolean) ∈ tW := tW_t (i := 719) (by decide +kernel) rfl
theorem wp_29 : Cond.selects "RoadOfDoors" ({ cls := "RoadOfDoors", name := "canWait", desc := "(I)Z" } : Jvm.MethodName) ({ cls := "RoadOfDoors", name := "canWait", desc := "(I)Z" } : Jvm.MethodName) ∈ tW := tW_p (i := 29) (by decide +kernel) rfl
theorem kc_X8_waited : Cond.code yX8_waited cX8_waited 3 none ∈ tW := tW_t (i := 723) (by decide +kernel) rfl
theorem wp_30 : Cond.selects "RoadOfDoors" ({ cls := "RoadOfDoors", name := "waited", desc := "(I)V" } : Jvm.MethodName) ({ cls := "RoadOfDoors", name := "waited", desc := "(I)V" } : Jvm.MethodName) ∈ tW := tW_p (i := 30) (by decide +kernel) rfl
theorem kc_X8_clauseDone : Cond.code yX8_clauseDone cX8_clauseDone 4 (some .boolean) ∈ tW := tW_t (i := 731) (by decide +kernel) rfl
theorem wp_31 : Cond.selects "RoadOfDoors" ({ cls := "RoadOfDoors", name := "clauseDone", desc := "(II)Z" } : Jvm.MethodName) ({ cls := "RoadOfDoors", name := "clauseDone", desc := "(II)Z" } : Jvm.MethodName) ∈ tW := tW_p (i := 31) (by decide +kernel) rfl
theorem kc_X6_stepsBack : Cond.code yX6_stepsBack cX6_stepsBack 2 (some .boolean) ∈ tW := tW_t (i := 739) (by decide +kernel) rfl
theorem kc_X3_searched : Cond.code yX3_searched cX3_searched 11 (some .long) ∈ tW := tW_t (i := 763) (by decide +kernel) rfl
theorem wp_32 : Cond.selects "RoadOfDoors$Rules" ({ cls := "RoadOfDoors$Rules", name := "searched", desc := "(LRoadOfDoors$Text;)J" } : Jvm.MethodName) ({ cls := "RoadOfDoors$Rules", name := "searched", desc := "(LRoadOfDoors$Text;)J" } : Jvm.MethodName) ∈ tW := tW_p (i := 32) (by decide +kernel) rfl
theorem kc_X3_placeOf : Cond.code yX3_placeOf cX3_placeOf 7 (some .int) ∈ tW := tW_t (i := 759) (by decide +kernel) rfl
theorem kc_J7_fill_d0a16 : Cond.code yJ7_fill_d0a16 cJ7_fill_d0a16 5 none ∈ tW := tW_t (i := 755) (by decide +kernel) rfl
theorem kc_X3_looksAtWaited : Cond.code yX3_looksAtWaited cX3_looksAtWaited 2 (some .boolean) ∈ tW := tW_t (i := 782) (by decide +kernel) rfl
theorem kc_J7_rangeCheck_23922 : Cond.code yJ7_rangeCheck_23922 cJ7_rangeCheck_23922 3 none ∈ tW := tW_t (i := 793) (by decide +kernel) rfl
theorem kc_J7_fill_fda19 : Cond.code yJ7_fill_fda19 cJ7_fill_fda19 5 none ∈ tW := tW_t (i := 790) (by decide +kernel) rfl
theorem kc_X3_leastsAt : Cond.code yX3_leastsAt cX3_leastsAt 4 (some .long) ∈ tW := tW_t (i := 798) (by decide +kernel) rfl
theorem kc_X7_choose : Cond.code yX7_choose cX7_choose 14 none ∈ tW := tW_t (i := 802) (by decide +kernel) rfl
theorem wp_35 : Cond.selects "RoadOfDoors$Ways" ({ cls := "RoadOfDoors$Ways", name := "choose", desc := "(IIJ)V" } : Jvm.MethodName) ({ cls := "RoadOfDoors$Ways", name := "choose", desc := "(IIJ)V" } : Jvm.MethodName) ∈ tW := tW_p (i := 35) (by decide +kernel) rfl
theorem kc_J7_fill_53178 : Cond.code yJ7_fill_53178 cJ7_fill_53178 4 none ∈ tW := tW_t (i := 809) (by decide +kernel) rfl
theorem kc_X7_canPass : Cond.code yX7_canPass cX7_canPass 6 (some .boolean) ∈ tW := tW_t (i := 775) (by decide +kernel) rfl
theorem wp_33 : Cond.selects "RoadOfDoors$Ways" ({ cls := "RoadOfDoors$Ways", name := "canPass", desc := "([III)Z" } : Jvm.MethodName) ({ cls := "RoadOfDoors$Ways", name := "canPass", desc := "([III)Z" } : Jvm.MethodName) ∈ tW := tW_p (i := 33) (by decide +kernel) rfl
theorem kc_X7_cheapest : Cond.code yX7_cheapest cX7_cheapest 5 (some .int) ∈ tW := tW_t (i := 786) (by decide +kernel) rfl
theorem wp_34 : Cond.selects "RoadOfDoors$Ways" ({ cls := "RoadOfDoors$Ways", name := "cheapest", desc := "(I)I" } : Jvm.MethodName) ({ cls := "RoadOfDoors$Ways", name := "cheapest", desc := "(I)I" } : Jvm.MethodName) ∈ tW := tW_p (i := 34) (by decide +kernel) rfl
theorem kc_X7_walk : Cond.code yX7_walk cX7_walk 8 none ∈ tW := tW_t (i := 806) (by decide +kernel) rfl
theorem wp_36 : Cond.selects "RoadOfDoors$Ways" ({ cls := "RoadOfDoors$Ways", name := "walk", desc := "(I)V" } : Jvm.MethodName) ({ cls := "RoadOfDoors$Ways", name := "walk", desc := "(I)V" } : Jvm.MethodName) ∈ tW := tW_p (i := 36) (by decide +kernel) rfl
theorem kc_X7_findCheapest : Cond.code yX7_findCheapest cX7_findCheapest 9 (some .boolean) ∈ tW := tW_t (i := 771) (by decide +kernel) rfl
theorem kc_X3_learn : Cond.code yX3_learn cX3_learn 8 none ∈ tW := tW_t (i := 752) (by decide +kernel) rfl
theorem kc_X7_findSoonest : Cond.code yX7_findSoonest cX7_findSoonest 11 (some .boolean) ∈ tW := tW_t (i := 767) (by decide +kernel) rfl
theorem kc_X2_addGuest : Cond.code yX2_addGuest cX2_addGuest 6 none ∈ tW := tW_t (i := 818) (by decide +kernel) rfl
theorem kc_X0_startTrial : Cond.code yX0_startTrial cX0_startTrial 6 none ∈ tW := tW_t (i := 835) (by decide +kernel) rfl
theorem wp_37 : Cond.selects "RoadOfDoors$Earnings" ({ cls := "RoadOfDoors$Earnings", name := "startTrial", desc := "(Z)V" } : Jvm.MethodName) ({ cls := "RoadOfDoors$Earnings", name := "startTrial", desc := "(Z)V" } : Jvm.MethodName) ∈ tW := tW_p (i := 37) (by decide +kernel) rfl
theorem kc_X0_earned : Cond.code yX0_earned cX0_earned 7 (some .int) ∈ tW := tW_t (i := 842) (by decide +kernel) rfl
theorem wp_38 : Cond.selects "RoadOfDoors$Earnings" ({ cls := "RoadOfDoors$Earnings", name := "earned", desc := "(I)I" } : Jvm.MethodName) ({ cls := "RoadOfDoors$Earnings", name := "earned", desc := "(I)I" } : Jvm.MethodName) ∈ tW := tW_p (i := 38) (by decide +kernel) rfl
theorem kc_X0_earnedNow : Cond.code yX0_earnedNow cX0_earnedNow 2 (some .int) ∈ tW := tW_t (i := 831) (by decide +kernel) rfl
theorem kc_X0_bestRule : Cond.code yX0_bestRule cX0_bestRule 7 (some .int) ∈ tW := tW_t (i := 856) (by decide +kernel) rfl
theorem wp_39 : Cond.selects "RoadOfDoors$Earnings" ({ cls := "RoadOfDoors$Earnings", name := "bestRule", desc := "(I)I" } : Jvm.MethodName) ({ cls := "RoadOfDoors$Earnings", name := "bestRule", desc := "(I)I" } : Jvm.MethodName) ∈ tW := tW_p (i := 39) (by decide +kernel) rfl
theorem kc_X0_firstUneven : Cond.code yX0_firstUneven cX0_firstUneven 2 (some .int) ∈ tW := tW_t (i := 852) (by decide +kernel) rfl
theorem kc_X0_trialNumber : Cond.code yX0_trialNumber cX0_trialNumber 3 (some .int) ∈ tW := tW_t (i := 868) (by decide +kernel) rfl
theorem wp_40 : Cond.selects "RoadOfDoors$Earnings" ({ cls := "RoadOfDoors$Earnings", name := "trialNumber", desc := "()I" } : Jvm.MethodName) ({ cls := "RoadOfDoors$Earnings", name := "trialNumber", desc := "()I" } : Jvm.MethodName) ∈ tW := tW_p (i := 40) (by decide +kernel) rfl
theorem kc_X0_isPast : Cond.code yX0_isPast cX0_isPast 3 (some .boolean) ∈ tW := tW_t (i := 872) (by decide +kernel) rfl
theorem wp_41 : Cond.selects "RoadOfDoors$Earnings" ({ cls := "RoadOfDoors$Earnings", name := "isPast", desc := "(I)Z" } : Jvm.MethodName) ({ cls := "RoadOfDoors$Earnings", name := "isPast", desc := "(I)Z" } : Jvm.MethodName) ∈ tW := tW_p (i := 41) (by decide +kernel) rfl
theorem kc_X0_roundsChanged : Cond.code yX0_roundsChanged cX0_roundsChanged 5 (some .int) ∈ tW := tW_t (i := 864) (by decide +kernel) rfl
theorem kc_X8_agrees : Cond.code yX8_agrees cX8_agrees 8 (some .boolean) ∈ tW := tW_t (i := 884) (by decide +kernel) rfl
theorem wp_42 : Cond.selects "RoadOfDoors" ({ cls := "RoadOfDoors", name := "agrees", desc := "(III)Z" } : Jvm.MethodName) ({ cls := "RoadOfDoors", name := "agrees", desc := "(III)Z" } : Jvm.MethodName) ∈ tW := tW_p (i := 42) (by decide +kernel) rfl
theorem kc_X6_becomes : Cond.code yX6_becomes cX6_becomes 2 none ∈ tW := tW_t (i := 897) (by decide +kernel) rfl
theorem kc_X2_becomes : Cond.code yX2_becomes cX2_becomes 3 none ∈ tW := tW_t (i := 892) (by decide +kernel) rfl
theorem kc_X8_aboutPart : Cond.code yX8_aboutPart cX8_aboutPart 2 (some .int) ∈ tW := tW_t (i := 909) (by decide +kernel) rfl
theorem wp_43 : Cond.selects "RoadOfDoors" ({ cls := "RoadOfDoors", name := "aboutPart", desc := "(I)I" } : Jvm.MethodName) ({ cls := "RoadOfDoors", name := "aboutPart", desc := "(I)I" } : Jvm.MethodName) ∈ tW := tW_p (i := 43) (by decide +kernel) rfl
theorem kc_X9_isIn : Cond.code yX9_isIn cX9_isIn 3 (some .boolean) ∈ tW := tW_t (i := 1027) (by decide +kernel) rfl
theorem kc_X9_isHour : Cond.code yX9_isHour cX9_isHour 1 (some .boolean) ∈ tW := tW_t (i := 1024) (by decide +kernel) rfl
theorem kc_X9_isDoor : Cond.code yX9_isDoor cX9_isDoor 2 (some .boolean) ∈ tW := tW_t (i := 1035) (by decide +kernel) rfl
theorem wp_44 : Cond.selects "RoadOfDoorsModel" ({ cls := "RoadOfDoorsModel", name := "isDoor", desc := "(I)Z" } : Jvm.MethodName) ({ cls := "RoadOfDoorsModel", name := "isDoor", desc := "(I)Z" } : Jvm.MethodName) ∈ tW := tW_p (i := 44) (by decide +kernel) rfl
theorem kc_X9_four : Cond.code yX9_four cX9_four 3 none ∈ tW := tW_t (i := 1051) (by decide +kernel) rfl
theorem wp_45 : Cond.selects "RoadOfDoorsModel" ({ cls := "RoadOfDoorsModel", name := "four", desc := "(I)V" } : Jvm.MethodName) ({ cls := "RoadOfDoorsModel", name := "four", desc := "(I)V" } : Jvm.MethodName) ∈ tW := tW_p (i := 45) (by decide +kernel) rfl
theorem kc_X9_byteAt : Cond.code yX9_byteAt cX9_byteAt 2 (some .int) ∈ tW := tW_t (i := 1071) (by decide +kernel) rfl
theorem wp_48 : Cond.selects "RoadOfDoorsModel" ({ cls := "RoadOfDoorsModel", name := "byteAt", desc := "(I)I" } : Jvm.MethodName) ({ cls := "RoadOfDoorsModel", name := "byteAt", desc := "(I)I" } : Jvm.MethodName) ∈ tW := tW_p (i := 48) (by decide +kernel) rfl
theorem kc_X9_isDigit : Cond.code yX9_isDigit cX9_isDigit 1 (some .boolean) ∈ tW := tW_t (i := 1074) (by decide +kernel) rfl
theorem kc_X9_isLetter : Cond.code yX9_isLetter cX9_isLetter 1 (some .boolean) ∈ tW := tW_t (i := 1078) (by decide +kernel) rfl
theorem kc_X9_w3 : Cond.code yX9_w3 cX9_w3 3 (some .long) ∈ tW := tW_t (i := 1092) (by decide +kernel) rfl
theorem kc_X9_w5 : Cond.code yX9_w5 cX9_w5 5 (some .long) ∈ tW := tW_t (i := 1089) (by decide +kernel) rfl
theorem kc_X9_isWord : Cond.code yX9_isWord cX9_isWord 3 (some .boolean) ∈ tW := tW_t (i := 1096) (by decide +kernel) rfl
theorem wp_51 : Cond.selects "RoadOfDoorsModel" ({ cls := "RoadOfDoorsModel", name := "isWord", desc := "(J)Z" } : Jvm.MethodName) ({ cls := "RoadOfDoorsModel", name := "isWord", desc := "(J)Z" } : Jvm.MethodName) ∈ tW := tW_p (i := 51) (by decide +kernel) rfl
theorem kc_X9_w4 : Cond.code yX9_w4 cX9_w4 4 (some .long) ∈ tW := tW_t (i := 1099) (by decide +kernel) rfl
theorem kc_X9_hasParen : Cond.code yX9_hasParen cX9_hasParen 2 (some .boolean) ∈ tW := tW_t (i := 1119) (by decide +kernel) rfl
theorem wp_56 : Cond.selects "RoadOfDoorsModel" ({ cls := "RoadOfDoorsModel", name := "hasParen", desc := "()Z" } : Jvm.MethodName) ({ cls := "RoadOfDoorsModel", name := "hasParen", desc := "()Z" } : Jvm.MethodName) ∈ tW := tW_p (i := 56) (by decide +kernel) rfl
theorem kc_X9_emit : Cond.code yX9_emit cX9_emit 3 none ∈ tW := tW_t (i := 1131) (by decide +kernel) rfl
theorem wp_59 : Cond.selects "RoadOfDoorsModel" ({ cls := "RoadOfDoorsModel", name := "emit", desc := "(II)V" } : Jvm.MethodName) ({ cls := "RoadOfDoorsModel", name := "emit", desc := "(II)V" } : Jvm.MethodName) ∈ tW := tW_p (i := 59) (by decide +kernel) rfl
theorem kc_X9_settle : Cond.code yX9_settle cX9_settle 2 none ∈ tW := tW_t (i := 1127) (by decide +kernel) rfl
theorem wp_58 : Cond.selects "RoadOfDoorsModel" ({ cls := "RoadOfDoorsModel", name := "settle", desc := "(I)V" } : Jvm.MethodName) ({ cls := "RoadOfDoorsModel", name := "settle", desc := "(I)V" } : Jvm.MethodName) ∈ tW := tW_p (i := 58) (by decide +kernel) rfl
theorem kc_X9_push : Cond.code yX9_push cX9_push 2 none ∈ tW := tW_t (i := 1135) (by decide +kernel) rfl
theorem wp_60 : Cond.selects "RoadOfDoorsModel" ({ cls := "RoadOfDoorsModel", name := "push", desc := "(I)V" } : Jvm.MethodName) ({ cls := "RoadOfDoorsModel", name := "push", desc := "(I)V" } : Jvm.MethodName) ∈ tW := tW_p (i := 60) (by decide +kernel) rfl
theorem kc_X9_nextToken : Cond.code yX9_nextToken cX9_nextToken 3 none ∈ tW := tW_t (i := 1067) (by decide +kernel) rfl
theorem wp_47 : Cond.selects "RoadOfDoorsModel" ({ cls := "RoadOfDoorsModel", name := "nextToken", desc := "()V" } : Jvm.MethodName) ({ cls := "RoadOfDoorsModel", name := "nextToken", desc := "()V" } : Jvm.MethodName) ∈ tW := tW_p (i := 47) (by decide +kernel) rfl
theorem kc_X9_whole : Cond.code yX9_whole cX9_whole 1 none ∈ tW := tW_t (i := 1139) (by decide +kernel) rfl
theorem wp_61 : Cond.selects "RoadOfDoorsModel" ({ cls := "RoadOfDoorsModel", name := "whole", desc := "()V" } : Jvm.MethodName) ({ cls := "RoadOfDoorsModel", name := "whole", desc := "()V" } : Jvm.MethodName) ∈ tW := tW_p (i := 61) (by decide +kernel) rfl
theorem kc_X9_w6 : Cond.code yX9_w6 cX9_w6 6 (some .long) ∈ tW := tW_t (i := 1150) (by decide +kernel) rfl
theorem kc_X9_nameOf : Cond.code yX9_nameOf cX9_nameOf 1 (some .int) ∈ tW := tW_t (i := 1147) (by decide +kernel) rfl
theorem wp_63 : Cond.selects "RoadOfDoorsModel" ({ cls := "RoadOfDoorsModel", name := "nameOf", desc := "()I" } : Jvm.MethodName) ({ cls := "RoadOfDoorsModel", name := "nameOf", desc := "()I" } : Jvm.MethodName) ∈ tW := tW_p (i := 63) (by decide +kernel) rfl
theorem kc_X9_beginOne : Cond.code yX9_beginOne cX9_beginOne 2 (some .int) ∈ tW := tW_t (i := 1143) (by decide +kernel) rfl
theorem wp_62 : Cond.selects "RoadOfDoorsModel" ({ cls := "RoadOfDoorsModel", name := "beginOne", desc := "()I" } : Jvm.MethodName) ({ cls := "RoadOfDoorsModel", name := "beginOne", desc := "()I" } : Jvm.MethodName) ∈ tW := tW_p (i := 62) (by decide +kernel) rfl
theorem kc_X9_behindOne : Cond.code yX9_behindOne cX9_behindOne 2 (some .int) ∈ tW := tW_t (i := 1123) (by decide +kernel) rfl
theorem wp_57 : Cond.selects "RoadOfDoorsModel" ({ cls := "RoadOfDoorsModel", name := "behindOne", desc := "()I" } : Jvm.MethodName) ({ cls := "RoadOfDoorsModel", name := "behindOne", desc := "()I" } : Jvm.MethodName) ∈ tW := tW_p (i := 57) (by decide +kernel) rfl
theorem kc_X9_goesOn : Cond.code yX9_goesOn cX9_goesOn 1 (some .boolean) ∈ tW := tW_t (i := 1115) (by decide +kernel) rfl
theorem wp_55 : Cond.selects "RoadOfDoorsModel" ({ cls := "RoadOfDoorsModel", name := "goesOn", desc := "()Z" } : Jvm.MethodName) ({ cls := "RoadOfDoorsModel", name := "goesOn", desc := "()Z" } : Jvm.MethodName) ∈ tW := tW_p (i := 55) (by decide +kernel) rfl
theorem kc_X9_summed : Cond.code yX9_summed cX9_summed 2 (some .int) ∈ tW := tW_t (i := 1111) (by decide +kernel) rfl
theorem wp_54 : Cond.selects "RoadOfDoorsModel" ({ cls := "RoadOfDoorsModel", name := "summed", desc := "()I" } : Jvm.MethodName) ({ cls := "RoadOfDoorsModel", name := "summed", desc := "()I" } : Jvm.MethodName) ∈ tW := tW_p (i := 54) (by decide +kernel) rfl
theorem kc_X9_compareOf : Cond.code yX9_compareOf cX9_compareOf 1 (some .int) ∈ tW := tW_t (i := 1154) (by decide +kernel) rfl
theorem wp_64 : Cond.selects "RoadOfDoorsModel" ({ cls := "RoadOfDoorsModel", name := "compareOf", desc := "()I" } : Jvm.MethodName) ({ cls := "RoadOfDoorsModel", name := "compareOf", desc := "()I" } : Jvm.MethodName) ∈ tW := tW_p (i := 64) (by decide +kernel) rfl
theorem kc_X9_asks : Cond.code yX9_asks cX9_asks 5 (some .int) ∈ tW := tW_t (i := 1107) (by decide +kernel) rfl
theorem wp_53 : Cond.selects "RoadOfDoorsModel" ({ cls := "RoadOfDoorsModel", name := "asks", desc := "()I" } : Jvm.MethodName) ({ cls := "RoadOfDoorsModel", name := "asks", desc := "()I" } : Jvm.MethodName) ∈ tW := tW_p (i := 53) (by decide +kernel) rfl
theorem kc_X9_figure : Cond.code yX9_figure cX9_figure 4 (some .int) ∈ tW := tW_t (i := 1163) (by decide +kernel) rfl
theorem wp_66 : Cond.selects "RoadOfDoorsModel" ({ cls := "RoadOfDoorsModel", name := "figure", desc := "(III)I" } : Jvm.MethodName) ({ cls := "RoadOfDoorsModel", name := "figure", desc := "(III)I" } : Jvm.MethodName) ∈ tW := tW_p (i := 66) (by decide +kernel) rfl
theorem kc_X9_sortOf : Cond.code yX9_sortOf cX9_sortOf 1 (some .int) ∈ tW := tW_t (i := 1086) (by decide +kernel) rfl
theorem wp_50 : Cond.selects "RoadOfDoorsModel" ({ cls := "RoadOfDoorsModel", name := "sortOf", desc := "()I" } : Jvm.MethodName) ({ cls := "RoadOfDoorsModel", name := "sortOf", desc := "()I" } : Jvm.MethodName) ∈ tW := tW_p (i := 50) (by decide +kernel) rfl
theorem kc_X9_knocked : Cond.code yX9_knocked cX9_knocked 3 (some .int) ∈ tW := tW_t (i := 1159) (by decide +kernel) rfl
theorem wp_65 : Cond.selects "RoadOfDoorsModel" ({ cls := "RoadOfDoorsModel", name := "knocked", desc := "(I)I" } : Jvm.MethodName) ({ cls := "RoadOfDoorsModel", name := "knocked", desc := "(I)I" } : Jvm.MethodName) ∈ tW := tW_p (i := 65) (by decide +kernel) rfl
theorem kc_X9_either : Cond.code yX9_either cX9_either 6 (some .int) ∈ tW := tW_t (i := 1103) (by decide +kernel) rfl
theorem wp_52 : Cond.selects "RoadOfDoorsModel" ({ cls := "RoadOfDoorsModel", name := "either", desc := "()I" } : Jvm.MethodName) ({ cls := "RoadOfDoorsModel", name := "either", desc := "()I" } : Jvm.MethodName) ∈ tW := tW_p (i := 52) (by decide +kernel) rfl
theorem kc_X9_clause : Cond.code yX9_clause cX9_clause 6 (some .int) ∈ tW := tW_t (i := 1082) (by decide +kernel) rfl
theorem wp_49 : Cond.selects "RoadOfDoorsModel" ({ cls := "RoadOfDoorsModel", name := "clause", desc := "()I" } : Jvm.MethodName) ({ cls := "RoadOfDoorsModel", name := "clause", desc := "()I" } : Jvm.MethodName) ∈ tW := tW_p (i := 49) (by decide +kernel) rfl
theorem kc_X9_readText : Cond.code yX9_readText cX9_readText 2 (some .int) ∈ tW := tW_t (i := 1063) (by decide +kernel) rfl
theorem wp_46 : Cond.selects "RoadOfDoorsModel" ({ cls := "RoadOfDoorsModel", name := "readText", desc := "()I" } : Jvm.MethodName) ({ cls := "RoadOfDoorsModel", name := "readText", desc := "()I" } : Jvm.MethodName) ∈ tW := tW_p (i := 46) (by decide +kernel) rfl
theorem kc_X9_isRule : Cond.code yX9_isRule cX9_isRule 2 (some .boolean) ∈ tW := tW_t (i := 1175) (by decide +kernel) rfl
theorem wp_67 : Cond.selects "RoadOfDoorsModel" ({ cls := "RoadOfDoorsModel", name := "isRule", desc := "(I)Z" } : Jvm.MethodName) ({ cls := "RoadOfDoorsModel", name := "isRule", desc := "(I)Z" } : Jvm.MethodName) ∈ tW := tW_p (i := 67) (by decide +kernel) rfl
theorem kc_X9_clip : Cond.code yX9_clip cX9_clip 2 (some .long) ∈ tW := tW_t (i := 1196) (by decide +kernel) rfl
theorem kc_X9_isAsked : Cond.code yX9_isAsked cX9_isAsked 5 (some .boolean) ∈ tW := tW_t (i := 1201) (by decide +kernel) rfl
theorem kc_X9_two : Cond.code yX9_two cX9_two 5 (some .long) ∈ tW := tW_t (i := 1193) (by decide +kernel) rfl
theorem kc_X9_work : Cond.code yX9_work cX9_work 10 none ∈ tW := tW_t (i := 1190) (by decide +kernel) rfl
theorem wp_69 : Cond.selects "RoadOfDoorsModel" ({ cls := "RoadOfDoorsModel", name := "work", desc := "(II)V" } : Jvm.MethodName) ({ cls := "RoadOfDoorsModel", name := "work", desc := "(II)V" } : Jvm.MethodName) ∈ tW := tW_p (i := 69) (by decide +kernel) rfl
theorem kc_X9_isKnock : Cond.code yX9_isKnock cX9_isKnock 2 (some .boolean) ∈ tW := tW_t (i := 1182) (by decide +kernel) rfl
theorem kc_X9_isOpen : Cond.code yX9_isOpen cX9_isOpen 9 (some .boolean) ∈ tW := tW_t (i := 1186) (by decide +kernel) rfl
theorem wp_68 : Cond.selects "RoadOfDoorsModel" ({ cls := "RoadOfDoorsModel", name := "isOpen", desc := "(IIIIIII)Z" } : Jvm.MethodName) ({ cls := "RoadOfDoorsModel", name := "isOpen", desc := "(IIIIIII)Z" } : Jvm.MethodName) ∈ tW := tW_p (i := 68) (by decide +kernel) rfl
theorem kc_X9_isTraveller : Cond.code yX9_isTraveller cX9_isTraveller 5 (some .boolean) ∈ tW := tW_t (i := 1209) (by decide +kernel) rfl
theorem wp_70 : Cond.selects "RoadOfDoorsModel" ({ cls := "RoadOfDoorsModel", name := "isTraveller", desc := "(IIII)Z" } : Jvm.MethodName) ({ cls := "RoadOfDoorsModel", name := "isTraveller", desc := "(IIII)Z" } : Jvm.MethodName) ∈ tW := tW_p (i := 70) (by decide +kernel) rfl
theorem kc_X9_keepStep : Cond.code yX9_keepStep cX9_keepStep 2 none ∈ tW := tW_t (i := 1221) (by decide +kernel) rfl
theorem wp_71 : Cond.selects "RoadOfDoorsModel" ({ cls := "RoadOfDoorsModel", name := "keepStep", desc := "()V" } : Jvm.MethodName) ({ cls := "RoadOfDoorsModel", name := "keepStep", desc := "()V" } : Jvm.MethodName) ∈ tW := tW_p (i := 71) (by decide +kernel) rfl
theorem kc_X9_has : Cond.code yX9_has cX9_has 2 (some .boolean) ∈ tW := tW_t (i := 1224) (by decide +kernel) rfl
theorem kc_X9_hourBy : Cond.code yX9_hourBy cX9_hourBy 2 none ∈ tW := tW_t (i := 1229) (by decide +kernel) rfl
theorem wp_72 : Cond.selects "RoadOfDoorsModel" ({ cls := "RoadOfDoorsModel", name := "hourBy", desc := "(Z)V" } : Jvm.MethodName) ({ cls := "RoadOfDoorsModel", name := "hourBy", desc := "(Z)V" } : Jvm.MethodName) ∈ tW := tW_p (i := 72) (by decide +kernel) rfl
theorem kc_X9_opens : Cond.code yX9_opens cX9_opens 7 (some .boolean) ∈ tW := tW_t (i := 1179) (by decide +kernel) rfl
theorem kc_X9_later : Cond.code yX9_later cX9_later 3 (some .int) ∈ tW := tW_t (i := 1233) (by decide +kernel) rfl
theorem kc_X9_knock : Cond.code yX9_knock cX9_knock 5 (some .int) ∈ tW := tW_t (i := 1217) (by decide +kernel) rfl
theorem kc_X9_isPlayed : Cond.code yX9_isPlayed cX9_isPlayed 2 (some .boolean) ∈ tW := tW_t (i := 1241) (by decide +kernel) rfl
theorem wp_73 : Cond.selects "RoadOfDoorsModel" ({ cls := "RoadOfDoorsModel", name := "isPlayed", desc := "(I)Z" } : Jvm.MethodName) ({ cls := "RoadOfDoorsModel", name := "isPlayed", desc := "(I)Z" } : Jvm.MethodName) ∈ tW := tW_p (i := 73) (by decide +kernel) rfl
theorem kc_X9_leastGift : Cond.code yX9_leastGift cX9_leastGift 9 (some .int) ∈ tW := tW_t (i := 1276) (by decide +kernel) rfl
theorem wp_78 : Cond.selects "RoadOfDoorsModel" ({ cls := "RoadOfDoorsModel", name := "leastGift", desc := "(IIIII)I" } : Jvm.MethodName) ({ cls := "RoadOfDoorsModel", name := "leastGift", desc := "(IIIII)I" } : Jvm.MethodName) ∈ tW := tW_p (i := 78) (by decide +kernel) rfl
theorem kc_X9_leftAt : Cond.code yX9_leftAt cX9_leftAt 3 (some .int) ∈ tW := tW_t (i := 1272) (by decide +kernel) rfl
theorem kc_X9_by : Cond.code yX9_by cX9_by 7 (some .int) ∈ tW := tW_t (i := 1269) (by decide +kernel) rfl
theorem wp_77 : Cond.selects "RoadOfDoorsModel" ({ cls := "RoadOfDoorsModel", name := "by", desc := "(IIIII)I" } : Jvm.MethodName) ({ cls := "RoadOfDoorsModel", name := "by", desc := "(IIIII)I" } : Jvm.MethodName) ∈ tW := tW_p (i := 77) (by decide +kernel) rfl
theorem kc_X9_reckon : Cond.code yX9_reckon cX9_reckon 10 (some .int) ∈ tW := tW_t (i := 1264) (by decide +kernel) rfl
theorem wp_76 : Cond.selects "RoadOfDoorsModel" ({ cls := "RoadOfDoorsModel", name := "reckon", desc := "(IIZ)I" } : Jvm.MethodName) ({ cls := "RoadOfDoorsModel", name := "reckon", desc := "(IIZ)I" } : Jvm.MethodName) ∈ tW := tW_p (i := 76) (by decide +kernel) rfl
theorem kc_X9_follow : Cond.code yX9_follow cX9_follow 6 none ∈ tW := tW_t (i := 1280) (by decide +kernel) rfl
theorem wp_79 : Cond.selects "RoadOfDoorsModel" ({ cls := "RoadOfDoorsModel", name := "follow", desc := "(I)V" } : Jvm.MethodName) ({ cls := "RoadOfDoorsModel", name := "follow", desc := "(I)V" } : Jvm.MethodName) ∈ tW := tW_p (i := 79) (by decide +kernel) rfl
theorem kc_X9_forgetLeasts : Cond.code yX9_forgetLeasts cX9_forgetLeasts 4 none ∈ tW := tW_t (i := 1255) (by decide +kernel) rfl
theorem wp_74 : Cond.selects "RoadOfDoorsModel" ({ cls := "RoadOfDoorsModel", name := "forgetLeasts", desc := "(II)V" } : Jvm.MethodName) ({ cls := "RoadOfDoorsModel", name := "forgetLeasts", desc := "(II)V" } : Jvm.MethodName) ∈ tW := tW_p (i := 74) (by decide +kernel) rfl
theorem kc_X9_cheapest : Cond.code yX9_cheapest cX9_cheapest 4 (some .int) ∈ tW := tW_t (i := 1284) (by decide +kernel) rfl
theorem wp_80 : Cond.selects "RoadOfDoorsModel" ({ cls := "RoadOfDoorsModel", name := "cheapest", desc := "(II)I" } : Jvm.MethodName) ({ cls := "RoadOfDoorsModel", name := "cheapest", desc := "(II)I" } : Jvm.MethodName) ∈ tW := tW_p (i := 80) (by decide +kernel) rfl
theorem kc_X9_soonestOf : Cond.code yX9_soonestOf cX9_soonestOf 5 (some .int) ∈ tW := tW_t (i := 1260) (by decide +kernel) rfl
theorem wp_75 : Cond.selects "RoadOfDoorsModel" ({ cls := "RoadOfDoorsModel", name := "soonestOf", desc := "(II)I" } : Jvm.MethodName) ({ cls := "RoadOfDoorsModel", name := "soonestOf", desc := "(II)I" } : Jvm.MethodName) ∈ tW := tW_p (i := 75) (by decide +kernel) rfl
theorem kc_X9_beginGuests : Cond.code yX9_beginGuests cX9_beginGuests 2 none ∈ tW := tW_t (i := 1300) (by decide +kernel) rfl
theorem wp_81 : Cond.selects "RoadOfDoorsModel" ({ cls := "RoadOfDoorsModel", name := "beginGuests", desc := "()V" } : Jvm.MethodName) ({ cls := "RoadOfDoorsModel", name := "beginGuests", desc := "()V" } : Jvm.MethodName) ∈ tW := tW_p (i := 81) (by decide +kernel) rfl
theorem kc_X9_earned : Cond.code yX9_earned cX9_earned 5 (some .int) ∈ tW := tW_t (i := 1304) (by decide +kernel) rfl
theorem wp_82 : Cond.selects "RoadOfDoorsModel" ({ cls := "RoadOfDoorsModel", name := "earned", desc := "(I)I" } : Jvm.MethodName) ({ cls := "RoadOfDoorsModel", name := "earned", desc := "(I)I" } : Jvm.MethodName) ∈ tW := tW_p (i := 82) (by decide +kernel) rfl
theorem kc_X9_bestRule : Cond.code yX9_bestRule cX9_bestRule 7 (some .int) ∈ tW := tW_t (i := 1312) (by decide +kernel) rfl
theorem wp_83 : Cond.selects "RoadOfDoorsModel" ({ cls := "RoadOfDoorsModel", name := "bestRule", desc := "(I)I" } : Jvm.MethodName) ({ cls := "RoadOfDoorsModel", name := "bestRule", desc := "(I)I" } : Jvm.MethodName) ∈ tW := tW_p (i := 83) (by decide +kernel) rfl
theorem kc_X9_canKeep : Cond.code yX9_canKeep cX9_canKeep 6 (some .boolean) ∈ tW := tW_t (i := 1328) (by decide +kernel) rfl
theorem wp_84 : Cond.selects "RoadOfDoorsModel" ({ cls := "RoadOfDoorsModel", name := "canKeep", desc := "(III)Z" } : Jvm.MethodName) ({ cls := "RoadOfDoorsModel", name := "canKeep", desc := "(III)Z" } : Jvm.MethodName) ∈ tW := tW_p (i := 84) (by decide +kernel) rfl
theorem kc_X9_copy : Cond.code yX9_copy cX9_copy 3 none ∈ tW := tW_t (i := 922) (by decide +kernel) rfl
