theorem tb_1 {w : Cond} (h : w ∈ tables_1_1) : w ∈ lw_tbl := List.mem_append_right _ (show w ∈ tables_1 from List.mem_append_left _ h)
theorem tb_2 {w : Cond} (h : w ∈ tables_1_2) : w ∈ lw_tbl := List.mem_append_right _ (show w ∈ tables_1 from List.mem_append_right _ (List.mem_append_left _ h))
theorem tb_3 {w : Cond} (h : w ∈ tables_1_3) : w ∈ lw_tbl := List.mem_append_right _ (show w ∈ tables_1 from List.mem_append_right _ (List.mem_append_right _ (List.mem_append_left _ h)))
theorem tb_4 {w : Cond} (h : w ∈ tables_1_4) : w ∈ lw_tbl := List.mem_append_right _ (show w ∈ tables_1 from List.mem_append_right _ (List.mem_append_right _ (List.mem_append_right _ (List.mem_append_left _ h))))
theorem tb_5 {w : Cond} (h : w ∈ tables_1_5) : w ∈ lw_tbl := List.mem_append_right _ (show w ∈ tables_1 from List.mem_append_right _ (List.mem_append_right _ (List.mem_append_right _ (List.mem_append_right _ (List.mem_append_left _ h)))))
theorem tb_6 {w : Cond} (h : w ∈ tables_1_6) : w ∈ lw_tbl := List.mem_append_right _ (show w ∈ tables_1 from List.mem_append_right _ (List.mem_append_right _ (List.mem_append_right _ (List.mem_append_right _ (List.mem_append_right _ (List.mem_append_left _ h))))))
theorem tb_7 {w : Cond} (h : w ∈ tables_1_7) : w ∈ lw_tbl := List.mem_append_right _ (show w ∈ tables_1 from List.mem_append_right _ (List.mem_append_right _ (List.mem_append_right _ (List.mem_append_right _ (List.mem_append_right _ (List.mem_append_right _ (List.mem_append_left _ h)))))))
theorem tb_8 {w : Cond} (h : w ∈ tables_1_8) : w ∈ lw_tbl := List.mem_append_right _ (show w ∈ tables_1 from List.mem_append_right _ (List.mem_append_right _ (List.mem_append_right _ (List.mem_append_right _ (List.mem_append_right _ (List.mem_append_right _ (List.mem_append_right _ (List.mem_append_left _ h))))))))
theorem tb_9 {w : Cond} (h : w ∈ tables_1_9) : w ∈ lw_tbl := List.mem_append_right _ (show w ∈ tables_1 from List.mem_append_right _ (List.mem_append_right _ (List.mem_append_right _ (List.mem_append_right _ (List.mem_append_right _ (List.mem_append_right _ (List.mem_append_right _ (List.mem_append_right _ (List.mem_append_left _ h)))))))))
theorem tb_10 {w : Cond} (h : w ∈ tables_1_10) : w ∈ lw_tbl := List.mem_append_right _ (show w ∈ tables_1 from List.mem_append_right _ (List.mem_append_right _ (List.mem_append_right _ (List.mem_append_right _ (List.mem_append_right _ (List.mem_append_right _ (List.mem_append_right _ (List.mem_append_right _ (List.mem_append_right _ (List.mem_append_left _ h))))))))))
theorem tb_11 {w : Cond} (h : w ∈ tables_1_11) : w ∈ lw_tbl := List.mem_append_right _ (show w ∈ tables_1 from List.mem_append_right _ (List.mem_append_right _ (List.mem_append_right _ (List.mem_append_right _ (List.mem_append_right _ (List.mem_append_right _ (List.mem_append_right _ (List.mem_append_right _ (List.mem_append_right _ (List.mem_append_right _ (h)))))))))))
theorem tw_of {w : Cond} (h : w ∈ lw_tbl) (hg : goodWord w = true) : w ∈ tw := List.mem_filter.mpr ⟨h, hg⟩
theorem nw_of {w : Cond} (h : w ∈ lw_tbl) (hg : isNest w = true) : w ∈ nw := List.mem_filter.mpr ⟨h, hg⟩
theorem k439 : Cond.laysFinal "DrawingMachine" "DrawingMachine" "memory" "[I" ∈ tw := tw_of (tb_2 (List.mem_of_getElem? (i := 199) rfl)) rfl
theorem k441 : Cond.laysFinal "DrawingMachine" "DrawingMachine" "told" "LDrawingMachine$Told;" ∈ tw := tw_of (tb_2 (List.mem_of_getElem? (i := 201) rfl)) rfl
theorem k443 : Cond.laysFinal "DrawingMachine" "DrawingMachine" "picture" "LDrawingMachine$Picture;" ∈ tw := tw_of (tb_2 (List.mem_of_getElem? (i := 203) rfl)) rfl
theorem k445 : Cond.laysFinal "DrawingMachine" "DrawingMachine" "course" "LDrawingMachine$Course;" ∈ tw := tw_of (tb_2 (List.mem_of_getElem? (i := 205) rfl)) rfl
theorem k447 : Cond.laysFinal "DrawingMachine" "DrawingMachine" "checker" "LDrawingMachine$Checker;" ∈ tw := tw_of (tb_2 (List.mem_of_getElem? (i := 207) rfl)) rfl
theorem k449 : Cond.laysFinal "DrawingMachine" "DrawingMachine" "drawing" "LDrawingMachine$Drawing;" ∈ tw := tw_of (tb_2 (List.mem_of_getElem? (i := 209) rfl)) rfl
theorem k451 : Cond.lays "DrawingMachine" "DrawingMachine" "cornersProgram" "LDrawingMachine$Program;" ∈ tw := tw_of (tb_2 (List.mem_of_getElem? (i := 211) rfl)) rfl
theorem k453 : Cond.lays "DrawingMachine" "DrawingMachine" "placesProgram" "LDrawingMachine$Program;" ∈ tw := tw_of (tb_2 (List.mem_of_getElem? (i := 213) rfl)) rfl
theorem k455 : Cond.lays "DrawingMachine" "DrawingMachine" "spareProgram" "LDrawingMachine$Program;" ∈ tw := tw_of (tb_2 (List.mem_of_getElem? (i := 215) rfl)) rfl
theorem k68 : Cond.laysFinal "DrawingMachine$Told" "DrawingMachine$Told" "kept" "[I" ∈ tw := tw_of (tb_1 (List.mem_of_getElem? (i := 68) rfl)) rfl
theorem k89 : Cond.lays "DrawingMachine$Picture" "DrawingMachine$Picture" "wide" "I" ∈ tw := tw_of (tb_1 (List.mem_of_getElem? (i := 89) rfl)) rfl
theorem k91 : Cond.lays "DrawingMachine$Picture" "DrawingMachine$Picture" "high" "I" ∈ tw := tw_of (tb_1 (List.mem_of_getElem? (i := 91) rfl)) rfl
theorem k93 : Cond.lays "DrawingMachine$Picture" "DrawingMachine$Picture" "colours" "[I" ∈ tw := tw_of (tb_1 (List.mem_of_getElem? (i := 93) rfl)) rfl
theorem k95 : Cond.lays "DrawingMachine$Picture" "DrawingMachine$Picture" "depths" "[I" ∈ tw := tw_of (tb_1 (List.mem_of_getElem? (i := 95) rfl)) rfl
theorem k97 : Cond.lays "DrawingMachine$Picture" "DrawingMachine$Picture" "stencils" "[I" ∈ tw := tw_of (tb_1 (List.mem_of_getElem? (i := 97) rfl)) rfl
theorem k99 : Cond.laysFinal "DrawingMachine$Picture" "DrawingMachine$Picture" "told" "LDrawingMachine$Told;" ∈ tw := tw_of (tb_1 (List.mem_of_getElem? (i := 99) rfl)) rfl
theorem k101 : Cond.laysFinal "DrawingMachine$Picture" "DrawingMachine$Picture" "kept" "[I" ∈ tw := tw_of (tb_1 (List.mem_of_getElem? (i := 101) rfl)) rfl
theorem k137 : Cond.laysFinal "DrawingMachine$Course" "DrawingMachine$Course" "given" "[I" ∈ tw := tw_of (tb_1 (List.mem_of_getElem? (i := 137) rfl)) rfl
theorem k139 : Cond.lays "DrawingMachine$Course" "DrawingMachine$Course" "words" "I" ∈ tw := tw_of (tb_1 (List.mem_of_getElem? (i := 139) rfl)) rfl
theorem k141 : Cond.lays "DrawingMachine$Course" "DrawingMachine$Course" "kind" "I" ∈ tw := tw_of (tb_1 (List.mem_of_getElem? (i := 141) rfl)) rfl
theorem k143 : Cond.lays "DrawingMachine$Course" "DrawingMachine$Course" "depth" "I" ∈ tw := tw_of (tb_1 (List.mem_of_getElem? (i := 143) rfl)) rfl
theorem k145 : Cond.lays "DrawingMachine$Course" "DrawingMachine$Course" "done" "I" ∈ tw := tw_of (tb_1 (List.mem_of_getElem? (i := 145) rfl)) rfl
theorem k147 : Cond.lays "DrawingMachine$Course" "DrawingMachine$Course" "refused" "I" ∈ tw := tw_of (tb_1 (List.mem_of_getElem? (i := 147) rfl)) rfl
theorem k149 : Cond.lays "DrawingMachine$Course" "DrawingMachine$Course" "lastPlace" "I" ∈ tw := tw_of (tb_1 (List.mem_of_getElem? (i := 149) rfl)) rfl
theorem k151 : Cond.lays "DrawingMachine$Course" "DrawingMachine$Course" "lastDepth" "I" ∈ tw := tw_of (tb_1 (List.mem_of_getElem? (i := 151) rfl)) rfl
theorem k153 : Cond.lays "DrawingMachine$Course" "DrawingMachine$Course" "over" "Z" ∈ tw := tw_of (tb_1 (List.mem_of_getElem? (i := 153) rfl)) rfl
theorem k155 : Cond.lays "DrawingMachine$Course" "DrawingMachine$Course" "work" "J" ∈ tw := tw_of (tb_1 (List.mem_of_getElem? (i := 155) rfl)) rfl
theorem k157 : Cond.laysFinal "DrawingMachine$Course" "DrawingMachine$Course" "memory" "[I" ∈ tw := tw_of (tb_1 (List.mem_of_getElem? (i := 157) rfl)) rfl
theorem k159 : Cond.laysFinal "DrawingMachine$Course" "DrawingMachine$Course" "returns" "[I" ∈ tw := tw_of (tb_1 (List.mem_of_getElem? (i := 159) rfl)) rfl
theorem k161 : Cond.lays "DrawingMachine$Course" "DrawingMachine$Course" "stream" "[I" ∈ tw := tw_of (tb_1 (List.mem_of_getElem? (i := 161) rfl)) rfl
theorem k163 : Cond.lays "DrawingMachine$Course" "DrawingMachine$Course" "position" "I" ∈ tw := tw_of (tb_1 (List.mem_of_getElem? (i := 163) rfl)) rfl
theorem k165 : Cond.lays "DrawingMachine$Course" "DrawingMachine$Course" "length" "I" ∈ tw := tw_of (tb_1 (List.mem_of_getElem? (i := 165) rfl)) rfl
theorem k183 : Cond.lays "DrawingMachine$Checker" "DrawingMachine$Checker" "fault" "I" ∈ tw := tw_of (tb_1 (List.mem_of_getElem? (i := 183) rfl)) rfl
theorem k185 : Cond.lays "DrawingMachine$Checker" "DrawingMachine$Checker" "place" "I" ∈ tw := tw_of (tb_1 (List.mem_of_getElem? (i := 185) rfl)) rfl
theorem k187 : Cond.laysFinal "DrawingMachine$Checker" "DrawingMachine$Checker" "loopOf" "[I" ∈ tw := tw_of (tb_1 (List.mem_of_getElem? (i := 187) rfl)) rfl
theorem k189 : Cond.laysFinal "DrawingMachine$Checker" "DrawingMachine$Checker" "open" "[I" ∈ tw := tw_of (tb_1 (List.mem_of_getElem? (i := 189) rfl)) rfl
theorem k191 : Cond.laysFinal "DrawingMachine$Checker" "DrawingMachine$Checker" "times" "[J" ∈ tw := tw_of (tb_1 (List.mem_of_getElem? (i := 191) rfl)) rfl
theorem k193 : Cond.lays "DrawingMachine$Checker" "DrawingMachine$Checker" "depth" "I" ∈ tw := tw_of (tb_1 (List.mem_of_getElem? (i := 193) rfl)) rfl
theorem k195 : Cond.lays "DrawingMachine$Checker" "DrawingMachine$Checker" "steps" "J" ∈ tw := tw_of (tb_1 (List.mem_of_getElem? (i := 195) rfl)) rfl
theorem k385 : Cond.laysFinal "DrawingMachine$Drawing" "DrawingMachine$Drawing" "counts" "[I" ∈ tw := tw_of (tb_2 (List.mem_of_getElem? (i := 145) rfl)) rfl
theorem k387 : Cond.laysFinal "DrawingMachine$Drawing" "DrawingMachine$Drawing" "queries" "[I" ∈ tw := tw_of (tb_2 (List.mem_of_getElem? (i := 147) rfl)) rfl
theorem k389 : Cond.lays "DrawingMachine$Drawing" "DrawingMachine$Drawing" "openQuery" "I" ∈ tw := tw_of (tb_2 (List.mem_of_getElem? (i := 149) rfl)) rfl
theorem k391 : Cond.laysFinal "DrawingMachine$Drawing" "DrawingMachine$Drawing" "kept" "[I" ∈ tw := tw_of (tb_2 (List.mem_of_getElem? (i := 151) rfl)) rfl
theorem k393 : Cond.laysFinal "DrawingMachine$Drawing" "DrawingMachine$Drawing" "picture" "LDrawingMachine$Picture;" ∈ tw := tw_of (tb_2 (List.mem_of_getElem? (i := 153) rfl)) rfl
theorem k395 : Cond.laysFinal "DrawingMachine$Drawing" "DrawingMachine$Drawing" "processor" "LDrawingMachine$Processor;" ∈ tw := tw_of (tb_2 (List.mem_of_getElem? (i := 155) rfl)) rfl
theorem k397 : Cond.laysFinal "DrawingMachine$Drawing" "DrawingMachine$Drawing" "vertices" "LDrawingMachine$Vertices;" ∈ tw := tw_of (tb_2 (List.mem_of_getElem? (i := 157) rfl)) rfl
theorem k399 : Cond.laysFinal "DrawingMachine$Drawing" "DrawingMachine$Drawing" "shape" "LDrawingMachine$Shape;" ∈ tw := tw_of (tb_2 (List.mem_of_getElem? (i := 159) rfl)) rfl
theorem k401 : Cond.laysFinal "DrawingMachine$Drawing" "DrawingMachine$Drawing" "covering" "LDrawingMachine$Covering;" ∈ tw := tw_of (tb_2 (List.mem_of_getElem? (i := 161) rfl)) rfl
theorem k246 : Cond.laysFinal "DrawingMachine$Processor" "DrawingMachine$Processor" "bank" "[I" ∈ tw := tw_of (tb_2 (List.mem_of_getElem? (i := 6) rfl)) rfl
theorem k248 : Cond.laysFinal "DrawingMachine$Processor" "DrawingMachine$Processor" "memory" "[I" ∈ tw := tw_of (tb_2 (List.mem_of_getElem? (i := 8) rfl)) rfl
theorem k250 : Cond.laysFinal "DrawingMachine$Processor" "DrawingMachine$Processor" "textures" "LDrawingMachine$Textures;" ∈ tw := tw_of (tb_2 (List.mem_of_getElem? (i := 10) rfl)) rfl
theorem k252 : Cond.laysFinal "DrawingMachine$Processor" "DrawingMachine$Processor" "a" "[I" ∈ tw := tw_of (tb_2 (List.mem_of_getElem? (i := 12) rfl)) rfl
theorem k254 : Cond.laysFinal "DrawingMachine$Processor" "DrawingMachine$Processor" "b" "[I" ∈ tw := tw_of (tb_2 (List.mem_of_getElem? (i := 14) rfl)) rfl
theorem k256 : Cond.laysFinal "DrawingMachine$Processor" "DrawingMachine$Processor" "c" "[I" ∈ tw := tw_of (tb_2 (List.mem_of_getElem? (i := 16) rfl)) rfl
theorem k258 : Cond.laysFinal "DrawingMachine$Processor" "DrawingMachine$Processor" "result" "[I" ∈ tw := tw_of (tb_2 (List.mem_of_getElem? (i := 18) rfl)) rfl
theorem k260 : Cond.laysFinal "DrawingMachine$Processor" "DrawingMachine$Processor" "starts" "[I" ∈ tw := tw_of (tb_2 (List.mem_of_getElem? (i := 20) rfl)) rfl
theorem k262 : Cond.laysFinal "DrawingMachine$Processor" "DrawingMachine$Processor" "left" "[I" ∈ tw := tw_of (tb_2 (List.mem_of_getElem? (i := 22) rfl)) rfl
theorem k223 : Cond.laysFinal "DrawingMachine$Textures" "DrawingMachine$Textures" "memory" "[I" ∈ tw := tw_of (tb_1 (List.mem_of_getElem? (i := 223) rfl)) rfl
theorem k225 : Cond.laysFinal "DrawingMachine$Textures" "DrawingMachine$Textures" "kept" "[I" ∈ tw := tw_of (tb_1 (List.mem_of_getElem? (i := 225) rfl)) rfl
theorem k227 : Cond.laysFinal "DrawingMachine$Textures" "DrawingMachine$Textures" "nextLevel" "[I" ∈ tw := tw_of (tb_1 (List.mem_of_getElem? (i := 227) rfl)) rfl
theorem k229 : Cond.laysFinal "DrawingMachine$Textures" "DrawingMachine$Textures" "beside" "[I" ∈ tw := tw_of (tb_1 (List.mem_of_getElem? (i := 229) rfl)) rfl
theorem k231 : Cond.laysFinal "DrawingMachine$Textures" "DrawingMachine$Textures" "below" "[I" ∈ tw := tw_of (tb_1 (List.mem_of_getElem? (i := 231) rfl)) rfl
theorem k233 : Cond.laysFinal "DrawingMachine$Textures" "DrawingMachine$Textures" "belowBeside" "[I" ∈ tw := tw_of (tb_1 (List.mem_of_getElem? (i := 233) rfl)) rfl
theorem k273 : Cond.laysFinal "DrawingMachine$Vertices" "DrawingMachine$Vertices" "memory" "[I" ∈ tw := tw_of (tb_2 (List.mem_of_getElem? (i := 33) rfl)) rfl
theorem k275 : Cond.laysFinal "DrawingMachine$Vertices" "DrawingMachine$Vertices" "kept" "[I" ∈ tw := tw_of (tb_2 (List.mem_of_getElem? (i := 35) rfl)) rfl
theorem k300 : Cond.lays "DrawingMachine$Shape" "DrawingMachine$Shape" "many" "I" ∈ tw := tw_of (tb_2 (List.mem_of_getElem? (i := 60) rfl)) rfl
theorem k302 : Cond.lays "DrawingMachine$Shape" "DrawingMachine$Shape" "corners" "[[I" ∈ tw := tw_of (tb_2 (List.mem_of_getElem? (i := 62) rfl)) rfl
theorem k304 : Cond.laysFinal "DrawingMachine$Shape" "DrawingMachine$Shape" "x" "[I" ∈ tw := tw_of (tb_2 (List.mem_of_getElem? (i := 64) rfl)) rfl
theorem k306 : Cond.laysFinal "DrawingMachine$Shape" "DrawingMachine$Shape" "y" "[I" ∈ tw := tw_of (tb_2 (List.mem_of_getElem? (i := 66) rfl)) rfl
theorem k308 : Cond.laysFinal "DrawingMachine$Shape" "DrawingMachine$Shape" "depth" "[I" ∈ tw := tw_of (tb_2 (List.mem_of_getElem? (i := 68) rfl)) rfl
theorem k310 : Cond.laysFinal "DrawingMachine$Shape" "DrawingMachine$Shape" "nearness" "[I" ∈ tw := tw_of (tb_2 (List.mem_of_getElem? (i := 70) rfl)) rfl
theorem k312 : Cond.lays "DrawingMachine$Shape" "DrawingMachine$Shape" "spare" "[[I" ∈ tw := tw_of (tb_2 (List.mem_of_getElem? (i := 72) rfl)) rfl
theorem k314 : Cond.laysFinal "DrawingMachine$Shape" "DrawingMachine$Shape" "kept" "[I" ∈ tw := tw_of (tb_2 (List.mem_of_getElem? (i := 74) rfl)) rfl
theorem k342 : Cond.lays "DrawingMachine$Covering" "DrawingMachine$Covering" "front" "Z" ∈ tw := tw_of (tb_2 (List.mem_of_getElem? (i := 102) rfl)) rfl
theorem k344 : Cond.lays "DrawingMachine$Covering" "DrawingMachine$Covering" "left" "I" ∈ tw := tw_of (tb_2 (List.mem_of_getElem? (i := 104) rfl)) rfl
theorem k346 : Cond.lays "DrawingMachine$Covering" "DrawingMachine$Covering" "right" "I" ∈ tw := tw_of (tb_2 (List.mem_of_getElem? (i := 106) rfl)) rfl
theorem k348 : Cond.lays "DrawingMachine$Covering" "DrawingMachine$Covering" "top" "I" ∈ tw := tw_of (tb_2 (List.mem_of_getElem? (i := 108) rfl)) rfl
theorem k350 : Cond.lays "DrawingMachine$Covering" "DrawingMachine$Covering" "bottom" "I" ∈ tw := tw_of (tb_2 (List.mem_of_getElem? (i := 110) rfl)) rfl
theorem k352 : Cond.laysFinal "DrawingMachine$Covering" "DrawingMachine$Covering" "shape" "LDrawingMachine$Shape;" ∈ tw := tw_of (tb_2 (List.mem_of_getElem? (i := 112) rfl)) rfl
theorem k354 : Cond.laysFinal "DrawingMachine$Covering" "DrawingMachine$Covering" "who" "[I" ∈ tw := tw_of (tb_2 (List.mem_of_getElem? (i := 114) rfl)) rfl
theorem k356 : Cond.laysFinal "DrawingMachine$Covering" "DrawingMachine$Covering" "along" "[J" ∈ tw := tw_of (tb_2 (List.mem_of_getElem? (i := 116) rfl)) rfl
theorem k358 : Cond.laysFinal "DrawingMachine$Covering" "DrawingMachine$Covering" "down" "[J" ∈ tw := tw_of (tb_2 (List.mem_of_getElem? (i := 118) rfl)) rfl
theorem k360 : Cond.laysFinal "DrawingMachine$Covering" "DrawingMachine$Covering" "start" "[J" ∈ tw := tw_of (tb_2 (List.mem_of_getElem? (i := 120) rfl)) rfl
theorem k362 : Cond.laysFinal "DrawingMachine$Covering" "DrawingMachine$Covering" "least" "[J" ∈ tw := tw_of (tb_2 (List.mem_of_getElem? (i := 122) rfl)) rfl
theorem k364 : Cond.laysFinal "DrawingMachine$Covering" "DrawingMachine$Covering" "weight" "[J" ∈ tw := tw_of (tb_2 (List.mem_of_getElem? (i := 124) rfl)) rfl
theorem k366 : Cond.laysFinal "DrawingMachine$Covering" "DrawingMachine$Covering" "share" "[J" ∈ tw := tw_of (tb_2 (List.mem_of_getElem? (i := 126) rfl)) rfl
theorem k368 : Cond.lays "DrawingMachine$Covering" "DrawingMachine$Covering" "area" "J" ∈ tw := tw_of (tb_2 (List.mem_of_getElem? (i := 128) rfl)) rfl
theorem k370 : Cond.lays "DrawingMachine$Covering" "DrawingMachine$Covering" "shares" "J" ∈ tw := tw_of (tb_2 (List.mem_of_getElem? (i := 130) rfl)) rfl
theorem k421 : Cond.laysFinal "DrawingMachine$Program" "DrawingMachine$Program" "words" "[I" ∈ tw := tw_of (tb_2 (List.mem_of_getElem? (i := 181) rfl)) rfl
theorem k423 : Cond.lays "DrawingMachine$Program" "DrawingMachine$Program" "many" "I" ∈ tw := tw_of (tb_2 (List.mem_of_getElem? (i := 183) rfl)) rfl
theorem k425 : Cond.lays "DrawingMachine$Program" "DrawingMachine$Program" "steps" "I" ∈ tw := tw_of (tb_2 (List.mem_of_getElem? (i := 185) rfl)) rfl
theorem k427 : Cond.lays "DrawingMachine$Program" "DrawingMachine$Program" "reads" "I" ∈ tw := tw_of (tb_2 (List.mem_of_getElem? (i := 187) rfl)) rfl
theorem k1784 : Cond.lays "DrawingMachineModel" "DrawingMachineModel" "thrown" "I" ∈ tw := tw_of (tb_8 (List.mem_of_getElem? (i := 104) rfl)) rfl
theorem k1786 : Cond.lays "DrawingMachineModel" "DrawingMachineModel" "wide" "I" ∈ tw := tw_of (tb_8 (List.mem_of_getElem? (i := 106) rfl)) rfl
theorem k1788 : Cond.lays "DrawingMachineModel" "DrawingMachineModel" "high" "I" ∈ tw := tw_of (tb_8 (List.mem_of_getElem? (i := 108) rfl)) rfl
theorem k1790 : Cond.laysFinal "DrawingMachineModel" "DrawingMachineModel" "commands" "LDrawingMachineModel$DrawCommandsModel;" ∈ tw := tw_of (tb_8 (List.mem_of_getElem? (i := 110) rfl)) rfl
theorem k1792 : Cond.laysFinal "DrawingMachineModel" "DrawingMachineModel" "units" "LDrawingMachineModel$TextureUnitsModel;" ∈ tw := tw_of (tb_8 (List.mem_of_getElem? (i := 112) rfl)) rfl
theorem k1794 : Cond.laysFinal "DrawingMachineModel" "DrawingMachineModel" "corners" "LDrawingMachineModel$ShaderMachineModel;" ∈ tw := tw_of (tb_8 (List.mem_of_getElem? (i := 114) rfl)) rfl
theorem k1796 : Cond.laysFinal "DrawingMachineModel" "DrawingMachineModel" "places" "LDrawingMachineModel$ShaderMachineModel;" ∈ tw := tw_of (tb_8 (List.mem_of_getElem? (i := 116) rfl)) rfl
theorem k1798 : Cond.laysFinal "DrawingMachineModel" "DrawingMachineModel" "vertices" "LDrawingMachineModel$VertexWorkModel;" ∈ tw := tw_of (tb_8 (List.mem_of_getElem? (i := 118) rfl)) rfl
theorem k1800 : Cond.laysFinal "DrawingMachineModel" "DrawingMachineModel" "raster" "LDrawingMachineModel$EdgeRasterModel;" ∈ tw := tw_of (tb_8 (List.mem_of_getElem? (i := 120) rfl)) rfl
theorem k1802 : Cond.laysFinal "DrawingMachineModel" "DrawingMachineModel" "tests" "LDrawingMachineModel$PlaceTestsModel;" ∈ tw := tw_of (tb_8 (List.mem_of_getElem? (i := 122) rfl)) rfl
theorem k1804 : Cond.lays "DrawingMachineModel" "DrawingMachineModel" "fault" "I" ∈ tw := tw_of (tb_8 (List.mem_of_getElem? (i := 124) rfl)) rfl
theorem k1806 : Cond.lays "DrawingMachineModel" "DrawingMachineModel" "faultPlace" "I" ∈ tw := tw_of (tb_8 (List.mem_of_getElem? (i := 126) rfl)) rfl
theorem k1808 : Cond.lays "DrawingMachineModel" "DrawingMachineModel" "cornersSteps" "I" ∈ tw := tw_of (tb_8 (List.mem_of_getElem? (i := 128) rfl)) rfl
theorem k1810 : Cond.lays "DrawingMachineModel" "DrawingMachineModel" "placesSteps" "I" ∈ tw := tw_of (tb_8 (List.mem_of_getElem? (i := 130) rfl)) rfl
theorem k1812 : Cond.lays "DrawingMachineModel" "DrawingMachineModel" "work" "J" ∈ tw := tw_of (tb_8 (List.mem_of_getElem? (i := 132) rfl)) rfl
theorem k1814 : Cond.laysFinal "DrawingMachineModel" "DrawingMachineModel" "queries" "[I" ∈ tw := tw_of (tb_8 (List.mem_of_getElem? (i := 134) rfl)) rfl
theorem k1816 : Cond.laysFinal "DrawingMachineModel" "DrawingMachineModel" "counts" "[I" ∈ tw := tw_of (tb_8 (List.mem_of_getElem? (i := 136) rfl)) rfl
theorem k1818 : Cond.laysFinal "DrawingMachineModel" "DrawingMachineModel" "before" "[I" ∈ tw := tw_of (tb_8 (List.mem_of_getElem? (i := 138) rfl)) rfl
theorem k1820 : Cond.laysFinal "DrawingMachineModel" "DrawingMachineModel" "shares" "[J" ∈ tw := tw_of (tb_8 (List.mem_of_getElem? (i := 140) rfl)) rfl
theorem k1470 : Cond.lays "DrawingMachineModel$DrawCommandsModel" "DrawingMachineModel$DrawCommandsModel" "thrown" "I" ∈ tw := tw_of (tb_7 (List.mem_of_getElem? (i := 30) rfl)) rfl
theorem k1472 : Cond.laysFinal "DrawingMachineModel$DrawCommandsModel" "DrawingMachineModel$DrawCommandsModel" "memory" "[I" ∈ tw := tw_of (tb_7 (List.mem_of_getElem? (i := 32) rfl)) rfl
theorem k1474 : Cond.lays "DrawingMachineModel$DrawCommandsModel" "DrawingMachineModel$DrawCommandsModel" "wide" "I" ∈ tw := tw_of (tb_7 (List.mem_of_getElem? (i := 34) rfl)) rfl
theorem k1476 : Cond.lays "DrawingMachineModel$DrawCommandsModel" "DrawingMachineModel$DrawCommandsModel" "high" "I" ∈ tw := tw_of (tb_7 (List.mem_of_getElem? (i := 36) rfl)) rfl
theorem k1478 : Cond.laysFinal "DrawingMachineModel$DrawCommandsModel" "DrawingMachineModel$DrawCommandsModel" "stream" "[I" ∈ tw := tw_of (tb_7 (List.mem_of_getElem? (i := 38) rfl)) rfl
theorem k1480 : Cond.lays "DrawingMachineModel$DrawCommandsModel" "DrawingMachineModel$DrawCommandsModel" "size" "I" ∈ tw := tw_of (tb_7 (List.mem_of_getElem? (i := 40) rfl)) rfl
theorem k1482 : Cond.lays "DrawingMachineModel$DrawCommandsModel" "DrawingMachineModel$DrawCommandsModel" "at" "I" ∈ tw := tw_of (tb_7 (List.mem_of_getElem? (i := 42) rfl)) rfl
theorem k1484 : Cond.lays "DrawingMachineModel$DrawCommandsModel" "DrawingMachineModel$DrawCommandsModel" "depth" "I" ∈ tw := tw_of (tb_7 (List.mem_of_getElem? (i := 44) rfl)) rfl
theorem k1486 : Cond.laysFinal "DrawingMachineModel$DrawCommandsModel" "DrawingMachineModel$DrawCommandsModel" "back" "[I" ∈ tw := tw_of (tb_7 (List.mem_of_getElem? (i := 46) rfl)) rfl
theorem k1488 : Cond.lays "DrawingMachineModel$DrawCommandsModel" "DrawingMachineModel$DrawCommandsModel" "over" "Z" ∈ tw := tw_of (tb_7 (List.mem_of_getElem? (i := 48) rfl)) rfl
theorem k1490 : Cond.lays "DrawingMachineModel$DrawCommandsModel" "DrawingMachineModel$DrawCommandsModel" "refusal" "I" ∈ tw := tw_of (tb_7 (List.mem_of_getElem? (i := 50) rfl)) rfl
theorem k1492 : Cond.lays "DrawingMachineModel$DrawCommandsModel" "DrawingMachineModel$DrawCommandsModel" "place" "I" ∈ tw := tw_of (tb_7 (List.mem_of_getElem? (i := 52) rfl)) rfl
theorem k1494 : Cond.lays "DrawingMachineModel$DrawCommandsModel" "DrawingMachineModel$DrawCommandsModel" "deep" "I" ∈ tw := tw_of (tb_7 (List.mem_of_getElem? (i := 54) rfl)) rfl
theorem k1496 : Cond.lays "DrawingMachineModel$DrawCommandsModel" "DrawingMachineModel$DrawCommandsModel" "done" "I" ∈ tw := tw_of (tb_7 (List.mem_of_getElem? (i := 56) rfl)) rfl
theorem k1498 : Cond.lays "DrawingMachineModel$DrawCommandsModel" "DrawingMachineModel$DrawCommandsModel" "query" "I" ∈ tw := tw_of (tb_7 (List.mem_of_getElem? (i := 58) rfl)) rfl
theorem k1500 : Cond.lays "DrawingMachineModel$DrawCommandsModel" "DrawingMachineModel$DrawCommandsModel" "arguments" "I" ∈ tw := tw_of (tb_7 (List.mem_of_getElem? (i := 60) rfl)) rfl
theorem k1502 : Cond.laysFinal "DrawingMachineModel$DrawCommandsModel" "DrawingMachineModel$DrawCommandsModel" "argument" "[I" ∈ tw := tw_of (tb_7 (List.mem_of_getElem? (i := 62) rfl)) rfl
theorem k1504 : Cond.laysFinal "DrawingMachineModel$DrawCommandsModel" "DrawingMachineModel$DrawCommandsModel" "kept" "[I" ∈ tw := tw_of (tb_7 (List.mem_of_getElem? (i := 64) rfl)) rfl
theorem k1524 : Cond.lays "DrawingMachineModel$TextureUnitsModel" "DrawingMachineModel$TextureUnitsModel" "thrown" "I" ∈ tw := tw_of (tb_7 (List.mem_of_getElem? (i := 84) rfl)) rfl
theorem k1526 : Cond.laysFinal "DrawingMachineModel$TextureUnitsModel" "DrawingMachineModel$TextureUnitsModel" "memory" "[I" ∈ tw := tw_of (tb_7 (List.mem_of_getElem? (i := 86) rfl)) rfl
theorem k1528 : Cond.laysFinal "DrawingMachineModel$TextureUnitsModel" "DrawingMachineModel$TextureUnitsModel" "units" "[I" ∈ tw := tw_of (tb_7 (List.mem_of_getElem? (i := 88) rfl)) rfl
theorem k1530 : Cond.laysFinal "DrawingMachineModel$TextureUnitsModel" "DrawingMachineModel$TextureUnitsModel" "borders" "[I" ∈ tw := tw_of (tb_7 (List.mem_of_getElem? (i := 90) rfl)) rfl
theorem k1532 : Cond.laysFinal "DrawingMachineModel$TextureUnitsModel" "DrawingMachineModel$TextureUnitsModel" "latest" "[I" ∈ tw := tw_of (tb_7 (List.mem_of_getElem? (i := 92) rfl)) rfl
theorem k1534 : Cond.laysFinal "DrawingMachineModel$TextureUnitsModel" "DrawingMachineModel$TextureUnitsModel" "found" "[I" ∈ tw := tw_of (tb_7 (List.mem_of_getElem? (i := 94) rfl)) rfl
theorem k1536 : Cond.laysFinal "DrawingMachineModel$TextureUnitsModel" "DrawingMachineModel$TextureUnitsModel" "row" "[I" ∈ tw := tw_of (tb_7 (List.mem_of_getElem? (i := 96) rfl)) rfl
theorem k1538 : Cond.laysFinal "DrawingMachineModel$TextureUnitsModel" "DrawingMachineModel$TextureUnitsModel" "upper" "[I" ∈ tw := tw_of (tb_7 (List.mem_of_getElem? (i := 98) rfl)) rfl
theorem k1540 : Cond.laysFinal "DrawingMachineModel$TextureUnitsModel" "DrawingMachineModel$TextureUnitsModel" "near" "[I" ∈ tw := tw_of (tb_7 (List.mem_of_getElem? (i := 100) rfl)) rfl
theorem k1542 : Cond.laysFinal "DrawingMachineModel$TextureUnitsModel" "DrawingMachineModel$TextureUnitsModel" "first" "[I" ∈ tw := tw_of (tb_7 (List.mem_of_getElem? (i := 102) rfl)) rfl
theorem k1544 : Cond.laysFinal "DrawingMachineModel$TextureUnitsModel" "DrawingMachineModel$TextureUnitsModel" "size" "[I" ∈ tw := tw_of (tb_7 (List.mem_of_getElem? (i := 104) rfl)) rfl
theorem k1577 : Cond.lays "DrawingMachineModel$ShaderMachineModel" "DrawingMachineModel$ShaderMachineModel" "thrown" "I" ∈ tw := tw_of (tb_7 (List.mem_of_getElem? (i := 137) rfl)) rfl
theorem k1579 : Cond.laysFinal "DrawingMachineModel$ShaderMachineModel" "DrawingMachineModel$ShaderMachineModel" "memory" "[I" ∈ tw := tw_of (tb_7 (List.mem_of_getElem? (i := 139) rfl)) rfl
theorem k1581 : Cond.laysFinal "DrawingMachineModel$ShaderMachineModel" "DrawingMachineModel$ShaderMachineModel" "units" "LDrawingMachineModel$TextureUnitsModel;" ∈ tw := tw_of (tb_7 (List.mem_of_getElem? (i := 141) rfl)) rfl
theorem k1583 : Cond.laysFinal "DrawingMachineModel$ShaderMachineModel" "DrawingMachineModel$ShaderMachineModel" "program" "[I" ∈ tw := tw_of (tb_7 (List.mem_of_getElem? (i := 143) rfl)) rfl
theorem k1585 : Cond.laysFinal "DrawingMachineModel$ShaderMachineModel" "DrawingMachineModel$ShaderMachineModel" "fresh" "[I" ∈ tw := tw_of (tb_7 (List.mem_of_getElem? (i := 145) rfl)) rfl
theorem k1587 : Cond.lays "DrawingMachineModel$ShaderMachineModel" "DrawingMachineModel$ShaderMachineModel" "hasProgram" "Z" ∈ tw := tw_of (tb_7 (List.mem_of_getElem? (i := 147) rfl)) rfl
theorem k1589 : Cond.lays "DrawingMachineModel$ShaderMachineModel" "DrawingMachineModel$ShaderMachineModel" "fault" "I" ∈ tw := tw_of (tb_7 (List.mem_of_getElem? (i := 149) rfl)) rfl
theorem k1591 : Cond.lays "DrawingMachineModel$ShaderMachineModel" "DrawingMachineModel$ShaderMachineModel" "place" "I" ∈ tw := tw_of (tb_7 (List.mem_of_getElem? (i := 151) rfl)) rfl
theorem k1593 : Cond.lays "DrawingMachineModel$ShaderMachineModel" "DrawingMachineModel$ShaderMachineModel" "told" "I" ∈ tw := tw_of (tb_7 (List.mem_of_getElem? (i := 153) rfl)) rfl
theorem k1595 : Cond.laysFinal "DrawingMachineModel$ShaderMachineModel" "DrawingMachineModel$ShaderMachineModel" "temporaries" "[I" ∈ tw := tw_of (tb_7 (List.mem_of_getElem? (i := 155) rfl)) rfl
theorem k1597 : Cond.laysFinal "DrawingMachineModel$ShaderMachineModel" "DrawingMachineModel$ShaderMachineModel" "ins" "[I" ∈ tw := tw_of (tb_7 (List.mem_of_getElem? (i := 157) rfl)) rfl
theorem k1599 : Cond.laysFinal "DrawingMachineModel$ShaderMachineModel" "DrawingMachineModel$ShaderMachineModel" "outs" "[I" ∈ tw := tw_of (tb_7 (List.mem_of_getElem? (i := 159) rfl)) rfl
theorem k1601 : Cond.laysFinal "DrawingMachineModel$ShaderMachineModel" "DrawingMachineModel$ShaderMachineModel" "uniforms" "[I" ∈ tw := tw_of (tb_7 (List.mem_of_getElem? (i := 161) rfl)) rfl
theorem k1603 : Cond.laysFinal "DrawingMachineModel$ShaderMachineModel" "DrawingMachineModel$ShaderMachineModel" "read" "[I" ∈ tw := tw_of (tb_7 (List.mem_of_getElem? (i := 163) rfl)) rfl
theorem k1605 : Cond.laysFinal "DrawingMachineModel$ShaderMachineModel" "DrawingMachineModel$ShaderMachineModel" "result" "[I" ∈ tw := tw_of (tb_7 (List.mem_of_getElem? (i := 165) rfl)) rfl
theorem k1607 : Cond.lays "DrawingMachineModel$ShaderMachineModel" "DrawingMachineModel$ShaderMachineModel" "killed" "Z" ∈ tw := tw_of (tb_7 (List.mem_of_getElem? (i := 167) rfl)) rfl
theorem k1609 : Cond.laysFinal "DrawingMachineModel$ShaderMachineModel" "DrawingMachineModel$ShaderMachineModel" "left" "[I" ∈ tw := tw_of (tb_7 (List.mem_of_getElem? (i := 169) rfl)) rfl
theorem k1611 : Cond.laysFinal "DrawingMachineModel$ShaderMachineModel" "DrawingMachineModel$ShaderMachineModel" "opening" "[I" ∈ tw := tw_of (tb_7 (List.mem_of_getElem? (i := 171) rfl)) rfl
theorem k1634 : Cond.lays "DrawingMachineModel$VertexWorkModel" "DrawingMachineModel$VertexWorkModel" "thrown" "I" ∈ tw := tw_of (tb_7 (List.mem_of_getElem? (i := 194) rfl)) rfl
theorem k1636 : Cond.laysFinal "DrawingMachineModel$VertexWorkModel" "DrawingMachineModel$VertexWorkModel" "memory" "[I" ∈ tw := tw_of (tb_7 (List.mem_of_getElem? (i := 196) rfl)) rfl
theorem k1638 : Cond.laysFinal "DrawingMachineModel$VertexWorkModel" "DrawingMachineModel$VertexWorkModel" "attributes" "[I" ∈ tw := tw_of (tb_7 (List.mem_of_getElem? (i := 198) rfl)) rfl
theorem k1640 : Cond.laysFinal "DrawingMachineModel$VertexWorkModel" "DrawingMachineModel$VertexWorkModel" "corners" "[I" ∈ tw := tw_of (tb_7 (List.mem_of_getElem? (i := 200) rfl)) rfl
theorem k1642 : Cond.laysFinal "DrawingMachineModel$VertexWorkModel" "DrawingMachineModel$VertexWorkModel" "view" "[I" ∈ tw := tw_of (tb_7 (List.mem_of_getElem? (i := 202) rfl)) rfl
theorem k1644 : Cond.lays "DrawingMachineModel$VertexWorkModel" "DrawingMachineModel$VertexWorkModel" "out" "I" ∈ tw := tw_of (tb_7 (List.mem_of_getElem? (i := 204) rfl)) rfl
theorem k1646 : Cond.lays "DrawingMachineModel$VertexWorkModel" "DrawingMachineModel$VertexWorkModel" "clock" "Z" ∈ tw := tw_of (tb_7 (List.mem_of_getElem? (i := 206) rfl)) rfl
theorem k1648 : Cond.lays "DrawingMachineModel$VertexWorkModel" "DrawingMachineModel$VertexWorkModel" "many" "I" ∈ tw := tw_of (tb_7 (List.mem_of_getElem? (i := 208) rfl)) rfl
theorem k1650 : Cond.laysFinal "DrawingMachineModel$VertexWorkModel" "DrawingMachineModel$VertexWorkModel" "ring" "[I" ∈ tw := tw_of (tb_7 (List.mem_of_getElem? (i := 210) rfl)) rfl
theorem k1652 : Cond.lays "DrawingMachineModel$VertexWorkModel" "DrawingMachineModel$VertexWorkModel" "fewer" "I" ∈ tw := tw_of (tb_7 (List.mem_of_getElem? (i := 212) rfl)) rfl
theorem k1654 : Cond.laysFinal "DrawingMachineModel$VertexWorkModel" "DrawingMachineModel$VertexWorkModel" "other" "[I" ∈ tw := tw_of (tb_7 (List.mem_of_getElem? (i := 214) rfl)) rfl
theorem k1656 : Cond.lays "DrawingMachineModel$VertexWorkModel" "DrawingMachineModel$VertexWorkModel" "made" "I" ∈ tw := tw_of (tb_7 (List.mem_of_getElem? (i := 216) rfl)) rfl
theorem k1658 : Cond.laysFinal "DrawingMachineModel$VertexWorkModel" "DrawingMachineModel$VertexWorkModel" "laid" "[I" ∈ tw := tw_of (tb_7 (List.mem_of_getElem? (i := 218) rfl)) rfl
theorem k1678 : Cond.lays "DrawingMachineModel$EdgeRasterModel" "DrawingMachineModel$EdgeRasterModel" "thrown" "I" ∈ tw := tw_of (tb_7 (List.mem_of_getElem? (i := 238) rfl)) rfl
theorem k1680 : Cond.laysFinal "DrawingMachineModel$EdgeRasterModel" "DrawingMachineModel$EdgeRasterModel" "cornerX" "[I" ∈ tw := tw_of (tb_8 (List.mem_of_getElem? (i := 0) rfl)) rfl
theorem k1682 : Cond.laysFinal "DrawingMachineModel$EdgeRasterModel" "DrawingMachineModel$EdgeRasterModel" "cornerY" "[I" ∈ tw := tw_of (tb_8 (List.mem_of_getElem? (i := 2) rfl)) rfl
theorem k1684 : Cond.laysFinal "DrawingMachineModel$EdgeRasterModel" "DrawingMachineModel$EdgeRasterModel" "depths" "[I" ∈ tw := tw_of (tb_8 (List.mem_of_getElem? (i := 4) rfl)) rfl
theorem k1686 : Cond.laysFinal "DrawingMachineModel$EdgeRasterModel" "DrawingMachineModel$EdgeRasterModel" "nearness" "[I" ∈ tw := tw_of (tb_8 (List.mem_of_getElem? (i := 6) rfl)) rfl
theorem k1688 : Cond.laysFinal "DrawingMachineModel$EdgeRasterModel" "DrawingMachineModel$EdgeRasterModel" "values" "[I" ∈ tw := tw_of (tb_8 (List.mem_of_getElem? (i := 8) rfl)) rfl
theorem k1720 : Cond.lays "DrawingMachineModel$PlaceTestsModel" "DrawingMachineModel$PlaceTestsModel" "thrown" "I" ∈ tw := tw_of (tb_8 (List.mem_of_getElem? (i := 40) rfl)) rfl
theorem k1722 : Cond.lays "DrawingMachineModel$PlaceTestsModel" "DrawingMachineModel$PlaceTestsModel" "x0" "I" ∈ tw := tw_of (tb_8 (List.mem_of_getElem? (i := 42) rfl)) rfl
theorem k1724 : Cond.lays "DrawingMachineModel$PlaceTestsModel" "DrawingMachineModel$PlaceTestsModel" "y0" "I" ∈ tw := tw_of (tb_8 (List.mem_of_getElem? (i := 44) rfl)) rfl
theorem k1726 : Cond.lays "DrawingMachineModel$PlaceTestsModel" "DrawingMachineModel$PlaceTestsModel" "wide" "I" ∈ tw := tw_of (tb_8 (List.mem_of_getElem? (i := 46) rfl)) rfl
theorem k1728 : Cond.lays "DrawingMachineModel$PlaceTestsModel" "DrawingMachineModel$PlaceTestsModel" "high" "I" ∈ tw := tw_of (tb_8 (List.mem_of_getElem? (i := 48) rfl)) rfl
theorem k1730 : Cond.laysFinal "DrawingMachineModel$PlaceTestsModel" "DrawingMachineModel$PlaceTestsModel" "channels" "[I" ∈ tw := tw_of (tb_8 (List.mem_of_getElem? (i := 50) rfl)) rfl
theorem k1732 : Cond.laysFinal "DrawingMachineModel$PlaceTestsModel" "DrawingMachineModel$PlaceTestsModel" "depths" "[I" ∈ tw := tw_of (tb_8 (List.mem_of_getElem? (i := 52) rfl)) rfl
theorem k1734 : Cond.laysFinal "DrawingMachineModel$PlaceTestsModel" "DrawingMachineModel$PlaceTestsModel" "stencils" "[I" ∈ tw := tw_of (tb_8 (List.mem_of_getElem? (i := 54) rfl)) rfl
theorem k1736 : Cond.lays "DrawingMachineModel$PlaceTestsModel" "DrawingMachineModel$PlaceTestsModel" "scissored" "Z" ∈ tw := tw_of (tb_8 (List.mem_of_getElem? (i := 56) rfl)) rfl
theorem k1738 : Cond.laysFinal "DrawingMachineModel$PlaceTestsModel" "DrawingMachineModel$PlaceTestsModel" "scissor" "[I" ∈ tw := tw_of (tb_8 (List.mem_of_getElem? (i := 58) rfl)) rfl
theorem k1740 : Cond.lays "DrawingMachineModel$PlaceTestsModel" "DrawingMachineModel$PlaceTestsModel" "depthTest" "I" ∈ tw := tw_of (tb_8 (List.mem_of_getElem? (i := 60) rfl)) rfl
theorem k1742 : Cond.lays "DrawingMachineModel$PlaceTestsModel" "DrawingMachineModel$PlaceTestsModel" "depthWritten" "Z" ∈ tw := tw_of (tb_8 (List.mem_of_getElem? (i := 62) rfl)) rfl
theorem k1744 : Cond.laysFinal "DrawingMachineModel$PlaceTestsModel" "DrawingMachineModel$PlaceTestsModel" "stencil" "[I" ∈ tw := tw_of (tb_8 (List.mem_of_getElem? (i := 64) rfl)) rfl
theorem k1746 : Cond.laysFinal "DrawingMachineModel$PlaceTestsModel" "DrawingMachineModel$PlaceTestsModel" "factors" "[I" ∈ tw := tw_of (tb_8 (List.mem_of_getElem? (i := 66) rfl)) rfl
theorem k1748 : Cond.lays "DrawingMachineModel$PlaceTestsModel" "DrawingMachineModel$PlaceTestsModel" "equation" "I" ∈ tw := tw_of (tb_8 (List.mem_of_getElem? (i := 68) rfl)) rfl
theorem k1750 : Cond.lays "DrawingMachineModel$PlaceTestsModel" "DrawingMachineModel$PlaceTestsModel" "equationA" "I" ∈ tw := tw_of (tb_8 (List.mem_of_getElem? (i := 70) rfl)) rfl
theorem k1752 : Cond.laysFinal "DrawingMachineModel$PlaceTestsModel" "DrawingMachineModel$PlaceTestsModel" "constant" "[I" ∈ tw := tw_of (tb_8 (List.mem_of_getElem? (i := 72) rfl)) rfl
theorem k1754 : Cond.lays "DrawingMachineModel$PlaceTestsModel" "DrawingMachineModel$PlaceTestsModel" "logic" "I" ∈ tw := tw_of (tb_8 (List.mem_of_getElem? (i := 74) rfl)) rfl
theorem k1756 : Cond.lays "DrawingMachineModel$PlaceTestsModel" "DrawingMachineModel$PlaceTestsModel" "mask" "I" ∈ tw := tw_of (tb_8 (List.mem_of_getElem? (i := 76) rfl)) rfl
theorem k1758 : Cond.laysFinal "DrawingMachineModel$PlaceTestsModel" "DrawingMachineModel$PlaceTestsModel" "answers" "[I" ∈ tw := tw_of (tb_8 (List.mem_of_getElem? (i := 78) rfl)) rfl
theorem k1760 : Cond.laysFinal "DrawingMachineModel$PlaceTestsModel" "DrawingMachineModel$PlaceTestsModel" "s" "[I" ∈ tw := tw_of (tb_8 (List.mem_of_getElem? (i := 80) rfl)) rfl
theorem k1762 : Cond.laysFinal "DrawingMachineModel$PlaceTestsModel" "DrawingMachineModel$PlaceTestsModel" "d" "[I" ∈ tw := tw_of (tb_8 (List.mem_of_getElem? (i := 82) rfl)) rfl
theorem k44 : Cond.code ⟨"DrawingMachine", "<init>", "()V"⟩ prog_1_method_1_code 1 none ∈ tw := tw_of (tb_1 (List.mem_of_getElem? (i := 44) rfl)) rfl
theorem k45 : Cond.methodLink "DrawingMachine" 1 ⟨"java/lang/Object", "<init>", "()V"⟩ ∈ tw := tw_of (tb_1 (List.mem_of_getElem? (i := 45) rfl)) rfl
theorem k46 : Cond.instanceMethod ⟨"java/lang/Object", "<init>", "()V"⟩ ∈ tw := tw_of (tb_1 (List.mem_of_getElem? (i := 46) rfl)) rfl
theorem k47 : Cond.code ⟨"java/lang/Object", "<init>", "()V"⟩ object_method_1_code 1 none ∈ tw := tw_of (tb_1 (List.mem_of_getElem? (i := 47) rfl)) rfl
theorem k430 : Cond.fieldLink "DrawingMachine" 9 "DrawingMachine" "memory" "[I" ∈ tw := tw_of (tb_2 (List.mem_of_getElem? (i := 190) rfl)) rfl
theorem k48 : Cond.classLink "DrawingMachine" 13 "DrawingMachine$Told" ∈ tw := tw_of (tb_1 (List.mem_of_getElem? (i := 48) rfl)) rfl
theorem k50 : Cond.methodLink "DrawingMachine" 15 ⟨"DrawingMachine$Told", "<init>", "()V"⟩ ∈ tw := tw_of (tb_1 (List.mem_of_getElem? (i := 50) rfl)) rfl
theorem k2 : Cond.initialized "DrawingMachine$Told" ∈ tw := tw_of (tb_1 (List.mem_of_getElem? (i := 2) rfl)) rfl
theorem k51 : Cond.instanceMethod ⟨"DrawingMachine$Told", "<init>", "()V"⟩ ∈ tw := tw_of (tb_1 (List.mem_of_getElem? (i := 51) rfl)) rfl
theorem k52 : Cond.code ⟨"DrawingMachine$Told", "<init>", "()V"⟩ prog_11_method_1_code 1 none ∈ tw := tw_of (tb_1 (List.mem_of_getElem? (i := 52) rfl)) rfl
theorem k431 : Cond.fieldLink "DrawingMachine" 16 "DrawingMachine" "told" "LDrawingMachine$Told;" ∈ tw := tw_of (tb_2 (List.mem_of_getElem? (i := 191) rfl)) rfl
theorem k72 : Cond.classLink "DrawingMachine" 20 "DrawingMachine$Picture" ∈ tw := tw_of (tb_1 (List.mem_of_getElem? (i := 72) rfl)) rfl
theorem k74 : Cond.methodLink "DrawingMachine" 22 ⟨"DrawingMachine$Picture", "<init>", "(LDrawingMachine$Told;)V"⟩ ∈ tw := tw_of (tb_1 (List.mem_of_getElem? (i := 74) rfl)) rfl
theorem k4 : Cond.initialized "DrawingMachine$Picture" ∈ tw := tw_of (tb_1 (List.mem_of_getElem? (i := 4) rfl)) rfl
theorem k75 : Cond.instanceMethod ⟨"DrawingMachine$Picture", "<init>", "(LDrawingMachine$Told;)V"⟩ ∈ tw := tw_of (tb_1 (List.mem_of_getElem? (i := 75) rfl)) rfl
theorem k76 : Cond.code ⟨"DrawingMachine$Picture", "<init>", "(LDrawingMachine$Told;)V"⟩ prog_6_method_1_code 2 none ∈ tw := tw_of (tb_1 (List.mem_of_getElem? (i := 76) rfl)) rfl
theorem k432 : Cond.fieldLink "DrawingMachine" 25 "DrawingMachine" "picture" "LDrawingMachine$Picture;" ∈ tw := tw_of (tb_2 (List.mem_of_getElem? (i := 192) rfl)) rfl
theorem k104 : Cond.classLink "DrawingMachine" 29 "DrawingMachine$Course" ∈ tw := tw_of (tb_1 (List.mem_of_getElem? (i := 104) rfl)) rfl
theorem k106 : Cond.methodLink "DrawingMachine" 31 ⟨"DrawingMachine$Course", "<init>", "([I)V"⟩ ∈ tw := tw_of (tb_1 (List.mem_of_getElem? (i := 106) rfl)) rfl
theorem k5 : Cond.initialized "DrawingMachine$Course" ∈ tw := tw_of (tb_1 (List.mem_of_getElem? (i := 5) rfl)) rfl
theorem k107 : Cond.instanceMethod ⟨"DrawingMachine$Course", "<init>", "([I)V"⟩ ∈ tw := tw_of (tb_1 (List.mem_of_getElem? (i := 107) rfl)) rfl
theorem k108 : Cond.code ⟨"DrawingMachine$Course", "<init>", "([I)V"⟩ prog_3_method_1_code 2 none ∈ tw := tw_of (tb_1 (List.mem_of_getElem? (i := 108) rfl)) rfl
theorem k433 : Cond.fieldLink "DrawingMachine" 34 "DrawingMachine" "course" "LDrawingMachine$Course;" ∈ tw := tw_of (tb_2 (List.mem_of_getElem? (i := 193) rfl)) rfl
theorem k168 : Cond.classLink "DrawingMachine" 38 "DrawingMachine$Checker" ∈ tw := tw_of (tb_1 (List.mem_of_getElem? (i := 168) rfl)) rfl
theorem k6 : Cond.initialized "DrawingMachine$Checker" ∈ tw := tw_of (tb_1 (List.mem_of_getElem? (i := 6) rfl)) rfl
theorem k171 : Cond.instanceMethod ⟨"DrawingMachine$Checker", "<init>", "()V"⟩ ∈ tw := tw_of (tb_1 (List.mem_of_getElem? (i := 171) rfl)) rfl
theorem k172 : Cond.code ⟨"DrawingMachine$Checker", "<init>", "()V"⟩ prog_2_method_1_code 1 none ∈ tw := tw_of (tb_1 (List.mem_of_getElem? (i := 172) rfl)) rfl
theorem k434 : Cond.fieldLink "DrawingMachine" 41 "DrawingMachine" "checker" "LDrawingMachine$Checker;" ∈ tw := tw_of (tb_2 (List.mem_of_getElem? (i := 194) rfl)) rfl
theorem k199 : Cond.classLink "DrawingMachine" 45 "DrawingMachine$Drawing" ∈ tw := tw_of (tb_1 (List.mem_of_getElem? (i := 199) rfl)) rfl
theorem k201 : Cond.methodLink "DrawingMachine" 47 ⟨"DrawingMachine$Drawing", "<init>", "([ILDrawingMachine$Told;LDrawingMachine$Picture;)V"⟩ ∈ tw := tw_of (tb_1 (List.mem_of_getElem? (i := 201) rfl)) rfl
theorem k7 : Cond.initialized "DrawingMachine$Drawing" ∈ tw := tw_of (tb_1 (List.mem_of_getElem? (i := 7) rfl)) rfl
theorem k202 : Cond.instanceMethod ⟨"DrawingMachine$Drawing", "<init>", "([ILDrawingMachine$Told;LDrawingMachine$Picture;)V"⟩ ∈ tw := tw_of (tb_1 (List.mem_of_getElem? (i := 202) rfl)) rfl
theorem k203 : Cond.code ⟨"DrawingMachine$Drawing", "<init>", "([ILDrawingMachine$Told;LDrawingMachine$Picture;)V"⟩ prog_5_method_1_code 4 none ∈ tw := tw_of (tb_1 (List.mem_of_getElem? (i := 203) rfl)) rfl
theorem k435 : Cond.fieldLink "DrawingMachine" 50 "DrawingMachine" "drawing" "LDrawingMachine$Drawing;" ∈ tw := tw_of (tb_2 (List.mem_of_getElem? (i := 195) rfl)) rfl
theorem k404 : Cond.classLink "DrawingMachine" 54 "DrawingMachine$Program" ∈ tw := tw_of (tb_2 (List.mem_of_getElem? (i := 164) rfl)) rfl
theorem k13 : Cond.initialized "DrawingMachine$Program" ∈ tw := tw_of (tb_1 (List.mem_of_getElem? (i := 13) rfl)) rfl
theorem k407 : Cond.instanceMethod ⟨"DrawingMachine$Program", "<init>", "()V"⟩ ∈ tw := tw_of (tb_2 (List.mem_of_getElem? (i := 167) rfl)) rfl
theorem k408 : Cond.code ⟨"DrawingMachine$Program", "<init>", "()V"⟩ prog_8_method_1_code 1 none ∈ tw := tw_of (tb_2 (List.mem_of_getElem? (i := 168) rfl)) rfl
theorem k436 : Cond.fieldLink "DrawingMachine" 57 "DrawingMachine" "cornersProgram" "LDrawingMachine$Program;" ∈ tw := tw_of (tb_2 (List.mem_of_getElem? (i := 196) rfl)) rfl
theorem k437 : Cond.fieldLink "DrawingMachine" 61 "DrawingMachine" "placesProgram" "LDrawingMachine$Program;" ∈ tw := tw_of (tb_2 (List.mem_of_getElem? (i := 197) rfl)) rfl
theorem k438 : Cond.fieldLink "DrawingMachine" 64 "DrawingMachine" "spareProgram" "LDrawingMachine$Program;" ∈ tw := tw_of (tb_2 (List.mem_of_getElem? (i := 198) rfl)) rfl
theorem k53 : Cond.methodLink "DrawingMachine$Told" 3 ⟨"java/lang/Object", "<init>", "()V"⟩ ∈ tw := tw_of (tb_1 (List.mem_of_getElem? (i := 53) rfl)) rfl
theorem k62 : Cond.fieldLink "DrawingMachine$Told" 9 "DrawingMachine$Told" "kept" "[I" ∈ tw := tw_of (tb_1 (List.mem_of_getElem? (i := 62) rfl)) rfl
theorem k54 : Cond.methodLink "DrawingMachine$Told" 15 ⟨"DrawingMachine$Told", "forget", "()V"⟩ ∈ tw := tw_of (tb_1 (List.mem_of_getElem? (i := 54) rfl)) rfl
theorem k55 : Cond.instanceMethod ⟨"DrawingMachine$Told", "forget", "()V"⟩ ∈ tw := tw_of (tb_1 (List.mem_of_getElem? (i := 55) rfl)) rfl
theorem k56 : Cond.selects "DrawingMachine$Told" ⟨"DrawingMachine$Told", "forget", "()V"⟩ ⟨"DrawingMachine$Told", "forget", "()V"⟩ ∈ tw := tw_of (tb_1 (List.mem_of_getElem? (i := 56) rfl)) rfl
theorem k57 : Cond.code ⟨"DrawingMachine$Told", "forget", "()V"⟩ prog_11_method_2_code 2 none ∈ tw := tw_of (tb_1 (List.mem_of_getElem? (i := 57) rfl)) rfl
theorem k58 : Cond.methodLink "DrawingMachine$Told" 18 ⟨"java/util/Arrays", "fill", "([II)V"⟩ ∈ tw := tw_of (tb_1 (List.mem_of_getElem? (i := 58) rfl)) rfl
theorem k3 : Cond.initialized "java/util/Arrays" ∈ tw := tw_of (tb_1 (List.mem_of_getElem? (i := 3) rfl)) rfl
theorem k59 : Cond.static ⟨"java/util/Arrays", "fill", "([II)V"⟩ ∈ tw := tw_of (tb_1 (List.mem_of_getElem? (i := 59) rfl)) rfl
theorem k60 : Cond.code ⟨"java/util/Arrays", "fill", "([II)V"⟩ prog_39_method_103_code 4 none ∈ tw := tw_of (tb_1 (List.mem_of_getElem? (i := 60) rfl)) rfl
theorem k61 : Cond.constant "DrawingMachine$Told" 24 (16777215 : Int32) ∈ tw := tw_of (tb_1 (List.mem_of_getElem? (i := 61) rfl)) rfl
theorem k77 : Cond.methodLink "DrawingMachine$Picture" 3 ⟨"java/lang/Object", "<init>", "()V"⟩ ∈ tw := tw_of (tb_1 (List.mem_of_getElem? (i := 77) rfl)) rfl
theorem k78 : Cond.fieldLink "DrawingMachine$Picture" 9 "DrawingMachine$Picture" "wide" "I" ∈ tw := tw_of (tb_1 (List.mem_of_getElem? (i := 78) rfl)) rfl
theorem k81 : Cond.fieldLink "DrawingMachine$Picture" 15 "DrawingMachine$Picture" "high" "I" ∈ tw := tw_of (tb_1 (List.mem_of_getElem? (i := 81) rfl)) rfl
theorem k84 : Cond.fieldLink "DrawingMachine$Picture" 18 "DrawingMachine$Picture" "colours" "[I" ∈ tw := tw_of (tb_1 (List.mem_of_getElem? (i := 84) rfl)) rfl
theorem k85 : Cond.fieldLink "DrawingMachine$Picture" 22 "DrawingMachine$Picture" "depths" "[I" ∈ tw := tw_of (tb_1 (List.mem_of_getElem? (i := 85) rfl)) rfl
theorem k86 : Cond.fieldLink "DrawingMachine$Picture" 25 "DrawingMachine$Picture" "stencils" "[I" ∈ tw := tw_of (tb_1 (List.mem_of_getElem? (i := 86) rfl)) rfl
theorem k87 : Cond.fieldLink "DrawingMachine$Picture" 28 "DrawingMachine$Picture" "told" "LDrawingMachine$Told;" ∈ tw := tw_of (tb_1 (List.mem_of_getElem? (i := 87) rfl)) rfl
theorem k66 : Cond.fieldLink "DrawingMachine$Picture" 32 "DrawingMachine$Told" "kept" "[I" ∈ tw := tw_of (tb_1 (List.mem_of_getElem? (i := 66) rfl)) rfl
theorem k88 : Cond.fieldLink "DrawingMachine$Picture" 37 "DrawingMachine$Picture" "kept" "[I" ∈ tw := tw_of (tb_1 (List.mem_of_getElem? (i := 88) rfl)) rfl
theorem k109 : Cond.methodLink "DrawingMachine$Course" 3 ⟨"java/lang/Object", "<init>", "()V"⟩ ∈ tw := tw_of (tb_1 (List.mem_of_getElem? (i := 109) rfl)) rfl
theorem k110 : Cond.fieldLink "DrawingMachine$Course" 9 "DrawingMachine$Course" "given" "[I" ∈ tw := tw_of (tb_1 (List.mem_of_getElem? (i := 110) rfl)) rfl
theorem k124 : Cond.fieldLink "DrawingMachine$Course" 15 "DrawingMachine$Course" "lastPlace" "I" ∈ tw := tw_of (tb_1 (List.mem_of_getElem? (i := 124) rfl)) rfl
theorem k126 : Cond.fieldLink "DrawingMachine$Course" 19 "DrawingMachine$Course" "lastDepth" "I" ∈ tw := tw_of (tb_1 (List.mem_of_getElem? (i := 126) rfl)) rfl
theorem k133 : Cond.fieldLink "DrawingMachine$Course" 22 "DrawingMachine$Course" "returns" "[I" ∈ tw := tw_of (tb_1 (List.mem_of_getElem? (i := 133) rfl)) rfl
theorem k134 : Cond.fieldLink "DrawingMachine$Course" 25 "DrawingMachine$Course" "stream" "[I" ∈ tw := tw_of (tb_1 (List.mem_of_getElem? (i := 134) rfl)) rfl
theorem k132 : Cond.fieldLink "DrawingMachine$Course" 28 "DrawingMachine$Course" "memory" "[I" ∈ tw := tw_of (tb_1 (List.mem_of_getElem? (i := 132) rfl)) rfl
theorem k173 : Cond.methodLink "DrawingMachine$Checker" 3 ⟨"java/lang/Object", "<init>", "()V"⟩ ∈ tw := tw_of (tb_1 (List.mem_of_getElem? (i := 173) rfl)) rfl
theorem k176 : Cond.fieldLink "DrawingMachine$Checker" 9 "DrawingMachine$Checker" "place" "I" ∈ tw := tw_of (tb_1 (List.mem_of_getElem? (i := 176) rfl)) rfl
theorem k178 : Cond.fieldLink "DrawingMachine$Checker" 15 "DrawingMachine$Checker" "loopOf" "[I" ∈ tw := tw_of (tb_1 (List.mem_of_getElem? (i := 178) rfl)) rfl
theorem k179 : Cond.fieldLink "DrawingMachine$Checker" 19 "DrawingMachine$Checker" "open" "[I" ∈ tw := tw_of (tb_1 (List.mem_of_getElem? (i := 179) rfl)) rfl
theorem k180 : Cond.fieldLink "DrawingMachine$Checker" 22 "DrawingMachine$Checker" "times" "[J" ∈ tw := tw_of (tb_1 (List.mem_of_getElem? (i := 180) rfl)) rfl
theorem k204 : Cond.methodLink "DrawingMachine$Drawing" 3 ⟨"java/lang/Object", "<init>", "()V"⟩ ∈ tw := tw_of (tb_1 (List.mem_of_getElem? (i := 204) rfl)) rfl
theorem k373 : Cond.fieldLink "DrawingMachine$Drawing" 9 "DrawingMachine$Drawing" "counts" "[I" ∈ tw := tw_of (tb_2 (List.mem_of_getElem? (i := 133) rfl)) rfl
theorem k375 : Cond.fieldLink "DrawingMachine$Drawing" 15 "DrawingMachine$Drawing" "queries" "[I" ∈ tw := tw_of (tb_2 (List.mem_of_getElem? (i := 135) rfl)) rfl
theorem k377 : Cond.fieldLink "DrawingMachine$Drawing" 18 "DrawingMachine$Drawing" "openQuery" "I" ∈ tw := tw_of (tb_2 (List.mem_of_getElem? (i := 137) rfl)) rfl
theorem k64 : Cond.fieldLink "DrawingMachine$Drawing" 22 "DrawingMachine$Told" "kept" "[I" ∈ tw := tw_of (tb_1 (List.mem_of_getElem? (i := 64) rfl)) rfl
theorem k379 : Cond.fieldLink "DrawingMachine$Drawing" 27 "DrawingMachine$Drawing" "kept" "[I" ∈ tw := tw_of (tb_2 (List.mem_of_getElem? (i := 139) rfl)) rfl
theorem k380 : Cond.fieldLink "DrawingMachine$Drawing" 28 "DrawingMachine$Drawing" "picture" "LDrawingMachine$Picture;" ∈ tw := tw_of (tb_2 (List.mem_of_getElem? (i := 140) rfl)) rfl
theorem k205 : Cond.classLink "DrawingMachine$Drawing" 32 "DrawingMachine$Processor" ∈ tw := tw_of (tb_1 (List.mem_of_getElem? (i := 205) rfl)) rfl
theorem k207 : Cond.methodLink "DrawingMachine$Drawing" 34 ⟨"DrawingMachine$Processor", "<init>", "([ILDrawingMachine$Told;)V"⟩ ∈ tw := tw_of (tb_1 (List.mem_of_getElem? (i := 207) rfl)) rfl
theorem k8 : Cond.initialized "DrawingMachine$Processor" ∈ tw := tw_of (tb_1 (List.mem_of_getElem? (i := 8) rfl)) rfl
theorem k208 : Cond.instanceMethod ⟨"DrawingMachine$Processor", "<init>", "([ILDrawingMachine$Told;)V"⟩ ∈ tw := tw_of (tb_1 (List.mem_of_getElem? (i := 208) rfl)) rfl
theorem k209 : Cond.code ⟨"DrawingMachine$Processor", "<init>", "([ILDrawingMachine$Told;)V"⟩ prog_7_method_1_code 3 none ∈ tw := tw_of (tb_1 (List.mem_of_getElem? (i := 209) rfl)) rfl
theorem k381 : Cond.fieldLink "DrawingMachine$Drawing" 37 "DrawingMachine$Drawing" "processor" "LDrawingMachine$Processor;" ∈ tw := tw_of (tb_2 (List.mem_of_getElem? (i := 141) rfl)) rfl
theorem k265 : Cond.classLink "DrawingMachine$Drawing" 41 "DrawingMachine$Vertices" ∈ tw := tw_of (tb_2 (List.mem_of_getElem? (i := 25) rfl)) rfl
theorem k267 : Cond.methodLink "DrawingMachine$Drawing" 43 ⟨"DrawingMachine$Vertices", "<init>", "([ILDrawingMachine$Told;)V"⟩ ∈ tw := tw_of (tb_2 (List.mem_of_getElem? (i := 27) rfl)) rfl
theorem k10 : Cond.initialized "DrawingMachine$Vertices" ∈ tw := tw_of (tb_1 (List.mem_of_getElem? (i := 10) rfl)) rfl
theorem k268 : Cond.instanceMethod ⟨"DrawingMachine$Vertices", "<init>", "([ILDrawingMachine$Told;)V"⟩ ∈ tw := tw_of (tb_2 (List.mem_of_getElem? (i := 28) rfl)) rfl
theorem k269 : Cond.code ⟨"DrawingMachine$Vertices", "<init>", "([ILDrawingMachine$Told;)V"⟩ prog_12_method_1_code 3 none ∈ tw := tw_of (tb_2 (List.mem_of_getElem? (i := 29) rfl)) rfl
theorem k382 : Cond.fieldLink "DrawingMachine$Drawing" 44 "DrawingMachine$Drawing" "vertices" "LDrawingMachine$Vertices;" ∈ tw := tw_of (tb_2 (List.mem_of_getElem? (i := 142) rfl)) rfl
theorem k278 : Cond.classLink "DrawingMachine$Drawing" 48 "DrawingMachine$Shape" ∈ tw := tw_of (tb_2 (List.mem_of_getElem? (i := 38) rfl)) rfl
theorem k280 : Cond.methodLink "DrawingMachine$Drawing" 50 ⟨"DrawingMachine$Shape", "<init>", "(LDrawingMachine$Told;)V"⟩ ∈ tw := tw_of (tb_2 (List.mem_of_getElem? (i := 40) rfl)) rfl
theorem k11 : Cond.initialized "DrawingMachine$Shape" ∈ tw := tw_of (tb_1 (List.mem_of_getElem? (i := 11) rfl)) rfl
theorem k281 : Cond.instanceMethod ⟨"DrawingMachine$Shape", "<init>", "(LDrawingMachine$Told;)V"⟩ ∈ tw := tw_of (tb_2 (List.mem_of_getElem? (i := 41) rfl)) rfl
theorem k282 : Cond.code ⟨"DrawingMachine$Shape", "<init>", "(LDrawingMachine$Told;)V"⟩ prog_9_method_1_code 2 none ∈ tw := tw_of (tb_2 (List.mem_of_getElem? (i := 42) rfl)) rfl
theorem k383 : Cond.fieldLink "DrawingMachine$Drawing" 53 "DrawingMachine$Drawing" "shape" "LDrawingMachine$Shape;" ∈ tw := tw_of (tb_2 (List.mem_of_getElem? (i := 143) rfl)) rfl
theorem k317 : Cond.classLink "DrawingMachine$Drawing" 57 "DrawingMachine$Covering" ∈ tw := tw_of (tb_2 (List.mem_of_getElem? (i := 77) rfl)) rfl
theorem k319 : Cond.methodLink "DrawingMachine$Drawing" 59 ⟨"DrawingMachine$Covering", "<init>", "(LDrawingMachine$Shape;)V"⟩ ∈ tw := tw_of (tb_2 (List.mem_of_getElem? (i := 79) rfl)) rfl
theorem k12 : Cond.initialized "DrawingMachine$Covering" ∈ tw := tw_of (tb_1 (List.mem_of_getElem? (i := 12) rfl)) rfl
theorem k320 : Cond.instanceMethod ⟨"DrawingMachine$Covering", "<init>", "(LDrawingMachine$Shape;)V"⟩ ∈ tw := tw_of (tb_2 (List.mem_of_getElem? (i := 80) rfl)) rfl
theorem k321 : Cond.code ⟨"DrawingMachine$Covering", "<init>", "(LDrawingMachine$Shape;)V"⟩ prog_4_method_1_code 2 none ∈ tw := tw_of (tb_2 (List.mem_of_getElem? (i := 81) rfl)) rfl
theorem k384 : Cond.fieldLink "DrawingMachine$Drawing" 62 "DrawingMachine$Drawing" "covering" "LDrawingMachine$Covering;" ∈ tw := tw_of (tb_2 (List.mem_of_getElem? (i := 144) rfl)) rfl
theorem k210 : Cond.methodLink "DrawingMachine$Processor" 3 ⟨"java/lang/Object", "<init>", "()V"⟩ ∈ tw := tw_of (tb_1 (List.mem_of_getElem? (i := 210) rfl)) rfl
theorem k236 : Cond.fieldLink "DrawingMachine$Processor" 9 "DrawingMachine$Processor" "bank" "[I" ∈ tw := tw_of (tb_1 (List.mem_of_getElem? (i := 236) rfl)) rfl
theorem k240 : Cond.fieldLink "DrawingMachine$Processor" 15 "DrawingMachine$Processor" "a" "[I" ∈ tw := tw_of (tb_2 (List.mem_of_getElem? (i := 0) rfl)) rfl
theorem k241 : Cond.fieldLink "DrawingMachine$Processor" 18 "DrawingMachine$Processor" "b" "[I" ∈ tw := tw_of (tb_2 (List.mem_of_getElem? (i := 1) rfl)) rfl
theorem k242 : Cond.fieldLink "DrawingMachine$Processor" 21 "DrawingMachine$Processor" "c" "[I" ∈ tw := tw_of (tb_2 (List.mem_of_getElem? (i := 2) rfl)) rfl
theorem k243 : Cond.fieldLink "DrawingMachine$Processor" 24 "DrawingMachine$Processor" "result" "[I" ∈ tw := tw_of (tb_2 (List.mem_of_getElem? (i := 3) rfl)) rfl
theorem k244 : Cond.fieldLink "DrawingMachine$Processor" 27 "DrawingMachine$Processor" "starts" "[I" ∈ tw := tw_of (tb_2 (List.mem_of_getElem? (i := 4) rfl)) rfl
theorem k245 : Cond.fieldLink "DrawingMachine$Processor" 30 "DrawingMachine$Processor" "left" "[I" ∈ tw := tw_of (tb_2 (List.mem_of_getElem? (i := 5) rfl)) rfl
theorem k238 : Cond.fieldLink "DrawingMachine$Processor" 33 "DrawingMachine$Processor" "memory" "[I" ∈ tw := tw_of (tb_1 (List.mem_of_getElem? (i := 238) rfl)) rfl
theorem k211 : Cond.classLink "DrawingMachine$Processor" 36 "DrawingMachine$Textures" ∈ tw := tw_of (tb_1 (List.mem_of_getElem? (i := 211) rfl)) rfl
theorem k213 : Cond.methodLink "DrawingMachine$Processor" 38 ⟨"DrawingMachine$Textures", "<init>", "([ILDrawingMachine$Told;)V"⟩ ∈ tw := tw_of (tb_1 (List.mem_of_getElem? (i := 213) rfl)) rfl
theorem k9 : Cond.initialized "DrawingMachine$Textures" ∈ tw := tw_of (tb_1 (List.mem_of_getElem? (i := 9) rfl)) rfl
theorem k214 : Cond.instanceMethod ⟨"DrawingMachine$Textures", "<init>", "([ILDrawingMachine$Told;)V"⟩ ∈ tw := tw_of (tb_1 (List.mem_of_getElem? (i := 214) rfl)) rfl
theorem k215 : Cond.code ⟨"DrawingMachine$Textures", "<init>", "([ILDrawingMachine$Told;)V"⟩ prog_10_method_1_code 3 none ∈ tw := tw_of (tb_1 (List.mem_of_getElem? (i := 215) rfl)) rfl
theorem k239 : Cond.fieldLink "DrawingMachine$Processor" 41 "DrawingMachine$Processor" "textures" "LDrawingMachine$Textures;" ∈ tw := tw_of (tb_1 (List.mem_of_getElem? (i := 239) rfl)) rfl
theorem k216 : Cond.methodLink "DrawingMachine$Textures" 3 ⟨"java/lang/Object", "<init>", "()V"⟩ ∈ tw := tw_of (tb_1 (List.mem_of_getElem? (i := 216) rfl)) rfl
theorem k219 : Cond.fieldLink "DrawingMachine$Textures" 9 "DrawingMachine$Textures" "nextLevel" "[I" ∈ tw := tw_of (tb_1 (List.mem_of_getElem? (i := 219) rfl)) rfl
theorem k220 : Cond.fieldLink "DrawingMachine$Textures" 15 "DrawingMachine$Textures" "beside" "[I" ∈ tw := tw_of (tb_1 (List.mem_of_getElem? (i := 220) rfl)) rfl
theorem k221 : Cond.fieldLink "DrawingMachine$Textures" 18 "DrawingMachine$Textures" "below" "[I" ∈ tw := tw_of (tb_1 (List.mem_of_getElem? (i := 221) rfl)) rfl
theorem k222 : Cond.fieldLink "DrawingMachine$Textures" 21 "DrawingMachine$Textures" "belowBeside" "[I" ∈ tw := tw_of (tb_1 (List.mem_of_getElem? (i := 222) rfl)) rfl
theorem k217 : Cond.fieldLink "DrawingMachine$Textures" 24 "DrawingMachine$Textures" "memory" "[I" ∈ tw := tw_of (tb_1 (List.mem_of_getElem? (i := 217) rfl)) rfl
theorem k65 : Cond.fieldLink "DrawingMachine$Textures" 27 "DrawingMachine$Told" "kept" "[I" ∈ tw := tw_of (tb_1 (List.mem_of_getElem? (i := 65) rfl)) rfl
theorem k218 : Cond.fieldLink "DrawingMachine$Textures" 32 "DrawingMachine$Textures" "kept" "[I" ∈ tw := tw_of (tb_1 (List.mem_of_getElem? (i := 218) rfl)) rfl
theorem k270 : Cond.methodLink "DrawingMachine$Vertices" 3 ⟨"java/lang/Object", "<init>", "()V"⟩ ∈ tw := tw_of (tb_2 (List.mem_of_getElem? (i := 30) rfl)) rfl
theorem k271 : Cond.fieldLink "DrawingMachine$Vertices" 9 "DrawingMachine$Vertices" "memory" "[I" ∈ tw := tw_of (tb_2 (List.mem_of_getElem? (i := 31) rfl)) rfl
theorem k63 : Cond.fieldLink "DrawingMachine$Vertices" 15 "DrawingMachine$Told" "kept" "[I" ∈ tw := tw_of (tb_1 (List.mem_of_getElem? (i := 63) rfl)) rfl
theorem k272 : Cond.fieldLink "DrawingMachine$Vertices" 20 "DrawingMachine$Vertices" "kept" "[I" ∈ tw := tw_of (tb_2 (List.mem_of_getElem? (i := 32) rfl)) rfl
theorem k283 : Cond.methodLink "DrawingMachine$Shape" 3 ⟨"java/lang/Object", "<init>", "()V"⟩ ∈ tw := tw_of (tb_2 (List.mem_of_getElem? (i := 43) rfl)) rfl
theorem k284 : Cond.classLink "DrawingMachine$Shape" 11 "[[I" ∈ tw := tw_of (tb_2 (List.mem_of_getElem? (i := 44) rfl)) rfl
theorem k288 : Cond.fieldLink "DrawingMachine$Shape" 13 "DrawingMachine$Shape" "corners" "[[I" ∈ tw := tw_of (tb_2 (List.mem_of_getElem? (i := 48) rfl)) rfl
theorem k290 : Cond.fieldLink "DrawingMachine$Shape" 16 "DrawingMachine$Shape" "x" "[I" ∈ tw := tw_of (tb_2 (List.mem_of_getElem? (i := 50) rfl)) rfl
theorem k292 : Cond.fieldLink "DrawingMachine$Shape" 20 "DrawingMachine$Shape" "y" "[I" ∈ tw := tw_of (tb_2 (List.mem_of_getElem? (i := 52) rfl)) rfl
theorem k294 : Cond.fieldLink "DrawingMachine$Shape" 23 "DrawingMachine$Shape" "depth" "[I" ∈ tw := tw_of (tb_2 (List.mem_of_getElem? (i := 54) rfl)) rfl
theorem k296 : Cond.fieldLink "DrawingMachine$Shape" 26 "DrawingMachine$Shape" "nearness" "[I" ∈ tw := tw_of (tb_2 (List.mem_of_getElem? (i := 56) rfl)) rfl
theorem k298 : Cond.fieldLink "DrawingMachine$Shape" 29 "DrawingMachine$Shape" "spare" "[[I" ∈ tw := tw_of (tb_2 (List.mem_of_getElem? (i := 58) rfl)) rfl
theorem k67 : Cond.fieldLink "DrawingMachine$Shape" 32 "DrawingMachine$Told" "kept" "[I" ∈ tw := tw_of (tb_1 (List.mem_of_getElem? (i := 67) rfl)) rfl
theorem k299 : Cond.fieldLink "DrawingMachine$Shape" 37 "DrawingMachine$Shape" "kept" "[I" ∈ tw := tw_of (tb_2 (List.mem_of_getElem? (i := 59) rfl)) rfl
theorem k322 : Cond.methodLink "DrawingMachine$Covering" 3 ⟨"java/lang/Object", "<init>", "()V"⟩ ∈ tw := tw_of (tb_2 (List.mem_of_getElem? (i := 82) rfl)) rfl
theorem k333 : Cond.fieldLink "DrawingMachine$Covering" 9 "DrawingMachine$Covering" "who" "[I" ∈ tw := tw_of (tb_2 (List.mem_of_getElem? (i := 93) rfl)) rfl
theorem k334 : Cond.fieldLink "DrawingMachine$Covering" 15 "DrawingMachine$Covering" "along" "[J" ∈ tw := tw_of (tb_2 (List.mem_of_getElem? (i := 94) rfl)) rfl
theorem k335 : Cond.fieldLink "DrawingMachine$Covering" 19 "DrawingMachine$Covering" "down" "[J" ∈ tw := tw_of (tb_2 (List.mem_of_getElem? (i := 95) rfl)) rfl
theorem k336 : Cond.fieldLink "DrawingMachine$Covering" 22 "DrawingMachine$Covering" "start" "[J" ∈ tw := tw_of (tb_2 (List.mem_of_getElem? (i := 96) rfl)) rfl
theorem k337 : Cond.fieldLink "DrawingMachine$Covering" 25 "DrawingMachine$Covering" "least" "[J" ∈ tw := tw_of (tb_2 (List.mem_of_getElem? (i := 97) rfl)) rfl
theorem k338 : Cond.fieldLink "DrawingMachine$Covering" 28 "DrawingMachine$Covering" "weight" "[J" ∈ tw := tw_of (tb_2 (List.mem_of_getElem? (i := 98) rfl)) rfl
theorem k339 : Cond.fieldLink "DrawingMachine$Covering" 31 "DrawingMachine$Covering" "share" "[J" ∈ tw := tw_of (tb_2 (List.mem_of_getElem? (i := 99) rfl)) rfl
theorem k332 : Cond.fieldLink "DrawingMachine$Covering" 34 "DrawingMachine$Covering" "shape" "LDrawingMachine$Shape;" ∈ tw := tw_of (tb_2 (List.mem_of_getElem? (i := 92) rfl)) rfl
theorem k409 : Cond.methodLink "DrawingMachine$Program" 1 ⟨"java/lang/Object", "<init>", "()V"⟩ ∈ tw := tw_of (tb_2 (List.mem_of_getElem? (i := 169) rfl)) rfl
theorem k410 : Cond.fieldLink "DrawingMachine$Program" 7 "DrawingMachine$Program" "words" "[I" ∈ tw := tw_of (tb_2 (List.mem_of_getElem? (i := 170) rfl)) rfl
theorem k461 : Cond.code ⟨"DrawingMachine", "begin", "(Z)V"⟩ prog_1_method_7_code 2 none ∈ tw := tw_of (tb_2 (List.mem_of_getElem? (i := 221) rfl)) rfl
theorem k462 : Cond.methodLink "DrawingMachine" 108 ⟨"DrawingMachine", "beginAnew", "()V"⟩ ∈ tw := tw_of (tb_2 (List.mem_of_getElem? (i := 222) rfl)) rfl
theorem k1 : Cond.initialized "DrawingMachine" ∈ tw := tw_of (tb_1 (List.mem_of_getElem? (i := 1) rfl)) rfl
theorem k464 : Cond.instanceMethod ⟨"DrawingMachine", "beginAnew", "()V"⟩ ∈ tw := tw_of (tb_2 (List.mem_of_getElem? (i := 224) rfl)) rfl
theorem ks0 : Cond.selects "DrawingMachine" ⟨"DrawingMachine", "beginAnew", "()V"⟩ ⟨"DrawingMachine", "beginAnew", "()V"⟩ ∈ tw := tw_sel 0 rfl rfl
theorem k465 : Cond.code ⟨"DrawingMachine", "beginAnew", "()V"⟩ prog_1_method_14_code 1 none ∈ tw := tw_of (tb_2 (List.mem_of_getElem? (i := 225) rfl)) rfl
theorem k470 : Cond.methodLink "DrawingMachine" 111 ⟨"DrawingMachine$Told", "forget", "()V"⟩ ∈ tw := tw_of (tb_2 (List.mem_of_getElem? (i := 230) rfl)) rfl
theorem k416 : Cond.fieldLink "DrawingMachine" 114 "DrawingMachine$Program" "many" "I" ∈ tw := tw_of (tb_2 (List.mem_of_getElem? (i := 176) rfl)) rfl
theorem k466 : Cond.methodLink "DrawingMachine" 195 ⟨"DrawingMachine$Course", "beginAnew", "()V"⟩ ∈ tw := tw_of (tb_2 (List.mem_of_getElem? (i := 226) rfl)) rfl
theorem k467 : Cond.instanceMethod ⟨"DrawingMachine$Course", "beginAnew", "()V"⟩ ∈ tw := tw_of (tb_2 (List.mem_of_getElem? (i := 227) rfl)) rfl
theorem k468 : Cond.selects "DrawingMachine$Course" ⟨"DrawingMachine$Course", "beginAnew", "()V"⟩ ⟨"DrawingMachine$Course", "beginAnew", "()V"⟩ ∈ tw := tw_of (tb_2 (List.mem_of_getElem? (i := 228) rfl)) rfl
theorem k469 : Cond.code ⟨"DrawingMachine$Course", "beginAnew", "()V"⟩ prog_3_method_4_code 1 none ∈ tw := tw_of (tb_2 (List.mem_of_getElem? (i := 229) rfl)) rfl
theorem k378 : Cond.fieldLink "DrawingMachine" 158 "DrawingMachine$Drawing" "openQuery" "I" ∈ tw := tw_of (tb_2 (List.mem_of_getElem? (i := 138) rfl)) rfl
theorem k135 : Cond.fieldLink "DrawingMachine$Course" 46 "DrawingMachine$Course" "position" "I" ∈ tw := tw_of (tb_1 (List.mem_of_getElem? (i := 135) rfl)) rfl
theorem k118 : Cond.fieldLink "DrawingMachine$Course" 49 "DrawingMachine$Course" "depth" "I" ∈ tw := tw_of (tb_1 (List.mem_of_getElem? (i := 118) rfl)) rfl
theorem k120 : Cond.fieldLink "DrawingMachine$Course" 52 "DrawingMachine$Course" "done" "I" ∈ tw := tw_of (tb_1 (List.mem_of_getElem? (i := 120) rfl)) rfl
theorem k122 : Cond.fieldLink "DrawingMachine$Course" 55 "DrawingMachine$Course" "refused" "I" ∈ tw := tw_of (tb_1 (List.mem_of_getElem? (i := 122) rfl)) rfl
theorem k128 : Cond.fieldLink "DrawingMachine$Course" 58 "DrawingMachine$Course" "over" "Z" ∈ tw := tw_of (tb_1 (List.mem_of_getElem? (i := 128) rfl)) rfl
theorem k131 : Cond.fieldLink "DrawingMachine$Course" 62 "DrawingMachine$Course" "work" "J" ∈ tw := tw_of (tb_1 (List.mem_of_getElem? (i := 131) rfl)) rfl
theorem k473 : Cond.codeWith ⟨"DrawingMachineLaw", "frame", "(LDrawingMachine;III[J)I"⟩ method_3_code 6 (Option.some .int) [(0, 12, 15, 13)] ∈ tw := tw_of (tb_2 (List.mem_of_getElem? (i := 233) rfl)) rfl
theorem k475 : Cond.methodLink "DrawingMachineLaw" 7 ⟨"DrawingMachine", "frame", "(III)I"⟩ ∈ tw := tw_of (tb_2 (List.mem_of_getElem? (i := 235) rfl)) rfl
theorem k476 : Cond.instanceMethod ⟨"DrawingMachine", "frame", "(III)I"⟩ ∈ tw := tw_of (tb_2 (List.mem_of_getElem? (i := 236) rfl)) rfl
theorem k477 : Cond.selects "DrawingMachine" ⟨"DrawingMachine", "frame", "(III)I"⟩ ⟨"DrawingMachine", "frame", "(III)I"⟩ ∈ tw := tw_of (tb_2 (List.mem_of_getElem? (i := 237) rfl)) rfl
theorem k478 : Cond.code ⟨"DrawingMachine", "frame", "(III)I"⟩ prog_1_method_2_code 4 (Option.some .int) ∈ tw := tw_of (tb_2 (List.mem_of_getElem? (i := 238) rfl)) rfl
theorem k474 : Cond.classLink "DrawingMachineLaw" 13 "java/lang/IllegalArgumentException" ∈ tw := tw_of (tb_2 (List.mem_of_getElem? (i := 234) rfl)) rfl
theorem k479 : Cond.methodLink "DrawingMachine" 67 ⟨"DrawingMachine", "isSide", "(I)Z"⟩ ∈ tw := tw_of (tb_2 (List.mem_of_getElem? (i := 239) rfl)) rfl
theorem k480 : Cond.static ⟨"DrawingMachine", "isSide", "(I)Z"⟩ ∈ tw := tw_of (tb_3 (List.mem_of_getElem? (i := 0) rfl)) rfl
theorem k481 : Cond.code ⟨"DrawingMachine", "isSide", "(I)Z"⟩ prog_1_method_22_code 1 (Option.some .boolean) ∈ tw := tw_of (tb_3 (List.mem_of_getElem? (i := 1) rfl)) rfl
theorem k482 : Cond.methodLink "DrawingMachine" 71 ⟨"DrawingMachine", "isTileSide", "(I)Z"⟩ ∈ tw := tw_of (tb_3 (List.mem_of_getElem? (i := 2) rfl)) rfl
theorem k483 : Cond.static ⟨"DrawingMachine", "isTileSide", "(I)Z"⟩ ∈ tw := tw_of (tb_3 (List.mem_of_getElem? (i := 3) rfl)) rfl
theorem k484 : Cond.code ⟨"DrawingMachine", "isTileSide", "(I)Z"⟩ prog_1_method_23_code 1 (Option.some .boolean) ∈ tw := tw_of (tb_3 (List.mem_of_getElem? (i := 4) rfl)) rfl
theorem k485 : Cond.classLink "DrawingMachine" 74 "java/lang/IllegalArgumentException" ∈ tw := tw_of (tb_3 (List.mem_of_getElem? (i := 5) rfl)) rfl
theorem k529 : Cond.methodLink "DrawingMachine" 78 ⟨"java/lang/IllegalArgumentException", "<init>", "(Ljava/lang/String;)V"⟩ ∈ tw := tw_of (tb_3 (List.mem_of_getElem? (i := 49) rfl)) rfl
theorem k24 : Cond.initialized "java/lang/IllegalArgumentException" ∈ tw := tw_of (tb_1 (List.mem_of_getElem? (i := 24) rfl)) rfl
theorem k530 : Cond.instanceMethod ⟨"java/lang/IllegalArgumentException", "<init>", "(Ljava/lang/String;)V"⟩ ∈ tw := tw_of (tb_3 (List.mem_of_getElem? (i := 50) rfl)) rfl
theorem k531 : Cond.code ⟨"java/lang/IllegalArgumentException", "<init>", "(Ljava/lang/String;)V"⟩ prog_25_method_2_code 2 none ∈ tw := tw_of (tb_3 (List.mem_of_getElem? (i := 51) rfl)) rfl
theorem k555 : Cond.methodLink "DrawingMachine" 81 ⟨"DrawingMachine$Picture", "makeNew", "(II)V"⟩ ∈ tw := tw_of (tb_3 (List.mem_of_getElem? (i := 75) rfl)) rfl
theorem k556 : Cond.instanceMethod ⟨"DrawingMachine$Picture", "makeNew", "(II)V"⟩ ∈ tw := tw_of (tb_3 (List.mem_of_getElem? (i := 76) rfl)) rfl
theorem k557 : Cond.selects "DrawingMachine$Picture" ⟨"DrawingMachine$Picture", "makeNew", "(II)V"⟩ ⟨"DrawingMachine$Picture", "makeNew", "(II)V"⟩ ∈ tw := tw_of (tb_3 (List.mem_of_getElem? (i := 77) rfl)) rfl
theorem k558 : Cond.code ⟨"DrawingMachine$Picture", "makeNew", "(II)V"⟩ prog_6_method_2_code 4 none ∈ tw := tw_of (tb_3 (List.mem_of_getElem? (i := 78) rfl)) rfl
theorem k559 : Cond.methodLink "DrawingMachine$Picture" 38 ⟨"java/lang/Math", "max", "(II)I"⟩ ∈ tw := tw_of (tb_3 (List.mem_of_getElem? (i := 79) rfl)) rfl
theorem k25 : Cond.initialized "java/lang/Math" ∈ tw := tw_of (tb_1 (List.mem_of_getElem? (i := 25) rfl)) rfl
theorem k560 : Cond.static ⟨"java/lang/Math", "max", "(II)I"⟩ ∈ tw := tw_of (tb_3 (List.mem_of_getElem? (i := 80) rfl)) rfl
theorem k561 : Cond.code ⟨"java/lang/Math", "max", "(II)I"⟩ prog_30_method_65_code 2 (Option.some .int) ∈ tw := tw_of (tb_3 (List.mem_of_getElem? (i := 81) rfl)) rfl
theorem k562 : Cond.methodLink "DrawingMachine$Picture" 44 ⟨"java/lang/Math", "min", "(II)I"⟩ ∈ tw := tw_of (tb_3 (List.mem_of_getElem? (i := 82) rfl)) rfl
theorem k563 : Cond.static ⟨"java/lang/Math", "min", "(II)I"⟩ ∈ tw := tw_of (tb_3 (List.mem_of_getElem? (i := 83) rfl)) rfl
theorem k564 : Cond.code ⟨"java/lang/Math", "min", "(II)I"⟩ prog_30_method_69_code 2 (Option.some .int) ∈ tw := tw_of (tb_3 (List.mem_of_getElem? (i := 84) rfl)) rfl
theorem k565 : Cond.methodLink "DrawingMachine$Picture" 47 ⟨"java/util/Arrays", "fill", "([IIII)V"⟩ ∈ tw := tw_of (tb_3 (List.mem_of_getElem? (i := 85) rfl)) rfl
theorem k566 : Cond.static ⟨"java/util/Arrays", "fill", "([IIII)V"⟩ ∈ tw := tw_of (tb_3 (List.mem_of_getElem? (i := 86) rfl)) rfl
theorem k567 : Cond.code ⟨"java/util/Arrays", "fill", "([IIII)V"⟩ prog_39_method_104_code 5 none ∈ tw := tw_of (tb_3 (List.mem_of_getElem? (i := 87) rfl)) rfl
theorem k568 : Cond.methodLink "java/util/Arrays" 13 ⟨"java/util/Arrays", "rangeCheck", "(III)V"⟩ ∈ tw := tw_of (tb_3 (List.mem_of_getElem? (i := 88) rfl)) rfl
theorem k569 : Cond.static ⟨"java/util/Arrays", "rangeCheck", "(III)V"⟩ ∈ tw := tw_of (tb_3 (List.mem_of_getElem? (i := 89) rfl)) rfl
theorem k570 : Cond.code ⟨"java/util/Arrays", "rangeCheck", "(III)V"⟩ prog_39_method_30_code 3 none ∈ tw := tw_of (tb_3 (List.mem_of_getElem? (i := 90) rfl)) rfl
theorem k571 : Cond.classLink "java/util/Arrays" 43 "java/lang/IllegalArgumentException" ∈ tw := tw_of (tb_3 (List.mem_of_getElem? (i := 91) rfl)) rfl
theorem k572 : Cond.classLink "java/util/Arrays" 45 "java/lang/StringBuilder" ∈ tw := tw_of (tb_3 (List.mem_of_getElem? (i := 92) rfl)) rfl
theorem k574 : Cond.methodLink "java/util/Arrays" 47 ⟨"java/lang/StringBuilder", "<init>", "()V"⟩ ∈ tw := tw_of (tb_3 (List.mem_of_getElem? (i := 94) rfl)) rfl
theorem k27 : Cond.initialized "java/lang/StringBuilder" ∈ tw := tw_of (tb_1 (List.mem_of_getElem? (i := 27) rfl)) rfl
theorem k575 : Cond.instanceMethod ⟨"java/lang/StringBuilder", "<init>", "()V"⟩ ∈ tw := tw_of (tb_3 (List.mem_of_getElem? (i := 95) rfl)) rfl
theorem k576 : Cond.code ⟨"java/lang/StringBuilder", "<init>", "()V"⟩ prog_33_method_1_code 1 none ∈ tw := tw_of (tb_3 (List.mem_of_getElem? (i := 96) rfl)) rfl
theorem k604 : Cond.methodLink "java/util/Arrays" 50 ⟨"java/lang/StringBuilder", "append", "(Ljava/lang/String;)Ljava/lang/StringBuilder;"⟩ ∈ tw := tw_of (tb_3 (List.mem_of_getElem? (i := 124) rfl)) rfl
theorem k605 : Cond.instanceMethod ⟨"java/lang/StringBuilder", "append", "(Ljava/lang/String;)Ljava/lang/StringBuilder;"⟩ ∈ tw := tw_of (tb_3 (List.mem_of_getElem? (i := 125) rfl)) rfl
theorem k606 : Cond.selects "java/lang/StringBuilder" ⟨"java/lang/StringBuilder", "append", "(Ljava/lang/String;)Ljava/lang/StringBuilder;"⟩ ⟨"java/lang/StringBuilder", "append", "(Ljava/lang/String;)Ljava/lang/StringBuilder;"⟩ ∈ tw := tw_of (tb_3 (List.mem_of_getElem? (i := 126) rfl)) rfl
theorem k607 : Cond.code ⟨"java/lang/StringBuilder", "append", "(Ljava/lang/String;)Ljava/lang/StringBuilder;"⟩ prog_33_method_7_code 2 (Option.some (.object "java/lang/StringBuilder")) ∈ tw := tw_of (tb_3 (List.mem_of_getElem? (i := 127) rfl)) rfl
theorem k720 : Cond.methodLink "java/util/Arrays" 54 ⟨"java/lang/StringBuilder", "append", "(I)Ljava/lang/StringBuilder;"⟩ ∈ tw := tw_of (tb_4 (List.mem_of_getElem? (i := 0) rfl)) rfl
theorem k721 : Cond.instanceMethod ⟨"java/lang/StringBuilder", "append", "(I)Ljava/lang/StringBuilder;"⟩ ∈ tw := tw_of (tb_4 (List.mem_of_getElem? (i := 1) rfl)) rfl
theorem k722 : Cond.selects "java/lang/StringBuilder" ⟨"java/lang/StringBuilder", "append", "(I)Ljava/lang/StringBuilder;"⟩ ⟨"java/lang/StringBuilder", "append", "(I)Ljava/lang/StringBuilder;"⟩ ∈ tw := tw_of (tb_4 (List.mem_of_getElem? (i := 2) rfl)) rfl
theorem k723 : Cond.code ⟨"java/lang/StringBuilder", "append", "(I)Ljava/lang/StringBuilder;"⟩ prog_33_method_15_code 2 (Option.some (.object "java/lang/StringBuilder")) ∈ tw := tw_of (tb_4 (List.mem_of_getElem? (i := 3) rfl)) rfl
theorem k747 : Cond.methodLink "java/util/Arrays" 61 ⟨"java/lang/StringBuilder", "toString", "()Ljava/lang/String;"⟩ ∈ tw := tw_of (tb_4 (List.mem_of_getElem? (i := 27) rfl)) rfl
theorem k748 : Cond.instanceMethod ⟨"java/lang/StringBuilder", "toString", "()Ljava/lang/String;"⟩ ∈ tw := tw_of (tb_4 (List.mem_of_getElem? (i := 28) rfl)) rfl
theorem k749 : Cond.selects "java/lang/StringBuilder" ⟨"java/lang/StringBuilder", "toString", "()Ljava/lang/String;"⟩ ⟨"java/lang/StringBuilder", "toString", "()Ljava/lang/String;"⟩ ∈ tw := tw_of (tb_4 (List.mem_of_getElem? (i := 29) rfl)) rfl
theorem k750 : Cond.code ⟨"java/lang/StringBuilder", "toString", "()Ljava/lang/String;"⟩ prog_33_method_42_code 1 (Option.some (.object "java/lang/String")) ∈ tw := tw_of (tb_4 (List.mem_of_getElem? (i := 30) rfl)) rfl
theorem k784 : Cond.methodLink "java/util/Arrays" 65 ⟨"java/lang/IllegalArgumentException", "<init>", "(Ljava/lang/String;)V"⟩ ∈ tw := tw_of (tb_4 (List.mem_of_getElem? (i := 64) rfl)) rfl
theorem k809 : Cond.classLink "java/util/Arrays" 68 "java/lang/ArrayIndexOutOfBoundsException" ∈ tw := tw_of (tb_4 (List.mem_of_getElem? (i := 89) rfl)) rfl
theorem k811 : Cond.methodLink "java/util/Arrays" 70 ⟨"java/lang/ArrayIndexOutOfBoundsException", "<init>", "(I)V"⟩ ∈ tw := tw_of (tb_4 (List.mem_of_getElem? (i := 91) rfl)) rfl
theorem k36 : Cond.initialized "java/lang/ArrayIndexOutOfBoundsException" ∈ tw := tw_of (tb_1 (List.mem_of_getElem? (i := 36) rfl)) rfl
theorem k812 : Cond.instanceMethod ⟨"java/lang/ArrayIndexOutOfBoundsException", "<init>", "(I)V"⟩ ∈ tw := tw_of (tb_4 (List.mem_of_getElem? (i := 92) rfl)) rfl
theorem k813 : Cond.code ⟨"java/lang/ArrayIndexOutOfBoundsException", "<init>", "(I)V"⟩ prog_22_method_3_code 2 none ∈ tw := tw_of (tb_4 (List.mem_of_getElem? (i := 93) rfl)) rfl
theorem k833 : Cond.codeWith ⟨"DrawingMachineLaw", "word", "(LDrawingMachine;II[J)I"⟩ method_4_code 5 (Option.some .int) [(0, 10, 13, 19)] ∈ tw := tw_of (tb_4 (List.mem_of_getElem? (i := 113) rfl)) rfl
theorem k835 : Cond.methodLink "DrawingMachineLaw" 15 ⟨"DrawingMachine", "word", "(II)I"⟩ ∈ tw := tw_of (tb_4 (List.mem_of_getElem? (i := 115) rfl)) rfl
theorem k836 : Cond.instanceMethod ⟨"DrawingMachine", "word", "(II)I"⟩ ∈ tw := tw_of (tb_4 (List.mem_of_getElem? (i := 116) rfl)) rfl
theorem k837 : Cond.selects "DrawingMachine" ⟨"DrawingMachine", "word", "(II)I"⟩ ⟨"DrawingMachine", "word", "(II)I"⟩ ∈ tw := tw_of (tb_4 (List.mem_of_getElem? (i := 117) rfl)) rfl
theorem k838 : Cond.code ⟨"DrawingMachine", "word", "(II)I"⟩ prog_1_method_3_code 4 (Option.some .int) ∈ tw := tw_of (tb_4 (List.mem_of_getElem? (i := 118) rfl)) rfl
theorem k834 : Cond.classLink "DrawingMachineLaw" 19 "java/lang/IndexOutOfBoundsException" ∈ tw := tw_of (tb_4 (List.mem_of_getElem? (i := 114) rfl)) rfl
theorem k839 : Cond.classLink "DrawingMachine" 85 "java/lang/IndexOutOfBoundsException" ∈ tw := tw_of (tb_4 (List.mem_of_getElem? (i := 119) rfl)) rfl
theorem k849 : Cond.methodLink "DrawingMachine" 89 ⟨"java/lang/IndexOutOfBoundsException", "<init>", "(Ljava/lang/String;)V"⟩ ∈ tw := tw_of (tb_4 (List.mem_of_getElem? (i := 129) rfl)) rfl
theorem k35 : Cond.initialized "java/lang/IndexOutOfBoundsException" ∈ tw := tw_of (tb_1 (List.mem_of_getElem? (i := 35) rfl)) rfl
theorem k821 : Cond.instanceMethod ⟨"java/lang/IndexOutOfBoundsException", "<init>", "(Ljava/lang/String;)V"⟩ ∈ tw := tw_of (tb_4 (List.mem_of_getElem? (i := 101) rfl)) rfl
theorem k822 : Cond.code ⟨"java/lang/IndexOutOfBoundsException", "<init>", "(Ljava/lang/String;)V"⟩ prog_27_method_2_code 2 none ∈ tw := tw_of (tb_4 (List.mem_of_getElem? (i := 102) rfl)) rfl
theorem k854 : Cond.codeWith ⟨"DrawingMachineLaw", "look", "(LDrawingMachine;I[J)I"⟩ method_5_code 4 (Option.some .int) [(0, 9, 12, 19)] ∈ tw := tw_of (tb_4 (List.mem_of_getElem? (i := 134) rfl)) rfl
theorem k855 : Cond.methodLink "DrawingMachineLaw" 21 ⟨"DrawingMachine", "look", "(I)I"⟩ ∈ tw := tw_of (tb_4 (List.mem_of_getElem? (i := 135) rfl)) rfl
theorem k856 : Cond.instanceMethod ⟨"DrawingMachine", "look", "(I)I"⟩ ∈ tw := tw_of (tb_4 (List.mem_of_getElem? (i := 136) rfl)) rfl
theorem k857 : Cond.selects "DrawingMachine" ⟨"DrawingMachine", "look", "(I)I"⟩ ⟨"DrawingMachine", "look", "(I)I"⟩ ∈ tw := tw_of (tb_4 (List.mem_of_getElem? (i := 137) rfl)) rfl
theorem k858 : Cond.code ⟨"DrawingMachine", "look", "(I)I"⟩ prog_1_method_4_code 2 (Option.some .int) ∈ tw := tw_of (tb_4 (List.mem_of_getElem? (i := 138) rfl)) rfl
theorem k861 : Cond.codeWith ⟨"DrawingMachineLaw", "feed", "(LDrawingMachine;IIIII[J)I"⟩ method_6_code 8 (Option.some .int) [(0, 16, 19, 29)] ∈ tw := tw_of (tb_4 (List.mem_of_getElem? (i := 141) rfl)) rfl
theorem k863 : Cond.methodLink "DrawingMachineLaw" 25 ⟨"DrawingMachine", "feed", "(IIIII)I"⟩ ∈ tw := tw_of (tb_4 (List.mem_of_getElem? (i := 143) rfl)) rfl
theorem k864 : Cond.instanceMethod ⟨"DrawingMachine", "feed", "(IIIII)I"⟩ ∈ tw := tw_of (tb_4 (List.mem_of_getElem? (i := 144) rfl)) rfl
theorem k865 : Cond.selects "DrawingMachine" ⟨"DrawingMachine", "feed", "(IIIII)I"⟩ ⟨"DrawingMachine", "feed", "(IIIII)I"⟩ ∈ tw := tw_of (tb_4 (List.mem_of_getElem? (i := 145) rfl)) rfl
theorem k866 : Cond.code ⟨"DrawingMachine", "feed", "(IIIII)I"⟩ prog_1_method_5_code 6 (Option.some .int) ∈ tw := tw_of (tb_4 (List.mem_of_getElem? (i := 146) rfl)) rfl
theorem k862 : Cond.classLink "DrawingMachineLaw" 29 "java/lang/UnsupportedOperationException" ∈ tw := tw_of (tb_4 (List.mem_of_getElem? (i := 142) rfl)) rfl
theorem k114 : Cond.fieldLink "DrawingMachine" 90 "DrawingMachine$Course" "words" "I" ∈ tw := tw_of (tb_1 (List.mem_of_getElem? (i := 114) rfl)) rfl
theorem k867 : Cond.classLink "DrawingMachine" 94 "java/lang/UnsupportedOperationException" ∈ tw := tw_of (tb_4 (List.mem_of_getElem? (i := 147) rfl)) rfl
theorem k877 : Cond.methodLink "DrawingMachine" 98 ⟨"java/lang/UnsupportedOperationException", "<init>", "(Ljava/lang/String;)V"⟩ ∈ tw := tw_of (tb_4 (List.mem_of_getElem? (i := 157) rfl)) rfl
theorem k37 : Cond.initialized "java/lang/UnsupportedOperationException" ∈ tw := tw_of (tb_1 (List.mem_of_getElem? (i := 37) rfl)) rfl
theorem k878 : Cond.instanceMethod ⟨"java/lang/UnsupportedOperationException", "<init>", "(Ljava/lang/String;)V"⟩ ∈ tw := tw_of (tb_4 (List.mem_of_getElem? (i := 158) rfl)) rfl
theorem k879 : Cond.code ⟨"java/lang/UnsupportedOperationException", "<init>", "(Ljava/lang/String;)V"⟩ prog_38_method_2_code 2 none ∈ tw := tw_of (tb_4 (List.mem_of_getElem? (i := 159) rfl)) rfl
theorem k883 : Cond.methodLink "DrawingMachine" 99 ⟨"DrawingMachine$Course", "makeRoom", "(I)V"⟩ ∈ tw := tw_of (tb_4 (List.mem_of_getElem? (i := 163) rfl)) rfl
theorem k884 : Cond.instanceMethod ⟨"DrawingMachine$Course", "makeRoom", "(I)V"⟩ ∈ tw := tw_of (tb_4 (List.mem_of_getElem? (i := 164) rfl)) rfl
theorem k885 : Cond.selects "DrawingMachine$Course" ⟨"DrawingMachine$Course", "makeRoom", "(I)V"⟩ ⟨"DrawingMachine$Course", "makeRoom", "(I)V"⟩ ∈ tw := tw_of (tb_4 (List.mem_of_getElem? (i := 165) rfl)) rfl
theorem k886 : Cond.code ⟨"DrawingMachine$Course", "makeRoom", "(I)V"⟩ prog_3_method_2_code 2 none ∈ tw := tw_of (tb_4 (List.mem_of_getElem? (i := 166) rfl)) rfl
theorem k896 : Cond.methodLink "DrawingMachine" 103 ⟨"DrawingMachine$Course", "add", "(I)V"⟩ ∈ tw := tw_of (tb_4 (List.mem_of_getElem? (i := 176) rfl)) rfl
theorem k897 : Cond.instanceMethod ⟨"DrawingMachine$Course", "add", "(I)V"⟩ ∈ tw := tw_of (tb_4 (List.mem_of_getElem? (i := 177) rfl)) rfl
theorem k898 : Cond.selects "DrawingMachine$Course" ⟨"DrawingMachine$Course", "add", "(I)V"⟩ ⟨"DrawingMachine$Course", "add", "(I)V"⟩ ∈ tw := tw_of (tb_4 (List.mem_of_getElem? (i := 178) rfl)) rfl
theorem k899 : Cond.code ⟨"DrawingMachine$Course", "add", "(I)V"⟩ prog_3_method_3_code 2 none ∈ tw := tw_of (tb_4 (List.mem_of_getElem? (i := 179) rfl)) rfl
theorem k113 : Cond.fieldLink "DrawingMachine$Course" 31 "DrawingMachine$Course" "words" "I" ∈ tw := tw_of (tb_1 (List.mem_of_getElem? (i := 113) rfl)) rfl
theorem k887 : Cond.methodLink "DrawingMachine$Course" 34 ⟨"java/lang/Math", "min", "(II)I"⟩ ∈ tw := tw_of (tb_4 (List.mem_of_getElem? (i := 167) rfl)) rfl
theorem k888 : Cond.methodLink "DrawingMachine$Course" 40 ⟨"java/util/Arrays", "copyOf", "([II)[I"⟩ ∈ tw := tw_of (tb_4 (List.mem_of_getElem? (i := 168) rfl)) rfl
theorem k889 : Cond.static ⟨"java/util/Arrays", "copyOf", "([II)[I"⟩ ∈ tw := tw_of (tb_4 (List.mem_of_getElem? (i := 169) rfl)) rfl
theorem k890 : Cond.code ⟨"java/util/Arrays", "copyOf", "([II)[I"⟩ prog_39_method_123_code 3 (Option.some (.array .int)) ∈ tw := tw_of (tb_4 (List.mem_of_getElem? (i := 170) rfl)) rfl
theorem k891 : Cond.methodLink "java/util/Arrays" 316 ⟨"[I", "clone", "()Ljava/lang/Object;"⟩ ∈ tw := tw_of (tb_4 (List.mem_of_getElem? (i := 171) rfl)) rfl
theorem k642 : Cond.methodLink "java/util/Arrays" 304 ⟨"java/lang/Math", "min", "(II)I"⟩ ∈ tw := tw_of (tb_3 (List.mem_of_getElem? (i := 162) rfl)) rfl
theorem k643 : Cond.methodLink "java/util/Arrays" 150 ⟨"java/lang/System", "arraycopy", "(Ljava/lang/Object;ILjava/lang/Object;II)V"⟩ ∈ tw := tw_of (tb_3 (List.mem_of_getElem? (i := 163) rfl)) rfl
theorem k31 : Cond.initialized "java/lang/System" ∈ tw := tw_of (tb_1 (List.mem_of_getElem? (i := 31) rfl)) rfl
theorem k644 : Cond.static ⟨"java/lang/System", "arraycopy", "(Ljava/lang/Object;ILjava/lang/Object;II)V"⟩ ∈ tw := tw_of (tb_3 (List.mem_of_getElem? (i := 164) rfl)) rfl
theorem k902 : Cond.codeWith ⟨"DrawingMachineLaw", "end", "(LDrawingMachine;I)I"⟩ method_7_code 3 (Option.some .int) [(0, 5, 8, 13)] ∈ tw := tw_of (tb_4 (List.mem_of_getElem? (i := 182) rfl)) rfl
theorem k903 : Cond.methodLink "DrawingMachineLaw" 31 ⟨"DrawingMachine", "end", "(I)V"⟩ ∈ tw := tw_of (tb_4 (List.mem_of_getElem? (i := 183) rfl)) rfl
theorem k904 : Cond.instanceMethod ⟨"DrawingMachine", "end", "(I)V"⟩ ∈ tw := tw_of (tb_4 (List.mem_of_getElem? (i := 184) rfl)) rfl
theorem k905 : Cond.selects "DrawingMachine" ⟨"DrawingMachine", "end", "(I)V"⟩ ⟨"DrawingMachine", "end", "(I)V"⟩ ∈ tw := tw_of (tb_4 (List.mem_of_getElem? (i := 185) rfl)) rfl
theorem k906 : Cond.code ⟨"DrawingMachine", "end", "(I)V"⟩ prog_1_method_6_code 2 none ∈ tw := tw_of (tb_4 (List.mem_of_getElem? (i := 186) rfl)) rfl
theorem k910 : Cond.codeWith ⟨"DrawingMachineLaw", "run", "(LDrawingMachine;I[J)I"⟩ method_8_code 4 (Option.some .int) [(0, 9, 12, 13), (0, 9, 15, 38)] ∈ tw := tw_of (tb_4 (List.mem_of_getElem? (i := 190) rfl)) rfl
theorem k912 : Cond.methodLink "DrawingMachineLaw" 35 ⟨"DrawingMachine", "run", "(I)I"⟩ ∈ tw := tw_of (tb_4 (List.mem_of_getElem? (i := 192) rfl)) rfl
theorem k913 : Cond.instanceMethod ⟨"DrawingMachine", "run", "(I)I"⟩ ∈ tw := tw_of (tb_4 (List.mem_of_getElem? (i := 193) rfl)) rfl
theorem k914 : Cond.selects "DrawingMachine" ⟨"DrawingMachine", "run", "(I)I"⟩ ⟨"DrawingMachine", "run", "(I)I"⟩ ∈ tw := tw_of (tb_4 (List.mem_of_getElem? (i := 194) rfl)) rfl
theorem k915 : Cond.code ⟨"DrawingMachine", "run", "(I)I"⟩ prog_1_method_8_code 5 (Option.some .int) ∈ tw := tw_of (tb_4 (List.mem_of_getElem? (i := 195) rfl)) rfl
theorem k911 : Cond.classLink "DrawingMachineLaw" 38 "java/lang/IllegalStateException" ∈ tw := tw_of (tb_4 (List.mem_of_getElem? (i := 191) rfl)) rfl
theorem k129 : Cond.fieldLink "DrawingMachine" 119 "DrawingMachine$Course" "over" "Z" ∈ tw := tw_of (tb_1 (List.mem_of_getElem? (i := 129) rfl)) rfl
theorem k917 : Cond.classLink "DrawingMachine" 123 "java/lang/IllegalStateException" ∈ tw := tw_of (tb_4 (List.mem_of_getElem? (i := 197) rfl)) rfl
theorem k927 : Cond.methodLink "DrawingMachine" 127 ⟨"java/lang/IllegalStateException", "<init>", "(Ljava/lang/String;)V"⟩ ∈ tw := tw_of (tb_4 (List.mem_of_getElem? (i := 207) rfl)) rfl
theorem k38 : Cond.initialized "java/lang/IllegalStateException" ∈ tw := tw_of (tb_1 (List.mem_of_getElem? (i := 38) rfl)) rfl
theorem k928 : Cond.instanceMethod ⟨"java/lang/IllegalStateException", "<init>", "(Ljava/lang/String;)V"⟩ ∈ tw := tw_of (tb_4 (List.mem_of_getElem? (i := 208) rfl)) rfl
theorem k929 : Cond.code ⟨"java/lang/IllegalStateException", "<init>", "(Ljava/lang/String;)V"⟩ prog_26_method_2_code 2 none ∈ tw := tw_of (tb_4 (List.mem_of_getElem? (i := 209) rfl)) rfl
theorem k121 : Cond.fieldLink "DrawingMachine" 128 "DrawingMachine$Course" "done" "I" ∈ tw := tw_of (tb_1 (List.mem_of_getElem? (i := 121) rfl)) rfl
theorem k933 : Cond.methodLink "DrawingMachine" 131 ⟨"DrawingMachine", "refusal", "()I"⟩ ∈ tw := tw_of (tb_4 (List.mem_of_getElem? (i := 213) rfl)) rfl
theorem k935 : Cond.instanceMethod ⟨"DrawingMachine", "refusal", "()I"⟩ ∈ tw := tw_of (tb_4 (List.mem_of_getElem? (i := 215) rfl)) rfl
theorem ks2 : Cond.selects "DrawingMachine" ⟨"DrawingMachine", "refusal", "()I"⟩ ⟨"DrawingMachine", "refusal", "()I"⟩ ∈ tw := tw_sel 2 rfl rfl
theorem k936 : Cond.code ⟨"DrawingMachine", "refusal", "()I"⟩ prog_1_method_16_code 2 (Option.some .int) ∈ tw := tw_of (tb_4 (List.mem_of_getElem? (i := 216) rfl)) rfl
theorem k976 : Cond.methodLink "DrawingMachine" 135 ⟨"DrawingMachine", "isDraw", "()Z"⟩ ∈ tw := tw_of (tb_5 (List.mem_of_getElem? (i := 16) rfl)) rfl
theorem k978 : Cond.instanceMethod ⟨"DrawingMachine", "isDraw", "()Z"⟩ ∈ tw := tw_of (tb_5 (List.mem_of_getElem? (i := 18) rfl)) rfl
theorem ks8 : Cond.selects "DrawingMachine" ⟨"DrawingMachine", "isDraw", "()Z"⟩ ⟨"DrawingMachine", "isDraw", "()Z"⟩ ∈ tw := tw_sel 8 rfl rfl
theorem k979 : Cond.code ⟨"DrawingMachine", "isDraw", "()Z"⟩ prog_1_method_15_code 1 (Option.some .boolean) ∈ tw := tw_of (tb_5 (List.mem_of_getElem? (i := 19) rfl)) rfl
theorem k980 : Cond.methodLink "DrawingMachine" 139 ⟨"DrawingMachine$Drawing", "draw", "(LDrawingMachine$Course;LDrawingMachine$Program;LDrawingMachine$Program;)I"⟩ ∈ tw := tw_of (tb_5 (List.mem_of_getElem? (i := 20) rfl)) rfl
theorem k981 : Cond.instanceMethod ⟨"DrawingMachine$Drawing", "draw", "(LDrawingMachine$Course;LDrawingMachine$Program;LDrawingMachine$Program;)I"⟩ ∈ tw := tw_of (tb_5 (List.mem_of_getElem? (i := 21) rfl)) rfl
theorem k982 : Cond.selects "DrawingMachine$Drawing" ⟨"DrawingMachine$Drawing", "draw", "(LDrawingMachine$Course;LDrawingMachine$Program;LDrawingMachine$Program;)I"⟩ ⟨"DrawingMachine$Drawing", "draw", "(LDrawingMachine$Course;LDrawingMachine$Program;LDrawingMachine$Program;)I"⟩ ∈ tw := tw_of (tb_5 (List.mem_of_getElem? (i := 22) rfl)) rfl
theorem k983 : Cond.code ⟨"DrawingMachine$Drawing", "draw", "(LDrawingMachine$Course;LDrawingMachine$Program;LDrawingMachine$Program;)I"⟩ prog_5_method_3_code 13 (Option.some .int) ∈ tw := tw_of (tb_5 (List.mem_of_getElem? (i := 23) rfl)) rfl
theorem k1288 : Cond.methodLink "DrawingMachine" 143 ⟨"DrawingMachine", "carryOut", "()I"⟩ ∈ tw := tw_of (tb_6 (List.mem_of_getElem? (i := 88) rfl)) rfl
theorem k1290 : Cond.instanceMethod ⟨"DrawingMachine", "carryOut", "()I"⟩ ∈ tw := tw_of (tb_6 (List.mem_of_getElem? (i := 90) rfl)) rfl
theorem ks36 : Cond.selects "DrawingMachine" ⟨"DrawingMachine", "carryOut", "()I"⟩ ⟨"DrawingMachine", "carryOut", "()I"⟩ ∈ tw := tw_sel 36 rfl rfl
theorem k1291 : Cond.code ⟨"DrawingMachine", "carryOut", "()I"⟩ prog_1_method_19_code 2 (Option.some .int) ∈ tw := tw_of (tb_6 (List.mem_of_getElem? (i := 91) rfl)) rfl
theorem k1372 : Cond.methodLink "DrawingMachine" 146 ⟨"DrawingMachine$Course", "goOn", "(I)V"⟩ ∈ tw := tw_of (tb_6 (List.mem_of_getElem? (i := 172) rfl)) rfl
theorem k1373 : Cond.instanceMethod ⟨"DrawingMachine$Course", "goOn", "(I)V"⟩ ∈ tw := tw_of (tb_6 (List.mem_of_getElem? (i := 173) rfl)) rfl
theorem k1374 : Cond.selects "DrawingMachine$Course" ⟨"DrawingMachine$Course", "goOn", "(I)V"⟩ ⟨"DrawingMachine$Course", "goOn", "(I)V"⟩ ∈ tw := tw_of (tb_6 (List.mem_of_getElem? (i := 174) rfl)) rfl
theorem k1375 : Cond.code ⟨"DrawingMachine$Course", "goOn", "(I)V"⟩ prog_3_method_10_code 2 none ∈ tw := tw_of (tb_6 (List.mem_of_getElem? (i := 175) rfl)) rfl
theorem k937 : Cond.methodLink "DrawingMachine" 199 ⟨"DrawingMachine$Course", "fetch", "()I"⟩ ∈ tw := tw_of (tb_4 (List.mem_of_getElem? (i := 217) rfl)) rfl
theorem k938 : Cond.instanceMethod ⟨"DrawingMachine$Course", "fetch", "()I"⟩ ∈ tw := tw_of (tb_4 (List.mem_of_getElem? (i := 218) rfl)) rfl
theorem k939 : Cond.selects "DrawingMachine$Course" ⟨"DrawingMachine$Course", "fetch", "()I"⟩ ⟨"DrawingMachine$Course", "fetch", "()I"⟩ ∈ tw := tw_of (tb_4 (List.mem_of_getElem? (i := 219) rfl)) rfl
theorem k940 : Cond.code ⟨"DrawingMachine$Course", "fetch", "()I"⟩ prog_3_method_5_code 3 (Option.some .int) ∈ tw := tw_of (tb_4 (List.mem_of_getElem? (i := 220) rfl)) rfl
theorem k965 : Cond.methodLink "DrawingMachine" 202 ⟨"DrawingMachine", "placesAreThere", "()Z"⟩ ∈ tw := tw_of (tb_5 (List.mem_of_getElem? (i := 5) rfl)) rfl
theorem k967 : Cond.instanceMethod ⟨"DrawingMachine", "placesAreThere", "()Z"⟩ ∈ tw := tw_of (tb_5 (List.mem_of_getElem? (i := 7) rfl)) rfl
theorem ks6 : Cond.selects "DrawingMachine" ⟨"DrawingMachine", "placesAreThere", "()Z"⟩ ⟨"DrawingMachine", "placesAreThere", "()Z"⟩ ∈ tw := tw_sel 6 rfl rfl
theorem k968 : Cond.code ⟨"DrawingMachine", "placesAreThere", "()Z"⟩ prog_1_method_17_code 2 (Option.some .boolean) ∈ tw := tw_of (tb_5 (List.mem_of_getElem? (i := 8) rfl)) rfl
theorem k972 : Cond.methodLink "DrawingMachine" 205 ⟨"DrawingMachine", "stateAllows", "()Z"⟩ ∈ tw := tw_of (tb_5 (List.mem_of_getElem? (i := 12) rfl)) rfl
theorem k974 : Cond.instanceMethod ⟨"DrawingMachine", "stateAllows", "()Z"⟩ ∈ tw := tw_of (tb_5 (List.mem_of_getElem? (i := 14) rfl)) rfl
theorem ks7 : Cond.selects "DrawingMachine" ⟨"DrawingMachine", "stateAllows", "()Z"⟩ ⟨"DrawingMachine", "stateAllows", "()Z"⟩ ∈ tw := tw_sel 7 rfl rfl
theorem k975 : Cond.code ⟨"DrawingMachine", "stateAllows", "()Z"⟩ prog_1_method_18_code 2 (Option.some .boolean) ∈ tw := tw_of (tb_5 (List.mem_of_getElem? (i := 15) rfl)) rfl
theorem k941 : Cond.methodLink "DrawingMachine$Course" 66 ⟨"DrawingMachine$Course", "source", "()[I"⟩ ∈ tw := tw_of (tb_4 (List.mem_of_getElem? (i := 221) rfl)) rfl
theorem k943 : Cond.instanceMethod ⟨"DrawingMachine$Course", "source", "()[I"⟩ ∈ tw := tw_of (tb_4 (List.mem_of_getElem? (i := 223) rfl)) rfl
theorem ks3 : Cond.selects "DrawingMachine$Course" ⟨"DrawingMachine$Course", "source", "()[I"⟩ ⟨"DrawingMachine$Course", "source", "()[I"⟩ ∈ tw := tw_sel 3 rfl rfl
theorem k944 : Cond.code ⟨"DrawingMachine$Course", "source", "()[I"⟩ prog_3_method_6_code 1 (Option.some (.array .int)) ∈ tw := tw_of (tb_4 (List.mem_of_getElem? (i := 224) rfl)) rfl
theorem k945 : Cond.methodLink "DrawingMachine$Course" 70 ⟨"DrawingMachine$Course", "limit", "()I"⟩ ∈ tw := tw_of (tb_4 (List.mem_of_getElem? (i := 225) rfl)) rfl
theorem k947 : Cond.instanceMethod ⟨"DrawingMachine$Course", "limit", "()I"⟩ ∈ tw := tw_of (tb_4 (List.mem_of_getElem? (i := 227) rfl)) rfl
theorem ks4 : Cond.selects "DrawingMachine$Course" ⟨"DrawingMachine$Course", "limit", "()I"⟩ ⟨"DrawingMachine$Course", "limit", "()I"⟩ ∈ tw := tw_sel 4 rfl rfl
theorem k948 : Cond.code ⟨"DrawingMachine$Course", "limit", "()I"⟩ prog_3_method_7_code 1 (Option.some .int) ∈ tw := tw_of (tb_4 (List.mem_of_getElem? (i := 228) rfl)) rfl
theorem k116 : Cond.fieldLink "DrawingMachine$Course" 74 "DrawingMachine$Course" "kind" "I" ∈ tw := tw_of (tb_1 (List.mem_of_getElem? (i := 116) rfl)) rfl
theorem k136 : Cond.fieldLink "DrawingMachine$Course" 77 "DrawingMachine$Course" "length" "I" ∈ tw := tw_of (tb_1 (List.mem_of_getElem? (i := 136) rfl)) rfl
theorem k952 : Cond.static ⟨"DrawingMachine", "within", "(JII)I"⟩ ∈ tw := tw_of (tb_4 (List.mem_of_getElem? (i := 232) rfl)) rfl
theorem k953 : Cond.code ⟨"DrawingMachine", "within", "(JII)I"⟩ prog_1_method_26_code 4 (Option.some .int) ∈ tw := tw_of (tb_4 (List.mem_of_getElem? (i := 233) rfl)) rfl
theorem k954 : Cond.methodLink "DrawingMachine$Course" 87 ⟨"java/lang/System", "arraycopy", "(Ljava/lang/Object;ILjava/lang/Object;II)V"⟩ ∈ tw := tw_of (tb_4 (List.mem_of_getElem? (i := 234) rfl)) rfl
theorem k955 : Cond.methodLink "DrawingMachine$Course" 93 ⟨"DrawingMachine$Course", "valuesMayBe", "()Z"⟩ ∈ tw := tw_of (tb_4 (List.mem_of_getElem? (i := 235) rfl)) rfl
theorem k957 : Cond.instanceMethod ⟨"DrawingMachine$Course", "valuesMayBe", "()Z"⟩ ∈ tw := tw_of (tb_4 (List.mem_of_getElem? (i := 237) rfl)) rfl
theorem ks5 : Cond.selects "DrawingMachine$Course" ⟨"DrawingMachine$Course", "valuesMayBe", "()Z"⟩ ⟨"DrawingMachine$Course", "valuesMayBe", "()Z"⟩ ∈ tw := tw_sel 5 rfl rfl
theorem k958 : Cond.code ⟨"DrawingMachine$Course", "valuesMayBe", "()Z"⟩ prog_3_method_8_code 3 (Option.some .boolean) ∈ tw := tw_of (tb_4 (List.mem_of_getElem? (i := 238) rfl)) rfl
theorem k112 : Cond.fieldLink "DrawingMachine" 208 "DrawingMachine$Course" "given" "[I" ∈ tw := tw_of (tb_1 (List.mem_of_getElem? (i := 112) rfl)) rfl
theorem k117 : Cond.fieldLink "DrawingMachine" 196 "DrawingMachine$Course" "kind" "I" ∈ tw := tw_of (tb_1 (List.mem_of_getElem? (i := 117) rfl)) rfl
theorem k969 : Cond.methodLink "DrawingMachine" 211 ⟨"DrawingMachine", "inMemory", "(II)Z"⟩ ∈ tw := tw_of (tb_5 (List.mem_of_getElem? (i := 9) rfl)) rfl
theorem k970 : Cond.static ⟨"DrawingMachine", "inMemory", "(II)Z"⟩ ∈ tw := tw_of (tb_5 (List.mem_of_getElem? (i := 10) rfl)) rfl
theorem k971 : Cond.code ⟨"DrawingMachine", "inMemory", "(II)Z"⟩ prog_1_method_24_code 2 (Option.some .boolean) ∈ tw := tw_of (tb_5 (List.mem_of_getElem? (i := 11) rfl)) rfl
theorem k80 : Cond.fieldLink "DrawingMachine" 171 "DrawingMachine$Picture" "wide" "I" ∈ tw := tw_of (tb_1 (List.mem_of_getElem? (i := 80) rfl)) rfl
theorem k83 : Cond.fieldLink "DrawingMachine" 174 "DrawingMachine$Picture" "high" "I" ∈ tw := tw_of (tb_1 (List.mem_of_getElem? (i := 83) rfl)) rfl
theorem k119 : Cond.fieldLink "DrawingMachine" 215 "DrawingMachine$Course" "depth" "I" ∈ tw := tw_of (tb_1 (List.mem_of_getElem? (i := 119) rfl)) rfl
theorem k111 : Cond.fieldLink "DrawingMachine$Drawing" 66 "DrawingMachine$Course" "given" "[I" ∈ tw := tw_of (tb_1 (List.mem_of_getElem? (i := 111) rfl)) rfl
theorem k984 : Cond.methodLink "DrawingMachine$Drawing" 71 ⟨"DrawingMachine$Vertices", "triangles", "(II)I"⟩ ∈ tw := tw_of (tb_5 (List.mem_of_getElem? (i := 24) rfl)) rfl
theorem k985 : Cond.static ⟨"DrawingMachine$Vertices", "triangles", "(II)I"⟩ ∈ tw := tw_of (tb_5 (List.mem_of_getElem? (i := 25) rfl)) rfl
theorem k986 : Cond.code ⟨"DrawingMachine$Vertices", "triangles", "(II)I"⟩ prog_12_method_2_code 2 (Option.some .int) ∈ tw := tw_of (tb_5 (List.mem_of_getElem? (i := 26) rfl)) rfl
theorem k988 : Cond.constantLong "DrawingMachine$Drawing" 75 (3 : Int64) ∈ tw := tw_of (tb_5 (List.mem_of_getElem? (i := 28) rfl)) rfl
theorem k418 : Cond.fieldLink "DrawingMachine$Drawing" 77 "DrawingMachine$Program" "steps" "I" ∈ tw := tw_of (tb_2 (List.mem_of_getElem? (i := 178) rfl)) rfl
theorem k79 : Cond.fieldLink "DrawingMachine$Drawing" 82 "DrawingMachine$Picture" "wide" "I" ∈ tw := tw_of (tb_1 (List.mem_of_getElem? (i := 79) rfl)) rfl
theorem k82 : Cond.fieldLink "DrawingMachine$Drawing" 87 "DrawingMachine$Picture" "high" "I" ∈ tw := tw_of (tb_1 (List.mem_of_getElem? (i := 82) rfl)) rfl
theorem k130 : Cond.fieldLink "DrawingMachine$Drawing" 90 "DrawingMachine$Course" "work" "J" ∈ tw := tw_of (tb_1 (List.mem_of_getElem? (i := 130) rfl)) rfl
theorem k989 : Cond.constantLong "DrawingMachine$Drawing" 94 (8388608 : Int64) ∈ tw := tw_of (tb_5 (List.mem_of_getElem? (i := 29) rfl)) rfl
theorem k237 : Cond.fieldLink "DrawingMachine$Drawing" 96 "DrawingMachine$Processor" "bank" "[I" ∈ tw := tw_of (tb_1 (List.mem_of_getElem? (i := 237) rfl)) rfl
theorem k990 : Cond.methodLink "DrawingMachine$Drawing" 99 ⟨"java/lang/System", "arraycopy", "(Ljava/lang/Object;ILjava/lang/Object;II)V"⟩ ∈ tw := tw_of (tb_5 (List.mem_of_getElem? (i := 30) rfl)) rfl
theorem k991 : Cond.methodLink "DrawingMachine$Drawing" 105 ⟨"DrawingMachine$Vertices", "orderOf", "(III)I"⟩ ∈ tw := tw_of (tb_5 (List.mem_of_getElem? (i := 31) rfl)) rfl
theorem k992 : Cond.static ⟨"DrawingMachine$Vertices", "orderOf", "(III)I"⟩ ∈ tw := tw_of (tb_5 (List.mem_of_getElem? (i := 32) rfl)) rfl
theorem k993 : Cond.code ⟨"DrawingMachine$Vertices", "orderOf", "(III)I"⟩ prog_12_method_3_code 3 (Option.some .int) ∈ tw := tw_of (tb_5 (List.mem_of_getElem? (i := 33) rfl)) rfl
theorem k994 : Cond.methodLink "DrawingMachine$Drawing" 109 ⟨"DrawingMachine$Drawing", "vertexOf", "(LDrawingMachine$Course;I)I"⟩ ∈ tw := tw_of (tb_5 (List.mem_of_getElem? (i := 34) rfl)) rfl
theorem k996 : Cond.instanceMethod ⟨"DrawingMachine$Drawing", "vertexOf", "(LDrawingMachine$Course;I)I"⟩ ∈ tw := tw_of (tb_5 (List.mem_of_getElem? (i := 36) rfl)) rfl
theorem ks9 : Cond.selects "DrawingMachine$Drawing" ⟨"DrawingMachine$Drawing", "vertexOf", "(LDrawingMachine$Course;I)I"⟩ ⟨"DrawingMachine$Drawing", "vertexOf", "(LDrawingMachine$Course;I)I"⟩ ∈ tw := tw_sel 9 rfl rfl
theorem k997 : Cond.code ⟨"DrawingMachine$Drawing", "vertexOf", "(LDrawingMachine$Course;I)I"⟩ prog_5_method_4_code 4 (Option.some .int) ∈ tw := tw_of (tb_5 (List.mem_of_getElem? (i := 37) rfl)) rfl
theorem k1007 : Cond.methodLink "DrawingMachine$Drawing" 113 ⟨"DrawingMachine$Vertices", "load", "(ILDrawingMachine$Program;[I)V"⟩ ∈ tw := tw_of (tb_5 (List.mem_of_getElem? (i := 47) rfl)) rfl
theorem k1008 : Cond.instanceMethod ⟨"DrawingMachine$Vertices", "load", "(ILDrawingMachine$Program;[I)V"⟩ ∈ tw := tw_of (tb_5 (List.mem_of_getElem? (i := 48) rfl)) rfl
theorem k1009 : Cond.selects "DrawingMachine$Vertices" ⟨"DrawingMachine$Vertices", "load", "(ILDrawingMachine$Program;[I)V"⟩ ⟨"DrawingMachine$Vertices", "load", "(ILDrawingMachine$Program;[I)V"⟩ ∈ tw := tw_of (tb_5 (List.mem_of_getElem? (i := 49) rfl)) rfl
theorem k1010 : Cond.code ⟨"DrawingMachine$Vertices", "load", "(ILDrawingMachine$Program;[I)V"⟩ prog_12_method_5_code 5 none ∈ tw := tw_of (tb_5 (List.mem_of_getElem? (i := 50) rfl)) rfl
theorem k1024 : Cond.methodLink "DrawingMachine$Drawing" 117 ⟨"DrawingMachine$Processor", "follow", "(LDrawingMachine$Program;)Z"⟩ ∈ tw := tw_of (tb_5 (List.mem_of_getElem? (i := 64) rfl)) rfl
theorem k1025 : Cond.instanceMethod ⟨"DrawingMachine$Processor", "follow", "(LDrawingMachine$Program;)Z"⟩ ∈ tw := tw_of (tb_5 (List.mem_of_getElem? (i := 65) rfl)) rfl
theorem k1026 : Cond.selects "DrawingMachine$Processor" ⟨"DrawingMachine$Processor", "follow", "(LDrawingMachine$Program;)Z"⟩ ⟨"DrawingMachine$Processor", "follow", "(LDrawingMachine$Program;)Z"⟩ ∈ tw := tw_of (tb_5 (List.mem_of_getElem? (i := 66) rfl)) rfl
theorem k1027 : Cond.code ⟨"DrawingMachine$Processor", "follow", "(LDrawingMachine$Program;)Z"⟩ prog_7_method_2_code 8 (Option.some .boolean) ∈ tw := tw_of (tb_5 (List.mem_of_getElem? (i := 67) rfl)) rfl
theorem k1131 : Cond.methodLink "DrawingMachine$Drawing" 121 ⟨"DrawingMachine$Shape", "take", "(I[I)V"⟩ ∈ tw := tw_of (tb_5 (List.mem_of_getElem? (i := 171) rfl)) rfl
theorem k1132 : Cond.instanceMethod ⟨"DrawingMachine$Shape", "take", "(I[I)V"⟩ ∈ tw := tw_of (tb_5 (List.mem_of_getElem? (i := 172) rfl)) rfl
theorem k1133 : Cond.selects "DrawingMachine$Shape" ⟨"DrawingMachine$Shape", "take", "(I[I)V"⟩ ⟨"DrawingMachine$Shape", "take", "(I[I)V"⟩ ∈ tw := tw_of (tb_5 (List.mem_of_getElem? (i := 173) rfl)) rfl
theorem k1134 : Cond.code ⟨"DrawingMachine$Shape", "take", "(I[I)V"⟩ prog_9_method_2_code 3 none ∈ tw := tw_of (tb_5 (List.mem_of_getElem? (i := 174) rfl)) rfl
theorem k1136 : Cond.methodLink "DrawingMachine$Drawing" 125 ⟨"DrawingMachine$Shape", "cut", "()V"⟩ ∈ tw := tw_of (tb_5 (List.mem_of_getElem? (i := 176) rfl)) rfl
theorem k1137 : Cond.instanceMethod ⟨"DrawingMachine$Shape", "cut", "()V"⟩ ∈ tw := tw_of (tb_5 (List.mem_of_getElem? (i := 177) rfl)) rfl
theorem k1138 : Cond.selects "DrawingMachine$Shape" ⟨"DrawingMachine$Shape", "cut", "()V"⟩ ⟨"DrawingMachine$Shape", "cut", "()V"⟩ ∈ tw := tw_of (tb_5 (List.mem_of_getElem? (i := 178) rfl)) rfl
theorem k1139 : Cond.code ⟨"DrawingMachine$Shape", "cut", "()V"⟩ prog_9_method_3_code 1 none ∈ tw := tw_of (tb_5 (List.mem_of_getElem? (i := 179) rfl)) rfl
theorem k1153 : Cond.methodLink "DrawingMachine$Drawing" 128 ⟨"DrawingMachine$Shape", "layAll", "()V"⟩ ∈ tw := tw_of (tb_5 (List.mem_of_getElem? (i := 193) rfl)) rfl
theorem k1154 : Cond.instanceMethod ⟨"DrawingMachine$Shape", "layAll", "()V"⟩ ∈ tw := tw_of (tb_5 (List.mem_of_getElem? (i := 194) rfl)) rfl
theorem k1155 : Cond.selects "DrawingMachine$Shape" ⟨"DrawingMachine$Shape", "layAll", "()V"⟩ ⟨"DrawingMachine$Shape", "layAll", "()V"⟩ ∈ tw := tw_of (tb_5 (List.mem_of_getElem? (i := 195) rfl)) rfl
theorem k1156 : Cond.code ⟨"DrawingMachine$Shape", "layAll", "()V"⟩ prog_9_method_7_code 2 none ∈ tw := tw_of (tb_5 (List.mem_of_getElem? (i := 196) rfl)) rfl
theorem k287 : Cond.fieldLink "DrawingMachine$Drawing" 131 "DrawingMachine$Shape" "many" "I" ∈ tw := tw_of (tb_2 (List.mem_of_getElem? (i := 47) rfl)) rfl
theorem k1175 : Cond.methodLink "DrawingMachine$Drawing" 134 ⟨"DrawingMachine$Covering", "take", "(I)J"⟩ ∈ tw := tw_of (tb_5 (List.mem_of_getElem? (i := 215) rfl)) rfl
theorem k1176 : Cond.instanceMethod ⟨"DrawingMachine$Covering", "take", "(I)J"⟩ ∈ tw := tw_of (tb_5 (List.mem_of_getElem? (i := 216) rfl)) rfl
theorem k1177 : Cond.selects "DrawingMachine$Covering" ⟨"DrawingMachine$Covering", "take", "(I)J"⟩ ⟨"DrawingMachine$Covering", "take", "(I)J"⟩ ∈ tw := tw_of (tb_5 (List.mem_of_getElem? (i := 217) rfl)) rfl
theorem k1178 : Cond.code ⟨"DrawingMachine$Covering", "take", "(I)J"⟩ prog_4_method_2_code 6 (Option.some .long) ∈ tw := tw_of (tb_5 (List.mem_of_getElem? (i := 218) rfl)) rfl
theorem k1179 : Cond.methodLink "DrawingMachine$Drawing" 137 ⟨"DrawingMachine$Drawing", "shows", "(J)Z"⟩ ∈ tw := tw_of (tb_5 (List.mem_of_getElem? (i := 219) rfl)) rfl
theorem k1181 : Cond.instanceMethod ⟨"DrawingMachine$Drawing", "shows", "(J)Z"⟩ ∈ tw := tw_of (tb_5 (List.mem_of_getElem? (i := 221) rfl)) rfl
theorem ks24 : Cond.selects "DrawingMachine$Drawing" ⟨"DrawingMachine$Drawing", "shows", "(J)Z"⟩ ⟨"DrawingMachine$Drawing", "shows", "(J)Z"⟩ ∈ tw := tw_sel 24 rfl rfl
theorem k1182 : Cond.code ⟨"DrawingMachine$Drawing", "shows", "(J)Z"⟩ prog_5_method_5_code 4 (Option.some .boolean) ∈ tw := tw_of (tb_5 (List.mem_of_getElem? (i := 222) rfl)) rfl
theorem k1183 : Cond.methodLink "DrawingMachine$Drawing" 141 ⟨"DrawingMachine$Drawing", "fill", "(LDrawingMachine$Program;)V"⟩ ∈ tw := tw_of (tb_5 (List.mem_of_getElem? (i := 223) rfl)) rfl
theorem k1185 : Cond.instanceMethod ⟨"DrawingMachine$Drawing", "fill", "(LDrawingMachine$Program;)V"⟩ ∈ tw := tw_of (tb_5 (List.mem_of_getElem? (i := 225) rfl)) rfl
theorem ks25 : Cond.selects "DrawingMachine$Drawing" ⟨"DrawingMachine$Drawing", "fill", "(LDrawingMachine$Program;)V"⟩ ⟨"DrawingMachine$Drawing", "fill", "(LDrawingMachine$Program;)V"⟩ ∈ tw := tw_sel 25 rfl rfl
theorem k1186 : Cond.code ⟨"DrawingMachine$Drawing", "fill", "(LDrawingMachine$Program;)V"⟩ prog_5_method_6_code 7 none ∈ tw := tw_of (tb_5 (List.mem_of_getElem? (i := 226) rfl)) rfl
theorem k987 : Cond.methodLink "DrawingMachine$Vertices" 21 ⟨"java/lang/Math", "max", "(II)I"⟩ ∈ tw := tw_of (tb_5 (List.mem_of_getElem? (i := 27) rfl)) rfl
theorem k115 : Cond.fieldLink "DrawingMachine$Drawing" 145 "DrawingMachine$Course" "kind" "I" ∈ tw := tw_of (tb_1 (List.mem_of_getElem? (i := 115) rfl)) rfl
theorem k998 : Cond.methodLink "DrawingMachine$Drawing" 148 ⟨"DrawingMachine$Vertices", "index", "(III)I"⟩ ∈ tw := tw_of (tb_5 (List.mem_of_getElem? (i := 38) rfl)) rfl
theorem k999 : Cond.instanceMethod ⟨"DrawingMachine$Vertices", "index", "(III)I"⟩ ∈ tw := tw_of (tb_5 (List.mem_of_getElem? (i := 39) rfl)) rfl
theorem k1000 : Cond.selects "DrawingMachine$Vertices" ⟨"DrawingMachine$Vertices", "index", "(III)I"⟩ ⟨"DrawingMachine$Vertices", "index", "(III)I"⟩ ∈ tw := tw_of (tb_5 (List.mem_of_getElem? (i := 40) rfl)) rfl
theorem k1001 : Cond.code ⟨"DrawingMachine$Vertices", "index", "(III)I"⟩ prog_12_method_4_code 4 (Option.some .int) ∈ tw := tw_of (tb_5 (List.mem_of_getElem? (i := 41) rfl)) rfl
theorem k1003 : Cond.static ⟨"DrawingMachine", "wordOf", "([IJ)I"⟩ ∈ tw := tw_of (tb_5 (List.mem_of_getElem? (i := 43) rfl)) rfl
theorem k1004 : Cond.code ⟨"DrawingMachine", "wordOf", "([IJ)I"⟩ prog_1_method_25_code 3 (Option.some .int) ∈ tw := tw_of (tb_5 (List.mem_of_getElem? (i := 44) rfl)) rfl
theorem k1006 : Cond.constant "DrawingMachine$Vertices" 31 (65535 : Int32) ∈ tw := tw_of (tb_5 (List.mem_of_getElem? (i := 46) rfl)) rfl
theorem k1005 : Cond.constantLong "DrawingMachine" 256 (4096 : Int64) ∈ tw := tw_of (tb_5 (List.mem_of_getElem? (i := 45) rfl)) rfl
theorem k1011 : Cond.methodLink "DrawingMachine$Vertices" 32 ⟨"DrawingMachine$Program", "readsIn", "(I)Z"⟩ ∈ tw := tw_of (tb_5 (List.mem_of_getElem? (i := 51) rfl)) rfl
theorem k1012 : Cond.instanceMethod ⟨"DrawingMachine$Program", "readsIn", "(I)Z"⟩ ∈ tw := tw_of (tb_5 (List.mem_of_getElem? (i := 52) rfl)) rfl
theorem k1013 : Cond.selects "DrawingMachine$Program" ⟨"DrawingMachine$Program", "readsIn", "(I)Z"⟩ ⟨"DrawingMachine$Program", "readsIn", "(I)Z"⟩ ∈ tw := tw_of (tb_5 (List.mem_of_getElem? (i := 53) rfl)) rfl
theorem k1014 : Cond.code ⟨"DrawingMachine$Program", "readsIn", "(I)Z"⟩ prog_8_method_2_code 2 (Option.some .boolean) ∈ tw := tw_of (tb_5 (List.mem_of_getElem? (i := 54) rfl)) rfl
theorem k1015 : Cond.methodLink "DrawingMachine$Vertices" 38 ⟨"DrawingMachine$Vertices", "loadAttribute", "(II[I)V"⟩ ∈ tw := tw_of (tb_5 (List.mem_of_getElem? (i := 55) rfl)) rfl
theorem k1017 : Cond.instanceMethod ⟨"DrawingMachine$Vertices", "loadAttribute", "(II[I)V"⟩ ∈ tw := tw_of (tb_5 (List.mem_of_getElem? (i := 57) rfl)) rfl
theorem ks10 : Cond.selects "DrawingMachine$Vertices" ⟨"DrawingMachine$Vertices", "loadAttribute", "(II[I)V"⟩ ⟨"DrawingMachine$Vertices", "loadAttribute", "(II[I)V"⟩ ∈ tw := tw_sel 10 rfl rfl
theorem k1018 : Cond.code ⟨"DrawingMachine$Vertices", "loadAttribute", "(II[I)V"⟩ prog_12_method_6_code 10 none ∈ tw := tw_of (tb_5 (List.mem_of_getElem? (i := 58) rfl)) rfl
theorem k419 : Cond.fieldLink "DrawingMachine$Program" 13 "DrawingMachine$Program" "reads" "I" ∈ tw := tw_of (tb_2 (List.mem_of_getElem? (i := 179) rfl)) rfl
theorem k1019 : Cond.constant "DrawingMachine$Vertices" 42 (65536 : Int32) ∈ tw := tw_of (tb_5 (List.mem_of_getElem? (i := 59) rfl)) rfl
theorem k1020 : Cond.methodLink "DrawingMachine$Vertices" 43 ⟨"DrawingMachine$Vertices", "part", "(IJI)I"⟩ ∈ tw := tw_of (tb_5 (List.mem_of_getElem? (i := 60) rfl)) rfl
theorem k1022 : Cond.instanceMethod ⟨"DrawingMachine$Vertices", "part", "(IJI)I"⟩ ∈ tw := tw_of (tb_5 (List.mem_of_getElem? (i := 62) rfl)) rfl
theorem ks11 : Cond.selects "DrawingMachine$Vertices" ⟨"DrawingMachine$Vertices", "part", "(IJI)I"⟩ ⟨"DrawingMachine$Vertices", "part", "(IJI)I"⟩ ∈ tw := tw_sel 11 rfl rfl
theorem k1023 : Cond.code ⟨"DrawingMachine$Vertices", "part", "(IJI)I"⟩ prog_12_method_7_code 5 (Option.some .int) ∈ tw := tw_of (tb_5 (List.mem_of_getElem? (i := 63) rfl)) rfl
theorem k1028 : Cond.methodLink "DrawingMachine$Processor" 45 ⟨"java/util/Arrays", "fill", "([IIII)V"⟩ ∈ tw := tw_of (tb_5 (List.mem_of_getElem? (i := 68) rfl)) rfl
theorem k1029 : Cond.constant "DrawingMachine$Processor" 51 (65536 : Int32) ∈ tw := tw_of (tb_5 (List.mem_of_getElem? (i := 69) rfl)) rfl
theorem k415 : Cond.fieldLink "DrawingMachine$Processor" 52 "DrawingMachine$Program" "many" "I" ∈ tw := tw_of (tb_2 (List.mem_of_getElem? (i := 175) rfl)) rfl
theorem k411 : Cond.fieldLink "DrawingMachine$Processor" 58 "DrawingMachine$Program" "words" "[I" ∈ tw := tw_of (tb_2 (List.mem_of_getElem? (i := 171) rfl)) rfl
theorem k1032 : Cond.methodLink "DrawingMachine$Processor" 64 ⟨"DrawingMachine$Processor", "readSources", "(III)V"⟩ ∈ tw := tw_of (tb_5 (List.mem_of_getElem? (i := 72) rfl)) rfl
theorem k1034 : Cond.instanceMethod ⟨"DrawingMachine$Processor", "readSources", "(III)V"⟩ ∈ tw := tw_of (tb_5 (List.mem_of_getElem? (i := 74) rfl)) rfl
theorem ks12 : Cond.selects "DrawingMachine$Processor" ⟨"DrawingMachine$Processor", "readSources", "(III)V"⟩ ⟨"DrawingMachine$Processor", "readSources", "(III)V"⟩ ∈ tw := tw_sel 12 rfl rfl
theorem k1035 : Cond.code ⟨"DrawingMachine$Processor", "readSources", "(III)V"⟩ prog_7_method_3_code 4 none ∈ tw := tw_of (tb_5 (List.mem_of_getElem? (i := 75) rfl)) rfl
theorem k1043 : Cond.methodLink "DrawingMachine$Processor" 68 ⟨"DrawingMachine$Textures", "read", "(IIII[I)V"⟩ ∈ tw := tw_of (tb_5 (List.mem_of_getElem? (i := 83) rfl)) rfl
theorem k1044 : Cond.instanceMethod ⟨"DrawingMachine$Textures", "read", "(IIII[I)V"⟩ ∈ tw := tw_of (tb_5 (List.mem_of_getElem? (i := 84) rfl)) rfl
theorem k1045 : Cond.selects "DrawingMachine$Textures" ⟨"DrawingMachine$Textures", "read", "(IIII[I)V"⟩ ⟨"DrawingMachine$Textures", "read", "(IIII[I)V"⟩ ∈ tw := tw_of (tb_5 (List.mem_of_getElem? (i := 85) rfl)) rfl
theorem k1046 : Cond.code ⟨"DrawingMachine$Textures", "read", "(IIII[I)V"⟩ prog_10_method_2_code 11 none ∈ tw := tw_of (tb_5 (List.mem_of_getElem? (i := 86) rfl)) rfl
theorem k1082 : Cond.methodLink "DrawingMachine$Processor" 72 ⟨"DrawingMachine$Processor", "setTarget", "(I)V"⟩ ∈ tw := tw_of (tb_5 (List.mem_of_getElem? (i := 122) rfl)) rfl
theorem k1084 : Cond.instanceMethod ⟨"DrawingMachine$Processor", "setTarget", "(I)V"⟩ ∈ tw := tw_of (tb_5 (List.mem_of_getElem? (i := 124) rfl)) rfl
theorem ks16 : Cond.selects "DrawingMachine$Processor" ⟨"DrawingMachine$Processor", "setTarget", "(I)V"⟩ ⟨"DrawingMachine$Processor", "setTarget", "(I)V"⟩ ∈ tw := tw_sel 16 rfl rfl
theorem k1085 : Cond.code ⟨"DrawingMachine$Processor", "setTarget", "(I)V"⟩ prog_7_method_5_code 5 none ∈ tw := tw_of (tb_5 (List.mem_of_getElem? (i := 125) rfl)) rfl
theorem k1087 : Cond.methodLink "DrawingMachine$Processor" 76 ⟨"DrawingMachine$Processor", "reckon", "(I)V"⟩ ∈ tw := tw_of (tb_5 (List.mem_of_getElem? (i := 127) rfl)) rfl
theorem k1089 : Cond.instanceMethod ⟨"DrawingMachine$Processor", "reckon", "(I)V"⟩ ∈ tw := tw_of (tb_5 (List.mem_of_getElem? (i := 129) rfl)) rfl
theorem ks17 : Cond.selects "DrawingMachine$Processor" ⟨"DrawingMachine$Processor", "reckon", "(I)V"⟩ ⟨"DrawingMachine$Processor", "reckon", "(I)V"⟩ ∈ tw := tw_sel 17 rfl rfl
theorem k1090 : Cond.code ⟨"DrawingMachine$Processor", "reckon", "(I)V"⟩ prog_7_method_6_code 3 none ∈ tw := tw_of (tb_5 (List.mem_of_getElem? (i := 130) rfl)) rfl
theorem k1036 : Cond.constant "DrawingMachine$Processor" 79 (65535 : Int32) ∈ tw := tw_of (tb_5 (List.mem_of_getElem? (i := 76) rfl)) rfl
theorem k1037 : Cond.methodLink "DrawingMachine$Processor" 80 ⟨"DrawingMachine$Processor", "readSource", "(I[I)V"⟩ ∈ tw := tw_of (tb_5 (List.mem_of_getElem? (i := 77) rfl)) rfl
theorem k1039 : Cond.instanceMethod ⟨"DrawingMachine$Processor", "readSource", "(I[I)V"⟩ ∈ tw := tw_of (tb_5 (List.mem_of_getElem? (i := 79) rfl)) rfl
theorem ks13 : Cond.selects "DrawingMachine$Processor" ⟨"DrawingMachine$Processor", "readSource", "(I[I)V"⟩ ⟨"DrawingMachine$Processor", "readSource", "(I[I)V"⟩ ∈ tw := tw_sel 13 rfl rfl
theorem k1040 : Cond.code ⟨"DrawingMachine$Processor", "readSource", "(I[I)V"⟩ prog_7_method_4_code 7 none ∈ tw := tw_of (tb_5 (List.mem_of_getElem? (i := 80) rfl)) rfl
theorem k1047 : Cond.constant "DrawingMachine$Textures" 33 (65536 : Int32) ∈ tw := tw_of (tb_5 (List.mem_of_getElem? (i := 87) rfl)) rfl
theorem k1049 : Cond.constant "DrawingMachine$Textures" 38 (65535 : Int32) ∈ tw := tw_of (tb_5 (List.mem_of_getElem? (i := 89) rfl)) rfl
theorem k1050 : Cond.methodLink "DrawingMachine$Textures" 39 ⟨"DrawingMachine$Textures", "readLevel", "(IIII[I)V"⟩ ∈ tw := tw_of (tb_5 (List.mem_of_getElem? (i := 90) rfl)) rfl
theorem k1052 : Cond.instanceMethod ⟨"DrawingMachine$Textures", "readLevel", "(IIII[I)V"⟩ ∈ tw := tw_of (tb_5 (List.mem_of_getElem? (i := 92) rfl)) rfl
theorem ks14 : Cond.selects "DrawingMachine$Textures" ⟨"DrawingMachine$Textures", "readLevel", "(IIII[I)V"⟩ ⟨"DrawingMachine$Textures", "readLevel", "(IIII[I)V"⟩ ∈ tw := tw_sel 14 rfl rfl
theorem k1053 : Cond.code ⟨"DrawingMachine$Textures", "readLevel", "(IIII[I)V"⟩ prog_10_method_3_code 24 none ∈ tw := tw_of (tb_5 (List.mem_of_getElem? (i := 93) rfl)) rfl
theorem k1079 : Cond.methodLink "DrawingMachine$Textures" 43 ⟨"DrawingMachine$Textures", "mix", "([I[II)V"⟩ ∈ tw := tw_of (tb_5 (List.mem_of_getElem? (i := 119) rfl)) rfl
theorem k1080 : Cond.static ⟨"DrawingMachine$Textures", "mix", "([I[II)V"⟩ ∈ tw := tw_of (tb_5 (List.mem_of_getElem? (i := 120) rfl)) rfl
theorem k1081 : Cond.code ⟨"DrawingMachine$Textures", "mix", "([I[II)V"⟩ prog_10_method_8_code 4 none ∈ tw := tw_of (tb_5 (List.mem_of_getElem? (i := 121) rfl)) rfl
theorem k1054 : Cond.methodLink "DrawingMachine$Textures" 47 ⟨"java/lang/Math", "max", "(II)I"⟩ ∈ tw := tw_of (tb_5 (List.mem_of_getElem? (i := 94) rfl)) rfl
theorem k1055 : Cond.methodLink "DrawingMachine$Textures" 53 ⟨"DrawingMachine$Textures", "texelsAbove", "(III)I"⟩ ∈ tw := tw_of (tb_5 (List.mem_of_getElem? (i := 95) rfl)) rfl
theorem k1056 : Cond.static ⟨"DrawingMachine$Textures", "texelsAbove", "(III)I"⟩ ∈ tw := tw_of (tb_5 (List.mem_of_getElem? (i := 96) rfl)) rfl
theorem k1057 : Cond.code ⟨"DrawingMachine$Textures", "texelsAbove", "(III)I"⟩ prog_10_method_4_code 5 (Option.some .int) ∈ tw := tw_of (tb_5 (List.mem_of_getElem? (i := 97) rfl)) rfl
theorem k1058 : Cond.constant "DrawingMachine$Textures" 57 (32768 : Int32) ∈ tw := tw_of (tb_5 (List.mem_of_getElem? (i := 98) rfl)) rfl
theorem k1059 : Cond.methodLink "DrawingMachine$Textures" 58 ⟨"DrawingMachine$Textures", "wrapped", "(III)I"⟩ ∈ tw := tw_of (tb_5 (List.mem_of_getElem? (i := 99) rfl)) rfl
theorem k1060 : Cond.static ⟨"DrawingMachine$Textures", "wrapped", "(III)I"⟩ ∈ tw := tw_of (tb_5 (List.mem_of_getElem? (i := 100) rfl)) rfl
theorem k1061 : Cond.code ⟨"DrawingMachine$Textures", "wrapped", "(III)I"⟩ prog_10_method_6_code 4 (Option.some .int) ∈ tw := tw_of (tb_5 (List.mem_of_getElem? (i := 101) rfl)) rfl
theorem k1062 : Cond.methodLink "DrawingMachine$Textures" 61 ⟨"DrawingMachine$Textures", "rowAt", "(III)I"⟩ ∈ tw := tw_of (tb_5 (List.mem_of_getElem? (i := 102) rfl)) rfl
theorem k1063 : Cond.static ⟨"DrawingMachine$Textures", "rowAt", "(III)I"⟩ ∈ tw := tw_of (tb_5 (List.mem_of_getElem? (i := 103) rfl)) rfl
theorem k1064 : Cond.code ⟨"DrawingMachine$Textures", "rowAt", "(III)I"⟩ prog_10_method_5_code 3 (Option.some .int) ∈ tw := tw_of (tb_5 (List.mem_of_getElem? (i := 104) rfl)) rfl
theorem k1065 : Cond.methodLink "DrawingMachine$Textures" 64 ⟨"DrawingMachine$Textures", "readTexel", "(III[I)V"⟩ ∈ tw := tw_of (tb_5 (List.mem_of_getElem? (i := 105) rfl)) rfl
theorem k1067 : Cond.instanceMethod ⟨"DrawingMachine$Textures", "readTexel", "(III[I)V"⟩ ∈ tw := tw_of (tb_5 (List.mem_of_getElem? (i := 107) rfl)) rfl
theorem ks15 : Cond.selects "DrawingMachine$Textures" ⟨"DrawingMachine$Textures", "readTexel", "(III[I)V"⟩ ⟨"DrawingMachine$Textures", "readTexel", "(III[I)V"⟩ ∈ tw := tw_sel 15 rfl rfl
theorem k1068 : Cond.code ⟨"DrawingMachine$Textures", "readTexel", "(III[I)V"⟩ prog_10_method_7_code 11 none ∈ tw := tw_of (tb_5 (List.mem_of_getElem? (i := 108) rfl)) rfl
theorem k1078 : Cond.constantLong "DrawingMachine$Textures" 68 (65535 : Int64) ∈ tw := tw_of (tb_5 (List.mem_of_getElem? (i := 118) rfl)) rfl
theorem k1069 : Cond.methodLink "DrawingMachine$Textures" 70 ⟨"java/lang/System", "arraycopy", "(Ljava/lang/Object;ILjava/lang/Object;II)V"⟩ ∈ tw := tw_of (tb_5 (List.mem_of_getElem? (i := 109) rfl)) rfl
theorem k1077 : Cond.constant "DrawingMachine$Textures" 89 (131072 : Int32) ∈ tw := tw_of (tb_5 (List.mem_of_getElem? (i := 117) rfl)) rfl
theorem k1091 : Cond.methodLink "DrawingMachine$Processor" 91 ⟨"DrawingMachine$Processor", "dotProduct", "(I)I"⟩ ∈ tw := tw_of (tb_5 (List.mem_of_getElem? (i := 131) rfl)) rfl
theorem k1093 : Cond.instanceMethod ⟨"DrawingMachine$Processor", "dotProduct", "(I)I"⟩ ∈ tw := tw_of (tb_5 (List.mem_of_getElem? (i := 133) rfl)) rfl
theorem ks18 : Cond.selects "DrawingMachine$Processor" ⟨"DrawingMachine$Processor", "dotProduct", "(I)I"⟩ ⟨"DrawingMachine$Processor", "dotProduct", "(I)I"⟩ ∈ tw := tw_sel 18 rfl rfl
theorem k1094 : Cond.code ⟨"DrawingMachine$Processor", "dotProduct", "(I)I"⟩ prog_7_method_8_code 4 (Option.some .int) ∈ tw := tw_of (tb_5 (List.mem_of_getElem? (i := 134) rfl)) rfl
theorem k1098 : Cond.methodLink "DrawingMachine$Processor" 95 ⟨"DrawingMachine$Processor", "setAll", "(I)V"⟩ ∈ tw := tw_of (tb_5 (List.mem_of_getElem? (i := 138) rfl)) rfl
theorem k1100 : Cond.instanceMethod ⟨"DrawingMachine$Processor", "setAll", "(I)V"⟩ ∈ tw := tw_of (tb_5 (List.mem_of_getElem? (i := 140) rfl)) rfl
theorem ks19 : Cond.selects "DrawingMachine$Processor" ⟨"DrawingMachine$Processor", "setAll", "(I)V"⟩ ⟨"DrawingMachine$Processor", "setAll", "(I)V"⟩ ∈ tw := tw_sel 19 rfl rfl
theorem k1101 : Cond.code ⟨"DrawingMachine$Processor", "setAll", "(I)V"⟩ prog_7_method_7_code 2 none ∈ tw := tw_of (tb_5 (List.mem_of_getElem? (i := 141) rfl)) rfl
theorem k1103 : Cond.methodLink "DrawingMachine$Processor" 98 ⟨"DrawingMachine$Processor", "oneBy", "(I)I"⟩ ∈ tw := tw_of (tb_5 (List.mem_of_getElem? (i := 143) rfl)) rfl
theorem k1104 : Cond.static ⟨"DrawingMachine$Processor", "oneBy", "(I)I"⟩ ∈ tw := tw_of (tb_5 (List.mem_of_getElem? (i := 144) rfl)) rfl
theorem k1105 : Cond.code ⟨"DrawingMachine$Processor", "oneBy", "(I)I"⟩ prog_7_method_13_code 1 (Option.some .int) ∈ tw := tw_of (tb_5 (List.mem_of_getElem? (i := 145) rfl)) rfl
theorem k1106 : Cond.constant "DrawingMachine$Processor" 101 (2147483647 : Int32) ∈ tw := tw_of (tb_5 (List.mem_of_getElem? (i := 146) rfl)) rfl
theorem k1112 : Cond.constantLong "DrawingMachine$Processor" 102 (281474976710656 : Int64) ∈ tw := tw_of (tb_5 (List.mem_of_getElem? (i := 152) rfl)) rfl
theorem k1113 : Cond.methodLink "DrawingMachine$Processor" 104 ⟨"DrawingMachine$Processor", "rootOf", "(J)I"⟩ ∈ tw := tw_of (tb_5 (List.mem_of_getElem? (i := 153) rfl)) rfl
theorem k1114 : Cond.static ⟨"DrawingMachine$Processor", "rootOf", "(J)I"⟩ ∈ tw := tw_of (tb_5 (List.mem_of_getElem? (i := 154) rfl)) rfl
theorem k1115 : Cond.code ⟨"DrawingMachine$Processor", "rootOf", "(J)I"⟩ prog_7_method_14_code 7 (Option.some .int) ∈ tw := tw_of (tb_5 (List.mem_of_getElem? (i := 155) rfl)) rfl
theorem k1116 : Cond.constantLong "DrawingMachine$Processor" 108 (65536 : Int64) ∈ tw := tw_of (tb_5 (List.mem_of_getElem? (i := 156) rfl)) rfl
theorem k1117 : Cond.methodLink "DrawingMachine$Processor" 110 ⟨"DrawingMachine$Processor", "crossProduct", "()V"⟩ ∈ tw := tw_of (tb_5 (List.mem_of_getElem? (i := 157) rfl)) rfl
theorem k1119 : Cond.instanceMethod ⟨"DrawingMachine$Processor", "crossProduct", "()V"⟩ ∈ tw := tw_of (tb_5 (List.mem_of_getElem? (i := 159) rfl)) rfl
theorem ks20 : Cond.selects "DrawingMachine$Processor" ⟨"DrawingMachine$Processor", "crossProduct", "()V"⟩ ⟨"DrawingMachine$Processor", "crossProduct", "()V"⟩ ∈ tw := tw_sel 20 rfl rfl
theorem k1120 : Cond.code ⟨"DrawingMachine$Processor", "crossProduct", "()V"⟩ prog_7_method_9_code 1 none ∈ tw := tw_of (tb_5 (List.mem_of_getElem? (i := 160) rfl)) rfl
theorem k1121 : Cond.methodLink "DrawingMachine$Processor" 113 ⟨"DrawingMachine$Processor", "readUniform", "(I)V"⟩ ∈ tw := tw_of (tb_5 (List.mem_of_getElem? (i := 161) rfl)) rfl
theorem k1123 : Cond.instanceMethod ⟨"DrawingMachine$Processor", "readUniform", "(I)V"⟩ ∈ tw := tw_of (tb_5 (List.mem_of_getElem? (i := 163) rfl)) rfl
theorem ks21 : Cond.selects "DrawingMachine$Processor" ⟨"DrawingMachine$Processor", "readUniform", "(I)V"⟩ ⟨"DrawingMachine$Processor", "readUniform", "(I)V"⟩ ∈ tw := tw_sel 21 rfl rfl
theorem k1124 : Cond.code ⟨"DrawingMachine$Processor", "readUniform", "(I)V"⟩ prog_7_method_10_code 2 none ∈ tw := tw_of (tb_5 (List.mem_of_getElem? (i := 164) rfl)) rfl
theorem k1127 : Cond.methodLink "DrawingMachine$Processor" 120 ⟨"DrawingMachine$Processor", "part", "(IIII)I"⟩ ∈ tw := tw_of (tb_5 (List.mem_of_getElem? (i := 167) rfl)) rfl
theorem k1128 : Cond.static ⟨"DrawingMachine$Processor", "part", "(IIII)I"⟩ ∈ tw := tw_of (tb_5 (List.mem_of_getElem? (i := 168) rfl)) rfl
theorem k1129 : Cond.code ⟨"DrawingMachine$Processor", "part", "(IIII)I"⟩ prog_7_method_11_code 4 (Option.some .int) ∈ tw := tw_of (tb_5 (List.mem_of_getElem? (i := 169) rfl)) rfl
theorem k1095 : Cond.methodLink "DrawingMachine$Processor" 127 ⟨"DrawingMachine$Processor", "product", "(II)I"⟩ ∈ tw := tw_of (tb_5 (List.mem_of_getElem? (i := 135) rfl)) rfl
theorem k1096 : Cond.static ⟨"DrawingMachine$Processor", "product", "(II)I"⟩ ∈ tw := tw_of (tb_5 (List.mem_of_getElem? (i := 136) rfl)) rfl
theorem k1097 : Cond.code ⟨"DrawingMachine$Processor", "product", "(II)I"⟩ prog_7_method_12_code 2 (Option.some .int) ∈ tw := tw_of (tb_5 (List.mem_of_getElem? (i := 137) rfl)) rfl
theorem k1102 : Cond.methodLink "DrawingMachine$Processor" 124 ⟨"java/util/Arrays", "fill", "([II)V"⟩ ∈ tw := tw_of (tb_5 (List.mem_of_getElem? (i := 142) rfl)) rfl
theorem k1107 : Cond.constantLong "DrawingMachine$Processor" 139 (4294967296 : Int64) ∈ tw := tw_of (tb_5 (List.mem_of_getElem? (i := 147) rfl)) rfl
theorem k1108 : Cond.methodLink "DrawingMachine$Processor" 141 ⟨"java/lang/Math", "floorDiv", "(JJ)J"⟩ ∈ tw := tw_of (tb_5 (List.mem_of_getElem? (i := 148) rfl)) rfl
theorem k1109 : Cond.static ⟨"java/lang/Math", "floorDiv", "(JJ)J"⟩ ∈ tw := tw_of (tb_5 (List.mem_of_getElem? (i := 149) rfl)) rfl
theorem k1110 : Cond.code ⟨"java/lang/Math", "floorDiv", "(JJ)J"⟩ prog_30_method_49_code 6 (Option.some .long) ∈ tw := tw_of (tb_5 (List.mem_of_getElem? (i := 150) rfl)) rfl
theorem k1111 : Cond.constant "DrawingMachine$Processor" 137 (-2147483648 : Int32) ∈ tw := tw_of (tb_5 (List.mem_of_getElem? (i := 151) rfl)) rfl
theorem k1125 : Cond.methodLink "DrawingMachine$Processor" 131 ⟨"java/lang/System", "arraycopy", "(Ljava/lang/Object;ILjava/lang/Object;II)V"⟩ ∈ tw := tw_of (tb_5 (List.mem_of_getElem? (i := 165) rfl)) rfl
theorem k1130 : Cond.constant "DrawingMachine$Processor" 138 (-65536 : Int32) ∈ tw := tw_of (tb_5 (List.mem_of_getElem? (i := 170) rfl)) rfl
theorem k1135 : Cond.methodLink "DrawingMachine$Shape" 38 ⟨"java/lang/System", "arraycopy", "(Ljava/lang/Object;ILjava/lang/Object;II)V"⟩ ∈ tw := tw_of (tb_5 (List.mem_of_getElem? (i := 175) rfl)) rfl
theorem k286 : Cond.fieldLink "DrawingMachine$Shape" 44 "DrawingMachine$Shape" "many" "I" ∈ tw := tw_of (tb_2 (List.mem_of_getElem? (i := 46) rfl)) rfl
theorem k1140 : Cond.methodLink "DrawingMachine$Shape" 48 ⟨"DrawingMachine$Shape", "cutBy", "(Z)V"⟩ ∈ tw := tw_of (tb_5 (List.mem_of_getElem? (i := 180) rfl)) rfl
theorem k1142 : Cond.instanceMethod ⟨"DrawingMachine$Shape", "cutBy", "(Z)V"⟩ ∈ tw := tw_of (tb_5 (List.mem_of_getElem? (i := 182) rfl)) rfl
theorem ks22 : Cond.selects "DrawingMachine$Shape" ⟨"DrawingMachine$Shape", "cutBy", "(Z)V"⟩ ⟨"DrawingMachine$Shape", "cutBy", "(Z)V"⟩ ∈ tw := tw_sel 22 rfl rfl
theorem k1143 : Cond.code ⟨"DrawingMachine$Shape", "cutBy", "(Z)V"⟩ prog_9_method_4_code 10 none ∈ tw := tw_of (tb_5 (List.mem_of_getElem? (i := 183) rfl)) rfl
theorem k1144 : Cond.methodLink "DrawingMachine$Shape" 52 ⟨"DrawingMachine$Shape", "inside", "([IZ)J"⟩ ∈ tw := tw_of (tb_5 (List.mem_of_getElem? (i := 184) rfl)) rfl
theorem k1145 : Cond.static ⟨"DrawingMachine$Shape", "inside", "([IZ)J"⟩ ∈ tw := tw_of (tb_5 (List.mem_of_getElem? (i := 185) rfl)) rfl
theorem k1146 : Cond.code ⟨"DrawingMachine$Shape", "inside", "([IZ)J"⟩ prog_9_method_5_code 2 (Option.some .long) ∈ tw := tw_of (tb_5 (List.mem_of_getElem? (i := 186) rfl)) rfl
theorem k1148 : Cond.methodLink "DrawingMachine$Shape" 56 ⟨"DrawingMachine$Shape", "between", "([I[IJJ[I)V"⟩ ∈ tw := tw_of (tb_5 (List.mem_of_getElem? (i := 188) rfl)) rfl
theorem k1149 : Cond.static ⟨"DrawingMachine$Shape", "between", "([I[IJJ[I)V"⟩ ∈ tw := tw_of (tb_5 (List.mem_of_getElem? (i := 189) rfl)) rfl
theorem k1150 : Cond.code ⟨"DrawingMachine$Shape", "between", "([I[IJJ[I)V"⟩ prog_9_method_6_code 10 none ∈ tw := tw_of (tb_5 (List.mem_of_getElem? (i := 190) rfl)) rfl
theorem k1147 : Cond.constantLong "DrawingMachine$Shape" 60 (256 : Int64) ∈ tw := tw_of (tb_5 (List.mem_of_getElem? (i := 187) rfl)) rfl
theorem k1151 : Cond.constantLong "DrawingMachine$Shape" 62 (65536 : Int64) ∈ tw := tw_of (tb_5 (List.mem_of_getElem? (i := 191) rfl)) rfl
theorem k1152 : Cond.methodLink "DrawingMachine$Shape" 64 ⟨"java/lang/Math", "floorDiv", "(JJ)J"⟩ ∈ tw := tw_of (tb_5 (List.mem_of_getElem? (i := 192) rfl)) rfl
theorem k1157 : Cond.methodLink "DrawingMachine$Shape" 70 ⟨"DrawingMachine$Shape", "lay", "(I)V"⟩ ∈ tw := tw_of (tb_5 (List.mem_of_getElem? (i := 197) rfl)) rfl
theorem k1159 : Cond.instanceMethod ⟨"DrawingMachine$Shape", "lay", "(I)V"⟩ ∈ tw := tw_of (tb_5 (List.mem_of_getElem? (i := 199) rfl)) rfl
theorem ks23 : Cond.selects "DrawingMachine$Shape" ⟨"DrawingMachine$Shape", "lay", "(I)V"⟩ ⟨"DrawingMachine$Shape", "lay", "(I)V"⟩ ∈ tw := tw_sel 23 rfl rfl
theorem k1160 : Cond.code ⟨"DrawingMachine$Shape", "lay", "(I)V"⟩ prog_9_method_8_code 5 none ∈ tw := tw_of (tb_5 (List.mem_of_getElem? (i := 200) rfl)) rfl
theorem k1161 : Cond.methodLink "DrawingMachine$Shape" 74 ⟨"DrawingMachine$Shape", "shifted", "(II)J"⟩ ∈ tw := tw_of (tb_5 (List.mem_of_getElem? (i := 201) rfl)) rfl
theorem k1162 : Cond.static ⟨"DrawingMachine$Shape", "shifted", "(II)J"⟩ ∈ tw := tw_of (tb_5 (List.mem_of_getElem? (i := 202) rfl)) rfl
theorem k1163 : Cond.code ⟨"DrawingMachine$Shape", "shifted", "(II)J"⟩ prog_9_method_9_code 2 (Option.some .long) ∈ tw := tw_of (tb_5 (List.mem_of_getElem? (i := 203) rfl)) rfl
theorem k1164 : Cond.methodLink "DrawingMachine$Shape" 78 ⟨"DrawingMachine$Shape", "laid", "(JII)I"⟩ ∈ tw := tw_of (tb_5 (List.mem_of_getElem? (i := 204) rfl)) rfl
theorem k1165 : Cond.static ⟨"DrawingMachine$Shape", "laid", "(JII)I"⟩ ∈ tw := tw_of (tb_5 (List.mem_of_getElem? (i := 205) rfl)) rfl
theorem k1166 : Cond.code ⟨"DrawingMachine$Shape", "laid", "(JII)I"⟩ prog_9_method_10_code 4 (Option.some .int) ∈ tw := tw_of (tb_5 (List.mem_of_getElem? (i := 206) rfl)) rfl
theorem k1168 : Cond.methodLink "DrawingMachine$Shape" 82 ⟨"DrawingMachine$Shape", "scaled", "(JI)J"⟩ ∈ tw := tw_of (tb_5 (List.mem_of_getElem? (i := 208) rfl)) rfl
theorem k1169 : Cond.static ⟨"DrawingMachine$Shape", "scaled", "(JI)J"⟩ ∈ tw := tw_of (tb_5 (List.mem_of_getElem? (i := 209) rfl)) rfl
theorem k1170 : Cond.code ⟨"DrawingMachine$Shape", "scaled", "(JI)J"⟩ prog_9_method_11_code 3 (Option.some .long) ∈ tw := tw_of (tb_5 (List.mem_of_getElem? (i := 210) rfl)) rfl
theorem k1172 : Cond.constant "DrawingMachine$Shape" 86 (16777215 : Int32) ∈ tw := tw_of (tb_5 (List.mem_of_getElem? (i := 212) rfl)) rfl
theorem k1173 : Cond.constant "DrawingMachine$Shape" 90 (1073741824 : Int32) ∈ tw := tw_of (tb_5 (List.mem_of_getElem? (i := 213) rfl)) rfl
theorem k1174 : Cond.methodLink "DrawingMachine$Shape" 91 ⟨"java/lang/Math", "max", "(II)I"⟩ ∈ tw := tw_of (tb_5 (List.mem_of_getElem? (i := 214) rfl)) rfl
theorem k1171 : Cond.constantLong "DrawingMachine$Shape" 95 (131071 : Int64) ∈ tw := tw_of (tb_5 (List.mem_of_getElem? (i := 211) rfl)) rfl
theorem k291 : Cond.fieldLink "DrawingMachine$Covering" 38 "DrawingMachine$Shape" "x" "[I" ∈ tw := tw_of (tb_2 (List.mem_of_getElem? (i := 51) rfl)) rfl
theorem k293 : Cond.fieldLink "DrawingMachine$Covering" 43 "DrawingMachine$Shape" "y" "[I" ∈ tw := tw_of (tb_2 (List.mem_of_getElem? (i := 53) rfl)) rfl
theorem k340 : Cond.fieldLink "DrawingMachine$Covering" 46 "DrawingMachine$Covering" "area" "J" ∈ tw := tw_of (tb_2 (List.mem_of_getElem? (i := 100) rfl)) rfl
theorem k323 : Cond.fieldLink "DrawingMachine$Drawing" 151 "DrawingMachine$Covering" "front" "Z" ∈ tw := tw_of (tb_2 (List.mem_of_getElem? (i := 83) rfl)) rfl
theorem k1187 : Cond.methodLink "DrawingMachine$Drawing" 155 ⟨"DrawingMachine$Covering", "makeReady", "(II)V"⟩ ∈ tw := tw_of (tb_5 (List.mem_of_getElem? (i := 227) rfl)) rfl
theorem k1188 : Cond.instanceMethod ⟨"DrawingMachine$Covering", "makeReady", "(II)V"⟩ ∈ tw := tw_of (tb_5 (List.mem_of_getElem? (i := 228) rfl)) rfl
theorem k1189 : Cond.selects "DrawingMachine$Covering" ⟨"DrawingMachine$Covering", "makeReady", "(II)V"⟩ ⟨"DrawingMachine$Covering", "makeReady", "(II)V"⟩ ∈ tw := tw_of (tb_5 (List.mem_of_getElem? (i := 229) rfl)) rfl
theorem k1190 : Cond.code ⟨"DrawingMachine$Covering", "makeReady", "(II)V"⟩ prog_4_method_3_code 6 none ∈ tw := tw_of (tb_5 (List.mem_of_getElem? (i := 230) rfl)) rfl
theorem k329 : Cond.fieldLink "DrawingMachine$Drawing" 159 "DrawingMachine$Covering" "top" "I" ∈ tw := tw_of (tb_2 (List.mem_of_getElem? (i := 89) rfl)) rfl
theorem k331 : Cond.fieldLink "DrawingMachine$Drawing" 162 "DrawingMachine$Covering" "bottom" "I" ∈ tw := tw_of (tb_2 (List.mem_of_getElem? (i := 91) rfl)) rfl
theorem k325 : Cond.fieldLink "DrawingMachine$Drawing" 165 "DrawingMachine$Covering" "left" "I" ∈ tw := tw_of (tb_2 (List.mem_of_getElem? (i := 85) rfl)) rfl
theorem k327 : Cond.fieldLink "DrawingMachine$Drawing" 168 "DrawingMachine$Covering" "right" "I" ∈ tw := tw_of (tb_2 (List.mem_of_getElem? (i := 87) rfl)) rfl
theorem k1207 : Cond.methodLink "DrawingMachine$Drawing" 171 ⟨"DrawingMachine$Covering", "covers", "(II)Z"⟩ ∈ tw := tw_of (tb_6 (List.mem_of_getElem? (i := 7) rfl)) rfl
theorem k1208 : Cond.instanceMethod ⟨"DrawingMachine$Covering", "covers", "(II)Z"⟩ ∈ tw := tw_of (tb_6 (List.mem_of_getElem? (i := 8) rfl)) rfl
theorem k1209 : Cond.selects "DrawingMachine$Covering" ⟨"DrawingMachine$Covering", "covers", "(II)Z"⟩ ⟨"DrawingMachine$Covering", "covers", "(II)Z"⟩ ∈ tw := tw_of (tb_6 (List.mem_of_getElem? (i := 9) rfl)) rfl
theorem k1210 : Cond.code ⟨"DrawingMachine$Covering", "covers", "(II)Z"⟩ prog_4_method_7_code 4 (Option.some .boolean) ∈ tw := tw_of (tb_6 (List.mem_of_getElem? (i := 10) rfl)) rfl
theorem k1211 : Cond.methodLink "DrawingMachine$Drawing" 175 ⟨"DrawingMachine$Covering", "depthThere", "()I"⟩ ∈ tw := tw_of (tb_6 (List.mem_of_getElem? (i := 11) rfl)) rfl
theorem k1212 : Cond.instanceMethod ⟨"DrawingMachine$Covering", "depthThere", "()I"⟩ ∈ tw := tw_of (tb_6 (List.mem_of_getElem? (i := 12) rfl)) rfl
theorem k1213 : Cond.selects "DrawingMachine$Covering" ⟨"DrawingMachine$Covering", "depthThere", "()I"⟩ ⟨"DrawingMachine$Covering", "depthThere", "()I"⟩ ∈ tw := tw_of (tb_6 (List.mem_of_getElem? (i := 13) rfl)) rfl
theorem k1214 : Cond.code ⟨"DrawingMachine$Covering", "depthThere", "()I"⟩ prog_4_method_8_code 4 (Option.some .int) ∈ tw := tw_of (tb_6 (List.mem_of_getElem? (i := 14) rfl)) rfl
theorem k1215 : Cond.constant "DrawingMachine$Drawing" 179 (65536 : Int32) ∈ tw := tw_of (tb_6 (List.mem_of_getElem? (i := 15) rfl)) rfl
theorem k1216 : Cond.constant "DrawingMachine$Drawing" 180 (32768 : Int32) ∈ tw := tw_of (tb_6 (List.mem_of_getElem? (i := 16) rfl)) rfl
theorem k1217 : Cond.methodLink "DrawingMachine$Drawing" 181 ⟨"DrawingMachine$Covering", "load", "(LDrawingMachine$Program;[I)V"⟩ ∈ tw := tw_of (tb_6 (List.mem_of_getElem? (i := 17) rfl)) rfl
theorem k1218 : Cond.instanceMethod ⟨"DrawingMachine$Covering", "load", "(LDrawingMachine$Program;[I)V"⟩ ∈ tw := tw_of (tb_6 (List.mem_of_getElem? (i := 18) rfl)) rfl
theorem k1219 : Cond.selects "DrawingMachine$Covering" ⟨"DrawingMachine$Covering", "load", "(LDrawingMachine$Program;[I)V"⟩ ⟨"DrawingMachine$Covering", "load", "(LDrawingMachine$Program;[I)V"⟩ ∈ tw := tw_of (tb_6 (List.mem_of_getElem? (i := 19) rfl)) rfl
theorem k1220 : Cond.code ⟨"DrawingMachine$Covering", "load", "(LDrawingMachine$Program;[I)V"⟩ prog_4_method_9_code 5 none ∈ tw := tw_of (tb_6 (List.mem_of_getElem? (i := 20) rfl)) rfl
theorem k1241 : Cond.methodLink "DrawingMachine$Drawing" 184 ⟨"DrawingMachine$Drawing", "colourOf", "([I)I"⟩ ∈ tw := tw_of (tb_6 (List.mem_of_getElem? (i := 41) rfl)) rfl
theorem k1242 : Cond.static ⟨"DrawingMachine$Drawing", "colourOf", "([I)I"⟩ ∈ tw := tw_of (tb_6 (List.mem_of_getElem? (i := 42) rfl)) rfl
theorem k1243 : Cond.code ⟨"DrawingMachine$Drawing", "colourOf", "([I)I"⟩ prog_5_method_8_code 4 (Option.some .int) ∈ tw := tw_of (tb_6 (List.mem_of_getElem? (i := 43) rfl)) rfl
theorem k1245 : Cond.methodLink "DrawingMachine$Drawing" 188 ⟨"DrawingMachine$Picture", "drawPlace", "(IIIII)I"⟩ ∈ tw := tw_of (tb_6 (List.mem_of_getElem? (i := 45) rfl)) rfl
theorem k1246 : Cond.instanceMethod ⟨"DrawingMachine$Picture", "drawPlace", "(IIIII)I"⟩ ∈ tw := tw_of (tb_6 (List.mem_of_getElem? (i := 46) rfl)) rfl
theorem k1247 : Cond.selects "DrawingMachine$Picture" ⟨"DrawingMachine$Picture", "drawPlace", "(IIIII)I"⟩ ⟨"DrawingMachine$Picture", "drawPlace", "(IIIII)I"⟩ ∈ tw := tw_of (tb_6 (List.mem_of_getElem? (i := 47) rfl)) rfl
theorem k1248 : Cond.code ⟨"DrawingMachine$Picture", "drawPlace", "(IIIII)I"⟩ prog_6_method_5_code 10 (Option.some .int) ∈ tw := tw_of (tb_6 (List.mem_of_getElem? (i := 48) rfl)) rfl
theorem k1284 : Cond.methodLink "DrawingMachine$Drawing" 192 ⟨"DrawingMachine$Drawing", "tally", "(I)V"⟩ ∈ tw := tw_of (tb_6 (List.mem_of_getElem? (i := 84) rfl)) rfl
theorem k1286 : Cond.instanceMethod ⟨"DrawingMachine$Drawing", "tally", "(I)V"⟩ ∈ tw := tw_of (tb_6 (List.mem_of_getElem? (i := 86) rfl)) rfl
theorem ks35 : Cond.selects "DrawingMachine$Drawing" ⟨"DrawingMachine$Drawing", "tally", "(I)V"⟩ ⟨"DrawingMachine$Drawing", "tally", "(I)V"⟩ ∈ tw := tw_sel 35 rfl rfl
theorem k1287 : Cond.code ⟨"DrawingMachine$Drawing", "tally", "(I)V"⟩ prog_5_method_7_code 2 none ∈ tw := tw_of (tb_6 (List.mem_of_getElem? (i := 87) rfl)) rfl
theorem k1191 : Cond.methodLink "DrawingMachine$Covering" 50 ⟨"DrawingMachine$Covering", "setEdge", "(III)V"⟩ ∈ tw := tw_of (tb_5 (List.mem_of_getElem? (i := 231) rfl)) rfl
theorem k1193 : Cond.instanceMethod ⟨"DrawingMachine$Covering", "setEdge", "(III)V"⟩ ∈ tw := tw_of (tb_5 (List.mem_of_getElem? (i := 233) rfl)) rfl
theorem ks26 : Cond.selects "DrawingMachine$Covering" ⟨"DrawingMachine$Covering", "setEdge", "(III)V"⟩ ⟨"DrawingMachine$Covering", "setEdge", "(III)V"⟩ ∈ tw := tw_sel 26 rfl rfl
theorem k1194 : Cond.code ⟨"DrawingMachine$Covering", "setEdge", "(III)V"⟩ prog_4_method_6_code 9 none ∈ tw := tw_of (tb_5 (List.mem_of_getElem? (i := 234) rfl)) rfl
theorem k1197 : Cond.methodLink "DrawingMachine$Covering" 54 ⟨"DrawingMachine$Covering", "leastOf", "([I)I"⟩ ∈ tw := tw_of (tb_5 (List.mem_of_getElem? (i := 237) rfl)) rfl
theorem k1199 : Cond.instanceMethod ⟨"DrawingMachine$Covering", "leastOf", "([I)I"⟩ ∈ tw := tw_of (tb_5 (List.mem_of_getElem? (i := 239) rfl)) rfl
theorem ks27 : Cond.selects "DrawingMachine$Covering" ⟨"DrawingMachine$Covering", "leastOf", "([I)I"⟩ ⟨"DrawingMachine$Covering", "leastOf", "([I)I"⟩ ∈ tw := tw_sel 27 rfl rfl
theorem k1200 : Cond.code ⟨"DrawingMachine$Covering", "leastOf", "([I)I"⟩ prog_4_method_4_code 2 (Option.some .int) ∈ tw := tw_of (tb_6 (List.mem_of_getElem? (i := 0) rfl)) rfl
theorem k1202 : Cond.methodLink "DrawingMachine$Covering" 58 ⟨"java/lang/Math", "max", "(II)I"⟩ ∈ tw := tw_of (tb_6 (List.mem_of_getElem? (i := 2) rfl)) rfl
theorem k324 : Cond.fieldLink "DrawingMachine$Covering" 64 "DrawingMachine$Covering" "left" "I" ∈ tw := tw_of (tb_2 (List.mem_of_getElem? (i := 84) rfl)) rfl
theorem k1203 : Cond.methodLink "DrawingMachine$Covering" 68 ⟨"DrawingMachine$Covering", "greatestOf", "([I)I"⟩ ∈ tw := tw_of (tb_6 (List.mem_of_getElem? (i := 3) rfl)) rfl
theorem k1205 : Cond.instanceMethod ⟨"DrawingMachine$Covering", "greatestOf", "([I)I"⟩ ∈ tw := tw_of (tb_6 (List.mem_of_getElem? (i := 5) rfl)) rfl
theorem ks28 : Cond.selects "DrawingMachine$Covering" ⟨"DrawingMachine$Covering", "greatestOf", "([I)I"⟩ ⟨"DrawingMachine$Covering", "greatestOf", "([I)I"⟩ ∈ tw := tw_sel 28 rfl rfl
theorem k1206 : Cond.code ⟨"DrawingMachine$Covering", "greatestOf", "([I)I"⟩ prog_4_method_5_code 2 (Option.some .int) ∈ tw := tw_of (tb_6 (List.mem_of_getElem? (i := 6) rfl)) rfl
theorem k1201 : Cond.methodLink "DrawingMachine$Covering" 71 ⟨"java/lang/Math", "min", "(II)I"⟩ ∈ tw := tw_of (tb_6 (List.mem_of_getElem? (i := 1) rfl)) rfl
theorem k326 : Cond.fieldLink "DrawingMachine$Covering" 74 "DrawingMachine$Covering" "right" "I" ∈ tw := tw_of (tb_2 (List.mem_of_getElem? (i := 86) rfl)) rfl
theorem k328 : Cond.fieldLink "DrawingMachine$Covering" 77 "DrawingMachine$Covering" "top" "I" ∈ tw := tw_of (tb_2 (List.mem_of_getElem? (i := 88) rfl)) rfl
theorem k330 : Cond.fieldLink "DrawingMachine$Covering" 80 "DrawingMachine$Covering" "bottom" "I" ∈ tw := tw_of (tb_2 (List.mem_of_getElem? (i := 90) rfl)) rfl
theorem k1195 : Cond.constantLong "DrawingMachine$Covering" 83 (-16 : Int64) ∈ tw := tw_of (tb_5 (List.mem_of_getElem? (i := 235) rfl)) rfl
theorem k1196 : Cond.constantLong "DrawingMachine$Covering" 85 (16 : Int64) ∈ tw := tw_of (tb_5 (List.mem_of_getElem? (i := 236) rfl)) rfl
theorem k295 : Cond.fieldLink "DrawingMachine$Covering" 87 "DrawingMachine$Shape" "depth" "[I" ∈ tw := tw_of (tb_2 (List.mem_of_getElem? (i := 55) rfl)) rfl
theorem k1221 : Cond.methodLink "DrawingMachine$Covering" 90 ⟨"DrawingMachine$Covering", "setShares", "()V"⟩ ∈ tw := tw_of (tb_6 (List.mem_of_getElem? (i := 21) rfl)) rfl
theorem k1223 : Cond.instanceMethod ⟨"DrawingMachine$Covering", "setShares", "()V"⟩ ∈ tw := tw_of (tb_6 (List.mem_of_getElem? (i := 23) rfl)) rfl
theorem ks29 : Cond.selects "DrawingMachine$Covering" ⟨"DrawingMachine$Covering", "setShares", "()V"⟩ ⟨"DrawingMachine$Covering", "setShares", "()V"⟩ ∈ tw := tw_sel 29 rfl rfl
theorem k1224 : Cond.code ⟨"DrawingMachine$Covering", "setShares", "()V"⟩ prog_4_method_10_code 5 none ∈ tw := tw_of (tb_6 (List.mem_of_getElem? (i := 24) rfl)) rfl
theorem k1235 : Cond.methodLink "DrawingMachine$Covering" 93 ⟨"DrawingMachine$Program", "readsIn", "(I)Z"⟩ ∈ tw := tw_of (tb_6 (List.mem_of_getElem? (i := 35) rfl)) rfl
theorem k1236 : Cond.methodLink "DrawingMachine$Covering" 99 ⟨"DrawingMachine$Covering", "valueThere", "(I)I"⟩ ∈ tw := tw_of (tb_6 (List.mem_of_getElem? (i := 36) rfl)) rfl
theorem k1238 : Cond.instanceMethod ⟨"DrawingMachine$Covering", "valueThere", "(I)I"⟩ ∈ tw := tw_of (tb_6 (List.mem_of_getElem? (i := 38) rfl)) rfl
theorem ks30 : Cond.selects "DrawingMachine$Covering" ⟨"DrawingMachine$Covering", "valueThere", "(I)I"⟩ ⟨"DrawingMachine$Covering", "valueThere", "(I)I"⟩ ∈ tw := tw_sel 30 rfl rfl
theorem k1239 : Cond.code ⟨"DrawingMachine$Covering", "valueThere", "(I)I"⟩ prog_4_method_11_code 5 (Option.some .int) ∈ tw := tw_of (tb_6 (List.mem_of_getElem? (i := 39) rfl)) rfl
theorem k297 : Cond.fieldLink "DrawingMachine$Covering" 103 "DrawingMachine$Shape" "nearness" "[I" ∈ tw := tw_of (tb_2 (List.mem_of_getElem? (i := 57) rfl)) rfl
theorem k1225 : Cond.methodLink "DrawingMachine$Covering" 106 ⟨"java/lang/Math", "max", "(JJ)J"⟩ ∈ tw := tw_of (tb_6 (List.mem_of_getElem? (i := 25) rfl)) rfl
theorem k1226 : Cond.static ⟨"java/lang/Math", "max", "(JJ)J"⟩ ∈ tw := tw_of (tb_6 (List.mem_of_getElem? (i := 26) rfl)) rfl
theorem k1227 : Cond.code ⟨"java/lang/Math", "max", "(JJ)J"⟩ prog_30_method_66_code 4 (Option.some .long) ∈ tw := tw_of (tb_6 (List.mem_of_getElem? (i := 27) rfl)) rfl
theorem k1228 : Cond.methodLink "DrawingMachine$Covering" 109 ⟨"java/lang/Long", "numberOfLeadingZeros", "(J)I"⟩ ∈ tw := tw_of (tb_6 (List.mem_of_getElem? (i := 28) rfl)) rfl
theorem k39 : Cond.initialized "java/lang/Long" ∈ tw := tw_of (tb_1 (List.mem_of_getElem? (i := 39) rfl)) rfl
theorem k1229 : Cond.static ⟨"java/lang/Long", "numberOfLeadingZeros", "(J)I"⟩ ∈ tw := tw_of (tb_6 (List.mem_of_getElem? (i := 29) rfl)) rfl
theorem k1230 : Cond.code ⟨"java/lang/Long", "numberOfLeadingZeros", "(J)I"⟩ prog_29_method_48_code 3 (Option.some .int) ∈ tw := tw_of (tb_6 (List.mem_of_getElem? (i := 30) rfl)) rfl
theorem k341 : Cond.fieldLink "DrawingMachine$Covering" 115 "DrawingMachine$Covering" "shares" "J" ∈ tw := tw_of (tb_2 (List.mem_of_getElem? (i := 101) rfl)) rfl
theorem k1231 : Cond.methodLink "java/lang/Long" 308 ⟨"java/lang/Integer", "numberOfLeadingZeros", "(I)I"⟩ ∈ tw := tw_of (tb_6 (List.mem_of_getElem? (i := 31) rfl)) rfl
theorem k34 : Cond.initialized "java/lang/Integer" ∈ tw := tw_of (tb_1 (List.mem_of_getElem? (i := 34) rfl)) rfl
theorem k1232 : Cond.static ⟨"java/lang/Integer", "numberOfLeadingZeros", "(I)I"⟩ ∈ tw := tw_of (tb_6 (List.mem_of_getElem? (i := 32) rfl)) rfl
theorem k1233 : Cond.code ⟨"java/lang/Integer", "numberOfLeadingZeros", "(I)I"⟩ prog_28_method_47_code 2 (Option.some .int) ∈ tw := tw_of (tb_6 (List.mem_of_getElem? (i := 33) rfl)) rfl
theorem k1234 : Cond.constant "java/lang/Integer" 264 (65536 : Int32) ∈ tw := tw_of (tb_6 (List.mem_of_getElem? (i := 34) rfl)) rfl
theorem k289 : Cond.fieldLink "DrawingMachine$Covering" 118 "DrawingMachine$Shape" "corners" "[[I" ∈ tw := tw_of (tb_2 (List.mem_of_getElem? (i := 49) rfl)) rfl
theorem k1240 : Cond.methodLink "DrawingMachine$Covering" 122 ⟨"java/lang/Math", "floorDiv", "(JJ)J"⟩ ∈ tw := tw_of (tb_6 (List.mem_of_getElem? (i := 40) rfl)) rfl
theorem k1249 : Cond.methodLink "DrawingMachine$Picture" 57 ⟨"DrawingMachine$Told", "isOpen", "(II)Z"⟩ ∈ tw := tw_of (tb_6 (List.mem_of_getElem? (i := 49) rfl)) rfl
theorem k1250 : Cond.instanceMethod ⟨"DrawingMachine$Told", "isOpen", "(II)Z"⟩ ∈ tw := tw_of (tb_6 (List.mem_of_getElem? (i := 50) rfl)) rfl
theorem k1251 : Cond.selects "DrawingMachine$Told" ⟨"DrawingMachine$Told", "isOpen", "(II)Z"⟩ ⟨"DrawingMachine$Told", "isOpen", "(II)Z"⟩ ∈ tw := tw_of (tb_6 (List.mem_of_getElem? (i := 51) rfl)) rfl
theorem k1252 : Cond.code ⟨"DrawingMachine$Told", "isOpen", "(II)Z"⟩ prog_11_method_5_code 5 (Option.some .boolean) ∈ tw := tw_of (tb_6 (List.mem_of_getElem? (i := 52) rfl)) rfl
theorem k1253 : Cond.methodLink "DrawingMachine$Picture" 61 ⟨"DrawingMachine$Picture", "holds", "(III)Z"⟩ ∈ tw := tw_of (tb_6 (List.mem_of_getElem? (i := 53) rfl)) rfl
theorem k1254 : Cond.static ⟨"DrawingMachine$Picture", "holds", "(III)Z"⟩ ∈ tw := tw_of (tb_6 (List.mem_of_getElem? (i := 54) rfl)) rfl
theorem k1255 : Cond.code ⟨"DrawingMachine$Picture", "holds", "(III)Z"⟩ prog_6_method_7_code 3 (Option.some .boolean) ∈ tw := tw_of (tb_6 (List.mem_of_getElem? (i := 55) rfl)) rfl
theorem k1256 : Cond.methodLink "DrawingMachine$Picture" 65 ⟨"DrawingMachine$Picture", "doDeed", "(III)V"⟩ ∈ tw := tw_of (tb_6 (List.mem_of_getElem? (i := 56) rfl)) rfl
theorem k1258 : Cond.instanceMethod ⟨"DrawingMachine$Picture", "doDeed", "(III)V"⟩ ∈ tw := tw_of (tb_6 (List.mem_of_getElem? (i := 58) rfl)) rfl
theorem ks31 : Cond.selects "DrawingMachine$Picture" ⟨"DrawingMachine$Picture", "doDeed", "(III)V"⟩ ⟨"DrawingMachine$Picture", "doDeed", "(III)V"⟩ ∈ tw := tw_sel 31 rfl rfl
theorem k1259 : Cond.code ⟨"DrawingMachine$Picture", "doDeed", "(III)V"⟩ prog_6_method_8_code 6 none ∈ tw := tw_of (tb_6 (List.mem_of_getElem? (i := 59) rfl)) rfl
theorem k1263 : Cond.methodLink "DrawingMachine$Picture" 53 ⟨"DrawingMachine$Picture", "channelBits", "(I)I"⟩ ∈ tw := tw_of (tb_6 (List.mem_of_getElem? (i := 63) rfl)) rfl
theorem k1264 : Cond.static ⟨"DrawingMachine$Picture", "channelBits", "(I)I"⟩ ∈ tw := tw_of (tb_6 (List.mem_of_getElem? (i := 64) rfl)) rfl
theorem k1265 : Cond.code ⟨"DrawingMachine$Picture", "channelBits", "(I)I"⟩ prog_6_method_6_code 3 (Option.some .int) ∈ tw := tw_of (tb_6 (List.mem_of_getElem? (i := 65) rfl)) rfl
theorem k1266 : Cond.methodLink "DrawingMachine$Picture" 69 ⟨"DrawingMachine$Picture", "newColour", "(II)I"⟩ ∈ tw := tw_of (tb_6 (List.mem_of_getElem? (i := 66) rfl)) rfl
theorem k1268 : Cond.instanceMethod ⟨"DrawingMachine$Picture", "newColour", "(II)I"⟩ ∈ tw := tw_of (tb_6 (List.mem_of_getElem? (i := 68) rfl)) rfl
theorem ks32 : Cond.selects "DrawingMachine$Picture" ⟨"DrawingMachine$Picture", "newColour", "(II)I"⟩ ⟨"DrawingMachine$Picture", "newColour", "(II)I"⟩ ∈ tw := tw_sel 32 rfl rfl
theorem k1269 : Cond.code ⟨"DrawingMachine$Picture", "newColour", "(II)I"⟩ prog_6_method_10_code 5 (Option.some .int) ∈ tw := tw_of (tb_6 (List.mem_of_getElem? (i := 69) rfl)) rfl
theorem k1260 : Cond.methodLink "DrawingMachine$Picture" 72 ⟨"DrawingMachine$Picture", "afterDeed", "(III)I"⟩ ∈ tw := tw_of (tb_6 (List.mem_of_getElem? (i := 60) rfl)) rfl
theorem k1261 : Cond.static ⟨"DrawingMachine$Picture", "afterDeed", "(III)I"⟩ ∈ tw := tw_of (tb_6 (List.mem_of_getElem? (i := 61) rfl)) rfl
theorem k1262 : Cond.code ⟨"DrawingMachine$Picture", "afterDeed", "(III)I"⟩ prog_6_method_9_code 3 (Option.some .int) ∈ tw := tw_of (tb_6 (List.mem_of_getElem? (i := 62) rfl)) rfl
theorem k1270 : Cond.methodLink "DrawingMachine$Picture" 76 ⟨"DrawingMachine$Picture", "byLogic", "(III)I"⟩ ∈ tw := tw_of (tb_6 (List.mem_of_getElem? (i := 70) rfl)) rfl
theorem k1271 : Cond.static ⟨"DrawingMachine$Picture", "byLogic", "(III)I"⟩ ∈ tw := tw_of (tb_6 (List.mem_of_getElem? (i := 71) rfl)) rfl
theorem k1272 : Cond.code ⟨"DrawingMachine$Picture", "byLogic", "(III)I"⟩ prog_6_method_11_code 4 (Option.some .int) ∈ tw := tw_of (tb_6 (List.mem_of_getElem? (i := 72) rfl)) rfl
theorem k1273 : Cond.methodLink "DrawingMachine$Picture" 79 ⟨"DrawingMachine$Picture", "blended", "(III)I"⟩ ∈ tw := tw_of (tb_6 (List.mem_of_getElem? (i := 73) rfl)) rfl
theorem k1275 : Cond.instanceMethod ⟨"DrawingMachine$Picture", "blended", "(III)I"⟩ ∈ tw := tw_of (tb_6 (List.mem_of_getElem? (i := 75) rfl)) rfl
theorem ks33 : Cond.selects "DrawingMachine$Picture" ⟨"DrawingMachine$Picture", "blended", "(III)I"⟩ ⟨"DrawingMachine$Picture", "blended", "(III)I"⟩ ∈ tw := tw_sel 33 rfl rfl
theorem k1276 : Cond.code ⟨"DrawingMachine$Picture", "blended", "(III)I"⟩ prog_6_method_12_code 9 (Option.some .int) ∈ tw := tw_of (tb_6 (List.mem_of_getElem? (i := 76) rfl)) rfl
theorem k1277 : Cond.methodLink "DrawingMachine$Picture" 82 ⟨"DrawingMachine$Picture", "factor", "(IIII)I"⟩ ∈ tw := tw_of (tb_6 (List.mem_of_getElem? (i := 77) rfl)) rfl
theorem k1279 : Cond.instanceMethod ⟨"DrawingMachine$Picture", "factor", "(IIII)I"⟩ ∈ tw := tw_of (tb_6 (List.mem_of_getElem? (i := 79) rfl)) rfl
theorem ks34 : Cond.selects "DrawingMachine$Picture" ⟨"DrawingMachine$Picture", "factor", "(IIII)I"⟩ ⟨"DrawingMachine$Picture", "factor", "(IIII)I"⟩ ∈ tw := tw_sel 34 rfl rfl
theorem k1280 : Cond.code ⟨"DrawingMachine$Picture", "factor", "(IIII)I"⟩ prog_6_method_14_code 7 (Option.some .int) ∈ tw := tw_of (tb_6 (List.mem_of_getElem? (i := 80) rfl)) rfl
theorem k1281 : Cond.methodLink "DrawingMachine$Picture" 86 ⟨"DrawingMachine$Picture", "by255", "(I)I"⟩ ∈ tw := tw_of (tb_6 (List.mem_of_getElem? (i := 81) rfl)) rfl
theorem k1282 : Cond.static ⟨"DrawingMachine$Picture", "by255", "(I)I"⟩ ∈ tw := tw_of (tb_6 (List.mem_of_getElem? (i := 82) rfl)) rfl
theorem k1283 : Cond.code ⟨"DrawingMachine$Picture", "by255", "(I)I"⟩ prog_6_method_13_code 1 (Option.some .int) ∈ tw := tw_of (tb_6 (List.mem_of_getElem? (i := 83) rfl)) rfl
theorem k1292 : Cond.methodLink "DrawingMachine" 218 ⟨"DrawingMachine$Picture", "clear", "(IIII)V"⟩ ∈ tw := tw_of (tb_6 (List.mem_of_getElem? (i := 92) rfl)) rfl
theorem k1293 : Cond.instanceMethod ⟨"DrawingMachine$Picture", "clear", "(IIII)V"⟩ ∈ tw := tw_of (tb_6 (List.mem_of_getElem? (i := 93) rfl)) rfl
theorem k1294 : Cond.selects "DrawingMachine$Picture" ⟨"DrawingMachine$Picture", "clear", "(IIII)V"⟩ ⟨"DrawingMachine$Picture", "clear", "(IIII)V"⟩ ∈ tw := tw_of (tb_6 (List.mem_of_getElem? (i := 94) rfl)) rfl
theorem k1295 : Cond.code ⟨"DrawingMachine$Picture", "clear", "(IIII)V"⟩ prog_6_method_4_code 11 none ∈ tw := tw_of (tb_6 (List.mem_of_getElem? (i := 95) rfl)) rfl
theorem k1296 : Cond.methodLink "DrawingMachine" 222 ⟨"DrawingMachine$Told", "keepUniforms", "(II[II)V"⟩ ∈ tw := tw_of (tb_6 (List.mem_of_getElem? (i := 96) rfl)) rfl
theorem k1297 : Cond.instanceMethod ⟨"DrawingMachine$Told", "keepUniforms", "(II[II)V"⟩ ∈ tw := tw_of (tb_6 (List.mem_of_getElem? (i := 97) rfl)) rfl
theorem k1298 : Cond.selects "DrawingMachine$Told" ⟨"DrawingMachine$Told", "keepUniforms", "(II[II)V"⟩ ⟨"DrawingMachine$Told", "keepUniforms", "(II[II)V"⟩ ∈ tw := tw_of (tb_6 (List.mem_of_getElem? (i := 98) rfl)) rfl
theorem k1299 : Cond.code ⟨"DrawingMachine$Told", "keepUniforms", "(II[II)V"⟩ prog_11_method_4_code 5 none ∈ tw := tw_of (tb_6 (List.mem_of_getElem? (i := 99) rfl)) rfl
theorem k1301 : Cond.methodLink "DrawingMachine" 226 ⟨"DrawingMachine", "readProgram", "(II)I"⟩ ∈ tw := tw_of (tb_6 (List.mem_of_getElem? (i := 101) rfl)) rfl
theorem k1303 : Cond.instanceMethod ⟨"DrawingMachine", "readProgram", "(II)I"⟩ ∈ tw := tw_of (tb_6 (List.mem_of_getElem? (i := 103) rfl)) rfl
theorem ks37 : Cond.selects "DrawingMachine" ⟨"DrawingMachine", "readProgram", "(II)I"⟩ ⟨"DrawingMachine", "readProgram", "(II)I"⟩ ∈ tw := tw_sel 37 rfl rfl
theorem k1304 : Cond.code ⟨"DrawingMachine", "readProgram", "(II)I"⟩ prog_1_method_20_code 5 (Option.some .int) ∈ tw := tw_of (tb_6 (List.mem_of_getElem? (i := 104) rfl)) rfl
theorem k1347 : Cond.methodLink "DrawingMachine" 230 ⟨"DrawingMachine$Drawing", "turnQuery", "(IZ)V"⟩ ∈ tw := tw_of (tb_6 (List.mem_of_getElem? (i := 147) rfl)) rfl
theorem k1348 : Cond.instanceMethod ⟨"DrawingMachine$Drawing", "turnQuery", "(IZ)V"⟩ ∈ tw := tw_of (tb_6 (List.mem_of_getElem? (i := 148) rfl)) rfl
theorem k1349 : Cond.selects "DrawingMachine$Drawing" ⟨"DrawingMachine$Drawing", "turnQuery", "(IZ)V"⟩ ⟨"DrawingMachine$Drawing", "turnQuery", "(IZ)V"⟩ ∈ tw := tw_of (tb_6 (List.mem_of_getElem? (i := 149) rfl)) rfl
theorem k1350 : Cond.code ⟨"DrawingMachine$Drawing", "turnQuery", "(IZ)V"⟩ prog_5_method_2_code 3 none ∈ tw := tw_of (tb_6 (List.mem_of_getElem? (i := 150) rfl)) rfl
theorem k1351 : Cond.methodLink "DrawingMachine" 234 ⟨"DrawingMachine", "copyBack", "()V"⟩ ∈ tw := tw_of (tb_6 (List.mem_of_getElem? (i := 151) rfl)) rfl
theorem k1353 : Cond.instanceMethod ⟨"DrawingMachine", "copyBack", "()V"⟩ ∈ tw := tw_of (tb_6 (List.mem_of_getElem? (i := 153) rfl)) rfl
theorem ks42 : Cond.selects "DrawingMachine" ⟨"DrawingMachine", "copyBack", "()V"⟩ ⟨"DrawingMachine", "copyBack", "()V"⟩ ∈ tw := tw_sel 42 rfl rfl
theorem k1354 : Cond.code ⟨"DrawingMachine", "copyBack", "()V"⟩ prog_1_method_21_code 5 none ∈ tw := tw_of (tb_6 (List.mem_of_getElem? (i := 154) rfl)) rfl
theorem k1359 : Cond.methodLink "DrawingMachine" 237 ⟨"DrawingMachine$Course", "putWords", "(II)V"⟩ ∈ tw := tw_of (tb_6 (List.mem_of_getElem? (i := 159) rfl)) rfl
theorem k1360 : Cond.instanceMethod ⟨"DrawingMachine$Course", "putWords", "(II)V"⟩ ∈ tw := tw_of (tb_6 (List.mem_of_getElem? (i := 160) rfl)) rfl
theorem k1361 : Cond.selects "DrawingMachine$Course" ⟨"DrawingMachine$Course", "putWords", "(II)V"⟩ ⟨"DrawingMachine$Course", "putWords", "(II)V"⟩ ∈ tw := tw_of (tb_6 (List.mem_of_getElem? (i := 161) rfl)) rfl
theorem k1362 : Cond.code ⟨"DrawingMachine$Course", "putWords", "(II)V"⟩ prog_3_method_9_code 3 none ∈ tw := tw_of (tb_6 (List.mem_of_getElem? (i := 162) rfl)) rfl
theorem k1363 : Cond.methodLink "DrawingMachine" 240 ⟨"DrawingMachine$Told", "keep", "(I[I)V"⟩ ∈ tw := tw_of (tb_6 (List.mem_of_getElem? (i := 163) rfl)) rfl
theorem k1364 : Cond.instanceMethod ⟨"DrawingMachine$Told", "keep", "(I[I)V"⟩ ∈ tw := tw_of (tb_6 (List.mem_of_getElem? (i := 164) rfl)) rfl
theorem k1365 : Cond.selects "DrawingMachine$Told" ⟨"DrawingMachine$Told", "keep", "(I[I)V"⟩ ⟨"DrawingMachine$Told", "keep", "(I[I)V"⟩ ∈ tw := tw_of (tb_6 (List.mem_of_getElem? (i := 165) rfl)) rfl
theorem k1366 : Cond.code ⟨"DrawingMachine$Told", "keep", "(I[I)V"⟩ prog_11_method_3_code 6 none ∈ tw := tw_of (tb_6 (List.mem_of_getElem? (i := 166) rfl)) rfl
theorem k1300 : Cond.methodLink "DrawingMachine$Told" 34 ⟨"java/lang/System", "arraycopy", "(Ljava/lang/Object;ILjava/lang/Object;II)V"⟩ ∈ tw := tw_of (tb_6 (List.mem_of_getElem? (i := 100) rfl)) rfl
theorem k413 : Cond.fieldLink "DrawingMachine" 244 "DrawingMachine$Program" "words" "[I" ∈ tw := tw_of (tb_2 (List.mem_of_getElem? (i := 173) rfl)) rfl
theorem k1305 : Cond.methodLink "DrawingMachine" 246 ⟨"java/lang/System", "arraycopy", "(Ljava/lang/Object;ILjava/lang/Object;II)V"⟩ ∈ tw := tw_of (tb_6 (List.mem_of_getElem? (i := 105) rfl)) rfl
theorem k1306 : Cond.methodLink "DrawingMachine" 252 ⟨"DrawingMachine$Checker", "check", "(LDrawingMachine$Program;Z)V"⟩ ∈ tw := tw_of (tb_6 (List.mem_of_getElem? (i := 106) rfl)) rfl
theorem k1307 : Cond.instanceMethod ⟨"DrawingMachine$Checker", "check", "(LDrawingMachine$Program;Z)V"⟩ ∈ tw := tw_of (tb_6 (List.mem_of_getElem? (i := 107) rfl)) rfl
theorem k1308 : Cond.selects "DrawingMachine$Checker" ⟨"DrawingMachine$Checker", "check", "(LDrawingMachine$Program;Z)V"⟩ ⟨"DrawingMachine$Checker", "check", "(LDrawingMachine$Program;Z)V"⟩ ∈ tw := tw_of (tb_6 (List.mem_of_getElem? (i := 108) rfl)) rfl
theorem k1309 : Cond.code ⟨"DrawingMachine$Checker", "check", "(LDrawingMachine$Program;Z)V"⟩ prog_2_method_2_code 4 none ∈ tw := tw_of (tb_6 (List.mem_of_getElem? (i := 109) rfl)) rfl
theorem k175 : Cond.fieldLink "DrawingMachine" 161 "DrawingMachine$Checker" "fault" "I" ∈ tw := tw_of (tb_1 (List.mem_of_getElem? (i := 175) rfl)) rfl
theorem k174 : Cond.fieldLink "DrawingMachine$Checker" 26 "DrawingMachine$Checker" "fault" "I" ∈ tw := tw_of (tb_1 (List.mem_of_getElem? (i := 174) rfl)) rfl
theorem k181 : Cond.fieldLink "DrawingMachine$Checker" 29 "DrawingMachine$Checker" "depth" "I" ∈ tw := tw_of (tb_1 (List.mem_of_getElem? (i := 181) rfl)) rfl
theorem k182 : Cond.fieldLink "DrawingMachine$Checker" 32 "DrawingMachine$Checker" "steps" "J" ∈ tw := tw_of (tb_1 (List.mem_of_getElem? (i := 182) rfl)) rfl
theorem k420 : Cond.fieldLink "DrawingMachine$Checker" 36 "DrawingMachine$Program" "reads" "I" ∈ tw := tw_of (tb_2 (List.mem_of_getElem? (i := 180) rfl)) rfl
theorem k414 : Cond.fieldLink "DrawingMachine$Checker" 41 "DrawingMachine$Program" "many" "I" ∈ tw := tw_of (tb_2 (List.mem_of_getElem? (i := 174) rfl)) rfl
theorem k1310 : Cond.methodLink "DrawingMachine$Checker" 44 ⟨"DrawingMachine$Checker", "faultAt", "(LDrawingMachine$Program;IZ)I"⟩ ∈ tw := tw_of (tb_6 (List.mem_of_getElem? (i := 110) rfl)) rfl
theorem k1312 : Cond.instanceMethod ⟨"DrawingMachine$Checker", "faultAt", "(LDrawingMachine$Program;IZ)I"⟩ ∈ tw := tw_of (tb_6 (List.mem_of_getElem? (i := 112) rfl)) rfl
theorem ks38 : Cond.selects "DrawingMachine$Checker" ⟨"DrawingMachine$Checker", "faultAt", "(LDrawingMachine$Program;IZ)I"⟩ ⟨"DrawingMachine$Checker", "faultAt", "(LDrawingMachine$Program;IZ)I"⟩ ∈ tw := tw_sel 38 rfl rfl
theorem k1313 : Cond.code ⟨"DrawingMachine$Checker", "faultAt", "(LDrawingMachine$Program;IZ)I"⟩ prog_2_method_4_code 6 (Option.some .int) ∈ tw := tw_of (tb_6 (List.mem_of_getElem? (i := 113) rfl)) rfl
theorem k1331 : Cond.methodLink "DrawingMachine$Checker" 48 ⟨"DrawingMachine$Checker", "tell", "(II)V"⟩ ∈ tw := tw_of (tb_6 (List.mem_of_getElem? (i := 131) rfl)) rfl
theorem k1333 : Cond.instanceMethod ⟨"DrawingMachine$Checker", "tell", "(II)V"⟩ ∈ tw := tw_of (tb_6 (List.mem_of_getElem? (i := 133) rfl)) rfl
theorem ks39 : Cond.selects "DrawingMachine$Checker" ⟨"DrawingMachine$Checker", "tell", "(II)V"⟩ ⟨"DrawingMachine$Checker", "tell", "(II)V"⟩ ∈ tw := tw_sel 39 rfl rfl
theorem k1334 : Cond.code ⟨"DrawingMachine$Checker", "tell", "(II)V"⟩ prog_2_method_3_code 3 none ∈ tw := tw_of (tb_6 (List.mem_of_getElem? (i := 134) rfl)) rfl
theorem k1335 : Cond.methodLink "DrawingMachine$Checker" 52 ⟨"DrawingMachine$Checker", "pass", "(LDrawingMachine$Program;I)V"⟩ ∈ tw := tw_of (tb_6 (List.mem_of_getElem? (i := 135) rfl)) rfl
theorem k1337 : Cond.instanceMethod ⟨"DrawingMachine$Checker", "pass", "(LDrawingMachine$Program;I)V"⟩ ∈ tw := tw_of (tb_6 (List.mem_of_getElem? (i := 137) rfl)) rfl
theorem ks40 : Cond.selects "DrawingMachine$Checker" ⟨"DrawingMachine$Checker", "pass", "(LDrawingMachine$Program;I)V"⟩ ⟨"DrawingMachine$Checker", "pass", "(LDrawingMachine$Program;I)V"⟩ ∈ tw := tw_sel 40 rfl rfl
theorem k1338 : Cond.code ⟨"DrawingMachine$Checker", "pass", "(LDrawingMachine$Program;I)V"⟩ prog_2_method_10_code 6 none ∈ tw := tw_of (tb_6 (List.mem_of_getElem? (i := 138) rfl)) rfl
theorem k1342 : Cond.methodLink "DrawingMachine$Checker" 56 ⟨"DrawingMachine$Checker", "leavesLoop", "(LDrawingMachine$Program;I)Z"⟩ ∈ tw := tw_of (tb_6 (List.mem_of_getElem? (i := 142) rfl)) rfl
theorem k1344 : Cond.instanceMethod ⟨"DrawingMachine$Checker", "leavesLoop", "(LDrawingMachine$Program;I)Z"⟩ ∈ tw := tw_of (tb_6 (List.mem_of_getElem? (i := 144) rfl)) rfl
theorem ks41 : Cond.selects "DrawingMachine$Checker" ⟨"DrawingMachine$Checker", "leavesLoop", "(LDrawingMachine$Program;I)Z"⟩ ⟨"DrawingMachine$Checker", "leavesLoop", "(LDrawingMachine$Program;I)Z"⟩ ∈ tw := tw_sel 41 rfl rfl
theorem k1345 : Cond.code ⟨"DrawingMachine$Checker", "leavesLoop", "(LDrawingMachine$Program;I)Z"⟩ prog_2_method_12_code 5 (Option.some .boolean) ∈ tw := tw_of (tb_6 (List.mem_of_getElem? (i := 145) rfl)) rfl
theorem k1346 : Cond.constantLong "DrawingMachine$Checker" 60 (65536 : Int64) ∈ tw := tw_of (tb_6 (List.mem_of_getElem? (i := 146) rfl)) rfl
theorem k417 : Cond.fieldLink "DrawingMachine$Checker" 62 "DrawingMachine$Program" "steps" "I" ∈ tw := tw_of (tb_2 (List.mem_of_getElem? (i := 177) rfl)) rfl
theorem k412 : Cond.fieldLink "DrawingMachine$Checker" 64 "DrawingMachine$Program" "words" "[I" ∈ tw := tw_of (tb_2 (List.mem_of_getElem? (i := 172) rfl)) rfl
theorem k1314 : Cond.methodLink "DrawingMachine$Checker" 67 ⟨"DrawingMachine$Checker", "hasTarget", "(I)Z"⟩ ∈ tw := tw_of (tb_6 (List.mem_of_getElem? (i := 114) rfl)) rfl
theorem k1315 : Cond.static ⟨"DrawingMachine$Checker", "hasTarget", "(I)Z"⟩ ∈ tw := tw_of (tb_6 (List.mem_of_getElem? (i := 115) rfl)) rfl
theorem k1316 : Cond.code ⟨"DrawingMachine$Checker", "hasTarget", "(I)Z"⟩ prog_2_method_5_code 1 (Option.some .boolean) ∈ tw := tw_of (tb_6 (List.mem_of_getElem? (i := 116) rfl)) rfl
theorem k1317 : Cond.methodLink "DrawingMachine$Checker" 71 ⟨"DrawingMachine$Checker", "targetMayBe", "(I)Z"⟩ ∈ tw := tw_of (tb_6 (List.mem_of_getElem? (i := 117) rfl)) rfl
theorem k1318 : Cond.static ⟨"DrawingMachine$Checker", "targetMayBe", "(I)Z"⟩ ∈ tw := tw_of (tb_6 (List.mem_of_getElem? (i := 118) rfl)) rfl
theorem k1319 : Cond.code ⟨"DrawingMachine$Checker", "targetMayBe", "(I)Z"⟩ prog_2_method_6_code 4 (Option.some .boolean) ∈ tw := tw_of (tb_6 (List.mem_of_getElem? (i := 119) rfl)) rfl
theorem k1321 : Cond.methodLink "DrawingMachine$Checker" 77 ⟨"DrawingMachine$Checker", "sourcesMayBe", "(III)Z"⟩ ∈ tw := tw_of (tb_6 (List.mem_of_getElem? (i := 121) rfl)) rfl
theorem k1322 : Cond.static ⟨"DrawingMachine$Checker", "sourcesMayBe", "(III)Z"⟩ ∈ tw := tw_of (tb_6 (List.mem_of_getElem? (i := 122) rfl)) rfl
theorem k1323 : Cond.code ⟨"DrawingMachine$Checker", "sourcesMayBe", "(III)Z"⟩ prog_2_method_7_code 3 (Option.some .boolean) ∈ tw := tw_of (tb_6 (List.mem_of_getElem? (i := 123) rfl)) rfl
theorem k1328 : Cond.methodLink "DrawingMachine$Checker" 81 ⟨"DrawingMachine$Checker", "numberMayBe", "(IIII)Z"⟩ ∈ tw := tw_of (tb_6 (List.mem_of_getElem? (i := 128) rfl)) rfl
theorem k1329 : Cond.static ⟨"DrawingMachine$Checker", "numberMayBe", "(IIII)Z"⟩ ∈ tw := tw_of (tb_6 (List.mem_of_getElem? (i := 129) rfl)) rfl
theorem k1330 : Cond.code ⟨"DrawingMachine$Checker", "numberMayBe", "(IIII)Z"⟩ prog_2_method_9_code 4 (Option.some .boolean) ∈ tw := tw_of (tb_6 (List.mem_of_getElem? (i := 130) rfl)) rfl
theorem k1324 : Cond.constant "DrawingMachine$Checker" 85 (65535 : Int32) ∈ tw := tw_of (tb_6 (List.mem_of_getElem? (i := 124) rfl)) rfl
theorem k1325 : Cond.methodLink "DrawingMachine$Checker" 86 ⟨"DrawingMachine$Checker", "sourceMayBe", "(ZI)Z"⟩ ∈ tw := tw_of (tb_6 (List.mem_of_getElem? (i := 125) rfl)) rfl
theorem k1326 : Cond.static ⟨"DrawingMachine$Checker", "sourceMayBe", "(ZI)Z"⟩ ∈ tw := tw_of (tb_6 (List.mem_of_getElem? (i := 126) rfl)) rfl
theorem k1327 : Cond.code ⟨"DrawingMachine$Checker", "sourceMayBe", "(ZI)Z"⟩ prog_2_method_8_code 3 (Option.some .boolean) ∈ tw := tw_of (tb_6 (List.mem_of_getElem? (i := 127) rfl)) rfl
theorem k1339 : Cond.methodLink "DrawingMachine$Checker" 90 ⟨"DrawingMachine$Checker", "readBy", "(I)I"⟩ ∈ tw := tw_of (tb_6 (List.mem_of_getElem? (i := 139) rfl)) rfl
theorem k1340 : Cond.static ⟨"DrawingMachine$Checker", "readBy", "(I)I"⟩ ∈ tw := tw_of (tb_6 (List.mem_of_getElem? (i := 140) rfl)) rfl
theorem k1341 : Cond.code ⟨"DrawingMachine$Checker", "readBy", "(I)I"⟩ prog_2_method_11_code 1 (Option.some .int) ∈ tw := tw_of (tb_6 (List.mem_of_getElem? (i := 141) rfl)) rfl
theorem k1355 : Cond.methodLink "DrawingMachine" 179 ⟨"DrawingMachine$Picture", "rowOf", "(I)[I"⟩ ∈ tw := tw_of (tb_6 (List.mem_of_getElem? (i := 155) rfl)) rfl
theorem k1356 : Cond.instanceMethod ⟨"DrawingMachine$Picture", "rowOf", "(I)[I"⟩ ∈ tw := tw_of (tb_6 (List.mem_of_getElem? (i := 156) rfl)) rfl
theorem k1357 : Cond.selects "DrawingMachine$Picture" ⟨"DrawingMachine$Picture", "rowOf", "(I)[I"⟩ ⟨"DrawingMachine$Picture", "rowOf", "(I)[I"⟩ ∈ tw := tw_of (tb_6 (List.mem_of_getElem? (i := 157) rfl)) rfl
theorem k1358 : Cond.code ⟨"DrawingMachine$Picture", "rowOf", "(I)[I"⟩ prog_6_method_3_code 2 (Option.some (.array .int)) ∈ tw := tw_of (tb_6 (List.mem_of_getElem? (i := 158) rfl)) rfl
theorem k1378 : Cond.codeWith ⟨"DrawingMachineLaw", "about", "(LDrawingMachine;I[J)I"⟩ method_9_code 4 (Option.some .int) [(0, 9, 12, 13)] ∈ tw := tw_of (tb_6 (List.mem_of_getElem? (i := 178) rfl)) rfl
theorem k1379 : Cond.methodLink "DrawingMachineLaw" 40 ⟨"DrawingMachine", "about", "(I)I"⟩ ∈ tw := tw_of (tb_6 (List.mem_of_getElem? (i := 179) rfl)) rfl
theorem k1380 : Cond.instanceMethod ⟨"DrawingMachine", "about", "(I)I"⟩ ∈ tw := tw_of (tb_6 (List.mem_of_getElem? (i := 180) rfl)) rfl
theorem k1381 : Cond.selects "DrawingMachine" ⟨"DrawingMachine", "about", "(I)I"⟩ ⟨"DrawingMachine", "about", "(I)I"⟩ ∈ tw := tw_of (tb_6 (List.mem_of_getElem? (i := 181) rfl)) rfl
theorem k1382 : Cond.code ⟨"DrawingMachine", "about", "(I)I"⟩ prog_1_method_9_code 2 (Option.some .int) ∈ tw := tw_of (tb_6 (List.mem_of_getElem? (i := 182) rfl)) rfl
theorem k123 : Cond.fieldLink "DrawingMachine" 149 "DrawingMachine$Course" "refused" "I" ∈ tw := tw_of (tb_1 (List.mem_of_getElem? (i := 123) rfl)) rfl
theorem k125 : Cond.fieldLink "DrawingMachine" 152 "DrawingMachine$Course" "lastPlace" "I" ∈ tw := tw_of (tb_1 (List.mem_of_getElem? (i := 125) rfl)) rfl
theorem k127 : Cond.fieldLink "DrawingMachine" 155 "DrawingMachine$Course" "lastDepth" "I" ∈ tw := tw_of (tb_1 (List.mem_of_getElem? (i := 127) rfl)) rfl
theorem k177 : Cond.fieldLink "DrawingMachine" 164 "DrawingMachine$Checker" "place" "I" ∈ tw := tw_of (tb_1 (List.mem_of_getElem? (i := 177) rfl)) rfl
theorem k1386 : Cond.codeWith ⟨"DrawingMachineLaw", "at", "(LDrawingMachine;III[J)I"⟩ method_10_code 6 (Option.some .int) [(0, 12, 15, 13), (0, 12, 19, 19)] ∈ tw := tw_of (tb_6 (List.mem_of_getElem? (i := 186) rfl)) rfl
theorem k1387 : Cond.methodLink "DrawingMachineLaw" 43 ⟨"DrawingMachine", "at", "(III)I"⟩ ∈ tw := tw_of (tb_6 (List.mem_of_getElem? (i := 187) rfl)) rfl
theorem k1388 : Cond.instanceMethod ⟨"DrawingMachine", "at", "(III)I"⟩ ∈ tw := tw_of (tb_6 (List.mem_of_getElem? (i := 188) rfl)) rfl
theorem k1389 : Cond.selects "DrawingMachine" ⟨"DrawingMachine", "at", "(III)I"⟩ ⟨"DrawingMachine", "at", "(III)I"⟩ ∈ tw := tw_of (tb_6 (List.mem_of_getElem? (i := 189) rfl)) rfl
theorem k1390 : Cond.code ⟨"DrawingMachine", "at", "(III)I"⟩ prog_1_method_10_code 4 (Option.some .int) ∈ tw := tw_of (tb_6 (List.mem_of_getElem? (i := 190) rfl)) rfl
theorem k1395 : Cond.codeWith ⟨"DrawingMachineLaw", "sum", "(LDrawingMachine;I[J)I"⟩ method_11_code 4 (Option.some .int) [(0, 9, 12, 13)] ∈ tw := tw_of (tb_6 (List.mem_of_getElem? (i := 195) rfl)) rfl
theorem k1396 : Cond.methodLink "DrawingMachineLaw" 46 ⟨"DrawingMachine", "sum", "(I)I"⟩ ∈ tw := tw_of (tb_6 (List.mem_of_getElem? (i := 196) rfl)) rfl
theorem k1397 : Cond.instanceMethod ⟨"DrawingMachine", "sum", "(I)I"⟩ ∈ tw := tw_of (tb_6 (List.mem_of_getElem? (i := 197) rfl)) rfl
theorem k1398 : Cond.selects "DrawingMachine" ⟨"DrawingMachine", "sum", "(I)I"⟩ ⟨"DrawingMachine", "sum", "(I)I"⟩ ∈ tw := tw_of (tb_6 (List.mem_of_getElem? (i := 198) rfl)) rfl
theorem k1399 : Cond.code ⟨"DrawingMachine", "sum", "(I)I"⟩ prog_1_method_11_code 6 (Option.some .int) ∈ tw := tw_of (tb_6 (List.mem_of_getElem? (i := 199) rfl)) rfl
theorem k1403 : Cond.codeWith ⟨"DrawingMachineLaw", "query", "(LDrawingMachine;I[J)I"⟩ method_12_code 4 (Option.some .int) [(0, 9, 12, 13)] ∈ tw := tw_of (tb_6 (List.mem_of_getElem? (i := 203) rfl)) rfl
theorem k1404 : Cond.methodLink "DrawingMachineLaw" 49 ⟨"DrawingMachine", "query", "(I)I"⟩ ∈ tw := tw_of (tb_6 (List.mem_of_getElem? (i := 204) rfl)) rfl
theorem k1405 : Cond.instanceMethod ⟨"DrawingMachine", "query", "(I)I"⟩ ∈ tw := tw_of (tb_6 (List.mem_of_getElem? (i := 205) rfl)) rfl
theorem k1406 : Cond.selects "DrawingMachine" ⟨"DrawingMachine", "query", "(I)I"⟩ ⟨"DrawingMachine", "query", "(I)I"⟩ ∈ tw := tw_of (tb_6 (List.mem_of_getElem? (i := 206) rfl)) rfl
theorem k1407 : Cond.code ⟨"DrawingMachine", "query", "(I)I"⟩ prog_1_method_12_code 2 (Option.some .int) ∈ tw := tw_of (tb_6 (List.mem_of_getElem? (i := 207) rfl)) rfl
theorem k376 : Cond.fieldLink "DrawingMachine" 187 "DrawingMachine$Drawing" "queries" "[I" ∈ tw := tw_of (tb_2 (List.mem_of_getElem? (i := 136) rfl)) rfl
theorem k1411 : Cond.codeWith ⟨"DrawingMachineLaw", "count", "(LDrawingMachine;I[J)I"⟩ method_13_code 4 (Option.some .int) [(0, 9, 12, 13)] ∈ tw := tw_of (tb_6 (List.mem_of_getElem? (i := 211) rfl)) rfl
theorem k1412 : Cond.methodLink "DrawingMachineLaw" 52 ⟨"DrawingMachine", "count", "(I)I"⟩ ∈ tw := tw_of (tb_6 (List.mem_of_getElem? (i := 212) rfl)) rfl
theorem k1413 : Cond.instanceMethod ⟨"DrawingMachine", "count", "(I)I"⟩ ∈ tw := tw_of (tb_6 (List.mem_of_getElem? (i := 213) rfl)) rfl
theorem k1414 : Cond.selects "DrawingMachine" ⟨"DrawingMachine", "count", "(I)I"⟩ ⟨"DrawingMachine", "count", "(I)I"⟩ ∈ tw := tw_of (tb_6 (List.mem_of_getElem? (i := 214) rfl)) rfl
theorem k1415 : Cond.code ⟨"DrawingMachine", "count", "(I)I"⟩ prog_1_method_13_code 2 (Option.some .int) ∈ tw := tw_of (tb_6 (List.mem_of_getElem? (i := 215) rfl)) rfl
theorem k374 : Cond.fieldLink "DrawingMachine" 192 "DrawingMachine$Drawing" "counts" "[I" ∈ tw := tw_of (tb_2 (List.mem_of_getElem? (i := 134) rfl)) rfl
theorem k1421 : Cond.code ⟨"DrawingMachineModel", "<init>", "()V"⟩ prog_14_method_1_code 1 none ∈ tw := tw_of (tb_6 (List.mem_of_getElem? (i := 221) rfl)) rfl
theorem k1422 : Cond.methodLink "DrawingMachineModel" 1 ⟨"java/lang/Object", "<init>", "()V"⟩ ∈ tw := tw_of (tb_6 (List.mem_of_getElem? (i := 222) rfl)) rfl
theorem k1766 : Cond.fieldLink "DrawingMachineModel" 7 "DrawingMachineModel" "wide" "I" ∈ tw := tw_of (tb_8 (List.mem_of_getElem? (i := 86) rfl)) rfl
theorem k1767 : Cond.fieldLink "DrawingMachineModel" 13 "DrawingMachineModel" "high" "I" ∈ tw := tw_of (tb_8 (List.mem_of_getElem? (i := 87) rfl)) rfl
theorem k1423 : Cond.classLink "DrawingMachineModel" 16 "DrawingMachineModel$DrawCommandsModel" ∈ tw := tw_of (tb_6 (List.mem_of_getElem? (i := 223) rfl)) rfl
theorem k1425 : Cond.methodLink "DrawingMachineModel" 18 ⟨"DrawingMachineModel$DrawCommandsModel", "<init>", "()V"⟩ ∈ tw := tw_of (tb_6 (List.mem_of_getElem? (i := 225) rfl)) rfl
theorem k15 : Cond.initialized "DrawingMachineModel$DrawCommandsModel" ∈ tw := tw_of (tb_1 (List.mem_of_getElem? (i := 15) rfl)) rfl
theorem k1426 : Cond.instanceMethod ⟨"DrawingMachineModel$DrawCommandsModel", "<init>", "()V"⟩ ∈ tw := tw_of (tb_6 (List.mem_of_getElem? (i := 226) rfl)) rfl
theorem k1427 : Cond.code ⟨"DrawingMachineModel$DrawCommandsModel", "<init>", "()V"⟩ prog_15_method_1_code 1 none ∈ tw := tw_of (tb_6 (List.mem_of_getElem? (i := 227) rfl)) rfl
theorem k1768 : Cond.fieldLink "DrawingMachineModel" 19 "DrawingMachineModel" "commands" "LDrawingMachineModel$DrawCommandsModel;" ∈ tw := tw_of (tb_8 (List.mem_of_getElem? (i := 88) rfl)) rfl
theorem k1507 : Cond.classLink "DrawingMachineModel" 23 "DrawingMachineModel$TextureUnitsModel" ∈ tw := tw_of (tb_7 (List.mem_of_getElem? (i := 67) rfl)) rfl
theorem k1509 : Cond.methodLink "DrawingMachineModel" 29 ⟨"DrawingMachineModel$TextureUnitsModel", "<init>", "([I)V"⟩ ∈ tw := tw_of (tb_7 (List.mem_of_getElem? (i := 69) rfl)) rfl
theorem k16 : Cond.initialized "DrawingMachineModel$TextureUnitsModel" ∈ tw := tw_of (tb_1 (List.mem_of_getElem? (i := 16) rfl)) rfl
theorem k1510 : Cond.instanceMethod ⟨"DrawingMachineModel$TextureUnitsModel", "<init>", "([I)V"⟩ ∈ tw := tw_of (tb_7 (List.mem_of_getElem? (i := 70) rfl)) rfl
theorem k1511 : Cond.code ⟨"DrawingMachineModel$TextureUnitsModel", "<init>", "([I)V"⟩ prog_19_method_1_code 3 none ∈ tw := tw_of (tb_7 (List.mem_of_getElem? (i := 71) rfl)) rfl
theorem k1769 : Cond.fieldLink "DrawingMachineModel" 32 "DrawingMachineModel" "units" "LDrawingMachineModel$TextureUnitsModel;" ∈ tw := tw_of (tb_8 (List.mem_of_getElem? (i := 89) rfl)) rfl
theorem k1547 : Cond.classLink "DrawingMachineModel" 36 "DrawingMachineModel$ShaderMachineModel" ∈ tw := tw_of (tb_7 (List.mem_of_getElem? (i := 107) rfl)) rfl
theorem k1549 : Cond.methodLink "DrawingMachineModel" 38 ⟨"DrawingMachineModel$ShaderMachineModel", "<init>", "([ILDrawingMachineModel$TextureUnitsModel;)V"⟩ ∈ tw := tw_of (tb_7 (List.mem_of_getElem? (i := 109) rfl)) rfl
theorem k17 : Cond.initialized "DrawingMachineModel$ShaderMachineModel" ∈ tw := tw_of (tb_1 (List.mem_of_getElem? (i := 17) rfl)) rfl
theorem k1550 : Cond.instanceMethod ⟨"DrawingMachineModel$ShaderMachineModel", "<init>", "([ILDrawingMachineModel$TextureUnitsModel;)V"⟩ ∈ tw := tw_of (tb_7 (List.mem_of_getElem? (i := 110) rfl)) rfl
theorem k1551 : Cond.code ⟨"DrawingMachineModel$ShaderMachineModel", "<init>", "([ILDrawingMachineModel$TextureUnitsModel;)V"⟩ prog_18_method_1_code 3 none ∈ tw := tw_of (tb_7 (List.mem_of_getElem? (i := 111) rfl)) rfl
theorem k1770 : Cond.fieldLink "DrawingMachineModel" 41 "DrawingMachineModel" "corners" "LDrawingMachineModel$ShaderMachineModel;" ∈ tw := tw_of (tb_8 (List.mem_of_getElem? (i := 90) rfl)) rfl
theorem k1771 : Cond.fieldLink "DrawingMachineModel" 45 "DrawingMachineModel" "places" "LDrawingMachineModel$ShaderMachineModel;" ∈ tw := tw_of (tb_8 (List.mem_of_getElem? (i := 91) rfl)) rfl
theorem k1614 : Cond.classLink "DrawingMachineModel" 48 "DrawingMachineModel$VertexWorkModel" ∈ tw := tw_of (tb_7 (List.mem_of_getElem? (i := 174) rfl)) rfl
theorem k1616 : Cond.methodLink "DrawingMachineModel" 50 ⟨"DrawingMachineModel$VertexWorkModel", "<init>", "([I)V"⟩ ∈ tw := tw_of (tb_7 (List.mem_of_getElem? (i := 176) rfl)) rfl
theorem k18 : Cond.initialized "DrawingMachineModel$VertexWorkModel" ∈ tw := tw_of (tb_1 (List.mem_of_getElem? (i := 18) rfl)) rfl
theorem k1617 : Cond.instanceMethod ⟨"DrawingMachineModel$VertexWorkModel", "<init>", "([I)V"⟩ ∈ tw := tw_of (tb_7 (List.mem_of_getElem? (i := 177) rfl)) rfl
theorem k1618 : Cond.code ⟨"DrawingMachineModel$VertexWorkModel", "<init>", "([I)V"⟩ prog_20_method_1_code 2 none ∈ tw := tw_of (tb_7 (List.mem_of_getElem? (i := 178) rfl)) rfl
theorem k1772 : Cond.fieldLink "DrawingMachineModel" 51 "DrawingMachineModel" "vertices" "LDrawingMachineModel$VertexWorkModel;" ∈ tw := tw_of (tb_8 (List.mem_of_getElem? (i := 92) rfl)) rfl
theorem k1661 : Cond.classLink "DrawingMachineModel" 55 "DrawingMachineModel$EdgeRasterModel" ∈ tw := tw_of (tb_7 (List.mem_of_getElem? (i := 221) rfl)) rfl
theorem k1663 : Cond.methodLink "DrawingMachineModel" 57 ⟨"DrawingMachineModel$EdgeRasterModel", "<init>", "()V"⟩ ∈ tw := tw_of (tb_7 (List.mem_of_getElem? (i := 223) rfl)) rfl
theorem k19 : Cond.initialized "DrawingMachineModel$EdgeRasterModel" ∈ tw := tw_of (tb_1 (List.mem_of_getElem? (i := 19) rfl)) rfl
theorem k1664 : Cond.instanceMethod ⟨"DrawingMachineModel$EdgeRasterModel", "<init>", "()V"⟩ ∈ tw := tw_of (tb_7 (List.mem_of_getElem? (i := 224) rfl)) rfl
theorem k1665 : Cond.code ⟨"DrawingMachineModel$EdgeRasterModel", "<init>", "()V"⟩ prog_16_method_1_code 2 none ∈ tw := tw_of (tb_7 (List.mem_of_getElem? (i := 225) rfl)) rfl
theorem k1773 : Cond.fieldLink "DrawingMachineModel" 58 "DrawingMachineModel" "raster" "LDrawingMachineModel$EdgeRasterModel;" ∈ tw := tw_of (tb_8 (List.mem_of_getElem? (i := 93) rfl)) rfl
theorem k1691 : Cond.classLink "DrawingMachineModel" 62 "DrawingMachineModel$PlaceTestsModel" ∈ tw := tw_of (tb_8 (List.mem_of_getElem? (i := 11) rfl)) rfl
theorem k1693 : Cond.methodLink "DrawingMachineModel" 64 ⟨"DrawingMachineModel$PlaceTestsModel", "<init>", "()V"⟩ ∈ tw := tw_of (tb_8 (List.mem_of_getElem? (i := 13) rfl)) rfl
theorem k20 : Cond.initialized "DrawingMachineModel$PlaceTestsModel" ∈ tw := tw_of (tb_1 (List.mem_of_getElem? (i := 20) rfl)) rfl
theorem k1694 : Cond.instanceMethod ⟨"DrawingMachineModel$PlaceTestsModel", "<init>", "()V"⟩ ∈ tw := tw_of (tb_8 (List.mem_of_getElem? (i := 14) rfl)) rfl
theorem k1695 : Cond.code ⟨"DrawingMachineModel$PlaceTestsModel", "<init>", "()V"⟩ prog_17_method_1_code 1 none ∈ tw := tw_of (tb_8 (List.mem_of_getElem? (i := 15) rfl)) rfl
theorem k1774 : Cond.fieldLink "DrawingMachineModel" 65 "DrawingMachineModel" "tests" "LDrawingMachineModel$PlaceTestsModel;" ∈ tw := tw_of (tb_8 (List.mem_of_getElem? (i := 94) rfl)) rfl
theorem k1776 : Cond.fieldLink "DrawingMachineModel" 69 "DrawingMachineModel" "faultPlace" "I" ∈ tw := tw_of (tb_8 (List.mem_of_getElem? (i := 96) rfl)) rfl
theorem k1780 : Cond.fieldLink "DrawingMachineModel" 72 "DrawingMachineModel" "queries" "[I" ∈ tw := tw_of (tb_8 (List.mem_of_getElem? (i := 100) rfl)) rfl
theorem k1781 : Cond.fieldLink "DrawingMachineModel" 75 "DrawingMachineModel" "counts" "[I" ∈ tw := tw_of (tb_8 (List.mem_of_getElem? (i := 101) rfl)) rfl
theorem k1782 : Cond.fieldLink "DrawingMachineModel" 78 "DrawingMachineModel" "before" "[I" ∈ tw := tw_of (tb_8 (List.mem_of_getElem? (i := 102) rfl)) rfl
theorem k1783 : Cond.fieldLink "DrawingMachineModel" 81 "DrawingMachineModel" "shares" "[J" ∈ tw := tw_of (tb_8 (List.mem_of_getElem? (i := 103) rfl)) rfl
theorem k1428 : Cond.methodLink "DrawingMachineModel$DrawCommandsModel" 1 ⟨"java/lang/Object", "<init>", "()V"⟩ ∈ tw := tw_of (tb_6 (List.mem_of_getElem? (i := 228) rfl)) rfl
theorem k1444 : Cond.fieldLink "DrawingMachineModel$DrawCommandsModel" 7 "DrawingMachineModel$DrawCommandsModel" "memory" "[I" ∈ tw := tw_of (tb_7 (List.mem_of_getElem? (i := 4) rfl)) rfl
theorem k1446 : Cond.fieldLink "DrawingMachineModel$DrawCommandsModel" 13 "DrawingMachineModel$DrawCommandsModel" "wide" "I" ∈ tw := tw_of (tb_7 (List.mem_of_getElem? (i := 6) rfl)) rfl
theorem k1447 : Cond.fieldLink "DrawingMachineModel$DrawCommandsModel" 17 "DrawingMachineModel$DrawCommandsModel" "high" "I" ∈ tw := tw_of (tb_7 (List.mem_of_getElem? (i := 7) rfl)) rfl
theorem k1448 : Cond.fieldLink "DrawingMachineModel$DrawCommandsModel" 20 "DrawingMachineModel$DrawCommandsModel" "stream" "[I" ∈ tw := tw_of (tb_7 (List.mem_of_getElem? (i := 8) rfl)) rfl
theorem k1453 : Cond.fieldLink "DrawingMachineModel$DrawCommandsModel" 23 "DrawingMachineModel$DrawCommandsModel" "back" "[I" ∈ tw := tw_of (tb_7 (List.mem_of_getElem? (i := 13) rfl)) rfl
theorem k1458 : Cond.fieldLink "DrawingMachineModel$DrawCommandsModel" 26 "DrawingMachineModel$DrawCommandsModel" "place" "I" ∈ tw := tw_of (tb_7 (List.mem_of_getElem? (i := 18) rfl)) rfl
theorem k1459 : Cond.fieldLink "DrawingMachineModel$DrawCommandsModel" 29 "DrawingMachineModel$DrawCommandsModel" "deep" "I" ∈ tw := tw_of (tb_7 (List.mem_of_getElem? (i := 19) rfl)) rfl
theorem k1462 : Cond.fieldLink "DrawingMachineModel$DrawCommandsModel" 32 "DrawingMachineModel$DrawCommandsModel" "query" "I" ∈ tw := tw_of (tb_7 (List.mem_of_getElem? (i := 22) rfl)) rfl
theorem k1466 : Cond.fieldLink "DrawingMachineModel$DrawCommandsModel" 35 "DrawingMachineModel$DrawCommandsModel" "argument" "[I" ∈ tw := tw_of (tb_7 (List.mem_of_getElem? (i := 26) rfl)) rfl
theorem k1468 : Cond.fieldLink "DrawingMachineModel$DrawCommandsModel" 38 "DrawingMachineModel$DrawCommandsModel" "kept" "[I" ∈ tw := tw_of (tb_7 (List.mem_of_getElem? (i := 28) rfl)) rfl
theorem k1429 : Cond.methodLink "DrawingMachineModel$DrawCommandsModel" 41 ⟨"DrawingMachineModel$DrawCommandsModel", "nothingTold", "()V"⟩ ∈ tw := tw_of (tb_6 (List.mem_of_getElem? (i := 229) rfl)) rfl
theorem k1431 : Cond.instanceMethod ⟨"DrawingMachineModel$DrawCommandsModel", "nothingTold", "()V"⟩ ∈ tw := tw_of (tb_6 (List.mem_of_getElem? (i := 231) rfl)) rfl
theorem ks43 : Cond.selects "DrawingMachineModel$DrawCommandsModel" ⟨"DrawingMachineModel$DrawCommandsModel", "nothingTold", "()V"⟩ ⟨"DrawingMachineModel$DrawCommandsModel", "nothingTold", "()V"⟩ ∈ tw := tw_sel 43 rfl rfl
theorem k1432 : Cond.code ⟨"DrawingMachineModel$DrawCommandsModel", "nothingTold", "()V"⟩ prog_15_method_12_code 3 none ∈ tw := tw_of (tb_6 (List.mem_of_getElem? (i := 232) rfl)) rfl
theorem k1433 : Cond.methodLink "DrawingMachineModel$DrawCommandsModel" 110 ⟨"DrawingMachineModel$DrawCommandsModel", "many", "(I)I"⟩ ∈ tw := tw_of (tb_6 (List.mem_of_getElem? (i := 233) rfl)) rfl
theorem k1434 : Cond.static ⟨"DrawingMachineModel$DrawCommandsModel", "many", "(I)I"⟩ ∈ tw := tw_of (tb_6 (List.mem_of_getElem? (i := 234) rfl)) rfl
theorem k1435 : Cond.code ⟨"DrawingMachineModel$DrawCommandsModel", "many", "(I)I"⟩ prog_15_method_10_code 1 (Option.some .int) ∈ tw := tw_of (tb_6 (List.mem_of_getElem? (i := 235) rfl)) rfl
theorem k1436 : Cond.methodLink "DrawingMachineModel$DrawCommandsModel" 113 ⟨"DrawingMachineModel$DrawCommandsModel", "rowOf", "(II)I"⟩ ∈ tw := tw_of (tb_6 (List.mem_of_getElem? (i := 236) rfl)) rfl
theorem k1437 : Cond.static ⟨"DrawingMachineModel$DrawCommandsModel", "rowOf", "(II)I"⟩ ∈ tw := tw_of (tb_6 (List.mem_of_getElem? (i := 237) rfl)) rfl
theorem k1438 : Cond.code ⟨"DrawingMachineModel$DrawCommandsModel", "rowOf", "(II)I"⟩ prog_15_method_11_code 2 (Option.some .int) ∈ tw := tw_of (tb_6 (List.mem_of_getElem? (i := 238) rfl)) rfl
theorem k1442 : Cond.constant "DrawingMachineModel$DrawCommandsModel" 117 (16777215 : Int32) ∈ tw := tw_of (tb_7 (List.mem_of_getElem? (i := 2) rfl)) rfl
theorem k1439 : Cond.methodLink "DrawingMachineModel$DrawCommandsModel" 106 ⟨"DrawingMachineModel$DrawCommandsModel", "count", "(I)I"⟩ ∈ tw := tw_of (tb_6 (List.mem_of_getElem? (i := 239) rfl)) rfl
theorem k1440 : Cond.static ⟨"DrawingMachineModel$DrawCommandsModel", "count", "(I)I"⟩ ∈ tw := tw_of (tb_7 (List.mem_of_getElem? (i := 0) rfl)) rfl
theorem k1441 : Cond.code ⟨"DrawingMachineModel$DrawCommandsModel", "count", "(I)I"⟩ prog_15_method_4_code 1 (Option.some .int) ∈ tw := tw_of (tb_7 (List.mem_of_getElem? (i := 1) rfl)) rfl
theorem k1512 : Cond.methodLink "DrawingMachineModel$TextureUnitsModel" 1 ⟨"java/lang/Object", "<init>", "()V"⟩ ∈ tw := tw_of (tb_7 (List.mem_of_getElem? (i := 72) rfl)) rfl
theorem k1515 : Cond.fieldLink "DrawingMachineModel$TextureUnitsModel" 7 "DrawingMachineModel$TextureUnitsModel" "units" "[I" ∈ tw := tw_of (tb_7 (List.mem_of_getElem? (i := 75) rfl)) rfl
theorem k1516 : Cond.fieldLink "DrawingMachineModel$TextureUnitsModel" 13 "DrawingMachineModel$TextureUnitsModel" "borders" "[I" ∈ tw := tw_of (tb_7 (List.mem_of_getElem? (i := 76) rfl)) rfl
theorem k1517 : Cond.fieldLink "DrawingMachineModel$TextureUnitsModel" 16 "DrawingMachineModel$TextureUnitsModel" "latest" "[I" ∈ tw := tw_of (tb_7 (List.mem_of_getElem? (i := 77) rfl)) rfl
theorem k1518 : Cond.fieldLink "DrawingMachineModel$TextureUnitsModel" 19 "DrawingMachineModel$TextureUnitsModel" "found" "[I" ∈ tw := tw_of (tb_7 (List.mem_of_getElem? (i := 78) rfl)) rfl
theorem k1519 : Cond.fieldLink "DrawingMachineModel$TextureUnitsModel" 22 "DrawingMachineModel$TextureUnitsModel" "row" "[I" ∈ tw := tw_of (tb_7 (List.mem_of_getElem? (i := 79) rfl)) rfl
theorem k1520 : Cond.fieldLink "DrawingMachineModel$TextureUnitsModel" 25 "DrawingMachineModel$TextureUnitsModel" "upper" "[I" ∈ tw := tw_of (tb_7 (List.mem_of_getElem? (i := 80) rfl)) rfl
theorem k1521 : Cond.fieldLink "DrawingMachineModel$TextureUnitsModel" 28 "DrawingMachineModel$TextureUnitsModel" "near" "[I" ∈ tw := tw_of (tb_7 (List.mem_of_getElem? (i := 81) rfl)) rfl
theorem k1522 : Cond.fieldLink "DrawingMachineModel$TextureUnitsModel" 31 "DrawingMachineModel$TextureUnitsModel" "first" "[I" ∈ tw := tw_of (tb_7 (List.mem_of_getElem? (i := 82) rfl)) rfl
theorem k1523 : Cond.fieldLink "DrawingMachineModel$TextureUnitsModel" 34 "DrawingMachineModel$TextureUnitsModel" "size" "[I" ∈ tw := tw_of (tb_7 (List.mem_of_getElem? (i := 83) rfl)) rfl
theorem k1514 : Cond.fieldLink "DrawingMachineModel$TextureUnitsModel" 37 "DrawingMachineModel$TextureUnitsModel" "memory" "[I" ∈ tw := tw_of (tb_7 (List.mem_of_getElem? (i := 74) rfl)) rfl
theorem k1552 : Cond.methodLink "DrawingMachineModel$ShaderMachineModel" 1 ⟨"java/lang/Object", "<init>", "()V"⟩ ∈ tw := tw_of (tb_7 (List.mem_of_getElem? (i := 112) rfl)) rfl
theorem k1556 : Cond.fieldLink "DrawingMachineModel$ShaderMachineModel" 7 "DrawingMachineModel$ShaderMachineModel" "program" "[I" ∈ tw := tw_of (tb_7 (List.mem_of_getElem? (i := 116) rfl)) rfl
theorem k1557 : Cond.fieldLink "DrawingMachineModel$ShaderMachineModel" 13 "DrawingMachineModel$ShaderMachineModel" "fresh" "[I" ∈ tw := tw_of (tb_7 (List.mem_of_getElem? (i := 117) rfl)) rfl
theorem k1561 : Cond.fieldLink "DrawingMachineModel$ShaderMachineModel" 16 "DrawingMachineModel$ShaderMachineModel" "place" "I" ∈ tw := tw_of (tb_7 (List.mem_of_getElem? (i := 121) rfl)) rfl
theorem k1564 : Cond.fieldLink "DrawingMachineModel$ShaderMachineModel" 20 "DrawingMachineModel$ShaderMachineModel" "temporaries" "[I" ∈ tw := tw_of (tb_7 (List.mem_of_getElem? (i := 124) rfl)) rfl
theorem k1565 : Cond.fieldLink "DrawingMachineModel$ShaderMachineModel" 23 "DrawingMachineModel$ShaderMachineModel" "ins" "[I" ∈ tw := tw_of (tb_7 (List.mem_of_getElem? (i := 125) rfl)) rfl
theorem k1567 : Cond.fieldLink "DrawingMachineModel$ShaderMachineModel" 26 "DrawingMachineModel$ShaderMachineModel" "outs" "[I" ∈ tw := tw_of (tb_7 (List.mem_of_getElem? (i := 127) rfl)) rfl
theorem k1569 : Cond.fieldLink "DrawingMachineModel$ShaderMachineModel" 29 "DrawingMachineModel$ShaderMachineModel" "uniforms" "[I" ∈ tw := tw_of (tb_7 (List.mem_of_getElem? (i := 129) rfl)) rfl
theorem k1571 : Cond.fieldLink "DrawingMachineModel$ShaderMachineModel" 32 "DrawingMachineModel$ShaderMachineModel" "read" "[I" ∈ tw := tw_of (tb_7 (List.mem_of_getElem? (i := 131) rfl)) rfl
theorem k1572 : Cond.fieldLink "DrawingMachineModel$ShaderMachineModel" 35 "DrawingMachineModel$ShaderMachineModel" "result" "[I" ∈ tw := tw_of (tb_7 (List.mem_of_getElem? (i := 132) rfl)) rfl
theorem k1575 : Cond.fieldLink "DrawingMachineModel$ShaderMachineModel" 38 "DrawingMachineModel$ShaderMachineModel" "left" "[I" ∈ tw := tw_of (tb_7 (List.mem_of_getElem? (i := 135) rfl)) rfl
theorem k1576 : Cond.fieldLink "DrawingMachineModel$ShaderMachineModel" 41 "DrawingMachineModel$ShaderMachineModel" "opening" "[I" ∈ tw := tw_of (tb_7 (List.mem_of_getElem? (i := 136) rfl)) rfl
theorem k1554 : Cond.fieldLink "DrawingMachineModel$ShaderMachineModel" 44 "DrawingMachineModel$ShaderMachineModel" "memory" "[I" ∈ tw := tw_of (tb_7 (List.mem_of_getElem? (i := 114) rfl)) rfl
theorem k1555 : Cond.fieldLink "DrawingMachineModel$ShaderMachineModel" 47 "DrawingMachineModel$ShaderMachineModel" "units" "LDrawingMachineModel$TextureUnitsModel;" ∈ tw := tw_of (tb_7 (List.mem_of_getElem? (i := 115) rfl)) rfl
theorem k1619 : Cond.methodLink "DrawingMachineModel$VertexWorkModel" 1 ⟨"java/lang/Object", "<init>", "()V"⟩ ∈ tw := tw_of (tb_7 (List.mem_of_getElem? (i := 179) rfl)) rfl
theorem k1623 : Cond.fieldLink "DrawingMachineModel$VertexWorkModel" 7 "DrawingMachineModel$VertexWorkModel" "attributes" "[I" ∈ tw := tw_of (tb_7 (List.mem_of_getElem? (i := 183) rfl)) rfl
theorem k1624 : Cond.fieldLink "DrawingMachineModel$VertexWorkModel" 13 "DrawingMachineModel$VertexWorkModel" "corners" "[I" ∈ tw := tw_of (tb_7 (List.mem_of_getElem? (i := 184) rfl)) rfl
theorem k1625 : Cond.fieldLink "DrawingMachineModel$VertexWorkModel" 16 "DrawingMachineModel$VertexWorkModel" "view" "[I" ∈ tw := tw_of (tb_7 (List.mem_of_getElem? (i := 185) rfl)) rfl
theorem k1629 : Cond.fieldLink "DrawingMachineModel$VertexWorkModel" 19 "DrawingMachineModel$VertexWorkModel" "ring" "[I" ∈ tw := tw_of (tb_7 (List.mem_of_getElem? (i := 189) rfl)) rfl
theorem k1631 : Cond.fieldLink "DrawingMachineModel$VertexWorkModel" 22 "DrawingMachineModel$VertexWorkModel" "other" "[I" ∈ tw := tw_of (tb_7 (List.mem_of_getElem? (i := 191) rfl)) rfl
theorem k1633 : Cond.fieldLink "DrawingMachineModel$VertexWorkModel" 25 "DrawingMachineModel$VertexWorkModel" "laid" "[I" ∈ tw := tw_of (tb_7 (List.mem_of_getElem? (i := 193) rfl)) rfl
theorem k1622 : Cond.fieldLink "DrawingMachineModel$VertexWorkModel" 28 "DrawingMachineModel$VertexWorkModel" "memory" "[I" ∈ tw := tw_of (tb_7 (List.mem_of_getElem? (i := 182) rfl)) rfl
theorem k1620 : Cond.constant "DrawingMachineModel$VertexWorkModel" 31 (16777215 : Int32) ∈ tw := tw_of (tb_7 (List.mem_of_getElem? (i := 180) rfl)) rfl
theorem k1666 : Cond.methodLink "DrawingMachineModel$EdgeRasterModel" 1 ⟨"java/lang/Object", "<init>", "()V"⟩ ∈ tw := tw_of (tb_7 (List.mem_of_getElem? (i := 226) rfl)) rfl
theorem k1668 : Cond.fieldLink "DrawingMachineModel$EdgeRasterModel" 7 "DrawingMachineModel$EdgeRasterModel" "cornerX" "[I" ∈ tw := tw_of (tb_7 (List.mem_of_getElem? (i := 228) rfl)) rfl
theorem k1670 : Cond.fieldLink "DrawingMachineModel$EdgeRasterModel" 13 "DrawingMachineModel$EdgeRasterModel" "cornerY" "[I" ∈ tw := tw_of (tb_7 (List.mem_of_getElem? (i := 230) rfl)) rfl
theorem k1672 : Cond.fieldLink "DrawingMachineModel$EdgeRasterModel" 16 "DrawingMachineModel$EdgeRasterModel" "depths" "[I" ∈ tw := tw_of (tb_7 (List.mem_of_getElem? (i := 232) rfl)) rfl
theorem k1674 : Cond.fieldLink "DrawingMachineModel$EdgeRasterModel" 19 "DrawingMachineModel$EdgeRasterModel" "nearness" "[I" ∈ tw := tw_of (tb_7 (List.mem_of_getElem? (i := 234) rfl)) rfl
theorem k1676 : Cond.fieldLink "DrawingMachineModel$EdgeRasterModel" 22 "DrawingMachineModel$EdgeRasterModel" "values" "[I" ∈ tw := tw_of (tb_7 (List.mem_of_getElem? (i := 236) rfl)) rfl
theorem k1696 : Cond.methodLink "DrawingMachineModel$PlaceTestsModel" 1 ⟨"java/lang/Object", "<init>", "()V"⟩ ∈ tw := tw_of (tb_8 (List.mem_of_getElem? (i := 16) rfl)) rfl
theorem k1701 : Cond.fieldLink "DrawingMachineModel$PlaceTestsModel" 7 "DrawingMachineModel$PlaceTestsModel" "wide" "I" ∈ tw := tw_of (tb_8 (List.mem_of_getElem? (i := 21) rfl)) rfl
theorem k1702 : Cond.fieldLink "DrawingMachineModel$PlaceTestsModel" 13 "DrawingMachineModel$PlaceTestsModel" "high" "I" ∈ tw := tw_of (tb_8 (List.mem_of_getElem? (i := 22) rfl)) rfl
theorem k1697 : Cond.constant "DrawingMachineModel$PlaceTestsModel" 16 (65536 : Int32) ∈ tw := tw_of (tb_8 (List.mem_of_getElem? (i := 17) rfl)) rfl
theorem k1703 : Cond.fieldLink "DrawingMachineModel$PlaceTestsModel" 17 "DrawingMachineModel$PlaceTestsModel" "channels" "[I" ∈ tw := tw_of (tb_8 (List.mem_of_getElem? (i := 23) rfl)) rfl
theorem k1704 : Cond.fieldLink "DrawingMachineModel$PlaceTestsModel" 21 "DrawingMachineModel$PlaceTestsModel" "depths" "[I" ∈ tw := tw_of (tb_8 (List.mem_of_getElem? (i := 24) rfl)) rfl
theorem k1705 : Cond.fieldLink "DrawingMachineModel$PlaceTestsModel" 24 "DrawingMachineModel$PlaceTestsModel" "stencils" "[I" ∈ tw := tw_of (tb_8 (List.mem_of_getElem? (i := 25) rfl)) rfl
theorem k1707 : Cond.fieldLink "DrawingMachineModel$PlaceTestsModel" 27 "DrawingMachineModel$PlaceTestsModel" "scissor" "[I" ∈ tw := tw_of (tb_8 (List.mem_of_getElem? (i := 27) rfl)) rfl
theorem k1708 : Cond.fieldLink "DrawingMachineModel$PlaceTestsModel" 30 "DrawingMachineModel$PlaceTestsModel" "depthTest" "I" ∈ tw := tw_of (tb_8 (List.mem_of_getElem? (i := 28) rfl)) rfl
theorem k1710 : Cond.fieldLink "DrawingMachineModel$PlaceTestsModel" 33 "DrawingMachineModel$PlaceTestsModel" "stencil" "[I" ∈ tw := tw_of (tb_8 (List.mem_of_getElem? (i := 30) rfl)) rfl
theorem k1711 : Cond.fieldLink "DrawingMachineModel$PlaceTestsModel" 36 "DrawingMachineModel$PlaceTestsModel" "factors" "[I" ∈ tw := tw_of (tb_8 (List.mem_of_getElem? (i := 31) rfl)) rfl
theorem k1712 : Cond.fieldLink "DrawingMachineModel$PlaceTestsModel" 39 "DrawingMachineModel$PlaceTestsModel" "equation" "I" ∈ tw := tw_of (tb_8 (List.mem_of_getElem? (i := 32) rfl)) rfl
theorem k1714 : Cond.fieldLink "DrawingMachineModel$PlaceTestsModel" 42 "DrawingMachineModel$PlaceTestsModel" "constant" "[I" ∈ tw := tw_of (tb_8 (List.mem_of_getElem? (i := 34) rfl)) rfl
theorem k1715 : Cond.fieldLink "DrawingMachineModel$PlaceTestsModel" 45 "DrawingMachineModel$PlaceTestsModel" "logic" "I" ∈ tw := tw_of (tb_8 (List.mem_of_getElem? (i := 35) rfl)) rfl
theorem k1716 : Cond.fieldLink "DrawingMachineModel$PlaceTestsModel" 48 "DrawingMachineModel$PlaceTestsModel" "mask" "I" ∈ tw := tw_of (tb_8 (List.mem_of_getElem? (i := 36) rfl)) rfl
theorem k1717 : Cond.fieldLink "DrawingMachineModel$PlaceTestsModel" 51 "DrawingMachineModel$PlaceTestsModel" "answers" "[I" ∈ tw := tw_of (tb_8 (List.mem_of_getElem? (i := 37) rfl)) rfl
theorem k1718 : Cond.fieldLink "DrawingMachineModel$PlaceTestsModel" 54 "DrawingMachineModel$PlaceTestsModel" "s" "[I" ∈ tw := tw_of (tb_8 (List.mem_of_getElem? (i := 38) rfl)) rfl
theorem k1719 : Cond.fieldLink "DrawingMachineModel$PlaceTestsModel" 57 "DrawingMachineModel$PlaceTestsModel" "d" "[I" ∈ tw := tw_of (tb_8 (List.mem_of_getElem? (i := 39) rfl)) rfl
theorem k1826 : Cond.code ⟨"DrawingMachineModel", "thrown", "()I"⟩ prog_14_method_2_code 1 (Option.some .int) ∈ tw := tw_of (tb_8 (List.mem_of_getElem? (i := 146) rfl)) rfl
theorem k1765 : Cond.fieldLink "DrawingMachineModel" 85 "DrawingMachineModel" "thrown" "I" ∈ tw := tw_of (tb_8 (List.mem_of_getElem? (i := 85) rfl)) rfl
theorem k1830 : Cond.code ⟨"DrawingMachineModel", "frame", "(III)I"⟩ prog_14_method_5_code 5 (Option.some .int) ∈ tw := tw_of (tb_8 (List.mem_of_getElem? (i := 150) rfl)) rfl
theorem k1831 : Cond.constantLong "DrawingMachineModel" 88 (128 : Int64) ∈ tw := tw_of (tb_8 (List.mem_of_getElem? (i := 151) rfl)) rfl
theorem k1832 : Cond.methodLink "DrawingMachineModel" 90 ⟨"DrawingMachineModel", "in", "(JJJ)Z"⟩ ∈ tw := tw_of (tb_8 (List.mem_of_getElem? (i := 152) rfl)) rfl
theorem k14 : Cond.initialized "DrawingMachineModel" ∈ tw := tw_of (tb_1 (List.mem_of_getElem? (i := 14) rfl)) rfl
theorem k1833 : Cond.static ⟨"DrawingMachineModel", "in", "(JJJ)Z"⟩ ∈ tw := tw_of (tb_8 (List.mem_of_getElem? (i := 153) rfl)) rfl
theorem k1834 : Cond.code ⟨"DrawingMachineModel", "in", "(JJJ)Z"⟩ prog_14_method_4_code 6 (Option.some .boolean) ∈ tw := tw_of (tb_8 (List.mem_of_getElem? (i := 154) rfl)) rfl
theorem k1835 : Cond.methodLink "DrawingMachineModel" 94 ⟨"DrawingMachineModel", "refuse", "(ZZ)Z"⟩ ∈ tw := tw_of (tb_8 (List.mem_of_getElem? (i := 155) rfl)) rfl
theorem k1837 : Cond.instanceMethod ⟨"DrawingMachineModel", "refuse", "(ZZ)Z"⟩ ∈ tw := tw_of (tb_8 (List.mem_of_getElem? (i := 157) rfl)) rfl
theorem ks44 : Cond.selects "DrawingMachineModel" ⟨"DrawingMachineModel", "refuse", "(ZZ)Z"⟩ ⟨"DrawingMachineModel", "refuse", "(ZZ)Z"⟩ ∈ tw := tw_sel 44 rfl rfl
theorem k1838 : Cond.code ⟨"DrawingMachineModel", "refuse", "(ZZ)Z"⟩ prog_14_method_3_code 3 (Option.some .boolean) ∈ tw := tw_of (tb_8 (List.mem_of_getElem? (i := 158) rfl)) rfl
theorem k1839 : Cond.methodLink "DrawingMachineModel" 98 ⟨"DrawingMachineModel$DrawCommandsModel", "frame", "(II)V"⟩ ∈ tw := tw_of (tb_8 (List.mem_of_getElem? (i := 159) rfl)) rfl
theorem k1840 : Cond.instanceMethod ⟨"DrawingMachineModel$DrawCommandsModel", "frame", "(II)V"⟩ ∈ tw := tw_of (tb_8 (List.mem_of_getElem? (i := 160) rfl)) rfl
theorem k1841 : Cond.selects "DrawingMachineModel$DrawCommandsModel" ⟨"DrawingMachineModel$DrawCommandsModel", "frame", "(II)V"⟩ ⟨"DrawingMachineModel$DrawCommandsModel", "frame", "(II)V"⟩ ∈ tw := tw_of (tb_8 (List.mem_of_getElem? (i := 161) rfl)) rfl
theorem k1842 : Cond.code ⟨"DrawingMachineModel$DrawCommandsModel", "frame", "(II)V"⟩ prog_15_method_14_code 3 none ∈ tw := tw_of (tb_8 (List.mem_of_getElem? (i := 162) rfl)) rfl
theorem k1851 : Cond.methodLink "DrawingMachineModel" 102 ⟨"DrawingMachineModel$PlaceTestsModel", "frame", "(IIII)V"⟩ ∈ tw := tw_of (tb_8 (List.mem_of_getElem? (i := 171) rfl)) rfl
theorem k1852 : Cond.instanceMethod ⟨"DrawingMachineModel$PlaceTestsModel", "frame", "(IIII)V"⟩ ∈ tw := tw_of (tb_8 (List.mem_of_getElem? (i := 172) rfl)) rfl
theorem k1853 : Cond.selects "DrawingMachineModel$PlaceTestsModel" ⟨"DrawingMachineModel$PlaceTestsModel", "frame", "(IIII)V"⟩ ⟨"DrawingMachineModel$PlaceTestsModel", "frame", "(IIII)V"⟩ ∈ tw := tw_of (tb_8 (List.mem_of_getElem? (i := 173) rfl)) rfl
theorem k1854 : Cond.code ⟨"DrawingMachineModel$PlaceTestsModel", "frame", "(IIII)V"⟩ prog_17_method_4_code 6 none ∈ tw := tw_of (tb_8 (List.mem_of_getElem? (i := 174) rfl)) rfl
theorem k1843 : Cond.constantLong "DrawingMachineModel$DrawCommandsModel" 75 (128 : Int64) ∈ tw := tw_of (tb_8 (List.mem_of_getElem? (i := 163) rfl)) rfl
theorem k1844 : Cond.methodLink "DrawingMachineModel$DrawCommandsModel" 51 ⟨"DrawingMachineModel$DrawCommandsModel", "in", "(JJJ)Z"⟩ ∈ tw := tw_of (tb_8 (List.mem_of_getElem? (i := 164) rfl)) rfl
theorem k1845 : Cond.static ⟨"DrawingMachineModel$DrawCommandsModel", "in", "(JJJ)Z"⟩ ∈ tw := tw_of (tb_8 (List.mem_of_getElem? (i := 165) rfl)) rfl
theorem k1846 : Cond.code ⟨"DrawingMachineModel$DrawCommandsModel", "in", "(JJJ)Z"⟩ prog_15_method_3_code 6 (Option.some .boolean) ∈ tw := tw_of (tb_8 (List.mem_of_getElem? (i := 166) rfl)) rfl
theorem k1847 : Cond.methodLink "DrawingMachineModel$DrawCommandsModel" 120 ⟨"DrawingMachineModel$DrawCommandsModel", "refuse", "(Z)Z"⟩ ∈ tw := tw_of (tb_8 (List.mem_of_getElem? (i := 167) rfl)) rfl
theorem k1849 : Cond.instanceMethod ⟨"DrawingMachineModel$DrawCommandsModel", "refuse", "(Z)Z"⟩ ∈ tw := tw_of (tb_8 (List.mem_of_getElem? (i := 169) rfl)) rfl
theorem ks45 : Cond.selects "DrawingMachineModel$DrawCommandsModel" ⟨"DrawingMachineModel$DrawCommandsModel", "refuse", "(Z)Z"⟩ ⟨"DrawingMachineModel$DrawCommandsModel", "refuse", "(Z)Z"⟩ ∈ tw := tw_sel 45 rfl rfl
theorem k1850 : Cond.code ⟨"DrawingMachineModel$DrawCommandsModel", "refuse", "(Z)Z"⟩ prog_15_method_2_code 2 (Option.some .boolean) ∈ tw := tw_of (tb_8 (List.mem_of_getElem? (i := 170) rfl)) rfl
theorem k1443 : Cond.fieldLink "DrawingMachineModel$DrawCommandsModel" 44 "DrawingMachineModel$DrawCommandsModel" "thrown" "I" ∈ tw := tw_of (tb_7 (List.mem_of_getElem? (i := 3) rfl)) rfl
theorem k1855 : Cond.methodLink "DrawingMachineModel$PlaceTestsModel" 63 ⟨"DrawingMachineModel$PlaceTestsModel", "in", "(III)Z"⟩ ∈ tw := tw_of (tb_8 (List.mem_of_getElem? (i := 175) rfl)) rfl
theorem k1856 : Cond.static ⟨"DrawingMachineModel$PlaceTestsModel", "in", "(III)Z"⟩ ∈ tw := tw_of (tb_8 (List.mem_of_getElem? (i := 176) rfl)) rfl
theorem k1857 : Cond.code ⟨"DrawingMachineModel$PlaceTestsModel", "in", "(III)Z"⟩ prog_17_method_3_code 3 (Option.some .boolean) ∈ tw := tw_of (tb_8 (List.mem_of_getElem? (i := 177) rfl)) rfl
theorem k1858 : Cond.methodLink "DrawingMachineModel$PlaceTestsModel" 67 ⟨"DrawingMachineModel$PlaceTestsModel", "refuse", "(ZZ)Z"⟩ ∈ tw := tw_of (tb_8 (List.mem_of_getElem? (i := 178) rfl)) rfl
theorem k1860 : Cond.instanceMethod ⟨"DrawingMachineModel$PlaceTestsModel", "refuse", "(ZZ)Z"⟩ ∈ tw := tw_of (tb_8 (List.mem_of_getElem? (i := 180) rfl)) rfl
theorem ks46 : Cond.selects "DrawingMachineModel$PlaceTestsModel" ⟨"DrawingMachineModel$PlaceTestsModel", "refuse", "(ZZ)Z"⟩ ⟨"DrawingMachineModel$PlaceTestsModel", "refuse", "(ZZ)Z"⟩ ∈ tw := tw_sel 46 rfl rfl
theorem k1861 : Cond.code ⟨"DrawingMachineModel$PlaceTestsModel", "refuse", "(ZZ)Z"⟩ prog_17_method_2_code 3 (Option.some .boolean) ∈ tw := tw_of (tb_8 (List.mem_of_getElem? (i := 181) rfl)) rfl
theorem k1699 : Cond.fieldLink "DrawingMachineModel$PlaceTestsModel" 71 "DrawingMachineModel$PlaceTestsModel" "x0" "I" ∈ tw := tw_of (tb_8 (List.mem_of_getElem? (i := 19) rfl)) rfl
theorem k1700 : Cond.fieldLink "DrawingMachineModel$PlaceTestsModel" 74 "DrawingMachineModel$PlaceTestsModel" "y0" "I" ∈ tw := tw_of (tb_8 (List.mem_of_getElem? (i := 20) rfl)) rfl
theorem k1698 : Cond.fieldLink "DrawingMachineModel$PlaceTestsModel" 60 "DrawingMachineModel$PlaceTestsModel" "thrown" "I" ∈ tw := tw_of (tb_8 (List.mem_of_getElem? (i := 18) rfl)) rfl
theorem k1865 : Cond.code ⟨"DrawingMachineModel", "word", "(II)I"⟩ prog_14_method_6_code 3 (Option.some .int) ∈ tw := tw_of (tb_8 (List.mem_of_getElem? (i := 185) rfl)) rfl
theorem k1866 : Cond.constantLong "DrawingMachineModel" 105 (4095 : Int64) ∈ tw := tw_of (tb_8 (List.mem_of_getElem? (i := 186) rfl)) rfl
theorem k1867 : Cond.methodLink "DrawingMachineModel" 107 ⟨"DrawingMachineModel$DrawCommandsModel", "word", "(II)I"⟩ ∈ tw := tw_of (tb_8 (List.mem_of_getElem? (i := 187) rfl)) rfl
theorem k1868 : Cond.instanceMethod ⟨"DrawingMachineModel$DrawCommandsModel", "word", "(II)I"⟩ ∈ tw := tw_of (tb_8 (List.mem_of_getElem? (i := 188) rfl)) rfl
theorem k1869 : Cond.selects "DrawingMachineModel$DrawCommandsModel" ⟨"DrawingMachineModel$DrawCommandsModel", "word", "(II)I"⟩ ⟨"DrawingMachineModel$DrawCommandsModel", "word", "(II)I"⟩ ∈ tw := tw_of (tb_8 (List.mem_of_getElem? (i := 189) rfl)) rfl
theorem k1870 : Cond.code ⟨"DrawingMachineModel$DrawCommandsModel", "word", "(II)I"⟩ prog_15_method_13_code 4 (Option.some .int) ∈ tw := tw_of (tb_8 (List.mem_of_getElem? (i := 190) rfl)) rfl
theorem k1871 : Cond.constantLong "DrawingMachineModel$DrawCommandsModel" 118 (4095 : Int64) ∈ tw := tw_of (tb_8 (List.mem_of_getElem? (i := 191) rfl)) rfl
theorem k1875 : Cond.code ⟨"DrawingMachineModel", "look", "(I)I"⟩ prog_14_method_7_code 2 (Option.some .int) ∈ tw := tw_of (tb_8 (List.mem_of_getElem? (i := 195) rfl)) rfl
theorem k1879 : Cond.code ⟨"DrawingMachineModel", "feed", "(IIIII)I"⟩ prog_14_method_8_code 6 (Option.some .int) ∈ tw := tw_of (tb_8 (List.mem_of_getElem? (i := 199) rfl)) rfl
theorem k1880 : Cond.methodLink "DrawingMachineModel" 114 ⟨"DrawingMachineModel$DrawCommandsModel", "put", "(I)I"⟩ ∈ tw := tw_of (tb_8 (List.mem_of_getElem? (i := 200) rfl)) rfl
theorem k1881 : Cond.instanceMethod ⟨"DrawingMachineModel$DrawCommandsModel", "put", "(I)I"⟩ ∈ tw := tw_of (tb_8 (List.mem_of_getElem? (i := 201) rfl)) rfl
theorem k1882 : Cond.selects "DrawingMachineModel$DrawCommandsModel" ⟨"DrawingMachineModel$DrawCommandsModel", "put", "(I)I"⟩ ⟨"DrawingMachineModel$DrawCommandsModel", "put", "(I)I"⟩ ∈ tw := tw_of (tb_8 (List.mem_of_getElem? (i := 202) rfl)) rfl
theorem k1883 : Cond.code ⟨"DrawingMachineModel$DrawCommandsModel", "put", "(I)I"⟩ prog_15_method_15_code 2 (Option.some .int) ∈ tw := tw_of (tb_8 (List.mem_of_getElem? (i := 203) rfl)) rfl
theorem k1450 : Cond.fieldLink "DrawingMachineModel$DrawCommandsModel" 124 "DrawingMachineModel$DrawCommandsModel" "size" "I" ∈ tw := tw_of (tb_7 (List.mem_of_getElem? (i := 10) rfl)) rfl
theorem k1887 : Cond.code ⟨"DrawingMachineModel", "end", "(I)V"⟩ prog_14_method_9_code 2 none ∈ tw := tw_of (tb_8 (List.mem_of_getElem? (i := 207) rfl)) rfl
theorem k1888 : Cond.methodLink "DrawingMachineModel" 118 ⟨"DrawingMachineModel$DrawCommandsModel", "begin", "(Z)V"⟩ ∈ tw := tw_of (tb_8 (List.mem_of_getElem? (i := 208) rfl)) rfl
theorem k1889 : Cond.instanceMethod ⟨"DrawingMachineModel$DrawCommandsModel", "begin", "(Z)V"⟩ ∈ tw := tw_of (tb_8 (List.mem_of_getElem? (i := 209) rfl)) rfl
theorem k1890 : Cond.selects "DrawingMachineModel$DrawCommandsModel" ⟨"DrawingMachineModel$DrawCommandsModel", "begin", "(Z)V"⟩ ⟨"DrawingMachineModel$DrawCommandsModel", "begin", "(Z)V"⟩ ∈ tw := tw_of (tb_8 (List.mem_of_getElem? (i := 210) rfl)) rfl
theorem k1891 : Cond.code ⟨"DrawingMachineModel$DrawCommandsModel", "begin", "(Z)V"⟩ prog_15_method_18_code 2 none ∈ tw := tw_of (tb_8 (List.mem_of_getElem? (i := 211) rfl)) rfl
theorem k1779 : Cond.fieldLink "DrawingMachineModel" 122 "DrawingMachineModel" "work" "J" ∈ tw := tw_of (tb_8 (List.mem_of_getElem? (i := 99) rfl)) rfl
theorem k1892 : Cond.methodLink "DrawingMachineModel$DrawCommandsModel" 146 ⟨"DrawingMachineModel$DrawCommandsModel", "anew", "()V"⟩ ∈ tw := tw_of (tb_8 (List.mem_of_getElem? (i := 212) rfl)) rfl
theorem k1894 : Cond.instanceMethod ⟨"DrawingMachineModel$DrawCommandsModel", "anew", "()V"⟩ ∈ tw := tw_of (tb_8 (List.mem_of_getElem? (i := 214) rfl)) rfl
theorem ks47 : Cond.selects "DrawingMachineModel$DrawCommandsModel" ⟨"DrawingMachineModel$DrawCommandsModel", "anew", "()V"⟩ ⟨"DrawingMachineModel$DrawCommandsModel", "anew", "()V"⟩ ∈ tw := tw_sel 47 rfl rfl
theorem k1895 : Cond.code ⟨"DrawingMachineModel$DrawCommandsModel", "anew", "()V"⟩ prog_15_method_16_code 1 none ∈ tw := tw_of (tb_8 (List.mem_of_getElem? (i := 215) rfl)) rfl
theorem k1451 : Cond.fieldLink "DrawingMachineModel$DrawCommandsModel" 127 "DrawingMachineModel$DrawCommandsModel" "at" "I" ∈ tw := tw_of (tb_7 (List.mem_of_getElem? (i := 11) rfl)) rfl
theorem k1452 : Cond.fieldLink "DrawingMachineModel$DrawCommandsModel" 130 "DrawingMachineModel$DrawCommandsModel" "depth" "I" ∈ tw := tw_of (tb_7 (List.mem_of_getElem? (i := 12) rfl)) rfl
theorem k1455 : Cond.fieldLink "DrawingMachineModel$DrawCommandsModel" 133 "DrawingMachineModel$DrawCommandsModel" "over" "Z" ∈ tw := tw_of (tb_7 (List.mem_of_getElem? (i := 15) rfl)) rfl
theorem k1457 : Cond.fieldLink "DrawingMachineModel$DrawCommandsModel" 137 "DrawingMachineModel$DrawCommandsModel" "refusal" "I" ∈ tw := tw_of (tb_7 (List.mem_of_getElem? (i := 17) rfl)) rfl
theorem k1461 : Cond.fieldLink "DrawingMachineModel$DrawCommandsModel" 140 "DrawingMachineModel$DrawCommandsModel" "done" "I" ∈ tw := tw_of (tb_7 (List.mem_of_getElem? (i := 21) rfl)) rfl
theorem k1465 : Cond.fieldLink "DrawingMachineModel$DrawCommandsModel" 143 "DrawingMachineModel$DrawCommandsModel" "arguments" "I" ∈ tw := tw_of (tb_7 (List.mem_of_getElem? (i := 25) rfl)) rfl
theorem k1899 : Cond.code ⟨"DrawingMachineModel", "begin", "(Z)V"⟩ prog_14_method_10_code 2 none ∈ tw := tw_of (tb_8 (List.mem_of_getElem? (i := 219) rfl)) rfl
theorem k1903 : Cond.code ⟨"DrawingMachineModel", "run", "(I)I"⟩ prog_14_method_12_code 3 (Option.some .int) ∈ tw := tw_of (tb_8 (List.mem_of_getElem? (i := 223) rfl)) rfl
theorem k1904 : Cond.methodLink "DrawingMachineModel" 136 ⟨"DrawingMachineModel", "step", "()Z"⟩ ∈ tw := tw_of (tb_8 (List.mem_of_getElem? (i := 224) rfl)) rfl
theorem k1906 : Cond.instanceMethod ⟨"DrawingMachineModel", "step", "()Z"⟩ ∈ tw := tw_of (tb_8 (List.mem_of_getElem? (i := 226) rfl)) rfl
theorem ks48 : Cond.selects "DrawingMachineModel" ⟨"DrawingMachineModel", "step", "()Z"⟩ ⟨"DrawingMachineModel", "step", "()Z"⟩ ∈ tw := tw_sel 48 rfl rfl
theorem k1907 : Cond.code ⟨"DrawingMachineModel", "step", "()Z"⟩ prog_14_method_13_code 2 (Option.some .boolean) ∈ tw := tw_of (tb_8 (List.mem_of_getElem? (i := 227) rfl)) rfl
theorem k1908 : Cond.methodLink "DrawingMachineModel" 140 ⟨"DrawingMachineModel", "kept", "(III)I"⟩ ∈ tw := tw_of (tb_8 (List.mem_of_getElem? (i := 228) rfl)) rfl
theorem k1910 : Cond.instanceMethod ⟨"DrawingMachineModel", "kept", "(III)I"⟩ ∈ tw := tw_of (tb_8 (List.mem_of_getElem? (i := 230) rfl)) rfl
theorem ks49 : Cond.selects "DrawingMachineModel" ⟨"DrawingMachineModel", "kept", "(III)I"⟩ ⟨"DrawingMachineModel", "kept", "(III)I"⟩ ∈ tw := tw_sel 49 rfl rfl
theorem k1911 : Cond.code ⟨"DrawingMachineModel", "kept", "(III)I"⟩ prog_14_method_11_code 4 (Option.some .int) ∈ tw := tw_of (tb_8 (List.mem_of_getElem? (i := 231) rfl)) rfl
theorem k1913 : Cond.methodLink "DrawingMachineModel" 143 ⟨"DrawingMachineModel$DrawCommandsModel", "next", "()I"⟩ ∈ tw := tw_of (tb_8 (List.mem_of_getElem? (i := 233) rfl)) rfl
theorem k1914 : Cond.instanceMethod ⟨"DrawingMachineModel$DrawCommandsModel", "next", "()I"⟩ ∈ tw := tw_of (tb_8 (List.mem_of_getElem? (i := 234) rfl)) rfl
theorem k1915 : Cond.selects "DrawingMachineModel$DrawCommandsModel" ⟨"DrawingMachineModel$DrawCommandsModel", "next", "()I"⟩ ⟨"DrawingMachineModel$DrawCommandsModel", "next", "()I"⟩ ∈ tw := tw_of (tb_8 (List.mem_of_getElem? (i := 235) rfl)) rfl
theorem k1916 : Cond.code ⟨"DrawingMachineModel$DrawCommandsModel", "next", "()I"⟩ prog_15_method_26_code 4 (Option.some .int) ∈ tw := tw_of (tb_8 (List.mem_of_getElem? (i := 236) rfl)) rfl
theorem k1989 : Cond.methodLink "DrawingMachineModel" 147 ⟨"DrawingMachineModel", "settle", "()V"⟩ ∈ tw := tw_of (tb_9 (List.mem_of_getElem? (i := 69) rfl)) rfl
theorem k1991 : Cond.instanceMethod ⟨"DrawingMachineModel", "settle", "()V"⟩ ∈ tw := tw_of (tb_9 (List.mem_of_getElem? (i := 71) rfl)) rfl
theorem ks59 : Cond.selects "DrawingMachineModel" ⟨"DrawingMachineModel", "settle", "()V"⟩ ⟨"DrawingMachineModel", "settle", "()V"⟩ ∈ tw := tw_sel 59 rfl rfl
theorem k1992 : Cond.code ⟨"DrawingMachineModel", "settle", "()V"⟩ prog_14_method_18_code 2 none ∈ tw := tw_of (tb_9 (List.mem_of_getElem? (i := 72) rfl)) rfl
theorem k2059 : Cond.methodLink "DrawingMachineModel" 153 ⟨"DrawingMachineModel$PlaceTestsModel", "clear", "(IIII)I"⟩ ∈ tw := tw_of (tb_9 (List.mem_of_getElem? (i := 139) rfl)) rfl
theorem k2060 : Cond.instanceMethod ⟨"DrawingMachineModel$PlaceTestsModel", "clear", "(IIII)I"⟩ ∈ tw := tw_of (tb_9 (List.mem_of_getElem? (i := 140) rfl)) rfl
theorem k2061 : Cond.selects "DrawingMachineModel$PlaceTestsModel" ⟨"DrawingMachineModel$PlaceTestsModel", "clear", "(IIII)I"⟩ ⟨"DrawingMachineModel$PlaceTestsModel", "clear", "(IIII)I"⟩ ∈ tw := tw_of (tb_9 (List.mem_of_getElem? (i := 141) rfl)) rfl
theorem k2062 : Cond.code ⟨"DrawingMachineModel$PlaceTestsModel", "clear", "(IIII)I"⟩ prog_17_method_16_code 11 (Option.some .int) ∈ tw := tw_of (tb_9 (List.mem_of_getElem? (i := 142) rfl)) rfl
theorem k2080 : Cond.methodLink "DrawingMachineModel" 157 ⟨"DrawingMachineModel", "program", "(LDrawingMachineModel$ShaderMachineModel;Z)Z"⟩ ∈ tw := tw_of (tb_9 (List.mem_of_getElem? (i := 160) rfl)) rfl
theorem k2082 : Cond.instanceMethod ⟨"DrawingMachineModel", "program", "(LDrawingMachineModel$ShaderMachineModel;Z)Z"⟩ ∈ tw := tw_of (tb_9 (List.mem_of_getElem? (i := 162) rfl)) rfl
theorem ks66 : Cond.selects "DrawingMachineModel" ⟨"DrawingMachineModel", "program", "(LDrawingMachineModel$ShaderMachineModel;Z)Z"⟩ ⟨"DrawingMachineModel", "program", "(LDrawingMachineModel$ShaderMachineModel;Z)Z"⟩ ∈ tw := tw_sel 66 rfl rfl
theorem k2083 : Cond.code ⟨"DrawingMachineModel", "program", "(LDrawingMachineModel$ShaderMachineModel;Z)Z"⟩ prog_14_method_14_code 5 (Option.some .boolean) ∈ tw := tw_of (tb_9 (List.mem_of_getElem? (i := 163) rfl)) rfl
theorem k2148 : Cond.methodLink "DrawingMachineModel" 161 ⟨"DrawingMachineModel", "isMuch", "()Z"⟩ ∈ tw := tw_of (tb_9 (List.mem_of_getElem? (i := 228) rfl)) rfl
theorem k2150 : Cond.instanceMethod ⟨"DrawingMachineModel", "isMuch", "()Z"⟩ ∈ tw := tw_of (tb_9 (List.mem_of_getElem? (i := 230) rfl)) rfl
theorem ks71 : Cond.selects "DrawingMachineModel" ⟨"DrawingMachineModel", "isMuch", "()Z"⟩ ⟨"DrawingMachineModel", "isMuch", "()Z"⟩ ∈ tw := tw_sel 71 rfl rfl
theorem k2151 : Cond.code ⟨"DrawingMachineModel", "isMuch", "()Z"⟩ prog_14_method_16_code 6 (Option.some .boolean) ∈ tw := tw_of (tb_9 (List.mem_of_getElem? (i := 231) rfl)) rfl
theorem k2144 : Cond.methodLink "DrawingMachineModel" 164 ⟨"DrawingMachineModel", "no", "(I)Z"⟩ ∈ tw := tw_of (tb_9 (List.mem_of_getElem? (i := 224) rfl)) rfl
theorem k2146 : Cond.instanceMethod ⟨"DrawingMachineModel", "no", "(I)Z"⟩ ∈ tw := tw_of (tb_9 (List.mem_of_getElem? (i := 226) rfl)) rfl
theorem ks70 : Cond.selects "DrawingMachineModel" ⟨"DrawingMachineModel", "no", "(I)Z"⟩ ⟨"DrawingMachineModel", "no", "(I)Z"⟩ ∈ tw := tw_sel 70 rfl rfl
theorem k2147 : Cond.code ⟨"DrawingMachineModel", "no", "(I)Z"⟩ prog_14_method_15_code 2 (Option.some .boolean) ∈ tw := tw_of (tb_9 (List.mem_of_getElem? (i := 227) rfl)) rfl
theorem k2158 : Cond.methodLink "DrawingMachineModel" 168 ⟨"DrawingMachineModel", "draw", "(IIZ)V"⟩ ∈ tw := tw_of (tb_9 (List.mem_of_getElem? (i := 238) rfl)) rfl
theorem k2160 : Cond.instanceMethod ⟨"DrawingMachineModel", "draw", "(IIZ)V"⟩ ∈ tw := tw_of (tb_10 (List.mem_of_getElem? (i := 0) rfl)) rfl
theorem ks72 : Cond.selects "DrawingMachineModel" ⟨"DrawingMachineModel", "draw", "(IIZ)V"⟩ ⟨"DrawingMachineModel", "draw", "(IIZ)V"⟩ ∈ tw := tw_sel 72 rfl rfl
theorem k2161 : Cond.code ⟨"DrawingMachineModel", "draw", "(IIZ)V"⟩ prog_14_method_19_code 9 none ∈ tw := tw_of (tb_10 (List.mem_of_getElem? (i := 1) rfl)) rfl
theorem k2477 : Cond.methodLink "DrawingMachineModel" 172 ⟨"DrawingMachineModel", "copy", "()V"⟩ ∈ tw := tw_of (tb_11 (List.mem_of_getElem? (i := 77) rfl)) rfl
theorem k2479 : Cond.instanceMethod ⟨"DrawingMachineModel", "copy", "()V"⟩ ∈ tw := tw_of (tb_11 (List.mem_of_getElem? (i := 79) rfl)) rfl
theorem ks115 : Cond.selects "DrawingMachineModel" ⟨"DrawingMachineModel", "copy", "()V"⟩ ⟨"DrawingMachineModel", "copy", "()V"⟩ ∈ tw := tw_sel 115 rfl rfl
theorem k2480 : Cond.code ⟨"DrawingMachineModel", "copy", "()V"⟩ prog_14_method_17_code 5 none ∈ tw := tw_of (tb_11 (List.mem_of_getElem? (i := 80) rfl)) rfl
theorem k1917 : Cond.methodLink "DrawingMachineModel$DrawCommandsModel" 175 ⟨"DrawingMachineModel$DrawCommandsModel", "look", "()I"⟩ ∈ tw := tw_of (tb_8 (List.mem_of_getElem? (i := 237) rfl)) rfl
theorem k1919 : Cond.instanceMethod ⟨"DrawingMachineModel$DrawCommandsModel", "look", "()I"⟩ ∈ tw := tw_of (tb_8 (List.mem_of_getElem? (i := 239) rfl)) rfl
theorem ks50 : Cond.selects "DrawingMachineModel$DrawCommandsModel" ⟨"DrawingMachineModel$DrawCommandsModel", "look", "()I"⟩ ⟨"DrawingMachineModel$DrawCommandsModel", "look", "()I"⟩ ∈ tw := tw_sel 50 rfl rfl
theorem k1920 : Cond.code ⟨"DrawingMachineModel$DrawCommandsModel", "look", "()I"⟩ prog_15_method_25_code 6 (Option.some .int) ∈ tw := tw_of (tb_9 (List.mem_of_getElem? (i := 0) rfl)) rfl
theorem k1925 : Cond.methodLink "DrawingMachineModel$DrawCommandsModel" 153 ⟨"DrawingMachineModel$DrawCommandsModel", "read", "(I)I"⟩ ∈ tw := tw_of (tb_9 (List.mem_of_getElem? (i := 5) rfl)) rfl
theorem k1927 : Cond.instanceMethod ⟨"DrawingMachineModel$DrawCommandsModel", "read", "(I)I"⟩ ∈ tw := tw_of (tb_9 (List.mem_of_getElem? (i := 7) rfl)) rfl
theorem ks52 : Cond.selects "DrawingMachineModel$DrawCommandsModel" ⟨"DrawingMachineModel$DrawCommandsModel", "read", "(I)I"⟩ ⟨"DrawingMachineModel$DrawCommandsModel", "read", "(I)I"⟩ ∈ tw := tw_sel 52 rfl rfl
theorem k1928 : Cond.code ⟨"DrawingMachineModel$DrawCommandsModel", "read", "(I)I"⟩ prog_15_method_20_code 2 (Option.some .int) ∈ tw := tw_of (tb_9 (List.mem_of_getElem? (i := 8) rfl)) rfl
theorem k1981 : Cond.methodLink "DrawingMachineModel$DrawCommandsModel" 179 ⟨"DrawingMachineModel$DrawCommandsModel", "perform", "(I)V"⟩ ∈ tw := tw_of (tb_9 (List.mem_of_getElem? (i := 61) rfl)) rfl
theorem k1983 : Cond.instanceMethod ⟨"DrawingMachineModel$DrawCommandsModel", "perform", "(I)V"⟩ ∈ tw := tw_of (tb_9 (List.mem_of_getElem? (i := 63) rfl)) rfl
theorem ks57 : Cond.selects "DrawingMachineModel$DrawCommandsModel" ⟨"DrawingMachineModel$DrawCommandsModel", "perform", "(I)V"⟩ ⟨"DrawingMachineModel$DrawCommandsModel", "perform", "(I)V"⟩ ∈ tw := tw_sel 57 rfl rfl
theorem k1984 : Cond.code ⟨"DrawingMachineModel$DrawCommandsModel", "perform", "(I)V"⟩ prog_15_method_27_code 3 none ∈ tw := tw_of (tb_9 (List.mem_of_getElem? (i := 64) rfl)) rfl
theorem k1921 : Cond.methodLink "DrawingMachineModel$DrawCommandsModel" 149 ⟨"DrawingMachineModel$DrawCommandsModel", "isThere", "(I)Z"⟩ ∈ tw := tw_of (tb_9 (List.mem_of_getElem? (i := 1) rfl)) rfl
theorem k1923 : Cond.instanceMethod ⟨"DrawingMachineModel$DrawCommandsModel", "isThere", "(I)Z"⟩ ∈ tw := tw_of (tb_9 (List.mem_of_getElem? (i := 3) rfl)) rfl
theorem ks51 : Cond.selects "DrawingMachineModel$DrawCommandsModel" ⟨"DrawingMachineModel$DrawCommandsModel", "isThere", "(I)Z"⟩ ⟨"DrawingMachineModel$DrawCommandsModel", "isThere", "(I)Z"⟩ ∈ tw := tw_sel 51 rfl rfl
theorem k1924 : Cond.code ⟨"DrawingMachineModel$DrawCommandsModel", "isThere", "(I)Z"⟩ prog_15_method_19_code 2 (Option.some .boolean) ∈ tw := tw_of (tb_9 (List.mem_of_getElem? (i := 4) rfl)) rfl
theorem k1929 : Cond.constantLong "DrawingMachineModel$DrawCommandsModel" 160 (25 : Int64) ∈ tw := tw_of (tb_9 (List.mem_of_getElem? (i := 9) rfl)) rfl
theorem k1930 : Cond.methodLink "DrawingMachineModel$DrawCommandsModel" 162 ⟨"DrawingMachineModel$DrawCommandsModel", "length", "(I)I"⟩ ∈ tw := tw_of (tb_9 (List.mem_of_getElem? (i := 10) rfl)) rfl
theorem k1932 : Cond.instanceMethod ⟨"DrawingMachineModel$DrawCommandsModel", "length", "(I)I"⟩ ∈ tw := tw_of (tb_9 (List.mem_of_getElem? (i := 12) rfl)) rfl
theorem ks53 : Cond.selects "DrawingMachineModel$DrawCommandsModel" ⟨"DrawingMachineModel$DrawCommandsModel", "length", "(I)I"⟩ ⟨"DrawingMachineModel$DrawCommandsModel", "length", "(I)I"⟩ ∈ tw := tw_sel 53 rfl rfl
theorem k1933 : Cond.code ⟨"DrawingMachineModel$DrawCommandsModel", "length", "(I)I"⟩ prog_15_method_21_code 3 (Option.some .int) ∈ tw := tw_of (tb_9 (List.mem_of_getElem? (i := 13) rfl)) rfl
theorem k1934 : Cond.methodLink "DrawingMachineModel$DrawCommandsModel" 165 ⟨"DrawingMachineModel$DrawCommandsModel", "may", "(III)Z"⟩ ∈ tw := tw_of (tb_9 (List.mem_of_getElem? (i := 14) rfl)) rfl
theorem k1935 : Cond.static ⟨"DrawingMachineModel$DrawCommandsModel", "may", "(III)Z"⟩ ∈ tw := tw_of (tb_9 (List.mem_of_getElem? (i := 15) rfl)) rfl
theorem k1936 : Cond.code ⟨"DrawingMachineModel$DrawCommandsModel", "may", "(III)Z"⟩ prog_15_method_9_code 3 (Option.some .boolean) ∈ tw := tw_of (tb_9 (List.mem_of_getElem? (i := 16) rfl)) rfl
theorem k1969 : Cond.methodLink "DrawingMachineModel$DrawCommandsModel" 169 ⟨"DrawingMachineModel$DrawCommandsModel", "liesRight", "(I)Z"⟩ ∈ tw := tw_of (tb_9 (List.mem_of_getElem? (i := 49) rfl)) rfl
theorem k1971 : Cond.instanceMethod ⟨"DrawingMachineModel$DrawCommandsModel", "liesRight", "(I)Z"⟩ ∈ tw := tw_of (tb_9 (List.mem_of_getElem? (i := 51) rfl)) rfl
theorem ks54 : Cond.selects "DrawingMachineModel$DrawCommandsModel" ⟨"DrawingMachineModel$DrawCommandsModel", "liesRight", "(I)Z"⟩ ⟨"DrawingMachineModel$DrawCommandsModel", "liesRight", "(I)Z"⟩ ∈ tw := tw_sel 54 rfl rfl
theorem k1972 : Cond.code ⟨"DrawingMachineModel$DrawCommandsModel", "liesRight", "(I)Z"⟩ prog_15_method_23_code 4 (Option.some .boolean) ∈ tw := tw_of (tb_9 (List.mem_of_getElem? (i := 52) rfl)) rfl
theorem k1977 : Cond.methodLink "DrawingMachineModel$DrawCommandsModel" 172 ⟨"DrawingMachineModel$DrawCommandsModel", "fitsState", "(I)Z"⟩ ∈ tw := tw_of (tb_9 (List.mem_of_getElem? (i := 57) rfl)) rfl
theorem k1979 : Cond.instanceMethod ⟨"DrawingMachineModel$DrawCommandsModel", "fitsState", "(I)Z"⟩ ∈ tw := tw_of (tb_9 (List.mem_of_getElem? (i := 59) rfl)) rfl
theorem ks56 : Cond.selects "DrawingMachineModel$DrawCommandsModel" ⟨"DrawingMachineModel$DrawCommandsModel", "fitsState", "(I)Z"⟩ ⟨"DrawingMachineModel$DrawCommandsModel", "fitsState", "(I)Z"⟩ ∈ tw := tw_sel 56 rfl rfl
theorem k1980 : Cond.code ⟨"DrawingMachineModel$DrawCommandsModel", "fitsState", "(I)Z"⟩ prog_15_method_24_code 2 (Option.some .boolean) ∈ tw := tw_of (tb_9 (List.mem_of_getElem? (i := 60) rfl)) rfl
theorem k1937 : Cond.constantLong "DrawingMachineModel$DrawCommandsModel" 61 (7 : Int64) ∈ tw := tw_of (tb_9 (List.mem_of_getElem? (i := 17) rfl)) rfl
theorem k1938 : Cond.constantLong "DrawingMachineModel$DrawCommandsModel" 57 (16777215 : Int64) ∈ tw := tw_of (tb_9 (List.mem_of_getElem? (i := 18) rfl)) rfl
theorem k1939 : Cond.constantLong "DrawingMachineModel$DrawCommandsModel" 63 (255 : Int64) ∈ tw := tw_of (tb_9 (List.mem_of_getElem? (i := 19) rfl)) rfl
theorem k1940 : Cond.methodLink "DrawingMachineModel$DrawCommandsModel" 79 ⟨"DrawingMachineModel$DrawCommandsModel", "isViews", "(II)Z"⟩ ∈ tw := tw_of (tb_9 (List.mem_of_getElem? (i := 20) rfl)) rfl
theorem k1941 : Cond.static ⟨"DrawingMachineModel$DrawCommandsModel", "isViews", "(II)Z"⟩ ∈ tw := tw_of (tb_9 (List.mem_of_getElem? (i := 21) rfl)) rfl
theorem k1942 : Cond.code ⟨"DrawingMachineModel$DrawCommandsModel", "isViews", "(II)Z"⟩ prog_15_method_5_code 2 (Option.some .boolean) ∈ tw := tw_of (tb_9 (List.mem_of_getElem? (i := 22) rfl)) rfl
theorem k1946 : Cond.constantLong "DrawingMachineModel$DrawCommandsModel" 67 (1048576 : Int64) ∈ tw := tw_of (tb_9 (List.mem_of_getElem? (i := 26) rfl)) rfl
theorem k1945 : Cond.constantLong "DrawingMachineModel$DrawCommandsModel" 55 (1024 : Int64) ∈ tw := tw_of (tb_9 (List.mem_of_getElem? (i := 25) rfl)) rfl
theorem k1947 : Cond.constantLong "DrawingMachineModel$DrawCommandsModel" 83 (4 : Int64) ∈ tw := tw_of (tb_9 (List.mem_of_getElem? (i := 27) rfl)) rfl
theorem k1948 : Cond.constantLong "DrawingMachineModel$DrawCommandsModel" 65 (3 : Int64) ∈ tw := tw_of (tb_9 (List.mem_of_getElem? (i := 28) rfl)) rfl
theorem k1949 : Cond.constantLong "DrawingMachineModel$DrawCommandsModel" 85 (31 : Int64) ∈ tw := tw_of (tb_9 (List.mem_of_getElem? (i := 29) rfl)) rfl
theorem k1950 : Cond.constantLong "DrawingMachineModel$DrawCommandsModel" 87 (32 : Int64) ∈ tw := tw_of (tb_9 (List.mem_of_getElem? (i := 30) rfl)) rfl
theorem k1951 : Cond.constantLong "DrawingMachineModel$DrawCommandsModel" 89 (256 : Int64) ∈ tw := tw_of (tb_9 (List.mem_of_getElem? (i := 31) rfl)) rfl
theorem k1952 : Cond.methodLink "DrawingMachineModel$DrawCommandsModel" 91 ⟨"DrawingMachineModel$DrawCommandsModel", "isTextures", "(II)Z"⟩ ∈ tw := tw_of (tb_9 (List.mem_of_getElem? (i := 32) rfl)) rfl
theorem k1953 : Cond.static ⟨"DrawingMachineModel$DrawCommandsModel", "isTextures", "(II)Z"⟩ ∈ tw := tw_of (tb_9 (List.mem_of_getElem? (i := 33) rfl)) rfl
theorem k1954 : Cond.code ⟨"DrawingMachineModel$DrawCommandsModel", "isTextures", "(II)Z"⟩ prog_15_method_7_code 2 (Option.some .boolean) ∈ tw := tw_of (tb_9 (List.mem_of_getElem? (i := 34) rfl)) rfl
theorem k1957 : Cond.constantLong "DrawingMachineModel$DrawCommandsModel" 59 (-1 : Int64) ∈ tw := tw_of (tb_9 (List.mem_of_getElem? (i := 37) rfl)) rfl
theorem k1958 : Cond.methodLink "DrawingMachineModel$DrawCommandsModel" 94 ⟨"DrawingMachineModel$DrawCommandsModel", "isStencils", "(II)Z"⟩ ∈ tw := tw_of (tb_9 (List.mem_of_getElem? (i := 38) rfl)) rfl
theorem k1959 : Cond.static ⟨"DrawingMachineModel$DrawCommandsModel", "isStencils", "(II)Z"⟩ ∈ tw := tw_of (tb_9 (List.mem_of_getElem? (i := 39) rfl)) rfl
theorem k1960 : Cond.code ⟨"DrawingMachineModel$DrawCommandsModel", "isStencils", "(II)Z"⟩ prog_15_method_6_code 2 (Option.some .boolean) ∈ tw := tw_of (tb_9 (List.mem_of_getElem? (i := 40) rfl)) rfl
theorem k1961 : Cond.constantLong "DrawingMachineModel$DrawCommandsModel" 97 (14 : Int64) ∈ tw := tw_of (tb_9 (List.mem_of_getElem? (i := 41) rfl)) rfl
theorem k1962 : Cond.constantLong "DrawingMachineModel$DrawCommandsModel" 99 (15 : Int64) ∈ tw := tw_of (tb_9 (List.mem_of_getElem? (i := 42) rfl)) rfl
theorem k1963 : Cond.constantLong "DrawingMachineModel$DrawCommandsModel" 77 (2 : Int64) ∈ tw := tw_of (tb_9 (List.mem_of_getElem? (i := 43) rfl)) rfl
theorem k1964 : Cond.constantLong "DrawingMachineModel$DrawCommandsModel" 101 (4096 : Int64) ∈ tw := tw_of (tb_9 (List.mem_of_getElem? (i := 44) rfl)) rfl
theorem k1965 : Cond.methodLink "DrawingMachineModel$DrawCommandsModel" 103 ⟨"DrawingMachineModel$DrawCommandsModel", "isCopys", "(II)Z"⟩ ∈ tw := tw_of (tb_9 (List.mem_of_getElem? (i := 45) rfl)) rfl
theorem k1966 : Cond.static ⟨"DrawingMachineModel$DrawCommandsModel", "isCopys", "(II)Z"⟩ ∈ tw := tw_of (tb_9 (List.mem_of_getElem? (i := 46) rfl)) rfl
theorem k1967 : Cond.code ⟨"DrawingMachineModel$DrawCommandsModel", "isCopys", "(II)Z"⟩ prog_15_method_8_code 2 (Option.some .boolean) ∈ tw := tw_of (tb_9 (List.mem_of_getElem? (i := 47) rfl)) rfl
theorem k1943 : Cond.constantLong "DrawingMachineModel$DrawCommandsModel" 47 (-1023 : Int64) ∈ tw := tw_of (tb_9 (List.mem_of_getElem? (i := 23) rfl)) rfl
theorem k1944 : Cond.constantLong "DrawingMachineModel$DrawCommandsModel" 49 (1023 : Int64) ∈ tw := tw_of (tb_9 (List.mem_of_getElem? (i := 24) rfl)) rfl
theorem k1955 : Cond.constantLong "DrawingMachineModel$DrawCommandsModel" 69 (10 : Int64) ∈ tw := tw_of (tb_9 (List.mem_of_getElem? (i := 35) rfl)) rfl
theorem k1956 : Cond.constantLong "DrawingMachineModel$DrawCommandsModel" 71 (11 : Int64) ∈ tw := tw_of (tb_9 (List.mem_of_getElem? (i := 36) rfl)) rfl
theorem k1968 : Cond.constantLong "DrawingMachineModel$DrawCommandsModel" 73 (127 : Int64) ∈ tw := tw_of (tb_9 (List.mem_of_getElem? (i := 48) rfl)) rfl
theorem k1973 : Cond.methodLink "DrawingMachineModel$DrawCommandsModel" 156 ⟨"DrawingMachineModel$DrawCommandsModel", "isInMemory", "(JJ)Z"⟩ ∈ tw := tw_of (tb_9 (List.mem_of_getElem? (i := 53) rfl)) rfl
theorem k1975 : Cond.instanceMethod ⟨"DrawingMachineModel$DrawCommandsModel", "isInMemory", "(JJ)Z"⟩ ∈ tw := tw_of (tb_9 (List.mem_of_getElem? (i := 55) rfl)) rfl
theorem ks55 : Cond.selects "DrawingMachineModel$DrawCommandsModel" ⟨"DrawingMachineModel$DrawCommandsModel", "isInMemory", "(JJ)Z"⟩ ⟨"DrawingMachineModel$DrawCommandsModel", "isInMemory", "(JJ)Z"⟩ ∈ tw := tw_sel 55 rfl rfl
theorem k1976 : Cond.code ⟨"DrawingMachineModel$DrawCommandsModel", "isInMemory", "(JJ)Z"⟩ prog_15_method_22_code 5 (Option.some .boolean) ∈ tw := tw_of (tb_9 (List.mem_of_getElem? (i := 56) rfl)) rfl
theorem k1985 : Cond.methodLink "DrawingMachineModel$DrawCommandsModel" 183 ⟨"DrawingMachineModel$DrawCommandsModel", "keep", "(I)V"⟩ ∈ tw := tw_of (tb_9 (List.mem_of_getElem? (i := 65) rfl)) rfl
theorem k1987 : Cond.instanceMethod ⟨"DrawingMachineModel$DrawCommandsModel", "keep", "(I)V"⟩ ∈ tw := tw_of (tb_9 (List.mem_of_getElem? (i := 67) rfl)) rfl
theorem ks58 : Cond.selects "DrawingMachineModel$DrawCommandsModel" ⟨"DrawingMachineModel$DrawCommandsModel", "keep", "(I)V"⟩ ⟨"DrawingMachineModel$DrawCommandsModel", "keep", "(I)V"⟩ ∈ tw := tw_sel 58 rfl rfl
theorem k1988 : Cond.code ⟨"DrawingMachineModel$DrawCommandsModel", "keep", "(I)V"⟩ prog_15_method_28_code 4 none ∈ tw := tw_of (tb_9 (List.mem_of_getElem? (i := 68) rfl)) rfl
theorem k1993 : Cond.methodLink "DrawingMachineModel" 211 ⟨"DrawingMachineModel$PlaceTestsModel", "scissors", "(IIII)V"⟩ ∈ tw := tw_of (tb_9 (List.mem_of_getElem? (i := 73) rfl)) rfl
theorem k1994 : Cond.instanceMethod ⟨"DrawingMachineModel$PlaceTestsModel", "scissors", "(IIII)V"⟩ ∈ tw := tw_of (tb_9 (List.mem_of_getElem? (i := 74) rfl)) rfl
theorem k1995 : Cond.selects "DrawingMachineModel$PlaceTestsModel" ⟨"DrawingMachineModel$PlaceTestsModel", "scissors", "(IIII)V"⟩ ⟨"DrawingMachineModel$PlaceTestsModel", "scissors", "(IIII)V"⟩ ∈ tw := tw_of (tb_9 (List.mem_of_getElem? (i := 75) rfl)) rfl
theorem k1996 : Cond.code ⟨"DrawingMachineModel$PlaceTestsModel", "scissors", "(IIII)V"⟩ prog_17_method_5_code 5 none ∈ tw := tw_of (tb_9 (List.mem_of_getElem? (i := 76) rfl)) rfl
theorem k1997 : Cond.methodLink "DrawingMachineModel" 214 ⟨"DrawingMachineModel$PlaceTestsModel", "depth", "(IZ)V"⟩ ∈ tw := tw_of (tb_9 (List.mem_of_getElem? (i := 77) rfl)) rfl
theorem k1998 : Cond.instanceMethod ⟨"DrawingMachineModel$PlaceTestsModel", "depth", "(IZ)V"⟩ ∈ tw := tw_of (tb_9 (List.mem_of_getElem? (i := 78) rfl)) rfl
theorem k1999 : Cond.selects "DrawingMachineModel$PlaceTestsModel" ⟨"DrawingMachineModel$PlaceTestsModel", "depth", "(IZ)V"⟩ ⟨"DrawingMachineModel$PlaceTestsModel", "depth", "(IZ)V"⟩ ∈ tw := tw_of (tb_9 (List.mem_of_getElem? (i := 79) rfl)) rfl
theorem k2000 : Cond.code ⟨"DrawingMachineModel$PlaceTestsModel", "depth", "(IZ)V"⟩ prog_17_method_6_code 3 none ∈ tw := tw_of (tb_9 (List.mem_of_getElem? (i := 80) rfl)) rfl
theorem k2001 : Cond.methodLink "DrawingMachineModel" 218 ⟨"DrawingMachineModel$PlaceTestsModel", "stencil", "(IIIIIIII)V"⟩ ∈ tw := tw_of (tb_9 (List.mem_of_getElem? (i := 81) rfl)) rfl
theorem k2002 : Cond.instanceMethod ⟨"DrawingMachineModel$PlaceTestsModel", "stencil", "(IIIIIIII)V"⟩ ∈ tw := tw_of (tb_9 (List.mem_of_getElem? (i := 82) rfl)) rfl
theorem k2003 : Cond.selects "DrawingMachineModel$PlaceTestsModel" ⟨"DrawingMachineModel$PlaceTestsModel", "stencil", "(IIIIIIII)V"⟩ ⟨"DrawingMachineModel$PlaceTestsModel", "stencil", "(IIIIIIII)V"⟩ ∈ tw := tw_of (tb_9 (List.mem_of_getElem? (i := 83) rfl)) rfl
theorem k2004 : Cond.code ⟨"DrawingMachineModel$PlaceTestsModel", "stencil", "(IIIIIIII)V"⟩ prog_17_method_7_code 11 none ∈ tw := tw_of (tb_9 (List.mem_of_getElem? (i := 84) rfl)) rfl
theorem k2005 : Cond.methodLink "DrawingMachineModel" 222 ⟨"DrawingMachineModel$PlaceTestsModel", "blend", "(IIIIII)V"⟩ ∈ tw := tw_of (tb_9 (List.mem_of_getElem? (i := 85) rfl)) rfl
theorem k2006 : Cond.instanceMethod ⟨"DrawingMachineModel$PlaceTestsModel", "blend", "(IIIIII)V"⟩ ∈ tw := tw_of (tb_9 (List.mem_of_getElem? (i := 86) rfl)) rfl
theorem k2007 : Cond.selects "DrawingMachineModel$PlaceTestsModel" ⟨"DrawingMachineModel$PlaceTestsModel", "blend", "(IIIIII)V"⟩ ⟨"DrawingMachineModel$PlaceTestsModel", "blend", "(IIIIII)V"⟩ ∈ tw := tw_of (tb_9 (List.mem_of_getElem? (i := 87) rfl)) rfl
theorem k2008 : Cond.code ⟨"DrawingMachineModel$PlaceTestsModel", "blend", "(IIIIII)V"⟩ prog_17_method_8_code 8 none ∈ tw := tw_of (tb_9 (List.mem_of_getElem? (i := 88) rfl)) rfl
theorem k2009 : Cond.methodLink "DrawingMachineModel" 226 ⟨"DrawingMachineModel$PlaceTestsModel", "constant", "(I)V"⟩ ∈ tw := tw_of (tb_9 (List.mem_of_getElem? (i := 89) rfl)) rfl
theorem k2010 : Cond.instanceMethod ⟨"DrawingMachineModel$PlaceTestsModel", "constant", "(I)V"⟩ ∈ tw := tw_of (tb_9 (List.mem_of_getElem? (i := 90) rfl)) rfl
theorem k2011 : Cond.selects "DrawingMachineModel$PlaceTestsModel" ⟨"DrawingMachineModel$PlaceTestsModel", "constant", "(I)V"⟩ ⟨"DrawingMachineModel$PlaceTestsModel", "constant", "(I)V"⟩ ∈ tw := tw_of (tb_9 (List.mem_of_getElem? (i := 91) rfl)) rfl
theorem k2012 : Cond.code ⟨"DrawingMachineModel$PlaceTestsModel", "constant", "(I)V"⟩ prog_17_method_9_code 3 none ∈ tw := tw_of (tb_9 (List.mem_of_getElem? (i := 92) rfl)) rfl
theorem k2013 : Cond.methodLink "DrawingMachineModel" 230 ⟨"DrawingMachineModel$PlaceTestsModel", "logic", "(I)V"⟩ ∈ tw := tw_of (tb_9 (List.mem_of_getElem? (i := 93) rfl)) rfl
theorem k2014 : Cond.instanceMethod ⟨"DrawingMachineModel$PlaceTestsModel", "logic", "(I)V"⟩ ∈ tw := tw_of (tb_9 (List.mem_of_getElem? (i := 94) rfl)) rfl
theorem k2015 : Cond.selects "DrawingMachineModel$PlaceTestsModel" ⟨"DrawingMachineModel$PlaceTestsModel", "logic", "(I)V"⟩ ⟨"DrawingMachineModel$PlaceTestsModel", "logic", "(I)V"⟩ ∈ tw := tw_of (tb_9 (List.mem_of_getElem? (i := 95) rfl)) rfl
theorem k2016 : Cond.code ⟨"DrawingMachineModel$PlaceTestsModel", "logic", "(I)V"⟩ prog_17_method_10_code 2 none ∈ tw := tw_of (tb_9 (List.mem_of_getElem? (i := 96) rfl)) rfl
theorem k2017 : Cond.methodLink "DrawingMachineModel" 233 ⟨"DrawingMachineModel$PlaceTestsModel", "mask", "(I)V"⟩ ∈ tw := tw_of (tb_9 (List.mem_of_getElem? (i := 97) rfl)) rfl
theorem k2018 : Cond.instanceMethod ⟨"DrawingMachineModel$PlaceTestsModel", "mask", "(I)V"⟩ ∈ tw := tw_of (tb_9 (List.mem_of_getElem? (i := 98) rfl)) rfl
theorem k2019 : Cond.selects "DrawingMachineModel$PlaceTestsModel" ⟨"DrawingMachineModel$PlaceTestsModel", "mask", "(I)V"⟩ ⟨"DrawingMachineModel$PlaceTestsModel", "mask", "(I)V"⟩ ∈ tw := tw_of (tb_9 (List.mem_of_getElem? (i := 99) rfl)) rfl
theorem k2020 : Cond.code ⟨"DrawingMachineModel$PlaceTestsModel", "mask", "(I)V"⟩ prog_17_method_11_code 2 none ∈ tw := tw_of (tb_9 (List.mem_of_getElem? (i := 100) rfl)) rfl
theorem k2021 : Cond.methodLink "DrawingMachineModel" 236 ⟨"DrawingMachineModel$VertexWorkModel", "view", "(IIIIII)V"⟩ ∈ tw := tw_of (tb_9 (List.mem_of_getElem? (i := 101) rfl)) rfl
theorem k2022 : Cond.instanceMethod ⟨"DrawingMachineModel$VertexWorkModel", "view", "(IIIIII)V"⟩ ∈ tw := tw_of (tb_9 (List.mem_of_getElem? (i := 102) rfl)) rfl
theorem k2023 : Cond.selects "DrawingMachineModel$VertexWorkModel" ⟨"DrawingMachineModel$VertexWorkModel", "view", "(IIIIII)V"⟩ ⟨"DrawingMachineModel$VertexWorkModel", "view", "(IIIIII)V"⟩ ∈ tw := tw_of (tb_9 (List.mem_of_getElem? (i := 103) rfl)) rfl
theorem k2024 : Cond.code ⟨"DrawingMachineModel$VertexWorkModel", "view", "(IIIIII)V"⟩ prog_20_method_16_code 8 none ∈ tw := tw_of (tb_9 (List.mem_of_getElem? (i := 104) rfl)) rfl
theorem k2032 : Cond.methodLink "DrawingMachineModel" 239 ⟨"DrawingMachineModel$VertexWorkModel", "faces", "(IZ)V"⟩ ∈ tw := tw_of (tb_9 (List.mem_of_getElem? (i := 112) rfl)) rfl
theorem k2033 : Cond.instanceMethod ⟨"DrawingMachineModel$VertexWorkModel", "faces", "(IZ)V"⟩ ∈ tw := tw_of (tb_9 (List.mem_of_getElem? (i := 113) rfl)) rfl
theorem k2034 : Cond.selects "DrawingMachineModel$VertexWorkModel" ⟨"DrawingMachineModel$VertexWorkModel", "faces", "(IZ)V"⟩ ⟨"DrawingMachineModel$VertexWorkModel", "faces", "(IZ)V"⟩ ∈ tw := tw_of (tb_9 (List.mem_of_getElem? (i := 114) rfl)) rfl
theorem k2035 : Cond.code ⟨"DrawingMachineModel$VertexWorkModel", "faces", "(IZ)V"⟩ prog_20_method_17_code 3 none ∈ tw := tw_of (tb_9 (List.mem_of_getElem? (i := 115) rfl)) rfl
theorem k2036 : Cond.methodLink "DrawingMachineModel" 242 ⟨"DrawingMachineModel$VertexWorkModel", "attribute", "(IIIII)V"⟩ ∈ tw := tw_of (tb_9 (List.mem_of_getElem? (i := 116) rfl)) rfl
theorem k2037 : Cond.instanceMethod ⟨"DrawingMachineModel$VertexWorkModel", "attribute", "(IIIII)V"⟩ ∈ tw := tw_of (tb_9 (List.mem_of_getElem? (i := 117) rfl)) rfl
theorem k2038 : Cond.selects "DrawingMachineModel$VertexWorkModel" ⟨"DrawingMachineModel$VertexWorkModel", "attribute", "(IIIII)V"⟩ ⟨"DrawingMachineModel$VertexWorkModel", "attribute", "(IIIII)V"⟩ ∈ tw := tw_of (tb_9 (List.mem_of_getElem? (i := 118) rfl)) rfl
theorem k2039 : Cond.code ⟨"DrawingMachineModel$VertexWorkModel", "attribute", "(IIIII)V"⟩ prog_20_method_6_code 6 none ∈ tw := tw_of (tb_9 (List.mem_of_getElem? (i := 119) rfl)) rfl
theorem k2040 : Cond.methodLink "DrawingMachineModel" 246 ⟨"DrawingMachineModel$TextureUnitsModel", "picture", "(IIIIII)V"⟩ ∈ tw := tw_of (tb_9 (List.mem_of_getElem? (i := 120) rfl)) rfl
theorem k2041 : Cond.instanceMethod ⟨"DrawingMachineModel$TextureUnitsModel", "picture", "(IIIIII)V"⟩ ∈ tw := tw_of (tb_9 (List.mem_of_getElem? (i := 121) rfl)) rfl
theorem k2042 : Cond.selects "DrawingMachineModel$TextureUnitsModel" ⟨"DrawingMachineModel$TextureUnitsModel", "picture", "(IIIIII)V"⟩ ⟨"DrawingMachineModel$TextureUnitsModel", "picture", "(IIIIII)V"⟩ ∈ tw := tw_of (tb_9 (List.mem_of_getElem? (i := 122) rfl)) rfl
theorem k2043 : Cond.code ⟨"DrawingMachineModel$TextureUnitsModel", "picture", "(IIIIII)V"⟩ prog_19_method_4_code 8 none ∈ tw := tw_of (tb_9 (List.mem_of_getElem? (i := 123) rfl)) rfl
theorem k2051 : Cond.methodLink "DrawingMachineModel" 249 ⟨"DrawingMachineModel$TextureUnitsModel", "manner", "(IIII)V"⟩ ∈ tw := tw_of (tb_9 (List.mem_of_getElem? (i := 131) rfl)) rfl
theorem k2052 : Cond.instanceMethod ⟨"DrawingMachineModel$TextureUnitsModel", "manner", "(IIII)V"⟩ ∈ tw := tw_of (tb_9 (List.mem_of_getElem? (i := 132) rfl)) rfl
theorem k2053 : Cond.selects "DrawingMachineModel$TextureUnitsModel" ⟨"DrawingMachineModel$TextureUnitsModel", "manner", "(IIII)V"⟩ ⟨"DrawingMachineModel$TextureUnitsModel", "manner", "(IIII)V"⟩ ∈ tw := tw_of (tb_9 (List.mem_of_getElem? (i := 133) rfl)) rfl
theorem k2054 : Cond.code ⟨"DrawingMachineModel$TextureUnitsModel", "manner", "(IIII)V"⟩ prog_19_method_5_code 5 none ∈ tw := tw_of (tb_9 (List.mem_of_getElem? (i := 134) rfl)) rfl
theorem k2055 : Cond.methodLink "DrawingMachineModel" 252 ⟨"DrawingMachineModel$TextureUnitsModel", "border", "(IIIII)V"⟩ ∈ tw := tw_of (tb_9 (List.mem_of_getElem? (i := 135) rfl)) rfl
theorem k2056 : Cond.instanceMethod ⟨"DrawingMachineModel$TextureUnitsModel", "border", "(IIIII)V"⟩ ∈ tw := tw_of (tb_9 (List.mem_of_getElem? (i := 136) rfl)) rfl
theorem k2057 : Cond.selects "DrawingMachineModel$TextureUnitsModel" ⟨"DrawingMachineModel$TextureUnitsModel", "border", "(IIIII)V"⟩ ⟨"DrawingMachineModel$TextureUnitsModel", "border", "(IIIII)V"⟩ ∈ tw := tw_of (tb_9 (List.mem_of_getElem? (i := 137) rfl)) rfl
theorem k2058 : Cond.code ⟨"DrawingMachineModel$TextureUnitsModel", "border", "(IIIII)V"⟩ prog_19_method_6_code 6 none ∈ tw := tw_of (tb_9 (List.mem_of_getElem? (i := 138) rfl)) rfl
theorem k1706 : Cond.fieldLink "DrawingMachineModel$PlaceTestsModel" 77 "DrawingMachineModel$PlaceTestsModel" "scissored" "Z" ∈ tw := tw_of (tb_8 (List.mem_of_getElem? (i := 26) rfl)) rfl
theorem k1709 : Cond.fieldLink "DrawingMachineModel$PlaceTestsModel" 81 "DrawingMachineModel$PlaceTestsModel" "depthWritten" "Z" ∈ tw := tw_of (tb_8 (List.mem_of_getElem? (i := 29) rfl)) rfl
theorem k1713 : Cond.fieldLink "DrawingMachineModel$PlaceTestsModel" 84 "DrawingMachineModel$PlaceTestsModel" "equationA" "I" ∈ tw := tw_of (tb_8 (List.mem_of_getElem? (i := 33) rfl)) rfl
theorem k2025 : Cond.methodLink "DrawingMachineModel$VertexWorkModel" 38 ⟨"DrawingMachineModel$VertexWorkModel", "in", "(III)Z"⟩ ∈ tw := tw_of (tb_9 (List.mem_of_getElem? (i := 105) rfl)) rfl
theorem k2026 : Cond.static ⟨"DrawingMachineModel$VertexWorkModel", "in", "(III)Z"⟩ ∈ tw := tw_of (tb_9 (List.mem_of_getElem? (i := 106) rfl)) rfl
theorem k2027 : Cond.code ⟨"DrawingMachineModel$VertexWorkModel", "in", "(III)Z"⟩ prog_20_method_3_code 3 (Option.some .boolean) ∈ tw := tw_of (tb_9 (List.mem_of_getElem? (i := 107) rfl)) rfl
theorem k2028 : Cond.methodLink "DrawingMachineModel$VertexWorkModel" 42 ⟨"DrawingMachineModel$VertexWorkModel", "refuse", "(ZZ)Z"⟩ ∈ tw := tw_of (tb_9 (List.mem_of_getElem? (i := 108) rfl)) rfl
theorem k2030 : Cond.instanceMethod ⟨"DrawingMachineModel$VertexWorkModel", "refuse", "(ZZ)Z"⟩ ∈ tw := tw_of (tb_9 (List.mem_of_getElem? (i := 110) rfl)) rfl
theorem ks60 : Cond.selects "DrawingMachineModel$VertexWorkModel" ⟨"DrawingMachineModel$VertexWorkModel", "refuse", "(ZZ)Z"⟩ ⟨"DrawingMachineModel$VertexWorkModel", "refuse", "(ZZ)Z"⟩ ∈ tw := tw_sel 60 rfl rfl
theorem k2031 : Cond.code ⟨"DrawingMachineModel$VertexWorkModel", "refuse", "(ZZ)Z"⟩ prog_20_method_2_code 3 (Option.some .boolean) ∈ tw := tw_of (tb_9 (List.mem_of_getElem? (i := 111) rfl)) rfl
theorem k1632 : Cond.fieldLink "DrawingMachineModel$VertexWorkModel" 64 "DrawingMachineModel$VertexWorkModel" "made" "I" ∈ tw := tw_of (tb_7 (List.mem_of_getElem? (i := 192) rfl)) rfl
theorem k1621 : Cond.fieldLink "DrawingMachineModel$VertexWorkModel" 32 "DrawingMachineModel$VertexWorkModel" "thrown" "I" ∈ tw := tw_of (tb_7 (List.mem_of_getElem? (i := 181) rfl)) rfl
theorem k1626 : Cond.fieldLink "DrawingMachineModel$VertexWorkModel" 67 "DrawingMachineModel$VertexWorkModel" "out" "I" ∈ tw := tw_of (tb_7 (List.mem_of_getElem? (i := 186) rfl)) rfl
theorem k1627 : Cond.fieldLink "DrawingMachineModel$VertexWorkModel" 70 "DrawingMachineModel$VertexWorkModel" "clock" "Z" ∈ tw := tw_of (tb_7 (List.mem_of_getElem? (i := 187) rfl)) rfl
theorem k2044 : Cond.methodLink "DrawingMachineModel$TextureUnitsModel" 44 ⟨"DrawingMachineModel$TextureUnitsModel", "in", "(III)Z"⟩ ∈ tw := tw_of (tb_9 (List.mem_of_getElem? (i := 124) rfl)) rfl
theorem k2045 : Cond.static ⟨"DrawingMachineModel$TextureUnitsModel", "in", "(III)Z"⟩ ∈ tw := tw_of (tb_9 (List.mem_of_getElem? (i := 125) rfl)) rfl
theorem k2046 : Cond.code ⟨"DrawingMachineModel$TextureUnitsModel", "in", "(III)Z"⟩ prog_19_method_3_code 3 (Option.some .boolean) ∈ tw := tw_of (tb_9 (List.mem_of_getElem? (i := 126) rfl)) rfl
theorem k2047 : Cond.methodLink "DrawingMachineModel$TextureUnitsModel" 48 ⟨"DrawingMachineModel$TextureUnitsModel", "refuse", "(ZZ)Z"⟩ ∈ tw := tw_of (tb_9 (List.mem_of_getElem? (i := 127) rfl)) rfl
theorem k2049 : Cond.instanceMethod ⟨"DrawingMachineModel$TextureUnitsModel", "refuse", "(ZZ)Z"⟩ ∈ tw := tw_of (tb_9 (List.mem_of_getElem? (i := 129) rfl)) rfl
theorem ks61 : Cond.selects "DrawingMachineModel$TextureUnitsModel" ⟨"DrawingMachineModel$TextureUnitsModel", "refuse", "(ZZ)Z"⟩ ⟨"DrawingMachineModel$TextureUnitsModel", "refuse", "(ZZ)Z"⟩ ∈ tw := tw_sel 61 rfl rfl
theorem k2050 : Cond.code ⟨"DrawingMachineModel$TextureUnitsModel", "refuse", "(ZZ)Z"⟩ prog_19_method_2_code 3 (Option.some .boolean) ∈ tw := tw_of (tb_9 (List.mem_of_getElem? (i := 130) rfl)) rfl
theorem k1513 : Cond.fieldLink "DrawingMachineModel$TextureUnitsModel" 40 "DrawingMachineModel$TextureUnitsModel" "thrown" "I" ∈ tw := tw_of (tb_7 (List.mem_of_getElem? (i := 73) rfl)) rfl
theorem k2063 : Cond.constant "DrawingMachineModel$PlaceTestsModel" 91 (16777215 : Int32) ∈ tw := tw_of (tb_9 (List.mem_of_getElem? (i := 143) rfl)) rfl
theorem k2064 : Cond.methodLink "DrawingMachineModel$PlaceTestsModel" 92 ⟨"DrawingMachineModel$PlaceTestsModel", "isOpen", "(II)Z"⟩ ∈ tw := tw_of (tb_9 (List.mem_of_getElem? (i := 144) rfl)) rfl
theorem k2066 : Cond.instanceMethod ⟨"DrawingMachineModel$PlaceTestsModel", "isOpen", "(II)Z"⟩ ∈ tw := tw_of (tb_9 (List.mem_of_getElem? (i := 146) rfl)) rfl
theorem ks62 : Cond.selects "DrawingMachineModel$PlaceTestsModel" ⟨"DrawingMachineModel$PlaceTestsModel", "isOpen", "(II)Z"⟩ ⟨"DrawingMachineModel$PlaceTestsModel", "isOpen", "(II)Z"⟩ ∈ tw := tw_sel 62 rfl rfl
theorem k2067 : Cond.code ⟨"DrawingMachineModel$PlaceTestsModel", "isOpen", "(II)Z"⟩ prog_17_method_13_code 4 (Option.some .boolean) ∈ tw := tw_of (tb_9 (List.mem_of_getElem? (i := 147) rfl)) rfl
theorem k2072 : Cond.methodLink "DrawingMachineModel$PlaceTestsModel" 95 ⟨"DrawingMachineModel$PlaceTestsModel", "placeOf", "(II)I"⟩ ∈ tw := tw_of (tb_9 (List.mem_of_getElem? (i := 152) rfl)) rfl
theorem k2074 : Cond.instanceMethod ⟨"DrawingMachineModel$PlaceTestsModel", "placeOf", "(II)I"⟩ ∈ tw := tw_of (tb_9 (List.mem_of_getElem? (i := 154) rfl)) rfl
theorem ks64 : Cond.selects "DrawingMachineModel$PlaceTestsModel" ⟨"DrawingMachineModel$PlaceTestsModel", "placeOf", "(II)I"⟩ ⟨"DrawingMachineModel$PlaceTestsModel", "placeOf", "(II)I"⟩ ∈ tw := tw_sel 64 rfl rfl
theorem k2075 : Cond.code ⟨"DrawingMachineModel$PlaceTestsModel", "placeOf", "(II)I"⟩ prog_17_method_14_code 3 (Option.some .int) ∈ tw := tw_of (tb_9 (List.mem_of_getElem? (i := 155) rfl)) rfl
theorem k2076 : Cond.methodLink "DrawingMachineModel$PlaceTestsModel" 99 ⟨"DrawingMachineModel$PlaceTestsModel", "writeStencil", "(III)V"⟩ ∈ tw := tw_of (tb_9 (List.mem_of_getElem? (i := 156) rfl)) rfl
theorem k2078 : Cond.instanceMethod ⟨"DrawingMachineModel$PlaceTestsModel", "writeStencil", "(III)V"⟩ ∈ tw := tw_of (tb_9 (List.mem_of_getElem? (i := 158) rfl)) rfl
theorem ks65 : Cond.selects "DrawingMachineModel$PlaceTestsModel" ⟨"DrawingMachineModel$PlaceTestsModel", "writeStencil", "(III)V"⟩ ⟨"DrawingMachineModel$PlaceTestsModel", "writeStencil", "(III)V"⟩ ∈ tw := tw_sel 65 rfl rfl
theorem k2079 : Cond.code ⟨"DrawingMachineModel$PlaceTestsModel", "writeStencil", "(III)V"⟩ prog_17_method_15_code 4 none ∈ tw := tw_of (tb_9 (List.mem_of_getElem? (i := 159) rfl)) rfl
theorem k2068 : Cond.methodLink "DrawingMachineModel$PlaceTestsModel" 87 ⟨"DrawingMachineModel$PlaceTestsModel", "isInFrame", "(II)Z"⟩ ∈ tw := tw_of (tb_9 (List.mem_of_getElem? (i := 148) rfl)) rfl
theorem k2070 : Cond.instanceMethod ⟨"DrawingMachineModel$PlaceTestsModel", "isInFrame", "(II)Z"⟩ ∈ tw := tw_of (tb_9 (List.mem_of_getElem? (i := 150) rfl)) rfl
theorem ks63 : Cond.selects "DrawingMachineModel$PlaceTestsModel" ⟨"DrawingMachineModel$PlaceTestsModel", "isInFrame", "(II)Z"⟩ ⟨"DrawingMachineModel$PlaceTestsModel", "isInFrame", "(II)Z"⟩ ∈ tw := tw_sel 63 rfl rfl
theorem k2071 : Cond.code ⟨"DrawingMachineModel$PlaceTestsModel", "isInFrame", "(II)Z"⟩ prog_17_method_12_code 3 (Option.some .boolean) ∈ tw := tw_of (tb_9 (List.mem_of_getElem? (i := 151) rfl)) rfl
theorem k2084 : Cond.methodLink "DrawingMachineModel" 175 ⟨"DrawingMachineModel$ShaderMachineModel", "load", "(IIZ)I"⟩ ∈ tw := tw_of (tb_9 (List.mem_of_getElem? (i := 164) rfl)) rfl
theorem k2085 : Cond.instanceMethod ⟨"DrawingMachineModel$ShaderMachineModel", "load", "(IIZ)I"⟩ ∈ tw := tw_of (tb_9 (List.mem_of_getElem? (i := 165) rfl)) rfl
theorem k2086 : Cond.selects "DrawingMachineModel$ShaderMachineModel" ⟨"DrawingMachineModel$ShaderMachineModel", "load", "(IIZ)I"⟩ ⟨"DrawingMachineModel$ShaderMachineModel", "load", "(IIZ)I"⟩ ∈ tw := tw_of (tb_9 (List.mem_of_getElem? (i := 166) rfl)) rfl
theorem k2087 : Cond.code ⟨"DrawingMachineModel$ShaderMachineModel", "load", "(IIZ)I"⟩ prog_18_method_19_code 5 (Option.some .int) ∈ tw := tw_of (tb_9 (List.mem_of_getElem? (i := 167) rfl)) rfl
theorem k1775 : Cond.fieldLink "DrawingMachineModel" 182 "DrawingMachineModel" "fault" "I" ∈ tw := tw_of (tb_8 (List.mem_of_getElem? (i := 95) rfl)) rfl
theorem k1777 : Cond.fieldLink "DrawingMachineModel" 186 "DrawingMachineModel" "cornersSteps" "I" ∈ tw := tw_of (tb_8 (List.mem_of_getElem? (i := 97) rfl)) rfl
theorem k1778 : Cond.fieldLink "DrawingMachineModel" 189 "DrawingMachineModel" "placesSteps" "I" ∈ tw := tw_of (tb_8 (List.mem_of_getElem? (i := 98) rfl)) rfl
theorem k2088 : Cond.methodLink "DrawingMachineModel$ShaderMachineModel" 115 ⟨"DrawingMachineModel$ShaderMachineModel", "refuse", "(Z)Z"⟩ ∈ tw := tw_of (tb_9 (List.mem_of_getElem? (i := 168) rfl)) rfl
theorem k2090 : Cond.instanceMethod ⟨"DrawingMachineModel$ShaderMachineModel", "refuse", "(Z)Z"⟩ ∈ tw := tw_of (tb_9 (List.mem_of_getElem? (i := 170) rfl)) rfl
theorem ks67 : Cond.selects "DrawingMachineModel$ShaderMachineModel" ⟨"DrawingMachineModel$ShaderMachineModel", "refuse", "(Z)Z"⟩ ⟨"DrawingMachineModel$ShaderMachineModel", "refuse", "(Z)Z"⟩ ∈ tw := tw_sel 67 rfl rfl
theorem k2091 : Cond.code ⟨"DrawingMachineModel$ShaderMachineModel", "refuse", "(Z)Z"⟩ prog_18_method_18_code 2 (Option.some .boolean) ∈ tw := tw_of (tb_9 (List.mem_of_getElem? (i := 171) rfl)) rfl
theorem k2092 : Cond.methodLink "DrawingMachineModel$ShaderMachineModel" 119 ⟨"DrawingMachineModel$ShaderMachineModel", "check", "([IIZ)I"⟩ ∈ tw := tw_of (tb_9 (List.mem_of_getElem? (i := 172) rfl)) rfl
theorem k2094 : Cond.instanceMethod ⟨"DrawingMachineModel$ShaderMachineModel", "check", "([IIZ)I"⟩ ∈ tw := tw_of (tb_9 (List.mem_of_getElem? (i := 174) rfl)) rfl
theorem ks68 : Cond.selects "DrawingMachineModel$ShaderMachineModel" ⟨"DrawingMachineModel$ShaderMachineModel", "check", "([IIZ)I"⟩ ⟨"DrawingMachineModel$ShaderMachineModel", "check", "([IIZ)I"⟩ ∈ tw := tw_sel 68 rfl rfl
theorem k2095 : Cond.code ⟨"DrawingMachineModel$ShaderMachineModel", "check", "([IIZ)I"⟩ prog_18_method_17_code 6 (Option.some .int) ∈ tw := tw_of (tb_9 (List.mem_of_getElem? (i := 175) rfl)) rfl
theorem k1553 : Cond.fieldLink "DrawingMachineModel$ShaderMachineModel" 112 "DrawingMachineModel$ShaderMachineModel" "thrown" "I" ∈ tw := tw_of (tb_7 (List.mem_of_getElem? (i := 113) rfl)) rfl
theorem k2137 : Cond.methodLink "DrawingMachineModel$ShaderMachineModel" 89 ⟨"DrawingMachineModel$ShaderMachineModel", "around", "([II)I"⟩ ∈ tw := tw_of (tb_9 (List.mem_of_getElem? (i := 217) rfl)) rfl
theorem k2138 : Cond.static ⟨"DrawingMachineModel$ShaderMachineModel", "around", "([II)I"⟩ ∈ tw := tw_of (tb_9 (List.mem_of_getElem? (i := 218) rfl)) rfl
theorem k2139 : Cond.code ⟨"DrawingMachineModel$ShaderMachineModel", "around", "([II)I"⟩ prog_18_method_13_code 4 (Option.some .int) ∈ tw := tw_of (tb_9 (List.mem_of_getElem? (i := 219) rfl)) rfl
theorem k1558 : Cond.fieldLink "DrawingMachineModel$ShaderMachineModel" 123 "DrawingMachineModel$ShaderMachineModel" "hasProgram" "Z" ∈ tw := tw_of (tb_7 (List.mem_of_getElem? (i := 118) rfl)) rfl
theorem k2140 : Cond.methodLink "DrawingMachineModel$ShaderMachineModel" 106 ⟨"DrawingMachineModel$ShaderMachineModel", "steps", "([II)J"⟩ ∈ tw := tw_of (tb_9 (List.mem_of_getElem? (i := 220) rfl)) rfl
theorem k2141 : Cond.static ⟨"DrawingMachineModel$ShaderMachineModel", "steps", "([II)J"⟩ ∈ tw := tw_of (tb_9 (List.mem_of_getElem? (i := 221) rfl)) rfl
theorem k2142 : Cond.code ⟨"DrawingMachineModel$ShaderMachineModel", "steps", "([II)J"⟩ prog_18_method_15_code 8 (Option.some .long) ∈ tw := tw_of (tb_9 (List.mem_of_getElem? (i := 222) rfl)) rfl
theorem k2096 : Cond.methodLink "DrawingMachineModel$ShaderMachineModel" 95 ⟨"DrawingMachineModel$ShaderMachineModel", "faultOf", "([IIIZ)I"⟩ ∈ tw := tw_of (tb_9 (List.mem_of_getElem? (i := 176) rfl)) rfl
theorem k2097 : Cond.static ⟨"DrawingMachineModel$ShaderMachineModel", "faultOf", "([IIIZ)I"⟩ ∈ tw := tw_of (tb_9 (List.mem_of_getElem? (i := 177) rfl)) rfl
theorem k2098 : Cond.code ⟨"DrawingMachineModel$ShaderMachineModel", "faultOf", "([IIIZ)I"⟩ prog_18_method_12_code 5 (Option.some .int) ∈ tw := tw_of (tb_9 (List.mem_of_getElem? (i := 178) rfl)) rfl
theorem k2130 : Cond.methodLink "DrawingMachineModel$ShaderMachineModel" 99 ⟨"DrawingMachineModel$ShaderMachineModel", "no", "(II)I"⟩ ∈ tw := tw_of (tb_9 (List.mem_of_getElem? (i := 210) rfl)) rfl
theorem k2132 : Cond.instanceMethod ⟨"DrawingMachineModel$ShaderMachineModel", "no", "(II)I"⟩ ∈ tw := tw_of (tb_9 (List.mem_of_getElem? (i := 212) rfl)) rfl
theorem ks69 : Cond.selects "DrawingMachineModel$ShaderMachineModel" ⟨"DrawingMachineModel$ShaderMachineModel", "no", "(II)I"⟩ ⟨"DrawingMachineModel$ShaderMachineModel", "no", "(II)I"⟩ ∈ tw := tw_sel 69 rfl rfl
theorem k2133 : Cond.code ⟨"DrawingMachineModel$ShaderMachineModel", "no", "(II)I"⟩ prog_18_method_16_code 3 (Option.some .int) ∈ tw := tw_of (tb_9 (List.mem_of_getElem? (i := 213) rfl)) rfl
theorem k2099 : Cond.methodLink "DrawingMachineModel$ShaderMachineModel" 56 ⟨"DrawingMachineModel$ShaderMachineModel", "kindOf", "([II)I"⟩ ∈ tw := tw_of (tb_9 (List.mem_of_getElem? (i := 179) rfl)) rfl
theorem k2100 : Cond.static ⟨"DrawingMachineModel$ShaderMachineModel", "kindOf", "([II)I"⟩ ∈ tw := tw_of (tb_9 (List.mem_of_getElem? (i := 180) rfl)) rfl
theorem k2101 : Cond.code ⟨"DrawingMachineModel$ShaderMachineModel", "kindOf", "([II)I"⟩ prog_18_method_2_code 2 (Option.some .int) ∈ tw := tw_of (tb_9 (List.mem_of_getElem? (i := 181) rfl)) rfl
theorem k2134 : Cond.methodLink "DrawingMachineModel$ShaderMachineModel" 103 ⟨"DrawingMachineModel$ShaderMachineModel", "closing", "([III)I"⟩ ∈ tw := tw_of (tb_9 (List.mem_of_getElem? (i := 214) rfl)) rfl
theorem k2135 : Cond.static ⟨"DrawingMachineModel$ShaderMachineModel", "closing", "([III)I"⟩ ∈ tw := tw_of (tb_9 (List.mem_of_getElem? (i := 215) rfl)) rfl
theorem k2136 : Cond.code ⟨"DrawingMachineModel$ShaderMachineModel", "closing", "([III)I"⟩ prog_18_method_14_code 5 (Option.some .int) ∈ tw := tw_of (tb_9 (List.mem_of_getElem? (i := 216) rfl)) rfl
theorem k2124 : Cond.methodLink "DrawingMachineModel$ShaderMachineModel" 72 ⟨"DrawingMachineModel$ShaderMachineModel", "numberOf", "([II)I"⟩ ∈ tw := tw_of (tb_9 (List.mem_of_getElem? (i := 204) rfl)) rfl
theorem k2125 : Cond.static ⟨"DrawingMachineModel$ShaderMachineModel", "numberOf", "([II)I"⟩ ∈ tw := tw_of (tb_9 (List.mem_of_getElem? (i := 205) rfl)) rfl
theorem k2126 : Cond.code ⟨"DrawingMachineModel$ShaderMachineModel", "numberOf", "([II)I"⟩ prog_18_method_3_code 2 (Option.some .int) ∈ tw := tw_of (tb_9 (List.mem_of_getElem? (i := 206) rfl)) rfl
theorem k2143 : Cond.constantLong "DrawingMachineModel$ShaderMachineModel" 110 (65536 : Int64) ∈ tw := tw_of (tb_9 (List.mem_of_getElem? (i := 223) rfl)) rfl
theorem k2102 : Cond.methodLink "DrawingMachineModel$ShaderMachineModel" 75 ⟨"DrawingMachineModel$ShaderMachineModel", "badTarget", "([II)Z"⟩ ∈ tw := tw_of (tb_9 (List.mem_of_getElem? (i := 182) rfl)) rfl
theorem k2103 : Cond.static ⟨"DrawingMachineModel$ShaderMachineModel", "badTarget", "([II)Z"⟩ ∈ tw := tw_of (tb_9 (List.mem_of_getElem? (i := 183) rfl)) rfl
theorem k2104 : Cond.code ⟨"DrawingMachineModel$ShaderMachineModel", "badTarget", "([II)Z"⟩ prog_18_method_7_code 4 (Option.some .boolean) ∈ tw := tw_of (tb_9 (List.mem_of_getElem? (i := 184) rfl)) rfl
theorem k2108 : Cond.methodLink "DrawingMachineModel$ShaderMachineModel" 79 ⟨"DrawingMachineModel$ShaderMachineModel", "badSources", "([II)Z"⟩ ∈ tw := tw_of (tb_9 (List.mem_of_getElem? (i := 188) rfl)) rfl
theorem k2109 : Cond.static ⟨"DrawingMachineModel$ShaderMachineModel", "badSources", "([II)Z"⟩ ∈ tw := tw_of (tb_9 (List.mem_of_getElem? (i := 189) rfl)) rfl
theorem k2110 : Cond.code ⟨"DrawingMachineModel$ShaderMachineModel", "badSources", "([II)Z"⟩ prog_18_method_9_code 5 (Option.some .boolean) ∈ tw := tw_of (tb_9 (List.mem_of_getElem? (i := 190) rfl)) rfl
theorem k2121 : Cond.methodLink "DrawingMachineModel$ShaderMachineModel" 82 ⟨"DrawingMachineModel$ShaderMachineModel", "badNumber", "([III)Z"⟩ ∈ tw := tw_of (tb_9 (List.mem_of_getElem? (i := 201) rfl)) rfl
theorem k2122 : Cond.static ⟨"DrawingMachineModel$ShaderMachineModel", "badNumber", "([III)Z"⟩ ∈ tw := tw_of (tb_9 (List.mem_of_getElem? (i := 202) rfl)) rfl
theorem k2123 : Cond.code ⟨"DrawingMachineModel$ShaderMachineModel", "badNumber", "([III)Z"⟩ prog_18_method_10_code 4 (Option.some .boolean) ∈ tw := tw_of (tb_9 (List.mem_of_getElem? (i := 203) rfl)) rfl
theorem k2127 : Cond.methodLink "DrawingMachineModel$ShaderMachineModel" 86 ⟨"DrawingMachineModel$ShaderMachineModel", "depth", "([II)I"⟩ ∈ tw := tw_of (tb_9 (List.mem_of_getElem? (i := 207) rfl)) rfl
theorem k2128 : Cond.static ⟨"DrawingMachineModel$ShaderMachineModel", "depth", "([II)I"⟩ ∈ tw := tw_of (tb_9 (List.mem_of_getElem? (i := 208) rfl)) rfl
theorem k2129 : Cond.code ⟨"DrawingMachineModel$ShaderMachineModel", "depth", "([II)I"⟩ prog_18_method_11_code 4 (Option.some .int) ∈ tw := tw_of (tb_9 (List.mem_of_getElem? (i := 209) rfl)) rfl
theorem k2105 : Cond.methodLink "DrawingMachineModel$ShaderMachineModel" 52 ⟨"DrawingMachineModel$ShaderMachineModel", "hasTarget", "(I)Z"⟩ ∈ tw := tw_of (tb_9 (List.mem_of_getElem? (i := 185) rfl)) rfl
theorem k2106 : Cond.static ⟨"DrawingMachineModel$ShaderMachineModel", "hasTarget", "(I)Z"⟩ ∈ tw := tw_of (tb_9 (List.mem_of_getElem? (i := 186) rfl)) rfl
theorem k2107 : Cond.code ⟨"DrawingMachineModel$ShaderMachineModel", "hasTarget", "(I)Z"⟩ prog_18_method_5_code 1 (Option.some .boolean) ∈ tw := tw_of (tb_9 (List.mem_of_getElem? (i := 187) rfl)) rfl
theorem k2111 : Cond.methodLink "DrawingMachineModel$ShaderMachineModel" 60 ⟨"DrawingMachineModel$ShaderMachineModel", "sources", "(I)I"⟩ ∈ tw := tw_of (tb_9 (List.mem_of_getElem? (i := 191) rfl)) rfl
theorem k2112 : Cond.static ⟨"DrawingMachineModel$ShaderMachineModel", "sources", "(I)I"⟩ ∈ tw := tw_of (tb_9 (List.mem_of_getElem? (i := 192) rfl)) rfl
theorem k2113 : Cond.code ⟨"DrawingMachineModel$ShaderMachineModel", "sources", "(I)I"⟩ prog_18_method_6_code 1 (Option.some .int) ∈ tw := tw_of (tb_9 (List.mem_of_getElem? (i := 193) rfl)) rfl
theorem k2114 : Cond.methodLink "DrawingMachineModel$ShaderMachineModel" 64 ⟨"DrawingMachineModel$ShaderMachineModel", "sourceOf", "([III)I"⟩ ∈ tw := tw_of (tb_9 (List.mem_of_getElem? (i := 194) rfl)) rfl
theorem k2115 : Cond.static ⟨"DrawingMachineModel$ShaderMachineModel", "sourceOf", "([III)I"⟩ ∈ tw := tw_of (tb_9 (List.mem_of_getElem? (i := 195) rfl)) rfl
theorem k2116 : Cond.code ⟨"DrawingMachineModel$ShaderMachineModel", "sourceOf", "([III)I"⟩ prog_18_method_4_code 3 (Option.some .int) ∈ tw := tw_of (tb_9 (List.mem_of_getElem? (i := 196) rfl)) rfl
theorem k2118 : Cond.methodLink "DrawingMachineModel$ShaderMachineModel" 68 ⟨"DrawingMachineModel$ShaderMachineModel", "badSource", "(IZ)Z"⟩ ∈ tw := tw_of (tb_9 (List.mem_of_getElem? (i := 198) rfl)) rfl
theorem k2119 : Cond.static ⟨"DrawingMachineModel$ShaderMachineModel", "badSource", "(IZ)Z"⟩ ∈ tw := tw_of (tb_9 (List.mem_of_getElem? (i := 199) rfl)) rfl
theorem k2120 : Cond.code ⟨"DrawingMachineModel$ShaderMachineModel", "badSource", "(IZ)Z"⟩ prog_18_method_8_code 4 (Option.some .boolean) ∈ tw := tw_of (tb_9 (List.mem_of_getElem? (i := 200) rfl)) rfl
theorem k2117 : Cond.constant "DrawingMachineModel$ShaderMachineModel" 51 (65535 : Int32) ∈ tw := tw_of (tb_9 (List.mem_of_getElem? (i := 197) rfl)) rfl
theorem k1560 : Cond.fieldLink "DrawingMachineModel$ShaderMachineModel" 92 "DrawingMachineModel$ShaderMachineModel" "fault" "I" ∈ tw := tw_of (tb_7 (List.mem_of_getElem? (i := 120) rfl)) rfl
theorem k2152 : Cond.methodLink "DrawingMachineModel" 201 ⟨"DrawingMachineModel$VertexWorkModel", "triangles", "(II)I"⟩ ∈ tw := tw_of (tb_9 (List.mem_of_getElem? (i := 232) rfl)) rfl
theorem k2153 : Cond.instanceMethod ⟨"DrawingMachineModel$VertexWorkModel", "triangles", "(II)I"⟩ ∈ tw := tw_of (tb_9 (List.mem_of_getElem? (i := 233) rfl)) rfl
theorem k2154 : Cond.selects "DrawingMachineModel$VertexWorkModel" ⟨"DrawingMachineModel$VertexWorkModel", "triangles", "(II)I"⟩ ⟨"DrawingMachineModel$VertexWorkModel", "triangles", "(II)I"⟩ ∈ tw := tw_of (tb_9 (List.mem_of_getElem? (i := 234) rfl)) rfl
theorem k2155 : Cond.code ⟨"DrawingMachineModel$VertexWorkModel", "triangles", "(II)I"⟩ prog_20_method_11_code 3 (Option.some .int) ∈ tw := tw_of (tb_9 (List.mem_of_getElem? (i := 235) rfl)) rfl
theorem k2156 : Cond.constantLong "DrawingMachineModel" 204 (3 : Int64) ∈ tw := tw_of (tb_9 (List.mem_of_getElem? (i := 236) rfl)) rfl
theorem k2157 : Cond.constantLong "DrawingMachineModel" 206 (8388608 : Int64) ∈ tw := tw_of (tb_9 (List.mem_of_getElem? (i := 237) rfl)) rfl
theorem k2162 : Cond.methodLink "DrawingMachineModel" 258 ⟨"DrawingMachineModel$VertexWorkModel", "corner", "(III)I"⟩ ∈ tw := tw_of (tb_10 (List.mem_of_getElem? (i := 2) rfl)) rfl
theorem k2163 : Cond.instanceMethod ⟨"DrawingMachineModel$VertexWorkModel", "corner", "(III)I"⟩ ∈ tw := tw_of (tb_10 (List.mem_of_getElem? (i := 3) rfl)) rfl
theorem k2164 : Cond.selects "DrawingMachineModel$VertexWorkModel" ⟨"DrawingMachineModel$VertexWorkModel", "corner", "(III)I"⟩ ⟨"DrawingMachineModel$VertexWorkModel", "corner", "(III)I"⟩ ∈ tw := tw_of (tb_10 (List.mem_of_getElem? (i := 4) rfl)) rfl
theorem k2165 : Cond.code ⟨"DrawingMachineModel$VertexWorkModel", "corner", "(III)I"⟩ prog_20_method_12_code 5 (Option.some .int) ∈ tw := tw_of (tb_10 (List.mem_of_getElem? (i := 5) rfl)) rfl
theorem k2167 : Cond.methodLink "DrawingMachineModel" 261 ⟨"DrawingMachineModel", "corner", "(IIZ)V"⟩ ∈ tw := tw_of (tb_10 (List.mem_of_getElem? (i := 7) rfl)) rfl
theorem k2169 : Cond.instanceMethod ⟨"DrawingMachineModel", "corner", "(IIZ)V"⟩ ∈ tw := tw_of (tb_10 (List.mem_of_getElem? (i := 9) rfl)) rfl
theorem ks73 : Cond.selects "DrawingMachineModel" ⟨"DrawingMachineModel", "corner", "(IIZ)V"⟩ ⟨"DrawingMachineModel", "corner", "(IIZ)V"⟩ ∈ tw := tw_sel 73 rfl rfl
theorem k2170 : Cond.code ⟨"DrawingMachineModel", "corner", "(IIZ)V"⟩ prog_14_method_20_code 8 none ∈ tw := tw_of (tb_10 (List.mem_of_getElem? (i := 10) rfl)) rfl
theorem k2317 : Cond.methodLink "DrawingMachineModel" 263 ⟨"DrawingMachineModel$VertexWorkModel", "make", "()I"⟩ ∈ tw := tw_of (tb_10 (List.mem_of_getElem? (i := 157) rfl)) rfl
theorem k2318 : Cond.instanceMethod ⟨"DrawingMachineModel$VertexWorkModel", "make", "()I"⟩ ∈ tw := tw_of (tb_10 (List.mem_of_getElem? (i := 158) rfl)) rfl
theorem k2319 : Cond.selects "DrawingMachineModel$VertexWorkModel" ⟨"DrawingMachineModel$VertexWorkModel", "make", "()I"⟩ ⟨"DrawingMachineModel$VertexWorkModel", "make", "()I"⟩ ∈ tw := tw_of (tb_10 (List.mem_of_getElem? (i := 159) rfl)) rfl
theorem k2320 : Cond.code ⟨"DrawingMachineModel$VertexWorkModel", "make", "()I"⟩ prog_20_method_23_code 4 (Option.some .int) ∈ tw := tw_of (tb_10 (List.mem_of_getElem? (i := 160) rfl)) rfl
theorem k2351 : Cond.methodLink "DrawingMachineModel" 266 ⟨"DrawingMachineModel$VertexWorkModel", "side", "(I)I"⟩ ∈ tw := tw_of (tb_10 (List.mem_of_getElem? (i := 191) rfl)) rfl
theorem k2352 : Cond.instanceMethod ⟨"DrawingMachineModel$VertexWorkModel", "side", "(I)I"⟩ ∈ tw := tw_of (tb_10 (List.mem_of_getElem? (i := 192) rfl)) rfl
theorem k2353 : Cond.selects "DrawingMachineModel$VertexWorkModel" ⟨"DrawingMachineModel$VertexWorkModel", "side", "(I)I"⟩ ⟨"DrawingMachineModel$VertexWorkModel", "side", "(I)I"⟩ ∈ tw := tw_of (tb_10 (List.mem_of_getElem? (i := 193) rfl)) rfl
theorem k2354 : Cond.code ⟨"DrawingMachineModel$VertexWorkModel", "side", "(I)I"⟩ prog_20_method_26_code 6 (Option.some .int) ∈ tw := tw_of (tb_10 (List.mem_of_getElem? (i := 194) rfl)) rfl
theorem k2362 : Cond.methodLink "DrawingMachineModel" 269 ⟨"DrawingMachineModel", "triangle", "(II)V"⟩ ∈ tw := tw_of (tb_10 (List.mem_of_getElem? (i := 202) rfl)) rfl
theorem k2364 : Cond.instanceMethod ⟨"DrawingMachineModel", "triangle", "(II)V"⟩ ∈ tw := tw_of (tb_10 (List.mem_of_getElem? (i := 204) rfl)) rfl
theorem ks99 : Cond.selects "DrawingMachineModel" ⟨"DrawingMachineModel", "triangle", "(II)V"⟩ ⟨"DrawingMachineModel", "triangle", "(II)V"⟩ ∈ tw := tw_sel 99 rfl rfl
theorem k2365 : Cond.code ⟨"DrawingMachineModel", "triangle", "(II)V"⟩ prog_14_method_24_code 5 none ∈ tw := tw_of (tb_10 (List.mem_of_getElem? (i := 205) rfl)) rfl
theorem k2166 : Cond.constant "DrawingMachineModel$VertexWorkModel" 59 (100000000 : Int32) ∈ tw := tw_of (tb_10 (List.mem_of_getElem? (i := 6) rfl)) rfl
theorem k2171 : Cond.methodLink "DrawingMachineModel" 272 ⟨"DrawingMachineModel$VertexWorkModel", "index", "(III)I"⟩ ∈ tw := tw_of (tb_10 (List.mem_of_getElem? (i := 11) rfl)) rfl
theorem k2172 : Cond.instanceMethod ⟨"DrawingMachineModel$VertexWorkModel", "index", "(III)I"⟩ ∈ tw := tw_of (tb_10 (List.mem_of_getElem? (i := 12) rfl)) rfl
theorem k2173 : Cond.selects "DrawingMachineModel$VertexWorkModel" ⟨"DrawingMachineModel$VertexWorkModel", "index", "(III)I"⟩ ⟨"DrawingMachineModel$VertexWorkModel", "index", "(III)I"⟩ ∈ tw := tw_of (tb_10 (List.mem_of_getElem? (i := 13) rfl)) rfl
theorem k2174 : Cond.code ⟨"DrawingMachineModel$VertexWorkModel", "index", "(III)I"⟩ prog_20_method_10_code 6 (Option.some .int) ∈ tw := tw_of (tb_10 (List.mem_of_getElem? (i := 14) rfl)) rfl
theorem k2189 : Cond.methodLink "DrawingMachineModel" 278 ⟨"DrawingMachineModel$VertexWorkModel", "fetch", "(III)I"⟩ ∈ tw := tw_of (tb_10 (List.mem_of_getElem? (i := 29) rfl)) rfl
theorem k2190 : Cond.instanceMethod ⟨"DrawingMachineModel$VertexWorkModel", "fetch", "(III)I"⟩ ∈ tw := tw_of (tb_10 (List.mem_of_getElem? (i := 30) rfl)) rfl
theorem k2191 : Cond.selects "DrawingMachineModel$VertexWorkModel" ⟨"DrawingMachineModel$VertexWorkModel", "fetch", "(III)I"⟩ ⟨"DrawingMachineModel$VertexWorkModel", "fetch", "(III)I"⟩ ∈ tw := tw_of (tb_10 (List.mem_of_getElem? (i := 31) rfl)) rfl
theorem k2192 : Cond.code ⟨"DrawingMachineModel$VertexWorkModel", "fetch", "(III)I"⟩ prog_20_method_9_code 8 (Option.some .int) ∈ tw := tw_of (tb_10 (List.mem_of_getElem? (i := 32) rfl)) rfl
theorem k2194 : Cond.methodLink "DrawingMachineModel" 281 ⟨"DrawingMachineModel$ShaderMachineModel", "run", "()I"⟩ ∈ tw := tw_of (tb_10 (List.mem_of_getElem? (i := 34) rfl)) rfl
theorem k2195 : Cond.instanceMethod ⟨"DrawingMachineModel$ShaderMachineModel", "run", "()I"⟩ ∈ tw := tw_of (tb_10 (List.mem_of_getElem? (i := 35) rfl)) rfl
theorem k2196 : Cond.selects "DrawingMachineModel$ShaderMachineModel" ⟨"DrawingMachineModel$ShaderMachineModel", "run", "()I"⟩ ⟨"DrawingMachineModel$ShaderMachineModel", "run", "()I"⟩ ∈ tw := tw_of (tb_10 (List.mem_of_getElem? (i := 36) rfl)) rfl
theorem k2197 : Cond.code ⟨"DrawingMachineModel$ShaderMachineModel", "run", "()I"⟩ prog_18_method_29_code 6 (Option.some .int) ∈ tw := tw_of (tb_10 (List.mem_of_getElem? (i := 37) rfl)) rfl
theorem k2305 : Cond.methodLink "DrawingMachineModel" 287 ⟨"DrawingMachineModel$VertexWorkModel", "place", "(IIIII)V"⟩ ∈ tw := tw_of (tb_10 (List.mem_of_getElem? (i := 145) rfl)) rfl
theorem k2306 : Cond.instanceMethod ⟨"DrawingMachineModel$VertexWorkModel", "place", "(IIIII)V"⟩ ∈ tw := tw_of (tb_10 (List.mem_of_getElem? (i := 146) rfl)) rfl
theorem k2307 : Cond.selects "DrawingMachineModel$VertexWorkModel" ⟨"DrawingMachineModel$VertexWorkModel", "place", "(IIIII)V"⟩ ⟨"DrawingMachineModel$VertexWorkModel", "place", "(IIIII)V"⟩ ∈ tw := tw_of (tb_10 (List.mem_of_getElem? (i := 147) rfl)) rfl
theorem k2308 : Cond.code ⟨"DrawingMachineModel$VertexWorkModel", "place", "(IIIII)V"⟩ prog_20_method_13_code 6 none ∈ tw := tw_of (tb_10 (List.mem_of_getElem? (i := 148) rfl)) rfl
theorem k2313 : Cond.methodLink "DrawingMachineModel" 289 ⟨"DrawingMachineModel$VertexWorkModel", "vary", "(IIIIII)V"⟩ ∈ tw := tw_of (tb_10 (List.mem_of_getElem? (i := 153) rfl)) rfl
theorem k2314 : Cond.instanceMethod ⟨"DrawingMachineModel$VertexWorkModel", "vary", "(IIIIII)V"⟩ ∈ tw := tw_of (tb_10 (List.mem_of_getElem? (i := 154) rfl)) rfl
theorem k2315 : Cond.selects "DrawingMachineModel$VertexWorkModel" ⟨"DrawingMachineModel$VertexWorkModel", "vary", "(IIIIII)V"⟩ ⟨"DrawingMachineModel$VertexWorkModel", "vary", "(IIIIII)V"⟩ ∈ tw := tw_of (tb_10 (List.mem_of_getElem? (i := 155) rfl)) rfl
theorem k2316 : Cond.code ⟨"DrawingMachineModel$VertexWorkModel", "vary", "(IIIIII)V"⟩ prog_20_method_14_code 7 none ∈ tw := tw_of (tb_10 (List.mem_of_getElem? (i := 156) rfl)) rfl
theorem k2175 : Cond.methodLink "DrawingMachineModel$VertexWorkModel" 46 ⟨"DrawingMachineModel$VertexWorkModel", "wordAt", "(J)I"⟩ ∈ tw := tw_of (tb_10 (List.mem_of_getElem? (i := 15) rfl)) rfl
theorem k2177 : Cond.instanceMethod ⟨"DrawingMachineModel$VertexWorkModel", "wordAt", "(J)I"⟩ ∈ tw := tw_of (tb_10 (List.mem_of_getElem? (i := 17) rfl)) rfl
theorem ks74 : Cond.selects "DrawingMachineModel$VertexWorkModel" ⟨"DrawingMachineModel$VertexWorkModel", "wordAt", "(J)I"⟩ ⟨"DrawingMachineModel$VertexWorkModel", "wordAt", "(J)I"⟩ ∈ tw := tw_sel 74 rfl rfl
theorem k2178 : Cond.code ⟨"DrawingMachineModel$VertexWorkModel", "wordAt", "(J)I"⟩ prog_20_method_5_code 3 (Option.some .int) ∈ tw := tw_of (tb_10 (List.mem_of_getElem? (i := 18) rfl)) rfl
theorem k2180 : Cond.methodLink "DrawingMachineModel$VertexWorkModel" 56 ⟨"DrawingMachineModel$VertexWorkModel", "halfAt", "(JI)I"⟩ ∈ tw := tw_of (tb_10 (List.mem_of_getElem? (i := 20) rfl)) rfl
theorem k2182 : Cond.instanceMethod ⟨"DrawingMachineModel$VertexWorkModel", "halfAt", "(JI)I"⟩ ∈ tw := tw_of (tb_10 (List.mem_of_getElem? (i := 22) rfl)) rfl
theorem ks75 : Cond.selects "DrawingMachineModel$VertexWorkModel" ⟨"DrawingMachineModel$VertexWorkModel", "halfAt", "(JI)I"⟩ ⟨"DrawingMachineModel$VertexWorkModel", "halfAt", "(JI)I"⟩ ∈ tw := tw_sel 75 rfl rfl
theorem k2183 : Cond.code ⟨"DrawingMachineModel$VertexWorkModel", "halfAt", "(JI)I"⟩ prog_20_method_8_code 4 (Option.some .int) ∈ tw := tw_of (tb_10 (List.mem_of_getElem? (i := 23) rfl)) rfl
theorem k2185 : Cond.methodLink "DrawingMachineModel$VertexWorkModel" 52 ⟨"DrawingMachineModel$VertexWorkModel", "byteAt", "(JI)I"⟩ ∈ tw := tw_of (tb_10 (List.mem_of_getElem? (i := 25) rfl)) rfl
theorem k2187 : Cond.instanceMethod ⟨"DrawingMachineModel$VertexWorkModel", "byteAt", "(JI)I"⟩ ∈ tw := tw_of (tb_10 (List.mem_of_getElem? (i := 27) rfl)) rfl
theorem ks76 : Cond.selects "DrawingMachineModel$VertexWorkModel" ⟨"DrawingMachineModel$VertexWorkModel", "byteAt", "(JI)I"⟩ ⟨"DrawingMachineModel$VertexWorkModel", "byteAt", "(JI)I"⟩ ∈ tw := tw_sel 76 rfl rfl
theorem k2188 : Cond.code ⟨"DrawingMachineModel$VertexWorkModel", "byteAt", "(JI)I"⟩ prog_20_method_7_code 4 (Option.some .int) ∈ tw := tw_of (tb_10 (List.mem_of_getElem? (i := 28) rfl)) rfl
theorem k2179 : Cond.constantLong "DrawingMachineModel$VertexWorkModel" 36 (4095 : Int64) ∈ tw := tw_of (tb_10 (List.mem_of_getElem? (i := 19) rfl)) rfl
theorem k2184 : Cond.constant "DrawingMachineModel$VertexWorkModel" 50 (65535 : Int32) ∈ tw := tw_of (tb_10 (List.mem_of_getElem? (i := 24) rfl)) rfl
theorem k2193 : Cond.constant "DrawingMachineModel$VertexWorkModel" 51 (65536 : Int32) ∈ tw := tw_of (tb_10 (List.mem_of_getElem? (i := 33) rfl)) rfl
theorem k1574 : Cond.fieldLink "DrawingMachineModel$ShaderMachineModel" 174 "DrawingMachineModel$ShaderMachineModel" "killed" "Z" ∈ tw := tw_of (tb_7 (List.mem_of_getElem? (i := 134) rfl)) rfl
theorem k2198 : Cond.methodLink "DrawingMachineModel$ShaderMachineModel" 177 ⟨"DrawingMachineModel$ShaderMachineModel", "take", "(II)V"⟩ ∈ tw := tw_of (tb_10 (List.mem_of_getElem? (i := 38) rfl)) rfl
theorem k2200 : Cond.instanceMethod ⟨"DrawingMachineModel$ShaderMachineModel", "take", "(II)V"⟩ ∈ tw := tw_of (tb_10 (List.mem_of_getElem? (i := 40) rfl)) rfl
theorem ks77 : Cond.selects "DrawingMachineModel$ShaderMachineModel" ⟨"DrawingMachineModel$ShaderMachineModel", "take", "(II)V"⟩ ⟨"DrawingMachineModel$ShaderMachineModel", "take", "(II)V"⟩ ∈ tw := tw_sel 77 rfl rfl
theorem k2201 : Cond.code ⟨"DrawingMachineModel$ShaderMachineModel", "take", "(II)V"⟩ prog_18_method_23_code 7 none ∈ tw := tw_of (tb_10 (List.mem_of_getElem? (i := 41) rfl)) rfl
theorem k1563 : Cond.fieldLink "DrawingMachineModel$ShaderMachineModel" 160 "DrawingMachineModel$ShaderMachineModel" "told" "I" ∈ tw := tw_of (tb_7 (List.mem_of_getElem? (i := 123) rfl)) rfl
theorem k2202 : Cond.methodLink "DrawingMachineModel$ShaderMachineModel" 181 ⟨"DrawingMachineModel$ShaderMachineModel", "put", "(II)V"⟩ ∈ tw := tw_of (tb_10 (List.mem_of_getElem? (i := 42) rfl)) rfl
theorem k2204 : Cond.instanceMethod ⟨"DrawingMachineModel$ShaderMachineModel", "put", "(II)V"⟩ ∈ tw := tw_of (tb_10 (List.mem_of_getElem? (i := 44) rfl)) rfl
theorem ks78 : Cond.selects "DrawingMachineModel$ShaderMachineModel" ⟨"DrawingMachineModel$ShaderMachineModel", "put", "(II)V"⟩ ⟨"DrawingMachineModel$ShaderMachineModel", "put", "(II)V"⟩ ∈ tw := tw_sel 78 rfl rfl
theorem k2205 : Cond.code ⟨"DrawingMachineModel$ShaderMachineModel", "put", "(II)V"⟩ prog_18_method_28_code 5 none ∈ tw := tw_of (tb_10 (List.mem_of_getElem? (i := 45) rfl)) rfl
theorem k2206 : Cond.methodLink "DrawingMachineModel$ShaderMachineModel" 171 ⟨"DrawingMachineModel$ShaderMachineModel", "part", "(II)I"⟩ ∈ tw := tw_of (tb_10 (List.mem_of_getElem? (i := 46) rfl)) rfl
theorem k2208 : Cond.instanceMethod ⟨"DrawingMachineModel$ShaderMachineModel", "part", "(II)I"⟩ ∈ tw := tw_of (tb_10 (List.mem_of_getElem? (i := 48) rfl)) rfl
theorem ks79 : Cond.selects "DrawingMachineModel$ShaderMachineModel" ⟨"DrawingMachineModel$ShaderMachineModel", "part", "(II)I"⟩ ⟨"DrawingMachineModel$ShaderMachineModel", "part", "(II)I"⟩ ∈ tw := tw_sel 79 rfl rfl
theorem k2209 : Cond.code ⟨"DrawingMachineModel$ShaderMachineModel", "part", "(II)I"⟩ prog_18_method_25_code 7 (Option.some .int) ∈ tw := tw_of (tb_10 (List.mem_of_getElem? (i := 49) rfl)) rfl
theorem k2227 : Cond.constant "DrawingMachineModel$ShaderMachineModel" 150 (65536 : Int32) ∈ tw := tw_of (tb_10 (List.mem_of_getElem? (i := 67) rfl)) rfl
theorem k2210 : Cond.methodLink "DrawingMachineModel$ShaderMachineModel" 137 ⟨"DrawingMachineModel$ShaderMachineModel", "product", "(II)I"⟩ ∈ tw := tw_of (tb_10 (List.mem_of_getElem? (i := 50) rfl)) rfl
theorem k2211 : Cond.static ⟨"DrawingMachineModel$ShaderMachineModel", "product", "(II)I"⟩ ∈ tw := tw_of (tb_10 (List.mem_of_getElem? (i := 51) rfl)) rfl
theorem k2212 : Cond.code ⟨"DrawingMachineModel$ShaderMachineModel", "product", "(II)I"⟩ prog_18_method_20_code 2 (Option.some .int) ∈ tw := tw_of (tb_10 (List.mem_of_getElem? (i := 52) rfl)) rfl
theorem k2213 : Cond.constant "DrawingMachineModel$ShaderMachineModel" 134 (-2147483648 : Int32) ∈ tw := tw_of (tb_10 (List.mem_of_getElem? (i := 53) rfl)) rfl
theorem k2214 : Cond.constant "DrawingMachineModel$ShaderMachineModel" 127 (2147483647 : Int32) ∈ tw := tw_of (tb_10 (List.mem_of_getElem? (i := 54) rfl)) rfl
theorem k2215 : Cond.constant "DrawingMachineModel$ShaderMachineModel" 140 (-65536 : Int32) ∈ tw := tw_of (tb_10 (List.mem_of_getElem? (i := 55) rfl)) rfl
theorem k2216 : Cond.methodLink "DrawingMachineModel$ShaderMachineModel" 141 ⟨"DrawingMachineModel$ShaderMachineModel", "oneBy", "(I)I"⟩ ∈ tw := tw_of (tb_10 (List.mem_of_getElem? (i := 56) rfl)) rfl
theorem k2217 : Cond.static ⟨"DrawingMachineModel$ShaderMachineModel", "oneBy", "(I)I"⟩ ∈ tw := tw_of (tb_10 (List.mem_of_getElem? (i := 57) rfl)) rfl
theorem k2218 : Cond.code ⟨"DrawingMachineModel$ShaderMachineModel", "oneBy", "(I)I"⟩ prog_18_method_21_code 3 (Option.some .int) ∈ tw := tw_of (tb_10 (List.mem_of_getElem? (i := 58) rfl)) rfl
theorem k2222 : Cond.constantLong "DrawingMachineModel$ShaderMachineModel" 144 (281474976710656 : Int64) ∈ tw := tw_of (tb_10 (List.mem_of_getElem? (i := 62) rfl)) rfl
theorem k2223 : Cond.methodLink "DrawingMachineModel$ShaderMachineModel" 146 ⟨"DrawingMachineModel$ShaderMachineModel", "greatest", "(J)I"⟩ ∈ tw := tw_of (tb_10 (List.mem_of_getElem? (i := 63) rfl)) rfl
theorem k2224 : Cond.static ⟨"DrawingMachineModel$ShaderMachineModel", "greatest", "(J)I"⟩ ∈ tw := tw_of (tb_10 (List.mem_of_getElem? (i := 64) rfl)) rfl
theorem k2225 : Cond.code ⟨"DrawingMachineModel$ShaderMachineModel", "greatest", "(J)I"⟩ prog_18_method_22_code 6 (Option.some .int) ∈ tw := tw_of (tb_10 (List.mem_of_getElem? (i := 65) rfl)) rfl
theorem k2228 : Cond.methodLink "DrawingMachineModel$ShaderMachineModel" 151 ⟨"DrawingMachineModel$ShaderMachineModel", "more", "(II)I"⟩ ∈ tw := tw_of (tb_10 (List.mem_of_getElem? (i := 68) rfl)) rfl
theorem k2230 : Cond.instanceMethod ⟨"DrawingMachineModel$ShaderMachineModel", "more", "(II)I"⟩ ∈ tw := tw_of (tb_10 (List.mem_of_getElem? (i := 70) rfl)) rfl
theorem ks80 : Cond.selects "DrawingMachineModel$ShaderMachineModel" ⟨"DrawingMachineModel$ShaderMachineModel", "more", "(II)I"⟩ ⟨"DrawingMachineModel$ShaderMachineModel", "more", "(II)I"⟩ ∈ tw := tw_sel 80 rfl rfl
theorem k2231 : Cond.code ⟨"DrawingMachineModel$ShaderMachineModel", "more", "(II)I"⟩ prog_18_method_26_code 8 (Option.some .int) ∈ tw := tw_of (tb_10 (List.mem_of_getElem? (i := 71) rfl)) rfl
theorem k2219 : Cond.constantLong "DrawingMachineModel$ShaderMachineModel" 128 (4294967296 : Int64) ∈ tw := tw_of (tb_10 (List.mem_of_getElem? (i := 59) rfl)) rfl
theorem k2220 : Cond.constantLong "DrawingMachineModel$ShaderMachineModel" 130 (2147483647 : Int64) ∈ tw := tw_of (tb_10 (List.mem_of_getElem? (i := 60) rfl)) rfl
theorem k2221 : Cond.constantLong "DrawingMachineModel$ShaderMachineModel" 132 (-2147483648 : Int64) ∈ tw := tw_of (tb_10 (List.mem_of_getElem? (i := 61) rfl)) rfl
theorem k2226 : Cond.constantLong "DrawingMachineModel$ShaderMachineModel" 135 (16777216 : Int64) ∈ tw := tw_of (tb_10 (List.mem_of_getElem? (i := 66) rfl)) rfl
theorem k2232 : Cond.methodLink "DrawingMachineModel$ShaderMachineModel" 154 ⟨"DrawingMachineModel$ShaderMachineModel", "word", "(I)I"⟩ ∈ tw := tw_of (tb_10 (List.mem_of_getElem? (i := 72) rfl)) rfl
theorem k2234 : Cond.instanceMethod ⟨"DrawingMachineModel$ShaderMachineModel", "word", "(I)I"⟩ ∈ tw := tw_of (tb_10 (List.mem_of_getElem? (i := 74) rfl)) rfl
theorem ks81 : Cond.selects "DrawingMachineModel$ShaderMachineModel" ⟨"DrawingMachineModel$ShaderMachineModel", "word", "(I)I"⟩ ⟨"DrawingMachineModel$ShaderMachineModel", "word", "(I)I"⟩ ∈ tw := tw_sel 81 rfl rfl
theorem k2235 : Cond.code ⟨"DrawingMachineModel$ShaderMachineModel", "word", "(I)I"⟩ prog_18_method_24_code 2 (Option.some .int) ∈ tw := tw_of (tb_10 (List.mem_of_getElem? (i := 75) rfl)) rfl
theorem k2236 : Cond.methodLink "DrawingMachineModel$ShaderMachineModel" 157 ⟨"DrawingMachineModel$ShaderMachineModel", "sampled", "(II)I"⟩ ∈ tw := tw_of (tb_10 (List.mem_of_getElem? (i := 76) rfl)) rfl
theorem k2238 : Cond.instanceMethod ⟨"DrawingMachineModel$ShaderMachineModel", "sampled", "(II)I"⟩ ∈ tw := tw_of (tb_10 (List.mem_of_getElem? (i := 78) rfl)) rfl
theorem ks82 : Cond.selects "DrawingMachineModel$ShaderMachineModel" ⟨"DrawingMachineModel$ShaderMachineModel", "sampled", "(II)I"⟩ ⟨"DrawingMachineModel$ShaderMachineModel", "sampled", "(II)I"⟩ ∈ tw := tw_sel 82 rfl rfl
theorem k2239 : Cond.code ⟨"DrawingMachineModel$ShaderMachineModel", "sampled", "(II)I"⟩ prog_18_method_27_code 3 (Option.some .int) ∈ tw := tw_of (tb_10 (List.mem_of_getElem? (i := 79) rfl)) rfl
theorem k2240 : Cond.methodLink "DrawingMachineModel$ShaderMachineModel" 163 ⟨"DrawingMachineModel$TextureUnitsModel", "read", "(IIII)I"⟩ ∈ tw := tw_of (tb_10 (List.mem_of_getElem? (i := 80) rfl)) rfl
theorem k2241 : Cond.instanceMethod ⟨"DrawingMachineModel$TextureUnitsModel", "read", "(IIII)I"⟩ ∈ tw := tw_of (tb_10 (List.mem_of_getElem? (i := 81) rfl)) rfl
theorem k2242 : Cond.selects "DrawingMachineModel$TextureUnitsModel" ⟨"DrawingMachineModel$TextureUnitsModel", "read", "(IIII)I"⟩ ⟨"DrawingMachineModel$TextureUnitsModel", "read", "(IIII)I"⟩ ∈ tw := tw_of (tb_10 (List.mem_of_getElem? (i := 82) rfl)) rfl
theorem k2243 : Cond.code ⟨"DrawingMachineModel$TextureUnitsModel", "read", "(IIII)I"⟩ prog_19_method_20_code 11 (Option.some .int) ∈ tw := tw_of (tb_10 (List.mem_of_getElem? (i := 83) rfl)) rfl
theorem k2301 : Cond.methodLink "DrawingMachineModel$ShaderMachineModel" 168 ⟨"DrawingMachineModel$TextureUnitsModel", "also", "(I)I"⟩ ∈ tw := tw_of (tb_10 (List.mem_of_getElem? (i := 141) rfl)) rfl
theorem k2302 : Cond.instanceMethod ⟨"DrawingMachineModel$TextureUnitsModel", "also", "(I)I"⟩ ∈ tw := tw_of (tb_10 (List.mem_of_getElem? (i := 142) rfl)) rfl
theorem k2303 : Cond.selects "DrawingMachineModel$TextureUnitsModel" ⟨"DrawingMachineModel$TextureUnitsModel", "also", "(I)I"⟩ ⟨"DrawingMachineModel$TextureUnitsModel", "also", "(I)I"⟩ ∈ tw := tw_of (tb_10 (List.mem_of_getElem? (i := 143) rfl)) rfl
theorem k2304 : Cond.code ⟨"DrawingMachineModel$TextureUnitsModel", "also", "(I)I"⟩ prog_19_method_21_code 2 (Option.some .int) ∈ tw := tw_of (tb_10 (List.mem_of_getElem? (i := 144) rfl)) rfl
theorem k2244 : Cond.constant "DrawingMachineModel$TextureUnitsModel" 82 (65536 : Int32) ∈ tw := tw_of (tb_10 (List.mem_of_getElem? (i := 84) rfl)) rfl
theorem k2245 : Cond.methodLink "DrawingMachineModel$TextureUnitsModel" 105 ⟨"DrawingMachineModel$TextureUnitsModel", "readLevel", "(IIIIZ)V"⟩ ∈ tw := tw_of (tb_10 (List.mem_of_getElem? (i := 85) rfl)) rfl
theorem k2247 : Cond.instanceMethod ⟨"DrawingMachineModel$TextureUnitsModel", "readLevel", "(IIIIZ)V"⟩ ∈ tw := tw_of (tb_10 (List.mem_of_getElem? (i := 87) rfl)) rfl
theorem ks83 : Cond.selects "DrawingMachineModel$TextureUnitsModel" ⟨"DrawingMachineModel$TextureUnitsModel", "readLevel", "(IIIIZ)V"⟩ ⟨"DrawingMachineModel$TextureUnitsModel", "readLevel", "(IIIIZ)V"⟩ ∈ tw := tw_sel 83 rfl rfl
theorem k2248 : Cond.code ⟨"DrawingMachineModel$TextureUnitsModel", "readLevel", "(IIIIZ)V"⟩ prog_19_method_19_code 13 none ∈ tw := tw_of (tb_10 (List.mem_of_getElem? (i := 88) rfl)) rfl
theorem k2300 : Cond.constant "DrawingMachineModel$TextureUnitsModel" 109 (65535 : Int32) ∈ tw := tw_of (tb_10 (List.mem_of_getElem? (i := 140) rfl)) rfl
theorem k2297 : Cond.methodLink "DrawingMachineModel$TextureUnitsModel" 94 ⟨"DrawingMachineModel$TextureUnitsModel", "mix", "(III)I"⟩ ∈ tw := tw_of (tb_10 (List.mem_of_getElem? (i := 137) rfl)) rfl
theorem k2298 : Cond.static ⟨"DrawingMachineModel$TextureUnitsModel", "mix", "(III)I"⟩ ∈ tw := tw_of (tb_10 (List.mem_of_getElem? (i := 138) rfl)) rfl
theorem k2299 : Cond.code ⟨"DrawingMachineModel$TextureUnitsModel", "mix", "(III)I"⟩ prog_19_method_17_code 3 (Option.some .int) ∈ tw := tw_of (tb_10 (List.mem_of_getElem? (i := 139) rfl)) rfl
theorem k2249 : Cond.methodLink "DrawingMachineModel$TextureUnitsModel" 52 ⟨"DrawingMachineModel$TextureUnitsModel", "exponent", "(III)I"⟩ ∈ tw := tw_of (tb_10 (List.mem_of_getElem? (i := 89) rfl)) rfl
theorem k2251 : Cond.instanceMethod ⟨"DrawingMachineModel$TextureUnitsModel", "exponent", "(III)I"⟩ ∈ tw := tw_of (tb_10 (List.mem_of_getElem? (i := 91) rfl)) rfl
theorem ks84 : Cond.selects "DrawingMachineModel$TextureUnitsModel" ⟨"DrawingMachineModel$TextureUnitsModel", "exponent", "(III)I"⟩ ⟨"DrawingMachineModel$TextureUnitsModel", "exponent", "(III)I"⟩ ∈ tw := tw_sel 84 rfl rfl
theorem k2252 : Cond.code ⟨"DrawingMachineModel$TextureUnitsModel", "exponent", "(III)I"⟩ prog_19_method_7_code 5 (Option.some .int) ∈ tw := tw_of (tb_10 (List.mem_of_getElem? (i := 92) rfl)) rfl
theorem k2253 : Cond.methodLink "DrawingMachineModel$TextureUnitsModel" 91 ⟨"DrawingMachineModel$TextureUnitsModel", "wrapped", "(IIII)V"⟩ ∈ tw := tw_of (tb_10 (List.mem_of_getElem? (i := 93) rfl)) rfl
theorem k2255 : Cond.instanceMethod ⟨"DrawingMachineModel$TextureUnitsModel", "wrapped", "(IIII)V"⟩ ∈ tw := tw_of (tb_10 (List.mem_of_getElem? (i := 95) rfl)) rfl
theorem ks85 : Cond.selects "DrawingMachineModel$TextureUnitsModel" ⟨"DrawingMachineModel$TextureUnitsModel", "wrapped", "(IIII)V"⟩ ⟨"DrawingMachineModel$TextureUnitsModel", "wrapped", "(IIII)V"⟩ ∈ tw := tw_sel 85 rfl rfl
theorem k2256 : Cond.code ⟨"DrawingMachineModel$TextureUnitsModel", "wrapped", "(IIII)V"⟩ prog_19_method_16_code 8 none ∈ tw := tw_of (tb_10 (List.mem_of_getElem? (i := 96) rfl)) rfl
theorem k2291 : Cond.constantLong "DrawingMachineModel$TextureUnitsModel" 97 (32768 : Int64) ∈ tw := tw_of (tb_10 (List.mem_of_getElem? (i := 131) rfl)) rfl
theorem k2292 : Cond.constantLong "DrawingMachineModel$TextureUnitsModel" 99 (65535 : Int64) ∈ tw := tw_of (tb_10 (List.mem_of_getElem? (i := 132) rfl)) rfl
theorem k2293 : Cond.methodLink "DrawingMachineModel$TextureUnitsModel" 101 ⟨"DrawingMachineModel$TextureUnitsModel", "mixRow", "(IIIII)V"⟩ ∈ tw := tw_of (tb_10 (List.mem_of_getElem? (i := 133) rfl)) rfl
theorem k2295 : Cond.instanceMethod ⟨"DrawingMachineModel$TextureUnitsModel", "mixRow", "(IIIII)V"⟩ ∈ tw := tw_of (tb_10 (List.mem_of_getElem? (i := 135) rfl)) rfl
theorem ks93 : Cond.selects "DrawingMachineModel$TextureUnitsModel" ⟨"DrawingMachineModel$TextureUnitsModel", "mixRow", "(IIIII)V"⟩ ⟨"DrawingMachineModel$TextureUnitsModel", "mixRow", "(IIIII)V"⟩ ∈ tw := tw_sel 93 rfl rfl
theorem k2296 : Cond.code ⟨"DrawingMachineModel$TextureUnitsModel", "mixRow", "(IIIII)V"⟩ prog_19_method_18_code 7 none ∈ tw := tw_of (tb_10 (List.mem_of_getElem? (i := 136) rfl)) rfl
theorem k2257 : Cond.methodLink "DrawingMachineModel$TextureUnitsModel" 56 ⟨"DrawingMachineModel$TextureUnitsModel", "wide", "(II)I"⟩ ∈ tw := tw_of (tb_10 (List.mem_of_getElem? (i := 97) rfl)) rfl
theorem k2259 : Cond.instanceMethod ⟨"DrawingMachineModel$TextureUnitsModel", "wide", "(II)I"⟩ ∈ tw := tw_of (tb_10 (List.mem_of_getElem? (i := 99) rfl)) rfl
theorem ks86 : Cond.selects "DrawingMachineModel$TextureUnitsModel" ⟨"DrawingMachineModel$TextureUnitsModel", "wide", "(II)I"⟩ ⟨"DrawingMachineModel$TextureUnitsModel", "wide", "(II)I"⟩ ∈ tw := tw_sel 86 rfl rfl
theorem k2260 : Cond.code ⟨"DrawingMachineModel$TextureUnitsModel", "wide", "(II)I"⟩ prog_19_method_8_code 3 (Option.some .int) ∈ tw := tw_of (tb_10 (List.mem_of_getElem? (i := 100) rfl)) rfl
theorem k2261 : Cond.methodLink "DrawingMachineModel$TextureUnitsModel" 84 ⟨"DrawingMachineModel$TextureUnitsModel", "wrap", "(III)I"⟩ ∈ tw := tw_of (tb_10 (List.mem_of_getElem? (i := 101) rfl)) rfl
theorem k2262 : Cond.static ⟨"DrawingMachineModel$TextureUnitsModel", "wrap", "(III)I"⟩ ∈ tw := tw_of (tb_10 (List.mem_of_getElem? (i := 102) rfl)) rfl
theorem k2263 : Cond.code ⟨"DrawingMachineModel$TextureUnitsModel", "wrap", "(III)I"⟩ prog_19_method_15_code 5 (Option.some .int) ∈ tw := tw_of (tb_10 (List.mem_of_getElem? (i := 103) rfl)) rfl
theorem k2264 : Cond.methodLink "DrawingMachineModel$TextureUnitsModel" 60 ⟨"DrawingMachineModel$TextureUnitsModel", "high", "(II)I"⟩ ∈ tw := tw_of (tb_10 (List.mem_of_getElem? (i := 104) rfl)) rfl
theorem k2266 : Cond.instanceMethod ⟨"DrawingMachineModel$TextureUnitsModel", "high", "(II)I"⟩ ∈ tw := tw_of (tb_10 (List.mem_of_getElem? (i := 106) rfl)) rfl
theorem ks87 : Cond.selects "DrawingMachineModel$TextureUnitsModel" ⟨"DrawingMachineModel$TextureUnitsModel", "high", "(II)I"⟩ ⟨"DrawingMachineModel$TextureUnitsModel", "high", "(II)I"⟩ ∈ tw := tw_sel 87 rfl rfl
theorem k2267 : Cond.code ⟨"DrawingMachineModel$TextureUnitsModel", "high", "(II)I"⟩ prog_19_method_9_code 3 (Option.some .int) ∈ tw := tw_of (tb_10 (List.mem_of_getElem? (i := 107) rfl)) rfl
theorem k2268 : Cond.methodLink "DrawingMachineModel$TextureUnitsModel" 87 ⟨"DrawingMachineModel$TextureUnitsModel", "look", "(IIII)V"⟩ ∈ tw := tw_of (tb_10 (List.mem_of_getElem? (i := 108) rfl)) rfl
theorem k2270 : Cond.instanceMethod ⟨"DrawingMachineModel$TextureUnitsModel", "look", "(IIII)V"⟩ ∈ tw := tw_of (tb_10 (List.mem_of_getElem? (i := 110) rfl)) rfl
theorem ks88 : Cond.selects "DrawingMachineModel$TextureUnitsModel" ⟨"DrawingMachineModel$TextureUnitsModel", "look", "(IIII)V"⟩ ⟨"DrawingMachineModel$TextureUnitsModel", "look", "(IIII)V"⟩ ∈ tw := tw_sel 88 rfl rfl
theorem k2271 : Cond.code ⟨"DrawingMachineModel$TextureUnitsModel", "look", "(IIII)V"⟩ prog_19_method_14_code 11 none ∈ tw := tw_of (tb_10 (List.mem_of_getElem? (i := 111) rfl)) rfl
theorem k2272 : Cond.methodLink "DrawingMachineModel$TextureUnitsModel" 71 ⟨"DrawingMachineModel$TextureUnitsModel", "layOut", "(I)I"⟩ ∈ tw := tw_of (tb_10 (List.mem_of_getElem? (i := 112) rfl)) rfl
theorem k2274 : Cond.instanceMethod ⟨"DrawingMachineModel$TextureUnitsModel", "layOut", "(I)I"⟩ ∈ tw := tw_of (tb_10 (List.mem_of_getElem? (i := 114) rfl)) rfl
theorem ks89 : Cond.selects "DrawingMachineModel$TextureUnitsModel" ⟨"DrawingMachineModel$TextureUnitsModel", "layOut", "(I)I"⟩ ⟨"DrawingMachineModel$TextureUnitsModel", "layOut", "(I)I"⟩ ∈ tw := tw_sel 89 rfl rfl
theorem k2275 : Cond.code ⟨"DrawingMachineModel$TextureUnitsModel", "layOut", "(I)I"⟩ prog_19_method_12_code 2 (Option.some .int) ∈ tw := tw_of (tb_10 (List.mem_of_getElem? (i := 115) rfl)) rfl
theorem k2280 : Cond.methodLink "DrawingMachineModel$TextureUnitsModel" 75 ⟨"DrawingMachineModel$TextureUnitsModel", "ahead", "(II)I"⟩ ∈ tw := tw_of (tb_10 (List.mem_of_getElem? (i := 120) rfl)) rfl
theorem k2282 : Cond.instanceMethod ⟨"DrawingMachineModel$TextureUnitsModel", "ahead", "(II)I"⟩ ∈ tw := tw_of (tb_10 (List.mem_of_getElem? (i := 122) rfl)) rfl
theorem ks91 : Cond.selects "DrawingMachineModel$TextureUnitsModel" ⟨"DrawingMachineModel$TextureUnitsModel", "ahead", "(II)I"⟩ ⟨"DrawingMachineModel$TextureUnitsModel", "ahead", "(II)I"⟩ ∈ tw := tw_sel 91 rfl rfl
theorem k2283 : Cond.code ⟨"DrawingMachineModel$TextureUnitsModel", "ahead", "(II)I"⟩ prog_19_method_10_code 5 (Option.some .int) ∈ tw := tw_of (tb_10 (List.mem_of_getElem? (i := 123) rfl)) rfl
theorem k2284 : Cond.methodLink "DrawingMachineModel$TextureUnitsModel" 78 ⟨"DrawingMachineModel$TextureUnitsModel", "bit", "(IJ)I"⟩ ∈ tw := tw_of (tb_10 (List.mem_of_getElem? (i := 124) rfl)) rfl
theorem k2286 : Cond.instanceMethod ⟨"DrawingMachineModel$TextureUnitsModel", "bit", "(IJ)I"⟩ ∈ tw := tw_of (tb_10 (List.mem_of_getElem? (i := 126) rfl)) rfl
theorem ks92 : Cond.selects "DrawingMachineModel$TextureUnitsModel" ⟨"DrawingMachineModel$TextureUnitsModel", "bit", "(IJ)I"⟩ ⟨"DrawingMachineModel$TextureUnitsModel", "bit", "(IJ)I"⟩ ∈ tw := tw_sel 92 rfl rfl
theorem k2287 : Cond.code ⟨"DrawingMachineModel$TextureUnitsModel", "bit", "(IJ)I"⟩ prog_19_method_13_code 6 (Option.some .int) ∈ tw := tw_of (tb_10 (List.mem_of_getElem? (i := 127) rfl)) rfl
theorem k2290 : Cond.constant "DrawingMachineModel$TextureUnitsModel" 83 (131072 : Int32) ∈ tw := tw_of (tb_10 (List.mem_of_getElem? (i := 130) rfl)) rfl
theorem k2276 : Cond.methodLink "DrawingMachineModel$TextureUnitsModel" 63 ⟨"DrawingMachineModel$TextureUnitsModel", "lay", "(IIIIIIII)V"⟩ ∈ tw := tw_of (tb_10 (List.mem_of_getElem? (i := 116) rfl)) rfl
theorem k2278 : Cond.instanceMethod ⟨"DrawingMachineModel$TextureUnitsModel", "lay", "(IIIIIIII)V"⟩ ∈ tw := tw_of (tb_10 (List.mem_of_getElem? (i := 118) rfl)) rfl
theorem ks90 : Cond.selects "DrawingMachineModel$TextureUnitsModel" ⟨"DrawingMachineModel$TextureUnitsModel", "lay", "(IIIIIIII)V"⟩ ⟨"DrawingMachineModel$TextureUnitsModel", "lay", "(IIIIIIII)V"⟩ ∈ tw := tw_sel 90 rfl rfl
theorem k2279 : Cond.code ⟨"DrawingMachineModel$TextureUnitsModel", "lay", "(IIIIIIII)V"⟩ prog_19_method_11_code 9 none ∈ tw := tw_of (tb_10 (List.mem_of_getElem? (i := 119) rfl)) rfl
theorem k2288 : Cond.constantLong "DrawingMachineModel$TextureUnitsModel" 67 (32 : Int64) ∈ tw := tw_of (tb_10 (List.mem_of_getElem? (i := 128) rfl)) rfl
theorem k2289 : Cond.constantLong "DrawingMachineModel$TextureUnitsModel" 69 (4096 : Int64) ∈ tw := tw_of (tb_10 (List.mem_of_getElem? (i := 129) rfl)) rfl
theorem k2309 : Cond.methodLink "DrawingMachineModel$VertexWorkModel" 60 ⟨"DrawingMachineModel$VertexWorkModel", "tell", "(IIIIII)V"⟩ ∈ tw := tw_of (tb_10 (List.mem_of_getElem? (i := 149) rfl)) rfl
theorem k2311 : Cond.instanceMethod ⟨"DrawingMachineModel$VertexWorkModel", "tell", "(IIIIII)V"⟩ ∈ tw := tw_of (tb_10 (List.mem_of_getElem? (i := 151) rfl)) rfl
theorem ks94 : Cond.selects "DrawingMachineModel$VertexWorkModel" ⟨"DrawingMachineModel$VertexWorkModel", "tell", "(IIIIII)V"⟩ ⟨"DrawingMachineModel$VertexWorkModel", "tell", "(IIIIII)V"⟩ ∈ tw := tw_sel 94 rfl rfl
theorem k2312 : Cond.code ⟨"DrawingMachineModel$VertexWorkModel", "tell", "(IIIIII)V"⟩ prog_20_method_15_code 7 none ∈ tw := tw_of (tb_10 (List.mem_of_getElem? (i := 152) rfl)) rfl
theorem k1628 : Cond.fieldLink "DrawingMachineModel$VertexWorkModel" 89 "DrawingMachineModel$VertexWorkModel" "many" "I" ∈ tw := tw_of (tb_7 (List.mem_of_getElem? (i := 188) rfl)) rfl
theorem k2321 : Cond.methodLink "DrawingMachineModel$VertexWorkModel" 108 ⟨"DrawingMachineModel$VertexWorkModel", "cut", "(Z)V"⟩ ∈ tw := tw_of (tb_10 (List.mem_of_getElem? (i := 161) rfl)) rfl
theorem k2323 : Cond.instanceMethod ⟨"DrawingMachineModel$VertexWorkModel", "cut", "(Z)V"⟩ ∈ tw := tw_of (tb_10 (List.mem_of_getElem? (i := 163) rfl)) rfl
theorem ks95 : Cond.selects "DrawingMachineModel$VertexWorkModel" ⟨"DrawingMachineModel$VertexWorkModel", "cut", "(Z)V"⟩ ⟨"DrawingMachineModel$VertexWorkModel", "cut", "(Z)V"⟩ ∈ tw := tw_sel 95 rfl rfl
theorem k2324 : Cond.code ⟨"DrawingMachineModel$VertexWorkModel", "cut", "(Z)V"⟩ prog_20_method_20_code 7 none ∈ tw := tw_of (tb_10 (List.mem_of_getElem? (i := 164) rfl)) rfl
theorem k2338 : Cond.methodLink "DrawingMachineModel$VertexWorkModel" 112 ⟨"DrawingMachineModel$VertexWorkModel", "lay", "(IIII)I"⟩ ∈ tw := tw_of (tb_10 (List.mem_of_getElem? (i := 178) rfl)) rfl
theorem k2339 : Cond.static ⟨"DrawingMachineModel$VertexWorkModel", "lay", "(IIII)I"⟩ ∈ tw := tw_of (tb_10 (List.mem_of_getElem? (i := 179) rfl)) rfl
theorem k2340 : Cond.code ⟨"DrawingMachineModel$VertexWorkModel", "lay", "(IIII)I"⟩ prog_20_method_21_code 8 (Option.some .int) ∈ tw := tw_of (tb_10 (List.mem_of_getElem? (i := 180) rfl)) rfl
theorem k2345 : Cond.methodLink "DrawingMachineModel$VertexWorkModel" 116 ⟨"DrawingMachineModel$VertexWorkModel", "depthOf", "(IIII)I"⟩ ∈ tw := tw_of (tb_10 (List.mem_of_getElem? (i := 185) rfl)) rfl
theorem k2346 : Cond.static ⟨"DrawingMachineModel$VertexWorkModel", "depthOf", "(IIII)I"⟩ ∈ tw := tw_of (tb_10 (List.mem_of_getElem? (i := 186) rfl)) rfl
theorem k2347 : Cond.code ⟨"DrawingMachineModel$VertexWorkModel", "depthOf", "(IIII)I"⟩ prog_20_method_22_code 12 (Option.some .int) ∈ tw := tw_of (tb_10 (List.mem_of_getElem? (i := 187) rfl)) rfl
theorem k2350 : Cond.constant "DrawingMachineModel$VertexWorkModel" 119 (1073741824 : Int32) ∈ tw := tw_of (tb_10 (List.mem_of_getElem? (i := 190) rfl)) rfl
theorem k1630 : Cond.fieldLink "DrawingMachineModel$VertexWorkModel" 86 "DrawingMachineModel$VertexWorkModel" "fewer" "I" ∈ tw := tw_of (tb_7 (List.mem_of_getElem? (i := 190) rfl)) rfl
theorem k2325 : Cond.methodLink "DrawingMachineModel$VertexWorkModel" 76 ⟨"DrawingMachineModel$VertexWorkModel", "inside", "(IZ)J"⟩ ∈ tw := tw_of (tb_10 (List.mem_of_getElem? (i := 165) rfl)) rfl
theorem k2327 : Cond.instanceMethod ⟨"DrawingMachineModel$VertexWorkModel", "inside", "(IZ)J"⟩ ∈ tw := tw_of (tb_10 (List.mem_of_getElem? (i := 167) rfl)) rfl
theorem ks96 : Cond.selects "DrawingMachineModel$VertexWorkModel" ⟨"DrawingMachineModel$VertexWorkModel", "inside", "(IZ)J"⟩ ⟨"DrawingMachineModel$VertexWorkModel", "inside", "(IZ)J"⟩ ∈ tw := tw_sel 96 rfl rfl
theorem k2328 : Cond.code ⟨"DrawingMachineModel$VertexWorkModel", "inside", "(IZ)J"⟩ prog_20_method_18_code 3 (Option.some .long) ∈ tw := tw_of (tb_10 (List.mem_of_getElem? (i := 168) rfl)) rfl
theorem k2330 : Cond.methodLink "DrawingMachineModel$VertexWorkModel" 92 ⟨"DrawingMachineModel$VertexWorkModel", "between", "(IIZ)V"⟩ ∈ tw := tw_of (tb_10 (List.mem_of_getElem? (i := 170) rfl)) rfl
theorem k2332 : Cond.instanceMethod ⟨"DrawingMachineModel$VertexWorkModel", "between", "(IIZ)V"⟩ ∈ tw := tw_of (tb_10 (List.mem_of_getElem? (i := 172) rfl)) rfl
theorem ks97 : Cond.selects "DrawingMachineModel$VertexWorkModel" ⟨"DrawingMachineModel$VertexWorkModel", "between", "(IIZ)V"⟩ ⟨"DrawingMachineModel$VertexWorkModel", "between", "(IIZ)V"⟩ ∈ tw := tw_sel 97 rfl rfl
theorem k2333 : Cond.code ⟨"DrawingMachineModel$VertexWorkModel", "between", "(IIZ)V"⟩ prog_20_method_19_code 15 none ∈ tw := tw_of (tb_10 (List.mem_of_getElem? (i := 173) rfl)) rfl
theorem k2329 : Cond.constantLong "DrawingMachineModel$VertexWorkModel" 74 (256 : Int64) ∈ tw := tw_of (tb_10 (List.mem_of_getElem? (i := 169) rfl)) rfl
theorem k2334 : Cond.constantLong "DrawingMachineModel$VertexWorkModel" 80 (65536 : Int64) ∈ tw := tw_of (tb_10 (List.mem_of_getElem? (i := 174) rfl)) rfl
theorem k2335 : Cond.methodLink "DrawingMachineModel$VertexWorkModel" 82 ⟨"DrawingMachineModel$VertexWorkModel", "down", "(JJ)J"⟩ ∈ tw := tw_of (tb_10 (List.mem_of_getElem? (i := 175) rfl)) rfl
theorem k2336 : Cond.static ⟨"DrawingMachineModel$VertexWorkModel", "down", "(JJ)J"⟩ ∈ tw := tw_of (tb_10 (List.mem_of_getElem? (i := 176) rfl)) rfl
theorem k2337 : Cond.code ⟨"DrawingMachineModel$VertexWorkModel", "down", "(JJ)J"⟩ prog_20_method_4_code 6 (Option.some .long) ∈ tw := tw_of (tb_10 (List.mem_of_getElem? (i := 177) rfl)) rfl
theorem k2341 : Cond.constantLong "DrawingMachineModel$VertexWorkModel" 96 (16 : Int64) ∈ tw := tw_of (tb_10 (List.mem_of_getElem? (i := 181) rfl)) rfl
theorem k2342 : Cond.constantLong "DrawingMachineModel$VertexWorkModel" 98 (8192 : Int64) ∈ tw := tw_of (tb_10 (List.mem_of_getElem? (i := 182) rfl)) rfl
theorem k2343 : Cond.constantLong "DrawingMachineModel$VertexWorkModel" 100 (-16384 : Int64) ∈ tw := tw_of (tb_10 (List.mem_of_getElem? (i := 183) rfl)) rfl
theorem k2344 : Cond.constantLong "DrawingMachineModel$VertexWorkModel" 102 (16383 : Int64) ∈ tw := tw_of (tb_10 (List.mem_of_getElem? (i := 184) rfl)) rfl
theorem k2348 : Cond.constantLong "DrawingMachineModel$VertexWorkModel" 104 (131072 : Int64) ∈ tw := tw_of (tb_10 (List.mem_of_getElem? (i := 188) rfl)) rfl
theorem k2349 : Cond.constantLong "DrawingMachineModel$VertexWorkModel" 106 (16777215 : Int64) ∈ tw := tw_of (tb_10 (List.mem_of_getElem? (i := 189) rfl)) rfl
theorem k2355 : Cond.methodLink "DrawingMachineModel$VertexWorkModel" 124 ⟨"DrawingMachineModel$VertexWorkModel", "areaOf", "(I)J"⟩ ∈ tw := tw_of (tb_10 (List.mem_of_getElem? (i := 195) rfl)) rfl
theorem k2357 : Cond.instanceMethod ⟨"DrawingMachineModel$VertexWorkModel", "areaOf", "(I)J"⟩ ∈ tw := tw_of (tb_10 (List.mem_of_getElem? (i := 197) rfl)) rfl
theorem ks98 : Cond.selects "DrawingMachineModel$VertexWorkModel" ⟨"DrawingMachineModel$VertexWorkModel", "areaOf", "(I)J"⟩ ⟨"DrawingMachineModel$VertexWorkModel", "areaOf", "(I)J"⟩ ∈ tw := tw_sel 98 rfl rfl
theorem k2358 : Cond.code ⟨"DrawingMachineModel$VertexWorkModel", "areaOf", "(I)J"⟩ prog_20_method_25_code 8 (Option.some .long) ∈ tw := tw_of (tb_10 (List.mem_of_getElem? (i := 198) rfl)) rfl
theorem k2359 : Cond.methodLink "DrawingMachineModel$VertexWorkModel" 120 ⟨"DrawingMachineModel$VertexWorkModel", "cornerOf", "(II)I"⟩ ∈ tw := tw_of (tb_10 (List.mem_of_getElem? (i := 199) rfl)) rfl
theorem k2360 : Cond.static ⟨"DrawingMachineModel$VertexWorkModel", "cornerOf", "(II)I"⟩ ∈ tw := tw_of (tb_10 (List.mem_of_getElem? (i := 200) rfl)) rfl
theorem k2361 : Cond.code ⟨"DrawingMachineModel$VertexWorkModel", "cornerOf", "(II)I"⟩ prog_20_method_24_code 2 (Option.some .int) ∈ tw := tw_of (tb_10 (List.mem_of_getElem? (i := 201) rfl)) rfl
theorem k2366 : Cond.methodLink "DrawingMachineModel" 298 ⟨"DrawingMachineModel$VertexWorkModel", "got", "(III)I"⟩ ∈ tw := tw_of (tb_10 (List.mem_of_getElem? (i := 206) rfl)) rfl
theorem k2367 : Cond.instanceMethod ⟨"DrawingMachineModel$VertexWorkModel", "got", "(III)I"⟩ ∈ tw := tw_of (tb_10 (List.mem_of_getElem? (i := 207) rfl)) rfl
theorem k2368 : Cond.selects "DrawingMachineModel$VertexWorkModel" ⟨"DrawingMachineModel$VertexWorkModel", "got", "(III)I"⟩ ⟨"DrawingMachineModel$VertexWorkModel", "got", "(III)I"⟩ ∈ tw := tw_of (tb_10 (List.mem_of_getElem? (i := 208) rfl)) rfl
theorem k2369 : Cond.code ⟨"DrawingMachineModel$VertexWorkModel", "got", "(III)I"⟩ prog_20_method_27_code 5 (Option.some .int) ∈ tw := tw_of (tb_10 (List.mem_of_getElem? (i := 209) rfl)) rfl
theorem k2370 : Cond.methodLink "DrawingMachineModel" 301 ⟨"DrawingMachineModel$EdgeRasterModel", "corner", "(IIIII)V"⟩ ∈ tw := tw_of (tb_10 (List.mem_of_getElem? (i := 210) rfl)) rfl
theorem k2371 : Cond.instanceMethod ⟨"DrawingMachineModel$EdgeRasterModel", "corner", "(IIIII)V"⟩ ∈ tw := tw_of (tb_10 (List.mem_of_getElem? (i := 211) rfl)) rfl
theorem k2372 : Cond.selects "DrawingMachineModel$EdgeRasterModel" ⟨"DrawingMachineModel$EdgeRasterModel", "corner", "(IIIII)V"⟩ ⟨"DrawingMachineModel$EdgeRasterModel", "corner", "(IIIII)V"⟩ ∈ tw := tw_of (tb_10 (List.mem_of_getElem? (i := 212) rfl)) rfl
theorem k2373 : Cond.code ⟨"DrawingMachineModel$EdgeRasterModel", "corner", "(IIIII)V"⟩ prog_16_method_4_code 7 none ∈ tw := tw_of (tb_10 (List.mem_of_getElem? (i := 213) rfl)) rfl
theorem k2383 : Cond.methodLink "DrawingMachineModel" 303 ⟨"DrawingMachineModel$EdgeRasterModel", "value", "(III)V"⟩ ∈ tw := tw_of (tb_10 (List.mem_of_getElem? (i := 223) rfl)) rfl
theorem k2384 : Cond.instanceMethod ⟨"DrawingMachineModel$EdgeRasterModel", "value", "(III)V"⟩ ∈ tw := tw_of (tb_10 (List.mem_of_getElem? (i := 224) rfl)) rfl
theorem k2385 : Cond.selects "DrawingMachineModel$EdgeRasterModel" ⟨"DrawingMachineModel$EdgeRasterModel", "value", "(III)V"⟩ ⟨"DrawingMachineModel$EdgeRasterModel", "value", "(III)V"⟩ ∈ tw := tw_of (tb_10 (List.mem_of_getElem? (i := 225) rfl)) rfl
theorem k2386 : Cond.code ⟨"DrawingMachineModel$EdgeRasterModel", "value", "(III)V"⟩ prog_16_method_5_code 4 none ∈ tw := tw_of (tb_10 (List.mem_of_getElem? (i := 226) rfl)) rfl
theorem k2387 : Cond.methodLink "DrawingMachineModel" 310 ⟨"DrawingMachineModel", "edge", "([IZ)I"⟩ ∈ tw := tw_of (tb_10 (List.mem_of_getElem? (i := 227) rfl)) rfl
theorem k2388 : Cond.static ⟨"DrawingMachineModel", "edge", "([IZ)I"⟩ ∈ tw := tw_of (tb_10 (List.mem_of_getElem? (i := 228) rfl)) rfl
theorem k2389 : Cond.code ⟨"DrawingMachineModel", "edge", "([IZ)I"⟩ prog_14_method_23_code 3 (Option.some .int) ∈ tw := tw_of (tb_10 (List.mem_of_getElem? (i := 229) rfl)) rfl
theorem k2390 : Cond.methodLink "DrawingMachineModel" 292 ⟨"DrawingMachineModel", "greatest", "(II)I"⟩ ∈ tw := tw_of (tb_10 (List.mem_of_getElem? (i := 230) rfl)) rfl
theorem k2391 : Cond.static ⟨"DrawingMachineModel", "greatest", "(II)I"⟩ ∈ tw := tw_of (tb_10 (List.mem_of_getElem? (i := 231) rfl)) rfl
theorem k2392 : Cond.code ⟨"DrawingMachineModel", "greatest", "(II)I"⟩ prog_14_method_22_code 2 (Option.some .int) ∈ tw := tw_of (tb_10 (List.mem_of_getElem? (i := 232) rfl)) rfl
theorem k2393 : Cond.methodLink "DrawingMachineModel" 295 ⟨"DrawingMachineModel", "least", "(II)I"⟩ ∈ tw := tw_of (tb_10 (List.mem_of_getElem? (i := 233) rfl)) rfl
theorem k2394 : Cond.static ⟨"DrawingMachineModel", "least", "(II)I"⟩ ∈ tw := tw_of (tb_10 (List.mem_of_getElem? (i := 234) rfl)) rfl
theorem k2395 : Cond.code ⟨"DrawingMachineModel", "least", "(II)I"⟩ prog_14_method_21_code 2 (Option.some .int) ∈ tw := tw_of (tb_10 (List.mem_of_getElem? (i := 235) rfl)) rfl
theorem k2398 : Cond.instanceMethod ⟨"DrawingMachineModel$EdgeRasterModel", "isCovered", "(II)Z"⟩ ∈ tw := tw_of (tb_10 (List.mem_of_getElem? (i := 238) rfl)) rfl
theorem ks101 : Cond.selects "DrawingMachineModel$EdgeRasterModel" ⟨"DrawingMachineModel$EdgeRasterModel", "isCovered", "(II)Z"⟩ ⟨"DrawingMachineModel$EdgeRasterModel", "isCovered", "(II)Z"⟩ ∈ tw := tw_sel 101 rfl rfl
theorem k2399 : Cond.code ⟨"DrawingMachineModel$EdgeRasterModel", "isCovered", "(II)Z"⟩ prog_16_method_11_code 10 (Option.some .boolean) ∈ tw := tw_of (tb_10 (List.mem_of_getElem? (i := 239) rfl)) rfl
theorem k2420 : Cond.methodLink "DrawingMachineModel" 321 ⟨"DrawingMachineModel", "place", "(III)V"⟩ ∈ tw := tw_of (tb_11 (List.mem_of_getElem? (i := 20) rfl)) rfl
theorem k2422 : Cond.instanceMethod ⟨"DrawingMachineModel", "place", "(III)V"⟩ ∈ tw := tw_of (tb_11 (List.mem_of_getElem? (i := 22) rfl)) rfl
theorem ks107 : Cond.selects "DrawingMachineModel" ⟨"DrawingMachineModel", "place", "(III)V"⟩ ⟨"DrawingMachineModel", "place", "(III)V"⟩ ∈ tw := tw_sel 107 rfl rfl
theorem k2423 : Cond.code ⟨"DrawingMachineModel", "place", "(III)V"⟩ prog_14_method_27_code 7 none ∈ tw := tw_of (tb_11 (List.mem_of_getElem? (i := 23) rfl)) rfl
theorem k2374 : Cond.methodLink "DrawingMachineModel$EdgeRasterModel" 29 ⟨"DrawingMachineModel$EdgeRasterModel", "in", "(III)Z"⟩ ∈ tw := tw_of (tb_10 (List.mem_of_getElem? (i := 214) rfl)) rfl
theorem k2375 : Cond.static ⟨"DrawingMachineModel$EdgeRasterModel", "in", "(III)Z"⟩ ∈ tw := tw_of (tb_10 (List.mem_of_getElem? (i := 215) rfl)) rfl
theorem k2376 : Cond.code ⟨"DrawingMachineModel$EdgeRasterModel", "in", "(III)Z"⟩ prog_16_method_3_code 3 (Option.some .boolean) ∈ tw := tw_of (tb_10 (List.mem_of_getElem? (i := 216) rfl)) rfl
theorem k2377 : Cond.constant "DrawingMachineModel$EdgeRasterModel" 33 (16777215 : Int32) ∈ tw := tw_of (tb_10 (List.mem_of_getElem? (i := 217) rfl)) rfl
theorem k2378 : Cond.constant "DrawingMachineModel$EdgeRasterModel" 34 (8388608 : Int32) ∈ tw := tw_of (tb_10 (List.mem_of_getElem? (i := 218) rfl)) rfl
theorem k2379 : Cond.methodLink "DrawingMachineModel$EdgeRasterModel" 35 ⟨"DrawingMachineModel$EdgeRasterModel", "refuse", "(ZZ)Z"⟩ ∈ tw := tw_of (tb_10 (List.mem_of_getElem? (i := 219) rfl)) rfl
theorem k2381 : Cond.instanceMethod ⟨"DrawingMachineModel$EdgeRasterModel", "refuse", "(ZZ)Z"⟩ ∈ tw := tw_of (tb_10 (List.mem_of_getElem? (i := 221) rfl)) rfl
theorem ks100 : Cond.selects "DrawingMachineModel$EdgeRasterModel" ⟨"DrawingMachineModel$EdgeRasterModel", "refuse", "(ZZ)Z"⟩ ⟨"DrawingMachineModel$EdgeRasterModel", "refuse", "(ZZ)Z"⟩ ∈ tw := tw_sel 100 rfl rfl
theorem k2382 : Cond.code ⟨"DrawingMachineModel$EdgeRasterModel", "refuse", "(ZZ)Z"⟩ prog_16_method_2_code 3 (Option.some .boolean) ∈ tw := tw_of (tb_10 (List.mem_of_getElem? (i := 222) rfl)) rfl
theorem k1667 : Cond.fieldLink "DrawingMachineModel$EdgeRasterModel" 25 "DrawingMachineModel$EdgeRasterModel" "thrown" "I" ∈ tw := tw_of (tb_7 (List.mem_of_getElem? (i := 227) rfl)) rfl
theorem k2400 : Cond.methodLink "DrawingMachineModel$EdgeRasterModel" 43 ⟨"DrawingMachineModel$EdgeRasterModel", "whole", "()J"⟩ ∈ tw := tw_of (tb_11 (List.mem_of_getElem? (i := 0) rfl)) rfl
theorem k2402 : Cond.instanceMethod ⟨"DrawingMachineModel$EdgeRasterModel", "whole", "()J"⟩ ∈ tw := tw_of (tb_11 (List.mem_of_getElem? (i := 2) rfl)) rfl
theorem ks102 : Cond.selects "DrawingMachineModel$EdgeRasterModel" ⟨"DrawingMachineModel$EdgeRasterModel", "whole", "()J"⟩ ⟨"DrawingMachineModel$EdgeRasterModel", "whole", "()J"⟩ ∈ tw := tw_sel 102 rfl rfl
theorem k2403 : Cond.code ⟨"DrawingMachineModel$EdgeRasterModel", "whole", "()J"⟩ prog_16_method_7_code 1 (Option.some .long) ∈ tw := tw_of (tb_11 (List.mem_of_getElem? (i := 3) rfl)) rfl
theorem k2408 : Cond.methodLink "DrawingMachineModel$EdgeRasterModel" 54 ⟨"DrawingMachineModel$EdgeRasterModel", "weightOf", "(III)J"⟩ ∈ tw := tw_of (tb_11 (List.mem_of_getElem? (i := 8) rfl)) rfl
theorem k2410 : Cond.instanceMethod ⟨"DrawingMachineModel$EdgeRasterModel", "weightOf", "(III)J"⟩ ∈ tw := tw_of (tb_11 (List.mem_of_getElem? (i := 10) rfl)) rfl
theorem ks104 : Cond.selects "DrawingMachineModel$EdgeRasterModel" ⟨"DrawingMachineModel$EdgeRasterModel", "weightOf", "(III)J"⟩ ⟨"DrawingMachineModel$EdgeRasterModel", "weightOf", "(III)J"⟩ ∈ tw := tw_sel 104 rfl rfl
theorem k2411 : Cond.code ⟨"DrawingMachineModel$EdgeRasterModel", "weightOf", "(III)J"⟩ prog_16_method_10_code 4 (Option.some .long) ∈ tw := tw_of (tb_11 (List.mem_of_getElem? (i := 11) rfl)) rfl
theorem k2416 : Cond.methodLink "DrawingMachineModel$EdgeRasterModel" 51 ⟨"DrawingMachineModel$EdgeRasterModel", "to", "(I)I"⟩ ∈ tw := tw_of (tb_11 (List.mem_of_getElem? (i := 16) rfl)) rfl
theorem k2418 : Cond.instanceMethod ⟨"DrawingMachineModel$EdgeRasterModel", "to", "(I)I"⟩ ∈ tw := tw_of (tb_11 (List.mem_of_getElem? (i := 18) rfl)) rfl
theorem ks106 : Cond.selects "DrawingMachineModel$EdgeRasterModel" ⟨"DrawingMachineModel$EdgeRasterModel", "to", "(I)I"⟩ ⟨"DrawingMachineModel$EdgeRasterModel", "to", "(I)I"⟩ ∈ tw := tw_sel 106 rfl rfl
theorem k2419 : Cond.code ⟨"DrawingMachineModel$EdgeRasterModel", "to", "(I)I"⟩ prog_16_method_9_code 2 (Option.some .int) ∈ tw := tw_of (tb_11 (List.mem_of_getElem? (i := 19) rfl)) rfl
theorem k2412 : Cond.methodLink "DrawingMachineModel$EdgeRasterModel" 47 ⟨"DrawingMachineModel$EdgeRasterModel", "from", "(I)I"⟩ ∈ tw := tw_of (tb_11 (List.mem_of_getElem? (i := 12) rfl)) rfl
theorem k2414 : Cond.instanceMethod ⟨"DrawingMachineModel$EdgeRasterModel", "from", "(I)I"⟩ ∈ tw := tw_of (tb_11 (List.mem_of_getElem? (i := 14) rfl)) rfl
theorem ks105 : Cond.selects "DrawingMachineModel$EdgeRasterModel" ⟨"DrawingMachineModel$EdgeRasterModel", "from", "(I)I"⟩ ⟨"DrawingMachineModel$EdgeRasterModel", "from", "(I)I"⟩ ∈ tw := tw_sel 105 rfl rfl
theorem k2415 : Cond.code ⟨"DrawingMachineModel$EdgeRasterModel", "from", "(I)I"⟩ prog_16_method_8_code 2 (Option.some .int) ∈ tw := tw_of (tb_11 (List.mem_of_getElem? (i := 15) rfl)) rfl
theorem k2404 : Cond.methodLink "DrawingMachineModel$EdgeRasterModel" 39 ⟨"DrawingMachineModel$EdgeRasterModel", "room", "(IIII)J"⟩ ∈ tw := tw_of (tb_11 (List.mem_of_getElem? (i := 4) rfl)) rfl
theorem k2406 : Cond.instanceMethod ⟨"DrawingMachineModel$EdgeRasterModel", "room", "(IIII)J"⟩ ∈ tw := tw_of (tb_11 (List.mem_of_getElem? (i := 6) rfl)) rfl
theorem ks103 : Cond.selects "DrawingMachineModel$EdgeRasterModel" ⟨"DrawingMachineModel$EdgeRasterModel", "room", "(IIII)J"⟩ ⟨"DrawingMachineModel$EdgeRasterModel", "room", "(IIII)J"⟩ ∈ tw := tw_sel 103 rfl rfl
theorem k2407 : Cond.code ⟨"DrawingMachineModel$EdgeRasterModel", "room", "(IIII)J"⟩ prog_16_method_6_code 9 (Option.some .long) ∈ tw := tw_of (tb_11 (List.mem_of_getElem? (i := 7) rfl)) rfl
theorem k2424 : Cond.methodLink "DrawingMachineModel" 346 ⟨"DrawingMachineModel", "share", "(II)I"⟩ ∈ tw := tw_of (tb_11 (List.mem_of_getElem? (i := 24) rfl)) rfl
theorem k2426 : Cond.instanceMethod ⟨"DrawingMachineModel", "share", "(II)I"⟩ ∈ tw := tw_of (tb_11 (List.mem_of_getElem? (i := 26) rfl)) rfl
theorem ks108 : Cond.selects "DrawingMachineModel" ⟨"DrawingMachineModel", "share", "(II)I"⟩ ⟨"DrawingMachineModel", "share", "(II)I"⟩ ∈ tw := tw_sel 108 rfl rfl
theorem k2427 : Cond.code ⟨"DrawingMachineModel", "share", "(II)I"⟩ prog_14_method_25_code 9 (Option.some .int) ∈ tw := tw_of (tb_11 (List.mem_of_getElem? (i := 27) rfl)) rfl
theorem k2431 : Cond.constant "DrawingMachineModel" 349 (65536 : Int32) ∈ tw := tw_of (tb_11 (List.mem_of_getElem? (i := 31) rfl)) rfl
theorem k2432 : Cond.constant "DrawingMachineModel" 350 (32768 : Int32) ∈ tw := tw_of (tb_11 (List.mem_of_getElem? (i := 32) rfl)) rfl
theorem k2433 : Cond.methodLink "DrawingMachineModel" 351 ⟨"DrawingMachineModel", "value", "(I)I"⟩ ∈ tw := tw_of (tb_11 (List.mem_of_getElem? (i := 33) rfl)) rfl
theorem k2435 : Cond.instanceMethod ⟨"DrawingMachineModel", "value", "(I)I"⟩ ∈ tw := tw_of (tb_11 (List.mem_of_getElem? (i := 35) rfl)) rfl
theorem ks109 : Cond.selects "DrawingMachineModel" ⟨"DrawingMachineModel", "value", "(I)I"⟩ ⟨"DrawingMachineModel", "value", "(I)I"⟩ ∈ tw := tw_sel 109 rfl rfl
theorem k2436 : Cond.code ⟨"DrawingMachineModel", "value", "(I)I"⟩ prog_14_method_26_code 5 (Option.some .int) ∈ tw := tw_of (tb_11 (List.mem_of_getElem? (i := 36) rfl)) rfl
theorem k2440 : Cond.methodLink "DrawingMachineModel" 356 ⟨"DrawingMachineModel$PlaceTestsModel", "draw", "(IIIIIIII)I"⟩ ∈ tw := tw_of (tb_11 (List.mem_of_getElem? (i := 40) rfl)) rfl
theorem k2441 : Cond.instanceMethod ⟨"DrawingMachineModel$PlaceTestsModel", "draw", "(IIIIIIII)I"⟩ ∈ tw := tw_of (tb_11 (List.mem_of_getElem? (i := 41) rfl)) rfl
theorem k2442 : Cond.selects "DrawingMachineModel$PlaceTestsModel" ⟨"DrawingMachineModel$PlaceTestsModel", "draw", "(IIIIIIII)I"⟩ ⟨"DrawingMachineModel$PlaceTestsModel", "draw", "(IIIIIIII)I"⟩ ∈ tw := tw_of (tb_11 (List.mem_of_getElem? (i := 42) rfl)) rfl
theorem k2443 : Cond.code ⟨"DrawingMachineModel$PlaceTestsModel", "draw", "(IIIIIIII)I"⟩ prog_17_method_26_code 13 (Option.some .int) ∈ tw := tw_of (tb_11 (List.mem_of_getElem? (i := 43) rfl)) rfl
theorem k2429 : Cond.constantLong "DrawingMachineModel" 333 (536870912 : Int64) ∈ tw := tw_of (tb_11 (List.mem_of_getElem? (i := 29) rfl)) rfl
theorem k2438 : Cond.static ⟨"DrawingMachineModel$EdgeRasterModel", "down", "(JJ)J"⟩ ∈ tw := tw_of (tb_11 (List.mem_of_getElem? (i := 38) rfl)) rfl
theorem k2439 : Cond.code ⟨"DrawingMachineModel$EdgeRasterModel", "down", "(JJ)J"⟩ prog_16_method_12_code 4 (Option.some .long) ∈ tw := tw_of (tb_11 (List.mem_of_getElem? (i := 39) rfl)) rfl
theorem k2444 : Cond.methodLink "DrawingMachineModel$PlaceTestsModel" 115 ⟨"DrawingMachineModel$PlaceTestsModel", "answer", "(I)I"⟩ ∈ tw := tw_of (tb_11 (List.mem_of_getElem? (i := 44) rfl)) rfl
theorem k2446 : Cond.instanceMethod ⟨"DrawingMachineModel$PlaceTestsModel", "answer", "(I)I"⟩ ∈ tw := tw_of (tb_11 (List.mem_of_getElem? (i := 46) rfl)) rfl
theorem ks110 : Cond.selects "DrawingMachineModel$PlaceTestsModel" ⟨"DrawingMachineModel$PlaceTestsModel", "answer", "(I)I"⟩ ⟨"DrawingMachineModel$PlaceTestsModel", "answer", "(I)I"⟩ ∈ tw := tw_sel 110 rfl rfl
theorem k2447 : Cond.code ⟨"DrawingMachineModel$PlaceTestsModel", "answer", "(I)I"⟩ prog_17_method_25_code 2 (Option.some .int) ∈ tw := tw_of (tb_11 (List.mem_of_getElem? (i := 47) rfl)) rfl
theorem k2448 : Cond.methodLink "DrawingMachineModel$PlaceTestsModel" 118 ⟨"DrawingMachineModel$PlaceTestsModel", "holds", "(III)Z"⟩ ∈ tw := tw_of (tb_11 (List.mem_of_getElem? (i := 48) rfl)) rfl
theorem k2449 : Cond.static ⟨"DrawingMachineModel$PlaceTestsModel", "holds", "(III)Z"⟩ ∈ tw := tw_of (tb_11 (List.mem_of_getElem? (i := 49) rfl)) rfl
theorem k2450 : Cond.code ⟨"DrawingMachineModel$PlaceTestsModel", "holds", "(III)Z"⟩ prog_17_method_17_code 6 (Option.some .boolean) ∈ tw := tw_of (tb_11 (List.mem_of_getElem? (i := 50) rfl)) rfl
theorem k2451 : Cond.methodLink "DrawingMachineModel$PlaceTestsModel" 121 ⟨"DrawingMachineModel$PlaceTestsModel", "act", "(III)V"⟩ ∈ tw := tw_of (tb_11 (List.mem_of_getElem? (i := 51) rfl)) rfl
theorem k2453 : Cond.instanceMethod ⟨"DrawingMachineModel$PlaceTestsModel", "act", "(III)V"⟩ ∈ tw := tw_of (tb_11 (List.mem_of_getElem? (i := 53) rfl)) rfl
theorem ks111 : Cond.selects "DrawingMachineModel$PlaceTestsModel" ⟨"DrawingMachineModel$PlaceTestsModel", "act", "(III)V"⟩ ⟨"DrawingMachineModel$PlaceTestsModel", "act", "(III)V"⟩ ∈ tw := tw_sel 111 rfl rfl
theorem k2454 : Cond.code ⟨"DrawingMachineModel$PlaceTestsModel", "act", "(III)V"⟩ prog_17_method_19_code 5 none ∈ tw := tw_of (tb_11 (List.mem_of_getElem? (i := 54) rfl)) rfl
theorem k2458 : Cond.methodLink "DrawingMachineModel$PlaceTestsModel" 124 ⟨"DrawingMachineModel$PlaceTestsModel", "byteOf", "(I)I"⟩ ∈ tw := tw_of (tb_11 (List.mem_of_getElem? (i := 58) rfl)) rfl
theorem k2459 : Cond.static ⟨"DrawingMachineModel$PlaceTestsModel", "byteOf", "(I)I"⟩ ∈ tw := tw_of (tb_11 (List.mem_of_getElem? (i := 59) rfl)) rfl
theorem k2460 : Cond.code ⟨"DrawingMachineModel$PlaceTestsModel", "byteOf", "(I)I"⟩ prog_17_method_20_code 2 (Option.some .int) ∈ tw := tw_of (tb_11 (List.mem_of_getElem? (i := 60) rfl)) rfl
theorem k2462 : Cond.methodLink "DrawingMachineModel$PlaceTestsModel" 127 ⟨"DrawingMachineModel$PlaceTestsModel", "bits", "(I)I"⟩ ∈ tw := tw_of (tb_11 (List.mem_of_getElem? (i := 62) rfl)) rfl
theorem k2464 : Cond.instanceMethod ⟨"DrawingMachineModel$PlaceTestsModel", "bits", "(I)I"⟩ ∈ tw := tw_of (tb_11 (List.mem_of_getElem? (i := 64) rfl)) rfl
theorem ks112 : Cond.selects "DrawingMachineModel$PlaceTestsModel" ⟨"DrawingMachineModel$PlaceTestsModel", "bits", "(I)I"⟩ ⟨"DrawingMachineModel$PlaceTestsModel", "bits", "(I)I"⟩ ∈ tw := tw_sel 112 rfl rfl
theorem k2465 : Cond.code ⟨"DrawingMachineModel$PlaceTestsModel", "bits", "(I)I"⟩ prog_17_method_24_code 5 (Option.some .int) ∈ tw := tw_of (tb_11 (List.mem_of_getElem? (i := 65) rfl)) rfl
theorem k2466 : Cond.methodLink "DrawingMachineModel$PlaceTestsModel" 130 ⟨"DrawingMachineModel$PlaceTestsModel", "blended", "(I)I"⟩ ∈ tw := tw_of (tb_11 (List.mem_of_getElem? (i := 66) rfl)) rfl
theorem k2468 : Cond.instanceMethod ⟨"DrawingMachineModel$PlaceTestsModel", "blended", "(I)I"⟩ ∈ tw := tw_of (tb_11 (List.mem_of_getElem? (i := 68) rfl)) rfl
theorem ks113 : Cond.selects "DrawingMachineModel$PlaceTestsModel" ⟨"DrawingMachineModel$PlaceTestsModel", "blended", "(I)I"⟩ ⟨"DrawingMachineModel$PlaceTestsModel", "blended", "(I)I"⟩ ∈ tw := tw_sel 113 rfl rfl
theorem k2469 : Cond.code ⟨"DrawingMachineModel$PlaceTestsModel", "blended", "(I)I"⟩ prog_17_method_23_code 6 (Option.some .int) ∈ tw := tw_of (tb_11 (List.mem_of_getElem? (i := 69) rfl)) rfl
theorem k2455 : Cond.methodLink "DrawingMachineModel$PlaceTestsModel" 103 ⟨"DrawingMachineModel$PlaceTestsModel", "deed", "(III)I"⟩ ∈ tw := tw_of (tb_11 (List.mem_of_getElem? (i := 55) rfl)) rfl
theorem k2456 : Cond.static ⟨"DrawingMachineModel$PlaceTestsModel", "deed", "(III)I"⟩ ∈ tw := tw_of (tb_11 (List.mem_of_getElem? (i := 56) rfl)) rfl
theorem k2457 : Cond.code ⟨"DrawingMachineModel$PlaceTestsModel", "deed", "(III)I"⟩ prog_17_method_18_code 3 (Option.some .int) ∈ tw := tw_of (tb_11 (List.mem_of_getElem? (i := 57) rfl)) rfl
theorem k2461 : Cond.constant "DrawingMachineModel$PlaceTestsModel" 107 (32768 : Int32) ∈ tw := tw_of (tb_11 (List.mem_of_getElem? (i := 61) rfl)) rfl
theorem k2470 : Cond.methodLink "DrawingMachineModel$PlaceTestsModel" 108 ⟨"DrawingMachineModel$PlaceTestsModel", "factor", "(II)I"⟩ ∈ tw := tw_of (tb_11 (List.mem_of_getElem? (i := 70) rfl)) rfl
theorem k2472 : Cond.instanceMethod ⟨"DrawingMachineModel$PlaceTestsModel", "factor", "(II)I"⟩ ∈ tw := tw_of (tb_11 (List.mem_of_getElem? (i := 72) rfl)) rfl
theorem ks114 : Cond.selects "DrawingMachineModel$PlaceTestsModel" ⟨"DrawingMachineModel$PlaceTestsModel", "factor", "(II)I"⟩ ⟨"DrawingMachineModel$PlaceTestsModel", "factor", "(II)I"⟩ ∈ tw := tw_sel 114 rfl rfl
theorem k2473 : Cond.code ⟨"DrawingMachineModel$PlaceTestsModel", "factor", "(II)I"⟩ prog_17_method_21_code 3 (Option.some .int) ∈ tw := tw_of (tb_11 (List.mem_of_getElem? (i := 73) rfl)) rfl
theorem k2474 : Cond.methodLink "DrawingMachineModel$PlaceTestsModel" 111 ⟨"DrawingMachineModel$PlaceTestsModel", "nearest", "(I)I"⟩ ∈ tw := tw_of (tb_11 (List.mem_of_getElem? (i := 74) rfl)) rfl
theorem k2475 : Cond.static ⟨"DrawingMachineModel$PlaceTestsModel", "nearest", "(I)I"⟩ ∈ tw := tw_of (tb_11 (List.mem_of_getElem? (i := 75) rfl)) rfl
theorem k2476 : Cond.code ⟨"DrawingMachineModel$PlaceTestsModel", "nearest", "(I)I"⟩ prog_17_method_22_code 2 (Option.some .int) ∈ tw := tw_of (tb_11 (List.mem_of_getElem? (i := 76) rfl)) rfl
theorem k2483 : Cond.instanceMethod ⟨"DrawingMachineModel$PlaceTestsModel", "show", "(II)I"⟩ ∈ tw := tw_of (tb_11 (List.mem_of_getElem? (i := 83) rfl)) rfl
theorem ks116 : Cond.selects "DrawingMachineModel$PlaceTestsModel" ⟨"DrawingMachineModel$PlaceTestsModel", "show", "(II)I"⟩ ⟨"DrawingMachineModel$PlaceTestsModel", "show", "(II)I"⟩ ∈ tw := tw_sel 116 rfl rfl
theorem k2484 : Cond.code ⟨"DrawingMachineModel$PlaceTestsModel", "show", "(II)I"⟩ prog_17_method_27_code 5 (Option.some .int) ∈ tw := tw_of (tb_11 (List.mem_of_getElem? (i := 84) rfl)) rfl
theorem k2488 : Cond.code ⟨"DrawingMachineModel", "about", "(I)I"⟩ prog_14_method_28_code 2 (Option.some .int) ∈ tw := tw_of (tb_11 (List.mem_of_getElem? (i := 88) rfl)) rfl
theorem k2489 : Cond.constantLong "DrawingMachineModel" 362 (8 : Int64) ∈ tw := tw_of (tb_11 (List.mem_of_getElem? (i := 89) rfl)) rfl
theorem k2490 : Cond.methodLink "DrawingMachineModel" 364 ⟨"DrawingMachineModel$DrawCommandsModel", "about", "(I)I"⟩ ∈ tw := tw_of (tb_11 (List.mem_of_getElem? (i := 90) rfl)) rfl
theorem k2491 : Cond.instanceMethod ⟨"DrawingMachineModel$DrawCommandsModel", "about", "(I)I"⟩ ∈ tw := tw_of (tb_11 (List.mem_of_getElem? (i := 91) rfl)) rfl
theorem k2492 : Cond.selects "DrawingMachineModel$DrawCommandsModel" ⟨"DrawingMachineModel$DrawCommandsModel", "about", "(I)I"⟩ ⟨"DrawingMachineModel$DrawCommandsModel", "about", "(I)I"⟩ ∈ tw := tw_of (tb_11 (List.mem_of_getElem? (i := 92) rfl)) rfl
theorem k2493 : Cond.code ⟨"DrawingMachineModel$DrawCommandsModel", "about", "(I)I"⟩ prog_15_method_31_code 2 (Option.some .int) ∈ tw := tw_of (tb_11 (List.mem_of_getElem? (i := 93) rfl)) rfl
theorem k2494 : Cond.constantLong "DrawingMachineModel$DrawCommandsModel" 186 (6 : Int64) ∈ tw := tw_of (tb_11 (List.mem_of_getElem? (i := 94) rfl)) rfl
theorem k2498 : Cond.code ⟨"DrawingMachineModel", "at", "(III)I"⟩ prog_14_method_29_code 5 (Option.some .int) ∈ tw := tw_of (tb_11 (List.mem_of_getElem? (i := 98) rfl)) rfl
theorem k2499 : Cond.constantLong "DrawingMachineModel" 367 (2 : Int64) ∈ tw := tw_of (tb_11 (List.mem_of_getElem? (i := 99) rfl)) rfl
theorem k2503 : Cond.code ⟨"DrawingMachineModel", "sum", "(I)I"⟩ prog_14_method_30_code 2 (Option.some .int) ∈ tw := tw_of (tb_11 (List.mem_of_getElem? (i := 103) rfl)) rfl
theorem k2504 : Cond.methodLink "DrawingMachineModel" 369 ⟨"DrawingMachineModel$PlaceTestsModel", "sum", "(I)I"⟩ ∈ tw := tw_of (tb_11 (List.mem_of_getElem? (i := 104) rfl)) rfl
theorem k2505 : Cond.instanceMethod ⟨"DrawingMachineModel$PlaceTestsModel", "sum", "(I)I"⟩ ∈ tw := tw_of (tb_11 (List.mem_of_getElem? (i := 105) rfl)) rfl
theorem k2506 : Cond.selects "DrawingMachineModel$PlaceTestsModel" ⟨"DrawingMachineModel$PlaceTestsModel", "sum", "(I)I"⟩ ⟨"DrawingMachineModel$PlaceTestsModel", "sum", "(I)I"⟩ ∈ tw := tw_of (tb_11 (List.mem_of_getElem? (i := 106) rfl)) rfl
theorem k2507 : Cond.code ⟨"DrawingMachineModel$PlaceTestsModel", "sum", "(I)I"⟩ prog_17_method_30_code 4 (Option.some .int) ∈ tw := tw_of (tb_11 (List.mem_of_getElem? (i := 107) rfl)) rfl
theorem k2508 : Cond.methodLink "DrawingMachineModel$PlaceTestsModel" 133 ⟨"DrawingMachineModel$PlaceTestsModel", "show", "(II)I"⟩ ∈ tw := tw_of (tb_11 (List.mem_of_getElem? (i := 108) rfl)) rfl
theorem k2512 : Cond.code ⟨"DrawingMachineModel", "query", "(I)I"⟩ prog_14_method_31_code 2 (Option.some .int) ∈ tw := tw_of (tb_11 (List.mem_of_getElem? (i := 112) rfl)) rfl
theorem k2513 : Cond.constantLong "DrawingMachineModel" 372 (7 : Int64) ∈ tw := tw_of (tb_11 (List.mem_of_getElem? (i := 113) rfl)) rfl
theorem k2517 : Cond.code ⟨"DrawingMachineModel", "count", "(I)I"⟩ prog_14_method_32_code 2 (Option.some .int) ∈ tw := tw_of (tb_11 (List.mem_of_getElem? (i := 117) rfl)) rfl
theorem k40 : Cond.classLink "DrawingMachineLaw" 8 "DrawingMachine" ∈ tw := tw_of (tb_1 (List.mem_of_getElem? (i := 40) rfl)) rfl
theorem k42 : Cond.methodLink "DrawingMachineLaw" 55 ⟨"DrawingMachine", "<init>", "()V"⟩ ∈ tw := tw_of (tb_1 (List.mem_of_getElem? (i := 42) rfl)) rfl
theorem k43 : Cond.instanceMethod ⟨"DrawingMachine", "<init>", "()V"⟩ ∈ tw := tw_of (tb_1 (List.mem_of_getElem? (i := 43) rfl)) rfl
theorem k1417 : Cond.classLink "DrawingMachineLaw" 56 "DrawingMachineModel" ∈ tw := tw_of (tb_6 (List.mem_of_getElem? (i := 217) rfl)) rfl
theorem k1419 : Cond.methodLink "DrawingMachineLaw" 58 ⟨"DrawingMachineModel", "<init>", "()V"⟩ ∈ tw := tw_of (tb_6 (List.mem_of_getElem? (i := 219) rfl)) rfl
theorem k1420 : Cond.instanceMethod ⟨"DrawingMachineModel", "<init>", "()V"⟩ ∈ tw := tw_of (tb_6 (List.mem_of_getElem? (i := 220) rfl)) rfl
theorem k471 : Cond.methodLink "DrawingMachineLaw" 59 ⟨"DrawingMachineLaw", "frame", "(LDrawingMachine;III[J)I"⟩ ∈ tw := tw_of (tb_2 (List.mem_of_getElem? (i := 231) rfl)) rfl
theorem k472 : Cond.static ⟨"DrawingMachineLaw", "frame", "(LDrawingMachine;III[J)I"⟩ ∈ tw := tw_of (tb_2 (List.mem_of_getElem? (i := 232) rfl)) rfl
theorem k1827 : Cond.methodLink "DrawingMachineLaw" 64 ⟨"DrawingMachineModel", "frame", "(III)I"⟩ ∈ tw := tw_of (tb_8 (List.mem_of_getElem? (i := 147) rfl)) rfl
theorem k1828 : Cond.instanceMethod ⟨"DrawingMachineModel", "frame", "(III)I"⟩ ∈ tw := tw_of (tb_8 (List.mem_of_getElem? (i := 148) rfl)) rfl
theorem k1829 : Cond.selects "DrawingMachineModel" ⟨"DrawingMachineModel", "frame", "(III)I"⟩ ⟨"DrawingMachineModel", "frame", "(III)I"⟩ ∈ tw := tw_of (tb_8 (List.mem_of_getElem? (i := 149) rfl)) rfl
theorem k1823 : Cond.methodLink "DrawingMachineLaw" 65 ⟨"DrawingMachineModel", "thrown", "()I"⟩ ∈ tw := tw_of (tb_8 (List.mem_of_getElem? (i := 143) rfl)) rfl
theorem k1824 : Cond.instanceMethod ⟨"DrawingMachineModel", "thrown", "()I"⟩ ∈ tw := tw_of (tb_8 (List.mem_of_getElem? (i := 144) rfl)) rfl
theorem k1825 : Cond.selects "DrawingMachineModel" ⟨"DrawingMachineModel", "thrown", "()I"⟩ ⟨"DrawingMachineModel", "thrown", "()I"⟩ ∈ tw := tw_of (tb_8 (List.mem_of_getElem? (i := 145) rfl)) rfl
theorem k831 : Cond.methodLink "DrawingMachineLaw" 69 ⟨"DrawingMachineLaw", "word", "(LDrawingMachine;II[J)I"⟩ ∈ tw := tw_of (tb_4 (List.mem_of_getElem? (i := 111) rfl)) rfl
theorem k832 : Cond.static ⟨"DrawingMachineLaw", "word", "(LDrawingMachine;II[J)I"⟩ ∈ tw := tw_of (tb_4 (List.mem_of_getElem? (i := 112) rfl)) rfl
theorem k1862 : Cond.methodLink "DrawingMachineLaw" 72 ⟨"DrawingMachineModel", "word", "(II)I"⟩ ∈ tw := tw_of (tb_8 (List.mem_of_getElem? (i := 182) rfl)) rfl
theorem k1863 : Cond.instanceMethod ⟨"DrawingMachineModel", "word", "(II)I"⟩ ∈ tw := tw_of (tb_8 (List.mem_of_getElem? (i := 183) rfl)) rfl
theorem k1864 : Cond.selects "DrawingMachineModel" ⟨"DrawingMachineModel", "word", "(II)I"⟩ ⟨"DrawingMachineModel", "word", "(II)I"⟩ ∈ tw := tw_of (tb_8 (List.mem_of_getElem? (i := 184) rfl)) rfl
theorem k852 : Cond.methodLink "DrawingMachineLaw" 73 ⟨"DrawingMachineLaw", "look", "(LDrawingMachine;I[J)I"⟩ ∈ tw := tw_of (tb_4 (List.mem_of_getElem? (i := 132) rfl)) rfl
theorem k853 : Cond.static ⟨"DrawingMachineLaw", "look", "(LDrawingMachine;I[J)I"⟩ ∈ tw := tw_of (tb_4 (List.mem_of_getElem? (i := 133) rfl)) rfl
theorem k1872 : Cond.methodLink "DrawingMachineLaw" 76 ⟨"DrawingMachineModel", "look", "(I)I"⟩ ∈ tw := tw_of (tb_8 (List.mem_of_getElem? (i := 192) rfl)) rfl
theorem k1873 : Cond.instanceMethod ⟨"DrawingMachineModel", "look", "(I)I"⟩ ∈ tw := tw_of (tb_8 (List.mem_of_getElem? (i := 193) rfl)) rfl
theorem k1874 : Cond.selects "DrawingMachineModel" ⟨"DrawingMachineModel", "look", "(I)I"⟩ ⟨"DrawingMachineModel", "look", "(I)I"⟩ ∈ tw := tw_of (tb_8 (List.mem_of_getElem? (i := 194) rfl)) rfl
theorem k859 : Cond.methodLink "DrawingMachineLaw" 77 ⟨"DrawingMachineLaw", "feed", "(LDrawingMachine;IIIII[J)I"⟩ ∈ tw := tw_of (tb_4 (List.mem_of_getElem? (i := 139) rfl)) rfl
theorem k860 : Cond.static ⟨"DrawingMachineLaw", "feed", "(LDrawingMachine;IIIII[J)I"⟩ ∈ tw := tw_of (tb_4 (List.mem_of_getElem? (i := 140) rfl)) rfl
theorem k1876 : Cond.methodLink "DrawingMachineLaw" 80 ⟨"DrawingMachineModel", "feed", "(IIIII)I"⟩ ∈ tw := tw_of (tb_8 (List.mem_of_getElem? (i := 196) rfl)) rfl
theorem k1877 : Cond.instanceMethod ⟨"DrawingMachineModel", "feed", "(IIIII)I"⟩ ∈ tw := tw_of (tb_8 (List.mem_of_getElem? (i := 197) rfl)) rfl
theorem k1878 : Cond.selects "DrawingMachineModel" ⟨"DrawingMachineModel", "feed", "(IIIII)I"⟩ ⟨"DrawingMachineModel", "feed", "(IIIII)I"⟩ ∈ tw := tw_of (tb_8 (List.mem_of_getElem? (i := 198) rfl)) rfl
theorem k900 : Cond.methodLink "DrawingMachineLaw" 81 ⟨"DrawingMachineLaw", "end", "(LDrawingMachine;I)I"⟩ ∈ tw := tw_of (tb_4 (List.mem_of_getElem? (i := 180) rfl)) rfl
theorem k901 : Cond.static ⟨"DrawingMachineLaw", "end", "(LDrawingMachine;I)I"⟩ ∈ tw := tw_of (tb_4 (List.mem_of_getElem? (i := 181) rfl)) rfl
theorem k1884 : Cond.methodLink "DrawingMachineLaw" 84 ⟨"DrawingMachineModel", "end", "(I)V"⟩ ∈ tw := tw_of (tb_8 (List.mem_of_getElem? (i := 204) rfl)) rfl
theorem k1885 : Cond.instanceMethod ⟨"DrawingMachineModel", "end", "(I)V"⟩ ∈ tw := tw_of (tb_8 (List.mem_of_getElem? (i := 205) rfl)) rfl
theorem k1886 : Cond.selects "DrawingMachineModel" ⟨"DrawingMachineModel", "end", "(I)V"⟩ ⟨"DrawingMachineModel", "end", "(I)V"⟩ ∈ tw := tw_of (tb_8 (List.mem_of_getElem? (i := 206) rfl)) rfl
theorem k458 : Cond.methodLink "DrawingMachineLaw" 85 ⟨"DrawingMachine", "begin", "(Z)V"⟩ ∈ tw := tw_of (tb_2 (List.mem_of_getElem? (i := 218) rfl)) rfl
theorem k459 : Cond.instanceMethod ⟨"DrawingMachine", "begin", "(Z)V"⟩ ∈ tw := tw_of (tb_2 (List.mem_of_getElem? (i := 219) rfl)) rfl
theorem k460 : Cond.selects "DrawingMachine" ⟨"DrawingMachine", "begin", "(Z)V"⟩ ⟨"DrawingMachine", "begin", "(Z)V"⟩ ∈ tw := tw_of (tb_2 (List.mem_of_getElem? (i := 220) rfl)) rfl
theorem k1896 : Cond.methodLink "DrawingMachineLaw" 89 ⟨"DrawingMachineModel", "begin", "(Z)V"⟩ ∈ tw := tw_of (tb_8 (List.mem_of_getElem? (i := 216) rfl)) rfl
theorem k1897 : Cond.instanceMethod ⟨"DrawingMachineModel", "begin", "(Z)V"⟩ ∈ tw := tw_of (tb_8 (List.mem_of_getElem? (i := 217) rfl)) rfl
theorem k1898 : Cond.selects "DrawingMachineModel" ⟨"DrawingMachineModel", "begin", "(Z)V"⟩ ⟨"DrawingMachineModel", "begin", "(Z)V"⟩ ∈ tw := tw_of (tb_8 (List.mem_of_getElem? (i := 218) rfl)) rfl
theorem k908 : Cond.methodLink "DrawingMachineLaw" 90 ⟨"DrawingMachineLaw", "run", "(LDrawingMachine;I[J)I"⟩ ∈ tw := tw_of (tb_4 (List.mem_of_getElem? (i := 188) rfl)) rfl
theorem k909 : Cond.static ⟨"DrawingMachineLaw", "run", "(LDrawingMachine;I[J)I"⟩ ∈ tw := tw_of (tb_4 (List.mem_of_getElem? (i := 189) rfl)) rfl
theorem k1900 : Cond.methodLink "DrawingMachineLaw" 92 ⟨"DrawingMachineModel", "run", "(I)I"⟩ ∈ tw := tw_of (tb_8 (List.mem_of_getElem? (i := 220) rfl)) rfl
theorem k1901 : Cond.instanceMethod ⟨"DrawingMachineModel", "run", "(I)I"⟩ ∈ tw := tw_of (tb_8 (List.mem_of_getElem? (i := 221) rfl)) rfl
theorem k1902 : Cond.selects "DrawingMachineModel" ⟨"DrawingMachineModel", "run", "(I)I"⟩ ⟨"DrawingMachineModel", "run", "(I)I"⟩ ∈ tw := tw_of (tb_8 (List.mem_of_getElem? (i := 222) rfl)) rfl
theorem k1376 : Cond.methodLink "DrawingMachineLaw" 93 ⟨"DrawingMachineLaw", "about", "(LDrawingMachine;I[J)I"⟩ ∈ tw := tw_of (tb_6 (List.mem_of_getElem? (i := 176) rfl)) rfl
theorem k1377 : Cond.static ⟨"DrawingMachineLaw", "about", "(LDrawingMachine;I[J)I"⟩ ∈ tw := tw_of (tb_6 (List.mem_of_getElem? (i := 177) rfl)) rfl
theorem k2485 : Cond.methodLink "DrawingMachineLaw" 95 ⟨"DrawingMachineModel", "about", "(I)I"⟩ ∈ tw := tw_of (tb_11 (List.mem_of_getElem? (i := 85) rfl)) rfl
theorem k2486 : Cond.instanceMethod ⟨"DrawingMachineModel", "about", "(I)I"⟩ ∈ tw := tw_of (tb_11 (List.mem_of_getElem? (i := 86) rfl)) rfl
theorem k2487 : Cond.selects "DrawingMachineModel" ⟨"DrawingMachineModel", "about", "(I)I"⟩ ⟨"DrawingMachineModel", "about", "(I)I"⟩ ∈ tw := tw_of (tb_11 (List.mem_of_getElem? (i := 87) rfl)) rfl
theorem k1384 : Cond.methodLink "DrawingMachineLaw" 96 ⟨"DrawingMachineLaw", "at", "(LDrawingMachine;III[J)I"⟩ ∈ tw := tw_of (tb_6 (List.mem_of_getElem? (i := 184) rfl)) rfl
theorem k1385 : Cond.static ⟨"DrawingMachineLaw", "at", "(LDrawingMachine;III[J)I"⟩ ∈ tw := tw_of (tb_6 (List.mem_of_getElem? (i := 185) rfl)) rfl
theorem k2495 : Cond.methodLink "DrawingMachineLaw" 98 ⟨"DrawingMachineModel", "at", "(III)I"⟩ ∈ tw := tw_of (tb_11 (List.mem_of_getElem? (i := 95) rfl)) rfl
theorem k2496 : Cond.instanceMethod ⟨"DrawingMachineModel", "at", "(III)I"⟩ ∈ tw := tw_of (tb_11 (List.mem_of_getElem? (i := 96) rfl)) rfl
theorem k2497 : Cond.selects "DrawingMachineModel" ⟨"DrawingMachineModel", "at", "(III)I"⟩ ⟨"DrawingMachineModel", "at", "(III)I"⟩ ∈ tw := tw_of (tb_11 (List.mem_of_getElem? (i := 97) rfl)) rfl
theorem k1393 : Cond.methodLink "DrawingMachineLaw" 99 ⟨"DrawingMachineLaw", "sum", "(LDrawingMachine;I[J)I"⟩ ∈ tw := tw_of (tb_6 (List.mem_of_getElem? (i := 193) rfl)) rfl
theorem k1394 : Cond.static ⟨"DrawingMachineLaw", "sum", "(LDrawingMachine;I[J)I"⟩ ∈ tw := tw_of (tb_6 (List.mem_of_getElem? (i := 194) rfl)) rfl
theorem k2500 : Cond.methodLink "DrawingMachineLaw" 101 ⟨"DrawingMachineModel", "sum", "(I)I"⟩ ∈ tw := tw_of (tb_11 (List.mem_of_getElem? (i := 100) rfl)) rfl
theorem k2501 : Cond.instanceMethod ⟨"DrawingMachineModel", "sum", "(I)I"⟩ ∈ tw := tw_of (tb_11 (List.mem_of_getElem? (i := 101) rfl)) rfl
theorem k2502 : Cond.selects "DrawingMachineModel" ⟨"DrawingMachineModel", "sum", "(I)I"⟩ ⟨"DrawingMachineModel", "sum", "(I)I"⟩ ∈ tw := tw_of (tb_11 (List.mem_of_getElem? (i := 102) rfl)) rfl
theorem k1401 : Cond.methodLink "DrawingMachineLaw" 102 ⟨"DrawingMachineLaw", "query", "(LDrawingMachine;I[J)I"⟩ ∈ tw := tw_of (tb_6 (List.mem_of_getElem? (i := 201) rfl)) rfl
theorem k1402 : Cond.static ⟨"DrawingMachineLaw", "query", "(LDrawingMachine;I[J)I"⟩ ∈ tw := tw_of (tb_6 (List.mem_of_getElem? (i := 202) rfl)) rfl
theorem k2509 : Cond.methodLink "DrawingMachineLaw" 104 ⟨"DrawingMachineModel", "query", "(I)I"⟩ ∈ tw := tw_of (tb_11 (List.mem_of_getElem? (i := 109) rfl)) rfl
theorem k2510 : Cond.instanceMethod ⟨"DrawingMachineModel", "query", "(I)I"⟩ ∈ tw := tw_of (tb_11 (List.mem_of_getElem? (i := 110) rfl)) rfl
theorem k2511 : Cond.selects "DrawingMachineModel" ⟨"DrawingMachineModel", "query", "(I)I"⟩ ⟨"DrawingMachineModel", "query", "(I)I"⟩ ∈ tw := tw_of (tb_11 (List.mem_of_getElem? (i := 111) rfl)) rfl
theorem k1409 : Cond.methodLink "DrawingMachineLaw" 105 ⟨"DrawingMachineLaw", "count", "(LDrawingMachine;I[J)I"⟩ ∈ tw := tw_of (tb_6 (List.mem_of_getElem? (i := 209) rfl)) rfl
theorem k1410 : Cond.static ⟨"DrawingMachineLaw", "count", "(LDrawingMachine;I[J)I"⟩ ∈ tw := tw_of (tb_6 (List.mem_of_getElem? (i := 210) rfl)) rfl
theorem k2514 : Cond.methodLink "DrawingMachineLaw" 107 ⟨"DrawingMachineModel", "count", "(I)I"⟩ ∈ tw := tw_of (tb_11 (List.mem_of_getElem? (i := 114) rfl)) rfl
theorem k2515 : Cond.instanceMethod ⟨"DrawingMachineModel", "count", "(I)I"⟩ ∈ tw := tw_of (tb_11 (List.mem_of_getElem? (i := 115) rfl)) rfl
theorem k2516 : Cond.selects "DrawingMachineModel" ⟨"DrawingMachineModel", "count", "(I)I"⟩ ⟨"DrawingMachineModel", "count", "(I)I"⟩ ∈ tw := tw_of (tb_11 (List.mem_of_getElem? (i := 116) rfl)) rfl
theorem k41 : Cond.instantiable "DrawingMachine" 9 ∈ tw := tw_of (tb_1 (List.mem_of_getElem? (i := 41) rfl)) rfl
theorem k49 : Cond.instantiable "DrawingMachine$Told" 1 ∈ tw := tw_of (tb_1 (List.mem_of_getElem? (i := 49) rfl)) rfl
theorem k73 : Cond.instantiable "DrawingMachine$Picture" 7 ∈ tw := tw_of (tb_1 (List.mem_of_getElem? (i := 73) rfl)) rfl
theorem k105 : Cond.instantiable "DrawingMachine$Course" 15 ∈ tw := tw_of (tb_1 (List.mem_of_getElem? (i := 105) rfl)) rfl
theorem k169 : Cond.instantiable "DrawingMachine$Checker" 7 ∈ tw := tw_of (tb_1 (List.mem_of_getElem? (i := 169) rfl)) rfl
theorem k200 : Cond.instantiable "DrawingMachine$Drawing" 9 ∈ tw := tw_of (tb_1 (List.mem_of_getElem? (i := 200) rfl)) rfl
theorem k206 : Cond.instantiable "DrawingMachine$Processor" 9 ∈ tw := tw_of (tb_1 (List.mem_of_getElem? (i := 206) rfl)) rfl
theorem k212 : Cond.instantiable "DrawingMachine$Textures" 6 ∈ tw := tw_of (tb_1 (List.mem_of_getElem? (i := 212) rfl)) rfl
theorem k266 : Cond.instantiable "DrawingMachine$Vertices" 2 ∈ tw := tw_of (tb_2 (List.mem_of_getElem? (i := 26) rfl)) rfl
theorem k279 : Cond.instantiable "DrawingMachine$Shape" 8 ∈ tw := tw_of (tb_2 (List.mem_of_getElem? (i := 39) rfl)) rfl
theorem k318 : Cond.instantiable "DrawingMachine$Covering" 15 ∈ tw := tw_of (tb_2 (List.mem_of_getElem? (i := 78) rfl)) rfl
theorem k405 : Cond.instantiable "DrawingMachine$Program" 4 ∈ tw := tw_of (tb_2 (List.mem_of_getElem? (i := 165) rfl)) rfl
theorem k1418 : Cond.instantiable "DrawingMachineModel" 19 ∈ tw := tw_of (tb_6 (List.mem_of_getElem? (i := 218) rfl)) rfl
theorem k1424 : Cond.instantiable "DrawingMachineModel$DrawCommandsModel" 18 ∈ tw := tw_of (tb_6 (List.mem_of_getElem? (i := 224) rfl)) rfl
theorem k1508 : Cond.instantiable "DrawingMachineModel$TextureUnitsModel" 11 ∈ tw := tw_of (tb_7 (List.mem_of_getElem? (i := 68) rfl)) rfl
theorem k1548 : Cond.instantiable "DrawingMachineModel$ShaderMachineModel" 18 ∈ tw := tw_of (tb_7 (List.mem_of_getElem? (i := 108) rfl)) rfl
theorem k1615 : Cond.instantiable "DrawingMachineModel$VertexWorkModel" 13 ∈ tw := tw_of (tb_7 (List.mem_of_getElem? (i := 175) rfl)) rfl
theorem k1662 : Cond.instantiable "DrawingMachineModel$EdgeRasterModel" 6 ∈ tw := tw_of (tb_7 (List.mem_of_getElem? (i := 222) rfl)) rfl
theorem k1692 : Cond.instantiable "DrawingMachineModel$PlaceTestsModel" 22 ∈ tw := tw_of (tb_8 (List.mem_of_getElem? (i := 12) rfl)) rfl
theorem k0 : Cond.initialized "DrawingMachineLaw" ∈ tw := tw_of (tb_1 (List.mem_of_getElem? (i := 0) rfl)) rfl
theorem k71 : Cond.arrayClass .int ∈ tw := tw_of (tb_1 (List.mem_of_getElem? (i := 71) rfl)) rfl
theorem k198 : Cond.arrayClass .long ∈ tw := tw_of (tb_1 (List.mem_of_getElem? (i := 198) rfl)) rfl
theorem k527 : Cond.native ⟨"java/lang/Throwable", "fillInStackTrace", "(I)Ljava/lang/Throwable;"⟩ ∈ tw := tw_of (tb_3 (List.mem_of_getElem? (i := 47) rfl)) rfl
theorem k554 : Cond.arrayClass .byte ∈ tw := tw_of (tb_3 (List.mem_of_getElem? (i := 74) rfl)) rfl
theorem k637 : Cond.native ⟨"java/lang/Object", "clone", "()Ljava/lang/Object;"⟩ ∈ tw := tw_of (tb_3 (List.mem_of_getElem? (i := 157) rfl)) rfl
theorem k645 : Cond.native ⟨"java/lang/System", "arraycopy", "(Ljava/lang/Object;ILjava/lang/Object;II)V"⟩ ∈ tw := tw_of (tb_3 (List.mem_of_getElem? (i := 165) rfl)) rfl
theorem n170 : Cond.methodLinkNest "DrawingMachine" 40 ⟨"DrawingMachine$Checker", "<init>", "()V"⟩ "DrawingMachine" ∈ nw := nw_of (tb_1 (List.mem_of_getElem? (i := 170) rfl)) rfl
theorem n406 : Cond.methodLinkNest "DrawingMachine" 56 ⟨"DrawingMachine$Program", "<init>", "()V"⟩ "DrawingMachine" ∈ nw := nw_of (tb_2 (List.mem_of_getElem? (i := 166) rfl)) rfl
theorem n949 : Cond.fieldLinkNest "DrawingMachine$Course" 80 "DrawingMachine" "ARGUMENTS" "[I" "DrawingMachine" ∈ nw := nw_of (tb_4 (List.mem_of_getElem? (i := 229) rfl)) rfl
theorem n951 : Cond.methodLinkNest "DrawingMachine$Course" 83 ⟨"DrawingMachine", "within", "(JII)I"⟩ "DrawingMachine" ∈ nw := nw_of (tb_4 (List.mem_of_getElem? (i := 231) rfl)) rfl
theorem n959 : Cond.fieldLinkNest "DrawingMachine$Course" 97 "DrawingMachine" "BOUNDS_AT" "[I" "DrawingMachine" ∈ nw := nw_of (tb_4 (List.mem_of_getElem? (i := 239) rfl)) rfl
theorem n961 : Cond.fieldLinkNest "DrawingMachine$Course" 100 "DrawingMachine" "LEAST" "[I" "DrawingMachine" ∈ nw := nw_of (tb_5 (List.mem_of_getElem? (i := 1) rfl)) rfl
theorem n963 : Cond.fieldLinkNest "DrawingMachine$Course" 103 "DrawingMachine" "MOST" "[I" "DrawingMachine" ∈ nw := nw_of (tb_5 (List.mem_of_getElem? (i := 3) rfl)) rfl
theorem n1002 : Cond.methodLinkNest "DrawingMachine$Vertices" 27 ⟨"DrawingMachine", "wordOf", "([IJ)I"⟩ "DrawingMachine" ∈ nw := nw_of (tb_5 (List.mem_of_getElem? (i := 42) rfl)) rfl
theorem n1030 : Cond.fieldLinkNest "DrawingMachine$Processor" 61 "DrawingMachine" "SOURCES" "[I" "DrawingMachine" ∈ nw := nw_of (tb_5 (List.mem_of_getElem? (i := 70) rfl)) rfl
theorem n1041 : Cond.fieldLinkNest "DrawingMachine$Processor" 84 "DrawingMachine" "FILE_AT" "[I" "DrawingMachine" ∈ nw := nw_of (tb_5 (List.mem_of_getElem? (i := 81) rfl)) rfl
theorem n1048 : Cond.methodLinkNest "DrawingMachine$Textures" 34 ⟨"DrawingMachine", "within", "(JII)I"⟩ "DrawingMachine" ∈ nw := nw_of (tb_5 (List.mem_of_getElem? (i := 88) rfl)) rfl
theorem n1070 : Cond.fieldLinkNest "DrawingMachine$Textures" 76 "DrawingMachine" "TEXEL_BITS" "[I" "DrawingMachine" ∈ nw := nw_of (tb_5 (List.mem_of_getElem? (i := 110) rfl)) rfl
theorem n1072 : Cond.methodLinkNest "DrawingMachine$Textures" 79 ⟨"DrawingMachine", "wordOf", "([IJ)I"⟩ "DrawingMachine" ∈ nw := nw_of (tb_5 (List.mem_of_getElem? (i := 112) rfl)) rfl
theorem n1073 : Cond.fieldLinkNest "DrawingMachine$Textures" 83 "DrawingMachine" "CHANNEL_BITS" "[I" "DrawingMachine" ∈ nw := nw_of (tb_5 (List.mem_of_getElem? (i := 113) rfl)) rfl
theorem n1075 : Cond.fieldLinkNest "DrawingMachine$Textures" 86 "DrawingMachine" "CHANNEL_SHIFT" "[I" "DrawingMachine" ∈ nw := nw_of (tb_5 (List.mem_of_getElem? (i := 115) rfl)) rfl
theorem n1086 : Cond.methodLinkNest "DrawingMachine$Processor" 87 ⟨"DrawingMachine", "within", "(JII)I"⟩ "DrawingMachine" ∈ nw := nw_of (tb_5 (List.mem_of_getElem? (i := 126) rfl)) rfl
theorem n1126 : Cond.methodLinkNest "DrawingMachine$Processor" 116 ⟨"DrawingMachine", "wordOf", "([IJ)I"⟩ "DrawingMachine" ∈ nw := nw_of (tb_5 (List.mem_of_getElem? (i := 166) rfl)) rfl
theorem n1167 : Cond.methodLinkNest "DrawingMachine$Shape" 87 ⟨"DrawingMachine", "within", "(JII)I"⟩ "DrawingMachine" ∈ nw := nw_of (tb_5 (List.mem_of_getElem? (i := 207) rfl)) rfl
theorem n1244 : Cond.methodLinkNest "DrawingMachine$Drawing" 196 ⟨"DrawingMachine", "within", "(JII)I"⟩ "DrawingMachine" ∈ nw := nw_of (tb_6 (List.mem_of_getElem? (i := 44) rfl)) rfl
theorem n1320 : Cond.fieldLinkNest "DrawingMachine$Checker" 74 "DrawingMachine" "SOURCES" "[I" "DrawingMachine" ∈ nw := nw_of (tb_6 (List.mem_of_getElem? (i := 120) rfl)) rfl
theorem n1367 : Cond.fieldLinkNest "DrawingMachine$Told" 25 "DrawingMachine" "KEPT_AT" "[I" "DrawingMachine" ∈ nw := nw_of (tb_6 (List.mem_of_getElem? (i := 167) rfl)) rfl
theorem n1369 : Cond.fieldLinkNest "DrawingMachine$Told" 28 "DrawingMachine" "KEPT_BY_FIRST" "[I" "DrawingMachine" ∈ nw := nw_of (tb_6 (List.mem_of_getElem? (i := 169) rfl)) rfl
theorem n1371 : Cond.fieldLinkNest "DrawingMachine$Told" 31 "DrawingMachine" "ARGUMENTS" "[I" "DrawingMachine" ∈ nw := nw_of (tb_6 (List.mem_of_getElem? (i := 171) rfl)) rfl
theorem n1445 : Cond.fieldLinkNest "DrawingMachineModel" 25 "DrawingMachineModel$DrawCommandsModel" "memory" "[I" "DrawingMachineModel" ∈ nw := nw_of (tb_7 (List.mem_of_getElem? (i := 5) rfl)) rfl
theorem n1449 : Cond.fieldLinkNest "DrawingMachineModel" 111 "DrawingMachineModel$DrawCommandsModel" "size" "I" "DrawingMachineModel" ∈ nw := nw_of (tb_7 (List.mem_of_getElem? (i := 9) rfl)) rfl
theorem n1454 : Cond.fieldLinkNest "DrawingMachineModel" 132 "DrawingMachineModel$DrawCommandsModel" "over" "Z" "DrawingMachineModel" ∈ nw := nw_of (tb_7 (List.mem_of_getElem? (i := 14) rfl)) rfl
theorem n1467 : Cond.fieldLinkNest "DrawingMachineModel" 150 "DrawingMachineModel$DrawCommandsModel" "argument" "[I" "DrawingMachineModel" ∈ nw := nw_of (tb_7 (List.mem_of_getElem? (i := 27) rfl)) rfl
theorem n1469 : Cond.fieldLinkNest "DrawingMachineModel" 126 "DrawingMachineModel$DrawCommandsModel" "kept" "[I" "DrawingMachineModel" ∈ nw := nw_of (tb_7 (List.mem_of_getElem? (i := 29) rfl)) rfl
theorem n1912 : Cond.methodLinkNest "DrawingMachineModel" 129 ⟨"DrawingMachineModel$DrawCommandsModel", "rowOf", "(II)I"⟩ "DrawingMachineModel" ∈ nw := nw_of (tb_8 (List.mem_of_getElem? (i := 232) rfl)) rfl
theorem n1570 : Cond.fieldLinkNest "DrawingMachineModel" 255 "DrawingMachineModel$ShaderMachineModel" "uniforms" "[I" "DrawingMachineModel" ∈ nw := nw_of (tb_7 (List.mem_of_getElem? (i := 130) rfl)) rfl
theorem n1559 : Cond.fieldLinkNest "DrawingMachineModel" 179 "DrawingMachineModel$ShaderMachineModel" "fault" "I" "DrawingMachineModel" ∈ nw := nw_of (tb_7 (List.mem_of_getElem? (i := 119) rfl)) rfl
theorem n1562 : Cond.fieldLinkNest "DrawingMachineModel" 183 "DrawingMachineModel$ShaderMachineModel" "place" "I" "DrawingMachineModel" ∈ nw := nw_of (tb_7 (List.mem_of_getElem? (i := 122) rfl)) rfl
theorem n1460 : Cond.fieldLinkNest "DrawingMachineModel" 192 "DrawingMachineModel$DrawCommandsModel" "done" "I" "DrawingMachineModel" ∈ nw := nw_of (tb_7 (List.mem_of_getElem? (i := 20) rfl)) rfl
theorem n1456 : Cond.fieldLinkNest "DrawingMachineModel" 195 "DrawingMachineModel$DrawCommandsModel" "refusal" "I" "DrawingMachineModel" ∈ nw := nw_of (tb_7 (List.mem_of_getElem? (i := 16) rfl)) rfl
theorem n1464 : Cond.fieldLinkNest "DrawingMachineModel" 198 "DrawingMachineModel$DrawCommandsModel" "arguments" "I" "DrawingMachineModel" ∈ nw := nw_of (tb_7 (List.mem_of_getElem? (i := 24) rfl)) rfl
theorem n1566 : Cond.fieldLinkNest "DrawingMachineModel" 275 "DrawingMachineModel$ShaderMachineModel" "ins" "[I" "DrawingMachineModel" ∈ nw := nw_of (tb_7 (List.mem_of_getElem? (i := 126) rfl)) rfl
theorem n1568 : Cond.fieldLinkNest "DrawingMachineModel" 284 "DrawingMachineModel$ShaderMachineModel" "outs" "[I" "DrawingMachineModel" ∈ nw := nw_of (tb_7 (List.mem_of_getElem? (i := 128) rfl)) rfl
theorem n1671 : Cond.fieldLinkNest "DrawingMachineModel" 307 "DrawingMachineModel$EdgeRasterModel" "cornerY" "[I" "DrawingMachineModel" ∈ nw := nw_of (tb_7 (List.mem_of_getElem? (i := 231) rfl)) rfl
theorem n1669 : Cond.fieldLinkNest "DrawingMachineModel" 314 "DrawingMachineModel$EdgeRasterModel" "cornerX" "[I" "DrawingMachineModel" ∈ nw := nw_of (tb_7 (List.mem_of_getElem? (i := 229) rfl)) rfl
theorem n2396 : Cond.methodLinkNest "DrawingMachineModel" 317 ⟨"DrawingMachineModel$EdgeRasterModel", "isCovered", "(II)Z"⟩ "DrawingMachineModel" ∈ nw := nw_of (tb_10 (List.mem_of_getElem? (i := 236) rfl)) rfl
theorem n1573 : Cond.fieldLinkNest "DrawingMachineModel" 353 "DrawingMachineModel$ShaderMachineModel" "killed" "Z" "DrawingMachineModel" ∈ nw := nw_of (tb_7 (List.mem_of_getElem? (i := 133) rfl)) rfl
theorem n1463 : Cond.fieldLinkNest "DrawingMachineModel" 359 "DrawingMachineModel$DrawCommandsModel" "query" "I" "DrawingMachineModel" ∈ nw := nw_of (tb_7 (List.mem_of_getElem? (i := 23) rfl)) rfl
theorem n2428 : Cond.methodLinkNest "DrawingMachineModel" 323 ⟨"DrawingMachineModel$EdgeRasterModel", "weightOf", "(III)J"⟩ "DrawingMachineModel" ∈ nw := nw_of (tb_11 (List.mem_of_getElem? (i := 28) rfl)) rfl
theorem n1673 : Cond.fieldLinkNest "DrawingMachineModel" 327 "DrawingMachineModel$EdgeRasterModel" "depths" "[I" "DrawingMachineModel" ∈ nw := nw_of (tb_7 (List.mem_of_getElem? (i := 233) rfl)) rfl
theorem n1675 : Cond.fieldLinkNest "DrawingMachineModel" 330 "DrawingMachineModel$EdgeRasterModel" "nearness" "[I" "DrawingMachineModel" ∈ nw := nw_of (tb_7 (List.mem_of_getElem? (i := 235) rfl)) rfl
theorem n2430 : Cond.methodLinkNest "DrawingMachineModel" 335 ⟨"DrawingMachineModel$EdgeRasterModel", "whole", "()J"⟩ "DrawingMachineModel" ∈ nw := nw_of (tb_11 (List.mem_of_getElem? (i := 30) rfl)) rfl
theorem n1677 : Cond.fieldLinkNest "DrawingMachineModel" 339 "DrawingMachineModel$EdgeRasterModel" "values" "[I" "DrawingMachineModel" ∈ nw := nw_of (tb_7 (List.mem_of_getElem? (i := 237) rfl)) rfl
theorem n2437 : Cond.methodLinkNest "DrawingMachineModel" 342 ⟨"DrawingMachineModel$EdgeRasterModel", "down", "(JJ)J"⟩ "DrawingMachineModel" ∈ nw := nw_of (tb_11 (List.mem_of_getElem? (i := 37) rfl)) rfl
theorem n2481 : Cond.methodLinkNest "DrawingMachineModel" 208 ⟨"DrawingMachineModel$PlaceTestsModel", "show", "(II)I"⟩ "DrawingMachineModel" ∈ nw := nw_of (tb_11 (List.mem_of_getElem? (i := 81) rfl)) rfl
theorem i_DM : ∀ w ∈ u_ws R_DM F_DM 9, w ∈ tw := by
  intro w hw
  obtain ⟨k, hk, rfl⟩ := List.mem_map.mp hw
  have hk := List.mem_range.mp hk
  rcases (show k = 0 ∨ k = 1 ∨ k = 2 ∨ k = 3 ∨ k = 4 ∨ k = 5 ∨ k = 6 ∨ k = 7 ∨ k = 8 by omega) with rfl | rfl | rfl | rfl | rfl | rfl | rfl | rfl | rfl
  · exact k439
  · exact k441
  · exact k443
  · exact k445
  · exact k447
  · exact k449
  · exact k451
  · exact k453
  · exact k455
theorem i_Told : ∀ w ∈ u_ws R_Told F_Told 1, w ∈ tw := by
  intro w hw
  obtain ⟨k, hk, rfl⟩ := List.mem_map.mp hw
  have hk := List.mem_range.mp hk
  rcases (show k = 0 by omega) with rfl
  · exact k68
theorem i_Pic : ∀ w ∈ u_ws R_Pic F_Pic 7, w ∈ tw := by
  intro w hw
  obtain ⟨k, hk, rfl⟩ := List.mem_map.mp hw
  have hk := List.mem_range.mp hk
  rcases (show k = 0 ∨ k = 1 ∨ k = 2 ∨ k = 3 ∨ k = 4 ∨ k = 5 ∨ k = 6 by omega) with rfl | rfl | rfl | rfl | rfl | rfl | rfl
  · exact k89
  · exact k91
  · exact k93
  · exact k95
  · exact k97
  · exact k99
  · exact k101
theorem i_Cou : ∀ w ∈ u_ws R_Cou F_Cou 15, w ∈ tw := by
  intro w hw
  obtain ⟨k, hk, rfl⟩ := List.mem_map.mp hw
  have hk := List.mem_range.mp hk
  rcases (show k = 0 ∨ k = 1 ∨ k = 2 ∨ k = 3 ∨ k = 4 ∨ k = 5 ∨ k = 6 ∨ k = 7 ∨ k = 8 ∨ k = 9 ∨ k = 10 ∨ k = 11 ∨ k = 12 ∨ k = 13 ∨ k = 14 by omega) with rfl | rfl | rfl | rfl | rfl | rfl | rfl | rfl | rfl | rfl | rfl | rfl | rfl | rfl | rfl
  · exact k137
  · exact k139
  · exact k141
  · exact k143
  · exact k145
  · exact k147
  · exact k149
  · exact k151
  · exact k153
  · exact k155
  · exact k157
  · exact k159
  · exact k161
  · exact k163
  · exact k165
theorem i_Chk : ∀ w ∈ u_ws R_Chk F_Chk 7, w ∈ tw := by
  intro w hw
  obtain ⟨k, hk, rfl⟩ := List.mem_map.mp hw
  have hk := List.mem_range.mp hk
  rcases (show k = 0 ∨ k = 1 ∨ k = 2 ∨ k = 3 ∨ k = 4 ∨ k = 5 ∨ k = 6 by omega) with rfl | rfl | rfl | rfl | rfl | rfl | rfl
  · exact k183
  · exact k185
  · exact k187
  · exact k189
  · exact k191
  · exact k193
  · exact k195
theorem i_Drw : ∀ w ∈ u_ws R_Drw F_Drw 9, w ∈ tw := by
  intro w hw
  obtain ⟨k, hk, rfl⟩ := List.mem_map.mp hw
  have hk := List.mem_range.mp hk
  rcases (show k = 0 ∨ k = 1 ∨ k = 2 ∨ k = 3 ∨ k = 4 ∨ k = 5 ∨ k = 6 ∨ k = 7 ∨ k = 8 by omega) with rfl | rfl | rfl | rfl | rfl | rfl | rfl | rfl | rfl
  · exact k385
  · exact k387
  · exact k389
  · exact k391
  · exact k393
  · exact k395
  · exact k397
  · exact k399
  · exact k401
theorem i_Pro : ∀ w ∈ u_ws R_Pro F_Pro 9, w ∈ tw := by
  intro w hw
  obtain ⟨k, hk, rfl⟩ := List.mem_map.mp hw
  have hk := List.mem_range.mp hk
  rcases (show k = 0 ∨ k = 1 ∨ k = 2 ∨ k = 3 ∨ k = 4 ∨ k = 5 ∨ k = 6 ∨ k = 7 ∨ k = 8 by omega) with rfl | rfl | rfl | rfl | rfl | rfl | rfl | rfl | rfl
  · exact k246
  · exact k248
  · exact k250
  · exact k252
  · exact k254
  · exact k256
  · exact k258
  · exact k260
  · exact k262
theorem i_Tex : ∀ w ∈ u_ws R_Tex F_Tex 6, w ∈ tw := by
  intro w hw
  obtain ⟨k, hk, rfl⟩ := List.mem_map.mp hw
  have hk := List.mem_range.mp hk
  rcases (show k = 0 ∨ k = 1 ∨ k = 2 ∨ k = 3 ∨ k = 4 ∨ k = 5 by omega) with rfl | rfl | rfl | rfl | rfl | rfl
  · exact k223
  · exact k225
  · exact k227
  · exact k229
  · exact k231
  · exact k233
theorem i_Ver : ∀ w ∈ u_ws R_Ver F_Ver 2, w ∈ tw := by
  intro w hw
  obtain ⟨k, hk, rfl⟩ := List.mem_map.mp hw
  have hk := List.mem_range.mp hk
  rcases (show k = 0 ∨ k = 1 by omega) with rfl | rfl
  · exact k273
  · exact k275
theorem i_Sha : ∀ w ∈ u_ws R_Sha F_Sha 8, w ∈ tw := by
  intro w hw
  obtain ⟨k, hk, rfl⟩ := List.mem_map.mp hw
  have hk := List.mem_range.mp hk
  rcases (show k = 0 ∨ k = 1 ∨ k = 2 ∨ k = 3 ∨ k = 4 ∨ k = 5 ∨ k = 6 ∨ k = 7 by omega) with rfl | rfl | rfl | rfl | rfl | rfl | rfl | rfl
  · exact k300
  · exact k302
  · exact k304
  · exact k306
  · exact k308
  · exact k310
  · exact k312
  · exact k314
theorem i_Cov : ∀ w ∈ u_ws R_Cov F_Cov 15, w ∈ tw := by
  intro w hw
  obtain ⟨k, hk, rfl⟩ := List.mem_map.mp hw
  have hk := List.mem_range.mp hk
  rcases (show k = 0 ∨ k = 1 ∨ k = 2 ∨ k = 3 ∨ k = 4 ∨ k = 5 ∨ k = 6 ∨ k = 7 ∨ k = 8 ∨ k = 9 ∨ k = 10 ∨ k = 11 ∨ k = 12 ∨ k = 13 ∨ k = 14 by omega) with rfl | rfl | rfl | rfl | rfl | rfl | rfl | rfl | rfl | rfl | rfl | rfl | rfl | rfl | rfl
  · exact k342
  · exact k344
  · exact k346
  · exact k348
  · exact k350
  · exact k352
  · exact k354
  · exact k356
  · exact k358
  · exact k360
  · exact k362
  · exact k364
  · exact k366
  · exact k368
  · exact k370
theorem i_Prg : ∀ w ∈ u_ws R_Prg F_Prg 4, w ∈ tw := by
  intro w hw
  obtain ⟨k, hk, rfl⟩ := List.mem_map.mp hw
  have hk := List.mem_range.mp hk
  rcases (show k = 0 ∨ k = 1 ∨ k = 2 ∨ k = 3 by omega) with rfl | rfl | rfl | rfl
  · exact k421
  · exact k423
  · exact k425
  · exact k427
theorem i_Mod : ∀ w ∈ u_ws R_Mod F_Mod 19, w ∈ tw := by
  intro w hw
  obtain ⟨k, hk, rfl⟩ := List.mem_map.mp hw
  have hk := List.mem_range.mp hk
  rcases (show k = 0 ∨ k = 1 ∨ k = 2 ∨ k = 3 ∨ k = 4 ∨ k = 5 ∨ k = 6 ∨ k = 7 ∨ k = 8 ∨ k = 9 ∨ k = 10 ∨ k = 11 ∨ k = 12 ∨ k = 13 ∨ k = 14 ∨ k = 15 ∨ k = 16 ∨ k = 17 ∨ k = 18 by omega) with rfl | rfl | rfl | rfl | rfl | rfl | rfl | rfl | rfl | rfl | rfl | rfl | rfl | rfl | rfl | rfl | rfl | rfl | rfl
  · exact k1784
  · exact k1786
  · exact k1788
  · exact k1790
  · exact k1792
  · exact k1794
  · exact k1796
  · exact k1798
  · exact k1800
  · exact k1802
  · exact k1804
  · exact k1806
  · exact k1808
  · exact k1810
  · exact k1812
  · exact k1814
  · exact k1816
  · exact k1818
  · exact k1820
theorem i_Cmd : ∀ w ∈ u_ws R_Cmd F_Cmd 18, w ∈ tw := by
  intro w hw
  obtain ⟨k, hk, rfl⟩ := List.mem_map.mp hw
  have hk := List.mem_range.mp hk
  rcases (show k = 0 ∨ k = 1 ∨ k = 2 ∨ k = 3 ∨ k = 4 ∨ k = 5 ∨ k = 6 ∨ k = 7 ∨ k = 8 ∨ k = 9 ∨ k = 10 ∨ k = 11 ∨ k = 12 ∨ k = 13 ∨ k = 14 ∨ k = 15 ∨ k = 16 ∨ k = 17 by omega) with rfl | rfl | rfl | rfl | rfl | rfl | rfl | rfl | rfl | rfl | rfl | rfl | rfl | rfl | rfl | rfl | rfl | rfl
  · exact k1470
  · exact k1472
  · exact k1474
  · exact k1476
  · exact k1478
  · exact k1480
  · exact k1482
  · exact k1484
  · exact k1486
  · exact k1488
  · exact k1490
  · exact k1492
  · exact k1494
  · exact k1496
  · exact k1498
  · exact k1500
  · exact k1502
  · exact k1504
theorem i_Txm : ∀ w ∈ u_ws R_Txm F_Txm 11, w ∈ tw := by
  intro w hw
  obtain ⟨k, hk, rfl⟩ := List.mem_map.mp hw
  have hk := List.mem_range.mp hk
  rcases (show k = 0 ∨ k = 1 ∨ k = 2 ∨ k = 3 ∨ k = 4 ∨ k = 5 ∨ k = 6 ∨ k = 7 ∨ k = 8 ∨ k = 9 ∨ k = 10 by omega) with rfl | rfl | rfl | rfl | rfl | rfl | rfl | rfl | rfl | rfl | rfl
  · exact k1524
  · exact k1526
  · exact k1528
  · exact k1530
  · exact k1532
  · exact k1534
  · exact k1536
  · exact k1538
  · exact k1540
  · exact k1542
  · exact k1544
theorem i_Shm : ∀ w ∈ u_ws R_Shm F_Shm 18, w ∈ tw := by
  intro w hw
  obtain ⟨k, hk, rfl⟩ := List.mem_map.mp hw
  have hk := List.mem_range.mp hk
  rcases (show k = 0 ∨ k = 1 ∨ k = 2 ∨ k = 3 ∨ k = 4 ∨ k = 5 ∨ k = 6 ∨ k = 7 ∨ k = 8 ∨ k = 9 ∨ k = 10 ∨ k = 11 ∨ k = 12 ∨ k = 13 ∨ k = 14 ∨ k = 15 ∨ k = 16 ∨ k = 17 by omega) with rfl | rfl | rfl | rfl | rfl | rfl | rfl | rfl | rfl | rfl | rfl | rfl | rfl | rfl | rfl | rfl | rfl | rfl
  · exact k1577
  · exact k1579
  · exact k1581
  · exact k1583
  · exact k1585
  · exact k1587
  · exact k1589
  · exact k1591
  · exact k1593
  · exact k1595
  · exact k1597
  · exact k1599
  · exact k1601
  · exact k1603
  · exact k1605
  · exact k1607
  · exact k1609
  · exact k1611
theorem i_Vwm : ∀ w ∈ u_ws R_Vwm F_Vwm 13, w ∈ tw := by
  intro w hw
  obtain ⟨k, hk, rfl⟩ := List.mem_map.mp hw
  have hk := List.mem_range.mp hk
  rcases (show k = 0 ∨ k = 1 ∨ k = 2 ∨ k = 3 ∨ k = 4 ∨ k = 5 ∨ k = 6 ∨ k = 7 ∨ k = 8 ∨ k = 9 ∨ k = 10 ∨ k = 11 ∨ k = 12 by omega) with rfl | rfl | rfl | rfl | rfl | rfl | rfl | rfl | rfl | rfl | rfl | rfl | rfl
  · exact k1634
  · exact k1636
  · exact k1638
  · exact k1640
  · exact k1642
  · exact k1644
  · exact k1646
  · exact k1648
  · exact k1650
  · exact k1652
  · exact k1654
  · exact k1656
  · exact k1658
theorem i_Erm : ∀ w ∈ u_ws R_Erm F_Erm 6, w ∈ tw := by
  intro w hw
  obtain ⟨k, hk, rfl⟩ := List.mem_map.mp hw
  have hk := List.mem_range.mp hk
  rcases (show k = 0 ∨ k = 1 ∨ k = 2 ∨ k = 3 ∨ k = 4 ∨ k = 5 by omega) with rfl | rfl | rfl | rfl | rfl | rfl
  · exact k1678
  · exact k1680
  · exact k1682
  · exact k1684
  · exact k1686
  · exact k1688
theorem i_Ptm : ∀ w ∈ u_ws R_Ptm F_Ptm 22, w ∈ tw := by
  intro w hw
  obtain ⟨k, hk, rfl⟩ := List.mem_map.mp hw
  have hk := List.mem_range.mp hk
  rcases (show k = 0 ∨ k = 1 ∨ k = 2 ∨ k = 3 ∨ k = 4 ∨ k = 5 ∨ k = 6 ∨ k = 7 ∨ k = 8 ∨ k = 9 ∨ k = 10 ∨ k = 11 ∨ k = 12 ∨ k = 13 ∨ k = 14 ∨ k = 15 ∨ k = 16 ∨ k = 17 ∨ k = 18 ∨ k = 19 ∨ k = 20 ∨ k = 21 by omega) with rfl | rfl | rfl | rfl | rfl | rfl | rfl | rfl | rfl | rfl | rfl | rfl | rfl | rfl | rfl | rfl | rfl | rfl | rfl | rfl | rfl | rfl
  · exact k1720
  · exact k1722
  · exact k1724
  · exact k1726
  · exact k1728
  · exact k1730
  · exact k1732
  · exact k1734
  · exact k1736
  · exact k1738
  · exact k1740
  · exact k1742
  · exact k1744
  · exact k1746
  · exact k1748
  · exact k1750
  · exact k1752
  · exact k1754
  · exact k1756
  · exact k1758
  · exact k1760
  · exact k1762
