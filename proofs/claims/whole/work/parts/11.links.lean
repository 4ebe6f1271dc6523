theorem tm_0 {w : Cond} (h : w ∈ tables_1) : w ∈ lw_tbl := List.mem_append_right _ h
theorem tm_1 {w : Cond} (h : w ∈ tables_1_1) : w ∈ lw_tbl := tm_0 (List.mem_append_left _ h)
theorem tm_2 {w : Cond} (h : w ∈ tables_1_2) : w ∈ lw_tbl := tm_0 (List.mem_append_right _ (List.mem_append_left _ h))
theorem tm_3 {w : Cond} (h : w ∈ tables_1_3) : w ∈ lw_tbl := tm_0 (List.mem_append_right _ (List.mem_append_right _ (List.mem_append_left _ h)))
theorem tm_4 {w : Cond} (h : w ∈ tables_1_4) : w ∈ lw_tbl := tm_0 (List.mem_append_right _ (List.mem_append_right _ (List.mem_append_right _ (List.mem_append_left _ h))))
theorem tm_5 {w : Cond} (h : w ∈ tables_1_5) : w ∈ lw_tbl := tm_0 (List.mem_append_right _ (List.mem_append_right _ (List.mem_append_right _ (List.mem_append_right _ (List.mem_append_left _ h)))))
theorem tm_6 {w : Cond} (h : w ∈ tables_1_6) : w ∈ lw_tbl := tm_0 (List.mem_append_right _ (List.mem_append_right _ (List.mem_append_right _ (List.mem_append_right _ (List.mem_append_right _ (List.mem_append_left _ h))))))
theorem tm_7 {w : Cond} (h : w ∈ tables_1_7) : w ∈ lw_tbl := tm_0 (List.mem_append_right _ (List.mem_append_right _ (List.mem_append_right _ (List.mem_append_right _ (List.mem_append_right _ (List.mem_append_right _ (h)))))))
theorem pl_RJ0 : plainName RJ0 = true := by decide +kernel
theorem pl_RJ1 : plainName RJ1 = true := by decide +kernel
theorem pl_RJ13 : plainName RJ13 = true := by decide +kernel
theorem pl_RJ2 : plainName RJ2 = true := by decide +kernel
theorem pl_RJ3 : plainName RJ3 = true := by decide +kernel
theorem pl_RJ7 : plainName RJ7 = true := by decide +kernel
theorem pl_RX0 : plainName RX0 = true := by decide +kernel
theorem pl_RX1 : plainName RX1 = true := by decide +kernel
theorem pl_RX10 : plainName RX10 = true := by decide +kernel
theorem pl_RX2 : plainName RX2 = true := by decide +kernel
theorem pl_RX3 : plainName RX3 = true := by decide +kernel
theorem pl_RX4 : plainName RX4 = true := by decide +kernel
theorem pl_RX5 : plainName RX5 = true := by decide +kernel
theorem pl_RX6 : plainName RX6 = true := by decide +kernel
theorem pl_RX7 : plainName RX7 = true := by decide +kernel
theorem pl_RX8 : plainName RX8 = true := by decide +kernel
theorem pl_RX9 : plainName RX9 = true := by decide +kernel
abbrev M_X0_init : ZM := (yX0_init, cX0_init, 1, none)
set_option maxRecDepth 100000 in
theorem kk_X0_init : ZMk M_X0_init := ⟨tm_1 (List.mem_of_getElem? (i := 131) (by rfl)), tm_1 (List.mem_of_getElem? (i := 5) (by decide +kernel)), ⟨by decide, by decide⟩, by decide⟩
theorem mk_X0_init : ZMc M_X0_init := ⟨kk_X0_init, tm_1 (List.mem_of_getElem? (i := 130) (by decide +kernel)), rfl, rfl⟩
theorem kd_X0_init : (parseMethodDescriptor M_X0_init.1.desc).map (fun d => d.parameters.length) = some 0 := by decide +kernel
abbrev M_X0_shape : ZM := (yX0_shape, cX0_shape, 4, none)
set_option maxRecDepth 100000 in
theorem kk_X0_shape : ZMk M_X0_shape := ⟨tm_2 (List.mem_of_getElem? (i := 147) (by rfl)), tm_1 (List.mem_of_getElem? (i := 5) (by decide +kernel)), ⟨by decide, by decide⟩, by decide⟩
theorem mk_X0_shape : ZMi M_X0_shape := ⟨kk_X0_shape, tm_2 (List.mem_of_getElem? (i := 146) (by decide +kernel)), List.mem_of_getElem? (i := 2) (by decide +kernel)⟩
theorem kd_X0_shape : (parseMethodDescriptor M_X0_shape.1.desc).map (fun d => d.parameters.length) = some 1 := by decide +kernel
abbrev M_X0_layNeighbours : ZM := (yX0_layNeighbours, cX0_layNeighbours, 5, none)
set_option maxRecDepth 100000 in
theorem kk_X0_layNeighbours : ZMk M_X0_layNeighbours := ⟨tm_2 (List.mem_of_getElem? (i := 157) (by rfl)), tm_1 (List.mem_of_getElem? (i := 5) (by decide +kernel)), ⟨by decide, by decide⟩, by decide⟩
theorem mk_X0_layNeighbours : ZMi M_X0_layNeighbours := ⟨kk_X0_layNeighbours, tm_2 (List.mem_of_getElem? (i := 156) (by decide +kernel)), List.mem_of_getElem? (i := 3) (by decide +kernel)⟩
theorem kd_X0_layNeighbours : (parseMethodDescriptor M_X0_layNeighbours.1.desc).map (fun d => d.parameters.length) = some 2 := by decide +kernel
abbrev M_X0_copyOf : ZM := (yX0_copyOf, cX0_copyOf, 2, none)
set_option maxRecDepth 100000 in
theorem kk_X0_copyOf : ZMk M_X0_copyOf := ⟨tm_4 (List.mem_of_getElem? (i := 96) (by rfl)), tm_1 (List.mem_of_getElem? (i := 5) (by decide +kernel)), ⟨by decide, by decide⟩, by decide⟩
theorem mk_X0_copyOf : ZMi M_X0_copyOf := ⟨kk_X0_copyOf, tm_4 (List.mem_of_getElem? (i := 95) (by decide +kernel)), List.mem_of_getElem? (i := 64) (by decide +kernel)⟩
theorem kd_X0_copyOf : (parseMethodDescriptor M_X0_copyOf.1.desc).map (fun d => d.parameters.length) = some 1 := by decide +kernel
abbrev M_X0_pack : ZM := (yX0_pack, cX0_pack, 1, none)
set_option maxRecDepth 100000 in
theorem kk_X0_pack : ZMk M_X0_pack := ⟨tm_3 (List.mem_of_getElem? (i := 188) (by rfl)), tm_1 (List.mem_of_getElem? (i := 5) (by decide +kernel)), ⟨by decide, by decide⟩, by decide⟩
theorem mk_X0_pack : ZMi M_X0_pack := ⟨kk_X0_pack, tm_3 (List.mem_of_getElem? (i := 187) (by decide +kernel)), List.mem_of_getElem? (i := 47) (by decide +kernel)⟩
theorem kd_X0_pack : (parseMethodDescriptor M_X0_pack.1.desc).map (fun d => d.parameters.length) = some 0 := by decide +kernel
abbrev M_X0_store : ZM := (yX0_store, cX0_store, 7, none)
set_option maxRecDepth 100000 in
theorem kk_X0_store : ZMk M_X0_store := ⟨tm_2 (List.mem_of_getElem? (i := 169) (by rfl)), tm_1 (List.mem_of_getElem? (i := 5) (by decide +kernel)), ⟨by decide, by decide⟩, by decide⟩
theorem mk_X0_store : ZMi M_X0_store := ⟨kk_X0_store, tm_2 (List.mem_of_getElem? (i := 168) (by decide +kernel)), List.mem_of_getElem? (i := 6) (by decide +kernel)⟩
theorem kd_X0_store : (parseMethodDescriptor M_X0_store.1.desc).map (fun d => d.parameters.length) = some 2 := by decide +kernel
abbrev M_X0_load : ZM := (yX0_load, cX0_load, 4, none)
set_option maxRecDepth 100000 in
theorem kk_X0_load : ZMk M_X0_load := ⟨tm_2 (List.mem_of_getElem? (i := 182) (by rfl)), tm_1 (List.mem_of_getElem? (i := 5) (by decide +kernel)), ⟨by decide, by decide⟩, by decide⟩
theorem mk_X0_load : ZMi M_X0_load := ⟨kk_X0_load, tm_2 (List.mem_of_getElem? (i := 181) (by decide +kernel)), List.mem_of_getElem? (i := 9) (by decide +kernel)⟩
theorem kd_X0_load : (parseMethodDescriptor M_X0_load.1.desc).map (fun d => d.parameters.length) = some 2 := by decide +kernel
abbrev M_X0_packedAs : ZM := (yX0_packedAs, cX0_packedAs, 3, (some .boolean))
set_option maxRecDepth 100000 in
theorem kk_X0_packedAs : ZMk M_X0_packedAs := ⟨tm_3 (List.mem_of_getElem? (i := 198) (by rfl)), tm_1 (List.mem_of_getElem? (i := 5) (by decide +kernel)), ⟨by decide, by decide⟩, by decide⟩
theorem mk_X0_packedAs : ZMi M_X0_packedAs := ⟨kk_X0_packedAs, tm_3 (List.mem_of_getElem? (i := 197) (by decide +kernel)), List.mem_of_getElem? (i := 49) (by decide +kernel)⟩
theorem kd_X0_packedAs : (parseMethodDescriptor M_X0_packedAs.1.desc).map (fun d => d.parameters.length) = some 2 := by decide +kernel
abbrev M_X0_has : ZM := (yX0_has, cX0_has, 2, (some .boolean))
set_option maxRecDepth 100000 in
theorem kk_X0_has : ZMk M_X0_has := ⟨tm_3 (List.mem_of_getElem? (i := 120) (by rfl)), tm_1 (List.mem_of_getElem? (i := 5) (by decide +kernel)), ⟨by decide, by decide⟩, by decide⟩
theorem mk_X0_has : ZMi M_X0_has := ⟨kk_X0_has, tm_3 (List.mem_of_getElem? (i := 119) (by decide +kernel)), List.mem_of_getElem? (i := 32) (by decide +kernel)⟩
theorem kd_X0_has : (parseMethodDescriptor M_X0_has.1.desc).map (fun d => d.parameters.length) = some 1 := by decide +kernel
abbrev M_X0_contentOf : ZM := (yX0_contentOf, cX0_contentOf, 2, (some .int))
set_option maxRecDepth 100000 in
theorem kk_X0_contentOf : ZMk M_X0_contentOf := ⟨tm_3 (List.mem_of_getElem? (i := 136) (by rfl)), tm_1 (List.mem_of_getElem? (i := 5) (by decide +kernel)), ⟨by decide, by decide⟩, by decide⟩
theorem mk_X0_contentOf : ZMi M_X0_contentOf := ⟨kk_X0_contentOf, tm_3 (List.mem_of_getElem? (i := 135) (by decide +kernel)), List.mem_of_getElem? (i := 36) (by decide +kernel)⟩
theorem kd_X0_contentOf : (parseMethodDescriptor M_X0_contentOf.1.desc).map (fun d => d.parameters.length) = some 1 := by decide +kernel
abbrev M_X0_hasStone : ZM := (yX0_hasStone, cX0_hasStone, 2, (some .boolean))
set_option maxRecDepth 100000 in
theorem kk_X0_hasStone : ZMk M_X0_hasStone := ⟨tm_4 (List.mem_of_getElem? (i := 155) (by rfl)), tm_1 (List.mem_of_getElem? (i := 5) (by decide +kernel)), ⟨by decide, by decide⟩, by decide⟩
theorem mk_X0_hasStone : ZMi M_X0_hasStone := ⟨kk_X0_hasStone, tm_4 (List.mem_of_getElem? (i := 154) (by decide +kernel)), List.mem_of_getElem? (i := 70) (by decide +kernel)⟩
theorem kd_X0_hasStone : (parseMethodDescriptor M_X0_hasStone.1.desc).map (fun d => d.parameters.length) = some 1 := by decide +kernel
abbrev M_X0_lay : ZM := (yX0_lay, cX0_lay, 3, none)
set_option maxRecDepth 100000 in
theorem kk_X0_lay : ZMk M_X0_lay := ⟨tm_3 (List.mem_of_getElem? (i := 116) (by rfl)), tm_1 (List.mem_of_getElem? (i := 5) (by decide +kernel)), ⟨by decide, by decide⟩, by decide⟩
theorem mk_X0_lay : ZMi M_X0_lay := ⟨kk_X0_lay, tm_3 (List.mem_of_getElem? (i := 115) (by decide +kernel)), List.mem_of_getElem? (i := 31) (by decide +kernel)⟩
theorem kd_X0_lay : (parseMethodDescriptor M_X0_lay.1.desc).map (fun d => d.parameters.length) = some 2 := by decide +kernel
abbrev M_X0_neighbour : ZM := (yX0_neighbour, cX0_neighbour, 4, (some .int))
set_option maxRecDepth 100000 in
theorem kk_X0_neighbour : ZMk M_X0_neighbour := ⟨tm_3 (List.mem_of_getElem? (i := 180) (by rfl)), tm_1 (List.mem_of_getElem? (i := 5) (by decide +kernel)), ⟨by decide, by decide⟩, by decide⟩
theorem mk_X0_neighbour : ZMi M_X0_neighbour := ⟨kk_X0_neighbour, tm_3 (List.mem_of_getElem? (i := 179) (by decide +kernel)), List.mem_of_getElem? (i := 45) (by decide +kernel)⟩
theorem kd_X0_neighbour : (parseMethodDescriptor M_X0_neighbour.1.desc).map (fun d => d.parameters.length) = some 2 := by decide +kernel
abbrev M_X0_gather : ZM := (yX0_gather, cX0_gather, 7, none)
set_option maxRecDepth 100000 in
theorem kk_X0_gather : ZMk M_X0_gather := ⟨tm_3 (List.mem_of_getElem? (i := 140) (by rfl)), tm_1 (List.mem_of_getElem? (i := 5) (by decide +kernel)), ⟨by decide, by decide⟩, by decide⟩
theorem mk_X0_gather : ZMi M_X0_gather := ⟨kk_X0_gather, tm_3 (List.mem_of_getElem? (i := 139) (by decide +kernel)), List.mem_of_getElem? (i := 37) (by decide +kernel)⟩
theorem kd_X0_gather : (parseMethodDescriptor M_X0_gather.1.desc).map (fun d => d.parameters.length) = some 2 := by decide +kernel
abbrev M_X0_gatherChain : ZM := (yX0_gatherChain, cX0_gatherChain, 3, none)
set_option maxRecDepth 100000 in
theorem kk_X0_gatherChain : ZMk M_X0_gatherChain := ⟨tm_3 (List.mem_of_getElem? (i := 132) (by rfl)), tm_1 (List.mem_of_getElem? (i := 5) (by decide +kernel)), ⟨by decide, by decide⟩, by decide⟩
theorem mk_X0_gatherChain : ZMi M_X0_gatherChain := ⟨kk_X0_gatherChain, tm_3 (List.mem_of_getElem? (i := 131) (by decide +kernel)), List.mem_of_getElem? (i := 35) (by decide +kernel)⟩
theorem kd_X0_gatherChain : (parseMethodDescriptor M_X0_gatherChain.1.desc).map (fun d => d.parameters.length) = some 1 := by decide +kernel
abbrev M_X0_liberties : ZM := (yX0_liberties, cX0_liberties, 1, (some .int))
set_option maxRecDepth 100000 in
theorem kk_X0_liberties : ZMk M_X0_liberties := ⟨tm_3 (List.mem_of_getElem? (i := 144) (by rfl)), tm_1 (List.mem_of_getElem? (i := 5) (by decide +kernel)), ⟨by decide, by decide⟩, by decide⟩
theorem mk_X0_liberties : ZMi M_X0_liberties := ⟨kk_X0_liberties, tm_3 (List.mem_of_getElem? (i := 143) (by decide +kernel)), List.mem_of_getElem? (i := 38) (by decide +kernel)⟩
theorem kd_X0_liberties : (parseMethodDescriptor M_X0_liberties.1.desc).map (fun d => d.parameters.length) = some 0 := by decide +kernel
abbrev M_X0_onRim : ZM := (yX0_onRim, cX0_onRim, 3, (some .boolean))
set_option maxRecDepth 100000 in
theorem kk_X0_onRim : ZMk M_X0_onRim := ⟨tm_5 (List.mem_of_getElem? (i := 25) (by rfl)), tm_1 (List.mem_of_getElem? (i := 5) (by decide +kernel)), ⟨by decide, by decide⟩, by decide⟩
theorem mk_X0_onRim : ZMi M_X0_onRim := ⟨kk_X0_onRim, tm_5 (List.mem_of_getElem? (i := 24) (by decide +kernel)), List.mem_of_getElem? (i := 87) (by decide +kernel)⟩
theorem kd_X0_onRim : (parseMethodDescriptor M_X0_onRim.1.desc).map (fun d => d.parameters.length) = some 2 := by decide +kernel
abbrev M_X0_gatheredSince : ZM := (yX0_gatheredSince, cX0_gatheredSince, 3, (some .boolean))
set_option maxRecDepth 100000 in
theorem kk_X0_gatheredSince : ZMk M_X0_gatheredSince := ⟨tm_3 (List.mem_of_getElem? (i := 128) (by rfl)), tm_1 (List.mem_of_getElem? (i := 5) (by decide +kernel)), ⟨by decide, by decide⟩, by decide⟩
theorem mk_X0_gatheredSince : ZMi M_X0_gatheredSince := ⟨kk_X0_gatheredSince, tm_3 (List.mem_of_getElem? (i := 127) (by decide +kernel)), List.mem_of_getElem? (i := 34) (by decide +kernel)⟩
theorem kd_X0_gatheredSince : (parseMethodDescriptor M_X0_gatheredSince.1.desc).map (fun d => d.parameters.length) = some 2 := by decide +kernel
abbrev M_X0_leastGathered : ZM := (yX0_leastGathered, cX0_leastGathered, 3, (some .int))
set_option maxRecDepth 100000 in
theorem kk_X0_leastGathered : ZMk M_X0_leastGathered := ⟨tm_4 (List.mem_of_getElem? (i := 160) (by rfl)), tm_1 (List.mem_of_getElem? (i := 5) (by decide +kernel)), ⟨by decide, by decide⟩, by decide⟩
theorem mk_X0_leastGathered : ZMi M_X0_leastGathered := ⟨kk_X0_leastGathered, tm_4 (List.mem_of_getElem? (i := 159) (by decide +kernel)), List.mem_of_getElem? (i := 71) (by decide +kernel)⟩
theorem kd_X0_leastGathered : (parseMethodDescriptor M_X0_leastGathered.1.desc).map (fun d => d.parameters.length) = some 0 := by decide +kernel
abbrev M_X0_nthLiberty : ZM := (yX0_nthLiberty, cX0_nthLiberty, 4, (some .int))
set_option maxRecDepth 100000 in
theorem kk_X0_nthLiberty : ZMk M_X0_nthLiberty := ⟨tm_4 (List.mem_of_getElem? (i := 219) (by rfl)), tm_1 (List.mem_of_getElem? (i := 5) (by decide +kernel)), ⟨by decide, by decide⟩, by decide⟩
theorem mk_X0_nthLiberty : ZMi M_X0_nthLiberty := ⟨kk_X0_nthLiberty, tm_4 (List.mem_of_getElem? (i := 218) (by decide +kernel)), List.mem_of_getElem? (i := 81) (by decide +kernel)⟩
theorem kd_X0_nthLiberty : (parseMethodDescriptor M_X0_nthLiberty.1.desc).map (fun d => d.parameters.length) = some 1 := by decide +kernel
abbrev M_X0_put : ZM := (yX0_put, cX0_put, 6, (some .boolean))
set_option maxRecDepth 100000 in
theorem kk_X0_put : ZMk M_X0_put := ⟨tm_3 (List.mem_of_getElem? (i := 173) (by rfl)), tm_1 (List.mem_of_getElem? (i := 5) (by decide +kernel)), ⟨by decide, by decide⟩, by decide⟩
theorem mk_X0_put : ZMi M_X0_put := ⟨kk_X0_put, tm_3 (List.mem_of_getElem? (i := 172) (by decide +kernel)), List.mem_of_getElem? (i := 44) (by decide +kernel)⟩
theorem kd_X0_put : (parseMethodDescriptor M_X0_put.1.desc).map (fun d => d.parameters.length) = some 2 := by decide +kernel
abbrev M_X0_takeIfStifled : ZM := (yX0_takeIfStifled, cX0_takeIfStifled, 2, none)
set_option maxRecDepth 100000 in
theorem kk_X0_takeIfStifled : ZMk M_X0_takeIfStifled := ⟨tm_3 (List.mem_of_getElem? (i := 184) (by rfl)), tm_1 (List.mem_of_getElem? (i := 5) (by decide +kernel)), ⟨by decide, by decide⟩, by decide⟩
theorem mk_X0_takeIfStifled : ZMi M_X0_takeIfStifled := ⟨kk_X0_takeIfStifled, tm_3 (List.mem_of_getElem? (i := 183) (by decide +kernel)), List.mem_of_getElem? (i := 46) (by decide +kernel)⟩
theorem kd_X0_takeIfStifled : (parseMethodDescriptor M_X0_takeIfStifled.1.desc).map (fun d => d.parameters.length) = some 0 := by decide +kernel
abbrev M_X0_allBreathe : ZM := (yX0_allBreathe, cX0_allBreathe, 3, (some .boolean))
set_option maxRecDepth 100000 in
theorem kk_X0_allBreathe : ZMk M_X0_allBreathe := ⟨tm_3 (List.mem_of_getElem? (i := 124) (by rfl)), tm_1 (List.mem_of_getElem? (i := 5) (by decide +kernel)), ⟨by decide, by decide⟩, by decide⟩
theorem mk_X0_allBreathe : ZMi M_X0_allBreathe := ⟨kk_X0_allBreathe, tm_3 (List.mem_of_getElem? (i := 123) (by decide +kernel)), List.mem_of_getElem? (i := 33) (by decide +kernel)⟩
theorem kd_X0_allBreathe : (parseMethodDescriptor M_X0_allBreathe.1.desc).map (fun d => d.parameters.length) = some 0 := by decide +kernel
abbrev M_X0_countChains : ZM := (yX0_countChains, cX0_countChains, 4, (some .int))
set_option maxRecDepth 100000 in
theorem kk_X0_countChains : ZMk M_X0_countChains := ⟨tm_5 (List.mem_of_getElem? (i := 167) (by rfl)), tm_1 (List.mem_of_getElem? (i := 5) (by decide +kernel)), ⟨by decide, by decide⟩, by decide⟩
theorem mk_X0_countChains : ZMi M_X0_countChains := ⟨kk_X0_countChains, tm_5 (List.mem_of_getElem? (i := 166) (by decide +kernel)), List.mem_of_getElem? (i := 109) (by decide +kernel)⟩
theorem kd_X0_countChains : (parseMethodDescriptor M_X0_countChains.1.desc).map (fun d => d.parameters.length) = some 0 := by decide +kernel
abbrev M_X0_countOf : ZM := (yX0_countOf, cX0_countOf, 4, (some .int))
set_option maxRecDepth 100000 in
theorem kk_X0_countOf : ZMk M_X0_countOf := ⟨tm_5 (List.mem_of_getElem? (i := 108) (by rfl)), tm_1 (List.mem_of_getElem? (i := 5) (by decide +kernel)), ⟨by decide, by decide⟩, by decide⟩
theorem mk_X0_countOf : ZMi M_X0_countOf := ⟨kk_X0_countOf, tm_5 (List.mem_of_getElem? (i := 107) (by decide +kernel)), List.mem_of_getElem? (i := 101) (by decide +kernel)⟩
theorem kd_X0_countOf : (parseMethodDescriptor M_X0_countOf.1.desc).map (fun d => d.parameters.length) = some 1 := by decide +kernel
abbrev M_X1_init : ZM := (yX1_init, cX1_init, 2, none)
set_option maxRecDepth 100000 in
theorem kk_X1_init : ZMk M_X1_init := ⟨tm_1 (List.mem_of_getElem? (i := 111) (by rfl)), tm_1 (List.mem_of_getElem? (i := 3) (by decide +kernel)), ⟨by decide, by decide⟩, by decide⟩
theorem mk_X1_init : ZMc M_X1_init := ⟨kk_X1_init, tm_1 (List.mem_of_getElem? (i := 110) (by decide +kernel)), rfl, rfl⟩
theorem kd_X1_init : (parseMethodDescriptor M_X1_init.1.desc).map (fun d => d.parameters.length) = some 1 := by decide +kernel
abbrev M_X1_addByte : ZM := (yX1_addByte, cX1_addByte, 2, none)
set_option maxRecDepth 100000 in
theorem kk_X1_addByte : ZMk M_X1_addByte := ⟨tm_3 (List.mem_of_getElem? (i := 16) (by rfl)), tm_1 (List.mem_of_getElem? (i := 3) (by decide +kernel)), ⟨by decide, by decide⟩, by decide⟩
theorem mk_X1_addByte : ZMi M_X1_addByte := ⟨kk_X1_addByte, tm_3 (List.mem_of_getElem? (i := 15) (by decide +kernel)), List.mem_of_getElem? (i := 12) (by decide +kernel)⟩
theorem kd_X1_addByte : (parseMethodDescriptor M_X1_addByte.1.desc).map (fun d => d.parameters.length) = some 1 := by decide +kernel
abbrev M_X1_addNumber : ZM := (yX1_addNumber, cX1_addNumber, 3, none)
set_option maxRecDepth 100000 in
theorem kk_X1_addNumber : ZMk M_X1_addNumber := ⟨tm_3 (List.mem_of_getElem? (i := 12) (by rfl)), tm_1 (List.mem_of_getElem? (i := 3) (by decide +kernel)), ⟨by decide, by decide⟩, by decide⟩
theorem mk_X1_addNumber : ZMi M_X1_addNumber := ⟨kk_X1_addNumber, tm_3 (List.mem_of_getElem? (i := 11) (by decide +kernel)), List.mem_of_getElem? (i := 11) (by decide +kernel)⟩
theorem kd_X1_addNumber : (parseMethodDescriptor M_X1_addNumber.1.desc).map (fun d => d.parameters.length) = some 1 := by decide +kernel
abbrev M_X1_addText : ZM := (yX1_addText, cX1_addText, 3, none)
set_option maxRecDepth 100000 in
theorem kk_X1_addText : ZMk M_X1_addText := ⟨tm_3 (List.mem_of_getElem? (i := 237) (by rfl)), tm_1 (List.mem_of_getElem? (i := 3) (by decide +kernel)), ⟨by decide, by decide⟩, by decide⟩
theorem mk_X1_addText : ZMi M_X1_addText := ⟨kk_X1_addText, tm_3 (List.mem_of_getElem? (i := 236) (by decide +kernel)), List.mem_of_getElem? (i := 56) (by decide +kernel)⟩
theorem kd_X1_addText : (parseMethodDescriptor M_X1_addText.1.desc).map (fun d => d.parameters.length) = some 1 := by decide +kernel
abbrev M_X1_byteAt : ZM := (yX1_byteAt, cX1_byteAt, 2, (some .int))
set_option maxRecDepth 100000 in
theorem kk_X1_byteAt : ZMk M_X1_byteAt := ⟨tm_3 (List.mem_of_getElem? (i := 41) (by rfl)), tm_1 (List.mem_of_getElem? (i := 3) (by decide +kernel)), ⟨by decide, by decide⟩, by decide⟩
theorem mk_X1_byteAt : ZMi M_X1_byteAt := ⟨kk_X1_byteAt, tm_3 (List.mem_of_getElem? (i := 40) (by decide +kernel)), List.mem_of_getElem? (i := 16) (by decide +kernel)⟩
theorem kd_X1_byteAt : (parseMethodDescriptor M_X1_byteAt.1.desc).map (fun d => d.parameters.length) = some 1 := by decide +kernel
abbrev M_X2_init : ZM := (yX2_init, cX2_init, 1, none)
set_option maxRecDepth 100000 in
theorem kk_X2_init : ZMk M_X2_init := ⟨tm_2 (List.mem_of_getElem? (i := 120) (by rfl)), tm_1 (List.mem_of_getElem? (i := 11) (by decide +kernel)), ⟨by decide, by decide⟩, by decide⟩
theorem mk_X2_init : ZMc M_X2_init := ⟨kk_X2_init, tm_2 (List.mem_of_getElem? (i := 119) (by decide +kernel)), rfl, rfl⟩
theorem kd_X2_init : (parseMethodDescriptor M_X2_init.1.desc).map (fun d => d.parameters.length) = some 0 := by decide +kernel
abbrev M_X2_wind : ZM := (yX2_wind, cX2_wind, 4, none)
set_option maxRecDepth 100000 in
theorem kk_X2_wind : ZMk M_X2_wind := ⟨tm_5 (List.mem_of_getElem? (i := 137) (by rfl)), tm_1 (List.mem_of_getElem? (i := 11) (by decide +kernel)), ⟨by decide, by decide⟩, by decide⟩
theorem mk_X2_wind : ZMi M_X2_wind := ⟨kk_X2_wind, tm_5 (List.mem_of_getElem? (i := 136) (by decide +kernel)), List.mem_of_getElem? (i := 105) (by decide +kernel)⟩
theorem kd_X2_wind : (parseMethodDescriptor M_X2_wind.1.desc).map (fun d => d.parameters.length) = some 3 := by decide +kernel
abbrev M_X2_spend : ZM := (yX2_spend, cX2_spend, 3, none)
set_option maxRecDepth 100000 in
theorem kk_X2_spend : ZMk M_X2_spend := ⟨tm_5 (List.mem_of_getElem? (i := 149) (by rfl)), tm_1 (List.mem_of_getElem? (i := 11) (by decide +kernel)), ⟨by decide, by decide⟩, by decide⟩
theorem mk_X2_spend : ZMi M_X2_spend := ⟨kk_X2_spend, tm_5 (List.mem_of_getElem? (i := 148) (by decide +kernel)), List.mem_of_getElem? (i := 107) (by decide +kernel)⟩
theorem kd_X2_spend : (parseMethodDescriptor M_X2_spend.1.desc).map (fun d => d.parameters.length) = some 1 := by decide +kernel
abbrev M_X2_tell : ZM := (yX2_tell, cX2_tell, 2, (some .int))
set_option maxRecDepth 100000 in
theorem kk_X2_tell : ZMk M_X2_tell := ⟨tm_5 (List.mem_of_getElem? (i := 159) (by rfl)), tm_1 (List.mem_of_getElem? (i := 11) (by decide +kernel)), ⟨by decide, by decide⟩, by decide⟩
theorem mk_X2_tell : ZMi M_X2_tell := ⟨kk_X2_tell, tm_5 (List.mem_of_getElem? (i := 158) (by decide +kernel)), List.mem_of_getElem? (i := 108) (by decide +kernel)⟩
theorem kd_X2_tell : (parseMethodDescriptor M_X2_tell.1.desc).map (fun d => d.parameters.length) = some 1 := by decide +kernel
abbrev M_X3_init : ZM := (yX3_init, cX3_init, 2, none)
set_option maxRecDepth 100000 in
theorem kk_X3_init : ZMk M_X3_init := ⟨tm_2 (List.mem_of_getElem? (i := 55) (by rfl)), tm_1 (List.mem_of_getElem? (i := 9) (by decide +kernel)), ⟨by decide, by decide⟩, by decide⟩
theorem mk_X3_init : ZMc M_X3_init := ⟨kk_X3_init, tm_2 (List.mem_of_getElem? (i := 54) (by decide +kernel)), rfl, rfl⟩
theorem kd_X3_init : (parseMethodDescriptor M_X3_init.1.desc).map (fun d => d.parameters.length) = some 1 := by decide +kernel
abbrev M_X3_readOut : ZM := (yX3_readOut, cX3_readOut, 5, (some .int))
set_option maxRecDepth 100000 in
theorem kk_X3_readOut : ZMk M_X3_readOut := ⟨tm_5 (List.mem_of_getElem? (i := 5) (by rfl)), tm_1 (List.mem_of_getElem? (i := 9) (by decide +kernel)), ⟨by decide, by decide⟩, by decide⟩
theorem mk_X3_readOut : ZMi M_X3_readOut := ⟨kk_X3_readOut, tm_5 (List.mem_of_getElem? (i := 4) (by decide +kernel)), List.mem_of_getElem? (i := 83) (by decide +kernel)⟩
theorem kd_X3_readOut : (parseMethodDescriptor M_X3_readOut.1.desc).map (fun d => d.parameters.length) = some 2 := by decide +kernel
abbrev M_X3_goOn : ZM := (yX3_goOn, cX3_goOn, 3, (some .int))
set_option maxRecDepth 100000 in
theorem kk_X3_goOn : ZMk M_X3_goOn := ⟨tm_5 (List.mem_of_getElem? (i := 44) (by rfl)), tm_1 (List.mem_of_getElem? (i := 9) (by decide +kernel)), ⟨by decide, by decide⟩, by decide⟩
theorem mk_X3_goOn : ZMi M_X3_goOn := ⟨kk_X3_goOn, tm_5 (List.mem_of_getElem? (i := 43) (by decide +kernel)), List.mem_of_getElem? (i := 91) (by decide +kernel)⟩
theorem kd_X3_goOn : (parseMethodDescriptor M_X3_goOn.1.desc).map (fun d => d.parameters.length) = some 0 := by decide +kernel
abbrev M_X3_leaveBeaten : ZM := (yX3_leaveBeaten, cX3_leaveBeaten, 1, (some .int))
set_option maxRecDepth 100000 in
theorem kk_X3_leaveBeaten : ZMk M_X3_leaveBeaten := ⟨tm_5 (List.mem_of_getElem? (i := 52) (by rfl)), tm_1 (List.mem_of_getElem? (i := 9) (by decide +kernel)), ⟨by decide, by decide⟩, by decide⟩
theorem mk_X3_leaveBeaten : ZMi M_X3_leaveBeaten := ⟨kk_X3_leaveBeaten, tm_5 (List.mem_of_getElem? (i := 51) (by decide +kernel)), List.mem_of_getElem? (i := 93) (by decide +kernel)⟩
theorem kd_X3_leaveBeaten : (parseMethodDescriptor M_X3_leaveBeaten.1.desc).map (fun d => d.parameters.length) = some 0 := by decide +kernel
abbrev M_X3_leaveWinning : ZM := (yX3_leaveWinning, cX3_leaveWinning, 1, (some .int))
set_option maxRecDepth 100000 in
theorem kk_X3_leaveWinning : ZMk M_X3_leaveWinning := ⟨tm_5 (List.mem_of_getElem? (i := 56) (by rfl)), tm_1 (List.mem_of_getElem? (i := 9) (by decide +kernel)), ⟨by decide, by decide⟩, by decide⟩
theorem mk_X3_leaveWinning : ZMi M_X3_leaveWinning := ⟨kk_X3_leaveWinning, tm_5 (List.mem_of_getElem? (i := 55) (by decide +kernel)), List.mem_of_getElem? (i := 94) (by decide +kernel)⟩
theorem kd_X3_leaveWinning : (parseMethodDescriptor M_X3_leaveWinning.1.desc).map (fun d => d.parameters.length) = some 0 := by decide +kernel
abbrev M_X3_isHunterLevel : ZM := (yX3_isHunterLevel, cX3_isHunterLevel, 1, (some .boolean))
set_option maxRecDepth 100000 in
theorem kk_X3_isHunterLevel : ZMk M_X3_isHunterLevel := ⟨tm_5 (List.mem_of_getElem? (i := 17) (by rfl)), tm_1 (List.mem_of_getElem? (i := 9) (by decide +kernel)), ⟨by decide, by decide⟩, by decide⟩
theorem mk_X3_isHunterLevel : ZMi M_X3_isHunterLevel := ⟨kk_X3_isHunterLevel, tm_5 (List.mem_of_getElem? (i := 16) (by decide +kernel)), List.mem_of_getElem? (i := 85) (by decide +kernel)⟩
theorem kd_X3_isHunterLevel : (parseMethodDescriptor M_X3_isHunterLevel.1.desc).map (fun d => d.parameters.length) = some 0 := by decide +kernel
abbrev M_X3_attempt : ZM := (yX3_attempt, cX3_attempt, 3, (some .int))
set_option maxRecDepth 100000 in
theorem kk_X3_attempt : ZMk M_X3_attempt := ⟨tm_5 (List.mem_of_getElem? (i := 60) (by rfl)), tm_1 (List.mem_of_getElem? (i := 9) (by decide +kernel)), ⟨by decide, by decide⟩, by decide⟩
theorem mk_X3_attempt : ZMi M_X3_attempt := ⟨kk_X3_attempt, tm_5 (List.mem_of_getElem? (i := 59) (by decide +kernel)), List.mem_of_getElem? (i := 95) (by decide +kernel)⟩
theorem kd_X3_attempt : (parseMethodDescriptor M_X3_attempt.1.desc).map (fun d => d.parameters.length) = some 1 := by decide +kernel
abbrev M_X3_enterLevel : ZM := (yX3_enterLevel, cX3_enterLevel, 2, none)
set_option maxRecDepth 100000 in
theorem kk_X3_enterLevel : ZMk M_X3_enterLevel := ⟨tm_5 (List.mem_of_getElem? (i := 11) (by rfl)), tm_1 (List.mem_of_getElem? (i := 9) (by decide +kernel)), ⟨by decide, by decide⟩, by decide⟩
theorem mk_X3_enterLevel : ZMi M_X3_enterLevel := ⟨kk_X3_enterLevel, tm_5 (List.mem_of_getElem? (i := 10) (by decide +kernel)), List.mem_of_getElem? (i := 84) (by decide +kernel)⟩
theorem kd_X3_enterLevel : (parseMethodDescriptor M_X3_enterLevel.1.desc).map (fun d => d.parameters.length) = some 1 := by decide +kernel
abbrev M_X3_addLiberties : ZM := (yX3_addLiberties, cX3_addLiberties, 2, none)
set_option maxRecDepth 100000 in
theorem kk_X3_addLiberties : ZMk M_X3_addLiberties := ⟨tm_5 (List.mem_of_getElem? (i := 21) (by rfl)), tm_1 (List.mem_of_getElem? (i := 9) (by decide +kernel)), ⟨by decide, by decide⟩, by decide⟩
theorem mk_X3_addLiberties : ZMi M_X3_addLiberties := ⟨kk_X3_addLiberties, tm_5 (List.mem_of_getElem? (i := 20) (by decide +kernel)), List.mem_of_getElem? (i := 86) (by decide +kernel)⟩
theorem kd_X3_addLiberties : (parseMethodDescriptor M_X3_addLiberties.1.desc).map (fun d => d.parameters.length) = some 0 := by decide +kernel
abbrev M_X3_addRescues : ZM := (yX3_addRescues, cX3_addRescues, 5, none)
set_option maxRecDepth 100000 in
theorem kk_X3_addRescues : ZMk M_X3_addRescues := ⟨tm_5 (List.mem_of_getElem? (i := 33) (by rfl)), tm_1 (List.mem_of_getElem? (i := 9) (by decide +kernel)), ⟨by decide, by decide⟩, by decide⟩
theorem mk_X3_addRescues : ZMi M_X3_addRescues := ⟨kk_X3_addRescues, tm_5 (List.mem_of_getElem? (i := 32) (by decide +kernel)), List.mem_of_getElem? (i := 89) (by decide +kernel)⟩
theorem kd_X3_addRescues : (parseMethodDescriptor M_X3_addRescues.1.desc).map (fun d => d.parameters.length) = some 0 := by decide +kernel
abbrev M_X3_addMove : ZM := (yX3_addMove, cX3_addMove, 2, none)
set_option maxRecDepth 100000 in
theorem kk_X3_addMove : ZMk M_X3_addMove := ⟨tm_5 (List.mem_of_getElem? (i := 29) (by rfl)), tm_1 (List.mem_of_getElem? (i := 9) (by decide +kernel)), ⟨by decide, by decide⟩, by decide⟩
theorem mk_X3_addMove : ZMi M_X3_addMove := ⟨kk_X3_addMove, tm_5 (List.mem_of_getElem? (i := 28) (by decide +kernel)), List.mem_of_getElem? (i := 88) (by decide +kernel)⟩
theorem kd_X3_addMove : (parseMethodDescriptor M_X3_addMove.1.desc).map (fun d => d.parameters.length) = some 1 := by decide +kernel
abbrev M_X3_isMove : ZM := (yX3_isMove, cX3_isMove, 4, (some .boolean))
set_option maxRecDepth 100000 in
theorem kk_X3_isMove : ZMk M_X3_isMove := ⟨tm_5 (List.mem_of_getElem? (i := 40) (by rfl)), tm_1 (List.mem_of_getElem? (i := 9) (by decide +kernel)), ⟨by decide, by decide⟩, by decide⟩
theorem mk_X3_isMove : ZMi M_X3_isMove := ⟨kk_X3_isMove, tm_5 (List.mem_of_getElem? (i := 39) (by decide +kernel)), List.mem_of_getElem? (i := 90) (by decide +kernel)⟩
theorem kd_X3_isMove : (parseMethodDescriptor M_X3_isMove.1.desc).map (fun d => d.parameters.length) = some 1 := by decide +kernel
abbrev M_X3_nextMove : ZM := (yX3_nextMove, cX3_nextMove, 2, (some .int))
set_option maxRecDepth 100000 in
theorem kk_X3_nextMove : ZMk M_X3_nextMove := ⟨tm_5 (List.mem_of_getElem? (i := 48) (by rfl)), tm_1 (List.mem_of_getElem? (i := 9) (by decide +kernel)), ⟨by decide, by decide⟩, by decide⟩
theorem mk_X3_nextMove : ZMi M_X3_nextMove := ⟨kk_X3_nextMove, tm_5 (List.mem_of_getElem? (i := 47) (by decide +kernel)), List.mem_of_getElem? (i := 92) (by decide +kernel)⟩
theorem kd_X3_nextMove : (parseMethodDescriptor M_X3_nextMove.1.desc).map (fun d => d.parameters.length) = some 0 := by decide +kernel
abbrev M_X4_init : ZM := (yX4_init, cX4_init, 2, none)
set_option maxRecDepth 100000 in
theorem kk_X4_init : ZMk M_X4_init := ⟨tm_2 (List.mem_of_getElem? (i := 18) (by rfl)), tm_1 (List.mem_of_getElem? (i := 8) (by decide +kernel)), ⟨by decide, by decide⟩, by decide⟩
theorem mk_X4_init : ZMc M_X4_init := ⟨kk_X4_init, tm_2 (List.mem_of_getElem? (i := 17) (by decide +kernel)), rfl, rfl⟩
theorem kd_X4_init : (parseMethodDescriptor M_X4_init.1.desc).map (fun d => d.parameters.length) = some 1 := by decide +kernel
abbrev M_X4_tellRegion : ZM := (yX4_tellRegion, cX4_tellRegion, 5, (some .int))
set_option maxRecDepth 100000 in
theorem kk_X4_tellRegion : ZMk M_X4_tellRegion := ⟨tm_4 (List.mem_of_getElem? (i := 230) (by rfl)), tm_1 (List.mem_of_getElem? (i := 8) (by decide +kernel)), ⟨by decide, by decide⟩, by decide⟩
theorem mk_X4_tellRegion : ZMi M_X4_tellRegion := ⟨kk_X4_tellRegion, tm_4 (List.mem_of_getElem? (i := 229) (by decide +kernel)), List.mem_of_getElem? (i := 82) (by decide +kernel)⟩
theorem kd_X4_tellRegion : (parseMethodDescriptor M_X4_tellRegion.1.desc).map (fun d => d.parameters.length) = some 3 := by decide +kernel
abbrev M_X4_lives : ZM := (yX4_lives, cX4_lives, 2, (some .boolean))
set_option maxRecDepth 100000 in
theorem kk_X4_lives : ZMk M_X4_lives := ⟨tm_4 (List.mem_of_getElem? (i := 168) (by rfl)), tm_1 (List.mem_of_getElem? (i := 8) (by decide +kernel)), ⟨by decide, by decide⟩, by decide⟩
theorem mk_X4_lives : ZMi M_X4_lives := ⟨kk_X4_lives, tm_4 (List.mem_of_getElem? (i := 167) (by decide +kernel)), List.mem_of_getElem? (i := 72) (by decide +kernel)⟩
theorem kd_X4_lives : (parseMethodDescriptor M_X4_lives.1.desc).map (fun d => d.parameters.length) = some 1 := by decide +kernel
abbrev M_X4_survey : ZM := (yX4_survey, cX4_survey, 5, none)
set_option maxRecDepth 100000 in
theorem kk_X4_survey : ZMk M_X4_survey := ⟨tm_4 (List.mem_of_getElem? (i := 174) (by rfl)), tm_1 (List.mem_of_getElem? (i := 8) (by decide +kernel)), ⟨by decide, by decide⟩, by decide⟩
theorem mk_X4_survey : ZMi M_X4_survey := ⟨kk_X4_survey, tm_4 (List.mem_of_getElem? (i := 173) (by decide +kernel)), List.mem_of_getElem? (i := 73) (by decide +kernel)⟩
theorem kd_X4_survey : (parseMethodDescriptor M_X4_survey.1.desc).map (fun d => d.parameters.length) = some 1 := by decide +kernel
abbrev M_X4_numberChains : ZM := (yX4_numberChains, cX4_numberChains, 5, none)
set_option maxRecDepth 100000 in
theorem kk_X4_numberChains : ZMk M_X4_numberChains := ⟨tm_4 (List.mem_of_getElem? (i := 178) (by rfl)), tm_1 (List.mem_of_getElem? (i := 8) (by decide +kernel)), ⟨by decide, by decide⟩, by decide⟩
theorem mk_X4_numberChains : ZMi M_X4_numberChains := ⟨kk_X4_numberChains, tm_4 (List.mem_of_getElem? (i := 177) (by decide +kernel)), List.mem_of_getElem? (i := 74) (by decide +kernel)⟩
theorem kd_X4_numberChains : (parseMethodDescriptor M_X4_numberChains.1.desc).map (fun d => d.parameters.length) = some 1 := by decide +kernel
abbrev M_X4_measureRegion : ZM := (yX4_measureRegion, cX4_measureRegion, 8, none)
set_option maxRecDepth 100000 in
theorem kk_X4_measureRegion : ZMk M_X4_measureRegion := ⟨tm_4 (List.mem_of_getElem? (i := 188) (by rfl)), tm_1 (List.mem_of_getElem? (i := 8) (by decide +kernel)), ⟨by decide, by decide⟩, by decide⟩
theorem mk_X4_measureRegion : ZMi M_X4_measureRegion := ⟨kk_X4_measureRegion, tm_4 (List.mem_of_getElem? (i := 187) (by decide +kernel)), List.mem_of_getElem? (i := 75) (by decide +kernel)⟩
theorem kd_X4_measureRegion : (parseMethodDescriptor M_X4_measureRegion.1.desc).map (fun d => d.parameters.length) = some 1 := by decide +kernel
abbrev M_X4_chainsBeside : ZM := (yX4_chainsBeside, cX4_chainsBeside, 6, (some .long))
set_option maxRecDepth 100000 in
theorem kk_X4_chainsBeside : ZMk M_X4_chainsBeside := ⟨tm_4 (List.mem_of_getElem? (i := 194) (by rfl)), tm_1 (List.mem_of_getElem? (i := 8) (by decide +kernel)), ⟨by decide, by decide⟩, by decide⟩
theorem mk_X4_chainsBeside : ZMi M_X4_chainsBeside := ⟨kk_X4_chainsBeside, tm_4 (List.mem_of_getElem? (i := 193) (by decide +kernel)), List.mem_of_getElem? (i := 76) (by decide +kernel)⟩
theorem kd_X4_chainsBeside : (parseMethodDescriptor M_X4_chainsBeside.1.desc).map (fun d => d.parameters.length) = some 1 := by decide +kernel
abbrev M_X4_livingChains : ZM := (yX4_livingChains, cX4_livingChains, 10, (some .long))
set_option maxRecDepth 100000 in
theorem kk_X4_livingChains : ZMk M_X4_livingChains := ⟨tm_4 (List.mem_of_getElem? (i := 199) (by rfl)), tm_1 (List.mem_of_getElem? (i := 8) (by decide +kernel)), ⟨by decide, by decide⟩, by decide⟩
theorem mk_X4_livingChains : ZMi M_X4_livingChains := ⟨kk_X4_livingChains, tm_4 (List.mem_of_getElem? (i := 198) (by decide +kernel)), List.mem_of_getElem? (i := 77) (by decide +kernel)⟩
theorem kd_X4_livingChains : (parseMethodDescriptor M_X4_livingChains.1.desc).map (fun d => d.parameters.length) = some 0 := by decide +kernel
abbrev M_X4_chainsWithTwo : ZM := (yX4_chainsWithTwo, cX4_chainsWithTwo, 8, (some .long))
set_option maxRecDepth 100000 in
theorem kk_X4_chainsWithTwo : ZMk M_X4_chainsWithTwo := ⟨tm_4 (List.mem_of_getElem? (i := 203) (by rfl)), tm_1 (List.mem_of_getElem? (i := 8) (by decide +kernel)), ⟨by decide, by decide⟩, by decide⟩
theorem mk_X4_chainsWithTwo : ZMi M_X4_chainsWithTwo := ⟨kk_X4_chainsWithTwo, tm_4 (List.mem_of_getElem? (i := 202) (by decide +kernel)), List.mem_of_getElem? (i := 78) (by decide +kernel)⟩
theorem kd_X4_chainsWithTwo : (parseMethodDescriptor M_X4_chainsWithTwo.1.desc).map (fun d => d.parameters.length) = some 1 := by decide +kernel
abbrev M_X4_regionsAmong : ZM := (yX4_regionsAmong, cX4_regionsAmong, 6, (some .long))
set_option maxRecDepth 100000 in
theorem kk_X4_regionsAmong : ZMk M_X4_regionsAmong := ⟨tm_4 (List.mem_of_getElem? (i := 207) (by rfl)), tm_1 (List.mem_of_getElem? (i := 8) (by decide +kernel)), ⟨by decide, by decide⟩, by decide⟩
theorem mk_X4_regionsAmong : ZMi M_X4_regionsAmong := ⟨kk_X4_regionsAmong, tm_4 (List.mem_of_getElem? (i := 206) (by decide +kernel)), List.mem_of_getElem? (i := 79) (by decide +kernel)⟩
theorem kd_X4_regionsAmong : (parseMethodDescriptor M_X4_regionsAmong.1.desc).map (fun d => d.parameters.length) = some 1 := by decide +kernel
abbrev M_X5_init : ZM := (yX5_init, cX5_init, 4, none)
set_option maxRecDepth 100000 in
theorem kk_X5_init : ZMk M_X5_init := ⟨tm_1 (List.mem_of_getElem? (i := 192) (by rfl)), tm_1 (List.mem_of_getElem? (i := 6) (by decide +kernel)), ⟨by decide, by decide⟩, by decide⟩
theorem mk_X5_init : ZMc M_X5_init := ⟨kk_X5_init, tm_1 (List.mem_of_getElem? (i := 191) (by decide +kernel)), rfl, rfl⟩
theorem kd_X5_init : (parseMethodDescriptor M_X5_init.1.desc).map (fun d => d.parameters.length) = some 3 := by decide +kernel
abbrev M_X5_readText : ZM := (yX5_readText, cX5_readText, 5, (some .int))
set_option maxRecDepth 100000 in
theorem kk_X5_readText : ZMk M_X5_readText := ⟨tm_3 (List.mem_of_getElem? (i := 28) (by rfl)), tm_1 (List.mem_of_getElem? (i := 6) (by decide +kernel)), ⟨by decide, by decide⟩, by decide⟩
theorem mk_X5_readText : ZMi M_X5_readText := ⟨kk_X5_readText, tm_3 (List.mem_of_getElem? (i := 27) (by decide +kernel)), List.mem_of_getElem? (i := 13) (by decide +kernel)⟩
theorem kd_X5_readText : (parseMethodDescriptor M_X5_readText.1.desc).map (fun d => d.parameters.length) = some 2 := by decide +kernel
abbrev M_X5_startText : ZM := (yX5_startText, cX5_startText, 3, none)
set_option maxRecDepth 100000 in
theorem kk_X5_startText : ZMk M_X5_startText := ⟨tm_3 (List.mem_of_getElem? (i := 32) (by rfl)), tm_1 (List.mem_of_getElem? (i := 6) (by decide +kernel)), ⟨by decide, by decide⟩, by decide⟩
theorem mk_X5_startText : ZMi M_X5_startText := ⟨kk_X5_startText, tm_3 (List.mem_of_getElem? (i := 31) (by decide +kernel)), List.mem_of_getElem? (i := 14) (by decide +kernel)⟩
theorem kd_X5_startText : (parseMethodDescriptor M_X5_startText.1.desc).map (fun d => d.parameters.length) = some 2 := by decide +kernel
abbrev M_X5_fail : ZM := (yX5_fail, cX5_fail, 3, none)
set_option maxRecDepth 100000 in
theorem kk_X5_fail : ZMk M_X5_fail := ⟨tm_3 (List.mem_of_getElem? (i := 52) (by rfl)), tm_1 (List.mem_of_getElem? (i := 6) (by decide +kernel)), ⟨by decide, by decide⟩, by decide⟩
theorem mk_X5_fail : ZMi M_X5_fail := ⟨kk_X5_fail, tm_3 (List.mem_of_getElem? (i := 51) (by decide +kernel)), List.mem_of_getElem? (i := 18) (by decide +kernel)⟩
theorem kd_X5_fail : (parseMethodDescriptor M_X5_fail.1.desc).map (fun d => d.parameters.length) = some 2 := by decide +kernel
abbrev M_X5_skipBlanks : ZM := (yX5_skipBlanks, cX5_skipBlanks, 1, none)
set_option maxRecDepth 100000 in
theorem kk_X5_skipBlanks : ZMk M_X5_skipBlanks := ⟨tm_3 (List.mem_of_getElem? (i := 37) (by rfl)), tm_1 (List.mem_of_getElem? (i := 6) (by decide +kernel)), ⟨by decide, by decide⟩, by decide⟩
theorem mk_X5_skipBlanks : ZMi M_X5_skipBlanks := ⟨kk_X5_skipBlanks, tm_3 (List.mem_of_getElem? (i := 36) (by decide +kernel)), List.mem_of_getElem? (i := 15) (by decide +kernel)⟩
theorem kd_X5_skipBlanks : (parseMethodDescriptor M_X5_skipBlanks.1.desc).map (fun d => d.parameters.length) = some 0 := by decide +kernel
abbrev M_X5_isBlank : ZM := (yX5_isBlank, cX5_isBlank, 1, (some .boolean))
set_option maxRecDepth 100000 in
theorem kk_X5_isBlank : ZMk M_X5_isBlank := ⟨tm_3 (List.mem_of_getElem? (i := 44) (by rfl)), tm_1 (List.mem_of_getElem? (i := 6) (by decide +kernel)), ⟨by decide, by decide⟩, by decide⟩
theorem mk_X5_isBlank : ZMs M_X5_isBlank := ⟨kk_X5_isBlank, tm_3 (List.mem_of_getElem? (i := 43) (by decide +kernel))⟩
theorem kd_X5_isBlank : (parseMethodDescriptor M_X5_isBlank.1.desc).map (fun d => d.parameters.length) = some 1 := by decide +kernel
abbrev M_X5_isGreat : ZM := (yX5_isGreat, cX5_isGreat, 1, (some .boolean))
set_option maxRecDepth 100000 in
theorem kk_X5_isGreat : ZMk M_X5_isGreat := ⟨tm_3 (List.mem_of_getElem? (i := 58) (by rfl)), tm_1 (List.mem_of_getElem? (i := 6) (by decide +kernel)), ⟨by decide, by decide⟩, by decide⟩
theorem mk_X5_isGreat : ZMs M_X5_isGreat := ⟨kk_X5_isGreat, tm_3 (List.mem_of_getElem? (i := 57) (by decide +kernel))⟩
theorem kd_X5_isGreat : (parseMethodDescriptor M_X5_isGreat.1.desc).map (fun d => d.parameters.length) = some 1 := by decide +kernel
abbrev M_X5_openTree : ZM := (yX5_openTree, cX5_openTree, 1, none)
set_option maxRecDepth 100000 in
theorem kk_X5_openTree : ZMk M_X5_openTree := ⟨tm_3 (List.mem_of_getElem? (i := 206) (by rfl)), tm_1 (List.mem_of_getElem? (i := 6) (by decide +kernel)), ⟨by decide, by decide⟩, by decide⟩
theorem mk_X5_openTree : ZMi M_X5_openTree := ⟨kk_X5_openTree, tm_3 (List.mem_of_getElem? (i := 205) (by decide +kernel)), List.mem_of_getElem? (i := 51) (by decide +kernel)⟩
theorem kd_X5_openTree : (parseMethodDescriptor M_X5_openTree.1.desc).map (fun d => d.parameters.length) = some 0 := by decide +kernel
abbrev M_X5_closeTree : ZM := (yX5_closeTree, cX5_closeTree, 1, none)
set_option maxRecDepth 100000 in
theorem kk_X5_closeTree : ZMk M_X5_closeTree := ⟨tm_3 (List.mem_of_getElem? (i := 210) (by rfl)), tm_1 (List.mem_of_getElem? (i := 6) (by decide +kernel)), ⟨by decide, by decide⟩, by decide⟩
theorem mk_X5_closeTree : ZMi M_X5_closeTree := ⟨kk_X5_closeTree, tm_3 (List.mem_of_getElem? (i := 209) (by decide +kernel)), List.mem_of_getElem? (i := 52) (by decide +kernel)⟩
theorem kd_X5_closeTree : (parseMethodDescriptor M_X5_closeTree.1.desc).map (fun d => d.parameters.length) = some 0 := by decide +kernel
abbrev M_X5_readNode : ZM := (yX5_readNode, cX5_readNode, 2, none)
set_option maxRecDepth 100000 in
theorem kk_X5_readNode : ZMk M_X5_readNode := ⟨tm_3 (List.mem_of_getElem? (i := 48) (by rfl)), tm_1 (List.mem_of_getElem? (i := 6) (by decide +kernel)), ⟨by decide, by decide⟩, by decide⟩
theorem mk_X5_readNode : ZMi M_X5_readNode := ⟨kk_X5_readNode, tm_3 (List.mem_of_getElem? (i := 47) (by decide +kernel)), List.mem_of_getElem? (i := 17) (by decide +kernel)⟩
theorem kd_X5_readNode : (parseMethodDescriptor M_X5_readNode.1.desc).map (fun d => d.parameters.length) = some 0 := by decide +kernel
abbrev M_X5_readProperty : ZM := (yX5_readProperty, cX5_readProperty, 4, none)
set_option maxRecDepth 100000 in
theorem kk_X5_readProperty : ZMk M_X5_readProperty := ⟨tm_3 (List.mem_of_getElem? (i := 62) (by rfl)), tm_1 (List.mem_of_getElem? (i := 6) (by decide +kernel)), ⟨by decide, by decide⟩, by decide⟩
theorem mk_X5_readProperty : ZMi M_X5_readProperty := ⟨kk_X5_readProperty, tm_3 (List.mem_of_getElem? (i := 61) (by decide +kernel)), List.mem_of_getElem? (i := 19) (by decide +kernel)⟩
theorem kd_X5_readProperty : (parseMethodDescriptor M_X5_readProperty.1.desc).map (fun d => d.parameters.length) = some 0 := by decide +kernel
abbrev M_X5_nameOf : ZM := (yX5_nameOf, cX5_nameOf, 5, (some .int))
set_option maxRecDepth 100000 in
theorem kk_X5_nameOf : ZMk M_X5_nameOf := ⟨tm_3 (List.mem_of_getElem? (i := 66) (by rfl)), tm_1 (List.mem_of_getElem? (i := 6) (by decide +kernel)), ⟨by decide, by decide⟩, by decide⟩
theorem mk_X5_nameOf : ZMi M_X5_nameOf := ⟨kk_X5_nameOf, tm_3 (List.mem_of_getElem? (i := 65) (by decide +kernel)), List.mem_of_getElem? (i := 20) (by decide +kernel)⟩
theorem kd_X5_nameOf : (parseMethodDescriptor M_X5_nameOf.1.desc).map (fun d => d.parameters.length) = some 2 := by decide +kernel
abbrev M_X5_isMisplaced : ZM := (yX5_isMisplaced, cX5_isMisplaced, 2, (some .boolean))
set_option maxRecDepth 100000 in
theorem kk_X5_isMisplaced : ZMk M_X5_isMisplaced := ⟨tm_3 (List.mem_of_getElem? (i := 70) (by rfl)), tm_1 (List.mem_of_getElem? (i := 6) (by decide +kernel)), ⟨by decide, by decide⟩, by decide⟩
theorem mk_X5_isMisplaced : ZMi M_X5_isMisplaced := ⟨kk_X5_isMisplaced, tm_3 (List.mem_of_getElem? (i := 69) (by decide +kernel)), List.mem_of_getElem? (i := 21) (by decide +kernel)⟩
theorem kd_X5_isMisplaced : (parseMethodDescriptor M_X5_isMisplaced.1.desc).map (fun d => d.parameters.length) = some 1 := by decide +kernel
abbrev M_X5_readValue : ZM := (yX5_readValue, cX5_readValue, 8, none)
set_option maxRecDepth 100000 in
theorem kk_X5_readValue : ZMk M_X5_readValue := ⟨tm_3 (List.mem_of_getElem? (i := 74) (by rfl)), tm_1 (List.mem_of_getElem? (i := 6) (by decide +kernel)), ⟨by decide, by decide⟩, by decide⟩
theorem mk_X5_readValue : ZMi M_X5_readValue := ⟨kk_X5_readValue, tm_3 (List.mem_of_getElem? (i := 73) (by decide +kernel)), List.mem_of_getElem? (i := 22) (by decide +kernel)⟩
theorem kd_X5_readValue : (parseMethodDescriptor M_X5_readValue.1.desc).map (fun d => d.parameters.length) = some 2 := by decide +kernel
abbrev M_X5_closingBehind : ZM := (yX5_closingBehind, cX5_closingBehind, 3, (some .int))
set_option maxRecDepth 100000 in
theorem kk_X5_closingBehind : ZMk M_X5_closingBehind := ⟨tm_3 (List.mem_of_getElem? (i := 78) (by rfl)), tm_1 (List.mem_of_getElem? (i := 6) (by decide +kernel)), ⟨by decide, by decide⟩, by decide⟩
theorem mk_X5_closingBehind : ZMi M_X5_closingBehind := ⟨kk_X5_closingBehind, tm_3 (List.mem_of_getElem? (i := 77) (by decide +kernel)), List.mem_of_getElem? (i := 23) (by decide +kernel)⟩
theorem kd_X5_closingBehind : (parseMethodDescriptor M_X5_closingBehind.1.desc).map (fun d => d.parameters.length) = some 1 := by decide +kernel
abbrev M_X5_takeSize : ZM := (yX5_takeSize, cX5_takeSize, 2, (some .boolean))
set_option maxRecDepth 100000 in
theorem kk_X5_takeSize : ZMk M_X5_takeSize := ⟨tm_3 (List.mem_of_getElem? (i := 95) (by rfl)), tm_1 (List.mem_of_getElem? (i := 6) (by decide +kernel)), ⟨by decide, by decide⟩, by decide⟩
theorem mk_X5_takeSize : ZMi M_X5_takeSize := ⟨kk_X5_takeSize, tm_3 (List.mem_of_getElem? (i := 94) (by decide +kernel)), List.mem_of_getElem? (i := 27) (by decide +kernel)⟩
theorem kd_X5_takeSize : (parseMethodDescriptor M_X5_takeSize.1.desc).map (fun d => d.parameters.length) = some 1 := by decide +kernel
abbrev M_X5_takeKomi : ZM := (yX5_takeKomi, cX5_takeKomi, 3, (some .boolean))
set_option maxRecDepth 100000 in
theorem kk_X5_takeKomi : ZMk M_X5_takeKomi := ⟨tm_3 (List.mem_of_getElem? (i := 100) (by rfl)), tm_1 (List.mem_of_getElem? (i := 6) (by decide +kernel)), ⟨by decide, by decide⟩, by decide⟩
theorem mk_X5_takeKomi : ZMi M_X5_takeKomi := ⟨kk_X5_takeKomi, tm_3 (List.mem_of_getElem? (i := 99) (by decide +kernel)), List.mem_of_getElem? (i := 28) (by decide +kernel)⟩
theorem kd_X5_takeKomi : (parseMethodDescriptor M_X5_takeKomi.1.desc).map (fun d => d.parameters.length) = some 2 := by decide +kernel
abbrev M_X5_takeSetting : ZM := (yX5_takeSetting, cX5_takeSetting, 5, (some .boolean))
set_option maxRecDepth 100000 in
theorem kk_X5_takeSetting : ZMk M_X5_takeSetting := ⟨tm_3 (List.mem_of_getElem? (i := 86) (by rfl)), tm_1 (List.mem_of_getElem? (i := 6) (by decide +kernel)), ⟨by decide, by decide⟩, by decide⟩
theorem mk_X5_takeSetting : ZMi M_X5_takeSetting := ⟨kk_X5_takeSetting, tm_3 (List.mem_of_getElem? (i := 85) (by decide +kernel)), List.mem_of_getElem? (i := 25) (by decide +kernel)⟩
theorem kd_X5_takeSetting : (parseMethodDescriptor M_X5_takeSetting.1.desc).map (fun d => d.parameters.length) = some 2 := by decide +kernel
abbrev M_X5_numberIn : ZM := (yX5_numberIn, cX5_numberIn, 6, (some .int))
set_option maxRecDepth 100000 in
theorem kk_X5_numberIn : ZMk M_X5_numberIn := ⟨tm_3 (List.mem_of_getElem? (i := 91) (by rfl)), tm_1 (List.mem_of_getElem? (i := 6) (by decide +kernel)), ⟨by decide, by decide⟩, by decide⟩
theorem mk_X5_numberIn : ZMi M_X5_numberIn := ⟨kk_X5_numberIn, tm_3 (List.mem_of_getElem? (i := 90) (by decide +kernel)), List.mem_of_getElem? (i := 26) (by decide +kernel)⟩
theorem kd_X5_numberIn : (parseMethodDescriptor M_X5_numberIn.1.desc).map (fun d => d.parameters.length) = some 2 := by decide +kernel
abbrev M_X5_pointIn : ZM := (yX5_pointIn, cX5_pointIn, 5, (some .int))
set_option maxRecDepth 100000 in
theorem kk_X5_pointIn : ZMk M_X5_pointIn := ⟨tm_3 (List.mem_of_getElem? (i := 82) (by rfl)), tm_1 (List.mem_of_getElem? (i := 6) (by decide +kernel)), ⟨by decide, by decide⟩, by decide⟩
theorem mk_X5_pointIn : ZMi M_X5_pointIn := ⟨kk_X5_pointIn, tm_3 (List.mem_of_getElem? (i := 81) (by decide +kernel)), List.mem_of_getElem? (i := 24) (by decide +kernel)⟩
theorem kd_X5_pointIn : (parseMethodDescriptor M_X5_pointIn.1.desc).map (fun d => d.parameters.length) = some 2 := by decide +kernel
abbrev M_X5_layBoardBehind : ZM := (yX5_layBoardBehind, cX5_layBoardBehind, 1, none)
set_option maxRecDepth 100000 in
theorem kk_X5_layBoardBehind : ZMk M_X5_layBoardBehind := ⟨tm_3 (List.mem_of_getElem? (i := 109) (by rfl)), tm_1 (List.mem_of_getElem? (i := 6) (by decide +kernel)), ⟨by decide, by decide⟩, by decide⟩
theorem mk_X5_layBoardBehind : ZMi M_X5_layBoardBehind := ⟨kk_X5_layBoardBehind, tm_3 (List.mem_of_getElem? (i := 108) (by decide +kernel)), List.mem_of_getElem? (i := 30) (by decide +kernel)⟩
theorem kd_X5_layBoardBehind : (parseMethodDescriptor M_X5_layBoardBehind.1.desc).map (fun d => d.parameters.length) = some 0 := by decide +kernel
abbrev M_X5_settleMove : ZM := (yX5_settleMove, cX5_settleMove, 1, none)
set_option maxRecDepth 100000 in
theorem kk_X5_settleMove : ZMk M_X5_settleMove := ⟨tm_3 (List.mem_of_getElem? (i := 164) (by rfl)), tm_1 (List.mem_of_getElem? (i := 6) (by decide +kernel)), ⟨by decide, by decide⟩, by decide⟩
theorem mk_X5_settleMove : ZMi M_X5_settleMove := ⟨kk_X5_settleMove, tm_3 (List.mem_of_getElem? (i := 163) (by decide +kernel)), List.mem_of_getElem? (i := 42) (by decide +kernel)⟩
theorem kd_X5_settleMove : (parseMethodDescriptor M_X5_settleMove.1.desc).map (fun d => d.parameters.length) = some 0 := by decide +kernel
abbrev M_X5_settleSets : ZM := (yX5_settleSets, cX5_settleSets, 3, none)
set_option maxRecDepth 100000 in
theorem kk_X5_settleSets : ZMk M_X5_settleSets := ⟨tm_3 (List.mem_of_getElem? (i := 105) (by rfl)), tm_1 (List.mem_of_getElem? (i := 6) (by decide +kernel)), ⟨by decide, by decide⟩, by decide⟩
theorem mk_X5_settleSets : ZMi M_X5_settleSets := ⟨kk_X5_settleSets, tm_3 (List.mem_of_getElem? (i := 104) (by decide +kernel)), List.mem_of_getElem? (i := 29) (by decide +kernel)⟩
theorem kd_X5_settleSets : (parseMethodDescriptor M_X5_settleSets.1.desc).map (fun d => d.parameters.length) = some 0 := by decide +kernel
abbrev M_X5_turnBehindSets : ZM := (yX5_turnBehindSets, cX5_turnBehindSets, 1, (some .int))
set_option maxRecDepth 100000 in
theorem kk_X5_turnBehindSets : ZMk M_X5_turnBehindSets := ⟨tm_3 (List.mem_of_getElem? (i := 148) (by rfl)), tm_1 (List.mem_of_getElem? (i := 6) (by decide +kernel)), ⟨by decide, by decide⟩, by decide⟩
theorem mk_X5_turnBehindSets : ZMi M_X5_turnBehindSets := ⟨kk_X5_turnBehindSets, tm_3 (List.mem_of_getElem? (i := 147) (by decide +kernel)), List.mem_of_getElem? (i := 39) (by decide +kernel)⟩
theorem kd_X5_turnBehindSets : (parseMethodDescriptor M_X5_turnBehindSets.1.desc).map (fun d => d.parameters.length) = some 0 := by decide +kernel
abbrev M_X6_init : ZM := (yX6_init, cX6_init, 3, none)
set_option maxRecDepth 100000 in
theorem kk_X6_init : ZMk M_X6_init := ⟨tm_2 (List.mem_of_getElem? (i := 97) (by rfl)), tm_1 (List.mem_of_getElem? (i := 10) (by decide +kernel)), ⟨by decide, by decide⟩, by decide⟩
theorem mk_X6_init : ZMc M_X6_init := ⟨kk_X6_init, tm_2 (List.mem_of_getElem? (i := 96) (by decide +kernel)), rfl, rfl⟩
theorem kd_X6_init : (parseMethodDescriptor M_X6_init.1.desc).map (fun d => d.parameters.length) = some 2 := by decide +kernel
abbrev M_X6_forgetDead : ZM := (yX6_forgetDead, cX6_forgetDead, 2, none)
set_option maxRecDepth 100000 in
theorem kk_X6_forgetDead : ZMk M_X6_forgetDead := ⟨tm_2 (List.mem_of_getElem? (i := 189) (by rfl)), tm_1 (List.mem_of_getElem? (i := 10) (by decide +kernel)), ⟨by decide, by decide⟩, by decide⟩
theorem mk_X6_forgetDead : ZMi M_X6_forgetDead := ⟨kk_X6_forgetDead, tm_2 (List.mem_of_getElem? (i := 188) (by decide +kernel)), List.mem_of_getElem? (i := 10) (by decide +kernel)⟩
theorem kd_X6_forgetDead : (parseMethodDescriptor M_X6_forgetDead.1.desc).map (fun d => d.parameters.length) = some 0 := by decide +kernel
abbrev M_X6_isDead : ZM := (yX6_isDead, cX6_isDead, 2, (some .boolean))
set_option maxRecDepth 100000 in
theorem kk_X6_isDead : ZMk M_X6_isDead := ⟨tm_4 (List.mem_of_getElem? (i := 211) (by rfl)), tm_1 (List.mem_of_getElem? (i := 10) (by decide +kernel)), ⟨by decide, by decide⟩, by decide⟩
theorem mk_X6_isDead : ZMi M_X6_isDead := ⟨kk_X6_isDead, tm_4 (List.mem_of_getElem? (i := 210) (by decide +kernel)), List.mem_of_getElem? (i := 80) (by decide +kernel)⟩
theorem kd_X6_isDead : (parseMethodDescriptor M_X6_isDead.1.desc).map (fun d => d.parameters.length) = some 1 := by decide +kernel
abbrev M_X6_markGathered : ZM := (yX6_markGathered, cX6_markGathered, 3, none)
set_option maxRecDepth 100000 in
theorem kk_X6_markGathered : ZMk M_X6_markGathered := ⟨tm_5 (List.mem_of_getElem? (i := 76) (by rfl)), tm_1 (List.mem_of_getElem? (i := 10) (by decide +kernel)), ⟨by decide, by decide⟩, by decide⟩
theorem mk_X6_markGathered : ZMi M_X6_markGathered := ⟨kk_X6_markGathered, tm_5 (List.mem_of_getElem? (i := 75) (by decide +kernel)), List.mem_of_getElem? (i := 96) (by decide +kernel)⟩
theorem kd_X6_markGathered : (parseMethodDescriptor M_X6_markGathered.1.desc).map (fun d => d.parameters.length) = some 1 := by decide +kernel
abbrev M_X6_survey : ZM := (yX6_survey, cX6_survey, 3, none)
set_option maxRecDepth 100000 in
theorem kk_X6_survey : ZMk M_X6_survey := ⟨tm_5 (List.mem_of_getElem? (i := 89) (by rfl)), tm_1 (List.mem_of_getElem? (i := 10) (by decide +kernel)), ⟨by decide, by decide⟩, by decide⟩
theorem mk_X6_survey : ZMi M_X6_survey := ⟨kk_X6_survey, tm_5 (List.mem_of_getElem? (i := 88) (by decide +kernel)), List.mem_of_getElem? (i := 98) (by decide +kernel)⟩
theorem kd_X6_survey : (parseMethodDescriptor M_X6_survey.1.desc).map (fun d => d.parameters.length) = some 0 := by decide +kernel
abbrev M_X6_giveToOwner : ZM := (yX6_giveToOwner, cX6_giveToOwner, 3, none)
set_option maxRecDepth 100000 in
theorem kk_X6_giveToOwner : ZMk M_X6_giveToOwner := ⟨tm_5 (List.mem_of_getElem? (i := 100) (by rfl)), tm_1 (List.mem_of_getElem? (i := 10) (by decide +kernel)), ⟨by decide, by decide⟩, by decide⟩
theorem mk_X6_giveToOwner : ZMi M_X6_giveToOwner := ⟨kk_X6_giveToOwner, tm_5 (List.mem_of_getElem? (i := 99) (by decide +kernel)), List.mem_of_getElem? (i := 99) (by decide +kernel)⟩
theorem kd_X6_giveToOwner : (parseMethodDescriptor M_X6_giveToOwner.1.desc).map (fun d => d.parameters.length) = some 0 := by decide +kernel
abbrev M_X6_standingOf : ZM := (yX6_standingOf, cX6_standingOf, 2, (some .int))
set_option maxRecDepth 100000 in
theorem kk_X6_standingOf : ZMk M_X6_standingOf := ⟨tm_5 (List.mem_of_getElem? (i := 104) (by rfl)), tm_1 (List.mem_of_getElem? (i := 10) (by decide +kernel)), ⟨by decide, by decide⟩, by decide⟩
theorem mk_X6_standingOf : ZMi M_X6_standingOf := ⟨kk_X6_standingOf, tm_5 (List.mem_of_getElem? (i := 103) (by decide +kernel)), List.mem_of_getElem? (i := 100) (by decide +kernel)⟩
theorem kd_X6_standingOf : (parseMethodDescriptor M_X6_standingOf.1.desc).map (fun d => d.parameters.length) = some 1 := by decide +kernel
abbrev M_X6_landOf : ZM := (yX6_landOf, cX6_landOf, 2, (some .int))
set_option maxRecDepth 100000 in
theorem kk_X6_landOf : ZMk M_X6_landOf := ⟨tm_5 (List.mem_of_getElem? (i := 112) (by rfl)), tm_1 (List.mem_of_getElem? (i := 10) (by decide +kernel)), ⟨by decide, by decide⟩, by decide⟩
theorem mk_X6_landOf : ZMi M_X6_landOf := ⟨kk_X6_landOf, tm_5 (List.mem_of_getElem? (i := 111) (by decide +kernel)), List.mem_of_getElem? (i := 102) (by decide +kernel)⟩
theorem kd_X6_landOf : (parseMethodDescriptor M_X6_landOf.1.desc).map (fun d => d.parameters.length) = some 1 := by decide +kernel
abbrev M_X6_deadOf : ZM := (yX6_deadOf, cX6_deadOf, 2, (some .int))
set_option maxRecDepth 100000 in
theorem kk_X6_deadOf : ZMk M_X6_deadOf := ⟨tm_5 (List.mem_of_getElem? (i := 121) (by rfl)), tm_1 (List.mem_of_getElem? (i := 10) (by decide +kernel)), ⟨by decide, by decide⟩, by decide⟩
theorem mk_X6_deadOf : ZMi M_X6_deadOf := ⟨kk_X6_deadOf, tm_5 (List.mem_of_getElem? (i := 120) (by decide +kernel)), List.mem_of_getElem? (i := 104) (by decide +kernel)⟩
theorem kd_X6_deadOf : (parseMethodDescriptor M_X6_deadOf.1.desc).map (fun d => d.parameters.length) = some 1 := by decide +kernel
abbrev M_X7_init : ZM := (yX7_init, cX7_init, 1, none)
set_option maxRecDepth 100000 in
theorem kk_X7_init : ZMk M_X7_init := ⟨tm_1 (List.mem_of_getElem? (i := 32) (by rfl)), tm_1 (List.mem_of_getElem? (i := 2) (by decide +kernel)), ⟨by decide, by decide⟩, by decide⟩
theorem mk_X7_init : ZMc M_X7_init := ⟨kk_X7_init, tm_1 (List.mem_of_getElem? (i := 31) (by decide +kernel)), rfl, rfl⟩
theorem kd_X7_init : (parseMethodDescriptor M_X7_init.1.desc).map (fun d => d.parameters.length) = some 0 := by decide +kernel
abbrev M_X7_clear : ZM := (yX7_clear, cX7_clear, 3, none)
set_option maxRecDepth 100000 in
theorem kk_X7_clear : ZMk M_X7_clear := ⟨tm_2 (List.mem_of_getElem? (i := 143) (by rfl)), tm_1 (List.mem_of_getElem? (i := 2) (by decide +kernel)), ⟨by decide, by decide⟩, by decide⟩
theorem mk_X7_clear : ZMi M_X7_clear := ⟨kk_X7_clear, tm_2 (List.mem_of_getElem? (i := 142) (by decide +kernel)), List.mem_of_getElem? (i := 1) (by decide +kernel)⟩
theorem kd_X7_clear : (parseMethodDescriptor M_X7_clear.1.desc).map (fun d => d.parameters.length) = some 2 := by decide +kernel
abbrev M_X7_has : ZM := (yX7_has, cX7_has, 2, (some .boolean))
set_option maxRecDepth 100000 in
theorem kk_X7_has : ZMk M_X7_has := ⟨tm_2 (List.mem_of_getElem? (i := 173) (by rfl)), tm_1 (List.mem_of_getElem? (i := 2) (by decide +kernel)), ⟨by decide, by decide⟩, by decide⟩
theorem mk_X7_has : ZMi M_X7_has := ⟨kk_X7_has, tm_2 (List.mem_of_getElem? (i := 172) (by decide +kernel)), List.mem_of_getElem? (i := 7) (by decide +kernel)⟩
theorem kd_X7_has : (parseMethodDescriptor M_X7_has.1.desc).map (fun d => d.parameters.length) = some 1 := by decide +kernel
abbrev M_X7_turnAt : ZM := (yX7_turnAt, cX7_turnAt, 2, (some .int))
set_option maxRecDepth 100000 in
theorem kk_X7_turnAt : ZMk M_X7_turnAt := ⟨tm_3 (List.mem_of_getElem? (i := 152) (by rfl)), tm_1 (List.mem_of_getElem? (i := 2) (by decide +kernel)), ⟨by decide, by decide⟩, by decide⟩
theorem mk_X7_turnAt : ZMi M_X7_turnAt := ⟨kk_X7_turnAt, tm_3 (List.mem_of_getElem? (i := 151) (by decide +kernel)), List.mem_of_getElem? (i := 40) (by decide +kernel)⟩
theorem kd_X7_turnAt : (parseMethodDescriptor M_X7_turnAt.1.desc).map (fun d => d.parameters.length) = some 1 := by decide +kernel
abbrev M_X7_kindOf : ZM := (yX7_kindOf, cX7_kindOf, 2, (some .int))
set_option maxRecDepth 100000 in
theorem kk_X7_kindOf : ZMk M_X7_kindOf := ⟨tm_4 (List.mem_of_getElem? (i := 107) (by rfl)), tm_1 (List.mem_of_getElem? (i := 2) (by decide +kernel)), ⟨by decide, by decide⟩, by decide⟩
theorem mk_X7_kindOf : ZMi M_X7_kindOf := ⟨kk_X7_kindOf, tm_4 (List.mem_of_getElem? (i := 106) (by decide +kernel)), List.mem_of_getElem? (i := 66) (by decide +kernel)⟩
theorem kd_X7_kindOf : (parseMethodDescriptor M_X7_kindOf.1.desc).map (fun d => d.parameters.length) = some 1 := by decide +kernel
abbrev M_X7_parentOf : ZM := (yX7_parentOf, cX7_parentOf, 2, (some .int))
set_option maxRecDepth 100000 in
theorem kk_X7_parentOf : ZMk M_X7_parentOf := ⟨tm_4 (List.mem_of_getElem? (i := 73) (by rfl)), tm_1 (List.mem_of_getElem? (i := 2) (by decide +kernel)), ⟨by decide, by decide⟩, by decide⟩
theorem mk_X7_parentOf : ZMi M_X7_parentOf := ⟨kk_X7_parentOf, tm_4 (List.mem_of_getElem? (i := 72) (by decide +kernel)), List.mem_of_getElem? (i := 61) (by decide +kernel)⟩
theorem kd_X7_parentOf : (parseMethodDescriptor M_X7_parentOf.1.desc).map (fun d => d.parameters.length) = some 1 := by decide +kernel
abbrev M_X7_addSets : ZM := (yX7_addSets, cX7_addSets, 5, (some .int))
set_option maxRecDepth 100000 in
theorem kk_X7_addSets : ZMk M_X7_addSets := ⟨tm_2 (List.mem_of_getElem? (i := 161) (by rfl)), tm_1 (List.mem_of_getElem? (i := 2) (by decide +kernel)), ⟨by decide, by decide⟩, by decide⟩
theorem mk_X7_addSets : ZMi M_X7_addSets := ⟨kk_X7_addSets, tm_2 (List.mem_of_getElem? (i := 160) (by decide +kernel)), List.mem_of_getElem? (i := 4) (by decide +kernel)⟩
theorem kd_X7_addSets : (parseMethodDescriptor M_X7_addSets.1.desc).map (fun d => d.parameters.length) = some 3 := by decide +kernel
abbrev M_X7_copySettings : ZM := (yX7_copySettings, cX7_copySettings, 3, none)
set_option maxRecDepth 100000 in
theorem kk_X7_copySettings : ZMk M_X7_copySettings := ⟨tm_3 (List.mem_of_getElem? (i := 157) (by rfl)), tm_1 (List.mem_of_getElem? (i := 2) (by decide +kernel)), ⟨by decide, by decide⟩, by decide⟩
theorem mk_X7_copySettings : ZMi M_X7_copySettings := ⟨kk_X7_copySettings, tm_3 (List.mem_of_getElem? (i := 156) (by decide +kernel)), List.mem_of_getElem? (i := 41) (by decide +kernel)⟩
theorem kd_X7_copySettings : (parseMethodDescriptor M_X7_copySettings.1.desc).map (fun d => d.parameters.length) = some 2 := by decide +kernel
abbrev M_X7_addMove : ZM := (yX7_addMove, cX7_addMove, 6, (some .int))
set_option maxRecDepth 100000 in
theorem kk_X7_addMove : ZMk M_X7_addMove := ⟨tm_3 (List.mem_of_getElem? (i := 202) (by rfl)), tm_1 (List.mem_of_getElem? (i := 2) (by decide +kernel)), ⟨by decide, by decide⟩, by decide⟩
theorem mk_X7_addMove : ZMi M_X7_addMove := ⟨kk_X7_addMove, tm_3 (List.mem_of_getElem? (i := 201) (by decide +kernel)), List.mem_of_getElem? (i := 50) (by decide +kernel)⟩
theorem kd_X7_addMove : (parseMethodDescriptor M_X7_addMove.1.desc).map (fun d => d.parameters.length) = some 4 := by decide +kernel
abbrev M_X7_addNode : ZM := (yX7_addNode, cX7_addNode, 5, (some .int))
set_option maxRecDepth 100000 in
theorem kk_X7_addNode : ZMk M_X7_addNode := ⟨tm_2 (List.mem_of_getElem? (i := 165) (by rfl)), tm_1 (List.mem_of_getElem? (i := 2) (by decide +kernel)), ⟨by decide, by decide⟩, by decide⟩
theorem mk_X7_addNode : ZMi M_X7_addNode := ⟨kk_X7_addNode, tm_2 (List.mem_of_getElem? (i := 164) (by decide +kernel)), List.mem_of_getElem? (i := 5) (by decide +kernel)⟩
theorem kd_X7_addNode : (parseMethodDescriptor M_X7_addNode.1.desc).map (fun d => d.parameters.length) = some 2 := by decide +kernel
abbrev M_X7_nthChild : ZM := (yX7_nthChild, cX7_nthChild, 5, (some .int))
set_option maxRecDepth 100000 in
theorem kk_X7_nthChild : ZMk M_X7_nthChild := ⟨tm_4 (List.mem_of_getElem? (i := 130) (by rfl)), tm_1 (List.mem_of_getElem? (i := 2) (by decide +kernel)), ⟨by decide, by decide⟩, by decide⟩
theorem mk_X7_nthChild : ZMi M_X7_nthChild := ⟨kk_X7_nthChild, tm_4 (List.mem_of_getElem? (i := 129) (by decide +kernel)), List.mem_of_getElem? (i := 68) (by decide +kernel)⟩
theorem kd_X7_nthChild : (parseMethodDescriptor M_X7_nthChild.1.desc).map (fun d => d.parameters.length) = some 2 := by decide +kernel
abbrev M_X7_childOf : ZM := (yX7_childOf, cX7_childOf, 6, (some .int))
set_option maxRecDepth 100000 in
theorem kk_X7_childOf : ZMk M_X7_childOf := ⟨tm_4 (List.mem_of_getElem? (i := 112) (by rfl)), tm_1 (List.mem_of_getElem? (i := 2) (by decide +kernel)), ⟨by decide, by decide⟩, by decide⟩
theorem mk_X7_childOf : ZMi M_X7_childOf := ⟨kk_X7_childOf, tm_4 (List.mem_of_getElem? (i := 111) (by decide +kernel)), List.mem_of_getElem? (i := 67) (by decide +kernel)⟩
theorem kd_X7_childOf : (parseMethodDescriptor M_X7_childOf.1.desc).map (fun d => d.parameters.length) = some 3 := by decide +kernel
abbrev M_X7_isOver : ZM := (yX7_isOver, cX7_isOver, 2, (some .boolean))
set_option maxRecDepth 100000 in
theorem kk_X7_isOver : ZMk M_X7_isOver := ⟨tm_4 (List.mem_of_getElem? (i := 103) (by rfl)), tm_1 (List.mem_of_getElem? (i := 2) (by decide +kernel)), ⟨by decide, by decide⟩, by decide⟩
theorem mk_X7_isOver : ZMi M_X7_isOver := ⟨kk_X7_isOver, tm_4 (List.mem_of_getElem? (i := 102) (by decide +kernel)), List.mem_of_getElem? (i := 65) (by decide +kernel)⟩
theorem kd_X7_isOver : (parseMethodDescriptor M_X7_isOver.1.desc).map (fun d => d.parameters.length) = some 1 := by decide +kernel
abbrev M_X7_tryPlay : ZM := (yX7_tryPlay, cX7_tryPlay, 6, (some .int))
set_option maxRecDepth 100000 in
theorem kk_X7_tryPlay : ZMk M_X7_tryPlay := ⟨tm_3 (List.mem_of_getElem? (i := 168) (by rfl)), tm_1 (List.mem_of_getElem? (i := 2) (by decide +kernel)), ⟨by decide, by decide⟩, by decide⟩
theorem mk_X7_tryPlay : ZMi M_X7_tryPlay := ⟨kk_X7_tryPlay, tm_3 (List.mem_of_getElem? (i := 167) (by decide +kernel)), List.mem_of_getElem? (i := 43) (by decide +kernel)⟩
theorem kd_X7_tryPlay : (parseMethodDescriptor M_X7_tryPlay.1.desc).map (fun d => d.parameters.length) = some 5 := by decide +kernel
abbrev M_X7_isBarred : ZM := (yX7_isBarred, cX7_isBarred, 7, (some .boolean))
set_option maxRecDepth 100000 in
theorem kk_X7_isBarred : ZMk M_X7_isBarred := ⟨tm_3 (List.mem_of_getElem? (i := 194) (by rfl)), tm_1 (List.mem_of_getElem? (i := 2) (by decide +kernel)), ⟨by decide, by decide⟩, by decide⟩
theorem mk_X7_isBarred : ZMi M_X7_isBarred := ⟨kk_X7_isBarred, tm_3 (List.mem_of_getElem? (i := 193) (by decide +kernel)), List.mem_of_getElem? (i := 48) (by decide +kernel)⟩
theorem kd_X7_isBarred : (parseMethodDescriptor M_X7_isBarred.1.desc).map (fun d => d.parameters.length) = some 4 := by decide +kernel
abbrev M_X7_takenBy : ZM := (yX7_takenBy, cX7_takenBy, 5, (some .int))
set_option maxRecDepth 100000 in
theorem kk_X7_takenBy : ZMk M_X7_takenBy := ⟨tm_5 (List.mem_of_getElem? (i := 117) (by rfl)), tm_1 (List.mem_of_getElem? (i := 2) (by decide +kernel)), ⟨by decide, by decide⟩, by decide⟩
theorem mk_X7_takenBy : ZMi M_X7_takenBy := ⟨kk_X7_takenBy, tm_5 (List.mem_of_getElem? (i := 116) (by decide +kernel)), List.mem_of_getElem? (i := 103) (by decide +kernel)⟩
theorem kd_X7_takenBy : (parseMethodDescriptor M_X7_takenBy.1.desc).map (fun d => d.parameters.length) = some 1 := by decide +kernel
abbrev M_X7_tell : ZM := (yX7_tell, cX7_tell, 3, (some .int))
set_option maxRecDepth 100000 in
theorem kk_X7_tell : ZMk M_X7_tell := ⟨tm_4 (List.mem_of_getElem? (i := 142) (by rfl)), tm_1 (List.mem_of_getElem? (i := 2) (by decide +kernel)), ⟨by decide, by decide⟩, by decide⟩
theorem mk_X7_tell : ZMi M_X7_tell := ⟨kk_X7_tell, tm_4 (List.mem_of_getElem? (i := 141) (by decide +kernel)), List.mem_of_getElem? (i := 69) (by decide +kernel)⟩
theorem kd_X7_tell : (parseMethodDescriptor M_X7_tell.1.desc).map (fun d => d.parameters.length) = some 2 := by decide +kernel
abbrev M_X8_init : ZM := (yX8_init, cX8_init, 2, none)
set_option maxRecDepth 100000 in
theorem kk_X8_init : ZMk M_X8_init := ⟨tm_2 (List.mem_of_getElem? (i := 8) (by rfl)), tm_1 (List.mem_of_getElem? (i := 7) (by decide +kernel)), ⟨by decide, by decide⟩, by decide⟩
theorem mk_X8_init : ZMc M_X8_init := ⟨kk_X8_init, tm_2 (List.mem_of_getElem? (i := 7) (by decide +kernel)), rfl, rfl⟩
theorem kd_X8_init : (parseMethodDescriptor M_X8_init.1.desc).map (fun d => d.parameters.length) = some 1 := by decide +kernel
abbrev M_X8_writeGame : ZM := (yX8_writeGame, cX8_writeGame, 4, none)
set_option maxRecDepth 100000 in
theorem kk_X8_writeGame : ZMk M_X8_writeGame := ⟨tm_3 (List.mem_of_getElem? (i := 222) (by rfl)), tm_1 (List.mem_of_getElem? (i := 7) (by decide +kernel)), ⟨by decide, by decide⟩, by decide⟩
theorem mk_X8_writeGame : ZMi M_X8_writeGame := ⟨kk_X8_writeGame, tm_3 (List.mem_of_getElem? (i := 221) (by decide +kernel)), List.mem_of_getElem? (i := 53) (by decide +kernel)⟩
theorem kd_X8_writeGame : (parseMethodDescriptor M_X8_writeGame.1.desc).map (fun d => d.parameters.length) = some 1 := by decide +kernel
abbrev M_X8_nextToWrite : ZM := (yX8_nextToWrite, cX8_nextToWrite, 6, (some .int))
set_option maxRecDepth 100000 in
theorem kk_X8_nextToWrite : ZMk M_X8_nextToWrite := ⟨tm_4 (List.mem_of_getElem? (i := 69) (by rfl)), tm_1 (List.mem_of_getElem? (i := 7) (by decide +kernel)), ⟨by decide, by decide⟩, by decide⟩
theorem mk_X8_nextToWrite : ZMi M_X8_nextToWrite := ⟨kk_X8_nextToWrite, tm_4 (List.mem_of_getElem? (i := 68) (by decide +kernel)), List.mem_of_getElem? (i := 60) (by decide +kernel)⟩
theorem kd_X8_nextToWrite : (parseMethodDescriptor M_X8_nextToWrite.1.desc).map (fun d => d.parameters.length) = some 2 := by decide +kernel
abbrev M_X8_writeNode : ZM := (yX8_writeNode, cX8_writeNode, 3, none)
set_option maxRecDepth 100000 in
theorem kk_X8_writeNode : ZMk M_X8_writeNode := ⟨tm_3 (List.mem_of_getElem? (i := 228) (by rfl)), tm_1 (List.mem_of_getElem? (i := 7) (by decide +kernel)), ⟨by decide, by decide⟩, by decide⟩
theorem mk_X8_writeNode : ZMi M_X8_writeNode := ⟨kk_X8_writeNode, tm_3 (List.mem_of_getElem? (i := 227) (by decide +kernel)), List.mem_of_getElem? (i := 54) (by decide +kernel)⟩
theorem kd_X8_writeNode : (parseMethodDescriptor M_X8_writeNode.1.desc).map (fun d => d.parameters.length) = some 2 := by decide +kernel
abbrev M_X8_writeHead : ZM := (yX8_writeHead, cX8_writeHead, 2, none)
set_option maxRecDepth 100000 in
theorem kk_X8_writeHead : ZMk M_X8_writeHead := ⟨tm_3 (List.mem_of_getElem? (i := 232) (by rfl)), tm_1 (List.mem_of_getElem? (i := 7) (by decide +kernel)), ⟨by decide, by decide⟩, by decide⟩
theorem mk_X8_writeHead : ZMi M_X8_writeHead := ⟨kk_X8_writeHead, tm_3 (List.mem_of_getElem? (i := 231) (by decide +kernel)), List.mem_of_getElem? (i := 55) (by decide +kernel)⟩
theorem kd_X8_writeHead : (parseMethodDescriptor M_X8_writeHead.1.desc).map (fun d => d.parameters.length) = some 1 := by decide +kernel
abbrev M_X8_writeNumber : ZM := (yX8_writeNumber, cX8_writeNumber, 3, none)
set_option maxRecDepth 100000 in
theorem kk_X8_writeNumber : ZMk M_X8_writeNumber := ⟨tm_4 (List.mem_of_getElem? (i := 49) (by rfl)), tm_1 (List.mem_of_getElem? (i := 7) (by decide +kernel)), ⟨by decide, by decide⟩, by decide⟩
theorem mk_X8_writeNumber : ZMi M_X8_writeNumber := ⟨kk_X8_writeNumber, tm_4 (List.mem_of_getElem? (i := 48) (by decide +kernel)), List.mem_of_getElem? (i := 57) (by decide +kernel)⟩
theorem kd_X8_writeNumber : (parseMethodDescriptor M_X8_writeNumber.1.desc).map (fun d => d.parameters.length) = some 1 := by decide +kernel
abbrev M_X8_writeSetting : ZM := (yX8_writeSetting, cX8_writeSetting, 7, none)
set_option maxRecDepth 100000 in
theorem kk_X8_writeSetting : ZMk M_X8_writeSetting := ⟨tm_4 (List.mem_of_getElem? (i := 58) (by rfl)), tm_1 (List.mem_of_getElem? (i := 7) (by decide +kernel)), ⟨by decide, by decide⟩, by decide⟩
theorem mk_X8_writeSetting : ZMi M_X8_writeSetting := ⟨kk_X8_writeSetting, tm_4 (List.mem_of_getElem? (i := 57) (by decide +kernel)), List.mem_of_getElem? (i := 58) (by decide +kernel)⟩
theorem kd_X8_writeSetting : (parseMethodDescriptor M_X8_writeSetting.1.desc).map (fun d => d.parameters.length) = some 4 := by decide +kernel
abbrev M_X8_writePoint : ZM := (yX8_writePoint, cX8_writePoint, 3, none)
set_option maxRecDepth 100000 in
theorem kk_X8_writePoint : ZMk M_X8_writePoint := ⟨tm_4 (List.mem_of_getElem? (i := 63) (by rfl)), tm_1 (List.mem_of_getElem? (i := 7) (by decide +kernel)), ⟨by decide, by decide⟩, by decide⟩
theorem mk_X8_writePoint : ZMi M_X8_writePoint := ⟨kk_X8_writePoint, tm_4 (List.mem_of_getElem? (i := 62) (by decide +kernel)), List.mem_of_getElem? (i := 59) (by decide +kernel)⟩
theorem kd_X8_writePoint : (parseMethodDescriptor M_X8_writePoint.1.desc).map (fun d => d.parameters.length) = some 2 := by decide +kernel
abbrev M_X9_init : ZM := (yX9_init, cX9_init, 1, none)
set_option maxRecDepth 100000 in
theorem kk_X9_init : ZMk M_X9_init := ⟨tm_1 (List.mem_of_getElem? (i := 24) (by rfl)), tm_1 (List.mem_of_getElem? (i := 1) (by decide +kernel)), ⟨by decide, by decide⟩, by decide⟩
theorem mk_X9_init : ZMc M_X9_init := ⟨kk_X9_init, tm_1 (List.mem_of_getElem? (i := 23) (by decide +kernel)), rfl, rfl⟩
theorem kd_X9_init : (parseMethodDescriptor M_X9_init.1.desc).map (fun d => d.parameters.length) = some 0 := by decide +kernel
abbrev M_X9_begin : ZM := (yX9_begin, cX9_begin, 3, (some .boolean))
set_option maxRecDepth 100000 in
theorem kk_X9_begin : ZMk M_X9_begin := ⟨tm_2 (List.mem_of_getElem? (i := 236) (by rfl)), tm_1 (List.mem_of_getElem? (i := 1) (by decide +kernel)), ⟨by decide, by decide⟩, by decide⟩
theorem mk_X9_begin : ZMi M_X9_begin := ⟨kk_X9_begin, tm_2 (List.mem_of_getElem? (i := 234) (by decide +kernel)), tm_2 (List.mem_of_getElem? (i := 235) (by decide +kernel))⟩
theorem kd_X9_begin : (parseMethodDescriptor M_X9_begin.1.desc).map (fun d => d.parameters.length) = some 2 := by decide +kernel
abbrev M_X9_ko : ZM := (yX9_ko, cX9_ko, 3, (some .int))
set_option maxRecDepth 100000 in
theorem kk_X9_ko : ZMk M_X9_ko := ⟨tm_3 (List.mem_of_getElem? (i := 4) (by rfl)), tm_1 (List.mem_of_getElem? (i := 1) (by decide +kernel)), ⟨by decide, by decide⟩, by decide⟩
theorem mk_X9_ko : ZMi M_X9_ko := ⟨kk_X9_ko, tm_3 (List.mem_of_getElem? (i := 2) (by decide +kernel)), tm_3 (List.mem_of_getElem? (i := 3) (by decide +kernel))⟩
theorem kd_X9_ko : (parseMethodDescriptor M_X9_ko.1.desc).map (fun d => d.parameters.length) = some 1 := by decide +kernel
abbrev M_X9_feed : ZM := (yX9_feed, cX9_feed, 6, (some .int))
set_option maxRecDepth 100000 in
theorem kk_X9_feed : ZMk M_X9_feed := ⟨tm_3 (List.mem_of_getElem? (i := 8) (by rfl)), tm_1 (List.mem_of_getElem? (i := 1) (by decide +kernel)), ⟨by decide, by decide⟩, by decide⟩
theorem mk_X9_feed : ZMi M_X9_feed := ⟨kk_X9_feed, tm_3 (List.mem_of_getElem? (i := 6) (by decide +kernel)), tm_3 (List.mem_of_getElem? (i := 7) (by decide +kernel))⟩
theorem kd_X9_feed : (parseMethodDescriptor M_X9_feed.1.desc).map (fun d => d.parameters.length) = some 5 := by decide +kernel
abbrev M_X9_end : ZM := (yX9_end, cX9_end, 2, (some .int))
set_option maxRecDepth 100000 in
theorem kk_X9_end : ZMk M_X9_end := ⟨tm_3 (List.mem_of_getElem? (i := 20) (by rfl)), tm_1 (List.mem_of_getElem? (i := 1) (by decide +kernel)), ⟨by decide, by decide⟩, by decide⟩
theorem mk_X9_end : ZMi M_X9_end := ⟨kk_X9_end, tm_3 (List.mem_of_getElem? (i := 18) (by decide +kernel)), tm_3 (List.mem_of_getElem? (i := 19) (by decide +kernel))⟩
theorem kd_X9_end : (parseMethodDescriptor M_X9_end.1.desc).map (fun d => d.parameters.length) = some 1 := by decide +kernel
abbrev M_X9_read : ZM := (yX9_read, cX9_read, 3, (some .int))
set_option maxRecDepth 100000 in
theorem kk_X9_read : ZMk M_X9_read := ⟨tm_3 (List.mem_of_getElem? (i := 24) (by rfl)), tm_1 (List.mem_of_getElem? (i := 1) (by decide +kernel)), ⟨by decide, by decide⟩, by decide⟩
theorem mk_X9_read : ZMi M_X9_read := ⟨kk_X9_read, tm_3 (List.mem_of_getElem? (i := 22) (by decide +kernel)), tm_3 (List.mem_of_getElem? (i := 23) (by decide +kernel))⟩
theorem kd_X9_read : (parseMethodDescriptor M_X9_read.1.desc).map (fun d => d.parameters.length) = some 0 := by decide +kernel
abbrev M_X9_place : ZM := (yX9_place, cX9_place, 1, (some .int))
set_option maxRecDepth 100000 in
theorem kk_X9_place : ZMk M_X9_place := ⟨tm_3 (List.mem_of_getElem? (i := 214) (by rfl)), tm_1 (List.mem_of_getElem? (i := 1) (by decide +kernel)), ⟨by decide, by decide⟩, by decide⟩
theorem mk_X9_place : ZMi M_X9_place := ⟨kk_X9_place, tm_3 (List.mem_of_getElem? (i := 212) (by decide +kernel)), tm_3 (List.mem_of_getElem? (i := 213) (by decide +kernel))⟩
theorem kd_X9_place : (parseMethodDescriptor M_X9_place.1.desc).map (fun d => d.parameters.length) = some 0 := by decide +kernel
abbrev M_X9_write : ZM := (yX9_write, cX9_write, 1, (some .int))
set_option maxRecDepth 100000 in
theorem kk_X9_write : ZMk M_X9_write := ⟨tm_3 (List.mem_of_getElem? (i := 218) (by rfl)), tm_1 (List.mem_of_getElem? (i := 1) (by decide +kernel)), ⟨by decide, by decide⟩, by decide⟩
theorem mk_X9_write : ZMi M_X9_write := ⟨kk_X9_write, tm_3 (List.mem_of_getElem? (i := 216) (by decide +kernel)), tm_3 (List.mem_of_getElem? (i := 217) (by decide +kernel))⟩
theorem kd_X9_write : (parseMethodDescriptor M_X9_write.1.desc).map (fun d => d.parameters.length) = some 0 := by decide +kernel
abbrev M_X9_octet : ZM := (yX9_octet, cX9_octet, 2, (some .int))
set_option maxRecDepth 100000 in
theorem kk_X9_octet : ZMk M_X9_octet := ⟨tm_4 (List.mem_of_getElem? (i := 77) (by rfl)), tm_1 (List.mem_of_getElem? (i := 1) (by decide +kernel)), ⟨by decide, by decide⟩, by decide⟩
theorem mk_X9_octet : ZMi M_X9_octet := ⟨kk_X9_octet, tm_4 (List.mem_of_getElem? (i := 75) (by decide +kernel)), tm_4 (List.mem_of_getElem? (i := 76) (by decide +kernel))⟩
theorem kd_X9_octet : (parseMethodDescriptor M_X9_octet.1.desc).map (fun d => d.parameters.length) = some 1 := by decide +kernel
abbrev M_X9_let : ZM := (yX9_let, cX9_let, 2, (some .int))
set_option maxRecDepth 100000 in
theorem kk_X9_let : ZMk M_X9_let := ⟨tm_4 (List.mem_of_getElem? (i := 82) (by rfl)), tm_1 (List.mem_of_getElem? (i := 1) (by decide +kernel)), ⟨by decide, by decide⟩, by decide⟩
theorem mk_X9_let : ZMi M_X9_let := ⟨kk_X9_let, tm_4 (List.mem_of_getElem? (i := 80) (by decide +kernel)), tm_4 (List.mem_of_getElem? (i := 81) (by decide +kernel))⟩
theorem kd_X9_let : (parseMethodDescriptor M_X9_let.1.desc).map (fun d => d.parameters.length) = some 1 := by decide +kernel
abbrev M_X9_play : ZM := (yX9_play, cX9_play, 5, (some .int))
set_option maxRecDepth 100000 in
theorem kk_X9_play : ZMk M_X9_play := ⟨tm_4 (List.mem_of_getElem? (i := 116) (by rfl)), tm_1 (List.mem_of_getElem? (i := 1) (by decide +kernel)), ⟨by decide, by decide⟩, by decide⟩
theorem mk_X9_play : ZMi M_X9_play := ⟨kk_X9_play, tm_4 (List.mem_of_getElem? (i := 114) (by decide +kernel)), tm_4 (List.mem_of_getElem? (i := 115) (by decide +kernel))⟩
theorem kd_X9_play : (parseMethodDescriptor M_X9_play.1.desc).map (fun d => d.parameters.length) = some 1 := by decide +kernel
abbrev M_X9_back : ZM := (yX9_back, cX9_back, 4, (some .int))
set_option maxRecDepth 100000 in
theorem kk_X9_back : ZMk M_X9_back := ⟨tm_4 (List.mem_of_getElem? (i := 121) (by rfl)), tm_1 (List.mem_of_getElem? (i := 1) (by decide +kernel)), ⟨by decide, by decide⟩, by decide⟩
theorem mk_X9_back : ZMi M_X9_back := ⟨kk_X9_back, tm_4 (List.mem_of_getElem? (i := 119) (by decide +kernel)), tm_4 (List.mem_of_getElem? (i := 120) (by decide +kernel))⟩
theorem kd_X9_back : (parseMethodDescriptor M_X9_back.1.desc).map (fun d => d.parameters.length) = some 1 := by decide +kernel
abbrev M_X9_on : ZM := (yX9_on, cX9_on, 3, (some .boolean))
set_option maxRecDepth 100000 in
theorem kk_X9_on : ZMk M_X9_on := ⟨tm_4 (List.mem_of_getElem? (i := 126) (by rfl)), tm_1 (List.mem_of_getElem? (i := 1) (by decide +kernel)), ⟨by decide, by decide⟩, by decide⟩
theorem mk_X9_on : ZMi M_X9_on := ⟨kk_X9_on, tm_4 (List.mem_of_getElem? (i := 124) (by decide +kernel)), tm_4 (List.mem_of_getElem? (i := 125) (by decide +kernel))⟩
theorem kd_X9_on : (parseMethodDescriptor M_X9_on.1.desc).map (fun d => d.parameters.length) = some 1 := by decide +kernel
abbrev M_X9_to : ZM := (yX9_to, cX9_to, 2, (some .boolean))
set_option maxRecDepth 100000 in
theorem kk_X9_to : ZMk M_X9_to := ⟨tm_4 (List.mem_of_getElem? (i := 134) (by rfl)), tm_1 (List.mem_of_getElem? (i := 1) (by decide +kernel)), ⟨by decide, by decide⟩, by decide⟩
theorem mk_X9_to : ZMi M_X9_to := ⟨kk_X9_to, tm_4 (List.mem_of_getElem? (i := 132) (by decide +kernel)), tm_4 (List.mem_of_getElem? (i := 133) (by decide +kernel))⟩
theorem kd_X9_to : (parseMethodDescriptor M_X9_to.1.desc).map (fun d => d.parameters.length) = some 1 := by decide +kernel
abbrev M_X9_node : ZM := (yX9_node, cX9_node, 3, (some .int))
set_option maxRecDepth 100000 in
theorem kk_X9_node : ZMk M_X9_node := ⟨tm_4 (List.mem_of_getElem? (i := 138) (by rfl)), tm_1 (List.mem_of_getElem? (i := 1) (by decide +kernel)), ⟨by decide, by decide⟩, by decide⟩
theorem mk_X9_node : ZMi M_X9_node := ⟨kk_X9_node, tm_4 (List.mem_of_getElem? (i := 136) (by decide +kernel)), tm_4 (List.mem_of_getElem? (i := 137) (by decide +kernel))⟩
theorem kd_X9_node : (parseMethodDescriptor M_X9_node.1.desc).map (fun d => d.parameters.length) = some 2 := by decide +kernel
abbrev M_X9_at : ZM := (yX9_at, cX9_at, 2, (some .int))
set_option maxRecDepth 100000 in
theorem kk_X9_at : ZMk M_X9_at := ⟨tm_4 (List.mem_of_getElem? (i := 146) (by rfl)), tm_1 (List.mem_of_getElem? (i := 1) (by decide +kernel)), ⟨by decide, by decide⟩, by decide⟩
theorem mk_X9_at : ZMi M_X9_at := ⟨kk_X9_at, tm_4 (List.mem_of_getElem? (i := 144) (by decide +kernel)), tm_4 (List.mem_of_getElem? (i := 145) (by decide +kernel))⟩
theorem kd_X9_at : (parseMethodDescriptor M_X9_at.1.desc).map (fun d => d.parameters.length) = some 1 := by decide +kernel
abbrev M_X9_chain : ZM := (yX9_chain, cX9_chain, 3, (some .int))
set_option maxRecDepth 100000 in
theorem kk_X9_chain : ZMk M_X9_chain := ⟨tm_4 (List.mem_of_getElem? (i := 151) (by rfl)), tm_1 (List.mem_of_getElem? (i := 1) (by decide +kernel)), ⟨by decide, by decide⟩, by decide⟩
theorem mk_X9_chain : ZMi M_X9_chain := ⟨kk_X9_chain, tm_4 (List.mem_of_getElem? (i := 149) (by decide +kernel)), tm_4 (List.mem_of_getElem? (i := 150) (by decide +kernel))⟩
theorem kd_X9_chain : (parseMethodDescriptor M_X9_chain.1.desc).map (fun d => d.parameters.length) = some 2 := by decide +kernel
abbrev M_X9_liberty : ZM := (yX9_liberty, cX9_liberty, 3, (some .int))
set_option maxRecDepth 100000 in
theorem kk_X9_liberty : ZMk M_X9_liberty := ⟨tm_4 (List.mem_of_getElem? (i := 215) (by rfl)), tm_1 (List.mem_of_getElem? (i := 1) (by decide +kernel)), ⟨by decide, by decide⟩, by decide⟩
theorem mk_X9_liberty : ZMi M_X9_liberty := ⟨kk_X9_liberty, tm_4 (List.mem_of_getElem? (i := 213) (by decide +kernel)), tm_4 (List.mem_of_getElem? (i := 214) (by decide +kernel))⟩
theorem kd_X9_liberty : (parseMethodDescriptor M_X9_liberty.1.desc).map (fun d => d.parameters.length) = some 2 := by decide +kernel
abbrev M_X9_region : ZM := (yX9_region, cX9_region, 4, (some .int))
set_option maxRecDepth 100000 in
theorem kk_X9_region : ZMk M_X9_region := ⟨tm_4 (List.mem_of_getElem? (i := 223) (by rfl)), tm_1 (List.mem_of_getElem? (i := 1) (by decide +kernel)), ⟨by decide, by decide⟩, by decide⟩
theorem mk_X9_region : ZMi M_X9_region := ⟨kk_X9_region, tm_4 (List.mem_of_getElem? (i := 221) (by decide +kernel)), tm_4 (List.mem_of_getElem? (i := 222) (by decide +kernel))⟩
theorem kd_X9_region : (parseMethodDescriptor M_X9_region.1.desc).map (fun d => d.parameters.length) = some 3 := by decide +kernel
abbrev M_X9_ladder : ZM := (yX9_ladder, cX9_ladder, 2, (some .int))
set_option maxRecDepth 100000 in
theorem kk_X9_ladder : ZMk M_X9_ladder := ⟨tm_5 (List.mem_of_getElem? (i := 1) (by rfl)), tm_1 (List.mem_of_getElem? (i := 1) (by decide +kernel)), ⟨by decide, by decide⟩, by decide⟩
theorem mk_X9_ladder : ZMi M_X9_ladder := ⟨kk_X9_ladder, tm_4 (List.mem_of_getElem? (i := 239) (by decide +kernel)), tm_5 (List.mem_of_getElem? (i := 0) (by decide +kernel))⟩
theorem kd_X9_ladder : (parseMethodDescriptor M_X9_ladder.1.desc).map (fun d => d.parameters.length) = some 1 := by decide +kernel
abbrev M_X9_steps : ZM := (yX9_steps, cX9_steps, 2, (some .int))
set_option maxRecDepth 100000 in
theorem kk_X9_steps : ZMk M_X9_steps := ⟨tm_5 (List.mem_of_getElem? (i := 68) (by rfl)), tm_1 (List.mem_of_getElem? (i := 1) (by decide +kernel)), ⟨by decide, by decide⟩, by decide⟩
theorem mk_X9_steps : ZMi M_X9_steps := ⟨kk_X9_steps, tm_5 (List.mem_of_getElem? (i := 66) (by decide +kernel)), tm_5 (List.mem_of_getElem? (i := 67) (by decide +kernel))⟩
theorem kd_X9_steps : (parseMethodDescriptor M_X9_steps.1.desc).map (fun d => d.parameters.length) = some 1 := by decide +kernel
abbrev M_X9_dead : ZM := (yX9_dead, cX9_dead, 3, (some .int))
set_option maxRecDepth 100000 in
theorem kk_X9_dead : ZMk M_X9_dead := ⟨tm_5 (List.mem_of_getElem? (i := 72) (by rfl)), tm_1 (List.mem_of_getElem? (i := 1) (by decide +kernel)), ⟨by decide, by decide⟩, by decide⟩
theorem mk_X9_dead : ZMi M_X9_dead := ⟨kk_X9_dead, tm_5 (List.mem_of_getElem? (i := 70) (by decide +kernel)), tm_5 (List.mem_of_getElem? (i := 71) (by decide +kernel))⟩
theorem kd_X9_dead : (parseMethodDescriptor M_X9_dead.1.desc).map (fun d => d.parameters.length) = some 2 := by decide +kernel
abbrev M_X9_score : ZM := (yX9_score, cX9_score, 3, (some .int))
set_option maxRecDepth 100000 in
theorem kk_X9_score : ZMk M_X9_score := ⟨tm_5 (List.mem_of_getElem? (i := 80) (by rfl)), tm_1 (List.mem_of_getElem? (i := 1) (by decide +kernel)), ⟨by decide, by decide⟩, by decide⟩
theorem mk_X9_score : ZMi M_X9_score := ⟨kk_X9_score, tm_5 (List.mem_of_getElem? (i := 78) (by decide +kernel)), tm_5 (List.mem_of_getElem? (i := 79) (by decide +kernel))⟩
theorem kd_X9_score : (parseMethodDescriptor M_X9_score.1.desc).map (fun d => d.parameters.length) = some 2 := by decide +kernel
abbrev M_X9_ahead : ZM := (yX9_ahead, cX9_ahead, 2, (some .int))
set_option maxRecDepth 100000 in
theorem kk_X9_ahead : ZMk M_X9_ahead := ⟨tm_5 (List.mem_of_getElem? (i := 125) (by rfl)), tm_1 (List.mem_of_getElem? (i := 1) (by decide +kernel)), ⟨by decide, by decide⟩, by decide⟩
theorem mk_X9_ahead : ZMi M_X9_ahead := ⟨kk_X9_ahead, tm_5 (List.mem_of_getElem? (i := 123) (by decide +kernel)), tm_5 (List.mem_of_getElem? (i := 124) (by decide +kernel))⟩
theorem kd_X9_ahead : (parseMethodDescriptor M_X9_ahead.1.desc).map (fun d => d.parameters.length) = some 1 := by decide +kernel
abbrev M_X9_clocks : ZM := (yX9_clocks, cX9_clocks, 4, (some .boolean))
set_option maxRecDepth 100000 in
theorem kk_X9_clocks : ZMk M_X9_clocks := ⟨tm_5 (List.mem_of_getElem? (i := 129) (by rfl)), tm_1 (List.mem_of_getElem? (i := 1) (by decide +kernel)), ⟨by decide, by decide⟩, by decide⟩
theorem mk_X9_clocks : ZMi M_X9_clocks := ⟨kk_X9_clocks, tm_5 (List.mem_of_getElem? (i := 127) (by decide +kernel)), tm_5 (List.mem_of_getElem? (i := 128) (by decide +kernel))⟩
theorem kd_X9_clocks : (parseMethodDescriptor M_X9_clocks.1.desc).map (fun d => d.parameters.length) = some 3 := by decide +kernel
abbrev M_X9_clock : ZM := (yX9_clock, cX9_clock, 4, (some .int))
set_option maxRecDepth 100000 in
theorem kk_X9_clock : ZMk M_X9_clock := ⟨tm_5 (List.mem_of_getElem? (i := 141) (by rfl)), tm_1 (List.mem_of_getElem? (i := 1) (by decide +kernel)), ⟨by decide, by decide⟩, by decide⟩
theorem mk_X9_clock : ZMi M_X9_clock := ⟨kk_X9_clock, tm_5 (List.mem_of_getElem? (i := 139) (by decide +kernel)), tm_5 (List.mem_of_getElem? (i := 140) (by decide +kernel))⟩
theorem kd_X9_clock : (parseMethodDescriptor M_X9_clock.1.desc).map (fun d => d.parameters.length) = some 2 := by decide +kernel
abbrev M_X9_time : ZM := (yX9_time, cX9_time, 3, (some .int))
set_option maxRecDepth 100000 in
theorem kk_X9_time : ZMk M_X9_time := ⟨tm_5 (List.mem_of_getElem? (i := 155) (by rfl)), tm_1 (List.mem_of_getElem? (i := 1) (by decide +kernel)), ⟨by decide, by decide⟩, by decide⟩
theorem mk_X9_time : ZMi M_X9_time := ⟨kk_X9_time, tm_5 (List.mem_of_getElem? (i := 153) (by decide +kernel)), tm_5 (List.mem_of_getElem? (i := 154) (by decide +kernel))⟩
theorem kd_X9_time : (parseMethodDescriptor M_X9_time.1.desc).map (fun d => d.parameters.length) = some 2 := by decide +kernel
abbrev M_X9_count : ZM := (yX9_count, cX9_count, 2, (some .int))
set_option maxRecDepth 100000 in
theorem kk_X9_count : ZMk M_X9_count := ⟨tm_5 (List.mem_of_getElem? (i := 163) (by rfl)), tm_1 (List.mem_of_getElem? (i := 1) (by decide +kernel)), ⟨by decide, by decide⟩, by decide⟩
theorem mk_X9_count : ZMi M_X9_count := ⟨kk_X9_count, tm_5 (List.mem_of_getElem? (i := 161) (by decide +kernel)), tm_5 (List.mem_of_getElem? (i := 162) (by decide +kernel))⟩
theorem kd_X9_count : (parseMethodDescriptor M_X9_count.1.desc).map (fun d => d.parameters.length) = some 1 := by decide +kernel
abbrev M_X9_isSize : ZM := (yX9_isSize, cX9_isSize, 1, (some .boolean))
set_option maxRecDepth 100000 in
theorem kk_X9_isSize : ZMk M_X9_isSize := ⟨tm_2 (List.mem_of_getElem? (i := 153) (by rfl)), tm_1 (List.mem_of_getElem? (i := 1) (by decide +kernel)), ⟨by decide, by decide⟩, by decide⟩
theorem mk_X9_isSize : ZMs M_X9_isSize := ⟨kk_X9_isSize, tm_2 (List.mem_of_getElem? (i := 152) (by decide +kernel))⟩
theorem kd_X9_isSize : (parseMethodDescriptor M_X9_isSize.1.desc).map (fun d => d.parameters.length) = some 1 := by decide +kernel
abbrev M_X9_isKomi : ZM := (yX9_isKomi, cX9_isKomi, 1, (some .boolean))
set_option maxRecDepth 100000 in
theorem kk_X9_isKomi : ZMk M_X9_isKomi := ⟨tm_3 (List.mem_of_getElem? (i := 0) (by rfl)), tm_1 (List.mem_of_getElem? (i := 1) (by decide +kernel)), ⟨by decide, by decide⟩, by decide⟩
theorem mk_X9_isKomi : ZMs M_X9_isKomi := ⟨kk_X9_isKomi, tm_2 (List.mem_of_getElem? (i := 239) (by decide +kernel))⟩
theorem kd_X9_isKomi : (parseMethodDescriptor M_X9_isKomi.1.desc).map (fun d => d.parameters.length) = some 1 := by decide +kernel
abbrev M_X9_isColour : ZM := (yX9_isColour, cX9_isColour, 1, (some .boolean))
set_option maxRecDepth 100000 in
theorem kk_X9_isColour : ZMk M_X9_isColour := ⟨tm_4 (List.mem_of_getElem? (i := 226) (by rfl)), tm_1 (List.mem_of_getElem? (i := 1) (by decide +kernel)), ⟨by decide, by decide⟩, by decide⟩
theorem mk_X9_isColour : ZMs M_X9_isColour := ⟨kk_X9_isColour, tm_4 (List.mem_of_getElem? (i := 225) (by decide +kernel))⟩
theorem kd_X9_isColour : (parseMethodDescriptor M_X9_isColour.1.desc).map (fun d => d.parameters.length) = some 1 := by decide +kernel
abbrev M_X9_isSeconds : ZM := (yX9_isSeconds, cX9_isSeconds, 1, (some .boolean))
set_option maxRecDepth 100000 in
theorem kk_X9_isSeconds : ZMk M_X9_isSeconds := ⟨tm_5 (List.mem_of_getElem? (i := 132) (by rfl)), tm_1 (List.mem_of_getElem? (i := 1) (by decide +kernel)), ⟨by decide, by decide⟩, by decide⟩
theorem mk_X9_isSeconds : ZMs M_X9_isSeconds := ⟨kk_X9_isSeconds, tm_5 (List.mem_of_getElem? (i := 131) (by decide +kernel))⟩
theorem kd_X9_isSeconds : (parseMethodDescriptor M_X9_isSeconds.1.desc).map (fun d => d.parameters.length) = some 1 := by decide +kernel
abbrev M_X9_otherColour : ZM := (yX9_otherColour, cX9_otherColour, 1, (some .int))
set_option maxRecDepth 100000 in
theorem kk_X9_otherColour : ZMk M_X9_otherColour := ⟨tm_3 (List.mem_of_getElem? (i := 176) (by rfl)), tm_1 (List.mem_of_getElem? (i := 1) (by decide +kernel)), ⟨by decide, by decide⟩, by decide⟩
theorem mk_X9_otherColour : ZMs M_X9_otherColour := ⟨kk_X9_otherColour, tm_3 (List.mem_of_getElem? (i := 175) (by decide +kernel))⟩
theorem kd_X9_otherColour : (parseMethodDescriptor M_X9_otherColour.1.desc).map (fun d => d.parameters.length) = some 1 := by decide +kernel
abbrev M_X9_pairAt : ZM := (yX9_pairAt, cX9_pairAt, 4, (some .int))
set_option maxRecDepth 100000 in
theorem kk_X9_pairAt : ZMk M_X9_pairAt := ⟨tm_2 (List.mem_of_getElem? (i := 185) (by rfl)), tm_1 (List.mem_of_getElem? (i := 1) (by decide +kernel)), ⟨by decide, by decide⟩, by decide⟩
theorem mk_X9_pairAt : ZMs M_X9_pairAt := ⟨kk_X9_pairAt, tm_2 (List.mem_of_getElem? (i := 184) (by decide +kernel))⟩
theorem kd_X9_pairAt : (parseMethodDescriptor M_X9_pairAt.1.desc).map (fun d => d.parameters.length) = some 3 := by decide +kernel
abbrev M_X9_clockOf : ZM := (yX9_clockOf, cX9_clockOf, 2, (some (.object "StoneRoom$Clock")))
set_option maxRecDepth 100000 in
theorem kk_X9_clockOf : ZMk M_X9_clockOf := ⟨tm_5 (List.mem_of_getElem? (i := 145) (by rfl)), tm_1 (List.mem_of_getElem? (i := 1) (by decide +kernel)), ⟨by decide, by decide⟩, by decide⟩
theorem mk_X9_clockOf : ZMi M_X9_clockOf := ⟨kk_X9_clockOf, tm_5 (List.mem_of_getElem? (i := 144) (by decide +kernel)), List.mem_of_getElem? (i := 106) (by decide +kernel)⟩
theorem kd_X9_clockOf : (parseMethodDescriptor M_X9_clockOf.1.desc).map (fun d => d.parameters.length) = some 1 := by decide +kernel
abbrev M_X9_startGame : ZM := (yX9_startGame, cX9_startGame, 3, none)
set_option maxRecDepth 100000 in
theorem kk_X9_startGame : ZMk M_X9_startGame := ⟨tm_2 (List.mem_of_getElem? (i := 139) (by rfl)), tm_1 (List.mem_of_getElem? (i := 1) (by decide +kernel)), ⟨by decide, by decide⟩, by decide⟩
theorem mk_X9_startGame : ZMi M_X9_startGame := ⟨kk_X9_startGame, tm_2 (List.mem_of_getElem? (i := 138) (by decide +kernel)), List.mem_of_getElem? (i := 0) (by decide +kernel)⟩
theorem kd_X9_startGame : (parseMethodDescriptor M_X9_startGame.1.desc).map (fun d => d.parameters.length) = some 2 := by decide +kernel
abbrev M_X9_moveTo : ZM := (yX9_moveTo, cX9_moveTo, 2, none)
set_option maxRecDepth 100000 in
theorem kk_X9_moveTo : ZMk M_X9_moveTo := ⟨tm_2 (List.mem_of_getElem? (i := 177) (by rfl)), tm_1 (List.mem_of_getElem? (i := 1) (by decide +kernel)), ⟨by decide, by decide⟩, by decide⟩
theorem mk_X9_moveTo : ZMi M_X9_moveTo := ⟨kk_X9_moveTo, tm_2 (List.mem_of_getElem? (i := 176) (by decide +kernel)), List.mem_of_getElem? (i := 8) (by decide +kernel)⟩
theorem kd_X9_moveTo : (parseMethodDescriptor M_X9_moveTo.1.desc).map (fun d => d.parameters.length) = some 1 := by decide +kernel
abbrev M_X9_statusOf : ZM := (yX9_statusOf, cX9_statusOf, 4, (some .int))
set_option maxRecDepth 100000 in
theorem kk_X9_statusOf : ZMk M_X9_statusOf := ⟨tm_4 (List.mem_of_getElem? (i := 86) (by rfl)), tm_1 (List.mem_of_getElem? (i := 1) (by decide +kernel)), ⟨by decide, by decide⟩, by decide⟩
theorem mk_X9_statusOf : ZMi M_X9_statusOf := ⟨kk_X9_statusOf, tm_4 (List.mem_of_getElem? (i := 85) (by decide +kernel)), List.mem_of_getElem? (i := 62) (by decide +kernel)⟩
theorem kd_X9_statusOf : (parseMethodDescriptor M_X9_statusOf.1.desc).map (fun d => d.parameters.length) = some 1 := by decide +kernel
abbrev M_X9_boardStatus : ZM := (yX9_boardStatus, cX9_boardStatus, 3, (some .int))
set_option maxRecDepth 100000 in
theorem kk_X9_boardStatus : ZMk M_X9_boardStatus := ⟨tm_4 (List.mem_of_getElem? (i := 91) (by rfl)), tm_1 (List.mem_of_getElem? (i := 1) (by decide +kernel)), ⟨by decide, by decide⟩, by decide⟩
theorem mk_X9_boardStatus : ZMi M_X9_boardStatus := ⟨kk_X9_boardStatus, tm_4 (List.mem_of_getElem? (i := 90) (by decide +kernel)), List.mem_of_getElem? (i := 63) (by decide +kernel)⟩
theorem kd_X9_boardStatus : (parseMethodDescriptor M_X9_boardStatus.1.desc).map (fun d => d.parameters.length) = some 2 := by decide +kernel
abbrev M_X9_scoreOf : ZM := (yX9_scoreOf, cX9_scoreOf, 4, (some .int))
set_option maxRecDepth 100000 in
theorem kk_X9_scoreOf : ZMk M_X9_scoreOf := ⟨tm_5 (List.mem_of_getElem? (i := 84) (by rfl)), tm_1 (List.mem_of_getElem? (i := 1) (by decide +kernel)), ⟨by decide, by decide⟩, by decide⟩
theorem mk_X9_scoreOf : ZMi M_X9_scoreOf := ⟨kk_X9_scoreOf, tm_5 (List.mem_of_getElem? (i := 83) (by decide +kernel)), List.mem_of_getElem? (i := 97) (by decide +kernel)⟩
theorem kd_X9_scoreOf : (parseMethodDescriptor M_X9_scoreOf.1.desc).map (fun d => d.parameters.length) = some 2 := by decide +kernel
abbrev M_X10_init : ZM := (yX10_init, cX10_init, 1, none)
set_option maxRecDepth 100000 in
theorem kk_X10_init : ZMk M_X10_init := ⟨tm_5 (List.mem_of_getElem? (i := 173) (by rfl)), tm_1 (List.mem_of_getElem? (i := 13) (by decide +kernel)), ⟨by decide, by decide⟩, by decide⟩
theorem mk_X10_init : ZMc M_X10_init := ⟨kk_X10_init, tm_5 (List.mem_of_getElem? (i := 172) (by decide +kernel)), rfl, rfl⟩
theorem kd_X10_init : (parseMethodDescriptor M_X10_init.1.desc).map (fun d => d.parameters.length) = some 0 := by decide +kernel
abbrev M_X10_empties : ZM := (yX10_empties, cX10_empties, 4, none)
set_option maxRecDepth 100000 in
theorem kk_X10_empties : ZMk M_X10_empties := ⟨tm_5 (List.mem_of_getElem? (i := 180) (by rfl)), tm_1 (List.mem_of_getElem? (i := 13) (by decide +kernel)), ⟨by decide, by decide⟩, by decide⟩
theorem mk_X10_empties : ZMi M_X10_empties := ⟨kk_X10_empties, tm_5 (List.mem_of_getElem? (i := 179) (by decide +kernel)), List.mem_of_getElem? (i := 110) (by decide +kernel)⟩
theorem kd_X10_empties : (parseMethodDescriptor M_X10_empties.1.desc).map (fun d => d.parameters.length) = some 3 := by decide +kernel
abbrev M_X10_opens : ZM := (yX10_opens, cX10_opens, 3, none)
set_option maxRecDepth 100000 in
theorem kk_X10_opens : ZMk M_X10_opens := ⟨tm_5 (List.mem_of_getElem? (i := 184) (by rfl)), tm_1 (List.mem_of_getElem? (i := 13) (by decide +kernel)), ⟨by decide, by decide⟩, by decide⟩
theorem mk_X10_opens : ZMi M_X10_opens := ⟨kk_X10_opens, tm_5 (List.mem_of_getElem? (i := 183) (by decide +kernel)), List.mem_of_getElem? (i := 111) (by decide +kernel)⟩
theorem kd_X10_opens : (parseMethodDescriptor M_X10_opens.1.desc).map (fun d => d.parameters.length) = some 1 := by decide +kernel
abbrev M_X10_comes : ZM := (yX10_comes, cX10_comes, 5, (some .int))
set_option maxRecDepth 100000 in
theorem kk_X10_comes : ZMk M_X10_comes := ⟨tm_5 (List.mem_of_getElem? (i := 188) (by rfl)), tm_1 (List.mem_of_getElem? (i := 13) (by decide +kernel)), ⟨by decide, by decide⟩, by decide⟩
theorem mk_X10_comes : ZMi M_X10_comes := ⟨kk_X10_comes, tm_5 (List.mem_of_getElem? (i := 187) (by decide +kernel)), List.mem_of_getElem? (i := 112) (by decide +kernel)⟩
theorem kd_X10_comes : (parseMethodDescriptor M_X10_comes.1.desc).map (fun d => d.parameters.length) = some 2 := by decide +kernel
abbrev M_X10_load : ZM := (yX10_load, cX10_load, 3, none)
set_option maxRecDepth 100000 in
theorem kk_X10_load : ZMk M_X10_load := ⟨tm_5 (List.mem_of_getElem? (i := 196) (by rfl)), tm_1 (List.mem_of_getElem? (i := 13) (by decide +kernel)), ⟨by decide, by decide⟩, by decide⟩
theorem mk_X10_load : ZMi M_X10_load := ⟨kk_X10_load, tm_5 (List.mem_of_getElem? (i := 195) (by decide +kernel)), List.mem_of_getElem? (i := 114) (by decide +kernel)⟩
theorem kd_X10_load : (parseMethodDescriptor M_X10_load.1.desc).map (fun d => d.parameters.length) = some 1 := by decide +kernel
abbrev M_X10_keep : ZM := (yX10_keep, cX10_keep, 3, none)
set_option maxRecDepth 100000 in
theorem kk_X10_keep : ZMk M_X10_keep := ⟨tm_5 (List.mem_of_getElem? (i := 200) (by rfl)), tm_1 (List.mem_of_getElem? (i := 13) (by decide +kernel)), ⟨by decide, by decide⟩, by decide⟩
theorem mk_X10_keep : ZMi M_X10_keep := ⟨kk_X10_keep, tm_5 (List.mem_of_getElem? (i := 199) (by decide +kernel)), List.mem_of_getElem? (i := 115) (by decide +kernel)⟩
theorem kd_X10_keep : (parseMethodDescriptor M_X10_keep.1.desc).map (fun d => d.parameters.length) = some 1 := by decide +kernel
abbrev M_X10_settles : ZM := (yX10_settles, cX10_settles, 4, none)
set_option maxRecDepth 100000 in
theorem kk_X10_settles : ZMk M_X10_settles := ⟨tm_5 (List.mem_of_getElem? (i := 192) (by rfl)), tm_1 (List.mem_of_getElem? (i := 13) (by decide +kernel)), ⟨by decide, by decide⟩, by decide⟩
theorem mk_X10_settles : ZMi M_X10_settles := ⟨kk_X10_settles, tm_5 (List.mem_of_getElem? (i := 191) (by decide +kernel)), List.mem_of_getElem? (i := 113) (by decide +kernel)⟩
theorem kd_X10_settles : (parseMethodDescriptor M_X10_settles.1.desc).map (fun d => d.parameters.length) = some 2 := by decide +kernel
abbrev M_X10_beside : ZM := (yX10_beside, cX10_beside, 5, (some .int))
set_option maxRecDepth 100000 in
theorem kk_X10_beside : ZMk M_X10_beside := ⟨tm_6 (List.mem_of_getElem? (i := 153) (by rfl)), tm_1 (List.mem_of_getElem? (i := 13) (by decide +kernel)), ⟨by decide, by decide⟩, by decide⟩
theorem mk_X10_beside : ZMi M_X10_beside := ⟨kk_X10_beside, tm_6 (List.mem_of_getElem? (i := 152) (by decide +kernel)), List.mem_of_getElem? (i := 121) (by decide +kernel)⟩
theorem kd_X10_beside : (parseMethodDescriptor M_X10_beside.1.desc).map (fun d => d.parameters.length) = some 2 := by decide +kernel
abbrev M_X10_flood : ZM := (yX10_flood, cX10_flood, 8, (some .int))
set_option maxRecDepth 100000 in
theorem kk_X10_flood : ZMk M_X10_flood := ⟨tm_6 (List.mem_of_getElem? (i := 157) (by rfl)), tm_1 (List.mem_of_getElem? (i := 13) (by decide +kernel)), ⟨by decide, by decide⟩, by decide⟩
theorem mk_X10_flood : ZMi M_X10_flood := ⟨kk_X10_flood, tm_6 (List.mem_of_getElem? (i := 156) (by decide +kernel)), List.mem_of_getElem? (i := 122) (by decide +kernel)⟩
theorem kd_X10_flood : (parseMethodDescriptor M_X10_flood.1.desc).map (fun d => d.parameters.length) = some 1 := by decide +kernel
abbrev M_X10_takes : ZM := (yX10_takes, cX10_takes, 3, (some .int))
set_option maxRecDepth 100000 in
theorem kk_X10_takes : ZMk M_X10_takes := ⟨tm_6 (List.mem_of_getElem? (i := 161) (by rfl)), tm_1 (List.mem_of_getElem? (i := 13) (by decide +kernel)), ⟨by decide, by decide⟩, by decide⟩
theorem mk_X10_takes : ZMi M_X10_takes := ⟨kk_X10_takes, tm_6 (List.mem_of_getElem? (i := 160) (by decide +kernel)), List.mem_of_getElem? (i := 123) (by decide +kernel)⟩
theorem kd_X10_takes : (parseMethodDescriptor M_X10_takes.1.desc).map (fun d => d.parameters.length) = some 0 := by decide +kernel
abbrev M_X10_put : ZM := (yX10_put, cX10_put, 5, (some .boolean))
set_option maxRecDepth 100000 in
theorem kk_X10_put : ZMk M_X10_put := ⟨tm_6 (List.mem_of_getElem? (i := 149) (by rfl)), tm_1 (List.mem_of_getElem? (i := 13) (by decide +kernel)), ⟨by decide, by decide⟩, by decide⟩
theorem mk_X10_put : ZMi M_X10_put := ⟨kk_X10_put, tm_6 (List.mem_of_getElem? (i := 148) (by decide +kernel)), List.mem_of_getElem? (i := 120) (by decide +kernel)⟩
theorem kd_X10_put : (parseMethodDescriptor M_X10_put.1.desc).map (fun d => d.parameters.length) = some 2 := by decide +kernel
abbrev M_X10_isBoard : ZM := (yX10_isBoard, cX10_isBoard, 3, (some .boolean))
set_option maxRecDepth 100000 in
theorem kk_X10_isBoard : ZMk M_X10_isBoard := ⟨tm_6 (List.mem_of_getElem? (i := 169) (by rfl)), tm_1 (List.mem_of_getElem? (i := 13) (by decide +kernel)), ⟨by decide, by decide⟩, by decide⟩
theorem mk_X10_isBoard : ZMi M_X10_isBoard := ⟨kk_X10_isBoard, tm_6 (List.mem_of_getElem? (i := 168) (by decide +kernel)), List.mem_of_getElem? (i := 125) (by decide +kernel)⟩
theorem kd_X10_isBoard : (parseMethodDescriptor M_X10_isBoard.1.desc).map (fun d => d.parameters.length) = some 1 := by decide +kernel
abbrev M_X10_turn : ZM := (yX10_turn, cX10_turn, 6, (some .int))
set_option maxRecDepth 100000 in
theorem kk_X10_turn : ZMk M_X10_turn := ⟨tm_6 (List.mem_of_getElem? (i := 141) (by rfl)), tm_1 (List.mem_of_getElem? (i := 13) (by decide +kernel)), ⟨by decide, by decide⟩, by decide⟩
theorem mk_X10_turn : ZMi M_X10_turn := ⟨kk_X10_turn, tm_6 (List.mem_of_getElem? (i := 140) (by decide +kernel)), List.mem_of_getElem? (i := 118) (by decide +kernel)⟩
theorem kd_X10_turn : (parseMethodDescriptor M_X10_turn.1.desc).map (fun d => d.parameters.length) = some 1 := by decide +kernel
abbrev M_X10_isBarred : ZM := (yX10_isBarred, cX10_isBarred, 4, (some .boolean))
set_option maxRecDepth 100000 in
theorem kk_X10_isBarred : ZMk M_X10_isBarred := ⟨tm_6 (List.mem_of_getElem? (i := 165) (by rfl)), tm_1 (List.mem_of_getElem? (i := 13) (by decide +kernel)), ⟨by decide, by decide⟩, by decide⟩
theorem mk_X10_isBarred : ZMi M_X10_isBarred := ⟨kk_X10_isBarred, tm_6 (List.mem_of_getElem? (i := 164) (by decide +kernel)), List.mem_of_getElem? (i := 124) (by decide +kernel)⟩
theorem kd_X10_isBarred : (parseMethodDescriptor M_X10_isBarred.1.desc).map (fun d => d.parameters.length) = some 2 := by decide +kernel
abbrev M_X10_why : ZM := (yX10_why, cX10_why, 4, (some .int))
set_option maxRecDepth 100000 in
theorem kk_X10_why : ZMk M_X10_why := ⟨tm_6 (List.mem_of_getElem? (i := 145) (by rfl)), tm_1 (List.mem_of_getElem? (i := 13) (by decide +kernel)), ⟨by decide, by decide⟩, by decide⟩
theorem mk_X10_why : ZMi M_X10_why := ⟨kk_X10_why, tm_6 (List.mem_of_getElem? (i := 144) (by decide +kernel)), List.mem_of_getElem? (i := 119) (by decide +kernel)⟩
theorem kd_X10_why : (parseMethodDescriptor M_X10_why.1.desc).map (fun d => d.parameters.length) = some 3 := by decide +kernel
abbrev M_X10_isOver : ZM := (yX10_isOver, cX10_isOver, 2, (some .boolean))
set_option maxRecDepth 100000 in
theorem kk_X10_isOver : ZMk M_X10_isOver := ⟨tm_6 (List.mem_of_getElem? (i := 173) (by rfl)), tm_1 (List.mem_of_getElem? (i := 13) (by decide +kernel)), ⟨by decide, by decide⟩, by decide⟩
theorem mk_X10_isOver : ZMi M_X10_isOver := ⟨kk_X10_isOver, tm_6 (List.mem_of_getElem? (i := 172) (by decide +kernel)), List.mem_of_getElem? (i := 126) (by decide +kernel)⟩
theorem kd_X10_isOver : (parseMethodDescriptor M_X10_isOver.1.desc).map (fun d => d.parameters.length) = some 1 := by decide +kernel
abbrev M_X10_child : ZM := (yX10_child, cX10_child, 6, (some .int))
set_option maxRecDepth 100000 in
theorem kk_X10_child : ZMk M_X10_child := ⟨tm_6 (List.mem_of_getElem? (i := 177) (by rfl)), tm_1 (List.mem_of_getElem? (i := 13) (by decide +kernel)), ⟨by decide, by decide⟩, by decide⟩
theorem mk_X10_child : ZMi M_X10_child := ⟨kk_X10_child, tm_6 (List.mem_of_getElem? (i := 176) (by decide +kernel)), List.mem_of_getElem? (i := 127) (by decide +kernel)⟩
theorem kd_X10_child : (parseMethodDescriptor M_X10_child.1.desc).map (fun d => d.parameters.length) = some 3 := by decide +kernel
abbrev M_X10_status : ZM := (yX10_status, cX10_status, 4, (some .int))
set_option maxRecDepth 100000 in
theorem kk_X10_status : ZMk M_X10_status := ⟨tm_6 (List.mem_of_getElem? (i := 137) (by rfl)), tm_1 (List.mem_of_getElem? (i := 13) (by decide +kernel)), ⟨by decide, by decide⟩, by decide⟩
theorem mk_X10_status : ZMi M_X10_status := ⟨kk_X10_status, tm_6 (List.mem_of_getElem? (i := 136) (by decide +kernel)), List.mem_of_getElem? (i := 117) (by decide +kernel)⟩
theorem kd_X10_status : (parseMethodDescriptor M_X10_status.1.desc).map (fun d => d.parameters.length) = some 1 := by decide +kernel
abbrev M_X10_begin : ZM := (yX10_begin, cX10_begin, 3, (some .boolean))
set_option maxRecDepth 100000 in
theorem kk_X10_begin : ZMk M_X10_begin := ⟨tm_6 (List.mem_of_getElem? (i := 121) (by rfl)), tm_1 (List.mem_of_getElem? (i := 13) (by decide +kernel)), ⟨by decide, by decide⟩, by decide⟩
theorem mk_X10_begin : ZMi M_X10_begin := ⟨kk_X10_begin, tm_6 (List.mem_of_getElem? (i := 119) (by decide +kernel)), tm_6 (List.mem_of_getElem? (i := 120) (by decide +kernel))⟩
theorem kd_X10_begin : (parseMethodDescriptor M_X10_begin.1.desc).map (fun d => d.parameters.length) = some 2 := by decide +kernel
abbrev M_X10_ko : ZM := (yX10_ko, cX10_ko, 3, (some .int))
set_option maxRecDepth 100000 in
theorem kk_X10_ko : ZMk M_X10_ko := ⟨tm_6 (List.mem_of_getElem? (i := 129) (by rfl)), tm_1 (List.mem_of_getElem? (i := 13) (by decide +kernel)), ⟨by decide, by decide⟩, by decide⟩
theorem mk_X10_ko : ZMi M_X10_ko := ⟨kk_X10_ko, tm_6 (List.mem_of_getElem? (i := 127) (by decide +kernel)), tm_6 (List.mem_of_getElem? (i := 128) (by decide +kernel))⟩
theorem kd_X10_ko : (parseMethodDescriptor M_X10_ko.1.desc).map (fun d => d.parameters.length) = some 1 := by decide +kernel
abbrev M_X10_let : ZM := (yX10_let, cX10_let, 2, (some .int))
set_option maxRecDepth 100000 in
theorem kk_X10_let : ZMk M_X10_let := ⟨tm_6 (List.mem_of_getElem? (i := 133) (by rfl)), tm_1 (List.mem_of_getElem? (i := 13) (by decide +kernel)), ⟨by decide, by decide⟩, by decide⟩
theorem mk_X10_let : ZMi M_X10_let := ⟨kk_X10_let, tm_6 (List.mem_of_getElem? (i := 131) (by decide +kernel)), tm_6 (List.mem_of_getElem? (i := 132) (by decide +kernel))⟩
theorem kd_X10_let : (parseMethodDescriptor M_X10_let.1.desc).map (fun d => d.parameters.length) = some 1 := by decide +kernel
abbrev M_X10_play : ZM := (yX10_play, cX10_play, 5, (some .int))
set_option maxRecDepth 100000 in
theorem kk_X10_play : ZMk M_X10_play := ⟨tm_6 (List.mem_of_getElem? (i := 181) (by rfl)), tm_1 (List.mem_of_getElem? (i := 13) (by decide +kernel)), ⟨by decide, by decide⟩, by decide⟩
theorem mk_X10_play : ZMi M_X10_play := ⟨kk_X10_play, tm_6 (List.mem_of_getElem? (i := 179) (by decide +kernel)), tm_6 (List.mem_of_getElem? (i := 180) (by decide +kernel))⟩
theorem kd_X10_play : (parseMethodDescriptor M_X10_play.1.desc).map (fun d => d.parameters.length) = some 1 := by decide +kernel
abbrev M_X10_moves : ZM := (yX10_moves, cX10_moves, 5, none)
set_option maxRecDepth 100000 in
theorem kk_X10_moves : ZMk M_X10_moves := ⟨tm_6 (List.mem_of_getElem? (i := 185) (by rfl)), tm_1 (List.mem_of_getElem? (i := 13) (by decide +kernel)), ⟨by decide, by decide⟩, by decide⟩
theorem mk_X10_moves : ZMi M_X10_moves := ⟨kk_X10_moves, tm_6 (List.mem_of_getElem? (i := 184) (by decide +kernel)), List.mem_of_getElem? (i := 128) (by decide +kernel)⟩
theorem kd_X10_moves : (parseMethodDescriptor M_X10_moves.1.desc).map (fun d => d.parameters.length) = some 3 := by decide +kernel
abbrev M_X10_back : ZM := (yX10_back, cX10_back, 3, (some .int))
set_option maxRecDepth 100000 in
theorem kk_X10_back : ZMk M_X10_back := ⟨tm_6 (List.mem_of_getElem? (i := 189) (by rfl)), tm_1 (List.mem_of_getElem? (i := 13) (by decide +kernel)), ⟨by decide, by decide⟩, by decide⟩
theorem mk_X10_back : ZMi M_X10_back := ⟨kk_X10_back, tm_6 (List.mem_of_getElem? (i := 187) (by decide +kernel)), tm_6 (List.mem_of_getElem? (i := 188) (by decide +kernel))⟩
theorem kd_X10_back : (parseMethodDescriptor M_X10_back.1.desc).map (fun d => d.parameters.length) = some 1 := by decide +kernel
abbrev M_X10_on : ZM := (yX10_on, cX10_on, 4, (some .boolean))
set_option maxRecDepth 100000 in
theorem kk_X10_on : ZMk M_X10_on := ⟨tm_6 (List.mem_of_getElem? (i := 193) (by rfl)), tm_1 (List.mem_of_getElem? (i := 13) (by decide +kernel)), ⟨by decide, by decide⟩, by decide⟩
theorem mk_X10_on : ZMi M_X10_on := ⟨kk_X10_on, tm_6 (List.mem_of_getElem? (i := 191) (by decide +kernel)), tm_6 (List.mem_of_getElem? (i := 192) (by decide +kernel))⟩
theorem kd_X10_on : (parseMethodDescriptor M_X10_on.1.desc).map (fun d => d.parameters.length) = some 1 := by decide +kernel
abbrev M_X10_to : ZM := (yX10_to, cX10_to, 2, (some .boolean))
set_option maxRecDepth 100000 in
theorem kk_X10_to : ZMk M_X10_to := ⟨tm_6 (List.mem_of_getElem? (i := 197) (by rfl)), tm_1 (List.mem_of_getElem? (i := 13) (by decide +kernel)), ⟨by decide, by decide⟩, by decide⟩
theorem mk_X10_to : ZMi M_X10_to := ⟨kk_X10_to, tm_6 (List.mem_of_getElem? (i := 195) (by decide +kernel)), tm_6 (List.mem_of_getElem? (i := 196) (by decide +kernel))⟩
theorem kd_X10_to : (parseMethodDescriptor M_X10_to.1.desc).map (fun d => d.parameters.length) = some 1 := by decide +kernel
abbrev M_X10_node : ZM := (yX10_node, cX10_node, 6, (some .int))
set_option maxRecDepth 100000 in
theorem kk_X10_node : ZMk M_X10_node := ⟨tm_6 (List.mem_of_getElem? (i := 201) (by rfl)), tm_1 (List.mem_of_getElem? (i := 13) (by decide +kernel)), ⟨by decide, by decide⟩, by decide⟩
theorem mk_X10_node : ZMi M_X10_node := ⟨kk_X10_node, tm_6 (List.mem_of_getElem? (i := 199) (by decide +kernel)), tm_6 (List.mem_of_getElem? (i := 200) (by decide +kernel))⟩
theorem kd_X10_node : (parseMethodDescriptor M_X10_node.1.desc).map (fun d => d.parameters.length) = some 2 := by decide +kernel
abbrev M_X10_four : ZM := (yX10_four, cX10_four, 3, none)
set_option maxRecDepth 100000 in
theorem kk_X10_four : ZMk M_X10_four := ⟨tm_6 (List.mem_of_getElem? (i := 209) (by rfl)), tm_1 (List.mem_of_getElem? (i := 13) (by decide +kernel)), ⟨by decide, by decide⟩, by decide⟩
theorem mk_X10_four : ZMi M_X10_four := ⟨kk_X10_four, tm_6 (List.mem_of_getElem? (i := 208) (by decide +kernel)), List.mem_of_getElem? (i := 129) (by decide +kernel)⟩
theorem kd_X10_four : (parseMethodDescriptor M_X10_four.1.desc).map (fun d => d.parameters.length) = some 1 := by decide +kernel
abbrev M_X10_feed : ZM := (yX10_feed, cX10_feed, 6, (some .int))
set_option maxRecDepth 100000 in
theorem kk_X10_feed : ZMk M_X10_feed := ⟨tm_6 (List.mem_of_getElem? (i := 205) (by rfl)), tm_1 (List.mem_of_getElem? (i := 13) (by decide +kernel)), ⟨by decide, by decide⟩, by decide⟩
theorem mk_X10_feed : ZMi M_X10_feed := ⟨kk_X10_feed, tm_6 (List.mem_of_getElem? (i := 203) (by decide +kernel)), tm_6 (List.mem_of_getElem? (i := 204) (by decide +kernel))⟩
theorem kd_X10_feed : (parseMethodDescriptor M_X10_feed.1.desc).map (fun d => d.parameters.length) = some 5 := by decide +kernel
abbrev M_X10_end : ZM := (yX10_end, cX10_end, 2, (some .int))
set_option maxRecDepth 100000 in
theorem kk_X10_end : ZMk M_X10_end := ⟨tm_6 (List.mem_of_getElem? (i := 213) (by rfl)), tm_1 (List.mem_of_getElem? (i := 13) (by decide +kernel)), ⟨by decide, by decide⟩, by decide⟩
theorem mk_X10_end : ZMi M_X10_end := ⟨kk_X10_end, tm_6 (List.mem_of_getElem? (i := 211) (by decide +kernel)), tm_6 (List.mem_of_getElem? (i := 212) (by decide +kernel))⟩
theorem kd_X10_end : (parseMethodDescriptor M_X10_end.1.desc).map (fun d => d.parameters.length) = some 1 := by decide +kernel
abbrev M_X10_place : ZM := (yX10_place, cX10_place, 1, (some .int))
set_option maxRecDepth 100000 in
theorem kk_X10_place : ZMk M_X10_place := ⟨tm_6 (List.mem_of_getElem? (i := 217) (by rfl)), tm_1 (List.mem_of_getElem? (i := 13) (by decide +kernel)), ⟨by decide, by decide⟩, by decide⟩
theorem mk_X10_place : ZMi M_X10_place := ⟨kk_X10_place, tm_6 (List.mem_of_getElem? (i := 215) (by decide +kernel)), tm_6 (List.mem_of_getElem? (i := 216) (by decide +kernel))⟩
theorem kd_X10_place : (parseMethodDescriptor M_X10_place.1.desc).map (fun d => d.parameters.length) = some 0 := by decide +kernel
abbrev M_X10_see : ZM := (yX10_see, cX10_see, 1, (some .int))
set_option maxRecDepth 100000 in
theorem kk_X10_see : ZMk M_X10_see := ⟨tm_6 (List.mem_of_getElem? (i := 233) (by rfl)), tm_1 (List.mem_of_getElem? (i := 13) (by decide +kernel)), ⟨by decide, by decide⟩, by decide⟩
theorem mk_X10_see : ZMi M_X10_see := ⟨kk_X10_see, tm_6 (List.mem_of_getElem? (i := 232) (by decide +kernel)), List.mem_of_getElem? (i := 132) (by decide +kernel)⟩
theorem kd_X10_see : (parseMethodDescriptor M_X10_see.1.desc).map (fun d => d.parameters.length) = some 0 := by decide +kernel
abbrev M_X10_blanks : ZM := (yX10_blanks, cX10_blanks, 1, none)
set_option maxRecDepth 100000 in
theorem kk_X10_blanks : ZMk M_X10_blanks := ⟨tm_6 (List.mem_of_getElem? (i := 229) (by rfl)), tm_1 (List.mem_of_getElem? (i := 13) (by decide +kernel)), ⟨by decide, by decide⟩, by decide⟩
theorem mk_X10_blanks : ZMi M_X10_blanks := ⟨kk_X10_blanks, tm_6 (List.mem_of_getElem? (i := 228) (by decide +kernel)), List.mem_of_getElem? (i := 131) (by decide +kernel)⟩
theorem kd_X10_blanks : (parseMethodDescriptor M_X10_blanks.1.desc).map (fun d => d.parameters.length) = some 0 := by decide +kernel
abbrev M_X10_fault : ZM := (yX10_fault, cX10_fault, 3, (some .boolean))
set_option maxRecDepth 100000 in
theorem kk_X10_fault : ZMk M_X10_fault := ⟨tm_6 (List.mem_of_getElem? (i := 237) (by rfl)), tm_1 (List.mem_of_getElem? (i := 13) (by decide +kernel)), ⟨by decide, by decide⟩, by decide⟩
theorem mk_X10_fault : ZMi M_X10_fault := ⟨kk_X10_fault, tm_6 (List.mem_of_getElem? (i := 236) (by decide +kernel)), List.mem_of_getElem? (i := 133) (by decide +kernel)⟩
theorem kd_X10_fault : (parseMethodDescriptor M_X10_fault.1.desc).map (fun d => d.parameters.length) = some 2 := by decide +kernel
abbrev M_X10_read : ZM := (yX10_read, cX10_read, 2, (some .int))
set_option maxRecDepth 100000 in
theorem kk_X10_read : ZMk M_X10_read := ⟨tm_6 (List.mem_of_getElem? (i := 221) (by rfl)), tm_1 (List.mem_of_getElem? (i := 13) (by decide +kernel)), ⟨by decide, by decide⟩, by decide⟩
theorem mk_X10_read : ZMi M_X10_read := ⟨kk_X10_read, tm_6 (List.mem_of_getElem? (i := 219) (by decide +kernel)), tm_6 (List.mem_of_getElem? (i := 220) (by decide +kernel))⟩
theorem kd_X10_read : (parseMethodDescriptor M_X10_read.1.desc).map (fun d => d.parameters.length) = some 0 := by decide +kernel
abbrev M_X10_trees : ZM := (yX10_trees, cX10_trees, 4, (some .boolean))
set_option maxRecDepth 100000 in
theorem kk_X10_trees : ZMk M_X10_trees := ⟨tm_6 (List.mem_of_getElem? (i := 225) (by rfl)), tm_1 (List.mem_of_getElem? (i := 13) (by decide +kernel)), ⟨by decide, by decide⟩, by decide⟩
theorem mk_X10_trees : ZMi M_X10_trees := ⟨kk_X10_trees, tm_6 (List.mem_of_getElem? (i := 224) (by decide +kernel)), List.mem_of_getElem? (i := 130) (by decide +kernel)⟩
theorem kd_X10_trees : (parseMethodDescriptor M_X10_trees.1.desc).map (fun d => d.parameters.length) = some 0 := by decide +kernel
abbrev M_X10_aNode : ZM := (yX10_aNode, cX10_aNode, 4, (some .boolean))
set_option maxRecDepth 100000 in
theorem kk_X10_aNode : ZMk M_X10_aNode := ⟨tm_7 (List.mem_of_getElem? (i := 1) (by rfl)), tm_1 (List.mem_of_getElem? (i := 13) (by decide +kernel)), ⟨by decide, by decide⟩, by decide⟩
theorem mk_X10_aNode : ZMi M_X10_aNode := ⟨kk_X10_aNode, tm_7 (List.mem_of_getElem? (i := 0) (by decide +kernel)), List.mem_of_getElem? (i := 134) (by decide +kernel)⟩
theorem kd_X10_aNode : (parseMethodDescriptor M_X10_aNode.1.desc).map (fun d => d.parameters.length) = some 0 := by decide +kernel
abbrev M_X10_isName : ZM := (yX10_isName, cX10_isName, 4, (some .boolean))
set_option maxRecDepth 100000 in
theorem kk_X10_isName : ZMk M_X10_isName := ⟨tm_7 (List.mem_of_getElem? (i := 13) (by rfl)), tm_1 (List.mem_of_getElem? (i := 13) (by decide +kernel)), ⟨by decide, by decide⟩, by decide⟩
theorem mk_X10_isName : ZMi M_X10_isName := ⟨kk_X10_isName, tm_7 (List.mem_of_getElem? (i := 12) (by decide +kernel)), List.mem_of_getElem? (i := 137) (by decide +kernel)⟩
theorem kd_X10_isName : (parseMethodDescriptor M_X10_isName.1.desc).map (fun d => d.parameters.length) = some 3 := by decide +kernel
abbrev M_X10_nameFrom : ZM := (yX10_nameFrom, cX10_nameFrom, 2, (some .int))
set_option maxRecDepth 100000 in
theorem kk_X10_nameFrom : ZMk M_X10_nameFrom := ⟨tm_7 (List.mem_of_getElem? (i := 9) (by rfl)), tm_1 (List.mem_of_getElem? (i := 13) (by decide +kernel)), ⟨by decide, by decide⟩, by decide⟩
theorem mk_X10_nameFrom : ZMi M_X10_nameFrom := ⟨kk_X10_nameFrom, tm_7 (List.mem_of_getElem? (i := 8) (by decide +kernel)), List.mem_of_getElem? (i := 136) (by decide +kernel)⟩
theorem kd_X10_nameFrom : (parseMethodDescriptor M_X10_nameFrom.1.desc).map (fun d => d.parameters.length) = some 1 := by decide +kernel
abbrev M_X10_property : ZM := (yX10_property, cX10_property, 11, (some .boolean))
set_option maxRecDepth 100000 in
theorem kk_X10_property : ZMk M_X10_property := ⟨tm_7 (List.mem_of_getElem? (i := 5) (by rfl)), tm_1 (List.mem_of_getElem? (i := 13) (by decide +kernel)), ⟨by decide, by decide⟩, by decide⟩
theorem mk_X10_property : ZMi M_X10_property := ⟨kk_X10_property, tm_7 (List.mem_of_getElem? (i := 4) (by decide +kernel)), List.mem_of_getElem? (i := 135) (by decide +kernel)⟩
theorem kd_X10_property : (parseMethodDescriptor M_X10_property.1.desc).map (fun d => d.parameters.length) = some 1 := by decide +kernel
abbrev M_X10_digits : ZM := (yX10_digits, cX10_digits, 4, (some .int))
set_option maxRecDepth 100000 in
theorem kk_X10_digits : ZMk M_X10_digits := ⟨tm_7 (List.mem_of_getElem? (i := 21) (by rfl)), tm_1 (List.mem_of_getElem? (i := 13) (by decide +kernel)), ⟨by decide, by decide⟩, by decide⟩
theorem mk_X10_digits : ZMi M_X10_digits := ⟨kk_X10_digits, tm_7 (List.mem_of_getElem? (i := 20) (by decide +kernel)), List.mem_of_getElem? (i := 139) (by decide +kernel)⟩
theorem kd_X10_digits : (parseMethodDescriptor M_X10_digits.1.desc).map (fun d => d.parameters.length) = some 1 := by decide +kernel
abbrev M_X10_pointFrom : ZM := (yX10_pointFrom, cX10_pointFrom, 4, (some .int))
set_option maxRecDepth 100000 in
theorem kk_X10_pointFrom : ZMk M_X10_pointFrom := ⟨tm_7 (List.mem_of_getElem? (i := 25) (by rfl)), tm_1 (List.mem_of_getElem? (i := 13) (by decide +kernel)), ⟨by decide, by decide⟩, by decide⟩
theorem mk_X10_pointFrom : ZMi M_X10_pointFrom := ⟨kk_X10_pointFrom, tm_7 (List.mem_of_getElem? (i := 24) (by decide +kernel)), List.mem_of_getElem? (i := 140) (by decide +kernel)⟩
theorem kd_X10_pointFrom : (parseMethodDescriptor M_X10_pointFrom.1.desc).map (fun d => d.parameters.length) = some 1 := by decide +kernel
abbrev M_X10_isValue : ZM := (yX10_isValue, cX10_isValue, 6, (some .boolean))
set_option maxRecDepth 100000 in
theorem kk_X10_isValue : ZMk M_X10_isValue := ⟨tm_7 (List.mem_of_getElem? (i := 17) (by rfl)), tm_1 (List.mem_of_getElem? (i := 13) (by decide +kernel)), ⟨by decide, by decide⟩, by decide⟩
theorem mk_X10_isValue : ZMi M_X10_isValue := ⟨kk_X10_isValue, tm_7 (List.mem_of_getElem? (i := 16) (by decide +kernel)), List.mem_of_getElem? (i := 138) (by decide +kernel)⟩
theorem kd_X10_isValue : (parseMethodDescriptor M_X10_isValue.1.desc).map (fun d => d.parameters.length) = some 3 := by decide +kernel
abbrev M_X10_puts : ZM := (yX10_puts, cX10_puts, 2, none)
set_option maxRecDepth 100000 in
theorem kk_X10_puts : ZMk M_X10_puts := ⟨tm_7 (List.mem_of_getElem? (i := 33) (by rfl)), tm_1 (List.mem_of_getElem? (i := 13) (by decide +kernel)), ⟨by decide, by decide⟩, by decide⟩
theorem mk_X10_puts : ZMi M_X10_puts := ⟨kk_X10_puts, tm_7 (List.mem_of_getElem? (i := 32) (by decide +kernel)), List.mem_of_getElem? (i := 141) (by decide +kernel)⟩
theorem kd_X10_puts : (parseMethodDescriptor M_X10_puts.1.desc).map (fun d => d.parameters.length) = some 1 := by decide +kernel
abbrev M_X10_putsPoint : ZM := (yX10_putsPoint, cX10_putsPoint, 2, none)
set_option maxRecDepth 100000 in
theorem kk_X10_putsPoint : ZMk M_X10_putsPoint := ⟨tm_7 (List.mem_of_getElem? (i := 45) (by rfl)), tm_1 (List.mem_of_getElem? (i := 13) (by decide +kernel)), ⟨by decide, by decide⟩, by decide⟩
theorem mk_X10_putsPoint : ZMi M_X10_putsPoint := ⟨kk_X10_putsPoint, tm_7 (List.mem_of_getElem? (i := 44) (by decide +kernel)), List.mem_of_getElem? (i := 144) (by decide +kernel)⟩
theorem kd_X10_putsPoint : (parseMethodDescriptor M_X10_putsPoint.1.desc).map (fun d => d.parameters.length) = some 1 := by decide +kernel
abbrev M_X10_putsNumber : ZM := (yX10_putsNumber, cX10_putsNumber, 3, none)
set_option maxRecDepth 100000 in
theorem kk_X10_putsNumber : ZMk M_X10_putsNumber := ⟨tm_7 (List.mem_of_getElem? (i := 41) (by rfl)), tm_1 (List.mem_of_getElem? (i := 13) (by decide +kernel)), ⟨by decide, by decide⟩, by decide⟩
theorem mk_X10_putsNumber : ZMi M_X10_putsNumber := ⟨kk_X10_putsNumber, tm_7 (List.mem_of_getElem? (i := 40) (by decide +kernel)), List.mem_of_getElem? (i := 143) (by decide +kernel)⟩
theorem kd_X10_putsNumber : (parseMethodDescriptor M_X10_putsNumber.1.desc).map (fun d => d.parameters.length) = some 1 := by decide +kernel
abbrev M_X10_putsNode : ZM := (yX10_putsNode, cX10_putsNode, 5, none)
set_option maxRecDepth 100000 in
theorem kk_X10_putsNode : ZMk M_X10_putsNode := ⟨tm_7 (List.mem_of_getElem? (i := 37) (by rfl)), tm_1 (List.mem_of_getElem? (i := 13) (by decide +kernel)), ⟨by decide, by decide⟩, by decide⟩
theorem mk_X10_putsNode : ZMi M_X10_putsNode := ⟨kk_X10_putsNode, tm_7 (List.mem_of_getElem? (i := 36) (by decide +kernel)), List.mem_of_getElem? (i := 142) (by decide +kernel)⟩
theorem kd_X10_putsNode : (parseMethodDescriptor M_X10_putsNode.1.desc).map (fun d => d.parameters.length) = some 1 := by decide +kernel
abbrev M_X10_childOf : ZM := (yX10_childOf, cX10_childOf, 5, (some .int))
set_option maxRecDepth 100000 in
theorem kk_X10_childOf : ZMk M_X10_childOf := ⟨tm_7 (List.mem_of_getElem? (i := 49) (by rfl)), tm_1 (List.mem_of_getElem? (i := 13) (by decide +kernel)), ⟨by decide, by decide⟩, by decide⟩
theorem mk_X10_childOf : ZMi M_X10_childOf := ⟨kk_X10_childOf, tm_7 (List.mem_of_getElem? (i := 48) (by decide +kernel)), List.mem_of_getElem? (i := 145) (by decide +kernel)⟩
theorem kd_X10_childOf : (parseMethodDescriptor M_X10_childOf.1.desc).map (fun d => d.parameters.length) = some 2 := by decide +kernel
abbrev M_X10_write : ZM := (yX10_write, cX10_write, 6, (some .int))
set_option maxRecDepth 100000 in
theorem kk_X10_write : ZMk M_X10_write := ⟨tm_7 (List.mem_of_getElem? (i := 29) (by rfl)), tm_1 (List.mem_of_getElem? (i := 13) (by decide +kernel)), ⟨by decide, by decide⟩, by decide⟩
theorem mk_X10_write : ZMi M_X10_write := ⟨kk_X10_write, tm_7 (List.mem_of_getElem? (i := 27) (by decide +kernel)), tm_7 (List.mem_of_getElem? (i := 28) (by decide +kernel))⟩
theorem kd_X10_write : (parseMethodDescriptor M_X10_write.1.desc).map (fun d => d.parameters.length) = some 0 := by decide +kernel
abbrev M_X10_octet : ZM := (yX10_octet, cX10_octet, 2, (some .int))
set_option maxRecDepth 100000 in
theorem kk_X10_octet : ZMk M_X10_octet := ⟨tm_7 (List.mem_of_getElem? (i := 53) (by rfl)), tm_1 (List.mem_of_getElem? (i := 13) (by decide +kernel)), ⟨by decide, by decide⟩, by decide⟩
theorem mk_X10_octet : ZMi M_X10_octet := ⟨kk_X10_octet, tm_7 (List.mem_of_getElem? (i := 51) (by decide +kernel)), tm_7 (List.mem_of_getElem? (i := 52) (by decide +kernel))⟩
theorem kd_X10_octet : (parseMethodDescriptor M_X10_octet.1.desc).map (fun d => d.parameters.length) = some 1 := by decide +kernel
abbrev M_X10_clears : ZM := (yX10_clears, cX10_clears, 2, none)
set_option maxRecDepth 100000 in
theorem kk_X10_clears : ZMk M_X10_clears := ⟨tm_6 (List.mem_of_getElem? (i := 125) (by rfl)), tm_1 (List.mem_of_getElem? (i := 13) (by decide +kernel)), ⟨by decide, by decide⟩, by decide⟩
theorem mk_X10_clears : ZMi M_X10_clears := ⟨kk_X10_clears, tm_6 (List.mem_of_getElem? (i := 124) (by decide +kernel)), List.mem_of_getElem? (i := 116) (by decide +kernel)⟩
theorem kd_X10_clears : (parseMethodDescriptor M_X10_clears.1.desc).map (fun d => d.parameters.length) = some 0 := by decide +kernel
abbrev M_X10_shows : ZM := (yX10_shows, cX10_shows, 1, (some .boolean))
set_option maxRecDepth 100000 in
theorem kk_X10_shows : ZMk M_X10_shows := ⟨tm_7 (List.mem_of_getElem? (i := 61) (by rfl)), tm_1 (List.mem_of_getElem? (i := 13) (by decide +kernel)), ⟨by decide, by decide⟩, by decide⟩
theorem mk_X10_shows : ZMi M_X10_shows := ⟨kk_X10_shows, tm_7 (List.mem_of_getElem? (i := 60) (by decide +kernel)), List.mem_of_getElem? (i := 146) (by decide +kernel)⟩
theorem kd_X10_shows : (parseMethodDescriptor M_X10_shows.1.desc).map (fun d => d.parameters.length) = some 0 := by decide +kernel
abbrev M_X10_isPoint : ZM := (yX10_isPoint, cX10_isPoint, 2, (some .boolean))
set_option maxRecDepth 100000 in
theorem kk_X10_isPoint : ZMk M_X10_isPoint := ⟨tm_7 (List.mem_of_getElem? (i := 65) (by rfl)), tm_1 (List.mem_of_getElem? (i := 13) (by decide +kernel)), ⟨by decide, by decide⟩, by decide⟩
theorem mk_X10_isPoint : ZMi M_X10_isPoint := ⟨kk_X10_isPoint, tm_7 (List.mem_of_getElem? (i := 64) (by decide +kernel)), List.mem_of_getElem? (i := 147) (by decide +kernel)⟩
theorem kd_X10_isPoint : (parseMethodDescriptor M_X10_isPoint.1.desc).map (fun d => d.parameters.length) = some 1 := by decide +kernel
abbrev M_X10_isStone : ZM := (yX10_isStone, cX10_isStone, 2, (some .boolean))
set_option maxRecDepth 100000 in
theorem kk_X10_isStone : ZMk M_X10_isStone := ⟨tm_7 (List.mem_of_getElem? (i := 73) (by rfl)), tm_1 (List.mem_of_getElem? (i := 13) (by decide +kernel)), ⟨by decide, by decide⟩, by decide⟩
theorem mk_X10_isStone : ZMi M_X10_isStone := ⟨kk_X10_isStone, tm_7 (List.mem_of_getElem? (i := 72) (by decide +kernel)), List.mem_of_getElem? (i := 148) (by decide +kernel)⟩
theorem kd_X10_isStone : (parseMethodDescriptor M_X10_isStone.1.desc).map (fun d => d.parameters.length) = some 1 := by decide +kernel
abbrev M_X10_at : ZM := (yX10_at, cX10_at, 2, (some .int))
set_option maxRecDepth 100000 in
theorem kk_X10_at : ZMk M_X10_at := ⟨tm_7 (List.mem_of_getElem? (i := 57) (by rfl)), tm_1 (List.mem_of_getElem? (i := 13) (by decide +kernel)), ⟨by decide, by decide⟩, by decide⟩
theorem mk_X10_at : ZMi M_X10_at := ⟨kk_X10_at, tm_7 (List.mem_of_getElem? (i := 55) (by decide +kernel)), tm_7 (List.mem_of_getElem? (i := 56) (by decide +kernel))⟩
theorem kd_X10_at : (parseMethodDescriptor M_X10_at.1.desc).map (fun d => d.parameters.length) = some 1 := by decide +kernel
abbrev M_X10_head : ZM := (yX10_head, cX10_head, 2, (some .int))
set_option maxRecDepth 100000 in
theorem kk_X10_head : ZMk M_X10_head := ⟨tm_7 (List.mem_of_getElem? (i := 77) (by rfl)), tm_1 (List.mem_of_getElem? (i := 13) (by decide +kernel)), ⟨by decide, by decide⟩, by decide⟩
theorem mk_X10_head : ZMi M_X10_head := ⟨kk_X10_head, tm_7 (List.mem_of_getElem? (i := 76) (by decide +kernel)), List.mem_of_getElem? (i := 149) (by decide +kernel)⟩
theorem kd_X10_head : (parseMethodDescriptor M_X10_head.1.desc).map (fun d => d.parameters.length) = some 0 := by decide +kernel
abbrev M_X10_stones : ZM := (yX10_stones, cX10_stones, 3, (some .int))
set_option maxRecDepth 100000 in
theorem kk_X10_stones : ZMk M_X10_stones := ⟨tm_7 (List.mem_of_getElem? (i := 81) (by rfl)), tm_1 (List.mem_of_getElem? (i := 13) (by decide +kernel)), ⟨by decide, by decide⟩, by decide⟩
theorem mk_X10_stones : ZMi M_X10_stones := ⟨kk_X10_stones, tm_7 (List.mem_of_getElem? (i := 80) (by decide +kernel)), List.mem_of_getElem? (i := 150) (by decide +kernel)⟩
theorem kd_X10_stones : (parseMethodDescriptor M_X10_stones.1.desc).map (fun d => d.parameters.length) = some 0 := by decide +kernel
abbrev M_X10_chain : ZM := (yX10_chain, cX10_chain, 4, (some .int))
set_option maxRecDepth 100000 in
theorem kk_X10_chain : ZMk M_X10_chain := ⟨tm_7 (List.mem_of_getElem? (i := 69) (by rfl)), tm_1 (List.mem_of_getElem? (i := 13) (by decide +kernel)), ⟨by decide, by decide⟩, by decide⟩
theorem mk_X10_chain : ZMi M_X10_chain := ⟨kk_X10_chain, tm_7 (List.mem_of_getElem? (i := 67) (by decide +kernel)), tm_7 (List.mem_of_getElem? (i := 68) (by decide +kernel))⟩
theorem kd_X10_chain : (parseMethodDescriptor M_X10_chain.1.desc).map (fun d => d.parameters.length) = some 2 := by decide +kernel
abbrev M_X10_liberty : ZM := (yX10_liberty, cX10_liberty, 6, (some .int))
set_option maxRecDepth 100000 in
theorem kk_X10_liberty : ZMk M_X10_liberty := ⟨tm_7 (List.mem_of_getElem? (i := 97) (by rfl)), tm_1 (List.mem_of_getElem? (i := 13) (by decide +kernel)), ⟨by decide, by decide⟩, by decide⟩
theorem mk_X10_liberty : ZMi M_X10_liberty := ⟨kk_X10_liberty, tm_7 (List.mem_of_getElem? (i := 95) (by decide +kernel)), tm_7 (List.mem_of_getElem? (i := 96) (by decide +kernel))⟩
theorem kd_X10_liberty : (parseMethodDescriptor M_X10_liberty.1.desc).map (fun d => d.parameters.length) = some 2 := by decide +kernel
abbrev M_X10_regions : ZM := (yX10_regions, cX10_regions, 7, none)
set_option maxRecDepth 100000 in
theorem kk_X10_regions : ZMk M_X10_regions := ⟨tm_7 (List.mem_of_getElem? (i := 89) (by rfl)), tm_1 (List.mem_of_getElem? (i := 13) (by decide +kernel)), ⟨by decide, by decide⟩, by decide⟩
theorem mk_X10_regions : ZMi M_X10_regions := ⟨kk_X10_regions, tm_7 (List.mem_of_getElem? (i := 88) (by decide +kernel)), List.mem_of_getElem? (i := 152) (by decide +kernel)⟩
theorem kd_X10_regions : (parseMethodDescriptor M_X10_regions.1.desc).map (fun d => d.parameters.length) = some 1 := by decide +kernel
abbrev M_X10_isVital : ZM := (yX10_isVital, cX10_isVital, 8, (some .boolean))
set_option maxRecDepth 100000 in
theorem kk_X10_isVital : ZMk M_X10_isVital := ⟨tm_7 (List.mem_of_getElem? (i := 93) (by rfl)), tm_1 (List.mem_of_getElem? (i := 13) (by decide +kernel)), ⟨by decide, by decide⟩, by decide⟩
theorem mk_X10_isVital : ZMi M_X10_isVital := ⟨kk_X10_isVital, tm_7 (List.mem_of_getElem? (i := 92) (by decide +kernel)), List.mem_of_getElem? (i := 153) (by decide +kernel)⟩
theorem kd_X10_isVital : (parseMethodDescriptor M_X10_isVital.1.desc).map (fun d => d.parameters.length) = some 2 := by decide +kernel
abbrev M_X10_lives : ZM := (yX10_lives, cX10_lives, 6, (some .boolean))
set_option maxRecDepth 100000 in
theorem kk_X10_lives : ZMk M_X10_lives := ⟨tm_7 (List.mem_of_getElem? (i := 85) (by rfl)), tm_1 (List.mem_of_getElem? (i := 13) (by decide +kernel)), ⟨by decide, by decide⟩, by decide⟩
theorem mk_X10_lives : ZMi M_X10_lives := ⟨kk_X10_lives, tm_7 (List.mem_of_getElem? (i := 84) (by decide +kernel)), List.mem_of_getElem? (i := 151) (by decide +kernel)⟩
theorem kd_X10_lives : (parseMethodDescriptor M_X10_lives.1.desc).map (fun d => d.parameters.length) = some 1 := by decide +kernel
abbrev M_X10_region : ZM := (yX10_region, cX10_region, 7, (some .int))
set_option maxRecDepth 100000 in
theorem kk_X10_region : ZMk M_X10_region := ⟨tm_7 (List.mem_of_getElem? (i := 101) (by rfl)), tm_1 (List.mem_of_getElem? (i := 13) (by decide +kernel)), ⟨by decide, by decide⟩, by decide⟩
theorem mk_X10_region : ZMi M_X10_region := ⟨kk_X10_region, tm_7 (List.mem_of_getElem? (i := 99) (by decide +kernel)), tm_7 (List.mem_of_getElem? (i := 100) (by decide +kernel))⟩
theorem kd_X10_region : (parseMethodDescriptor M_X10_region.1.desc).map (fun d => d.parameters.length) = some 3 := by decide +kernel
abbrev M_X10_pushes : ZM := (yX10_pushes, cX10_pushes, 2, none)
set_option maxRecDepth 100000 in
theorem kk_X10_pushes : ZMk M_X10_pushes := ⟨tm_7 (List.mem_of_getElem? (i := 121) (by rfl)), tm_1 (List.mem_of_getElem? (i := 13) (by decide +kernel)), ⟨by decide, by decide⟩, by decide⟩
theorem mk_X10_pushes : ZMi M_X10_pushes := ⟨kk_X10_pushes, tm_7 (List.mem_of_getElem? (i := 120) (by decide +kernel)), List.mem_of_getElem? (i := 157) (by decide +kernel)⟩
theorem kd_X10_pushes : (parseMethodDescriptor M_X10_pushes.1.desc).map (fun d => d.parameters.length) = some 0 := by decide +kernel
abbrev M_X10_pops : ZM := (yX10_pops, cX10_pops, 2, none)
set_option maxRecDepth 100000 in
theorem kk_X10_pops : ZMk M_X10_pops := ⟨tm_7 (List.mem_of_getElem? (i := 129) (by rfl)), tm_1 (List.mem_of_getElem? (i := 13) (by decide +kernel)), ⟨by decide, by decide⟩, by decide⟩
theorem mk_X10_pops : ZMi M_X10_pops := ⟨kk_X10_pops, tm_7 (List.mem_of_getElem? (i := 128) (by decide +kernel)), List.mem_of_getElem? (i := 159) (by decide +kernel)⟩
theorem kd_X10_pops : (parseMethodDescriptor M_X10_pops.1.desc).map (fun d => d.parameters.length) = some 0 := by decide +kernel
abbrev M_X10_tries : ZM := (yX10_tries, cX10_tries, 3, (some .boolean))
set_option maxRecDepth 100000 in
theorem kk_X10_tries : ZMk M_X10_tries := ⟨tm_7 (List.mem_of_getElem? (i := 117) (by rfl)), tm_1 (List.mem_of_getElem? (i := 13) (by decide +kernel)), ⟨by decide, by decide⟩, by decide⟩
theorem mk_X10_tries : ZMi M_X10_tries := ⟨kk_X10_tries, tm_7 (List.mem_of_getElem? (i := 116) (by decide +kernel)), List.mem_of_getElem? (i := 156) (by decide +kernel)⟩
theorem kd_X10_tries : (parseMethodDescriptor M_X10_tries.1.desc).map (fun d => d.parameters.length) = some 2 := by decide +kernel
abbrev M_X10_isBack : ZM := (yX10_isBack, cX10_isBack, 2, (some .boolean))
set_option maxRecDepth 100000 in
theorem kk_X10_isBack : ZMk M_X10_isBack := ⟨tm_7 (List.mem_of_getElem? (i := 125) (by rfl)), tm_1 (List.mem_of_getElem? (i := 13) (by decide +kernel)), ⟨by decide, by decide⟩, by decide⟩
theorem mk_X10_isBack : ZMi M_X10_isBack := ⟨kk_X10_isBack, tm_7 (List.mem_of_getElem? (i := 124) (by decide +kernel)), List.mem_of_getElem? (i := 158) (by decide +kernel)⟩
theorem kd_X10_isBack : (parseMethodDescriptor M_X10_isBack.1.desc).map (fun d => d.parameters.length) = some 0 := by decide +kernel
abbrev M_X10_freeBehind : ZM := (yX10_freeBehind, cX10_freeBehind, 3, (some .int))
set_option maxRecDepth 100000 in
theorem kk_X10_freeBehind : ZMk M_X10_freeBehind := ⟨tm_7 (List.mem_of_getElem? (i := 109) (by rfl)), tm_1 (List.mem_of_getElem? (i := 13) (by decide +kernel)), ⟨by decide, by decide⟩, by decide⟩
theorem mk_X10_freeBehind : ZMi M_X10_freeBehind := ⟨kk_X10_freeBehind, tm_7 (List.mem_of_getElem? (i := 108) (by decide +kernel)), List.mem_of_getElem? (i := 154) (by decide +kernel)⟩
theorem kd_X10_freeBehind : (parseMethodDescriptor M_X10_freeBehind.1.desc).map (fun d => d.parameters.length) = some 1 := by decide +kernel
abbrev M_X10_takesChain : ZM := (yX10_takesChain, cX10_takesChain, 7, (some .boolean))
set_option maxRecDepth 100000 in
theorem kk_X10_takesChain : ZMk M_X10_takesChain := ⟨tm_7 (List.mem_of_getElem? (i := 113) (by rfl)), tm_1 (List.mem_of_getElem? (i := 13) (by decide +kernel)), ⟨by decide, by decide⟩, by decide⟩
theorem mk_X10_takesChain : ZMi M_X10_takesChain := ⟨kk_X10_takesChain, tm_7 (List.mem_of_getElem? (i := 112) (by decide +kernel)), List.mem_of_getElem? (i := 155) (by decide +kernel)⟩
theorem kd_X10_takesChain : (parseMethodDescriptor M_X10_takesChain.1.desc).map (fun d => d.parameters.length) = some 1 := by decide +kernel
abbrev M_X10_isSaved : ZM := (yX10_isSaved, cX10_isSaved, 6, (some .boolean))
set_option maxRecDepth 100000 in
theorem kk_X10_isSaved : ZMk M_X10_isSaved := ⟨tm_7 (List.mem_of_getElem? (i := 133) (by rfl)), tm_1 (List.mem_of_getElem? (i := 13) (by decide +kernel)), ⟨by decide, by decide⟩, by decide⟩
theorem mk_X10_isSaved : ZMi M_X10_isSaved := ⟨kk_X10_isSaved, tm_7 (List.mem_of_getElem? (i := 132) (by decide +kernel)), List.mem_of_getElem? (i := 160) (by decide +kernel)⟩
theorem kd_X10_isSaved : (parseMethodDescriptor M_X10_isSaved.1.desc).map (fun d => d.parameters.length) = some 1 := by decide +kernel
abbrev M_X10_takesBeside : ZM := (yX10_takesBeside, cX10_takesBeside, 9, (some .boolean))
set_option maxRecDepth 100000 in
theorem kk_X10_takesBeside : ZMk M_X10_takesBeside := ⟨tm_7 (List.mem_of_getElem? (i := 137) (by rfl)), tm_1 (List.mem_of_getElem? (i := 13) (by decide +kernel)), ⟨by decide, by decide⟩, by decide⟩
theorem mk_X10_takesBeside : ZMi M_X10_takesBeside := ⟨kk_X10_takesBeside, tm_7 (List.mem_of_getElem? (i := 136) (by decide +kernel)), List.mem_of_getElem? (i := 161) (by decide +kernel)⟩
theorem kd_X10_takesBeside : (parseMethodDescriptor M_X10_takesBeside.1.desc).map (fun d => d.parameters.length) = some 2 := by decide +kernel
abbrev M_X10_isOfTarget : ZM := (yX10_isOfTarget, cX10_isOfTarget, 3, (some .boolean))
set_option maxRecDepth 100000 in
theorem kk_X10_isOfTarget : ZMk M_X10_isOfTarget := ⟨tm_7 (List.mem_of_getElem? (i := 141) (by rfl)), tm_1 (List.mem_of_getElem? (i := 13) (by decide +kernel)), ⟨by decide, by decide⟩, by decide⟩
theorem mk_X10_isOfTarget : ZMi M_X10_isOfTarget := ⟨kk_X10_isOfTarget, tm_7 (List.mem_of_getElem? (i := 140) (by decide +kernel)), List.mem_of_getElem? (i := 162) (by decide +kernel)⟩
theorem kd_X10_isOfTarget : (parseMethodDescriptor M_X10_isOfTarget.1.desc).map (fun d => d.parameters.length) = some 2 := by decide +kernel
abbrev M_X10_mine : ZM := (yX10_mine, cX10_mine, 3, none)
set_option maxRecDepth 100000 in
theorem kk_X10_mine : ZMk M_X10_mine := ⟨tm_7 (List.mem_of_getElem? (i := 149) (by rfl)), tm_1 (List.mem_of_getElem? (i := 13) (by decide +kernel)), ⟨by decide, by decide⟩, by decide⟩
theorem mk_X10_mine : ZMi M_X10_mine := ⟨kk_X10_mine, tm_7 (List.mem_of_getElem? (i := 148) (by decide +kernel)), List.mem_of_getElem? (i := 164) (by decide +kernel)⟩
theorem kd_X10_mine : (parseMethodDescriptor M_X10_mine.1.desc).map (fun d => d.parameters.length) = some 0 := by decide +kernel
abbrev M_X10_saves : ZM := (yX10_saves, cX10_saves, 5, (some .boolean))
set_option maxRecDepth 100000 in
theorem kk_X10_saves : ZMk M_X10_saves := ⟨tm_7 (List.mem_of_getElem? (i := 145) (by rfl)), tm_1 (List.mem_of_getElem? (i := 13) (by decide +kernel)), ⟨by decide, by decide⟩, by decide⟩
theorem mk_X10_saves : ZMi M_X10_saves := ⟨kk_X10_saves, tm_7 (List.mem_of_getElem? (i := 144) (by decide +kernel)), List.mem_of_getElem? (i := 163) (by decide +kernel)⟩
theorem kd_X10_saves : (parseMethodDescriptor M_X10_saves.1.desc).map (fun d => d.parameters.length) = some 2 := by decide +kernel
abbrev M_X10_ladder : ZM := (yX10_ladder, cX10_ladder, 6, (some .int))
set_option maxRecDepth 100000 in
theorem kk_X10_ladder : ZMk M_X10_ladder := ⟨tm_7 (List.mem_of_getElem? (i := 105) (by rfl)), tm_1 (List.mem_of_getElem? (i := 13) (by decide +kernel)), ⟨by decide, by decide⟩, by decide⟩
theorem mk_X10_ladder : ZMi M_X10_ladder := ⟨kk_X10_ladder, tm_7 (List.mem_of_getElem? (i := 103) (by decide +kernel)), tm_7 (List.mem_of_getElem? (i := 104) (by decide +kernel))⟩
theorem kd_X10_ladder : (parseMethodDescriptor M_X10_ladder.1.desc).map (fun d => d.parameters.length) = some 1 := by decide +kernel
abbrev M_X10_steps : ZM := (yX10_steps, cX10_steps, 2, (some .int))
set_option maxRecDepth 100000 in
theorem kk_X10_steps : ZMk M_X10_steps := ⟨tm_7 (List.mem_of_getElem? (i := 153) (by rfl)), tm_1 (List.mem_of_getElem? (i := 13) (by decide +kernel)), ⟨by decide, by decide⟩, by decide⟩
theorem mk_X10_steps : ZMi M_X10_steps := ⟨kk_X10_steps, tm_7 (List.mem_of_getElem? (i := 151) (by decide +kernel)), tm_7 (List.mem_of_getElem? (i := 152) (by decide +kernel))⟩
theorem kd_X10_steps : (parseMethodDescriptor M_X10_steps.1.desc).map (fun d => d.parameters.length) = some 1 := by decide +kernel
abbrev M_X10_dead : ZM := (yX10_dead, cX10_dead, 5, (some .int))
set_option maxRecDepth 100000 in
theorem kk_X10_dead : ZMk M_X10_dead := ⟨tm_7 (List.mem_of_getElem? (i := 157) (by rfl)), tm_1 (List.mem_of_getElem? (i := 13) (by decide +kernel)), ⟨by decide, by decide⟩, by decide⟩
theorem mk_X10_dead : ZMi M_X10_dead := ⟨kk_X10_dead, tm_7 (List.mem_of_getElem? (i := 155) (by decide +kernel)), tm_7 (List.mem_of_getElem? (i := 156) (by decide +kernel))⟩
theorem kd_X10_dead : (parseMethodDescriptor M_X10_dead.1.desc).map (fun d => d.parameters.length) = some 2 := by decide +kernel
abbrev M_X10_counts : ZM := (yX10_counts, cX10_counts, 2, (some .int))
set_option maxRecDepth 100000 in
theorem kk_X10_counts : ZMk M_X10_counts := ⟨tm_7 (List.mem_of_getElem? (i := 169) (by rfl)), tm_1 (List.mem_of_getElem? (i := 13) (by decide +kernel)), ⟨by decide, by decide⟩, by decide⟩
theorem mk_X10_counts : ZMi M_X10_counts := ⟨kk_X10_counts, tm_7 (List.mem_of_getElem? (i := 168) (by decide +kernel)), List.mem_of_getElem? (i := 166) (by decide +kernel)⟩
theorem kd_X10_counts : (parseMethodDescriptor M_X10_counts.1.desc).map (fun d => d.parameters.length) = some 1 := by decide +kernel
abbrev M_X10_owners : ZM := (yX10_owners, cX10_owners, 7, none)
set_option maxRecDepth 100000 in
theorem kk_X10_owners : ZMk M_X10_owners := ⟨tm_7 (List.mem_of_getElem? (i := 165) (by rfl)), tm_1 (List.mem_of_getElem? (i := 13) (by decide +kernel)), ⟨by decide, by decide⟩, by decide⟩
theorem mk_X10_owners : ZMi M_X10_owners := ⟨kk_X10_owners, tm_7 (List.mem_of_getElem? (i := 164) (by decide +kernel)), List.mem_of_getElem? (i := 165) (by decide +kernel)⟩
theorem kd_X10_owners : (parseMethodDescriptor M_X10_owners.1.desc).map (fun d => d.parameters.length) = some 0 := by decide +kernel
abbrev M_X10_taken : ZM := (yX10_taken, cX10_taken, 4, (some .int))
set_option maxRecDepth 100000 in
theorem kk_X10_taken : ZMk M_X10_taken := ⟨tm_7 (List.mem_of_getElem? (i := 173) (by rfl)), tm_1 (List.mem_of_getElem? (i := 13) (by decide +kernel)), ⟨by decide, by decide⟩, by decide⟩
theorem mk_X10_taken : ZMi M_X10_taken := ⟨kk_X10_taken, tm_7 (List.mem_of_getElem? (i := 172) (by decide +kernel)), List.mem_of_getElem? (i := 167) (by decide +kernel)⟩
theorem kd_X10_taken : (parseMethodDescriptor M_X10_taken.1.desc).map (fun d => d.parameters.length) = some 1 := by decide +kernel
abbrev M_X10_score : ZM := (yX10_score, cX10_score, 9, (some .int))
set_option maxRecDepth 100000 in
theorem kk_X10_score : ZMk M_X10_score := ⟨tm_7 (List.mem_of_getElem? (i := 161) (by rfl)), tm_1 (List.mem_of_getElem? (i := 13) (by decide +kernel)), ⟨by decide, by decide⟩, by decide⟩
theorem mk_X10_score : ZMi M_X10_score := ⟨kk_X10_score, tm_7 (List.mem_of_getElem? (i := 159) (by decide +kernel)), tm_7 (List.mem_of_getElem? (i := 160) (by decide +kernel))⟩
theorem kd_X10_score : (parseMethodDescriptor M_X10_score.1.desc).map (fun d => d.parameters.length) = some 2 := by decide +kernel
abbrev M_X10_ahead : ZM := (yX10_ahead, cX10_ahead, 2, (some .int))
set_option maxRecDepth 100000 in
theorem kk_X10_ahead : ZMk M_X10_ahead := ⟨tm_7 (List.mem_of_getElem? (i := 177) (by rfl)), tm_1 (List.mem_of_getElem? (i := 13) (by decide +kernel)), ⟨by decide, by decide⟩, by decide⟩
theorem mk_X10_ahead : ZMi M_X10_ahead := ⟨kk_X10_ahead, tm_7 (List.mem_of_getElem? (i := 175) (by decide +kernel)), tm_7 (List.mem_of_getElem? (i := 176) (by decide +kernel))⟩
theorem kd_X10_ahead : (parseMethodDescriptor M_X10_ahead.1.desc).map (fun d => d.parameters.length) = some 1 := by decide +kernel
abbrev M_X10_clocks : ZM := (yX10_clocks, cX10_clocks, 5, (some .boolean))
set_option maxRecDepth 100000 in
theorem kk_X10_clocks : ZMk M_X10_clocks := ⟨tm_7 (List.mem_of_getElem? (i := 182) (by rfl)), tm_1 (List.mem_of_getElem? (i := 13) (by decide +kernel)), ⟨by decide, by decide⟩, by decide⟩
theorem mk_X10_clocks : ZMi M_X10_clocks := ⟨kk_X10_clocks, tm_7 (List.mem_of_getElem? (i := 180) (by decide +kernel)), tm_7 (List.mem_of_getElem? (i := 181) (by decide +kernel))⟩
theorem kd_X10_clocks : (parseMethodDescriptor M_X10_clocks.1.desc).map (fun d => d.parameters.length) = some 3 := by decide +kernel
abbrev M_X10_clock : ZM := (yX10_clock, cX10_clock, 5, (some .int))
set_option maxRecDepth 100000 in
theorem kk_X10_clock : ZMk M_X10_clock := ⟨tm_7 (List.mem_of_getElem? (i := 187) (by rfl)), tm_1 (List.mem_of_getElem? (i := 13) (by decide +kernel)), ⟨by decide, by decide⟩, by decide⟩
theorem mk_X10_clock : ZMi M_X10_clock := ⟨kk_X10_clock, tm_7 (List.mem_of_getElem? (i := 185) (by decide +kernel)), tm_7 (List.mem_of_getElem? (i := 186) (by decide +kernel))⟩
theorem kd_X10_clock : (parseMethodDescriptor M_X10_clock.1.desc).map (fun d => d.parameters.length) = some 2 := by decide +kernel
abbrev M_X10_time : ZM := (yX10_time, cX10_time, 3, (some .int))
set_option maxRecDepth 100000 in
theorem kk_X10_time : ZMk M_X10_time := ⟨tm_7 (List.mem_of_getElem? (i := 191) (by rfl)), tm_1 (List.mem_of_getElem? (i := 13) (by decide +kernel)), ⟨by decide, by decide⟩, by decide⟩
theorem mk_X10_time : ZMi M_X10_time := ⟨kk_X10_time, tm_7 (List.mem_of_getElem? (i := 189) (by decide +kernel)), tm_7 (List.mem_of_getElem? (i := 190) (by decide +kernel))⟩
theorem kd_X10_time : (parseMethodDescriptor M_X10_time.1.desc).map (fun d => d.parameters.length) = some 2 := by decide +kernel
abbrev M_X10_count : ZM := (yX10_count, cX10_count, 6, (some .int))
set_option maxRecDepth 100000 in
theorem kk_X10_count : ZMk M_X10_count := ⟨tm_7 (List.mem_of_getElem? (i := 195) (by rfl)), tm_1 (List.mem_of_getElem? (i := 13) (by decide +kernel)), ⟨by decide, by decide⟩, by decide⟩
theorem mk_X10_count : ZMi M_X10_count := ⟨kk_X10_count, tm_7 (List.mem_of_getElem? (i := 193) (by decide +kernel)), tm_7 (List.mem_of_getElem? (i := 194) (by decide +kernel))⟩
theorem kd_X10_count : (parseMethodDescriptor M_X10_count.1.desc).map (fun d => d.parameters.length) = some 1 := by decide +kernel
abbrev M_J13_bitCount_95d88 : ZM := (yJ13_bitCount_95d88, cJ13_bitCount_95d88, 2, (some .int))
set_option maxRecDepth 100000 in
theorem kk_J13_bitCount_95d88 : ZMk M_J13_bitCount_95d88 := ⟨tm_4 (List.mem_of_getElem? (i := 234) (by rfl)), tm_1 (List.mem_of_getElem? (i := 19) (by decide +kernel)), ⟨by decide, by decide⟩, by decide⟩
theorem mk_J13_bitCount_95d88 : ZMs M_J13_bitCount_95d88 := ⟨kk_J13_bitCount_95d88, tm_4 (List.mem_of_getElem? (i := 233) (by decide +kernel))⟩
theorem kd_J13_bitCount_95d88 : (parseMethodDescriptor M_J13_bitCount_95d88.1.desc).map (fun d => d.parameters.length) = some 1 := by decide +kernel
abbrev M_J9_abs_0f7a4 : ZM := (yJ9_abs_0f7a4, cJ9_abs_0f7a4, 1, (some .int))
set_option maxRecDepth 100000 in
theorem kk_J9_abs_0f7a4 : ZMk M_J9_abs_0f7a4 := ⟨tm_4 (List.mem_of_getElem? (i := 52) (by rfl)), tm_1 (List.mem_of_getElem? (i := 4) (by decide +kernel)), ⟨by decide, by decide⟩, by decide⟩
theorem mk_J9_abs_0f7a4 : ZMs M_J9_abs_0f7a4 := ⟨kk_J9_abs_0f7a4, tm_4 (List.mem_of_getElem? (i := 51) (by decide +kernel))⟩
theorem kd_J9_abs_0f7a4 : (parseMethodDescriptor M_J9_abs_0f7a4.1.desc).map (fun d => d.parameters.length) = some 1 := by decide +kernel
abbrev M_J9_max_7cf53 : ZM := (yJ9_max_7cf53, cJ9_max_7cf53, 2, (some .int))
set_option maxRecDepth 100000 in
theorem kk_J9_max_7cf53 : ZMk M_J9_max_7cf53 := ⟨tm_1 (List.mem_of_getElem? (i := 115) (by rfl)), tm_1 (List.mem_of_getElem? (i := 4) (by decide +kernel)), ⟨by decide, by decide⟩, by decide⟩
theorem mk_J9_max_7cf53 : ZMs M_J9_max_7cf53 := ⟨kk_J9_max_7cf53, tm_1 (List.mem_of_getElem? (i := 114) (by decide +kernel))⟩
theorem kd_J9_max_7cf53 : (parseMethodDescriptor M_J9_max_7cf53.1.desc).map (fun d => d.parameters.length) = some 2 := by decide +kernel
abbrev M_J9_min_7cf53 : ZM := (yJ9_min_7cf53, cJ9_min_7cf53, 2, (some .int))
set_option maxRecDepth 100000 in
theorem kk_J9_min_7cf53 : ZMk M_J9_min_7cf53 := ⟨tm_4 (List.mem_of_getElem? (i := 163) (by rfl)), tm_1 (List.mem_of_getElem? (i := 4) (by decide +kernel)), ⟨by decide, by decide⟩, by decide⟩
theorem mk_J9_min_7cf53 : ZMs M_J9_min_7cf53 := ⟨kk_J9_min_7cf53, tm_4 (List.mem_of_getElem? (i := 162) (by decide +kernel))⟩
theorem kd_J9_min_7cf53 : (parseMethodDescriptor M_J9_min_7cf53.1.desc).map (fun d => d.parameters.length) = some 2 := by decide +kernel
abbrev M_J7_fill_d0a16 : ZM := (yJ7_fill_d0a16, cJ7_fill_d0a16, 5, none)
set_option maxRecDepth 100000 in
theorem kk_J7_fill_d0a16 : ZMk M_J7_fill_d0a16 := ⟨tm_3 (List.mem_of_getElem? (i := 55) (by rfl)), tm_1 (List.mem_of_getElem? (i := 12) (by decide +kernel)), ⟨by decide, by decide⟩, by decide⟩
theorem mk_J7_fill_d0a16 : ZMs M_J7_fill_d0a16 := ⟨kk_J7_fill_d0a16, tm_3 (List.mem_of_getElem? (i := 54) (by decide +kernel))⟩
theorem kd_J7_fill_d0a16 : (parseMethodDescriptor M_J7_fill_d0a16.1.desc).map (fun d => d.parameters.length) = some 2 := by decide +kernel
abbrev M_J7_fill_53178 : ZM := (yJ7_fill_53178, cJ7_fill_53178, 4, none)
set_option maxRecDepth 100000 in
theorem kk_J7_fill_53178 : ZMk M_J7_fill_53178 := ⟨tm_4 (List.mem_of_getElem? (i := 181) (by rfl)), tm_1 (List.mem_of_getElem? (i := 12) (by decide +kernel)), ⟨by decide, by decide⟩, by decide⟩
theorem mk_J7_fill_53178 : ZMs M_J7_fill_53178 := ⟨kk_J7_fill_53178, tm_4 (List.mem_of_getElem? (i := 180) (by decide +kernel))⟩
theorem kd_J7_fill_53178 : (parseMethodDescriptor M_J7_fill_53178.1.desc).map (fun d => d.parameters.length) = some 2 := by decide +kernel
abbrev M_J7_fill_031fb : ZM := (yJ7_fill_031fb, cJ7_fill_031fb, 4, none)
set_option maxRecDepth 100000 in
theorem kk_J7_fill_031fb : ZMk M_J7_fill_031fb := ⟨tm_2 (List.mem_of_getElem? (i := 150) (by rfl)), tm_1 (List.mem_of_getElem? (i := 12) (by decide +kernel)), ⟨by decide, by decide⟩, by decide⟩
theorem mk_J7_fill_031fb : ZMs M_J7_fill_031fb := ⟨kk_J7_fill_031fb, tm_2 (List.mem_of_getElem? (i := 149) (by decide +kernel))⟩
theorem kd_J7_fill_031fb : (parseMethodDescriptor M_J7_fill_031fb.1.desc).map (fun d => d.parameters.length) = some 2 := by decide +kernel
theorem kf_RX9_10 : ZF RX9 10 9 0 := ⟨(RX9, TX9, 14), rfl, by decide, rfl, Or.inl (tm_2 (List.mem_of_getElem? (i := 190) (by decide +kernel)))⟩
theorem kf_RX9_16 : ZF RX9 16 9 1 := ⟨(RX9, TX9, 14), rfl, by decide, rfl, Or.inl (tm_2 (List.mem_of_getElem? (i := 191) (by decide +kernel)))⟩
theorem kf_RX9_24 : ZF RX9 24 9 2 := ⟨(RX9, TX9, 14), rfl, by decide, rfl, Or.inl (tm_2 (List.mem_of_getElem? (i := 192) (by decide +kernel)))⟩
theorem kf_RX9_28 : ZF RX9 28 9 3 := ⟨(RX9, TX9, 14), rfl, by decide, rfl, Or.inl (tm_2 (List.mem_of_getElem? (i := 193) (by decide +kernel)))⟩
theorem kf_RX9_34 : ZF RX9 34 9 4 := ⟨(RX9, TX9, 14), rfl, by decide, rfl, Or.inl (tm_2 (List.mem_of_getElem? (i := 194) (by decide +kernel)))⟩
theorem kf_RX9_38 : ZF RX9 38 9 5 := ⟨(RX9, TX9, 14), rfl, by decide, rfl, Or.inl (tm_2 (List.mem_of_getElem? (i := 195) (by decide +kernel)))⟩
theorem kf_RX9_46 : ZF RX9 46 9 6 := ⟨(RX9, TX9, 14), rfl, by decide, rfl, Or.inl (tm_2 (List.mem_of_getElem? (i := 196) (by decide +kernel)))⟩
theorem kf_RX9_55 : ZF RX9 55 9 7 := ⟨(RX9, TX9, 14), rfl, by decide, rfl, Or.inl (tm_2 (List.mem_of_getElem? (i := 197) (by decide +kernel)))⟩
theorem kf_RX9_64 : ZF RX9 64 9 8 := ⟨(RX9, TX9, 14), rfl, by decide, rfl, Or.inl (tm_2 (List.mem_of_getElem? (i := 198) (by decide +kernel)))⟩
theorem kf_RX9_71 : ZF RX9 71 9 9 := ⟨(RX9, TX9, 14), rfl, by decide, rfl, Or.inl (tm_2 (List.mem_of_getElem? (i := 199) (by decide +kernel)))⟩
theorem kf_RX9_80 : ZF RX9 80 9 10 := ⟨(RX9, TX9, 14), rfl, by decide, rfl, Or.inl (tm_2 (List.mem_of_getElem? (i := 200) (by decide +kernel)))⟩
theorem kf_RX9_87 : ZF RX9 87 9 11 := ⟨(RX9, TX9, 14), rfl, by decide, rfl, Or.inl (tm_2 (List.mem_of_getElem? (i := 201) (by decide +kernel)))⟩
theorem kf_RX9_91 : ZF RX9 91 9 12 := ⟨(RX9, TX9, 14), rfl, by decide, rfl, Or.inl (tm_2 (List.mem_of_getElem? (i := 202) (by decide +kernel)))⟩
theorem kf_RX9_94 : ZF RX9 94 9 13 := ⟨(RX9, TX9, 14), rfl, by decide, rfl, Or.inl (tm_2 (List.mem_of_getElem? (i := 203) (by decide +kernel)))⟩
theorem kf_RX0_9 : ZF RX0 9 0 0 := ⟨(RX0, TX0, 13), rfl, by decide, rfl, Or.inl (tm_1 (List.mem_of_getElem? (i := 133) (by decide +kernel)))⟩
theorem kf_RX0_15 : ZF RX0 15 0 1 := ⟨(RX0, TX0, 13), rfl, by decide, rfl, Or.inl (tm_1 (List.mem_of_getElem? (i := 134) (by decide +kernel)))⟩
theorem kf_RX0_19 : ZF RX0 19 0 2 := ⟨(RX0, TX0, 13), rfl, by decide, rfl, Or.inl (tm_1 (List.mem_of_getElem? (i := 135) (by decide +kernel)))⟩
theorem kf_RX0_22 : ZF RX0 22 0 3 := ⟨(RX0, TX0, 13), rfl, by decide, rfl, Or.inl (tm_1 (List.mem_of_getElem? (i := 138) (by decide +kernel)))⟩
theorem kf_RX0_25 : ZF RX0 25 0 4 := ⟨(RX0, TX0, 13), rfl, by decide, rfl, Or.inl (tm_1 (List.mem_of_getElem? (i := 139) (by decide +kernel)))⟩
theorem kf_RX0_28 : ZF RX0 28 0 5 := ⟨(RX0, TX0, 13), rfl, by decide, rfl, Or.inl (tm_1 (List.mem_of_getElem? (i := 140) (by decide +kernel)))⟩
theorem kf_RX0_31 : ZF RX0 31 0 6 := ⟨(RX0, TX0, 13), rfl, by decide, rfl, Or.inl (tm_1 (List.mem_of_getElem? (i := 142) (by decide +kernel)))⟩
theorem kf_RX0_35 : ZF RX0 35 0 7 := ⟨(RX0, TX0, 13), rfl, by decide, rfl, Or.inl (tm_1 (List.mem_of_getElem? (i := 143) (by decide +kernel)))⟩
theorem kf_RX0_39 : ZF RX0 39 0 8 := ⟨(RX0, TX0, 13), rfl, by decide, rfl, Or.inl (tm_1 (List.mem_of_getElem? (i := 144) (by decide +kernel)))⟩
theorem kf_RX0_42 : ZF RX0 42 0 9 := ⟨(RX0, TX0, 13), rfl, by decide, rfl, Or.inl (tm_1 (List.mem_of_getElem? (i := 149) (by decide +kernel)))⟩
theorem kf_RX0_45 : ZF RX0 45 0 10 := ⟨(RX0, TX0, 13), rfl, by decide, rfl, Or.inl (tm_1 (List.mem_of_getElem? (i := 153) (by decide +kernel)))⟩
theorem kf_RX0_48 : ZF RX0 48 0 11 := ⟨(RX0, TX0, 13), rfl, by decide, rfl, Or.inl (tm_1 (List.mem_of_getElem? (i := 157) (by decide +kernel)))⟩
theorem kf_RX0_51 : ZF RX0 51 0 12 := ⟨(RX0, TX0, 13), rfl, by decide, rfl, Or.inl (tm_1 (List.mem_of_getElem? (i := 159) (by decide +kernel)))⟩
theorem kf_RX1_9 : ZF RX1 9 1 1 := ⟨(RX1, TX1, 2), rfl, by decide, rfl, Or.inl (tm_1 (List.mem_of_getElem? (i := 117) (by decide +kernel)))⟩
theorem kf_RX1_21 : ZF RX1 21 1 0 := ⟨(RX1, TX1, 2), rfl, by decide, rfl, Or.inl (tm_1 (List.mem_of_getElem? (i := 116) (by decide +kernel)))⟩
theorem kf_RX2_9 : ZF RX2 9 2 0 := ⟨(RX2, TX2, 4), rfl, by decide, rfl, Or.inl (tm_2 (List.mem_of_getElem? (i := 122) (by decide +kernel)))⟩
theorem kf_RX2_15 : ZF RX2 15 2 1 := ⟨(RX2, TX2, 4), rfl, by decide, rfl, Or.inl (tm_2 (List.mem_of_getElem? (i := 123) (by decide +kernel)))⟩
theorem kf_RX2_18 : ZF RX2 18 2 2 := ⟨(RX2, TX2, 4), rfl, by decide, rfl, Or.inl (tm_2 (List.mem_of_getElem? (i := 124) (by decide +kernel)))⟩
theorem kf_RX2_21 : ZF RX2 21 2 3 := ⟨(RX2, TX2, 4), rfl, by decide, rfl, Or.inl (tm_2 (List.mem_of_getElem? (i := 125) (by decide +kernel)))⟩
theorem kf_RX3_11 : ZF RX3 11 3 1 := ⟨(RX3, TX3, 11), rfl, by decide, rfl, Or.inl (tm_2 (List.mem_of_getElem? (i := 58) (by decide +kernel)))⟩
theorem kf_RX3_15 : ZF RX3 15 3 2 := ⟨(RX3, TX3, 11), rfl, by decide, rfl, Or.inl (tm_2 (List.mem_of_getElem? (i := 59) (by decide +kernel)))⟩
theorem kf_RX3_18 : ZF RX3 18 3 3 := ⟨(RX3, TX3, 11), rfl, by decide, rfl, Or.inl (tm_2 (List.mem_of_getElem? (i := 60) (by decide +kernel)))⟩
theorem kf_RX3_21 : ZF RX3 21 3 4 := ⟨(RX3, TX3, 11), rfl, by decide, rfl, Or.inl (tm_2 (List.mem_of_getElem? (i := 61) (by decide +kernel)))⟩
theorem kf_RX3_25 : ZF RX3 25 3 5 := ⟨(RX3, TX3, 11), rfl, by decide, rfl, Or.inl (tm_2 (List.mem_of_getElem? (i := 62) (by decide +kernel)))⟩
theorem kf_RX3_28 : ZF RX3 28 3 6 := ⟨(RX3, TX3, 11), rfl, by decide, rfl, Or.inl (tm_2 (List.mem_of_getElem? (i := 63) (by decide +kernel)))⟩
theorem kf_RX3_32 : ZF RX3 32 3 7 := ⟨(RX3, TX3, 11), rfl, by decide, rfl, Or.inl (tm_2 (List.mem_of_getElem? (i := 64) (by decide +kernel)))⟩
theorem kf_RX3_35 : ZF RX3 35 3 8 := ⟨(RX3, TX3, 11), rfl, by decide, rfl, Or.inl (tm_2 (List.mem_of_getElem? (i := 65) (by decide +kernel)))⟩
theorem kf_RX3_38 : ZF RX3 38 3 9 := ⟨(RX3, TX3, 11), rfl, by decide, rfl, Or.inl (tm_2 (List.mem_of_getElem? (i := 66) (by decide +kernel)))⟩
theorem kf_RX3_41 : ZF RX3 41 3 10 := ⟨(RX3, TX3, 11), rfl, by decide, rfl, Or.inl (tm_2 (List.mem_of_getElem? (i := 68) (by decide +kernel)))⟩
theorem kf_RX3_44 : ZF RX3 44 3 0 := ⟨(RX3, TX3, 11), rfl, by decide, rfl, Or.inl (tm_2 (List.mem_of_getElem? (i := 57) (by decide +kernel)))⟩
theorem kf_RX4_9 : ZF RX4 9 4 1 := ⟨(RX4, TX4, 10), rfl, by decide, rfl, Or.inl (tm_2 (List.mem_of_getElem? (i := 21) (by decide +kernel)))⟩
theorem kf_RX4_15 : ZF RX4 15 4 2 := ⟨(RX4, TX4, 10), rfl, by decide, rfl, Or.inl (tm_2 (List.mem_of_getElem? (i := 22) (by decide +kernel)))⟩
theorem kf_RX4_18 : ZF RX4 18 4 3 := ⟨(RX4, TX4, 10), rfl, by decide, rfl, Or.inl (tm_2 (List.mem_of_getElem? (i := 23) (by decide +kernel)))⟩
theorem kf_RX4_21 : ZF RX4 21 4 4 := ⟨(RX4, TX4, 10), rfl, by decide, rfl, Or.inl (tm_2 (List.mem_of_getElem? (i := 24) (by decide +kernel)))⟩
theorem kf_RX4_24 : ZF RX4 24 4 5 := ⟨(RX4, TX4, 10), rfl, by decide, rfl, Or.inl (tm_2 (List.mem_of_getElem? (i := 25) (by decide +kernel)))⟩
theorem kf_RX4_27 : ZF RX4 27 4 6 := ⟨(RX4, TX4, 10), rfl, by decide, rfl, Or.inl (tm_2 (List.mem_of_getElem? (i := 26) (by decide +kernel)))⟩
theorem kf_RX4_31 : ZF RX4 31 4 7 := ⟨(RX4, TX4, 10), rfl, by decide, rfl, Or.inl (tm_2 (List.mem_of_getElem? (i := 27) (by decide +kernel)))⟩
theorem kf_RX4_34 : ZF RX4 34 4 8 := ⟨(RX4, TX4, 10), rfl, by decide, rfl, Or.inl (tm_2 (List.mem_of_getElem? (i := 28) (by decide +kernel)))⟩
theorem kf_RX4_38 : ZF RX4 38 4 9 := ⟨(RX4, TX4, 10), rfl, by decide, rfl, Or.inl (tm_2 (List.mem_of_getElem? (i := 29) (by decide +kernel)))⟩
theorem kf_RX4_41 : ZF RX4 41 4 0 := ⟨(RX4, TX4, 10), rfl, by decide, rfl, Or.inl (tm_2 (List.mem_of_getElem? (i := 20) (by decide +kernel)))⟩
theorem kf_RX5_11 : ZF RX5 11 5 2 := ⟨(RX5, TX5, 16), rfl, by decide, rfl, Or.inl (tm_1 (List.mem_of_getElem? (i := 196) (by decide +kernel)))⟩
theorem kf_RX5_15 : ZF RX5 15 5 3 := ⟨(RX5, TX5, 16), rfl, by decide, rfl, Or.inl (tm_1 (List.mem_of_getElem? (i := 197) (by decide +kernel)))⟩
theorem kf_RX5_19 : ZF RX5 19 5 5 := ⟨(RX5, TX5, 16), rfl, by decide, rfl, Or.inl (tm_1 (List.mem_of_getElem? (i := 199) (by decide +kernel)))⟩
theorem kf_RX5_23 : ZF RX5 23 5 6 := ⟨(RX5, TX5, 16), rfl, by decide, rfl, Or.inl (tm_1 (List.mem_of_getElem? (i := 200) (by decide +kernel)))⟩
theorem kf_RX5_26 : ZF RX5 26 5 7 := ⟨(RX5, TX5, 16), rfl, by decide, rfl, Or.inl (tm_1 (List.mem_of_getElem? (i := 201) (by decide +kernel)))⟩
theorem kf_RX5_29 : ZF RX5 29 5 8 := ⟨(RX5, TX5, 16), rfl, by decide, rfl, Or.inl (tm_1 (List.mem_of_getElem? (i := 202) (by decide +kernel)))⟩
theorem kf_RX5_32 : ZF RX5 32 5 9 := ⟨(RX5, TX5, 16), rfl, by decide, rfl, Or.inl (tm_1 (List.mem_of_getElem? (i := 203) (by decide +kernel)))⟩
theorem kf_RX5_35 : ZF RX5 35 5 10 := ⟨(RX5, TX5, 16), rfl, by decide, rfl, Or.inl (tm_1 (List.mem_of_getElem? (i := 205) (by decide +kernel)))⟩
theorem kf_RX5_38 : ZF RX5 38 5 11 := ⟨(RX5, TX5, 16), rfl, by decide, rfl, Or.inl (tm_1 (List.mem_of_getElem? (i := 206) (by decide +kernel)))⟩
theorem kf_RX5_41 : ZF RX5 41 5 12 := ⟨(RX5, TX5, 16), rfl, by decide, rfl, Or.inl (tm_1 (List.mem_of_getElem? (i := 207) (by decide +kernel)))⟩
theorem kf_RX5_44 : ZF RX5 44 5 13 := ⟨(RX5, TX5, 16), rfl, by decide, rfl, Or.inl (tm_1 (List.mem_of_getElem? (i := 208) (by decide +kernel)))⟩
theorem kf_RX5_47 : ZF RX5 47 5 14 := ⟨(RX5, TX5, 16), rfl, by decide, rfl, Or.inl (tm_1 (List.mem_of_getElem? (i := 209) (by decide +kernel)))⟩
theorem kf_RX5_50 : ZF RX5 50 5 15 := ⟨(RX5, TX5, 16), rfl, by decide, rfl, Or.inl (tm_1 (List.mem_of_getElem? (i := 210) (by decide +kernel)))⟩
theorem kf_RX5_53 : ZF RX5 53 5 0 := ⟨(RX5, TX5, 16), rfl, by decide, rfl, Or.inl (tm_1 (List.mem_of_getElem? (i := 194) (by decide +kernel)))⟩
theorem kf_RX5_57 : ZF RX5 57 5 1 := ⟨(RX5, TX5, 16), rfl, by decide, rfl, Or.inl (tm_1 (List.mem_of_getElem? (i := 195) (by decide +kernel)))⟩
theorem kf_RX5_61 : ZF RX5 61 5 4 := ⟨(RX5, TX5, 16), rfl, by decide, rfl, Or.inl (tm_1 (List.mem_of_getElem? (i := 198) (by decide +kernel)))⟩
theorem kf_RX6_9 : ZF RX6 9 6 2 := ⟨(RX6, TX6, 5), rfl, by decide, rfl, Or.inl (tm_2 (List.mem_of_getElem? (i := 101) (by decide +kernel)))⟩
theorem kf_RX6_15 : ZF RX6 15 6 3 := ⟨(RX6, TX6, 5), rfl, by decide, rfl, Or.inl (tm_2 (List.mem_of_getElem? (i := 102) (by decide +kernel)))⟩
theorem kf_RX6_19 : ZF RX6 19 6 4 := ⟨(RX6, TX6, 5), rfl, by decide, rfl, Or.inl (tm_2 (List.mem_of_getElem? (i := 103) (by decide +kernel)))⟩
theorem kf_RX6_22 : ZF RX6 22 6 0 := ⟨(RX6, TX6, 5), rfl, by decide, rfl, Or.inl (tm_2 (List.mem_of_getElem? (i := 99) (by decide +kernel)))⟩
theorem kf_RX6_26 : ZF RX6 26 6 1 := ⟨(RX6, TX6, 5), rfl, by decide, rfl, Or.inl (tm_2 (List.mem_of_getElem? (i := 100) (by decide +kernel)))⟩
theorem kf_RX7_9 : ZF RX7 9 7 0 := ⟨(RX7, TX7, 17), rfl, by decide, rfl, Or.inl (tm_1 (List.mem_of_getElem? (i := 34) (by decide +kernel)))⟩
theorem kf_RX7_15 : ZF RX7 15 7 1 := ⟨(RX7, TX7, 17), rfl, by decide, rfl, Or.inl (tm_1 (List.mem_of_getElem? (i := 36) (by decide +kernel)))⟩
theorem kf_RX7_18 : ZF RX7 18 7 2 := ⟨(RX7, TX7, 17), rfl, by decide, rfl, Or.inl (tm_1 (List.mem_of_getElem? (i := 38) (by decide +kernel)))⟩
theorem kf_RX7_21 : ZF RX7 21 7 3 := ⟨(RX7, TX7, 17), rfl, by decide, rfl, Or.inl (tm_1 (List.mem_of_getElem? (i := 39) (by decide +kernel)))⟩
theorem kf_RX7_24 : ZF RX7 24 7 4 := ⟨(RX7, TX7, 17), rfl, by decide, rfl, Or.inl (tm_1 (List.mem_of_getElem? (i := 41) (by decide +kernel)))⟩
theorem kf_RX7_27 : ZF RX7 27 7 5 := ⟨(RX7, TX7, 17), rfl, by decide, rfl, Or.inl (tm_1 (List.mem_of_getElem? (i := 43) (by decide +kernel)))⟩
theorem kf_RX7_30 : ZF RX7 30 7 6 := ⟨(RX7, TX7, 17), rfl, by decide, rfl, Or.inl (tm_1 (List.mem_of_getElem? (i := 44) (by decide +kernel)))⟩
theorem kf_RX7_33 : ZF RX7 33 7 7 := ⟨(RX7, TX7, 17), rfl, by decide, rfl, Or.inl (tm_1 (List.mem_of_getElem? (i := 46) (by decide +kernel)))⟩
theorem kf_RX7_36 : ZF RX7 36 7 8 := ⟨(RX7, TX7, 17), rfl, by decide, rfl, Or.inl (tm_1 (List.mem_of_getElem? (i := 48) (by decide +kernel)))⟩
theorem kf_RX7_39 : ZF RX7 39 7 9 := ⟨(RX7, TX7, 17), rfl, by decide, rfl, Or.inl (tm_1 (List.mem_of_getElem? (i := 50) (by decide +kernel)))⟩
theorem kf_RX7_42 : ZF RX7 42 7 10 := ⟨(RX7, TX7, 17), rfl, by decide, rfl, Or.inl (tm_1 (List.mem_of_getElem? (i := 51) (by decide +kernel)))⟩
theorem kf_RX7_45 : ZF RX7 45 7 11 := ⟨(RX7, TX7, 17), rfl, by decide, rfl, Or.inl (tm_1 (List.mem_of_getElem? (i := 52) (by decide +kernel)))⟩
theorem kf_RX7_49 : ZF RX7 49 7 12 := ⟨(RX7, TX7, 17), rfl, by decide, rfl, Or.inl (tm_1 (List.mem_of_getElem? (i := 55) (by decide +kernel)))⟩
theorem kf_RX7_52 : ZF RX7 52 7 13 := ⟨(RX7, TX7, 17), rfl, by decide, rfl, Or.inl (tm_1 (List.mem_of_getElem? (i := 57) (by decide +kernel)))⟩
theorem kf_RX7_56 : ZF RX7 56 7 14 := ⟨(RX7, TX7, 17), rfl, by decide, rfl, Or.inl (tm_1 (List.mem_of_getElem? (i := 61) (by decide +kernel)))⟩
theorem kf_RX7_59 : ZF RX7 59 7 15 := ⟨(RX7, TX7, 17), rfl, by decide, rfl, Or.inl (tm_1 (List.mem_of_getElem? (i := 65) (by decide +kernel)))⟩
theorem kf_RX7_62 : ZF RX7 62 7 16 := ⟨(RX7, TX7, 17), rfl, by decide, rfl, Or.inl (tm_1 (List.mem_of_getElem? (i := 68) (by decide +kernel)))⟩
theorem kf_RX8_9 : ZF RX8 9 8 0 := ⟨(RX8, TX8, 1), rfl, by decide, rfl, Or.inl (tm_2 (List.mem_of_getElem? (i := 10) (by decide +kernel)))⟩
theorem kf_RX10_7 : ZF RX10 7 10 0 := ⟨(RX10, TX10, 52), rfl, by decide, rfl, Or.inl (tm_5 (List.mem_of_getElem? (i := 201) (by decide +kernel)))⟩
theorem kf_RX10_13 : ZF RX10 13 10 1 := ⟨(RX10, TX10, 52), rfl, by decide, rfl, Or.inl (tm_5 (List.mem_of_getElem? (i := 202) (by decide +kernel)))⟩
theorem kf_RX10_16 : ZF RX10 16 10 2 := ⟨(RX10, TX10, 52), rfl, by decide, rfl, Or.inl (tm_5 (List.mem_of_getElem? (i := 203) (by decide +kernel)))⟩
theorem kf_RX10_19 : ZF RX10 19 10 3 := ⟨(RX10, TX10, 52), rfl, by decide, rfl, Or.inl (tm_5 (List.mem_of_getElem? (i := 204) (by decide +kernel)))⟩
theorem kf_RX10_22 : ZF RX10 22 10 4 := ⟨(RX10, TX10, 52), rfl, by decide, rfl, Or.inl (tm_5 (List.mem_of_getElem? (i := 205) (by decide +kernel)))⟩
theorem kf_RX10_26 : ZF RX10 26 10 5 := ⟨(RX10, TX10, 52), rfl, by decide, rfl, Or.inl (tm_5 (List.mem_of_getElem? (i := 206) (by decide +kernel)))⟩
theorem kf_RX10_30 : ZF RX10 30 10 6 := ⟨(RX10, TX10, 52), rfl, by decide, rfl, Or.inl (tm_5 (List.mem_of_getElem? (i := 207) (by decide +kernel)))⟩
theorem kf_RX10_33 : ZF RX10 33 10 7 := ⟨(RX10, TX10, 52), rfl, by decide, rfl, Or.inl (tm_5 (List.mem_of_getElem? (i := 208) (by decide +kernel)))⟩
theorem kf_RX10_36 : ZF RX10 36 10 8 := ⟨(RX10, TX10, 52), rfl, by decide, rfl, Or.inl (tm_5 (List.mem_of_getElem? (i := 209) (by decide +kernel)))⟩
theorem kf_RX10_39 : ZF RX10 39 10 9 := ⟨(RX10, TX10, 52), rfl, by decide, rfl, Or.inl (tm_5 (List.mem_of_getElem? (i := 210) (by decide +kernel)))⟩
theorem kf_RX10_42 : ZF RX10 42 10 12 := ⟨(RX10, TX10, 52), rfl, by decide, rfl, Or.inl (tm_5 (List.mem_of_getElem? (i := 213) (by decide +kernel)))⟩
theorem kf_RX10_46 : ZF RX10 46 10 14 := ⟨(RX10, TX10, 52), rfl, by decide, rfl, Or.inl (tm_5 (List.mem_of_getElem? (i := 215) (by decide +kernel)))⟩
theorem kf_RX10_49 : ZF RX10 49 10 15 := ⟨(RX10, TX10, 52), rfl, by decide, rfl, Or.inl (tm_5 (List.mem_of_getElem? (i := 216) (by decide +kernel)))⟩
theorem kf_RX10_53 : ZF RX10 53 10 16 := ⟨(RX10, TX10, 52), rfl, by decide, rfl, Or.inl (tm_5 (List.mem_of_getElem? (i := 217) (by decide +kernel)))⟩
theorem kf_RX10_56 : ZF RX10 56 10 17 := ⟨(RX10, TX10, 52), rfl, by decide, rfl, Or.inl (tm_5 (List.mem_of_getElem? (i := 218) (by decide +kernel)))⟩
theorem kf_RX10_59 : ZF RX10 59 10 19 := ⟨(RX10, TX10, 52), rfl, by decide, rfl, Or.inl (tm_5 (List.mem_of_getElem? (i := 220) (by decide +kernel)))⟩
theorem kf_RX10_62 : ZF RX10 62 10 23 := ⟨(RX10, TX10, 52), rfl, by decide, rfl, Or.inl (tm_5 (List.mem_of_getElem? (i := 224) (by decide +kernel)))⟩
theorem kf_RX10_65 : ZF RX10 65 10 25 := ⟨(RX10, TX10, 52), rfl, by decide, rfl, Or.inl (tm_5 (List.mem_of_getElem? (i := 226) (by decide +kernel)))⟩
theorem kf_RX10_68 : ZF RX10 68 10 30 := ⟨(RX10, TX10, 52), rfl, by decide, rfl, Or.inl (tm_5 (List.mem_of_getElem? (i := 231) (by decide +kernel)))⟩
theorem kf_RX10_71 : ZF RX10 71 10 32 := ⟨(RX10, TX10, 52), rfl, by decide, rfl, Or.inl (tm_5 (List.mem_of_getElem? (i := 233) (by decide +kernel)))⟩
theorem kf_RX10_74 : ZF RX10 74 10 33 := ⟨(RX10, TX10, 52), rfl, by decide, rfl, Or.inl (tm_5 (List.mem_of_getElem? (i := 234) (by decide +kernel)))⟩
theorem kf_RX10_77 : ZF RX10 77 10 34 := ⟨(RX10, TX10, 52), rfl, by decide, rfl, Or.inl (tm_5 (List.mem_of_getElem? (i := 235) (by decide +kernel)))⟩
theorem kf_RX10_80 : ZF RX10 80 10 35 := ⟨(RX10, TX10, 52), rfl, by decide, rfl, Or.inl (tm_5 (List.mem_of_getElem? (i := 236) (by decide +kernel)))⟩
theorem kf_RX10_83 : ZF RX10 83 10 36 := ⟨(RX10, TX10, 52), rfl, by decide, rfl, Or.inl (tm_5 (List.mem_of_getElem? (i := 237) (by decide +kernel)))⟩
theorem kf_RX10_86 : ZF RX10 86 10 37 := ⟨(RX10, TX10, 52), rfl, by decide, rfl, Or.inl (tm_5 (List.mem_of_getElem? (i := 238) (by decide +kernel)))⟩
theorem kf_RX10_90 : ZF RX10 90 10 38 := ⟨(RX10, TX10, 52), rfl, by decide, rfl, Or.inl (tm_5 (List.mem_of_getElem? (i := 239) (by decide +kernel)))⟩
theorem kf_RX10_93 : ZF RX10 93 10 41 := ⟨(RX10, TX10, 52), rfl, by decide, rfl, Or.inl (tm_6 (List.mem_of_getElem? (i := 2) (by decide +kernel)))⟩
theorem kf_RX10_96 : ZF RX10 96 10 42 := ⟨(RX10, TX10, 52), rfl, by decide, rfl, Or.inl (tm_6 (List.mem_of_getElem? (i := 3) (by decide +kernel)))⟩
theorem kf_RX10_99 : ZF RX10 99 10 45 := ⟨(RX10, TX10, 52), rfl, by decide, rfl, Or.inl (tm_6 (List.mem_of_getElem? (i := 6) (by decide +kernel)))⟩
theorem kf_RX10_102 : ZF RX10 102 10 46 := ⟨(RX10, TX10, 52), rfl, by decide, rfl, Or.inl (tm_6 (List.mem_of_getElem? (i := 7) (by decide +kernel)))⟩
theorem kf_RX10_105 : ZF RX10 105 10 47 := ⟨(RX10, TX10, 52), rfl, by decide, rfl, Or.inl (tm_6 (List.mem_of_getElem? (i := 8) (by decide +kernel)))⟩
theorem kf_RX10_108 : ZF RX10 108 10 48 := ⟨(RX10, TX10, 52), rfl, by decide, rfl, Or.inl (tm_6 (List.mem_of_getElem? (i := 9) (by decide +kernel)))⟩
theorem kf_RX10_111 : ZF RX10 111 10 49 := ⟨(RX10, TX10, 52), rfl, by decide, rfl, Or.inl (tm_6 (List.mem_of_getElem? (i := 10) (by decide +kernel)))⟩
theorem kf_RX10_114 : ZF RX10 114 10 50 := ⟨(RX10, TX10, 52), rfl, by decide, rfl, Or.inl (tm_6 (List.mem_of_getElem? (i := 11) (by decide +kernel)))⟩
theorem kf_RX10_139 : ZF RX10 139 10 13 := ⟨(RX10, TX10, 52), rfl, by decide, rfl, Or.inl (tm_5 (List.mem_of_getElem? (i := 214) (by decide +kernel)))⟩
theorem kf_RX10_145 : ZF RX10 145 10 18 := ⟨(RX10, TX10, 52), rfl, by decide, rfl, Or.inl (tm_5 (List.mem_of_getElem? (i := 219) (by decide +kernel)))⟩
theorem kf_RX10_170 : ZF RX10 170 10 10 := ⟨(RX10, TX10, 52), rfl, by decide, rfl, Or.inl (tm_5 (List.mem_of_getElem? (i := 211) (by decide +kernel)))⟩
theorem kf_RX10_173 : ZF RX10 173 10 11 := ⟨(RX10, TX10, 52), rfl, by decide, rfl, Or.inl (tm_5 (List.mem_of_getElem? (i := 212) (by decide +kernel)))⟩
theorem kf_RX10_195 : ZF RX10 195 10 20 := ⟨(RX10, TX10, 52), rfl, by decide, rfl, Or.inl (tm_5 (List.mem_of_getElem? (i := 221) (by decide +kernel)))⟩
theorem kf_RX10_201 : ZF RX10 201 10 24 := ⟨(RX10, TX10, 52), rfl, by decide, rfl, Or.inl (tm_5 (List.mem_of_getElem? (i := 225) (by decide +kernel)))⟩
theorem kf_RX10_207 : ZF RX10 207 10 21 := ⟨(RX10, TX10, 52), rfl, by decide, rfl, Or.inl (tm_5 (List.mem_of_getElem? (i := 222) (by decide +kernel)))⟩
theorem kf_RX10_210 : ZF RX10 210 10 22 := ⟨(RX10, TX10, 52), rfl, by decide, rfl, Or.inl (tm_5 (List.mem_of_getElem? (i := 223) (by decide +kernel)))⟩
theorem kf_RX10_213 : ZF RX10 213 10 26 := ⟨(RX10, TX10, 52), rfl, by decide, rfl, Or.inl (tm_5 (List.mem_of_getElem? (i := 227) (by decide +kernel)))⟩
theorem kf_RX10_216 : ZF RX10 216 10 27 := ⟨(RX10, TX10, 52), rfl, by decide, rfl, Or.inl (tm_5 (List.mem_of_getElem? (i := 228) (by decide +kernel)))⟩
theorem kf_RX10_219 : ZF RX10 219 10 28 := ⟨(RX10, TX10, 52), rfl, by decide, rfl, Or.inl (tm_5 (List.mem_of_getElem? (i := 229) (by decide +kernel)))⟩
theorem kf_RX10_235 : ZF RX10 235 10 29 := ⟨(RX10, TX10, 52), rfl, by decide, rfl, Or.inl (tm_5 (List.mem_of_getElem? (i := 230) (by decide +kernel)))⟩
theorem kf_RX10_257 : ZF RX10 257 10 31 := ⟨(RX10, TX10, 52), rfl, by decide, rfl, Or.inl (tm_5 (List.mem_of_getElem? (i := 232) (by decide +kernel)))⟩
theorem kf_RX10_299 : ZF RX10 299 10 39 := ⟨(RX10, TX10, 52), rfl, by decide, rfl, Or.inl (tm_6 (List.mem_of_getElem? (i := 0) (by decide +kernel)))⟩
theorem kf_RX10_302 : ZF RX10 302 10 40 := ⟨(RX10, TX10, 52), rfl, by decide, rfl, Or.inl (tm_6 (List.mem_of_getElem? (i := 1) (by decide +kernel)))⟩
theorem kf_RX10_305 : ZF RX10 305 10 43 := ⟨(RX10, TX10, 52), rfl, by decide, rfl, Or.inl (tm_6 (List.mem_of_getElem? (i := 4) (by decide +kernel)))⟩
theorem kf_RX10_318 : ZF RX10 318 10 44 := ⟨(RX10, TX10, 52), rfl, by decide, rfl, Or.inl (tm_6 (List.mem_of_getElem? (i := 5) (by decide +kernel)))⟩
theorem kf_RX10_357 : ZF RX10 357 10 51 := ⟨(RX10, TX10, 52), rfl, by decide, rfl, Or.inl (tm_6 (List.mem_of_getElem? (i := 12) (by decide +kernel)))⟩
theorem kf_RX9_109 : ZF RX9 109 1 1 := ⟨(RX1, TX1, 2), rfl, by decide, rfl, Or.inr ⟨"StoneRoom", tm_1 (List.mem_of_getElem? (i := 119) (by decide +kernel))⟩⟩
theorem kf_RX9_119 : ZF RX9 119 7 13 := ⟨(RX7, TX7, 17), rfl, by decide, rfl, Or.inr ⟨"StoneRoom", tm_1 (List.mem_of_getElem? (i := 59) (by decide +kernel))⟩⟩
theorem kf_RX9_128 : ZF RX9 128 5 9 := ⟨(RX5, TX5, 16), rfl, by decide, rfl, Or.inr ⟨"StoneRoom", tm_1 (List.mem_of_getElem? (i := 204) (by decide +kernel))⟩⟩
theorem kf_RX9_142 : ZF RX9 142 7 16 := ⟨(RX7, TX7, 17), rfl, by decide, rfl, Or.inr ⟨"StoneRoom", tm_1 (List.mem_of_getElem? (i := 69) (by decide +kernel))⟩⟩
theorem kf_RX9_185 : ZF RX9 185 0 9 := ⟨(RX0, TX0, 13), rfl, by decide, rfl, Or.inr ⟨"StoneRoom", tm_1 (List.mem_of_getElem? (i := 152) (by decide +kernel))⟩⟩
theorem kf_RX9_211 : ZF RX9 211 3 9 := ⟨(RX3, TX3, 11), rfl, by decide, rfl, Or.inr ⟨"StoneRoom", tm_2 (List.mem_of_getElem? (i := 67) (by decide +kernel))⟩⟩
theorem kf_RX9_214 : ZF RX9 214 3 10 := ⟨(RX3, TX3, 11), rfl, by decide, rfl, Or.inr ⟨"StoneRoom", tm_2 (List.mem_of_getElem? (i := 69) (by decide +kernel))⟩⟩
theorem kf_RX9_224 : ZF RX9 224 7 14 := ⟨(RX7, TX7, 17), rfl, by decide, rfl, Or.inr ⟨"StoneRoom", tm_1 (List.mem_of_getElem? (i := 64) (by decide +kernel))⟩⟩
theorem kf_RX9_234 : ZF RX9 234 2 3 := ⟨(RX2, TX2, 4), rfl, by decide, rfl, Or.inr ⟨"StoneRoom", tm_2 (List.mem_of_getElem? (i := 126) (by decide +kernel))⟩⟩
theorem kf_RX9_247 : ZF RX9 247 7 15 := ⟨(RX7, TX7, 17), rfl, by decide, rfl, Or.inr ⟨"StoneRoom", tm_1 (List.mem_of_getElem? (i := 67) (by decide +kernel))⟩⟩
theorem kf_RX9_267 : ZF RX9 267 7 11 := ⟨(RX7, TX7, 17), rfl, by decide, rfl, Or.inr ⟨"StoneRoom", tm_1 (List.mem_of_getElem? (i := 54) (by decide +kernel))⟩⟩
theorem kf_RX3_115 : ZF RX3 115 0 8 := ⟨(RX0, TX0, 13), rfl, by decide, rfl, Or.inr ⟨"StoneRoom", tm_1 (List.mem_of_getElem? (i := 147) (by decide +kernel))⟩⟩
theorem kf_RX3_118 : ZF RX3 118 0 10 := ⟨(RX0, TX0, 13), rfl, by decide, rfl, Or.inr ⟨"StoneRoom", tm_1 (List.mem_of_getElem? (i := 156) (by decide +kernel))⟩⟩
theorem kf_RX3_127 : ZF RX3 127 0 11 := ⟨(RX0, TX0, 13), rfl, by decide, rfl, Or.inr ⟨"StoneRoom", tm_1 (List.mem_of_getElem? (i := 158) (by decide +kernel))⟩⟩
theorem kf_RX4_75 : ZF RX4 75 0 10 := ⟨(RX0, TX0, 13), rfl, by decide, rfl, Or.inr ⟨"StoneRoom", tm_1 (List.mem_of_getElem? (i := 154) (by decide +kernel))⟩⟩
theorem kf_RX4_84 : ZF RX4 84 0 8 := ⟨(RX0, TX0, 13), rfl, by decide, rfl, Or.inr ⟨"StoneRoom", tm_1 (List.mem_of_getElem? (i := 145) (by decide +kernel))⟩⟩
theorem kf_RX4_101 : ZF RX4 101 0 9 := ⟨(RX0, TX0, 13), rfl, by decide, rfl, Or.inr ⟨"StoneRoom", tm_1 (List.mem_of_getElem? (i := 151) (by decide +kernel))⟩⟩
theorem kf_RX4_104 : ZF RX4 104 0 2 := ⟨(RX0, TX0, 13), rfl, by decide, rfl, Or.inr ⟨"StoneRoom", tm_1 (List.mem_of_getElem? (i := 137) (by decide +kernel))⟩⟩
theorem kf_RX5_96 : ZF RX5 96 1 1 := ⟨(RX1, TX1, 2), rfl, by decide, rfl, Or.inr ⟨"StoneRoom", tm_1 (List.mem_of_getElem? (i := 120) (by decide +kernel))⟩⟩
theorem kf_RX5_103 : ZF RX5 103 7 15 := ⟨(RX7, TX7, 17), rfl, by decide, rfl, Or.inr ⟨"StoneRoom", tm_1 (List.mem_of_getElem? (i := 66) (by decide +kernel))⟩⟩
theorem kf_RX5_157 : ZF RX5 157 7 13 := ⟨(RX7, TX7, 17), rfl, by decide, rfl, Or.inr ⟨"StoneRoom", tm_1 (List.mem_of_getElem? (i := 60) (by decide +kernel))⟩⟩
theorem kf_RX5_163 : ZF RX5 163 7 14 := ⟨(RX7, TX7, 17), rfl, by decide, rfl, Or.inr ⟨"StoneRoom", tm_1 (List.mem_of_getElem? (i := 63) (by decide +kernel))⟩⟩
theorem kf_RX5_179 : ZF RX5 179 7 11 := ⟨(RX7, TX7, 17), rfl, by decide, rfl, Or.inr ⟨"StoneRoom", tm_1 (List.mem_of_getElem? (i := 53) (by decide +kernel))⟩⟩
theorem kf_RX5_197 : ZF RX5 197 0 8 := ⟨(RX0, TX0, 13), rfl, by decide, rfl, Or.inr ⟨"StoneRoom", tm_1 (List.mem_of_getElem? (i := 148) (by decide +kernel))⟩⟩
theorem kf_RX6_29 : ZF RX6 29 0 9 := ⟨(RX0, TX0, 13), rfl, by decide, rfl, Or.inr ⟨"StoneRoom", tm_1 (List.mem_of_getElem? (i := 150) (by decide +kernel))⟩⟩
theorem kf_RX6_35 : ZF RX6 35 0 2 := ⟨(RX0, TX0, 13), rfl, by decide, rfl, Or.inr ⟨"StoneRoom", tm_1 (List.mem_of_getElem? (i := 136) (by decide +kernel))⟩⟩
theorem kf_RX6_48 : ZF RX6 48 0 8 := ⟨(RX0, TX0, 13), rfl, by decide, rfl, Or.inr ⟨"StoneRoom", tm_1 (List.mem_of_getElem? (i := 146) (by decide +kernel))⟩⟩
theorem kf_RX6_63 : ZF RX6 63 0 10 := ⟨(RX0, TX0, 13), rfl, by decide, rfl, Or.inr ⟨"StoneRoom", tm_1 (List.mem_of_getElem? (i := 155) (by decide +kernel))⟩⟩
theorem kf_RX6_76 : ZF RX6 76 0 5 := ⟨(RX0, TX0, 13), rfl, by decide, rfl, Or.inr ⟨"StoneRoom", tm_1 (List.mem_of_getElem? (i := 141) (by decide +kernel))⟩⟩
theorem kf_RX7_83 : ZF RX7 83 0 12 := ⟨(RX0, TX0, 13), rfl, by decide, rfl, Or.inr ⟨"StoneRoom", tm_1 (List.mem_of_getElem? (i := 160) (by decide +kernel))⟩⟩
theorem kf_RX8_15 : ZF RX8 15 1 1 := ⟨(RX1, TX1, 2), rfl, by decide, rfl, Or.inr ⟨"StoneRoom", tm_1 (List.mem_of_getElem? (i := 118) (by decide +kernel))⟩⟩
theorem kf_RX8_39 : ZF RX8 39 7 4 := ⟨(RX7, TX7, 17), rfl, by decide, rfl, Or.inr ⟨"StoneRoom", tm_1 (List.mem_of_getElem? (i := 42) (by decide +kernel))⟩⟩
theorem kf_RX8_43 : ZF RX8 43 7 1 := ⟨(RX7, TX7, 17), rfl, by decide, rfl, Or.inr ⟨"StoneRoom", tm_1 (List.mem_of_getElem? (i := 37) (by decide +kernel))⟩⟩
theorem kf_RX8_50 : ZF RX8 50 7 0 := ⟨(RX7, TX7, 17), rfl, by decide, rfl, Or.inr ⟨"StoneRoom", tm_1 (List.mem_of_getElem? (i := 35) (by decide +kernel))⟩⟩
theorem kf_RX8_53 : ZF RX8 53 7 3 := ⟨(RX7, TX7, 17), rfl, by decide, rfl, Or.inr ⟨"StoneRoom", tm_1 (List.mem_of_getElem? (i := 40) (by decide +kernel))⟩⟩
theorem kf_RX8_60 : ZF RX8 60 7 6 := ⟨(RX7, TX7, 17), rfl, by decide, rfl, Or.inr ⟨"StoneRoom", tm_1 (List.mem_of_getElem? (i := 45) (by decide +kernel))⟩⟩
theorem kf_RX8_73 : ZF RX8 73 7 7 := ⟨(RX7, TX7, 17), rfl, by decide, rfl, Or.inr ⟨"StoneRoom", tm_1 (List.mem_of_getElem? (i := 47) (by decide +kernel))⟩⟩
theorem kf_RX8_76 : ZF RX8 76 7 8 := ⟨(RX7, TX7, 17), rfl, by decide, rfl, Or.inr ⟨"StoneRoom", tm_1 (List.mem_of_getElem? (i := 49) (by decide +kernel))⟩⟩
theorem kf_RX8_88 : ZF RX8 88 7 13 := ⟨(RX7, TX7, 17), rfl, by decide, rfl, Or.inr ⟨"StoneRoom", tm_1 (List.mem_of_getElem? (i := 58) (by decide +kernel))⟩⟩
theorem kf_RX8_94 : ZF RX8 94 7 14 := ⟨(RX7, TX7, 17), rfl, by decide, rfl, Or.inr ⟨"StoneRoom", tm_1 (List.mem_of_getElem? (i := 62) (by decide +kernel))⟩⟩
theorem kf_RX8_104 : ZF RX8 104 7 12 := ⟨(RX7, TX7, 17), rfl, by decide, rfl, Or.inr ⟨"StoneRoom", tm_1 (List.mem_of_getElem? (i := 56) (by decide +kernel))⟩⟩
theorem km_RX9_98 : ZLk RX9 98 M_X9_startGame := Or.inl (tm_2 (List.mem_of_getElem? (i := 136) (by decide +kernel)))
theorem km_RX9_102 : ZLk RX9 102 M_X9_isSize := Or.inl (tm_2 (List.mem_of_getElem? (i := 237) (by decide +kernel)))
theorem km_RX9_106 : ZLk RX9 106 M_X9_isKomi := Or.inl (tm_2 (List.mem_of_getElem? (i := 238) (by decide +kernel)))
theorem km_RX9_125 : ZLk RX9 125 M_X9_moveTo := Or.inl (tm_2 (List.mem_of_getElem? (i := 174) (by decide +kernel)))
theorem km_RX9_139 : ZLk RX9 139 M_X9_statusOf := Or.inl (tm_4 (List.mem_of_getElem? (i := 83) (by decide +kernel)))
theorem km_RX9_200 : ZLk RX9 200 M_X9_isColour := Or.inl (tm_4 (List.mem_of_getElem? (i := 224) (by decide +kernel)))
theorem km_RX9_221 : ZLk RX9 221 M_X9_scoreOf := Or.inl (tm_5 (List.mem_of_getElem? (i := 81) (by decide +kernel)))
theorem km_RX9_227 : ZLk RX9 227 M_X9_isSeconds := Or.inl (tm_5 (List.mem_of_getElem? (i := 130) (by decide +kernel)))
theorem km_RX9_238 : ZLk RX9 238 M_X9_clockOf := Or.inl (tm_5 (List.mem_of_getElem? (i := 142) (by decide +kernel)))
theorem km_RX9_278 : ZLk RX9 278 M_X9_boardStatus := Or.inl (tm_4 (List.mem_of_getElem? (i := 88) (by decide +kernel)))
theorem km_RX9_285 : ZLk RX9 285 M_X9_otherColour := Or.inl (tm_5 (List.mem_of_getElem? (i := 85) (by decide +kernel)))
theorem km_RX0_54 : ZLk RX0 54 M_J7_fill_031fb := Or.inl (tm_2 (List.mem_of_getElem? (i := 148) (by decide +kernel)))
theorem km_RX0_64 : ZLk RX0 64 M_X0_layNeighbours := Or.inl (tm_2 (List.mem_of_getElem? (i := 154) (by decide +kernel)))
theorem km_RX0_68 : ZLk RX0 68 M_X0_shape := Or.inl (tm_4 (List.mem_of_getElem? (i := 97) (by decide +kernel)))
theorem km_RX0_78 : ZLk RX0 78 M_X0_store := Or.inl (tm_3 (List.mem_of_getElem? (i := 189) (by decide +kernel)))
theorem km_RX0_86 : ZLk RX0 86 M_X0_contentOf := Or.inl (tm_3 (List.mem_of_getElem? (i := 133) (by decide +kernel)))
theorem km_RX0_90 : ZLk RX0 90 M_X0_has := Or.inl (tm_3 (List.mem_of_getElem? (i := 117) (by decide +kernel)))
theorem km_RX0_93 : ZLk RX0 93 M_X0_gather := Or.inl (tm_3 (List.mem_of_getElem? (i := 137) (by decide +kernel)))
theorem km_RX0_96 : ZLk RX0 96 M_J9_min_7cf53 := Or.inl (tm_4 (List.mem_of_getElem? (i := 161) (by decide +kernel)))
theorem km_RX0_105 : ZLk RX0 105 M_X0_neighbour := Or.inl (tm_3 (List.mem_of_getElem? (i := 177) (by decide +kernel)))
theorem km_RX0_108 : ZLk RX0 108 M_X0_takeIfStifled := Or.inl (tm_3 (List.mem_of_getElem? (i := 181) (by decide +kernel)))
theorem km_RX0_111 : ZLk RX0 111 M_X0_liberties := Or.inl (tm_3 (List.mem_of_getElem? (i := 141) (by decide +kernel)))
theorem km_RX0_115 : ZLk RX0 115 M_X0_gatheredSince := Or.inl (tm_3 (List.mem_of_getElem? (i := 125) (by decide +kernel)))
theorem km_RX0_119 : ZLk RX0 119 M_X0_gatherChain := Or.inl (tm_3 (List.mem_of_getElem? (i := 129) (by decide +kernel)))
theorem km_RX1_15 : ZLk RX1 15 M_J9_max_7cf53 := Or.inl (tm_1 (List.mem_of_getElem? (i := 113) (by decide +kernel)))
theorem km_RX1_25 : ZLk RX1 25 M_X1_addByte := Or.inl (tm_3 (List.mem_of_getElem? (i := 13) (by decide +kernel)))
theorem km_RX2_25 : ZLk RX2 25 M_J9_max_7cf53 := Or.inl (tm_5 (List.mem_of_getElem? (i := 150) (by decide +kernel)))
theorem km_RX2_31 : ZLk RX2 31 M_J9_min_7cf53 := Or.inl (tm_5 (List.mem_of_getElem? (i := 151) (by decide +kernel)))
theorem km_RX3_58 : ZLk RX3 58 M_X3_enterLevel := Or.inl (tm_5 (List.mem_of_getElem? (i := 8) (by decide +kernel)))
theorem km_RX3_62 : ZLk RX3 62 M_X3_goOn := Or.inl (tm_5 (List.mem_of_getElem? (i := 41) (by decide +kernel)))
theorem km_RX3_66 : ZLk RX3 66 M_X3_nextMove := Or.inl (tm_5 (List.mem_of_getElem? (i := 45) (by decide +kernel)))
theorem km_RX3_69 : ZLk RX3 69 M_X3_leaveBeaten := Or.inl (tm_5 (List.mem_of_getElem? (i := 49) (by decide +kernel)))
theorem km_RX3_72 : ZLk RX3 72 M_X3_attempt := Or.inl (tm_5 (List.mem_of_getElem? (i := 57) (by decide +kernel)))
theorem km_RX3_75 : ZLk RX3 75 M_X3_leaveWinning := Or.inl (tm_5 (List.mem_of_getElem? (i := 53) (by decide +kernel)))
theorem km_RX3_82 : ZLk RX3 82 M_X3_isHunterLevel := Or.inl (tm_5 (List.mem_of_getElem? (i := 14) (by decide +kernel)))
theorem km_RX3_109 : ZLk RX3 109 M_X3_addLiberties := Or.inl (tm_5 (List.mem_of_getElem? (i := 18) (by decide +kernel)))
theorem km_RX3_112 : ZLk RX3 112 M_X3_addRescues := Or.inl (tm_5 (List.mem_of_getElem? (i := 30) (by decide +kernel)))
theorem km_RX3_124 : ZLk RX3 124 M_X3_addMove := Or.inl (tm_5 (List.mem_of_getElem? (i := 26) (by decide +kernel)))
theorem km_RX3_133 : ZLk RX3 133 M_X3_isMove := Or.inl (tm_5 (List.mem_of_getElem? (i := 37) (by decide +kernel)))
theorem km_RX4_45 : ZLk RX4 45 M_X4_survey := Or.inl (tm_4 (List.mem_of_getElem? (i := 171) (by decide +kernel)))
theorem km_RX4_55 : ZLk RX4 55 M_J13_bitCount_95d88 := Or.inl (tm_4 (List.mem_of_getElem? (i := 232) (by decide +kernel)))
theorem km_RX4_68 : ZLk RX4 68 M_X4_livingChains := Or.inl (tm_4 (List.mem_of_getElem? (i := 196) (by decide +kernel)))
theorem km_RX4_72 : ZLk RX4 72 M_X4_numberChains := Or.inl (tm_4 (List.mem_of_getElem? (i := 175) (by decide +kernel)))
theorem km_RX4_78 : ZLk RX4 78 M_J7_fill_53178 := Or.inl (tm_4 (List.mem_of_getElem? (i := 179) (by decide +kernel)))
theorem km_RX4_95 : ZLk RX4 95 M_X4_measureRegion := Or.inl (tm_4 (List.mem_of_getElem? (i := 185) (by decide +kernel)))
theorem km_RX4_113 : ZLk RX4 113 M_X4_chainsBeside := Or.inl (tm_4 (List.mem_of_getElem? (i := 191) (by decide +kernel)))
theorem km_RX4_121 : ZLk RX4 121 M_X4_chainsWithTwo := Or.inl (tm_4 (List.mem_of_getElem? (i := 200) (by decide +kernel)))
theorem km_RX4_125 : ZLk RX4 125 M_X4_regionsAmong := Or.inl (tm_4 (List.mem_of_getElem? (i := 204) (by decide +kernel)))
theorem km_RX5_65 : ZLk RX5 65 M_X5_startText := Or.inl (tm_3 (List.mem_of_getElem? (i := 29) (by decide +kernel)))
theorem km_RX5_69 : ZLk RX5 69 M_X5_skipBlanks := Or.inl (tm_3 (List.mem_of_getElem? (i := 34) (by decide +kernel)))
theorem km_RX5_78 : ZLk RX5 78 M_X5_readNode := Or.inl (tm_3 (List.mem_of_getElem? (i := 45) (by decide +kernel)))
theorem km_RX5_81 : ZLk RX5 81 M_X5_openTree := Or.inl (tm_3 (List.mem_of_getElem? (i := 203) (by decide +kernel)))
theorem km_RX5_84 : ZLk RX5 84 M_X5_closeTree := Or.inl (tm_3 (List.mem_of_getElem? (i := 207) (by decide +kernel)))
theorem km_RX5_87 : ZLk RX5 87 M_X5_fail := Or.inl (tm_3 (List.mem_of_getElem? (i := 49) (by decide +kernel)))
theorem km_RX5_99 : ZLk RX5 99 M_X5_isBlank := Or.inl (tm_3 (List.mem_of_getElem? (i := 42) (by decide +kernel)))
theorem km_RX5_106 : ZLk RX5 106 M_J7_fill_d0a16 := Or.inl (tm_3 (List.mem_of_getElem? (i := 53) (by decide +kernel)))
theorem km_RX5_112 : ZLk RX5 112 M_X5_isGreat := Or.inl (tm_3 (List.mem_of_getElem? (i := 56) (by decide +kernel)))
theorem km_RX5_115 : ZLk RX5 115 M_X5_readProperty := Or.inl (tm_3 (List.mem_of_getElem? (i := 59) (by decide +kernel)))
theorem km_RX5_118 : ZLk RX5 118 M_X5_settleSets := Or.inl (tm_3 (List.mem_of_getElem? (i := 102) (by decide +kernel)))
theorem km_RX5_121 : ZLk RX5 121 M_X5_settleMove := Or.inl (tm_3 (List.mem_of_getElem? (i := 161) (by decide +kernel)))
theorem km_RX5_124 : ZLk RX5 124 M_X5_nameOf := Or.inl (tm_3 (List.mem_of_getElem? (i := 63) (by decide +kernel)))
theorem km_RX5_128 : ZLk RX5 128 M_X5_isMisplaced := Or.inl (tm_3 (List.mem_of_getElem? (i := 67) (by decide +kernel)))
theorem km_RX5_131 : ZLk RX5 131 M_X5_readValue := Or.inl (tm_3 (List.mem_of_getElem? (i := 71) (by decide +kernel)))
theorem km_RX5_134 : ZLk RX5 134 M_X5_closingBehind := Or.inl (tm_3 (List.mem_of_getElem? (i := 75) (by decide +kernel)))
theorem km_RX5_137 : ZLk RX5 137 M_X5_pointIn := Or.inl (tm_3 (List.mem_of_getElem? (i := 79) (by decide +kernel)))
theorem km_RX5_140 : ZLk RX5 140 M_X5_takeSetting := Or.inl (tm_3 (List.mem_of_getElem? (i := 83) (by decide +kernel)))
theorem km_RX5_144 : ZLk RX5 144 M_X5_numberIn := Or.inl (tm_3 (List.mem_of_getElem? (i := 88) (by decide +kernel)))
theorem km_RX5_147 : ZLk RX5 147 M_X5_takeSize := Or.inl (tm_3 (List.mem_of_getElem? (i := 92) (by decide +kernel)))
theorem km_RX5_150 : ZLk RX5 150 M_X5_takeKomi := Or.inl (tm_3 (List.mem_of_getElem? (i := 97) (by decide +kernel)))
theorem km_RX5_186 : ZLk RX5 186 M_X5_layBoardBehind := Or.inl (tm_3 (List.mem_of_getElem? (i := 106) (by decide +kernel)))
theorem km_RX5_207 : ZLk RX5 207 M_X5_turnBehindSets := Or.inl (tm_3 (List.mem_of_getElem? (i := 145) (by decide +kernel)))
theorem km_RX6_38 : ZLk RX6 38 M_J7_fill_53178 := Or.inl (tm_5 (List.mem_of_getElem? (i := 90) (by decide +kernel)))
theorem km_RX6_73 : ZLk RX6 73 M_X6_giveToOwner := Or.inl (tm_5 (List.mem_of_getElem? (i := 97) (by decide +kernel)))
theorem km_RX7_65 : ZLk RX7 65 M_X7_has := Or.inl (tm_2 (List.mem_of_getElem? (i := 170) (by decide +kernel)))
theorem km_RX7_69 : ZLk RX7 69 M_X7_addNode := Or.inl (tm_2 (List.mem_of_getElem? (i := 162) (by decide +kernel)))
theorem km_RX7_92 : ZLk RX7 92 M_X7_kindOf := Or.inl (tm_4 (List.mem_of_getElem? (i := 104) (by decide +kernel)))
theorem km_RX7_95 : ZLk RX7 95 M_X7_parentOf := Or.inl (tm_4 (List.mem_of_getElem? (i := 108) (by decide +kernel)))
theorem km_RX7_108 : ZLk RX7 108 M_X7_isBarred := Or.inl (tm_3 (List.mem_of_getElem? (i := 191) (by decide +kernel)))
theorem km_RX8_31 : ZLk RX8 31 M_X8_writeNode := Or.inl (tm_3 (List.mem_of_getElem? (i := 225) (by decide +kernel)))
theorem km_RX8_35 : ZLk RX8 35 M_X8_nextToWrite := Or.inl (tm_4 (List.mem_of_getElem? (i := 66) (by decide +kernel)))
theorem km_RX8_56 : ZLk RX8 56 M_X8_writeHead := Or.inl (tm_3 (List.mem_of_getElem? (i := 229) (by decide +kernel)))
theorem km_RX8_65 : ZLk RX8 65 M_X8_writeSetting := Or.inl (tm_4 (List.mem_of_getElem? (i := 55) (by decide +kernel)))
theorem km_RX8_79 : ZLk RX8 79 M_X8_writePoint := Or.inl (tm_4 (List.mem_of_getElem? (i := 60) (by decide +kernel)))
theorem km_RX8_91 : ZLk RX8 91 M_X8_writeNumber := Or.inl (tm_4 (List.mem_of_getElem? (i := 46) (by decide +kernel)))
theorem km_RX8_99 : ZLk RX8 99 M_J9_abs_0f7a4 := Or.inl (tm_4 (List.mem_of_getElem? (i := 50) (by decide +kernel)))
theorem km_law_9 : ZLk "StoneRoomLaw" 9 M_X9_init := Or.inl (tm_1 (List.mem_of_getElem? (i := 22) (by decide +kernel)))
theorem km_law_12 : ZLk "StoneRoomLaw" 12 M_X10_init := Or.inl (tm_5 (List.mem_of_getElem? (i := 171) (by decide +kernel)))
theorem km_law_13 : ZLk "StoneRoomLaw" 13 M_X9_begin := Or.inl (tm_2 (List.mem_of_getElem? (i := 233) (by decide +kernel)))
theorem km_law_17 : ZLk "StoneRoomLaw" 17 M_X10_begin := Or.inl (tm_6 (List.mem_of_getElem? (i := 118) (by decide +kernel)))
theorem km_law_18 : ZLk "StoneRoomLaw" 18 M_X9_ko := Or.inl (tm_3 (List.mem_of_getElem? (i := 1) (by decide +kernel)))
theorem km_law_22 : ZLk "StoneRoomLaw" 22 M_X10_ko := Or.inl (tm_6 (List.mem_of_getElem? (i := 126) (by decide +kernel)))
theorem km_law_23 : ZLk "StoneRoomLaw" 23 M_X9_feed := Or.inl (tm_3 (List.mem_of_getElem? (i := 5) (by decide +kernel)))
theorem km_law_27 : ZLk "StoneRoomLaw" 27 M_X10_feed := Or.inl (tm_6 (List.mem_of_getElem? (i := 202) (by decide +kernel)))
theorem km_law_28 : ZLk "StoneRoomLaw" 28 M_X9_end := Or.inl (tm_3 (List.mem_of_getElem? (i := 17) (by decide +kernel)))
theorem km_law_31 : ZLk "StoneRoomLaw" 31 M_X10_end := Or.inl (tm_6 (List.mem_of_getElem? (i := 210) (by decide +kernel)))
theorem km_law_32 : ZLk "StoneRoomLaw" 32 M_X9_read := Or.inl (tm_3 (List.mem_of_getElem? (i := 21) (by decide +kernel)))
theorem km_law_36 : ZLk "StoneRoomLaw" 36 M_X10_read := Or.inl (tm_6 (List.mem_of_getElem? (i := 218) (by decide +kernel)))
theorem km_law_37 : ZLk "StoneRoomLaw" 37 M_X9_place := Or.inl (tm_3 (List.mem_of_getElem? (i := 211) (by decide +kernel)))
theorem km_law_40 : ZLk "StoneRoomLaw" 40 M_X10_place := Or.inl (tm_6 (List.mem_of_getElem? (i := 214) (by decide +kernel)))
theorem km_law_41 : ZLk "StoneRoomLaw" 41 M_X9_write := Or.inl (tm_3 (List.mem_of_getElem? (i := 215) (by decide +kernel)))
theorem km_law_44 : ZLk "StoneRoomLaw" 44 M_X10_write := Or.inl (tm_7 (List.mem_of_getElem? (i := 26) (by decide +kernel)))
theorem km_law_45 : ZLk "StoneRoomLaw" 45 M_X9_octet := Or.inl (tm_4 (List.mem_of_getElem? (i := 74) (by decide +kernel)))
theorem km_law_48 : ZLk "StoneRoomLaw" 48 M_X10_octet := Or.inl (tm_7 (List.mem_of_getElem? (i := 50) (by decide +kernel)))
theorem km_law_49 : ZLk "StoneRoomLaw" 49 M_X9_let := Or.inl (tm_4 (List.mem_of_getElem? (i := 79) (by decide +kernel)))
theorem km_law_52 : ZLk "StoneRoomLaw" 52 M_X10_let := Or.inl (tm_6 (List.mem_of_getElem? (i := 130) (by decide +kernel)))
theorem km_law_53 : ZLk "StoneRoomLaw" 53 M_X9_play := Or.inl (tm_4 (List.mem_of_getElem? (i := 113) (by decide +kernel)))
theorem km_law_56 : ZLk "StoneRoomLaw" 56 M_X10_play := Or.inl (tm_6 (List.mem_of_getElem? (i := 178) (by decide +kernel)))
theorem km_law_57 : ZLk "StoneRoomLaw" 57 M_X9_back := Or.inl (tm_4 (List.mem_of_getElem? (i := 118) (by decide +kernel)))
theorem km_law_60 : ZLk "StoneRoomLaw" 60 M_X10_back := Or.inl (tm_6 (List.mem_of_getElem? (i := 186) (by decide +kernel)))
theorem km_law_61 : ZLk "StoneRoomLaw" 61 M_X9_on := Or.inl (tm_4 (List.mem_of_getElem? (i := 123) (by decide +kernel)))
theorem km_law_65 : ZLk "StoneRoomLaw" 65 M_X10_on := Or.inl (tm_6 (List.mem_of_getElem? (i := 190) (by decide +kernel)))
theorem km_law_66 : ZLk "StoneRoomLaw" 66 M_X9_to := Or.inl (tm_4 (List.mem_of_getElem? (i := 131) (by decide +kernel)))
theorem km_law_69 : ZLk "StoneRoomLaw" 69 M_X10_to := Or.inl (tm_6 (List.mem_of_getElem? (i := 194) (by decide +kernel)))
theorem km_law_70 : ZLk "StoneRoomLaw" 70 M_X9_node := Or.inl (tm_4 (List.mem_of_getElem? (i := 135) (by decide +kernel)))
theorem km_law_74 : ZLk "StoneRoomLaw" 74 M_X10_node := Or.inl (tm_6 (List.mem_of_getElem? (i := 198) (by decide +kernel)))
theorem km_law_75 : ZLk "StoneRoomLaw" 75 M_X9_at := Or.inl (tm_4 (List.mem_of_getElem? (i := 143) (by decide +kernel)))
theorem km_law_78 : ZLk "StoneRoomLaw" 78 M_X10_at := Or.inl (tm_7 (List.mem_of_getElem? (i := 54) (by decide +kernel)))
theorem km_law_79 : ZLk "StoneRoomLaw" 79 M_X9_chain := Or.inl (tm_4 (List.mem_of_getElem? (i := 148) (by decide +kernel)))
theorem km_law_82 : ZLk "StoneRoomLaw" 82 M_X10_chain := Or.inl (tm_7 (List.mem_of_getElem? (i := 66) (by decide +kernel)))
theorem km_law_83 : ZLk "StoneRoomLaw" 83 M_X9_liberty := Or.inl (tm_4 (List.mem_of_getElem? (i := 212) (by decide +kernel)))
theorem km_law_86 : ZLk "StoneRoomLaw" 86 M_X10_liberty := Or.inl (tm_7 (List.mem_of_getElem? (i := 94) (by decide +kernel)))
theorem km_law_87 : ZLk "StoneRoomLaw" 87 M_X9_region := Or.inl (tm_4 (List.mem_of_getElem? (i := 220) (by decide +kernel)))
theorem km_law_91 : ZLk "StoneRoomLaw" 91 M_X10_region := Or.inl (tm_7 (List.mem_of_getElem? (i := 98) (by decide +kernel)))
theorem km_law_92 : ZLk "StoneRoomLaw" 92 M_X9_ladder := Or.inl (tm_4 (List.mem_of_getElem? (i := 238) (by decide +kernel)))
theorem km_law_95 : ZLk "StoneRoomLaw" 95 M_X10_ladder := Or.inl (tm_7 (List.mem_of_getElem? (i := 102) (by decide +kernel)))
theorem km_law_96 : ZLk "StoneRoomLaw" 96 M_X9_steps := Or.inl (tm_5 (List.mem_of_getElem? (i := 65) (by decide +kernel)))
theorem km_law_99 : ZLk "StoneRoomLaw" 99 M_X10_steps := Or.inl (tm_7 (List.mem_of_getElem? (i := 150) (by decide +kernel)))
theorem km_law_100 : ZLk "StoneRoomLaw" 100 M_X9_dead := Or.inl (tm_5 (List.mem_of_getElem? (i := 69) (by decide +kernel)))
theorem km_law_104 : ZLk "StoneRoomLaw" 104 M_X10_dead := Or.inl (tm_7 (List.mem_of_getElem? (i := 154) (by decide +kernel)))
theorem km_law_105 : ZLk "StoneRoomLaw" 105 M_X9_score := Or.inl (tm_5 (List.mem_of_getElem? (i := 77) (by decide +kernel)))
theorem km_law_108 : ZLk "StoneRoomLaw" 108 M_X10_score := Or.inl (tm_7 (List.mem_of_getElem? (i := 158) (by decide +kernel)))
theorem km_law_109 : ZLk "StoneRoomLaw" 109 M_X9_ahead := Or.inl (tm_5 (List.mem_of_getElem? (i := 122) (by decide +kernel)))
theorem km_law_112 : ZLk "StoneRoomLaw" 112 M_X10_ahead := Or.inl (tm_7 (List.mem_of_getElem? (i := 174) (by decide +kernel)))
theorem km_law_113 : ZLk "StoneRoomLaw" 113 M_X9_clocks := Or.inl (tm_5 (List.mem_of_getElem? (i := 126) (by decide +kernel)))
theorem km_law_117 : ZLk "StoneRoomLaw" 117 M_X10_clocks := Or.inl (tm_7 (List.mem_of_getElem? (i := 179) (by decide +kernel)))
theorem km_law_118 : ZLk "StoneRoomLaw" 118 M_X9_clock := Or.inl (tm_5 (List.mem_of_getElem? (i := 138) (by decide +kernel)))
theorem km_law_121 : ZLk "StoneRoomLaw" 121 M_X10_clock := Or.inl (tm_7 (List.mem_of_getElem? (i := 184) (by decide +kernel)))
theorem km_law_122 : ZLk "StoneRoomLaw" 122 M_X9_time := Or.inl (tm_5 (List.mem_of_getElem? (i := 152) (by decide +kernel)))
theorem km_law_125 : ZLk "StoneRoomLaw" 125 M_X10_time := Or.inl (tm_7 (List.mem_of_getElem? (i := 188) (by decide +kernel)))
theorem km_law_126 : ZLk "StoneRoomLaw" 126 M_X9_count := Or.inl (tm_5 (List.mem_of_getElem? (i := 160) (by decide +kernel)))
theorem km_law_129 : ZLk "StoneRoomLaw" 129 M_X10_count := Or.inl (tm_7 (List.mem_of_getElem? (i := 192) (by decide +kernel)))
theorem km_RX10_117 : ZLk RX10 117 M_X10_empties := Or.inl (tm_5 (List.mem_of_getElem? (i := 177) (by decide +kernel)))
theorem km_RX10_121 : ZLk RX10 121 M_X10_opens := Or.inl (tm_5 (List.mem_of_getElem? (i := 181) (by decide +kernel)))
theorem km_RX10_125 : ZLk RX10 125 M_X10_comes := Or.inl (tm_5 (List.mem_of_getElem? (i := 185) (by decide +kernel)))
theorem km_RX10_129 : ZLk RX10 129 M_X10_settles := Or.inl (tm_5 (List.mem_of_getElem? (i := 189) (by decide +kernel)))
theorem km_RX10_133 : ZLk RX10 133 M_X10_load := Or.inl (tm_5 (List.mem_of_getElem? (i := 193) (by decide +kernel)))
theorem km_RX10_136 : ZLk RX10 136 M_X10_keep := Or.inl (tm_5 (List.mem_of_getElem? (i := 197) (by decide +kernel)))
theorem km_RX10_142 : ZLk RX10 142 M_X10_beside := Or.inl (tm_6 (List.mem_of_getElem? (i := 150) (by decide +kernel)))
theorem km_RX10_148 : ZLk RX10 148 M_X10_flood := Or.inl (tm_6 (List.mem_of_getElem? (i := 154) (by decide +kernel)))
theorem km_RX10_152 : ZLk RX10 152 M_X10_takes := Or.inl (tm_6 (List.mem_of_getElem? (i := 158) (by decide +kernel)))
theorem km_RX10_156 : ZLk RX10 156 M_X10_isBoard := Or.inl (tm_6 (List.mem_of_getElem? (i := 166) (by decide +kernel)))
theorem km_RX10_160 : ZLk RX10 160 M_X10_turn := Or.inl (tm_6 (List.mem_of_getElem? (i := 138) (by decide +kernel)))
theorem km_RX10_163 : ZLk RX10 163 M_X10_put := Or.inl (tm_6 (List.mem_of_getElem? (i := 146) (by decide +kernel)))
theorem km_RX10_167 : ZLk RX10 167 M_X10_isBarred := Or.inl (tm_6 (List.mem_of_getElem? (i := 162) (by decide +kernel)))
theorem km_RX10_176 : ZLk RX10 176 M_X10_why := Or.inl (tm_6 (List.mem_of_getElem? (i := 142) (by decide +kernel)))
theorem km_RX10_180 : ZLk RX10 180 M_X10_isOver := Or.inl (tm_6 (List.mem_of_getElem? (i := 170) (by decide +kernel)))
theorem km_RX10_183 : ZLk RX10 183 M_X10_child := Or.inl (tm_6 (List.mem_of_getElem? (i := 174) (by decide +kernel)))
theorem km_RX10_186 : ZLk RX10 186 M_X10_clears := Or.inl (tm_6 (List.mem_of_getElem? (i := 122) (by decide +kernel)))
theorem km_RX10_189 : ZLk RX10 189 M_X10_status := Or.inl (tm_6 (List.mem_of_getElem? (i := 134) (by decide +kernel)))
theorem km_RX10_192 : ZLk RX10 192 M_X10_moves := Or.inl (tm_6 (List.mem_of_getElem? (i := 182) (by decide +kernel)))
theorem km_RX10_198 : ZLk RX10 198 M_X10_four := Or.inl (tm_6 (List.mem_of_getElem? (i := 206) (by decide +kernel)))
theorem km_RX10_204 : ZLk RX10 204 M_X10_see := Or.inl (tm_6 (List.mem_of_getElem? (i := 230) (by decide +kernel)))
theorem km_RX10_222 : ZLk RX10 222 M_X10_trees := Or.inl (tm_6 (List.mem_of_getElem? (i := 222) (by decide +kernel)))
theorem km_RX10_226 : ZLk RX10 226 M_X10_blanks := Or.inl (tm_6 (List.mem_of_getElem? (i := 226) (by decide +kernel)))
theorem km_RX10_229 : ZLk RX10 229 M_X10_fault := Or.inl (tm_6 (List.mem_of_getElem? (i := 234) (by decide +kernel)))
theorem km_RX10_232 : ZLk RX10 232 M_X10_aNode := Or.inl (tm_6 (List.mem_of_getElem? (i := 238) (by decide +kernel)))
theorem km_RX10_238 : ZLk RX10 238 M_X10_property := Or.inl (tm_7 (List.mem_of_getElem? (i := 2) (by decide +kernel)))
theorem km_RX10_241 : ZLk RX10 241 M_X10_isName := Or.inl (tm_7 (List.mem_of_getElem? (i := 10) (by decide +kernel)))
theorem km_RX10_245 : ZLk RX10 245 M_X10_nameFrom := Or.inl (tm_7 (List.mem_of_getElem? (i := 6) (by decide +kernel)))
theorem km_RX10_248 : ZLk RX10 248 M_X10_isValue := Or.inl (tm_7 (List.mem_of_getElem? (i := 14) (by decide +kernel)))
theorem km_RX10_251 : ZLk RX10 251 M_X10_digits := Or.inl (tm_7 (List.mem_of_getElem? (i := 18) (by decide +kernel)))
theorem km_RX10_254 : ZLk RX10 254 M_X10_pointFrom := Or.inl (tm_7 (List.mem_of_getElem? (i := 22) (by decide +kernel)))
theorem km_RX10_260 : ZLk RX10 260 M_X10_puts := Or.inl (tm_7 (List.mem_of_getElem? (i := 30) (by decide +kernel)))
theorem km_RX10_263 : ZLk RX10 263 M_X10_putsNumber := Or.inl (tm_7 (List.mem_of_getElem? (i := 38) (by decide +kernel)))
theorem km_RX10_266 : ZLk RX10 266 M_X10_putsPoint := Or.inl (tm_7 (List.mem_of_getElem? (i := 42) (by decide +kernel)))
theorem km_RX10_269 : ZLk RX10 269 M_X10_putsNode := Or.inl (tm_7 (List.mem_of_getElem? (i := 34) (by decide +kernel)))
theorem km_RX10_272 : ZLk RX10 272 M_X10_childOf := Or.inl (tm_7 (List.mem_of_getElem? (i := 46) (by decide +kernel)))
theorem km_RX10_275 : ZLk RX10 275 M_X10_shows := Or.inl (tm_7 (List.mem_of_getElem? (i := 58) (by decide +kernel)))
theorem km_RX10_278 : ZLk RX10 278 M_X10_isPoint := Or.inl (tm_7 (List.mem_of_getElem? (i := 62) (by decide +kernel)))
theorem km_RX10_281 : ZLk RX10 281 M_X10_isStone := Or.inl (tm_7 (List.mem_of_getElem? (i := 70) (by decide +kernel)))
theorem km_RX10_284 : ZLk RX10 284 M_X10_head := Or.inl (tm_7 (List.mem_of_getElem? (i := 74) (by decide +kernel)))
theorem km_RX10_287 : ZLk RX10 287 M_X10_stones := Or.inl (tm_7 (List.mem_of_getElem? (i := 78) (by decide +kernel)))
theorem km_RX10_290 : ZLk RX10 290 M_X10_lives := Or.inl (tm_7 (List.mem_of_getElem? (i := 82) (by decide +kernel)))
theorem km_RX10_293 : ZLk RX10 293 M_X10_regions := Or.inl (tm_7 (List.mem_of_getElem? (i := 86) (by decide +kernel)))
theorem km_RX10_296 : ZLk RX10 296 M_X10_isVital := Or.inl (tm_7 (List.mem_of_getElem? (i := 90) (by decide +kernel)))
theorem km_RX10_309 : ZLk RX10 309 M_X10_pushes := Or.inl (tm_7 (List.mem_of_getElem? (i := 118) (by decide +kernel)))
theorem km_RX10_312 : ZLk RX10 312 M_X10_isBack := Or.inl (tm_7 (List.mem_of_getElem? (i := 122) (by decide +kernel)))
theorem km_RX10_315 : ZLk RX10 315 M_X10_pops := Or.inl (tm_7 (List.mem_of_getElem? (i := 126) (by decide +kernel)))
theorem km_RX10_321 : ZLk RX10 321 M_X10_freeBehind := Or.inl (tm_7 (List.mem_of_getElem? (i := 106) (by decide +kernel)))
theorem km_RX10_324 : ZLk RX10 324 M_X10_tries := Or.inl (tm_7 (List.mem_of_getElem? (i := 114) (by decide +kernel)))
theorem km_RX10_327 : ZLk RX10 327 M_X10_isSaved := Or.inl (tm_7 (List.mem_of_getElem? (i := 130) (by decide +kernel)))
theorem km_RX10_330 : ZLk RX10 330 M_X10_takesBeside := Or.inl (tm_7 (List.mem_of_getElem? (i := 134) (by decide +kernel)))
theorem km_RX10_333 : ZLk RX10 333 M_X10_saves := Or.inl (tm_7 (List.mem_of_getElem? (i := 142) (by decide +kernel)))
theorem km_RX10_336 : ZLk RX10 336 M_X10_isOfTarget := Or.inl (tm_7 (List.mem_of_getElem? (i := 138) (by decide +kernel)))
theorem km_RX10_339 : ZLk RX10 339 M_X10_mine := Or.inl (tm_7 (List.mem_of_getElem? (i := 146) (by decide +kernel)))
theorem km_RX10_342 : ZLk RX10 342 M_X10_takesChain := Or.inl (tm_7 (List.mem_of_getElem? (i := 110) (by decide +kernel)))
theorem km_RX10_345 : ZLk RX10 345 M_X10_counts := Or.inl (tm_7 (List.mem_of_getElem? (i := 166) (by decide +kernel)))
theorem km_RX10_348 : ZLk RX10 348 M_X10_owners := Or.inl (tm_7 (List.mem_of_getElem? (i := 162) (by decide +kernel)))
theorem km_RX10_351 : ZLk RX10 351 M_X10_taken := Or.inl (tm_7 (List.mem_of_getElem? (i := 170) (by decide +kernel)))
theorem km_RX10_353 : ZLk RX10 353 M_X10_score := Or.inl (tm_7 (List.mem_of_getElem? (i := 178) (by decide +kernel)))
theorem km_RX9_9 : ZLk RX9 9 M_X7_init := Or.inr ⟨"StoneRoom", tm_1 (List.mem_of_getElem? (i := 30) (by decide +kernel))⟩
theorem km_RX9_21 : ZLk RX9 21 M_X1_init := Or.inr ⟨"StoneRoom", tm_1 (List.mem_of_getElem? (i := 109) (by decide +kernel))⟩
theorem km_RX9_33 : ZLk RX9 33 M_X0_init := Or.inr ⟨"StoneRoom", tm_1 (List.mem_of_getElem? (i := 129) (by decide +kernel))⟩
theorem km_RX9_43 : ZLk RX9 43 M_X5_init := Or.inr ⟨"StoneRoom", tm_1 (List.mem_of_getElem? (i := 190) (by decide +kernel))⟩
theorem km_RX9_52 : ZLk RX9 52 M_X8_init := Or.inr ⟨"StoneRoom", tm_2 (List.mem_of_getElem? (i := 6) (by decide +kernel))⟩
theorem km_RX9_61 : ZLk RX9 61 M_X4_init := Or.inr ⟨"StoneRoom", tm_2 (List.mem_of_getElem? (i := 16) (by decide +kernel))⟩
theorem km_RX9_70 : ZLk RX9 70 M_X3_init := Or.inr ⟨"StoneRoom", tm_2 (List.mem_of_getElem? (i := 53) (by decide +kernel))⟩
theorem km_RX9_77 : ZLk RX9 77 M_X6_init := Or.inr ⟨"StoneRoom", tm_2 (List.mem_of_getElem? (i := 95) (by decide +kernel))⟩
theorem km_RX9_86 : ZLk RX9 86 M_X2_init := Or.inr ⟨"StoneRoom", tm_2 (List.mem_of_getElem? (i := 118) (by decide +kernel))⟩
theorem km_RX9_112 : ZLk RX9 112 M_X1_addNumber := Or.inr ⟨"StoneRoom", tm_3 (List.mem_of_getElem? (i := 9) (by decide +kernel))⟩
theorem km_RX9_115 : ZLk RX9 115 M_X5_readText := Or.inr ⟨"StoneRoom", tm_3 (List.mem_of_getElem? (i := 25) (by decide +kernel))⟩
theorem km_RX9_122 : ZLk RX9 122 M_X0_shape := Or.inr ⟨"StoneRoom", tm_2 (List.mem_of_getElem? (i := 144) (by decide +kernel))⟩
theorem km_RX9_131 : ZLk RX9 131 M_X8_writeGame := Or.inr ⟨"StoneRoom", tm_3 (List.mem_of_getElem? (i := 219) (by decide +kernel))⟩
theorem km_RX9_135 : ZLk RX9 135 M_X1_byteAt := Or.inr ⟨"StoneRoom", tm_4 (List.mem_of_getElem? (i := 78) (by decide +kernel))⟩
theorem km_RX9_145 : ZLk RX9 145 M_X7_turnAt := Or.inr ⟨"StoneRoom", tm_4 (List.mem_of_getElem? (i := 87) (by decide +kernel))⟩
theorem km_RX9_148 : ZLk RX9 148 M_X7_childOf := Or.inr ⟨"StoneRoom", tm_4 (List.mem_of_getElem? (i := 109) (by decide +kernel))⟩
theorem km_RX9_152 : ZLk RX9 152 M_X0_copyOf := Or.inr ⟨"StoneRoom", tm_4 (List.mem_of_getElem? (i := 93) (by decide +kernel))⟩
theorem km_RX9_155 : ZLk RX9 155 M_X7_addMove := Or.inr ⟨"StoneRoom", tm_4 (List.mem_of_getElem? (i := 117) (by decide +kernel))⟩
theorem km_RX9_159 : ZLk RX9 159 M_X7_parentOf := Or.inr ⟨"StoneRoom", tm_4 (List.mem_of_getElem? (i := 122) (by decide +kernel))⟩
theorem km_RX9_162 : ZLk RX9 162 M_X7_nthChild := Or.inr ⟨"StoneRoom", tm_4 (List.mem_of_getElem? (i := 127) (by decide +kernel))⟩
theorem km_RX9_166 : ZLk RX9 166 M_X7_has := Or.inr ⟨"StoneRoom", tm_2 (List.mem_of_getElem? (i := 178) (by decide +kernel))⟩
theorem km_RX9_169 : ZLk RX9 169 M_X7_tell := Or.inr ⟨"StoneRoom", tm_4 (List.mem_of_getElem? (i := 139) (by decide +kernel))⟩
theorem km_RX9_172 : ZLk RX9 172 M_X0_contentOf := Or.inr ⟨"StoneRoom", tm_4 (List.mem_of_getElem? (i := 147) (by decide +kernel))⟩
theorem km_RX9_175 : ZLk RX9 175 M_X0_hasStone := Or.inr ⟨"StoneRoom", tm_4 (List.mem_of_getElem? (i := 152) (by decide +kernel))⟩
theorem km_RX9_178 : ZLk RX9 178 M_X0_gatherChain := Or.inr ⟨"StoneRoom", tm_4 (List.mem_of_getElem? (i := 156) (by decide +kernel))⟩
theorem km_RX9_181 : ZLk RX9 181 M_X0_leastGathered := Or.inr ⟨"StoneRoom", tm_4 (List.mem_of_getElem? (i := 157) (by decide +kernel))⟩
theorem km_RX9_188 : ZLk RX9 188 M_X0_liberties := Or.inr ⟨"StoneRoom", tm_4 (List.mem_of_getElem? (i := 164) (by decide +kernel))⟩
theorem km_RX9_191 : ZLk RX9 191 M_X4_lives := Or.inr ⟨"StoneRoom", tm_4 (List.mem_of_getElem? (i := 165) (by decide +kernel))⟩
theorem km_RX9_194 : ZLk RX9 194 M_X6_isDead := Or.inr ⟨"StoneRoom", tm_4 (List.mem_of_getElem? (i := 208) (by decide +kernel))⟩
theorem km_RX9_197 : ZLk RX9 197 M_X0_nthLiberty := Or.inr ⟨"StoneRoom", tm_4 (List.mem_of_getElem? (i := 216) (by decide +kernel))⟩
theorem km_RX9_203 : ZLk RX9 203 M_X0_has := Or.inr ⟨"StoneRoom", tm_4 (List.mem_of_getElem? (i := 92) (by decide +kernel))⟩
theorem km_RX9_204 : ZLk RX9 204 M_X4_tellRegion := Or.inr ⟨"StoneRoom", tm_4 (List.mem_of_getElem? (i := 227) (by decide +kernel))⟩
theorem km_RX9_207 : ZLk RX9 207 M_X3_readOut := Or.inr ⟨"StoneRoom", tm_5 (List.mem_of_getElem? (i := 2) (by decide +kernel))⟩
theorem km_RX9_217 : ZLk RX9 217 M_X6_markGathered := Or.inr ⟨"StoneRoom", tm_5 (List.mem_of_getElem? (i := 73) (by decide +kernel))⟩
theorem km_RX9_230 : ZLk RX9 230 M_X2_wind := Or.inr ⟨"StoneRoom", tm_5 (List.mem_of_getElem? (i := 134) (by decide +kernel))⟩
theorem km_RX9_242 : ZLk RX9 242 M_X2_spend := Or.inr ⟨"StoneRoom", tm_5 (List.mem_of_getElem? (i := 146) (by decide +kernel))⟩
theorem km_RX9_245 : ZLk RX9 245 M_X2_tell := Or.inr ⟨"StoneRoom", tm_5 (List.mem_of_getElem? (i := 156) (by decide +kernel))⟩
theorem km_RX9_250 : ZLk RX9 250 M_X7_isOver := Or.inr ⟨"StoneRoom", tm_4 (List.mem_of_getElem? (i := 100) (by decide +kernel))⟩
theorem km_RX9_253 : ZLk RX9 253 M_X0_countChains := Or.inr ⟨"StoneRoom", tm_5 (List.mem_of_getElem? (i := 164) (by decide +kernel))⟩
theorem km_RX9_256 : ZLk RX9 256 M_X0_countOf := Or.inr ⟨"StoneRoom", tm_5 (List.mem_of_getElem? (i := 168) (by decide +kernel))⟩
theorem km_RX9_260 : ZLk RX9 260 M_X7_clear := Or.inr ⟨"StoneRoom", tm_2 (List.mem_of_getElem? (i := 140) (by decide +kernel))⟩
theorem km_RX9_263 : ZLk RX9 263 M_X7_addSets := Or.inr ⟨"StoneRoom", tm_2 (List.mem_of_getElem? (i := 158) (by decide +kernel))⟩
theorem km_RX9_271 : ZLk RX9 271 M_X0_load := Or.inr ⟨"StoneRoom", tm_2 (List.mem_of_getElem? (i := 179) (by decide +kernel))⟩
theorem km_RX9_275 : ZLk RX9 275 M_X6_forgetDead := Or.inr ⟨"StoneRoom", tm_2 (List.mem_of_getElem? (i := 186) (by decide +kernel))⟩
theorem km_RX9_281 : ZLk RX9 281 M_X7_tryPlay := Or.inr ⟨"StoneRoom", tm_4 (List.mem_of_getElem? (i := 99) (by decide +kernel))⟩
theorem km_RX9_288 : ZLk RX9 288 M_X6_survey := Or.inr ⟨"StoneRoom", tm_5 (List.mem_of_getElem? (i := 86) (by decide +kernel))⟩
theorem km_RX9_291 : ZLk RX9 291 M_X6_standingOf := Or.inr ⟨"StoneRoom", tm_5 (List.mem_of_getElem? (i := 101) (by decide +kernel))⟩
theorem km_RX9_294 : ZLk RX9 294 M_X6_landOf := Or.inr ⟨"StoneRoom", tm_5 (List.mem_of_getElem? (i := 109) (by decide +kernel))⟩
theorem km_RX9_297 : ZLk RX9 297 M_X7_takenBy := Or.inr ⟨"StoneRoom", tm_5 (List.mem_of_getElem? (i := 114) (by decide +kernel))⟩
theorem km_RX9_300 : ZLk RX9 300 M_X6_deadOf := Or.inr ⟨"StoneRoom", tm_5 (List.mem_of_getElem? (i := 118) (by decide +kernel))⟩
theorem km_RX0_60 : ZLk RX0 60 M_X9_isSize := Or.inr ⟨"StoneRoom", tm_2 (List.mem_of_getElem? (i := 151) (by decide +kernel))⟩
theorem km_RX0_82 : ZLk RX0 82 M_X9_pairAt := Or.inr ⟨"StoneRoom", tm_2 (List.mem_of_getElem? (i := 183) (by decide +kernel))⟩
theorem km_RX0_102 : ZLk RX0 102 M_X9_otherColour := Or.inr ⟨"StoneRoom", tm_3 (List.mem_of_getElem? (i := 174) (by decide +kernel))⟩
theorem km_RX3_48 : ZLk RX3 48 M_X0_copyOf := Or.inr ⟨"StoneRoom", tm_5 (List.mem_of_getElem? (i := 6) (by decide +kernel))⟩
theorem km_RX3_54 : ZLk RX3 54 M_X0_contentOf := Or.inr ⟨"StoneRoom", tm_5 (List.mem_of_getElem? (i := 7) (by decide +kernel))⟩
theorem km_RX3_78 : ZLk RX3 78 M_X0_load := Or.inr ⟨"StoneRoom", tm_5 (List.mem_of_getElem? (i := 61) (by decide +kernel))⟩
theorem km_RX3_86 : ZLk RX3 86 M_X9_otherColour := Or.inr ⟨"StoneRoom", tm_5 (List.mem_of_getElem? (i := 35) (by decide +kernel))⟩
theorem km_RX3_89 : ZLk RX3 89 M_X0_put := Or.inr ⟨"StoneRoom", tm_5 (List.mem_of_getElem? (i := 62) (by decide +kernel))⟩
theorem km_RX3_93 : ZLk RX3 93 M_X0_pack := Or.inr ⟨"StoneRoom", tm_5 (List.mem_of_getElem? (i := 63) (by decide +kernel))⟩
theorem km_RX3_96 : ZLk RX3 96 M_X0_packedAs := Or.inr ⟨"StoneRoom", tm_5 (List.mem_of_getElem? (i := 64) (by decide +kernel))⟩
theorem km_RX3_100 : ZLk RX3 100 M_X0_gatherChain := Or.inr ⟨"StoneRoom", tm_5 (List.mem_of_getElem? (i := 13) (by decide +kernel))⟩
theorem km_RX3_103 : ZLk RX3 103 M_X0_liberties := Or.inr ⟨"StoneRoom", tm_5 (List.mem_of_getElem? (i := 34) (by decide +kernel))⟩
theorem km_RX3_106 : ZLk RX3 106 M_X0_store := Or.inr ⟨"StoneRoom", tm_5 (List.mem_of_getElem? (i := 12) (by decide +kernel))⟩
theorem km_RX3_121 : ZLk RX3 121 M_X0_onRim := Or.inr ⟨"StoneRoom", tm_5 (List.mem_of_getElem? (i := 22) (by decide +kernel))⟩
theorem km_RX3_130 : ZLk RX3 130 M_X0_gatheredSince := Or.inr ⟨"StoneRoom", tm_5 (List.mem_of_getElem? (i := 36) (by decide +kernel))⟩
theorem km_RX4_49 : ZLk RX4 49 M_X0_has := Or.inr ⟨"StoneRoom", tm_4 (List.mem_of_getElem? (i := 231) (by decide +kernel))⟩
theorem km_RX4_61 : ZLk RX4 61 M_X0_hasStone := Or.inr ⟨"StoneRoom", tm_4 (List.mem_of_getElem? (i := 169) (by decide +kernel))⟩
theorem km_RX4_64 : ZLk RX4 64 M_X0_contentOf := Or.inr ⟨"StoneRoom", tm_4 (List.mem_of_getElem? (i := 170) (by decide +kernel))⟩
theorem km_RX4_87 : ZLk RX4 87 M_X0_gatheredSince := Or.inr ⟨"StoneRoom", tm_4 (List.mem_of_getElem? (i := 182) (by decide +kernel))⟩
theorem km_RX4_91 : ZLk RX4 91 M_X0_gather := Or.inr ⟨"StoneRoom", tm_4 (List.mem_of_getElem? (i := 184) (by decide +kernel))⟩
theorem km_RX4_98 : ZLk RX4 98 M_X0_gatherChain := Or.inr ⟨"StoneRoom", tm_4 (List.mem_of_getElem? (i := 183) (by decide +kernel))⟩
theorem km_RX4_107 : ZLk RX4 107 M_X0_leastGathered := Or.inr ⟨"StoneRoom", tm_4 (List.mem_of_getElem? (i := 189) (by decide +kernel))⟩
theorem km_RX4_117 : ZLk RX4 117 M_X0_neighbour := Or.inr ⟨"StoneRoom", tm_4 (List.mem_of_getElem? (i := 195) (by decide +kernel))⟩
theorem km_RX5_72 : ZLk RX5 72 M_X1_byteAt := Or.inr ⟨"StoneRoom", tm_3 (List.mem_of_getElem? (i := 38) (by decide +kernel))⟩
theorem km_RX5_91 : ZLk RX5 91 M_X7_clear := Or.inr ⟨"StoneRoom", tm_3 (List.mem_of_getElem? (i := 33) (by decide +kernel))⟩
theorem km_RX5_154 : ZLk RX5 154 M_X9_isSize := Or.inr ⟨"StoneRoom", tm_3 (List.mem_of_getElem? (i := 96) (by decide +kernel))⟩
theorem km_RX5_160 : ZLk RX5 160 M_X9_isKomi := Or.inr ⟨"StoneRoom", tm_3 (List.mem_of_getElem? (i := 101) (by decide +kernel))⟩
theorem km_RX5_166 : ZLk RX5 166 M_X9_pairAt := Or.inr ⟨"StoneRoom", tm_3 (List.mem_of_getElem? (i := 87) (by decide +kernel))⟩
theorem km_RX5_170 : ZLk RX5 170 M_X0_shape := Or.inr ⟨"StoneRoom", tm_3 (List.mem_of_getElem? (i := 110) (by decide +kernel))⟩
theorem km_RX5_176 : ZLk RX5 176 M_X7_has := Or.inr ⟨"StoneRoom", tm_3 (List.mem_of_getElem? (i := 111) (by decide +kernel))⟩
theorem km_RX5_182 : ZLk RX5 182 M_X0_load := Or.inr ⟨"StoneRoom", tm_3 (List.mem_of_getElem? (i := 112) (by decide +kernel))⟩
theorem km_RX5_189 : ZLk RX5 189 M_X7_tryPlay := Or.inr ⟨"StoneRoom", tm_3 (List.mem_of_getElem? (i := 165) (by decide +kernel))⟩
theorem km_RX5_193 : ZLk RX5 193 M_X7_addMove := Or.inr ⟨"StoneRoom", tm_3 (List.mem_of_getElem? (i := 199) (by decide +kernel))⟩
theorem km_RX5_200 : ZLk RX5 200 M_X0_lay := Or.inr ⟨"StoneRoom", tm_3 (List.mem_of_getElem? (i := 113) (by decide +kernel))⟩
theorem km_RX5_203 : ZLk RX5 203 M_X0_allBreathe := Or.inr ⟨"StoneRoom", tm_3 (List.mem_of_getElem? (i := 121) (by decide +kernel))⟩
theorem km_RX5_211 : ZLk RX5 211 M_X7_addSets := Or.inr ⟨"StoneRoom", tm_3 (List.mem_of_getElem? (i := 153) (by decide +kernel))⟩
theorem km_RX5_215 : ZLk RX5 215 M_X7_copySettings := Or.inr ⟨"StoneRoom", tm_3 (List.mem_of_getElem? (i := 154) (by decide +kernel))⟩
theorem km_RX5_219 : ZLk RX5 219 M_X7_turnAt := Or.inr ⟨"StoneRoom", tm_3 (List.mem_of_getElem? (i := 149) (by decide +kernel))⟩
theorem km_RX6_44 : ZLk RX6 44 M_X0_copyOf := Or.inr ⟨"StoneRoom", tm_5 (List.mem_of_getElem? (i := 91) (by decide +kernel))⟩
theorem km_RX6_51 : ZLk RX6 51 M_X0_hasStone := Or.inr ⟨"StoneRoom", tm_5 (List.mem_of_getElem? (i := 92) (by decide +kernel))⟩
theorem km_RX6_55 : ZLk RX6 55 M_X0_contentOf := Or.inr ⟨"StoneRoom", tm_5 (List.mem_of_getElem? (i := 93) (by decide +kernel))⟩
theorem km_RX6_59 : ZLk RX6 59 M_X0_lay := Or.inr ⟨"StoneRoom", tm_5 (List.mem_of_getElem? (i := 94) (by decide +kernel))⟩
theorem km_RX6_66 : ZLk RX6 66 M_X0_gatheredSince := Or.inr ⟨"StoneRoom", tm_5 (List.mem_of_getElem? (i := 95) (by decide +kernel))⟩
theorem km_RX6_70 : ZLk RX6 70 M_X0_gather := Or.inr ⟨"StoneRoom", tm_5 (List.mem_of_getElem? (i := 96) (by decide +kernel))⟩
theorem km_RX6_79 : ZLk RX6 79 M_X0_countOf := Or.inr ⟨"StoneRoom", tm_5 (List.mem_of_getElem? (i := 105) (by decide +kernel))⟩
theorem km_RX6_82 : ZLk RX6 82 M_X9_isColour := Or.inr ⟨"StoneRoom", tm_5 (List.mem_of_getElem? (i := 113) (by decide +kernel))⟩
theorem km_RX7_79 : ZLk RX7 79 M_X9_otherColour := Or.inr ⟨"StoneRoom", tm_3 (List.mem_of_getElem? (i := 190) (by decide +kernel))⟩
theorem km_RX7_88 : ZLk RX7 88 M_X0_store := Or.inr ⟨"StoneRoom", tm_2 (List.mem_of_getElem? (i := 166) (by decide +kernel))⟩
theorem km_RX7_98 : ZLk RX7 98 M_X0_contentOf := Or.inr ⟨"StoneRoom", tm_3 (List.mem_of_getElem? (i := 169) (by decide +kernel))⟩
theorem km_RX7_101 : ZLk RX7 101 M_X0_put := Or.inr ⟨"StoneRoom", tm_3 (List.mem_of_getElem? (i := 170) (by decide +kernel))⟩
theorem km_RX7_105 : ZLk RX7 105 M_X0_pack := Or.inr ⟨"StoneRoom", tm_3 (List.mem_of_getElem? (i := 185) (by decide +kernel))⟩
theorem km_RX7_112 : ZLk RX7 112 M_X0_packedAs := Or.inr ⟨"StoneRoom", tm_3 (List.mem_of_getElem? (i := 195) (by decide +kernel))⟩
theorem km_RX8_21 : ZLk RX8 21 M_X1_addByte := Or.inr ⟨"StoneRoom", tm_3 (List.mem_of_getElem? (i := 223) (by decide +kernel))⟩
theorem km_RX8_25 : ZLk RX8 25 M_X7_has := Or.inr ⟨"StoneRoom", tm_3 (List.mem_of_getElem? (i := 224) (by decide +kernel))⟩
theorem km_RX8_46 : ZLk RX8 46 M_X7_parentOf := Or.inr ⟨"StoneRoom", tm_4 (List.mem_of_getElem? (i := 70) (by decide +kernel))⟩
theorem km_RX8_84 : ZLk RX8 84 M_X1_addText := Or.inr ⟨"StoneRoom", tm_3 (List.mem_of_getElem? (i := 234) (by decide +kernel))⟩
theorem km_RX8_108 : ZLk RX8 108 M_X9_pairAt := Or.inr ⟨"StoneRoom", tm_4 (List.mem_of_getElem? (i := 59) (by decide +kernel))⟩
theorem kq_max : zMath Lib.Math.max.name Lib.Math.max.code 2 := ⟨tm_1 (List.mem_of_getElem? (i := 114) (by decide +kernel)), tm_1 (List.mem_of_getElem? (i := 4) (by decide +kernel)), tm_1 (List.mem_of_getElem? (i := 115) (by decide +kernel))⟩
theorem kq_min : zMath Lib.Math.min.name Lib.Math.min.code 2 := ⟨tm_4 (List.mem_of_getElem? (i := 162) (by decide +kernel)), tm_1 (List.mem_of_getElem? (i := 4) (by decide +kernel)), tm_4 (List.mem_of_getElem? (i := 163) (by decide +kernel))⟩
theorem kq_abs : zMath Lib.Math.abs.name Lib.Math.abs.code 1 := ⟨tm_4 (List.mem_of_getElem? (i := 51) (by decide +kernel)), tm_1 (List.mem_of_getElem? (i := 4) (by decide +kernel)), tm_4 (List.mem_of_getElem? (i := 52) (by decide +kernel))⟩
theorem ka_RX0_96 : Cond.methodLink RX0 96 Lib.Math.min.name ∈ lw_tbl := tm_4 (List.mem_of_getElem? (i := 161) (by decide +kernel))
theorem ka_RX1_15 : Cond.methodLink RX1 15 Lib.Math.max.name ∈ lw_tbl := tm_1 (List.mem_of_getElem? (i := 113) (by decide +kernel))
theorem ka_RX2_25 : Cond.methodLink RX2 25 Lib.Math.max.name ∈ lw_tbl := tm_5 (List.mem_of_getElem? (i := 150) (by decide +kernel))
theorem ka_RX2_31 : Cond.methodLink RX2 31 Lib.Math.min.name ∈ lw_tbl := tm_5 (List.mem_of_getElem? (i := 151) (by decide +kernel))
theorem ka_RX8_99 : Cond.methodLink RX8 99 Lib.Math.abs.name ∈ lw_tbl := tm_4 (List.mem_of_getElem? (i := 50) (by decide +kernel))
theorem kw_RX0_arraycopy : zCp RX0 72 := ⟨tm_4 (List.mem_of_getElem? (i := 98) (by decide +kernel)), tm_3 (List.mem_of_getElem? (i := 160) (by decide +kernel)), tm_3 (List.mem_of_getElem? (i := 159) (by decide +kernel)), tm_1 (List.mem_of_getElem? (i := 14) (by decide +kernel))⟩
theorem kw_RX7_arraycopy : zCp RX7 73 := ⟨tm_3 (List.mem_of_getElem? (i := 158) (by decide +kernel)), tm_3 (List.mem_of_getElem? (i := 160) (by decide +kernel)), tm_3 (List.mem_of_getElem? (i := 159) (by decide +kernel)), tm_1 (List.mem_of_getElem? (i := 14) (by decide +kernel))⟩
theorem kc_RX9_259 : Cond.constant RX9 259 (100000 : Int32) ∈ lw_tbl := tm_5 (List.mem_of_getElem? (i := 133) (by decide +kernel))
theorem kc_RX10_25 : Cond.constant RX10 25 (40500 : Int32) ∈ lw_tbl := tm_5 (List.mem_of_getElem? (i := 175) (by decide +kernel))
theorem kc_RX10_89 : Cond.constant RX10 89 (49000 : Int32) ∈ lw_tbl := tm_5 (List.mem_of_getElem? (i := 176) (by decide +kernel))
theorem kc_RX10_356 : Cond.constant RX10 356 (100000 : Int32) ∈ lw_tbl := tm_7 (List.mem_of_getElem? (i := 183) (by decide +kernel))
theorem kc_RX4_111 : Cond.constantLong RX4 111 (-1 : Int64) ∈ lw_tbl := tm_4 (List.mem_of_getElem? (i := 190) (by decide +kernel))
theorem kc_RJ13_314 : Cond.constantLong RJ13 314 (6148914691236517205 : Int64) ∈ lw_tbl := tm_4 (List.mem_of_getElem? (i := 235) (by decide +kernel))
theorem kc_RJ13_316 : Cond.constantLong RJ13 316 (3689348814741910323 : Int64) ∈ lw_tbl := tm_4 (List.mem_of_getElem? (i := 236) (by decide +kernel))
theorem kc_RJ13_318 : Cond.constantLong RJ13 318 (1085102592571150095 : Int64) ∈ lw_tbl := tm_4 (List.mem_of_getElem? (i := 237) (by decide +kernel))
