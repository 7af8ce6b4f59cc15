theorem inB1 {w : Cond} (i : Nat) (h : tables_1_1[i]? = some w) (hg : goodWord w = true) : w ∈ WS := by
  have hm := List.mem_of_getElem? h
  exact List.mem_filter.mpr ⟨List.mem_append_right _ (List.mem_append_left _ hm), hg⟩
theorem inN1 {w : Cond} (i : Nat) (h : tables_1_1[i]? = some w) (hg : isNest w = true) : w ∈ NW := by
  have hm := List.mem_of_getElem? h
  exact List.mem_filter.mpr ⟨List.mem_append_right _ (List.mem_append_left _ hm), hg⟩
theorem inB2 {w : Cond} (i : Nat) (h : tables_1_2[i]? = some w) (hg : goodWord w = true) : w ∈ WS := by
  have hm := List.mem_of_getElem? h
  exact List.mem_filter.mpr ⟨List.mem_append_right _ (List.mem_append_right _ (List.mem_append_left _ hm)), hg⟩
theorem inN2 {w : Cond} (i : Nat) (h : tables_1_2[i]? = some w) (hg : isNest w = true) : w ∈ NW := by
  have hm := List.mem_of_getElem? h
  exact List.mem_filter.mpr ⟨List.mem_append_right _ (List.mem_append_right _ (List.mem_append_left _ hm)), hg⟩
theorem inB3 {w : Cond} (i : Nat) (h : tables_1_3[i]? = some w) (hg : goodWord w = true) : w ∈ WS := by
  have hm := List.mem_of_getElem? h
  exact List.mem_filter.mpr ⟨List.mem_append_right _ (List.mem_append_right _ (List.mem_append_right _ (List.mem_append_left _ hm))), hg⟩
theorem inN3 {w : Cond} (i : Nat) (h : tables_1_3[i]? = some w) (hg : isNest w = true) : w ∈ NW := by
  have hm := List.mem_of_getElem? h
  exact List.mem_filter.mpr ⟨List.mem_append_right _ (List.mem_append_right _ (List.mem_append_right _ (List.mem_append_left _ hm))), hg⟩
theorem inB4 {w : Cond} (i : Nat) (h : tables_1_4[i]? = some w) (hg : goodWord w = true) : w ∈ WS := by
  have hm := List.mem_of_getElem? h
  exact List.mem_filter.mpr ⟨List.mem_append_right _ (List.mem_append_right _ (List.mem_append_right _ (List.mem_append_right _ (List.mem_append_left _ hm)))), hg⟩
theorem inN4 {w : Cond} (i : Nat) (h : tables_1_4[i]? = some w) (hg : isNest w = true) : w ∈ NW := by
  have hm := List.mem_of_getElem? h
  exact List.mem_filter.mpr ⟨List.mem_append_right _ (List.mem_append_right _ (List.mem_append_right _ (List.mem_append_right _ (List.mem_append_left _ hm)))), hg⟩
theorem inB5 {w : Cond} (i : Nat) (h : tables_1_5[i]? = some w) (hg : goodWord w = true) : w ∈ WS := by
  have hm := List.mem_of_getElem? h
  exact List.mem_filter.mpr ⟨List.mem_append_right _ (List.mem_append_right _ (List.mem_append_right _ (List.mem_append_right _ (List.mem_append_right _ (List.mem_append_left _ hm))))), hg⟩
theorem inN5 {w : Cond} (i : Nat) (h : tables_1_5[i]? = some w) (hg : isNest w = true) : w ∈ NW := by
  have hm := List.mem_of_getElem? h
  exact List.mem_filter.mpr ⟨List.mem_append_right _ (List.mem_append_right _ (List.mem_append_right _ (List.mem_append_right _ (List.mem_append_right _ (List.mem_append_left _ hm))))), hg⟩
theorem inB6 {w : Cond} (i : Nat) (h : tables_1_6[i]? = some w) (hg : goodWord w = true) : w ∈ WS := by
  have hm := List.mem_of_getElem? h
  exact List.mem_filter.mpr ⟨List.mem_append_right _ (List.mem_append_right _ (List.mem_append_right _ (List.mem_append_right _ (List.mem_append_right _ (List.mem_append_right _ (List.mem_append_left _ hm)))))), hg⟩
theorem inN6 {w : Cond} (i : Nat) (h : tables_1_6[i]? = some w) (hg : isNest w = true) : w ∈ NW := by
  have hm := List.mem_of_getElem? h
  exact List.mem_filter.mpr ⟨List.mem_append_right _ (List.mem_append_right _ (List.mem_append_right _ (List.mem_append_right _ (List.mem_append_right _ (List.mem_append_right _ (List.mem_append_left _ hm)))))), hg⟩
theorem inB7 {w : Cond} (i : Nat) (h : tables_1_7[i]? = some w) (hg : goodWord w = true) : w ∈ WS := by
  have hm := List.mem_of_getElem? h
  exact List.mem_filter.mpr ⟨List.mem_append_right _ (List.mem_append_right _ (List.mem_append_right _ (List.mem_append_right _ (List.mem_append_right _ (List.mem_append_right _ (List.mem_append_right _ (List.mem_append_left _ hm))))))), hg⟩
theorem inN7 {w : Cond} (i : Nat) (h : tables_1_7[i]? = some w) (hg : isNest w = true) : w ∈ NW := by
  have hm := List.mem_of_getElem? h
  exact List.mem_filter.mpr ⟨List.mem_append_right _ (List.mem_append_right _ (List.mem_append_right _ (List.mem_append_right _ (List.mem_append_right _ (List.mem_append_right _ (List.mem_append_right _ (List.mem_append_left _ hm))))))), hg⟩
theorem inB8 {w : Cond} (i : Nat) (h : tables_1_8[i]? = some w) (hg : goodWord w = true) : w ∈ WS := by
  have hm := List.mem_of_getElem? h
  exact List.mem_filter.mpr ⟨List.mem_append_right _ (List.mem_append_right _ (List.mem_append_right _ (List.mem_append_right _ (List.mem_append_right _ (List.mem_append_right _ (List.mem_append_right _ (List.mem_append_right _ (hm)))))))), hg⟩
theorem inN8 {w : Cond} (i : Nat) (h : tables_1_8[i]? = some w) (hg : isNest w = true) : w ∈ NW := by
  have hm := List.mem_of_getElem? h
  exact List.mem_filter.mpr ⟨List.mem_append_right _ (List.mem_append_right _ (List.mem_append_right _ (List.mem_append_right _ (List.mem_append_right _ (List.mem_append_right _ (List.mem_append_right _ (List.mem_append_right _ (hm)))))))), hg⟩
theorem inP1 {q : MethodName × Nat} (i : Nat) (h : lw_privs_1[i]? = some q) : Cond.selects q.1.cls q.1 q.1 ∈ WS := by
  have hm := List.mem_of_getElem? h
  exact List.mem_filter.mpr ⟨List.mem_append_left _ (List.mem_map.mpr ⟨q, List.mem_append_left _ hm, rfl⟩), rfl⟩
theorem inP2 {q : MethodName × Nat} (i : Nat) (h : lw_privs_2[i]? = some q) : Cond.selects q.1.cls q.1 q.1 ∈ WS := by
  have hm := List.mem_of_getElem? h
  exact List.mem_filter.mpr ⟨List.mem_append_left _ (List.mem_map.mpr ⟨q, List.mem_append_right _ (List.mem_append_left _ hm), rfl⟩), rfl⟩
theorem inP3 {q : MethodName × Nat} (i : Nat) (h : lw_privs_3[i]? = some q) : Cond.selects q.1.cls q.1 q.1 ∈ WS := by
  have hm := List.mem_of_getElem? h
  exact List.mem_filter.mpr ⟨List.mem_append_left _ (List.mem_map.mpr ⟨q, List.mem_append_right _ (List.mem_append_right _ (List.mem_append_left _ hm)), rfl⟩), rfl⟩
theorem inP4 {q : MethodName × Nat} (i : Nat) (h : lw_privs_4[i]? = some q) : Cond.selects q.1.cls q.1 q.1 ∈ WS := by
  have hm := List.mem_of_getElem? h
  exact List.mem_filter.mpr ⟨List.mem_append_left _ (List.mem_map.mpr ⟨q, List.mem_append_right _ (List.mem_append_right _ (List.mem_append_right _ (List.mem_append_left _ hm))), rfl⟩), rfl⟩
theorem inP5 {q : MethodName × Nat} (i : Nat) (h : lw_privs_5[i]? = some q) : Cond.selects q.1.cls q.1 q.1 ∈ WS := by
  have hm := List.mem_of_getElem? h
  exact List.mem_filter.mpr ⟨List.mem_append_left _ (List.mem_map.mpr ⟨q, List.mem_append_right _ (List.mem_append_right _ (List.mem_append_right _ (List.mem_append_right _ (List.mem_append_left _ hm)))), rfl⟩), rfl⟩
theorem inP6 {q : MethodName × Nat} (i : Nat) (h : lw_privs_6[i]? = some q) : Cond.selects q.1.cls q.1 q.1 ∈ WS := by
  have hm := List.mem_of_getElem? h
  exact List.mem_filter.mpr ⟨List.mem_append_left _ (List.mem_map.mpr ⟨q, List.mem_append_right _ (List.mem_append_right _ (List.mem_append_right _ (List.mem_append_right _ (List.mem_append_right _ (List.mem_append_left _ hm))))), rfl⟩), rfl⟩
theorem inP7 {q : MethodName × Nat} (i : Nat) (h : lw_privs_7[i]? = some q) : Cond.selects q.1.cls q.1 q.1 ∈ WS := by
  have hm := List.mem_of_getElem? h
  exact List.mem_filter.mpr ⟨List.mem_append_left _ (List.mem_map.mpr ⟨q, List.mem_append_right _ (List.mem_append_right _ (List.mem_append_right _ (List.mem_append_right _ (List.mem_append_right _ (List.mem_append_right _ (hm)))))), rfl⟩), rfl⟩
/-! by program: the words that the rows need, by their places -/
abbrev M_X0_init : Mth := (yX0_init, cX0_init, 1, none)
abbrev M_X0_isTold : Mth := (yX0_isTold, cX0_isTold, 1, some .boolean)
abbrev M_X0_room : Mth := (yX0_room, cX0_room, 1, some .int)
abbrev M_X0_tellRoom : Mth := (yX0_tellRoom, cX0_tellRoom, 2, none)
abbrev M_X0_stops : Mth := (yX0_stops, cX0_stops, 1, some .int)
abbrev M_X0_streetOf : Mth := (yX0_streetOf, cX0_streetOf, 2, some .int)
abbrev M_X0_yardsOf : Mth := (yX0_yardsOf, cX0_yardsOf, 2, some .int)
abbrev M_X0_takesOnAt : Mth := (yX0_takesOnAt, cX0_takesOnAt, 2, some .boolean)
abbrev M_X0_readStops : Mth := (yX0_readStops, cX0_readStops, 3, some .int)
abbrev M_X0_readStop : Mth := (yX0_readStop, cX0_readStop, 4, none)
abbrev M_X0_addStop : Mth := (yX0_addStop, cX0_addStop, 4, none)
abbrev M_X0_planOneStop : Mth := (yX0_planOneStop, cX0_planOneStop, 3, none)
abbrev M_X0_takeStopsOf : Mth := (yX0_takeStopsOf, cX0_takeStopsOf, 3, none)
abbrev M_X1_init : Mth := (yX1_init, cX1_init, 1, none)
abbrev M_X1_isTold : Mth := (yX1_isTold, cX1_isTold, 2, some .boolean)
abbrev M_X1_areTold : Mth := (yX1_areTold, cX1_areTold, 3, some .boolean)
abbrev M_X1_toldStreets : Mth := (yX1_toldStreets, cX1_toldStreets, 1, some .int)
abbrev M_X1_tell : Mth := (yX1_tell, cX1_tell, 5, none)
abbrev M_X1_housesOf : Mth := (yX1_housesOf, cX1_housesOf, 2, some .int)
abbrev M_X1_lampsOf : Mth := (yX1_lampsOf, cX1_lampsOf, 2, some .int)
abbrev M_X1_starsOf : Mth := (yX1_starsOf, cX1_starsOf, 2, some .int)
abbrev M_X1_depthOf : Mth := (yX1_depthOf, cX1_depthOf, 2, some .int)
abbrev M_X1_deepen : Mth := (yX1_deepen, cX1_deepen, 3, some .int)
abbrev M_X1_copyDepths : Mth := (yX1_copyDepths, cX1_copyDepths, 2, none)
abbrev M_X1_night : Mth := (yX1_night, cX1_night, 1, some .int)
abbrev M_X1_slept : Mth := (yX1_slept, cX1_slept, 1, some .int)
abbrev M_X1_swept : Mth := (yX1_swept, cX1_swept, 1, some .int)
abbrev M_X1_endNight : Mth := (yX1_endNight, cX1_endNight, 4, none)
abbrev M_X1_store : Mth := (yX1_store, cX1_store, 3, some .int)
abbrev M_X1_restore : Mth := (yX1_restore, cX1_restore, 1, some .boolean)
abbrev M_X2_init : Mth := (yX2_init, cX2_init, 1, none)
abbrev M_X2_clauses : Mth := (yX2_clauses, cX2_clauses, 1, some .int)
abbrev M_X2_length : Mth := (yX2_length, cX2_length, 1, some .int)
abbrev M_X2_clear : Mth := (yX2_clear, cX2_clear, 1, none)
abbrev M_X2_addClause : Mth := (yX2_addClause, cX2_addClause, 4, none)
abbrev M_X2_addSign : Mth := (yX2_addSign, cX2_addSign, 3, none)
abbrev M_X2_leadToEnd : Mth := (yX2_leadToEnd, cX2_leadToEnd, 2, none)
abbrev M_X2_takeOver : Mth := (yX2_takeOver, cX2_takeOver, 2, none)
abbrev M_X2_regardStreet : Mth := (yX2_regardStreet, cX2_regardStreet, 5, none)
abbrev M_X2_regardTime : Mth := (yX2_regardTime, cX2_regardTime, 4, none)
abbrev M_X2_ask : Mth := (yX2_ask, cX2_ask, 4, some .int)
abbrev M_X2_reckon : Mth := (yX2_reckon, cX2_reckon, 6, some .int)
abbrev M_X2_join : Mth := (yX2_join, cX2_join, 4, some .int)
abbrev M_X2_factAt : Mth := (yX2_factAt, cX2_factAt, 2, some .int)
abbrev M_X2_push : Mth := (yX2_push, cX2_push, 2, none)
abbrev M_X2_pop : Mth := (yX2_pop, cX2_pop, 1, some .int)
abbrev M_X3_init : Mth := (yX3_init, cX3_init, 1, none)
abbrev M_X3_fresh : Mth := (yX3_fresh, cX3_fresh, 1, some (.object "NightCarts$Law"))
abbrev M_X3_read : Mth := (yX3_read, cX3_read, 3, some .int)
abbrev M_X3_readClause : Mth := (yX3_readClause, cX3_readClause, 5, none)
abbrev M_X3_readSum : Mth := (yX3_readSum, cX3_readSum, 5, none)
abbrev M_X3_readProduct : Mth := (yX3_readProduct, cX3_readProduct, 5, none)
abbrev M_X3_seesProductSign : Mth := (yX3_seesProductSign, cX3_seesProductSign, 1, some .boolean)
abbrev M_X3_readFactor : Mth := (yX3_readFactor, cX3_readFactor, 3, none)
abbrev M_X3_readFact : Mth := (yX3_readFact, cX3_readFact, 3, none)
abbrev M_X3_opens : Mth := (yX3_opens, cX3_opens, 3, some .boolean)
abbrev M_X3_readChoice : Mth := (yX3_readChoice, cX3_readChoice, 5, none)
abbrev M_X3_readPart : Mth := (yX3_readPart, cX3_readPart, 5, none)
abbrev M_X3_readTest : Mth := (yX3_readTest, cX3_readTest, 3, none)
abbrev M_X3_readNegation : Mth := (yX3_readNegation, cX3_readNegation, 3, none)
abbrev M_X3_readComparison : Mth := (yX3_readComparison, cX3_readComparison, 4, none)
abbrev M_X4_init : Mth := (yX4_init, cX4_init, 1, none)
abbrev M_X4_missing : Mth := (yX4_missing, cX4_missing, 1, some .int)
abbrev M_X4_placeFor : Mth := (yX4_placeFor, cX4_placeFor, 2, some .int)
abbrev M_X4_find : Mth := (yX4_find, cX4_find, 5, none)
abbrev M_X4_match : Mth := (yX4_match, cX4_match, 5, none)
abbrev M_X4_matchWith : Mth := (yX4_matchWith, cX4_matchWith, 5, none)
abbrev M_X5_init : Mth := (yX5_init, cX5_init, 4, none)
abbrev M_X5_slept : Mth := (yX5_slept, cX5_slept, 1, some .int)
abbrev M_X5_swept : Mth := (yX5_swept, cX5_swept, 1, some .int)
abbrev M_X5_total : Mth := (yX5_total, cX5_total, 2, some .int)
abbrev M_X5_depthOf : Mth := (yX5_depthOf, cX5_depthOf, 2, some .int)
abbrev M_X5_loadOf : Mth := (yX5_loadOf, cX5_loadOf, 2, some .int)
abbrev M_X5_lastMinuteOf : Mth := (yX5_lastMinuteOf, cX5_lastMinuteOf, 2, some .int)
abbrev M_X5_prepare : Mth := (yX5_prepare, cX5_prepare, 2, none)
abbrev M_X5_send : Mth := (yX5_send, cX5_send, 4, none)
abbrev M_X5_goThrough : Mth := (yX5_goThrough, cX5_goThrough, 3, none)
abbrev M_X5_isIdle : Mth := (yX5_isIdle, cX5_isIdle, 2, some .boolean)
abbrev M_X5_sleepsThrough : Mth := (yX5_sleepsThrough, cX5_sleepsThrough, 5, some .boolean)
abbrev M_X5_sleepsAfter : Mth := (yX5_sleepsAfter, cX5_sleepsAfter, 3, some .boolean)
abbrev M_X5_lose : Mth := (yX5_lose, cX5_lose, 4, some .int)
abbrev M_X5_askOf : Mth := (yX5_askOf, cX5_askOf, 3, some .int)
abbrev M_X5_serveBefore : Mth := (yX5_serveBefore, cX5_serveBefore, 4, none)
abbrev M_X5_earliestCart : Mth := (yX5_earliestCart, cX5_earliestCart, 3, some .int)
abbrev M_X5_serve : Mth := (yX5_serve, cX5_serve, 8, none)
abbrev M_X5_takeOn : Mth := (yX5_takeOn, cX5_takeOn, 3, some .int)
abbrev M_X5_leave : Mth := (yX5_leave, cX5_leave, 4, some .int)
abbrev M_X5_goOn : Mth := (yX5_goOn, cX5_goOn, 7, none)
abbrev M_X6_init : Mth := (yX6_init, cX6_init, 1, none)
abbrev M_X6_longest : Mth := (yX6_longest, cX6_longest, 1, some .int)
abbrev M_X6_cartOf : Mth := (yX6_cartOf, cX6_cartOf, 2, some .int)
abbrev M_X6_find : Mth := (yX6_find, cX6_find, 5, none)
abbrev M_X6_give : Mth := (yX6_give, cX6_give, 3, none)
abbrev M_X6_giveTo : Mth := (yX6_giveTo, cX6_giveTo, 3, none)
abbrev M_X6_keepRow : Mth := (yX6_keepRow, cX6_keepRow, 3, none)
abbrev M_X7_init : Mth := (yX7_init, cX7_init, 2, none)
abbrev M_X7_howMany : Mth := (yX7_howMany, cX7_howMany, 1, some .int)
abbrev M_X7_read : Mth := (yX7_read, cX7_read, 5, some .int)
abbrev M_X7_readLine : Mth := (yX7_readLine, cX7_readLine, 8, none)
abbrev M_X7_readStreet : Mth := (yX7_readStreet, cX7_readStreet, 3, none)
abbrev M_X7_findWays : Mth := (yX7_findWays, cX7_findWays, 3, none)
abbrev M_X7_shortenFrom : Mth := (yX7_shortenFrom, cX7_shortenFrom, 7, none)
abbrev M_X7_between : Mth := (yX7_between, cX7_between, 4, some .int)
abbrev M_X7_reachedFrom : Mth := (yX7_reachedFrom, cX7_reachedFrom, 4, some .int)
abbrev M_X7_farthestFrom : Mth := (yX7_farthestFrom, cX7_farthestFrom, 4, some .int)
abbrev M_X7_sumFrom : Mth := (yX7_sumFrom, cX7_sumFrom, 4, some .int)
abbrev M_X7_bestPit : Mth := (yX7_bestPit, cX7_bestPit, 9, some .int)
abbrev M_X7_countCuts : Mth := (yX7_countCuts, cX7_countCuts, 3, some .int)
abbrev M_X7_firstCut : Mth := (yX7_firstCut, cX7_firstCut, 2, some .int)
abbrev M_X7_isCut : Mth := (yX7_isCut, cX7_isCut, 7, some .boolean)
abbrev M_X7_neighboursOf : Mth := (yX7_neighboursOf, cX7_neighboursOf, 7, some .int)
abbrev M_X8_init : Mth := (yX8_init, cX8_init, 2, none)
abbrev M_X8_find : Mth := (yX8_find, cX8_find, 5, some .boolean)
abbrev M_X8_minutes : Mth := (yX8_minutes, cX8_minutes, 1, some .int)
abbrev M_X8_streetAt : Mth := (yX8_streetAt, cX8_streetAt, 2, some .int)
abbrev M_X8_leastFrom : Mth := (yX8_leastFrom, cX8_leastFrom, 5, some .int)
abbrev M_X8_minutesOver : Mth := (yX8_minutesOver, cX8_minutesOver, 4, some .int)
abbrev M_X8_minutesBetween : Mth := (yX8_minutesBetween, cX8_minutesBetween, 3, some .int)
abbrev M_X8_writeRow : Mth := (yX8_writeRow, cX8_writeRow, 6, none)
abbrev M_X8_firstThatMeets : Mth := (yX8_firstThatMeets, cX8_firstThatMeets, 5, some .int)
abbrev M_X9_init : Mth := (yX9_init, cX9_init, 2, none)
abbrev M_X9_choose : Mth := (yX9_choose, cX9_choose, 3, none)
abbrev M_X9_least : Mth := (yX9_least, cX9_least, 1, some .int)
abbrev M_X9_yardsFor : Mth := (yX9_yardsFor, cX9_yardsFor, 3, some .int)
abbrev M_X9_spread : Mth := (yX9_spread, cX9_spread, 7, some .boolean)
abbrev M_X9_neededFor : Mth := (yX9_neededFor, cX9_neededFor, 4, some .int)
abbrev M_X9_greatestLevel : Mth := (yX9_greatestLevel, cX9_greatestLevel, 6, some .int)
abbrev M_X9_houses : Mth := (yX9_houses, cX9_houses, 1, some .int)
abbrev M_X9_spent : Mth := (yX9_spent, cX9_spent, 1, some .int)
abbrev M_X9_sleepingStreets : Mth := (yX9_sleepingStreets, cX9_sleepingStreets, 3, some .int)
abbrev M_X9_findSleepful : Mth := (yX9_findSleepful, cX9_findSleepful, 5, none)
abbrev M_X9_missingToSleep : Mth := (yX9_missingToSleep, cX9_missingToSleep, 4, some .int)
abbrev M_X9_weigh : Mth := (yX9_weigh, cX9_weigh, 6, none)
abbrev M_X9_reckonGains : Mth := (yX9_reckonGains, cX9_reckonGains, 3, none)
abbrev M_X9_wastedBy : Mth := (yX9_wastedBy, cX9_wastedBy, 6, some .int)
abbrev M_X9_gainOf : Mth := (yX9_gainOf, cX9_gainOf, 2, some .int)
abbrev M_X9_bestGainBeside : Mth := (yX9_bestGainBeside, cX9_bestGainBeside, 4, some .int)
abbrev M_X10_init : Mth := (yX10_init, cX10_init, 1, none)
abbrev M_X10_hasRoomFor : Mth := (yX10_hasRoomFor, cX10_hasRoomFor, 2, some .boolean)
abbrev M_X10_holds : Mth := (yX10_holds, cX10_holds, 2, some .boolean)
abbrev M_X10_length : Mth := (yX10_length, cX10_length, 1, some .int)
abbrev M_X10_clear : Mth := (yX10_clear, cX10_clear, 1, none)
abbrev M_X10_addWord : Mth := (yX10_addWord, cX10_addWord, 3, none)
abbrev M_X10_at : Mth := (yX10_at, cX10_at, 2, some .int)
abbrev M_X10_pairAt : Mth := (yX10_pairAt, cX10_pairAt, 2, some .int)
abbrev M_X10_sumOf : Mth := (yX10_sumOf, cX10_sumOf, 7, some .int)
abbrev M_X10_open : Mth := (yX10_open, cX10_open, 2, none)
abbrev M_X10_place : Mth := (yX10_place, cX10_place, 1, some .int)
abbrev M_X10_sign : Mth := (yX10_sign, cX10_sign, 1, some .int)
abbrev M_X10_isAtEnd : Mth := (yX10_isAtEnd, cX10_isAtEnd, 1, some .boolean)
abbrev M_X10_isSound : Mth := (yX10_isSound, cX10_isSound, 1, some .boolean)
abbrev M_X10_fault : Mth := (yX10_fault, cX10_fault, 1, some .int)
abbrev M_X10_step : Mth := (yX10_step, cX10_step, 1, none)
abbrev M_X10_failAt : Mth := (yX10_failAt, cX10_failAt, 3, none)
abbrev M_X10_fail : Mth := (yX10_fail, cX10_fail, 2, none)
abbrev M_X10_sees : Mth := (yX10_sees, cX10_sees, 2, some .boolean)
abbrev M_X10_seesDigit : Mth := (yX10_seesDigit, cX10_seesDigit, 1, some .boolean)
abbrev M_X10_seesStreet : Mth := (yX10_seesStreet, cX10_seesStreet, 1, some .boolean)
abbrev M_X10_need : Mth := (yX10_need, cX10_need, 2, none)
abbrev M_X10_readNumber : Mth := (yX10_readNumber, cX10_readNumber, 4, some .int)
abbrev M_X11_init : Mth := (yX11_init, cX11_init, 6, none)
abbrev M_X11_street : Mth := (yX11_street, cX11_street, 5, some .boolean)
abbrev M_X11_cart : Mth := (yX11_cart, cX11_cart, 4, some .boolean)
abbrev M_X11_pour : Mth := (yX11_pour, cX11_pour, 3, some .int)
abbrev M_X11_feed : Mth := (yX11_feed, cX11_feed, 6, some .int)
abbrev M_X11_law : Mth := (yX11_law, cX11_law, 3, some .int)
abbrev M_X11_roads : Mth := (yX11_roads, cX11_roads, 3, some .int)
abbrev M_X11_plan : Mth := (yX11_plan, cX11_plan, 5, some .int)
abbrev M_X11_nights : Mth := (yX11_nights, cX11_nights, 4, some .int)
abbrev M_X11_tried : Mth := (yX11_tried, cX11_tried, 2, some .int)
abbrev M_X11_way : Mth := (yX11_way, cX11_way, 3, some .int)
abbrev M_X11_round : Mth := (yX11_round, cX11_round, 4, some .int)
abbrev M_X11_share : Mth := (yX11_share, cX11_share, 4, some .int)
abbrev M_X11_sleepful : Mth := (yX11_sleepful, cX11_sleepful, 4, some .int)
abbrev M_X11_pitAt : Mth := (yX11_pitAt, cX11_pitAt, 3, some .int)
abbrev M_X11_cut : Mth := (yX11_cut, cX11_cut, 3, some .int)
abbrev M_X11_strike : Mth := (yX11_strike, cX11_strike, 2, some .int)
abbrev M_X11_enough : Mth := (yX11_enough, cX11_enough, 4, some .int)
abbrev M_X11_oneStop : Mth := (yX11_oneStop, cX11_oneStop, 7, some .int)
abbrev M_X11_out : Mth := (yX11_out, cX11_out, 7, some .int)
abbrev M_X11_jobs : Mth := (yX11_jobs, cX11_jobs, 5, some .int)
abbrev M_X11_load : Mth := (yX11_load, cX11_load, 8, some .int)
abbrev M_X11_brides : Mth := (yX11_brides, cX11_brides, 4, some .int)
abbrev M_X11_thieves : Mth := (yX11_thieves, cX11_thieves, 8, some .int)
abbrev M_X11_latest : Mth := (yX11_latest, cX11_latest, 3, some .int)
abbrev M_X11_keep : Mth := (yX11_keep, cX11_keep, 1, some .int)
abbrev M_X11_undo : Mth := (yX11_undo, cX11_undo, 1, some .boolean)
abbrev M_X11_check : Mth := (yX11_check, cX11_check, 4, some .int)
abbrev M_X11_count : Mth := (yX11_count, cX11_count, 3, some .int)
abbrev M_X11_isWithin : Mth := (yX11_isWithin, cX11_isWithin, 3, some .boolean)
abbrev M_X11_hasBit : Mth := (yX11_hasBit, cX11_hasBit, 2, some .boolean)
abbrev M_X11_cartAt : Mth := (yX11_cartAt, cX11_cartAt, 2, some (.object "NightCarts$Cart"))
abbrev M_X11_isToldCart : Mth := (yX11_isToldCart, cX11_isToldCart, 3, some .boolean)
abbrev M_X11_toldCarts : Mth := (yX11_toldCarts, cX11_toldCarts, 3, some .int)
abbrev M_X11_countOfStreet : Mth := (yX11_countOfStreet, cX11_countOfStreet, 2, some .int)
abbrev M_X11_canBeTried : Mth := (yX11_canBeTried, cX11_canBeTried, 2, some .boolean)
abbrev M_X11_sendCarts : Mth := (yX11_sendCarts, cX11_sendCarts, 3, none)
abbrev M_X11_sendOneCart : Mth := (yX11_sendOneCart, cX11_sendOneCart, 5, none)
abbrev M_X11_partJobs : Mth := (yX11_partJobs, cX11_partJobs, 4, some .int)
abbrev M_X11_matchBrides : Mth := (yX11_matchBrides, cX11_matchBrides, 6, some .int)
abbrev M_X11_latestStart : Mth := (yX11_latestStart, cX11_latestStart, 8, some .int)
abbrev M_X12_init : Mth := (yX12_init, cX12_init, 1, none)
abbrev M_X12_in : Mth := (yX12_in, cX12_in, 3, some .boolean)
abbrev M_X12_min : Mth := (yX12_min, cX12_min, 2, some .int)
abbrev M_X12_max : Mth := (yX12_max, cX12_max, 2, some .int)
abbrev M_X12_has : Mth := (yX12_has, cX12_has, 2, some .boolean)
abbrev M_X12_bits : Mth := (yX12_bits, cX12_bits, 3, some .int)
abbrev M_X12_copies : Mth := (yX12_copies, cX12_copies, 3, none)
abbrev M_X12_isStreet : Mth := (yX12_isStreet, cX12_isStreet, 2, some .boolean)
abbrev M_X12_isCart : Mth := (yX12_isCart, cX12_isCart, 2, some .boolean)
abbrev M_X12_laysWays : Mth := (yX12_laysWays, cX12_laysWays, 7, none)
abbrev M_X12_farOf : Mth := (yX12_farOf, cX12_farOf, 3, some .int)
abbrev M_X12_street : Mth := (yX12_street, cX12_street, 5, some .boolean)
abbrev M_X12_cart : Mth := (yX12_cart, cX12_cart, 3, some .boolean)
abbrev M_X12_pour : Mth := (yX12_pour, cX12_pour, 3, some .int)
abbrev M_X12_types : Mth := (yX12_types, cX12_types, 3, none)
abbrev M_X12_feed : Mth := (yX12_feed, cX12_feed, 6, some .int)
abbrev M_X12_here : Mth := (yX12_here, cX12_here, 1, some .int)
abbrev M_X12_isDigit : Mth := (yX12_isDigit, cX12_isDigit, 1, some .boolean)
abbrev M_X12_wrongAt : Mth := (yX12_wrongAt, cX12_wrongAt, 3, some .boolean)
abbrev M_X12_takes : Mth := (yX12_takes, cX12_takes, 2, some .boolean)
abbrev M_X12_readsNumber : Mth := (yX12_readsNumber, cX12_readsNumber, 2, some .boolean)
abbrev M_X12_notes : Mth := (yX12_notes, cX12_notes, 3, none)
abbrev M_X12_opens : Mth := (yX12_opens, cX12_opens, 2, some .boolean)
abbrev M_X12_waitTop : Mth := (yX12_waitTop, cX12_waitTop, 1, some .int)
abbrev M_X12_factOf : Mth := (yX12_factOf, cX12_factOf, 1, some .int)
abbrev M_X12_sumSign : Mth := (yX12_sumSign, cX12_sumSign, 1, some .int)
abbrev M_X12_closesSums : Mth := (yX12_closesSums, cX12_closesSums, 2, none)
abbrev M_X12_readsFactor : Mth := (yX12_readsFactor, cX12_readsFactor, 2, some .boolean)
abbrev M_X12_hasOpenSum : Mth := (yX12_hasOpenSum, cX12_hasOpenSum, 3, some .boolean)
abbrev M_X12_readsSum : Mth := (yX12_readsSum, cX12_readsSum, 3, some .boolean)
abbrev M_X12_endsPiece : Mth := (yX12_endsPiece, cX12_endsPiece, 1, none)
abbrev M_X12_lands : Mth := (yX12_lands, cX12_lands, 3, none)
abbrev M_X12_jumps : Mth := (yX12_jumps, cX12_jumps, 2, none)
abbrev M_X12_readsCompared : Mth := (yX12_readsCompared, cX12_readsCompared, 2, some .boolean)
abbrev M_X12_readsCondition : Mth := (yX12_readsCondition, cX12_readsCondition, 1, some .boolean)
abbrev M_X12_isClause : Mth := (yX12_isClause, cX12_isClause, 1, some .boolean)
abbrev M_X12_readsClause : Mth := (yX12_readsClause, cX12_readsClause, 2, some .boolean)
abbrev M_X12_law : Mth := (yX12_law, cX12_law, 4, some .int)
abbrev M_X12_reckon : Mth := (yX12_reckon, cX12_reckon, 3, some .int)
abbrev M_X12_comesTo : Mth := (yX12_comesTo, cX12_comesTo, 8, some .int)
abbrev M_X12_byLaw : Mth := (yX12_byLaw, cX12_byLaw, 5, some .int)
abbrev M_X12_feels : Mth := (yX12_feels, cX12_feels, 4, none)
abbrev M_X12_byStreet : Mth := (yX12_byStreet, cX12_byStreet, 4, some .int)
abbrev M_X12_readsTwo : Mth := (yX12_readsTwo, cX12_readsTwo, 2, some .boolean)
abbrev M_X12_isLetterHere : Mth := (yX12_isLetterHere, cX12_isLetterHere, 1, some .boolean)
abbrev M_X12_readsLine : Mth := (yX12_readsLine, cX12_readsLine, 4, some .boolean)
abbrev M_X12_roads : Mth := (yX12_roads, cX12_roads, 4, some .int)
abbrev M_X12_readsStop : Mth := (yX12_readsStop, cX12_readsStop, 1, some .boolean)
abbrev M_X12_plan : Mth := (yX12_plan, cX12_plan, 5, some .int)
abbrev M_X12_placeOf : Mth := (yX12_placeOf, cX12_placeOf, 1, some .int)
abbrev M_X12_canCome : Mth := (yX12_canCome, cX12_canCome, 3, some .boolean)
abbrev M_X12_goesOn : Mth := (yX12_goesOn, cX12_goesOn, 4, none)
abbrev M_X12_arrives : Mth := (yX12_arrives, cX12_arrives, 7, none)
abbrev M_X12_hourEnds : Mth := (yX12_hourEnds, cX12_hourEnds, 4, none)
abbrev M_X12_goesNight : Mth := (yX12_goesNight, cX12_goesNight, 3, none)
abbrev M_X12_yardsAll : Mth := (yX12_yardsAll, cX12_yardsAll, 3, some .int)
abbrev M_X12_nights : Mth := (yX12_nights, cX12_nights, 5, some .int)
abbrev M_X12_tried : Mth := (yX12_tried, cX12_tried, 4, some .int)
abbrev M_X12_lastOf : Mth := (yX12_lastOf, cX12_lastOf, 2, some .int)
abbrev M_X12_sleptBy : Mth := (yX12_sleptBy, cX12_sleptBy, 2, some .int)
abbrev M_X12_strike : Mth := (yX12_strike, cX12_strike, 3, some .int)
abbrev M_X12_sleepsAll : Mth := (yX12_sleepsAll, cX12_sleepsAll, 3, some .boolean)
abbrev M_X12_enough : Mth := (yX12_enough, cX12_enough, 5, some .int)
abbrev M_X12_oneStop : Mth := (yX12_oneStop, cX12_oneStop, 16, some .int)
abbrev M_X12_way : Mth := (yX12_way, cX12_way, 3, some .int)
abbrev M_X12_laysWho : Mth := (yX12_laysWho, cX12_laysWho, 4, some .int)
abbrev M_X12_readsRow : Mth := (yX12_readsRow, cX12_readsRow, 6, some .boolean)
abbrev M_X12_codesFor : Mth := (yX12_codesFor, cX12_codesFor, 4, some .int)
abbrev M_X12_roundBy : Mth := (yX12_roundBy, cX12_roundBy, 6, some .int)
abbrev M_X12_round : Mth := (yX12_round, cX12_round, 8, some .int)
abbrev M_X12_needFor : Mth := (yX12_needFor, cX12_needFor, 5, some .int)
abbrev M_X12_share : Mth := (yX12_share, cX12_share, 10, some .int)
abbrev M_X12_sleepful : Mth := (yX12_sleepful, cX12_sleepful, 13, some .int)
abbrev M_X12_laysReach : Mth := (yX12_laysReach, cX12_laysReach, 3, none)
abbrev M_X12_bestBy : Mth := (yX12_bestBy, cX12_bestBy, 4, some .int)
abbrev M_X12_pitAt : Mth := (yX12_pitAt, cX12_pitAt, 4, some .int)
abbrev M_X12_cut : Mth := (yX12_cut, cX12_cut, 6, some .int)
abbrev M_X12_spared : Mth := (yX12_spared, cX12_spared, 4, some .int)
abbrev M_X12_out : Mth := (yX12_out, cX12_out, 8, some .int)
abbrev M_X12_longestBy : Mth := (yX12_longestBy, cX12_longestBy, 7, some .int)
abbrev M_X12_jobs : Mth := (yX12_jobs, cX12_jobs, 8, some .int)
abbrev M_X12_load : Mth := (yX12_load, cX12_load, 10, some .int)
abbrev M_X12_missingBy : Mth := (yX12_missingBy, cX12_missingBy, 4, some .int)
abbrev M_X12_brides : Mth := (yX12_brides, cX12_brides, 7, some .int)
abbrev M_X12_thieves : Mth := (yX12_thieves, cX12_thieves, 10, some .int)
abbrev M_X12_latest : Mth := (yX12_latest, cX12_latest, 7, some .int)
abbrev M_X12_keep : Mth := (yX12_keep, cX12_keep, 1, some .int)
abbrev M_X12_undo : Mth := (yX12_undo, cX12_undo, 1, some .boolean)
abbrev M_X12_check : Mth := (yX12_check, cX12_check, 3, some .int)
abbrev M_X12_roadMany : Mth := (yX12_roadMany, cX12_roadMany, 4, some .int)
abbrev M_X12_streetIs : Mth := (yX12_streetIs, cX12_streetIs, 3, some .int)
abbrev M_X12_count : Mth := (yX12_count, cX12_count, 2, some .int)
abbrev M_J6_bitCount_0f7a4 : Mth := (yJ6_bitCount_0f7a4, cJ6_bitCount_0f7a4, 1, some .int)
abbrev M_L_law : Mth := (yL_law, cL_law, 4, some .boolean)
theorem wj0 : ∀ k, k < 5 → u_lay RX0 TX0 k ∈ WS
  | 0, _ => (inB1 151 rfl rfl)
  | 1, _ => (inB1 153 rfl rfl)
  | 2, _ => (inB1 155 rfl rfl)
  | 3, _ => (inB1 157 rfl rfl)
  | 4, _ => (inB1 159 rfl rfl)
  | k + 5, h => absurd h (by omega)
theorem wi0 : ∀ w ∈ u_ws RX0 TX0 5, w ∈ WS := fun w hw => by
  obtain ⟨k, hk, rfl⟩ := List.mem_map.mp hw
  exact wj0 k (List.mem_range.mp hk)
theorem cl0 : Cls 0 RX0 TX0 5 := ⟨rfl, wi0, tyX0_ok, nmX0, rfl⟩
theorem in_X0 : Cond.initialized RX0 ∈ WS := (inB1 5 rfl rfl)
theorem nh_X0 : RX0 ≠ "java/lang/invoke/MethodHandle" ∧ RX0 ≠ "java/lang/invoke/VarHandle" := by decide +kernel
theorem wj1 : ∀ k, k < 13 → u_lay RX1 TX1 k ∈ WS
  | 0, _ => (inB1 49 rfl rfl)
  | 1, _ => (inB1 51 rfl rfl)
  | 2, _ => (inB1 53 rfl rfl)
  | 3, _ => (inB1 55 rfl rfl)
  | 4, _ => (inB1 57 rfl rfl)
  | 5, _ => (inB1 59 rfl rfl)
  | 6, _ => (inB1 61 rfl rfl)
  | 7, _ => (inB1 63 rfl rfl)
  | 8, _ => (inB1 65 rfl rfl)
  | 9, _ => (inB1 67 rfl rfl)
  | 10, _ => (inB1 69 rfl rfl)
  | 11, _ => (inB1 71 rfl rfl)
  | 12, _ => (inB1 73 rfl rfl)
  | k + 13, h => absurd h (by omega)
theorem wi1 : ∀ w ∈ u_ws RX1 TX1 13, w ∈ WS := fun w hw => by
  obtain ⟨k, hk, rfl⟩ := List.mem_map.mp hw
  exact wj1 k (List.mem_range.mp hk)
theorem cl1 : Cls 1 RX1 TX1 13 := ⟨rfl, wi1, tyX1_ok, nmX1, rfl⟩
theorem in_X1 : Cond.initialized RX1 ∈ WS := (inB1 2 rfl rfl)
theorem nh_X1 : RX1 ≠ "java/lang/invoke/MethodHandle" ∧ RX1 ≠ "java/lang/invoke/VarHandle" := by decide +kernel
theorem wj2 : ∀ k, k < 12 → u_lay RX2 TX2 k ∈ WS
  | 0, _ => (inB1 114 rfl rfl)
  | 1, _ => (inB1 116 rfl rfl)
  | 2, _ => (inB1 118 rfl rfl)
  | 3, _ => (inB1 120 rfl rfl)
  | 4, _ => (inB1 122 rfl rfl)
  | 5, _ => (inB1 124 rfl rfl)
  | 6, _ => (inB1 126 rfl rfl)
  | 7, _ => (inB1 128 rfl rfl)
  | 8, _ => (inB1 130 rfl rfl)
  | 9, _ => (inB1 132 rfl rfl)
  | 10, _ => (inB1 134 rfl rfl)
  | 11, _ => (inB1 136 rfl rfl)
  | k + 12, h => absurd h (by omega)
theorem wi2 : ∀ w ∈ u_ws RX2 TX2 12, w ∈ WS := fun w hw => by
  obtain ⟨k, hk, rfl⟩ := List.mem_map.mp hw
  exact wj2 k (List.mem_range.mp hk)
theorem cl2 : Cls 2 RX2 TX2 12 := ⟨rfl, wi2, tyX2_ok, nmX2, rfl⟩
theorem in_X2 : Cond.initialized RX2 ∈ WS := (inB1 4 rfl rfl)
theorem nh_X2 : RX2 ≠ "java/lang/invoke/MethodHandle" ∧ RX2 ≠ "java/lang/invoke/VarHandle" := by decide +kernel
theorem wj3 : ∀ k, k < 1 → u_lay RX3 TX3 k ∈ WS
  | 0, _ => (inB1 197 rfl rfl)
  | k + 1, h => absurd h (by omega)
theorem wi3 : ∀ w ∈ u_ws RX3 TX3 1, w ∈ WS := fun w hw => by
  obtain ⟨k, hk, rfl⟩ := List.mem_map.mp hw
  exact wj3 k (List.mem_range.mp hk)
theorem cl3 : Cls 3 RX3 TX3 1 := ⟨rfl, wi3, tyX3_ok, nmX3, rfl⟩
theorem in_X3 : Cond.initialized RX3 ∈ WS := (inB1 7 rfl rfl)
theorem nh_X3 : RX3 ≠ "java/lang/invoke/MethodHandle" ∧ RX3 ≠ "java/lang/invoke/VarHandle" := by decide +kernel
theorem wj4 : ∀ k, k < 6 → u_lay RX4 TX4 k ∈ WS
  | 0, _ => (inB2 112 rfl rfl)
  | 1, _ => (inB2 114 rfl rfl)
  | 2, _ => (inB2 116 rfl rfl)
  | 3, _ => (inB2 118 rfl rfl)
  | 4, _ => (inB2 120 rfl rfl)
  | 5, _ => (inB2 122 rfl rfl)
  | k + 6, h => absurd h (by omega)
theorem wi4 : ∀ w ∈ u_ws RX4 TX4 6, w ∈ WS := fun w hw => by
  obtain ⟨k, hk, rfl⟩ := List.mem_map.mp hw
  exact wj4 k (List.mem_range.mp hk)
theorem cl4 : Cls 4 RX4 TX4 6 := ⟨rfl, wi4, tyX4_ok, nmX4, rfl⟩
theorem in_X4 : Cond.initialized RX4 ∈ WS := (inB1 12 rfl rfl)
theorem nh_X4 : RX4 ≠ "java/lang/invoke/MethodHandle" ∧ RX4 ≠ "java/lang/invoke/VarHandle" := by decide +kernel
theorem wj5 : ∀ k, k < 16 → u_lay RX5 TX5 k ∈ WS
  | 0, _ => (inB1 223 rfl rfl)
  | 1, _ => (inB1 225 rfl rfl)
  | 2, _ => (inB1 227 rfl rfl)
  | 3, _ => (inB1 229 rfl rfl)
  | 4, _ => (inB1 231 rfl rfl)
  | 5, _ => (inB1 233 rfl rfl)
  | 6, _ => (inB1 235 rfl rfl)
  | 7, _ => (inB1 237 rfl rfl)
  | 8, _ => (inB1 239 rfl rfl)
  | 9, _ => (inB2 1 rfl rfl)
  | 10, _ => (inB2 3 rfl rfl)
  | 11, _ => (inB2 5 rfl rfl)
  | 12, _ => (inB2 7 rfl rfl)
  | 13, _ => (inB2 9 rfl rfl)
  | 14, _ => (inB2 11 rfl rfl)
  | 15, _ => (inB2 13 rfl rfl)
  | k + 16, h => absurd h (by omega)
theorem wi5 : ∀ w ∈ u_ws RX5 TX5 16, w ∈ WS := fun w hw => by
  obtain ⟨k, hk, rfl⟩ := List.mem_map.mp hw
  exact wj5 k (List.mem_range.mp hk)
theorem cl5 : Cls 5 RX5 TX5 16 := ⟨rfl, wi5, tyX5_ok, nmX5, rfl⟩
theorem in_X5 : Cond.initialized RX5 ∈ WS := (inB1 8 rfl rfl)
theorem nh_X5 : RX5 ≠ "java/lang/invoke/MethodHandle" ∧ RX5 ≠ "java/lang/invoke/VarHandle" := by decide +kernel
theorem wj6 : ∀ k, k < 7 → u_lay RX6 TX6 k ∈ WS
  | 0, _ => (inB2 85 rfl rfl)
  | 1, _ => (inB2 87 rfl rfl)
  | 2, _ => (inB2 89 rfl rfl)
  | 3, _ => (inB2 91 rfl rfl)
  | 4, _ => (inB2 93 rfl rfl)
  | 5, _ => (inB2 95 rfl rfl)
  | 6, _ => (inB2 97 rfl rfl)
  | k + 7, h => absurd h (by omega)
theorem wi6 : ∀ w ∈ u_ws RX6 TX6 7, w ∈ WS := fun w hw => by
  obtain ⟨k, hk, rfl⟩ := List.mem_map.mp hw
  exact wj6 k (List.mem_range.mp hk)
theorem cl6 : Cls 6 RX6 TX6 7 := ⟨rfl, wi6, tyX6_ok, nmX6, rfl⟩
theorem in_X6 : Cond.initialized RX6 ∈ WS := (inB1 11 rfl rfl)
theorem nh_X6 : RX6 ≠ "java/lang/invoke/MethodHandle" ∧ RX6 ≠ "java/lang/invoke/VarHandle" := by decide +kernel
theorem wj7 : ∀ k, k < 4 → u_lay RX7 TX7 k ∈ WS
  | 0, _ => (inB1 87 rfl rfl)
  | 1, _ => (inB1 89 rfl rfl)
  | 2, _ => (inB1 91 rfl rfl)
  | 3, _ => (inB1 93 rfl rfl)
  | k + 4, h => absurd h (by omega)
theorem wi7 : ∀ w ∈ u_ws RX7 TX7 4, w ∈ WS := fun w hw => by
  obtain ⟨k, hk, rfl⟩ := List.mem_map.mp hw
  exact wj7 k (List.mem_range.mp hk)
theorem cl7 : Cls 7 RX7 TX7 4 := ⟨rfl, wi7, tyX7_ok, nmX7, rfl⟩
theorem in_X7 : Cond.initialized RX7 ∈ WS := (inB1 3 rfl rfl)
theorem nh_X7 : RX7 ≠ "java/lang/invoke/MethodHandle" ∧ RX7 ≠ "java/lang/invoke/VarHandle" := by decide +kernel
theorem wj8 : ∀ k, k < 5 → u_lay RX8 TX8 k ∈ WS
  | 0, _ => (inB2 27 rfl rfl)
  | 1, _ => (inB2 29 rfl rfl)
  | 2, _ => (inB2 31 rfl rfl)
  | 3, _ => (inB2 33 rfl rfl)
  | 4, _ => (inB2 35 rfl rfl)
  | k + 5, h => absurd h (by omega)
theorem wi8 : ∀ w ∈ u_ws RX8 TX8 5, w ∈ WS := fun w hw => by
  obtain ⟨k, hk, rfl⟩ := List.mem_map.mp hw
  exact wj8 k (List.mem_range.mp hk)
theorem cl8 : Cls 8 RX8 TX8 5 := ⟨rfl, wi8, tyX8_ok, nmX8, rfl⟩
theorem in_X8 : Cond.initialized RX8 ∈ WS := (inB1 9 rfl rfl)
theorem nh_X8 : RX8 ≠ "java/lang/invoke/MethodHandle" ∧ RX8 ≠ "java/lang/invoke/VarHandle" := by decide +kernel
theorem wj9 : ∀ k, k < 9 → u_lay RX9 TX9 k ∈ WS
  | 0, _ => (inB2 53 rfl rfl)
  | 1, _ => (inB2 55 rfl rfl)
  | 2, _ => (inB2 57 rfl rfl)
  | 3, _ => (inB2 59 rfl rfl)
  | 4, _ => (inB2 61 rfl rfl)
  | 5, _ => (inB2 63 rfl rfl)
  | 6, _ => (inB2 65 rfl rfl)
  | 7, _ => (inB2 67 rfl rfl)
  | 8, _ => (inB2 69 rfl rfl)
  | k + 9, h => absurd h (by omega)
theorem wi9 : ∀ w ∈ u_ws RX9 TX9 9, w ∈ WS := fun w hw => by
  obtain ⟨k, hk, rfl⟩ := List.mem_map.mp hw
  exact wj9 k (List.mem_range.mp hk)
theorem cl9 : Cls 9 RX9 TX9 9 := ⟨rfl, wi9, tyX9_ok, nmX9, rfl⟩
theorem in_X9 : Cond.initialized RX9 ∈ WS := (inB1 10 rfl rfl)
theorem nh_X9 : RX9 ≠ "java/lang/invoke/MethodHandle" ∧ RX9 ≠ "java/lang/invoke/VarHandle" := by decide +kernel
theorem wj10 : ∀ k, k < 6 → u_lay RX10 TX10 k ∈ WS
  | 0, _ => (inB1 175 rfl rfl)
  | 1, _ => (inB1 177 rfl rfl)
  | 2, _ => (inB1 179 rfl rfl)
  | 3, _ => (inB1 181 rfl rfl)
  | 4, _ => (inB1 183 rfl rfl)
  | 5, _ => (inB1 185 rfl rfl)
  | k + 6, h => absurd h (by omega)
theorem wi10 : ∀ w ∈ u_ws RX10 TX10 6, w ∈ WS := fun w hw => by
  obtain ⟨k, hk, rfl⟩ := List.mem_map.mp hw
  exact wj10 k (List.mem_range.mp hk)
theorem cl10 : Cls 10 RX10 TX10 6 := ⟨rfl, wi10, tyX10_ok, nmX10, rfl⟩
theorem in_X10 : Cond.initialized RX10 ∈ WS := (inB1 6 rfl rfl)
theorem nh_X10 : RX10 ≠ "java/lang/invoke/MethodHandle" ∧ RX10 ≠ "java/lang/invoke/VarHandle" := by decide +kernel
theorem wj11 : ∀ k, k < 12 → u_lay RX11 TX11 k ∈ WS
  | 0, _ => (inB2 137 rfl rfl)
  | 1, _ => (inB2 139 rfl rfl)
  | 2, _ => (inB2 141 rfl rfl)
  | 3, _ => (inB2 143 rfl rfl)
  | 4, _ => (inB2 145 rfl rfl)
  | 5, _ => (inB2 147 rfl rfl)
  | 6, _ => (inB2 149 rfl rfl)
  | 7, _ => (inB2 151 rfl rfl)
  | 8, _ => (inB2 153 rfl rfl)
  | 9, _ => (inB2 155 rfl rfl)
  | 10, _ => (inB2 157 rfl rfl)
  | 11, _ => (inB2 159 rfl rfl)
  | k + 12, h => absurd h (by omega)
theorem wi11 : ∀ w ∈ u_ws RX11 TX11 12, w ∈ WS := fun w hw => by
  obtain ⟨k, hk, rfl⟩ := List.mem_map.mp hw
  exact wj11 k (List.mem_range.mp hk)
theorem cl11 : Cls 11 RX11 TX11 12 := ⟨rfl, wi11, tyX11_ok, nmX11, rfl⟩
theorem in_X11 : Cond.initialized RX11 ∈ WS := (inB1 1 rfl rfl)
theorem nh_X11 : RX11 ≠ "java/lang/invoke/MethodHandle" ∧ RX11 ≠ "java/lang/invoke/VarHandle" := by decide +kernel
theorem wj12 : ∀ k, k < 59 → u_lay RX12 TX12 k ∈ WS
  | 0, _ => (inB6 227 rfl rfl)
  | 1, _ => (inB6 229 rfl rfl)
  | 2, _ => (inB6 231 rfl rfl)
  | 3, _ => (inB6 233 rfl rfl)
  | 4, _ => (inB6 235 rfl rfl)
  | 5, _ => (inB6 237 rfl rfl)
  | 6, _ => (inB6 239 rfl rfl)
  | 7, _ => (inB7 1 rfl rfl)
  | 8, _ => (inB7 3 rfl rfl)
  | 9, _ => (inB7 5 rfl rfl)
  | 10, _ => (inB7 7 rfl rfl)
  | 11, _ => (inB7 9 rfl rfl)
  | 12, _ => (inB7 11 rfl rfl)
  | 13, _ => (inB7 13 rfl rfl)
  | 14, _ => (inB7 15 rfl rfl)
  | 15, _ => (inB7 17 rfl rfl)
  | 16, _ => (inB7 19 rfl rfl)
  | 17, _ => (inB7 21 rfl rfl)
  | 18, _ => (inB7 23 rfl rfl)
  | 19, _ => (inB7 25 rfl rfl)
  | 20, _ => (inB7 27 rfl rfl)
  | 21, _ => (inB7 29 rfl rfl)
  | 22, _ => (inB7 31 rfl rfl)
  | 23, _ => (inB7 33 rfl rfl)
  | 24, _ => (inB7 35 rfl rfl)
  | 25, _ => (inB7 37 rfl rfl)
  | 26, _ => (inB7 39 rfl rfl)
  | 27, _ => (inB7 41 rfl rfl)
  | 28, _ => (inB7 43 rfl rfl)
  | 29, _ => (inB7 45 rfl rfl)
  | 30, _ => (inB7 47 rfl rfl)
  | 31, _ => (inB7 49 rfl rfl)
  | 32, _ => (inB7 51 rfl rfl)
  | 33, _ => (inB7 53 rfl rfl)
  | 34, _ => (inB7 55 rfl rfl)
  | 35, _ => (inB7 57 rfl rfl)
  | 36, _ => (inB7 59 rfl rfl)
  | 37, _ => (inB7 61 rfl rfl)
  | 38, _ => (inB7 63 rfl rfl)
  | 39, _ => (inB7 65 rfl rfl)
  | 40, _ => (inB7 67 rfl rfl)
  | 41, _ => (inB7 69 rfl rfl)
  | 42, _ => (inB7 71 rfl rfl)
  | 43, _ => (inB7 73 rfl rfl)
  | 44, _ => (inB7 75 rfl rfl)
  | 45, _ => (inB7 77 rfl rfl)
  | 46, _ => (inB7 79 rfl rfl)
  | 47, _ => (inB7 81 rfl rfl)
  | 48, _ => (inB7 83 rfl rfl)
  | 49, _ => (inB7 85 rfl rfl)
  | 50, _ => (inB7 87 rfl rfl)
  | 51, _ => (inB7 89 rfl rfl)
  | 52, _ => (inB7 91 rfl rfl)
  | 53, _ => (inB7 93 rfl rfl)
  | 54, _ => (inB7 95 rfl rfl)
  | 55, _ => (inB7 97 rfl rfl)
  | 56, _ => (inB7 99 rfl rfl)
  | 57, _ => (inB7 101 rfl rfl)
  | 58, _ => (inB7 103 rfl rfl)
  | k + 59, h => absurd h (by omega)
theorem wi12 : ∀ w ∈ u_ws RX12 TX12 59, w ∈ WS := fun w hw => by
  obtain ⟨k, hk, rfl⟩ := List.mem_map.mp hw
  exact wj12 k (List.mem_range.mp hk)
theorem cl12 : Cls 12 RX12 TX12 59 := ⟨rfl, wi12, tyX12_ok, nmX12, rfl⟩
theorem in_X12 : Cond.initialized RX12 ∈ WS := (inB1 13 rfl rfl)
theorem nh_X12 : RX12 ≠ "java/lang/invoke/MethodHandle" ∧ RX12 ≠ "java/lang/invoke/VarHandle" := by decide +kernel
theorem in_J6 : Cond.initialized RJ6 ∈ WS := (inB1 21 rfl rfl)
theorem nh_J6 : RJ6 ≠ "java/lang/invoke/MethodHandle" ∧ RJ6 ≠ "java/lang/invoke/VarHandle" := by decide +kernel
theorem pd_0 : (parseMethodDescriptor "()I").map (fun d => d.parameters.length) = some 0 := by decide +kernel
theorem pd_1 : (parseMethodDescriptor "()LNightCarts$Law;").map (fun d => d.parameters.length) = some 0 := by decide +kernel
theorem pd_2 : (parseMethodDescriptor "()V").map (fun d => d.parameters.length) = some 0 := by decide +kernel
theorem pd_3 : (parseMethodDescriptor "()Z").map (fun d => d.parameters.length) = some 0 := by decide +kernel
theorem pd_4 : (parseMethodDescriptor "(I)I").map (fun d => d.parameters.length) = some 1 := by decide +kernel
theorem pd_5 : (parseMethodDescriptor "(I)LNightCarts$Cart;").map (fun d => d.parameters.length) = some 1 := by decide +kernel
theorem pd_6 : (parseMethodDescriptor "(I)V").map (fun d => d.parameters.length) = some 1 := by decide +kernel
theorem pd_7 : (parseMethodDescriptor "(I)Z").map (fun d => d.parameters.length) = some 1 := by decide +kernel
theorem pd_8 : (parseMethodDescriptor "(II)I").map (fun d => d.parameters.length) = some 2 := by decide +kernel
theorem pd_9 : (parseMethodDescriptor "(II)V").map (fun d => d.parameters.length) = some 2 := by decide +kernel
theorem pd_10 : (parseMethodDescriptor "(II)Z").map (fun d => d.parameters.length) = some 2 := by decide +kernel
theorem pd_11 : (parseMethodDescriptor "(III)I").map (fun d => d.parameters.length) = some 3 := by decide +kernel
theorem pd_12 : (parseMethodDescriptor "(III)V").map (fun d => d.parameters.length) = some 3 := by decide +kernel
theorem pd_13 : (parseMethodDescriptor "(III)Z").map (fun d => d.parameters.length) = some 3 := by decide +kernel
theorem pd_14 : (parseMethodDescriptor "(IIII)I").map (fun d => d.parameters.length) = some 4 := by decide +kernel
theorem pd_15 : (parseMethodDescriptor "(IIII)V").map (fun d => d.parameters.length) = some 4 := by decide +kernel
theorem pd_16 : (parseMethodDescriptor "(IIII)Z").map (fun d => d.parameters.length) = some 4 := by decide +kernel
theorem pd_17 : (parseMethodDescriptor "(IIIII)I").map (fun d => d.parameters.length) = some 5 := by decide +kernel
theorem pd_18 : (parseMethodDescriptor "(IILNightCarts$Law;)I").map (fun d => d.parameters.length) = some 3 := by decide +kernel
theorem pd_19 : (parseMethodDescriptor "(ILNightCarts$Cart;I)V").map (fun d => d.parameters.length) = some 3 := by decide +kernel
theorem pd_20 : (parseMethodDescriptor "(ILNightCarts$Law;)I").map (fun d => d.parameters.length) = some 2 := by decide +kernel
theorem pd_21 : (parseMethodDescriptor "(ILNightCarts$Law;)V").map (fun d => d.parameters.length) = some 2 := by decide +kernel
theorem pd_22 : (parseMethodDescriptor "(LNightCarts$Cart;)V").map (fun d => d.parameters.length) = some 1 := by decide +kernel
theorem pd_23 : (parseMethodDescriptor "(LNightCarts$City;)V").map (fun d => d.parameters.length) = some 1 := by decide +kernel
theorem pd_24 : (parseMethodDescriptor "(LNightCarts$City;III)V").map (fun d => d.parameters.length) = some 4 := by decide +kernel
theorem pd_25 : (parseMethodDescriptor "(LNightCarts$City;LNightCarts$Roads;LNightCarts$Law;)V").map (fun d => d.parameters.length) = some 3 := by decide +kernel
theorem pd_26 : (parseMethodDescriptor "(LNightCarts$City;Z)I").map (fun d => d.parameters.length) = some 2 := by decide +kernel
theorem pd_27 : (parseMethodDescriptor "(LNightCarts$Law;)V").map (fun d => d.parameters.length) = some 1 := by decide +kernel
theorem pd_28 : (parseMethodDescriptor "(LNightCarts$Roads;)V").map (fun d => d.parameters.length) = some 1 := by decide +kernel
theorem pd_29 : (parseMethodDescriptor "(LNightCarts$Tape;)I").map (fun d => d.parameters.length) = some 1 := by decide +kernel
theorem pd_30 : (parseMethodDescriptor "(LNightCarts$Tape;)V").map (fun d => d.parameters.length) = some 1 := by decide +kernel
theorem pd_31 : (parseMethodDescriptor "(LNightCarts$Tape;)Z").map (fun d => d.parameters.length) = some 1 := by decide +kernel
theorem pd_32 : (parseMethodDescriptor "(LNightCarts$Tape;I)V").map (fun d => d.parameters.length) = some 2 := by decide +kernel
theorem pd_33 : (parseMethodDescriptor "(LNightCarts$Tape;I)Z").map (fun d => d.parameters.length) = some 2 := by decide +kernel
theorem pd_34 : (parseMethodDescriptor "(LNightCarts$Tape;II)V").map (fun d => d.parameters.length) = some 3 := by decide +kernel
theorem pd_35 : (parseMethodDescriptor "(LNightCarts$Tape;ILNightCarts$City;)V").map (fun d => d.parameters.length) = some 3 := by decide +kernel
theorem pd_36 : (parseMethodDescriptor "(LNightCarts$Tape;LNightCarts$City;)I").map (fun d => d.parameters.length) = some 2 := by decide +kernel
theorem pd_37 : (parseMethodDescriptor "(LNightCarts$Tape;LNightCarts$City;)V").map (fun d => d.parameters.length) = some 2 := by decide +kernel
theorem pd_38 : (parseMethodDescriptor "(LNightCarts$Tape;LNightCarts$City;I)V").map (fun d => d.parameters.length) = some 3 := by decide +kernel
theorem pd_39 : (parseMethodDescriptor "(Z)V").map (fun d => d.parameters.length) = some 1 := by decide +kernel
theorem pd_40 : (parseMethodDescriptor "(ZII)V").map (fun d => d.parameters.length) = some 3 := by decide +kernel
theorem pd_41 : (parseMethodDescriptor "([I)I").map (fun d => d.parameters.length) = some 1 := by decide +kernel
theorem pd_42 : (parseMethodDescriptor "([I)V").map (fun d => d.parameters.length) = some 1 := by decide +kernel
theorem pd_43 : (parseMethodDescriptor "([I)Z").map (fun d => d.parameters.length) = some 1 := by decide +kernel
theorem pd_44 : (parseMethodDescriptor "([I[I)V").map (fun d => d.parameters.length) = some 2 := by decide +kernel
theorem fl_X0_9 : FLk RX0 9 0 0 := ⟨RX0, TX0, 5, cl0, by decide, (inB1 146 rfl rfl), fun q => by rcases q with q | q <;> cases q⟩
theorem fl_X0_15 : FLk RX0 15 0 1 := ⟨RX0, TX0, 5, cl0, by decide, (inB1 147 rfl rfl), fun q => by rcases q with q | q <;> cases q⟩
theorem fl_X0_18 : FLk RX0 18 0 2 := ⟨RX0, TX0, 5, cl0, by decide, (inB1 148 rfl rfl), fun q => by rcases q with q | q <;> cases q⟩
theorem fl_X0_22 : FLk RX0 22 0 4 := ⟨RX0, TX0, 5, cl0, by decide, (inB1 150 rfl rfl), fun _ => rfl⟩
theorem fl_X0_26 : FLk RX0 26 0 3 := ⟨RX0, TX0, 5, cl0, by decide, (inB1 149 rfl rfl), fun _ => rfl⟩
theorem fl_X1_9 : FLk RX1 9 1 0 := ⟨RX1, TX1, 13, cl1, by decide, (inB1 36 rfl rfl), fun q => by rcases q with q | q <;> cases q⟩
theorem fl_X1_15 : FLk RX1 15 1 1 := ⟨RX1, TX1, 13, cl1, by decide, (inB1 37 rfl rfl), fun q => by rcases q with q | q <;> cases q⟩
theorem fl_X1_18 : FLk RX1 18 1 2 := ⟨RX1, TX1, 13, cl1, by decide, (inB1 38 rfl rfl), fun q => by rcases q with q | q <;> cases q⟩
theorem fl_X1_21 : FLk RX1 21 1 3 := ⟨RX1, TX1, 13, cl1, by decide, (inB1 39 rfl rfl), fun q => by rcases q with q | q <;> cases q⟩
theorem fl_X1_24 : FLk RX1 24 1 8 := ⟨RX1, TX1, 13, cl1, by decide, (inB1 44 rfl rfl), fun q => by rcases q with q | q <;> cases q⟩
theorem fl_X1_27 : FLk RX1 27 1 4 := ⟨RX1, TX1, 13, cl1, by decide, (inB1 40 rfl rfl), fun _ => rfl⟩
theorem fl_X1_60 : FLk RX1 60 1 5 := ⟨RX1, TX1, 13, cl1, by decide, (inB1 41 rfl rfl), fun _ => rfl⟩
theorem fl_X1_63 : FLk RX1 63 1 6 := ⟨RX1, TX1, 13, cl1, by decide, (inB1 42 rfl rfl), fun _ => rfl⟩
theorem fl_X1_66 : FLk RX1 66 1 7 := ⟨RX1, TX1, 13, cl1, by decide, (inB1 43 rfl rfl), fun _ => rfl⟩
theorem fl_X1_73 : FLk RX1 73 1 9 := ⟨RX1, TX1, 13, cl1, by decide, (inB1 45 rfl rfl), fun _ => rfl⟩
theorem fl_X1_77 : FLk RX1 77 1 10 := ⟨RX1, TX1, 13, cl1, by decide, (inB1 46 rfl rfl), fun _ => rfl⟩
theorem fl_X1_80 : FLk RX1 80 1 11 := ⟨RX1, TX1, 13, cl1, by decide, (inB1 47 rfl rfl), fun _ => rfl⟩
theorem fl_X1_83 : FLk RX1 83 1 12 := ⟨RX1, TX1, 13, cl1, by decide, (inB1 48 rfl rfl), fun _ => rfl⟩
theorem fl_X10_9 : FLk RX10 9 10 0 := ⟨RX10, TX10, 6, cl10, by decide, (inB1 169 rfl rfl), fun q => by rcases q with q | q <;> cases q⟩
theorem fl_X10_15 : FLk RX10 15 10 1 := ⟨RX10, TX10, 6, cl10, by decide, (inB1 170 rfl rfl), fun _ => rfl⟩
theorem fl_X10_27 : FLk RX10 27 10 2 := ⟨RX10, TX10, 6, cl10, by decide, (inB1 171 rfl rfl), fun _ => rfl⟩
theorem fl_X10_30 : FLk RX10 30 10 3 := ⟨RX10, TX10, 6, cl10, by decide, (inB1 172 rfl rfl), fun _ => rfl⟩
theorem fl_X10_33 : FLk RX10 33 10 5 := ⟨RX10, TX10, 6, cl10, by decide, (inB1 174 rfl rfl), fun _ => rfl⟩
theorem fl_X10_36 : FLk RX10 36 10 4 := ⟨RX10, TX10, 6, cl10, by decide, (inB1 173 rfl rfl), fun _ => rfl⟩
theorem fl_X11_24 : FLk RX11 24 11 0 := ⟨RX11, TX11, 12, cl11, by decide, (inB2 125 rfl rfl), fun q => by rcases q with q | q <;> cases q⟩
theorem fl_X11_28 : FLk RX11 28 11 1 := ⟨RX11, TX11, 12, cl11, by decide, (inB2 126 rfl rfl), fun q => by rcases q with q | q <;> cases q⟩
theorem fl_X11_32 : FLk RX11 32 11 2 := ⟨RX11, TX11, 12, cl11, by decide, (inB2 127 rfl rfl), fun q => by rcases q with q | q <;> cases q⟩
theorem fl_X11_36 : FLk RX11 36 11 3 := ⟨RX11, TX11, 12, cl11, by decide, (inB2 128 rfl rfl), fun q => by rcases q with q | q <;> cases q⟩
theorem fl_X11_43 : FLk RX11 43 11 4 := ⟨RX11, TX11, 12, cl11, by decide, (inB2 129 rfl rfl), fun q => by rcases q with q | q <;> cases q⟩
theorem fl_X11_47 : FLk RX11 47 11 5 := ⟨RX11, TX11, 12, cl11, by decide, (inB2 130 rfl rfl), fun q => by rcases q with q | q <;> cases q⟩
theorem fl_X11_51 : FLk RX11 51 11 6 := ⟨RX11, TX11, 12, cl11, by decide, (inB2 131 rfl rfl), fun q => by rcases q with q | q <;> cases q⟩
theorem fl_X11_60 : FLk RX11 60 11 7 := ⟨RX11, TX11, 12, cl11, by decide, (inB2 132 rfl rfl), fun q => by rcases q with q | q <;> cases q⟩
theorem fl_X11_69 : FLk RX11 69 11 8 := ⟨RX11, TX11, 12, cl11, by decide, (inB2 133 rfl rfl), fun q => by rcases q with q | q <;> cases q⟩
theorem fl_X11_78 : FLk RX11 78 11 9 := ⟨RX11, TX11, 12, cl11, by decide, (inB2 134 rfl rfl), fun q => by rcases q with q | q <;> cases q⟩
theorem fl_X11_85 : FLk RX11 85 11 10 := ⟨RX11, TX11, 12, cl11, by decide, (inB2 135 rfl rfl), fun q => by rcases q with q | q <;> cases q⟩
theorem fl_X11_92 : FLk RX11 92 11 11 := ⟨RX11, TX11, 12, cl11, by decide, (inB2 136 rfl rfl), fun q => by rcases q with q | q <;> cases q⟩
theorem fl_X12_7 : FLk RX12 7 12 0 := ⟨RX12, TX12, 59, cl12, by decide, (inB6 168 rfl rfl), fun q => by rcases q with q | q <;> cases q⟩
theorem fl_X12_13 : FLk RX12 13 12 1 := ⟨RX12, TX12, 59, cl12, by decide, (inB6 169 rfl rfl), fun q => by rcases q with q | q <;> cases q⟩
theorem fl_X12_16 : FLk RX12 16 12 2 := ⟨RX12, TX12, 59, cl12, by decide, (inB6 170 rfl rfl), fun q => by rcases q with q | q <;> cases q⟩
theorem fl_X12_19 : FLk RX12 19 12 3 := ⟨RX12, TX12, 59, cl12, by decide, (inB6 171 rfl rfl), fun q => by rcases q with q | q <;> cases q⟩
theorem fl_X12_22 : FLk RX12 22 12 4 := ⟨RX12, TX12, 59, cl12, by decide, (inB6 172 rfl rfl), fun q => by rcases q with q | q <;> cases q⟩
theorem fl_X12_25 : FLk RX12 25 12 5 := ⟨RX12, TX12, 59, cl12, by decide, (inB6 173 rfl rfl), fun q => by rcases q with q | q <;> cases q⟩
theorem fl_X12_28 : FLk RX12 28 12 6 := ⟨RX12, TX12, 59, cl12, by decide, (inB6 174 rfl rfl), fun q => by rcases q with q | q <;> cases q⟩
theorem fl_X12_31 : FLk RX12 31 12 7 := ⟨RX12, TX12, 59, cl12, by decide, (inB6 175 rfl rfl), fun q => by rcases q with q | q <;> cases q⟩
theorem fl_X12_34 : FLk RX12 34 12 8 := ⟨RX12, TX12, 59, cl12, by decide, (inB6 176 rfl rfl), fun q => by rcases q with q | q <;> cases q⟩
theorem fl_X12_37 : FLk RX12 37 12 9 := ⟨RX12, TX12, 59, cl12, by decide, (inB6 177 rfl rfl), fun q => by rcases q with q | q <;> cases q⟩
theorem fl_X12_40 : FLk RX12 40 12 10 := ⟨RX12, TX12, 59, cl12, by decide, (inB6 178 rfl rfl), fun q => by rcases q with q | q <;> cases q⟩
theorem fl_X12_43 : FLk RX12 43 12 11 := ⟨RX12, TX12, 59, cl12, by decide, (inB6 179 rfl rfl), fun q => by rcases q with q | q <;> cases q⟩
theorem fl_X12_46 : FLk RX12 46 12 14 := ⟨RX12, TX12, 59, cl12, by decide, (inB6 182 rfl rfl), fun q => by rcases q with q | q <;> cases q⟩
theorem fl_X12_50 : FLk RX12 50 12 25 := ⟨RX12, TX12, 59, cl12, by decide, (inB6 193 rfl rfl), fun q => by rcases q with q | q <;> cases q⟩
theorem fl_X12_53 : FLk RX12 53 12 26 := ⟨RX12, TX12, 59, cl12, by decide, (inB6 194 rfl rfl), fun q => by rcases q with q | q <;> cases q⟩
theorem fl_X12_56 : FLk RX12 56 12 27 := ⟨RX12, TX12, 59, cl12, by decide, (inB6 195 rfl rfl), fun q => by rcases q with q | q <;> cases q⟩
theorem fl_X12_59 : FLk RX12 59 12 28 := ⟨RX12, TX12, 59, cl12, by decide, (inB6 196 rfl rfl), fun q => by rcases q with q | q <;> cases q⟩
theorem fl_X12_62 : FLk RX12 62 12 29 := ⟨RX12, TX12, 59, cl12, by decide, (inB6 197 rfl rfl), fun q => by rcases q with q | q <;> cases q⟩
theorem fl_X12_65 : FLk RX12 65 12 30 := ⟨RX12, TX12, 59, cl12, by decide, (inB6 198 rfl rfl), fun q => by rcases q with q | q <;> cases q⟩
theorem fl_X12_68 : FLk RX12 68 12 31 := ⟨RX12, TX12, 59, cl12, by decide, (inB6 199 rfl rfl), fun q => by rcases q with q | q <;> cases q⟩
theorem fl_X12_71 : FLk RX12 71 12 32 := ⟨RX12, TX12, 59, cl12, by decide, (inB6 200 rfl rfl), fun q => by rcases q with q | q <;> cases q⟩
theorem fl_X12_74 : FLk RX12 74 12 33 := ⟨RX12, TX12, 59, cl12, by decide, (inB6 201 rfl rfl), fun q => by rcases q with q | q <;> cases q⟩
theorem fl_X12_77 : FLk RX12 77 12 34 := ⟨RX12, TX12, 59, cl12, by decide, (inB6 202 rfl rfl), fun q => by rcases q with q | q <;> cases q⟩
theorem fl_X12_80 : FLk RX12 80 12 35 := ⟨RX12, TX12, 59, cl12, by decide, (inB6 203 rfl rfl), fun q => by rcases q with q | q <;> cases q⟩
theorem fl_X12_83 : FLk RX12 83 12 36 := ⟨RX12, TX12, 59, cl12, by decide, (inB6 204 rfl rfl), fun q => by rcases q with q | q <;> cases q⟩
theorem fl_X12_86 : FLk RX12 86 12 37 := ⟨RX12, TX12, 59, cl12, by decide, (inB6 205 rfl rfl), fun q => by rcases q with q | q <;> cases q⟩
theorem fl_X12_89 : FLk RX12 89 12 38 := ⟨RX12, TX12, 59, cl12, by decide, (inB6 206 rfl rfl), fun q => by rcases q with q | q <;> cases q⟩
theorem fl_X12_92 : FLk RX12 92 12 39 := ⟨RX12, TX12, 59, cl12, by decide, (inB6 207 rfl rfl), fun q => by rcases q with q | q <;> cases q⟩
theorem fl_X12_95 : FLk RX12 95 12 40 := ⟨RX12, TX12, 59, cl12, by decide, (inB6 208 rfl rfl), fun q => by rcases q with q | q <;> cases q⟩
theorem fl_X12_98 : FLk RX12 98 12 42 := ⟨RX12, TX12, 59, cl12, by decide, (inB6 210 rfl rfl), fun q => by rcases q with q | q <;> cases q⟩
theorem fl_X12_101 : FLk RX12 101 12 43 := ⟨RX12, TX12, 59, cl12, by decide, (inB6 211 rfl rfl), fun q => by rcases q with q | q <;> cases q⟩
theorem fl_X12_104 : FLk RX12 104 12 44 := ⟨RX12, TX12, 59, cl12, by decide, (inB6 212 rfl rfl), fun q => by rcases q with q | q <;> cases q⟩
theorem fl_X12_107 : FLk RX12 107 12 45 := ⟨RX12, TX12, 59, cl12, by decide, (inB6 213 rfl rfl), fun q => by rcases q with q | q <;> cases q⟩
theorem fl_X12_110 : FLk RX12 110 12 46 := ⟨RX12, TX12, 59, cl12, by decide, (inB6 214 rfl rfl), fun q => by rcases q with q | q <;> cases q⟩
theorem fl_X12_113 : FLk RX12 113 12 52 := ⟨RX12, TX12, 59, cl12, by decide, (inB6 220 rfl rfl), fun q => by rcases q with q | q <;> cases q⟩
theorem fl_X12_116 : FLk RX12 116 12 53 := ⟨RX12, TX12, 59, cl12, by decide, (inB6 221 rfl rfl), fun q => by rcases q with q | q <;> cases q⟩
theorem fl_X12_119 : FLk RX12 119 12 54 := ⟨RX12, TX12, 59, cl12, by decide, (inB6 222 rfl rfl), fun q => by rcases q with q | q <;> cases q⟩
theorem fl_X12_122 : FLk RX12 122 12 55 := ⟨RX12, TX12, 59, cl12, by decide, (inB6 223 rfl rfl), fun q => by rcases q with q | q <;> cases q⟩
theorem fl_X12_125 : FLk RX12 125 12 56 := ⟨RX12, TX12, 59, cl12, by decide, (inB6 224 rfl rfl), fun q => by rcases q with q | q <;> cases q⟩
theorem fl_X12_128 : FLk RX12 128 12 57 := ⟨RX12, TX12, 59, cl12, by decide, (inB6 225 rfl rfl), fun q => by rcases q with q | q <;> cases q⟩
theorem fl_X12_135 : FLk RX12 135 12 12 := ⟨RX12, TX12, 59, cl12, by decide, (inB6 180 rfl rfl), fun _ => rfl⟩
theorem fl_X12_143 : FLk RX12 143 12 13 := ⟨RX12, TX12, 59, cl12, by decide, (inB6 181 rfl rfl), fun _ => rfl⟩
theorem fl_X12_159 : FLk RX12 159 12 15 := ⟨RX12, TX12, 59, cl12, by decide, (inB6 183 rfl rfl), fun _ => rfl⟩
theorem fl_X12_166 : FLk RX12 166 12 16 := ⟨RX12, TX12, 59, cl12, by decide, (inB6 184 rfl rfl), fun _ => rfl⟩
theorem fl_X12_169 : FLk RX12 169 12 17 := ⟨RX12, TX12, 59, cl12, by decide, (inB6 185 rfl rfl), fun _ => rfl⟩
theorem fl_X12_176 : FLk RX12 176 12 18 := ⟨RX12, TX12, 59, cl12, by decide, (inB6 186 rfl rfl), fun _ => rfl⟩
theorem fl_X12_182 : FLk RX12 182 12 19 := ⟨RX12, TX12, 59, cl12, by decide, (inB6 187 rfl rfl), fun _ => rfl⟩
theorem fl_X12_189 : FLk RX12 189 12 21 := ⟨RX12, TX12, 59, cl12, by decide, (inB6 189 rfl rfl), fun _ => rfl⟩
theorem fl_X12_193 : FLk RX12 193 12 20 := ⟨RX12, TX12, 59, cl12, by decide, (inB6 188 rfl rfl), fun _ => rfl⟩
theorem fl_X12_196 : FLk RX12 196 12 22 := ⟨RX12, TX12, 59, cl12, by decide, (inB6 190 rfl rfl), fun _ => rfl⟩
theorem fl_X12_246 : FLk RX12 246 12 23 := ⟨RX12, TX12, 59, cl12, by decide, (inB6 191 rfl rfl), fun _ => rfl⟩
theorem fl_X12_258 : FLk RX12 258 12 24 := ⟨RX12, TX12, 59, cl12, by decide, (inB6 192 rfl rfl), fun _ => rfl⟩
theorem fl_X12_278 : FLk RX12 278 12 41 := ⟨RX12, TX12, 59, cl12, by decide, (inB6 209 rfl rfl), fun _ => rfl⟩
theorem fl_X12_299 : FLk RX12 299 12 50 := ⟨RX12, TX12, 59, cl12, by decide, (inB6 218 rfl rfl), fun _ => rfl⟩
theorem fl_X12_302 : FLk RX12 302 12 49 := ⟨RX12, TX12, 59, cl12, by decide, (inB6 217 rfl rfl), fun _ => rfl⟩
theorem fl_X12_311 : FLk RX12 311 12 47 := ⟨RX12, TX12, 59, cl12, by decide, (inB6 215 rfl rfl), fun _ => rfl⟩
theorem fl_X12_314 : FLk RX12 314 12 48 := ⟨RX12, TX12, 59, cl12, by decide, (inB6 216 rfl rfl), fun _ => rfl⟩
theorem fl_X12_320 : FLk RX12 320 12 51 := ⟨RX12, TX12, 59, cl12, by decide, (inB6 219 rfl rfl), fun _ => rfl⟩
theorem fl_X12_385 : FLk RX12 385 12 58 := ⟨RX12, TX12, 59, cl12, by decide, (inB6 226 rfl rfl), fun _ => rfl⟩
theorem fl_X2_9 : FLk RX2 9 2 0 := ⟨RX2, TX2, 12, cl2, by decide, (inB1 102 rfl rfl), fun q => by rcases q with q | q <;> cases q⟩
theorem fl_X2_15 : FLk RX2 15 2 1 := ⟨RX2, TX2, 12, cl2, by decide, (inB1 103 rfl rfl), fun q => by rcases q with q | q <;> cases q⟩
theorem fl_X2_18 : FLk RX2 18 2 2 := ⟨RX2, TX2, 12, cl2, by decide, (inB1 104 rfl rfl), fun q => by rcases q with q | q <;> cases q⟩
theorem fl_X2_21 : FLk RX2 21 2 3 := ⟨RX2, TX2, 12, cl2, by decide, (inB1 105 rfl rfl), fun q => by rcases q with q | q <;> cases q⟩
theorem fl_X2_24 : FLk RX2 24 2 5 := ⟨RX2, TX2, 12, cl2, by decide, (inB1 107 rfl rfl), fun q => by rcases q with q | q <;> cases q⟩
theorem fl_X2_27 : FLk RX2 27 2 6 := ⟨RX2, TX2, 12, cl2, by decide, (inB1 108 rfl rfl), fun q => by rcases q with q | q <;> cases q⟩
theorem fl_X2_30 : FLk RX2 30 2 8 := ⟨RX2, TX2, 12, cl2, by decide, (inB1 110 rfl rfl), fun q => by rcases q with q | q <;> cases q⟩
theorem fl_X2_33 : FLk RX2 33 2 9 := ⟨RX2, TX2, 12, cl2, by decide, (inB1 111 rfl rfl), fun q => by rcases q with q | q <;> cases q⟩
theorem fl_X2_36 : FLk RX2 36 2 4 := ⟨RX2, TX2, 12, cl2, by decide, (inB1 106 rfl rfl), fun _ => rfl⟩
theorem fl_X2_40 : FLk RX2 40 2 7 := ⟨RX2, TX2, 12, cl2, by decide, (inB1 109 rfl rfl), fun _ => rfl⟩
theorem fl_X2_74 : FLk RX2 74 2 10 := ⟨RX2, TX2, 12, cl2, by decide, (inB1 112 rfl rfl), fun _ => rfl⟩
theorem fl_X2_77 : FLk RX2 77 2 11 := ⟨RX2, TX2, 12, cl2, by decide, (inB1 113 rfl rfl), fun _ => rfl⟩
theorem fl_X3_12 : FLk RX3 12 3 0 := ⟨RX3, TX3, 1, cl3, by decide, (inB1 196 rfl rfl), fun q => by rcases q with q | q <;> cases q⟩
theorem fl_X4_9 : FLk RX4 9 4 0 := ⟨RX4, TX4, 6, cl4, by decide, (inB2 106 rfl rfl), fun q => by rcases q with q | q <;> cases q⟩
theorem fl_X4_15 : FLk RX4 15 4 1 := ⟨RX4, TX4, 6, cl4, by decide, (inB2 107 rfl rfl), fun q => by rcases q with q | q <;> cases q⟩
theorem fl_X4_18 : FLk RX4 18 4 2 := ⟨RX4, TX4, 6, cl4, by decide, (inB2 108 rfl rfl), fun q => by rcases q with q | q <;> cases q⟩
theorem fl_X4_21 : FLk RX4 21 4 3 := ⟨RX4, TX4, 6, cl4, by decide, (inB2 109 rfl rfl), fun q => by rcases q with q | q <;> cases q⟩
theorem fl_X4_24 : FLk RX4 24 4 5 := ⟨RX4, TX4, 6, cl4, by decide, (inB2 111 rfl rfl), fun _ => rfl⟩
theorem fl_X4_38 : FLk RX4 38 4 4 := ⟨RX4, TX4, 6, cl4, by decide, (inB2 110 rfl rfl), fun _ => rfl⟩
theorem fl_X5_11 : FLk RX5 11 5 3 := ⟨RX5, TX5, 16, cl5, by decide, (inB1 210 rfl rfl), fun q => by rcases q with q | q <;> cases q⟩
theorem fl_X5_19 : FLk RX5 19 5 4 := ⟨RX5, TX5, 16, cl5, by decide, (inB1 211 rfl rfl), fun q => by rcases q with q | q <;> cases q⟩
theorem fl_X5_23 : FLk RX5 23 5 5 := ⟨RX5, TX5, 16, cl5, by decide, (inB1 212 rfl rfl), fun q => by rcases q with q | q <;> cases q⟩
theorem fl_X5_26 : FLk RX5 26 5 6 := ⟨RX5, TX5, 16, cl5, by decide, (inB1 213 rfl rfl), fun q => by rcases q with q | q <;> cases q⟩
theorem fl_X5_29 : FLk RX5 29 5 7 := ⟨RX5, TX5, 16, cl5, by decide, (inB1 214 rfl rfl), fun q => by rcases q with q | q <;> cases q⟩
theorem fl_X5_32 : FLk RX5 32 5 8 := ⟨RX5, TX5, 16, cl5, by decide, (inB1 215 rfl rfl), fun q => by rcases q with q | q <;> cases q⟩
theorem fl_X5_35 : FLk RX5 35 5 9 := ⟨RX5, TX5, 16, cl5, by decide, (inB1 216 rfl rfl), fun q => by rcases q with q | q <;> cases q⟩
theorem fl_X5_38 : FLk RX5 38 5 0 := ⟨RX5, TX5, 16, cl5, by decide, (inB1 207 rfl rfl), fun q => by rcases q with q | q <;> cases q⟩
theorem fl_X5_42 : FLk RX5 42 5 1 := ⟨RX5, TX5, 16, cl5, by decide, (inB1 208 rfl rfl), fun q => by rcases q with q | q <;> cases q⟩
theorem fl_X5_46 : FLk RX5 46 5 2 := ⟨RX5, TX5, 16, cl5, by decide, (inB1 209 rfl rfl), fun q => by rcases q with q | q <;> cases q⟩
theorem fl_X5_50 : FLk RX5 50 5 10 := ⟨RX5, TX5, 16, cl5, by decide, (inB1 217 rfl rfl), fun _ => rfl⟩
theorem fl_X5_54 : FLk RX5 54 5 11 := ⟨RX5, TX5, 16, cl5, by decide, (inB1 218 rfl rfl), fun _ => rfl⟩
theorem fl_X5_57 : FLk RX5 57 5 12 := ⟨RX5, TX5, 16, cl5, by decide, (inB1 219 rfl rfl), fun _ => rfl⟩
theorem fl_X5_60 : FLk RX5 60 5 13 := ⟨RX5, TX5, 16, cl5, by decide, (inB1 220 rfl rfl), fun _ => rfl⟩
theorem fl_X5_63 : FLk RX5 63 5 14 := ⟨RX5, TX5, 16, cl5, by decide, (inB1 221 rfl rfl), fun _ => rfl⟩
theorem fl_X5_66 : FLk RX5 66 5 15 := ⟨RX5, TX5, 16, cl5, by decide, (inB1 222 rfl rfl), fun _ => rfl⟩
theorem fl_X6_9 : FLk RX6 9 6 0 := ⟨RX6, TX6, 7, cl6, by decide, (inB2 78 rfl rfl), fun q => by rcases q with q | q <;> cases q⟩
theorem fl_X6_15 : FLk RX6 15 6 1 := ⟨RX6, TX6, 7, cl6, by decide, (inB2 79 rfl rfl), fun q => by rcases q with q | q <;> cases q⟩
theorem fl_X6_18 : FLk RX6 18 6 2 := ⟨RX6, TX6, 7, cl6, by decide, (inB2 80 rfl rfl), fun q => by rcases q with q | q <;> cases q⟩
theorem fl_X6_21 : FLk RX6 21 6 3 := ⟨RX6, TX6, 7, cl6, by decide, (inB2 81 rfl rfl), fun q => by rcases q with q | q <;> cases q⟩
theorem fl_X6_24 : FLk RX6 24 6 6 := ⟨RX6, TX6, 7, cl6, by decide, (inB2 84 rfl rfl), fun _ => rfl⟩
theorem fl_X6_38 : FLk RX6 38 6 4 := ⟨RX6, TX6, 7, cl6, by decide, (inB2 82 rfl rfl), fun _ => rfl⟩
theorem fl_X6_41 : FLk RX6 41 6 5 := ⟨RX6, TX6, 7, cl6, by decide, (inB2 83 rfl rfl), fun _ => rfl⟩
theorem fl_X7_11 : FLk RX7 11 7 0 := ⟨RX7, TX7, 4, cl7, by decide, (inB1 83 rfl rfl), fun q => by rcases q with q | q <;> cases q⟩
theorem fl_X7_15 : FLk RX7 15 7 1 := ⟨RX7, TX7, 4, cl7, by decide, (inB1 84 rfl rfl), fun q => by rcases q with q | q <;> cases q⟩
theorem fl_X7_18 : FLk RX7 18 7 2 := ⟨RX7, TX7, 4, cl7, by decide, (inB1 85 rfl rfl), fun q => by rcases q with q | q <;> cases q⟩
theorem fl_X7_21 : FLk RX7 21 7 3 := ⟨RX7, TX7, 4, cl7, by decide, (inB1 86 rfl rfl), fun _ => rfl⟩
theorem fl_X8_11 : FLk RX8 11 8 1 := ⟨RX8, TX8, 5, cl8, by decide, (inB2 23 rfl rfl), fun q => by rcases q with q | q <;> cases q⟩
theorem fl_X8_15 : FLk RX8 15 8 2 := ⟨RX8, TX8, 5, cl8, by decide, (inB2 24 rfl rfl), fun q => by rcases q with q | q <;> cases q⟩
theorem fl_X8_18 : FLk RX8 18 8 3 := ⟨RX8, TX8, 5, cl8, by decide, (inB2 25 rfl rfl), fun q => by rcases q with q | q <;> cases q⟩
theorem fl_X8_21 : FLk RX8 21 8 0 := ⟨RX8, TX8, 5, cl8, by decide, (inB2 22 rfl rfl), fun q => by rcases q with q | q <;> cases q⟩
theorem fl_X8_25 : FLk RX8 25 8 4 := ⟨RX8, TX8, 5, cl8, by decide, (inB2 26 rfl rfl), fun _ => rfl⟩
theorem fl_X9_9 : FLk RX9 9 9 1 := ⟨RX9, TX9, 9, cl9, by decide, (inB2 45 rfl rfl), fun q => by rcases q with q | q <;> cases q⟩
theorem fl_X9_15 : FLk RX9 15 9 2 := ⟨RX9, TX9, 9, cl9, by decide, (inB2 46 rfl rfl), fun q => by rcases q with q | q <;> cases q⟩
theorem fl_X9_18 : FLk RX9 18 9 3 := ⟨RX9, TX9, 9, cl9, by decide, (inB2 47 rfl rfl), fun q => by rcases q with q | q <;> cases q⟩
theorem fl_X9_21 : FLk RX9 21 9 0 := ⟨RX9, TX9, 9, cl9, by decide, (inB2 44 rfl rfl), fun q => by rcases q with q | q <;> cases q⟩
theorem fl_X9_25 : FLk RX9 25 9 4 := ⟨RX9, TX9, 9, cl9, by decide, (inB2 48 rfl rfl), fun _ => rfl⟩
theorem fl_X9_33 : FLk RX9 33 9 5 := ⟨RX9, TX9, 9, cl9, by decide, (inB2 49 rfl rfl), fun _ => rfl⟩
theorem fl_X9_57 : FLk RX9 57 9 7 := ⟨RX9, TX9, 9, cl9, by decide, (inB2 51 rfl rfl), fun _ => rfl⟩
theorem fl_X9_60 : FLk RX9 60 9 8 := ⟨RX9, TX9, 9, cl9, by decide, (inB2 52 rfl rfl), fun _ => rfl⟩
theorem fl_X9_63 : FLk RX9 63 9 6 := ⟨RX9, TX9, 9, cl9, by decide, (inB2 50 rfl rfl), fun _ => rfl⟩
theorem ml_L_9 : Cond.methodLink RL 9 yX11_init ∈ WS := (inB1 24 rfl rfl)
theorem ml_L_12 : Cond.methodLink RL 12 yX12_init ∈ WS := (inB6 149 rfl rfl)
theorem ml_L_13 : Cond.methodLink RL 13 yX11_street ∈ WS := (inB2 162 rfl rfl)
theorem ml_L_17 : Cond.methodLink RL 17 yX12_street ∈ WS := (inB7 106 rfl rfl)
theorem ml_L_18 : Cond.methodLink RL 18 yX11_cart ∈ WS := (inB2 174 rfl rfl)
theorem ml_L_22 : Cond.methodLink RL 22 yX12_cart ∈ WS := (inB7 113 rfl rfl)
theorem ml_L_23 : Cond.methodLink RL 23 yX11_pour ∈ WS := (inB2 186 rfl rfl)
theorem ml_L_27 : Cond.methodLink RL 27 yX12_pour ∈ WS := (inB7 117 rfl rfl)
theorem ml_L_28 : Cond.methodLink RL 28 yX11_feed ∈ WS := (inB2 206 rfl rfl)
theorem ml_L_32 : Cond.methodLink RL 32 yX12_feed ∈ WS := (inB7 121 rfl rfl)
theorem ml_L_33 : Cond.methodLink RL 33 yX11_law ∈ WS := (inB2 222 rfl rfl)
theorem ml_L_37 : Cond.methodLink RL 37 yX12_law ∈ WS := (inB7 129 rfl rfl)
theorem ml_L_38 : Cond.methodLink RL 38 yX11_roads ∈ WS := (inB3 220 rfl rfl)
theorem ml_L_41 : Cond.methodLink RL 41 yX12_roads ∈ WS := (inB7 215 rfl rfl)
theorem ml_L_42 : Cond.methodLink RL 42 yX11_plan ∈ WS := (inB4 26 rfl rfl)
theorem ml_L_45 : Cond.methodLink RL 45 yX12_plan ∈ WS := (inB7 231 rfl rfl)
theorem ml_L_46 : Cond.methodLink RL 46 yX11_nights ∈ WS := (inB4 69 rfl rfl)
theorem ml_L_49 : Cond.methodLink RL 49 yX12_nights ∈ WS := (inB7 239 rfl rfl)
theorem ml_L_50 : Cond.methodLink RL 50 yX11_tried ∈ WS := (inB4 229 rfl rfl)
theorem ml_L_53 : Cond.methodLink RL 53 yX12_tried ∈ WS := (inB8 57 rfl rfl)
theorem ml_L_54 : Cond.methodLink RL 54 yX11_way ∈ WS := (inB5 10 rfl rfl)
theorem ml_L_57 : Cond.methodLink RL 57 yX12_way ∈ WS := (inB8 88 rfl rfl)
theorem ml_L_58 : Cond.methodLink RL 58 yX11_round ∈ WS := (inB5 15 rfl rfl)
theorem ml_L_62 : Cond.methodLink RL 62 yX12_round ∈ WS := (inB8 92 rfl rfl)
theorem ml_L_63 : Cond.methodLink RL 63 yX11_share ∈ WS := (inB5 70 rfl rfl)
theorem ml_L_66 : Cond.methodLink RL 66 yX12_share ∈ WS := (inB8 114 rfl rfl)
theorem ml_L_67 : Cond.methodLink RL 67 yX11_sleepful ∈ WS := (inB5 102 rfl rfl)
theorem ml_L_70 : Cond.methodLink RL 70 yX12_sleepful ∈ WS := (inB8 125 rfl rfl)
theorem ml_L_71 : Cond.methodLink RL 71 yX11_pitAt ∈ WS := (inB5 136 rfl rfl)
theorem ml_L_74 : Cond.methodLink RL 74 yX12_pitAt ∈ WS := (inB8 129 rfl rfl)
theorem ml_L_75 : Cond.methodLink RL 75 yX11_cut ∈ WS := (inB5 164 rfl rfl)
theorem ml_L_78 : Cond.methodLink RL 78 yX12_cut ∈ WS := (inB8 141 rfl rfl)
theorem ml_L_79 : Cond.methodLink RL 79 yX11_strike ∈ WS := (inB5 187 rfl rfl)
theorem ml_L_82 : Cond.methodLink RL 82 yX12_strike ∈ WS := (inB8 68 rfl rfl)
theorem ml_L_83 : Cond.methodLink RL 83 yX11_enough ∈ WS := (inB5 191 rfl rfl)
theorem ml_L_86 : Cond.methodLink RL 86 yX12_enough ∈ WS := (inB8 76 rfl rfl)
theorem ml_L_87 : Cond.methodLink RL 87 yX11_oneStop ∈ WS := (inB5 200 rfl rfl)
theorem ml_L_90 : Cond.methodLink RL 90 yX12_oneStop ∈ WS := (inB8 84 rfl rfl)
theorem ml_L_91 : Cond.methodLink RL 91 yX11_out ∈ WS := (inB5 213 rfl rfl)
theorem ml_L_94 : Cond.methodLink RL 94 yX12_out ∈ WS := (inB8 145 rfl rfl)
theorem ml_L_95 : Cond.methodLink RL 95 yX11_jobs ∈ WS := (inB5 235 rfl rfl)
theorem ml_L_98 : Cond.methodLink RL 98 yX12_jobs ∈ WS := (inB8 153 rfl rfl)
theorem ml_L_99 : Cond.methodLink RL 99 yX11_load ∈ WS := (inB6 33 rfl rfl)
theorem ml_L_102 : Cond.methodLink RL 102 yX12_load ∈ WS := (inB8 161 rfl rfl)
theorem ml_L_103 : Cond.methodLink RL 103 yX11_brides ∈ WS := (inB6 42 rfl rfl)
theorem ml_L_106 : Cond.methodLink RL 106 yX12_brides ∈ WS := (inB8 165 rfl rfl)
theorem ml_L_107 : Cond.methodLink RL 107 yX11_thieves ∈ WS := (inB6 79 rfl rfl)
theorem ml_L_110 : Cond.methodLink RL 110 yX12_thieves ∈ WS := (inB8 173 rfl rfl)
theorem ml_L_111 : Cond.methodLink RL 111 yX11_latest ∈ WS := (inB6 83 rfl rfl)
theorem ml_L_114 : Cond.methodLink RL 114 yX12_latest ∈ WS := (inB8 177 rfl rfl)
theorem ml_L_115 : Cond.methodLink RL 115 yX11_keep ∈ WS := (inB6 97 rfl rfl)
theorem ml_L_119 : Cond.methodLink RL 119 yX12_keep ∈ WS := (inB8 181 rfl rfl)
theorem ml_L_120 : Cond.methodLink RL 120 yX11_undo ∈ WS := (inB6 106 rfl rfl)
theorem ml_L_124 : Cond.methodLink RL 124 yX12_undo ∈ WS := (inB8 185 rfl rfl)
theorem ml_L_125 : Cond.methodLink RL 125 yX11_check ∈ WS := (inB6 114 rfl rfl)
theorem ml_L_128 : Cond.methodLink RL 128 yX12_check ∈ WS := (inB8 189 rfl rfl)
theorem ml_L_129 : Cond.methodLink RL 129 yX11_count ∈ WS := (inB6 118 rfl rfl)
theorem ml_L_132 : Cond.methodLink RL 132 yX12_count ∈ WS := (inB8 193 rfl rfl)
theorem ml_X0_3 : Cond.methodLink RX0 3 objectInit ∈ WS := (inB1 145 rfl rfl)
theorem ml_X0_29 : Cond.methodLinkNest RX0 29 yX11_isWithin "NightCarts" ∈ NW := (inN4 60 rfl rfl)
theorem ml_X0_33 : Cond.methodLink RX0 33 yX10_isSound ∈ WS := (inB4 34 rfl rfl)
theorem ml_X0_39 : Cond.methodLink RX0 39 yX0_readStop ∈ WS := (inB4 35 rfl rfl)
theorem ml_X0_43 : Cond.methodLink RX0 43 yX10_isAtEnd ∈ WS := (inB4 49 rfl rfl)
theorem ml_X0_46 : Cond.methodLink RX0 46 yX10_need ∈ WS := (inB4 50 rfl rfl)
theorem ml_X0_50 : Cond.methodLink RX0 50 yX10_fault ∈ WS := (inB4 51 rfl rfl)
theorem ml_X0_54 : Cond.methodLink RX0 54 yX10_sees ∈ WS := (inB4 39 rfl rfl)
theorem ml_X0_58 : Cond.methodLink RX0 58 yX10_sign ∈ WS := (inB4 40 rfl rfl)
theorem ml_X0_61 : Cond.methodLink RX0 61 yX10_seesStreet ∈ WS := (inB4 41 rfl rfl)
theorem ml_X0_64 : Cond.methodLink RX0 64 yX10_fail ∈ WS := (inB4 42 rfl rfl)
theorem ml_X0_67 : Cond.methodLink RX0 67 yX10_step ∈ WS := (inB4 43 rfl rfl)
theorem ml_X0_70 : Cond.methodLink RX0 70 yX10_readNumber ∈ WS := (inB4 44 rfl rfl)
theorem ml_X0_74 : Cond.methodLink RX0 74 yX0_addStop ∈ WS := (inB4 45 rfl rfl)
theorem ml_X0_78 : Cond.methodLink RX0 78 yX0_takesOnAt ∈ WS := (inB4 56 rfl rfl)
theorem ml_X0_81 : Cond.methodLink RX0 81 yX0_streetOf ∈ WS := (inB4 61 rfl rfl)
theorem ml_X0_84 : Cond.methodLink RX0 84 yX0_yardsOf ∈ WS := (inB4 65 rfl rfl)
theorem ml_X1_3 : Cond.methodLink RX1 3 objectInit ∈ WS := (inB1 35 rfl rfl)
theorem ml_X1_31 : Cond.methodLink RX1 31 yJ6_bitCount_0f7a4 ∈ WS := (inB5 23 rfl rfl)
theorem ml_X1_37 : Cond.methodLinkNest RX1 37 yX11_isWithin "NightCarts" ∈ NW := (inN2 173 rfl rfl)
theorem ml_X1_41 : Cond.methodLink RX1 41 yX1_isTold ∈ WS := (inB2 198 rfl rfl)
theorem ml_X1_45 : Cond.methodLink RX1 45 Lib.Math.min.name ∈ WS := (inB2 199 rfl rfl)
theorem ml_X1_51 : Cond.methodLink RX1 51 yX1_depthOf ∈ WS := (inB2 202 rfl rfl)
theorem ml_X1_54 : Cond.methodLink RX1 54 arraycopyName ∈ WS := (inB4 89 rfl rfl)
theorem ml_X1_69 : Cond.methodLink RX1 69 yX1_copyDepths ∈ WS := (inB6 105 rfl rfl)
theorem ml_X10_3 : Cond.methodLink RX10 3 objectInit ∈ WS := (inB1 168 rfl rfl)
theorem ml_X10_19 : Cond.methodLink RX10 19 yX10_at ∈ WS := (inB2 234 rfl rfl)
theorem ml_X10_23 : Cond.methodLinkNest RX10 23 yX11_hasBit "NightCarts" ∈ NW := (inN6 41 rfl rfl)
theorem ml_X10_39 : Cond.methodLink RX10 39 yX10_sees ∈ WS := (inB3 58 rfl rfl)
theorem ml_X10_43 : Cond.methodLink RX10 43 yX10_step ∈ WS := (inB3 59 rfl rfl)
theorem ml_X10_46 : Cond.methodLink RX10 46 yX10_fail ∈ WS := (inB3 60 rfl rfl)
theorem ml_X10_50 : Cond.methodLink RX10 50 yX10_seesDigit ∈ WS := (inB3 69 rfl rfl)
theorem ml_X11_1 : Cond.methodLink RX11 1 objectInit ∈ WS := (inB1 27 rfl rfl)
theorem ml_X11_9 : Cond.methodLinkNest RX11 9 yX1_init "NightCarts" ∈ NW := (inN1 32 rfl rfl)
theorem ml_X11_12 : Cond.methodLink RX11 12 yX7_init ∈ WS := (inB1 79 rfl rfl)
theorem ml_X11_15 : Cond.methodLinkNest RX11 15 yX2_init "NightCarts" ∈ NW := (inN1 98 rfl rfl)
theorem ml_X11_20 : Cond.methodLinkNest RX11 20 yX0_init "NightCarts" ∈ NW := (inN1 142 rfl rfl)
theorem ml_X11_23 : Cond.methodLinkNest RX11 23 yX10_init "NightCarts" ∈ NW := (inN1 165 rfl rfl)
theorem ml_X11_42 : Cond.methodLinkNest RX11 42 yX3_init "NightCarts" ∈ NW := (inN1 190 rfl rfl)
theorem ml_X11_57 : Cond.methodLink RX11 57 yX5_init ∈ WS := (inB1 202 rfl rfl)
theorem ml_X11_66 : Cond.methodLink RX11 66 yX8_init ∈ WS := (inB2 18 rfl rfl)
theorem ml_X11_75 : Cond.methodLink RX11 75 yX9_init ∈ WS := (inB2 40 rfl rfl)
theorem ml_X11_84 : Cond.methodLinkNest RX11 84 yX6_init "NightCarts" ∈ NW := (inN2 74 rfl rfl)
theorem ml_X11_91 : Cond.methodLinkNest RX11 91 yX4_init "NightCarts" ∈ NW := (inN2 102 rfl rfl)
theorem ml_X11_96 : Cond.methodLink RX11 96 yX11_isWithin ∈ WS := (inB2 166 rfl rfl)
theorem ml_X11_100 : Cond.methodLink RX11 100 yX1_tell ∈ WS := (inB2 169 rfl rfl)
theorem ml_X11_104 : Cond.methodLink RX11 104 yX11_cartAt ∈ WS := (inB2 178 rfl rfl)
theorem ml_X11_108 : Cond.methodLink RX11 108 yX0_tellRoom ∈ WS := (inB2 182 rfl rfl)
theorem ml_X11_112 : Cond.methodLink RX11 112 yX1_isTold ∈ WS := (inB2 190 rfl rfl)
theorem ml_X11_116 : Cond.methodLink RX11 116 yX1_deepen ∈ WS := (inB2 194 rfl rfl)
theorem ml_X11_120 : Cond.methodLink RX11 120 yX10_hasRoomFor ∈ WS := (inB2 210 rfl rfl)
theorem ml_X11_123 : Cond.methodLink RX11 123 yX10_addWord ∈ WS := (inB2 214 rfl rfl)
theorem ml_X11_126 : Cond.methodLink RX11 126 yX10_length ∈ WS := (inB2 218 rfl rfl)
theorem ml_X11_130 : Cond.methodLink RX11 130 yX10_holds ∈ WS := (inB2 226 rfl rfl)
theorem ml_X11_133 : Cond.methodLink RX11 133 yX10_open ∈ WS := (inB2 230 rfl rfl)
theorem ml_X11_136 : Cond.methodLink RX11 136 yX3_read ∈ WS := (inB2 238 rfl rfl)
theorem ml_X11_140 : Cond.methodLink RX11 140 yX10_isSound ∈ WS := (inB3 203 rfl rfl)
theorem ml_X11_144 : Cond.methodLink RX11 144 yX3_fresh ∈ WS := (inB3 204 rfl rfl)
theorem ml_X11_148 : Cond.methodLink RX11 148 yX2_takeOver ∈ WS := (inB3 208 rfl rfl)
theorem ml_X11_152 : Cond.methodLink RX11 152 yX10_clear ∈ WS := (inB3 215 rfl rfl)
theorem ml_X11_155 : Cond.methodLink RX11 155 yX7_read ∈ WS := (inB3 224 rfl rfl)
theorem ml_X11_158 : Cond.methodLink RX11 158 yX0_readStops ∈ WS := (inB4 30 rfl rfl)
theorem ml_X11_161 : Cond.methodLink RX11 161 yX0_takeStopsOf ∈ WS := (inB4 52 rfl rfl)
theorem ml_X11_165 : Cond.methodLink RX11 165 yX1_night ∈ WS := (inB4 73 rfl rfl)
theorem ml_X11_167 : Cond.methodLink RX11 167 yX11_sendCarts ∈ WS := (inB4 77 rfl rfl)
theorem ml_X11_170 : Cond.methodLink RX11 170 yX5_goThrough ∈ WS := (inB4 118 rfl rfl)
theorem ml_X11_173 : Cond.methodLink RX11 173 yX5_slept ∈ WS := (inB4 217 rfl rfl)
theorem ml_X11_176 : Cond.methodLink RX11 176 yX5_swept ∈ WS := (inB4 221 rfl rfl)
theorem ml_X11_179 : Cond.methodLink RX11 179 yX1_endNight ∈ WS := (inB4 225 rfl rfl)
theorem ml_X11_183 : Cond.methodLink RX11 183 yX11_canBeTried ∈ WS := (inB4 233 rfl rfl)
theorem ml_X11_186 : Cond.methodLink RX11 186 yX5_total ∈ WS := (inB4 237 rfl rfl)
theorem ml_X11_190 : Cond.methodLink RX11 190 yX5_depthOf ∈ WS := (inB5 1 rfl rfl)
theorem ml_X11_193 : Cond.methodLink RX11 193 yX5_loadOf ∈ WS := (inB5 2 rfl rfl)
theorem ml_X11_196 : Cond.methodLink RX11 196 yX5_lastMinuteOf ∈ WS := (inB5 6 rfl rfl)
theorem ml_X11_199 : Cond.methodLink RX11 199 yX7_between ∈ WS := (inB5 14 rfl rfl)
theorem ml_X11_202 : Cond.methodLink RX11 202 yX1_areTold ∈ WS := (inB5 19 rfl rfl)
theorem ml_X11_206 : Cond.methodLink RX11 206 yX11_hasBit ∈ WS := (inB5 29 rfl rfl)
theorem ml_X11_209 : Cond.methodLink RX11 209 yJ6_bitCount_0f7a4 ∈ WS := (inB5 32 rfl rfl)
theorem ml_X11_214 : Cond.methodLink RX11 214 yX8_find ∈ WS := (inB5 33 rfl rfl)
theorem ml_X11_217 : Cond.methodLink RX11 217 yX8_minutes ∈ WS := (inB5 61 rfl rfl)
theorem ml_X11_220 : Cond.methodLink RX11 220 yX8_streetAt ∈ WS := (inB5 65 rfl rfl)
theorem ml_X11_223 : Cond.methodLink RX11 223 yX9_choose ∈ WS := (inB5 74 rfl rfl)
theorem ml_X11_226 : Cond.methodLink RX11 226 yX9_spread ∈ WS := (inB5 79 rfl rfl)
theorem ml_X11_229 : Cond.methodLink RX11 229 yX9_least ∈ WS := (inB5 94 rfl rfl)
theorem ml_X11_232 : Cond.methodLink RX11 232 yX9_yardsFor ∈ WS := (inB5 98 rfl rfl)
theorem ml_X11_235 : Cond.methodLink RX11 235 yX9_findSleepful ∈ WS := (inB5 106 rfl rfl)
theorem ml_X11_239 : Cond.methodLink RX11 239 yX9_houses ∈ WS := (inB5 124 rfl rfl)
theorem ml_X11_242 : Cond.methodLink RX11 242 yX9_spent ∈ WS := (inB5 128 rfl rfl)
theorem ml_X11_245 : Cond.methodLink RX11 245 yX9_sleepingStreets ∈ WS := (inB5 132 rfl rfl)
theorem ml_X11_248 : Cond.methodLink RX11 248 yX1_toldStreets ∈ WS := (inB5 140 rfl rfl)
theorem ml_X11_251 : Cond.methodLink RX11 251 yX7_bestPit ∈ WS := (inB5 144 rfl rfl)
theorem ml_X11_255 : Cond.methodLink RX11 255 yX7_farthestFrom ∈ WS := (inB5 162 rfl rfl)
theorem ml_X11_258 : Cond.methodLink RX11 258 yX7_sumFrom ∈ WS := (inB5 163 rfl rfl)
theorem ml_X11_261 : Cond.methodLink RX11 261 yX7_countCuts ∈ WS := (inB5 168 rfl rfl)
theorem ml_X11_264 : Cond.methodLink RX11 264 yX7_firstCut ∈ WS := (inB5 183 rfl rfl)
theorem ml_X11_267 : Cond.methodLink RX11 267 yX1_depthOf ∈ WS := (inB5 195 rfl rfl)
theorem ml_X11_268 : Cond.methodLink RX11 268 yX5_sleepsThrough ∈ WS := (inB5 196 rfl rfl)
theorem ml_X11_271 : Cond.methodLink RX11 271 yX11_isToldCart ∈ WS := (inB4 91 rfl rfl)
theorem ml_X11_274 : Cond.methodLink RX11 274 yX11_sendOneCart ∈ WS := (inB5 204 rfl rfl)
theorem ml_X11_278 : Cond.methodLink RX11 278 yX9_reckonGains ∈ WS := (inB5 217 rfl rfl)
theorem ml_X11_281 : Cond.methodLink RX11 281 yX9_bestGainBeside ∈ WS := (inB5 226 rfl rfl)
theorem ml_X11_284 : Cond.methodLink RX11 284 yX9_gainOf ∈ WS := (inB5 230 rfl rfl)
theorem ml_X11_287 : Cond.methodLink RX11 287 yX11_partJobs ∈ WS := (inB5 239 rfl rfl)
theorem ml_X11_291 : Cond.methodLink RX11 291 yX10_sumOf ∈ WS := (inB6 37 rfl rfl)
theorem ml_X11_295 : Cond.methodLink RX11 295 yX11_matchBrides ∈ WS := (inB6 46 rfl rfl)
theorem ml_X11_298 : Cond.methodLink RX11 298 yX11_latestStart ∈ WS := (inB6 87 rfl rfl)
theorem ml_X11_301 : Cond.methodLink RX11 301 yX1_store ∈ WS := (inB6 101 rfl rfl)
theorem ml_X11_304 : Cond.methodLink RX11 304 yX1_restore ∈ WS := (inB6 110 rfl rfl)
theorem ml_X11_307 : Cond.methodLink RX11 307 yX10_pairAt ∈ WS := (inB6 92 rfl rfl)
theorem ml_X11_310 : Cond.methodLink RX11 310 yX0_stops ∈ WS := (inB6 122 rfl rfl)
theorem ml_X11_313 : Cond.methodLink RX11 313 yX0_room ∈ WS := (inB5 208 rfl rfl)
theorem ml_X11_316 : Cond.methodLink RX11 316 yX11_countOfStreet ∈ WS := (inB6 123 rfl rfl)
theorem ml_X11_319 : Cond.methodLink RX11 319 yX1_slept ∈ WS := (inB6 130 rfl rfl)
theorem ml_X11_320 : Cond.methodLink RX11 320 yX1_swept ∈ WS := (inB6 134 rfl rfl)
theorem ml_X11_321 : Cond.methodLink RX11 321 yX11_toldCarts ∈ WS := (inB6 138 rfl rfl)
theorem ml_X11_324 : Cond.methodLink RX11 324 yX2_clauses ∈ WS := (inB6 142 rfl rfl)
theorem ml_X11_327 : Cond.methodLink RX11 327 yX7_howMany ∈ WS := (inB6 143 rfl rfl)
theorem ml_X11_330 : Cond.methodLink RX11 330 yX0_isTold ∈ WS := (inB4 95 rfl rfl)
theorem ml_X11_332 : Cond.methodLink RX11 332 yX1_housesOf ∈ WS := (inB6 127 rfl rfl)
theorem ml_X11_335 : Cond.methodLink RX11 335 yX1_lampsOf ∈ WS := (inB6 128 rfl rfl)
theorem ml_X11_338 : Cond.methodLink RX11 338 yX1_starsOf ∈ WS := (inB6 129 rfl rfl)
theorem ml_X11_341 : Cond.methodLink RX11 341 yX5_prepare ∈ WS := (inB4 81 rfl rfl)
theorem ml_X11_344 : Cond.methodLink RX11 344 yX5_send ∈ WS := (inB4 99 rfl rfl)
theorem ml_X11_348 : Cond.methodLink RX11 348 yX0_planOneStop ∈ WS := (inB5 209 rfl rfl)
theorem ml_X11_351 : Cond.methodLink RX11 351 yX6_find ∈ WS := (inB6 3 rfl rfl)
theorem ml_X11_354 : Cond.methodLink RX11 354 yX6_longest ∈ WS := (inB6 24 rfl rfl)
theorem ml_X11_357 : Cond.methodLink RX11 357 yX6_cartOf ∈ WS := (inB6 28 rfl rfl)
theorem ml_X11_360 : Cond.methodLink RX11 360 yX10_at ∈ WS := (inB6 50 rfl rfl)
theorem ml_X11_363 : Cond.methodLink RX11 363 yX4_find ∈ WS := (inB6 51 rfl rfl)
theorem ml_X11_366 : Cond.methodLink RX11 366 yX4_missing ∈ WS := (inB6 70 rfl rfl)
theorem ml_X11_369 : Cond.methodLink RX11 369 yX4_placeFor ∈ WS := (inB6 74 rfl rfl)
theorem ml_X11_373 : Cond.methodLink RX11 373 Lib.Math.min.name ∈ WS := (inB6 96 rfl rfl)
theorem ml_X12_1 : Cond.methodLink RX12 1 objectInit ∈ WS := (inB6 152 rfl rfl)
theorem ml_X12_131 : Cond.methodLink RX12 131 yX12_laysWays ∈ WS := (inB6 153 rfl rfl)
theorem ml_X12_139 : Cond.methodLink RX12 139 yX12_has ∈ WS := (inB6 161 rfl rfl)
theorem ml_X12_146 : Cond.methodLink RX12 146 yX12_isStreet ∈ WS := (inB6 157 rfl rfl)
theorem ml_X12_151 : Cond.methodLink RX12 151 yX12_min ∈ WS := (inB6 165 rfl rfl)
theorem ml_X12_155 : Cond.methodLink RX12 155 yX12_in ∈ WS := (inB7 110 rfl rfl)
theorem ml_X12_162 : Cond.methodLink RX12 162 yX12_types ∈ WS := (inB7 125 rfl rfl)
theorem ml_X12_172 : Cond.methodLink RX12 172 yX12_here ∈ WS := (inB7 137 rfl rfl)
theorem ml_X12_179 : Cond.methodLink RX12 179 yX12_wrongAt ∈ WS := (inB7 144 rfl rfl)
theorem ml_X12_185 : Cond.methodLink RX12 185 yX12_isDigit ∈ WS := (inB7 161 rfl rfl)
theorem ml_X12_199 : Cond.methodLink RX12 199 yX12_waitTop ∈ WS := (inB7 183 rfl rfl)
theorem ml_X12_202 : Cond.methodLink RX12 202 yX12_notes ∈ WS := (inB7 169 rfl rfl)
theorem ml_X12_205 : Cond.methodLink RX12 205 yX12_opens ∈ WS := (inB7 156 rfl rfl)
theorem ml_X12_208 : Cond.methodLink RX12 208 yX12_readsNumber ∈ WS := (inB7 165 rfl rfl)
theorem ml_X12_211 : Cond.methodLink RX12 211 yX12_factOf ∈ WS := (inB7 173 rfl rfl)
theorem ml_X12_215 : Cond.methodLink RX12 215 yX12_readsFactor ∈ WS := (inB7 152 rfl rfl)
theorem ml_X12_218 : Cond.methodLink RX12 218 yX12_sumSign ∈ WS := (inB7 176 rfl rfl)
theorem ml_X12_221 : Cond.methodLink RX12 221 yX12_closesSums ∈ WS := (inB7 179 rfl rfl)
theorem ml_X12_225 : Cond.methodLink RX12 225 yX12_hasOpenSum ∈ WS := (inB7 187 rfl rfl)
theorem ml_X12_228 : Cond.methodLink RX12 228 yX12_readsSum ∈ WS := (inB7 148 rfl rfl)
theorem ml_X12_231 : Cond.methodLink RX12 231 yX12_endsPiece ∈ WS := (inB7 199 rfl rfl)
theorem ml_X12_234 : Cond.methodLink RX12 234 yX12_readsCompared ∈ WS := (inB7 195 rfl rfl)
theorem ml_X12_237 : Cond.methodLink RX12 237 yX12_lands ∈ WS := (inB7 203 rfl rfl)
theorem ml_X12_240 : Cond.methodLink RX12 240 yX12_jumps ∈ WS := (inB7 207 rfl rfl)
theorem ml_X12_243 : Cond.methodLink RX12 243 yX12_isClause ∈ WS := (inB7 141 rfl rfl)
theorem ml_X12_249 : Cond.methodLink RX12 249 yX12_readsCondition ∈ WS := (inB7 191 rfl rfl)
theorem ml_X12_252 : Cond.methodLink RX12 252 yX12_readsClause ∈ WS := (inB7 133 rfl rfl)
theorem ml_X12_255 : Cond.methodLink RX12 255 yX12_takes ∈ WS := (inB7 211 rfl rfl)
theorem ml_X12_261 : Cond.methodLink RX12 261 yX12_reckon ∈ WS := (inB8 42 rfl rfl)
theorem ml_X12_265 : Cond.methodLink RX12 265 yX12_comesTo ∈ WS := (inB8 38 rfl rfl)
theorem ml_X12_268 : Cond.methodLink RX12 268 yX12_feels ∈ WS := (inB8 30 rfl rfl)
theorem ml_X12_272 : Cond.methodLink RX12 272 yX12_byLaw ∈ WS := (inB8 34 rfl rfl)
theorem ml_X12_275 : Cond.methodLink RX12 275 yX12_isLetterHere ∈ WS := (inB7 223 rfl rfl)
theorem ml_X12_281 : Cond.methodLink RX12 281 yX12_readsTwo ∈ WS := (inB7 227 rfl rfl)
theorem ml_X12_284 : Cond.methodLink RX12 284 yX12_readsLine ∈ WS := (inB7 219 rfl rfl)
theorem ml_X12_287 : Cond.methodLink RX12 287 yX12_readsStop ∈ WS := (inB7 235 rfl rfl)
theorem ml_X12_290 : Cond.methodLink RX12 290 yX12_placeOf ∈ WS := (inB8 19 rfl rfl)
theorem ml_X12_293 : Cond.methodLink RX12 293 yX12_farOf ∈ WS := (inB8 22 rfl rfl)
theorem ml_X12_296 : Cond.methodLink RX12 296 yX12_canCome ∈ WS := (inB8 15 rfl rfl)
theorem ml_X12_305 : Cond.methodLink RX12 305 yX12_goesOn ∈ WS := (inB8 11 rfl rfl)
theorem ml_X12_308 : Cond.methodLink RX12 308 yX12_byStreet ∈ WS := (inB8 49 rfl rfl)
theorem ml_X12_317 : Cond.methodLink RX12 317 yX12_isCart ∈ WS := (inB8 7 rfl rfl)
theorem ml_X12_323 : Cond.methodLink RX12 323 yX12_arrives ∈ WS := (inB8 26 rfl rfl)
theorem ml_X12_326 : Cond.methodLink RX12 326 yX12_hourEnds ∈ WS := (inB8 45 rfl rfl)
theorem ml_X12_329 : Cond.methodLink RX12 329 yX12_goesNight ∈ WS := (inB8 3 rfl rfl)
theorem ml_X12_332 : Cond.methodLink RX12 332 yX12_yardsAll ∈ WS := (inB8 53 rfl rfl)
theorem ml_X12_335 : Cond.methodLink RX12 335 yX12_copies ∈ WS := (inB8 61 rfl rfl)
theorem ml_X12_339 : Cond.methodLink RX12 339 yX12_lastOf ∈ WS := (inB8 64 rfl rfl)
theorem ml_X12_342 : Cond.methodLink RX12 342 yX12_sleptBy ∈ WS := (inB8 72 rfl rfl)
theorem ml_X12_345 : Cond.methodLink RX12 345 yX12_sleepsAll ∈ WS := (inB8 80 rfl rfl)
theorem ml_X12_348 : Cond.methodLink RX12 348 yX12_bits ∈ WS := (inB8 96 rfl rfl)
theorem ml_X12_351 : Cond.methodLink RX12 351 yX12_laysWho ∈ WS := (inB8 99 rfl rfl)
theorem ml_X12_354 : Cond.methodLink RX12 354 yX12_codesFor ∈ WS := (inB8 103 rfl rfl)
theorem ml_X12_357 : Cond.methodLink RX12 357 yX12_readsRow ∈ WS := (inB8 106 rfl rfl)
theorem ml_X12_360 : Cond.methodLink RX12 360 yX12_roundBy ∈ WS := (inB8 110 rfl rfl)
theorem ml_X12_363 : Cond.methodLink RX12 363 yX12_max ∈ WS := (inB8 122 rfl rfl)
theorem ml_X12_366 : Cond.methodLink RX12 366 yX12_needFor ∈ WS := (inB8 118 rfl rfl)
theorem ml_X12_369 : Cond.methodLink RX12 369 yX12_laysReach ∈ WS := (inB8 133 rfl rfl)
theorem ml_X12_372 : Cond.methodLink RX12 372 yX12_bestBy ∈ WS := (inB8 137 rfl rfl)
theorem ml_X12_376 : Cond.methodLink RX12 376 yX12_spared ∈ WS := (inB8 149 rfl rfl)
theorem ml_X12_379 : Cond.methodLink RX12 379 yX12_longestBy ∈ WS := (inB8 157 rfl rfl)
theorem ml_X12_382 : Cond.methodLink RX12 382 yX12_missingBy ∈ WS := (inB8 169 rfl rfl)
theorem ml_X12_389 : Cond.methodLink RX12 389 yX12_roadMany ∈ WS := (inB8 197 rfl rfl)
theorem ml_X12_392 : Cond.methodLink RX12 392 yX12_streetIs ∈ WS := (inB8 201 rfl rfl)
theorem ml_X2_3 : Cond.methodLink RX2 3 objectInit ∈ WS := (inB1 101 rfl rfl)
theorem ml_X2_43 : Cond.methodLinkNest RX2 43 yX11_isWithin "NightCarts" ∈ NW := (inN3 194 rfl rfl)
theorem ml_X2_47 : Cond.methodLink RX2 47 arraycopyName ∈ WS := (inB3 212 rfl rfl)
theorem ml_X2_53 : Cond.methodLink RX2 53 yX1_housesOf ∈ WS := (inB4 159 rfl rfl)
theorem ml_X2_59 : Cond.methodLink RX2 59 yX1_starsOf ∈ WS := (inB4 163 rfl rfl)
theorem ml_X2_62 : Cond.methodLink RX2 62 yX2_reckon ∈ WS := (inB4 171 rfl rfl)
theorem ml_X2_66 : Cond.methodLink RX2 66 Lib.Math.min.name ∈ WS := (inB4 192 rfl rfl)
theorem ml_X2_71 : Cond.methodLink RX2 71 Lib.Math.max.name ∈ WS := (inB4 187 rfl rfl)
theorem ml_X2_81 : Cond.methodLink RX2 81 yX2_push ∈ WS := (inB4 175 rfl rfl)
theorem ml_X2_85 : Cond.methodLink RX2 85 yX2_factAt ∈ WS := (inB4 179 rfl rfl)
theorem ml_X2_88 : Cond.methodLink RX2 88 yX2_pop ∈ WS := (inB4 183 rfl rfl)
theorem ml_X2_92 : Cond.methodLink RX2 92 yX2_join ∈ WS := (inB4 188 rfl rfl)
theorem ml_X3_3 : Cond.methodLink RX3 3 objectInit ∈ WS := (inB1 193 rfl rfl)
theorem ml_X3_11 : Cond.methodLinkNest RX3 11 yX2_init "NightCarts" ∈ NW := (inN1 195 rfl rfl)
theorem ml_X3_18 : Cond.methodLink RX3 18 yX2_clear ∈ WS := (inB3 2 rfl rfl)
theorem ml_X3_21 : Cond.methodLink RX3 21 yX10_isSound ∈ WS := (inB3 6 rfl rfl)
theorem ml_X3_27 : Cond.methodLink RX3 27 yX3_readClause ∈ WS := (inB3 10 rfl rfl)
theorem ml_X3_31 : Cond.methodLink RX3 31 yX10_isAtEnd ∈ WS := (inB3 78 rfl rfl)
theorem ml_X3_34 : Cond.methodLink RX3 34 yX10_need ∈ WS := (inB3 54 rfl rfl)
theorem ml_X3_38 : Cond.methodLink RX3 38 yX2_clauses ∈ WS := (inB3 22 rfl rfl)
theorem ml_X3_42 : Cond.methodLink RX3 42 yX10_fault ∈ WS := (inB3 199 rfl rfl)
theorem ml_X3_45 : Cond.methodLink RX3 45 yX10_sign ∈ WS := (inB3 14 rfl rfl)
theorem ml_X3_48 : Cond.methodLink RX3 48 yX10_fail ∈ WS := (inB3 18 rfl rfl)
theorem ml_X3_51 : Cond.methodLink RX3 51 yX10_step ∈ WS := (inB3 26 rfl rfl)
theorem ml_X3_54 : Cond.methodLink RX3 54 yX2_length ∈ WS := (inB3 30 rfl rfl)
theorem ml_X3_57 : Cond.methodLink RX3 57 yX3_readSum ∈ WS := (inB3 34 rfl rfl)
theorem ml_X3_61 : Cond.methodLink RX3 61 yX3_readChoice ∈ WS := (inB3 170 rfl rfl)
theorem ml_X3_64 : Cond.methodLink RX3 64 yX2_addClause ∈ WS := (inB3 195 rfl rfl)
theorem ml_X3_68 : Cond.methodLink RX3 68 yX3_readProduct ∈ WS := (inB3 38 rfl rfl)
theorem ml_X3_71 : Cond.methodLink RX3 71 yX10_sees ∈ WS := (inB3 46 rfl rfl)
theorem ml_X3_75 : Cond.methodLink RX3 75 yX2_addSign ∈ WS := (inB3 70 rfl rfl)
theorem ml_X3_79 : Cond.methodLink RX3 79 yX3_readFactor ∈ WS := (inB3 42 rfl rfl)
theorem ml_X3_82 : Cond.methodLink RX3 82 yX3_seesProductSign ∈ WS := (inB3 167 rfl rfl)
theorem ml_X3_86 : Cond.methodLink RX3 86 yX3_opens ∈ WS := (inB3 50 rfl rfl)
theorem ml_X3_90 : Cond.methodLink RX3 90 yX10_seesDigit ∈ WS := (inB3 61 rfl rfl)
theorem ml_X3_93 : Cond.methodLink RX3 93 yX10_readNumber ∈ WS := (inB3 65 rfl rfl)
theorem ml_X3_97 : Cond.methodLink RX3 97 yX3_readFact ∈ WS := (inB3 74 rfl rfl)
theorem ml_X3_102 : Cond.methodLink RX3 102 yJ0_indexOf_0f7a4 ∈ WS := (inB3 83 rfl rfl)
theorem ml_X3_107 : Cond.methodLink RX3 107 yX3_readPart ∈ WS := (inB3 174 rfl rfl)
theorem ml_X3_110 : Cond.methodLink RX3 110 yX2_leadToEnd ∈ WS := (inB3 190 rfl rfl)
theorem ml_X3_113 : Cond.methodLink RX3 113 yX3_readTest ∈ WS := (inB3 178 rfl rfl)
theorem ml_X3_116 : Cond.methodLink RX3 116 yX3_readNegation ∈ WS := (inB3 182 rfl rfl)
theorem ml_X3_119 : Cond.methodLink RX3 119 yX3_readComparison ∈ WS := (inB3 186 rfl rfl)
theorem ml_X4_3 : Cond.methodLink RX4 3 objectInit ∈ WS := (inB2 105 rfl rfl)
theorem ml_X4_28 : Cond.methodLinkNest RX4 28 yX11_isWithin "NightCarts" ∈ NW := (inN6 78 rfl rfl)
theorem ml_X4_32 : Cond.methodLink RX4 32 Lib.Math.min.name ∈ WS := (inB6 55 rfl rfl)
theorem ml_X4_41 : Cond.methodLink RX4 41 yX10_at ∈ WS := (inB6 56 rfl rfl)
theorem ml_X4_47 : Cond.methodLink RX4 47 yX1_starsOf ∈ WS := (inB6 57 rfl rfl)
theorem ml_X4_55 : Cond.methodLink RX4 55 yX4_match ∈ WS := (inB6 59 rfl rfl)
theorem ml_X4_59 : Cond.methodLink RX4 59 arraycopyName ∈ WS := (inB6 63 rfl rfl)
theorem ml_X4_65 : Cond.methodLinkNest RX4 65 yX11_hasBit "NightCarts" ∈ NW := (inN6 64 rfl rfl)
theorem ml_X4_69 : Cond.methodLink RX4 69 yX4_matchWith ∈ WS := (inB6 65 rfl rfl)
theorem ml_X4_73 : Cond.methodLink RX4 73 Lib.Math.max.name ∈ WS := (inB6 69 rfl rfl)
theorem ml_X5_5 : Cond.methodLink RX5 5 objectInit ∈ WS := (inB1 205 rfl rfl)
theorem ml_X5_69 : Cond.methodLinkNest RX5 69 yX11_isWithin "NightCarts" ∈ NW := (inN4 103 rfl rfl)
theorem ml_X5_74 : Cond.methodLink RX5 74 yX1_copyDepths ∈ WS := (inB4 85 rfl rfl)
theorem ml_X5_80 : Cond.methodLink RX5 80 yX5_goOn ∈ WS := (inB4 104 rfl rfl)
theorem ml_X5_84 : Cond.methodLink RX5 84 yX5_isIdle ∈ WS := (inB4 122 rfl rfl)
theorem ml_X5_88 : Cond.methodLink RX5 88 yX5_serveBefore ∈ WS := (inB4 130 rfl rfl)
theorem ml_X5_92 : Cond.methodLink RX5 92 yX1_isTold ∈ WS := (inB4 108 rfl rfl)
theorem ml_X5_96 : Cond.methodLink RX5 96 yX5_sleepsAfter ∈ WS := (inB4 208 rfl rfl)
theorem ml_X5_100 : Cond.methodLink RX5 100 yX1_housesOf ∈ WS := (inB4 216 rfl rfl)
theorem ml_X5_104 : Cond.methodLink RX5 104 yX5_earliestCart ∈ WS := (inB4 126 rfl rfl)
theorem ml_X5_108 : Cond.methodLink RX5 108 yX5_depthOf ∈ WS := (inB4 151 rfl rfl)
theorem ml_X5_111 : Cond.methodLink RX5 111 yX1_night ∈ WS := (inB4 138 rfl rfl)
theorem ml_X5_114 : Cond.methodLink RX5 114 yX2_regardTime ∈ WS := (inB4 139 rfl rfl)
theorem ml_X5_119 : Cond.methodLink RX5 119 yX5_lose ∈ WS := (inB4 212 rfl rfl)
theorem ml_X5_123 : Cond.methodLink RX5 123 yX5_askOf ∈ WS := (inB4 143 rfl rfl)
theorem ml_X5_126 : Cond.methodLink RX5 126 Lib.Math.min.name ∈ WS := (inB4 199 rfl rfl)
theorem ml_X5_131 : Cond.methodLink RX5 131 yX1_lampsOf ∈ WS := (inB4 147 rfl rfl)
theorem ml_X5_134 : Cond.methodLink RX5 134 yX2_regardStreet ∈ WS := (inB4 155 rfl rfl)
theorem ml_X5_138 : Cond.methodLink RX5 138 yX2_ask ∈ WS := (inB4 167 rfl rfl)
theorem ml_X5_141 : Cond.methodLink RX5 141 yX5_serve ∈ WS := (inB4 134 rfl rfl)
theorem ml_X5_144 : Cond.methodLink RX5 144 yX0_streetOf ∈ WS := (inB4 113 rfl rfl)
theorem ml_X5_147 : Cond.methodLink RX5 147 yX0_takesOnAt ∈ WS := (inB4 193 rfl rfl)
theorem ml_X5_150 : Cond.methodLink RX5 150 yX0_yardsOf ∈ WS := (inB4 194 rfl rfl)
theorem ml_X5_153 : Cond.methodLink RX5 153 yX0_room ∈ WS := (inB4 195 rfl rfl)
theorem ml_X5_156 : Cond.methodLink RX5 156 yX5_takeOn ∈ WS := (inB4 200 rfl rfl)
theorem ml_X5_159 : Cond.methodLink RX5 159 yX5_leave ∈ WS := (inB4 204 rfl rfl)
theorem ml_X5_163 : Cond.methodLink RX5 163 yX0_stops ∈ WS := (inB4 109 rfl rfl)
theorem ml_X5_165 : Cond.methodLink RX5 165 yX7_between ∈ WS := (inB4 114 rfl rfl)
theorem ml_X6_3 : Cond.methodLink RX6 3 objectInit ∈ WS := (inB2 77 rfl rfl)
theorem ml_X6_28 : Cond.methodLinkNest RX6 28 yX11_isWithin "NightCarts" ∈ NW := (inN6 32 rfl rfl)
theorem ml_X6_32 : Cond.methodLink RX6 32 Lib.Math.min.name ∈ WS := (inB6 7 rfl rfl)
theorem ml_X6_44 : Cond.methodLink RX6 44 yX10_at ∈ WS := (inB6 8 rfl rfl)
theorem ml_X6_53 : Cond.methodLink RX6 53 yX6_give ∈ WS := (inB6 10 rfl rfl)
theorem ml_X6_57 : Cond.methodLink RX6 57 yX6_keepRow ∈ WS := (inB6 14 rfl rfl)
theorem ml_X6_60 : Cond.methodLink RX6 60 yX6_giveTo ∈ WS := (inB6 20 rfl rfl)
theorem ml_X6_64 : Cond.methodLink RX6 64 Lib.Math.max.name ∈ WS := (inB6 18 rfl rfl)
theorem ml_X6_67 : Cond.methodLink RX6 67 arraycopyName ∈ WS := (inB6 19 rfl rfl)
theorem ml_X7_3 : Cond.methodLink RX7 3 objectInit ∈ WS := (inB1 82 rfl rfl)
theorem ml_X7_25 : Cond.methodLink RX7 25 yX10_isSound ∈ WS := (inB3 228 rfl rfl)
theorem ml_X7_31 : Cond.methodLink RX7 31 yX7_readLine ∈ WS := (inB3 229 rfl rfl)
theorem ml_X7_35 : Cond.methodLink RX7 35 yX10_isAtEnd ∈ WS := (inB4 14 rfl rfl)
theorem ml_X7_38 : Cond.methodLink RX7 38 yX10_need ∈ WS := (inB4 15 rfl rfl)
theorem ml_X7_42 : Cond.methodLink RX7 42 yX10_fault ∈ WS := (inB4 16 rfl rfl)
theorem ml_X7_46 : Cond.methodLink RX7 46 arraycopyName ∈ WS := (inB4 17 rfl rfl)
theorem ml_X7_52 : Cond.methodLink RX7 52 yX7_findWays ∈ WS := (inB4 18 rfl rfl)
theorem ml_X7_55 : Cond.methodLink RX7 55 yX10_sign ∈ WS := (inB3 233 rfl rfl)
theorem ml_X7_58 : Cond.methodLink RX7 58 yX10_seesStreet ∈ WS := (inB3 234 rfl rfl)
theorem ml_X7_61 : Cond.methodLink RX7 61 yX10_fail ∈ WS := (inB3 238 rfl rfl)
theorem ml_X7_64 : Cond.methodLink RX7 64 yX7_readStreet ∈ WS := (inB3 239 rfl rfl)
theorem ml_X7_68 : Cond.methodLink RX7 68 yX1_isTold ∈ WS := (inB4 3 rfl rfl)
theorem ml_X7_74 : Cond.methodLink RX7 74 yX10_place ∈ WS := (inB4 5 rfl rfl)
theorem ml_X7_77 : Cond.methodLink RX7 77 yX10_readNumber ∈ WS := (inB4 9 rfl rfl)
theorem ml_X7_81 : Cond.methodLink RX7 81 yX10_failAt ∈ WS := (inB4 10 rfl rfl)
theorem ml_X7_85 : Cond.methodLink RX7 85 yX10_step ∈ WS := (inB4 4 rfl rfl)
theorem ml_X7_88 : Cond.methodLink RX7 88 yX7_shortenFrom ∈ WS := (inB4 22 rfl rfl)
theorem ml_X7_91 : Cond.methodLink RX7 91 yX7_between ∈ WS := (inB5 152 rfl rfl)
theorem ml_X7_95 : Cond.methodLink RX7 95 Lib.Math.max.name ∈ WS := (inB5 157 rfl rfl)
theorem ml_X7_100 : Cond.methodLink RX7 100 yX7_reachedFrom ∈ WS := (inB5 148 rfl rfl)
theorem ml_X7_103 : Cond.methodLink RX7 103 yX7_farthestFrom ∈ WS := (inB5 153 rfl rfl)
theorem ml_X7_106 : Cond.methodLink RX7 106 yX7_sumFrom ∈ WS := (inB5 158 rfl rfl)
theorem ml_X7_109 : Cond.methodLink RX7 109 yX7_isCut ∈ WS := (inB5 172 rfl rfl)
theorem ml_X7_112 : Cond.methodLinkNest RX7 112 yX11_isWithin "NightCarts" ∈ NW := (inN5 176 rfl rfl)
theorem ml_X7_116 : Cond.methodLinkNest RX7 116 yX11_hasBit "NightCarts" ∈ NW := (inN5 177 rfl rfl)
theorem ml_X7_120 : Cond.methodLink RX7 120 yX7_neighboursOf ∈ WS := (inB5 178 rfl rfl)
theorem ml_X7_124 : Cond.methodLink RX7 124 Lib.Math.min.name ∈ WS := (inB5 182 rfl rfl)
theorem ml_X8_3 : Cond.methodLink RX8 3 objectInit ∈ WS := (inB2 21 rfl rfl)
theorem ml_X8_29 : Cond.methodLinkNest RX8 29 yX11_hasBit "NightCarts" ∈ NW := (inN5 37 rfl rfl)
theorem ml_X8_33 : Cond.methodLink RX8 33 yX7_between ∈ WS := (inB5 38 rfl rfl)
theorem ml_X8_39 : Cond.methodLink RX8 39 yX8_leastFrom ∈ WS := (inB5 39 rfl rfl)
theorem ml_X8_42 : Cond.methodLink RX8 42 yX8_writeRow ∈ WS := (inB5 53 rfl rfl)
theorem ml_X8_45 : Cond.methodLinkNest RX8 45 yX11_isWithin "NightCarts" ∈ NW := (inN5 69 rfl rfl)
theorem ml_X8_49 : Cond.methodLink RX8 49 yX8_minutesBetween ∈ WS := (inB5 43 rfl rfl)
theorem ml_X8_55 : Cond.methodLink RX8 55 yX8_minutesOver ∈ WS := (inB5 48 rfl rfl)
theorem ml_X8_59 : Cond.methodLink RX8 59 Lib.Math.min.name ∈ WS := (inB5 52 rfl rfl)
theorem ml_X8_64 : Cond.methodLink RX8 64 yX8_firstThatMeets ∈ WS := (inB5 57 rfl rfl)
theorem ml_X9_3 : Cond.methodLink RX9 3 objectInit ∈ WS := (inB2 43 rfl rfl)
theorem ml_X9_29 : Cond.methodLinkNest RX9 29 yX11_hasBit "NightCarts" ∈ NW := (inN5 78 rfl rfl)
theorem ml_X9_36 : Cond.methodLink RX9 36 yX9_neededFor ∈ WS := (inB5 83 rfl rfl)
theorem ml_X9_40 : Cond.methodLink RX9 40 yX9_greatestLevel ∈ WS := (inB5 89 rfl rfl)
theorem ml_X9_43 : Cond.methodLink RX9 43 yX1_depthOf ∈ WS := (inB5 87 rfl rfl)
theorem ml_X9_48 : Cond.methodLink RX9 48 Lib.Math.max.name ∈ WS := (inB5 88 rfl rfl)
theorem ml_X9_54 : Cond.methodLink RX9 54 Lib.Math.min.name ∈ WS := (inB5 93 rfl rfl)
theorem ml_X9_66 : Cond.methodLink RX9 66 yX9_missingToSleep ∈ WS := (inB5 110 rfl rfl)
theorem ml_X9_70 : Cond.methodLink RX9 70 yX9_weigh ∈ WS := (inB5 119 rfl rfl)
theorem ml_X9_74 : Cond.methodLink RX9 74 yX1_night ∈ WS := (inB5 114 rfl rfl)
theorem ml_X9_78 : Cond.methodLink RX9 78 yX2_regardTime ∈ WS := (inB5 115 rfl rfl)
theorem ml_X9_84 : Cond.methodLink RX9 84 yX1_lampsOf ∈ WS := (inB5 116 rfl rfl)
theorem ml_X9_87 : Cond.methodLink RX9 87 yX2_regardStreet ∈ WS := (inB5 117 rfl rfl)
theorem ml_X9_91 : Cond.methodLink RX9 91 yX2_ask ∈ WS := (inB5 118 rfl rfl)
theorem ml_X9_94 : Cond.methodLink RX9 94 yX1_housesOf ∈ WS := (inB5 123 rfl rfl)
theorem ml_X9_97 : Cond.methodLink RX9 97 yX1_isTold ∈ WS := (inB5 221 rfl rfl)
theorem ml_X9_101 : Cond.methodLink RX9 101 yX9_wastedBy ∈ WS := (inB5 222 rfl rfl)
theorem ml_X9_105 : Cond.methodLinkNest RX9 105 yX11_isWithin "NightCarts" ∈ NW := (inN5 234 rfl rfl)
theorem kc_J6_265 : Cond.constant RJ6 265 (Int32.ofInt 1431655765) ∈ WS := (inB5 26 rfl rfl)
theorem kc_J6_266 : Cond.constant RJ6 266 (Int32.ofInt 858993459) ∈ WS := (inB5 27 rfl rfl)
theorem kc_J6_267 : Cond.constant RJ6 267 (Int32.ofInt 252645135) ∈ WS := (inB5 28 rfl rfl)
theorem kc_X11_372 : Cond.constant RX11 372 (Int32.ofInt 2147483647) ∈ WS := (inB6 91 rfl rfl)
theorem kc_X12_150 : Cond.constant RX12 150 (Int32.ofInt 1000000) ∈ WS := (inB6 164 rfl rfl)
theorem kc_X12_192 : Cond.constant RX12 192 (Int32.ofInt 1048576) ∈ WS := (inB7 160 rfl rfl)
theorem kc_X4_54 : Cond.constant RX4 54 (Int32.ofInt 2147483647) ∈ WS := (inB6 58 rfl rfl)
theorem kc_X5_73 : Cond.constant RX5 73 (Int32.ofInt 2147483647) ∈ WS := (inB4 90 rfl rfl)
theorem kc_X6_52 : Cond.constant RX6 52 (Int32.ofInt 2147483647) ∈ WS := (inB6 9 rfl rfl)
theorem kc_X8_54 : Cond.constant RX8 54 (Int32.ofInt 2147483647) ∈ WS := (inB5 47 rfl rfl)
theorem cb_X0_isTold : CBv M_X0_isTold 0 0 := ⟨⟨(inB4 98 rfl rfl), in_X0, nh_X0.1, nh_X0.2, pd_3, by decide⟩, (inB4 96 rfl rfl), (inB4 97 rfl rfl), TX0, 5, rfl⟩
theorem cb_X0_room : CBv M_X0_room 0 0 := ⟨⟨(inB4 198 rfl rfl), in_X0, nh_X0.1, nh_X0.2, pd_0, by decide⟩, (inB4 196 rfl rfl), (inB4 197 rfl rfl), TX0, 5, rfl⟩
theorem cb_X0_tellRoom : CBv M_X0_tellRoom 0 1 := ⟨⟨(inB2 185 rfl rfl), in_X0, nh_X0.1, nh_X0.2, pd_6, by decide⟩, (inB2 183 rfl rfl), (inB2 184 rfl rfl), TX0, 5, rfl⟩
theorem cb_X0_stops : CBv M_X0_stops 0 0 := ⟨⟨(inB4 112 rfl rfl), in_X0, nh_X0.1, nh_X0.2, pd_0, by decide⟩, (inB4 110 rfl rfl), (inB4 111 rfl rfl), TX0, 5, rfl⟩
theorem cb_X0_streetOf : CBv M_X0_streetOf 0 1 := ⟨⟨(inB4 64 rfl rfl), in_X0, nh_X0.1, nh_X0.2, pd_4, by decide⟩, (inB4 62 rfl rfl), (inB4 63 rfl rfl), TX0, 5, rfl⟩
theorem cb_X0_yardsOf : CBv M_X0_yardsOf 0 1 := ⟨⟨(inB4 68 rfl rfl), in_X0, nh_X0.1, nh_X0.2, pd_4, by decide⟩, (inB4 66 rfl rfl), (inB4 67 rfl rfl), TX0, 5, rfl⟩
theorem cb_X0_takesOnAt : CBv M_X0_takesOnAt 0 1 := ⟨⟨(inB4 59 rfl rfl), in_X0, nh_X0.1, nh_X0.2, pd_7, by decide⟩, (inB4 57 rfl rfl), (inB4 58 rfl rfl), TX0, 5, rfl⟩
theorem cb_X0_readStops : CBv M_X0_readStops 0 1 := ⟨⟨(inB4 33 rfl rfl), in_X0, nh_X0.1, nh_X0.2, pd_29, by decide⟩, (inB4 31 rfl rfl), (inB4 32 rfl rfl), TX0, 5, rfl⟩
theorem cb_X0_readStop : CBv M_X0_readStop 0 1 := ⟨⟨(inB4 38 rfl rfl), in_X0, nh_X0.1, nh_X0.2, pd_30, by decide⟩, (inB4 37 rfl rfl), (inP2 0 rfl), TX0, 5, rfl⟩
theorem cb_X0_addStop : CBv M_X0_addStop 0 3 := ⟨⟨(inB4 48 rfl rfl), in_X0, nh_X0.1, nh_X0.2, pd_40, by decide⟩, (inB4 47 rfl rfl), (inP2 1 rfl), TX0, 5, rfl⟩
theorem cb_X0_planOneStop : CBv M_X0_planOneStop 0 2 := ⟨⟨(inB5 212 rfl rfl), in_X0, nh_X0.1, nh_X0.2, pd_9, by decide⟩, (inB5 210 rfl rfl), (inB5 211 rfl rfl), TX0, 5, rfl⟩
theorem cb_X0_takeStopsOf : CBv M_X0_takeStopsOf 0 1 := ⟨⟨(inB4 55 rfl rfl), in_X0, nh_X0.1, nh_X0.2, pd_22, by decide⟩, (inB4 53 rfl rfl), (inB4 54 rfl rfl), TX0, 5, rfl⟩
theorem cb_X1_isTold : CBv M_X1_isTold 1 1 := ⟨⟨(inB2 193 rfl rfl), in_X1, nh_X1.1, nh_X1.2, pd_7, by decide⟩, (inB2 191 rfl rfl), (inB2 192 rfl rfl), TX1, 13, rfl⟩
theorem cb_X1_areTold : CBv M_X1_areTold 1 2 := ⟨⟨(inB5 22 rfl rfl), in_X1, nh_X1.1, nh_X1.2, pd_10, by decide⟩, (inB5 20 rfl rfl), (inB5 21 rfl rfl), TX1, 13, rfl⟩
theorem cb_X1_toldStreets : CBv M_X1_toldStreets 1 0 := ⟨⟨(inB5 143 rfl rfl), in_X1, nh_X1.1, nh_X1.2, pd_0, by decide⟩, (inB5 141 rfl rfl), (inB5 142 rfl rfl), TX1, 13, rfl⟩
theorem cb_X1_tell : CBv M_X1_tell 1 4 := ⟨⟨(inB2 172 rfl rfl), in_X1, nh_X1.1, nh_X1.2, pd_15, by decide⟩, (inB2 170 rfl rfl), (inB2 171 rfl rfl), TX1, 13, rfl⟩
theorem cb_X1_housesOf : CBv M_X1_housesOf 1 1 := ⟨⟨(inB4 162 rfl rfl), in_X1, nh_X1.1, nh_X1.2, pd_4, by decide⟩, (inB4 160 rfl rfl), (inB4 161 rfl rfl), TX1, 13, rfl⟩
theorem cb_X1_lampsOf : CBv M_X1_lampsOf 1 1 := ⟨⟨(inB4 150 rfl rfl), in_X1, nh_X1.1, nh_X1.2, pd_4, by decide⟩, (inB4 148 rfl rfl), (inB4 149 rfl rfl), TX1, 13, rfl⟩
theorem cb_X1_starsOf : CBv M_X1_starsOf 1 1 := ⟨⟨(inB4 166 rfl rfl), in_X1, nh_X1.1, nh_X1.2, pd_4, by decide⟩, (inB4 164 rfl rfl), (inB4 165 rfl rfl), TX1, 13, rfl⟩
theorem cb_X1_depthOf : CBv M_X1_depthOf 1 1 := ⟨⟨(inB2 205 rfl rfl), in_X1, nh_X1.1, nh_X1.2, pd_4, by decide⟩, (inB2 203 rfl rfl), (inB2 204 rfl rfl), TX1, 13, rfl⟩
theorem cb_X1_deepen : CBv M_X1_deepen 1 2 := ⟨⟨(inB2 197 rfl rfl), in_X1, nh_X1.1, nh_X1.2, pd_8, by decide⟩, (inB2 195 rfl rfl), (inB2 196 rfl rfl), TX1, 13, rfl⟩
theorem cb_X1_copyDepths : CBv M_X1_copyDepths 1 1 := ⟨⟨(inB4 88 rfl rfl), in_X1, nh_X1.1, nh_X1.2, pd_42, by decide⟩, (inB4 86 rfl rfl), (inB4 87 rfl rfl), TX1, 13, rfl⟩
theorem cb_X1_night : CBv M_X1_night 1 0 := ⟨⟨(inB4 76 rfl rfl), in_X1, nh_X1.1, nh_X1.2, pd_0, by decide⟩, (inB4 74 rfl rfl), (inB4 75 rfl rfl), TX1, 13, rfl⟩
theorem cb_X1_slept : CBv M_X1_slept 1 0 := ⟨⟨(inB6 133 rfl rfl), in_X1, nh_X1.1, nh_X1.2, pd_0, by decide⟩, (inB6 131 rfl rfl), (inB6 132 rfl rfl), TX1, 13, rfl⟩
theorem cb_X1_swept : CBv M_X1_swept 1 0 := ⟨⟨(inB6 137 rfl rfl), in_X1, nh_X1.1, nh_X1.2, pd_0, by decide⟩, (inB6 135 rfl rfl), (inB6 136 rfl rfl), TX1, 13, rfl⟩
theorem cb_X1_endNight : CBv M_X1_endNight 1 2 := ⟨⟨(inB4 228 rfl rfl), in_X1, nh_X1.1, nh_X1.2, pd_9, by decide⟩, (inB4 226 rfl rfl), (inB4 227 rfl rfl), TX1, 13, rfl⟩
theorem cb_X1_store : CBv M_X1_store 1 0 := ⟨⟨(inB6 104 rfl rfl), in_X1, nh_X1.1, nh_X1.2, pd_0, by decide⟩, (inB6 102 rfl rfl), (inB6 103 rfl rfl), TX1, 13, rfl⟩
theorem cb_X1_restore : CBv M_X1_restore 1 0 := ⟨⟨(inB6 113 rfl rfl), in_X1, nh_X1.1, nh_X1.2, pd_3, by decide⟩, (inB6 111 rfl rfl), (inB6 112 rfl rfl), TX1, 13, rfl⟩
theorem cb_X2_clauses : CBv M_X2_clauses 2 0 := ⟨⟨(inB3 25 rfl rfl), in_X2, nh_X2.1, nh_X2.2, pd_0, by decide⟩, (inB3 23 rfl rfl), (inB3 24 rfl rfl), TX2, 12, rfl⟩
theorem cb_X2_length : CBv M_X2_length 2 0 := ⟨⟨(inB3 33 rfl rfl), in_X2, nh_X2.1, nh_X2.2, pd_0, by decide⟩, (inB3 31 rfl rfl), (inB3 32 rfl rfl), TX2, 12, rfl⟩
theorem cb_X2_clear : CBv M_X2_clear 2 0 := ⟨⟨(inB3 5 rfl rfl), in_X2, nh_X2.1, nh_X2.2, pd_2, by decide⟩, (inB3 3 rfl rfl), (inB3 4 rfl rfl), TX2, 12, rfl⟩
theorem cb_X2_addClause : CBv M_X2_addClause 2 3 := ⟨⟨(inB3 198 rfl rfl), in_X2, nh_X2.1, nh_X2.2, pd_12, by decide⟩, (inB3 196 rfl rfl), (inB3 197 rfl rfl), TX2, 12, rfl⟩
theorem cb_X2_addSign : CBv M_X2_addSign 2 2 := ⟨⟨(inB3 73 rfl rfl), in_X2, nh_X2.1, nh_X2.2, pd_9, by decide⟩, (inB3 71 rfl rfl), (inB3 72 rfl rfl), TX2, 12, rfl⟩
theorem cb_X2_leadToEnd : CBv M_X2_leadToEnd 2 1 := ⟨⟨(inB3 193 rfl rfl), in_X2, nh_X2.1, nh_X2.2, pd_6, by decide⟩, (inB3 191 rfl rfl), (inB3 192 rfl rfl), TX2, 12, rfl⟩
theorem cb_X2_takeOver : CBv M_X2_takeOver 2 1 := ⟨⟨(inB3 211 rfl rfl), in_X2, nh_X2.1, nh_X2.2, pd_27, by decide⟩, (inB3 209 rfl rfl), (inB3 210 rfl rfl), TX2, 12, rfl⟩
theorem cb_X2_regardStreet : CBv M_X2_regardStreet 2 4 := ⟨⟨(inB4 158 rfl rfl), in_X2, nh_X2.1, nh_X2.2, pd_24, by decide⟩, (inB4 156 rfl rfl), (inB4 157 rfl rfl), TX2, 12, rfl⟩
theorem cb_X2_regardTime : CBv M_X2_regardTime 2 3 := ⟨⟨(inB4 142 rfl rfl), in_X2, nh_X2.1, nh_X2.2, pd_12, by decide⟩, (inB4 140 rfl rfl), (inB4 141 rfl rfl), TX2, 12, rfl⟩
theorem cb_X2_ask : CBv M_X2_ask 2 1 := ⟨⟨(inB4 170 rfl rfl), in_X2, nh_X2.1, nh_X2.2, pd_4, by decide⟩, (inB4 168 rfl rfl), (inB4 169 rfl rfl), TX2, 12, rfl⟩
theorem cb_X2_reckon : CBv M_X2_reckon 2 2 := ⟨⟨(inB4 174 rfl rfl), in_X2, nh_X2.1, nh_X2.2, pd_8, by decide⟩, (inB4 173 rfl rfl), (inP2 10 rfl), TX2, 12, rfl⟩
theorem cb_X2_join : CBv M_X2_join 2 3 := ⟨⟨(inB4 191 rfl rfl), in_X2, nh_X2.1, nh_X2.2, pd_11, by decide⟩, (inB4 190 rfl rfl), (inP2 14 rfl), TX2, 12, rfl⟩
theorem cb_X2_factAt : CBv M_X2_factAt 2 1 := ⟨⟨(inB4 182 rfl rfl), in_X2, nh_X2.1, nh_X2.2, pd_4, by decide⟩, (inB4 181 rfl rfl), (inP2 12 rfl), TX2, 12, rfl⟩
theorem cb_X2_push : CBv M_X2_push 2 1 := ⟨⟨(inB4 178 rfl rfl), in_X2, nh_X2.1, nh_X2.2, pd_6, by decide⟩, (inB4 177 rfl rfl), (inP2 11 rfl), TX2, 12, rfl⟩
theorem cb_X2_pop : CBv M_X2_pop 2 0 := ⟨⟨(inB4 186 rfl rfl), in_X2, nh_X2.1, nh_X2.2, pd_0, by decide⟩, (inB4 185 rfl rfl), (inP2 13 rfl), TX2, 12, rfl⟩
theorem cb_X3_fresh : CBv M_X3_fresh 3 0 := ⟨⟨(inB3 207 rfl rfl), in_X3, nh_X3.1, nh_X3.2, pd_1, by decide⟩, (inB3 205 rfl rfl), (inB3 206 rfl rfl), TX3, 1, rfl⟩
theorem cb_X3_read : CBv M_X3_read 3 1 := ⟨⟨(inB3 1 rfl rfl), in_X3, nh_X3.1, nh_X3.2, pd_29, by decide⟩, (inB2 239 rfl rfl), (inB3 0 rfl rfl), TX3, 1, rfl⟩
theorem cb_X3_readClause : CBv M_X3_readClause 3 1 := ⟨⟨(inB3 13 rfl rfl), in_X3, nh_X3.1, nh_X3.2, pd_30, by decide⟩, (inB3 12 rfl rfl), (inP1 1 rfl), TX3, 1, rfl⟩
theorem cb_X3_readSum : CBv M_X3_readSum 3 2 := ⟨⟨(inB3 37 rfl rfl), in_X3, nh_X3.1, nh_X3.2, pd_32, by decide⟩, (inB3 36 rfl rfl), (inP1 2 rfl), TX3, 1, rfl⟩
theorem cb_X3_readProduct : CBv M_X3_readProduct 3 2 := ⟨⟨(inB3 41 rfl rfl), in_X3, nh_X3.1, nh_X3.2, pd_32, by decide⟩, (inB3 40 rfl rfl), (inP1 3 rfl), TX3, 1, rfl⟩
theorem cb_X3_seesProductSign : CBs M_X3_seesProductSign 1 := ⟨⟨(inB3 169 rfl rfl), in_X3, nh_X3.1, nh_X3.2, pd_31, by decide⟩, (inB3 168 rfl rfl)⟩
theorem cb_X3_readFactor : CBv M_X3_readFactor 3 2 := ⟨⟨(inB3 45 rfl rfl), in_X3, nh_X3.1, nh_X3.2, pd_32, by decide⟩, (inB3 44 rfl rfl), (inP1 4 rfl), TX3, 1, rfl⟩
theorem cb_X3_readFact : CBv M_X3_readFact 3 1 := ⟨⟨(inB3 77 rfl rfl), in_X3, nh_X3.1, nh_X3.2, pd_30, by decide⟩, (inB3 76 rfl rfl), (inP1 6 rfl), TX3, 1, rfl⟩
theorem cb_X3_opens : CBv M_X3_opens 3 2 := ⟨⟨(inB3 53 rfl rfl), in_X3, nh_X3.1, nh_X3.2, pd_33, by decide⟩, (inB3 52 rfl rfl), (inP1 5 rfl), TX3, 1, rfl⟩
theorem cb_X3_readChoice : CBv M_X3_readChoice 3 2 := ⟨⟨(inB3 173 rfl rfl), in_X3, nh_X3.1, nh_X3.2, pd_32, by decide⟩, (inB3 172 rfl rfl), (inP1 7 rfl), TX3, 1, rfl⟩
theorem cb_X3_readPart : CBv M_X3_readPart 3 2 := ⟨⟨(inB3 177 rfl rfl), in_X3, nh_X3.1, nh_X3.2, pd_32, by decide⟩, (inB3 176 rfl rfl), (inP1 8 rfl), TX3, 1, rfl⟩
theorem cb_X3_readTest : CBv M_X3_readTest 3 2 := ⟨⟨(inB3 181 rfl rfl), in_X3, nh_X3.1, nh_X3.2, pd_32, by decide⟩, (inB3 180 rfl rfl), (inP1 9 rfl), TX3, 1, rfl⟩
theorem cb_X3_readNegation : CBv M_X3_readNegation 3 2 := ⟨⟨(inB3 185 rfl rfl), in_X3, nh_X3.1, nh_X3.2, pd_32, by decide⟩, (inB3 184 rfl rfl), (inP1 10 rfl), TX3, 1, rfl⟩
theorem cb_X3_readComparison : CBv M_X3_readComparison 3 2 := ⟨⟨(inB3 189 rfl rfl), in_X3, nh_X3.1, nh_X3.2, pd_32, by decide⟩, (inB3 188 rfl rfl), (inP1 11 rfl), TX3, 1, rfl⟩
theorem cb_X4_missing : CBv M_X4_missing 4 0 := ⟨⟨(inB6 73 rfl rfl), in_X4, nh_X4.1, nh_X4.2, pd_0, by decide⟩, (inB6 71 rfl rfl), (inB6 72 rfl rfl), TX4, 6, rfl⟩
theorem cb_X4_placeFor : CBv M_X4_placeFor 4 1 := ⟨⟨(inB6 77 rfl rfl), in_X4, nh_X4.1, nh_X4.2, pd_4, by decide⟩, (inB6 75 rfl rfl), (inB6 76 rfl rfl), TX4, 6, rfl⟩
theorem cb_X4_find : CBv M_X4_find 4 3 := ⟨⟨(inB6 54 rfl rfl), in_X4, nh_X4.1, nh_X4.2, pd_35, by decide⟩, (inB6 52 rfl rfl), (inB6 53 rfl rfl), TX4, 6, rfl⟩
theorem cb_X4_match : CBv M_X4_match 4 3 := ⟨⟨(inB6 62 rfl rfl), in_X4, nh_X4.1, nh_X4.2, pd_12, by decide⟩, (inB6 61 rfl rfl), (inP4 7 rfl), TX4, 6, rfl⟩
theorem cb_X4_matchWith : CBv M_X4_matchWith 4 4 := ⟨⟨(inB6 68 rfl rfl), in_X4, nh_X4.1, nh_X4.2, pd_15, by decide⟩, (inB6 67 rfl rfl), (inP4 8 rfl), TX4, 6, rfl⟩
theorem cb_X5_slept : CBv M_X5_slept 5 0 := ⟨⟨(inB4 220 rfl rfl), in_X5, nh_X5.1, nh_X5.2, pd_0, by decide⟩, (inB4 218 rfl rfl), (inB4 219 rfl rfl), TX5, 16, rfl⟩
theorem cb_X5_swept : CBv M_X5_swept 5 0 := ⟨⟨(inB4 224 rfl rfl), in_X5, nh_X5.1, nh_X5.2, pd_0, by decide⟩, (inB4 222 rfl rfl), (inB4 223 rfl rfl), TX5, 16, rfl⟩
theorem cb_X5_total : CBv M_X5_total 5 1 := ⟨⟨(inB5 0 rfl rfl), in_X5, nh_X5.1, nh_X5.2, pd_4, by decide⟩, (inB4 238 rfl rfl), (inB4 239 rfl rfl), TX5, 16, rfl⟩
theorem cb_X5_depthOf : CBv M_X5_depthOf 5 1 := ⟨⟨(inB4 154 rfl rfl), in_X5, nh_X5.1, nh_X5.2, pd_4, by decide⟩, (inB4 152 rfl rfl), (inB4 153 rfl rfl), TX5, 16, rfl⟩
theorem cb_X5_loadOf : CBv M_X5_loadOf 5 1 := ⟨⟨(inB5 5 rfl rfl), in_X5, nh_X5.1, nh_X5.2, pd_4, by decide⟩, (inB5 3 rfl rfl), (inB5 4 rfl rfl), TX5, 16, rfl⟩
theorem cb_X5_lastMinuteOf : CBv M_X5_lastMinuteOf 5 1 := ⟨⟨(inB5 9 rfl rfl), in_X5, nh_X5.1, nh_X5.2, pd_4, by decide⟩, (inB5 7 rfl rfl), (inB5 8 rfl rfl), TX5, 16, rfl⟩
theorem cb_X5_prepare : CBv M_X5_prepare 5 0 := ⟨⟨(inB4 84 rfl rfl), in_X5, nh_X5.1, nh_X5.2, pd_2, by decide⟩, (inB4 82 rfl rfl), (inB4 83 rfl rfl), TX5, 16, rfl⟩
theorem cb_X5_send : CBv M_X5_send 5 3 := ⟨⟨(inB4 102 rfl rfl), in_X5, nh_X5.1, nh_X5.2, pd_19, by decide⟩, (inB4 100 rfl rfl), (inB4 101 rfl rfl), TX5, 16, rfl⟩
theorem cb_X5_goThrough : CBv M_X5_goThrough 5 0 := ⟨⟨(inB4 121 rfl rfl), in_X5, nh_X5.1, nh_X5.2, pd_2, by decide⟩, (inB4 119 rfl rfl), (inB4 120 rfl rfl), TX5, 16, rfl⟩
theorem cb_X5_isIdle : CBv M_X5_isIdle 5 0 := ⟨⟨(inB4 125 rfl rfl), in_X5, nh_X5.1, nh_X5.2, pd_3, by decide⟩, (inB4 124 rfl rfl), (inP2 5 rfl), TX5, 16, rfl⟩
theorem cb_X5_sleepsThrough : CBv M_X5_sleepsThrough 5 2 := ⟨⟨(inB5 199 rfl rfl), in_X5, nh_X5.1, nh_X5.2, pd_10, by decide⟩, (inB5 197 rfl rfl), (inB5 198 rfl rfl), TX5, 16, rfl⟩
theorem cb_X5_sleepsAfter : CBv M_X5_sleepsAfter 5 2 := ⟨⟨(inB4 211 rfl rfl), in_X5, nh_X5.1, nh_X5.2, pd_10, by decide⟩, (inB4 210 rfl rfl), (inP3 1 rfl), TX5, 16, rfl⟩
theorem cb_X5_lose : CBv M_X5_lose 5 2 := ⟨⟨(inB4 215 rfl rfl), in_X5, nh_X5.1, nh_X5.2, pd_8, by decide⟩, (inB4 214 rfl rfl), (inP3 2 rfl), TX5, 16, rfl⟩
theorem cb_X5_askOf : CBv M_X5_askOf 5 2 := ⟨⟨(inB4 146 rfl rfl), in_X5, nh_X5.1, nh_X5.2, pd_8, by decide⟩, (inB4 145 rfl rfl), (inP2 9 rfl), TX5, 16, rfl⟩
theorem cb_X5_serveBefore : CBv M_X5_serveBefore 5 1 := ⟨⟨(inB4 133 rfl rfl), in_X5, nh_X5.1, nh_X5.2, pd_6, by decide⟩, (inB4 132 rfl rfl), (inP2 7 rfl), TX5, 16, rfl⟩
theorem cb_X5_earliestCart : CBv M_X5_earliestCart 5 0 := ⟨⟨(inB4 129 rfl rfl), in_X5, nh_X5.1, nh_X5.2, pd_0, by decide⟩, (inB4 128 rfl rfl), (inP2 6 rfl), TX5, 16, rfl⟩
theorem cb_X5_serve : CBv M_X5_serve 5 1 := ⟨⟨(inB4 137 rfl rfl), in_X5, nh_X5.1, nh_X5.2, pd_6, by decide⟩, (inB4 136 rfl rfl), (inP2 8 rfl), TX5, 16, rfl⟩
theorem cb_X5_takeOn : CBv M_X5_takeOn 5 2 := ⟨⟨(inB4 203 rfl rfl), in_X5, nh_X5.1, nh_X5.2, pd_8, by decide⟩, (inB4 202 rfl rfl), (inP2 15 rfl), TX5, 16, rfl⟩
theorem cb_X5_leave : CBv M_X5_leave 5 3 := ⟨⟨(inB4 207 rfl rfl), in_X5, nh_X5.1, nh_X5.2, pd_11, by decide⟩, (inB4 206 rfl rfl), (inP3 0 rfl), TX5, 16, rfl⟩
theorem cb_X5_goOn : CBv M_X5_goOn 5 3 := ⟨⟨(inB4 107 rfl rfl), in_X5, nh_X5.1, nh_X5.2, pd_12, by decide⟩, (inB4 106 rfl rfl), (inP2 4 rfl), TX5, 16, rfl⟩
theorem cb_X6_longest : CBv M_X6_longest 6 0 := ⟨⟨(inB6 27 rfl rfl), in_X6, nh_X6.1, nh_X6.2, pd_0, by decide⟩, (inB6 25 rfl rfl), (inB6 26 rfl rfl), TX6, 7, rfl⟩
theorem cb_X6_cartOf : CBv M_X6_cartOf 6 1 := ⟨⟨(inB6 31 rfl rfl), in_X6, nh_X6.1, nh_X6.2, pd_4, by decide⟩, (inB6 29 rfl rfl), (inB6 30 rfl rfl), TX6, 7, rfl⟩
theorem cb_X6_find : CBv M_X6_find 6 3 := ⟨⟨(inB6 6 rfl rfl), in_X6, nh_X6.1, nh_X6.2, pd_34, by decide⟩, (inB6 4 rfl rfl), (inB6 5 rfl rfl), TX6, 7, rfl⟩
theorem cb_X6_give : CBv M_X6_give 6 1 := ⟨⟨(inB6 13 rfl rfl), in_X6, nh_X6.1, nh_X6.2, pd_6, by decide⟩, (inB6 12 rfl rfl), (inP4 3 rfl), TX6, 7, rfl⟩
theorem cb_X6_giveTo : CBv M_X6_giveTo 6 2 := ⟨⟨(inB6 23 rfl rfl), in_X6, nh_X6.1, nh_X6.2, pd_9, by decide⟩, (inB6 22 rfl rfl), (inP4 5 rfl), TX6, 7, rfl⟩
theorem cb_X6_keepRow : CBv M_X6_keepRow 6 0 := ⟨⟨(inB6 17 rfl rfl), in_X6, nh_X6.1, nh_X6.2, pd_2, by decide⟩, (inB6 16 rfl rfl), (inP4 4 rfl), TX6, 7, rfl⟩
theorem cb_X7_howMany : CBv M_X7_howMany 7 0 := ⟨⟨(inB6 146 rfl rfl), in_X7, nh_X7.1, nh_X7.2, pd_0, by decide⟩, (inB6 144 rfl rfl), (inB6 145 rfl rfl), TX7, 4, rfl⟩
theorem cb_X7_read : CBv M_X7_read 7 2 := ⟨⟨(inB3 227 rfl rfl), in_X7, nh_X7.1, nh_X7.2, pd_36, by decide⟩, (inB3 225 rfl rfl), (inB3 226 rfl rfl), TX7, 4, rfl⟩
theorem cb_X7_readLine : CBv M_X7_readLine 7 3 := ⟨⟨(inB3 232 rfl rfl), in_X7, nh_X7.1, nh_X7.2, pd_38, by decide⟩, (inB3 231 rfl rfl), (inP1 12 rfl), TX7, 4, rfl⟩
theorem cb_X7_readStreet : CBv M_X7_readStreet 7 2 := ⟨⟨(inB4 2 rfl rfl), in_X7, nh_X7.1, nh_X7.2, pd_37, by decide⟩, (inB4 1 rfl rfl), (inP1 13 rfl), TX7, 4, rfl⟩
theorem cb_X7_findWays : CBv M_X7_findWays 7 0 := ⟨⟨(inB4 21 rfl rfl), in_X7, nh_X7.1, nh_X7.2, pd_2, by decide⟩, (inB4 20 rfl rfl), (inP1 14 rfl), TX7, 4, rfl⟩
theorem cb_X7_shortenFrom : CBv M_X7_shortenFrom 7 2 := ⟨⟨(inB4 25 rfl rfl), in_X7, nh_X7.1, nh_X7.2, pd_9, by decide⟩, (inB4 24 rfl rfl), (inP1 15 rfl), TX7, 4, rfl⟩
theorem cb_X7_between : CBv M_X7_between 7 2 := ⟨⟨(inB4 117 rfl rfl), in_X7, nh_X7.1, nh_X7.2, pd_8, by decide⟩, (inB4 115 rfl rfl), (inB4 116 rfl rfl), TX7, 4, rfl⟩
theorem cb_X7_reachedFrom : CBv M_X7_reachedFrom 7 1 := ⟨⟨(inB5 151 rfl rfl), in_X7, nh_X7.1, nh_X7.2, pd_4, by decide⟩, (inB5 150 rfl rfl), (inP3 13 rfl), TX7, 4, rfl⟩
theorem cb_X7_farthestFrom : CBv M_X7_farthestFrom 7 1 := ⟨⟨(inB5 156 rfl rfl), in_X7, nh_X7.1, nh_X7.2, pd_4, by decide⟩, (inB5 154 rfl rfl), (inB5 155 rfl rfl), TX7, 4, rfl⟩
theorem cb_X7_sumFrom : CBv M_X7_sumFrom 7 1 := ⟨⟨(inB5 161 rfl rfl), in_X7, nh_X7.1, nh_X7.2, pd_4, by decide⟩, (inB5 159 rfl rfl), (inB5 160 rfl rfl), TX7, 4, rfl⟩
theorem cb_X7_bestPit : CBv M_X7_bestPit 7 2 := ⟨⟨(inB5 147 rfl rfl), in_X7, nh_X7.1, nh_X7.2, pd_26, by decide⟩, (inB5 145 rfl rfl), (inB5 146 rfl rfl), TX7, 4, rfl⟩
theorem cb_X7_countCuts : CBv M_X7_countCuts 7 0 := ⟨⟨(inB5 171 rfl rfl), in_X7, nh_X7.1, nh_X7.2, pd_0, by decide⟩, (inB5 169 rfl rfl), (inB5 170 rfl rfl), TX7, 4, rfl⟩
theorem cb_X7_firstCut : CBv M_X7_firstCut 7 0 := ⟨⟨(inB5 186 rfl rfl), in_X7, nh_X7.1, nh_X7.2, pd_0, by decide⟩, (inB5 184 rfl rfl), (inB5 185 rfl rfl), TX7, 4, rfl⟩
theorem cb_X7_isCut : CBv M_X7_isCut 7 1 := ⟨⟨(inB5 175 rfl rfl), in_X7, nh_X7.1, nh_X7.2, pd_7, by decide⟩, (inB5 174 rfl rfl), (inP3 14 rfl), TX7, 4, rfl⟩
theorem cb_X7_neighboursOf : CBv M_X7_neighboursOf 7 3 := ⟨⟨(inB5 181 rfl rfl), in_X7, nh_X7.1, nh_X7.2, pd_11, by decide⟩, (inB5 180 rfl rfl), (inP3 15 rfl), TX7, 4, rfl⟩
theorem cb_X8_find : CBv M_X8_find 8 2 := ⟨⟨(inB5 36 rfl rfl), in_X8, nh_X8.1, nh_X8.2, pd_10, by decide⟩, (inB5 34 rfl rfl), (inB5 35 rfl rfl), TX8, 5, rfl⟩
theorem cb_X8_minutes : CBv M_X8_minutes 8 0 := ⟨⟨(inB5 64 rfl rfl), in_X8, nh_X8.1, nh_X8.2, pd_0, by decide⟩, (inB5 62 rfl rfl), (inB5 63 rfl rfl), TX8, 5, rfl⟩
theorem cb_X8_streetAt : CBv M_X8_streetAt 8 1 := ⟨⟨(inB5 68 rfl rfl), in_X8, nh_X8.1, nh_X8.2, pd_4, by decide⟩, (inB5 66 rfl rfl), (inB5 67 rfl rfl), TX8, 5, rfl⟩
theorem cb_X8_leastFrom : CBv M_X8_leastFrom 8 2 := ⟨⟨(inB5 42 rfl rfl), in_X8, nh_X8.1, nh_X8.2, pd_8, by decide⟩, (inB5 41 rfl rfl), (inP3 4 rfl), TX8, 5, rfl⟩
theorem cb_X8_minutesOver : CBv M_X8_minutesOver 8 3 := ⟨⟨(inB5 51 rfl rfl), in_X8, nh_X8.1, nh_X8.2, pd_11, by decide⟩, (inB5 50 rfl rfl), (inP3 6 rfl), TX8, 5, rfl⟩
theorem cb_X8_minutesBetween : CBv M_X8_minutesBetween 8 2 := ⟨⟨(inB5 46 rfl rfl), in_X8, nh_X8.1, nh_X8.2, pd_8, by decide⟩, (inB5 45 rfl rfl), (inP3 5 rfl), TX8, 5, rfl⟩
theorem cb_X8_writeRow : CBv M_X8_writeRow 8 0 := ⟨⟨(inB5 56 rfl rfl), in_X8, nh_X8.1, nh_X8.2, pd_2, by decide⟩, (inB5 55 rfl rfl), (inP3 7 rfl), TX8, 5, rfl⟩
theorem cb_X8_firstThatMeets : CBv M_X8_firstThatMeets 8 3 := ⟨⟨(inB5 60 rfl rfl), in_X8, nh_X8.1, nh_X8.2, pd_11, by decide⟩, (inB5 59 rfl rfl), (inP3 8 rfl), TX8, 5, rfl⟩
theorem cb_X9_choose : CBv M_X9_choose 9 1 := ⟨⟨(inB5 77 rfl rfl), in_X9, nh_X9.1, nh_X9.2, pd_6, by decide⟩, (inB5 75 rfl rfl), (inB5 76 rfl rfl), TX9, 9, rfl⟩
theorem cb_X9_least : CBv M_X9_least 9 0 := ⟨⟨(inB5 97 rfl rfl), in_X9, nh_X9.1, nh_X9.2, pd_0, by decide⟩, (inB5 95 rfl rfl), (inB5 96 rfl rfl), TX9, 9, rfl⟩
theorem cb_X9_yardsFor : CBv M_X9_yardsFor 9 1 := ⟨⟨(inB5 101 rfl rfl), in_X9, nh_X9.1, nh_X9.2, pd_4, by decide⟩, (inB5 99 rfl rfl), (inB5 100 rfl rfl), TX9, 9, rfl⟩
theorem cb_X9_spread : CBv M_X9_spread 9 1 := ⟨⟨(inB5 82 rfl rfl), in_X9, nh_X9.1, nh_X9.2, pd_7, by decide⟩, (inB5 80 rfl rfl), (inB5 81 rfl rfl), TX9, 9, rfl⟩
theorem cb_X9_neededFor : CBv M_X9_neededFor 9 1 := ⟨⟨(inB5 86 rfl rfl), in_X9, nh_X9.1, nh_X9.2, pd_4, by decide⟩, (inB5 85 rfl rfl), (inP3 9 rfl), TX9, 9, rfl⟩
theorem cb_X9_greatestLevel : CBv M_X9_greatestLevel 9 1 := ⟨⟨(inB5 92 rfl rfl), in_X9, nh_X9.1, nh_X9.2, pd_4, by decide⟩, (inB5 91 rfl rfl), (inP3 10 rfl), TX9, 9, rfl⟩
theorem cb_X9_houses : CBv M_X9_houses 9 0 := ⟨⟨(inB5 127 rfl rfl), in_X9, nh_X9.1, nh_X9.2, pd_0, by decide⟩, (inB5 125 rfl rfl), (inB5 126 rfl rfl), TX9, 9, rfl⟩
theorem cb_X9_spent : CBv M_X9_spent 9 0 := ⟨⟨(inB5 131 rfl rfl), in_X9, nh_X9.1, nh_X9.2, pd_0, by decide⟩, (inB5 129 rfl rfl), (inB5 130 rfl rfl), TX9, 9, rfl⟩
theorem cb_X9_sleepingStreets : CBv M_X9_sleepingStreets 9 0 := ⟨⟨(inB5 135 rfl rfl), in_X9, nh_X9.1, nh_X9.2, pd_0, by decide⟩, (inB5 133 rfl rfl), (inB5 134 rfl rfl), TX9, 9, rfl⟩
theorem cb_X9_findSleepful : CBv M_X9_findSleepful 9 2 := ⟨⟨(inB5 109 rfl rfl), in_X9, nh_X9.1, nh_X9.2, pd_21, by decide⟩, (inB5 107 rfl rfl), (inB5 108 rfl rfl), TX9, 9, rfl⟩
theorem cb_X9_missingToSleep : CBv M_X9_missingToSleep 9 2 := ⟨⟨(inB5 113 rfl rfl), in_X9, nh_X9.1, nh_X9.2, pd_20, by decide⟩, (inB5 112 rfl rfl), (inP3 11 rfl), TX9, 9, rfl⟩
theorem cb_X9_weigh : CBv M_X9_weigh 9 2 := ⟨⟨(inB5 122 rfl rfl), in_X9, nh_X9.1, nh_X9.2, pd_9, by decide⟩, (inB5 121 rfl rfl), (inP3 12 rfl), TX9, 9, rfl⟩
theorem cb_X9_reckonGains : CBv M_X9_reckonGains 9 1 := ⟨⟨(inB5 220 rfl rfl), in_X9, nh_X9.1, nh_X9.2, pd_27, by decide⟩, (inB5 218 rfl rfl), (inB5 219 rfl rfl), TX9, 9, rfl⟩
theorem cb_X9_wastedBy : CBv M_X9_wastedBy 9 3 := ⟨⟨(inB5 225 rfl rfl), in_X9, nh_X9.1, nh_X9.2, pd_18, by decide⟩, (inB5 224 rfl rfl), (inP4 1 rfl), TX9, 9, rfl⟩
theorem cb_X9_gainOf : CBv M_X9_gainOf 9 1 := ⟨⟨(inB5 233 rfl rfl), in_X9, nh_X9.1, nh_X9.2, pd_4, by decide⟩, (inB5 231 rfl rfl), (inB5 232 rfl rfl), TX9, 9, rfl⟩
theorem cb_X9_bestGainBeside : CBv M_X9_bestGainBeside 9 1 := ⟨⟨(inB5 229 rfl rfl), in_X9, nh_X9.1, nh_X9.2, pd_4, by decide⟩, (inB5 227 rfl rfl), (inB5 228 rfl rfl), TX9, 9, rfl⟩
theorem cb_X10_hasRoomFor : CBv M_X10_hasRoomFor 10 1 := ⟨⟨(inB2 213 rfl rfl), in_X10, nh_X10.1, nh_X10.2, pd_7, by decide⟩, (inB2 211 rfl rfl), (inB2 212 rfl rfl), TX10, 6, rfl⟩
theorem cb_X10_holds : CBv M_X10_holds 10 1 := ⟨⟨(inB2 229 rfl rfl), in_X10, nh_X10.1, nh_X10.2, pd_7, by decide⟩, (inB2 227 rfl rfl), (inB2 228 rfl rfl), TX10, 6, rfl⟩
theorem cb_X10_length : CBv M_X10_length 10 0 := ⟨⟨(inB2 221 rfl rfl), in_X10, nh_X10.1, nh_X10.2, pd_0, by decide⟩, (inB2 219 rfl rfl), (inB2 220 rfl rfl), TX10, 6, rfl⟩
theorem cb_X10_clear : CBv M_X10_clear 10 0 := ⟨⟨(inB3 218 rfl rfl), in_X10, nh_X10.1, nh_X10.2, pd_2, by decide⟩, (inB3 216 rfl rfl), (inB3 217 rfl rfl), TX10, 6, rfl⟩
theorem cb_X10_addWord : CBv M_X10_addWord 10 1 := ⟨⟨(inB2 217 rfl rfl), in_X10, nh_X10.1, nh_X10.2, pd_6, by decide⟩, (inB2 215 rfl rfl), (inB2 216 rfl rfl), TX10, 6, rfl⟩
theorem cb_X10_at : CBv M_X10_at 10 1 := ⟨⟨(inB2 237 rfl rfl), in_X10, nh_X10.1, nh_X10.2, pd_4, by decide⟩, (inB2 235 rfl rfl), (inB2 236 rfl rfl), TX10, 6, rfl⟩
theorem cb_X10_pairAt : CBv M_X10_pairAt 10 1 := ⟨⟨(inB6 95 rfl rfl), in_X10, nh_X10.1, nh_X10.2, pd_4, by decide⟩, (inB6 93 rfl rfl), (inB6 94 rfl rfl), TX10, 6, rfl⟩
theorem cb_X10_sumOf : CBv M_X10_sumOf 10 4 := ⟨⟨(inB6 40 rfl rfl), in_X10, nh_X10.1, nh_X10.2, pd_14, by decide⟩, (inB6 38 rfl rfl), (inB6 39 rfl rfl), TX10, 6, rfl⟩
theorem cb_X10_open : CBv M_X10_open 10 1 := ⟨⟨(inB2 233 rfl rfl), in_X10, nh_X10.1, nh_X10.2, pd_6, by decide⟩, (inB2 231 rfl rfl), (inB2 232 rfl rfl), TX10, 6, rfl⟩
theorem cb_X10_place : CBv M_X10_place 10 0 := ⟨⟨(inB4 8 rfl rfl), in_X10, nh_X10.1, nh_X10.2, pd_0, by decide⟩, (inB4 6 rfl rfl), (inB4 7 rfl rfl), TX10, 6, rfl⟩
theorem cb_X10_sign : CBv M_X10_sign 10 0 := ⟨⟨(inB3 17 rfl rfl), in_X10, nh_X10.1, nh_X10.2, pd_0, by decide⟩, (inB3 15 rfl rfl), (inB3 16 rfl rfl), TX10, 6, rfl⟩
theorem cb_X10_isAtEnd : CBv M_X10_isAtEnd 10 0 := ⟨⟨(inB3 81 rfl rfl), in_X10, nh_X10.1, nh_X10.2, pd_3, by decide⟩, (inB3 79 rfl rfl), (inB3 80 rfl rfl), TX10, 6, rfl⟩
theorem cb_X10_isSound : CBv M_X10_isSound 10 0 := ⟨⟨(inB3 9 rfl rfl), in_X10, nh_X10.1, nh_X10.2, pd_3, by decide⟩, (inB3 7 rfl rfl), (inB3 8 rfl rfl), TX10, 6, rfl⟩
theorem cb_X10_fault : CBv M_X10_fault 10 0 := ⟨⟨(inB3 202 rfl rfl), in_X10, nh_X10.1, nh_X10.2, pd_0, by decide⟩, (inB3 200 rfl rfl), (inB3 201 rfl rfl), TX10, 6, rfl⟩
theorem cb_X10_step : CBv M_X10_step 10 0 := ⟨⟨(inB3 29 rfl rfl), in_X10, nh_X10.1, nh_X10.2, pd_2, by decide⟩, (inB3 27 rfl rfl), (inB3 28 rfl rfl), TX10, 6, rfl⟩
theorem cb_X10_failAt : CBv M_X10_failAt 10 2 := ⟨⟨(inB4 13 rfl rfl), in_X10, nh_X10.1, nh_X10.2, pd_9, by decide⟩, (inB4 11 rfl rfl), (inB4 12 rfl rfl), TX10, 6, rfl⟩
theorem cb_X10_fail : CBv M_X10_fail 10 1 := ⟨⟨(inB3 21 rfl rfl), in_X10, nh_X10.1, nh_X10.2, pd_6, by decide⟩, (inB3 19 rfl rfl), (inB3 20 rfl rfl), TX10, 6, rfl⟩
theorem cb_X10_sees : CBv M_X10_sees 10 1 := ⟨⟨(inB3 49 rfl rfl), in_X10, nh_X10.1, nh_X10.2, pd_7, by decide⟩, (inB3 47 rfl rfl), (inB3 48 rfl rfl), TX10, 6, rfl⟩
theorem cb_X10_seesDigit : CBv M_X10_seesDigit 10 0 := ⟨⟨(inB3 64 rfl rfl), in_X10, nh_X10.1, nh_X10.2, pd_3, by decide⟩, (inB3 62 rfl rfl), (inB3 63 rfl rfl), TX10, 6, rfl⟩
theorem cb_X10_seesStreet : CBv M_X10_seesStreet 10 0 := ⟨⟨(inB3 237 rfl rfl), in_X10, nh_X10.1, nh_X10.2, pd_3, by decide⟩, (inB3 235 rfl rfl), (inB3 236 rfl rfl), TX10, 6, rfl⟩
theorem cb_X10_need : CBv M_X10_need 10 1 := ⟨⟨(inB3 57 rfl rfl), in_X10, nh_X10.1, nh_X10.2, pd_6, by decide⟩, (inB3 55 rfl rfl), (inB3 56 rfl rfl), TX10, 6, rfl⟩
theorem cb_X10_readNumber : CBv M_X10_readNumber 10 1 := ⟨⟨(inB3 68 rfl rfl), in_X10, nh_X10.1, nh_X10.2, pd_4, by decide⟩, (inB3 66 rfl rfl), (inB3 67 rfl rfl), TX10, 6, rfl⟩
theorem cb_X11_street : CBv M_X11_street 11 4 := ⟨⟨(inB2 165 rfl rfl), in_X11, nh_X11.1, nh_X11.2, pd_16, by decide⟩, (inB2 163 rfl rfl), (inB2 164 rfl rfl), TX11, 12, rfl⟩
theorem cb_X11_cart : CBv M_X11_cart 11 2 := ⟨⟨(inB2 177 rfl rfl), in_X11, nh_X11.1, nh_X11.2, pd_10, by decide⟩, (inB2 175 rfl rfl), (inB2 176 rfl rfl), TX11, 12, rfl⟩
theorem cb_X11_pour : CBv M_X11_pour 11 2 := ⟨⟨(inB2 189 rfl rfl), in_X11, nh_X11.1, nh_X11.2, pd_8, by decide⟩, (inB2 187 rfl rfl), (inB2 188 rfl rfl), TX11, 12, rfl⟩
theorem cb_X11_feed : CBv M_X11_feed 11 5 := ⟨⟨(inB2 209 rfl rfl), in_X11, nh_X11.1, nh_X11.2, pd_17, by decide⟩, (inB2 207 rfl rfl), (inB2 208 rfl rfl), TX11, 12, rfl⟩
theorem cb_X11_law : CBv M_X11_law 11 1 := ⟨⟨(inB2 225 rfl rfl), in_X11, nh_X11.1, nh_X11.2, pd_4, by decide⟩, (inB2 223 rfl rfl), (inB2 224 rfl rfl), TX11, 12, rfl⟩
theorem cb_X11_roads : CBv M_X11_roads 11 1 := ⟨⟨(inB3 223 rfl rfl), in_X11, nh_X11.1, nh_X11.2, pd_4, by decide⟩, (inB3 221 rfl rfl), (inB3 222 rfl rfl), TX11, 12, rfl⟩
theorem cb_X11_plan : CBv M_X11_plan 11 2 := ⟨⟨(inB4 29 rfl rfl), in_X11, nh_X11.1, nh_X11.2, pd_8, by decide⟩, (inB4 27 rfl rfl), (inB4 28 rfl rfl), TX11, 12, rfl⟩
theorem cb_X11_nights : CBv M_X11_nights 11 1 := ⟨⟨(inB4 72 rfl rfl), in_X11, nh_X11.1, nh_X11.2, pd_4, by decide⟩, (inB4 70 rfl rfl), (inB4 71 rfl rfl), TX11, 12, rfl⟩
theorem cb_X11_tried : CBv M_X11_tried 11 1 := ⟨⟨(inB4 232 rfl rfl), in_X11, nh_X11.1, nh_X11.2, pd_4, by decide⟩, (inB4 230 rfl rfl), (inB4 231 rfl rfl), TX11, 12, rfl⟩
theorem cb_X11_way : CBv M_X11_way 11 2 := ⟨⟨(inB5 13 rfl rfl), in_X11, nh_X11.1, nh_X11.2, pd_8, by decide⟩, (inB5 11 rfl rfl), (inB5 12 rfl rfl), TX11, 12, rfl⟩
theorem cb_X11_round : CBv M_X11_round 11 3 := ⟨⟨(inB5 18 rfl rfl), in_X11, nh_X11.1, nh_X11.2, pd_11, by decide⟩, (inB5 16 rfl rfl), (inB5 17 rfl rfl), TX11, 12, rfl⟩
theorem cb_X11_share : CBv M_X11_share 11 3 := ⟨⟨(inB5 73 rfl rfl), in_X11, nh_X11.1, nh_X11.2, pd_11, by decide⟩, (inB5 71 rfl rfl), (inB5 72 rfl rfl), TX11, 12, rfl⟩
theorem cb_X11_sleepful : CBv M_X11_sleepful 11 3 := ⟨⟨(inB5 105 rfl rfl), in_X11, nh_X11.1, nh_X11.2, pd_11, by decide⟩, (inB5 103 rfl rfl), (inB5 104 rfl rfl), TX11, 12, rfl⟩
theorem cb_X11_pitAt : CBv M_X11_pitAt 11 1 := ⟨⟨(inB5 139 rfl rfl), in_X11, nh_X11.1, nh_X11.2, pd_4, by decide⟩, (inB5 137 rfl rfl), (inB5 138 rfl rfl), TX11, 12, rfl⟩
theorem cb_X11_cut : CBv M_X11_cut 11 1 := ⟨⟨(inB5 167 rfl rfl), in_X11, nh_X11.1, nh_X11.2, pd_4, by decide⟩, (inB5 165 rfl rfl), (inB5 166 rfl rfl), TX11, 12, rfl⟩
theorem cb_X11_strike : CBv M_X11_strike 11 1 := ⟨⟨(inB5 190 rfl rfl), in_X11, nh_X11.1, nh_X11.2, pd_4, by decide⟩, (inB5 188 rfl rfl), (inB5 189 rfl rfl), TX11, 12, rfl⟩
theorem cb_X11_enough : CBv M_X11_enough 11 1 := ⟨⟨(inB5 194 rfl rfl), in_X11, nh_X11.1, nh_X11.2, pd_4, by decide⟩, (inB5 192 rfl rfl), (inB5 193 rfl rfl), TX11, 12, rfl⟩
theorem cb_X11_oneStop : CBv M_X11_oneStop 11 3 := ⟨⟨(inB5 203 rfl rfl), in_X11, nh_X11.1, nh_X11.2, pd_11, by decide⟩, (inB5 201 rfl rfl), (inB5 202 rfl rfl), TX11, 12, rfl⟩
theorem cb_X11_out : CBv M_X11_out 11 2 := ⟨⟨(inB5 216 rfl rfl), in_X11, nh_X11.1, nh_X11.2, pd_8, by decide⟩, (inB5 214 rfl rfl), (inB5 215 rfl rfl), TX11, 12, rfl⟩
theorem cb_X11_jobs : CBv M_X11_jobs 11 3 := ⟨⟨(inB5 238 rfl rfl), in_X11, nh_X11.1, nh_X11.2, pd_11, by decide⟩, (inB5 236 rfl rfl), (inB5 237 rfl rfl), TX11, 12, rfl⟩
theorem cb_X11_load : CBv M_X11_load 11 3 := ⟨⟨(inB6 36 rfl rfl), in_X11, nh_X11.1, nh_X11.2, pd_11, by decide⟩, (inB6 34 rfl rfl), (inB6 35 rfl rfl), TX11, 12, rfl⟩
theorem cb_X11_brides : CBv M_X11_brides 11 2 := ⟨⟨(inB6 45 rfl rfl), in_X11, nh_X11.1, nh_X11.2, pd_8, by decide⟩, (inB6 43 rfl rfl), (inB6 44 rfl rfl), TX11, 12, rfl⟩
theorem cb_X11_thieves : CBv M_X11_thieves 11 3 := ⟨⟨(inB6 82 rfl rfl), in_X11, nh_X11.1, nh_X11.2, pd_11, by decide⟩, (inB6 80 rfl rfl), (inB6 81 rfl rfl), TX11, 12, rfl⟩
theorem cb_X11_latest : CBv M_X11_latest 11 1 := ⟨⟨(inB6 86 rfl rfl), in_X11, nh_X11.1, nh_X11.2, pd_4, by decide⟩, (inB6 84 rfl rfl), (inB6 85 rfl rfl), TX11, 12, rfl⟩
theorem cb_X11_keep : CBv M_X11_keep 11 0 := ⟨⟨(inB6 100 rfl rfl), in_X11, nh_X11.1, nh_X11.2, pd_0, by decide⟩, (inB6 98 rfl rfl), (inB6 99 rfl rfl), TX11, 12, rfl⟩
theorem cb_X11_undo : CBv M_X11_undo 11 0 := ⟨⟨(inB6 109 rfl rfl), in_X11, nh_X11.1, nh_X11.2, pd_3, by decide⟩, (inB6 107 rfl rfl), (inB6 108 rfl rfl), TX11, 12, rfl⟩
theorem cb_X11_check : CBv M_X11_check 11 1 := ⟨⟨(inB6 117 rfl rfl), in_X11, nh_X11.1, nh_X11.2, pd_4, by decide⟩, (inB6 115 rfl rfl), (inB6 116 rfl rfl), TX11, 12, rfl⟩
theorem cb_X11_count : CBv M_X11_count 11 1 := ⟨⟨(inB6 121 rfl rfl), in_X11, nh_X11.1, nh_X11.2, pd_4, by decide⟩, (inB6 119 rfl rfl), (inB6 120 rfl rfl), TX11, 12, rfl⟩
theorem cb_X11_isWithin : CBs M_X11_isWithin 3 := ⟨⟨(inB2 168 rfl rfl), in_X11, nh_X11.1, nh_X11.2, pd_13, by decide⟩, (inB2 167 rfl rfl)⟩
theorem cb_X11_hasBit : CBs M_X11_hasBit 2 := ⟨⟨(inB5 31 rfl rfl), in_X11, nh_X11.1, nh_X11.2, pd_10, by decide⟩, (inB5 30 rfl rfl)⟩
theorem cb_X11_cartAt : CBv M_X11_cartAt 11 1 := ⟨⟨(inB2 181 rfl rfl), in_X11, nh_X11.1, nh_X11.2, pd_5, by decide⟩, (inB2 180 rfl rfl), (inP1 0 rfl), TX11, 12, rfl⟩
theorem cb_X11_isToldCart : CBv M_X11_isToldCart 11 1 := ⟨⟨(inB4 94 rfl rfl), in_X11, nh_X11.1, nh_X11.2, pd_7, by decide⟩, (inB4 93 rfl rfl), (inP2 3 rfl), TX11, 12, rfl⟩
theorem cb_X11_toldCarts : CBv M_X11_toldCarts 11 0 := ⟨⟨(inB6 141 rfl rfl), in_X11, nh_X11.1, nh_X11.2, pd_0, by decide⟩, (inB6 140 rfl rfl), (inP4 11 rfl), TX11, 12, rfl⟩
theorem cb_X11_countOfStreet : CBv M_X11_countOfStreet 11 1 := ⟨⟨(inB6 126 rfl rfl), in_X11, nh_X11.1, nh_X11.2, pd_4, by decide⟩, (inB6 125 rfl rfl), (inP4 10 rfl), TX11, 12, rfl⟩
theorem cb_X11_canBeTried : CBv M_X11_canBeTried 11 1 := ⟨⟨(inB4 236 rfl rfl), in_X11, nh_X11.1, nh_X11.2, pd_7, by decide⟩, (inB4 235 rfl rfl), (inP3 3 rfl), TX11, 12, rfl⟩
theorem cb_X11_sendCarts : CBv M_X11_sendCarts 11 1 := ⟨⟨(inB4 80 rfl rfl), in_X11, nh_X11.1, nh_X11.2, pd_6, by decide⟩, (inB4 79 rfl rfl), (inP2 2 rfl), TX11, 12, rfl⟩
theorem cb_X11_sendOneCart : CBv M_X11_sendOneCart 11 3 := ⟨⟨(inB5 207 rfl rfl), in_X11, nh_X11.1, nh_X11.2, pd_12, by decide⟩, (inB5 206 rfl rfl), (inP4 0 rfl), TX11, 12, rfl⟩
theorem cb_X11_partJobs : CBv M_X11_partJobs 11 3 := ⟨⟨(inB6 2 rfl rfl), in_X11, nh_X11.1, nh_X11.2, pd_11, by decide⟩, (inB6 1 rfl rfl), (inP4 2 rfl), TX11, 12, rfl⟩
theorem cb_X11_matchBrides : CBv M_X11_matchBrides 11 2 := ⟨⟨(inB6 49 rfl rfl), in_X11, nh_X11.1, nh_X11.2, pd_8, by decide⟩, (inB6 48 rfl rfl), (inP4 6 rfl), TX11, 12, rfl⟩
theorem cb_X11_latestStart : CBv M_X11_latestStart 11 1 := ⟨⟨(inB6 90 rfl rfl), in_X11, nh_X11.1, nh_X11.2, pd_4, by decide⟩, (inB6 89 rfl rfl), (inP4 9 rfl), TX11, 12, rfl⟩
theorem cb_X12_in : CBs M_X12_in 3 := ⟨⟨(inB7 112 rfl rfl), in_X12, nh_X12.1, nh_X12.2, pd_13, by decide⟩, (inB7 111 rfl rfl)⟩
theorem cb_X12_min : CBs M_X12_min 2 := ⟨⟨(inB6 167 rfl rfl), in_X12, nh_X12.1, nh_X12.2, pd_8, by decide⟩, (inB6 166 rfl rfl)⟩
theorem cb_X12_max : CBs M_X12_max 2 := ⟨⟨(inB8 124 rfl rfl), in_X12, nh_X12.1, nh_X12.2, pd_8, by decide⟩, (inB8 123 rfl rfl)⟩
theorem cb_X12_has : CBs M_X12_has 2 := ⟨⟨(inB6 163 rfl rfl), in_X12, nh_X12.1, nh_X12.2, pd_10, by decide⟩, (inB6 162 rfl rfl)⟩
theorem cb_X12_bits : CBs M_X12_bits 1 := ⟨⟨(inB8 98 rfl rfl), in_X12, nh_X12.1, nh_X12.2, pd_4, by decide⟩, (inB8 97 rfl rfl)⟩
theorem cb_X12_copies : CBs M_X12_copies 2 := ⟨⟨(inB8 63 rfl rfl), in_X12, nh_X12.1, nh_X12.2, pd_44, by decide⟩, (inB8 62 rfl rfl)⟩
theorem cb_X12_isStreet : CBv M_X12_isStreet 12 1 := ⟨⟨(inB6 160 rfl rfl), in_X12, nh_X12.1, nh_X12.2, pd_7, by decide⟩, (inB6 159 rfl rfl), (inP4 13 rfl), TX12, 59, rfl⟩
theorem cb_X12_isCart : CBv M_X12_isCart 12 1 := ⟨⟨(inB8 10 rfl rfl), in_X12, nh_X12.1, nh_X12.2, pd_7, by decide⟩, (inB8 9 rfl rfl), (inP6 6 rfl), TX12, 59, rfl⟩
theorem cb_X12_laysWays : CBv M_X12_laysWays 12 2 := ⟨⟨(inB6 156 rfl rfl), in_X12, nh_X12.1, nh_X12.2, pd_9, by decide⟩, (inB6 155 rfl rfl), (inP4 12 rfl), TX12, 59, rfl⟩
theorem cb_X12_farOf : CBv M_X12_farOf 12 2 := ⟨⟨(inB8 25 rfl rfl), in_X12, nh_X12.1, nh_X12.2, pd_8, by decide⟩, (inB8 24 rfl rfl), (inP6 9 rfl), TX12, 59, rfl⟩
theorem cb_X12_street : CBv M_X12_street 12 4 := ⟨⟨(inB7 109 rfl rfl), in_X12, nh_X12.1, nh_X12.2, pd_16, by decide⟩, (inB7 107 rfl rfl), (inB7 108 rfl rfl), TX12, 59, rfl⟩
theorem cb_X12_cart : CBv M_X12_cart 12 2 := ⟨⟨(inB7 116 rfl rfl), in_X12, nh_X12.1, nh_X12.2, pd_10, by decide⟩, (inB7 114 rfl rfl), (inB7 115 rfl rfl), TX12, 59, rfl⟩
theorem cb_X12_pour : CBv M_X12_pour 12 2 := ⟨⟨(inB7 120 rfl rfl), in_X12, nh_X12.1, nh_X12.2, pd_8, by decide⟩, (inB7 118 rfl rfl), (inB7 119 rfl rfl), TX12, 59, rfl⟩
theorem cb_X12_types : CBv M_X12_types 12 1 := ⟨⟨(inB7 128 rfl rfl), in_X12, nh_X12.1, nh_X12.2, pd_6, by decide⟩, (inB7 127 rfl rfl), (inP4 14 rfl), TX12, 59, rfl⟩
theorem cb_X12_feed : CBv M_X12_feed 12 5 := ⟨⟨(inB7 124 rfl rfl), in_X12, nh_X12.1, nh_X12.2, pd_17, by decide⟩, (inB7 122 rfl rfl), (inB7 123 rfl rfl), TX12, 59, rfl⟩
theorem cb_X12_here : CBv M_X12_here 12 0 := ⟨⟨(inB7 140 rfl rfl), in_X12, nh_X12.1, nh_X12.2, pd_0, by decide⟩, (inB7 139 rfl rfl), (inP5 0 rfl), TX12, 59, rfl⟩
theorem cb_X12_isDigit : CBv M_X12_isDigit 12 0 := ⟨⟨(inB7 164 rfl rfl), in_X12, nh_X12.1, nh_X12.2, pd_3, by decide⟩, (inB7 163 rfl rfl), (inP5 5 rfl), TX12, 59, rfl⟩
theorem cb_X12_wrongAt : CBv M_X12_wrongAt 12 2 := ⟨⟨(inB7 147 rfl rfl), in_X12, nh_X12.1, nh_X12.2, pd_10, by decide⟩, (inB7 146 rfl rfl), (inP5 1 rfl), TX12, 59, rfl⟩
theorem cb_X12_takes : CBv M_X12_takes 12 1 := ⟨⟨(inB7 214 rfl rfl), in_X12, nh_X12.1, nh_X12.2, pd_7, by decide⟩, (inB7 213 rfl rfl), (inP6 0 rfl), TX12, 59, rfl⟩
theorem cb_X12_readsNumber : CBv M_X12_readsNumber 12 0 := ⟨⟨(inB7 168 rfl rfl), in_X12, nh_X12.1, nh_X12.2, pd_3, by decide⟩, (inB7 167 rfl rfl), (inP5 6 rfl), TX12, 59, rfl⟩
theorem cb_X12_notes : CBv M_X12_notes 12 2 := ⟨⟨(inB7 172 rfl rfl), in_X12, nh_X12.1, nh_X12.2, pd_9, by decide⟩, (inB7 171 rfl rfl), (inP5 7 rfl), TX12, 59, rfl⟩
theorem cb_X12_opens : CBv M_X12_opens 12 1 := ⟨⟨(inB7 159 rfl rfl), in_X12, nh_X12.1, nh_X12.2, pd_7, by decide⟩, (inB7 158 rfl rfl), (inP5 4 rfl), TX12, 59, rfl⟩
theorem cb_X12_waitTop : CBv M_X12_waitTop 12 0 := ⟨⟨(inB7 186 rfl rfl), in_X12, nh_X12.1, nh_X12.2, pd_0, by decide⟩, (inB7 185 rfl rfl), (inP5 9 rfl), TX12, 59, rfl⟩
theorem cb_X12_factOf : CBs M_X12_factOf 1 := ⟨⟨(inB7 175 rfl rfl), in_X12, nh_X12.1, nh_X12.2, pd_4, by decide⟩, (inB7 174 rfl rfl)⟩
theorem cb_X12_sumSign : CBs M_X12_sumSign 1 := ⟨⟨(inB7 178 rfl rfl), in_X12, nh_X12.1, nh_X12.2, pd_4, by decide⟩, (inB7 177 rfl rfl)⟩
theorem cb_X12_closesSums : CBv M_X12_closesSums 12 1 := ⟨⟨(inB7 182 rfl rfl), in_X12, nh_X12.1, nh_X12.2, pd_39, by decide⟩, (inB7 181 rfl rfl), (inP5 8 rfl), TX12, 59, rfl⟩
theorem cb_X12_readsFactor : CBv M_X12_readsFactor 12 0 := ⟨⟨(inB7 155 rfl rfl), in_X12, nh_X12.1, nh_X12.2, pd_3, by decide⟩, (inB7 154 rfl rfl), (inP5 3 rfl), TX12, 59, rfl⟩
theorem cb_X12_hasOpenSum : CBv M_X12_hasOpenSum 12 1 := ⟨⟨(inB7 190 rfl rfl), in_X12, nh_X12.1, nh_X12.2, pd_7, by decide⟩, (inB7 189 rfl rfl), (inP5 10 rfl), TX12, 59, rfl⟩
theorem cb_X12_readsSum : CBv M_X12_readsSum 12 0 := ⟨⟨(inB7 151 rfl rfl), in_X12, nh_X12.1, nh_X12.2, pd_3, by decide⟩, (inB7 150 rfl rfl), (inP5 2 rfl), TX12, 59, rfl⟩
theorem cb_X12_endsPiece : CBv M_X12_endsPiece 12 0 := ⟨⟨(inB7 202 rfl rfl), in_X12, nh_X12.1, nh_X12.2, pd_2, by decide⟩, (inB7 201 rfl rfl), (inP5 13 rfl), TX12, 59, rfl⟩
theorem cb_X12_lands : CBv M_X12_lands 12 1 := ⟨⟨(inB7 206 rfl rfl), in_X12, nh_X12.1, nh_X12.2, pd_39, by decide⟩, (inB7 205 rfl rfl), (inP5 14 rfl), TX12, 59, rfl⟩
theorem cb_X12_jumps : CBv M_X12_jumps 12 1 := ⟨⟨(inB7 210 rfl rfl), in_X12, nh_X12.1, nh_X12.2, pd_6, by decide⟩, (inB7 209 rfl rfl), (inP5 15 rfl), TX12, 59, rfl⟩
theorem cb_X12_readsCompared : CBv M_X12_readsCompared 12 0 := ⟨⟨(inB7 198 rfl rfl), in_X12, nh_X12.1, nh_X12.2, pd_3, by decide⟩, (inB7 197 rfl rfl), (inP5 12 rfl), TX12, 59, rfl⟩
theorem cb_X12_readsCondition : CBv M_X12_readsCondition 12 0 := ⟨⟨(inB7 194 rfl rfl), in_X12, nh_X12.1, nh_X12.2, pd_3, by decide⟩, (inB7 193 rfl rfl), (inP5 11 rfl), TX12, 59, rfl⟩
theorem cb_X12_isClause : CBs M_X12_isClause 1 := ⟨⟨(inB7 143 rfl rfl), in_X12, nh_X12.1, nh_X12.2, pd_7, by decide⟩, (inB7 142 rfl rfl)⟩
theorem cb_X12_readsClause : CBv M_X12_readsClause 12 0 := ⟨⟨(inB7 136 rfl rfl), in_X12, nh_X12.1, nh_X12.2, pd_3, by decide⟩, (inB7 135 rfl rfl), (inP4 15 rfl), TX12, 59, rfl⟩
theorem cb_X12_law : CBv M_X12_law 12 1 := ⟨⟨(inB7 132 rfl rfl), in_X12, nh_X12.1, nh_X12.2, pd_4, by decide⟩, (inB7 130 rfl rfl), (inB7 131 rfl rfl), TX12, 59, rfl⟩
theorem cb_X12_reckon : CBs M_X12_reckon 3 := ⟨⟨(inB8 44 rfl rfl), in_X12, nh_X12.1, nh_X12.2, pd_11, by decide⟩, (inB8 43 rfl rfl)⟩
theorem cb_X12_comesTo : CBv M_X12_comesTo 12 2 := ⟨⟨(inB8 41 rfl rfl), in_X12, nh_X12.1, nh_X12.2, pd_8, by decide⟩, (inB8 40 rfl rfl), (inP6 13 rfl), TX12, 59, rfl⟩
theorem cb_X12_byLaw : CBv M_X12_byLaw 12 2 := ⟨⟨(inB8 37 rfl rfl), in_X12, nh_X12.1, nh_X12.2, pd_8, by decide⟩, (inB8 36 rfl rfl), (inP6 12 rfl), TX12, 59, rfl⟩
theorem cb_X12_feels : CBv M_X12_feels 12 3 := ⟨⟨(inB8 33 rfl rfl), in_X12, nh_X12.1, nh_X12.2, pd_12, by decide⟩, (inB8 32 rfl rfl), (inP6 11 rfl), TX12, 59, rfl⟩
theorem cb_X12_byStreet : CBv M_X12_byStreet 12 3 := ⟨⟨(inB8 52 rfl rfl), in_X12, nh_X12.1, nh_X12.2, pd_11, by decide⟩, (inB8 51 rfl rfl), (inP6 15 rfl), TX12, 59, rfl⟩
theorem cb_X12_readsTwo : CBv M_X12_readsTwo 12 0 := ⟨⟨(inB7 230 rfl rfl), in_X12, nh_X12.1, nh_X12.2, pd_3, by decide⟩, (inB7 229 rfl rfl), (inP6 3 rfl), TX12, 59, rfl⟩
theorem cb_X12_isLetterHere : CBv M_X12_isLetterHere 12 0 := ⟨⟨(inB7 226 rfl rfl), in_X12, nh_X12.1, nh_X12.2, pd_3, by decide⟩, (inB7 225 rfl rfl), (inP6 2 rfl), TX12, 59, rfl⟩
theorem cb_X12_readsLine : CBv M_X12_readsLine 12 0 := ⟨⟨(inB7 222 rfl rfl), in_X12, nh_X12.1, nh_X12.2, pd_3, by decide⟩, (inB7 221 rfl rfl), (inP6 1 rfl), TX12, 59, rfl⟩
theorem cb_X12_roads : CBv M_X12_roads 12 1 := ⟨⟨(inB7 218 rfl rfl), in_X12, nh_X12.1, nh_X12.2, pd_4, by decide⟩, (inB7 216 rfl rfl), (inB7 217 rfl rfl), TX12, 59, rfl⟩
theorem cb_X12_readsStop : CBv M_X12_readsStop 12 0 := ⟨⟨(inB7 238 rfl rfl), in_X12, nh_X12.1, nh_X12.2, pd_3, by decide⟩, (inB7 237 rfl rfl), (inP6 4 rfl), TX12, 59, rfl⟩
theorem cb_X12_plan : CBv M_X12_plan 12 2 := ⟨⟨(inB7 234 rfl rfl), in_X12, nh_X12.1, nh_X12.2, pd_8, by decide⟩, (inB7 232 rfl rfl), (inB7 233 rfl rfl), TX12, 59, rfl⟩
theorem cb_X12_placeOf : CBs M_X12_placeOf 1 := ⟨⟨(inB8 21 rfl rfl), in_X12, nh_X12.1, nh_X12.2, pd_4, by decide⟩, (inB8 20 rfl rfl)⟩
theorem cb_X12_canCome : CBv M_X12_canCome 12 2 := ⟨⟨(inB8 18 rfl rfl), in_X12, nh_X12.1, nh_X12.2, pd_10, by decide⟩, (inB8 17 rfl rfl), (inP6 8 rfl), TX12, 59, rfl⟩
theorem cb_X12_goesOn : CBv M_X12_goesOn 12 2 := ⟨⟨(inB8 14 rfl rfl), in_X12, nh_X12.1, nh_X12.2, pd_9, by decide⟩, (inB8 13 rfl rfl), (inP6 7 rfl), TX12, 59, rfl⟩
theorem cb_X12_arrives : CBv M_X12_arrives 12 2 := ⟨⟨(inB8 29 rfl rfl), in_X12, nh_X12.1, nh_X12.2, pd_9, by decide⟩, (inB8 28 rfl rfl), (inP6 10 rfl), TX12, 59, rfl⟩
theorem cb_X12_hourEnds : CBv M_X12_hourEnds 12 1 := ⟨⟨(inB8 48 rfl rfl), in_X12, nh_X12.1, nh_X12.2, pd_6, by decide⟩, (inB8 47 rfl rfl), (inP6 14 rfl), TX12, 59, rfl⟩
theorem cb_X12_goesNight : CBv M_X12_goesNight 12 0 := ⟨⟨(inB8 6 rfl rfl), in_X12, nh_X12.1, nh_X12.2, pd_2, by decide⟩, (inB8 5 rfl rfl), (inP6 5 rfl), TX12, 59, rfl⟩
theorem cb_X12_yardsAll : CBv M_X12_yardsAll 12 0 := ⟨⟨(inB8 56 rfl rfl), in_X12, nh_X12.1, nh_X12.2, pd_0, by decide⟩, (inB8 55 rfl rfl), (inP7 0 rfl), TX12, 59, rfl⟩
theorem cb_X12_nights : CBv M_X12_nights 12 1 := ⟨⟨(inB8 2 rfl rfl), in_X12, nh_X12.1, nh_X12.2, pd_4, by decide⟩, (inB8 0 rfl rfl), (inB8 1 rfl rfl), TX12, 59, rfl⟩
theorem cb_X12_tried : CBv M_X12_tried 12 1 := ⟨⟨(inB8 60 rfl rfl), in_X12, nh_X12.1, nh_X12.2, pd_4, by decide⟩, (inB8 58 rfl rfl), (inB8 59 rfl rfl), TX12, 59, rfl⟩
theorem cb_X12_lastOf : CBv M_X12_lastOf 12 1 := ⟨⟨(inB8 67 rfl rfl), in_X12, nh_X12.1, nh_X12.2, pd_4, by decide⟩, (inB8 66 rfl rfl), (inP7 1 rfl), TX12, 59, rfl⟩
theorem cb_X12_sleptBy : CBv M_X12_sleptBy 12 0 := ⟨⟨(inB8 75 rfl rfl), in_X12, nh_X12.1, nh_X12.2, pd_0, by decide⟩, (inB8 74 rfl rfl), (inP7 2 rfl), TX12, 59, rfl⟩
theorem cb_X12_strike : CBv M_X12_strike 12 1 := ⟨⟨(inB8 71 rfl rfl), in_X12, nh_X12.1, nh_X12.2, pd_4, by decide⟩, (inB8 69 rfl rfl), (inB8 70 rfl rfl), TX12, 59, rfl⟩
theorem cb_X12_sleepsAll : CBv M_X12_sleepsAll 12 1 := ⟨⟨(inB8 83 rfl rfl), in_X12, nh_X12.1, nh_X12.2, pd_7, by decide⟩, (inB8 82 rfl rfl), (inP7 3 rfl), TX12, 59, rfl⟩
theorem cb_X12_enough : CBv M_X12_enough 12 1 := ⟨⟨(inB8 79 rfl rfl), in_X12, nh_X12.1, nh_X12.2, pd_4, by decide⟩, (inB8 77 rfl rfl), (inB8 78 rfl rfl), TX12, 59, rfl⟩
theorem cb_X12_oneStop : CBv M_X12_oneStop 12 3 := ⟨⟨(inB8 87 rfl rfl), in_X12, nh_X12.1, nh_X12.2, pd_11, by decide⟩, (inB8 85 rfl rfl), (inB8 86 rfl rfl), TX12, 59, rfl⟩
theorem cb_X12_way : CBv M_X12_way 12 2 := ⟨⟨(inB8 91 rfl rfl), in_X12, nh_X12.1, nh_X12.2, pd_8, by decide⟩, (inB8 89 rfl rfl), (inB8 90 rfl rfl), TX12, 59, rfl⟩
theorem cb_X12_laysWho : CBv M_X12_laysWho 12 1 := ⟨⟨(inB8 102 rfl rfl), in_X12, nh_X12.1, nh_X12.2, pd_4, by decide⟩, (inB8 101 rfl rfl), (inP7 4 rfl), TX12, 59, rfl⟩
theorem cb_X12_readsRow : CBv M_X12_readsRow 12 2 := ⟨⟨(inB8 109 rfl rfl), in_X12, nh_X12.1, nh_X12.2, pd_10, by decide⟩, (inB8 108 rfl rfl), (inP7 5 rfl), TX12, 59, rfl⟩
theorem cb_X12_codesFor : CBs M_X12_codesFor 2 := ⟨⟨(inB8 105 rfl rfl), in_X12, nh_X12.1, nh_X12.2, pd_8, by decide⟩, (inB8 104 rfl rfl)⟩
theorem cb_X12_roundBy : CBv M_X12_roundBy 12 2 := ⟨⟨(inB8 113 rfl rfl), in_X12, nh_X12.1, nh_X12.2, pd_8, by decide⟩, (inB8 112 rfl rfl), (inP7 6 rfl), TX12, 59, rfl⟩
theorem cb_X12_round : CBv M_X12_round 12 3 := ⟨⟨(inB8 95 rfl rfl), in_X12, nh_X12.1, nh_X12.2, pd_11, by decide⟩, (inB8 93 rfl rfl), (inB8 94 rfl rfl), TX12, 59, rfl⟩
theorem cb_X12_needFor : CBv M_X12_needFor 12 2 := ⟨⟨(inB8 121 rfl rfl), in_X12, nh_X12.1, nh_X12.2, pd_8, by decide⟩, (inB8 120 rfl rfl), (inP7 7 rfl), TX12, 59, rfl⟩
theorem cb_X12_share : CBv M_X12_share 12 3 := ⟨⟨(inB8 117 rfl rfl), in_X12, nh_X12.1, nh_X12.2, pd_11, by decide⟩, (inB8 115 rfl rfl), (inB8 116 rfl rfl), TX12, 59, rfl⟩
theorem cb_X12_sleepful : CBv M_X12_sleepful 12 3 := ⟨⟨(inB8 128 rfl rfl), in_X12, nh_X12.1, nh_X12.2, pd_11, by decide⟩, (inB8 126 rfl rfl), (inB8 127 rfl rfl), TX12, 59, rfl⟩
theorem cb_X12_laysReach : CBv M_X12_laysReach 12 0 := ⟨⟨(inB8 136 rfl rfl), in_X12, nh_X12.1, nh_X12.2, pd_2, by decide⟩, (inB8 135 rfl rfl), (inP7 8 rfl), TX12, 59, rfl⟩
theorem cb_X12_bestBy : CBv M_X12_bestBy 12 1 := ⟨⟨(inB8 140 rfl rfl), in_X12, nh_X12.1, nh_X12.2, pd_41, by decide⟩, (inB8 139 rfl rfl), (inP7 9 rfl), TX12, 59, rfl⟩
theorem cb_X12_pitAt : CBv M_X12_pitAt 12 1 := ⟨⟨(inB8 132 rfl rfl), in_X12, nh_X12.1, nh_X12.2, pd_4, by decide⟩, (inB8 130 rfl rfl), (inB8 131 rfl rfl), TX12, 59, rfl⟩
theorem cb_X12_cut : CBv M_X12_cut 12 1 := ⟨⟨(inB8 144 rfl rfl), in_X12, nh_X12.1, nh_X12.2, pd_4, by decide⟩, (inB8 142 rfl rfl), (inB8 143 rfl rfl), TX12, 59, rfl⟩
theorem cb_X12_spared : CBv M_X12_spared 12 1 := ⟨⟨(inB8 152 rfl rfl), in_X12, nh_X12.1, nh_X12.2, pd_4, by decide⟩, (inB8 151 rfl rfl), (inP7 10 rfl), TX12, 59, rfl⟩
theorem cb_X12_out : CBv M_X12_out 12 2 := ⟨⟨(inB8 148 rfl rfl), in_X12, nh_X12.1, nh_X12.2, pd_8, by decide⟩, (inB8 146 rfl rfl), (inB8 147 rfl rfl), TX12, 59, rfl⟩
theorem cb_X12_longestBy : CBv M_X12_longestBy 12 3 := ⟨⟨(inB8 160 rfl rfl), in_X12, nh_X12.1, nh_X12.2, pd_11, by decide⟩, (inB8 159 rfl rfl), (inP7 11 rfl), TX12, 59, rfl⟩
theorem cb_X12_jobs : CBv M_X12_jobs 12 3 := ⟨⟨(inB8 156 rfl rfl), in_X12, nh_X12.1, nh_X12.2, pd_11, by decide⟩, (inB8 154 rfl rfl), (inB8 155 rfl rfl), TX12, 59, rfl⟩
theorem cb_X12_load : CBv M_X12_load 12 3 := ⟨⟨(inB8 164 rfl rfl), in_X12, nh_X12.1, nh_X12.2, pd_11, by decide⟩, (inB8 162 rfl rfl), (inB8 163 rfl rfl), TX12, 59, rfl⟩
theorem cb_X12_missingBy : CBv M_X12_missingBy 12 1 := ⟨⟨(inB8 172 rfl rfl), in_X12, nh_X12.1, nh_X12.2, pd_4, by decide⟩, (inB8 171 rfl rfl), (inP7 12 rfl), TX12, 59, rfl⟩
theorem cb_X12_brides : CBv M_X12_brides 12 2 := ⟨⟨(inB8 168 rfl rfl), in_X12, nh_X12.1, nh_X12.2, pd_8, by decide⟩, (inB8 166 rfl rfl), (inB8 167 rfl rfl), TX12, 59, rfl⟩
theorem cb_X12_thieves : CBv M_X12_thieves 12 3 := ⟨⟨(inB8 176 rfl rfl), in_X12, nh_X12.1, nh_X12.2, pd_11, by decide⟩, (inB8 174 rfl rfl), (inB8 175 rfl rfl), TX12, 59, rfl⟩
theorem cb_X12_latest : CBv M_X12_latest 12 1 := ⟨⟨(inB8 180 rfl rfl), in_X12, nh_X12.1, nh_X12.2, pd_4, by decide⟩, (inB8 178 rfl rfl), (inB8 179 rfl rfl), TX12, 59, rfl⟩
theorem cb_X12_keep : CBv M_X12_keep 12 0 := ⟨⟨(inB8 184 rfl rfl), in_X12, nh_X12.1, nh_X12.2, pd_0, by decide⟩, (inB8 182 rfl rfl), (inB8 183 rfl rfl), TX12, 59, rfl⟩
theorem cb_X12_undo : CBv M_X12_undo 12 0 := ⟨⟨(inB8 188 rfl rfl), in_X12, nh_X12.1, nh_X12.2, pd_3, by decide⟩, (inB8 186 rfl rfl), (inB8 187 rfl rfl), TX12, 59, rfl⟩
theorem cb_X12_check : CBv M_X12_check 12 1 := ⟨⟨(inB8 192 rfl rfl), in_X12, nh_X12.1, nh_X12.2, pd_4, by decide⟩, (inB8 190 rfl rfl), (inB8 191 rfl rfl), TX12, 59, rfl⟩
theorem cb_X12_roadMany : CBv M_X12_roadMany 12 0 := ⟨⟨(inB8 200 rfl rfl), in_X12, nh_X12.1, nh_X12.2, pd_0, by decide⟩, (inB8 199 rfl rfl), (inP7 13 rfl), TX12, 59, rfl⟩
theorem cb_X12_streetIs : CBv M_X12_streetIs 12 2 := ⟨⟨(inB8 204 rfl rfl), in_X12, nh_X12.1, nh_X12.2, pd_8, by decide⟩, (inB8 203 rfl rfl), (inP7 14 rfl), TX12, 59, rfl⟩
theorem cb_X12_count : CBv M_X12_count 12 1 := ⟨⟨(inB8 196 rfl rfl), in_X12, nh_X12.1, nh_X12.2, pd_4, by decide⟩, (inB8 194 rfl rfl), (inB8 195 rfl rfl), TX12, 59, rfl⟩
theorem cb_J6_bitCount_0f7a4 : CBs M_J6_bitCount_0f7a4 1 := ⟨⟨(inB5 25 rfl rfl), in_J6, nh_J6.1, nh_J6.2, pd_4, by decide⟩, (inB5 24 rfl rfl)⟩
theorem wmax : Cond.static Lib.Math.max.name ∈ WS ∧ Cond.initialized "java/lang/Math" ∈ WS ∧ Cond.code Lib.Math.max.name Lib.Math.max.code 2 (some .int) ∈ WS := ⟨(inB3 112 rfl rfl), (inB1 14 rfl rfl), (inB3 113 rfl rfl)⟩
theorem wmin : Cond.static Lib.Math.min.name ∈ WS ∧ Cond.initialized "java/lang/Math" ∈ WS ∧ Cond.code Lib.Math.min.name Lib.Math.min.code 2 (some .int) ∈ WS := ⟨(inB2 200 rfl rfl), (inB1 14 rfl rfl), (inB2 201 rfl rfl)⟩
theorem wcopy : Cond.native arraycopyName ∈ WS ∧ Cond.static arraycopyName ∈ WS ∧ Cond.initialized "java/lang/System" ∈ WS := ⟨(inB3 214 rfl rfl), (inB3 213 rfl rfl), (inB1 20 rfl rfl)⟩
