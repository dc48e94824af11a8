/-! ===== the constant pools, as the words have them ===== -/
theorem mt1 {w : Cond} (h : w ∈ tables_1_1) : w ∈ tables_1 := List.mem_append_left _ h
theorem mt2 {w : Cond} (h : w ∈ tables_1_2) : w ∈ tables_1 := List.mem_append_right _ (List.mem_append_left _ h)
theorem mt3 {w : Cond} (h : w ∈ tables_1_3) : w ∈ tables_1 := List.mem_append_right _ (List.mem_append_right _ (List.mem_append_left _ h))
theorem mt4 {w : Cond} (h : w ∈ tables_1_4) : w ∈ tables_1 := List.mem_append_right _ (List.mem_append_right _ (List.mem_append_right _ (List.mem_append_left _ h)))
theorem mt5 {w : Cond} (h : w ∈ tables_1_5) : w ∈ tables_1 := List.mem_append_right _ (List.mem_append_right _ (List.mem_append_right _ (List.mem_append_right _ (List.mem_append_left _ h))))
theorem mt6 {w : Cond} (h : w ∈ tables_1_6) : w ∈ tables_1 := List.mem_append_right _ (List.mem_append_right _ (List.mem_append_right _ (List.mem_append_right _ (List.mem_append_right _ (List.mem_append_left _ h)))))
theorem mt7 {w : Cond} (h : w ∈ tables_1_7) : w ∈ tables_1 := List.mem_append_right _ (List.mem_append_right _ (List.mem_append_right _ (List.mem_append_right _ (List.mem_append_right _ (List.mem_append_right _ (h))))))
abbrev mX0_init : mx_M := (yX0_init, cX0_init, 1, none)
theorem oX0_init : mx_mok mX0_init := ⟨(mx_in1 (mt2 (List.mem_of_getElem? (i := 165) rfl)) rfl), by decide, by decide, ⟨by decide, by decide⟩, (mx_in1 (mt1 (List.mem_of_getElem? (i := 12) rfl)) rfl)⟩
abbrev mX0_isKind : mx_M := (yX0_isKind, cX0_isKind, 3, some .boolean)
theorem oX0_isKind : mx_mok mX0_isKind := ⟨(mx_in1 (mt5 (List.mem_of_getElem? (i := 127) rfl)) rfl), by decide, by decide, ⟨by decide, by decide⟩, (mx_in1 (mt1 (List.mem_of_getElem? (i := 12) rfl)) rfl)⟩
abbrev mX0_answer : mx_M := (yX0_answer, cX0_answer, 4, some .int)
theorem oX0_answer : mx_mok mX0_answer := ⟨(mx_in1 (mt5 (List.mem_of_getElem? (i := 137) rfl)) rfl), by decide, by decide, ⟨by decide, by decide⟩, (mx_in1 (mt1 (List.mem_of_getElem? (i := 12) rfl)) rfl)⟩
abbrev mX0_begin : mx_M := (yX0_begin, cX0_begin, 2, none)
theorem oX0_begin : mx_mok mX0_begin := ⟨(mx_in1 (mt5 (List.mem_of_getElem? (i := 150) rfl)) rfl), by decide, by decide, ⟨by decide, by decide⟩, (mx_in1 (mt1 (List.mem_of_getElem? (i := 12) rfl)) rfl)⟩
abbrev mX0_sizeOf : mx_M := (yX0_sizeOf, cX0_sizeOf, 4, some .int)
theorem oX0_sizeOf : mx_mok mX0_sizeOf := ⟨(mx_in1 (mt5 (List.mem_of_getElem? (i := 141) rfl)) rfl), by decide, by decide, ⟨by decide, by decide⟩, (mx_in1 (mt1 (List.mem_of_getElem? (i := 12) rfl)) rfl)⟩
abbrev mX0_sizeOfAny : mx_M := (yX0_sizeOfAny, cX0_sizeOfAny, 3, some .int)
theorem oX0_sizeOfAny : mx_mok mX0_sizeOfAny := ⟨(mx_in1 (mt5 (List.mem_of_getElem? (i := 154) rfl)) rfl), by decide, by decide, ⟨by decide, by decide⟩, (mx_in1 (mt1 (List.mem_of_getElem? (i := 12) rfl)) rfl)⟩
abbrev mX0_sizeOfRinged : mx_M := (yX0_sizeOfRinged, cX0_sizeOfRinged, 3, some .int)
theorem oX0_sizeOfRinged : mx_mok mX0_sizeOfRinged := ⟨(mx_in1 (mt5 (List.mem_of_getElem? (i := 146) rfl)) rfl), by decide, by decide, ⟨by decide, by decide⟩, (mx_in1 (mt1 (List.mem_of_getElem? (i := 12) rfl)) rfl)⟩
abbrev mX0_markOf : mx_M := (yX0_markOf, cX0_markOf, 4, some .int)
theorem oX0_markOf : mx_mok mX0_markOf := ⟨(mx_in1 (mt5 (List.mem_of_getElem? (i := 158) rfl)) rfl), by decide, by decide, ⟨by decide, by decide⟩, (mx_in1 (mt1 (List.mem_of_getElem? (i := 12) rfl)) rfl)⟩
abbrev mX0_markOfAny : mx_M := (yX0_markOfAny, cX0_markOfAny, 2, some .int)
theorem oX0_markOfAny : mx_mok mX0_markOfAny := ⟨(mx_in1 (mt5 (List.mem_of_getElem? (i := 166) rfl)) rfl), by decide, by decide, ⟨by decide, by decide⟩, (mx_in1 (mt1 (List.mem_of_getElem? (i := 12) rfl)) rfl)⟩
abbrev mX0_markOfRested : mx_M := (yX0_markOfRested, cX0_markOfRested, 2, some .int)
theorem oX0_markOfRested : mx_mok mX0_markOfRested := ⟨(mx_in1 (mt5 (List.mem_of_getElem? (i := 162) rfl)) rfl), by decide, by decide, ⟨by decide, by decide⟩, (mx_in1 (mt1 (List.mem_of_getElem? (i := 12) rfl)) rfl)⟩
abbrev mX1_init : mx_M := (yX1_init, cX1_init, 1, none)
theorem oX1_init : mx_mok mX1_init := ⟨(mx_in1 (mt1 (List.mem_of_getElem? (i := 90) rfl)) rfl), by decide, by decide, ⟨by decide, by decide⟩, (mx_in1 (mt1 (List.mem_of_getElem? (i := 5) rfl)) rfl)⟩
abbrev mX1_clear : mx_M := (yX1_clear, cX1_clear, 1, none)
theorem oX1_clear : mx_mok mX1_clear := ⟨(mx_in1 (mt3 (List.mem_of_getElem? (i := 119) rfl)) rfl), by decide, by decide, ⟨by decide, by decide⟩, (mx_in1 (mt1 (List.mem_of_getElem? (i := 5) rfl)) rfl)⟩
abbrev mX1_take : mx_M := (yX1_take, cX1_take, 2, none)
theorem oX1_take : mx_mok mX1_take := ⟨(mx_in1 (mt5 (List.mem_of_getElem? (i := 106) rfl)) rfl), by decide, by decide, ⟨by decide, by decide⟩, (mx_in1 (mt1 (List.mem_of_getElem? (i := 5) rfl)) rfl)⟩
abbrev mX1_isRead : mx_M := (yX1_isRead, cX1_isRead, 1, some .boolean)
theorem oX1_isRead : mx_mok mX1_isRead := ⟨(mx_in1 (mt4 (List.mem_of_getElem? (i := 42) rfl)) rfl), by decide, by decide, ⟨by decide, by decide⟩, (mx_in1 (mt1 (List.mem_of_getElem? (i := 5) rfl)) rfl)⟩
abbrev mX1_hasStep : mx_M := (yX1_hasStep, cX1_hasStep, 2, some .boolean)
theorem oX1_hasStep : mx_mok mX1_hasStep := ⟨(mx_in1 (mt4 (List.mem_of_getElem? (i := 34) rfl)) rfl), by decide, by decide, ⟨by decide, by decide⟩, (mx_in1 (mt1 (List.mem_of_getElem? (i := 5) rfl)) rfl)⟩
abbrev mX1_allDishes : mx_M := (yX1_allDishes, cX1_allDishes, 1, some .int)
theorem oX1_allDishes : mx_mok mX1_allDishes := ⟨(mx_in1 (mt4 (List.mem_of_getElem? (i := 71) rfl)) rfl), by decide, by decide, ⟨by decide, by decide⟩, (mx_in1 (mt1 (List.mem_of_getElem? (i := 5) rfl)) rfl)⟩
abbrev mX1_dinnerSteps : mx_M := (yX1_dinnerSteps, cX1_dinnerSteps, 3, some .int)
theorem oX1_dinnerSteps : mx_mok mX1_dinnerSteps := ⟨(mx_in1 (mt5 (List.mem_of_getElem? (i := 182) rfl)) rfl), by decide, by decide, ⟨by decide, by decide⟩, (mx_in1 (mt1 (List.mem_of_getElem? (i := 5) rfl)) rfl)⟩
abbrev mX1_waitBehind : mx_M := (yX1_waitBehind, cX1_waitBehind, 3, some .int)
theorem oX1_waitBehind : mx_mok mX1_waitBehind := ⟨(mx_in1 (mt4 (List.mem_of_getElem? (i := 26) rfl)) rfl), by decide, by decide, ⟨by decide, by decide⟩, (mx_in1 (mt1 (List.mem_of_getElem? (i := 5) rfl)) rfl)⟩
abbrev mX1_given : mx_M := (yX1_given, cX1_given, 4, some .int)
theorem oX1_given : mx_mok mX1_given := ⟨(mx_in1 (mt4 (List.mem_of_getElem? (i := 50) rfl)) rfl), by decide, by decide, ⟨by decide, by decide⟩, (mx_in1 (mt1 (List.mem_of_getElem? (i := 5) rfl)) rfl)⟩
abbrev mX1_awayAt : mx_M := (yX1_awayAt, cX1_awayAt, 4, some .int)
theorem oX1_awayAt : mx_mok mX1_awayAt := ⟨(mx_in1 (mt4 (List.mem_of_getElem? (i := 54) rfl)) rfl), by decide, by decide, ⟨by decide, by decide⟩, (mx_in1 (mt1 (List.mem_of_getElem? (i := 5) rfl)) rfl)⟩
abbrev mX1_kindOf : mx_M := (yX1_kindOf, cX1_kindOf, 2, some .int)
theorem oX1_kindOf : mx_mok mX1_kindOf := ⟨(mx_in1 (mt5 (List.mem_of_getElem? (i := 119) rfl)) rfl), by decide, by decide, ⟨by decide, by decide⟩, (mx_in1 (mt1 (List.mem_of_getElem? (i := 5) rfl)) rfl)⟩
abbrev mX1_warmsBy : mx_M := (yX1_warmsBy, cX1_warmsBy, 3, some .boolean)
theorem oX1_warmsBy : mx_mok mX1_warmsBy := ⟨(mx_in1 (mt4 (List.mem_of_getElem? (i := 186) rfl)) rfl), by decide, by decide, ⟨by decide, by decide⟩, (mx_in1 (mt1 (List.mem_of_getElem? (i := 5) rfl)) rfl)⟩
abbrev mX1_heatsAgree : mx_M := (yX1_heatsAgree, cX1_heatsAgree, 9, some .boolean)
theorem oX1_heatsAgree : mx_mok mX1_heatsAgree := ⟨(mx_in1 (mt4 (List.mem_of_getElem? (i := 194) rfl)) rfl), by decide, by decide, ⟨by decide, by decide⟩, (mx_in1 (mt1 (List.mem_of_getElem? (i := 5) rfl)) rfl)⟩
abbrev mX2_init : mx_M := (yX2_init, cX2_init, 2, none)
theorem oX2_init : mx_mok mX2_init := ⟨(mx_in1 (mt2 (List.mem_of_getElem? (i := 124) rfl)) rfl), by decide, by decide, ⟨by decide, by decide⟩, (mx_in1 (mt1 (List.mem_of_getElem? (i := 10) rfl)) rfl)⟩
abbrev mX2_judged : mx_M := (yX2_judged, cX2_judged, 8, some .int)
theorem oX2_judged : mx_mok mX2_judged := ⟨(mx_in1 (mt4 (List.mem_of_getElem? (i := 98) rfl)) rfl), by decide, by decide, ⟨by decide, by decide⟩, (mx_in1 (mt1 (List.mem_of_getElem? (i := 10) rfl)) rfl)⟩
abbrev mX2_followsInTime : mx_M := (yX2_followsInTime, cX2_followsInTime, 5, some .boolean)
theorem oX2_followsInTime : mx_mok mX2_followsInTime := ⟨(mx_in1 (mt4 (List.mem_of_getElem? (i := 106) rfl)) rfl), by decide, by decide, ⟨by decide, by decide⟩, (mx_in1 (mt1 (List.mem_of_getElem? (i := 10) rfl)) rfl)⟩
abbrev mX2_firstLack : mx_M := (yX2_firstLack, cX2_firstLack, 7, some .int)
theorem oX2_firstLack : mx_mok mX2_firstLack := ⟨(mx_in1 (mt4 (List.mem_of_getElem? (i := 114) rfl)) rfl), by decide, by decide, ⟨by decide, by decide⟩, (mx_in1 (mt1 (List.mem_of_getElem? (i := 10) rfl)) rfl)⟩
abbrev mX2_lackAt : mx_M := (yX2_lackAt, cX2_lackAt, 4, some .int)
theorem oX2_lackAt : mx_mok mX2_lackAt := ⟨(mx_in1 (mt4 (List.mem_of_getElem? (i := 156) rfl)) rfl), by decide, by decide, ⟨by decide, by decide⟩, (mx_in1 (mt1 (List.mem_of_getElem? (i := 10) rfl)) rfl)⟩
abbrev mX2_lay : mx_M := (yX2_lay, cX2_lay, 8, none)
theorem oX2_lay : mx_mok mX2_lay := ⟨(mx_in1 (mt4 (List.mem_of_getElem? (i := 118) rfl)) rfl), by decide, by decide, ⟨by decide, by decide⟩, (mx_in1 (mt1 (List.mem_of_getElem? (i := 10) rfl)) rfl)⟩
abbrev mX2_wantedAt : mx_M := (yX2_wantedAt, cX2_wantedAt, 6, some .int)
theorem oX2_wantedAt : mx_mok mX2_wantedAt := ⟨(mx_in1 (mt5 (List.mem_of_getElem? (i := 54) rfl)) rfl), by decide, by decide, ⟨by decide, by decide⟩, (mx_in1 (mt1 (List.mem_of_getElem? (i := 10) rfl)) rfl)⟩
abbrev mX3_init : mx_M := (yX3_init, cX3_init, 1, none)
theorem oX3_init : mx_mok mX3_init := ⟨(mx_in1 (mt1 (List.mem_of_getElem? (i := 217) rfl)) rfl), by decide, by decide, ⟨by decide, by decide⟩, (mx_in1 (mt1 (List.mem_of_getElem? (i := 6) rfl)) rfl)⟩
abbrev mX3_fewerThan : mx_M := (yX3_fewerThan, cX3_fewerThan, 3, some .long)
theorem oX3_fewerThan : mx_mok mX3_fewerThan := ⟨(mx_in1 (mt4 (List.mem_of_getElem? (i := 129) rfl)) rfl), by decide, by decide, ⟨by decide, by decide⟩, (mx_in1 (mt1 (List.mem_of_getElem? (i := 6) rfl)) rfl)⟩
abbrev mX3_giveAll : mx_M := (yX3_giveAll, cX3_giveAll, 4, none)
theorem oX3_giveAll : mx_mok mX3_giveAll := ⟨(mx_in1 (mt4 (List.mem_of_getElem? (i := 1) rfl)) rfl), by decide, by decide, ⟨by decide, by decide⟩, (mx_in1 (mt1 (List.mem_of_getElem? (i := 6) rfl)) rfl)⟩
abbrev mX3_fit : mx_M := (yX3_fit, cX3_fit, 7, none)
theorem oX3_fit : mx_mok mX3_fit := ⟨(mx_in1 (mt3 (List.mem_of_getElem? (i := 237) rfl)) rfl), by decide, by decide, ⟨by decide, by decide⟩, (mx_in1 (mt1 (List.mem_of_getElem? (i := 6) rfl)) rfl)⟩
abbrev mX3_give : mx_M := (yX3_give, cX3_give, 4, none)
theorem oX3_give : mx_mok mX3_give := ⟨(mx_in1 (mt4 (List.mem_of_getElem? (i := 5) rfl)) rfl), by decide, by decide, ⟨by decide, by decide⟩, (mx_in1 (mt1 (List.mem_of_getElem? (i := 6) rfl)) rfl)⟩
abbrev mX3_giveOneLess : mx_M := (yX3_giveOneLess, cX3_giveOneLess, 6, none)
theorem oX3_giveOneLess : mx_mok mX3_giveOneLess := ⟨(mx_in1 (mt4 (List.mem_of_getElem? (i := 13) rfl)) rfl), by decide, by decide, ⟨by decide, by decide⟩, (mx_in1 (mt1 (List.mem_of_getElem? (i := 6) rfl)) rfl)⟩
abbrev mX4_init : mx_M := (yX4_init, cX4_init, 1, none)
theorem oX4_init : mx_mok mX4_init := ⟨(mx_in1 (mt2 (List.mem_of_getElem? (i := 130) rfl)) rfl), by decide, by decide, ⟨by decide, by decide⟩, (mx_in1 (mt1 (List.mem_of_getElem? (i := 11) rfl)) rfl)⟩
abbrev mX4_want : mx_M := (yX4_want, cX4_want, 7, none)
theorem oX4_want : mx_mok mX4_want := ⟨(mx_in1 (mt4 (List.mem_of_getElem? (i := 143) rfl)) rfl), by decide, by decide, ⟨by decide, by decide⟩, (mx_in1 (mt1 (List.mem_of_getElem? (i := 11) rfl)) rfl)⟩
abbrev mX4_firstLack : mx_M := (yX4_firstLack, cX4_firstLack, 6, some .int)
theorem oX4_firstLack : mx_mok mX4_firstLack := ⟨(mx_in1 (mt4 (List.mem_of_getElem? (i := 152) rfl)) rfl), by decide, by decide, ⟨by decide, by decide⟩, (mx_in1 (mt1 (List.mem_of_getElem? (i := 11) rfl)) rfl)⟩
abbrev mX4_settle : mx_M := (yX4_settle, cX4_settle, 5, none)
theorem oX4_settle : mx_mok mX4_settle := ⟨(mx_in1 (mt5 (List.mem_of_getElem? (i := 43) rfl)) rfl), by decide, by decide, ⟨by decide, by decide⟩, (mx_in1 (mt1 (List.mem_of_getElem? (i := 11) rfl)) rfl)⟩
abbrev mX5_init : mx_M := (yX5_init, cX5_init, 2, none)
theorem oX5_init : mx_mok mX5_init := ⟨(mx_in1 (mt1 (List.mem_of_getElem? (i := 228) rfl)) rfl), by decide, by decide, ⟨by decide, by decide⟩, (mx_in1 (mt1 (List.mem_of_getElem? (i := 7) rfl)) rfl)⟩
abbrev mX5_lay : mx_M := (yX5_lay, cX5_lay, 6, none)
theorem oX5_lay : mx_mok mX5_lay := ⟨(mx_in1 (mt4 (List.mem_of_getElem? (i := 168) rfl)) rfl), by decide, by decide, ⟨by decide, by decide⟩, (mx_in1 (mt1 (List.mem_of_getElem? (i := 7) rfl)) rfl)⟩
abbrev mX5_layDish : mx_M := (yX5_layDish, cX5_layDish, 8, none)
theorem oX5_layDish : mx_mok mX5_layDish := ⟨(mx_in1 (mt4 (List.mem_of_getElem? (i := 173) rfl)) rfl), by decide, by decide, ⟨by decide, by decide⟩, (mx_in1 (mt1 (List.mem_of_getElem? (i := 7) rfl)) rfl)⟩
abbrev mX5_strikeEarly : mx_M := (yX5_strikeEarly, cX5_strikeEarly, 2, none)
theorem oX5_strikeEarly : mx_mok mX5_strikeEarly := ⟨(mx_in1 (mt5 (List.mem_of_getElem? (i := 25) rfl)) rfl), by decide, by decide, ⟨by decide, by decide⟩, (mx_in1 (mt1 (List.mem_of_getElem? (i := 7) rfl)) rfl)⟩
abbrev mX5_strikeUnlike : mx_M := (yX5_strikeUnlike, cX5_strikeUnlike, 10, none)
theorem oX5_strikeUnlike : mx_mok mX5_strikeUnlike := ⟨(mx_in1 (mt5 (List.mem_of_getElem? (i := 81) rfl)) rfl), by decide, by decide, ⟨by decide, by decide⟩, (mx_in1 (mt1 (List.mem_of_getElem? (i := 7) rfl)) rfl)⟩
abbrev mX5_settle : mx_M := (yX5_settle, cX5_settle, 3, none)
theorem oX5_settle : mx_mok mX5_settle := ⟨(mx_in1 (mt4 (List.mem_of_getElem? (i := 203) rfl)) rfl), by decide, by decide, ⟨by decide, by decide⟩, (mx_in1 (mt1 (List.mem_of_getElem? (i := 7) rfl)) rfl)⟩
abbrev mX5_settleDish : mx_M := (yX5_settleDish, cX5_settleDish, 6, none)
theorem oX5_settleDish : mx_mok mX5_settleDish := ⟨(mx_in1 (mt4 (List.mem_of_getElem? (i := 207) rfl)) rfl), by decide, by decide, ⟨by decide, by decide⟩, (mx_in1 (mt1 (List.mem_of_getElem? (i := 7) rfl)) rfl)⟩
abbrev mX5_finds : mx_M := (yX5_finds, cX5_finds, 3, some .boolean)
theorem oX5_finds : mx_mok mX5_finds := ⟨(mx_in1 (mt4 (List.mem_of_getElem? (i := 216) rfl)) rfl), by decide, by decide, ⟨by decide, by decide⟩, (mx_in1 (mt1 (List.mem_of_getElem? (i := 7) rfl)) rfl)⟩
abbrev mX5_seatAll : mx_M := (yX5_seatAll, cX5_seatAll, 4, some .boolean)
theorem oX5_seatAll : mx_mok mX5_seatAll := ⟨(mx_in1 (mt4 (List.mem_of_getElem? (i := 221) rfl)) rfl), by decide, by decide, ⟨by decide, by decide⟩, (mx_in1 (mt1 (List.mem_of_getElem? (i := 7) rfl)) rfl)⟩
abbrev mX5_choicesThatCan : mx_M := (yX5_choicesThatCan, cX5_choicesThatCan, 4, some .int)
theorem oX5_choicesThatCan : mx_mok mX5_choicesThatCan := ⟨(mx_in1 (mt4 (List.mem_of_getElem? (i := 225) rfl)) rfl), by decide, by decide, ⟨by decide, by decide⟩, (mx_in1 (mt1 (List.mem_of_getElem? (i := 7) rfl)) rfl)⟩
abbrev mX5_seek : mx_M := (yX5_seek, cX5_seek, 6, none)
theorem oX5_seek : mx_mok mX5_seek := ⟨(mx_in1 (mt4 (List.mem_of_getElem? (i := 230) rfl)) rfl), by decide, by decide, ⟨by decide, by decide⟩, (mx_in1 (mt1 (List.mem_of_getElem? (i := 7) rfl)) rfl)⟩
abbrev mX5_leavesOpen : mx_M := (yX5_leavesOpen, cX5_leavesOpen, 5, some .boolean)
theorem oX5_leavesOpen : mx_mok mX5_leavesOpen := ⟨(mx_in1 (mt4 (List.mem_of_getElem? (i := 239) rfl)) rfl), by decide, by decide, ⟨by decide, by decide⟩, (mx_in1 (mt1 (List.mem_of_getElem? (i := 7) rfl)) rfl)⟩
abbrev mX5_agreeing : mx_M := (yX5_agreeing, cX5_agreeing, 8, some .int)
theorem oX5_agreeing : mx_mok mX5_agreeing := ⟨(mx_in1 (mt5 (List.mem_of_getElem? (i := 3) rfl)) rfl), by decide, by decide, ⟨by decide, by decide⟩, (mx_in1 (mt1 (List.mem_of_getElem? (i := 7) rfl)) rfl)⟩
abbrev mX5_collide : mx_M := (yX5_collide, cX5_collide, 4, some .boolean)
theorem oX5_collide : mx_mok mX5_collide := ⟨(mx_in1 (mt5 (List.mem_of_getElem? (i := 7) rfl)) rfl), by decide, by decide, ⟨by decide, by decide⟩, (mx_in1 (mt1 (List.mem_of_getElem? (i := 7) rfl)) rfl)⟩
abbrev mX5_keepPicked : mx_M := (yX5_keepPicked, cX5_keepPicked, 2, none)
theorem oX5_keepPicked : mx_mok mX5_keepPicked := ⟨(mx_in1 (mt4 (List.mem_of_getElem? (i := 234) rfl)) rfl), by decide, by decide, ⟨by decide, by decide⟩, (mx_in1 (mt1 (List.mem_of_getElem? (i := 7) rfl)) rfl)⟩
abbrev mX5_tell : mx_M := (yX5_tell, cX5_tell, 4, none)
theorem oX5_tell : mx_mok mX5_tell := ⟨(mx_in1 (mt5 (List.mem_of_getElem? (i := 13) rfl)) rfl), by decide, by decide, ⟨by decide, by decide⟩, (mx_in1 (mt1 (List.mem_of_getElem? (i := 7) rfl)) rfl)⟩
abbrev mX5_countDinners : mx_M := (yX5_countDinners, cX5_countDinners, 4, none)
theorem oX5_countDinners : mx_mok mX5_countDinners := ⟨(mx_in1 (mt5 (List.mem_of_getElem? (i := 62) rfl)) rfl), by decide, by decide, ⟨by decide, by decide⟩, (mx_in1 (mt1 (List.mem_of_getElem? (i := 7) rfl)) rfl)⟩
abbrev mX5_isBuilt : mx_M := (yX5_isBuilt, cX5_isBuilt, 4, some .boolean)
theorem oX5_isBuilt : mx_mok mX5_isBuilt := ⟨(mx_in1 (mt5 (List.mem_of_getElem? (i := 68) rfl)) rfl), by decide, by decide, ⟨by decide, by decide⟩, (mx_in1 (mt1 (List.mem_of_getElem? (i := 7) rfl)) rfl)⟩
abbrev mX6_init : mx_M := (yX6_init, cX6_init, 1, none)
theorem oX6_init : mx_mok mX6_init := ⟨(mx_in1 (mt1 (List.mem_of_getElem? (i := 58) rfl)) rfl), by decide, by decide, ⟨by decide, by decide⟩, (mx_in1 (mt1 (List.mem_of_getElem? (i := 4) rfl)) rfl)⟩
abbrev mX6_hasRoom : mx_M := (yX6_hasRoom, cX6_hasRoom, 2, some .boolean)
theorem oX6_hasRoom : mx_mok mX6_hasRoom := ⟨(mx_in1 (mt3 (List.mem_of_getElem? (i := 102) rfl)) rfl), by decide, by decide, ⟨by decide, by decide⟩, (mx_in1 (mt1 (List.mem_of_getElem? (i := 4) rfl)) rfl)⟩
abbrev mX6_put : mx_M := (yX6_put, cX6_put, 5, none)
theorem oX6_put : mx_mok mX6_put := ⟨(mx_in1 (mt3 (List.mem_of_getElem? (i := 107) rfl)) rfl), by decide, by decide, ⟨by decide, by decide⟩, (mx_in1 (mt1 (List.mem_of_getElem? (i := 4) rfl)) rfl)⟩
abbrev mX6_read : mx_M := (yX6_read, cX6_read, 3, none)
theorem oX6_read : mx_mok mX6_read := ⟨(mx_in1 (mt3 (List.mem_of_getElem? (i := 115) rfl)) rfl), by decide, by decide, ⟨by decide, by decide⟩, (mx_in1 (mt1 (List.mem_of_getElem? (i := 4) rfl)) rfl)⟩
abbrev mX6_readKitchen : mx_M := (yX6_readKitchen, cX6_readKitchen, 3, none)
theorem oX6_readKitchen : mx_mok mX6_readKitchen := ⟨(mx_in1 (mt3 (List.mem_of_getElem? (i := 131) rfl)) rfl), by decide, by decide, ⟨by decide, by decide⟩, (mx_in1 (mt1 (List.mem_of_getElem? (i := 4) rfl)) rfl)⟩
abbrev mX6_readAway : mx_M := (yX6_readAway, cX6_readAway, 3, none)
theorem oX6_readAway : mx_mok mX6_readAway := ⟨(mx_in1 (mt3 (List.mem_of_getElem? (i := 205) rfl)) rfl), by decide, by decide, ⟨by decide, by decide⟩, (mx_in1 (mt1 (List.mem_of_getElem? (i := 4) rfl)) rfl)⟩
abbrev mX6_readDish : mx_M := (yX6_readDish, cX6_readDish, 3, none)
theorem oX6_readDish : mx_mok mX6_readDish := ⟨(mx_in1 (mt3 (List.mem_of_getElem? (i := 209) rfl)) rfl), by decide, by decide, ⟨by decide, by decide⟩, (mx_in1 (mt1 (List.mem_of_getElem? (i := 4) rfl)) rfl)⟩
abbrev mX6_readSteps : mx_M := (yX6_readSteps, cX6_readSteps, 4, none)
theorem oX6_readSteps : mx_mok mX6_readSteps := ⟨(mx_in1 (mt3 (List.mem_of_getElem? (i := 214) rfl)) rfl), by decide, by decide, ⟨by decide, by decide⟩, (mx_in1 (mt1 (List.mem_of_getElem? (i := 4) rfl)) rfl)⟩
abbrev mX6_readStep : mx_M := (yX6_readStep, cX6_readStep, 7, none)
theorem oX6_readStep : mx_mok mX6_readStep := ⟨(mx_in1 (mt3 (List.mem_of_getElem? (i := 227) rfl)) rfl), by decide, by decide, ⟨by decide, by decide⟩, (mx_in1 (mt1 (List.mem_of_getElem? (i := 4) rfl)) rfl)⟩
abbrev mX6_stepWord : mx_M := (yX6_stepWord, cX6_stepWord, 1, some .int)
theorem oX6_stepWord : mx_mok mX6_stepWord := ⟨(mx_in1 (mt3 (List.mem_of_getElem? (i := 218) rfl)) rfl), by decide, by decide, ⟨by decide, by decide⟩, (mx_in1 (mt1 (List.mem_of_getElem? (i := 4) rfl)) rfl)⟩
abbrev mX6_takeWord : mx_M := (yX6_takeWord, cX6_takeWord, 2, none)
theorem oX6_takeWord : mx_mok mX6_takeWord := ⟨(mx_in1 (mt3 (List.mem_of_getElem? (i := 136) rfl)) rfl), by decide, by decide, ⟨by decide, by decide⟩, (mx_in1 (mt1 (List.mem_of_getElem? (i := 4) rfl)) rfl)⟩
abbrev mX6_takeSign : mx_M := (yX6_takeSign, cX6_takeSign, 1, none)
theorem oX6_takeSign : mx_mok mX6_takeSign := ⟨(mx_in1 (mt3 (List.mem_of_getElem? (i := 200) rfl)) rfl), by decide, by decide, ⟨by decide, by decide⟩, (mx_in1 (mt1 (List.mem_of_getElem? (i := 4) rfl)) rfl)⟩
abbrev mX6_takeNumber : mx_M := (yX6_takeNumber, cX6_takeNumber, 4, some .int)
theorem oX6_takeNumber : mx_mok mX6_takeNumber := ⟨(mx_in1 (mt3 (List.mem_of_getElem? (i := 196) rfl)) rfl), by decide, by decide, ⟨by decide, by decide⟩, (mx_in1 (mt1 (List.mem_of_getElem? (i := 4) rfl)) rfl)⟩
abbrev mX6_isWord : mx_M := (yX6_isWord, cX6_isWord, 3, some .boolean)
theorem oX6_isWord : mx_mok mX6_isWord := ⟨(mx_in1 (mt3 (List.mem_of_getElem? (i := 140) rfl)) rfl), by decide, by decide, ⟨by decide, by decide⟩, (mx_in1 (mt1 (List.mem_of_getElem? (i := 4) rfl)) rfl)⟩
abbrev mX6_advance : mx_M := (yX6_advance, cX6_advance, 1, none)
theorem oX6_advance : mx_mok mX6_advance := ⟨(mx_in1 (mt3 (List.mem_of_getElem? (i := 123) rfl)) rfl), by decide, by decide, ⟨by decide, by decide⟩, (mx_in1 (mt1 (List.mem_of_getElem? (i := 4) rfl)) rfl)⟩
abbrev mX6_takeFigures : mx_M := (yX6_takeFigures, cX6_takeFigures, 1, none)
theorem oX6_takeFigures : mx_mok mX6_takeFigures := ⟨(mx_in1 (mt3 (List.mem_of_getElem? (i := 127) rfl)) rfl), by decide, by decide, ⟨by decide, by decide⟩, (mx_in1 (mt1 (List.mem_of_getElem? (i := 4) rfl)) rfl)⟩
abbrev mX7_init : mx_M := (yX7_init, cX7_init, 1, none)
theorem oX7_init : mx_mok mX7_init := ⟨(mx_in1 (mt2 (List.mem_of_getElem? (i := 180) rfl)) rfl), by decide, by decide, ⟨by decide, by decide⟩, (mx_in1 (mt1 (List.mem_of_getElem? (i := 13) rfl)) rfl)⟩
abbrev mX7_fill : mx_M := (yX7_fill, cX7_fill, 3, none)
theorem oX7_fill : mx_mok mX7_fill := ⟨(mx_in1 (mt4 (List.mem_of_getElem? (i := 90) rfl)) rfl), by decide, by decide, ⟨by decide, by decide⟩, (mx_in1 (mt1 (List.mem_of_getElem? (i := 13) rfl)) rfl)⟩
abbrev mX7_fillDish : mx_M := (yX7_fillDish, cX7_fillDish, 5, none)
theorem oX7_fillDish : mx_mok mX7_fillDish := ⟨(mx_in1 (mt4 (List.mem_of_getElem? (i := 94) rfl)) rfl), by decide, by decide, ⟨by decide, by decide⟩, (mx_in1 (mt1 (List.mem_of_getElem? (i := 13) rfl)) rfl)⟩
abbrev mX7_take : mx_M := (yX7_take, cX7_take, 2, none)
theorem oX7_take : mx_mok mX7_take := ⟨(mx_in1 (mt5 (List.mem_of_getElem? (i := 89) rfl)) rfl), by decide, by decide, ⟨by decide, by decide⟩, (mx_in1 (mt1 (List.mem_of_getElem? (i := 13) rfl)) rfl)⟩
abbrev mX7_isFirst : mx_M := (yX7_isFirst, cX7_isFirst, 2, some .boolean)
theorem oX7_isFirst : mx_mok mX7_isFirst := ⟨(mx_in1 (mt4 (List.mem_of_getElem? (i := 102) rfl)) rfl), by decide, by decide, ⟨by decide, by decide⟩, (mx_in1 (mt1 (List.mem_of_getElem? (i := 13) rfl)) rfl)⟩
abbrev mX7_isLast : mx_M := (yX7_isLast, cX7_isLast, 2, some .boolean)
theorem oX7_isLast : mx_mok mX7_isLast := ⟨(mx_in1 (mt4 (List.mem_of_getElem? (i := 110) rfl)) rfl), by decide, by decide, ⟨by decide, by decide⟩, (mx_in1 (mt1 (List.mem_of_getElem? (i := 13) rfl)) rfl)⟩
abbrev mX8_init : mx_M := (yX8_init, cX8_init, 1, none)
theorem oX8_init : mx_mok mX8_init := ⟨(mx_in1 (mt1 (List.mem_of_getElem? (i := 34) rfl)) rfl), by decide, by decide, ⟨by decide, by decide⟩, (mx_in1 (mt1 (List.mem_of_getElem? (i := 2) rfl)) rfl)⟩
abbrev mX8_isOne : mx_M := (yX8_isOne, cX8_isOne, 2, some .boolean)
theorem oX8_isOne : mx_mok mX8_isOne := ⟨(mx_in1 (mt3 (List.mem_of_getElem? (i := 49) rfl)) rfl), by decide, by decide, ⟨by decide, by decide⟩, (mx_in1 (mt1 (List.mem_of_getElem? (i := 2) rfl)) rfl)⟩
abbrev mX8_isMissing : mx_M := (yX8_isMissing, cX8_isMissing, 2, some .boolean)
theorem oX8_isMissing : mx_mok mX8_isMissing := ⟨(mx_in1 (mt3 (List.mem_of_getElem? (i := 71) rfl)) rfl), by decide, by decide, ⟨by decide, by decide⟩, (mx_in1 (mt1 (List.mem_of_getElem? (i := 2) rfl)) rfl)⟩
abbrev mX8_reaches : mx_M := (yX8_reaches, cX8_reaches, 4, some .boolean)
theorem oX8_reaches : mx_mok mX8_reaches := ⟨(mx_in1 (mt3 (List.mem_of_getElem? (i := 75) rfl)) rfl), by decide, by decide, ⟨by decide, by decide⟩, (mx_in1 (mt1 (List.mem_of_getElem? (i := 2) rfl)) rfl)⟩
abbrev mX8_lay : mx_M := (yX8_lay, cX8_lay, 4, none)
theorem oX8_lay : mx_mok mX8_lay := ⟨(mx_in1 (mt3 (List.mem_of_getElem? (i := 59) rfl)) rfl), by decide, by decide, ⟨by decide, by decide⟩, (mx_in1 (mt1 (List.mem_of_getElem? (i := 2) rfl)) rfl)⟩
abbrev mX8_write : mx_M := (yX8_write, cX8_write, 5, some .int)
theorem oX8_write : mx_mok mX8_write := ⟨(mx_in1 (mt3 (List.mem_of_getElem? (i := 79) rfl)) rfl), by decide, by decide, ⟨by decide, by decide⟩, (mx_in1 (mt1 (List.mem_of_getElem? (i := 2) rfl)) rfl)⟩
abbrev mX8_lose : mx_M := (yX8_lose, cX8_lose, 2, some .int)
theorem oX8_lose : mx_mok mX8_lose := ⟨(mx_in1 (mt3 (List.mem_of_getElem? (i := 94) rfl)) rfl), by decide, by decide, ⟨by decide, by decide⟩, (mx_in1 (mt1 (List.mem_of_getElem? (i := 2) rfl)) rfl)⟩
abbrev mX8_present : mx_M := (yX8_present, cX8_present, 3, some .int)
theorem oX8_present : mx_mok mX8_present := ⟨(mx_in1 (mt5 (List.mem_of_getElem? (i := 178) rfl)) rfl), by decide, by decide, ⟨by decide, by decide⟩, (mx_in1 (mt1 (List.mem_of_getElem? (i := 2) rfl)) rfl)⟩
abbrev mX9_init : mx_M := (yX9_init, cX9_init, 1, none)
theorem oX9_init : mx_mok mX9_init := ⟨(mx_in1 (mt2 (List.mem_of_getElem? (i := 40) rfl)) rfl), by decide, by decide, ⟨by decide, by decide⟩, (mx_in1 (mt1 (List.mem_of_getElem? (i := 9) rfl)) rfl)⟩
abbrev mX9_open : mx_M := (yX9_open, cX9_open, 3, none)
theorem oX9_open : mx_mok mX9_open := ⟨(mx_in1 (mt4 (List.mem_of_getElem? (i := 125) rfl)) rfl), by decide, by decide, ⟨by decide, by decide⟩, (mx_in1 (mt1 (List.mem_of_getElem? (i := 9) rfl)) rfl)⟩
abbrev mX9_hasRoom : mx_M := (yX9_hasRoom, cX9_hasRoom, 2, some .boolean)
theorem oX9_hasRoom : mx_mok mX9_hasRoom := ⟨(mx_in1 (mt4 (List.mem_of_getElem? (i := 199) rfl)) rfl), by decide, by decide, ⟨by decide, by decide⟩, (mx_in1 (mt1 (List.mem_of_getElem? (i := 9) rfl)) rfl)⟩
abbrev mX9_add : mx_M := (yX9_add, cX9_add, 7, none)
theorem oX9_add : mx_mok mX9_add := ⟨(mx_in1 (mt4 (List.mem_of_getElem? (i := 139) rfl)) rfl), by decide, by decide, ⟨by decide, by decide⟩, (mx_in1 (mt1 (List.mem_of_getElem? (i := 9) rfl)) rfl)⟩
abbrev mX10_init : mx_M := (yX10_init, cX10_init, 1, none)
theorem oX10_init : mx_mok mX10_init := ⟨(mx_in1 (mt2 (List.mem_of_getElem? (i := 4) rfl)) rfl), by decide, by decide, ⟨by decide, by decide⟩, (mx_in1 (mt1 (List.mem_of_getElem? (i := 8) rfl)) rfl)⟩
abbrev mX10_choose : mx_M := (yX10_choose, cX10_choose, 9, none)
theorem oX10_choose : mx_mok mX10_choose := ⟨(mx_in1 (mt4 (List.mem_of_getElem? (i := 178) rfl)) rfl), by decide, by decide, ⟨by decide, by decide⟩, (mx_in1 (mt1 (List.mem_of_getElem? (i := 8) rfl)) rfl)⟩
abbrev mX10_lay : mx_M := (yX10_lay, cX10_lay, 9, none)
theorem oX10_lay : mx_mok mX10_lay := ⟨(mx_in1 (mt4 (List.mem_of_getElem? (i := 133) rfl)) rfl), by decide, by decide, ⟨by decide, by decide⟩, (mx_in1 (mt1 (List.mem_of_getElem? (i := 8) rfl)) rfl)⟩
abbrev mX10_isWarmed : mx_M := (yX10_isWarmed, cX10_isWarmed, 4, some .boolean)
theorem oX10_isWarmed : mx_mok mX10_isWarmed := ⟨(mx_in1 (mt4 (List.mem_of_getElem? (i := 182) rfl)) rfl), by decide, by decide, ⟨by decide, by decide⟩, (mx_in1 (mt1 (List.mem_of_getElem? (i := 8) rfl)) rfl)⟩
abbrev mX10_agrees : mx_M := (yX10_agrees, cX10_agrees, 8, some .boolean)
theorem oX10_agrees : mx_mok mX10_agrees := ⟨(mx_in1 (mt4 (List.mem_of_getElem? (i := 190) rfl)) rfl), by decide, by decide, ⟨by decide, by decide⟩, (mx_in1 (mt1 (List.mem_of_getElem? (i := 8) rfl)) rfl)⟩
abbrev mX11_init : mx_M := (yX11_init, cX11_init, 1, none)
theorem oX11_init : mx_mok mX11_init := ⟨(mx_in1 (mt1 (List.mem_of_getElem? (i := 26) rfl)) rfl), by decide, by decide, ⟨by decide, by decide⟩, (mx_in1 (mt1 (List.mem_of_getElem? (i := 1) rfl)) rfl)⟩
abbrev mX11_sheet : mx_M := (yX11_sheet, cX11_sheet, 4, some .int)
theorem oX11_sheet : mx_mok mX11_sheet := ⟨(mx_in1 (mt3 (List.mem_of_getElem? (i := 45) rfl)) rfl), by decide, by decide, ⟨by decide, by decide⟩, (mx_in1 (mt1 (List.mem_of_getElem? (i := 1) rfl)) rfl)⟩
abbrev mX11_set : mx_M := (yX11_set, cX11_set, 4, some .int)
theorem oX11_set : mx_mok mX11_set := ⟨(mx_in1 (mt3 (List.mem_of_getElem? (i := 67) rfl)) rfl), by decide, by decide, ⟨by decide, by decide⟩, (mx_in1 (mt1 (List.mem_of_getElem? (i := 1) rfl)) rfl)⟩
abbrev mX11_copy : mx_M := (yX11_copy, cX11_copy, 6, some .int)
theorem oX11_copy : mx_mok mX11_copy := ⟨(mx_in1 (mt3 (List.mem_of_getElem? (i := 83) rfl)) rfl), by decide, by decide, ⟨by decide, by decide⟩, (mx_in1 (mt1 (List.mem_of_getElem? (i := 1) rfl)) rfl)⟩
abbrev mX11_drop : mx_M := (yX11_drop, cX11_drop, 2, some .int)
theorem oX11_drop : mx_mok mX11_drop := ⟨(mx_in1 (mt3 (List.mem_of_getElem? (i := 90) rfl)) rfl), by decide, by decide, ⟨by decide, by decide⟩, (mx_in1 (mt1 (List.mem_of_getElem? (i := 1) rfl)) rfl)⟩
abbrev mX11_feed : mx_M := (yX11_feed, cX11_feed, 4, some .int)
theorem oX11_feed : mx_mok mX11_feed := ⟨(mx_in1 (mt3 (List.mem_of_getElem? (i := 98) rfl)) rfl), by decide, by decide, ⟨by decide, by decide⟩, (mx_in1 (mt1 (List.mem_of_getElem? (i := 1) rfl)) rfl)⟩
abbrev mX11_book : mx_M := (yX11_book, cX11_book, 2, some .int)
theorem oX11_book : mx_mok mX11_book := ⟨(mx_in1 (mt3 (List.mem_of_getElem? (i := 111) rfl)) rfl), by decide, by decide, ⟨by decide, by decide⟩, (mx_in1 (mt1 (List.mem_of_getElem? (i := 1) rfl)) rfl)⟩
abbrev mX11_fault : mx_M := (yX11_fault, cX11_fault, 1, some .int)
theorem oX11_fault : mx_mok mX11_fault := ⟨(mx_in1 (mt4 (List.mem_of_getElem? (i := 18) rfl)) rfl), by decide, by decide, ⟨by decide, by decide⟩, (mx_in1 (mt1 (List.mem_of_getElem? (i := 1) rfl)) rfl)⟩
abbrev mX11_dish : mx_M := (yX11_dish, cX11_dish, 3, some .int)
theorem oX11_dish : mx_mok mX11_dish := ⟨(mx_in1 (mt4 (List.mem_of_getElem? (i := 22) rfl)) rfl), by decide, by decide, ⟨by decide, by decide⟩, (mx_in1 (mt1 (List.mem_of_getElem? (i := 1) rfl)) rfl)⟩
abbrev mX11_step : mx_M := (yX11_step, cX11_step, 3, some .int)
theorem oX11_step : mx_mok mX11_step := ⟨(mx_in1 (mt4 (List.mem_of_getElem? (i := 30) rfl)) rfl), by decide, by decide, ⟨by decide, by decide⟩, (mx_in1 (mt1 (List.mem_of_getElem? (i := 1) rfl)) rfl)⟩
abbrev mX11_gives : mx_M := (yX11_gives, cX11_gives, 3, some .int)
theorem oX11_gives : mx_mok mX11_gives := ⟨(mx_in1 (mt4 (List.mem_of_getElem? (i := 38) rfl)) rfl), by decide, by decide, ⟨by decide, by decide⟩, (mx_in1 (mt1 (List.mem_of_getElem? (i := 1) rfl)) rfl)⟩
abbrev mX11_dinner : mx_M := (yX11_dinner, cX11_dinner, 3, some .int)
theorem oX11_dinner : mx_mok mX11_dinner := ⟨(mx_in1 (mt4 (List.mem_of_getElem? (i := 61) rfl)) rfl), by decide, by decide, ⟨by decide, by decide⟩, (mx_in1 (mt1 (List.mem_of_getElem? (i := 1) rfl)) rfl)⟩
abbrev mX11_out : mx_M := (yX11_out, cX11_out, 2, some .int)
theorem oX11_out : mx_mok mX11_out := ⟨(mx_in1 (mt4 (List.mem_of_getElem? (i := 75) rfl)) rfl), by decide, by decide, ⟨by decide, by decide⟩, (mx_in1 (mt1 (List.mem_of_getElem? (i := 1) rfl)) rfl)⟩
abbrev mX11_judge : mx_M := (yX11_judge, cX11_judge, 5, some .int)
theorem oX11_judge : mx_mok mX11_judge := ⟨(mx_in1 (mt4 (List.mem_of_getElem? (i := 79) rfl)) rfl), by decide, by decide, ⟨by decide, by decide⟩, (mx_in1 (mt1 (List.mem_of_getElem? (i := 1) rfl)) rfl)⟩
abbrev mX11_least : mx_M := (yX11_least, cX11_least, 4, some .int)
theorem oX11_least : mx_mok mX11_least := ⟨(mx_in1 (mt4 (List.mem_of_getElem? (i := 160) rfl)) rfl), by decide, by decide, ⟨by decide, by decide⟩, (mx_in1 (mt1 (List.mem_of_getElem? (i := 1) rfl)) rfl)⟩
abbrev mX11_begins : mx_M := (yX11_begins, cX11_begins, 4, some .int)
theorem oX11_begins : mx_mok mX11_begins := ⟨(mx_in1 (mt5 (List.mem_of_getElem? (i := 17) rfl)) rfl), by decide, by decide, ⟨by decide, by decide⟩, (mx_in1 (mt1 (List.mem_of_getElem? (i := 1) rfl)) rfl)⟩
abbrev mX11_seven : mx_M := (yX11_seven, cX11_seven, 3, some .int)
theorem oX11_seven : mx_mok mX11_seven := ⟨(mx_in1 (mt5 (List.mem_of_getElem? (i := 21) rfl)) rfl), by decide, by decide, ⟨by decide, by decide⟩, (mx_in1 (mt1 (List.mem_of_getElem? (i := 1) rfl)) rfl)⟩
abbrev mX11_earliest : mx_M := (yX11_earliest, cX11_earliest, 2, some .int)
theorem oX11_earliest : mx_mok mX11_earliest := ⟨(mx_in1 (mt5 (List.mem_of_getElem? (i := 29) rfl)) rfl), by decide, by decide, ⟨by decide, by decide⟩, (mx_in1 (mt1 (List.mem_of_getElem? (i := 1) rfl)) rfl)⟩
abbrev mX11_heat : mx_M := (yX11_heat, cX11_heat, 4, some .int)
theorem oX11_heat : mx_mok mX11_heat := ⟨(mx_in1 (mt5 (List.mem_of_getElem? (i := 38) rfl)) rfl), by decide, by decide, ⟨by decide, by decide⟩, (mx_in1 (mt1 (List.mem_of_getElem? (i := 1) rfl)) rfl)⟩
abbrev mX11_wanted : mx_M := (yX11_wanted, cX11_wanted, 5, some .int)
theorem oX11_wanted : mx_mok mX11_wanted := ⟨(mx_in1 (mt5 (List.mem_of_getElem? (i := 47) rfl)) rfl), by decide, by decide, ⟨by decide, by decide⟩, (mx_in1 (mt1 (List.mem_of_getElem? (i := 1) rfl)) rfl)⟩
abbrev mX11_dinners : mx_M := (yX11_dinners, cX11_dinners, 6, some .int)
theorem oX11_dinners : mx_mok mX11_dinners := ⟨(mx_in1 (mt5 (List.mem_of_getElem? (i := 58) rfl)) rfl), by decide, by decide, ⟨by decide, by decide⟩, (mx_in1 (mt1 (List.mem_of_getElem? (i := 1) rfl)) rfl)⟩
abbrev mX11_more : mx_M := (yX11_more, cX11_more, 6, some .int)
theorem oX11_more : mx_mok mX11_more := ⟨(mx_in1 (mt5 (List.mem_of_getElem? (i := 73) rfl)) rfl), by decide, by decide, ⟨by decide, by decide⟩, (mx_in1 (mt1 (List.mem_of_getElem? (i := 1) rfl)) rfl)⟩
abbrev mX11_mend : mx_M := (yX11_mend, cX11_mend, 4, some .int)
theorem oX11_mend : mx_mok mX11_mend := ⟨(mx_in1 (mt5 (List.mem_of_getElem? (i := 77) rfl)) rfl), by decide, by decide, ⟨by decide, by decide⟩, (mx_in1 (mt1 (List.mem_of_getElem? (i := 1) rfl)) rfl)⟩
abbrev mX11_slack : mx_M := (yX11_slack, cX11_slack, 5, some .int)
theorem oX11_slack : mx_mok mX11_slack := ⟨(mx_in1 (mt5 (List.mem_of_getElem? (i := 85) rfl)) rfl), by decide, by decide, ⟨by decide, by decide⟩, (mx_in1 (mt1 (List.mem_of_getElem? (i := 1) rfl)) rfl)⟩
abbrev mX11_bears : mx_M := (yX11_bears, cX11_bears, 5, some .int)
theorem oX11_bears : mx_mok mX11_bears := ⟨(mx_in1 (mt5 (List.mem_of_getElem? (i := 94) rfl)) rfl), by decide, by decide, ⟨by decide, by decide⟩, (mx_in1 (mt1 (List.mem_of_getElem? (i := 1) rfl)) rfl)⟩
abbrev mX11_mind : mx_M := (yX11_mind, cX11_mind, 7, some .int)
theorem oX11_mind : mx_mok mX11_mind := ⟨(mx_in1 (mt5 (List.mem_of_getElem? (i := 98) rfl)) rfl), by decide, by decide, ⟨by decide, by decide⟩, (mx_in1 (mt1 (List.mem_of_getElem? (i := 1) rfl)) rfl)⟩
abbrev mX11_image : mx_M := (yX11_image, cX11_image, 3, some .int)
theorem oX11_image : mx_mok mX11_image := ⟨(mx_in1 (mt5 (List.mem_of_getElem? (i := 102) rfl)) rfl), by decide, by decide, ⟨by decide, by decide⟩, (mx_in1 (mt1 (List.mem_of_getElem? (i := 1) rfl)) rfl)⟩
abbrev mX11_restore : mx_M := (yX11_restore, cX11_restore, 2, some .int)
theorem oX11_restore : mx_mok mX11_restore := ⟨(mx_in1 (mt5 (List.mem_of_getElem? (i := 111) rfl)) rfl), by decide, by decide, ⟨by decide, by decide⟩, (mx_in1 (mt1 (List.mem_of_getElem? (i := 1) rfl)) rfl)⟩
abbrev mX11_kind : mx_M := (yX11_kind, cX11_kind, 2, some .int)
theorem oX11_kind : mx_mok mX11_kind := ⟨(mx_in1 (mt5 (List.mem_of_getElem? (i := 115) rfl)) rfl), by decide, by decide, ⟨by decide, by decide⟩, (mx_in1 (mt1 (List.mem_of_getElem? (i := 1) rfl)) rfl)⟩
abbrev mX11_as : mx_M := (yX11_as, cX11_as, 3, some .int)
theorem oX11_as : mx_mok mX11_as := ⟨(mx_in1 (mt5 (List.mem_of_getElem? (i := 123) rfl)) rfl), by decide, by decide, ⟨by decide, by decide⟩, (mx_in1 (mt1 (List.mem_of_getElem? (i := 1) rfl)) rfl)⟩
abbrev mX11_ask : mx_M := (yX11_ask, cX11_ask, 3, some .int)
theorem oX11_ask : mx_mok mX11_ask := ⟨(mx_in1 (mt5 (List.mem_of_getElem? (i := 133) rfl)) rfl), by decide, by decide, ⟨by decide, by decide⟩, (mx_in1 (mt1 (List.mem_of_getElem? (i := 1) rfl)) rfl)⟩
abbrev mX11_trace : mx_M := (yX11_trace, cX11_trace, 2, some .int)
theorem oX11_trace : mx_mok mX11_trace := ⟨(mx_in1 (mt5 (List.mem_of_getElem? (i := 170) rfl)) rfl), by decide, by decide, ⟨by decide, by decide⟩, (mx_in1 (mt1 (List.mem_of_getElem? (i := 1) rfl)) rfl)⟩
abbrev mX11_count : mx_M := (yX11_count, cX11_count, 2, some .int)
theorem oX11_count : mx_mok mX11_count := ⟨(mx_in1 (mt5 (List.mem_of_getElem? (i := 174) rfl)) rfl), by decide, by decide, ⟨by decide, by decide⟩, (mx_in1 (mt1 (List.mem_of_getElem? (i := 1) rfl)) rfl)⟩
abbrev mX11_status : mx_M := (yX11_status, cX11_status, 1, some .int)
theorem oX11_status : mx_mok mX11_status := ⟨(mx_in1 (mt5 (List.mem_of_getElem? (i := 186) rfl)) rfl), by decide, by decide, ⟨by decide, by decide⟩, (mx_in1 (mt1 (List.mem_of_getElem? (i := 1) rfl)) rfl)⟩
abbrev mX11_found : mx_M := (yX11_found, cX11_found, 2, some .int)
theorem oX11_found : mx_mok mX11_found := ⟨(mx_in1 (mt3 (List.mem_of_getElem? (i := 54) rfl)) rfl), by decide, by decide, ⟨by decide, by decide⟩, (mx_in1 (mt1 (List.mem_of_getElem? (i := 1) rfl)) rfl)⟩
abbrev mX11_fine : mx_M := (yX11_fine, cX11_fine, 2, some .int)
theorem oX11_fine : mx_mok mX11_fine := ⟨(mx_in1 (mt3 (List.mem_of_getElem? (i := 63) rfl)) rfl), by decide, by decide, ⟨by decide, by decide⟩, (mx_in1 (mt1 (List.mem_of_getElem? (i := 1) rfl)) rfl)⟩
abbrev mX11_refusal : mx_M := (yX11_refusal, cX11_refusal, 2, some .int)
theorem oX11_refusal : mx_mok mX11_refusal := ⟨(mx_in1 (mt4 (List.mem_of_getElem? (i := 86) rfl)) rfl), by decide, by decide, ⟨by decide, by decide⟩, (mx_in1 (mt1 (List.mem_of_getElem? (i := 1) rfl)) rfl)⟩
abbrev mX11_isTime : mx_M := (yX11_isTime, cX11_isTime, 1, some .boolean)
theorem oX11_isTime : mx_mok mX11_isTime := ⟨(mx_in1 (mt4 (List.mem_of_getElem? (i := 82) rfl)) rfl), by decide, by decide, ⟨by decide, by decide⟩, (mx_in1 (mt1 (List.mem_of_getElem? (i := 1) rfl)) rfl)⟩
abbrev mX11_isMinute : mx_M := (yX11_isMinute, cX11_isMinute, 1, some .boolean)
theorem oX11_isMinute : mx_mok mX11_isMinute := ⟨(mx_in1 (mt4 (List.mem_of_getElem? (i := 46) rfl)) rfl), by decide, by decide, ⟨by decide, by decide⟩, (mx_in1 (mt1 (List.mem_of_getElem? (i := 1) rfl)) rfl)⟩
abbrev mX11_changed : mx_M := (yX11_changed, cX11_changed, 1, none)
theorem oX11_changed : mx_mok mX11_changed := ⟨(mx_in1 (mt3 (List.mem_of_getElem? (i := 233) rfl)) rfl), by decide, by decide, ⟨by decide, by decide⟩, (mx_in1 (mt1 (List.mem_of_getElem? (i := 1) rfl)) rfl)⟩
abbrev mX11_findsPlan : mx_M := (yX11_findsPlan, cX11_findsPlan, 2, some .boolean)
theorem oX11_findsPlan : mx_mok mX11_findsPlan := ⟨(mx_in1 (mt4 (List.mem_of_getElem? (i := 164) rfl)) rfl), by decide, by decide, ⟨by decide, by decide⟩, (mx_in1 (mt1 (List.mem_of_getElem? (i := 1) rfl)) rfl)⟩
abbrev mX11_isPossible : mx_M := (yX11_isPossible, cX11_isPossible, 4, some .boolean)
theorem oX11_isPossible : mx_mok mX11_isPossible := ⟨(mx_in1 (mt5 (List.mem_of_getElem? (i := 34) rfl)) rfl), by decide, by decide, ⟨by decide, by decide⟩, (mx_in1 (mt1 (List.mem_of_getElem? (i := 1) rfl)) rfl)⟩
abbrev mX11_span : mx_M := (yX11_span, cX11_span, 2, some .long)
theorem oX11_span : mx_mok mX11_span := ⟨(mx_in1 (mt4 (List.mem_of_getElem? (i := 9) rfl)) rfl), by decide, by decide, ⟨by decide, by decide⟩, (mx_in1 (mt1 (List.mem_of_getElem? (i := 1) rfl)) rfl)⟩
abbrev mX12_init : mx_M := (yX12_init, cX12_init, 1, none)
theorem oX12_init : mx_mok mX12_init := ⟨(mx_in1 (mt5 (List.mem_of_getElem? (i := 191) rfl)) rfl), by decide, by decide, ⟨by decide, by decide⟩, (mx_in1 (mt1 (List.mem_of_getElem? (i := 14) rfl)) rfl)⟩
abbrev mX12_in : mx_M := (yX12_in, cX12_in, 6, some .boolean)
theorem oX12_in : mx_mok mX12_in := ⟨(mx_in1 (mt6 (List.mem_of_getElem? (i := 111) rfl)) rfl), by decide, by decide, ⟨by decide, by decide⟩, (mx_in1 (mt1 (List.mem_of_getElem? (i := 14) rfl)) rfl)⟩
abbrev mX12_finding : mx_M := (yX12_finding, cX12_finding, 2, some .int)
theorem oX12_finding : mx_mok mX12_finding := ⟨(mx_in1 (mt6 (List.mem_of_getElem? (i := 117) rfl)) rfl), by decide, by decide, ⟨by decide, by decide⟩, (mx_in1 (mt1 (List.mem_of_getElem? (i := 14) rfl)) rfl)⟩
abbrev mX12_isSheet : mx_M := (yX12_isSheet, cX12_isSheet, 1, some .boolean)
theorem oX12_isSheet : mx_mok mX12_isSheet := ⟨(mx_in1 (mt6 (List.mem_of_getElem? (i := 107) rfl)) rfl), by decide, by decide, ⟨by decide, by decide⟩, (mx_in1 (mt1 (List.mem_of_getElem? (i := 14) rfl)) rfl)⟩
abbrev mX12_sheet : mx_M := (yX12_sheet, cX12_sheet, 5, some .int)
theorem oX12_sheet : mx_mok mX12_sheet := ⟨(mx_in1 (mt6 (List.mem_of_getElem? (i := 104) rfl)) rfl), by decide, by decide, ⟨by decide, by decide⟩, (mx_in1 (mt1 (List.mem_of_getElem? (i := 14) rfl)) rfl)⟩
abbrev mX12_set : mx_M := (yX12_set, cX12_set, 4, some .int)
theorem oX12_set : mx_mok mX12_set := ⟨(mx_in1 (mt6 (List.mem_of_getElem? (i := 122) rfl)) rfl), by decide, by decide, ⟨by decide, by decide⟩, (mx_in1 (mt1 (List.mem_of_getElem? (i := 14) rfl)) rfl)⟩
abbrev mX12_copy : mx_M := (yX12_copy, cX12_copy, 9, some .int)
theorem oX12_copy : mx_mok mX12_copy := ⟨(mx_in1 (mt6 (List.mem_of_getElem? (i := 126) rfl)) rfl), by decide, by decide, ⟨by decide, by decide⟩, (mx_in1 (mt1 (List.mem_of_getElem? (i := 14) rfl)) rfl)⟩
abbrev mX12_drop : mx_M := (yX12_drop, cX12_drop, 2, some .int)
theorem oX12_drop : mx_mok mX12_drop := ⟨(mx_in1 (mt6 (List.mem_of_getElem? (i := 130) rfl)) rfl), by decide, by decide, ⟨by decide, by decide⟩, (mx_in1 (mt1 (List.mem_of_getElem? (i := 14) rfl)) rfl)⟩
abbrev mX12_feed : mx_M := (yX12_feed, cX12_feed, 5, some .int)
theorem oX12_feed : mx_mok mX12_feed := ⟨(mx_in1 (mt6 (List.mem_of_getElem? (i := 134) rfl)) rfl), by decide, by decide, ⟨by decide, by decide⟩, (mx_in1 (mt1 (List.mem_of_getElem? (i := 14) rfl)) rfl)⟩
abbrev mX12_byteAt : mx_M := (yX12_byteAt, cX12_byteAt, 2, some .int)
theorem oX12_byteAt : mx_mok mX12_byteAt := ⟨(mx_in1 (mt6 (List.mem_of_getElem? (i := 149) rfl)) rfl), by decide, by decide, ⟨by decide, by decide⟩, (mx_in1 (mt1 (List.mem_of_getElem? (i := 14) rfl)) rfl)⟩
abbrev mX12_isLetter : mx_M := (yX12_isLetter, cX12_isLetter, 1, some .boolean)
theorem oX12_isLetter : mx_mok mX12_isLetter := ⟨(mx_in1 (mt6 (List.mem_of_getElem? (i := 153) rfl)) rfl), by decide, by decide, ⟨by decide, by decide⟩, (mx_in1 (mt1 (List.mem_of_getElem? (i := 14) rfl)) rfl)⟩
abbrev mX12_isFigure : mx_M := (yX12_isFigure, cX12_isFigure, 1, some .boolean)
theorem oX12_isFigure : mx_mok mX12_isFigure := ⟨(mx_in1 (mt6 (List.mem_of_getElem? (i := 156) rfl)) rfl), by decide, by decide, ⟨by decide, by decide⟩, (mx_in1 (mt1 (List.mem_of_getElem? (i := 14) rfl)) rfl)⟩
abbrev mX12_next : mx_M := (yX12_next, cX12_next, 2, none)
theorem oX12_next : mx_mok mX12_next := ⟨(mx_in1 (mt6 (List.mem_of_getElem? (i := 145) rfl)) rfl), by decide, by decide, ⟨by decide, by decide⟩, (mx_in1 (mt1 (List.mem_of_getElem? (i := 14) rfl)) rfl)⟩
abbrev mX12_bad : mx_M := (yX12_bad, cX12_bad, 2, none)
theorem oX12_bad : mx_mok mX12_bad := ⟨(mx_in1 (mt6 (List.mem_of_getElem? (i := 169) rfl)) rfl), by decide, by decide, ⟨by decide, by decide⟩, (mx_in1 (mt1 (List.mem_of_getElem? (i := 14) rfl)) rfl)⟩
abbrev mX12_must : mx_M := (yX12_must, cX12_must, 2, none)
theorem oX12_must : mx_mok mX12_must := ⟨(mx_in1 (mt6 (List.mem_of_getElem? (i := 165) rfl)) rfl), by decide, by decide, ⟨by decide, by decide⟩, (mx_in1 (mt1 (List.mem_of_getElem? (i := 14) rfl)) rfl)⟩
abbrev mX12_word : mx_M := (yX12_word, cX12_word, 4, some .long)
theorem oX12_word : mx_mok mX12_word := ⟨(mx_in1 (mt6 (List.mem_of_getElem? (i := 160) rfl)) rfl), by decide, by decide, ⟨by decide, by decide⟩, (mx_in1 (mt1 (List.mem_of_getElem? (i := 14) rfl)) rfl)⟩
abbrev mX12_number : mx_M := (yX12_number, cX12_number, 6, none)
theorem oX12_number : mx_mok mX12_number := ⟨(mx_in1 (mt6 (List.mem_of_getElem? (i := 173) rfl)) rfl), by decide, by decide, ⟨by decide, by decide⟩, (mx_in1 (mt1 (List.mem_of_getElem? (i := 14) rfl)) rfl)⟩
abbrev mX12_mustEnd : mx_M := (yX12_mustEnd, cX12_mustEnd, 1, none)
theorem oX12_mustEnd : mx_mok mX12_mustEnd := ⟨(mx_in1 (mt6 (List.mem_of_getElem? (i := 177) rfl)) rfl), by decide, by decide, ⟨by decide, by decide⟩, (mx_in1 (mt1 (List.mem_of_getElem? (i := 14) rfl)) rfl)⟩
abbrev mX12_kindOfWord : mx_M := (yX12_kindOfWord, cX12_kindOfWord, 3, some .int)
theorem oX12_kindOfWord : mx_mok mX12_kindOfWord := ⟨(mx_in1 (mt6 (List.mem_of_getElem? (i := 191) rfl)) rfl), by decide, by decide, ⟨by decide, by decide⟩, (mx_in1 (mt1 (List.mem_of_getElem? (i := 14) rfl)) rfl)⟩
abbrev mX12_readAway : mx_M := (yX12_readAway, cX12_readAway, 2, none)
theorem oX12_readAway : mx_mok mX12_readAway := ⟨(mx_in1 (mt6 (List.mem_of_getElem? (i := 182) rfl)) rfl), by decide, by decide, ⟨by decide, by decide⟩, (mx_in1 (mt1 (List.mem_of_getElem? (i := 14) rfl)) rfl)⟩
abbrev mX12_readStep : mx_M := (yX12_readStep, cX12_readStep, 5, none)
theorem oX12_readStep : mx_mok mX12_readStep := ⟨(mx_in1 (mt6 (List.mem_of_getElem? (i := 200) rfl)) rfl), by decide, by decide, ⟨by decide, by decide⟩, (mx_in1 (mt1 (List.mem_of_getElem? (i := 14) rfl)) rfl)⟩
abbrev mX12_readDish : mx_M := (yX12_readDish, cX12_readDish, 4, none)
theorem oX12_readDish : mx_mok mX12_readDish := ⟨(mx_in1 (mt6 (List.mem_of_getElem? (i := 187) rfl)) rfl), by decide, by decide, ⟨by decide, by decide⟩, (mx_in1 (mt1 (List.mem_of_getElem? (i := 14) rfl)) rfl)⟩
abbrev mX12_book : mx_M := (yX12_book, cX12_book, 2, some .int)
theorem oX12_book : mx_mok mX12_book := ⟨(mx_in1 (mt6 (List.mem_of_getElem? (i := 141) rfl)) rfl), by decide, by decide, ⟨by decide, by decide⟩, (mx_in1 (mt1 (List.mem_of_getElem? (i := 14) rfl)) rfl)⟩
abbrev mX12_fault : mx_M := (yX12_fault, cX12_fault, 1, some .int)
theorem oX12_fault : mx_mok mX12_fault := ⟨(mx_in1 (mt6 (List.mem_of_getElem? (i := 209) rfl)) rfl), by decide, by decide, ⟨by decide, by decide⟩, (mx_in1 (mt1 (List.mem_of_getElem? (i := 14) rfl)) rfl)⟩
abbrev mX12_dishOf : mx_M := (yX12_dishOf, cX12_dishOf, 3, some .int)
theorem oX12_dishOf : mx_mok mX12_dishOf := ⟨(mx_in1 (mt6 (List.mem_of_getElem? (i := 226) rfl)) rfl), by decide, by decide, ⟨by decide, by decide⟩, (mx_in1 (mt1 (List.mem_of_getElem? (i := 14) rfl)) rfl)⟩
abbrev mX12_stepOf : mx_M := (yX12_stepOf, cX12_stepOf, 3, some .int)
theorem oX12_stepOf : mx_mok mX12_stepOf := ⟨(mx_in1 (mt6 (List.mem_of_getElem? (i := 234) rfl)) rfl), by decide, by decide, ⟨by decide, by decide⟩, (mx_in1 (mt1 (List.mem_of_getElem? (i := 14) rfl)) rfl)⟩
abbrev mX12_isDish : mx_M := (yX12_isDish, cX12_isDish, 2, some .boolean)
theorem oX12_isDish : mx_mok mX12_isDish := ⟨(mx_in1 (mt6 (List.mem_of_getElem? (i := 217) rfl)) rfl), by decide, by decide, ⟨by decide, by decide⟩, (mx_in1 (mt1 (List.mem_of_getElem? (i := 14) rfl)) rfl)⟩
abbrev mX12_isStep : mx_M := (yX12_isStep, cX12_isStep, 2, some .boolean)
theorem oX12_isStep : mx_mok mX12_isStep := ⟨(mx_in1 (mt7 (List.mem_of_getElem? (i := 2) rfl)) rfl), by decide, by decide, ⟨by decide, by decide⟩, (mx_in1 (mt1 (List.mem_of_getElem? (i := 14) rfl)) rfl)⟩
abbrev mX12_waitsOf : mx_M := (yX12_waitsOf, cX12_waitsOf, 3, some .int)
theorem oX12_waitsOf : mx_mok mX12_waitsOf := ⟨(mx_in1 (mt6 (List.mem_of_getElem? (i := 230) rfl)) rfl), by decide, by decide, ⟨by decide, by decide⟩, (mx_in1 (mt1 (List.mem_of_getElem? (i := 14) rfl)) rfl)⟩
abbrev mX12_choicesOf : mx_M := (yX12_choicesOf, cX12_choicesOf, 2, some .int)
theorem oX12_choicesOf : mx_mok mX12_choicesOf := ⟨(mx_in1 (mt6 (List.mem_of_getElem? (i := 222) rfl)) rfl), by decide, by decide, ⟨by decide, by decide⟩, (mx_in1 (mt1 (List.mem_of_getElem? (i := 14) rfl)) rfl)⟩
abbrev mX12_dish : mx_M := (yX12_dish, cX12_dish, 3, some .int)
theorem oX12_dish : mx_mok mX12_dish := ⟨(mx_in1 (mt6 (List.mem_of_getElem? (i := 213) rfl)) rfl), by decide, by decide, ⟨by decide, by decide⟩, (mx_in1 (mt1 (List.mem_of_getElem? (i := 14) rfl)) rfl)⟩
abbrev mX12_step : mx_M := (yX12_step, cX12_step, 3, some .int)
theorem oX12_step : mx_mok mX12_step := ⟨(mx_in1 (mt6 (List.mem_of_getElem? (i := 238) rfl)) rfl), by decide, by decide, ⟨by decide, by decide⟩, (mx_in1 (mt1 (List.mem_of_getElem? (i := 14) rfl)) rfl)⟩
abbrev mX12_bigOnes : mx_M := (yX12_bigOnes, cX12_bigOnes, 3, some .int)
theorem oX12_bigOnes : mx_mok mX12_bigOnes := ⟨(mx_in1 (mt7 (List.mem_of_getElem? (i := 16) rfl)) rfl), by decide, by decide, ⟨by decide, by decide⟩, (mx_in1 (mt1 (List.mem_of_getElem? (i := 14) rfl)) rfl)⟩
abbrev mX12_handsAt : mx_M := (yX12_handsAt, cX12_handsAt, 5, some .int)
theorem oX12_handsAt : mx_mok mX12_handsAt := ⟨(mx_in1 (mt7 (List.mem_of_getElem? (i := 20) rfl)) rfl), by decide, by decide, ⟨by decide, by decide⟩, (mx_in1 (mt1 (List.mem_of_getElem? (i := 14) rfl)) rfl)⟩
abbrev mX12_isMinute : mx_M := (yX12_isMinute, cX12_isMinute, 1, some .boolean)
theorem oX12_isMinute : mx_mok mX12_isMinute := ⟨(mx_in1 (mt7 (List.mem_of_getElem? (i := 11) rfl)) rfl), by decide, by decide, ⟨by decide, by decide⟩, (mx_in1 (mt1 (List.mem_of_getElem? (i := 14) rfl)) rfl)⟩
abbrev mX12_gives : mx_M := (yX12_gives, cX12_gives, 3, some .int)
theorem oX12_gives : mx_mok mX12_gives := ⟨(mx_in1 (mt7 (List.mem_of_getElem? (i := 7) rfl)) rfl), by decide, by decide, ⟨by decide, by decide⟩, (mx_in1 (mt1 (List.mem_of_getElem? (i := 14) rfl)) rfl)⟩
abbrev mX12_bits : mx_M := (yX12_bits, cX12_bits, 3, some .int)
theorem oX12_bits : mx_mok mX12_bits := ⟨(mx_in1 (mt7 (List.mem_of_getElem? (i := 27) rfl)) rfl), by decide, by decide, ⟨by decide, by decide⟩, (mx_in1 (mt1 (List.mem_of_getElem? (i := 14) rfl)) rfl)⟩
abbrev mX12_dinner : mx_M := (yX12_dinner, cX12_dinner, 2, some .int)
theorem oX12_dinner : mx_mok mX12_dinner := ⟨(mx_in1 (mt7 (List.mem_of_getElem? (i := 24) rfl)) rfl), by decide, by decide, ⟨by decide, by decide⟩, (mx_in1 (mt1 (List.mem_of_getElem? (i := 14) rfl)) rfl)⟩
abbrev mX12_out : mx_M := (yX12_out, cX12_out, 2, some .int)
theorem oX12_out : mx_mok mX12_out := ⟨(mx_in1 (mt7 (List.mem_of_getElem? (i := 31) rfl)) rfl), by decide, by decide, ⟨by decide, by decide⟩, (mx_in1 (mt1 (List.mem_of_getElem? (i := 14) rfl)) rfl)⟩
abbrev mX12_clearLevel : mx_M := (yX12_clearLevel, cX12_clearLevel, 2, none)
theorem oX12_clearLevel : mx_mok mX12_clearLevel := ⟨(mx_in1 (mt7 (List.mem_of_getElem? (i := 51) rfl)) rfl), by decide, by decide, ⟨by decide, by decide⟩, (mx_in1 (mt1 (List.mem_of_getElem? (i := 14) rfl)) rfl)⟩
abbrev mX12_copyLevel : mx_M := (yX12_copyLevel, cX12_copyLevel, 3, none)
theorem oX12_copyLevel : mx_mok mX12_copyLevel := ⟨(mx_in1 (mt7 (List.mem_of_getElem? (i := 63) rfl)) rfl), by decide, by decide, ⟨by decide, by decide⟩, (mx_in1 (mt1 (List.mem_of_getElem? (i := 14) rfl)) rfl)⟩
abbrev mX12_addStep : mx_M := (yX12_addStep, cX12_addStep, 8, none)
theorem oX12_addStep : mx_mok mX12_addStep := ⟨(mx_in1 (mt7 (List.mem_of_getElem? (i := 67) rfl)) rfl), by decide, by decide, ⟨by decide, by decide⟩, (mx_in1 (mt1 (List.mem_of_getElem? (i := 14) rfl)) rfl)⟩
abbrev mX12_addPan : mx_M := (yX12_addPan, cX12_addPan, 5, none)
theorem oX12_addPan : mx_mok mX12_addPan := ⟨(mx_in1 (mt7 (List.mem_of_getElem? (i := 71) rfl)) rfl), by decide, by decide, ⟨by decide, by decide⟩, (mx_in1 (mt1 (List.mem_of_getElem? (i := 14) rfl)) rfl)⟩
abbrev mX12_lacks : mx_M := (yX12_lacks, cX12_lacks, 10, some .int)
theorem oX12_lacks : mx_mok mX12_lacks := ⟨(mx_in1 (mt7 (List.mem_of_getElem? (i := 75) rfl)) rfl), by decide, by decide, ⟨by decide, by decide⟩, (mx_in1 (mt1 (List.mem_of_getElem? (i := 14) rfl)) rfl)⟩
abbrev mX12_layBegins : mx_M := (yX12_layBegins, cX12_layBegins, 16, some .boolean)
theorem oX12_layBegins : mx_mok mX12_layBegins := ⟨(mx_in1 (mt7 (List.mem_of_getElem? (i := 59) rfl)) rfl), by decide, by decide, ⟨by decide, by decide⟩, (mx_in1 (mt1 (List.mem_of_getElem? (i := 14) rfl)) rfl)⟩
abbrev mX12_fits : mx_M := (yX12_fits, cX12_fits, 9, some .boolean)
theorem oX12_fits : mx_mok mX12_fits := ⟨(mx_in1 (mt7 (List.mem_of_getElem? (i := 55) rfl)) rfl), by decide, by decide, ⟨by decide, by decide⟩, (mx_in1 (mt1 (List.mem_of_getElem? (i := 14) rfl)) rfl)⟩
abbrev mX12_seek : mx_M := (yX12_seek, cX12_seek, 12, some .boolean)
theorem oX12_seek : mx_mok mX12_seek := ⟨(mx_in1 (mt7 (List.mem_of_getElem? (i := 47) rfl)) rfl), by decide, by decide, ⟨by decide, by decide⟩, (mx_in1 (mt1 (List.mem_of_getElem? (i := 14) rfl)) rfl)⟩
abbrev mX12_forget : mx_M := (yX12_forget, cX12_forget, 1, none)
theorem oX12_forget : mx_mok mX12_forget := ⟨(mx_in1 (mt6 (List.mem_of_getElem? (i := 205) rfl)) rfl), by decide, by decide, ⟨by decide, by decide⟩, (mx_in1 (mt1 (List.mem_of_getElem? (i := 14) rfl)) rfl)⟩
abbrev mX12_isBy : mx_M := (yX12_isBy, cX12_isBy, 1, some .boolean)
theorem oX12_isBy : mx_mok mX12_isBy := ⟨(mx_in1 (mt7 (List.mem_of_getElem? (i := 39) rfl)) rfl), by decide, by decide, ⟨by decide, by decide⟩, (mx_in1 (mt1 (List.mem_of_getElem? (i := 14) rfl)) rfl)⟩
abbrev mX12_layRow : mx_M := (yX12_layRow, cX12_layRow, 4, none)
theorem oX12_layRow : mx_mok mX12_layRow := ⟨(mx_in1 (mt7 (List.mem_of_getElem? (i := 79) rfl)) rfl), by decide, by decide, ⟨by decide, by decide⟩, (mx_in1 (mt1 (List.mem_of_getElem? (i := 14) rfl)) rfl)⟩
abbrev mX12_know : mx_M := (yX12_know, cX12_know, 3, some .boolean)
theorem oX12_know : mx_mok mX12_know := ⟨(mx_in1 (mt7 (List.mem_of_getElem? (i := 43) rfl)) rfl), by decide, by decide, ⟨by decide, by decide⟩, (mx_in1 (mt1 (List.mem_of_getElem? (i := 14) rfl)) rfl)⟩
abbrev mX12_least : mx_M := (yX12_least, cX12_least, 3, some .int)
theorem oX12_least : mx_mok mX12_least := ⟨(mx_in1 (mt7 (List.mem_of_getElem? (i := 36) rfl)) rfl), by decide, by decide, ⟨by decide, by decide⟩, (mx_in1 (mt1 (List.mem_of_getElem? (i := 14) rfl)) rfl)⟩
abbrev mX12_begins : mx_M := (yX12_begins, cX12_begins, 3, some .int)
theorem oX12_begins : mx_mok mX12_begins := ⟨(mx_in1 (mt7 (List.mem_of_getElem? (i := 83) rfl)) rfl), by decide, by decide, ⟨by decide, by decide⟩, (mx_in1 (mt1 (List.mem_of_getElem? (i := 14) rfl)) rfl)⟩
abbrev mX12_seven : mx_M := (yX12_seven, cX12_seven, 2, some .int)
theorem oX12_seven : mx_mok mX12_seven := ⟨(mx_in1 (mt7 (List.mem_of_getElem? (i := 87) rfl)) rfl), by decide, by decide, ⟨by decide, by decide⟩, (mx_in1 (mt1 (List.mem_of_getElem? (i := 14) rfl)) rfl)⟩
abbrev mX12_canBe : mx_M := (yX12_canBe, cX12_canBe, 4, some .boolean)
theorem oX12_canBe : mx_mok mX12_canBe := ⟨(mx_in1 (mt7 (List.mem_of_getElem? (i := 95) rfl)) rfl), by decide, by decide, ⟨by decide, by decide⟩, (mx_in1 (mt1 (List.mem_of_getElem? (i := 14) rfl)) rfl)⟩
abbrev mX12_earliest : mx_M := (yX12_earliest, cX12_earliest, 2, some .int)
theorem oX12_earliest : mx_mok mX12_earliest := ⟨(mx_in1 (mt7 (List.mem_of_getElem? (i := 91) rfl)) rfl), by decide, by decide, ⟨by decide, by decide⟩, (mx_in1 (mt1 (List.mem_of_getElem? (i := 14) rfl)) rfl)⟩
abbrev mX12_endOf : mx_M := (yX12_endOf, cX12_endOf, 2, some .int)
theorem oX12_endOf : mx_mok mX12_endOf := ⟨(mx_in1 (mt7 (List.mem_of_getElem? (i := 107) rfl)) rfl), by decide, by decide, ⟨by decide, by decide⟩, (mx_in1 (mt1 (List.mem_of_getElem? (i := 14) rfl)) rfl)⟩
abbrev mX12_isFirst : mx_M := (yX12_isFirst, cX12_isFirst, 2, some .boolean)
theorem oX12_isFirst : mx_mok mX12_isFirst := ⟨(mx_in1 (mt7 (List.mem_of_getElem? (i := 111) rfl)) rfl), by decide, by decide, ⟨by decide, by decide⟩, (mx_in1 (mt1 (List.mem_of_getElem? (i := 14) rfl)) rfl)⟩
abbrev mX12_isLast : mx_M := (yX12_isLast, cX12_isLast, 2, some .boolean)
theorem oX12_isLast : mx_mok mX12_isLast := ⟨(mx_in1 (mt7 (List.mem_of_getElem? (i := 119) rfl)) rfl), by decide, by decide, ⟨by decide, by decide⟩, (mx_in1 (mt1 (List.mem_of_getElem? (i := 14) rfl)) rfl)⟩
abbrev mX12_dishBy : mx_M := (yX12_dishBy, cX12_dishBy, 4, some .int)
theorem oX12_dishBy : mx_mok mX12_dishBy := ⟨(mx_in1 (mt7 (List.mem_of_getElem? (i := 115) rfl)) rfl), by decide, by decide, ⟨by decide, by decide⟩, (mx_in1 (mt1 (List.mem_of_getElem? (i := 14) rfl)) rfl)⟩
abbrev mX12_judged : mx_M := (yX12_judged, cX12_judged, 4, some .int)
theorem oX12_judged : mx_mok mX12_judged := ⟨(mx_in1 (mt7 (List.mem_of_getElem? (i := 103) rfl)) rfl), by decide, by decide, ⟨by decide, by decide⟩, (mx_in1 (mt1 (List.mem_of_getElem? (i := 14) rfl)) rfl)⟩
abbrev mX12_judge : mx_M := (yX12_judge, cX12_judge, 5, some .int)
theorem oX12_judge : mx_mok mX12_judge := ⟨(mx_in1 (mt7 (List.mem_of_getElem? (i := 99) rfl)) rfl), by decide, by decide, ⟨by decide, by decide⟩, (mx_in1 (mt1 (List.mem_of_getElem? (i := 14) rfl)) rfl)⟩
abbrev mX12_layPlan : mx_M := (yX12_layPlan, cX12_layPlan, 3, none)
theorem oX12_layPlan : mx_mok mX12_layPlan := ⟨(mx_in1 (mt7 (List.mem_of_getElem? (i := 127) rfl)) rfl), by decide, by decide, ⟨by decide, by decide⟩, (mx_in1 (mt1 (List.mem_of_getElem? (i := 14) rfl)) rfl)⟩
abbrev mX12_heat : mx_M := (yX12_heat, cX12_heat, 6, some .int)
theorem oX12_heat : mx_mok mX12_heat := ⟨(mx_in1 (mt7 (List.mem_of_getElem? (i := 123) rfl)) rfl), by decide, by decide, ⟨by decide, by decide⟩, (mx_in1 (mt1 (List.mem_of_getElem? (i := 14) rfl)) rfl)⟩
abbrev mX12_wanted : mx_M := (yX12_wanted, cX12_wanted, 4, some .int)
theorem oX12_wanted : mx_mok mX12_wanted := ⟨(mx_in1 (mt7 (List.mem_of_getElem? (i := 131) rfl)) rfl), by decide, by decide, ⟨by decide, by decide⟩, (mx_in1 (mt1 (List.mem_of_getElem? (i := 14) rfl)) rfl)⟩
abbrev mX12_dinners : mx_M := (yX12_dinners, cX12_dinners, 7, some .int)
theorem oX12_dinners : mx_mok mX12_dinners := ⟨(mx_in1 (mt7 (List.mem_of_getElem? (i := 136) rfl)) rfl), by decide, by decide, ⟨by decide, by decide⟩, (mx_in1 (mt1 (List.mem_of_getElem? (i := 14) rfl)) rfl)⟩
abbrev mX12_more : mx_M := (yX12_more, cX12_more, 5, some .int)
theorem oX12_more : mx_mok mX12_more := ⟨(mx_in1 (mt7 (List.mem_of_getElem? (i := 140) rfl)) rfl), by decide, by decide, ⟨by decide, by decide⟩, (mx_in1 (mt1 (List.mem_of_getElem? (i := 14) rfl)) rfl)⟩
abbrev mX12_mend : mx_M := (yX12_mend, cX12_mend, 4, some .int)
theorem oX12_mend : mx_mok mX12_mend := ⟨(mx_in1 (mt7 (List.mem_of_getElem? (i := 144) rfl)) rfl), by decide, by decide, ⟨by decide, by decide⟩, (mx_in1 (mt1 (List.mem_of_getElem? (i := 14) rfl)) rfl)⟩
abbrev mX12_slack : mx_M := (yX12_slack, cX12_slack, 5, some .int)
theorem oX12_slack : mx_mok mX12_slack := ⟨(mx_in1 (mt7 (List.mem_of_getElem? (i := 148) rfl)) rfl), by decide, by decide, ⟨by decide, by decide⟩, (mx_in1 (mt1 (List.mem_of_getElem? (i := 14) rfl)) rfl)⟩
abbrev mX12_bears : mx_M := (yX12_bears, cX12_bears, 4, some .int)
theorem oX12_bears : mx_mok mX12_bears := ⟨(mx_in1 (mt7 (List.mem_of_getElem? (i := 152) rfl)) rfl), by decide, by decide, ⟨by decide, by decide⟩, (mx_in1 (mt1 (List.mem_of_getElem? (i := 14) rfl)) rfl)⟩
abbrev mX12_mind : mx_M := (yX12_mind, cX12_mind, 5, some .int)
theorem oX12_mind : mx_mok mX12_mind := ⟨(mx_in1 (mt7 (List.mem_of_getElem? (i := 157) rfl)) rfl), by decide, by decide, ⟨by decide, by decide⟩, (mx_in1 (mt1 (List.mem_of_getElem? (i := 14) rfl)) rfl)⟩
abbrev mX12_image : mx_M := (yX12_image, cX12_image, 3, some .int)
theorem oX12_image : mx_mok mX12_image := ⟨(mx_in1 (mt7 (List.mem_of_getElem? (i := 161) rfl)) rfl), by decide, by decide, ⟨by decide, by decide⟩, (mx_in1 (mt1 (List.mem_of_getElem? (i := 14) rfl)) rfl)⟩
abbrev mX12_restore : mx_M := (yX12_restore, cX12_restore, 3, some .int)
theorem oX12_restore : mx_mok mX12_restore := ⟨(mx_in1 (mt7 (List.mem_of_getElem? (i := 165) rfl)) rfl), by decide, by decide, ⟨by decide, by decide⟩, (mx_in1 (mt1 (List.mem_of_getElem? (i := 14) rfl)) rfl)⟩
abbrev mX12_kindOf : mx_M := (yX12_kindOf, cX12_kindOf, 3, some .int)
theorem oX12_kindOf : mx_mok mX12_kindOf := ⟨(mx_in1 (mt7 (List.mem_of_getElem? (i := 173) rfl)) rfl), by decide, by decide, ⟨by decide, by decide⟩, (mx_in1 (mt1 (List.mem_of_getElem? (i := 14) rfl)) rfl)⟩
abbrev mX12_isOf : mx_M := (yX12_isOf, cX12_isOf, 2, some .boolean)
theorem oX12_isOf : mx_mok mX12_isOf := ⟨(mx_in1 (mt7 (List.mem_of_getElem? (i := 181) rfl)) rfl), by decide, by decide, ⟨by decide, by decide⟩, (mx_in1 (mt1 (List.mem_of_getElem? (i := 14) rfl)) rfl)⟩
abbrev mX12_kind : mx_M := (yX12_kind, cX12_kind, 2, some .int)
theorem oX12_kind : mx_mok mX12_kind := ⟨(mx_in1 (mt7 (List.mem_of_getElem? (i := 169) rfl)) rfl), by decide, by decide, ⟨by decide, by decide⟩, (mx_in1 (mt1 (List.mem_of_getElem? (i := 14) rfl)) rfl)⟩
abbrev mX12_as : mx_M := (yX12_as, cX12_as, 3, some .int)
theorem oX12_as : mx_mok mX12_as := ⟨(mx_in1 (mt7 (List.mem_of_getElem? (i := 177) rfl)) rfl), by decide, by decide, ⟨by decide, by decide⟩, (mx_in1 (mt1 (List.mem_of_getElem? (i := 14) rfl)) rfl)⟩
abbrev mX12_began : mx_M := (yX12_began, cX12_began, 2, none)
theorem oX12_began : mx_mok mX12_began := ⟨(mx_in1 (mt7 (List.mem_of_getElem? (i := 193) rfl)) rfl), by decide, by decide, ⟨by decide, by decide⟩, (mx_in1 (mt1 (List.mem_of_getElem? (i := 14) rfl)) rfl)⟩
abbrev mX12_markOf : mx_M := (yX12_markOf, cX12_markOf, 4, some .int)
theorem oX12_markOf : mx_mok mX12_markOf := ⟨(mx_in1 (mt7 (List.mem_of_getElem? (i := 197) rfl)) rfl), by decide, by decide, ⟨by decide, by decide⟩, (mx_in1 (mt1 (List.mem_of_getElem? (i := 14) rfl)) rfl)⟩
abbrev mX12_sizeOf : mx_M := (yX12_sizeOf, cX12_sizeOf, 5, some .int)
theorem oX12_sizeOf : mx_mok mX12_sizeOf := ⟨(mx_in1 (mt7 (List.mem_of_getElem? (i := 189) rfl)) rfl), by decide, by decide, ⟨by decide, by decide⟩, (mx_in1 (mt1 (List.mem_of_getElem? (i := 14) rfl)) rfl)⟩
abbrev mX12_ask : mx_M := (yX12_ask, cX12_ask, 3, some .int)
theorem oX12_ask : mx_mok mX12_ask := ⟨(mx_in1 (mt7 (List.mem_of_getElem? (i := 185) rfl)) rfl), by decide, by decide, ⟨by decide, by decide⟩, (mx_in1 (mt1 (List.mem_of_getElem? (i := 14) rfl)) rfl)⟩
abbrev mX12_trace : mx_M := (yX12_trace, cX12_trace, 2, some .int)
theorem oX12_trace : mx_mok mX12_trace := ⟨(mx_in1 (mt7 (List.mem_of_getElem? (i := 201) rfl)) rfl), by decide, by decide, ⟨by decide, by decide⟩, (mx_in1 (mt1 (List.mem_of_getElem? (i := 14) rfl)) rfl)⟩
abbrev mX12_count : mx_M := (yX12_count, cX12_count, 4, some .int)
theorem oX12_count : mx_mok mX12_count := ⟨(mx_in1 (mt7 (List.mem_of_getElem? (i := 205) rfl)) rfl), by decide, by decide, ⟨by decide, by decide⟩, (mx_in1 (mt1 (List.mem_of_getElem? (i := 14) rfl)) rfl)⟩
abbrev mX12_status : mx_M := (yX12_status, cX12_status, 1, some .int)
theorem oX12_status : mx_mok mX12_status := ⟨(mx_in1 (mt7 (List.mem_of_getElem? (i := 209) rfl)) rfl), by decide, by decide, ⟨by decide, by decide⟩, (mx_in1 (mt1 (List.mem_of_getElem? (i := 14) rfl)) rfl)⟩
abbrev mJ6_bitCount_0f7a4 : mx_M := (yJ6_bitCount_0f7a4, cJ6_bitCount_0f7a4, 1, some .int)
theorem oJ6_bitCount_0f7a4 : mx_mok mJ6_bitCount_0f7a4 := ⟨(mx_in1 (mt4 (List.mem_of_getElem? (i := 64) rfl)) rfl), by decide, by decide, ⟨by decide, by decide⟩, (mx_in1 (mt1 (List.mem_of_getElem? (i := 21) rfl)) rfl)⟩
abbrev mJ0_length_8abf5 : mx_M := (yJ0_length_8abf5, cJ0_length_8abf5, 1, some .int)
theorem oJ0_length_8abf5 : mx_mok mJ0_length_8abf5 := ⟨(mx_in1 (mt3 (List.mem_of_getElem? (i := 144) rfl)) rfl), by decide, by decide, ⟨by decide, by decide⟩, (mx_in1 (mt1 (List.mem_of_getElem? (i := 16) rfl)) rfl)⟩
abbrev mJ0_charAt_5068e : mx_M := (yJ0_charAt_5068e, cJ0_charAt_5068e, 2, some .char)
theorem oJ0_charAt_5068e : mx_mok mJ0_charAt_5068e := ⟨(mx_in1 (mt3 (List.mem_of_getElem? (i := 154) rfl)) rfl), by decide, by decide, ⟨by decide, by decide⟩, (mx_in1 (mt1 (List.mem_of_getElem? (i := 16) rfl)) rfl)⟩
abbrev mJ0_coder_7d493 : mx_M := (yJ0_coder_7d493, cJ0_coder_7d493, 1, some .byte)
theorem oJ0_coder_7d493 : mx_mok mJ0_coder_7d493 := ⟨(mx_in1 (mt3 (List.mem_of_getElem? (i := 148) rfl)) rfl), by decide, by decide, ⟨by decide, by decide⟩, (mx_in1 (mt1 (List.mem_of_getElem? (i := 16) rfl)) rfl)⟩
abbrev mJ0_isLatin1_aae02 : mx_M := (yJ0_isLatin1_aae02, cJ0_isLatin1_aae02, 1, some .boolean)
theorem oJ0_isLatin1_aae02 : mx_mok mJ0_isLatin1_aae02 := ⟨(mx_in1 (mt3 (List.mem_of_getElem? (i := 158) rfl)) rfl), by decide, by decide, ⟨by decide, by decide⟩, (mx_in1 (mt1 (List.mem_of_getElem? (i := 16) rfl)) rfl)⟩
abbrev mJ0_checkIndex_df160 : mx_M := (yJ0_checkIndex_df160, cJ0_checkIndex_df160, 2, none)
theorem oJ0_checkIndex_df160 : mx_mok mJ0_checkIndex_df160 := ⟨(mx_in1 (mt3 (List.mem_of_getElem? (i := 164) rfl)) rfl), by decide, by decide, ⟨by decide, by decide⟩, (mx_in1 (mt1 (List.mem_of_getElem? (i := 16) rfl)) rfl)⟩
abbrev mJ1_charAt_3b067 : mx_M := (yJ1_charAt_3b067, cJ1_charAt_3b067, 2, some .char)
theorem oJ1_charAt_3b067 : mx_mok mJ1_charAt_3b067 := ⟨(mx_in1 (mt3 (List.mem_of_getElem? (i := 161) rfl)) rfl), by decide, by decide, ⟨by decide, by decide⟩, (mx_in1 (mt1 (List.mem_of_getElem? (i := 17) rfl)) rfl)⟩
abbrev mJ2_getChar_3b067 : mx_M := (yJ2_getChar_3b067, cJ2_getChar_3b067, 2, some .char)
theorem oJ2_getChar_3b067 : mx_mok mJ2_getChar_3b067 := ⟨(mx_in1 (mt3 (List.mem_of_getElem? (i := 182) rfl)) rfl), by decide, by decide, ⟨by decide, by decide⟩, (mx_in1 (mt1 (List.mem_of_getElem? (i := 19) rfl)) rfl)⟩
abbrev mJ2_length_9d52b : mx_M := (yJ2_length_9d52b, cJ2_length_9d52b, 1, some .int)
theorem oJ2_length_9d52b : mx_mok mJ2_length_9d52b := ⟨(mx_in1 (mt3 (List.mem_of_getElem? (i := 178) rfl)) rfl), by decide, by decide, ⟨by decide, by decide⟩, (mx_in1 (mt1 (List.mem_of_getElem? (i := 19) rfl)) rfl)⟩
abbrev mJ2_charAt_3b067 : mx_M := (yJ2_charAt_3b067, cJ2_charAt_3b067, 2, some .char)
theorem oJ2_charAt_3b067 : mx_mok mJ2_charAt_3b067 := ⟨(mx_in1 (mt3 (List.mem_of_getElem? (i := 172) rfl)) rfl), by decide, by decide, ⟨by decide, by decide⟩, (mx_in1 (mt1 (List.mem_of_getElem? (i := 19) rfl)) rfl)⟩
abbrev mJ2_checkIndex_2214a : mx_M := (yJ2_checkIndex_2214a, cJ2_checkIndex_2214a, 2, none)
theorem oJ2_checkIndex_2214a : mx_mok mJ2_checkIndex_2214a := ⟨(mx_in1 (mt3 (List.mem_of_getElem? (i := 175) rfl)) rfl), by decide, by decide, ⟨by decide, by decide⟩, (mx_in1 (mt1 (List.mem_of_getElem? (i := 19) rfl)) rfl)⟩
abbrev mJ7_fill_d0a16 : mx_M := (yJ7_fill_d0a16, cJ7_fill_d0a16, 5, none)
theorem oJ7_fill_d0a16 : mx_mok mJ7_fill_d0a16 := ⟨(mx_in1 (mt4 (List.mem_of_getElem? (i := 121) rfl)) rfl), by decide, by decide, ⟨by decide, by decide⟩, (mx_in1 (mt1 (List.mem_of_getElem? (i := 3) rfl)) rfl)⟩
abbrev mJ7_fill_53178 : mx_M := (yJ7_fill_53178, cJ7_fill_53178, 4, none)
theorem oJ7_fill_53178 : mx_mok mJ7_fill_53178 := ⟨(mx_in1 (mt1 (List.mem_of_getElem? (i := 40) rfl)) rfl), by decide, by decide, ⟨by decide, by decide⟩, (mx_in1 (mt1 (List.mem_of_getElem? (i := 3) rfl)) rfl)⟩
abbrev mJ3_checkIndex_8e157 : mx_M := (yJ3_checkIndex_8e157, cJ3_checkIndex_8e157, 3, some .int)
theorem oJ3_checkIndex_8e157 : mx_mok mJ3_checkIndex_8e157 := ⟨(mx_in1 (mt3 (List.mem_of_getElem? (i := 169) rfl)) rfl), by decide, by decide, ⟨by decide, by decide⟩, (mx_in1 (mt1 (List.mem_of_getElem? (i := 18) rfl)) rfl)⟩
theorem fkX11_10 : mx_fk RX11 10 11 0 := ⟨(RX11, TX11, 17), rfl, by decide, (mx_in1 (mt2 (List.mem_of_getElem? (i := 230) rfl)) rfl), rfl⟩
theorem fkX11_19 : mx_fk RX11 19 11 1 := ⟨(RX11, TX11, 17), rfl, by decide, (mx_in1 (mt2 (List.mem_of_getElem? (i := 231) rfl)) rfl), rfl⟩
theorem fkX11_26 : mx_fk RX11 26 11 2 := ⟨(RX11, TX11, 17), rfl, by decide, (mx_in1 (mt2 (List.mem_of_getElem? (i := 232) rfl)) rfl), rfl⟩
theorem fkX11_30 : mx_fk RX11 30 11 10 := ⟨(RX11, TX11, 17), rfl, by decide, (mx_in1 (mt3 (List.mem_of_getElem? (i := 0) rfl)) rfl), rfl⟩
theorem fkX11_34 : mx_fk RX11 34 11 11 := ⟨(RX11, TX11, 17), rfl, by decide, (mx_in1 (mt3 (List.mem_of_getElem? (i := 1) rfl)) rfl), rfl⟩
theorem fkX11_40 : mx_fk RX11 40 11 3 := ⟨(RX11, TX11, 17), rfl, by decide, (mx_in1 (mt2 (List.mem_of_getElem? (i := 233) rfl)) rfl), rfl⟩
theorem fkX11_44 : mx_fk RX11 44 11 4 := ⟨(RX11, TX11, 17), rfl, by decide, (mx_in1 (mt2 (List.mem_of_getElem? (i := 234) rfl)) rfl), rfl⟩
theorem fkX11_50 : mx_fk RX11 50 11 5 := ⟨(RX11, TX11, 17), rfl, by decide, (mx_in1 (mt2 (List.mem_of_getElem? (i := 235) rfl)) rfl), rfl⟩
theorem fkX11_57 : mx_fk RX11 57 11 6 := ⟨(RX11, TX11, 17), rfl, by decide, (mx_in1 (mt2 (List.mem_of_getElem? (i := 236) rfl)) rfl), rfl⟩
theorem fkX11_64 : mx_fk RX11 64 11 7 := ⟨(RX11, TX11, 17), rfl, by decide, (mx_in1 (mt2 (List.mem_of_getElem? (i := 237) rfl)) rfl), rfl⟩
theorem fkX11_71 : mx_fk RX11 71 11 8 := ⟨(RX11, TX11, 17), rfl, by decide, (mx_in1 (mt2 (List.mem_of_getElem? (i := 238) rfl)) rfl), rfl⟩
theorem fkX11_75 : mx_fk RX11 75 11 9 := ⟨(RX11, TX11, 17), rfl, by decide, (mx_in1 (mt2 (List.mem_of_getElem? (i := 239) rfl)) rfl), rfl⟩
theorem fkX11_105 : mx_fk RX11 105 8 0 := ⟨(RX8, TX8, 3), rfl, by decide, (mx_in1 (mt1 (List.mem_of_getElem? (i := 42) rfl)) rfl), rfl⟩
theorem fkX11_109 : mx_fk RX11 109 8 2 := ⟨(RX8, TX8, 3), rfl, by decide, (mx_in1 (mt1 (List.mem_of_getElem? (i := 45) rfl)) rfl), rfl⟩
theorem fkX11_130 : mx_fk RX11 130 6 1 := ⟨(RX6, TX6, 7), rfl, by decide, (mx_in1 (mt1 (List.mem_of_getElem? (i := 62) rfl)) rfl), rfl⟩
theorem fkX11_138 : mx_fk RX11 138 6 2 := ⟨(RX6, TX6, 7), rfl, by decide, (mx_in1 (mt1 (List.mem_of_getElem? (i := 64) rfl)) rfl), rfl⟩
theorem fkX11_141 : mx_fk RX11 141 11 13 := ⟨(RX11, TX11, 17), rfl, by decide, (mx_in1 (mt3 (List.mem_of_getElem? (i := 3) rfl)) rfl), rfl⟩
theorem fkX11_143 : mx_fk RX11 143 6 3 := ⟨(RX6, TX6, 7), rfl, by decide, (mx_in1 (mt1 (List.mem_of_getElem? (i := 65) rfl)) rfl), rfl⟩
theorem fkX11_149 : mx_fk RX11 149 1 4 := ⟨(RX1, TX1, 19), rfl, by decide, (mx_in1 (mt1 (List.mem_of_getElem? (i := 111) rfl)) rfl), rfl⟩
theorem fkX11_152 : mx_fk RX11 152 1 5 := ⟨(RX1, TX1, 19), rfl, by decide, (mx_in1 (mt1 (List.mem_of_getElem? (i := 116) rfl)) rfl), rfl⟩
theorem fkX11_155 : mx_fk RX11 155 1 6 := ⟨(RX1, TX1, 19), rfl, by decide, (mx_in1 (mt1 (List.mem_of_getElem? (i := 120) rfl)) rfl), rfl⟩
theorem fkX11_158 : mx_fk RX11 158 1 7 := ⟨(RX1, TX1, 19), rfl, by decide, (mx_in1 (mt1 (List.mem_of_getElem? (i := 124) rfl)) rfl), rfl⟩
theorem fkX11_161 : mx_fk RX11 161 1 8 := ⟨(RX1, TX1, 19), rfl, by decide, (mx_in1 (mt1 (List.mem_of_getElem? (i := 129) rfl)) rfl), rfl⟩
theorem fkX11_164 : mx_fk RX11 164 1 9 := ⟨(RX1, TX1, 19), rfl, by decide, (mx_in1 (mt1 (List.mem_of_getElem? (i := 136) rfl)) rfl), rfl⟩
theorem fkX11_174 : mx_fk RX11 174 1 12 := ⟨(RX1, TX1, 19), rfl, by decide, (mx_in1 (mt1 (List.mem_of_getElem? (i := 149) rfl)) rfl), rfl⟩
theorem fkX11_177 : mx_fk RX11 177 1 13 := ⟨(RX1, TX1, 19), rfl, by decide, (mx_in1 (mt1 (List.mem_of_getElem? (i := 153) rfl)) rfl), rfl⟩
theorem fkX11_180 : mx_fk RX11 180 1 14 := ⟨(RX1, TX1, 19), rfl, by decide, (mx_in1 (mt1 (List.mem_of_getElem? (i := 157) rfl)) rfl), rfl⟩
theorem fkX11_183 : mx_fk RX11 183 1 15 := ⟨(RX1, TX1, 19), rfl, by decide, (mx_in1 (mt1 (List.mem_of_getElem? (i := 163) rfl)) rfl), rfl⟩
theorem fkX11_186 : mx_fk RX11 186 1 16 := ⟨(RX1, TX1, 19), rfl, by decide, (mx_in1 (mt1 (List.mem_of_getElem? (i := 168) rfl)) rfl), rfl⟩
theorem fkX11_209 : mx_fk RX11 209 1 17 := ⟨(RX1, TX1, 19), rfl, by decide, (mx_in1 (mt1 (List.mem_of_getElem? (i := 171) rfl)) rfl), rfl⟩
theorem fkX11_212 : mx_fk RX11 212 1 0 := ⟨(RX1, TX1, 19), rfl, by decide, (mx_in1 (mt1 (List.mem_of_getElem? (i := 96) rfl)) rfl), rfl⟩
theorem fkX11_215 : mx_fk RX11 215 1 18 := ⟨(RX1, TX1, 19), rfl, by decide, (mx_in1 (mt1 (List.mem_of_getElem? (i := 173) rfl)) rfl), rfl⟩
theorem fkX11_228 : mx_fk RX11 228 7 1 := ⟨(RX7, TX7, 8), rfl, by decide, (mx_in1 (mt2 (List.mem_of_getElem? (i := 190) rfl)) rfl), rfl⟩
theorem fkX11_231 : mx_fk RX11 231 7 6 := ⟨(RX7, TX7, 8), rfl, by decide, (mx_in1 (mt2 (List.mem_of_getElem? (i := 208) rfl)) rfl), rfl⟩
theorem fkX11_242 : mx_fk RX11 242 11 15 := ⟨(RX11, TX11, 17), rfl, by decide, (mx_in1 (mt3 (List.mem_of_getElem? (i := 5) rfl)) rfl), rfl⟩
theorem fkX11_245 : mx_fk RX11 245 7 0 := ⟨(RX7, TX7, 8), rfl, by decide, (mx_in1 (mt2 (List.mem_of_getElem? (i := 184) rfl)) rfl), rfl⟩
theorem fkX11_246 : mx_fk RX11 246 7 3 := ⟨(RX7, TX7, 8), rfl, by decide, (mx_in1 (mt2 (List.mem_of_getElem? (i := 195) rfl)) rfl), rfl⟩
theorem fkX11_271 : mx_fk RX11 271 2 0 := ⟨(RX2, TX2, 4), rfl, by decide, (mx_in1 (mt2 (List.mem_of_getElem? (i := 148) rfl)) rfl), rfl⟩
theorem fkX11_284 : mx_fk RX11 284 4 2 := ⟨(RX4, TX4, 3), rfl, by decide, (mx_in1 (mt2 (List.mem_of_getElem? (i := 135) rfl)) rfl), rfl⟩
theorem gsX11_287 : Cond.fieldLink RX11 287 "HotAtSeven" "WANTED" "[I" ∈ mx_gd := (mx_in1 (mt5 (List.mem_of_getElem? (i := 48) rfl)) rfl)
theorem fkX11_297 : mx_fk RX11 297 11 16 := ⟨(RX11, TX11, 17), rfl, by decide, (mx_in1 (mt3 (List.mem_of_getElem? (i := 6) rfl)) rfl), rfl⟩
theorem fkX11_307 : mx_fk RX11 307 5 18 := ⟨(RX5, TX5, 20), rfl, by decide, (mx_in1 (mt2 (List.mem_of_getElem? (i := 76) rfl)) rfl), rfl⟩
theorem fkX11_310 : mx_fk RX11 310 5 19 := ⟨(RX5, TX5, 20), rfl, by decide, (mx_in1 (mt2 (List.mem_of_getElem? (i := 78) rfl)) rfl), rfl⟩
theorem fkX11_317 : mx_fk RX11 317 5 17 := ⟨(RX5, TX5, 20), rfl, by decide, (mx_in1 (mt2 (List.mem_of_getElem? (i := 74) rfl)) rfl), rfl⟩
theorem fkX11_324 : mx_fk RX11 324 7 7 := ⟨(RX7, TX7, 8), rfl, by decide, (mx_in1 (mt2 (List.mem_of_getElem? (i := 212) rfl)) rfl), rfl⟩
theorem fkX11_338 : mx_fk RX11 338 0 1 := ⟨(RX0, TX0, 2), rfl, by decide, (mx_in1 (mt2 (List.mem_of_getElem? (i := 170) rfl)) rfl), rfl⟩
theorem fkX11_339 : mx_fk RX11 339 0 0 := ⟨(RX0, TX0, 2), rfl, by decide, (mx_in1 (mt2 (List.mem_of_getElem? (i := 168) rfl)) rfl), rfl⟩
theorem fkX11_345 : mx_fk RX11 345 1 10 := ⟨(RX1, TX1, 19), rfl, by decide, (mx_in1 (mt1 (List.mem_of_getElem? (i := 139) rfl)) rfl), rfl⟩
theorem fkX11_351 : mx_fk RX11 351 1 1 := ⟨(RX1, TX1, 19), rfl, by decide, (mx_in1 (mt1 (List.mem_of_getElem? (i := 100) rfl)) rfl), rfl⟩
theorem fkX11_354 : mx_fk RX11 354 11 12 := ⟨(RX11, TX11, 17), rfl, by decide, (mx_in1 (mt3 (List.mem_of_getElem? (i := 2) rfl)) rfl), rfl⟩
theorem fkX11_358 : mx_fk RX11 358 11 14 := ⟨(RX11, TX11, 17), rfl, by decide, (mx_in1 (mt3 (List.mem_of_getElem? (i := 4) rfl)) rfl), rfl⟩
theorem fkX0_9 : mx_fk RX0 9 0 0 := ⟨(RX0, TX0, 2), rfl, by decide, (mx_in1 (mt2 (List.mem_of_getElem? (i := 167) rfl)) rfl), rfl⟩
theorem gsX0_13 : Cond.fieldLink RX0 13 "HotAtSeven$Asker" "ABOVE" "[I" ∈ mx_gd := (mx_in1 (mt5 (List.mem_of_getElem? (i := 128) rfl)) rfl)
theorem fkX0_16 : mx_fk RX0 16 0 1 := ⟨(RX0, TX0, 2), rfl, by decide, (mx_in1 (mt2 (List.mem_of_getElem? (i := 169) rfl)) rfl), rfl⟩
theorem fkX0_44 : mx_fk RX0 44 1 16 := ⟨(RX1, TX1, 19), rfl, by decide, (mx_in1 (mt1 (List.mem_of_getElem? (i := 166) rfl)) rfl), rfl⟩
theorem fkX0_47 : mx_fk RX0 47 1 15 := ⟨(RX1, TX1, 19), rfl, by decide, (mx_in1 (mt1 (List.mem_of_getElem? (i := 161) rfl)) rfl), rfl⟩
theorem fkX0_50 : mx_fk RX0 50 1 12 := ⟨(RX1, TX1, 19), rfl, by decide, (mx_in1 (mt1 (List.mem_of_getElem? (i := 147) rfl)) rfl), rfl⟩
theorem fkX1_9 : mx_fk RX1 9 1 0 := ⟨(RX1, TX1, 19), rfl, by decide, (mx_in1 (mt1 (List.mem_of_getElem? (i := 92) rfl)) rfl), rfl⟩
theorem fkX1_15 : mx_fk RX1 15 1 2 := ⟨(RX1, TX1, 19), rfl, by decide, (mx_in1 (mt1 (List.mem_of_getElem? (i := 101) rfl)) rfl), rfl⟩
theorem fkX1_18 : mx_fk RX1 18 1 3 := ⟨(RX1, TX1, 19), rfl, by decide, (mx_in1 (mt1 (List.mem_of_getElem? (i := 104) rfl)) rfl), rfl⟩
theorem fkX1_21 : mx_fk RX1 21 1 5 := ⟨(RX1, TX1, 19), rfl, by decide, (mx_in1 (mt1 (List.mem_of_getElem? (i := 112) rfl)) rfl), rfl⟩
theorem fkX1_24 : mx_fk RX1 24 1 6 := ⟨(RX1, TX1, 19), rfl, by decide, (mx_in1 (mt1 (List.mem_of_getElem? (i := 117) rfl)) rfl), rfl⟩
theorem fkX1_27 : mx_fk RX1 27 1 7 := ⟨(RX1, TX1, 19), rfl, by decide, (mx_in1 (mt1 (List.mem_of_getElem? (i := 121) rfl)) rfl), rfl⟩
theorem fkX1_30 : mx_fk RX1 30 1 8 := ⟨(RX1, TX1, 19), rfl, by decide, (mx_in1 (mt1 (List.mem_of_getElem? (i := 125) rfl)) rfl), rfl⟩
theorem fkX1_33 : mx_fk RX1 33 1 9 := ⟨(RX1, TX1, 19), rfl, by decide, (mx_in1 (mt1 (List.mem_of_getElem? (i := 130) rfl)) rfl), rfl⟩
theorem fkX1_36 : mx_fk RX1 36 1 11 := ⟨(RX1, TX1, 19), rfl, by decide, (mx_in1 (mt1 (List.mem_of_getElem? (i := 140) rfl)) rfl), rfl⟩
theorem fkX1_39 : mx_fk RX1 39 1 12 := ⟨(RX1, TX1, 19), rfl, by decide, (mx_in1 (mt1 (List.mem_of_getElem? (i := 144) rfl)) rfl), rfl⟩
theorem fkX1_42 : mx_fk RX1 42 1 13 := ⟨(RX1, TX1, 19), rfl, by decide, (mx_in1 (mt1 (List.mem_of_getElem? (i := 150) rfl)) rfl), rfl⟩
theorem fkX1_45 : mx_fk RX1 45 1 14 := ⟨(RX1, TX1, 19), rfl, by decide, (mx_in1 (mt1 (List.mem_of_getElem? (i := 154) rfl)) rfl), rfl⟩
theorem fkX1_48 : mx_fk RX1 48 1 15 := ⟨(RX1, TX1, 19), rfl, by decide, (mx_in1 (mt1 (List.mem_of_getElem? (i := 158) rfl)) rfl), rfl⟩
theorem fkX1_51 : mx_fk RX1 51 1 16 := ⟨(RX1, TX1, 19), rfl, by decide, (mx_in1 (mt1 (List.mem_of_getElem? (i := 164) rfl)) rfl), rfl⟩
theorem fkX1_54 : mx_fk RX1 54 1 18 := ⟨(RX1, TX1, 19), rfl, by decide, (mx_in1 (mt1 (List.mem_of_getElem? (i := 172) rfl)) rfl), rfl⟩
theorem fkX1_58 : mx_fk RX1 58 1 1 := ⟨(RX1, TX1, 19), rfl, by decide, (mx_in1 (mt1 (List.mem_of_getElem? (i := 97) rfl)) rfl), rfl⟩
theorem fkX1_61 : mx_fk RX1 61 1 4 := ⟨(RX1, TX1, 19), rfl, by decide, (mx_in1 (mt1 (List.mem_of_getElem? (i := 107) rfl)) rfl), rfl⟩
theorem fkX1_64 : mx_fk RX1 64 1 10 := ⟨(RX1, TX1, 19), rfl, by decide, (mx_in1 (mt1 (List.mem_of_getElem? (i := 137) rfl)) rfl), rfl⟩
theorem fkX1_67 : mx_fk RX1 67 1 17 := ⟨(RX1, TX1, 19), rfl, by decide, (mx_in1 (mt1 (List.mem_of_getElem? (i := 169) rfl)) rfl), rfl⟩
theorem fkX2_12 : mx_fk RX2 12 2 0 := ⟨(RX2, TX2, 4), rfl, by decide, (mx_in1 (mt2 (List.mem_of_getElem? (i := 147) rfl)) rfl), rfl⟩
theorem fkX2_20 : mx_fk RX2 20 2 1 := ⟨(RX2, TX2, 4), rfl, by decide, (mx_in1 (mt2 (List.mem_of_getElem? (i := 149) rfl)) rfl), rfl⟩
theorem fkX2_27 : mx_fk RX2 27 2 2 := ⟨(RX2, TX2, 4), rfl, by decide, (mx_in1 (mt2 (List.mem_of_getElem? (i := 150) rfl)) rfl), rfl⟩
theorem fkX2_31 : mx_fk RX2 31 2 3 := ⟨(RX2, TX2, 4), rfl, by decide, (mx_in1 (mt2 (List.mem_of_getElem? (i := 151) rfl)) rfl), rfl⟩
theorem fkX2_36 : mx_fk RX2 36 7 1 := ⟨(RX7, TX7, 8), rfl, by decide, (mx_in1 (mt2 (List.mem_of_getElem? (i := 186) rfl)) rfl), rfl⟩
theorem fkX2_42 : mx_fk RX2 42 7 6 := ⟨(RX7, TX7, 8), rfl, by decide, (mx_in1 (mt2 (List.mem_of_getElem? (i := 205) rfl)) rfl), rfl⟩
theorem fkX2_46 : mx_fk RX2 46 7 7 := ⟨(RX7, TX7, 8), rfl, by decide, (mx_in1 (mt2 (List.mem_of_getElem? (i := 210) rfl)) rfl), rfl⟩
theorem fkX2_57 : mx_fk RX2 57 1 5 := ⟨(RX1, TX1, 19), rfl, by decide, (mx_in1 (mt1 (List.mem_of_getElem? (i := 113) rfl)) rfl), rfl⟩
theorem fkX2_62 : mx_fk RX2 62 7 2 := ⟨(RX7, TX7, 8), rfl, by decide, (mx_in1 (mt2 (List.mem_of_getElem? (i := 192) rfl)) rfl), rfl⟩
theorem fkX2_65 : mx_fk RX2 65 7 5 := ⟨(RX7, TX7, 8), rfl, by decide, (mx_in1 (mt2 (List.mem_of_getElem? (i := 202) rfl)) rfl), rfl⟩
theorem fkX2_75 : mx_fk RX2 75 1 13 := ⟨(RX1, TX1, 19), rfl, by decide, (mx_in1 (mt1 (List.mem_of_getElem? (i := 151) rfl)) rfl), rfl⟩
theorem fkX2_78 : mx_fk RX2 78 7 4 := ⟨(RX7, TX7, 8), rfl, by decide, (mx_in1 (mt2 (List.mem_of_getElem? (i := 199) rfl)) rfl), rfl⟩
theorem fkX2_89 : mx_fk RX2 89 1 0 := ⟨(RX1, TX1, 19), rfl, by decide, (mx_in1 (mt1 (List.mem_of_getElem? (i := 94) rfl)) rfl), rfl⟩
theorem fkX2_109 : mx_fk RX2 109 10 3 := ⟨(RX10, TX10, 7), rfl, by decide, (mx_in1 (mt2 (List.mem_of_getElem? (i := 15) rfl)) rfl), rfl⟩
theorem fkX2_111 : mx_fk RX2 111 1 9 := ⟨(RX1, TX1, 19), rfl, by decide, (mx_in1 (mt1 (List.mem_of_getElem? (i := 134) rfl)) rfl), rfl⟩
theorem fkX2_114 : mx_fk RX2 114 10 0 := ⟨(RX10, TX10, 7), rfl, by decide, (mx_in1 (mt2 (List.mem_of_getElem? (i := 8) rfl)) rfl), rfl⟩
theorem fkX2_115 : mx_fk RX2 115 10 1 := ⟨(RX10, TX10, 7), rfl, by decide, (mx_in1 (mt2 (List.mem_of_getElem? (i := 10) rfl)) rfl), rfl⟩
theorem fkX2_119 : mx_fk RX2 119 9 3 := ⟨(RX9, TX9, 4), rfl, by decide, (mx_in1 (mt2 (List.mem_of_getElem? (i := 46) rfl)) rfl), rfl⟩
theorem fkX2_122 : mx_fk RX2 122 10 2 := ⟨(RX10, TX10, 7), rfl, by decide, (mx_in1 (mt2 (List.mem_of_getElem? (i := 13) rfl)) rfl), rfl⟩
theorem fkX2_129 : mx_fk RX2 129 7 0 := ⟨(RX7, TX7, 8), rfl, by decide, (mx_in1 (mt2 (List.mem_of_getElem? (i := 183) rfl)) rfl), rfl⟩
theorem fkX3_11 : mx_fk RX3 11 3 0 := ⟨(RX3, TX3, 1), rfl, by decide, (mx_in1 (mt1 (List.mem_of_getElem? (i := 219) rfl)) rfl), rfl⟩
theorem fkX3_15 : mx_fk RX3 15 1 0 := ⟨(RX1, TX1, 19), rfl, by decide, (mx_in1 (mt1 (List.mem_of_getElem? (i := 93) rfl)) rfl), rfl⟩
theorem fkX3_37 : mx_fk RX3 37 1 1 := ⟨(RX1, TX1, 19), rfl, by decide, (mx_in1 (mt1 (List.mem_of_getElem? (i := 98) rfl)) rfl), rfl⟩
theorem fkX3_41 : mx_fk RX3 41 1 2 := ⟨(RX1, TX1, 19), rfl, by decide, (mx_in1 (mt1 (List.mem_of_getElem? (i := 102) rfl)) rfl), rfl⟩
theorem fkX3_44 : mx_fk RX3 44 1 3 := ⟨(RX1, TX1, 19), rfl, by decide, (mx_in1 (mt1 (List.mem_of_getElem? (i := 105) rfl)) rfl), rfl⟩
theorem fkX4_9 : mx_fk RX4 9 4 0 := ⟨(RX4, TX4, 3), rfl, by decide, (mx_in1 (mt2 (List.mem_of_getElem? (i := 132) rfl)) rfl), rfl⟩
theorem fkX4_15 : mx_fk RX4 15 4 1 := ⟨(RX4, TX4, 3), rfl, by decide, (mx_in1 (mt2 (List.mem_of_getElem? (i := 133) rfl)) rfl), rfl⟩
theorem fkX4_18 : mx_fk RX4 18 4 2 := ⟨(RX4, TX4, 3), rfl, by decide, (mx_in1 (mt2 (List.mem_of_getElem? (i := 134) rfl)) rfl), rfl⟩
theorem fkX4_27 : mx_fk RX4 27 7 1 := ⟨(RX7, TX7, 8), rfl, by decide, (mx_in1 (mt2 (List.mem_of_getElem? (i := 188) rfl)) rfl), rfl⟩
theorem fkX4_33 : mx_fk RX4 33 7 4 := ⟨(RX7, TX7, 8), rfl, by decide, (mx_in1 (mt2 (List.mem_of_getElem? (i := 198) rfl)) rfl), rfl⟩
theorem fkX4_36 : mx_fk RX4 36 1 11 := ⟨(RX1, TX1, 19), rfl, by decide, (mx_in1 (mt1 (List.mem_of_getElem? (i := 141) rfl)) rfl), rfl⟩
theorem fkX4_41 : mx_fk RX4 41 7 6 := ⟨(RX7, TX7, 8), rfl, by decide, (mx_in1 (mt2 (List.mem_of_getElem? (i := 206) rfl)) rfl), rfl⟩
theorem fkX4_44 : mx_fk RX4 44 7 7 := ⟨(RX7, TX7, 8), rfl, by decide, (mx_in1 (mt2 (List.mem_of_getElem? (i := 211) rfl)) rfl), rfl⟩
theorem fkX4_56 : mx_fk RX4 56 1 15 := ⟨(RX1, TX1, 19), rfl, by decide, (mx_in1 (mt1 (List.mem_of_getElem? (i := 159) rfl)) rfl), rfl⟩
theorem fkX4_57 : mx_fk RX4 57 1 16 := ⟨(RX1, TX1, 19), rfl, by decide, (mx_in1 (mt1 (List.mem_of_getElem? (i := 165) rfl)) rfl), rfl⟩
theorem fkX5_11 : mx_fk RX5 11 5 0 := ⟨(RX5, TX5, 20), rfl, by decide, (mx_in1 (mt2 (List.mem_of_getElem? (i := 56) rfl)) rfl), rfl⟩
theorem fkX5_17 : mx_fk RX5 17 5 1 := ⟨(RX5, TX5, 20), rfl, by decide, (mx_in1 (mt2 (List.mem_of_getElem? (i := 57) rfl)) rfl), rfl⟩
theorem fkX5_21 : mx_fk RX5 21 5 2 := ⟨(RX5, TX5, 20), rfl, by decide, (mx_in1 (mt2 (List.mem_of_getElem? (i := 58) rfl)) rfl), rfl⟩
theorem fkX5_26 : mx_fk RX5 26 5 3 := ⟨(RX5, TX5, 20), rfl, by decide, (mx_in1 (mt2 (List.mem_of_getElem? (i := 59) rfl)) rfl), rfl⟩
theorem fkX5_31 : mx_fk RX5 31 5 4 := ⟨(RX5, TX5, 20), rfl, by decide, (mx_in1 (mt2 (List.mem_of_getElem? (i := 60) rfl)) rfl), rfl⟩
theorem fkX5_35 : mx_fk RX5 35 5 5 := ⟨(RX5, TX5, 20), rfl, by decide, (mx_in1 (mt2 (List.mem_of_getElem? (i := 61) rfl)) rfl), rfl⟩
theorem fkX5_38 : mx_fk RX5 38 5 6 := ⟨(RX5, TX5, 20), rfl, by decide, (mx_in1 (mt2 (List.mem_of_getElem? (i := 62) rfl)) rfl), rfl⟩
theorem fkX5_41 : mx_fk RX5 41 5 7 := ⟨(RX5, TX5, 20), rfl, by decide, (mx_in1 (mt2 (List.mem_of_getElem? (i := 63) rfl)) rfl), rfl⟩
theorem fkX5_44 : mx_fk RX5 44 5 8 := ⟨(RX5, TX5, 20), rfl, by decide, (mx_in1 (mt2 (List.mem_of_getElem? (i := 64) rfl)) rfl), rfl⟩
theorem fkX5_47 : mx_fk RX5 47 5 9 := ⟨(RX5, TX5, 20), rfl, by decide, (mx_in1 (mt2 (List.mem_of_getElem? (i := 65) rfl)) rfl), rfl⟩
theorem fkX5_52 : mx_fk RX5 52 5 10 := ⟨(RX5, TX5, 20), rfl, by decide, (mx_in1 (mt2 (List.mem_of_getElem? (i := 66) rfl)) rfl), rfl⟩
theorem fkX5_55 : mx_fk RX5 55 5 11 := ⟨(RX5, TX5, 20), rfl, by decide, (mx_in1 (mt2 (List.mem_of_getElem? (i := 67) rfl)) rfl), rfl⟩
theorem fkX5_62 : mx_fk RX5 62 5 15 := ⟨(RX5, TX5, 20), rfl, by decide, (mx_in1 (mt2 (List.mem_of_getElem? (i := 71) rfl)) rfl), rfl⟩
theorem fkX5_69 : mx_fk RX5 69 5 16 := ⟨(RX5, TX5, 20), rfl, by decide, (mx_in1 (mt2 (List.mem_of_getElem? (i := 72) rfl)) rfl), rfl⟩
theorem fkX5_78 : mx_fk RX5 78 1 4 := ⟨(RX1, TX1, 19), rfl, by decide, (mx_in1 (mt1 (List.mem_of_getElem? (i := 109) rfl)) rfl), rfl⟩
theorem fkX5_90 : mx_fk RX5 90 1 5 := ⟨(RX1, TX1, 19), rfl, by decide, (mx_in1 (mt1 (List.mem_of_getElem? (i := 114) rfl)) rfl), rfl⟩
theorem fkX5_97 : mx_fk RX5 97 10 4 := ⟨(RX10, TX10, 7), rfl, by decide, (mx_in1 (mt2 (List.mem_of_getElem? (i := 16) rfl)) rfl), rfl⟩
theorem fkX5_100 : mx_fk RX5 100 10 5 := ⟨(RX10, TX10, 7), rfl, by decide, (mx_in1 (mt2 (List.mem_of_getElem? (i := 18) rfl)) rfl), rfl⟩
theorem fkX5_103 : mx_fk RX5 103 1 6 := ⟨(RX1, TX1, 19), rfl, by decide, (mx_in1 (mt1 (List.mem_of_getElem? (i := 118) rfl)) rfl), rfl⟩
theorem fkX5_106 : mx_fk RX5 106 10 6 := ⟨(RX10, TX10, 7), rfl, by decide, (mx_in1 (mt2 (List.mem_of_getElem? (i := 20) rfl)) rfl), rfl⟩
theorem fkX5_110 : mx_fk RX5 110 10 2 := ⟨(RX10, TX10, 7), rfl, by decide, (mx_in1 (mt2 (List.mem_of_getElem? (i := 12) rfl)) rfl), rfl⟩
theorem fkX5_118 : mx_fk RX5 118 7 1 := ⟨(RX7, TX7, 8), rfl, by decide, (mx_in1 (mt2 (List.mem_of_getElem? (i := 189) rfl)) rfl), rfl⟩
theorem fkX5_123 : mx_fk RX5 123 7 2 := ⟨(RX7, TX7, 8), rfl, by decide, (mx_in1 (mt2 (List.mem_of_getElem? (i := 193) rfl)) rfl), rfl⟩
theorem fkX5_126 : mx_fk RX5 126 7 5 := ⟨(RX7, TX7, 8), rfl, by decide, (mx_in1 (mt2 (List.mem_of_getElem? (i := 203) rfl)) rfl), rfl⟩
theorem fkX5_129 : mx_fk RX5 129 7 4 := ⟨(RX7, TX7, 8), rfl, by decide, (mx_in1 (mt2 (List.mem_of_getElem? (i := 200) rfl)) rfl), rfl⟩
theorem fkX5_132 : mx_fk RX5 132 1 9 := ⟨(RX1, TX1, 19), rfl, by decide, (mx_in1 (mt1 (List.mem_of_getElem? (i := 133) rfl)) rfl), rfl⟩
theorem fkX5_135 : mx_fk RX5 135 10 0 := ⟨(RX10, TX10, 7), rfl, by decide, (mx_in1 (mt2 (List.mem_of_getElem? (i := 7) rfl)) rfl), rfl⟩
theorem fkX5_138 : mx_fk RX5 138 7 6 := ⟨(RX7, TX7, 8), rfl, by decide, (mx_in1 (mt2 (List.mem_of_getElem? (i := 207) rfl)) rfl), rfl⟩
theorem fkX5_157 : mx_fk RX5 157 5 14 := ⟨(RX5, TX5, 20), rfl, by decide, (mx_in1 (mt2 (List.mem_of_getElem? (i := 70) rfl)) rfl), rfl⟩
theorem fkX5_160 : mx_fk RX5 160 5 13 := ⟨(RX5, TX5, 20), rfl, by decide, (mx_in1 (mt2 (List.mem_of_getElem? (i := 69) rfl)) rfl), rfl⟩
theorem fkX5_164 : mx_fk RX5 164 5 17 := ⟨(RX5, TX5, 20), rfl, by decide, (mx_in1 (mt2 (List.mem_of_getElem? (i := 73) rfl)) rfl), rfl⟩
theorem fkX5_172 : mx_fk RX5 172 5 12 := ⟨(RX5, TX5, 20), rfl, by decide, (mx_in1 (mt2 (List.mem_of_getElem? (i := 68) rfl)) rfl), rfl⟩
theorem fkX5_211 : mx_fk RX5 211 7 0 := ⟨(RX7, TX7, 8), rfl, by decide, (mx_in1 (mt2 (List.mem_of_getElem? (i := 185) rfl)) rfl), rfl⟩
theorem fkX5_212 : mx_fk RX5 212 7 3 := ⟨(RX7, TX7, 8), rfl, by decide, (mx_in1 (mt2 (List.mem_of_getElem? (i := 196) rfl)) rfl), rfl⟩
theorem fkX5_215 : mx_fk RX5 215 5 18 := ⟨(RX5, TX5, 20), rfl, by decide, (mx_in1 (mt2 (List.mem_of_getElem? (i := 75) rfl)) rfl), rfl⟩
theorem fkX5_218 : mx_fk RX5 218 5 19 := ⟨(RX5, TX5, 20), rfl, by decide, (mx_in1 (mt2 (List.mem_of_getElem? (i := 77) rfl)) rfl), rfl⟩
theorem fkX6_11 : mx_fk RX6 11 6 0 := ⟨(RX6, TX6, 7), rfl, by decide, (mx_in1 (mt1 (List.mem_of_getElem? (i := 60) rfl)) rfl), rfl⟩
theorem fkX6_15 : mx_fk RX6 15 6 1 := ⟨(RX6, TX6, 7), rfl, by decide, (mx_in1 (mt1 (List.mem_of_getElem? (i := 61) rfl)) rfl), rfl⟩
theorem fkX6_24 : mx_fk RX6 24 6 2 := ⟨(RX6, TX6, 7), rfl, by decide, (mx_in1 (mt1 (List.mem_of_getElem? (i := 63) rfl)) rfl), rfl⟩
theorem fkX6_27 : mx_fk RX6 27 6 4 := ⟨(RX6, TX6, 7), rfl, by decide, (mx_in1 (mt1 (List.mem_of_getElem? (i := 67) rfl)) rfl), rfl⟩
theorem fkX6_49 : mx_fk RX6 49 6 5 := ⟨(RX6, TX6, 7), rfl, by decide, (mx_in1 (mt1 (List.mem_of_getElem? (i := 68) rfl)) rfl), rfl⟩
theorem gsX6_58 : Cond.fieldLink RX6 58 "HotAtSeven$Reader" "KITCHEN_MOST" "[I" ∈ mx_gd := (mx_in1 (mt3 (List.mem_of_getElem? (i := 189) rfl)) rfl)
theorem fkX6_61 : mx_fk RX6 61 1 0 := ⟨(RX1, TX1, 19), rfl, by decide, (mx_in1 (mt1 (List.mem_of_getElem? (i := 95) rfl)) rfl), rfl⟩
theorem gsX6_63 : Cond.fieldLink RX6 63 "HotAtSeven$Reader" "KITCHEN_LEAST" "[I" ∈ mx_gd := (mx_in1 (mt3 (List.mem_of_getElem? (i := 191) rfl)) rfl)
theorem fkX6_73 : mx_fk RX6 73 1 1 := ⟨(RX1, TX1, 19), rfl, by decide, (mx_in1 (mt1 (List.mem_of_getElem? (i := 99) rfl)) rfl), rfl⟩
theorem fkX6_76 : mx_fk RX6 76 1 2 := ⟨(RX1, TX1, 19), rfl, by decide, (mx_in1 (mt1 (List.mem_of_getElem? (i := 103) rfl)) rfl), rfl⟩
theorem fkX6_79 : mx_fk RX6 79 1 3 := ⟨(RX1, TX1, 19), rfl, by decide, (mx_in1 (mt1 (List.mem_of_getElem? (i := 106) rfl)) rfl), rfl⟩
theorem fkX6_84 : mx_fk RX6 84 1 4 := ⟨(RX1, TX1, 19), rfl, by decide, (mx_in1 (mt1 (List.mem_of_getElem? (i := 110) rfl)) rfl), rfl⟩
theorem fkX6_87 : mx_fk RX6 87 1 5 := ⟨(RX1, TX1, 19), rfl, by decide, (mx_in1 (mt1 (List.mem_of_getElem? (i := 115) rfl)) rfl), rfl⟩
theorem fkX6_90 : mx_fk RX6 90 1 6 := ⟨(RX1, TX1, 19), rfl, by decide, (mx_in1 (mt1 (List.mem_of_getElem? (i := 119) rfl)) rfl), rfl⟩
theorem fkX6_93 : mx_fk RX6 93 1 7 := ⟨(RX1, TX1, 19), rfl, by decide, (mx_in1 (mt1 (List.mem_of_getElem? (i := 123) rfl)) rfl), rfl⟩
theorem fkX6_96 : mx_fk RX6 96 1 9 := ⟨(RX1, TX1, 19), rfl, by decide, (mx_in1 (mt1 (List.mem_of_getElem? (i := 135) rfl)) rfl), rfl⟩
theorem fkX6_99 : mx_fk RX6 99 1 10 := ⟨(RX1, TX1, 19), rfl, by decide, (mx_in1 (mt1 (List.mem_of_getElem? (i := 138) rfl)) rfl), rfl⟩
theorem fkX6_105 : mx_fk RX6 105 1 8 := ⟨(RX1, TX1, 19), rfl, by decide, (mx_in1 (mt1 (List.mem_of_getElem? (i := 128) rfl)) rfl), rfl⟩
theorem fkX6_116 : mx_fk RX6 116 1 11 := ⟨(RX1, TX1, 19), rfl, by decide, (mx_in1 (mt1 (List.mem_of_getElem? (i := 143) rfl)) rfl), rfl⟩
theorem fkX6_119 : mx_fk RX6 119 1 12 := ⟨(RX1, TX1, 19), rfl, by decide, (mx_in1 (mt1 (List.mem_of_getElem? (i := 148) rfl)) rfl), rfl⟩
theorem fkX6_122 : mx_fk RX6 122 1 13 := ⟨(RX1, TX1, 19), rfl, by decide, (mx_in1 (mt1 (List.mem_of_getElem? (i := 152) rfl)) rfl), rfl⟩
theorem fkX6_125 : mx_fk RX6 125 1 14 := ⟨(RX1, TX1, 19), rfl, by decide, (mx_in1 (mt1 (List.mem_of_getElem? (i := 156) rfl)) rfl), rfl⟩
theorem fkX6_129 : mx_fk RX6 129 1 15 := ⟨(RX1, TX1, 19), rfl, by decide, (mx_in1 (mt1 (List.mem_of_getElem? (i := 162) rfl)) rfl), rfl⟩
theorem fkX6_132 : mx_fk RX6 132 1 16 := ⟨(RX1, TX1, 19), rfl, by decide, (mx_in1 (mt1 (List.mem_of_getElem? (i := 167) rfl)) rfl), rfl⟩
theorem fkX6_144 : mx_fk RX6 144 6 6 := ⟨(RX6, TX6, 7), rfl, by decide, (mx_in1 (mt1 (List.mem_of_getElem? (i := 69) rfl)) rfl), rfl⟩
theorem fkX6_147 : mx_fk RX6 147 6 3 := ⟨(RX6, TX6, 7), rfl, by decide, (mx_in1 (mt1 (List.mem_of_getElem? (i := 66) rfl)) rfl), rfl⟩
theorem fkX7_9 : mx_fk RX7 9 7 2 := ⟨(RX7, TX7, 8), rfl, by decide, (mx_in1 (mt2 (List.mem_of_getElem? (i := 191) rfl)) rfl), rfl⟩
theorem fkX7_15 : mx_fk RX7 15 7 3 := ⟨(RX7, TX7, 8), rfl, by decide, (mx_in1 (mt2 (List.mem_of_getElem? (i := 194) rfl)) rfl), rfl⟩
theorem fkX7_18 : mx_fk RX7 18 7 4 := ⟨(RX7, TX7, 8), rfl, by decide, (mx_in1 (mt2 (List.mem_of_getElem? (i := 197) rfl)) rfl), rfl⟩
theorem fkX7_21 : mx_fk RX7 21 7 5 := ⟨(RX7, TX7, 8), rfl, by decide, (mx_in1 (mt2 (List.mem_of_getElem? (i := 201) rfl)) rfl), rfl⟩
theorem fkX7_24 : mx_fk RX7 24 7 6 := ⟨(RX7, TX7, 8), rfl, by decide, (mx_in1 (mt2 (List.mem_of_getElem? (i := 204) rfl)) rfl), rfl⟩
theorem fkX7_27 : mx_fk RX7 27 7 7 := ⟨(RX7, TX7, 8), rfl, by decide, (mx_in1 (mt2 (List.mem_of_getElem? (i := 209) rfl)) rfl), rfl⟩
theorem fkX7_30 : mx_fk RX7 30 7 0 := ⟨(RX7, TX7, 8), rfl, by decide, (mx_in1 (mt2 (List.mem_of_getElem? (i := 182) rfl)) rfl), rfl⟩
theorem fkX7_34 : mx_fk RX7 34 7 1 := ⟨(RX7, TX7, 8), rfl, by decide, (mx_in1 (mt2 (List.mem_of_getElem? (i := 187) rfl)) rfl), rfl⟩
theorem fkX7_37 : mx_fk RX7 37 1 4 := ⟨(RX1, TX1, 19), rfl, by decide, (mx_in1 (mt1 (List.mem_of_getElem? (i := 108) rfl)) rfl), rfl⟩
theorem fkX7_40 : mx_fk RX7 40 1 17 := ⟨(RX1, TX1, 19), rfl, by decide, (mx_in1 (mt1 (List.mem_of_getElem? (i := 170) rfl)) rfl), rfl⟩
theorem fkX7_47 : mx_fk RX7 47 1 8 := ⟨(RX1, TX1, 19), rfl, by decide, (mx_in1 (mt1 (List.mem_of_getElem? (i := 127) rfl)) rfl), rfl⟩
theorem fkX7_50 : mx_fk RX7 50 1 9 := ⟨(RX1, TX1, 19), rfl, by decide, (mx_in1 (mt1 (List.mem_of_getElem? (i := 132) rfl)) rfl), rfl⟩
theorem fkX7_53 : mx_fk RX7 53 1 12 := ⟨(RX1, TX1, 19), rfl, by decide, (mx_in1 (mt1 (List.mem_of_getElem? (i := 146) rfl)) rfl), rfl⟩
theorem fkX8_9 : mx_fk RX8 9 8 0 := ⟨(RX8, TX8, 3), rfl, by decide, (mx_in1 (mt1 (List.mem_of_getElem? (i := 41) rfl)) rfl), rfl⟩
theorem fkX8_13 : mx_fk RX8 13 8 1 := ⟨(RX8, TX8, 3), rfl, by decide, (mx_in1 (mt1 (List.mem_of_getElem? (i := 43) rfl)) rfl), rfl⟩
theorem fkX8_18 : mx_fk RX8 18 8 2 := ⟨(RX8, TX8, 3), rfl, by decide, (mx_in1 (mt1 (List.mem_of_getElem? (i := 44) rfl)) rfl), rfl⟩
theorem fkX9_9 : mx_fk RX9 9 9 0 := ⟨(RX9, TX9, 4), rfl, by decide, (mx_in1 (mt2 (List.mem_of_getElem? (i := 42) rfl)) rfl), rfl⟩
theorem fkX9_15 : mx_fk RX9 15 9 1 := ⟨(RX9, TX9, 4), rfl, by decide, (mx_in1 (mt2 (List.mem_of_getElem? (i := 43) rfl)) rfl), rfl⟩
theorem fkX9_18 : mx_fk RX9 18 9 2 := ⟨(RX9, TX9, 4), rfl, by decide, (mx_in1 (mt2 (List.mem_of_getElem? (i := 44) rfl)) rfl), rfl⟩
theorem fkX9_21 : mx_fk RX9 21 9 3 := ⟨(RX9, TX9, 4), rfl, by decide, (mx_in1 (mt2 (List.mem_of_getElem? (i := 45) rfl)) rfl), rfl⟩
theorem fkX10_9 : mx_fk RX10 9 10 0 := ⟨(RX10, TX10, 7), rfl, by decide, (mx_in1 (mt2 (List.mem_of_getElem? (i := 6) rfl)) rfl), rfl⟩
theorem fkX10_15 : mx_fk RX10 15 10 1 := ⟨(RX10, TX10, 7), rfl, by decide, (mx_in1 (mt2 (List.mem_of_getElem? (i := 9) rfl)) rfl), rfl⟩
theorem fkX10_18 : mx_fk RX10 18 10 2 := ⟨(RX10, TX10, 7), rfl, by decide, (mx_in1 (mt2 (List.mem_of_getElem? (i := 11) rfl)) rfl), rfl⟩
theorem fkX10_22 : mx_fk RX10 22 10 3 := ⟨(RX10, TX10, 7), rfl, by decide, (mx_in1 (mt2 (List.mem_of_getElem? (i := 14) rfl)) rfl), rfl⟩
theorem fkX10_26 : mx_fk RX10 26 1 9 := ⟨(RX1, TX1, 19), rfl, by decide, (mx_in1 (mt1 (List.mem_of_getElem? (i := 131) rfl)) rfl), rfl⟩
theorem fkX10_31 : mx_fk RX10 31 10 5 := ⟨(RX10, TX10, 7), rfl, by decide, (mx_in1 (mt2 (List.mem_of_getElem? (i := 17) rfl)) rfl), rfl⟩
theorem fkX10_34 : mx_fk RX10 34 1 8 := ⟨(RX1, TX1, 19), rfl, by decide, (mx_in1 (mt1 (List.mem_of_getElem? (i := 126) rfl)) rfl), rfl⟩
theorem fkX10_37 : mx_fk RX10 37 1 12 := ⟨(RX1, TX1, 19), rfl, by decide, (mx_in1 (mt1 (List.mem_of_getElem? (i := 145) rfl)) rfl), rfl⟩
theorem fkX10_38 : mx_fk RX10 38 1 11 := ⟨(RX1, TX1, 19), rfl, by decide, (mx_in1 (mt1 (List.mem_of_getElem? (i := 142) rfl)) rfl), rfl⟩
theorem fkX10_41 : mx_fk RX10 41 1 15 := ⟨(RX1, TX1, 19), rfl, by decide, (mx_in1 (mt1 (List.mem_of_getElem? (i := 160) rfl)) rfl), rfl⟩
theorem fkX10_52 : mx_fk RX10 52 10 6 := ⟨(RX10, TX10, 7), rfl, by decide, (mx_in1 (mt2 (List.mem_of_getElem? (i := 19) rfl)) rfl), rfl⟩
theorem fkX10_70 : mx_fk RX10 70 1 14 := ⟨(RX1, TX1, 19), rfl, by decide, (mx_in1 (mt1 (List.mem_of_getElem? (i := 155) rfl)) rfl), rfl⟩
theorem fkX10_73 : mx_fk RX10 73 1 7 := ⟨(RX1, TX1, 19), rfl, by decide, (mx_in1 (mt1 (List.mem_of_getElem? (i := 122) rfl)) rfl), rfl⟩
theorem fkX12_7 : mx_fk RX12 7 12 2 := ⟨(RX12, TX12, 49), rfl, by decide, (mx_in1 (mt5 (List.mem_of_getElem? (i := 195) rfl)) rfl), rfl⟩
theorem fkX12_13 : mx_fk RX12 13 12 3 := ⟨(RX12, TX12, 49), rfl, by decide, (mx_in1 (mt5 (List.mem_of_getElem? (i := 196) rfl)) rfl), rfl⟩
theorem fkX12_16 : mx_fk RX12 16 12 4 := ⟨(RX12, TX12, 49), rfl, by decide, (mx_in1 (mt5 (List.mem_of_getElem? (i := 197) rfl)) rfl), rfl⟩
theorem fkX12_19 : mx_fk RX12 19 12 5 := ⟨(RX12, TX12, 49), rfl, by decide, (mx_in1 (mt5 (List.mem_of_getElem? (i := 198) rfl)) rfl), rfl⟩
theorem fkX12_22 : mx_fk RX12 22 12 6 := ⟨(RX12, TX12, 49), rfl, by decide, (mx_in1 (mt5 (List.mem_of_getElem? (i := 199) rfl)) rfl), rfl⟩
theorem fkX12_25 : mx_fk RX12 25 12 8 := ⟨(RX12, TX12, 49), rfl, by decide, (mx_in1 (mt5 (List.mem_of_getElem? (i := 201) rfl)) rfl), rfl⟩
theorem fkX12_28 : mx_fk RX12 28 12 18 := ⟨(RX12, TX12, 49), rfl, by decide, (mx_in1 (mt5 (List.mem_of_getElem? (i := 211) rfl)) rfl), rfl⟩
theorem fkX12_31 : mx_fk RX12 31 12 19 := ⟨(RX12, TX12, 49), rfl, by decide, (mx_in1 (mt5 (List.mem_of_getElem? (i := 212) rfl)) rfl), rfl⟩
theorem fkX12_34 : mx_fk RX12 34 12 20 := ⟨(RX12, TX12, 49), rfl, by decide, (mx_in1 (mt5 (List.mem_of_getElem? (i := 213) rfl)) rfl), rfl⟩
theorem fkX12_37 : mx_fk RX12 37 12 21 := ⟨(RX12, TX12, 49), rfl, by decide, (mx_in1 (mt5 (List.mem_of_getElem? (i := 214) rfl)) rfl), rfl⟩
theorem fkX12_40 : mx_fk RX12 40 12 22 := ⟨(RX12, TX12, 49), rfl, by decide, (mx_in1 (mt5 (List.mem_of_getElem? (i := 215) rfl)) rfl), rfl⟩
theorem fkX12_43 : mx_fk RX12 43 12 23 := ⟨(RX12, TX12, 49), rfl, by decide, (mx_in1 (mt5 (List.mem_of_getElem? (i := 216) rfl)) rfl), rfl⟩
theorem fkX12_46 : mx_fk RX12 46 12 24 := ⟨(RX12, TX12, 49), rfl, by decide, (mx_in1 (mt5 (List.mem_of_getElem? (i := 217) rfl)) rfl), rfl⟩
theorem fkX12_49 : mx_fk RX12 49 12 25 := ⟨(RX12, TX12, 49), rfl, by decide, (mx_in1 (mt5 (List.mem_of_getElem? (i := 218) rfl)) rfl), rfl⟩
theorem fkX12_52 : mx_fk RX12 52 12 26 := ⟨(RX12, TX12, 49), rfl, by decide, (mx_in1 (mt5 (List.mem_of_getElem? (i := 219) rfl)) rfl), rfl⟩
theorem fkX12_55 : mx_fk RX12 55 12 27 := ⟨(RX12, TX12, 49), rfl, by decide, (mx_in1 (mt5 (List.mem_of_getElem? (i := 220) rfl)) rfl), rfl⟩
theorem fkX12_58 : mx_fk RX12 58 12 28 := ⟨(RX12, TX12, 49), rfl, by decide, (mx_in1 (mt5 (List.mem_of_getElem? (i := 221) rfl)) rfl), rfl⟩
theorem fkX12_61 : mx_fk RX12 61 12 29 := ⟨(RX12, TX12, 49), rfl, by decide, (mx_in1 (mt5 (List.mem_of_getElem? (i := 222) rfl)) rfl), rfl⟩
theorem fkX12_64 : mx_fk RX12 64 12 30 := ⟨(RX12, TX12, 49), rfl, by decide, (mx_in1 (mt5 (List.mem_of_getElem? (i := 223) rfl)) rfl), rfl⟩
theorem fkX12_67 : mx_fk RX12 67 12 33 := ⟨(RX12, TX12, 49), rfl, by decide, (mx_in1 (mt5 (List.mem_of_getElem? (i := 226) rfl)) rfl), rfl⟩
theorem fkX12_70 : mx_fk RX12 70 12 37 := ⟨(RX12, TX12, 49), rfl, by decide, (mx_in1 (mt5 (List.mem_of_getElem? (i := 230) rfl)) rfl), rfl⟩
theorem fkX12_73 : mx_fk RX12 73 12 38 := ⟨(RX12, TX12, 49), rfl, by decide, (mx_in1 (mt5 (List.mem_of_getElem? (i := 231) rfl)) rfl), rfl⟩
theorem fkX12_76 : mx_fk RX12 76 12 40 := ⟨(RX12, TX12, 49), rfl, by decide, (mx_in1 (mt5 (List.mem_of_getElem? (i := 233) rfl)) rfl), rfl⟩
theorem fkX12_79 : mx_fk RX12 79 12 41 := ⟨(RX12, TX12, 49), rfl, by decide, (mx_in1 (mt5 (List.mem_of_getElem? (i := 234) rfl)) rfl), rfl⟩
theorem fkX12_82 : mx_fk RX12 82 12 42 := ⟨(RX12, TX12, 49), rfl, by decide, (mx_in1 (mt5 (List.mem_of_getElem? (i := 235) rfl)) rfl), rfl⟩
theorem fkX12_85 : mx_fk RX12 85 12 43 := ⟨(RX12, TX12, 49), rfl, by decide, (mx_in1 (mt5 (List.mem_of_getElem? (i := 236) rfl)) rfl), rfl⟩
theorem fkX12_88 : mx_fk RX12 88 12 44 := ⟨(RX12, TX12, 49), rfl, by decide, (mx_in1 (mt5 (List.mem_of_getElem? (i := 237) rfl)) rfl), rfl⟩
theorem fkX12_91 : mx_fk RX12 91 12 45 := ⟨(RX12, TX12, 49), rfl, by decide, (mx_in1 (mt5 (List.mem_of_getElem? (i := 238) rfl)) rfl), rfl⟩
theorem fkX12_95 : mx_fk RX12 95 12 46 := ⟨(RX12, TX12, 49), rfl, by decide, (mx_in1 (mt5 (List.mem_of_getElem? (i := 239) rfl)) rfl), rfl⟩
theorem fkX12_98 : mx_fk RX12 98 12 47 := ⟨(RX12, TX12, 49), rfl, by decide, (mx_in1 (mt6 (List.mem_of_getElem? (i := 0) rfl)) rfl), rfl⟩
theorem fkX12_101 : mx_fk RX12 101 12 0 := ⟨(RX12, TX12, 49), rfl, by decide, (mx_in1 (mt5 (List.mem_of_getElem? (i := 193) rfl)) rfl), rfl⟩
theorem fkX12_105 : mx_fk RX12 105 12 1 := ⟨(RX12, TX12, 49), rfl, by decide, (mx_in1 (mt5 (List.mem_of_getElem? (i := 194) rfl)) rfl), rfl⟩
theorem fkX12_128 : mx_fk RX12 128 12 9 := ⟨(RX12, TX12, 49), rfl, by decide, (mx_in1 (mt5 (List.mem_of_getElem? (i := 202) rfl)) rfl), rfl⟩
theorem fkX12_134 : mx_fk RX12 134 12 11 := ⟨(RX12, TX12, 49), rfl, by decide, (mx_in1 (mt5 (List.mem_of_getElem? (i := 204) rfl)) rfl), rfl⟩
theorem fkX12_138 : mx_fk RX12 138 12 12 := ⟨(RX12, TX12, 49), rfl, by decide, (mx_in1 (mt5 (List.mem_of_getElem? (i := 205) rfl)) rfl), rfl⟩
theorem fkX12_144 : mx_fk RX12 144 12 14 := ⟨(RX12, TX12, 49), rfl, by decide, (mx_in1 (mt5 (List.mem_of_getElem? (i := 207) rfl)) rfl), rfl⟩
theorem fkX12_147 : mx_fk RX12 147 12 13 := ⟨(RX12, TX12, 49), rfl, by decide, (mx_in1 (mt5 (List.mem_of_getElem? (i := 206) rfl)) rfl), rfl⟩
theorem fkX12_156 : mx_fk RX12 156 12 15 := ⟨(RX12, TX12, 49), rfl, by decide, (mx_in1 (mt5 (List.mem_of_getElem? (i := 208) rfl)) rfl), rfl⟩
theorem fkX12_159 : mx_fk RX12 159 12 16 := ⟨(RX12, TX12, 49), rfl, by decide, (mx_in1 (mt5 (List.mem_of_getElem? (i := 209) rfl)) rfl), rfl⟩
theorem fkX12_162 : mx_fk RX12 162 12 17 := ⟨(RX12, TX12, 49), rfl, by decide, (mx_in1 (mt5 (List.mem_of_getElem? (i := 210) rfl)) rfl), rfl⟩
theorem fkX12_217 : mx_fk RX12 217 12 10 := ⟨(RX12, TX12, 49), rfl, by decide, (mx_in1 (mt5 (List.mem_of_getElem? (i := 203) rfl)) rfl), rfl⟩
theorem fkX12_221 : mx_fk RX12 221 12 7 := ⟨(RX12, TX12, 49), rfl, by decide, (mx_in1 (mt5 (List.mem_of_getElem? (i := 200) rfl)) rfl), rfl⟩
theorem fkX12_268 : mx_fk RX12 268 12 32 := ⟨(RX12, TX12, 49), rfl, by decide, (mx_in1 (mt5 (List.mem_of_getElem? (i := 225) rfl)) rfl), rfl⟩
theorem fkX12_296 : mx_fk RX12 296 12 31 := ⟨(RX12, TX12, 49), rfl, by decide, (mx_in1 (mt5 (List.mem_of_getElem? (i := 224) rfl)) rfl), rfl⟩
theorem fkX12_299 : mx_fk RX12 299 12 34 := ⟨(RX12, TX12, 49), rfl, by decide, (mx_in1 (mt5 (List.mem_of_getElem? (i := 227) rfl)) rfl), rfl⟩
theorem fkX12_302 : mx_fk RX12 302 12 39 := ⟨(RX12, TX12, 49), rfl, by decide, (mx_in1 (mt5 (List.mem_of_getElem? (i := 232) rfl)) rfl), rfl⟩
theorem fkX12_309 : mx_fk RX12 309 12 35 := ⟨(RX12, TX12, 49), rfl, by decide, (mx_in1 (mt5 (List.mem_of_getElem? (i := 228) rfl)) rfl), rfl⟩
theorem fkX12_312 : mx_fk RX12 312 12 36 := ⟨(RX12, TX12, 49), rfl, by decide, (mx_in1 (mt5 (List.mem_of_getElem? (i := 229) rfl)) rfl), rfl⟩
theorem fkX12_358 : mx_fk RX12 358 12 48 := ⟨(RX12, TX12, 49), rfl, by decide, (mx_in1 (mt6 (List.mem_of_getElem? (i := 1) rfl)) rfl), rfl⟩
theorem gsJ0_9 : Cond.fieldLink RJ0 9 "java/lang/String" "value" "[B" ∈ mx_gd := (mx_in1 (mt7 (List.mem_of_getElem? (i := 211) rfl)) rfl)
theorem gsJ0_15 : Cond.fieldLink RJ0 15 "java/lang/String" "coder" "B" ∈ mx_gd := (mx_in1 (mt7 (List.mem_of_getElem? (i := 212) rfl)) rfl)
theorem gsJ0_38 : Cond.fieldLink RJ0 38 "java/lang/String" "COMPACT_STRINGS" "Z" ∈ mx_gd := (mx_in1 (mt3 (List.mem_of_getElem? (i := 149) rfl)) rfl)
theorem gsJ0_1053 : Cond.fieldLink RJ0 1053 "jdk/internal/util/Preconditions" "SIOOBE_FORMATTER" "Ljava/util/function/BiFunction;" ∈ mx_gd := (mx_in1 (mt3 (List.mem_of_getElem? (i := 165) rfl)) rfl)
theorem gsJ2_44 : Cond.fieldLink RJ2 44 "java/lang/StringUTF16" "$assertionsDisabled" "Z" ∈ mx_gd := (mx_in1 (mt3 (List.mem_of_getElem? (i := 183) rfl)) rfl)
theorem gsJ2_59 : Cond.fieldLink RJ2 59 "java/lang/StringUTF16" "HI_BYTE_SHIFT" "I" ∈ mx_gd := (mx_in1 (mt3 (List.mem_of_getElem? (i := 185) rfl)) rfl)
theorem gsJ2_63 : Cond.fieldLink RJ2 63 "java/lang/StringUTF16" "LO_BYTE_SHIFT" "I" ∈ mx_gd := (mx_in1 (mt3 (List.mem_of_getElem? (i := 187) rfl)) rfl)
theorem kkX11_82 : Cond.constant RX11 82 (-1000001) ∈ mx_gd := (mx_in1 (mt3 (List.mem_of_getElem? (i := 50) rfl)) rfl)
theorem kkX11_125 : Cond.constant RX11 125 (-1000003) ∈ mx_gd := (mx_in1 (mt3 (List.mem_of_getElem? (i := 103) rfl)) rfl)
theorem kkX11_142 : Cond.constant RX11 142 (-1000100) ∈ mx_gd := (mx_in1 (mt3 (List.mem_of_getElem? (i := 229) rfl)) rfl)
theorem kkX11_193 : Cond.constant RX11 193 (-1000002) ∈ mx_gd := (mx_in1 (mt4 (List.mem_of_getElem? (i := 43) rfl)) rfl)
theorem kkX11_241 : Cond.constant RX11 241 (-1000000) ∈ mx_gd := (mx_in1 (mt4 (List.mem_of_getElem? (i := 212) rfl)) rfl)
theorem kkX11_357 : Cond.constant RX11 357 (-1000010) ∈ mx_gd := (mx_in1 (mt3 (List.mem_of_getElem? (i := 55) rfl)) rfl)
theorem kkX5_151 : Cond.constant RX5 151 (1000000) ∈ mx_gd := (mx_in1 (mt4 (List.mem_of_getElem? (i := 210) rfl)) rfl)
theorem kkX5_163 : Cond.constant RX5 163 (-1000000) ∈ mx_gd := (mx_in1 (mt4 (List.mem_of_getElem? (i := 217) rfl)) rfl)
theorem kkX6_128 : Cond.constant RX6 128 (-1000000) ∈ mx_gd := (mx_in1 (mt3 (List.mem_of_getElem? (i := 228) rfl)) rfl)
theorem kkX12_108 : Cond.constant RX12 108 (-1000010) ∈ mx_gd := (mx_in1 (mt6 (List.mem_of_getElem? (i := 118) rfl)) rfl)
theorem kkX12_121 : Cond.constant RX12 121 (-1000001) ∈ mx_gd := (mx_in1 (mt6 (List.mem_of_getElem? (i := 113) rfl)) rfl)
theorem kkX12_131 : Cond.constant RX12 131 (-1000003) ∈ mx_gd := (mx_in1 (mt6 (List.mem_of_getElem? (i := 136) rfl)) rfl)
theorem kkX12_137 : Cond.constant RX12 137 (-1000000) ∈ mx_gd := (mx_in1 (mt6 (List.mem_of_getElem? (i := 150) rfl)) rfl)
theorem kkX12_220 : Cond.constant RX12 220 (-1000100) ∈ mx_gd := (mx_in1 (mt6 (List.mem_of_getElem? (i := 201) rfl)) rfl)
theorem kkX12_253 : Cond.constant RX12 253 (-1000002) ∈ mx_gd := (mx_in1 (mt7 (List.mem_of_getElem? (i := 8) rfl)) rfl)
theorem kkJ6_265 : Cond.constant RJ6 265 (1431655765) ∈ mx_gd := (mx_in1 (mt4 (List.mem_of_getElem? (i := 65) rfl)) rfl)
theorem kkJ6_266 : Cond.constant RJ6 266 (858993459) ∈ mx_gd := (mx_in1 (mt4 (List.mem_of_getElem? (i := 66) rfl)) rfl)
theorem kkJ6_267 : Cond.constant RJ6 267 (252645135) ∈ mx_gd := (mx_in1 (mt4 (List.mem_of_getElem? (i := 67) rfl)) rfl)
theorem klX3_47 : Cond.constantLong RX3 47 (-1) ∈ mx_gd := (mx_in1 (mt4 (List.mem_of_getElem? (i := 6) rfl)) rfl)
theorem klX5_143 : Cond.constantLong RX5 143 (-1) ∈ mx_gd := (mx_in1 (mt4 (List.mem_of_getElem? (i := 208) rfl)) rfl)
theorem klL_32 : Cond.constantLong RL 32 (4294967295) ∈ mx_gd := (mx_in1 (mt7 (List.mem_of_getElem? (i := 210) rfl)) rfl)
theorem klX12_109 : Cond.constantLong RX12 109 (7) ∈ mx_gd := (mx_in1 (mt6 (List.mem_of_getElem? (i := 108) rfl)) rfl)
theorem klX12_119 : Cond.constantLong RX12 119 (2) ∈ mx_gd := (mx_in1 (mt6 (List.mem_of_getElem? (i := 112) rfl)) rfl)
theorem klX12_126 : Cond.constantLong RX12 126 (8) ∈ mx_gd := (mx_in1 (mt6 (List.mem_of_getElem? (i := 135) rfl)) rfl)
theorem klX12_132 : Cond.constantLong RX12 132 (255) ∈ mx_gd := (mx_in1 (mt6 (List.mem_of_getElem? (i := 137) rfl)) rfl)
theorem klX12_180 : Cond.constantLong RX12 180 (1919512167) ∈ mx_gd := (mx_in1 (mt6 (List.mem_of_getElem? (i := 192) rfl)) rfl)
theorem klX12_182 : Cond.constantLong RX12 182 (1870030190) ∈ mx_gd := (mx_in1 (mt6 (List.mem_of_getElem? (i := 193) rfl)) rfl)
theorem klX12_184 : Cond.constantLong RX12 184 (1751215716) ∈ mx_gd := (mx_in1 (mt6 (List.mem_of_getElem? (i := 194) rfl)) rfl)
theorem klX12_186 : Cond.constantLong RX12 186 (1919251316) ∈ mx_gd := (mx_in1 (mt6 (List.mem_of_getElem? (i := 195) rfl)) rfl)
theorem klX12_188 : Cond.constantLong RX12 188 (1801807216) ∈ mx_gd := (mx_in1 (mt6 (List.mem_of_getElem? (i := 196) rfl)) rfl)
theorem klX12_205 : Cond.constantLong RX12 205 (30233771112949102) ∈ mx_gd := (mx_in1 (mt6 (List.mem_of_getElem? (i := 161) rfl)) rfl)
theorem klX12_207 : Cond.constantLong RX12 207 (1635213689) ∈ mx_gd := (mx_in1 (mt6 (List.mem_of_getElem? (i := 178) rfl)) rfl)
theorem klX12_212 : Cond.constantLong RX12 212 (1684632424) ∈ mx_gd := (mx_in1 (mt6 (List.mem_of_getElem? (i := 183) rfl)) rfl)
theorem klX12_241 : Cond.constantLong RX12 241 (5) ∈ mx_gd := (mx_in1 (mt6 (List.mem_of_getElem? (i := 218) rfl)) rfl)
theorem klX12_249 : Cond.constantLong RX12 249 (4) ∈ mx_gd := (mx_in1 (mt7 (List.mem_of_getElem? (i := 3) rfl)) rfl)
theorem klX12_251 : Cond.constantLong RX12 251 (59) ∈ mx_gd := (mx_in1 (mt7 (List.mem_of_getElem? (i := 12) rfl)) rfl)
theorem klX12_266 : Cond.constantLong RX12 266 (60) ∈ mx_gd := (mx_in1 (mt7 (List.mem_of_getElem? (i := 32) rfl)) rfl)
theorem klX12_346 : Cond.constantLong RX12 346 (3) ∈ mx_gd := (mx_in1 (mt7 (List.mem_of_getElem? (i := 132) rfl)) rfl)
theorem klX12_348 : Cond.constantLong RX12 348 (9) ∈ mx_gd := (mx_in1 (mt7 (List.mem_of_getElem? (i := 153) rfl)) rfl)
theorem klX12_353 : Cond.constantLong RX12 353 (6) ∈ mx_gd := (mx_in1 (mt7 (List.mem_of_getElem? (i := 178) rfl)) rfl)
theorem cvX11_78 : mx_cv RX11 78 mX8_isOne 1 := ⟨oX8_isOne, (mx_in1 (mt3 (List.mem_of_getElem? (i := 46) rfl)) rfl), (mx_in1 (mt3 (List.mem_of_getElem? (i := 47) rfl)) rfl), (mx_in1 (mt3 (List.mem_of_getElem? (i := 48) rfl)) rfl), by decide +kernel⟩
theorem cvX11_83 : mx_cv RX11 83 mX11_found 1 := ⟨oX11_found, (mx_in1 (mt3 (List.mem_of_getElem? (i := 51) rfl)) rfl), (mx_in1 (mt3 (List.mem_of_getElem? (i := 53) rfl)) rfl), (mx_inP (by decide +kernel) rfl), by decide +kernel⟩
theorem cvX11_87 : mx_cv RX11 87 mX8_lay 3 := ⟨oX8_lay, (mx_in1 (mt3 (List.mem_of_getElem? (i := 56) rfl)) rfl), (mx_in1 (mt3 (List.mem_of_getElem? (i := 57) rfl)) rfl), (mx_in1 (mt3 (List.mem_of_getElem? (i := 58) rfl)) rfl), by decide +kernel⟩
theorem cvX11_91 : mx_cv RX11 91 mX11_fine 1 := ⟨oX11_fine, (mx_in1 (mt3 (List.mem_of_getElem? (i := 60) rfl)) rfl), (mx_in1 (mt3 (List.mem_of_getElem? (i := 62) rfl)) rfl), (mx_inP (by decide +kernel) rfl), by decide +kernel⟩
theorem cvX11_94 : mx_cv RX11 94 mX8_isMissing 1 := ⟨oX8_isMissing, (mx_in1 (mt3 (List.mem_of_getElem? (i := 68) rfl)) rfl), (mx_in1 (mt3 (List.mem_of_getElem? (i := 69) rfl)) rfl), (mx_in1 (mt3 (List.mem_of_getElem? (i := 70) rfl)) rfl), by decide +kernel⟩
theorem cvX11_97 : mx_cv RX11 97 mX8_reaches 3 := ⟨oX8_reaches, (mx_in1 (mt3 (List.mem_of_getElem? (i := 72) rfl)) rfl), (mx_in1 (mt3 (List.mem_of_getElem? (i := 73) rfl)) rfl), (mx_in1 (mt3 (List.mem_of_getElem? (i := 74) rfl)) rfl), by decide +kernel⟩
theorem cvX11_101 : mx_cv RX11 101 mX8_write 3 := ⟨oX8_write, (mx_in1 (mt3 (List.mem_of_getElem? (i := 76) rfl)) rfl), (mx_in1 (mt3 (List.mem_of_getElem? (i := 77) rfl)) rfl), (mx_in1 (mt3 (List.mem_of_getElem? (i := 78) rfl)) rfl), by decide +kernel⟩
theorem cpX11_113 : mx_cpw RX11 113 := ⟨(mx_in1 (mt3 (List.mem_of_getElem? (i := 84) rfl)) rfl), (mx_in1 (mt3 (List.mem_of_getElem? (i := 86) rfl)) rfl), (mx_in1 (mt3 (List.mem_of_getElem? (i := 85) rfl)) rfl), (mx_in1 (mt1 (List.mem_of_getElem? (i := 15) rfl)) rfl)⟩
theorem cvX11_119 : mx_cv RX11 119 mX8_lose 1 := ⟨oX8_lose, (mx_in1 (mt3 (List.mem_of_getElem? (i := 91) rfl)) rfl), (mx_in1 (mt3 (List.mem_of_getElem? (i := 92) rfl)) rfl), (mx_in1 (mt3 (List.mem_of_getElem? (i := 93) rfl)) rfl), by decide +kernel⟩
theorem cvX11_122 : mx_cv RX11 122 mX6_hasRoom 1 := ⟨oX6_hasRoom, (mx_in1 (mt3 (List.mem_of_getElem? (i := 99) rfl)) rfl), (mx_in1 (mt3 (List.mem_of_getElem? (i := 100) rfl)) rfl), (mx_in1 (mt3 (List.mem_of_getElem? (i := 101) rfl)) rfl), by decide +kernel⟩
theorem cvX11_126 : mx_cv RX11 126 mX6_put 2 := ⟨oX6_put, (mx_in1 (mt3 (List.mem_of_getElem? (i := 104) rfl)) rfl), (mx_in1 (mt3 (List.mem_of_getElem? (i := 105) rfl)) rfl), (mx_in1 (mt3 (List.mem_of_getElem? (i := 106) rfl)) rfl), by decide +kernel⟩
theorem cvX11_134 : mx_cv RX11 134 mX6_read 1 := ⟨oX6_read, (mx_in1 (mt3 (List.mem_of_getElem? (i := 112) rfl)) rfl), (mx_in1 (mt3 (List.mem_of_getElem? (i := 113) rfl)) rfl), (mx_in1 (mt3 (List.mem_of_getElem? (i := 114) rfl)) rfl), by decide +kernel⟩
theorem cvX11_146 : mx_cv RX11 146 mX11_changed 0 := ⟨oX11_changed, (mx_in1 (mt3 (List.mem_of_getElem? (i := 230) rfl)) rfl), (mx_in1 (mt3 (List.mem_of_getElem? (i := 232) rfl)) rfl), (mx_inP (by decide +kernel) rfl), by decide +kernel⟩
theorem cvX11_167 : mx_cv RX11 167 mX1_waitBehind 2 := ⟨oX1_waitBehind, (mx_in1 (mt4 (List.mem_of_getElem? (i := 23) rfl)) rfl), (mx_in1 (mt4 (List.mem_of_getElem? (i := 24) rfl)) rfl), (mx_in1 (mt4 (List.mem_of_getElem? (i := 25) rfl)) rfl), by decide +kernel⟩
theorem cvX11_171 : mx_cv RX11 171 mX1_hasStep 1 := ⟨oX1_hasStep, (mx_in1 (mt4 (List.mem_of_getElem? (i := 31) rfl)) rfl), (mx_in1 (mt4 (List.mem_of_getElem? (i := 32) rfl)) rfl), (mx_in1 (mt4 (List.mem_of_getElem? (i := 33) rfl)) rfl), by decide +kernel⟩
theorem cvX11_189 : mx_cv RX11 189 mX1_isRead 0 := ⟨oX1_isRead, (mx_in1 (mt4 (List.mem_of_getElem? (i := 39) rfl)) rfl), (mx_in1 (mt4 (List.mem_of_getElem? (i := 40) rfl)) rfl), (mx_in1 (mt4 (List.mem_of_getElem? (i := 41) rfl)) rfl), by decide +kernel⟩
theorem csX11_194 : mx_cs RX11 194 mX11_isMinute 1 := ⟨oX11_isMinute, Or.inl (mx_in1 (mt4 (List.mem_of_getElem? (i := 44) rfl)) rfl), (mx_in1 (mt4 (List.mem_of_getElem? (i := 45) rfl)) rfl), by decide +kernel⟩
theorem cvX11_197 : mx_cv RX11 197 mX1_given 2 := ⟨oX1_given, (mx_in1 (mt4 (List.mem_of_getElem? (i := 47) rfl)) rfl), (mx_in1 (mt4 (List.mem_of_getElem? (i := 48) rfl)) rfl), (mx_in1 (mt4 (List.mem_of_getElem? (i := 49) rfl)) rfl), by decide +kernel⟩
theorem csX11_200 : mx_cs RX11 200 mJ6_bitCount_0f7a4 1 := ⟨oJ6_bitCount_0f7a4, Or.inl (mx_in1 (mt4 (List.mem_of_getElem? (i := 62) rfl)) rfl), (mx_in1 (mt4 (List.mem_of_getElem? (i := 63) rfl)) rfl), by decide +kernel⟩
theorem cvX11_205 : mx_cv RX11 205 mX1_allDishes 0 := ⟨oX1_allDishes, (mx_in1 (mt4 (List.mem_of_getElem? (i := 68) rfl)) rfl), (mx_in1 (mt4 (List.mem_of_getElem? (i := 69) rfl)) rfl), (mx_in1 (mt4 (List.mem_of_getElem? (i := 70) rfl)) rfl), by decide +kernel⟩
theorem csX11_218 : mx_cs RX11 218 mX11_isTime 1 := ⟨oX11_isTime, Or.inl (mx_in1 (mt4 (List.mem_of_getElem? (i := 80) rfl)) rfl), (mx_in1 (mt4 (List.mem_of_getElem? (i := 81) rfl)) rfl), by decide +kernel⟩
theorem cvX11_221 : mx_cv RX11 221 mX11_refusal 1 := ⟨oX11_refusal, (mx_in1 (mt4 (List.mem_of_getElem? (i := 83) rfl)) rfl), (mx_in1 (mt4 (List.mem_of_getElem? (i := 85) rfl)) rfl), (mx_inP (by decide +kernel) rfl), by decide +kernel⟩
theorem cvX11_225 : mx_cv RX11 225 mX7_fill 1 := ⟨oX7_fill, (mx_in1 (mt4 (List.mem_of_getElem? (i := 87) rfl)) rfl), (mx_in1 (mt4 (List.mem_of_getElem? (i := 88) rfl)) rfl), (mx_in1 (mt4 (List.mem_of_getElem? (i := 89) rfl)) rfl), by decide +kernel⟩
theorem cvX11_234 : mx_cv RX11 234 mX2_judged 4 := ⟨oX2_judged, (mx_in1 (mt4 (List.mem_of_getElem? (i := 95) rfl)) rfl), (mx_in1 (mt4 (List.mem_of_getElem? (i := 96) rfl)) rfl), (mx_in1 (mt4 (List.mem_of_getElem? (i := 97) rfl)) rfl), by decide +kernel⟩
theorem cvX11_238 : mx_cv RX11 238 mX11_findsPlan 1 := ⟨oX11_findsPlan, (mx_in1 (mt4 (List.mem_of_getElem? (i := 161) rfl)) rfl), (mx_in1 (mt4 (List.mem_of_getElem? (i := 163) rfl)) rfl), (mx_inP (by decide +kernel) rfl), by decide +kernel⟩
theorem cvX11_249 : mx_cv RX11 249 mX5_lay 4 := ⟨oX5_lay, (mx_in1 (mt4 (List.mem_of_getElem? (i := 165) rfl)) rfl), (mx_in1 (mt4 (List.mem_of_getElem? (i := 166) rfl)) rfl), (mx_in1 (mt4 (List.mem_of_getElem? (i := 167) rfl)) rfl), by decide +kernel⟩
theorem cvX11_252 : mx_cv RX11 252 mX5_strikeEarly 0 := ⟨oX5_strikeEarly, (mx_in1 (mt5 (List.mem_of_getElem? (i := 22) rfl)) rfl), (mx_in1 (mt5 (List.mem_of_getElem? (i := 23) rfl)) rfl), (mx_in1 (mt5 (List.mem_of_getElem? (i := 24) rfl)) rfl), by decide +kernel⟩
theorem cvX11_255 : mx_cv RX11 255 mX5_settle 1 := ⟨oX5_settle, (mx_in1 (mt4 (List.mem_of_getElem? (i := 200) rfl)) rfl), (mx_in1 (mt4 (List.mem_of_getElem? (i := 201) rfl)) rfl), (mx_in1 (mt4 (List.mem_of_getElem? (i := 202) rfl)) rfl), by decide +kernel⟩
theorem cvX11_259 : mx_cv RX11 259 mX5_finds 2 := ⟨oX5_finds, (mx_in1 (mt4 (List.mem_of_getElem? (i := 213) rfl)) rfl), (mx_in1 (mt4 (List.mem_of_getElem? (i := 214) rfl)) rfl), (mx_in1 (mt4 (List.mem_of_getElem? (i := 215) rfl)) rfl), by decide +kernel⟩
theorem cvX11_263 : mx_cv RX11 263 mX3_giveAll 2 := ⟨oX3_giveAll, (mx_in1 (mt5 (List.mem_of_getElem? (i := 30) rfl)) rfl), (mx_in1 (mt3 (List.mem_of_getElem? (i := 239) rfl)) rfl), (mx_in1 (mt4 (List.mem_of_getElem? (i := 0) rfl)) rfl), by decide +kernel⟩
theorem cvX11_267 : mx_cv RX11 267 mX11_isPossible 3 := ⟨oX11_isPossible, (mx_in1 (mt5 (List.mem_of_getElem? (i := 31) rfl)) rfl), (mx_in1 (mt5 (List.mem_of_getElem? (i := 33) rfl)) rfl), (mx_inP (by decide +kernel) rfl), by decide +kernel⟩
theorem cvX11_275 : mx_cv RX11 275 mX4_want 2 := ⟨oX4_want, (mx_in1 (mt5 (List.mem_of_getElem? (i := 39) rfl)) rfl), (mx_in1 (mt4 (List.mem_of_getElem? (i := 141) rfl)) rfl), (mx_in1 (mt4 (List.mem_of_getElem? (i := 142) rfl)) rfl), by decide +kernel⟩
theorem cvX11_281 : mx_cv RX11 281 mX4_settle 2 := ⟨oX4_settle, (mx_in1 (mt5 (List.mem_of_getElem? (i := 40) rfl)) rfl), (mx_in1 (mt5 (List.mem_of_getElem? (i := 41) rfl)) rfl), (mx_in1 (mt5 (List.mem_of_getElem? (i := 42) rfl)) rfl), by decide +kernel⟩
theorem cvX11_290 : mx_cv RX11 290 mX2_lay 3 := ⟨oX2_lay, (mx_in1 (mt5 (List.mem_of_getElem? (i := 50) rfl)) rfl), (mx_in1 (mt4 (List.mem_of_getElem? (i := 116) rfl)) rfl), (mx_in1 (mt4 (List.mem_of_getElem? (i := 117) rfl)) rfl), by decide +kernel⟩
theorem cvX11_293 : mx_cv RX11 293 mX2_wantedAt 3 := ⟨oX2_wantedAt, (mx_in1 (mt5 (List.mem_of_getElem? (i := 51) rfl)) rfl), (mx_in1 (mt5 (List.mem_of_getElem? (i := 52) rfl)) rfl), (mx_in1 (mt5 (List.mem_of_getElem? (i := 53) rfl)) rfl), by decide +kernel⟩
theorem cvX11_300 : mx_cv RX11 300 mX3_fit 3 := ⟨oX3_fit, (mx_in1 (mt3 (List.mem_of_getElem? (i := 234) rfl)) rfl), (mx_in1 (mt3 (List.mem_of_getElem? (i := 235) rfl)) rfl), (mx_in1 (mt3 (List.mem_of_getElem? (i := 236) rfl)) rfl), by decide +kernel⟩
theorem cvX11_304 : mx_cv RX11 304 mX5_countDinners 0 := ⟨oX5_countDinners, (mx_in1 (mt5 (List.mem_of_getElem? (i := 59) rfl)) rfl), (mx_in1 (mt5 (List.mem_of_getElem? (i := 60) rfl)) rfl), (mx_in1 (mt5 (List.mem_of_getElem? (i := 61) rfl)) rfl), by decide +kernel⟩
theorem cvX11_313 : mx_cv RX11 313 mX5_strikeUnlike 2 := ⟨oX5_strikeUnlike, (mx_in1 (mt5 (List.mem_of_getElem? (i := 78) rfl)) rfl), (mx_in1 (mt5 (List.mem_of_getElem? (i := 79) rfl)) rfl), (mx_in1 (mt5 (List.mem_of_getElem? (i := 80) rfl)) rfl), by decide +kernel⟩
theorem cvX11_320 : mx_cv RX11 320 mX7_take 1 := ⟨oX7_take, (mx_in1 (mt5 (List.mem_of_getElem? (i := 86) rfl)) rfl), (mx_in1 (mt5 (List.mem_of_getElem? (i := 87) rfl)) rfl), (mx_in1 (mt5 (List.mem_of_getElem? (i := 88) rfl)) rfl), by decide +kernel⟩
theorem cvX11_325 : mx_cv RX11 325 mX1_take 1 := ⟨oX1_take, (mx_in1 (mt5 (List.mem_of_getElem? (i := 103) rfl)) rfl), (mx_in1 (mt5 (List.mem_of_getElem? (i := 104) rfl)) rfl), (mx_in1 (mt5 (List.mem_of_getElem? (i := 105) rfl)) rfl), by decide +kernel⟩
theorem cvX11_327 : mx_cv RX11 327 mX1_kindOf 1 := ⟨oX1_kindOf, (mx_in1 (mt5 (List.mem_of_getElem? (i := 116) rfl)) rfl), (mx_in1 (mt5 (List.mem_of_getElem? (i := 117) rfl)) rfl), (mx_in1 (mt5 (List.mem_of_getElem? (i := 118) rfl)) rfl), by decide +kernel⟩
theorem cvX11_330 : mx_cv RX11 330 mX0_isKind 2 := ⟨oX0_isKind, (mx_in1 (mt5 (List.mem_of_getElem? (i := 124) rfl)) rfl), (mx_in1 (mt5 (List.mem_of_getElem? (i := 125) rfl)) rfl), (mx_in1 (mt5 (List.mem_of_getElem? (i := 126) rfl)) rfl), by decide +kernel⟩
theorem cvX11_334 : mx_cv RX11 334 mX0_answer 3 := ⟨oX0_answer, (mx_in1 (mt5 (List.mem_of_getElem? (i := 134) rfl)) rfl), (mx_in1 (mt5 (List.mem_of_getElem? (i := 135) rfl)) rfl), (mx_in1 (mt5 (List.mem_of_getElem? (i := 136) rfl)) rfl), by decide +kernel⟩
theorem cvX11_342 : mx_cv RX11 342 mX8_present 0 := ⟨oX8_present, (mx_in1 (mt5 (List.mem_of_getElem? (i := 175) rfl)) rfl), (mx_in1 (mt5 (List.mem_of_getElem? (i := 176) rfl)) rfl), (mx_in1 (mt5 (List.mem_of_getElem? (i := 177) rfl)) rfl), by decide +kernel⟩
theorem cvX11_348 : mx_cv RX11 348 mX1_dinnerSteps 0 := ⟨oX1_dinnerSteps, (mx_in1 (mt5 (List.mem_of_getElem? (i := 179) rfl)) rfl), (mx_in1 (mt5 (List.mem_of_getElem? (i := 180) rfl)) rfl), (mx_in1 (mt5 (List.mem_of_getElem? (i := 181) rfl)) rfl), by decide +kernel⟩
theorem cvX11_361 : mx_cv RX11 361 mX5_tell 1 := ⟨oX5_tell, (mx_in1 (mt5 (List.mem_of_getElem? (i := 10) rfl)) rfl), (mx_in1 (mt5 (List.mem_of_getElem? (i := 11) rfl)) rfl), (mx_in1 (mt5 (List.mem_of_getElem? (i := 12) rfl)) rfl), by decide +kernel⟩
theorem cvX0_20 : mx_cv RX0 20 mX0_sizeOf 3 := ⟨oX0_sizeOf, (mx_in1 (mt5 (List.mem_of_getElem? (i := 138) rfl)) rfl), (mx_in1 (mt5 (List.mem_of_getElem? (i := 140) rfl)) rfl), (mx_inP (by decide +kernel) rfl), by decide +kernel⟩
theorem cvX0_24 : mx_cv RX0 24 mX0_markOf 3 := ⟨oX0_markOf, (mx_in1 (mt5 (List.mem_of_getElem? (i := 155) rfl)) rfl), (mx_in1 (mt5 (List.mem_of_getElem? (i := 157) rfl)) rfl), (mx_inP (by decide +kernel) rfl), by decide +kernel⟩
theorem cvX0_27 : mx_cv RX0 27 mX1_kindOf 1 := ⟨oX1_kindOf, (mx_in1 (mt5 (List.mem_of_getElem? (i := 142) rfl)) rfl), (mx_in1 (mt5 (List.mem_of_getElem? (i := 117) rfl)) rfl), (mx_in1 (mt5 (List.mem_of_getElem? (i := 118) rfl)) rfl), by decide +kernel⟩
theorem cvX0_33 : mx_cv RX0 33 mX0_sizeOfRinged 2 := ⟨oX0_sizeOfRinged, (mx_in1 (mt5 (List.mem_of_getElem? (i := 143) rfl)) rfl), (mx_in1 (mt5 (List.mem_of_getElem? (i := 145) rfl)) rfl), (mx_inP (by decide +kernel) rfl), by decide +kernel⟩
theorem cvX0_37 : mx_cv RX0 37 mX0_begin 1 := ⟨oX0_begin, (mx_in1 (mt5 (List.mem_of_getElem? (i := 147) rfl)) rfl), (mx_in1 (mt5 (List.mem_of_getElem? (i := 149) rfl)) rfl), (mx_inP (by decide +kernel) rfl), by decide +kernel⟩
theorem cvX0_41 : mx_cv RX0 41 mX0_sizeOfAny 2 := ⟨oX0_sizeOfAny, (mx_in1 (mt5 (List.mem_of_getElem? (i := 151) rfl)) rfl), (mx_in1 (mt5 (List.mem_of_getElem? (i := 153) rfl)) rfl), (mx_inP (by decide +kernel) rfl), by decide +kernel⟩
theorem cvX0_53 : mx_cv RX0 53 mX0_markOfRested 1 := ⟨oX0_markOfRested, (mx_in1 (mt5 (List.mem_of_getElem? (i := 159) rfl)) rfl), (mx_in1 (mt5 (List.mem_of_getElem? (i := 161) rfl)) rfl), (mx_inP (by decide +kernel) rfl), by decide +kernel⟩
theorem cvX0_56 : mx_cv RX0 56 mX0_markOfAny 1 := ⟨oX0_markOfAny, (mx_in1 (mt5 (List.mem_of_getElem? (i := 163) rfl)) rfl), (mx_in1 (mt5 (List.mem_of_getElem? (i := 165) rfl)) rfl), (mx_inP (by decide +kernel) rfl), by decide +kernel⟩
theorem cpX1_70 : mx_cpw RX1 70 := ⟨(mx_in1 (mt5 (List.mem_of_getElem? (i := 107) rfl)) rfl), (mx_in1 (mt3 (List.mem_of_getElem? (i := 86) rfl)) rfl), (mx_in1 (mt3 (List.mem_of_getElem? (i := 85) rfl)) rfl), (mx_in1 (mt1 (List.mem_of_getElem? (i := 15) rfl)) rfl)⟩
theorem cvX1_76 : mx_cv RX1 76 mX1_awayAt 1 := ⟨oX1_awayAt, (mx_in1 (mt4 (List.mem_of_getElem? (i := 51) rfl)) rfl), (mx_in1 (mt4 (List.mem_of_getElem? (i := 53) rfl)) rfl), (mx_inP (by decide +kernel) rfl), by decide +kernel⟩
theorem cmxX1_80 : mx_mxw RX1 80 := ⟨(mx_in1 (mt4 (List.mem_of_getElem? (i := 55) rfl)) rfl), (mx_in1 (mt4 (List.mem_of_getElem? (i := 56) rfl)) rfl), (mx_in1 (mt1 (List.mem_of_getElem? (i := 20) rfl)) rfl), mx_in1 (mt4 (List.mem_of_getElem? (i := 57) (by decide +kernel))) rfl⟩
theorem cvX2_49 : mx_cv RX2 49 mX7_isFirst 1 := ⟨oX7_isFirst, (mx_in1 (mt4 (List.mem_of_getElem? (i := 99) rfl)) rfl), (mx_in1 (mt4 (List.mem_of_getElem? (i := 100) rfl)) rfl), (mx_in1 (mt4 (List.mem_of_getElem? (i := 101) rfl)) rfl), by decide +kernel⟩
theorem cvX2_53 : mx_cv RX2 53 mX2_followsInTime 3 := ⟨oX2_followsInTime, (mx_in1 (mt4 (List.mem_of_getElem? (i := 103) rfl)) rfl), (mx_in1 (mt4 (List.mem_of_getElem? (i := 105) rfl)) rfl), (mx_inP (by decide +kernel) rfl), by decide +kernel⟩
theorem cvX2_68 : mx_cv RX2 68 mX7_isLast 1 := ⟨oX7_isLast, (mx_in1 (mt4 (List.mem_of_getElem? (i := 107) rfl)) rfl), (mx_in1 (mt4 (List.mem_of_getElem? (i := 108) rfl)) rfl), (mx_in1 (mt4 (List.mem_of_getElem? (i := 109) rfl)) rfl), by decide +kernel⟩
theorem cvX2_71 : mx_cv RX2 71 mX2_firstLack 3 := ⟨oX2_firstLack, (mx_in1 (mt4 (List.mem_of_getElem? (i := 111) rfl)) rfl), (mx_in1 (mt4 (List.mem_of_getElem? (i := 113) rfl)) rfl), (mx_inP (by decide +kernel) rfl), by decide +kernel⟩
theorem cvX2_81 : mx_cv RX2 81 mX2_lay 3 := ⟨oX2_lay, (mx_in1 (mt4 (List.mem_of_getElem? (i := 115) rfl)) rfl), (mx_in1 (mt4 (List.mem_of_getElem? (i := 116) rfl)) rfl), (mx_in1 (mt4 (List.mem_of_getElem? (i := 117) rfl)) rfl), by decide +kernel⟩
theorem cvX2_85 : mx_cv RX2 85 mX4_want 2 := ⟨oX4_want, (mx_in1 (mt4 (List.mem_of_getElem? (i := 140) rfl)) rfl), (mx_in1 (mt4 (List.mem_of_getElem? (i := 141) rfl)) rfl), (mx_in1 (mt4 (List.mem_of_getElem? (i := 142) rfl)) rfl), by decide +kernel⟩
theorem cvX2_92 : mx_cv RX2 92 mX4_firstLack 2 := ⟨oX4_firstLack, (mx_in1 (mt4 (List.mem_of_getElem? (i := 149) rfl)) rfl), (mx_in1 (mt4 (List.mem_of_getElem? (i := 150) rfl)) rfl), (mx_in1 (mt4 (List.mem_of_getElem? (i := 151) rfl)) rfl), by decide +kernel⟩
theorem cvX2_95 : mx_cv RX2 95 mX2_lackAt 2 := ⟨oX2_lackAt, (mx_in1 (mt4 (List.mem_of_getElem? (i := 153) rfl)) rfl), (mx_in1 (mt4 (List.mem_of_getElem? (i := 155) rfl)) rfl), (mx_inP (by decide +kernel) rfl), by decide +kernel⟩
theorem csX2_99 : mx_cs RX2 99 mJ7_fill_d0a16 2 := ⟨oJ7_fill_d0a16, Or.inl (mx_in1 (mt4 (List.mem_of_getElem? (i := 119) rfl)) rfl), (mx_in1 (mt4 (List.mem_of_getElem? (i := 120) rfl)) rfl), by decide +kernel⟩
theorem cvX2_105 : mx_cv RX2 105 mX9_open 1 := ⟨oX9_open, (mx_in1 (mt4 (List.mem_of_getElem? (i := 122) rfl)) rfl), (mx_in1 (mt4 (List.mem_of_getElem? (i := 123) rfl)) rfl), (mx_in1 (mt4 (List.mem_of_getElem? (i := 124) rfl)) rfl), by decide +kernel⟩
theorem cvX2_116 : mx_cv RX2 116 mX10_lay 1 := ⟨oX10_lay, (mx_in1 (mt4 (List.mem_of_getElem? (i := 130) rfl)) rfl), (mx_in1 (mt4 (List.mem_of_getElem? (i := 131) rfl)) rfl), (mx_in1 (mt4 (List.mem_of_getElem? (i := 132) rfl)) rfl), by decide +kernel⟩
theorem cvX2_125 : mx_cv RX2 125 mX9_add 3 := ⟨oX9_add, (mx_in1 (mt4 (List.mem_of_getElem? (i := 136) rfl)) rfl), (mx_in1 (mt4 (List.mem_of_getElem? (i := 137) rfl)) rfl), (mx_in1 (mt4 (List.mem_of_getElem? (i := 138) rfl)) rfl), by decide +kernel⟩
theorem cvX3_21 : mx_cv RX3 21 mX3_give 2 := ⟨oX3_give, (mx_in1 (mt4 (List.mem_of_getElem? (i := 2) rfl)) rfl), (mx_in1 (mt4 (List.mem_of_getElem? (i := 4) rfl)) rfl), (mx_inP (by decide +kernel) rfl), by decide +kernel⟩
theorem cvX3_25 : mx_cv RX3 25 mX3_giveAll 2 := ⟨oX3_giveAll, (mx_in1 (mt3 (List.mem_of_getElem? (i := 238) rfl)) rfl), (mx_in1 (mt3 (List.mem_of_getElem? (i := 239) rfl)) rfl), (mx_in1 (mt4 (List.mem_of_getElem? (i := 0) rfl)) rfl), by decide +kernel⟩
theorem csX3_29 : mx_cs RX3 29 mX11_span 2 := ⟨oX11_span, Or.inr ⟨"HotAtSeven", by decide +kernel⟩, (mx_in1 (mt4 (List.mem_of_getElem? (i := 8) rfl)) rfl), by decide +kernel⟩
theorem cvX3_33 : mx_cv RX3 33 mX3_giveOneLess 2 := ⟨oX3_giveOneLess, (mx_in1 (mt4 (List.mem_of_getElem? (i := 10) rfl)) rfl), (mx_in1 (mt4 (List.mem_of_getElem? (i := 12) rfl)) rfl), (mx_inP (by decide +kernel) rfl), by decide +kernel⟩
theorem csX4_21 : mx_cs RX4 21 mJ7_fill_53178 2 := ⟨oJ7_fill_53178, Or.inl (mx_in1 (mt4 (List.mem_of_getElem? (i := 144) rfl)) rfl), (mx_in1 (mt1 (List.mem_of_getElem? (i := 39) rfl)) rfl), by decide +kernel⟩
theorem cmnX4_47 : mx_mnw RX4 47 := ⟨(mx_in1 (mt4 (List.mem_of_getElem? (i := 145) rfl)) rfl), (mx_in1 (mt4 (List.mem_of_getElem? (i := 146) rfl)) rfl), (mx_in1 (mt1 (List.mem_of_getElem? (i := 20) rfl)) rfl), mx_in1 (mt4 (List.mem_of_getElem? (i := 147) (by decide +kernel))) rfl⟩
theorem cmxX4_53 : mx_mxw RX4 53 := ⟨(mx_in1 (mt4 (List.mem_of_getElem? (i := 148) rfl)) rfl), (mx_in1 (mt4 (List.mem_of_getElem? (i := 56) rfl)) rfl), (mx_in1 (mt1 (List.mem_of_getElem? (i := 20) rfl)) rfl), mx_in1 (mt4 (List.mem_of_getElem? (i := 57) (by decide +kernel))) rfl⟩
theorem cvX5_75 : mx_cv RX5 75 mX9_open 1 := ⟨oX9_open, (mx_in1 (mt4 (List.mem_of_getElem? (i := 169) rfl)) rfl), (mx_in1 (mt4 (List.mem_of_getElem? (i := 123) rfl)) rfl), (mx_in1 (mt4 (List.mem_of_getElem? (i := 124) rfl)) rfl), by decide +kernel⟩
theorem cvX5_82 : mx_cv RX5 82 mX5_layDish 2 := ⟨oX5_layDish, (mx_in1 (mt4 (List.mem_of_getElem? (i := 170) rfl)) rfl), (mx_in1 (mt4 (List.mem_of_getElem? (i := 172) rfl)) rfl), (mx_inP (by decide +kernel) rfl), by decide +kernel⟩
theorem cvX5_86 : mx_cv RX5 86 mX1_waitBehind 2 := ⟨oX1_waitBehind, (mx_in1 (mt4 (List.mem_of_getElem? (i := 174) rfl)) rfl), (mx_in1 (mt4 (List.mem_of_getElem? (i := 24) rfl)) rfl), (mx_in1 (mt4 (List.mem_of_getElem? (i := 25) rfl)) rfl), by decide +kernel⟩
theorem cvX5_93 : mx_cv RX5 93 mX10_choose 5 := ⟨oX10_choose, (mx_in1 (mt4 (List.mem_of_getElem? (i := 175) rfl)) rfl), (mx_in1 (mt4 (List.mem_of_getElem? (i := 176) rfl)) rfl), (mx_in1 (mt4 (List.mem_of_getElem? (i := 177) rfl)) rfl), by decide +kernel⟩
theorem cvX5_114 : mx_cv RX5 114 mX9_hasRoom 1 := ⟨oX9_hasRoom, (mx_in1 (mt4 (List.mem_of_getElem? (i := 196) rfl)) rfl), (mx_in1 (mt4 (List.mem_of_getElem? (i := 197) rfl)) rfl), (mx_in1 (mt4 (List.mem_of_getElem? (i := 198) rfl)) rfl), by decide +kernel⟩
theorem cvX5_139 : mx_cv RX5 139 mX5_settleDish 1 := ⟨oX5_settleDish, (mx_in1 (mt4 (List.mem_of_getElem? (i := 204) rfl)) rfl), (mx_in1 (mt4 (List.mem_of_getElem? (i := 206) rfl)) rfl), (mx_inP (by decide +kernel) rfl), by decide +kernel⟩
theorem csX5_145 : mx_cs RX5 145 mJ7_fill_d0a16 2 := ⟨oJ7_fill_d0a16, Or.inl (mx_in1 (mt4 (List.mem_of_getElem? (i := 209) rfl)) rfl), (mx_in1 (mt4 (List.mem_of_getElem? (i := 120) rfl)) rfl), by decide +kernel⟩
theorem cmnX5_152 : mx_mnw RX5 152 := ⟨(mx_in1 (mt4 (List.mem_of_getElem? (i := 211) rfl)) rfl), (mx_in1 (mt4 (List.mem_of_getElem? (i := 146) rfl)) rfl), (mx_in1 (mt1 (List.mem_of_getElem? (i := 20) rfl)) rfl), mx_in1 (mt4 (List.mem_of_getElem? (i := 147) (by decide +kernel))) rfl⟩
theorem cvX5_165 : mx_cv RX5 165 mX5_seatAll 1 := ⟨oX5_seatAll, (mx_in1 (mt4 (List.mem_of_getElem? (i := 218) rfl)) rfl), (mx_in1 (mt4 (List.mem_of_getElem? (i := 220) rfl)) rfl), (mx_inP (by decide +kernel) rfl), by decide +kernel⟩
theorem cvX5_169 : mx_cv RX5 169 mX5_seek 2 := ⟨oX5_seek, (mx_in1 (mt4 (List.mem_of_getElem? (i := 227) rfl)) rfl), (mx_in1 (mt4 (List.mem_of_getElem? (i := 229) rfl)) rfl), (mx_inP (by decide +kernel) rfl), by decide +kernel⟩
theorem cvX5_175 : mx_cv RX5 175 mX5_choicesThatCan 1 := ⟨oX5_choicesThatCan, (mx_in1 (mt4 (List.mem_of_getElem? (i := 222) rfl)) rfl), (mx_in1 (mt4 (List.mem_of_getElem? (i := 224) rfl)) rfl), (mx_inP (by decide +kernel) rfl), by decide +kernel⟩
theorem cvX5_179 : mx_cv RX5 179 mX9_add 3 := ⟨oX9_add, (mx_in1 (mt4 (List.mem_of_getElem? (i := 226) rfl)) rfl), (mx_in1 (mt4 (List.mem_of_getElem? (i := 137) rfl)) rfl), (mx_in1 (mt4 (List.mem_of_getElem? (i := 138) rfl)) rfl), by decide +kernel⟩
theorem cvX5_183 : mx_cv RX5 183 mX5_keepPicked 1 := ⟨oX5_keepPicked, (mx_in1 (mt4 (List.mem_of_getElem? (i := 231) rfl)) rfl), (mx_in1 (mt4 (List.mem_of_getElem? (i := 233) rfl)) rfl), (mx_inP (by decide +kernel) rfl), by decide +kernel⟩
theorem cvX5_186 : mx_cv RX5 186 mX5_leavesOpen 2 := ⟨oX5_leavesOpen, (mx_in1 (mt4 (List.mem_of_getElem? (i := 236) rfl)) rfl), (mx_in1 (mt4 (List.mem_of_getElem? (i := 238) rfl)) rfl), (mx_inP (by decide +kernel) rfl), by decide +kernel⟩
theorem cvX5_190 : mx_cv RX5 190 mX5_agreeing 2 := ⟨oX5_agreeing, (mx_in1 (mt5 (List.mem_of_getElem? (i := 0) rfl)) rfl), (mx_in1 (mt5 (List.mem_of_getElem? (i := 2) rfl)) rfl), (mx_inP (by decide +kernel) rfl), by decide +kernel⟩
theorem cvX5_193 : mx_cv RX5 193 mX5_collide 2 := ⟨oX5_collide, (mx_in1 (mt5 (List.mem_of_getElem? (i := 4) rfl)) rfl), (mx_in1 (mt5 (List.mem_of_getElem? (i := 6) rfl)) rfl), (mx_inP (by decide +kernel) rfl), by decide +kernel⟩
theorem cvX5_197 : mx_cv RX5 197 mX10_agrees 2 := ⟨oX10_agrees, (mx_in1 (mt5 (List.mem_of_getElem? (i := 9) rfl)) rfl), (mx_in1 (mt4 (List.mem_of_getElem? (i := 188) rfl)) rfl), (mx_in1 (mt4 (List.mem_of_getElem? (i := 189) rfl)) rfl), by decide +kernel⟩
theorem cvX5_201 : mx_cv RX5 201 mX3_fewerThan 2 := ⟨oX3_fewerThan, (mx_in1 (mt5 (List.mem_of_getElem? (i := 8) rfl)) rfl), (mx_in1 (mt4 (List.mem_of_getElem? (i := 127) rfl)) rfl), (mx_in1 (mt4 (List.mem_of_getElem? (i := 128) rfl)) rfl), by decide +kernel⟩
theorem cpX5_205 : mx_cpw RX5 205 := ⟨(mx_in1 (mt4 (List.mem_of_getElem? (i := 235) rfl)) rfl), (mx_in1 (mt3 (List.mem_of_getElem? (i := 86) rfl)) rfl), (mx_in1 (mt3 (List.mem_of_getElem? (i := 85) rfl)) rfl), (mx_in1 (mt1 (List.mem_of_getElem? (i := 15) rfl)) rfl)⟩
theorem cvX5_221 : mx_cv RX5 221 mX1_allDishes 0 := ⟨oX1_allDishes, (mx_in1 (mt5 (List.mem_of_getElem? (i := 63) rfl)) rfl), (mx_in1 (mt4 (List.mem_of_getElem? (i := 69) rfl)) rfl), (mx_in1 (mt4 (List.mem_of_getElem? (i := 70) rfl)) rfl), by decide +kernel⟩
theorem csX5_225 : mx_cs RX5 225 mJ6_bitCount_0f7a4 1 := ⟨oJ6_bitCount_0f7a4, Or.inl (mx_in1 (mt5 (List.mem_of_getElem? (i := 64) rfl)) rfl), (mx_in1 (mt4 (List.mem_of_getElem? (i := 63) rfl)) rfl), by decide +kernel⟩
theorem cvX5_230 : mx_cv RX5 230 mX5_isBuilt 1 := ⟨oX5_isBuilt, (mx_in1 (mt5 (List.mem_of_getElem? (i := 65) rfl)) rfl), (mx_in1 (mt5 (List.mem_of_getElem? (i := 67) rfl)) rfl), (mx_inP (by decide +kernel) rfl), by decide +kernel⟩
theorem cvX5_233 : mx_cv RX5 233 mX5_finds 2 := ⟨oX5_finds, (mx_in1 (mt5 (List.mem_of_getElem? (i := 69) rfl)) rfl), (mx_in1 (mt4 (List.mem_of_getElem? (i := 214) rfl)) rfl), (mx_in1 (mt4 (List.mem_of_getElem? (i := 215) rfl)) rfl), by decide +kernel⟩
theorem cvX6_19 : mx_cv RX6 19 mX1_clear 0 := ⟨oX1_clear, (mx_in1 (mt3 (List.mem_of_getElem? (i := 116) rfl)) rfl), (mx_in1 (mt3 (List.mem_of_getElem? (i := 117) rfl)) rfl), (mx_in1 (mt3 (List.mem_of_getElem? (i := 118) rfl)) rfl), by decide +kernel⟩
theorem cvX6_30 : mx_cv RX6 30 mX6_advance 0 := ⟨oX6_advance, (mx_in1 (mt3 (List.mem_of_getElem? (i := 120) rfl)) rfl), (mx_in1 (mt3 (List.mem_of_getElem? (i := 122) rfl)) rfl), (mx_inP (by decide +kernel) rfl), by decide +kernel⟩
theorem cvX6_33 : mx_cv RX6 33 mX6_readKitchen 1 := ⟨oX6_readKitchen, (mx_in1 (mt3 (List.mem_of_getElem? (i := 128) rfl)) rfl), (mx_in1 (mt3 (List.mem_of_getElem? (i := 130) rfl)) rfl), (mx_inP (by decide +kernel) rfl), by decide +kernel⟩
theorem cvX6_39 : mx_cv RX6 39 mX6_isWord 1 := ⟨oX6_isWord, (mx_in1 (mt3 (List.mem_of_getElem? (i := 137) rfl)) rfl), (mx_in1 (mt3 (List.mem_of_getElem? (i := 139) rfl)) rfl), (mx_inP (by decide +kernel) rfl), by decide +kernel⟩
theorem cvX6_43 : mx_cv RX6 43 mX6_readAway 1 := ⟨oX6_readAway, (mx_in1 (mt3 (List.mem_of_getElem? (i := 202) rfl)) rfl), (mx_in1 (mt3 (List.mem_of_getElem? (i := 204) rfl)) rfl), (mx_inP (by decide +kernel) rfl), by decide +kernel⟩
theorem cvX6_46 : mx_cv RX6 46 mX6_readDish 1 := ⟨oX6_readDish, (mx_in1 (mt3 (List.mem_of_getElem? (i := 206) rfl)) rfl), (mx_in1 (mt3 (List.mem_of_getElem? (i := 208) rfl)) rfl), (mx_inP (by decide +kernel) rfl), by decide +kernel⟩
theorem cvX6_54 : mx_cv RX6 54 mX6_takeWord 1 := ⟨oX6_takeWord, (mx_in1 (mt3 (List.mem_of_getElem? (i := 133) rfl)) rfl), (mx_in1 (mt3 (List.mem_of_getElem? (i := 135) rfl)) rfl), (mx_inP (by decide +kernel) rfl), by decide +kernel⟩
theorem cvX6_66 : mx_cv RX6 66 mX6_takeNumber 2 := ⟨oX6_takeNumber, (mx_in1 (mt3 (List.mem_of_getElem? (i := 193) rfl)) rfl), (mx_in1 (mt3 (List.mem_of_getElem? (i := 195) rfl)) rfl), (mx_inP (by decide +kernel) rfl), by decide +kernel⟩
theorem cvX6_70 : mx_cv RX6 70 mX6_takeSign 0 := ⟨oX6_takeSign, (mx_in1 (mt3 (List.mem_of_getElem? (i := 197) rfl)) rfl), (mx_in1 (mt3 (List.mem_of_getElem? (i := 199) rfl)) rfl), (mx_inP (by decide +kernel) rfl), by decide +kernel⟩
theorem cvX6_102 : mx_cv RX6 102 mX6_readSteps 1 := ⟨oX6_readSteps, (mx_in1 (mt3 (List.mem_of_getElem? (i := 211) rfl)) rfl), (mx_in1 (mt3 (List.mem_of_getElem? (i := 213) rfl)) rfl), (mx_inP (by decide +kernel) rfl), by decide +kernel⟩
theorem cvX6_108 : mx_cv RX6 108 mX6_stepWord 0 := ⟨oX6_stepWord, (mx_in1 (mt3 (List.mem_of_getElem? (i := 215) rfl)) rfl), (mx_in1 (mt3 (List.mem_of_getElem? (i := 217) rfl)) rfl), (mx_inP (by decide +kernel) rfl), by decide +kernel⟩
theorem cvX6_112 : mx_cv RX6 112 mX6_readStep 3 := ⟨oX6_readStep, (mx_in1 (mt3 (List.mem_of_getElem? (i := 224) rfl)) rfl), (mx_in1 (mt3 (List.mem_of_getElem? (i := 226) rfl)) rfl), (mx_inP (by decide +kernel) rfl), by decide +kernel⟩
theorem cvX6_150 : mx_cv RX6 150 mJ0_length_8abf5 0 := ⟨oJ0_length_8abf5, (mx_in1 (mt3 (List.mem_of_getElem? (i := 141) rfl)) rfl), (mx_in1 (mt3 (List.mem_of_getElem? (i := 142) rfl)) rfl), (mx_in1 (mt3 (List.mem_of_getElem? (i := 143) rfl)) rfl), by decide +kernel⟩
theorem cvX6_154 : mx_cv RX6 154 mJ0_charAt_5068e 1 := ⟨oJ0_charAt_5068e, (mx_in1 (mt3 (List.mem_of_getElem? (i := 151) rfl)) rfl), (mx_in1 (mt3 (List.mem_of_getElem? (i := 152) rfl)) rfl), (mx_in1 (mt3 (List.mem_of_getElem? (i := 153) rfl)) rfl), by decide +kernel⟩
theorem cvX6_158 : mx_cv RX6 158 mX6_takeFigures 0 := ⟨oX6_takeFigures, (mx_in1 (mt3 (List.mem_of_getElem? (i := 124) rfl)) rfl), (mx_in1 (mt3 (List.mem_of_getElem? (i := 126) rfl)) rfl), (mx_inP (by decide +kernel) rfl), by decide +kernel⟩
theorem cvX7_43 : mx_cv RX7 43 mX7_fillDish 2 := ⟨oX7_fillDish, (mx_in1 (mt4 (List.mem_of_getElem? (i := 91) rfl)) rfl), (mx_in1 (mt4 (List.mem_of_getElem? (i := 93) rfl)) rfl), (mx_inP (by decide +kernel) rfl), by decide +kernel⟩
theorem cpX7_54 : mx_cpw RX7 54 := ⟨(mx_in1 (mt5 (List.mem_of_getElem? (i := 90) rfl)) rfl), (mx_in1 (mt3 (List.mem_of_getElem? (i := 86) rfl)) rfl), (mx_in1 (mt3 (List.mem_of_getElem? (i := 85) rfl)) rfl), (mx_in1 (mt1 (List.mem_of_getElem? (i := 15) rfl)) rfl)⟩
theorem csX8_21 : mx_cs RX8 21 mJ7_fill_53178 2 := ⟨oJ7_fill_53178, Or.inl (mx_in1 (mt1 (List.mem_of_getElem? (i := 38) rfl)) rfl), (mx_in1 (mt1 (List.mem_of_getElem? (i := 39) rfl)) rfl), by decide +kernel⟩
theorem cvX9_24 : mx_cv RX9 24 mX3_fewerThan 2 := ⟨oX3_fewerThan, (mx_in1 (mt4 (List.mem_of_getElem? (i := 126) rfl)) rfl), (mx_in1 (mt4 (List.mem_of_getElem? (i := 127) rfl)) rfl), (mx_in1 (mt4 (List.mem_of_getElem? (i := 128) rfl)) rfl), by decide +kernel⟩
theorem cvX10_44 : mx_cv RX10 44 mX10_isWarmed 1 := ⟨oX10_isWarmed, (mx_in1 (mt4 (List.mem_of_getElem? (i := 179) rfl)) rfl), (mx_in1 (mt4 (List.mem_of_getElem? (i := 181) rfl)) rfl), (mx_inP (by decide +kernel) rfl), by decide +kernel⟩
theorem cvX10_48 : mx_cv RX10 48 mX10_agrees 2 := ⟨oX10_agrees, (mx_in1 (mt4 (List.mem_of_getElem? (i := 187) rfl)) rfl), (mx_in1 (mt4 (List.mem_of_getElem? (i := 188) rfl)) rfl), (mx_in1 (mt4 (List.mem_of_getElem? (i := 189) rfl)) rfl), by decide +kernel⟩
theorem cvX10_56 : mx_cv RX10 56 mX10_lay 1 := ⟨oX10_lay, (mx_in1 (mt4 (List.mem_of_getElem? (i := 195) rfl)) rfl), (mx_in1 (mt4 (List.mem_of_getElem? (i := 131) rfl)) rfl), (mx_in1 (mt4 (List.mem_of_getElem? (i := 132) rfl)) rfl), by decide +kernel⟩
theorem csX10_60 : mx_cs RX10 60 mJ7_fill_d0a16 2 := ⟨oJ7_fill_d0a16, Or.inl (mx_in1 (mt4 (List.mem_of_getElem? (i := 134) rfl)) rfl), (mx_in1 (mt4 (List.mem_of_getElem? (i := 120) rfl)) rfl), by decide +kernel⟩
theorem csX10_66 : mx_cs RX10 66 mX11_span 2 := ⟨oX11_span, Or.inr ⟨"HotAtSeven", by decide +kernel⟩, (mx_in1 (mt4 (List.mem_of_getElem? (i := 8) rfl)) rfl), by decide +kernel⟩
theorem cvX10_76 : mx_cv RX10 76 mX1_warmsBy 2 := ⟨oX1_warmsBy, (mx_in1 (mt4 (List.mem_of_getElem? (i := 183) rfl)) rfl), (mx_in1 (mt4 (List.mem_of_getElem? (i := 184) rfl)) rfl), (mx_in1 (mt4 (List.mem_of_getElem? (i := 185) rfl)) rfl), by decide +kernel⟩
theorem cvX10_80 : mx_cv RX10 80 mX1_heatsAgree 4 := ⟨oX1_heatsAgree, (mx_in1 (mt4 (List.mem_of_getElem? (i := 191) rfl)) rfl), (mx_in1 (mt4 (List.mem_of_getElem? (i := 192) rfl)) rfl), (mx_in1 (mt4 (List.mem_of_getElem? (i := 193) rfl)) rfl), by decide +kernel⟩
theorem cvL_13 : mx_cv RL 13 mX11_sheet 3 := ⟨oX11_sheet, (mx_in1 (mt3 (List.mem_of_getElem? (i := 42) rfl)) rfl), (mx_in1 (mt3 (List.mem_of_getElem? (i := 43) rfl)) rfl), (mx_in1 (mt3 (List.mem_of_getElem? (i := 44) rfl)) rfl), by decide +kernel⟩
theorem cvL_17 : mx_cv RL 17 mX12_sheet 3 := ⟨oX12_sheet, (mx_in1 (mt6 (List.mem_of_getElem? (i := 101) rfl)) rfl), (mx_in1 (mt6 (List.mem_of_getElem? (i := 102) rfl)) rfl), (mx_in1 (mt6 (List.mem_of_getElem? (i := 103) rfl)) rfl), by decide +kernel⟩
theorem cvL_18 : mx_cv RL 18 mX11_set 3 := ⟨oX11_set, (mx_in1 (mt3 (List.mem_of_getElem? (i := 64) rfl)) rfl), (mx_in1 (mt3 (List.mem_of_getElem? (i := 65) rfl)) rfl), (mx_in1 (mt3 (List.mem_of_getElem? (i := 66) rfl)) rfl), by decide +kernel⟩
theorem cvL_21 : mx_cv RL 21 mX12_set 3 := ⟨oX12_set, (mx_in1 (mt6 (List.mem_of_getElem? (i := 119) rfl)) rfl), (mx_in1 (mt6 (List.mem_of_getElem? (i := 120) rfl)) rfl), (mx_in1 (mt6 (List.mem_of_getElem? (i := 121) rfl)) rfl), by decide +kernel⟩
theorem cvL_22 : mx_cv RL 22 mX11_copy 5 := ⟨oX11_copy, (mx_in1 (mt3 (List.mem_of_getElem? (i := 80) rfl)) rfl), (mx_in1 (mt3 (List.mem_of_getElem? (i := 81) rfl)) rfl), (mx_in1 (mt3 (List.mem_of_getElem? (i := 82) rfl)) rfl), by decide +kernel⟩
theorem cvL_26 : mx_cv RL 26 mX12_copy 5 := ⟨oX12_copy, (mx_in1 (mt6 (List.mem_of_getElem? (i := 123) rfl)) rfl), (mx_in1 (mt6 (List.mem_of_getElem? (i := 124) rfl)) rfl), (mx_in1 (mt6 (List.mem_of_getElem? (i := 125) rfl)) rfl), by decide +kernel⟩
theorem cvL_27 : mx_cv RL 27 mX11_drop 1 := ⟨oX11_drop, (mx_in1 (mt3 (List.mem_of_getElem? (i := 87) rfl)) rfl), (mx_in1 (mt3 (List.mem_of_getElem? (i := 88) rfl)) rfl), (mx_in1 (mt3 (List.mem_of_getElem? (i := 89) rfl)) rfl), by decide +kernel⟩
theorem cvL_31 : mx_cv RL 31 mX12_drop 1 := ⟨oX12_drop, (mx_in1 (mt6 (List.mem_of_getElem? (i := 127) rfl)) rfl), (mx_in1 (mt6 (List.mem_of_getElem? (i := 128) rfl)) rfl), (mx_in1 (mt6 (List.mem_of_getElem? (i := 129) rfl)) rfl), by decide +kernel⟩
theorem cvL_34 : mx_cv RL 34 mX11_feed 2 := ⟨oX11_feed, (mx_in1 (mt3 (List.mem_of_getElem? (i := 95) rfl)) rfl), (mx_in1 (mt3 (List.mem_of_getElem? (i := 96) rfl)) rfl), (mx_in1 (mt3 (List.mem_of_getElem? (i := 97) rfl)) rfl), by decide +kernel⟩
theorem cvL_38 : mx_cv RL 38 mX12_feed 2 := ⟨oX12_feed, (mx_in1 (mt6 (List.mem_of_getElem? (i := 131) rfl)) rfl), (mx_in1 (mt6 (List.mem_of_getElem? (i := 132) rfl)) rfl), (mx_in1 (mt6 (List.mem_of_getElem? (i := 133) rfl)) rfl), by decide +kernel⟩
theorem cvL_39 : mx_cv RL 39 mX11_book 0 := ⟨oX11_book, (mx_in1 (mt3 (List.mem_of_getElem? (i := 108) rfl)) rfl), (mx_in1 (mt3 (List.mem_of_getElem? (i := 109) rfl)) rfl), (mx_in1 (mt3 (List.mem_of_getElem? (i := 110) rfl)) rfl), by decide +kernel⟩
theorem cvL_43 : mx_cv RL 43 mX12_book 0 := ⟨oX12_book, (mx_in1 (mt6 (List.mem_of_getElem? (i := 138) rfl)) rfl), (mx_in1 (mt6 (List.mem_of_getElem? (i := 139) rfl)) rfl), (mx_in1 (mt6 (List.mem_of_getElem? (i := 140) rfl)) rfl), by decide +kernel⟩
theorem cvL_44 : mx_cv RL 44 mX11_fault 0 := ⟨oX11_fault, (mx_in1 (mt4 (List.mem_of_getElem? (i := 15) rfl)) rfl), (mx_in1 (mt4 (List.mem_of_getElem? (i := 16) rfl)) rfl), (mx_in1 (mt4 (List.mem_of_getElem? (i := 17) rfl)) rfl), by decide +kernel⟩
theorem cvL_47 : mx_cv RL 47 mX12_fault 0 := ⟨oX12_fault, (mx_in1 (mt6 (List.mem_of_getElem? (i := 206) rfl)) rfl), (mx_in1 (mt6 (List.mem_of_getElem? (i := 207) rfl)) rfl), (mx_in1 (mt6 (List.mem_of_getElem? (i := 208) rfl)) rfl), by decide +kernel⟩
theorem cvL_48 : mx_cv RL 48 mX11_dish 2 := ⟨oX11_dish, (mx_in1 (mt4 (List.mem_of_getElem? (i := 19) rfl)) rfl), (mx_in1 (mt4 (List.mem_of_getElem? (i := 20) rfl)) rfl), (mx_in1 (mt4 (List.mem_of_getElem? (i := 21) rfl)) rfl), by decide +kernel⟩
theorem cvL_52 : mx_cv RL 52 mX12_dish 2 := ⟨oX12_dish, (mx_in1 (mt6 (List.mem_of_getElem? (i := 210) rfl)) rfl), (mx_in1 (mt6 (List.mem_of_getElem? (i := 211) rfl)) rfl), (mx_in1 (mt6 (List.mem_of_getElem? (i := 212) rfl)) rfl), by decide +kernel⟩
theorem cvL_53 : mx_cv RL 53 mX11_step 2 := ⟨oX11_step, (mx_in1 (mt4 (List.mem_of_getElem? (i := 27) rfl)) rfl), (mx_in1 (mt4 (List.mem_of_getElem? (i := 28) rfl)) rfl), (mx_in1 (mt4 (List.mem_of_getElem? (i := 29) rfl)) rfl), by decide +kernel⟩
theorem cvL_56 : mx_cv RL 56 mX12_step 2 := ⟨oX12_step, (mx_in1 (mt6 (List.mem_of_getElem? (i := 235) rfl)) rfl), (mx_in1 (mt6 (List.mem_of_getElem? (i := 236) rfl)) rfl), (mx_in1 (mt6 (List.mem_of_getElem? (i := 237) rfl)) rfl), by decide +kernel⟩
theorem cvL_57 : mx_cv RL 57 mX11_gives 2 := ⟨oX11_gives, (mx_in1 (mt4 (List.mem_of_getElem? (i := 35) rfl)) rfl), (mx_in1 (mt4 (List.mem_of_getElem? (i := 36) rfl)) rfl), (mx_in1 (mt4 (List.mem_of_getElem? (i := 37) rfl)) rfl), by decide +kernel⟩
theorem cvL_60 : mx_cv RL 60 mX12_gives 2 := ⟨oX12_gives, (mx_in1 (mt7 (List.mem_of_getElem? (i := 4) rfl)) rfl), (mx_in1 (mt7 (List.mem_of_getElem? (i := 5) rfl)) rfl), (mx_in1 (mt7 (List.mem_of_getElem? (i := 6) rfl)) rfl), by decide +kernel⟩
theorem cvL_61 : mx_cv RL 61 mX11_dinner 1 := ⟨oX11_dinner, (mx_in1 (mt4 (List.mem_of_getElem? (i := 58) rfl)) rfl), (mx_in1 (mt4 (List.mem_of_getElem? (i := 59) rfl)) rfl), (mx_in1 (mt4 (List.mem_of_getElem? (i := 60) rfl)) rfl), by decide +kernel⟩
theorem cvL_64 : mx_cv RL 64 mX12_dinner 1 := ⟨oX12_dinner, (mx_in1 (mt7 (List.mem_of_getElem? (i := 21) rfl)) rfl), (mx_in1 (mt7 (List.mem_of_getElem? (i := 22) rfl)) rfl), (mx_in1 (mt7 (List.mem_of_getElem? (i := 23) rfl)) rfl), by decide +kernel⟩
theorem cvL_65 : mx_cv RL 65 mX11_out 1 := ⟨oX11_out, (mx_in1 (mt4 (List.mem_of_getElem? (i := 72) rfl)) rfl), (mx_in1 (mt4 (List.mem_of_getElem? (i := 73) rfl)) rfl), (mx_in1 (mt4 (List.mem_of_getElem? (i := 74) rfl)) rfl), by decide +kernel⟩
theorem cvL_68 : mx_cv RL 68 mX12_out 1 := ⟨oX12_out, (mx_in1 (mt7 (List.mem_of_getElem? (i := 28) rfl)) rfl), (mx_in1 (mt7 (List.mem_of_getElem? (i := 29) rfl)) rfl), (mx_in1 (mt7 (List.mem_of_getElem? (i := 30) rfl)) rfl), by decide +kernel⟩
theorem cvL_69 : mx_cv RL 69 mX11_judge 3 := ⟨oX11_judge, (mx_in1 (mt4 (List.mem_of_getElem? (i := 76) rfl)) rfl), (mx_in1 (mt4 (List.mem_of_getElem? (i := 77) rfl)) rfl), (mx_in1 (mt4 (List.mem_of_getElem? (i := 78) rfl)) rfl), by decide +kernel⟩
theorem cvL_72 : mx_cv RL 72 mX12_judge 3 := ⟨oX12_judge, (mx_in1 (mt7 (List.mem_of_getElem? (i := 96) rfl)) rfl), (mx_in1 (mt7 (List.mem_of_getElem? (i := 97) rfl)) rfl), (mx_in1 (mt7 (List.mem_of_getElem? (i := 98) rfl)) rfl), by decide +kernel⟩
theorem cvL_73 : mx_cv RL 73 mX11_least 2 := ⟨oX11_least, (mx_in1 (mt4 (List.mem_of_getElem? (i := 157) rfl)) rfl), (mx_in1 (mt4 (List.mem_of_getElem? (i := 158) rfl)) rfl), (mx_in1 (mt4 (List.mem_of_getElem? (i := 159) rfl)) rfl), by decide +kernel⟩
theorem cvL_76 : mx_cv RL 76 mX12_least 2 := ⟨oX12_least, (mx_in1 (mt7 (List.mem_of_getElem? (i := 33) rfl)) rfl), (mx_in1 (mt7 (List.mem_of_getElem? (i := 34) rfl)) rfl), (mx_in1 (mt7 (List.mem_of_getElem? (i := 35) rfl)) rfl), by decide +kernel⟩
theorem cvL_77 : mx_cv RL 77 mX11_begins 2 := ⟨oX11_begins, (mx_in1 (mt5 (List.mem_of_getElem? (i := 14) rfl)) rfl), (mx_in1 (mt5 (List.mem_of_getElem? (i := 15) rfl)) rfl), (mx_in1 (mt5 (List.mem_of_getElem? (i := 16) rfl)) rfl), by decide +kernel⟩
theorem cvL_80 : mx_cv RL 80 mX12_begins 2 := ⟨oX12_begins, (mx_in1 (mt7 (List.mem_of_getElem? (i := 80) rfl)) rfl), (mx_in1 (mt7 (List.mem_of_getElem? (i := 81) rfl)) rfl), (mx_in1 (mt7 (List.mem_of_getElem? (i := 82) rfl)) rfl), by decide +kernel⟩
theorem cvL_81 : mx_cv RL 81 mX11_seven 1 := ⟨oX11_seven, (mx_in1 (mt5 (List.mem_of_getElem? (i := 18) rfl)) rfl), (mx_in1 (mt5 (List.mem_of_getElem? (i := 19) rfl)) rfl), (mx_in1 (mt5 (List.mem_of_getElem? (i := 20) rfl)) rfl), by decide +kernel⟩
theorem cvL_84 : mx_cv RL 84 mX12_seven 1 := ⟨oX12_seven, (mx_in1 (mt7 (List.mem_of_getElem? (i := 84) rfl)) rfl), (mx_in1 (mt7 (List.mem_of_getElem? (i := 85) rfl)) rfl), (mx_in1 (mt7 (List.mem_of_getElem? (i := 86) rfl)) rfl), by decide +kernel⟩
theorem cvL_85 : mx_cv RL 85 mX11_earliest 0 := ⟨oX11_earliest, (mx_in1 (mt5 (List.mem_of_getElem? (i := 26) rfl)) rfl), (mx_in1 (mt5 (List.mem_of_getElem? (i := 27) rfl)) rfl), (mx_in1 (mt5 (List.mem_of_getElem? (i := 28) rfl)) rfl), by decide +kernel⟩
theorem cvL_88 : mx_cv RL 88 mX12_earliest 0 := ⟨oX12_earliest, (mx_in1 (mt7 (List.mem_of_getElem? (i := 88) rfl)) rfl), (mx_in1 (mt7 (List.mem_of_getElem? (i := 89) rfl)) rfl), (mx_in1 (mt7 (List.mem_of_getElem? (i := 90) rfl)) rfl), by decide +kernel⟩
theorem cvL_89 : mx_cv RL 89 mX11_heat 2 := ⟨oX11_heat, (mx_in1 (mt5 (List.mem_of_getElem? (i := 35) rfl)) rfl), (mx_in1 (mt5 (List.mem_of_getElem? (i := 36) rfl)) rfl), (mx_in1 (mt5 (List.mem_of_getElem? (i := 37) rfl)) rfl), by decide +kernel⟩
theorem cvL_92 : mx_cv RL 92 mX12_heat 2 := ⟨oX12_heat, (mx_in1 (mt7 (List.mem_of_getElem? (i := 120) rfl)) rfl), (mx_in1 (mt7 (List.mem_of_getElem? (i := 121) rfl)) rfl), (mx_in1 (mt7 (List.mem_of_getElem? (i := 122) rfl)) rfl), by decide +kernel⟩
theorem cvL_93 : mx_cv RL 93 mX11_wanted 3 := ⟨oX11_wanted, (mx_in1 (mt5 (List.mem_of_getElem? (i := 44) rfl)) rfl), (mx_in1 (mt5 (List.mem_of_getElem? (i := 45) rfl)) rfl), (mx_in1 (mt5 (List.mem_of_getElem? (i := 46) rfl)) rfl), by decide +kernel⟩
theorem cvL_96 : mx_cv RL 96 mX12_wanted 3 := ⟨oX12_wanted, (mx_in1 (mt7 (List.mem_of_getElem? (i := 128) rfl)) rfl), (mx_in1 (mt7 (List.mem_of_getElem? (i := 129) rfl)) rfl), (mx_in1 (mt7 (List.mem_of_getElem? (i := 130) rfl)) rfl), by decide +kernel⟩
theorem cvL_97 : mx_cv RL 97 mX11_dinners 3 := ⟨oX11_dinners, (mx_in1 (mt5 (List.mem_of_getElem? (i := 55) rfl)) rfl), (mx_in1 (mt5 (List.mem_of_getElem? (i := 56) rfl)) rfl), (mx_in1 (mt5 (List.mem_of_getElem? (i := 57) rfl)) rfl), by decide +kernel⟩
theorem cvL_100 : mx_cv RL 100 mX12_dinners 3 := ⟨oX12_dinners, (mx_in1 (mt7 (List.mem_of_getElem? (i := 133) rfl)) rfl), (mx_in1 (mt7 (List.mem_of_getElem? (i := 134) rfl)) rfl), (mx_in1 (mt7 (List.mem_of_getElem? (i := 135) rfl)) rfl), by decide +kernel⟩
theorem cvL_101 : mx_cv RL 101 mX11_more 1 := ⟨oX11_more, (mx_in1 (mt5 (List.mem_of_getElem? (i := 70) rfl)) rfl), (mx_in1 (mt5 (List.mem_of_getElem? (i := 71) rfl)) rfl), (mx_in1 (mt5 (List.mem_of_getElem? (i := 72) rfl)) rfl), by decide +kernel⟩
theorem cvL_104 : mx_cv RL 104 mX12_more 1 := ⟨oX12_more, (mx_in1 (mt7 (List.mem_of_getElem? (i := 137) rfl)) rfl), (mx_in1 (mt7 (List.mem_of_getElem? (i := 138) rfl)) rfl), (mx_in1 (mt7 (List.mem_of_getElem? (i := 139) rfl)) rfl), by decide +kernel⟩
theorem cvL_105 : mx_cv RL 105 mX11_mend 2 := ⟨oX11_mend, (mx_in1 (mt5 (List.mem_of_getElem? (i := 74) rfl)) rfl), (mx_in1 (mt5 (List.mem_of_getElem? (i := 75) rfl)) rfl), (mx_in1 (mt5 (List.mem_of_getElem? (i := 76) rfl)) rfl), by decide +kernel⟩
theorem cvL_108 : mx_cv RL 108 mX12_mend 2 := ⟨oX12_mend, (mx_in1 (mt7 (List.mem_of_getElem? (i := 141) rfl)) rfl), (mx_in1 (mt7 (List.mem_of_getElem? (i := 142) rfl)) rfl), (mx_in1 (mt7 (List.mem_of_getElem? (i := 143) rfl)) rfl), by decide +kernel⟩
theorem cvL_109 : mx_cv RL 109 mX11_slack 2 := ⟨oX11_slack, (mx_in1 (mt5 (List.mem_of_getElem? (i := 82) rfl)) rfl), (mx_in1 (mt5 (List.mem_of_getElem? (i := 83) rfl)) rfl), (mx_in1 (mt5 (List.mem_of_getElem? (i := 84) rfl)) rfl), by decide +kernel⟩
theorem cvL_112 : mx_cv RL 112 mX12_slack 2 := ⟨oX12_slack, (mx_in1 (mt7 (List.mem_of_getElem? (i := 145) rfl)) rfl), (mx_in1 (mt7 (List.mem_of_getElem? (i := 146) rfl)) rfl), (mx_in1 (mt7 (List.mem_of_getElem? (i := 147) rfl)) rfl), by decide +kernel⟩
theorem cvL_113 : mx_cv RL 113 mX11_bears 3 := ⟨oX11_bears, (mx_in1 (mt5 (List.mem_of_getElem? (i := 91) rfl)) rfl), (mx_in1 (mt5 (List.mem_of_getElem? (i := 92) rfl)) rfl), (mx_in1 (mt5 (List.mem_of_getElem? (i := 93) rfl)) rfl), by decide +kernel⟩
theorem cvL_116 : mx_cv RL 116 mX12_bears 3 := ⟨oX12_bears, (mx_in1 (mt7 (List.mem_of_getElem? (i := 149) rfl)) rfl), (mx_in1 (mt7 (List.mem_of_getElem? (i := 150) rfl)) rfl), (mx_in1 (mt7 (List.mem_of_getElem? (i := 151) rfl)) rfl), by decide +kernel⟩
theorem cvL_117 : mx_cv RL 117 mX11_mind 2 := ⟨oX11_mind, (mx_in1 (mt5 (List.mem_of_getElem? (i := 95) rfl)) rfl), (mx_in1 (mt5 (List.mem_of_getElem? (i := 96) rfl)) rfl), (mx_in1 (mt5 (List.mem_of_getElem? (i := 97) rfl)) rfl), by decide +kernel⟩
theorem cvL_120 : mx_cv RL 120 mX12_mind 2 := ⟨oX12_mind, (mx_in1 (mt7 (List.mem_of_getElem? (i := 154) rfl)) rfl), (mx_in1 (mt7 (List.mem_of_getElem? (i := 155) rfl)) rfl), (mx_in1 (mt7 (List.mem_of_getElem? (i := 156) rfl)) rfl), by decide +kernel⟩
theorem cvL_121 : mx_cv RL 121 mX11_image 1 := ⟨oX11_image, (mx_in1 (mt5 (List.mem_of_getElem? (i := 99) rfl)) rfl), (mx_in1 (mt5 (List.mem_of_getElem? (i := 100) rfl)) rfl), (mx_in1 (mt5 (List.mem_of_getElem? (i := 101) rfl)) rfl), by decide +kernel⟩
theorem cvL_124 : mx_cv RL 124 mX12_image 1 := ⟨oX12_image, (mx_in1 (mt7 (List.mem_of_getElem? (i := 158) rfl)) rfl), (mx_in1 (mt7 (List.mem_of_getElem? (i := 159) rfl)) rfl), (mx_in1 (mt7 (List.mem_of_getElem? (i := 160) rfl)) rfl), by decide +kernel⟩
theorem cvL_125 : mx_cv RL 125 mX11_restore 1 := ⟨oX11_restore, (mx_in1 (mt5 (List.mem_of_getElem? (i := 108) rfl)) rfl), (mx_in1 (mt5 (List.mem_of_getElem? (i := 109) rfl)) rfl), (mx_in1 (mt5 (List.mem_of_getElem? (i := 110) rfl)) rfl), by decide +kernel⟩
theorem cvL_128 : mx_cv RL 128 mX12_restore 1 := ⟨oX12_restore, (mx_in1 (mt7 (List.mem_of_getElem? (i := 162) rfl)) rfl), (mx_in1 (mt7 (List.mem_of_getElem? (i := 163) rfl)) rfl), (mx_in1 (mt7 (List.mem_of_getElem? (i := 164) rfl)) rfl), by decide +kernel⟩
theorem cvL_129 : mx_cv RL 129 mX11_kind 1 := ⟨oX11_kind, (mx_in1 (mt5 (List.mem_of_getElem? (i := 112) rfl)) rfl), (mx_in1 (mt5 (List.mem_of_getElem? (i := 113) rfl)) rfl), (mx_in1 (mt5 (List.mem_of_getElem? (i := 114) rfl)) rfl), by decide +kernel⟩
theorem cvL_132 : mx_cv RL 132 mX12_kind 1 := ⟨oX12_kind, (mx_in1 (mt7 (List.mem_of_getElem? (i := 166) rfl)) rfl), (mx_in1 (mt7 (List.mem_of_getElem? (i := 167) rfl)) rfl), (mx_in1 (mt7 (List.mem_of_getElem? (i := 168) rfl)) rfl), by decide +kernel⟩
theorem cvL_133 : mx_cv RL 133 mX11_as 2 := ⟨oX11_as, (mx_in1 (mt5 (List.mem_of_getElem? (i := 120) rfl)) rfl), (mx_in1 (mt5 (List.mem_of_getElem? (i := 121) rfl)) rfl), (mx_in1 (mt5 (List.mem_of_getElem? (i := 122) rfl)) rfl), by decide +kernel⟩
theorem cvL_136 : mx_cv RL 136 mX12_as 2 := ⟨oX12_as, (mx_in1 (mt7 (List.mem_of_getElem? (i := 174) rfl)) rfl), (mx_in1 (mt7 (List.mem_of_getElem? (i := 175) rfl)) rfl), (mx_in1 (mt7 (List.mem_of_getElem? (i := 176) rfl)) rfl), by decide +kernel⟩
theorem cvL_137 : mx_cv RL 137 mX11_ask 2 := ⟨oX11_ask, (mx_in1 (mt5 (List.mem_of_getElem? (i := 130) rfl)) rfl), (mx_in1 (mt5 (List.mem_of_getElem? (i := 131) rfl)) rfl), (mx_in1 (mt5 (List.mem_of_getElem? (i := 132) rfl)) rfl), by decide +kernel⟩
theorem cvL_140 : mx_cv RL 140 mX12_ask 2 := ⟨oX12_ask, (mx_in1 (mt7 (List.mem_of_getElem? (i := 182) rfl)) rfl), (mx_in1 (mt7 (List.mem_of_getElem? (i := 183) rfl)) rfl), (mx_in1 (mt7 (List.mem_of_getElem? (i := 184) rfl)) rfl), by decide +kernel⟩
theorem cvL_141 : mx_cv RL 141 mX11_trace 1 := ⟨oX11_trace, (mx_in1 (mt5 (List.mem_of_getElem? (i := 167) rfl)) rfl), (mx_in1 (mt5 (List.mem_of_getElem? (i := 168) rfl)) rfl), (mx_in1 (mt5 (List.mem_of_getElem? (i := 169) rfl)) rfl), by decide +kernel⟩
theorem cvL_144 : mx_cv RL 144 mX12_trace 1 := ⟨oX12_trace, (mx_in1 (mt7 (List.mem_of_getElem? (i := 198) rfl)) rfl), (mx_in1 (mt7 (List.mem_of_getElem? (i := 199) rfl)) rfl), (mx_in1 (mt7 (List.mem_of_getElem? (i := 200) rfl)) rfl), by decide +kernel⟩
theorem cvL_145 : mx_cv RL 145 mX11_count 1 := ⟨oX11_count, (mx_in1 (mt5 (List.mem_of_getElem? (i := 171) rfl)) rfl), (mx_in1 (mt5 (List.mem_of_getElem? (i := 172) rfl)) rfl), (mx_in1 (mt5 (List.mem_of_getElem? (i := 173) rfl)) rfl), by decide +kernel⟩
theorem cvL_148 : mx_cv RL 148 mX12_count 1 := ⟨oX12_count, (mx_in1 (mt7 (List.mem_of_getElem? (i := 202) rfl)) rfl), (mx_in1 (mt7 (List.mem_of_getElem? (i := 203) rfl)) rfl), (mx_in1 (mt7 (List.mem_of_getElem? (i := 204) rfl)) rfl), by decide +kernel⟩
theorem cvL_149 : mx_cv RL 149 mX11_status 0 := ⟨oX11_status, (mx_in1 (mt5 (List.mem_of_getElem? (i := 183) rfl)) rfl), (mx_in1 (mt5 (List.mem_of_getElem? (i := 184) rfl)) rfl), (mx_in1 (mt5 (List.mem_of_getElem? (i := 185) rfl)) rfl), by decide +kernel⟩
theorem cvL_152 : mx_cv RL 152 mX12_status 0 := ⟨oX12_status, (mx_in1 (mt7 (List.mem_of_getElem? (i := 206) rfl)) rfl), (mx_in1 (mt7 (List.mem_of_getElem? (i := 207) rfl)) rfl), (mx_in1 (mt7 (List.mem_of_getElem? (i := 208) rfl)) rfl), by decide +kernel⟩
theorem csX12_111 : mx_cs RX12 111 mX12_in 3 := ⟨oX12_in, Or.inl (mx_in1 (mt6 (List.mem_of_getElem? (i := 109) rfl)) rfl), (mx_in1 (mt6 (List.mem_of_getElem? (i := 110) rfl)) rfl), by decide +kernel⟩
theorem csX12_115 : mx_cs RX12 115 mX12_isSheet 1 := ⟨oX12_isSheet, Or.inl (mx_in1 (mt6 (List.mem_of_getElem? (i := 105) rfl)) rfl), (mx_in1 (mt6 (List.mem_of_getElem? (i := 106) rfl)) rfl), by decide +kernel⟩
theorem cvX12_122 : mx_cv RX12 122 mX12_finding 1 := ⟨oX12_finding, (mx_in1 (mt6 (List.mem_of_getElem? (i := 114) rfl)) rfl), (mx_in1 (mt6 (List.mem_of_getElem? (i := 116) rfl)) rfl), (mx_inP (by decide +kernel) rfl), by decide +kernel⟩
theorem cvX12_141 : mx_cv RX12 141 mX12_byteAt 1 := ⟨oX12_byteAt, (mx_in1 (mt6 (List.mem_of_getElem? (i := 146) rfl)) rfl), (mx_in1 (mt6 (List.mem_of_getElem? (i := 148) rfl)) rfl), (mx_inP (by decide +kernel) rfl), by decide +kernel⟩
theorem csX12_150 : mx_cs RX12 150 mX12_isLetter 1 := ⟨oX12_isLetter, Or.inl (mx_in1 (mt6 (List.mem_of_getElem? (i := 151) rfl)) rfl), (mx_in1 (mt6 (List.mem_of_getElem? (i := 152) rfl)) rfl), by decide +kernel⟩
theorem csX12_153 : mx_cs RX12 153 mX12_isFigure 1 := ⟨oX12_isFigure, Or.inl (mx_in1 (mt6 (List.mem_of_getElem? (i := 154) rfl)) rfl), (mx_in1 (mt6 (List.mem_of_getElem? (i := 155) rfl)) rfl), by decide +kernel⟩
theorem cvX12_165 : mx_cv RX12 165 mX12_bad 1 := ⟨oX12_bad, (mx_in1 (mt6 (List.mem_of_getElem? (i := 166) rfl)) rfl), (mx_in1 (mt6 (List.mem_of_getElem? (i := 168) rfl)) rfl), (mx_inP (by decide +kernel) rfl), by decide +kernel⟩
theorem cvX12_169 : mx_cv RX12 169 mX12_next 0 := ⟨oX12_next, (mx_in1 (mt6 (List.mem_of_getElem? (i := 142) rfl)) rfl), (mx_in1 (mt6 (List.mem_of_getElem? (i := 144) rfl)) rfl), (mx_inP (by decide +kernel) rfl), by decide +kernel⟩
theorem cvX12_172 : mx_cv RX12 172 mX12_must 1 := ⟨oX12_must, (mx_in1 (mt6 (List.mem_of_getElem? (i := 162) rfl)) rfl), (mx_in1 (mt6 (List.mem_of_getElem? (i := 164) rfl)) rfl), (mx_inP (by decide +kernel) rfl), by decide +kernel⟩
theorem cvX12_176 : mx_cv RX12 176 mX12_word 0 := ⟨oX12_word, (mx_in1 (mt6 (List.mem_of_getElem? (i := 157) rfl)) rfl), (mx_in1 (mt6 (List.mem_of_getElem? (i := 159) rfl)) rfl), (mx_inP (by decide +kernel) rfl), by decide +kernel⟩
theorem cvX12_190 : mx_cv RX12 190 mX12_number 3 := ⟨oX12_number, (mx_in1 (mt6 (List.mem_of_getElem? (i := 170) rfl)) rfl), (mx_in1 (mt6 (List.mem_of_getElem? (i := 172) rfl)) rfl), (mx_inP (by decide +kernel) rfl), by decide +kernel⟩
theorem cvX12_194 : mx_cv RX12 194 mX12_mustEnd 0 := ⟨oX12_mustEnd, (mx_in1 (mt6 (List.mem_of_getElem? (i := 174) rfl)) rfl), (mx_in1 (mt6 (List.mem_of_getElem? (i := 176) rfl)) rfl), (mx_inP (by decide +kernel) rfl), by decide +kernel⟩
theorem cvX12_197 : mx_cv RX12 197 mX12_kindOfWord 0 := ⟨oX12_kindOfWord, (mx_in1 (mt6 (List.mem_of_getElem? (i := 188) rfl)) rfl), (mx_in1 (mt6 (List.mem_of_getElem? (i := 190) rfl)) rfl), (mx_inP (by decide +kernel) rfl), by decide +kernel⟩
theorem cvX12_201 : mx_cv RX12 201 mX12_readStep 2 := ⟨oX12_readStep, (mx_in1 (mt6 (List.mem_of_getElem? (i := 197) rfl)) rfl), (mx_in1 (mt6 (List.mem_of_getElem? (i := 199) rfl)) rfl), (mx_inP (by decide +kernel) rfl), by decide +kernel⟩
theorem cvX12_209 : mx_cv RX12 209 mX12_readAway 0 := ⟨oX12_readAway, (mx_in1 (mt6 (List.mem_of_getElem? (i := 179) rfl)) rfl), (mx_in1 (mt6 (List.mem_of_getElem? (i := 181) rfl)) rfl), (mx_inP (by decide +kernel) rfl), by decide +kernel⟩
theorem cvX12_214 : mx_cv RX12 214 mX12_readDish 0 := ⟨oX12_readDish, (mx_in1 (mt6 (List.mem_of_getElem? (i := 184) rfl)) rfl), (mx_in1 (mt6 (List.mem_of_getElem? (i := 186) rfl)) rfl), (mx_inP (by decide +kernel) rfl), by decide +kernel⟩
theorem cvX12_225 : mx_cv RX12 225 mX12_forget 0 := ⟨oX12_forget, (mx_in1 (mt6 (List.mem_of_getElem? (i := 202) rfl)) rfl), (mx_in1 (mt6 (List.mem_of_getElem? (i := 204) rfl)) rfl), (mx_inP (by decide +kernel) rfl), by decide +kernel⟩
theorem cvX12_228 : mx_cv RX12 228 mX12_dishOf 2 := ⟨oX12_dishOf, (mx_in1 (mt6 (List.mem_of_getElem? (i := 223) rfl)) rfl), (mx_in1 (mt6 (List.mem_of_getElem? (i := 225) rfl)) rfl), (mx_inP (by decide +kernel) rfl), by decide +kernel⟩
theorem cvX12_232 : mx_cv RX12 232 mX12_stepOf 2 := ⟨oX12_stepOf, (mx_in1 (mt6 (List.mem_of_getElem? (i := 231) rfl)) rfl), (mx_in1 (mt6 (List.mem_of_getElem? (i := 233) rfl)) rfl), (mx_inP (by decide +kernel) rfl), by decide +kernel⟩
theorem cvX12_235 : mx_cv RX12 235 mX12_waitsOf 2 := ⟨oX12_waitsOf, (mx_in1 (mt6 (List.mem_of_getElem? (i := 227) rfl)) rfl), (mx_in1 (mt6 (List.mem_of_getElem? (i := 229) rfl)) rfl), (mx_inP (by decide +kernel) rfl), by decide +kernel⟩
theorem cvX12_238 : mx_cv RX12 238 mX12_isDish 1 := ⟨oX12_isDish, (mx_in1 (mt6 (List.mem_of_getElem? (i := 214) rfl)) rfl), (mx_in1 (mt6 (List.mem_of_getElem? (i := 216) rfl)) rfl), (mx_inP (by decide +kernel) rfl), by decide +kernel⟩
theorem cvX12_243 : mx_cv RX12 243 mX12_choicesOf 1 := ⟨oX12_choicesOf, (mx_in1 (mt6 (List.mem_of_getElem? (i := 219) rfl)) rfl), (mx_in1 (mt6 (List.mem_of_getElem? (i := 221) rfl)) rfl), (mx_inP (by decide +kernel) rfl), by decide +kernel⟩
theorem cvX12_246 : mx_cv RX12 246 mX12_isStep 1 := ⟨oX12_isStep, (mx_in1 (mt6 (List.mem_of_getElem? (i := 239) rfl)) rfl), (mx_in1 (mt7 (List.mem_of_getElem? (i := 1) rfl)) rfl), (mx_inP (by decide +kernel) rfl), by decide +kernel⟩
theorem csX12_254 : mx_cs RX12 254 mX12_isMinute 1 := ⟨oX12_isMinute, Or.inl (mx_in1 (mt7 (List.mem_of_getElem? (i := 9) rfl)) rfl), (mx_in1 (mt7 (List.mem_of_getElem? (i := 10) rfl)) rfl), by decide +kernel⟩
theorem cvX12_257 : mx_cv RX12 257 mX12_bigOnes 2 := ⟨oX12_bigOnes, (mx_in1 (mt7 (List.mem_of_getElem? (i := 13) rfl)) rfl), (mx_in1 (mt7 (List.mem_of_getElem? (i := 15) rfl)) rfl), (mx_inP (by decide +kernel) rfl), by decide +kernel⟩
theorem cvX12_260 : mx_cv RX12 260 mX12_handsAt 2 := ⟨oX12_handsAt, (mx_in1 (mt7 (List.mem_of_getElem? (i := 17) rfl)) rfl), (mx_in1 (mt7 (List.mem_of_getElem? (i := 19) rfl)) rfl), (mx_inP (by decide +kernel) rfl), by decide +kernel⟩
theorem csX12_263 : mx_cs RX12 263 mX12_bits 1 := ⟨oX12_bits, Or.inl (mx_in1 (mt7 (List.mem_of_getElem? (i := 25) rfl)) rfl), (mx_in1 (mt7 (List.mem_of_getElem? (i := 26) rfl)) rfl), by decide +kernel⟩
theorem cvX12_271 : mx_cv RX12 271 mX12_layBegins 2 := ⟨oX12_layBegins, (mx_in1 (mt7 (List.mem_of_getElem? (i := 56) rfl)) rfl), (mx_in1 (mt7 (List.mem_of_getElem? (i := 58) rfl)) rfl), (mx_inP (by decide +kernel) rfl), by decide +kernel⟩
theorem cvX12_275 : mx_cv RX12 275 mX12_copyLevel 1 := ⟨oX12_copyLevel, (mx_in1 (mt7 (List.mem_of_getElem? (i := 60) rfl)) rfl), (mx_in1 (mt7 (List.mem_of_getElem? (i := 62) rfl)) rfl), (mx_inP (by decide +kernel) rfl), by decide +kernel⟩
theorem cvX12_278 : mx_cv RX12 278 mX12_addStep 4 := ⟨oX12_addStep, (mx_in1 (mt7 (List.mem_of_getElem? (i := 64) rfl)) rfl), (mx_in1 (mt7 (List.mem_of_getElem? (i := 66) rfl)) rfl), (mx_inP (by decide +kernel) rfl), by decide +kernel⟩
theorem cvX12_282 : mx_cv RX12 282 mX12_addPan 3 := ⟨oX12_addPan, (mx_in1 (mt7 (List.mem_of_getElem? (i := 68) rfl)) rfl), (mx_in1 (mt7 (List.mem_of_getElem? (i := 70) rfl)) rfl), (mx_inP (by decide +kernel) rfl), by decide +kernel⟩
theorem cvX12_285 : mx_cv RX12 285 mX12_lacks 3 := ⟨oX12_lacks, (mx_in1 (mt7 (List.mem_of_getElem? (i := 72) rfl)) rfl), (mx_in1 (mt7 (List.mem_of_getElem? (i := 74) rfl)) rfl), (mx_inP (by decide +kernel) rfl), by decide +kernel⟩
theorem cvX12_289 : mx_cv RX12 289 mX12_clearLevel 0 := ⟨oX12_clearLevel, (mx_in1 (mt7 (List.mem_of_getElem? (i := 48) rfl)) rfl), (mx_in1 (mt7 (List.mem_of_getElem? (i := 50) rfl)) rfl), (mx_inP (by decide +kernel) rfl), by decide +kernel⟩
theorem cvX12_292 : mx_cv RX12 292 mX12_fits 4 := ⟨oX12_fits, (mx_in1 (mt7 (List.mem_of_getElem? (i := 52) rfl)) rfl), (mx_in1 (mt7 (List.mem_of_getElem? (i := 54) rfl)) rfl), (mx_inP (by decide +kernel) rfl), by decide +kernel⟩
theorem cvX12_305 : mx_cv RX12 305 mX12_seek 6 := ⟨oX12_seek, (mx_in1 (mt7 (List.mem_of_getElem? (i := 44) rfl)) rfl), (mx_in1 (mt7 (List.mem_of_getElem? (i := 46) rfl)) rfl), (mx_inP (by decide +kernel) rfl), by decide +kernel⟩
theorem cvX12_315 : mx_cv RX12 315 mX12_layRow 0 := ⟨oX12_layRow, (mx_in1 (mt7 (List.mem_of_getElem? (i := 76) rfl)) rfl), (mx_in1 (mt7 (List.mem_of_getElem? (i := 78) rfl)) rfl), (mx_inP (by decide +kernel) rfl), by decide +kernel⟩
theorem csX12_318 : mx_cs RX12 318 mX12_isBy 1 := ⟨oX12_isBy, Or.inl (mx_in1 (mt7 (List.mem_of_getElem? (i := 37) rfl)) rfl), (mx_in1 (mt7 (List.mem_of_getElem? (i := 38) rfl)) rfl), by decide +kernel⟩
theorem cvX12_321 : mx_cv RX12 321 mX12_know 1 := ⟨oX12_know, (mx_in1 (mt7 (List.mem_of_getElem? (i := 40) rfl)) rfl), (mx_in1 (mt7 (List.mem_of_getElem? (i := 42) rfl)) rfl), (mx_inP (by decide +kernel) rfl), by decide +kernel⟩
theorem cvX12_324 : mx_cv RX12 324 mX12_canBe 3 := ⟨oX12_canBe, (mx_in1 (mt7 (List.mem_of_getElem? (i := 92) rfl)) rfl), (mx_in1 (mt7 (List.mem_of_getElem? (i := 94) rfl)) rfl), (mx_inP (by decide +kernel) rfl), by decide +kernel⟩
theorem cvX12_328 : mx_cv RX12 328 mX12_dishBy 1 := ⟨oX12_dishBy, (mx_in1 (mt7 (List.mem_of_getElem? (i := 112) rfl)) rfl), (mx_in1 (mt7 (List.mem_of_getElem? (i := 114) rfl)) rfl), (mx_inP (by decide +kernel) rfl), by decide +kernel⟩
theorem cvX12_331 : mx_cv RX12 331 mX12_endOf 1 := ⟨oX12_endOf, (mx_in1 (mt7 (List.mem_of_getElem? (i := 104) rfl)) rfl), (mx_in1 (mt7 (List.mem_of_getElem? (i := 106) rfl)) rfl), (mx_inP (by decide +kernel) rfl), by decide +kernel⟩
theorem cvX12_334 : mx_cv RX12 334 mX12_isFirst 1 := ⟨oX12_isFirst, (mx_in1 (mt7 (List.mem_of_getElem? (i := 108) rfl)) rfl), (mx_in1 (mt7 (List.mem_of_getElem? (i := 110) rfl)) rfl), (mx_inP (by decide +kernel) rfl), by decide +kernel⟩
theorem cvX12_337 : mx_cv RX12 337 mX12_isLast 1 := ⟨oX12_isLast, (mx_in1 (mt7 (List.mem_of_getElem? (i := 116) rfl)) rfl), (mx_in1 (mt7 (List.mem_of_getElem? (i := 118) rfl)) rfl), (mx_inP (by decide +kernel) rfl), by decide +kernel⟩
theorem cvX12_340 : mx_cv RX12 340 mX12_judged 1 := ⟨oX12_judged, (mx_in1 (mt7 (List.mem_of_getElem? (i := 100) rfl)) rfl), (mx_in1 (mt7 (List.mem_of_getElem? (i := 102) rfl)) rfl), (mx_inP (by decide +kernel) rfl), by decide +kernel⟩
theorem cvX12_343 : mx_cv RX12 343 mX12_layPlan 0 := ⟨oX12_layPlan, (mx_in1 (mt7 (List.mem_of_getElem? (i := 124) rfl)) rfl), (mx_in1 (mt7 (List.mem_of_getElem? (i := 126) rfl)) rfl), (mx_inP (by decide +kernel) rfl), by decide +kernel⟩
theorem cvX12_350 : mx_cv RX12 350 mX12_kindOf 1 := ⟨oX12_kindOf, (mx_in1 (mt7 (List.mem_of_getElem? (i := 170) rfl)) rfl), (mx_in1 (mt7 (List.mem_of_getElem? (i := 172) rfl)) rfl), (mx_inP (by decide +kernel) rfl), by decide +kernel⟩
theorem csX12_355 : mx_cs RX12 355 mX12_isOf 2 := ⟨oX12_isOf, Or.inl (mx_in1 (mt7 (List.mem_of_getElem? (i := 179) rfl)) rfl), (mx_in1 (mt7 (List.mem_of_getElem? (i := 180) rfl)) rfl), by decide +kernel⟩
theorem cvX12_361 : mx_cv RX12 361 mX12_began 1 := ⟨oX12_began, (mx_in1 (mt7 (List.mem_of_getElem? (i := 190) rfl)) rfl), (mx_in1 (mt7 (List.mem_of_getElem? (i := 192) rfl)) rfl), (mx_inP (by decide +kernel) rfl), by decide +kernel⟩
theorem cvX12_364 : mx_cv RX12 364 mX12_markOf 2 := ⟨oX12_markOf, (mx_in1 (mt7 (List.mem_of_getElem? (i := 194) rfl)) rfl), (mx_in1 (mt7 (List.mem_of_getElem? (i := 196) rfl)) rfl), (mx_inP (by decide +kernel) rfl), by decide +kernel⟩
theorem cvX12_367 : mx_cv RX12 367 mX12_sizeOf 2 := ⟨oX12_sizeOf, (mx_in1 (mt7 (List.mem_of_getElem? (i := 186) rfl)) rfl), (mx_in1 (mt7 (List.mem_of_getElem? (i := 188) rfl)) rfl), (mx_inP (by decide +kernel) rfl), by decide +kernel⟩
theorem cvJ0_335 : mx_cv RJ0 335 mJ0_coder_7d493 0 := ⟨oJ0_coder_7d493, (mx_in1 (mt3 (List.mem_of_getElem? (i := 145) rfl)) rfl), (mx_in1 (mt3 (List.mem_of_getElem? (i := 146) rfl)) rfl), (mx_in1 (mt3 (List.mem_of_getElem? (i := 147) rfl)) rfl), by decide +kernel⟩
theorem cvJ0_492 : mx_cv RJ0 492 mJ0_isLatin1_aae02 0 := ⟨oJ0_isLatin1_aae02, (mx_in1 (mt3 (List.mem_of_getElem? (i := 155) rfl)) rfl), (mx_in1 (mt3 (List.mem_of_getElem? (i := 156) rfl)) rfl), (mx_in1 (mt3 (List.mem_of_getElem? (i := 157) rfl)) rfl), by decide +kernel⟩
theorem csJ0_495 : mx_cs RJ0 495 mJ1_charAt_3b067 2 := ⟨oJ1_charAt_3b067, Or.inl (mx_in1 (mt3 (List.mem_of_getElem? (i := 159) rfl)) rfl), (mx_in1 (mt3 (List.mem_of_getElem? (i := 160) rfl)) rfl), by decide +kernel⟩
theorem csJ0_498 : mx_cs RJ0 498 mJ2_charAt_3b067 2 := ⟨oJ2_charAt_3b067, Or.inl (mx_in1 (mt3 (List.mem_of_getElem? (i := 170) rfl)) rfl), (mx_in1 (mt3 (List.mem_of_getElem? (i := 171) rfl)) rfl), by decide +kernel⟩
theorem csJ0_1059 : mx_cs RJ0 1059 mJ3_checkIndex_8e157 3 := ⟨oJ3_checkIndex_8e157, Or.inl (mx_in1 (mt3 (List.mem_of_getElem? (i := 167) rfl)) rfl), (mx_in1 (mt3 (List.mem_of_getElem? (i := 168) rfl)) rfl), by decide +kernel⟩
theorem csJ1_9 : mx_cs RJ1 9 mJ0_checkIndex_df160 2 := ⟨oJ0_checkIndex_df160, Or.inl (mx_in1 (mt3 (List.mem_of_getElem? (i := 162) rfl)) rfl), (mx_in1 (mt3 (List.mem_of_getElem? (i := 163) rfl)) rfl), by decide +kernel⟩
theorem csJ2_48 : mx_cs RJ2 48 mJ2_length_9d52b 1 := ⟨oJ2_length_9d52b, Or.inl (mx_in1 (mt3 (List.mem_of_getElem? (i := 176) rfl)) rfl), (mx_in1 (mt3 (List.mem_of_getElem? (i := 177) rfl)) rfl), by decide +kernel⟩
theorem csJ2_67 : mx_cs RJ2 67 mJ2_checkIndex_2214a 2 := ⟨oJ2_checkIndex_2214a, Or.inl (mx_in1 (mt3 (List.mem_of_getElem? (i := 173) rfl)) rfl), (mx_in1 (mt3 (List.mem_of_getElem? (i := 174) rfl)) rfl), by decide +kernel⟩
theorem csJ2_71 : mx_cs RJ2 71 mJ2_getChar_3b067 2 := ⟨oJ2_getChar_3b067, Or.inl (mx_in1 (mt3 (List.mem_of_getElem? (i := 180) rfl)) rfl), (mx_in1 (mt3 (List.mem_of_getElem? (i := 181) rfl)) rfl), by decide +kernel⟩
theorem csJ2_414 : mx_cs RJ2 414 mJ0_checkIndex_df160 2 := ⟨oJ0_checkIndex_df160, Or.inl (mx_in1 (mt3 (List.mem_of_getElem? (i := 179) rfl)) rfl), (mx_in1 (mt3 (List.mem_of_getElem? (i := 163) rfl)) rfl), by decide +kernel⟩
