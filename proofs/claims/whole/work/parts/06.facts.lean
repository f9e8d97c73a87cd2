theorem bX0 : zz_B 0 RX0 TX0 2 tyX0 := ⟨rfl, by decide +kernel, tyX0_ok, nmX0⟩
theorem bX1 : zz_B 1 RX1 TX1 5 tyX1 := ⟨rfl, by decide +kernel, tyX1_ok, nmX1⟩
theorem bX2 : zz_B 2 RX2 TX2 2 tyX2 := ⟨rfl, by decide +kernel, tyX2_ok, nmX2⟩
theorem bX3 : zz_B 3 RX3 TX3 11 tyX3 := ⟨rfl, by decide +kernel, tyX3_ok, nmX3⟩
theorem bX4 : zz_B 4 RX4 TX4 13 tyX4 := ⟨rfl, by decide +kernel, tyX4_ok, nmX4⟩
theorem bX5 : zz_B 5 RX5 TX5 3 tyX5 := ⟨rfl, by decide +kernel, tyX5_ok, nmX5⟩
theorem bX6 : zz_B 6 RX6 TX6 14 tyX6 := ⟨rfl, by decide +kernel, tyX6_ok, nmX6⟩
theorem bX7 : zz_B 7 RX7 TX7 9 tyX7 := ⟨rfl, by decide +kernel, tyX7_ok, nmX7⟩
theorem bX8 : zz_B 8 RX8 TX8 32 tyX8 := ⟨rfl, by decide +kernel, tyX8_ok, nmX8⟩
abbrev YJ0_indexOf_0f7a4 : My := (yJ0_indexOf_0f7a4, cJ0_indexOf_0f7a4, 2, (some .int))
theorem mJ0_indexOf_0f7a4 : zz_M YJ0_indexOf_0f7a4 1 := ⟨by decide +kernel, zz_mem (i := 256) (by decide +kernel) (by decide +kernel), zz_mem (i := 90) (by decide +kernel) (by decide +kernel), by decide +kernel, by decide⟩
theorem vJ0_indexOf_0f7a4 : zz_V YJ0_indexOf_0f7a4 := ⟨zz_mem (i := 254) (by decide +kernel) (by decide +kernel), zz_mem (i := 255) (by decide +kernel) (by decide +kernel)⟩
abbrev YJ6_bitCount_0f7a4 : My := (yJ6_bitCount_0f7a4, cJ6_bitCount_0f7a4, 1, (some .int))
theorem mJ6_bitCount_0f7a4 : zz_M YJ6_bitCount_0f7a4 1 := ⟨by decide +kernel, zz_mem (i := 612) (by decide +kernel) (by decide +kernel), zz_mem (i := 101) (by decide +kernel) (by decide +kernel), by decide +kernel, by decide⟩
theorem tJ6_bitCount_0f7a4 : Cond.static YJ6_bitCount_0f7a4.1 ∈ zz_W := zz_mem (i := 611) (by decide +kernel) (by decide +kernel)
abbrev YJ7_fill_53178 : My := (yJ7_fill_53178, cJ7_fill_53178, 4, (Option.none : Option Jvm.ClassFile.FieldType))
theorem mJ7_fill_53178 : zz_M YJ7_fill_53178 2 := ⟨by decide +kernel, zz_mem (i := 533) (by decide +kernel) (by decide +kernel), zz_mem (i := 100) (by decide +kernel) (by decide +kernel), by decide +kernel, by decide⟩
theorem tJ7_fill_53178 : Cond.static YJ7_fill_53178.1 ∈ zz_W := zz_mem (i := 532) (by decide +kernel) (by decide +kernel)
abbrev YX0_add : My := (yX0_add, cX0_add, 2, (Option.none : Option Jvm.ClassFile.FieldType))
theorem mX0_add : zz_M YX0_add 1 := ⟨by decide +kernel, zz_mem (i := 770) (by decide +kernel) (by decide +kernel), zz_mem (i := 86) (by decide +kernel) (by decide +kernel), by decide +kernel, by decide⟩
theorem vX0_add : zz_V YX0_add := ⟨zz_mem (i := 768) (by decide +kernel) (by decide +kernel), zz_mem (i := 769) (by decide +kernel) (by decide +kernel)⟩
abbrev YX0_at : My := (yX0_at, cX0_at, 2, (some .int))
theorem mX0_at : zz_M YX0_at 1 := ⟨by decide +kernel, zz_mem (i := 794) (by decide +kernel) (by decide +kernel), zz_mem (i := 86) (by decide +kernel) (by decide +kernel), by decide +kernel, by decide⟩
theorem vX0_at : zz_V YX0_at := ⟨zz_mem (i := 792) (by decide +kernel) (by decide +kernel), zz_mem (i := 793) (by decide +kernel) (by decide +kernel)⟩
abbrev YX0_begin : My := (yX0_begin, cX0_begin, 2, (Option.none : Option Jvm.ClassFile.FieldType))
theorem mX0_begin : zz_M YX0_begin 1 := ⟨by decide +kernel, zz_mem (i := 766) (by decide +kernel) (by decide +kernel), zz_mem (i := 86) (by decide +kernel) (by decide +kernel), by decide +kernel, by decide⟩
theorem vX0_begin : zz_V YX0_begin := ⟨zz_mem (i := 764) (by decide +kernel) (by decide +kernel), zz_mem (i := 765) (by decide +kernel) (by decide +kernel)⟩
abbrev YX0_clear : My := (yX0_clear, cX0_clear, 1, (Option.none : Option Jvm.ClassFile.FieldType))
theorem mX0_clear : zz_M YX0_clear 0 := ⟨by decide +kernel, zz_mem (i := 743) (by decide +kernel) (by decide +kernel), zz_mem (i := 86) (by decide +kernel) (by decide +kernel), by decide +kernel, by decide⟩
theorem vX0_clear : zz_V YX0_clear := ⟨zz_mem (i := 741) (by decide +kernel) (by decide +kernel), zz_mem (i := 742) (by decide +kernel) (by decide +kernel)⟩
abbrev YX0_copy : My := (yX0_copy, cX0_copy, 2, (Option.none : Option Jvm.ClassFile.FieldType))
theorem mX0_copy : zz_M YX0_copy 1 := ⟨by decide +kernel, zz_mem (i := 962) (by decide +kernel) (by decide +kernel), zz_mem (i := 86) (by decide +kernel) (by decide +kernel), by decide +kernel, by decide⟩
theorem vX0_copy : zz_V YX0_copy := ⟨zz_mem (i := 960) (by decide +kernel) (by decide +kernel), zz_mem (i := 961) (by decide +kernel) (by decide +kernel)⟩
abbrev YX0_different : My := (yX0_different, cX0_different, 3, (some .int))
theorem mX0_different : zz_M YX0_different 0 := ⟨by decide +kernel, zz_mem (i := 977) (by decide +kernel) (by decide +kernel), zz_mem (i := 86) (by decide +kernel) (by decide +kernel), by decide +kernel, by decide⟩
theorem vX0_different : zz_V YX0_different := ⟨zz_mem (i := 975) (by decide +kernel) (by decide +kernel), zz_mem (i := 976) (by decide +kernel) (by decide +kernel)⟩
abbrev YX0_hasPosition : My := (yX0_hasPosition, cX0_hasPosition, 1, (some .boolean))
theorem mX0_hasPosition : zz_M YX0_hasPosition 0 := ⟨by decide +kernel, zz_mem (i := 786) (by decide +kernel) (by decide +kernel), zz_mem (i := 86) (by decide +kernel) (by decide +kernel), by decide +kernel, by decide⟩
theorem vX0_hasPosition : zz_V YX0_hasPosition := ⟨zz_mem (i := 784) (by decide +kernel) (by decide +kernel), zz_mem (i := 785) (by decide +kernel) (by decide +kernel)⟩
abbrev YX0_init : My := (yX0_init, cX0_init, 1, (Option.none : Option Jvm.ClassFile.FieldType))
theorem mX0_init : zz_M YX0_init 0 := ⟨by decide +kernel, zz_mem (i := 115) (by decide +kernel) (by decide +kernel), zz_mem (i := 86) (by decide +kernel) (by decide +kernel), by decide +kernel, by decide⟩
theorem iX0_init : zz_I YX0_init := ⟨rfl, zz_mem (i := 114) (by decide +kernel) (by decide +kernel)⟩
abbrev YX0_made : My := (yX0_made, cX0_made, 1, (some .int))
theorem mX0_made : zz_M YX0_made 0 := ⟨by decide +kernel, zz_mem (i := 845) (by decide +kernel) (by decide +kernel), zz_mem (i := 86) (by decide +kernel) (by decide +kernel), by decide +kernel, by decide⟩
theorem vX0_made : zz_V YX0_made := ⟨zz_mem (i := 843) (by decide +kernel) (by decide +kernel), zz_mem (i := 844) (by decide +kernel) (by decide +kernel)⟩
abbrev YX0_occurrences : My := (yX0_occurrences, cX0_occurrences, 1, (some .int))
theorem mX0_occurrences : zz_M YX0_occurrences 0 := ⟨by decide +kernel, zz_mem (i := 851) (by decide +kernel) (by decide +kernel), zz_mem (i := 86) (by decide +kernel) (by decide +kernel), by decide +kernel, by decide⟩
theorem vX0_occurrences : zz_V YX0_occurrences := ⟨zz_mem (i := 849) (by decide +kernel) (by decide +kernel), zz_mem (i := 850) (by decide +kernel) (by decide +kernel)⟩
abbrev YX0_occurrencesUpTo : My := (yX0_occurrencesUpTo, cX0_occurrencesUpTo, 4, (some .int))
theorem mX0_occurrencesUpTo : zz_M YX0_occurrencesUpTo 1 := ⟨by decide +kernel, zz_mem (i := 855) (by decide +kernel) (by decide +kernel), zz_mem (i := 86) (by decide +kernel) (by decide +kernel), by decide +kernel, by decide⟩
theorem vX0_occurrencesUpTo : zz_V YX0_occurrencesUpTo := ⟨zz_mem (i := 854) (by decide +kernel) (by decide +kernel), zz_mem (i := 30) (by decide +kernel) (by decide +kernel)⟩
abbrev YX0_present : My := (yX0_present, cX0_present, 1, (some .int))
theorem mX0_present : zz_M YX0_present 0 := ⟨by decide +kernel, zz_mem (i := 790) (by decide +kernel) (by decide +kernel), zz_mem (i := 86) (by decide +kernel) (by decide +kernel), by decide +kernel, by decide⟩
theorem vX0_present : zz_V YX0_present := ⟨zz_mem (i := 788) (by decide +kernel) (by decide +kernel), zz_mem (i := 789) (by decide +kernel) (by decide +kernel)⟩
abbrev YX0_removeLast : My := (yX0_removeLast, cX0_removeLast, 1, (Option.none : Option Jvm.ClassFile.FieldType))
theorem mX0_removeLast : zz_M YX0_removeLast 0 := ⟨by decide +kernel, zz_mem (i := 863) (by decide +kernel) (by decide +kernel), zz_mem (i := 86) (by decide +kernel) (by decide +kernel), by decide +kernel, by decide⟩
theorem vX0_removeLast : zz_V YX0_removeLast := ⟨zz_mem (i := 861) (by decide +kernel) (by decide +kernel), zz_mem (i := 862) (by decide +kernel) (by decide +kernel)⟩
abbrev YX1_after : My := (yX1_after, cX1_after, 9, (some .int))
theorem mX1_after : zz_M YX1_after 2 := ⟨by decide +kernel, zz_mem (i := 660) (by decide +kernel) (by decide +kernel), zz_mem (i := 98) (by decide +kernel) (by decide +kernel), by decide +kernel, by decide⟩
theorem vX1_after : zz_V YX1_after := ⟨zz_mem (i := 658) (by decide +kernel) (by decide +kernel), zz_mem (i := 659) (by decide +kernel) (by decide +kernel)⟩
abbrev YX1_init : My := (yX1_init, cX1_init, 2, (Option.none : Option Jvm.ClassFile.FieldType))
theorem mX1_init : zz_M YX1_init 1 := ⟨by decide +kernel, zz_mem (i := 523) (by decide +kernel) (by decide +kernel), zz_mem (i := 98) (by decide +kernel) (by decide +kernel), by decide +kernel, by decide⟩
theorem iX1_init : zz_I YX1_init := ⟨rfl, zz_mem (i := 522) (by decide +kernel) (by decide +kernel)⟩
abbrev YX1_isAttacked : My := (yX1_isAttacked, cX1_isAttacked, 6, (some .boolean))
theorem mX1_isAttacked : zz_M YX1_isAttacked 1 := ⟨by decide +kernel, zz_mem (i := 619) (by decide +kernel) (by decide +kernel), zz_mem (i := 98) (by decide +kernel) (by decide +kernel), by decide +kernel, by decide⟩
theorem vX1_isAttacked : zz_V YX1_isAttacked := ⟨zz_mem (i := 617) (by decide +kernel) (by decide +kernel), zz_mem (i := 618) (by decide +kernel) (by decide +kernel)⟩
abbrev YX1_isOnBoard : My := (yX1_isOnBoard, cX1_isOnBoard, 2, (some .boolean))
theorem mX1_isOnBoard : zz_M YX1_isOnBoard 1 := ⟨by decide +kernel, zz_mem (i := 600) (by decide +kernel) (by decide +kernel), zz_mem (i := 98) (by decide +kernel) (by decide +kernel), by decide +kernel, by decide⟩
theorem vX1_isOnBoard : zz_V YX1_isOnBoard := ⟨zz_mem (i := 598) (by decide +kernel) (by decide +kernel), zz_mem (i := 599) (by decide +kernel) (by decide +kernel)⟩
abbrev YX1_isPossible : My := (yX1_isPossible, cX1_isPossible, 3, (some .boolean))
theorem mX1_isPossible : zz_M YX1_isPossible 0 := ⟨by decide +kernel, zz_mem (i := 608) (by decide +kernel) (by decide +kernel), zz_mem (i := 98) (by decide +kernel) (by decide +kernel), by decide +kernel, by decide⟩
theorem vX1_isPossible : zz_V YX1_isPossible := ⟨zz_mem (i := 606) (by decide +kernel) (by decide +kernel), zz_mem (i := 607) (by decide +kernel) (by decide +kernel)⟩
abbrev YX1_manOn : My := (yX1_manOn, cX1_manOn, 3, (some .int))
theorem mX1_manOn : zz_M YX1_manOn 1 := ⟨by decide +kernel, zz_mem (i := 664) (by decide +kernel) (by decide +kernel), zz_mem (i := 98) (by decide +kernel) (by decide +kernel), by decide +kernel, by decide⟩
theorem vX1_manOn : zz_V YX1_manOn := ⟨zz_mem (i := 663) (by decide +kernel) (by decide +kernel), zz_mem (i := 16) (by decide +kernel) (by decide +kernel)⟩
abbrev YX1_missing : My := (yX1_missing, cX1_missing, 3, (some .int))
theorem mX1_missing : zz_M YX1_missing 0 := ⟨by decide +kernel, zz_mem (i := 596) (by decide +kernel) (by decide +kernel), zz_mem (i := 98) (by decide +kernel) (by decide +kernel), by decide +kernel, by decide⟩
theorem vX1_missing : zz_V YX1_missing := ⟨zz_mem (i := 594) (by decide +kernel) (by decide +kernel), zz_mem (i := 595) (by decide +kernel) (by decide +kernel)⟩
abbrev YX1_placeOf : My := (yX1_placeOf, cX1_placeOf, 2, (some .int))
theorem mX1_placeOf : zz_M YX1_placeOf 1 := ⟨by decide +kernel, zz_mem (i := 604) (by decide +kernel) (by decide +kernel), zz_mem (i := 98) (by decide +kernel) (by decide +kernel), by decide +kernel, by decide⟩
theorem vX1_placeOf : zz_V YX1_placeOf := ⟨zz_mem (i := 602) (by decide +kernel) (by decide +kernel), zz_mem (i := 603) (by decide +kernel) (by decide +kernel)⟩
abbrev YX1_put : My := (yX1_put, cX1_put, 3, (Option.none : Option Jvm.ClassFile.FieldType))
theorem mX1_put : zz_M YX1_put 2 := ⟨by decide +kernel, zz_mem (i := 669) (by decide +kernel) (by decide +kernel), zz_mem (i := 98) (by decide +kernel) (by decide +kernel), by decide +kernel, by decide⟩
theorem vX1_put : zz_V YX1_put := ⟨zz_mem (i := 668) (by decide +kernel) (by decide +kernel), zz_mem (i := 17) (by decide +kernel) (by decide +kernel)⟩
abbrev YX1_read : My := (yX1_read, cX1_read, 4, (Option.none : Option Jvm.ClassFile.FieldType))
theorem mX1_read : zz_M YX1_read 1 := ⟨by decide +kernel, zz_mem (i := 588) (by decide +kernel) (by decide +kernel), zz_mem (i := 98) (by decide +kernel) (by decide +kernel), by decide +kernel, by decide⟩
theorem vX1_read : zz_V YX1_read := ⟨zz_mem (i := 586) (by decide +kernel) (by decide +kernel), zz_mem (i := 587) (by decide +kernel) (by decide +kernel)⟩
abbrev YX2_between : My := (yX2_between, cX2_between, 8, (some .int))
theorem mX2_between : zz_M YX2_between 4 := ⟨by decide +kernel, zz_mem (i := 553) (by decide +kernel) (by decide +kernel), zz_mem (i := 99) (by decide +kernel) (by decide +kernel), by decide +kernel, by decide⟩
theorem tX2_between : Cond.static YX2_between.1 ∈ zz_W := zz_mem (i := 552) (by decide +kernel) (by decide +kernel)
abbrev YX2_direction : My := (yX2_direction, cX2_direction, 1, (some .int))
theorem mX2_direction : zz_M YX2_direction 1 := ⟨by decide +kernel, zz_mem (i := 556) (by decide +kernel) (by decide +kernel), zz_mem (i := 99) (by decide +kernel) (by decide +kernel), by decide +kernel, by decide⟩
theorem tX2_direction : Cond.static YX2_direction.1 ∈ zz_W := zz_mem (i := 555) (by decide +kernel) (by decide +kernel)
abbrev YX2_init : My := (yX2_init, cX2_init, 6, (Option.none : Option Jvm.ClassFile.FieldType))
theorem mX2_init : zz_M YX2_init 1 := ⟨by decide +kernel, zz_mem (i := 529) (by decide +kernel) (by decide +kernel), zz_mem (i := 99) (by decide +kernel) (by decide +kernel), by decide +kernel, by decide⟩
theorem iX2_init : zz_I YX2_init := ⟨rfl, zz_mem (i := 528) (by decide +kernel) (by decide +kernel)⟩
abbrev YX2_isRide : My := (yX2_isRide, cX2_isRide, 5, (some .boolean))
theorem mX2_isRide : zz_M YX2_isRide 3 := ⟨by decide +kernel, zz_mem (i := 550) (by decide +kernel) (by decide +kernel), zz_mem (i := 99) (by decide +kernel) (by decide +kernel), by decide +kernel, by decide⟩
theorem tX2_isRide : Cond.static YX2_isRide.1 ∈ zz_W := zz_mem (i := 549) (by decide +kernel) (by decide +kernel)
abbrev YX2_isStep : My := (yX2_isStep, cX2_isStep, 3, (some .boolean))
theorem mX2_isStep : zz_M YX2_isStep 3 := ⟨by decide +kernel, zz_mem (i := 547) (by decide +kernel) (by decide +kernel), zz_mem (i := 99) (by decide +kernel) (by decide +kernel), by decide +kernel, by decide⟩
theorem tX2_isStep : Cond.static YX2_isStep.1 ∈ zz_W := zz_mem (i := 546) (by decide +kernel) (by decide +kernel)
abbrev YX2_way : My := (yX2_way, cX2_way, 9, (some .int))
theorem mX2_way : zz_M YX2_way 5 := ⟨by decide +kernel, zz_mem (i := 536) (by decide +kernel) (by decide +kernel), zz_mem (i := 99) (by decide +kernel) (by decide +kernel), by decide +kernel, by decide⟩
theorem tX2_way : Cond.static YX2_way.1 ∈ zz_W := zz_mem (i := 535) (by decide +kernel) (by decide +kernel)
abbrev YX2_wayOf : My := (yX2_wayOf, cX2_wayOf, 7, (some .int))
theorem mX2_wayOf : zz_M YX2_wayOf 4 := ⟨by decide +kernel, zz_mem (i := 631) (by decide +kernel) (by decide +kernel), zz_mem (i := 99) (by decide +kernel) (by decide +kernel), by decide +kernel, by decide⟩
theorem vX2_wayOf : zz_V YX2_wayOf := ⟨zz_mem (i := 629) (by decide +kernel) (by decide +kernel), zz_mem (i := 630) (by decide +kernel) (by decide +kernel)⟩
abbrev YX3_ahead : My := (yX3_ahead, cX3_ahead, 1, (some .int))
theorem mX3_ahead : zz_M YX3_ahead 0 := ⟨by decide +kernel, zz_mem (i := 235) (by decide +kernel) (by decide +kernel), zz_mem (i := 88) (by decide +kernel) (by decide +kernel), by decide +kernel, by decide⟩
theorem vX3_ahead : zz_V YX3_ahead := ⟨zz_mem (i := 234) (by decide +kernel) (by decide +kernel), zz_mem (i := 3) (by decide +kernel) (by decide +kernel)⟩
abbrev YX3_digitAhead : My := (yX3_digitAhead, cX3_digitAhead, 2, (some .int))
theorem mX3_digitAhead : zz_M YX3_digitAhead 0 := ⟨by decide +kernel, zz_mem (i := 231) (by decide +kernel) (by decide +kernel), zz_mem (i := 88) (by decide +kernel) (by decide +kernel), by decide +kernel, by decide⟩
theorem vX3_digitAhead : zz_V YX3_digitAhead := ⟨zz_mem (i := 230) (by decide +kernel) (by decide +kernel), zz_mem (i := 2) (by decide +kernel) (by decide +kernel)⟩
abbrev YX3_init : My := (yX3_init, cX3_init, 3, (Option.none : Option Jvm.ClassFile.FieldType))
theorem mX3_init : zz_M YX3_init 2 := ⟨by decide +kernel, zz_mem (i := 172) (by decide +kernel) (by decide +kernel), zz_mem (i := 88) (by decide +kernel) (by decide +kernel), by decide +kernel, by decide⟩
theorem iX3_init : zz_I YX3_init := ⟨rfl, zz_mem (i := 171) (by decide +kernel) (by decide +kernel)⟩
abbrev YX3_isGame : My := (yX3_isGame, cX3_isGame, 2, (some .boolean))
theorem mX3_isGame : zz_M YX3_isGame 0 := ⟨by decide +kernel, zz_mem (i := 223) (by decide +kernel) (by decide +kernel), zz_mem (i := 88) (by decide +kernel) (by decide +kernel), by decide +kernel, by decide⟩
theorem vX3_isGame : zz_V YX3_isGame := ⟨zz_mem (i := 221) (by decide +kernel) (by decide +kernel), zz_mem (i := 222) (by decide +kernel) (by decide +kernel)⟩
abbrev YX3_kindAhead : My := (yX3_kindAhead, cX3_kindAhead, 2, (some .int))
theorem mX3_kindAhead : zz_M YX3_kindAhead 0 := ⟨by decide +kernel, zz_mem (i := 251) (by decide +kernel) (by decide +kernel), zz_mem (i := 88) (by decide +kernel) (by decide +kernel), by decide +kernel, by decide⟩
theorem vX3_kindAhead : zz_V YX3_kindAhead := ⟨zz_mem (i := 250) (by decide +kernel) (by decide +kernel), zz_mem (i := 7) (by decide +kernel) (by decide +kernel)⟩
abbrev YX3_readClause : My := (yX3_readClause, cX3_readClause, 1, (some .boolean))
theorem mX3_readClause : zz_M YX3_readClause 0 := ⟨by decide +kernel, zz_mem (i := 340) (by decide +kernel) (by decide +kernel), zz_mem (i := 88) (by decide +kernel) (by decide +kernel), by decide +kernel, by decide⟩
theorem vX3_readClause : zz_V YX3_readClause := ⟨zz_mem (i := 339) (by decide +kernel) (by decide +kernel), zz_mem (i := 8) (by decide +kernel) (by decide +kernel)⟩
abbrev YX3_readHoles : My := (yX3_readHoles, cX3_readHoles, 4, (some .boolean))
theorem mX3_readHoles : zz_M YX3_readHoles 0 := ⟨by decide +kernel, zz_mem (i := 344) (by decide +kernel) (by decide +kernel), zz_mem (i := 88) (by decide +kernel) (by decide +kernel), by decide +kernel, by decide⟩
theorem vX3_readHoles : zz_V YX3_readHoles := ⟨zz_mem (i := 343) (by decide +kernel) (by decide +kernel), zz_mem (i := 9) (by decide +kernel) (by decide +kernel)⟩
abbrev YX3_readLimit : My := (yX3_readLimit, cX3_readLimit, 2, (some .boolean))
theorem mX3_readLimit : zz_M YX3_readLimit 0 := ⟨by decide +kernel, zz_mem (i := 352) (by decide +kernel) (by decide +kernel), zz_mem (i := 88) (by decide +kernel) (by decide +kernel), by decide +kernel, by decide⟩
theorem vX3_readLimit : zz_V YX3_readLimit := ⟨zz_mem (i := 351) (by decide +kernel) (by decide +kernel), zz_mem (i := 11) (by decide +kernel) (by decide +kernel)⟩
abbrev YX3_readMan : My := (yX3_readMan, cX3_readMan, 2, (some .boolean))
theorem mX3_readMan : zz_M YX3_readMan 0 := ⟨by decide +kernel, zz_mem (i := 247) (by decide +kernel) (by decide +kernel), zz_mem (i := 88) (by decide +kernel) (by decide +kernel), by decide +kernel, by decide⟩
theorem vX3_readMan : zz_V YX3_readMan := ⟨zz_mem (i := 246) (by decide +kernel) (by decide +kernel), zz_mem (i := 6) (by decide +kernel) (by decide +kernel)⟩
abbrev YX3_readMen : My := (yX3_readMen, cX3_readMen, 2, (some .boolean))
theorem mX3_readMen : zz_M YX3_readMen 0 := ⟨by decide +kernel, zz_mem (i := 243) (by decide +kernel) (by decide +kernel), zz_mem (i := 88) (by decide +kernel) (by decide +kernel), by decide +kernel, by decide⟩
theorem vX3_readMen : zz_V YX3_readMen := ⟨zz_mem (i := 242) (by decide +kernel) (by decide +kernel), zz_mem (i := 5) (by decide +kernel) (by decide +kernel)⟩
abbrev YX3_readNumber : My := (yX3_readNumber, cX3_readNumber, 3, (some .int))
theorem mX3_readNumber : zz_M YX3_readNumber 0 := ⟨by decide +kernel, zz_mem (i := 348) (by decide +kernel) (by decide +kernel), zz_mem (i := 88) (by decide +kernel) (by decide +kernel), by decide +kernel, by decide⟩
theorem vX3_readNumber : zz_V YX3_readNumber := ⟨zz_mem (i := 347) (by decide +kernel) (by decide +kernel), zz_mem (i := 10) (by decide +kernel) (by decide +kernel)⟩
abbrev YX3_readSize : My := (yX3_readSize, cX3_readSize, 1, (some .boolean))
theorem mX3_readSize : zz_M YX3_readSize 0 := ⟨by decide +kernel, zz_mem (i := 227) (by decide +kernel) (by decide +kernel), zz_mem (i := 88) (by decide +kernel) (by decide +kernel), by decide +kernel, by decide⟩
theorem vX3_readSize : zz_V YX3_readSize := ⟨zz_mem (i := 226) (by decide +kernel) (by decide +kernel), zz_mem (i := 1) (by decide +kernel) (by decide +kernel)⟩
abbrev YX3_take : My := (yX3_take, cX3_take, 2, (some .boolean))
theorem mX3_take : zz_M YX3_take 1 := ⟨by decide +kernel, zz_mem (i := 239) (by decide +kernel) (by decide +kernel), zz_mem (i := 88) (by decide +kernel) (by decide +kernel), by decide +kernel, by decide⟩
theorem vX3_take : zz_V YX3_take := ⟨zz_mem (i := 238) (by decide +kernel) (by decide +kernel), zz_mem (i := 4) (by decide +kernel) (by decide +kernel)⟩
abbrev YX4_canTell : My := (yX4_canTell, cX4_canTell, 3, (some .boolean))
theorem mX4_canTell : zz_M YX4_canTell 2 := ⟨by decide +kernel, zz_mem (i := 757) (by decide +kernel) (by decide +kernel), zz_mem (i := 96) (by decide +kernel) (by decide +kernel), by decide +kernel, by decide⟩
theorem vX4_canTell : zz_V YX4_canTell := ⟨zz_mem (i := 755) (by decide +kernel) (by decide +kernel), zz_mem (i := 756) (by decide +kernel) (by decide +kernel)⟩
abbrev YX4_changedMan : My := (yX4_changedMan, cX4_changedMan, 5, (some .int))
theorem mX4_changedMan : zz_M YX4_changedMan 3 := ⟨by decide +kernel, zz_mem (i := 830) (by decide +kernel) (by decide +kernel), zz_mem (i := 96) (by decide +kernel) (by decide +kernel), by decide +kernel, by decide⟩
theorem vX4_changedMan : zz_V YX4_changedMan := ⟨zz_mem (i := 828) (by decide +kernel) (by decide +kernel), zz_mem (i := 829) (by decide +kernel) (by decide +kernel)⟩
abbrev YX4_endOfMen : My := (yX4_endOfMen, cX4_endOfMen, 2, (some .int))
theorem mX4_endOfMen : zz_M YX4_endOfMen 1 := ⟨by decide +kernel, zz_mem (i := 627) (by decide +kernel) (by decide +kernel), zz_mem (i := 96) (by decide +kernel) (by decide +kernel), by decide +kernel, by decide⟩
theorem vX4_endOfMen : zz_V YX4_endOfMen := ⟨zz_mem (i := 625) (by decide +kernel) (by decide +kernel), zz_mem (i := 626) (by decide +kernel) (by decide +kernel)⟩
abbrev YX4_firstMan : My := (yX4_firstMan, cX4_firstMan, 2, (some .int))
theorem mX4_firstMan : zz_M YX4_firstMan 1 := ⟨by decide +kernel, zz_mem (i := 623) (by decide +kernel) (by decide +kernel), zz_mem (i := 96) (by decide +kernel) (by decide +kernel), by decide +kernel, by decide⟩
theorem vX4_firstMan : zz_V YX4_firstMan := ⟨zz_mem (i := 621) (by decide +kernel) (by decide +kernel), zz_mem (i := 622) (by decide +kernel) (by decide +kernel)⟩
abbrev YX4_hasPawns : My := (yX4_hasPawns, cX4_hasPawns, 2, (some .boolean))
theorem mX4_hasPawns : zz_M YX4_hasPawns 0 := ⟨by decide +kernel, zz_mem (i := 495) (by decide +kernel) (by decide +kernel), zz_mem (i := 96) (by decide +kernel) (by decide +kernel), by decide +kernel, by decide⟩
theorem vX4_hasPawns : zz_V YX4_hasPawns := ⟨zz_mem (i := 493) (by decide +kernel) (by decide +kernel), zz_mem (i := 494) (by decide +kernel) (by decide +kernel)⟩
abbrev YX4_indexOf : My := (yX4_indexOf, cX4_indexOf, 5, (some .int))
theorem mX4_indexOf : zz_M YX4_indexOf 4 := ⟨by decide +kernel, zz_mem (i := 673) (by decide +kernel) (by decide +kernel), zz_mem (i := 96) (by decide +kernel) (by decide +kernel), by decide +kernel, by decide⟩
theorem vX4_indexOf : zz_V YX4_indexOf := ⟨zz_mem (i := 671) (by decide +kernel) (by decide +kernel), zz_mem (i := 672) (by decide +kernel) (by decide +kernel)⟩
abbrev YX4_init : My := (yX4_init, cX4_init, 4, (Option.none : Option Jvm.ClassFile.FieldType))
theorem mX4_init : zz_M YX4_init 1 := ⟨by decide +kernel, zz_mem (i := 414) (by decide +kernel) (by decide +kernel), zz_mem (i := 96) (by decide +kernel) (by decide +kernel), by decide +kernel, by decide⟩
theorem iX4_init : zz_I YX4_init := ⟨rfl, zz_mem (i := 413) (by decide +kernel) (by decide +kernel)⟩
abbrev YX4_isMan : My := (yX4_isMan, cX4_isMan, 2, (some .boolean))
theorem mX4_isMan : zz_M YX4_isMan 1 := ⟨by decide +kernel, zz_mem (i := 503) (by decide +kernel) (by decide +kernel), zz_mem (i := 96) (by decide +kernel) (by decide +kernel), by decide +kernel, by decide⟩
theorem vX4_isMan : zz_V YX4_isMan := ⟨zz_mem (i := 501) (by decide +kernel) (by decide +kernel), zz_mem (i := 502) (by decide +kernel) (by decide +kernel)⟩
abbrev YX4_kindOf : My := (yX4_kindOf, cX4_kindOf, 2, (some .int))
theorem mX4_kindOf : zz_M YX4_kindOf 1 := ⟨by decide +kernel, zz_mem (i := 499) (by decide +kernel) (by decide +kernel), zz_mem (i := 96) (by decide +kernel) (by decide +kernel), by decide +kernel, by decide⟩
theorem vX4_kindOf : zz_V YX4_kindOf := ⟨zz_mem (i := 497) (by decide +kernel) (by decide +kernel), zz_mem (i := 498) (by decide +kernel) (by decide +kernel)⟩
abbrev YX4_sideOf : My := (yX4_sideOf, cX4_sideOf, 2, (some .int))
theorem mX4_sideOf : zz_M YX4_sideOf 1 := ⟨by decide +kernel, zz_mem (i := 541) (by decide +kernel) (by decide +kernel), zz_mem (i := 96) (by decide +kernel) (by decide +kernel), by decide +kernel, by decide⟩
theorem vX4_sideOf : zz_V YX4_sideOf := ⟨zz_mem (i := 539) (by decide +kernel) (by decide +kernel), zz_mem (i := 540) (by decide +kernel) (by decide +kernel)⟩
abbrev YX4_squareOf : My := (yX4_squareOf, cX4_squareOf, 4, (some .int))
theorem mX4_squareOf : zz_M YX4_squareOf 2 := ⟨by decide +kernel, zz_mem (i := 592) (by decide +kernel) (by decide +kernel), zz_mem (i := 96) (by decide +kernel) (by decide +kernel), by decide +kernel, by decide⟩
theorem vX4_squareOf : zz_V YX4_squareOf := ⟨zz_mem (i := 590) (by decide +kernel) (by decide +kernel), zz_mem (i := 591) (by decide +kernel) (by decide +kernel)⟩
abbrev YX4_weighed : My := (yX4_weighed, cX4_weighed, 3, (some .int))
theorem mX4_weighed : zz_M YX4_weighed 2 := ⟨by decide +kernel, zz_mem (i := 644) (by decide +kernel) (by decide +kernel), zz_mem (i := 96) (by decide +kernel) (by decide +kernel), by decide +kernel, by decide⟩
theorem vX4_weighed : zz_V YX4_weighed := ⟨zz_mem (i := 642) (by decide +kernel) (by decide +kernel), zz_mem (i := 643) (by decide +kernel) (by decide +kernel)⟩
abbrev YX5_differentImages : My := (yX5_differentImages, cX5_differentImages, 4, (some .int))
theorem mX5_differentImages : zz_M YX5_differentImages 1 := ⟨by decide +kernel, zz_mem (i := 808) (by decide +kernel) (by decide +kernel), zz_mem (i := 97) (by decide +kernel) (by decide +kernel), by decide +kernel, by decide⟩
theorem vX5_differentImages : zz_V YX5_differentImages := ⟨zz_mem (i := 806) (by decide +kernel) (by decide +kernel), zz_mem (i := 807) (by decide +kernel) (by decide +kernel)⟩
abbrev YX5_imageOf : My := (yX5_imageOf, cX5_imageOf, 6, (some .int))
theorem mX5_imageOf : zz_M YX5_imageOf 2 := ⟨by decide +kernel, zz_mem (i := 639) (by decide +kernel) (by decide +kernel), zz_mem (i := 97) (by decide +kernel) (by decide +kernel), by decide +kernel, by decide⟩
theorem vX5_imageOf : zz_V YX5_imageOf := ⟨zz_mem (i := 637) (by decide +kernel) (by decide +kernel), zz_mem (i := 638) (by decide +kernel) (by decide +kernel)⟩
abbrev YX5_init : My := (yX5_init, cX5_init, 4, (Option.none : Option Jvm.ClassFile.FieldType))
theorem mX5_init : zz_M YX5_init 1 := ⟨by decide +kernel, zz_mem (i := 490) (by decide +kernel) (by decide +kernel), zz_mem (i := 97) (by decide +kernel) (by decide +kernel), by decide +kernel, by decide⟩
theorem iX5_init : zz_I YX5_init := ⟨rfl, zz_mem (i := 489) (by decide +kernel) (by decide +kernel)⟩
abbrev YX5_isRepeated : My := (yX5_isRepeated, cX5_isRepeated, 5, (some .boolean))
theorem mX5_isRepeated : zz_M YX5_isRepeated 2 := ⟨by decide +kernel, zz_mem (i := 812) (by decide +kernel) (by decide +kernel), zz_mem (i := 97) (by decide +kernel) (by decide +kernel), by decide +kernel, by decide⟩
theorem vX5_isRepeated : zz_V YX5_isRepeated := ⟨zz_mem (i := 810) (by decide +kernel) (by decide +kernel), zz_mem (i := 811) (by decide +kernel) (by decide +kernel)⟩
abbrev YX5_leastImage : My := (yX5_leastImage, cX5_leastImage, 4, (some .int))
theorem mX5_leastImage : zz_M YX5_leastImage 1 := ⟨by decide +kernel, zz_mem (i := 635) (by decide +kernel) (by decide +kernel), zz_mem (i := 97) (by decide +kernel) (by decide +kernel), by decide +kernel, by decide⟩
theorem vX5_leastImage : zz_V YX5_leastImage := ⟨zz_mem (i := 633) (by decide +kernel) (by decide +kernel), zz_mem (i := 634) (by decide +kernel) (by decide +kernel)⟩
abbrev YX5_writeMap : My := (yX5_writeMap, cX5_writeMap, 9, (some .boolean))
theorem mX5_writeMap : zz_M YX5_writeMap 4 := ⟨by decide +kernel, zz_mem (i := 506) (by decide +kernel) (by decide +kernel), zz_mem (i := 97) (by decide +kernel) (by decide +kernel), by decide +kernel, by decide⟩
theorem tX5_writeMap : Cond.static YX5_writeMap.1 ∈ zz_W := zz_mem (i := 505) (by decide +kernel) (by decide +kernel)
abbrev YX6_bestStep : My := (yX6_bestStep, cX6_bestStep, 8, (some .int))
theorem mX6_bestStep : zz_M YX6_bestStep 1 := ⟨by decide +kernel, zz_mem (i := 871) (by decide +kernel) (by decide +kernel), zz_mem (i := 95) (by decide +kernel) (by decide +kernel), by decide +kernel, by decide⟩
theorem vX6_bestStep : zz_V YX6_bestStep := ⟨zz_mem (i := 869) (by decide +kernel) (by decide +kernel), zz_mem (i := 870) (by decide +kernel) (by decide +kernel)⟩
abbrev YX6_build : My := (yX6_build, cX6_build, 4, (Option.none : Option Jvm.ClassFile.FieldType))
theorem mX6_build : zz_M YX6_build 1 := ⟨by decide +kernel, zz_mem (i := 485) (by decide +kernel) (by decide +kernel), zz_mem (i := 95) (by decide +kernel) (by decide +kernel), by decide +kernel, by decide⟩
theorem vX6_build : zz_V YX6_build := ⟨zz_mem (i := 483) (by decide +kernel) (by decide +kernel), zz_mem (i := 484) (by decide +kernel) (by decide +kernel)⟩
abbrev YX6_canonicalOf : My := (yX6_canonicalOf, cX6_canonicalOf, 2, (some .int))
theorem mX6_canonicalOf : zz_M YX6_canonicalOf 1 := ⟨by decide +kernel, zz_mem (i := 711) (by decide +kernel) (by decide +kernel), zz_mem (i := 95) (by decide +kernel) (by decide +kernel), by decide +kernel, by decide⟩
theorem vX6_canonicalOf : zz_V YX6_canonicalOf := ⟨zz_mem (i := 709) (by decide +kernel) (by decide +kernel), zz_mem (i := 710) (by decide +kernel) (by decide +kernel)⟩
abbrev YX6_captures : My := (yX6_captures, cX6_captures, 3, (some .boolean))
theorem mX6_captures : zz_M YX6_captures 2 := ⟨by decide +kernel, zz_mem (i := 731) (by decide +kernel) (by decide +kernel), zz_mem (i := 95) (by decide +kernel) (by decide +kernel), by decide +kernel, by decide⟩
theorem vX6_captures : zz_V YX6_captures := ⟨zz_mem (i := 729) (by decide +kernel) (by decide +kernel), zz_mem (i := 730) (by decide +kernel) (by decide +kernel)⟩
abbrev YX6_distanceOf : My := (yX6_distanceOf, cX6_distanceOf, 3, (some .int))
theorem mX6_distanceOf : zz_M YX6_distanceOf 2 := ⟨by decide +kernel, zz_mem (i := 919) (by decide +kernel) (by decide +kernel), zz_mem (i := 95) (by decide +kernel) (by decide +kernel), by decide +kernel, by decide⟩
theorem vX6_distanceOf : zz_V YX6_distanceOf := ⟨zz_mem (i := 917) (by decide +kernel) (by decide +kernel), zz_mem (i := 918) (by decide +kernel) (by decide +kernel)⟩
abbrev YX6_endValue : My := (yX6_endValue, cX6_endValue, 2, (some .int))
theorem mX6_endValue : zz_M YX6_endValue 1 := ⟨by decide +kernel, zz_mem (i := 694) (by decide +kernel) (by decide +kernel), zz_mem (i := 95) (by decide +kernel) (by decide +kernel), by decide +kernel, by decide⟩
theorem vX6_endValue : zz_V YX6_endValue := ⟨zz_mem (i := 693) (by decide +kernel) (by decide +kernel), zz_mem (i := 21) (by decide +kernel) (by decide +kernel)⟩
abbrev YX6_findConversions : My := (yX6_findConversions, cX6_findConversions, 4, (some .boolean))
theorem mX6_findConversions : zz_M YX6_findConversions 1 := ⟨by decide +kernel, zz_mem (i := 723) (by decide +kernel) (by decide +kernel), zz_mem (i := 95) (by decide +kernel) (by decide +kernel), by decide +kernel, by decide⟩
theorem vX6_findConversions : zz_V YX6_findConversions := ⟨zz_mem (i := 722) (by decide +kernel) (by decide +kernel), zz_mem (i := 24) (by decide +kernel) (by decide +kernel)⟩
abbrev YX6_findEnds : My := (yX6_findEnds, cX6_findEnds, 2, (Option.none : Option Jvm.ClassFile.FieldType))
theorem mX6_findEnds : zz_M YX6_findEnds 0 := ⟨by decide +kernel, zz_mem (i := 678) (by decide +kernel) (by decide +kernel), zz_mem (i := 95) (by decide +kernel) (by decide +kernel), by decide +kernel, by decide⟩
theorem vX6_findEnds : zz_V YX6_findEnds := ⟨zz_mem (i := 677) (by decide +kernel) (by decide +kernel), zz_mem (i := 18) (by decide +kernel) (by decide +kernel)⟩
abbrev YX6_findPositions : My := (yX6_findPositions, cX6_findPositions, 2, (Option.none : Option Jvm.ClassFile.FieldType))
theorem mX6_findPositions : zz_M YX6_findPositions 0 := ⟨by decide +kernel, zz_mem (i := 584) (by decide +kernel) (by decide +kernel), zz_mem (i := 95) (by decide +kernel) (by decide +kernel), by decide +kernel, by decide⟩
theorem vX6_findPositions : zz_V YX6_findPositions := ⟨zz_mem (i := 583) (by decide +kernel) (by decide +kernel), zz_mem (i := 13) (by decide +kernel) (by decide +kernel)⟩
abbrev YX6_findSteps : My := (yX6_findSteps, cX6_findSteps, 2, (Option.none : Option Jvm.ClassFile.FieldType))
theorem mX6_findSteps : zz_M YX6_findSteps 0 := ⟨by decide +kernel, zz_mem (i := 649) (by decide +kernel) (by decide +kernel), zz_mem (i := 95) (by decide +kernel) (by decide +kernel), by decide +kernel, by decide⟩
theorem vX6_findSteps : zz_V YX6_findSteps := ⟨zz_mem (i := 648) (by decide +kernel) (by decide +kernel), zz_mem (i := 14) (by decide +kernel) (by decide +kernel)⟩
abbrev YX6_findValues : My := (yX6_findValues, cX6_findValues, 5, (some .boolean))
theorem mX6_findValues : zz_M YX6_findValues 1 := ⟨by decide +kernel, zz_mem (i := 703) (by decide +kernel) (by decide +kernel), zz_mem (i := 95) (by decide +kernel) (by decide +kernel), by decide +kernel, by decide⟩
theorem vX6_findValues : zz_V YX6_findValues := ⟨zz_mem (i := 702) (by decide +kernel) (by decide +kernel), zz_mem (i := 22) (by decide +kernel) (by decide +kernel)⟩
abbrev YX6_followBest : My := (yX6_followBest, cX6_followBest, 5, (some .int))
theorem mX6_followBest : zz_M YX6_followBest 1 := ⟨by decide +kernel, zz_mem (i := 880) (by decide +kernel) (by decide +kernel), zz_mem (i := 95) (by decide +kernel) (by decide +kernel), by decide +kernel, by decide⟩
theorem vX6_followBest : zz_V YX6_followBest := ⟨zz_mem (i := 878) (by decide +kernel) (by decide +kernel), zz_mem (i := 879) (by decide +kernel) (by decide +kernel)⟩
abbrev YX6_followed : My := (yX6_followed, cX6_followed, 2, (some .int))
theorem mX6_followed : zz_M YX6_followed 1 := ⟨by decide +kernel, zz_mem (i := 889) (by decide +kernel) (by decide +kernel), zz_mem (i := 95) (by decide +kernel) (by decide +kernel), by decide +kernel, by decide⟩
theorem vX6_followed : zz_V YX6_followed := ⟨zz_mem (i := 887) (by decide +kernel) (by decide +kernel), zz_mem (i := 888) (by decide +kernel) (by decide +kernel)⟩
abbrev YX6_init : My := (yX6_init, cX6_init, 1, (Option.none : Option Jvm.ClassFile.FieldType))
theorem mX6_init : zz_M YX6_init 0 := ⟨by decide +kernel, zz_mem (i := 361) (by decide +kernel) (by decide +kernel), zz_mem (i := 95) (by decide +kernel) (by decide +kernel), by decide +kernel, by decide⟩
theorem iX6_init : zz_I YX6_init := ⟨rfl, zz_mem (i := 360) (by decide +kernel) (by decide +kernel)⟩
abbrev YX6_isConverted : My := (yX6_isConverted, cX6_isConverted, 8, (some .boolean))
theorem mX6_isConverted : zz_M YX6_isConverted 2 := ⟨by decide +kernel, zz_mem (i := 727) (by decide +kernel) (by decide +kernel), zz_mem (i := 95) (by decide +kernel) (by decide +kernel), by decide +kernel, by decide⟩
theorem vX6_isConverted : zz_V YX6_isConverted := ⟨zz_mem (i := 726) (by decide +kernel) (by decide +kernel), zz_mem (i := 25) (by decide +kernel) (by decide +kernel)⟩
abbrev YX6_isEnd : My := (yX6_isEnd, cX6_isEnd, 2, (some .boolean))
theorem mX6_isEnd : zz_M YX6_isEnd 1 := ⟨by decide +kernel, zz_mem (i := 682) (by decide +kernel) (by decide +kernel), zz_mem (i := 95) (by decide +kernel) (by decide +kernel), by decide +kernel, by decide⟩
theorem vX6_isEnd : zz_V YX6_isEnd := ⟨zz_mem (i := 681) (by decide +kernel) (by decide +kernel), zz_mem (i := 19) (by decide +kernel) (by decide +kernel)⟩
abbrev YX6_isFollowed : My := (yX6_isFollowed, cX6_isFollowed, 4, (some .boolean))
theorem mX6_isFollowed : zz_M YX6_isFollowed 2 := ⟨by decide +kernel, zz_mem (i := 885) (by decide +kernel) (by decide +kernel), zz_mem (i := 95) (by decide +kernel) (by decide +kernel), by decide +kernel, by decide⟩
theorem vX6_isFollowed : zz_V YX6_isFollowed := ⟨zz_mem (i := 884) (by decide +kernel) (by decide +kernel), zz_mem (i := 31) (by decide +kernel) (by decide +kernel)⟩
abbrev YX6_isIndex : My := (yX6_isIndex, cX6_isIndex, 2, (some .boolean))
theorem mX6_isIndex : zz_M YX6_isIndex 1 := ⟨by decide +kernel, zz_mem (i := 690) (by decide +kernel) (by decide +kernel), zz_mem (i := 95) (by decide +kernel) (by decide +kernel), by decide +kernel, by decide⟩
theorem vX6_isIndex : zz_V YX6_isIndex := ⟨zz_mem (i := 689) (by decide +kernel) (by decide +kernel), zz_mem (i := 20) (by decide +kernel) (by decide +kernel)⟩
abbrev YX6_isMutualZugzwang : My := (yX6_isMutualZugzwang, cX6_isMutualZugzwang, 2, (some .boolean))
theorem mX6_isMutualZugzwang : zz_M YX6_isMutualZugzwang 1 := ⟨by decide +kernel, zz_mem (i := 940) (by decide +kernel) (by decide +kernel), zz_mem (i := 95) (by decide +kernel) (by decide +kernel), by decide +kernel, by decide⟩
theorem vX6_isMutualZugzwang : zz_V YX6_isMutualZugzwang := ⟨zz_mem (i := 939) (by decide +kernel) (by decide +kernel), zz_mem (i := 32) (by decide +kernel) (by decide +kernel)⟩
abbrev YX6_isPossible : My := (yX6_isPossible, cX6_isPossible, 2, (some .boolean))
theorem mX6_isPossible : zz_M YX6_isPossible 1 := ⟨by decide +kernel, zz_mem (i := 762) (by decide +kernel) (by decide +kernel), zz_mem (i := 95) (by decide +kernel) (by decide +kernel), by decide +kernel, by decide⟩
theorem vX6_isPossible : zz_V YX6_isPossible := ⟨zz_mem (i := 760) (by decide +kernel) (by decide +kernel), zz_mem (i := 761) (by decide +kernel) (by decide +kernel)⟩
abbrev YX6_isRoyalAttacked : My := (yX6_isRoyalAttacked, cX6_isRoyalAttacked, 2, (some .boolean))
theorem mX6_isRoyalAttacked : zz_M YX6_isRoyalAttacked 1 := ⟨by decide +kernel, zz_mem (i := 698) (by decide +kernel) (by decide +kernel), zz_mem (i := 95) (by decide +kernel) (by decide +kernel), by decide +kernel, by decide⟩
theorem vX6_isRoyalAttacked : zz_V YX6_isRoyalAttacked := ⟨zz_mem (i := 696) (by decide +kernel) (by decide +kernel), zz_mem (i := 697) (by decide +kernel) (by decide +kernel)⟩
abbrev YX6_mostDistant : My := (yX6_mostDistant, cX6_mostDistant, 5, (some .int))
theorem mX6_mostDistant : zz_M YX6_mostDistant 1 := ⟨by decide +kernel, zz_mem (i := 927) (by decide +kernel) (by decide +kernel), zz_mem (i := 95) (by decide +kernel) (by decide +kernel), by decide +kernel, by decide⟩
theorem vX6_mostDistant : zz_V YX6_mostDistant := ⟨zz_mem (i := 925) (by decide +kernel) (by decide +kernel), zz_mem (i := 926) (by decide +kernel) (by decide +kernel)⟩
abbrev YX6_mutualZugzwang : My := (yX6_mutualZugzwang, cX6_mutualZugzwang, 4, (some .int))
theorem mX6_mutualZugzwang : zz_M YX6_mutualZugzwang 1 := ⟨by decide +kernel, zz_mem (i := 944) (by decide +kernel) (by decide +kernel), zz_mem (i := 95) (by decide +kernel) (by decide +kernel), by decide +kernel, by decide⟩
theorem vX6_mutualZugzwang : zz_V YX6_mutualZugzwang := ⟨zz_mem (i := 942) (by decide +kernel) (by decide +kernel), zz_mem (i := 943) (by decide +kernel) (by decide +kernel)⟩
abbrev YX6_mutualZugzwangs : My := (yX6_mutualZugzwangs, cX6_mutualZugzwangs, 3, (some .int))
theorem mX6_mutualZugzwangs : zz_M YX6_mutualZugzwangs 0 := ⟨by decide +kernel, zz_mem (i := 936) (by decide +kernel) (by decide +kernel), zz_mem (i := 95) (by decide +kernel) (by decide +kernel), by decide +kernel, by decide⟩
theorem vX6_mutualZugzwangs : zz_V YX6_mutualZugzwangs := ⟨zz_mem (i := 934) (by decide +kernel) (by decide +kernel), zz_mem (i := 935) (by decide +kernel) (by decide +kernel)⟩
abbrev YX6_numberWithDistance : My := (yX6_numberWithDistance, cX6_numberWithDistance, 6, (some .int))
theorem mX6_numberWithDistance : zz_M YX6_numberWithDistance 3 := ⟨by decide +kernel, zz_mem (i := 915) (by decide +kernel) (by decide +kernel), zz_mem (i := 95) (by decide +kernel) (by decide +kernel), by decide +kernel, by decide⟩
theorem vX6_numberWithDistance : zz_V YX6_numberWithDistance := ⟨zz_mem (i := 913) (by decide +kernel) (by decide +kernel), zz_mem (i := 914) (by decide +kernel) (by decide +kernel)⟩
abbrev YX6_numberWithValue : My := (yX6_numberWithValue, cX6_numberWithValue, 7, (some .int))
theorem mX6_numberWithValue : zz_M YX6_numberWithValue 3 := ⟨by decide +kernel, zz_mem (i := 906) (by decide +kernel) (by decide +kernel), zz_mem (i := 95) (by decide +kernel) (by decide +kernel), by decide +kernel, by decide⟩
theorem vX6_numberWithValue : zz_V YX6_numberWithValue := ⟨zz_mem (i := 904) (by decide +kernel) (by decide +kernel), zz_mem (i := 905) (by decide +kernel) (by decide +kernel)⟩
abbrev YX6_searched : My := (yX6_searched, cX6_searched, 5, (some .int))
theorem mX6_searched : zz_M YX6_searched 3 := ⟨by decide +kernel, zz_mem (i := 896) (by decide +kernel) (by decide +kernel), zz_mem (i := 95) (by decide +kernel) (by decide +kernel), by decide +kernel, by decide⟩
theorem tX6_searched : Cond.static YX6_searched.1 ∈ zz_W := zz_mem (i := 895) (by decide +kernel) (by decide +kernel)
abbrev YX6_shareWithImages : My := (yX6_shareWithImages, cX6_shareWithImages, 3, (Option.none : Option Jvm.ClassFile.FieldType))
theorem mX6_shareWithImages : zz_M YX6_shareWithImages 0 := ⟨by decide +kernel, zz_mem (i := 739) (by decide +kernel) (by decide +kernel), zz_mem (i := 95) (by decide +kernel) (by decide +kernel), by decide +kernel, by decide⟩
theorem vX6_shareWithImages : zz_V YX6_shareWithImages := ⟨zz_mem (i := 738) (by decide +kernel) (by decide +kernel), zz_mem (i := 26) (by decide +kernel) (by decide +kernel)⟩
abbrev YX6_stepOf : My := (yX6_stepOf, cX6_stepOf, 4, (some .int))
theorem mX6_stepOf : zz_M YX6_stepOf 2 := ⟨by decide +kernel, zz_mem (i := 826) (by decide +kernel) (by decide +kernel), zz_mem (i := 95) (by decide +kernel) (by decide +kernel), by decide +kernel, by decide⟩
theorem vX6_stepOf : zz_V YX6_stepOf := ⟨zz_mem (i := 824) (by decide +kernel) (by decide +kernel), zz_mem (i := 825) (by decide +kernel) (by decide +kernel)⟩
abbrev YX6_stepsOf : My := (yX6_stepsOf, cX6_stepsOf, 2, (some .int))
theorem mX6_stepsOf : zz_M YX6_stepsOf 1 := ⟨by decide +kernel, zz_mem (i := 686) (by decide +kernel) (by decide +kernel), zz_mem (i := 95) (by decide +kernel) (by decide +kernel), by decide +kernel, by decide⟩
theorem vX6_stepsOf : zz_V YX6_stepsOf := ⟨zz_mem (i := 684) (by decide +kernel) (by decide +kernel), zz_mem (i := 685) (by decide +kernel) (by decide +kernel)⟩
abbrev YX6_toConversionOf : My := (yX6_toConversionOf, cX6_toConversionOf, 2, (some .int))
theorem mX6_toConversionOf : zz_M YX6_toConversionOf 1 := ⟨by decide +kernel, zz_mem (i := 735) (by decide +kernel) (by decide +kernel), zz_mem (i := 95) (by decide +kernel) (by decide +kernel), by decide +kernel, by decide⟩
theorem vX6_toConversionOf : zz_V YX6_toConversionOf := ⟨zz_mem (i := 733) (by decide +kernel) (by decide +kernel), zz_mem (i := 734) (by decide +kernel) (by decide +kernel)⟩
abbrev YX6_toEndOf : My := (yX6_toEndOf, cX6_toEndOf, 2, (some .int))
theorem mX6_toEndOf : zz_M YX6_toEndOf 1 := ⟨by decide +kernel, zz_mem (i := 715) (by decide +kernel) (by decide +kernel), zz_mem (i := 95) (by decide +kernel) (by decide +kernel), by decide +kernel, by decide⟩
theorem vX6_toEndOf : zz_V YX6_toEndOf := ⟨zz_mem (i := 713) (by decide +kernel) (by decide +kernel), zz_mem (i := 714) (by decide +kernel) (by decide +kernel)⟩
abbrev YX6_unlikeImages : My := (yX6_unlikeImages, cX6_unlikeImages, 7, (some .int))
theorem mX6_unlikeImages : zz_M YX6_unlikeImages 1 := ⟨by decide +kernel, zz_mem (i := 952) (by decide +kernel) (by decide +kernel), zz_mem (i := 95) (by decide +kernel) (by decide +kernel), by decide +kernel, by decide⟩
theorem vX6_unlikeImages : zz_V YX6_unlikeImages := ⟨zz_mem (i := 950) (by decide +kernel) (by decide +kernel), zz_mem (i := 951) (by decide +kernel) (by decide +kernel)⟩
abbrev YX6_valueFromSteps : My := (yX6_valueFromSteps, cX6_valueFromSteps, 7, (some .int))
theorem mX6_valueFromSteps : zz_M YX6_valueFromSteps 2 := ⟨by decide +kernel, zz_mem (i := 707) (by decide +kernel) (by decide +kernel), zz_mem (i := 95) (by decide +kernel) (by decide +kernel), by decide +kernel, by decide⟩
theorem vX6_valueFromSteps : zz_V YX6_valueFromSteps := ⟨zz_mem (i := 706) (by decide +kernel) (by decide +kernel), zz_mem (i := 23) (by decide +kernel) (by decide +kernel)⟩
abbrev YX6_valueOf : My := (yX6_valueOf, cX6_valueOf, 2, (some .int))
theorem mX6_valueOf : zz_M YX6_valueOf 1 := ⟨by decide +kernel, zz_mem (i := 719) (by decide +kernel) (by decide +kernel), zz_mem (i := 95) (by decide +kernel) (by decide +kernel), by decide +kernel, by decide⟩
theorem vX6_valueOf : zz_V YX6_valueOf := ⟨zz_mem (i := 717) (by decide +kernel) (by decide +kernel), zz_mem (i := 718) (by decide +kernel) (by decide +kernel)⟩
abbrev YX6_verdictOf : My := (yX6_verdictOf, cX6_verdictOf, 2, (some .int))
theorem mX6_verdictOf : zz_M YX6_verdictOf 1 := ⟨by decide +kernel, zz_mem (i := 801) (by decide +kernel) (by decide +kernel), zz_mem (i := 95) (by decide +kernel) (by decide +kernel), by decide +kernel, by decide⟩
theorem vX6_verdictOf : zz_V YX6_verdictOf := ⟨zz_mem (i := 799) (by decide +kernel) (by decide +kernel), zz_mem (i := 800) (by decide +kernel) (by decide +kernel)⟩
abbrev YX6_writeSteps : My := (yX6_writeSteps, cX6_writeSteps, 6, (Option.none : Option Jvm.ClassFile.FieldType))
theorem mX6_writeSteps : zz_M YX6_writeSteps 1 := ⟨by decide +kernel, zz_mem (i := 653) (by decide +kernel) (by decide +kernel), zz_mem (i := 95) (by decide +kernel) (by decide +kernel), by decide +kernel, by decide⟩
theorem vX6_writeSteps : zz_V YX6_writeSteps := ⟨zz_mem (i := 652) (by decide +kernel) (by decide +kernel), zz_mem (i := 15) (by decide +kernel) (by decide +kernel)⟩
abbrev YX7_append : My := (yX7_append, cX7_append, 2, (Option.none : Option Jvm.ClassFile.FieldType))
theorem mX7_append : zz_M YX7_append 1 := ⟨by decide +kernel, zz_mem (i := 163) (by decide +kernel) (by decide +kernel), zz_mem (i := 85) (by decide +kernel) (by decide +kernel), by decide +kernel, by decide⟩
theorem vX7_append : zz_V YX7_append := ⟨zz_mem (i := 162) (by decide +kernel) (by decide +kernel), zz_mem (i := 0) (by decide +kernel) (by decide +kernel)⟩
abbrev YX7_back : My := (yX7_back, cX7_back, 1, (some .int))
theorem mX7_back : zz_M YX7_back 0 := ⟨by decide +kernel, zz_mem (i := 859) (by decide +kernel) (by decide +kernel), zz_mem (i := 85) (by decide +kernel) (by decide +kernel), by decide +kernel, by decide⟩
theorem vX7_back : zz_V YX7_back := ⟨zz_mem (i := 857) (by decide +kernel) (by decide +kernel), zz_mem (i := 858) (by decide +kernel) (by decide +kernel)⟩
abbrev YX7_best : My := (yX7_best, cX7_best, 2, (some .int))
theorem mX7_best : zz_M YX7_best 0 := ⟨by decide +kernel, zz_mem (i := 867) (by decide +kernel) (by decide +kernel), zz_mem (i := 85) (by decide +kernel) (by decide +kernel), by decide +kernel, by decide⟩
theorem vX7_best : zz_V YX7_best := ⟨zz_mem (i := 865) (by decide +kernel) (by decide +kernel), zz_mem (i := 866) (by decide +kernel) (by decide +kernel)⟩
abbrev YX7_board : My := (yX7_board, cX7_board, 3, (some .int))
theorem mX7_board : zz_M YX7_board 1 := ⟨by decide +kernel, zz_mem (i := 778) (by decide +kernel) (by decide +kernel), zz_mem (i := 85) (by decide +kernel) (by decide +kernel), by decide +kernel, by decide⟩
theorem vX7_board : zz_V YX7_board := ⟨zz_mem (i := 776) (by decide +kernel) (by decide +kernel), zz_mem (i := 777) (by decide +kernel) (by decide +kernel)⟩
abbrev YX7_capturedMan : My := (yX7_capturedMan, cX7_capturedMan, 4, (some .int))
theorem mX7_capturedMan : zz_M YX7_capturedMan 2 := ⟨by decide +kernel, zz_mem (i := 837) (by decide +kernel) (by decide +kernel), zz_mem (i := 85) (by decide +kernel) (by decide +kernel), by decide +kernel, by decide⟩
theorem vX7_capturedMan : zz_V YX7_capturedMan := ⟨zz_mem (i := 836) (by decide +kernel) (by decide +kernel), zz_mem (i := 29) (by decide +kernel) (by decide +kernel)⟩
abbrev YX7_count : My := (yX7_count, cX7_count, 2, (some .int))
theorem mX7_count : zz_M YX7_count 1 := ⟨by decide +kernel, zz_mem (i := 973) (by decide +kernel) (by decide +kernel), zz_mem (i := 85) (by decide +kernel) (by decide +kernel), by decide +kernel, by decide⟩
theorem vX7_count : zz_V YX7_count := ⟨zz_mem (i := 971) (by decide +kernel) (by decide +kernel), zz_mem (i := 972) (by decide +kernel) (by decide +kernel)⟩
abbrev YX7_define : My := (yX7_define, cX7_define, 3, (some .int))
theorem mX7_define : zz_M YX7_define 0 := ⟨by decide +kernel, zz_mem (i := 167) (by decide +kernel) (by decide +kernel), zz_mem (i := 85) (by decide +kernel) (by decide +kernel), by decide +kernel, by decide⟩
theorem vX7_define : zz_V YX7_define := ⟨zz_mem (i := 165) (by decide +kernel) (by decide +kernel), zz_mem (i := 166) (by decide +kernel) (by decide +kernel)⟩
abbrev YX7_feed : My := (yX7_feed, cX7_feed, 7, (some .int))
theorem mX7_feed : zz_M YX7_feed 6 := ⟨by decide +kernel, zz_mem (i := 156) (by decide +kernel) (by decide +kernel), zz_mem (i := 85) (by decide +kernel) (by decide +kernel), by decide +kernel, by decide⟩
theorem vX7_feed : zz_V YX7_feed := ⟨zz_mem (i := 154) (by decide +kernel) (by decide +kernel), zz_mem (i := 155) (by decide +kernel) (by decide +kernel)⟩
abbrev YX7_freeTable : My := (yX7_freeTable, cX7_freeTable, 1, (Option.some (Jvm.ClassFile.FieldType.object "EndgameTable$Table")))
theorem mX7_freeTable : zz_M YX7_freeTable 0 := ⟨by decide +kernel, zz_mem (i := 356) (by decide +kernel) (by decide +kernel), zz_mem (i := 85) (by decide +kernel) (by decide +kernel), by decide +kernel, by decide⟩
theorem vX7_freeTable : zz_V YX7_freeTable := ⟨zz_mem (i := 355) (by decide +kernel) (by decide +kernel), zz_mem (i := 12) (by decide +kernel) (by decide +kernel)⟩
abbrev YX7_game : My := (yX7_game, cX7_game, 3, (some .int))
theorem mX7_game : zz_M YX7_game 1 := ⟨by decide +kernel, zz_mem (i := 748) (by decide +kernel) (by decide +kernel), zz_mem (i := 85) (by decide +kernel) (by decide +kernel), by decide +kernel, by decide⟩
theorem vX7_game : zz_V YX7_game := ⟨zz_mem (i := 746) (by decide +kernel) (by decide +kernel), zz_mem (i := 747) (by decide +kernel) (by decide +kernel)⟩
abbrev YX7_image : My := (yX7_image, cX7_image, 1, (some .int))
theorem mX7_image : zz_M YX7_image 0 := ⟨by decide +kernel, zz_mem (i := 958) (by decide +kernel) (by decide +kernel), zz_mem (i := 85) (by decide +kernel) (by decide +kernel), by decide +kernel, by decide⟩
theorem vX7_image : zz_V YX7_image := ⟨zz_mem (i := 956) (by decide +kernel) (by decide +kernel), zz_mem (i := 957) (by decide +kernel) (by decide +kernel)⟩
abbrev YX7_init : My := (yX7_init, cX7_init, 1, (Option.none : Option Jvm.ClassFile.FieldType))
theorem mX7_init : zz_M YX7_init 0 := ⟨by decide +kernel, zz_mem (i := 107) (by decide +kernel) (by decide +kernel), zz_mem (i := 85) (by decide +kernel) (by decide +kernel), by decide +kernel, by decide⟩
theorem iX7_init : zz_I YX7_init := ⟨rfl, zz_mem (i := 106) (by decide +kernel) (by decide +kernel)⟩
abbrev YX7_isByte : My := (yX7_isByte, cX7_isByte, 1, (some .boolean))
theorem mX7_isByte : zz_M YX7_isByte 1 := ⟨by decide +kernel, zz_mem (i := 159) (by decide +kernel) (by decide +kernel), zz_mem (i := 85) (by decide +kernel) (by decide +kernel), by decide +kernel, by decide⟩
theorem tX7_isByte : Cond.static YX7_isByte.1 ∈ zz_W := zz_mem (i := 158) (by decide +kernel) (by decide +kernel)
abbrev YX7_isPlaying : My := (yX7_isPlaying, cX7_isPlaying, 1, (some .boolean))
theorem mX7_isPlaying : zz_M YX7_isPlaying 0 := ⟨by decide +kernel, zz_mem (i := 782) (by decide +kernel) (by decide +kernel), zz_mem (i := 85) (by decide +kernel) (by decide +kernel), by decide +kernel, by decide⟩
theorem vX7_isPlaying : zz_V YX7_isPlaying := ⟨zz_mem (i := 781) (by decide +kernel) (by decide +kernel), zz_mem (i := 27) (by decide +kernel) (by decide +kernel)⟩
abbrev YX7_line : My := (yX7_line, cX7_line, 3, (some .int))
theorem mX7_line : zz_M YX7_line 1 := ⟨by decide +kernel, zz_mem (i := 876) (by decide +kernel) (by decide +kernel), zz_mem (i := 85) (by decide +kernel) (by decide +kernel), by decide +kernel, by decide⟩
theorem vX7_line : zz_V YX7_line := ⟨zz_mem (i := 874) (by decide +kernel) (by decide +kernel), zz_mem (i := 875) (by decide +kernel) (by decide +kernel)⟩
abbrev YX7_load : My := (yX7_load, cX7_load, 2, (some .int))
theorem mX7_load : zz_M YX7_load 1 := ⟨by decide +kernel, zz_mem (i := 774) (by decide +kernel) (by decide +kernel), zz_mem (i := 85) (by decide +kernel) (by decide +kernel), by decide +kernel, by decide⟩
theorem vX7_load : zz_V YX7_load := ⟨zz_mem (i := 772) (by decide +kernel) (by decide +kernel), zz_mem (i := 773) (by decide +kernel) (by decide +kernel)⟩
abbrev YX7_longest : My := (yX7_longest, cX7_longest, 4, (some .int))
theorem mX7_longest : zz_M YX7_longest 2 := ⟨by decide +kernel, zz_mem (i := 923) (by decide +kernel) (by decide +kernel), zz_mem (i := 85) (by decide +kernel) (by decide +kernel), by decide +kernel, by decide⟩
theorem vX7_longest : zz_V YX7_longest := ⟨zz_mem (i := 921) (by decide +kernel) (by decide +kernel), zz_mem (i := 922) (by decide +kernel) (by decide +kernel)⟩
abbrev YX7_make : My := (yX7_make, cX7_make, 3, (some .int))
theorem mX7_make : zz_M YX7_make 1 := ⟨by decide +kernel, zz_mem (i := 841) (by decide +kernel) (by decide +kernel), zz_mem (i := 85) (by decide +kernel) (by decide +kernel), by decide +kernel, by decide⟩
theorem vX7_make : zz_V YX7_make := ⟨zz_mem (i := 839) (by decide +kernel) (by decide +kernel), zz_mem (i := 840) (by decide +kernel) (by decide +kernel)⟩
abbrev YX7_manOnBoard : My := (yX7_manOnBoard, cX7_manOnBoard, 5, (some .int))
theorem mX7_manOnBoard : zz_M YX7_manOnBoard 2 := ⟨by decide +kernel, zz_mem (i := 816) (by decide +kernel) (by decide +kernel), zz_mem (i := 85) (by decide +kernel) (by decide +kernel), by decide +kernel, by decide⟩
theorem vX7_manOnBoard : zz_V YX7_manOnBoard := ⟨zz_mem (i := 815) (by decide +kernel) (by decide +kernel), zz_mem (i := 28) (by decide +kernel) (by decide +kernel)⟩
abbrev YX7_move : My := (yX7_move, cX7_move, 6, (some .int))
theorem mX7_move : zz_M YX7_move 2 := ⟨by decide +kernel, zz_mem (i := 822) (by decide +kernel) (by decide +kernel), zz_mem (i := 85) (by decide +kernel) (by decide +kernel), by decide +kernel, by decide⟩
theorem vX7_move : zz_V YX7_move := ⟨zz_mem (i := 820) (by decide +kernel) (by decide +kernel), zz_mem (i := 821) (by decide +kernel) (by decide +kernel)⟩
abbrev YX7_movesSinceCapture : My := (yX7_movesSinceCapture, cX7_movesSinceCapture, 3, (some .int))
theorem mX7_movesSinceCapture : zz_M YX7_movesSinceCapture 0 := ⟨by decide +kernel, zz_mem (i := 981) (by decide +kernel) (by decide +kernel), zz_mem (i := 85) (by decide +kernel) (by decide +kernel), by decide +kernel, by decide⟩
theorem vX7_movesSinceCapture : zz_V YX7_movesSinceCapture := ⟨zz_mem (i := 980) (by decide +kernel) (by decide +kernel), zz_mem (i := 33) (by decide +kernel) (by decide +kernel)⟩
abbrev YX7_positions : My := (yX7_positions, cX7_positions, 4, (some .int))
theorem mX7_positions : zz_M YX7_positions 3 := ⟨by decide +kernel, zz_mem (i := 902) (by decide +kernel) (by decide +kernel), zz_mem (i := 85) (by decide +kernel) (by decide +kernel), by decide +kernel, by decide⟩
theorem vX7_positions : zz_V YX7_positions := ⟨zz_mem (i := 900) (by decide +kernel) (by decide +kernel), zz_mem (i := 901) (by decide +kernel) (by decide +kernel)⟩
abbrev YX7_search : My := (yX7_search, cX7_search, 2, (some .int))
theorem mX7_search : zz_M YX7_search 1 := ⟨by decide +kernel, zz_mem (i := 893) (by decide +kernel) (by decide +kernel), zz_mem (i := 85) (by decide +kernel) (by decide +kernel), by decide +kernel, by decide⟩
theorem vX7_search : zz_V YX7_search := ⟨zz_mem (i := 891) (by decide +kernel) (by decide +kernel), zz_mem (i := 892) (by decide +kernel) (by decide +kernel)⟩
abbrev YX7_setup : My := (yX7_setup, cX7_setup, 7, (some .int))
theorem mX7_setup : zz_M YX7_setup 4 := ⟨by decide +kernel, zz_mem (i := 753) (by decide +kernel) (by decide +kernel), zz_mem (i := 85) (by decide +kernel) (by decide +kernel), by decide +kernel, by decide⟩
theorem vX7_setup : zz_V YX7_setup := ⟨zz_mem (i := 751) (by decide +kernel) (by decide +kernel), zz_mem (i := 752) (by decide +kernel) (by decide +kernel)⟩
abbrev YX7_spread : My := (yX7_spread, cX7_spread, 4, (some .int))
theorem mX7_spread : zz_M YX7_spread 3 := ⟨by decide +kernel, zz_mem (i := 911) (by decide +kernel) (by decide +kernel), zz_mem (i := 85) (by decide +kernel) (by decide +kernel), by decide +kernel, by decide⟩
theorem vX7_spread : zz_V YX7_spread := ⟨zz_mem (i := 909) (by decide +kernel) (by decide +kernel), zz_mem (i := 910) (by decide +kernel) (by decide +kernel)⟩
abbrev YX7_undo : My := (yX7_undo, cX7_undo, 1, (some .int))
theorem mX7_undo : zz_M YX7_undo 0 := ⟨by decide +kernel, zz_mem (i := 969) (by decide +kernel) (by decide +kernel), zz_mem (i := 85) (by decide +kernel) (by decide +kernel), by decide +kernel, by decide⟩
theorem vX7_undo : zz_V YX7_undo := ⟨zz_mem (i := 967) (by decide +kernel) (by decide +kernel), zz_mem (i := 968) (by decide +kernel) (by decide +kernel)⟩
abbrev YX7_unlike : My := (yX7_unlike, cX7_unlike, 1, (some .int))
theorem mX7_unlike : zz_M YX7_unlike 0 := ⟨by decide +kernel, zz_mem (i := 948) (by decide +kernel) (by decide +kernel), zz_mem (i := 85) (by decide +kernel) (by decide +kernel), by decide +kernel, by decide⟩
theorem vX7_unlike : zz_V YX7_unlike := ⟨zz_mem (i := 946) (by decide +kernel) (by decide +kernel), zz_mem (i := 947) (by decide +kernel) (by decide +kernel)⟩
abbrev YX7_zugzwang : My := (yX7_zugzwang, cX7_zugzwang, 2, (some .int))
theorem mX7_zugzwang : zz_M YX7_zugzwang 1 := ⟨by decide +kernel, zz_mem (i := 932) (by decide +kernel) (by decide +kernel), zz_mem (i := 85) (by decide +kernel) (by decide +kernel), by decide +kernel, by decide⟩
theorem vX7_zugzwang : zz_V YX7_zugzwang := ⟨zz_mem (i := 930) (by decide +kernel) (by decide +kernel), zz_mem (i := 931) (by decide +kernel) (by decide +kernel)⟩
abbrev YX8_back : My := (yX8_back, cX8_back, 1, (some .int))
theorem mX8_back : zz_M YX8_back 0 := ⟨by decide +kernel, zz_mem (i := 1320) (by decide +kernel) (by decide +kernel), zz_mem (i := 87) (by decide +kernel) (by decide +kernel), by decide +kernel, by decide⟩
theorem vX8_back : zz_V YX8_back := ⟨zz_mem (i := 1318) (by decide +kernel) (by decide +kernel), zz_mem (i := 1319) (by decide +kernel) (by decide +kernel)⟩
abbrev YX8_begin : My := (yX8_begin, cX8_begin, 2, (Option.none : Option Jvm.ClassFile.FieldType))
theorem mX8_begin : zz_M YX8_begin 1 := ⟨by decide +kernel, zz_mem (i := 1272) (by decide +kernel) (by decide +kernel), zz_mem (i := 87) (by decide +kernel) (by decide +kernel), by decide +kernel, by decide⟩
theorem vX8_begin : zz_V YX8_begin := ⟨zz_mem (i := 1271) (by decide +kernel) (by decide +kernel), zz_mem (i := 69) (by decide +kernel) (by decide +kernel)⟩
abbrev YX8_best : My := (yX8_best, cX8_best, 1, (some .int))
theorem mX8_best : zz_M YX8_best 0 := ⟨by decide +kernel, zz_mem (i := 1324) (by decide +kernel) (by decide +kernel), zz_mem (i := 87) (by decide +kernel) (by decide +kernel), by decide +kernel, by decide⟩
theorem vX8_best : zz_V YX8_best := ⟨zz_mem (i := 1322) (by decide +kernel) (by decide +kernel), zz_mem (i := 1323) (by decide +kernel) (by decide +kernel)⟩
abbrev YX8_bestOf : My := (yX8_bestOf, cX8_bestOf, 8, (some .int))
theorem mX8_bestOf : zz_M YX8_bestOf 1 := ⟨by decide +kernel, zz_mem (i := 1328) (by decide +kernel) (by decide +kernel), zz_mem (i := 87) (by decide +kernel) (by decide +kernel), by decide +kernel, by decide⟩
theorem vX8_bestOf : zz_V YX8_bestOf := ⟨zz_mem (i := 1327) (by decide +kernel) (by decide +kernel), zz_mem (i := 77) (by decide +kernel) (by decide +kernel)⟩
abbrev YX8_board : My := (yX8_board, cX8_board, 3, (some .int))
theorem mX8_board : zz_M YX8_board 1 := ⟨by decide +kernel, zz_mem (i := 1280) (by decide +kernel) (by decide +kernel), zz_mem (i := 87) (by decide +kernel) (by decide +kernel), by decide +kernel, by decide⟩
theorem vX8_board : zz_V YX8_board := ⟨zz_mem (i := 1278) (by decide +kernel) (by decide +kernel), zz_mem (i := 1279) (by decide +kernel) (by decide +kernel)⟩
abbrev YX8_build : My := (yX8_build, cX8_build, 4, (Option.none : Option Jvm.ClassFile.FieldType))
theorem mX8_build : zz_M YX8_build 0 := ⟨by decide +kernel, zz_mem (i := 1148) (by decide +kernel) (by decide +kernel), zz_mem (i := 87) (by decide +kernel) (by decide +kernel), by decide +kernel, by decide⟩
theorem vX8_build : zz_V YX8_build := ⟨zz_mem (i := 1147) (by decide +kernel) (by decide +kernel), zz_mem (i := 43) (by decide +kernel) (by decide +kernel)⟩
abbrev YX8_canonical : My := (yX8_canonical, cX8_canonical, 5, (some .int))
theorem mX8_canonical : zz_M YX8_canonical 1 := ⟨by decide +kernel, zz_mem (i := 1296) (by decide +kernel) (by decide +kernel), zz_mem (i := 87) (by decide +kernel) (by decide +kernel), by decide +kernel, by decide⟩
theorem vX8_canonical : zz_V YX8_canonical := ⟨zz_mem (i := 1295) (by decide +kernel) (by decide +kernel), zz_mem (i := 73) (by decide +kernel) (by decide +kernel)⟩
abbrev YX8_convert : My := (yX8_convert, cX8_convert, 10, (some .boolean))
theorem mX8_convert : zz_M YX8_convert 1 := ⟨by decide +kernel, zz_mem (i := 1233) (by decide +kernel) (by decide +kernel), zz_mem (i := 87) (by decide +kernel) (by decide +kernel), by decide +kernel, by decide⟩
theorem vX8_convert : zz_V YX8_convert := ⟨zz_mem (i := 1232) (by decide +kernel) (by decide +kernel), zz_mem (i := 62) (by decide +kernel) (by decide +kernel)⟩
abbrev YX8_copy : My := (yX8_copy, cX8_copy, 3, (Option.none : Option Jvm.ClassFile.FieldType))
theorem mX8_copy : zz_M YX8_copy 2 := ⟨by decide +kernel, zz_mem (i := 1144) (by decide +kernel) (by decide +kernel), zz_mem (i := 87) (by decide +kernel) (by decide +kernel), by decide +kernel, by decide⟩
theorem tX8_copy : Cond.static YX8_copy.1 ∈ zz_W := zz_mem (i := 1143) (by decide +kernel) (by decide +kernel)
abbrev YX8_count : My := (yX8_count, cX8_count, 2, (some .int))
theorem mX8_count : zz_M YX8_count 1 := ⟨by decide +kernel, zz_mem (i := 1384) (by decide +kernel) (by decide +kernel), zz_mem (i := 87) (by decide +kernel) (by decide +kernel), by decide +kernel, by decide⟩
theorem vX8_count : zz_V YX8_count := ⟨zz_mem (i := 1382) (by decide +kernel) (by decide +kernel), zz_mem (i := 1383) (by decide +kernel) (by decide +kernel)⟩
abbrev YX8_countBits : My := (yX8_countBits, cX8_countBits, 3, (some .int))
theorem mX8_countBits : zz_M YX8_countBits 1 := ⟨by decide +kernel, zz_mem (i := 1236) (by decide +kernel) (by decide +kernel), zz_mem (i := 87) (by decide +kernel) (by decide +kernel), by decide +kernel, by decide⟩
theorem tX8_countBits : Cond.static YX8_countBits.1 ∈ zz_W := zz_mem (i := 1235) (by decide +kernel) (by decide +kernel)
abbrev YX8_countDifferent : My := (yX8_countDifferent, cX8_countDifferent, 5, (some .int))
theorem mX8_countDifferent : zz_M YX8_countDifferent 0 := ⟨by decide +kernel, zz_mem (i := 1388) (by decide +kernel) (by decide +kernel), zz_mem (i := 87) (by decide +kernel) (by decide +kernel), by decide +kernel, by decide⟩
theorem vX8_countDifferent : zz_V YX8_countDifferent := ⟨zz_mem (i := 1387) (by decide +kernel) (by decide +kernel), zz_mem (i := 82) (by decide +kernel) (by decide +kernel)⟩
abbrev YX8_countImages : My := (yX8_countImages, cX8_countImages, 6, (some .int))
theorem mX8_countImages : zz_M YX8_countImages 1 := ⟨by decide +kernel, zz_mem (i := 1304) (by decide +kernel) (by decide +kernel), zz_mem (i := 87) (by decide +kernel) (by decide +kernel), by decide +kernel, by decide⟩
theorem vX8_countImages : zz_V YX8_countImages := ⟨zz_mem (i := 1303) (by decide +kernel) (by decide +kernel), zz_mem (i := 75) (by decide +kernel) (by decide +kernel)⟩
abbrev YX8_countPossible : My := (yX8_countPossible, cX8_countPossible, 3, (some .int))
theorem mX8_countPossible : zz_M YX8_countPossible 0 := ⟨by decide +kernel, zz_mem (i := 1260) (by decide +kernel) (by decide +kernel), zz_mem (i := 87) (by decide +kernel) (by decide +kernel), by decide +kernel, by decide⟩
theorem vX8_countPossible : zz_V YX8_countPossible := ⟨zz_mem (i := 1259) (by decide +kernel) (by decide +kernel), zz_mem (i := 67) (by decide +kernel) (by decide +kernel)⟩
abbrev YX8_countSinceCapture : My := (yX8_countSinceCapture, cX8_countSinceCapture, 2, (some .int))
theorem mX8_countSinceCapture : zz_M YX8_countSinceCapture 0 := ⟨by decide +kernel, zz_mem (i := 1392) (by decide +kernel) (by decide +kernel), zz_mem (i := 87) (by decide +kernel) (by decide +kernel), by decide +kernel, by decide⟩
theorem vX8_countSinceCapture : zz_V YX8_countSinceCapture := ⟨zz_mem (i := 1391) (by decide +kernel) (by decide +kernel), zz_mem (i := 83) (by decide +kernel) (by decide +kernel)⟩
abbrev YX8_countSymmetries : My := (yX8_countSymmetries, cX8_countSymmetries, 3, (some .int))
theorem mX8_countSymmetries : zz_M YX8_countSymmetries 0 := ⟨by decide +kernel, zz_mem (i := 1244) (by decide +kernel) (by decide +kernel), zz_mem (i := 87) (by decide +kernel) (by decide +kernel), by decide +kernel, by decide⟩
theorem vX8_countSymmetries : zz_V YX8_countSymmetries := ⟨zz_mem (i := 1243) (by decide +kernel) (by decide +kernel), zz_mem (i := 63) (by decide +kernel) (by decide +kernel)⟩
abbrev YX8_decide : My := (yX8_decide, cX8_decide, 9, (some .boolean))
theorem mX8_decide : zz_M YX8_decide 1 := ⟨by decide +kernel, zz_mem (i := 1229) (by decide +kernel) (by decide +kernel), zz_mem (i := 87) (by decide +kernel) (by decide +kernel), by decide +kernel, by decide⟩
theorem vX8_decide : zz_V YX8_decide := ⟨zz_mem (i := 1228) (by decide +kernel) (by decide +kernel), zz_mem (i := 61) (by decide +kernel) (by decide +kernel)⟩
abbrev YX8_decode : My := (yX8_decode, cX8_decode, 4, (Option.none : Option Jvm.ClassFile.FieldType))
theorem mX8_decode : zz_M YX8_decode 2 := ⟨by decide +kernel, zz_mem (i := 1156) (by decide +kernel) (by decide +kernel), zz_mem (i := 87) (by decide +kernel) (by decide +kernel), by decide +kernel, by decide⟩
theorem vX8_decode : zz_V YX8_decode := ⟨zz_mem (i := 1155) (by decide +kernel) (by decide +kernel), zz_mem (i := 45) (by decide +kernel) (by decide +kernel)⟩
abbrev YX8_define : My := (yX8_define, cX8_define, 1, (some .int))
theorem mX8_define : zz_M YX8_define 0 := ⟨by decide +kernel, zz_mem (i := 1103) (by decide +kernel) (by decide +kernel), zz_mem (i := 87) (by decide +kernel) (by decide +kernel), by decide +kernel, by decide⟩
theorem vX8_define : zz_V YX8_define := ⟨zz_mem (i := 1101) (by decide +kernel) (by decide +kernel), zz_mem (i := 1102) (by decide +kernel) (by decide +kernel)⟩
abbrev YX8_distanceOf : My := (yX8_distanceOf, cX8_distanceOf, 3, (some .int))
theorem mX8_distanceOf : zz_M YX8_distanceOf 2 := ⟨by decide +kernel, zz_mem (i := 1360) (by decide +kernel) (by decide +kernel), zz_mem (i := 87) (by decide +kernel) (by decide +kernel), by decide +kernel, by decide⟩
theorem vX8_distanceOf : zz_V YX8_distanceOf := ⟨zz_mem (i := 1359) (by decide +kernel) (by decide +kernel), zz_mem (i := 81) (by decide +kernel) (by decide +kernel)⟩
abbrev YX8_endValue : My := (yX8_endValue, cX8_endValue, 3, (some .int))
theorem mX8_endValue : zz_M YX8_endValue 2 := ⟨by decide +kernel, zz_mem (i := 1225) (by decide +kernel) (by decide +kernel), zz_mem (i := 87) (by decide +kernel) (by decide +kernel), by decide +kernel, by decide⟩
theorem vX8_endValue : zz_V YX8_endValue := ⟨zz_mem (i := 1224) (by decide +kernel) (by decide +kernel), zz_mem (i := 60) (by decide +kernel) (by decide +kernel)⟩
abbrev YX8_feed : My := (yX8_feed, cX8_feed, 9, (some .int))
theorem mX8_feed : zz_M YX8_feed 6 := ⟨by decide +kernel, zz_mem (i := 1093) (by decide +kernel) (by decide +kernel), zz_mem (i := 87) (by decide +kernel) (by decide +kernel), by decide +kernel, by decide⟩
theorem vX8_feed : zz_V YX8_feed := ⟨zz_mem (i := 1091) (by decide +kernel) (by decide +kernel), zz_mem (i := 1092) (by decide +kernel) (by decide +kernel)⟩
abbrev YX8_findLine : My := (yX8_findLine, cX8_findLine, 6, (some .int))
theorem mX8_findLine : zz_M YX8_findLine 0 := ⟨by decide +kernel, zz_mem (i := 1336) (by decide +kernel) (by decide +kernel), zz_mem (i := 87) (by decide +kernel) (by decide +kernel), by decide +kernel, by decide⟩
theorem vX8_findLine : zz_V YX8_findLine := ⟨zz_mem (i := 1335) (by decide +kernel) (by decide +kernel), zz_mem (i := 78) (by decide +kernel) (by decide +kernel)⟩
abbrev YX8_findMoves : My := (yX8_findMoves, cX8_findMoves, 6, (Option.none : Option Jvm.ClassFile.FieldType))
theorem mX8_findMoves : zz_M YX8_findMoves 2 := ⟨by decide +kernel, zz_mem (i := 1209) (by decide +kernel) (by decide +kernel), zz_mem (i := 87) (by decide +kernel) (by decide +kernel), by decide +kernel, by decide⟩
theorem vX8_findMoves : zz_V YX8_findMoves := ⟨zz_mem (i := 1208) (by decide +kernel) (by decide +kernel), zz_mem (i := 56) (by decide +kernel) (by decide +kernel)⟩
abbrev YX8_game : My := (yX8_game, cX8_game, 2, (some .int))
theorem mX8_game : zz_M YX8_game 1 := ⟨by decide +kernel, zz_mem (i := 1240) (by decide +kernel) (by decide +kernel), zz_mem (i := 87) (by decide +kernel) (by decide +kernel), by decide +kernel, by decide⟩
theorem vX8_game : zz_V YX8_game := ⟨zz_mem (i := 1238) (by decide +kernel) (by decide +kernel), zz_mem (i := 1239) (by decide +kernel) (by decide +kernel)⟩
abbrev YX8_has : My := (yX8_has, cX8_has, 2, (some .boolean))
theorem mX8_has : zz_M YX8_has 2 := ⟨by decide +kernel, zz_mem (i := 1163) (by decide +kernel) (by decide +kernel), zz_mem (i := 87) (by decide +kernel) (by decide +kernel), by decide +kernel, by decide⟩
theorem tX8_has : Cond.static YX8_has.1 ∈ zz_W := zz_mem (i := 1162) (by decide +kernel) (by decide +kernel)
abbrev YX8_hasCaptured : My := (yX8_hasCaptured, cX8_hasCaptured, 4, (some .boolean))
theorem mX8_hasCaptured : zz_M YX8_hasCaptured 1 := ⟨by decide +kernel, zz_mem (i := 1352) (by decide +kernel) (by decide +kernel), zz_mem (i := 87) (by decide +kernel) (by decide +kernel), by decide +kernel, by decide⟩
theorem vX8_hasCaptured : zz_V YX8_hasCaptured := ⟨zz_mem (i := 1351) (by decide +kernel) (by decide +kernel), zz_mem (i := 80) (by decide +kernel) (by decide +kernel)⟩
abbrev YX8_hasPawns : My := (yX8_hasPawns, cX8_hasPawns, 3, (some .boolean))
theorem mX8_hasPawns : zz_M YX8_hasPawns 0 := ⟨by decide +kernel, zz_mem (i := 1252) (by decide +kernel) (by decide +kernel), zz_mem (i := 87) (by decide +kernel) (by decide +kernel), by decide +kernel, by decide⟩
theorem vX8_hasPawns : zz_V YX8_hasPawns := ⟨zz_mem (i := 1251) (by decide +kernel) (by decide +kernel), zz_mem (i := 65) (by decide +kernel) (by decide +kernel)⟩
abbrev YX8_here : My := (yX8_here, cX8_here, 1, (some .int))
theorem mX8_here : zz_M YX8_here 0 := ⟨by decide +kernel, zz_mem (i := 1288) (by decide +kernel) (by decide +kernel), zz_mem (i := 87) (by decide +kernel) (by decide +kernel), by decide +kernel, by decide⟩
theorem vX8_here : zz_V YX8_here := ⟨zz_mem (i := 1287) (by decide +kernel) (by decide +kernel), zz_mem (i := 71) (by decide +kernel) (by decide +kernel)⟩
abbrev YX8_image : My := (yX8_image, cX8_image, 2, (some .int))
theorem mX8_image : zz_M YX8_image 0 := ⟨by decide +kernel, zz_mem (i := 1376) (by decide +kernel) (by decide +kernel), zz_mem (i := 87) (by decide +kernel) (by decide +kernel), by decide +kernel, by decide⟩
theorem vX8_image : zz_V YX8_image := ⟨zz_mem (i := 1374) (by decide +kernel) (by decide +kernel), zz_mem (i := 1375) (by decide +kernel) (by decide +kernel)⟩
abbrev YX8_imageOf : My := (yX8_imageOf, cX8_imageOf, 4, (some .int))
theorem mX8_imageOf : zz_M YX8_imageOf 2 := ⟨by decide +kernel, zz_mem (i := 1300) (by decide +kernel) (by decide +kernel), zz_mem (i := 87) (by decide +kernel) (by decide +kernel), by decide +kernel, by decide⟩
theorem vX8_imageOf : zz_V YX8_imageOf := ⟨zz_mem (i := 1299) (by decide +kernel) (by decide +kernel), zz_mem (i := 74) (by decide +kernel) (by decide +kernel)⟩
abbrev YX8_indexOf : My := (yX8_indexOf, cX8_indexOf, 4, (some .int))
theorem mX8_indexOf : zz_M YX8_indexOf 2 := ⟨by decide +kernel, zz_mem (i := 1221) (by decide +kernel) (by decide +kernel), zz_mem (i := 87) (by decide +kernel) (by decide +kernel), by decide +kernel, by decide⟩
theorem vX8_indexOf : zz_V YX8_indexOf := ⟨zz_mem (i := 1220) (by decide +kernel) (by decide +kernel), zz_mem (i := 59) (by decide +kernel) (by decide +kernel)⟩
abbrev YX8_init : My := (yX8_init, cX8_init, 1, (Option.none : Option Jvm.ClassFile.FieldType))
theorem mX8_init : zz_M YX8_init 0 := ⟨by decide +kernel, zz_mem (i := 988) (by decide +kernel) (by decide +kernel), zz_mem (i := 87) (by decide +kernel) (by decide +kernel), by decide +kernel, by decide⟩
theorem iX8_init : zz_I YX8_init := ⟨rfl, zz_mem (i := 987) (by decide +kernel) (by decide +kernel)⟩
abbrev YX8_isAttacked : My := (yX8_isAttacked, cX8_isAttacked, 7, (some .boolean))
theorem mX8_isAttacked : zz_M YX8_isAttacked 3 := ⟨by decide +kernel, zz_mem (i := 1175) (by decide +kernel) (by decide +kernel), zz_mem (i := 87) (by decide +kernel) (by decide +kernel), by decide +kernel, by decide⟩
theorem vX8_isAttacked : zz_V YX8_isAttacked := ⟨zz_mem (i := 1174) (by decide +kernel) (by decide +kernel), zz_mem (i := 49) (by decide +kernel) (by decide +kernel)⟩
abbrev YX8_isBetween : My := (yX8_isBetween, cX8_isBetween, 3, (some .boolean))
theorem mX8_isBetween : zz_M YX8_isBetween 3 := ⟨by decide +kernel, zz_mem (i := 1096) (by decide +kernel) (by decide +kernel), zz_mem (i := 87) (by decide +kernel) (by decide +kernel), by decide +kernel, by decide⟩
theorem tX8_isBetween : Cond.static YX8_isBetween.1 ∈ zz_W := zz_mem (i := 1095) (by decide +kernel) (by decide +kernel)
abbrev YX8_isByte : My := (yX8_isByte, cX8_isByte, 1, (some .boolean))
theorem mX8_isByte : zz_M YX8_isByte 1 := ⟨by decide +kernel, zz_mem (i := 1099) (by decide +kernel) (by decide +kernel), zz_mem (i := 87) (by decide +kernel) (by decide +kernel), by decide +kernel, by decide⟩
theorem tX8_isByte : Cond.static YX8_isByte.1 ∈ zz_W := zz_mem (i := 1098) (by decide +kernel) (by decide +kernel)
abbrev YX8_isClear : My := (yX8_isClear, cX8_isClear, 9, (some .boolean))
theorem mX8_isClear : zz_M YX8_isClear 3 := ⟨by decide +kernel, zz_mem (i := 1198) (by decide +kernel) (by decide +kernel), zz_mem (i := 87) (by decide +kernel) (by decide +kernel), by decide +kernel, by decide⟩
theorem vX8_isClear : zz_V YX8_isClear := ⟨zz_mem (i := 1197) (by decide +kernel) (by decide +kernel), zz_mem (i := 54) (by decide +kernel) (by decide +kernel)⟩
abbrev YX8_isEnd : My := (yX8_isEnd, cX8_isEnd, 2, (some .boolean))
theorem mX8_isEnd : zz_M YX8_isEnd 1 := ⟨by decide +kernel, zz_mem (i := 1205) (by decide +kernel) (by decide +kernel), zz_mem (i := 87) (by decide +kernel) (by decide +kernel), by decide +kernel, by decide⟩
theorem vX8_isEnd : zz_V YX8_isEnd := ⟨zz_mem (i := 1204) (by decide +kernel) (by decide +kernel), zz_mem (i := 55) (by decide +kernel) (by decide +kernel)⟩
abbrev YX8_isInCheck : My := (yX8_isInCheck, cX8_isInCheck, 3, (some .boolean))
theorem mX8_isInCheck : zz_M YX8_isInCheck 2 := ⟨by decide +kernel, zz_mem (i := 1167) (by decide +kernel) (by decide +kernel), zz_mem (i := 87) (by decide +kernel) (by decide +kernel), by decide +kernel, by decide⟩
theorem vX8_isInCheck : zz_V YX8_isInCheck := ⟨zz_mem (i := 1166) (by decide +kernel) (by decide +kernel), zz_mem (i := 47) (by decide +kernel) (by decide +kernel)⟩
abbrev YX8_isOf : My := (yX8_isOf, cX8_isOf, 3, (some .boolean))
theorem mX8_isOf : zz_M YX8_isOf 2 := ⟨by decide +kernel, zz_mem (i := 1183) (by decide +kernel) (by decide +kernel), zz_mem (i := 87) (by decide +kernel) (by decide +kernel), by decide +kernel, by decide⟩
theorem vX8_isOf : zz_V YX8_isOf := ⟨zz_mem (i := 1182) (by decide +kernel) (by decide +kernel), zz_mem (i := 51) (by decide +kernel) (by decide +kernel)⟩
abbrev YX8_isPlace : My := (yX8_isPlace, cX8_isPlace, 3, (some .boolean))
theorem mX8_isPlace : zz_M YX8_isPlace 2 := ⟨by decide +kernel, zz_mem (i := 1268) (by decide +kernel) (by decide +kernel), zz_mem (i := 87) (by decide +kernel) (by decide +kernel), by decide +kernel, by decide⟩
theorem vX8_isPlace : zz_V YX8_isPlace := ⟨zz_mem (i := 1267) (by decide +kernel) (by decide +kernel), zz_mem (i := 68) (by decide +kernel) (by decide +kernel)⟩
abbrev YX8_isPlaying : My := (yX8_isPlaying, cX8_isPlaying, 1, (some .boolean))
theorem mX8_isPlaying : zz_M YX8_isPlaying 0 := ⟨by decide +kernel, zz_mem (i := 1284) (by decide +kernel) (by decide +kernel), zz_mem (i := 87) (by decide +kernel) (by decide +kernel), by decide +kernel, by decide⟩
theorem vX8_isPlaying : zz_V YX8_isPlaying := ⟨zz_mem (i := 1283) (by decide +kernel) (by decide +kernel), zz_mem (i := 70) (by decide +kernel) (by decide +kernel)⟩
abbrev YX8_isPossible : My := (yX8_isPossible, cX8_isPossible, 8, (some .boolean))
theorem mX8_isPossible : zz_M YX8_isPossible 2 := ⟨by decide +kernel, zz_mem (i := 1160) (by decide +kernel) (by decide +kernel), zz_mem (i := 87) (by decide +kernel) (by decide +kernel), by decide +kernel, by decide⟩
theorem vX8_isPossible : zz_V YX8_isPossible := ⟨zz_mem (i := 1159) (by decide +kernel) (by decide +kernel), zz_mem (i := 46) (by decide +kernel) (by decide +kernel)⟩
abbrev YX8_isSymmetry : My := (yX8_isSymmetry, cX8_isSymmetry, 4, (some .boolean))
theorem mX8_isSymmetry : zz_M YX8_isSymmetry 1 := ⟨by decide +kernel, zz_mem (i := 1248) (by decide +kernel) (by decide +kernel), zz_mem (i := 87) (by decide +kernel) (by decide +kernel), by decide +kernel, by decide⟩
theorem vX8_isSymmetry : zz_V YX8_isSymmetry := ⟨zz_mem (i := 1247) (by decide +kernel) (by decide +kernel), zz_mem (i := 64) (by decide +kernel) (by decide +kernel)⟩
abbrev YX8_isWhite : My := (yX8_isWhite, cX8_isWhite, 2, (some .boolean))
theorem mX8_isWhite : zz_M YX8_isWhite 1 := ⟨by decide +kernel, zz_mem (i := 1187) (by decide +kernel) (by decide +kernel), zz_mem (i := 87) (by decide +kernel) (by decide +kernel), by decide +kernel, by decide⟩
theorem vX8_isWhite : zz_V YX8_isWhite := ⟨zz_mem (i := 1186) (by decide +kernel) (by decide +kernel), zz_mem (i := 52) (by decide +kernel) (by decide +kernel)⟩
abbrev YX8_letterHere : My := (yX8_letterHere, cX8_letterHere, 1, (some .int))
theorem mX8_letterHere : zz_M YX8_letterHere 0 := ⟨by decide +kernel, zz_mem (i := 1127) (by decide +kernel) (by decide +kernel), zz_mem (i := 87) (by decide +kernel) (by decide +kernel), by decide +kernel, by decide⟩
theorem vX8_letterHere : zz_V YX8_letterHere := ⟨zz_mem (i := 1126) (by decide +kernel) (by decide +kernel), zz_mem (i := 39) (by decide +kernel) (by decide +kernel)⟩
abbrev YX8_line : My := (yX8_line, cX8_line, 3, (some .int))
theorem mX8_line : zz_M YX8_line 1 := ⟨by decide +kernel, zz_mem (i := 1332) (by decide +kernel) (by decide +kernel), zz_mem (i := 87) (by decide +kernel) (by decide +kernel), by decide +kernel, by decide⟩
theorem vX8_line : zz_V YX8_line := ⟨zz_mem (i := 1330) (by decide +kernel) (by decide +kernel), zz_mem (i := 1331) (by decide +kernel) (by decide +kernel)⟩
abbrev YX8_load : My := (yX8_load, cX8_load, 2, (some .int))
theorem mX8_load : zz_M YX8_load 1 := ⟨by decide +kernel, zz_mem (i := 1276) (by decide +kernel) (by decide +kernel), zz_mem (i := 87) (by decide +kernel) (by decide +kernel), by decide +kernel, by decide⟩
theorem vX8_load : zz_V YX8_load := ⟨zz_mem (i := 1274) (by decide +kernel) (by decide +kernel), zz_mem (i := 1275) (by decide +kernel) (by decide +kernel)⟩
abbrev YX8_longest : My := (yX8_longest, cX8_longest, 6, (some .int))
theorem mX8_longest : zz_M YX8_longest 2 := ⟨by decide +kernel, zz_mem (i := 1364) (by decide +kernel) (by decide +kernel), zz_mem (i := 87) (by decide +kernel) (by decide +kernel), by decide +kernel, by decide⟩
theorem vX8_longest : zz_V YX8_longest := ⟨zz_mem (i := 1362) (by decide +kernel) (by decide +kernel), zz_mem (i := 1363) (by decide +kernel) (by decide +kernel)⟩
abbrev YX8_make : My := (yX8_make, cX8_make, 2, (some .int))
theorem mX8_make : zz_M YX8_make 1 := ⟨by decide +kernel, zz_mem (i := 1312) (by decide +kernel) (by decide +kernel), zz_mem (i := 87) (by decide +kernel) (by decide +kernel), by decide +kernel, by decide⟩
theorem vX8_make : zz_V YX8_make := ⟨zz_mem (i := 1310) (by decide +kernel) (by decide +kernel), zz_mem (i := 1311) (by decide +kernel) (by decide +kernel)⟩
abbrev YX8_manAt : My := (yX8_manAt, cX8_manAt, 5, (some .int))
theorem mX8_manAt : zz_M YX8_manAt 2 := ⟨by decide +kernel, zz_mem (i := 1217) (by decide +kernel) (by decide +kernel), zz_mem (i := 87) (by decide +kernel) (by decide +kernel), by decide +kernel, by decide⟩
theorem vX8_manAt : zz_V YX8_manAt := ⟨zz_mem (i := 1216) (by decide +kernel) (by decide +kernel), zz_mem (i := 58) (by decide +kernel) (by decide +kernel)⟩
abbrev YX8_move : My := (yX8_move, cX8_move, 4, (some .int))
theorem mX8_move : zz_M YX8_move 2 := ⟨by decide +kernel, zz_mem (i := 1308) (by decide +kernel) (by decide +kernel), zz_mem (i := 87) (by decide +kernel) (by decide +kernel), by decide +kernel, by decide⟩
theorem vX8_move : zz_V YX8_move := ⟨zz_mem (i := 1306) (by decide +kernel) (by decide +kernel), zz_mem (i := 1307) (by decide +kernel) (by decide +kernel)⟩
abbrev YX8_occupied : My := (yX8_occupied, cX8_occupied, 4, (some .int))
theorem mX8_occupied : zz_M YX8_occupied 1 := ⟨by decide +kernel, zz_mem (i := 1179) (by decide +kernel) (by decide +kernel), zz_mem (i := 87) (by decide +kernel) (by decide +kernel), by decide +kernel, by decide⟩
theorem vX8_occupied : zz_V YX8_occupied := ⟨zz_mem (i := 1178) (by decide +kernel) (by decide +kernel), zz_mem (i := 50) (by decide +kernel) (by decide +kernel)⟩
abbrev YX8_occurrences : My := (yX8_occurrences, cX8_occurrences, 3, (some .int))
theorem mX8_occurrences : zz_M YX8_occurrences 0 := ⟨by decide +kernel, zz_mem (i := 1316) (by decide +kernel) (by decide +kernel), zz_mem (i := 87) (by decide +kernel) (by decide +kernel), by decide +kernel, by decide⟩
theorem vX8_occurrences : zz_V YX8_occurrences := ⟨zz_mem (i := 1315) (by decide +kernel) (by decide +kernel), zz_mem (i := 76) (by decide +kernel) (by decide +kernel)⟩
abbrev YX8_passClause : My := (yX8_passClause, cX8_passClause, 1, (Option.none : Option Jvm.ClassFile.FieldType))
theorem mX8_passClause : zz_M YX8_passClause 0 := ⟨by decide +kernel, zz_mem (i := 1133) (by decide +kernel) (by decide +kernel), zz_mem (i := 87) (by decide +kernel) (by decide +kernel), by decide +kernel, by decide⟩
theorem vX8_passClause : zz_V YX8_passClause := ⟨zz_mem (i := 1132) (by decide +kernel) (by decide +kernel), zz_mem (i := 40) (by decide +kernel) (by decide +kernel)⟩
abbrev YX8_passDigit : My := (yX8_passDigit, cX8_passDigit, 4, (some .int))
theorem mX8_passDigit : zz_M YX8_passDigit 2 := ⟨by decide +kernel, zz_mem (i := 1111) (by decide +kernel) (by decide +kernel), zz_mem (i := 87) (by decide +kernel) (by decide +kernel), by decide +kernel, by decide⟩
theorem vX8_passDigit : zz_V YX8_passDigit := ⟨zz_mem (i := 1110) (by decide +kernel) (by decide +kernel), zz_mem (i := 35) (by decide +kernel) (by decide +kernel)⟩
abbrev YX8_passGame : My := (yX8_passGame, cX8_passGame, 2, (Option.none : Option Jvm.ClassFile.FieldType))
theorem mX8_passGame : zz_M YX8_passGame 0 := ⟨by decide +kernel, zz_mem (i := 1107) (by decide +kernel) (by decide +kernel), zz_mem (i := 87) (by decide +kernel) (by decide +kernel), by decide +kernel, by decide⟩
theorem vX8_passGame : zz_V YX8_passGame := ⟨zz_mem (i := 1106) (by decide +kernel) (by decide +kernel), zz_mem (i := 34) (by decide +kernel) (by decide +kernel)⟩
abbrev YX8_passMen : My := (yX8_passMen, cX8_passMen, 1, (Option.none : Option Jvm.ClassFile.FieldType))
theorem mX8_passMen : zz_M YX8_passMen 0 := ⟨by decide +kernel, zz_mem (i := 1123) (by decide +kernel) (by decide +kernel), zz_mem (i := 87) (by decide +kernel) (by decide +kernel), by decide +kernel, by decide⟩
theorem vX8_passMen : zz_V YX8_passMen := ⟨zz_mem (i := 1122) (by decide +kernel) (by decide +kernel), zz_mem (i := 38) (by decide +kernel) (by decide +kernel)⟩
abbrev YX8_passNumber : My := (yX8_passNumber, cX8_passNumber, 2, (some .int))
theorem mX8_passNumber : zz_M YX8_passNumber 0 := ⟨by decide +kernel, zz_mem (i := 1141) (by decide +kernel) (by decide +kernel), zz_mem (i := 87) (by decide +kernel) (by decide +kernel), by decide +kernel, by decide⟩
theorem vX8_passNumber : zz_V YX8_passNumber := ⟨zz_mem (i := 1140) (by decide +kernel) (by decide +kernel), zz_mem (i := 42) (by decide +kernel) (by decide +kernel)⟩
abbrev YX8_passSquare : My := (yX8_passSquare, cX8_passSquare, 3, (Option.none : Option Jvm.ClassFile.FieldType))
theorem mX8_passSquare : zz_M YX8_passSquare 0 := ⟨by decide +kernel, zz_mem (i := 1137) (by decide +kernel) (by decide +kernel), zz_mem (i := 87) (by decide +kernel) (by decide +kernel), by decide +kernel, by decide⟩
theorem vX8_passSquare : zz_V YX8_passSquare := ⟨zz_mem (i := 1136) (by decide +kernel) (by decide +kernel), zz_mem (i := 41) (by decide +kernel) (by decide +kernel)⟩
abbrev YX8_passes : My := (yX8_passes, cX8_passes, 3, (some .boolean))
theorem mX8_passes : zz_M YX8_passes 1 := ⟨by decide +kernel, zz_mem (i := 1119) (by decide +kernel) (by decide +kernel), zz_mem (i := 87) (by decide +kernel) (by decide +kernel), by decide +kernel, by decide⟩
theorem vX8_passes : zz_V YX8_passes := ⟨zz_mem (i := 1118) (by decide +kernel) (by decide +kernel), zz_mem (i := 37) (by decide +kernel) (by decide +kernel)⟩
abbrev YX8_positions : My := (yX8_positions, cX8_positions, 7, (some .int))
theorem mX8_positions : zz_M YX8_positions 3 := ⟨by decide +kernel, zz_mem (i := 1348) (by decide +kernel) (by decide +kernel), zz_mem (i := 87) (by decide +kernel) (by decide +kernel), by decide +kernel, by decide⟩
theorem vX8_positions : zz_V YX8_positions := ⟨zz_mem (i := 1346) (by decide +kernel) (by decide +kernel), zz_mem (i := 1347) (by decide +kernel) (by decide +kernel)⟩
abbrev YX8_reaches : My := (yX8_reaches, cX8_reaches, 12, (some .boolean))
theorem mX8_reaches : zz_M YX8_reaches 5 := ⟨by decide +kernel, zz_mem (i := 1191) (by decide +kernel) (by decide +kernel), zz_mem (i := 87) (by decide +kernel) (by decide +kernel), by decide +kernel, by decide⟩
theorem vX8_reaches : zz_V YX8_reaches := ⟨zz_mem (i := 1190) (by decide +kernel) (by decide +kernel), zz_mem (i := 53) (by decide +kernel) (by decide +kernel)⟩
abbrev YX8_royal : My := (yX8_royal, cX8_royal, 2, (some .int))
theorem mX8_royal : zz_M YX8_royal 1 := ⟨by decide +kernel, zz_mem (i := 1171) (by decide +kernel) (by decide +kernel), zz_mem (i := 87) (by decide +kernel) (by decide +kernel), by decide +kernel, by decide⟩
theorem vX8_royal : zz_V YX8_royal := ⟨zz_mem (i := 1170) (by decide +kernel) (by decide +kernel), zz_mem (i := 48) (by decide +kernel) (by decide +kernel)⟩
abbrev YX8_search : My := (yX8_search, cX8_search, 2, (some .int))
theorem mX8_search : zz_M YX8_search 1 := ⟨by decide +kernel, zz_mem (i := 1340) (by decide +kernel) (by decide +kernel), zz_mem (i := 87) (by decide +kernel) (by decide +kernel), by decide +kernel, by decide⟩
theorem vX8_search : zz_V YX8_search := ⟨zz_mem (i := 1338) (by decide +kernel) (by decide +kernel), zz_mem (i := 1339) (by decide +kernel) (by decide +kernel)⟩
abbrev YX8_searchFrom : My := (yX8_searchFrom, cX8_searchFrom, 6, (some .int))
theorem mX8_searchFrom : zz_M YX8_searchFrom 2 := ⟨by decide +kernel, zz_mem (i := 1344) (by decide +kernel) (by decide +kernel), zz_mem (i := 87) (by decide +kernel) (by decide +kernel), by decide +kernel, by decide⟩
theorem vX8_searchFrom : zz_V YX8_searchFrom := ⟨zz_mem (i := 1343) (by decide +kernel) (by decide +kernel), zz_mem (i := 79) (by decide +kernel) (by decide +kernel)⟩
abbrev YX8_sees : My := (yX8_sees, cX8_sees, 3, (some .boolean))
theorem mX8_sees : zz_M YX8_sees 2 := ⟨by decide +kernel, zz_mem (i := 1115) (by decide +kernel) (by decide +kernel), zz_mem (i := 87) (by decide +kernel) (by decide +kernel), by decide +kernel, by decide⟩
theorem vX8_sees : zz_V YX8_sees := ⟨zz_mem (i := 1114) (by decide +kernel) (by decide +kernel), zz_mem (i := 36) (by decide +kernel) (by decide +kernel)⟩
abbrev YX8_setup : My := (yX8_setup, cX8_setup, 6, (some .int))
theorem mX8_setup : zz_M YX8_setup 4 := ⟨by decide +kernel, zz_mem (i := 1264) (by decide +kernel) (by decide +kernel), zz_mem (i := 87) (by decide +kernel) (by decide +kernel), by decide +kernel, by decide⟩
theorem vX8_setup : zz_V YX8_setup := ⟨zz_mem (i := 1262) (by decide +kernel) (by decide +kernel), zz_mem (i := 1263) (by decide +kernel) (by decide +kernel)⟩
abbrev YX8_sign : My := (yX8_sign, cX8_sign, 1, (some .int))
theorem mX8_sign : zz_M YX8_sign 1 := ⟨by decide +kernel, zz_mem (i := 1201) (by decide +kernel) (by decide +kernel), zz_mem (i := 87) (by decide +kernel) (by decide +kernel), by decide +kernel, by decide⟩
theorem tX8_sign : Cond.static YX8_sign.1 ∈ zz_W := zz_mem (i := 1200) (by decide +kernel) (by decide +kernel)
abbrev YX8_size : My := (yX8_size, cX8_size, 1, (some .int))
theorem mX8_size : zz_M YX8_size 1 := ⟨by decide +kernel, zz_mem (i := 1194) (by decide +kernel) (by decide +kernel), zz_mem (i := 87) (by decide +kernel) (by decide +kernel), by decide +kernel, by decide⟩
theorem tX8_size : Cond.static YX8_size.1 ∈ zz_W := zz_mem (i := 1193) (by decide +kernel) (by decide +kernel)
abbrev YX8_spread : My := (yX8_spread, cX8_spread, 6, (some .int))
theorem mX8_spread : zz_M YX8_spread 3 := ⟨by decide +kernel, zz_mem (i := 1356) (by decide +kernel) (by decide +kernel), zz_mem (i := 87) (by decide +kernel) (by decide +kernel), by decide +kernel, by decide⟩
theorem vX8_spread : zz_V YX8_spread := ⟨zz_mem (i := 1354) (by decide +kernel) (by decide +kernel), zz_mem (i := 1355) (by decide +kernel) (by decide +kernel)⟩
abbrev YX8_squares : My := (yX8_squares, cX8_squares, 1, (some .int))
theorem mX8_squares : zz_M YX8_squares 0 := ⟨by decide +kernel, zz_mem (i := 1152) (by decide +kernel) (by decide +kernel), zz_mem (i := 87) (by decide +kernel) (by decide +kernel), by decide +kernel, by decide⟩
theorem vX8_squares : zz_V YX8_squares := ⟨zz_mem (i := 1151) (by decide +kernel) (by decide +kernel), zz_mem (i := 44) (by decide +kernel) (by decide +kernel)⟩
abbrev YX8_tryMove : My := (yX8_tryMove, cX8_tryMove, 10, (Option.none : Option Jvm.ClassFile.FieldType))
theorem mX8_tryMove : zz_M YX8_tryMove 4 := ⟨by decide +kernel, zz_mem (i := 1213) (by decide +kernel) (by decide +kernel), zz_mem (i := 87) (by decide +kernel) (by decide +kernel), by decide +kernel, by decide⟩
theorem vX8_tryMove : zz_V YX8_tryMove := ⟨zz_mem (i := 1212) (by decide +kernel) (by decide +kernel), zz_mem (i := 57) (by decide +kernel) (by decide +kernel)⟩
abbrev YX8_turned : My := (yX8_turned, cX8_turned, 5, (some .int))
theorem mX8_turned : zz_M YX8_turned 2 := ⟨by decide +kernel, zz_mem (i := 1256) (by decide +kernel) (by decide +kernel), zz_mem (i := 87) (by decide +kernel) (by decide +kernel), by decide +kernel, by decide⟩
theorem vX8_turned : zz_V YX8_turned := ⟨zz_mem (i := 1255) (by decide +kernel) (by decide +kernel), zz_mem (i := 66) (by decide +kernel) (by decide +kernel)⟩
abbrev YX8_undo : My := (yX8_undo, cX8_undo, 2, (some .int))
theorem mX8_undo : zz_M YX8_undo 0 := ⟨by decide +kernel, zz_mem (i := 1380) (by decide +kernel) (by decide +kernel), zz_mem (i := 87) (by decide +kernel) (by decide +kernel), by decide +kernel, by decide⟩
theorem vX8_undo : zz_V YX8_undo := ⟨zz_mem (i := 1378) (by decide +kernel) (by decide +kernel), zz_mem (i := 1379) (by decide +kernel) (by decide +kernel)⟩
abbrev YX8_unlike : My := (yX8_unlike, cX8_unlike, 5, (some .int))
theorem mX8_unlike : zz_M YX8_unlike 0 := ⟨by decide +kernel, zz_mem (i := 1372) (by decide +kernel) (by decide +kernel), zz_mem (i := 87) (by decide +kernel) (by decide +kernel), by decide +kernel, by decide⟩
theorem vX8_unlike : zz_V YX8_unlike := ⟨zz_mem (i := 1370) (by decide +kernel) (by decide +kernel), zz_mem (i := 1371) (by decide +kernel) (by decide +kernel)⟩
abbrev YX8_verdict : My := (yX8_verdict, cX8_verdict, 3, (some .int))
theorem mX8_verdict : zz_M YX8_verdict 1 := ⟨by decide +kernel, zz_mem (i := 1292) (by decide +kernel) (by decide +kernel), zz_mem (i := 87) (by decide +kernel) (by decide +kernel), by decide +kernel, by decide⟩
theorem vX8_verdict : zz_V YX8_verdict := ⟨zz_mem (i := 1291) (by decide +kernel) (by decide +kernel), zz_mem (i := 72) (by decide +kernel) (by decide +kernel)⟩
abbrev YX8_zugzwang : My := (yX8_zugzwang, cX8_zugzwang, 5, (some .int))
theorem mX8_zugzwang : zz_M YX8_zugzwang 1 := ⟨by decide +kernel, zz_mem (i := 1368) (by decide +kernel) (by decide +kernel), zz_mem (i := 87) (by decide +kernel) (by decide +kernel), by decide +kernel, by decide⟩
theorem vX8_zugzwang : zz_V YX8_zugzwang := ⟨zz_mem (i := 1366) (by decide +kernel) (by decide +kernel), zz_mem (i := 1367) (by decide +kernel) (by decide +kernel)⟩
theorem lkX7_9 : Cond.fieldLink RX7 9 (TX7 0).1 (TX7 0).2.1 (TX7 0).2.2.1 ∈ zz_W := zz_mem (i := 125) (by decide +kernel) (by decide +kernel)
theorem lkX7_16 : Cond.fieldLink RX7 16 (TX7 6).1 (TX7 6).2.1 (TX7 6).2.2.1 ∈ zz_W := zz_mem (i := 131) (by decide +kernel) (by decide +kernel)
theorem lkX7_20 : Cond.fieldLink RX7 20 (TX7 7).1 (TX7 7).2.1 (TX7 7).2.2.1 ∈ zz_W := zz_mem (i := 132) (by decide +kernel) (by decide +kernel)
theorem lkX7_27 : Cond.fieldLink RX7 27 (TX7 1).1 (TX7 1).2.1 (TX7 1).2.2.1 ∈ zz_W := zz_mem (i := 126) (by decide +kernel) (by decide +kernel)
theorem lkX7_44 : Cond.fieldLinkNest RX7 44 (TX3 2).1 (TX3 2).2.1 (TX3 2).2.2.1 "EndgameTable" ∈ lw_tbl := List.mem_of_getElem? (i := 180) (by decide +kernel)
theorem lkX7_62 : Cond.fieldLink RX7 62 (TX7 4).1 (TX7 4).2.1 (TX7 4).2.2.1 ∈ zz_W := zz_mem (i := 129) (by decide +kernel) (by decide +kernel)
theorem lkX7_69 : Cond.fieldLinkNest RX7 69 (TX6 8).1 (TX6 8).2.1 (TX6 8).2.2.1 "EndgameTable" ∈ lw_tbl := List.mem_of_getElem? (i := 372) (by decide +kernel)
theorem lkX7_73 : Cond.fieldLinkNest RX7 73 (TX4 4).1 (TX4 4).2.1 (TX4 4).2.2.1 "EndgameTable" ∈ lw_tbl := List.mem_of_getElem? (i := 436) (by decide +kernel)
theorem lkX7_82 : Cond.fieldLinkNest RX7 82 (TX4 0).1 (TX4 0).2.1 (TX4 0).2.2.1 "EndgameTable" ∈ lw_tbl := List.mem_of_getElem? (i := 420) (by decide +kernel)
theorem lkX7_85 : Cond.fieldLinkNest RX7 85 (TX4 1).1 (TX4 1).2.1 (TX4 1).2.2.1 "EndgameTable" ∈ lw_tbl := List.mem_of_getElem? (i := 423) (by decide +kernel)
theorem lkX7_88 : Cond.fieldLinkNest RX7 88 (TX4 5).1 (TX4 5).2.1 (TX4 5).2.2.1 "EndgameTable" ∈ lw_tbl := List.mem_of_getElem? (i := 439) (by decide +kernel)
theorem lkX7_91 : Cond.fieldLinkNest RX7 91 (TX4 6).1 (TX4 6).2.1 (TX4 6).2.2.1 "EndgameTable" ∈ lw_tbl := List.mem_of_getElem? (i := 442) (by decide +kernel)
theorem lkX7_94 : Cond.fieldLinkNest RX7 94 (TX4 3).1 (TX4 3).2.1 (TX4 3).2.2.1 "EndgameTable" ∈ lw_tbl := List.mem_of_getElem? (i := 432) (by decide +kernel)
theorem lkX7_97 : Cond.fieldLinkNest RX7 97 (TX4 7).1 (TX4 7).2.1 (TX4 7).2.2.1 "EndgameTable" ∈ lw_tbl := List.mem_of_getElem? (i := 445) (by decide +kernel)
theorem lkX7_100 : Cond.fieldLinkNest RX7 100 (TX4 8).1 (TX4 8).2.1 (TX4 8).2.2.1 "EndgameTable" ∈ lw_tbl := List.mem_of_getElem? (i := 448) (by decide +kernel)
theorem lkX7_103 : Cond.fieldLinkNest RX7 103 (TX6 9).1 (TX6 9).2.1 (TX6 9).2.2.1 "EndgameTable" ∈ lw_tbl := List.mem_of_getElem? (i := 374) (by decide +kernel)
theorem lkX7_107 : Cond.fieldLinkNest RX7 107 (TX5 2).1 (TX5 2).2.1 (TX5 2).2.2.1 "EndgameTable" ∈ lw_tbl := List.mem_of_getElem? (i := 510) (by decide +kernel)
theorem lkX7_112 : Cond.fieldLinkNest RX7 112 (TX6 11).1 (TX6 11).2.1 (TX6 11).2.2.1 "EndgameTable" ∈ lw_tbl := List.mem_of_getElem? (i := 377) (by decide +kernel)
theorem lkX7_226 : Cond.fieldLink RX7 226 (TX7 8).1 (TX7 8).2.1 (TX7 8).2.2.1 ∈ zz_W := zz_mem (i := 133) (by decide +kernel) (by decide +kernel)
theorem lkX7_230 : Cond.fieldLink RX7 230 (TX7 5).1 (TX7 5).2.1 (TX7 5).2.2.1 ∈ zz_W := zz_mem (i := 130) (by decide +kernel) (by decide +kernel)
theorem lkX7_243 : Cond.fieldLink RX7 243 (TX7 2).1 (TX7 2).2.1 (TX7 2).2.2.1 ∈ zz_W := zz_mem (i := 127) (by decide +kernel) (by decide +kernel)
theorem lkX7_247 : Cond.fieldLink RX7 247 (TX7 3).1 (TX7 3).2.1 (TX7 3).2.2.1 ∈ zz_W := zz_mem (i := 128) (by decide +kernel) (by decide +kernel)
theorem lkX7_256 : Cond.fieldLinkNest RX7 256 (TX4 2).1 (TX4 2).2.1 (TX4 2).2.2.1 "EndgameTable" ∈ lw_tbl := List.mem_of_getElem? (i := 429) (by decide +kernel)
theorem lkX0_9 : Cond.fieldLink RX0 9 (TX0 0).1 (TX0 0).2.1 (TX0 0).2.2.1 ∈ zz_W := zz_mem (i := 117) (by decide +kernel) (by decide +kernel)
theorem lkX0_15 : Cond.fieldLink RX0 15 (TX0 1).1 (TX0 1).2.1 (TX0 1).2.2.1 ∈ zz_W := zz_mem (i := 118) (by decide +kernel) (by decide +kernel)
theorem lkX1_9 : Cond.fieldLink RX1 9 (TX1 2).1 (TX1 2).2.1 (TX1 2).2.2.1 ∈ zz_W := zz_mem (i := 567) (by decide +kernel) (by decide +kernel)
theorem lkX1_15 : Cond.fieldLink RX1 15 (TX1 0).1 (TX1 0).2.1 (TX1 0).2.2.1 ∈ zz_W := zz_mem (i := 565) (by decide +kernel) (by decide +kernel)
theorem lkX1_24 : Cond.fieldLink RX1 24 (TX1 1).1 (TX1 1).2.1 (TX1 1).2.2.1 ∈ zz_W := zz_mem (i := 566) (by decide +kernel) (by decide +kernel)
theorem lkX1_28 : Cond.fieldLink RX1 28 (TX1 3).1 (TX1 3).2.1 (TX1 3).2.2.1 ∈ zz_W := zz_mem (i := 568) (by decide +kernel) (by decide +kernel)
theorem lkX1_32 : Cond.fieldLink RX1 32 (TX1 4).1 (TX1 4).2.1 (TX1 4).2.2.1 ∈ zz_W := zz_mem (i := 569) (by decide +kernel) (by decide +kernel)
theorem lkX1_41 : Cond.fieldLinkNest RX1 41 (TX4 2).1 (TX4 2).2.1 (TX4 2).2.2.1 "EndgameTable" ∈ lw_tbl := List.mem_of_getElem? (i := 427) (by decide +kernel)
theorem lkX1_48 : Cond.fieldLinkNest RX1 48 (TX4 5).1 (TX4 5).2.1 (TX4 5).2.2.1 "EndgameTable" ∈ lw_tbl := List.mem_of_getElem? (i := 440) (by decide +kernel)
theorem lkX1_58 : Cond.fieldLinkNest RX1 58 (TX4 6).1 (TX4 6).2.1 (TX4 6).2.2.1 "EndgameTable" ∈ lw_tbl := List.mem_of_getElem? (i := 443) (by decide +kernel)
theorem lkX1_66 : Cond.fieldLinkNest RX1 66 (TX4 3).1 (TX4 3).2.1 (TX4 3).2.2.1 "EndgameTable" ∈ lw_tbl := List.mem_of_getElem? (i := 433) (by decide +kernel)
theorem lkX2_11 : Cond.fieldLink RX2 11 (TX2 0).1 (TX2 0).2.1 (TX2 0).2.2.1 ∈ zz_W := zz_mem (i := 558) (by decide +kernel) (by decide +kernel)
theorem lkX2_15 : Cond.fieldLink RX2 15 (TX2 1).1 (TX2 1).2.1 (TX2 1).2.2.1 ∈ zz_W := zz_mem (i := 559) (by decide +kernel) (by decide +kernel)
theorem lkX2_24 : Cond.fieldLinkNest RX2 24 (TX4 5).1 (TX4 5).2.1 (TX4 5).2.2.1 "EndgameTable" ∈ lw_tbl := List.mem_of_getElem? (i := 437) (by decide +kernel)
theorem lkX2_30 : Cond.fieldLinkNest RX2 30 (TX4 2).1 (TX4 2).2.1 (TX4 2).2.2.1 "EndgameTable" ∈ lw_tbl := List.mem_of_getElem? (i := 425) (by decide +kernel)
theorem lkX2_37 : Cond.fieldLinkNest RX2 37 (TX4 0).1 (TX4 0).2.1 (TX4 0).2.2.1 "EndgameTable" ∈ lw_tbl := List.mem_of_getElem? (i := 419) (by decide +kernel)
theorem lkX2_40 : Cond.fieldLinkNest RX2 40 (TX4 4).1 (TX4 4).2.1 (TX4 4).2.2.1 "EndgameTable" ∈ lw_tbl := List.mem_of_getElem? (i := 435) (by decide +kernel)
theorem lkX3_9 : Cond.fieldLink RX3 9 (TX3 9).1 (TX3 9).2.1 (TX3 9).2.2.1 ∈ zz_W := zz_mem (i := 193) (by decide +kernel) (by decide +kernel)
theorem lkX3_15 : Cond.fieldLink RX3 15 (TX3 10).1 (TX3 10).2.1 (TX3 10).2.2.1 ∈ zz_W := zz_mem (i := 195) (by decide +kernel) (by decide +kernel)
theorem lkX3_19 : Cond.fieldLink RX3 19 (TX3 0).1 (TX3 0).2.1 (TX3 0).2.2.1 ∈ zz_W := zz_mem (i := 177) (by decide +kernel) (by decide +kernel)
theorem lkX3_28 : Cond.fieldLink RX3 28 (TX3 1).1 (TX3 1).2.1 (TX3 1).2.2.1 ∈ zz_W := zz_mem (i := 178) (by decide +kernel) (by decide +kernel)
theorem lkX3_42 : Cond.fieldLink RX3 42 (TX3 5).1 (TX3 5).2.1 (TX3 5).2.2.1 ∈ zz_W := zz_mem (i := 186) (by decide +kernel) (by decide +kernel)
theorem lkX3_45 : Cond.fieldLink RX3 45 (TX3 6).1 (TX3 6).2.1 (TX3 6).2.2.1 ∈ zz_W := zz_mem (i := 188) (by decide +kernel) (by decide +kernel)
theorem lkX3_48 : Cond.fieldLink RX3 48 (TX3 2).1 (TX3 2).2.1 (TX3 2).2.2.1 ∈ zz_W := zz_mem (i := 179) (by decide +kernel) (by decide +kernel)
theorem lkX3_61 : Cond.fieldLink RX3 61 (TX3 3).1 (TX3 3).2.1 (TX3 3).2.2.1 ∈ zz_W := zz_mem (i := 182) (by decide +kernel) (by decide +kernel)
theorem lkX3_64 : Cond.fieldLink RX3 64 (TX3 4).1 (TX3 4).2.1 (TX3 4).2.2.1 ∈ zz_W := zz_mem (i := 184) (by decide +kernel) (by decide +kernel)
theorem lkX3_87 : Cond.fieldLink RX3 87 (TX3 8).1 (TX3 8).2.1 (TX3 8).2.2.1 ∈ zz_W := zz_mem (i := 192) (by decide +kernel) (by decide +kernel)
theorem lkX3_93 : Cond.fieldLink RX3 93 (TX3 7).1 (TX3 7).2.1 (TX3 7).2.2.1 ∈ zz_W := zz_mem (i := 190) (by decide +kernel) (by decide +kernel)
theorem lkX4_9 : Cond.fieldLink RX4 9 (TX4 11).1 (TX4 11).2.1 (TX4 11).2.2.1 ∈ zz_W := zz_mem (i := 453) (by decide +kernel) (by decide +kernel)
theorem lkX4_15 : Cond.fieldLink RX4 15 (TX4 12).1 (TX4 12).2.1 (TX4 12).2.2.1 ∈ zz_W := zz_mem (i := 454) (by decide +kernel) (by decide +kernel)
theorem lkX4_18 : Cond.fieldLinkNest RX4 18 (TX3 3).1 (TX3 3).2.1 (TX3 3).2.2.1 "EndgameTable" ∈ lw_tbl := List.mem_of_getElem? (i := 181) (by decide +kernel)
theorem lkX4_24 : Cond.fieldLink RX4 24 (TX4 0).1 (TX4 0).2.1 (TX4 0).2.2.1 ∈ zz_W := zz_mem (i := 417) (by decide +kernel) (by decide +kernel)
theorem lkX4_25 : Cond.fieldLinkNest RX4 25 (TX3 4).1 (TX3 4).2.1 (TX3 4).2.2.1 "EndgameTable" ∈ lw_tbl := List.mem_of_getElem? (i := 183) (by decide +kernel)
theorem lkX4_28 : Cond.fieldLink RX4 28 (TX4 1).1 (TX4 1).2.1 (TX4 1).2.2.1 ∈ zz_W := zz_mem (i := 421) (by decide +kernel) (by decide +kernel)
theorem lkX4_29 : Cond.fieldLink RX4 29 (TX4 2).1 (TX4 2).2.1 (TX4 2).2.2.1 ∈ zz_W := zz_mem (i := 424) (by decide +kernel) (by decide +kernel)
theorem lkX4_32 : Cond.fieldLinkNest RX4 32 (TX3 7).1 (TX3 7).2.1 (TX3 7).2.2.1 "EndgameTable" ∈ lw_tbl := List.mem_of_getElem? (i := 189) (by decide +kernel)
theorem lkX4_35 : Cond.fieldLink RX4 35 (TX4 3).1 (TX4 3).2.1 (TX4 3).2.2.1 ∈ zz_W := zz_mem (i := 430) (by decide +kernel) (by decide +kernel)
theorem lkX4_36 : Cond.fieldLink RX4 36 (TX4 4).1 (TX4 4).2.1 (TX4 4).2.2.1 ∈ zz_W := zz_mem (i := 434) (by decide +kernel) (by decide +kernel)
theorem lkX4_39 : Cond.fieldLinkNest RX4 39 (TX3 5).1 (TX3 5).2.1 (TX3 5).2.2.1 "EndgameTable" ∈ lw_tbl := List.mem_of_getElem? (i := 185) (by decide +kernel)
theorem lkX4_42 : Cond.fieldLink RX4 42 (TX4 5).1 (TX4 5).2.1 (TX4 5).2.2.1 ∈ zz_W := zz_mem (i := 438) (by decide +kernel) (by decide +kernel)
theorem lkX4_43 : Cond.fieldLinkNest RX4 43 (TX3 6).1 (TX3 6).2.1 (TX3 6).2.2.1 "EndgameTable" ∈ lw_tbl := List.mem_of_getElem? (i := 187) (by decide +kernel)
theorem lkX4_46 : Cond.fieldLink RX4 46 (TX4 6).1 (TX4 6).2.1 (TX4 6).2.2.1 ∈ zz_W := zz_mem (i := 441) (by decide +kernel) (by decide +kernel)
theorem lkX4_47 : Cond.fieldLinkNest RX4 47 (TX3 8).1 (TX3 8).2.1 (TX3 8).2.2.1 "EndgameTable" ∈ lw_tbl := List.mem_of_getElem? (i := 191) (by decide +kernel)
theorem lkX4_50 : Cond.fieldLink RX4 50 (TX4 7).1 (TX4 7).2.1 (TX4 7).2.2.1 ∈ zz_W := zz_mem (i := 444) (by decide +kernel) (by decide +kernel)
theorem lkX4_51 : Cond.fieldLinkNest RX4 51 (TX3 9).1 (TX3 9).2.1 (TX3 9).2.2.1 "EndgameTable" ∈ lw_tbl := List.mem_of_getElem? (i := 194) (by decide +kernel)
theorem lkX4_54 : Cond.fieldLink RX4 54 (TX4 8).1 (TX4 8).2.1 (TX4 8).2.2.1 ∈ zz_W := zz_mem (i := 447) (by decide +kernel) (by decide +kernel)
theorem lkX4_55 : Cond.fieldLink RX4 55 (TX4 9).1 (TX4 9).2.1 (TX4 9).2.2.1 ∈ zz_W := zz_mem (i := 450) (by decide +kernel) (by decide +kernel)
theorem lkX4_58 : Cond.fieldLinkNest RX4 58 (TX3 10).1 (TX3 10).2.1 (TX3 10).2.2.1 "EndgameTable" ∈ lw_tbl := List.mem_of_getElem? (i := 196) (by decide +kernel)
theorem lkX4_65 : Cond.fieldLink RX4 65 (TX4 10).1 (TX4 10).2.1 (TX4 10).2.2.1 ∈ zz_W := zz_mem (i := 451) (by decide +kernel) (by decide +kernel)
theorem lkX5_11 : Cond.fieldLink RX5 11 (TX5 1).1 (TX5 1).2.1 (TX5 1).2.2.1 ∈ zz_W := zz_mem (i := 508) (by decide +kernel) (by decide +kernel)
theorem lkX5_15 : Cond.fieldLink RX5 15 (TX5 0).1 (TX5 0).2.1 (TX5 0).2.2.1 ∈ zz_W := zz_mem (i := 507) (by decide +kernel) (by decide +kernel)
theorem lkX5_25 : Cond.fieldLinkNest RX5 25 (TX4 0).1 (TX4 0).2.1 (TX4 0).2.2.1 "EndgameTable" ∈ lw_tbl := List.mem_of_getElem? (i := 418) (by decide +kernel)
theorem lkX5_29 : Cond.fieldLinkNest RX5 29 (TX4 1).1 (TX4 1).2.1 (TX4 1).2.2.1 "EndgameTable" ∈ lw_tbl := List.mem_of_getElem? (i := 422) (by decide +kernel)
theorem lkX5_32 : Cond.fieldLink RX5 32 (TX5 2).1 (TX5 2).2.1 (TX5 2).2.2.1 ∈ zz_W := zz_mem (i := 509) (by decide +kernel) (by decide +kernel)
theorem lkX5_39 : Cond.fieldLinkNest RX5 39 (TX4 2).1 (TX4 2).2.1 (TX4 2).2.2.1 "EndgameTable" ∈ lw_tbl := List.mem_of_getElem? (i := 426) (by decide +kernel)
theorem lkX5_42 : Cond.fieldLinkNest RX5 42 (TX4 3).1 (TX4 3).2.1 (TX4 3).2.2.1 "EndgameTable" ∈ lw_tbl := List.mem_of_getElem? (i := 431) (by decide +kernel)
theorem lkX6_9 : Cond.fieldLink RX6 9 (TX6 0).1 (TX6 0).2.1 (TX6 0).2.2.1 ∈ zz_W := zz_mem (i := 363) (by decide +kernel) (by decide +kernel)
theorem lkX6_15 : Cond.fieldLink RX6 15 (TX6 1).1 (TX6 1).2.1 (TX6 1).2.2.1 ∈ zz_W := zz_mem (i := 364) (by decide +kernel) (by decide +kernel)
theorem lkX6_18 : Cond.fieldLink RX6 18 (TX6 2).1 (TX6 2).2.1 (TX6 2).2.2.1 ∈ zz_W := zz_mem (i := 365) (by decide +kernel) (by decide +kernel)
theorem lkX6_21 : Cond.fieldLink RX6 21 (TX6 3).1 (TX6 3).2.1 (TX6 3).2.2.1 ∈ zz_W := zz_mem (i := 366) (by decide +kernel) (by decide +kernel)
theorem lkX6_24 : Cond.fieldLink RX6 24 (TX6 4).1 (TX6 4).2.1 (TX6 4).2.2.1 ∈ zz_W := zz_mem (i := 367) (by decide +kernel) (by decide +kernel)
theorem lkX6_27 : Cond.fieldLink RX6 27 (TX6 5).1 (TX6 5).2.1 (TX6 5).2.2.1 ∈ zz_W := zz_mem (i := 368) (by decide +kernel) (by decide +kernel)
theorem lkX6_30 : Cond.fieldLink RX6 30 (TX6 6).1 (TX6 6).2.1 (TX6 6).2.2.1 ∈ zz_W := zz_mem (i := 369) (by decide +kernel) (by decide +kernel)
theorem lkX6_33 : Cond.fieldLink RX6 33 (TX6 7).1 (TX6 7).2.1 (TX6 7).2.2.1 ∈ zz_W := zz_mem (i := 370) (by decide +kernel) (by decide +kernel)
theorem lkX6_36 : Cond.fieldLink RX6 36 (TX6 8).1 (TX6 8).2.1 (TX6 8).2.2.1 ∈ zz_W := zz_mem (i := 371) (by decide +kernel) (by decide +kernel)
theorem lkX6_45 : Cond.fieldLink RX6 45 (TX6 9).1 (TX6 9).2.1 (TX6 9).2.2.1 ∈ zz_W := zz_mem (i := 373) (by decide +kernel) (by decide +kernel)
theorem lkX6_52 : Cond.fieldLink RX6 52 (TX6 10).1 (TX6 10).2.1 (TX6 10).2.2.1 ∈ zz_W := zz_mem (i := 375) (by decide +kernel) (by decide +kernel)
theorem lkX6_56 : Cond.fieldLinkNest RX6 56 (TX4 10).1 (TX4 10).2.1 (TX4 10).2.2.1 "EndgameTable" ∈ lw_tbl := List.mem_of_getElem? (i := 452) (by decide +kernel)
theorem lkX6_62 : Cond.fieldLink RX6 62 (TX6 12).1 (TX6 12).2.1 (TX6 12).2.2.1 ∈ zz_W := zz_mem (i := 378) (by decide +kernel) (by decide +kernel)
theorem lkX6_82 : Cond.fieldLink RX6 82 (TX6 11).1 (TX6 11).2.1 (TX6 11).2.2.1 ∈ zz_W := zz_mem (i := 376) (by decide +kernel) (by decide +kernel)
theorem lkX6_101 : Cond.fieldLink RX6 101 (TX6 13).1 (TX6 13).2.1 (TX6 13).2.2.1 ∈ zz_W := zz_mem (i := 379) (by decide +kernel) (by decide +kernel)
theorem lkX6_116 : Cond.fieldLinkNest RX6 116 (TX4 2).1 (TX4 2).2.1 (TX4 2).2.2.1 "EndgameTable" ∈ lw_tbl := List.mem_of_getElem? (i := 428) (by decide +kernel)
theorem lkX6_132 : Cond.fieldLinkNest RX6 132 (TX4 7).1 (TX4 7).2.1 (TX4 7).2.2.1 "EndgameTable" ∈ lw_tbl := List.mem_of_getElem? (i := 446) (by decide +kernel)
theorem lkX6_160 : Cond.fieldLinkNest RX6 160 (TX4 8).1 (TX4 8).2.1 (TX4 8).2.2.1 "EndgameTable" ∈ lw_tbl := List.mem_of_getElem? (i := 449) (by decide +kernel)
theorem lkX6_195 : Cond.fieldLinkNest RX6 195 (TX5 2).1 (TX5 2).2.1 (TX5 2).2.2.1 "EndgameTable" ∈ lw_tbl := List.mem_of_getElem? (i := 511) (by decide +kernel)
theorem lkX8_9 : Cond.fieldLink RX8 9 (TX8 0).1 (TX8 0).2.1 (TX8 0).2.2.1 ∈ zz_W := zz_mem (i := 992) (by decide +kernel) (by decide +kernel)
theorem lkX8_13 : Cond.fieldLink RX8 13 (TX8 4).1 (TX8 4).2.1 (TX8 4).2.2.1 ∈ zz_W := zz_mem (i := 996) (by decide +kernel) (by decide +kernel)
theorem lkX8_16 : Cond.fieldLink RX8 16 (TX8 5).1 (TX8 5).2.1 (TX8 5).2.2.1 ∈ zz_W := zz_mem (i := 997) (by decide +kernel) (by decide +kernel)
theorem lkX8_19 : Cond.fieldLink RX8 19 (TX8 6).1 (TX8 6).2.1 (TX8 6).2.2.1 ∈ zz_W := zz_mem (i := 998) (by decide +kernel) (by decide +kernel)
theorem lkX8_24 : Cond.fieldLink RX8 24 (TX8 8).1 (TX8 8).2.1 (TX8 8).2.2.1 ∈ zz_W := zz_mem (i := 1000) (by decide +kernel) (by decide +kernel)
theorem lkX8_27 : Cond.fieldLink RX8 27 (TX8 9).1 (TX8 9).2.1 (TX8 9).2.2.1 ∈ zz_W := zz_mem (i := 1001) (by decide +kernel) (by decide +kernel)
theorem lkX8_30 : Cond.fieldLink RX8 30 (TX8 10).1 (TX8 10).2.1 (TX8 10).2.2.1 ∈ zz_W := zz_mem (i := 1002) (by decide +kernel) (by decide +kernel)
theorem lkX8_33 : Cond.fieldLink RX8 33 (TX8 11).1 (TX8 11).2.1 (TX8 11).2.2.1 ∈ zz_W := zz_mem (i := 1003) (by decide +kernel) (by decide +kernel)
theorem lkX8_36 : Cond.fieldLink RX8 36 (TX8 12).1 (TX8 12).2.1 (TX8 12).2.2.1 ∈ zz_W := zz_mem (i := 1004) (by decide +kernel) (by decide +kernel)
theorem lkX8_39 : Cond.fieldLink RX8 39 (TX8 13).1 (TX8 13).2.1 (TX8 13).2.2.1 ∈ zz_W := zz_mem (i := 1005) (by decide +kernel) (by decide +kernel)
theorem lkX8_42 : Cond.fieldLink RX8 42 (TX8 14).1 (TX8 14).2.1 (TX8 14).2.2.1 ∈ zz_W := zz_mem (i := 1006) (by decide +kernel) (by decide +kernel)
theorem lkX8_46 : Cond.fieldLink RX8 46 (TX8 15).1 (TX8 15).2.1 (TX8 15).2.2.1 ∈ zz_W := zz_mem (i := 1007) (by decide +kernel) (by decide +kernel)
theorem lkX8_49 : Cond.fieldLink RX8 49 (TX8 16).1 (TX8 16).2.1 (TX8 16).2.2.1 ∈ zz_W := zz_mem (i := 1008) (by decide +kernel) (by decide +kernel)
theorem lkX8_52 : Cond.fieldLink RX8 52 (TX8 17).1 (TX8 17).2.1 (TX8 17).2.2.1 ∈ zz_W := zz_mem (i := 1009) (by decide +kernel) (by decide +kernel)
theorem lkX8_55 : Cond.fieldLink RX8 55 (TX8 18).1 (TX8 18).2.1 (TX8 18).2.2.1 ∈ zz_W := zz_mem (i := 1010) (by decide +kernel) (by decide +kernel)
theorem lkX8_58 : Cond.fieldLink RX8 58 (TX8 19).1 (TX8 19).2.1 (TX8 19).2.2.1 ∈ zz_W := zz_mem (i := 1011) (by decide +kernel) (by decide +kernel)
theorem lkX8_61 : Cond.fieldLink RX8 61 (TX8 21).1 (TX8 21).2.1 (TX8 21).2.2.1 ∈ zz_W := zz_mem (i := 1013) (by decide +kernel) (by decide +kernel)
theorem lkX8_64 : Cond.fieldLink RX8 64 (TX8 22).1 (TX8 22).2.1 (TX8 22).2.2.1 ∈ zz_W := zz_mem (i := 1014) (by decide +kernel) (by decide +kernel)
theorem lkX8_67 : Cond.fieldLink RX8 67 (TX8 23).1 (TX8 23).2.1 (TX8 23).2.2.1 ∈ zz_W := zz_mem (i := 1015) (by decide +kernel) (by decide +kernel)
theorem lkX8_71 : Cond.fieldLink RX8 71 (TX8 25).1 (TX8 25).2.1 (TX8 25).2.2.1 ∈ zz_W := zz_mem (i := 1017) (by decide +kernel) (by decide +kernel)
theorem lkX8_74 : Cond.fieldLink RX8 74 (TX8 26).1 (TX8 26).2.1 (TX8 26).2.2.1 ∈ zz_W := zz_mem (i := 1018) (by decide +kernel) (by decide +kernel)
theorem lkX8_77 : Cond.fieldLink RX8 77 (TX8 27).1 (TX8 27).2.1 (TX8 27).2.2.1 ∈ zz_W := zz_mem (i := 1019) (by decide +kernel) (by decide +kernel)
theorem lkX8_80 : Cond.fieldLink RX8 80 (TX8 28).1 (TX8 28).2.1 (TX8 28).2.2.1 ∈ zz_W := zz_mem (i := 1020) (by decide +kernel) (by decide +kernel)
theorem lkX8_83 : Cond.fieldLink RX8 83 (TX8 29).1 (TX8 29).2.1 (TX8 29).2.2.1 ∈ zz_W := zz_mem (i := 1021) (by decide +kernel) (by decide +kernel)
theorem lkX8_94 : Cond.fieldLink RX8 94 (TX8 1).1 (TX8 1).2.1 (TX8 1).2.2.1 ∈ zz_W := zz_mem (i := 993) (by decide +kernel) (by decide +kernel)
theorem lkX8_97 : Cond.fieldLink RX8 97 (TX8 3).1 (TX8 3).2.1 (TX8 3).2.2.1 ∈ zz_W := zz_mem (i := 995) (by decide +kernel) (by decide +kernel)
theorem lkX8_101 : Cond.fieldLink RX8 101 (TX8 2).1 (TX8 2).2.1 (TX8 2).2.2.1 ∈ zz_W := zz_mem (i := 994) (by decide +kernel) (by decide +kernel)
theorem lkX8_146 : Cond.fieldLink RX8 146 (TX8 7).1 (TX8 7).2.1 (TX8 7).2.2.1 ∈ zz_W := zz_mem (i := 999) (by decide +kernel) (by decide +kernel)
theorem lkX8_213 : Cond.fieldLink RX8 213 (TX8 20).1 (TX8 20).2.1 (TX8 20).2.2.1 ∈ zz_W := zz_mem (i := 1012) (by decide +kernel) (by decide +kernel)
theorem lkX8_290 : Cond.fieldLink RX8 290 (TX8 30).1 (TX8 30).2.1 (TX8 30).2.2.1 ∈ zz_W := zz_mem (i := 1022) (by decide +kernel) (by decide +kernel)
theorem lkX8_293 : Cond.fieldLink RX8 293 (TX8 31).1 (TX8 31).2.1 (TX8 31).2.2.1 ∈ zz_W := zz_mem (i := 1023) (by decide +kernel) (by decide +kernel)
theorem lkX8_296 : Cond.fieldLink RX8 296 (TX8 24).1 (TX8 24).2.1 (TX8 24).2.2.1 ∈ zz_W := zz_mem (i := 1016) (by decide +kernel) (by decide +kernel)
theorem lmX7_15 : Cond.methodLinkNest RX7 15 yX0_init "EndgameTable" ∈ lw_tbl := List.mem_of_getElem? (i := 113) (by decide +kernel)
theorem lmX7_23 : Cond.methodLink RX7 23 yX7_isByte ∈ zz_W := zz_mem (i := 157) (by decide +kernel) (by decide +kernel)
theorem lmX7_31 : Cond.methodLink RX7 31 yX7_append ∈ zz_W := zz_mem (i := 160) (by decide +kernel) (by decide +kernel)
theorem lmX7_37 : Cond.methodLink RX7 37 yX3_init ∈ zz_W := zz_mem (i := 170) (by decide +kernel) (by decide +kernel)
theorem lmX7_40 : Cond.methodLink RX7 40 yX3_isGame ∈ zz_W := zz_mem (i := 220) (by decide +kernel) (by decide +kernel)
theorem lmX7_47 : Cond.methodLink RX7 47 yX7_freeTable ∈ zz_W := zz_mem (i := 353) (by decide +kernel) (by decide +kernel)
theorem lmX7_53 : Cond.methodLink RX7 53 yX4_init ∈ zz_W := zz_mem (i := 412) (by decide +kernel) (by decide +kernel)
theorem lmX7_56 : Cond.methodLink RX7 56 yX6_build ∈ zz_W := zz_mem (i := 482) (by decide +kernel) (by decide +kernel)
theorem lmX7_66 : Cond.methodLink RX7 66 yX0_clear ∈ zz_W := zz_mem (i := 740) (by decide +kernel) (by decide +kernel)
theorem lmX7_76 : Cond.methodLink RX7 76 yJ6_bitCount_0f7a4 ∈ zz_W := zz_mem (i := 744) (by decide +kernel) (by decide +kernel)
theorem lmX7_115 : Cond.methodLink RX7 115 yX4_kindOf ∈ zz_W := zz_mem (i := 749) (by decide +kernel) (by decide +kernel)
theorem lmX7_118 : Cond.methodLink RX7 118 yX4_canTell ∈ zz_W := zz_mem (i := 754) (by decide +kernel) (by decide +kernel)
theorem lmX7_122 : Cond.methodLink RX7 122 yX4_indexOf ∈ zz_W := zz_mem (i := 758) (by decide +kernel) (by decide +kernel)
theorem lmX7_126 : Cond.methodLink RX7 126 yX6_isPossible ∈ zz_W := zz_mem (i := 759) (by decide +kernel) (by decide +kernel)
theorem lmX7_129 : Cond.methodLink RX7 129 yX0_begin ∈ zz_W := zz_mem (i := 763) (by decide +kernel) (by decide +kernel)
theorem lmX7_132 : Cond.methodLink RX7 132 yX7_isPlaying ∈ zz_W := zz_mem (i := 779) (by decide +kernel) (by decide +kernel)
theorem lmX7_135 : Cond.methodLink RX7 135 yX0_present ∈ zz_W := zz_mem (i := 787) (by decide +kernel) (by decide +kernel)
theorem lmX7_139 : Cond.methodLink RX7 139 yX6_valueOf ∈ zz_W := zz_mem (i := 795) (by decide +kernel) (by decide +kernel)
theorem lmX7_142 : Cond.methodLink RX7 142 yX6_toEndOf ∈ zz_W := zz_mem (i := 796) (by decide +kernel) (by decide +kernel)
theorem lmX7_145 : Cond.methodLink RX7 145 yX6_toConversionOf ∈ zz_W := zz_mem (i := 797) (by decide +kernel) (by decide +kernel)
theorem lmX7_148 : Cond.methodLink RX7 148 yX6_verdictOf ∈ zz_W := zz_mem (i := 798) (by decide +kernel) (by decide +kernel)
theorem lmX7_151 : Cond.methodLink RX7 151 yX6_isRoyalAttacked ∈ zz_W := zz_mem (i := 802) (by decide +kernel) (by decide +kernel)
theorem lmX7_154 : Cond.methodLink RX7 154 yX6_stepsOf ∈ zz_W := zz_mem (i := 803) (by decide +kernel) (by decide +kernel)
theorem lmX7_157 : Cond.methodLink RX7 157 yX6_canonicalOf ∈ zz_W := zz_mem (i := 804) (by decide +kernel) (by decide +kernel)
theorem lmX7_160 : Cond.methodLink RX7 160 yX5_differentImages ∈ zz_W := zz_mem (i := 805) (by decide +kernel) (by decide +kernel)
theorem lmX7_163 : Cond.methodLink RX7 163 yX7_manOnBoard ∈ zz_W := zz_mem (i := 813) (by decide +kernel) (by decide +kernel)
theorem lmX7_167 : Cond.methodLink RX7 167 yX6_stepOf ∈ zz_W := zz_mem (i := 823) (by decide +kernel) (by decide +kernel)
theorem lmX7_170 : Cond.methodLink RX7 170 yX4_changedMan ∈ zz_W := zz_mem (i := 827) (by decide +kernel) (by decide +kernel)
theorem lmX7_174 : Cond.methodLink RX7 174 yX4_squareOf ∈ zz_W := zz_mem (i := 818) (by decide +kernel) (by decide +kernel)
theorem lmX7_177 : Cond.methodLink RX7 177 yX7_capturedMan ∈ zz_W := zz_mem (i := 834) (by decide +kernel) (by decide +kernel)
theorem lmX7_180 : Cond.methodLink RX7 180 yX0_made ∈ zz_W := zz_mem (i := 842) (by decide +kernel) (by decide +kernel)
theorem lmX7_183 : Cond.methodLink RX7 183 yX0_add ∈ zz_W := zz_mem (i := 847) (by decide +kernel) (by decide +kernel)
theorem lmX7_186 : Cond.methodLink RX7 186 yX0_occurrences ∈ zz_W := zz_mem (i := 848) (by decide +kernel) (by decide +kernel)
theorem lmX7_189 : Cond.methodLink RX7 189 yX0_removeLast ∈ zz_W := zz_mem (i := 860) (by decide +kernel) (by decide +kernel)
theorem lmX7_192 : Cond.methodLink RX7 192 yX6_bestStep ∈ zz_W := zz_mem (i := 868) (by decide +kernel) (by decide +kernel)
theorem lmX7_195 : Cond.methodLink RX7 195 yX6_followBest ∈ zz_W := zz_mem (i := 877) (by decide +kernel) (by decide +kernel)
theorem lmX7_198 : Cond.methodLink RX7 198 yX6_followed ∈ zz_W := zz_mem (i := 886) (by decide +kernel) (by decide +kernel)
theorem lmX7_201 : Cond.methodLinkNest RX7 201 yX6_searched "EndgameTable" ∈ lw_tbl := List.mem_of_getElem? (i := 894) (by decide +kernel)
theorem lmX7_205 : Cond.methodLink RX7 205 yX6_numberWithValue ∈ zz_W := zz_mem (i := 903) (by decide +kernel) (by decide +kernel)
theorem lmX7_208 : Cond.methodLink RX7 208 yX6_numberWithDistance ∈ zz_W := zz_mem (i := 912) (by decide +kernel) (by decide +kernel)
theorem lmX7_211 : Cond.methodLink RX7 211 yX6_mostDistant ∈ zz_W := zz_mem (i := 924) (by decide +kernel) (by decide +kernel)
theorem lmX7_214 : Cond.methodLink RX7 214 yX6_distanceOf ∈ zz_W := zz_mem (i := 928) (by decide +kernel) (by decide +kernel)
theorem lmX7_217 : Cond.methodLink RX7 217 yX6_mutualZugzwangs ∈ zz_W := zz_mem (i := 933) (by decide +kernel) (by decide +kernel)
theorem lmX7_220 : Cond.methodLink RX7 220 yX6_mutualZugzwang ∈ zz_W := zz_mem (i := 941) (by decide +kernel) (by decide +kernel)
theorem lmX7_223 : Cond.methodLink RX7 223 yX6_unlikeImages ∈ zz_W := zz_mem (i := 949) (by decide +kernel) (by decide +kernel)
theorem lmX7_233 : Cond.methodLink RX7 233 yX0_copy ∈ zz_W := zz_mem (i := 959) (by decide +kernel) (by decide +kernel)
theorem lmX7_237 : Cond.methodLink RX7 237 yX0_different ∈ zz_W := zz_mem (i := 974) (by decide +kernel) (by decide +kernel)
theorem lmX7_240 : Cond.methodLink RX7 240 yX7_movesSinceCapture ∈ zz_W := zz_mem (i := 978) (by decide +kernel) (by decide +kernel)
theorem lmX7_246 : Cond.methodLinkNest RX7 246 yX6_init "EndgameTable" ∈ lw_tbl := List.mem_of_getElem? (i := 359) (by decide +kernel)
theorem lmX7_250 : Cond.methodLink RX7 250 yX0_hasPosition ∈ zz_W := zz_mem (i := 783) (by decide +kernel) (by decide +kernel)
theorem lmX7_253 : Cond.methodLink RX7 253 yX4_isMan ∈ zz_W := zz_mem (i := 817) (by decide +kernel) (by decide +kernel)
theorem lmX7_259 : Cond.methodLink RX7 259 yX0_at ∈ zz_W := zz_mem (i := 982) (by decide +kernel) (by decide +kernel)
theorem lmX7_261 : Cond.methodLink RX7 261 yX6_captures ∈ zz_W := zz_mem (i := 983) (by decide +kernel) (by decide +kernel)
theorem lmX0_19 : Cond.methodLink RX0 19 yX0_add ∈ zz_W := zz_mem (i := 767) (by decide +kernel) (by decide +kernel)
theorem lmX0_35 : Cond.methodLink RX0 35 yX0_at ∈ zz_W := zz_mem (i := 791) (by decide +kernel) (by decide +kernel)
theorem lmX0_39 : Cond.methodLink RX0 39 yX0_occurrencesUpTo ∈ zz_W := zz_mem (i := 852) (by decide +kernel) (by decide +kernel)
theorem lmX1_21 : Cond.methodLink RX1 21 yX2_init ∈ zz_W := zz_mem (i := 527) (by decide +kernel) (by decide +kernel)
theorem lmX1_35 : Cond.methodLink RX1 35 yX4_squareOf ∈ zz_W := zz_mem (i := 589) (by decide +kernel) (by decide +kernel)
theorem lmX1_44 : Cond.methodLink RX1 44 yX1_placeOf ∈ zz_W := zz_mem (i := 601) (by decide +kernel) (by decide +kernel)
theorem lmX1_51 : Cond.methodLink RX1 51 yX1_isOnBoard ∈ zz_W := zz_mem (i := 597) (by decide +kernel) (by decide +kernel)
theorem lmX1_55 : Cond.methodLink RX1 55 yX4_isMan ∈ zz_W := zz_mem (i := 609) (by decide +kernel) (by decide +kernel)
theorem lmX1_61 : Cond.methodLink RX1 61 yJ6_bitCount_0f7a4 ∈ zz_W := zz_mem (i := 610) (by decide +kernel) (by decide +kernel)
theorem lmX1_69 : Cond.methodLink RX1 69 yX1_isAttacked ∈ zz_W := zz_mem (i := 616) (by decide +kernel) (by decide +kernel)
theorem lmX1_72 : Cond.methodLink RX1 72 yX4_firstMan ∈ zz_W := zz_mem (i := 620) (by decide +kernel) (by decide +kernel)
theorem lmX1_75 : Cond.methodLink RX1 75 yX4_endOfMen ∈ zz_W := zz_mem (i := 624) (by decide +kernel) (by decide +kernel)
theorem lmX1_78 : Cond.methodLink RX1 78 yX2_wayOf ∈ zz_W := zz_mem (i := 628) (by decide +kernel) (by decide +kernel)
theorem lmX1_82 : Cond.methodLink RX1 82 yX1_manOn ∈ zz_W := zz_mem (i := 661) (by decide +kernel) (by decide +kernel)
theorem lmX1_85 : Cond.methodLink RX1 85 yX4_sideOf ∈ zz_W := zz_mem (i := 665) (by decide +kernel) (by decide +kernel)
theorem lmX1_88 : Cond.methodLink RX1 88 yX1_put ∈ zz_W := zz_mem (i := 666) (by decide +kernel) (by decide +kernel)
theorem lmX1_92 : Cond.methodLink RX1 92 yX4_indexOf ∈ zz_W := zz_mem (i := 670) (by decide +kernel) (by decide +kernel)
theorem lmX2_18 : Cond.methodLink RX2 18 yJ7_fill_53178 ∈ zz_W := zz_mem (i := 531) (by decide +kernel) (by decide +kernel)
theorem lmX2_33 : Cond.methodLink RX2 33 yX2_way ∈ zz_W := zz_mem (i := 534) (by decide +kernel) (by decide +kernel)
theorem lmX2_43 : Cond.methodLink RX2 43 yX4_kindOf ∈ zz_W := zz_mem (i := 537) (by decide +kernel) (by decide +kernel)
theorem lmX2_47 : Cond.methodLink RX2 47 yX4_sideOf ∈ zz_W := zz_mem (i := 538) (by decide +kernel) (by decide +kernel)
theorem lmX2_55 : Cond.methodLink RX2 55 yX2_isStep ∈ zz_W := zz_mem (i := 545) (by decide +kernel) (by decide +kernel)
theorem lmX2_59 : Cond.methodLink RX2 59 yX2_isRide ∈ zz_W := zz_mem (i := 548) (by decide +kernel) (by decide +kernel)
theorem lmX2_62 : Cond.methodLink RX2 62 yX2_between ∈ zz_W := zz_mem (i := 551) (by decide +kernel) (by decide +kernel)
theorem lmX2_66 : Cond.methodLink RX2 66 yX2_direction ∈ zz_W := zz_mem (i := 554) (by decide +kernel) (by decide +kernel)
theorem lmX3_31 : Cond.methodLink RX3 31 yX3_readSize ∈ zz_W := zz_mem (i := 224) (by decide +kernel) (by decide +kernel)
theorem lmX3_35 : Cond.methodLink RX3 35 yX3_take ∈ zz_W := zz_mem (i := 236) (by decide +kernel) (by decide +kernel)
theorem lmX3_39 : Cond.methodLink RX3 39 yX3_readMen ∈ zz_W := zz_mem (i := 240) (by decide +kernel) (by decide +kernel)
theorem lmX3_51 : Cond.methodLink RX3 51 yX3_readClause ∈ zz_W := zz_mem (i := 337) (by decide +kernel) (by decide +kernel)
theorem lmX3_54 : Cond.methodLink RX3 54 yX3_ahead ∈ zz_W := zz_mem (i := 232) (by decide +kernel) (by decide +kernel)
theorem lmX3_58 : Cond.methodLink RX3 58 yX3_digitAhead ∈ zz_W := zz_mem (i := 228) (by decide +kernel) (by decide +kernel)
theorem lmX3_67 : Cond.methodLink RX3 67 yX3_readMan ∈ zz_W := zz_mem (i := 244) (by decide +kernel) (by decide +kernel)
theorem lmX3_70 : Cond.methodLink RX3 70 yX3_kindAhead ∈ zz_W := zz_mem (i := 248) (by decide +kernel) (by decide +kernel)
theorem lmX3_75 : Cond.methodLink RX3 75 yJ0_indexOf_0f7a4 ∈ zz_W := zz_mem (i := 253) (by decide +kernel) (by decide +kernel)
theorem lmX3_81 : Cond.methodLink RX3 81 yX3_readHoles ∈ zz_W := zz_mem (i := 341) (by decide +kernel) (by decide +kernel)
theorem lmX3_84 : Cond.methodLink RX3 84 yX3_readLimit ∈ zz_W := zz_mem (i := 349) (by decide +kernel) (by decide +kernel)
theorem lmX3_90 : Cond.methodLink RX3 90 yX3_readNumber ∈ zz_W := zz_mem (i := 345) (by decide +kernel) (by decide +kernel)
theorem lmX4_68 : Cond.methodLink RX4 68 yX4_isMan ∈ zz_W := zz_mem (i := 500) (by decide +kernel) (by decide +kernel)
theorem lmX4_72 : Cond.methodLink RX4 72 yX4_weighed ∈ zz_W := zz_mem (i := 674) (by decide +kernel) (by decide +kernel)
theorem lmX4_75 : Cond.methodLink RX4 75 yX4_firstMan ∈ zz_W := zz_mem (i := 831) (by decide +kernel) (by decide +kernel)
theorem lmX4_79 : Cond.methodLink RX4 79 yX4_endOfMen ∈ zz_W := zz_mem (i := 832) (by decide +kernel) (by decide +kernel)
theorem lmX4_82 : Cond.methodLink RX4 82 yX4_squareOf ∈ zz_W := zz_mem (i := 833) (by decide +kernel) (by decide +kernel)
theorem lmX4_85 : Cond.methodLink RX4 85 yX4_kindOf ∈ zz_W := zz_mem (i := 496) (by decide +kernel) (by decide +kernel)
theorem lmX5_19 : Cond.methodLink RX5 19 yX4_hasPawns ∈ zz_W := zz_mem (i := 492) (by decide +kernel) (by decide +kernel)
theorem lmX5_35 : Cond.methodLink RX5 35 yX5_writeMap ∈ zz_W := zz_mem (i := 504) (by decide +kernel) (by decide +kernel)
theorem lmX5_45 : Cond.methodLink RX5 45 yX4_squareOf ∈ zz_W := zz_mem (i := 640) (by decide +kernel) (by decide +kernel)
theorem lmX5_49 : Cond.methodLink RX5 49 yX4_weighed ∈ zz_W := zz_mem (i := 641) (by decide +kernel) (by decide +kernel)
theorem lmX5_52 : Cond.methodLink RX5 52 yX5_imageOf ∈ zz_W := zz_mem (i := 636) (by decide +kernel) (by decide +kernel)
theorem lmX5_60 : Cond.methodLink RX5 60 yX5_isRepeated ∈ zz_W := zz_mem (i := 809) (by decide +kernel) (by decide +kernel)
theorem lmX6_42 : Cond.methodLink RX6 42 yX5_init ∈ zz_W := zz_mem (i := 488) (by decide +kernel) (by decide +kernel)
theorem lmX6_51 : Cond.methodLink RX6 51 yX1_init ∈ zz_W := zz_mem (i := 521) (by decide +kernel) (by decide +kernel)
theorem lmX6_63 : Cond.methodLink RX6 63 yX6_findPositions ∈ zz_W := zz_mem (i := 581) (by decide +kernel) (by decide +kernel)
theorem lmX6_66 : Cond.methodLink RX6 66 yX6_findSteps ∈ zz_W := zz_mem (i := 646) (by decide +kernel) (by decide +kernel)
theorem lmX6_69 : Cond.methodLink RX6 69 yX6_findEnds ∈ zz_W := zz_mem (i := 675) (by decide +kernel) (by decide +kernel)
theorem lmX6_72 : Cond.methodLink RX6 72 yX6_findValues ∈ zz_W := zz_mem (i := 700) (by decide +kernel) (by decide +kernel)
theorem lmX6_76 : Cond.methodLink RX6 76 yX6_findConversions ∈ zz_W := zz_mem (i := 720) (by decide +kernel) (by decide +kernel)
theorem lmX6_79 : Cond.methodLink RX6 79 yX6_shareWithImages ∈ zz_W := zz_mem (i := 736) (by decide +kernel) (by decide +kernel)
theorem lmX6_85 : Cond.methodLink RX6 85 yX1_read ∈ zz_W := zz_mem (i := 585) (by decide +kernel) (by decide +kernel)
theorem lmX6_89 : Cond.methodLink RX6 89 yX1_missing ∈ zz_W := zz_mem (i := 593) (by decide +kernel) (by decide +kernel)
theorem lmX6_93 : Cond.methodLink RX6 93 yX1_isPossible ∈ zz_W := zz_mem (i := 605) (by decide +kernel) (by decide +kernel)
theorem lmX6_97 : Cond.methodLink RX6 97 yX5_leastImage ∈ zz_W := zz_mem (i := 632) (by decide +kernel) (by decide +kernel)
theorem lmX6_104 : Cond.methodLink RX6 104 yX6_writeSteps ∈ zz_W := zz_mem (i := 650) (by decide +kernel) (by decide +kernel)
theorem lmX6_107 : Cond.methodLink RX6 107 yX4_firstMan ∈ zz_W := zz_mem (i := 654) (by decide +kernel) (by decide +kernel)
theorem lmX6_110 : Cond.methodLink RX6 110 yX4_endOfMen ∈ zz_W := zz_mem (i := 655) (by decide +kernel) (by decide +kernel)
theorem lmX6_113 : Cond.methodLink RX6 113 yX1_isOnBoard ∈ zz_W := zz_mem (i := 656) (by decide +kernel) (by decide +kernel)
theorem lmX6_119 : Cond.methodLink RX6 119 yX1_after ∈ zz_W := zz_mem (i := 657) (by decide +kernel) (by decide +kernel)
theorem lmX6_123 : Cond.methodLink RX6 123 yX6_isEnd ∈ zz_W := zz_mem (i := 679) (by decide +kernel) (by decide +kernel)
theorem lmX6_126 : Cond.methodLink RX6 126 yX6_endValue ∈ zz_W := zz_mem (i := 691) (by decide +kernel) (by decide +kernel)
theorem lmX6_129 : Cond.methodLink RX6 129 yX6_isRoyalAttacked ∈ zz_W := zz_mem (i := 695) (by decide +kernel) (by decide +kernel)
theorem lmX6_135 : Cond.methodLink RX6 135 yX6_valueFromSteps ∈ zz_W := zz_mem (i := 704) (by decide +kernel) (by decide +kernel)
theorem lmX6_138 : Cond.methodLink RX6 138 yX6_canonicalOf ∈ zz_W := zz_mem (i := 708) (by decide +kernel) (by decide +kernel)
theorem lmX6_141 : Cond.methodLink RX6 141 yX6_toEndOf ∈ zz_W := zz_mem (i := 712) (by decide +kernel) (by decide +kernel)
theorem lmX6_144 : Cond.methodLink RX6 144 yX6_valueOf ∈ zz_W := zz_mem (i := 716) (by decide +kernel) (by decide +kernel)
theorem lmX6_147 : Cond.methodLink RX6 147 yX6_isConverted ∈ zz_W := zz_mem (i := 724) (by decide +kernel) (by decide +kernel)
theorem lmX6_151 : Cond.methodLink RX6 151 yX6_captures ∈ zz_W := zz_mem (i := 728) (by decide +kernel) (by decide +kernel)
theorem lmX6_154 : Cond.methodLink RX6 154 yX6_toConversionOf ∈ zz_W := zz_mem (i := 732) (by decide +kernel) (by decide +kernel)
theorem lmX6_157 : Cond.methodLink RX6 157 yX6_isIndex ∈ zz_W := zz_mem (i := 687) (by decide +kernel) (by decide +kernel)
theorem lmX6_163 : Cond.methodLink RX6 163 yX1_isAttacked ∈ zz_W := zz_mem (i := 699) (by decide +kernel) (by decide +kernel)
theorem lmX6_166 : Cond.methodLink RX6 166 yX6_stepsOf ∈ zz_W := zz_mem (i := 683) (by decide +kernel) (by decide +kernel)
theorem lmX6_169 : Cond.methodLink RX6 169 yX6_stepOf ∈ zz_W := zz_mem (i := 872) (by decide +kernel) (by decide +kernel)
theorem lmX6_172 : Cond.methodLink RX6 172 yX6_bestStep ∈ zz_W := zz_mem (i := 881) (by decide +kernel) (by decide +kernel)
theorem lmX6_175 : Cond.methodLink RX6 175 yX6_isFollowed ∈ zz_W := zz_mem (i := 882) (by decide +kernel) (by decide +kernel)
theorem lmX6_178 : Cond.methodLink RX6 178 yX6_searched ∈ zz_W := zz_mem (i := 897) (by decide +kernel) (by decide +kernel)
theorem lmX6_187 : Cond.methodLink RX6 187 yX6_isPossible ∈ zz_W := zz_mem (i := 907) (by decide +kernel) (by decide +kernel)
theorem lmX6_189 : Cond.methodLink RX6 189 yX6_distanceOf ∈ zz_W := zz_mem (i := 916) (by decide +kernel) (by decide +kernel)
theorem lmX6_192 : Cond.methodLink RX6 192 yX6_isMutualZugzwang ∈ zz_W := zz_mem (i := 937) (by decide +kernel) (by decide +kernel)
theorem lmX6_198 : Cond.methodLink RX6 198 yX5_isRepeated ∈ zz_W := zz_mem (i := 953) (by decide +kernel) (by decide +kernel)
theorem lmX6_201 : Cond.methodLink RX6 201 yX5_imageOf ∈ zz_W := zz_mem (i := 954) (by decide +kernel) (by decide +kernel)
theorem lmX8_86 : Cond.methodLink RX8 86 yX8_isBetween ∈ zz_W := zz_mem (i := 1094) (by decide +kernel) (by decide +kernel)
theorem lmX8_90 : Cond.methodLink RX8 90 yX8_isByte ∈ zz_W := zz_mem (i := 1097) (by decide +kernel) (by decide +kernel)
theorem lmX8_104 : Cond.methodLink RX8 104 yX8_sees ∈ zz_W := zz_mem (i := 1112) (by decide +kernel) (by decide +kernel)
theorem lmX8_110 : Cond.methodLink RX8 110 yJ0_indexOf_0f7a4 ∈ zz_W := zz_mem (i := 1129) (by decide +kernel) (by decide +kernel)
theorem lmX8_116 : Cond.methodLink RX8 116 yX8_letterHere ∈ zz_W := zz_mem (i := 1124) (by decide +kernel) (by decide +kernel)
theorem lmX8_120 : Cond.methodLink RX8 120 yX8_passDigit ∈ zz_W := zz_mem (i := 1108) (by decide +kernel) (by decide +kernel)
theorem lmX8_124 : Cond.methodLink RX8 124 yX8_passNumber ∈ zz_W := zz_mem (i := 1138) (by decide +kernel) (by decide +kernel)
theorem lmX8_127 : Cond.methodLink RX8 127 yX8_passes ∈ zz_W := zz_mem (i := 1116) (by decide +kernel) (by decide +kernel)
theorem lmX8_130 : Cond.methodLink RX8 130 yX8_passSquare ∈ zz_W := zz_mem (i := 1134) (by decide +kernel) (by decide +kernel)
theorem lmX8_133 : Cond.methodLink RX8 133 yX8_passMen ∈ zz_W := zz_mem (i := 1120) (by decide +kernel) (by decide +kernel)
theorem lmX8_136 : Cond.methodLink RX8 136 yX8_passClause ∈ zz_W := zz_mem (i := 1130) (by decide +kernel) (by decide +kernel)
theorem lmX8_139 : Cond.methodLink RX8 139 yX8_passGame ∈ zz_W := zz_mem (i := 1104) (by decide +kernel) (by decide +kernel)
theorem lmX8_142 : Cond.methodLink RX8 142 yX8_copy ∈ zz_W := zz_mem (i := 1142) (by decide +kernel) (by decide +kernel)
theorem lmX8_149 : Cond.methodLink RX8 149 yX8_build ∈ zz_W := zz_mem (i := 1145) (by decide +kernel) (by decide +kernel)
theorem lmX8_152 : Cond.methodLink RX8 152 yX8_squares ∈ zz_W := zz_mem (i := 1149) (by decide +kernel) (by decide +kernel)
theorem lmX8_155 : Cond.methodLink RX8 155 yX8_countBits ∈ zz_W := zz_mem (i := 1234) (by decide +kernel) (by decide +kernel)
theorem lmX8_158 : Cond.methodLink RX8 158 yX8_isWhite ∈ zz_W := zz_mem (i := 1184) (by decide +kernel) (by decide +kernel)
theorem lmX8_161 : Cond.methodLink RX8 161 yX8_sign ∈ zz_W := zz_mem (i := 1199) (by decide +kernel) (by decide +kernel)
theorem lmX8_164 : Cond.methodLink RX8 164 yX8_has ∈ zz_W := zz_mem (i := 1161) (by decide +kernel) (by decide +kernel)
theorem lmX8_167 : Cond.methodLink RX8 167 yX8_size ∈ zz_W := zz_mem (i := 1192) (by decide +kernel) (by decide +kernel)
theorem lmX8_170 : Cond.methodLink RX8 170 yX8_isClear ∈ zz_W := zz_mem (i := 1195) (by decide +kernel) (by decide +kernel)
theorem lmX8_173 : Cond.methodLink RX8 173 yX8_occupied ∈ zz_W := zz_mem (i := 1176) (by decide +kernel) (by decide +kernel)
theorem lmX8_177 : Cond.methodLink RX8 177 yX8_isOf ∈ zz_W := zz_mem (i := 1180) (by decide +kernel) (by decide +kernel)
theorem lmX8_180 : Cond.methodLink RX8 180 yX8_reaches ∈ zz_W := zz_mem (i := 1188) (by decide +kernel) (by decide +kernel)
theorem lmX8_184 : Cond.methodLink RX8 184 yX8_royal ∈ zz_W := zz_mem (i := 1168) (by decide +kernel) (by decide +kernel)
theorem lmX8_187 : Cond.methodLink RX8 187 yX8_isAttacked ∈ zz_W := zz_mem (i := 1172) (by decide +kernel) (by decide +kernel)
theorem lmX8_191 : Cond.methodLink RX8 191 yX8_isInCheck ∈ zz_W := zz_mem (i := 1164) (by decide +kernel) (by decide +kernel)
theorem lmX8_195 : Cond.methodLink RX8 195 yX8_manAt ∈ zz_W := zz_mem (i := 1214) (by decide +kernel) (by decide +kernel)
theorem lmX8_199 : Cond.methodLink RX8 199 yX8_indexOf ∈ zz_W := zz_mem (i := 1218) (by decide +kernel) (by decide +kernel)
theorem lmX8_201 : Cond.methodLink RX8 201 yX8_decode ∈ zz_W := zz_mem (i := 1153) (by decide +kernel) (by decide +kernel)
theorem lmX8_205 : Cond.methodLink RX8 205 yX8_tryMove ∈ zz_W := zz_mem (i := 1210) (by decide +kernel) (by decide +kernel)
theorem lmX8_209 : Cond.methodLink RX8 209 yX8_findMoves ∈ zz_W := zz_mem (i := 1206) (by decide +kernel) (by decide +kernel)
theorem lmX8_216 : Cond.methodLink RX8 216 yX8_isPossible ∈ zz_W := zz_mem (i := 1157) (by decide +kernel) (by decide +kernel)
theorem lmX8_219 : Cond.methodLink RX8 219 yX8_isEnd ∈ zz_W := zz_mem (i := 1202) (by decide +kernel) (by decide +kernel)
theorem lmX8_222 : Cond.methodLink RX8 222 yX8_endValue ∈ zz_W := zz_mem (i := 1222) (by decide +kernel) (by decide +kernel)
theorem lmX8_225 : Cond.methodLink RX8 225 yX8_decide ∈ zz_W := zz_mem (i := 1226) (by decide +kernel) (by decide +kernel)
theorem lmX8_228 : Cond.methodLink RX8 228 yX8_convert ∈ zz_W := zz_mem (i := 1230) (by decide +kernel) (by decide +kernel)
theorem lmX8_231 : Cond.methodLink RX8 231 yX8_hasPawns ∈ zz_W := zz_mem (i := 1249) (by decide +kernel) (by decide +kernel)
theorem lmX8_235 : Cond.methodLink RX8 235 yX8_turned ∈ zz_W := zz_mem (i := 1253) (by decide +kernel) (by decide +kernel)
theorem lmX8_238 : Cond.methodLink RX8 238 yX8_isSymmetry ∈ zz_W := zz_mem (i := 1245) (by decide +kernel) (by decide +kernel)
theorem lmX8_241 : Cond.methodLink RX8 241 yX8_imageOf ∈ zz_W := zz_mem (i := 1297) (by decide +kernel) (by decide +kernel)
theorem lmX8_244 : Cond.methodLink RX8 244 yX8_countSymmetries ∈ zz_W := zz_mem (i := 1241) (by decide +kernel) (by decide +kernel)
theorem lmX8_247 : Cond.methodLink RX8 247 yX8_countPossible ∈ zz_W := zz_mem (i := 1257) (by decide +kernel) (by decide +kernel)
theorem lmX8_250 : Cond.methodLink RX8 250 yX8_isPlace ∈ zz_W := zz_mem (i := 1265) (by decide +kernel) (by decide +kernel)
theorem lmX8_253 : Cond.methodLink RX8 253 yX8_begin ∈ zz_W := zz_mem (i := 1269) (by decide +kernel) (by decide +kernel)
theorem lmX8_257 : Cond.methodLink RX8 257 yX8_isPlaying ∈ zz_W := zz_mem (i := 1281) (by decide +kernel) (by decide +kernel)
theorem lmX8_260 : Cond.methodLink RX8 260 yX8_here ∈ zz_W := zz_mem (i := 1285) (by decide +kernel) (by decide +kernel)
theorem lmX8_263 : Cond.methodLink RX8 263 yX8_verdict ∈ zz_W := zz_mem (i := 1289) (by decide +kernel) (by decide +kernel)
theorem lmX8_266 : Cond.methodLink RX8 266 yX8_canonical ∈ zz_W := zz_mem (i := 1293) (by decide +kernel) (by decide +kernel)
theorem lmX8_269 : Cond.methodLink RX8 269 yX8_countImages ∈ zz_W := zz_mem (i := 1301) (by decide +kernel) (by decide +kernel)
theorem lmX8_272 : Cond.methodLink RX8 272 yX8_occurrences ∈ zz_W := zz_mem (i := 1313) (by decide +kernel) (by decide +kernel)
theorem lmX8_275 : Cond.methodLink RX8 275 yX8_bestOf ∈ zz_W := zz_mem (i := 1325) (by decide +kernel) (by decide +kernel)
theorem lmX8_278 : Cond.methodLink RX8 278 yX8_findLine ∈ zz_W := zz_mem (i := 1333) (by decide +kernel) (by decide +kernel)
theorem lmX8_281 : Cond.methodLink RX8 281 yX8_searchFrom ∈ zz_W := zz_mem (i := 1341) (by decide +kernel) (by decide +kernel)
theorem lmX8_284 : Cond.methodLink RX8 284 yX8_hasCaptured ∈ zz_W := zz_mem (i := 1349) (by decide +kernel) (by decide +kernel)
theorem lmX8_287 : Cond.methodLink RX8 287 yX8_distanceOf ∈ zz_W := zz_mem (i := 1357) (by decide +kernel) (by decide +kernel)
theorem lmX8_299 : Cond.methodLink RX8 299 yX8_countDifferent ∈ zz_W := zz_mem (i := 1385) (by decide +kernel) (by decide +kernel)
theorem lmX8_302 : Cond.methodLink RX8 302 yX8_countSinceCapture ∈ zz_W := zz_mem (i := 1389) (by decide +kernel) (by decide +kernel)
theorem nwX7_13 : Cond.classLink RX7 13 RX0 ∈ zz_W ∧ Cond.instantiable RX0 2 ∈ zz_W ∧ Cond.initialized RX0 ∈ zz_W := ⟨(zz_mem (i := 111) (by decide +kernel) (by decide +kernel)), (zz_mem (i := 112) (by decide +kernel) (by decide +kernel)), (zz_mem (i := 86) (by decide +kernel) (by decide +kernel))⟩
theorem nwX7_35 : Cond.classLink RX7 35 RX3 ∈ zz_W ∧ Cond.instantiable RX3 11 ∈ zz_W ∧ Cond.initialized RX3 ∈ zz_W := ⟨(zz_mem (i := 168) (by decide +kernel) (by decide +kernel)), (zz_mem (i := 169) (by decide +kernel) (by decide +kernel)), (zz_mem (i := 88) (by decide +kernel) (by decide +kernel))⟩
theorem nwX7_51 : Cond.classLink RX7 51 RX4 ∈ zz_W ∧ Cond.instantiable RX4 13 ∈ zz_W ∧ Cond.initialized RX4 ∈ zz_W := ⟨(zz_mem (i := 410) (by decide +kernel) (by decide +kernel)), (zz_mem (i := 411) (by decide +kernel) (by decide +kernel)), (zz_mem (i := 96) (by decide +kernel) (by decide +kernel))⟩
theorem nwX7_57 : Cond.classLink RX7 57 RX6 ∈ zz_W ∧ Cond.instantiable RX6 14 ∈ zz_W ∧ Cond.initialized RX6 ∈ zz_W := ⟨(zz_mem (i := 357) (by decide +kernel) (by decide +kernel)), (zz_mem (i := 358) (by decide +kernel) (by decide +kernel)), (zz_mem (i := 95) (by decide +kernel) (by decide +kernel))⟩
theorem nwX1_19 : Cond.classLink RX1 19 RX2 ∈ zz_W ∧ Cond.instantiable RX2 2 ∈ zz_W ∧ Cond.initialized RX2 ∈ zz_W := ⟨(zz_mem (i := 525) (by decide +kernel) (by decide +kernel)), (zz_mem (i := 526) (by decide +kernel) (by decide +kernel)), (zz_mem (i := 99) (by decide +kernel) (by decide +kernel))⟩
theorem nwX6_40 : Cond.classLink RX6 40 RX5 ∈ zz_W ∧ Cond.instantiable RX5 3 ∈ zz_W ∧ Cond.initialized RX5 ∈ zz_W := ⟨(zz_mem (i := 486) (by decide +kernel) (by decide +kernel)), (zz_mem (i := 487) (by decide +kernel) (by decide +kernel)), (zz_mem (i := 97) (by decide +kernel) (by decide +kernel))⟩
theorem nwX6_49 : Cond.classLink RX6 49 RX1 ∈ zz_W ∧ Cond.instantiable RX1 5 ∈ zz_W ∧ Cond.initialized RX1 ∈ zz_W := ⟨(zz_mem (i := 519) (by decide +kernel) (by decide +kernel)), (zz_mem (i := 520) (by decide +kernel) (by decide +kernel)), (zz_mem (i := 98) (by decide +kernel) (by decide +kernel))⟩
theorem oiX7 : Cond.methodLink RX7 1 Lib.objectInit ∈ zz_W ∧ Cond.instanceMethod Lib.objectInit ∈ zz_W ∧ Cond.code Lib.objectInit ⟨#[0xb1]⟩ 1 none ∈ zz_W := ⟨(zz_mem (i := 108) (by decide +kernel) (by decide +kernel)), (zz_mem (i := 109) (by decide +kernel) (by decide +kernel)), (zz_mem (i := 110) (by decide +kernel) (by decide +kernel))⟩
theorem oiX0 : Cond.methodLink RX0 3 Lib.objectInit ∈ zz_W ∧ Cond.instanceMethod Lib.objectInit ∈ zz_W ∧ Cond.code Lib.objectInit ⟨#[0xb1]⟩ 1 none ∈ zz_W := ⟨(zz_mem (i := 116) (by decide +kernel) (by decide +kernel)), (zz_mem (i := 109) (by decide +kernel) (by decide +kernel)), (zz_mem (i := 110) (by decide +kernel) (by decide +kernel))⟩
theorem oiX1 : Cond.methodLink RX1 3 Lib.objectInit ∈ zz_W ∧ Cond.instanceMethod Lib.objectInit ∈ zz_W ∧ Cond.code Lib.objectInit ⟨#[0xb1]⟩ 1 none ∈ zz_W := ⟨(zz_mem (i := 524) (by decide +kernel) (by decide +kernel)), (zz_mem (i := 109) (by decide +kernel) (by decide +kernel)), (zz_mem (i := 110) (by decide +kernel) (by decide +kernel))⟩
theorem oiX2 : Cond.methodLink RX2 3 Lib.objectInit ∈ zz_W ∧ Cond.instanceMethod Lib.objectInit ∈ zz_W ∧ Cond.code Lib.objectInit ⟨#[0xb1]⟩ 1 none ∈ zz_W := ⟨(zz_mem (i := 530) (by decide +kernel) (by decide +kernel)), (zz_mem (i := 109) (by decide +kernel) (by decide +kernel)), (zz_mem (i := 110) (by decide +kernel) (by decide +kernel))⟩
theorem oiX3 : Cond.methodLink RX3 3 Lib.objectInit ∈ zz_W ∧ Cond.instanceMethod Lib.objectInit ∈ zz_W ∧ Cond.code Lib.objectInit ⟨#[0xb1]⟩ 1 none ∈ zz_W := ⟨(zz_mem (i := 173) (by decide +kernel) (by decide +kernel)), (zz_mem (i := 109) (by decide +kernel) (by decide +kernel)), (zz_mem (i := 110) (by decide +kernel) (by decide +kernel))⟩
theorem oiX4 : Cond.methodLink RX4 3 Lib.objectInit ∈ zz_W ∧ Cond.instanceMethod Lib.objectInit ∈ zz_W ∧ Cond.code Lib.objectInit ⟨#[0xb1]⟩ 1 none ∈ zz_W := ⟨(zz_mem (i := 415) (by decide +kernel) (by decide +kernel)), (zz_mem (i := 109) (by decide +kernel) (by decide +kernel)), (zz_mem (i := 110) (by decide +kernel) (by decide +kernel))⟩
theorem oiX5 : Cond.methodLink RX5 3 Lib.objectInit ∈ zz_W ∧ Cond.instanceMethod Lib.objectInit ∈ zz_W ∧ Cond.code Lib.objectInit ⟨#[0xb1]⟩ 1 none ∈ zz_W := ⟨(zz_mem (i := 491) (by decide +kernel) (by decide +kernel)), (zz_mem (i := 109) (by decide +kernel) (by decide +kernel)), (zz_mem (i := 110) (by decide +kernel) (by decide +kernel))⟩
theorem oiX6 : Cond.methodLink RX6 3 Lib.objectInit ∈ zz_W ∧ Cond.instanceMethod Lib.objectInit ∈ zz_W ∧ Cond.code Lib.objectInit ⟨#[0xb1]⟩ 1 none ∈ zz_W := ⟨(zz_mem (i := 362) (by decide +kernel) (by decide +kernel)), (zz_mem (i := 109) (by decide +kernel) (by decide +kernel)), (zz_mem (i := 110) (by decide +kernel) (by decide +kernel))⟩
theorem oiX8 : Cond.methodLink RX8 3 Lib.objectInit ∈ zz_W ∧ Cond.instanceMethod Lib.objectInit ∈ zz_W ∧ Cond.code Lib.objectInit ⟨#[0xb1]⟩ 1 none ∈ zz_W := ⟨(zz_mem (i := 989) (by decide +kernel) (by decide +kernel)), (zz_mem (i := 109) (by decide +kernel) (by decide +kernel)), (zz_mem (i := 110) (by decide +kernel) (by decide +kernel))⟩
theorem maX0_23 : Cond.methodLink RX0 23 arraycopyName ∈ zz_W ∧ Cond.native arraycopyName ∈ zz_W ∧ Cond.static arraycopyName ∈ zz_W ∧ Cond.initialized "java/lang/System" ∈ zz_W := ⟨(zz_mem (i := 963) (by decide +kernel) (by decide +kernel)), (zz_mem (i := 965) (by decide +kernel) (by decide +kernel)), (zz_mem (i := 964) (by decide +kernel) (by decide +kernel)), (zz_mem (i := 102) (by decide +kernel) (by decide +kernel))⟩
theorem maX0_29 : Cond.methodLink RX0 29 Lib.Math.max.name ∈ zz_W ∧ Cond.static Lib.Math.max.name ∈ zz_W ∧ Cond.initialized "java/lang/Math" ∈ zz_W ∧ Cond.code Lib.Math.max.name Lib.Math.max.code 2 (some .int) ∈ zz_W := ⟨(zz_mem (i := 846) (by decide +kernel) (by decide +kernel)), (zz_mem (i := 282) (by decide +kernel) (by decide +kernel)), (zz_mem (i := 89) (by decide +kernel) (by decide +kernel)), (zz_mem (i := 283) (by decide +kernel) (by decide +kernel))⟩
theorem maX2_50 : Cond.methodLink RX2 50 Lib.Math.abs.name ∈ zz_W ∧ Cond.static Lib.Math.abs.name ∈ zz_W ∧ Cond.initialized "java/lang/Math" ∈ zz_W ∧ Cond.code Lib.Math.abs.name Lib.Math.abs.code 1 (some .int) ∈ zz_W := ⟨(zz_mem (i := 542) (by decide +kernel) (by decide +kernel)), (zz_mem (i := 543) (by decide +kernel) (by decide +kernel)), (zz_mem (i := 89) (by decide +kernel) (by decide +kernel)), (zz_mem (i := 544) (by decide +kernel) (by decide +kernel))⟩
theorem maX2_69 : Cond.methodLink RX2 69 Lib.Math.max.name ∈ zz_W ∧ Cond.static Lib.Math.max.name ∈ zz_W ∧ Cond.initialized "java/lang/Math" ∈ zz_W ∧ Cond.code Lib.Math.max.name Lib.Math.max.code 2 (some .int) ∈ zz_W := ⟨(zz_mem (i := 557) (by decide +kernel) (by decide +kernel)), (zz_mem (i := 282) (by decide +kernel) (by decide +kernel)), (zz_mem (i := 89) (by decide +kernel) (by decide +kernel)), (zz_mem (i := 283) (by decide +kernel) (by decide +kernel))⟩
theorem maX3_22 : Cond.methodLink RX3 22 Lib.Math.min.name ∈ zz_W ∧ Cond.static Lib.Math.min.name ∈ zz_W ∧ Cond.initialized "java/lang/Math" ∈ zz_W ∧ Cond.code Lib.Math.min.name Lib.Math.min.code 2 (some .int) ∈ zz_W := ⟨(zz_mem (i := 174) (by decide +kernel) (by decide +kernel)), (zz_mem (i := 175) (by decide +kernel) (by decide +kernel)), (zz_mem (i := 89) (by decide +kernel) (by decide +kernel)), (zz_mem (i := 176) (by decide +kernel) (by decide +kernel))⟩
theorem maX4_59 : Cond.methodLink RX4 59 Lib.Math.min.name ∈ zz_W ∧ Cond.static Lib.Math.min.name ∈ zz_W ∧ Cond.initialized "java/lang/Math" ∈ zz_W ∧ Cond.code Lib.Math.min.name Lib.Math.min.code 2 (some .int) ∈ zz_W := ⟨(zz_mem (i := 416) (by decide +kernel) (by decide +kernel)), (zz_mem (i := 175) (by decide +kernel) (by decide +kernel)), (zz_mem (i := 89) (by decide +kernel) (by decide +kernel)), (zz_mem (i := 176) (by decide +kernel) (by decide +kernel))⟩
theorem maX5_55 : Cond.methodLink RX5 55 Lib.Math.min.name ∈ zz_W ∧ Cond.static Lib.Math.min.name ∈ zz_W ∧ Cond.initialized "java/lang/Math" ∈ zz_W ∧ Cond.code Lib.Math.min.name Lib.Math.min.code 2 (some .int) ∈ zz_W := ⟨(zz_mem (i := 645) (by decide +kernel) (by decide +kernel)), (zz_mem (i := 175) (by decide +kernel) (by decide +kernel)), (zz_mem (i := 89) (by decide +kernel) (by decide +kernel)), (zz_mem (i := 176) (by decide +kernel) (by decide +kernel))⟩
theorem maX6_182 : Cond.methodLink RX6 182 Lib.Math.max.name ∈ zz_W ∧ Cond.static Lib.Math.max.name ∈ zz_W ∧ Cond.initialized "java/lang/Math" ∈ zz_W ∧ Cond.code Lib.Math.max.name Lib.Math.max.code 2 (some .int) ∈ zz_W := ⟨(zz_mem (i := 898) (by decide +kernel) (by decide +kernel)), (zz_mem (i := 282) (by decide +kernel) (by decide +kernel)), (zz_mem (i := 89) (by decide +kernel) (by decide +kernel)), (zz_mem (i := 283) (by decide +kernel) (by decide +kernel))⟩
theorem ar0 : Cond.arrayClass .int ∈ zz_W := (zz_mem (i := 124) (by decide +kernel) (by decide +kernel))
theorem ar1 : Cond.arrayClass .boolean ∈ zz_W := (zz_mem (i := 1089) (by decide +kernel) (by decide +kernel))
theorem ar2 : Cond.arrayOver (.array .int) ∈ lw_tbl := List.mem_of_getElem? (i := 991) (by decide +kernel)
theorem ar3 : Cond.classLink RX8 22 "[[I" ∈ zz_W := (zz_mem (i := 990) (by decide +kernel) (by decide +kernel))
