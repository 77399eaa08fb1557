abbrev cpOK (sp dp n : Int32) (n0 n1 : Nat) : Prop := ¬ sp < 0 ∧ ¬ dp < 0 ∧ ¬ n < 0 ∧ cl sp + cl n ≤ n0 ∧ cl dp + cl n ≤ n1
theorem sw_ne {x y : Int32} (h : ¬ x = y) {k : Int} (hk : y.toInt = k) : x.toInt ≠ k := fun e => h (Int32.toInt_inj.mp (e.trans hk.symm))
theorem sw_out {p : Prop} (h : p) : p := h
theorem pn_RX11 : plainName RX11 = true := by decide +kernel
theorem sh_0 : SH 0 = (11, 0) := by decide +kernel
theorem sh_193 : SH 193 = (12, 0) := by decide +kernel
abbrev mX11_init : MI := (yX11_init, cX11_init, 2, (Option.none : Option Jvm.ClassFile.FieldType))
abbrev mX11_feed : MI := (yX11_feed, cX11_feed, 6, (Option.some Jvm.ClassFile.FieldType.int))
abbrev mX11_book : MI := (yX11_book, cX11_book, 4, (Option.some Jvm.ClassFile.FieldType.int))
abbrev mX11_law : MI := (yX11_law, cX11_law, 3, (Option.some Jvm.ClassFile.FieldType.int))
abbrev mX11_way : MI := (yX11_way, cX11_way, 4, (Option.some Jvm.ClassFile.FieldType.int))
abbrev mX11_fault : MI := (yX11_fault, cX11_fault, 1, (Option.some Jvm.ClassFile.FieldType.int))
abbrev mX11_count : MI := (yX11_count, cX11_count, 2, (Option.some Jvm.ClassFile.FieldType.int))
abbrev mX11_about : MI := (yX11_about, cX11_about, 4, (Option.some Jvm.ClassFile.FieldType.int))
abbrev mX11_leaf : MI := (yX11_leaf, cX11_leaf, 5, (Option.some Jvm.ClassFile.FieldType.int))
abbrev mX11_turnings : MI := (yX11_turnings, cX11_turnings, 5, (Option.some Jvm.ClassFile.FieldType.int))
abbrev mX11_reader : MI := (yX11_reader, cX11_reader, 6, (Option.some Jvm.ClassFile.FieldType.int))
abbrev mX11_gone : MI := (yX11_gone, cX11_gone, 3, (Option.some Jvm.ClassFile.FieldType.int))
abbrev mX11_dirt : MI := (yX11_dirt, cX11_dirt, 5, (Option.some Jvm.ClassFile.FieldType.int))
abbrev mX11_drawn : MI := (yX11_drawn, cX11_drawn, 7, (Option.some Jvm.ClassFile.FieldType.int))
abbrev mX11_read : MI := (yX11_read, cX11_read, 5, (Option.some Jvm.ClassFile.FieldType.boolean))
abbrev mX11_bounds : MI := (yX11_bounds, cX11_bounds, 5, (Option.some Jvm.ClassFile.FieldType.int))
abbrev mX11_light : MI := (yX11_light, cX11_light, 3, (Option.some Jvm.ClassFile.FieldType.int))
abbrev mX11_sleepy : MI := (yX11_sleepy, cX11_sleepy, 4, (Option.some Jvm.ClassFile.FieldType.int))
abbrev mX11_humps : MI := (yX11_humps, cX11_humps, 3, (Option.some Jvm.ClassFile.FieldType.long))
abbrev mX11_hump : MI := (yX11_hump, cX11_hump, 4, (Option.some Jvm.ClassFile.FieldType.int))
abbrev mX11_fitted : MI := (yX11_fitted, cX11_fitted, 7, (Option.some Jvm.ClassFile.FieldType.int))
abbrev mX11_years : MI := (yX11_years, cX11_years, 2, (Option.some Jvm.ClassFile.FieldType.int))
abbrev mX11_whose : MI := (yX11_whose, cX11_whose, 3, (Option.some Jvm.ClassFile.FieldType.int))
abbrev mX11_order : MI := (yX11_order, cX11_order, 4, (Option.some Jvm.ClassFile.FieldType.int))
abbrev mX11_falls : MI := (yX11_falls, cX11_falls, 6, (Option.some Jvm.ClassFile.FieldType.int))
abbrev mX11_blank : MI := (yX11_blank, cX11_blank, 3, (Option.some Jvm.ClassFile.FieldType.int))
abbrev mX11_clear : MI := (yX11_clear, cX11_clear, 2, (Option.some Jvm.ClassFile.FieldType.int))
abbrev mX11_turn : MI := (yX11_turn, cX11_turn, 2, (Option.some Jvm.ClassFile.FieldType.int))
abbrev mX11_town : MI := (yX11_town, cX11_town, 4, (Option.some Jvm.ClassFile.FieldType.int))
abbrev mX11_alike : MI := (yX11_alike, cX11_alike, 3, (Option.some Jvm.ClassFile.FieldType.int))
abbrev mX11_nearest : MI := (yX11_nearest, cX11_nearest, 6, (Option.some Jvm.ClassFile.FieldType.int))
abbrev mX11_sure : MI := (yX11_sure, cX11_sure, 5, (Option.some Jvm.ClassFile.FieldType.int))
abbrev mX11_before : MI := (yX11_before, cX11_before, 9, (Option.some Jvm.ClassFile.FieldType.int))
abbrev mX11_told : MI := (yX11_told, cX11_told, 9, (Option.some Jvm.ClassFile.FieldType.int))
abbrev mX11_next : MI := (yX11_next, cX11_next, 4, (Option.some Jvm.ClassFile.FieldType.int))
abbrev mX11_image : MI := (yX11_image, cX11_image, 2, (Option.none : Option Jvm.ClassFile.FieldType))
abbrev mX11_restore : MI := (yX11_restore, cX11_restore, 2, (Option.some Jvm.ClassFile.FieldType.boolean))
abbrev mX11_bookAt : MI := (yX11_bookAt, cX11_bookAt, 2, (Option.some (Jvm.ClassFile.FieldType.object "ThumbBook$Book")))
abbrev mX11_bookWithLeaf : MI := (yX11_bookWithLeaf, cX11_bookWithLeaf, 4, (Option.some (Jvm.ClassFile.FieldType.object "ThumbBook$Book")))
abbrev mX11_knownAt : MI := (yX11_knownAt, cX11_knownAt, 4, (Option.some (Jvm.ClassFile.FieldType.object "ThumbBook$Book")))
abbrev mX11_wayAt : MI := (yX11_wayAt, cX11_wayAt, 2, (Option.some (Jvm.ClassFile.FieldType.object "ThumbBook$Way")))
abbrev mX11_statusAt : MI := (yX11_statusAt, cX11_statusAt, 2, (Option.some Jvm.ClassFile.FieldType.int))
abbrev mX11_checkKind : MI := (yX11_checkKind, cX11_checkKind, 1, (Option.none : Option Jvm.ClassFile.FieldType))
abbrev mX11_checkHeld : MI := (yX11_checkHeld, cX11_checkHeld, 2, (Option.none : Option Jvm.ClassFile.FieldType))
abbrev mX11_checkAheadRead : MI := (yX11_checkAheadRead, cX11_checkAheadRead, 2, (Option.none : Option Jvm.ClassFile.FieldType))
abbrev mX11_checkOnTape : MI := (yX11_checkOnTape, cX11_checkOnTape, 2, (Option.none : Option Jvm.ClassFile.FieldType))
abbrev mX11_written : MI := (yX11_written, cX11_written, 1, (Option.some Jvm.ClassFile.FieldType.int))
abbrev mX11_partedInto : MI := (yX11_partedInto, cX11_partedInto, 2, (Option.some Jvm.ClassFile.FieldType.long))
abbrev mX11_ownerBy : MI := (yX11_ownerBy, cX11_ownerBy, 9, (Option.some Jvm.ClassFile.FieldType.int))
abbrev mX11_fillShades : MI := (yX11_fillShades, cX11_fillShades, 3, (Option.none : Option Jvm.ClassFile.FieldType))
abbrev mX11_drawTrial : MI := (yX11_drawTrial, cX11_drawTrial, 5, (Option.some Jvm.ClassFile.FieldType.int))
abbrev mX11_reading : MI := (yX11_reading, cX11_reading, 5, (Option.some Jvm.ClassFile.FieldType.int))
abbrev mX11_stepped : MI := (yX11_stepped, cX11_stepped, 1, (Option.some Jvm.ClassFile.FieldType.int))
abbrev mX11_cutDown : MI := (yX11_cutDown, cX11_cutDown, 4, (Option.some Jvm.ClassFile.FieldType.int))
abbrev mX11_cutUp : MI := (yX11_cutUp, cX11_cutUp, 4, (Option.some Jvm.ClassFile.FieldType.int))
abbrev mX11_compared : MI := (yX11_compared, cX11_compared, 2, (Option.some Jvm.ClassFile.FieldType.int))
abbrev mX12_init : MI := (yX12_init, cX12_init, 2, (Option.none : Option Jvm.ClassFile.FieldType))
abbrev mX12_thrown : MI := (yX12_thrown, cX12_thrown, 1, (Option.some Jvm.ClassFile.FieldType.int))
abbrev mX12_fail : MI := (yX12_fail, cX12_fail, 2, (Option.some Jvm.ClassFile.FieldType.int))
abbrev mX12_isIn : MI := (yX12_isIn, cX12_isIn, 3, (Option.some Jvm.ClassFile.FieldType.boolean))
abbrev mX12_isBook : MI := (yX12_isBook, cX12_isBook, 1, (Option.some Jvm.ClassFile.FieldType.boolean))
abbrev mX12_isWay : MI := (yX12_isWay, cX12_isWay, 1, (Option.some Jvm.ClassFile.FieldType.boolean))
abbrev mX12_isLeaf : MI := (yX12_isLeaf, cX12_isLeaf, 3, (Option.some Jvm.ClassFile.FieldType.boolean))
abbrev mX12_at : MI := (yX12_at, cX12_at, 2, (Option.some Jvm.ClassFile.FieldType.int))
abbrev mX12_feed : MI := (yX12_feed, cX12_feed, 8, (Option.some Jvm.ClassFile.FieldType.int))
abbrev mX12_byteAt : MI := (yX12_byteAt, cX12_byteAt, 2, (Option.some Jvm.ClassFile.FieldType.int))
abbrev mX12_isLetter : MI := (yX12_isLetter, cX12_isLetter, 1, (Option.some Jvm.ClassFile.FieldType.boolean))
abbrev mX12_isDigit : MI := (yX12_isDigit, cX12_isDigit, 1, (Option.some Jvm.ClassFile.FieldType.boolean))
abbrev mX12_stepOn : MI := (yX12_stepOn, cX12_stepOn, 2, (Option.none : Option Jvm.ClassFile.FieldType))
abbrev mX12_wrong : MI := (yX12_wrong, cX12_wrong, 2, (Option.none : Option Jvm.ClassFile.FieldType))
abbrev mX12_is : MI := (yX12_is, cX12_is, 4, (Option.some Jvm.ClassFile.FieldType.boolean))
abbrev mX12_which : MI := (yX12_which, cX12_which, 3, (Option.some Jvm.ClassFile.FieldType.int))
abbrev mX12_passes : MI := (yX12_passes, cX12_passes, 3, (Option.some Jvm.ClassFile.FieldType.boolean))
abbrev mX12_readNumber : MI := (yX12_readNumber, cX12_readNumber, 4, (Option.some Jvm.ClassFile.FieldType.int))
abbrev mX12_perhaps : MI := (yX12_perhaps, cX12_perhaps, 4, (Option.some Jvm.ClassFile.FieldType.int))
abbrev mX12_semi : MI := (yX12_semi, cX12_semi, 1, (Option.none : Option Jvm.ClassFile.FieldType))
abbrev mX12_begin : MI := (yX12_begin, cX12_begin, 2, (Option.none : Option Jvm.ClassFile.FieldType))
abbrev mX12_fallen : MI := (yX12_fallen, cX12_fallen, 1, (Option.some Jvm.ClassFile.FieldType.int))
abbrev mX12_readText : MI := (yX12_readText, cX12_readText, 7, (Option.none : Option Jvm.ClassFile.FieldType))
abbrev mX12_readSpilt : MI := (yX12_readSpilt, cX12_readSpilt, 3, (Option.none : Option Jvm.ClassFile.FieldType))
abbrev mX12_readWashed : MI := (yX12_readWashed, cX12_readWashed, 4, (Option.none : Option Jvm.ClassFile.FieldType))
abbrev mX12_readLine : MI := (yX12_readLine, cX12_readLine, 2, (Option.none : Option Jvm.ClassFile.FieldType))
abbrev mX12_copyBook : MI := (yX12_copyBook, cX12_copyBook, 4, (Option.none : Option Jvm.ClassFile.FieldType))
abbrev mX12_book : MI := (yX12_book, cX12_book, 3, (Option.some Jvm.ClassFile.FieldType.int))
abbrev mX12_law : MI := (yX12_law, cX12_law, 4, (Option.some Jvm.ClassFile.FieldType.int))
abbrev mX12_way : MI := (yX12_way, cX12_way, 7, (Option.some Jvm.ClassFile.FieldType.int))
abbrev mX12_fault : MI := (yX12_fault, cX12_fault, 1, (Option.some Jvm.ClassFile.FieldType.int))
abbrev mX12_count : MI := (yX12_count, cX12_count, 2, (Option.some Jvm.ClassFile.FieldType.int))
abbrev mX12_isKnown : MI := (yX12_isKnown, cX12_isKnown, 3, (Option.some Jvm.ClassFile.FieldType.boolean))
abbrev mX12_kindsOf : MI := (yX12_kindsOf, cX12_kindsOf, 4, (Option.some Jvm.ClassFile.FieldType.int))
abbrev mX12_about : MI := (yX12_about, cX12_about, 3, (Option.some Jvm.ClassFile.FieldType.int))
abbrev mX12_leaf : MI := (yX12_leaf, cX12_leaf, 5, (Option.some Jvm.ClassFile.FieldType.int))
abbrev mX12_turningsOf : MI := (yX12_turningsOf, cX12_turningsOf, 5, (Option.some Jvm.ClassFile.FieldType.int))
abbrev mX12_turnings : MI := (yX12_turnings, cX12_turnings, 4, (Option.some Jvm.ClassFile.FieldType.int))
abbrev mX12_reader : MI := (yX12_reader, cX12_reader, 6, (Option.some Jvm.ClassFile.FieldType.int))
abbrev mX12_gone : MI := (yX12_gone, cX12_gone, 2, (Option.some Jvm.ClassFile.FieldType.int))
abbrev mX12_turningsIn : MI := (yX12_turningsIn, cX12_turningsIn, 7, (Option.some Jvm.ClassFile.FieldType.int))
abbrev mX12_ownOf : MI := (yX12_ownOf, cX12_ownOf, 6, (Option.some Jvm.ClassFile.FieldType.int))
abbrev mX12_hairOf : MI := (yX12_hairOf, cX12_hairOf, 3, (Option.some Jvm.ClassFile.FieldType.int))
abbrev mX12_tellDirt : MI := (yX12_tellDirt, cX12_tellDirt, 4, (Option.none : Option Jvm.ClassFile.FieldType))
abbrev mX12_dirt : MI := (yX12_dirt, cX12_dirt, 6, (Option.some Jvm.ClassFile.FieldType.int))
abbrev mX12_reads : MI := (yX12_reads, cX12_reads, 7, (Option.some Jvm.ClassFile.FieldType.boolean))
abbrev mX12_draw : MI := (yX12_draw, cX12_draw, 2, (Option.some Jvm.ClassFile.FieldType.int))
abbrev mX12_drawAll : MI := (yX12_drawAll, cX12_drawAll, 5, (Option.some Jvm.ClassFile.FieldType.int))
abbrev mX12_drawn : MI := (yX12_drawn, cX12_drawn, 4, (Option.some Jvm.ClassFile.FieldType.int))
abbrev mX12_read : MI := (yX12_read, cX12_read, 5, (Option.some Jvm.ClassFile.FieldType.boolean))
abbrev mX12_bareLow : MI := (yX12_bareLow, cX12_bareLow, 3, (Option.some Jvm.ClassFile.FieldType.int))
abbrev mX12_bareHigh : MI := (yX12_bareHigh, cX12_bareHigh, 3, (Option.some Jvm.ClassFile.FieldType.int))
abbrev mX12_through : MI := (yX12_through, cX12_through, 2, (Option.some Jvm.ClassFile.FieldType.int))
abbrev mX12_undoneLow : MI := (yX12_undoneLow, cX12_undoneLow, 4, (Option.some Jvm.ClassFile.FieldType.int))
abbrev mX12_undoneHigh : MI := (yX12_undoneHigh, cX12_undoneHigh, 4, (Option.some Jvm.ClassFile.FieldType.int))
abbrev mX12_turnsLow : MI := (yX12_turnsLow, cX12_turnsLow, 4, (Option.some Jvm.ClassFile.FieldType.int))
abbrev mX12_turnsHigh : MI := (yX12_turnsHigh, cX12_turnsHigh, 3, (Option.some Jvm.ClassFile.FieldType.int))
abbrev mX12_isStrange : MI := (yX12_isStrange, cX12_isStrange, 3, (Option.some Jvm.ClassFile.FieldType.boolean))
abbrev mX12_midst : MI := (yX12_midst, cX12_midst, 3, (Option.some Jvm.ClassFile.FieldType.int))
abbrev mX12_isUndone : MI := (yX12_isUndone, cX12_isUndone, 3, (Option.some Jvm.ClassFile.FieldType.boolean))
abbrev mX12_bounds : MI := (yX12_bounds, cX12_bounds, 4, (Option.some Jvm.ClassFile.FieldType.int))
abbrev mX12_isAsked : MI := (yX12_isAsked, cX12_isAsked, 2, (Option.some Jvm.ClassFile.FieldType.boolean))
abbrev mX12_has : MI := (yX12_has, cX12_has, 3, (Option.some Jvm.ClassFile.FieldType.boolean))
abbrev mX12_leavesOf : MI := (yX12_leavesOf, cX12_leavesOf, 5, (Option.some Jvm.ClassFile.FieldType.int))
abbrev mX12_lightOf : MI := (yX12_lightOf, cX12_lightOf, 6, (Option.some Jvm.ClassFile.FieldType.int))
abbrev mX12_light : MI := (yX12_light, cX12_light, 3, (Option.some Jvm.ClassFile.FieldType.int))
abbrev mX12_pairs : MI := (yX12_pairs, cX12_pairs, 7, (Option.some Jvm.ClassFile.FieldType.int))
abbrev mX12_chanceOf : MI := (yX12_chanceOf, cX12_chanceOf, 10, (Option.some Jvm.ClassFile.FieldType.int))
abbrev mX12_sleepy : MI := (yX12_sleepy, cX12_sleepy, 3, (Option.some Jvm.ClassFile.FieldType.int))
abbrev mX12_tellLights : MI := (yX12_tellLights, cX12_tellLights, 5, (Option.none : Option Jvm.ClassFile.FieldType))
abbrev mX12_spread : MI := (yX12_spread, cX12_spread, 10, (Option.some Jvm.ClassFile.FieldType.long))
abbrev mX12_part : MI := (yX12_part, cX12_part, 8, (Option.none : Option Jvm.ClassFile.FieldType))
abbrev mX12_tellHumps : MI := (yX12_tellHumps, cX12_tellHumps, 3, (Option.some Jvm.ClassFile.FieldType.boolean))
abbrev mX12_humps : MI := (yX12_humps, cX12_humps, 3, (Option.some Jvm.ClassFile.FieldType.long))
abbrev mX12_hump : MI := (yX12_hump, cX12_hump, 6, (Option.some Jvm.ClassFile.FieldType.int))
abbrev mX12_fitted : MI := (yX12_fitted, cX12_fitted, 13, (Option.some Jvm.ClassFile.FieldType.int))
abbrev mX12_years : MI := (yX12_years, cX12_years, 2, (Option.some Jvm.ClassFile.FieldType.int))
abbrev mX12_makes : MI := (yX12_makes, cX12_makes, 6, (Option.some Jvm.ClassFile.FieldType.int))
abbrev mX12_tells : MI := (yX12_tells, cX12_tells, 3, (Option.some Jvm.ClassFile.FieldType.boolean))
abbrev mX12_whoseOf : MI := (yX12_whoseOf, cX12_whoseOf, 13, (Option.some Jvm.ClassFile.FieldType.int))
abbrev mX12_whose : MI := (yX12_whose, cX12_whose, 2, (Option.some Jvm.ClassFile.FieldType.int))
abbrev mX12_lay : MI := (yX12_lay, cX12_lay, 6, (Option.none : Option Jvm.ClassFile.FieldType))
abbrev mX12_want : MI := (yX12_want, cX12_want, 5, (Option.some Jvm.ClassFile.FieldType.long))
abbrev mX12_order : MI := (yX12_order, cX12_order, 13, (Option.some Jvm.ClassFile.FieldType.int))
abbrev mX12_isOpen : MI := (yX12_isOpen, cX12_isOpen, 6, (Option.some Jvm.ClassFile.FieldType.boolean))
abbrev mX12_falls : MI := (yX12_falls, cX12_falls, 5, (Option.some Jvm.ClassFile.FieldType.int))
abbrev mX12_blank : MI := (yX12_blank, cX12_blank, 3, (Option.some Jvm.ClassFile.FieldType.int))
abbrev mX12_clear : MI := (yX12_clear, cX12_clear, 2, (Option.some Jvm.ClassFile.FieldType.int))
abbrev mX12_turn : MI := (yX12_turn, cX12_turn, 10, (Option.some Jvm.ClassFile.FieldType.int))
abbrev mX12_town : MI := (yX12_town, cX12_town, 4, (Option.some Jvm.ClassFile.FieldType.int))
abbrev mX12_signOf : MI := (yX12_signOf, cX12_signOf, 1, (Option.some Jvm.ClassFile.FieldType.int))
abbrev mX12_alikeOf : MI := (yX12_alikeOf, cX12_alikeOf, 7, (Option.some Jvm.ClassFile.FieldType.int))
abbrev mX12_alike : MI := (yX12_alike, cX12_alike, 3, (Option.some Jvm.ClassFile.FieldType.int))
abbrev mX12_nearest : MI := (yX12_nearest, cX12_nearest, 6, (Option.some Jvm.ClassFile.FieldType.int))
abbrev mX12_turnsOf : MI := (yX12_turnsOf, cX12_turnsOf, 7, (Option.some Jvm.ClassFile.FieldType.long))
abbrev mX12_isSurely : MI := (yX12_isSurely, cX12_isSurely, 4, (Option.some Jvm.ClassFile.FieldType.boolean))
abbrev mX12_sure : MI := (yX12_sure, cX12_sure, 4, (Option.some Jvm.ClassFile.FieldType.int))
abbrev mX12_before : MI := (yX12_before, cX12_before, 11, (Option.some Jvm.ClassFile.FieldType.int))
abbrev mX12_told : MI := (yX12_told, cX12_told, 8, (Option.some Jvm.ClassFile.FieldType.int))
abbrev mX12_next : MI := (yX12_next, cX12_next, 6, (Option.some Jvm.ClassFile.FieldType.int))
abbrev mX12_image : MI := (yX12_image, cX12_image, 3, (Option.none : Option Jvm.ClassFile.FieldType))
abbrev mX12_restore : MI := (yX12_restore, cX12_restore, 4, (Option.some Jvm.ClassFile.FieldType.boolean))
abbrev mX0_init : MI := (yX0_init, cX0_init, 1, (Option.none : Option Jvm.ClassFile.FieldType))
abbrev mX0_write : MI := (yX0_write, cX0_write, 3, (Option.none : Option Jvm.ClassFile.FieldType))
abbrev mX0_wipe : MI := (yX0_wipe, cX0_wipe, 1, (Option.none : Option Jvm.ClassFile.FieldType))
abbrev mX0_writeLine : MI := (yX0_writeLine, cX0_writeLine, 2, (Option.none : Option Jvm.ClassFile.FieldType))
abbrev mX0_writeText : MI := (yX0_writeText, cX0_writeText, 7, (Option.none : Option Jvm.ClassFile.FieldType))
abbrev mX0_writeSpilt : MI := (yX0_writeSpilt, cX0_writeSpilt, 4, (Option.none : Option Jvm.ClassFile.FieldType))
abbrev mX0_writeWashed : MI := (yX0_writeWashed, cX0_writeWashed, 4, (Option.none : Option Jvm.ClassFile.FieldType))
abbrev mX0_addReader : MI := (yX0_addReader, cX0_addReader, 4, (Option.none : Option Jvm.ClassFile.FieldType))
abbrev mX0_isKnown : MI := (yX0_isKnown, cX0_isKnown, 1, (Option.some Jvm.ClassFile.FieldType.boolean))
abbrev mX0_bare : MI := (yX0_bare, cX0_bare, 2, (Option.some Jvm.ClassFile.FieldType.int))
abbrev mX0_turned : MI := (yX0_turned, cX0_turned, 10, (Option.some Jvm.ClassFile.FieldType.int))
abbrev mX0_ownDirt : MI := (yX0_ownDirt, cX0_ownDirt, 7, (Option.some Jvm.ClassFile.FieldType.int))
abbrev mX0_fillAll : MI := (yX0_fillAll, cX0_fillAll, 6, (Option.none : Option Jvm.ClassFile.FieldType))
abbrev mX0_bareLow : MI := (yX0_bareLow, cX0_bareLow, 3, (Option.some Jvm.ClassFile.FieldType.int))
abbrev mX0_bareHigh : MI := (yX0_bareHigh, cX0_bareHigh, 3, (Option.some Jvm.ClassFile.FieldType.int))
abbrev mX1_init : MI := (yX1_init, cX1_init, 1, (Option.none : Option Jvm.ClassFile.FieldType))
abbrev mX1_ofAtLeast : MI := (yX1_ofAtLeast, cX1_ofAtLeast, 5, (Option.some Jvm.ClassFile.FieldType.int))
abbrev mX1_mix : MI := (yX1_mix, cX1_mix, 4, (Option.none : Option Jvm.ClassFile.FieldType))
abbrev mX2_init : MI := (yX2_init, cX2_init, 1, (Option.none : Option Jvm.ClassFile.FieldType))
abbrev mX2_search : MI := (yX2_search, cX2_search, 10, (Option.some Jvm.ClassFile.FieldType.int))
abbrev mX2_differing : MI := (yX2_differing, cX2_differing, 8, (Option.some Jvm.ClassFile.FieldType.int))
abbrev mX3_init : MI := (yX3_init, cX3_init, 1, (Option.none : Option Jvm.ClassFile.FieldType))
abbrev mX3_wipe : MI := (yX3_wipe, cX3_wipe, 1, (Option.none : Option Jvm.ClassFile.FieldType))
abbrev mX3_copy : MI := (yX3_copy, cX3_copy, 2, (Option.none : Option Jvm.ClassFile.FieldType))
abbrev mX3_wasRead : MI := (yX3_wasRead, cX3_wasRead, 2, (Option.some Jvm.ClassFile.FieldType.boolean))
abbrev mX3_readAll : MI := (yX3_readAll, cX3_readAll, 3, (Option.some Jvm.ClassFile.FieldType.boolean))
abbrev mX3_take : MI := (yX3_take, cX3_take, 6, (Option.some Jvm.ClassFile.FieldType.boolean))
abbrev mX4_init : MI := (yX4_init, cX4_init, 1, (Option.none : Option Jvm.ClassFile.FieldType))
abbrev mX4_sort : MI := (yX4_sort, cX4_sort, 3, (Option.none : Option Jvm.ClassFile.FieldType))
abbrev mX4_insert : MI := (yX4_insert, cX4_insert, 4, (Option.none : Option Jvm.ClassFile.FieldType))
abbrev mX4_part : MI := (yX4_part, cX4_part, 9, (Option.some Jvm.ClassFile.FieldType.long))
abbrev mX4_lastEnd : MI := (yX4_lastEnd, cX4_lastEnd, 2, (Option.some Jvm.ClassFile.FieldType.int))
abbrev mX4_spread : MI := (yX4_spread, cX4_spread, 10, (Option.some Jvm.ClassFile.FieldType.long))
abbrev mX4_groupOf : MI := (yX4_groupOf, cX4_groupOf, 3, (Option.some Jvm.ClassFile.FieldType.int))
abbrev mX5_init : MI := (yX5_init, cX5_init, 1, (Option.none : Option Jvm.ClassFile.FieldType))
abbrev mX5_write : MI := (yX5_write, cX5_write, 3, (Option.none : Option Jvm.ClassFile.FieldType))
abbrev mX5_writeLine : MI := (yX5_writeLine, cX5_writeLine, 2, (Option.none : Option Jvm.ClassFile.FieldType))
abbrev mX5_once : MI := (yX5_once, cX5_once, 3, (Option.none : Option Jvm.ClassFile.FieldType))
abbrev mX5_through : MI := (yX5_through, cX5_through, 2, (Option.some Jvm.ClassFile.FieldType.int))
abbrev mX6_init : MI := (yX6_init, cX6_init, 1, (Option.none : Option Jvm.ClassFile.FieldType))
abbrev mX6_fill : MI := (yX6_fill, cX6_fill, 4, (Option.none : Option Jvm.ClassFile.FieldType))
abbrev mX6_want : MI := (yX6_want, cX6_want, 3, (Option.some Jvm.ClassFile.FieldType.int))
abbrev mX6_findMove : MI := (yX6_findMove, cX6_findMove, 7, (Option.none : Option Jvm.ClassFile.FieldType))
abbrev mX6_putAt : MI := (yX6_putAt, cX6_putAt, 5, (Option.some Jvm.ClassFile.FieldType.int))
abbrev mX6_otherAt : MI := (yX6_otherAt, cX6_otherAt, 2, (Option.some Jvm.ClassFile.FieldType.int))
abbrev mX6_lack : MI := (yX6_lack, cX6_lack, 4, (Option.some Jvm.ClassFile.FieldType.int))
abbrev mX7_init : MI := (yX7_init, cX7_init, 1, (Option.none : Option Jvm.ClassFile.FieldType))
abbrev mX7_put : MI := (yX7_put, cX7_put, 3, (Option.none : Option Jvm.ClassFile.FieldType))
abbrev mX7_begin : MI := (yX7_begin, cX7_begin, 2, (Option.none : Option Jvm.ClassFile.FieldType))
abbrev mX7_hasMore : MI := (yX7_hasMore, cX7_hasMore, 1, (Option.some Jvm.ClassFile.FieldType.boolean))
abbrev mX7_takes : MI := (yX7_takes, cX7_takes, 2, (Option.some Jvm.ClassFile.FieldType.boolean))
abbrev mX7_number : MI := (yX7_number, cX7_number, 4, (Option.some Jvm.ClassFile.FieldType.int))
abbrev mX7_endLine : MI := (yX7_endLine, cX7_endLine, 1, (Option.none : Option Jvm.ClassFile.FieldType))
abbrev mX7_blame : MI := (yX7_blame, cX7_blame, 3, (Option.none : Option Jvm.ClassFile.FieldType))
abbrev mX7_step : MI := (yX7_step, cX7_step, 2, (Option.none : Option Jvm.ClassFile.FieldType))
abbrev mX7_sortOf : MI := (yX7_sortOf, cX7_sortOf, 1, (Option.some Jvm.ClassFile.FieldType.int))
abbrev mX7_spells : MI := (yX7_spells, cX7_spells, 3, (Option.some Jvm.ClassFile.FieldType.boolean))
abbrev mX7_digits : MI := (yX7_digits, cX7_digits, 3, (Option.some Jvm.ClassFile.FieldType.int))
abbrev mX8_init : MI := (yX8_init, cX8_init, 1, (Option.none : Option Jvm.ClassFile.FieldType))
abbrev mX8_add : MI := (yX8_add, cX8_add, 3, (Option.some Jvm.ClassFile.FieldType.boolean))
abbrev mX8_agree : MI := (yX8_agree, cX8_agree, 4, (Option.some Jvm.ClassFile.FieldType.boolean))
abbrev mX8_least : MI := (yX8_least, cX8_least, 4, (Option.some Jvm.ClassFile.FieldType.int))
abbrev mX8_greatest : MI := (yX8_greatest, cX8_greatest, 4, (Option.some Jvm.ClassFile.FieldType.int))
abbrev mX9_init : MI := (yX9_init, cX9_init, 1, (Option.none : Option Jvm.ClassFile.FieldType))
abbrev mX9_fill : MI := (yX9_fill, cX9_fill, 6, (Option.none : Option Jvm.ClassFile.FieldType))
abbrev mX9_fillLeaf : MI := (yX9_fillLeaf, cX9_fillLeaf, 8, (Option.none : Option Jvm.ClassFile.FieldType))
abbrev mX9_fillLights : MI := (yX9_fillLights, cX9_fillLights, 3, (Option.none : Option Jvm.ClassFile.FieldType))
abbrev mX9_isStrange : MI := (yX9_isStrange, cX9_isStrange, 2, (Option.some Jvm.ClassFile.FieldType.boolean))
abbrev mX9_pairs : MI := (yX9_pairs, cX9_pairs, 7, (Option.some Jvm.ClassFile.FieldType.int))
abbrev mX9_apartFrom : MI := (yX9_apartFrom, cX9_apartFrom, 10, (Option.some Jvm.ClassFile.FieldType.long))
abbrev mX9_opensAt : MI := (yX9_opensAt, cX9_opensAt, 6, (Option.some Jvm.ClassFile.FieldType.boolean))
abbrev mX9_likeness : MI := (yX9_likeness, cX9_likeness, 5, (Option.some Jvm.ClassFile.FieldType.int))
abbrev mX9_bothHave : MI := (yX9_bothHave, cX9_bothHave, 3, (Option.some Jvm.ClassFile.FieldType.boolean))
abbrev mX9_surely : MI := (yX9_surely, cX9_surely, 9, (Option.some Jvm.ClassFile.FieldType.boolean))
abbrev mX9_widest : MI := (yX9_widest, cX9_widest, 5, (Option.some Jvm.ClassFile.FieldType.int))
abbrev mX10_init : MI := (yX10_init, cX10_init, 1, (Option.none : Option Jvm.ClassFile.FieldType))
abbrev mX10_write : MI := (yX10_write, cX10_write, 3, (Option.none : Option Jvm.ClassFile.FieldType))
abbrev mX10_writeLine : MI := (yX10_writeLine, cX10_writeLine, 5, (Option.none : Option Jvm.ClassFile.FieldType))
abbrev mX10_tellsSome : MI := (yX10_tellsSome, cX10_tellsSome, 2, (Option.some Jvm.ClassFile.FieldType.boolean))
abbrev mX10_yearly : MI := (yX10_yearly, cX10_yearly, 4, (Option.some Jvm.ClassFile.FieldType.int))
abbrev mJ9_abs_0f7a4 : MI := (yJ9_abs_0f7a4, cJ9_abs_0f7a4, 1, (Option.some Jvm.ClassFile.FieldType.int))
abbrev mJ9_abs_067f4 : MI := (yJ9_abs_067f4, cJ9_abs_067f4, 2, (Option.some Jvm.ClassFile.FieldType.long))
abbrev mJ9_floorDiv_7cf53 : MI := (yJ9_floorDiv_7cf53, cJ9_floorDiv_7cf53, 3, (Option.some Jvm.ClassFile.FieldType.int))
abbrev mJ9_floorDiv_f86c9 : MI := (yJ9_floorDiv_f86c9, cJ9_floorDiv_f86c9, 6, (Option.some Jvm.ClassFile.FieldType.long))
abbrev mJ9_floorMod_7cf53 : MI := (yJ9_floorMod_7cf53, cJ9_floorMod_7cf53, 3, (Option.some Jvm.ClassFile.FieldType.int))
abbrev mJ9_max_7cf53 : MI := (yJ9_max_7cf53, cJ9_max_7cf53, 2, (Option.some Jvm.ClassFile.FieldType.int))
abbrev mJ9_min_7cf53 : MI := (yJ9_min_7cf53, cJ9_min_7cf53, 2, (Option.some Jvm.ClassFile.FieldType.int))
abbrev mJ0_checkIndex_df160 : MI := (yJ0_checkIndex_df160, cJ0_checkIndex_df160, 2, (Option.none : Option Jvm.ClassFile.FieldType))
abbrev mJ0_isLatin1_aae02 : MI := (yJ0_isLatin1_aae02, cJ0_isLatin1_aae02, 1, (Option.some Jvm.ClassFile.FieldType.boolean))
abbrev mJ0_length_8abf5 : MI := (yJ0_length_8abf5, cJ0_length_8abf5, 1, (Option.some Jvm.ClassFile.FieldType.int))
abbrev mJ7_fill_53178 : MI := (yJ7_fill_53178, cJ7_fill_53178, 4, (Option.none : Option Jvm.ClassFile.FieldType))
abbrev mJ0_charAt_5068e : MI := (yJ0_charAt_5068e, cJ0_charAt_5068e, 2, (Option.some Jvm.ClassFile.FieldType.char))
abbrev mJ0_coder_7d493 : MI := (yJ0_coder_7d493, cJ0_coder_7d493, 1, (Option.some Jvm.ClassFile.FieldType.byte))
abbrev mJ1_charAt_3b067 : MI := (yJ1_charAt_3b067, cJ1_charAt_3b067, 2, (Option.some Jvm.ClassFile.FieldType.char))
abbrev mJ2_getChar_3b067 : MI := (yJ2_getChar_3b067, cJ2_getChar_3b067, 2, (Option.some Jvm.ClassFile.FieldType.char))
abbrev mJ2_length_9d52b : MI := (yJ2_length_9d52b, cJ2_length_9d52b, 1, (Option.some Jvm.ClassFile.FieldType.int))
abbrev mJ2_charAt_3b067 : MI := (yJ2_charAt_3b067, cJ2_charAt_3b067, 2, (Option.some Jvm.ClassFile.FieldType.char))
abbrev mJ2_checkIndex_2214a : MI := (yJ2_checkIndex_2214a, cJ2_checkIndex_2214a, 2, (Option.none : Option Jvm.ClassFile.FieldType))
abbrev mJ3_checkIndex_8e157 : MI := (yJ3_checkIndex_8e157, cJ3_checkIndex_8e157, 3, (Option.some Jvm.ClassFile.FieldType.int))
theorem pf_X11_init : plainFor yX11_init = true := by decide +kernel
theorem pf_X11_feed : plainFor yX11_feed = true := by decide +kernel
theorem pf_X11_book : plainFor yX11_book = true := by decide +kernel
theorem pf_X11_law : plainFor yX11_law = true := by decide +kernel
theorem pf_X11_way : plainFor yX11_way = true := by decide +kernel
theorem pf_X11_fault : plainFor yX11_fault = true := by decide +kernel
theorem pf_X11_count : plainFor yX11_count = true := by decide +kernel
theorem pf_X11_about : plainFor yX11_about = true := by decide +kernel
theorem pf_X11_leaf : plainFor yX11_leaf = true := by decide +kernel
theorem pf_X11_turnings : plainFor yX11_turnings = true := by decide +kernel
theorem pf_X11_reader : plainFor yX11_reader = true := by decide +kernel
theorem pf_X11_gone : plainFor yX11_gone = true := by decide +kernel
theorem pf_X11_dirt : plainFor yX11_dirt = true := by decide +kernel
theorem pf_X11_drawn : plainFor yX11_drawn = true := by decide +kernel
theorem pf_X11_read : plainFor yX11_read = true := by decide +kernel
theorem pf_X11_bounds : plainFor yX11_bounds = true := by decide +kernel
theorem pf_X11_light : plainFor yX11_light = true := by decide +kernel
theorem pf_X11_sleepy : plainFor yX11_sleepy = true := by decide +kernel
theorem pf_X11_humps : plainFor yX11_humps = true := by decide +kernel
theorem pf_X11_hump : plainFor yX11_hump = true := by decide +kernel
theorem pf_X11_fitted : plainFor yX11_fitted = true := by decide +kernel
theorem pf_X11_years : plainFor yX11_years = true := by decide +kernel
theorem pf_X11_whose : plainFor yX11_whose = true := by decide +kernel
theorem pf_X11_order : plainFor yX11_order = true := by decide +kernel
theorem pf_X11_falls : plainFor yX11_falls = true := by decide +kernel
theorem pf_X11_blank : plainFor yX11_blank = true := by decide +kernel
theorem pf_X11_clear : plainFor yX11_clear = true := by decide +kernel
theorem pf_X11_turn : plainFor yX11_turn = true := by decide +kernel
theorem pf_X11_town : plainFor yX11_town = true := by decide +kernel
theorem pf_X11_alike : plainFor yX11_alike = true := by decide +kernel
theorem pf_X11_nearest : plainFor yX11_nearest = true := by decide +kernel
theorem pf_X11_sure : plainFor yX11_sure = true := by decide +kernel
theorem pf_X11_before : plainFor yX11_before = true := by decide +kernel
theorem pf_X11_told : plainFor yX11_told = true := by decide +kernel
theorem pf_X11_next : plainFor yX11_next = true := by decide +kernel
theorem pf_X11_image : plainFor yX11_image = true := by decide +kernel
theorem pf_X11_restore : plainFor yX11_restore = true := by decide +kernel
theorem pf_X11_bookAt : plainFor yX11_bookAt = true := by decide +kernel
theorem pf_X11_bookWithLeaf : plainFor yX11_bookWithLeaf = true := by decide +kernel
theorem pf_X11_knownAt : plainFor yX11_knownAt = true := by decide +kernel
theorem pf_X11_wayAt : plainFor yX11_wayAt = true := by decide +kernel
theorem pf_X11_statusAt : plainFor yX11_statusAt = true := by decide +kernel
theorem pf_X11_checkKind : plainFor yX11_checkKind = true := by decide +kernel
theorem pf_X11_checkHeld : plainFor yX11_checkHeld = true := by decide +kernel
theorem pf_X11_checkAheadRead : plainFor yX11_checkAheadRead = true := by decide +kernel
theorem pf_X11_checkOnTape : plainFor yX11_checkOnTape = true := by decide +kernel
theorem pf_X11_written : plainFor yX11_written = true := by decide +kernel
theorem pf_X11_partedInto : plainFor yX11_partedInto = true := by decide +kernel
theorem pf_X11_ownerBy : plainFor yX11_ownerBy = true := by decide +kernel
theorem pf_X11_fillShades : plainFor yX11_fillShades = true := by decide +kernel
theorem pf_X11_drawTrial : plainFor yX11_drawTrial = true := by decide +kernel
theorem pf_X11_reading : plainFor yX11_reading = true := by decide +kernel
theorem pf_X11_stepped : plainFor yX11_stepped = true := by decide +kernel
theorem pf_X11_cutDown : plainFor yX11_cutDown = true := by decide +kernel
theorem pf_X11_cutUp : plainFor yX11_cutUp = true := by decide +kernel
theorem pf_X11_compared : plainFor yX11_compared = true := by decide +kernel
theorem pf_X12_init : plainFor yX12_init = true := by decide +kernel
theorem pf_X12_thrown : plainFor yX12_thrown = true := by decide +kernel
theorem pf_X12_fail : plainFor yX12_fail = true := by decide +kernel
theorem pf_X12_isIn : plainFor yX12_isIn = true := by decide +kernel
theorem pf_X12_isBook : plainFor yX12_isBook = true := by decide +kernel
theorem pf_X12_isWay : plainFor yX12_isWay = true := by decide +kernel
theorem pf_X12_isLeaf : plainFor yX12_isLeaf = true := by decide +kernel
theorem pf_X12_at : plainFor yX12_at = true := by decide +kernel
theorem pf_X12_feed : plainFor yX12_feed = true := by decide +kernel
theorem pf_X12_byteAt : plainFor yX12_byteAt = true := by decide +kernel
theorem pf_X12_isLetter : plainFor yX12_isLetter = true := by decide +kernel
theorem pf_X12_isDigit : plainFor yX12_isDigit = true := by decide +kernel
theorem pf_X12_stepOn : plainFor yX12_stepOn = true := by decide +kernel
theorem pf_X12_wrong : plainFor yX12_wrong = true := by decide +kernel
theorem pf_X12_is : plainFor yX12_is = true := by decide +kernel
theorem pf_X12_which : plainFor yX12_which = true := by decide +kernel
theorem pf_X12_passes : plainFor yX12_passes = true := by decide +kernel
theorem pf_X12_readNumber : plainFor yX12_readNumber = true := by decide +kernel
theorem pf_X12_perhaps : plainFor yX12_perhaps = true := by decide +kernel
theorem pf_X12_semi : plainFor yX12_semi = true := by decide +kernel
theorem pf_X12_begin : plainFor yX12_begin = true := by decide +kernel
theorem pf_X12_fallen : plainFor yX12_fallen = true := by decide +kernel
theorem pf_X12_readText : plainFor yX12_readText = true := by decide +kernel
theorem pf_X12_readSpilt : plainFor yX12_readSpilt = true := by decide +kernel
theorem pf_X12_readWashed : plainFor yX12_readWashed = true := by decide +kernel
theorem pf_X12_readLine : plainFor yX12_readLine = true := by decide +kernel
theorem pf_X12_copyBook : plainFor yX12_copyBook = true := by decide +kernel
theorem pf_X12_book : plainFor yX12_book = true := by decide +kernel
theorem pf_X12_law : plainFor yX12_law = true := by decide +kernel
theorem pf_X12_way : plainFor yX12_way = true := by decide +kernel
theorem pf_X12_fault : plainFor yX12_fault = true := by decide +kernel
theorem pf_X12_count : plainFor yX12_count = true := by decide +kernel
theorem pf_X12_isKnown : plainFor yX12_isKnown = true := by decide +kernel
theorem pf_X12_kindsOf : plainFor yX12_kindsOf = true := by decide +kernel
theorem pf_X12_about : plainFor yX12_about = true := by decide +kernel
theorem pf_X12_leaf : plainFor yX12_leaf = true := by decide +kernel
theorem pf_X12_turningsOf : plainFor yX12_turningsOf = true := by decide +kernel
theorem pf_X12_turnings : plainFor yX12_turnings = true := by decide +kernel
theorem pf_X12_reader : plainFor yX12_reader = true := by decide +kernel
theorem pf_X12_gone : plainFor yX12_gone = true := by decide +kernel
theorem pf_X12_turningsIn : plainFor yX12_turningsIn = true := by decide +kernel
theorem pf_X12_ownOf : plainFor yX12_ownOf = true := by decide +kernel
theorem pf_X12_hairOf : plainFor yX12_hairOf = true := by decide +kernel
theorem pf_X12_tellDirt : plainFor yX12_tellDirt = true := by decide +kernel
theorem pf_X12_dirt : plainFor yX12_dirt = true := by decide +kernel
theorem pf_X12_reads : plainFor yX12_reads = true := by decide +kernel
theorem pf_X12_draw : plainFor yX12_draw = true := by decide +kernel
theorem pf_X12_drawAll : plainFor yX12_drawAll = true := by decide +kernel
theorem pf_X12_drawn : plainFor yX12_drawn = true := by decide +kernel
theorem pf_X12_read : plainFor yX12_read = true := by decide +kernel
theorem pf_X12_bareLow : plainFor yX12_bareLow = true := by decide +kernel
theorem pf_X12_bareHigh : plainFor yX12_bareHigh = true := by decide +kernel
theorem pf_X12_through : plainFor yX12_through = true := by decide +kernel
theorem pf_X12_undoneLow : plainFor yX12_undoneLow = true := by decide +kernel
theorem pf_X12_undoneHigh : plainFor yX12_undoneHigh = true := by decide +kernel
theorem pf_X12_turnsLow : plainFor yX12_turnsLow = true := by decide +kernel
theorem pf_X12_turnsHigh : plainFor yX12_turnsHigh = true := by decide +kernel
theorem pf_X12_isStrange : plainFor yX12_isStrange = true := by decide +kernel
theorem pf_X12_midst : plainFor yX12_midst = true := by decide +kernel
theorem pf_X12_isUndone : plainFor yX12_isUndone = true := by decide +kernel
theorem pf_X12_bounds : plainFor yX12_bounds = true := by decide +kernel
theorem pf_X12_isAsked : plainFor yX12_isAsked = true := by decide +kernel
theorem pf_X12_has : plainFor yX12_has = true := by decide +kernel
theorem pf_X12_leavesOf : plainFor yX12_leavesOf = true := by decide +kernel
theorem pf_X12_lightOf : plainFor yX12_lightOf = true := by decide +kernel
theorem pf_X12_light : plainFor yX12_light = true := by decide +kernel
theorem pf_X12_pairs : plainFor yX12_pairs = true := by decide +kernel
theorem pf_X12_chanceOf : plainFor yX12_chanceOf = true := by decide +kernel
theorem pf_X12_sleepy : plainFor yX12_sleepy = true := by decide +kernel
theorem pf_X12_tellLights : plainFor yX12_tellLights = true := by decide +kernel
theorem pf_X12_spread : plainFor yX12_spread = true := by decide +kernel
theorem pf_X12_part : plainFor yX12_part = true := by decide +kernel
theorem pf_X12_tellHumps : plainFor yX12_tellHumps = true := by decide +kernel
theorem pf_X12_humps : plainFor yX12_humps = true := by decide +kernel
theorem pf_X12_hump : plainFor yX12_hump = true := by decide +kernel
theorem pf_X12_fitted : plainFor yX12_fitted = true := by decide +kernel
theorem pf_X12_years : plainFor yX12_years = true := by decide +kernel
theorem pf_X12_makes : plainFor yX12_makes = true := by decide +kernel
theorem pf_X12_tells : plainFor yX12_tells = true := by decide +kernel
theorem pf_X12_whoseOf : plainFor yX12_whoseOf = true := by decide +kernel
theorem pf_X12_whose : plainFor yX12_whose = true := by decide +kernel
theorem pf_X12_lay : plainFor yX12_lay = true := by decide +kernel
theorem pf_X12_want : plainFor yX12_want = true := by decide +kernel
theorem pf_X12_order : plainFor yX12_order = true := by decide +kernel
theorem pf_X12_isOpen : plainFor yX12_isOpen = true := by decide +kernel
theorem pf_X12_falls : plainFor yX12_falls = true := by decide +kernel
theorem pf_X12_blank : plainFor yX12_blank = true := by decide +kernel
theorem pf_X12_clear : plainFor yX12_clear = true := by decide +kernel
theorem pf_X12_turn : plainFor yX12_turn = true := by decide +kernel
theorem pf_X12_town : plainFor yX12_town = true := by decide +kernel
theorem pf_X12_signOf : plainFor yX12_signOf = true := by decide +kernel
theorem pf_X12_alikeOf : plainFor yX12_alikeOf = true := by decide +kernel
theorem pf_X12_alike : plainFor yX12_alike = true := by decide +kernel
theorem pf_X12_nearest : plainFor yX12_nearest = true := by decide +kernel
theorem pf_X12_turnsOf : plainFor yX12_turnsOf = true := by decide +kernel
theorem pf_X12_isSurely : plainFor yX12_isSurely = true := by decide +kernel
theorem pf_X12_sure : plainFor yX12_sure = true := by decide +kernel
theorem pf_X12_before : plainFor yX12_before = true := by decide +kernel
theorem pf_X12_told : plainFor yX12_told = true := by decide +kernel
theorem pf_X12_next : plainFor yX12_next = true := by decide +kernel
theorem pf_X12_image : plainFor yX12_image = true := by decide +kernel
theorem pf_X12_restore : plainFor yX12_restore = true := by decide +kernel
theorem pf_X0_init : plainFor yX0_init = true := by decide +kernel
theorem pf_X0_write : plainFor yX0_write = true := by decide +kernel
theorem pf_X0_wipe : plainFor yX0_wipe = true := by decide +kernel
theorem pf_X0_writeLine : plainFor yX0_writeLine = true := by decide +kernel
theorem pf_X0_writeText : plainFor yX0_writeText = true := by decide +kernel
theorem pf_X0_writeSpilt : plainFor yX0_writeSpilt = true := by decide +kernel
theorem pf_X0_writeWashed : plainFor yX0_writeWashed = true := by decide +kernel
theorem pf_X0_addReader : plainFor yX0_addReader = true := by decide +kernel
theorem pf_X0_isKnown : plainFor yX0_isKnown = true := by decide +kernel
theorem pf_X0_bare : plainFor yX0_bare = true := by decide +kernel
theorem pf_X0_turned : plainFor yX0_turned = true := by decide +kernel
theorem pf_X0_ownDirt : plainFor yX0_ownDirt = true := by decide +kernel
theorem pf_X0_fillAll : plainFor yX0_fillAll = true := by decide +kernel
theorem pf_X0_bareLow : plainFor yX0_bareLow = true := by decide +kernel
theorem pf_X0_bareHigh : plainFor yX0_bareHigh = true := by decide +kernel
theorem pf_X1_init : plainFor yX1_init = true := by decide +kernel
theorem pf_X1_ofAtLeast : plainFor yX1_ofAtLeast = true := by decide +kernel
theorem pf_X1_mix : plainFor yX1_mix = true := by decide +kernel
theorem pf_X2_init : plainFor yX2_init = true := by decide +kernel
theorem pf_X2_search : plainFor yX2_search = true := by decide +kernel
theorem pf_X2_differing : plainFor yX2_differing = true := by decide +kernel
theorem pf_X3_init : plainFor yX3_init = true := by decide +kernel
theorem pf_X3_wipe : plainFor yX3_wipe = true := by decide +kernel
theorem pf_X3_copy : plainFor yX3_copy = true := by decide +kernel
theorem pf_X3_wasRead : plainFor yX3_wasRead = true := by decide +kernel
theorem pf_X3_readAll : plainFor yX3_readAll = true := by decide +kernel
theorem pf_X3_take : plainFor yX3_take = true := by decide +kernel
theorem pf_X4_init : plainFor yX4_init = true := by decide +kernel
theorem pf_X4_sort : plainFor yX4_sort = true := by decide +kernel
theorem pf_X4_insert : plainFor yX4_insert = true := by decide +kernel
theorem pf_X4_part : plainFor yX4_part = true := by decide +kernel
theorem pf_X4_lastEnd : plainFor yX4_lastEnd = true := by decide +kernel
theorem pf_X4_spread : plainFor yX4_spread = true := by decide +kernel
theorem pf_X4_groupOf : plainFor yX4_groupOf = true := by decide +kernel
theorem pf_X5_init : plainFor yX5_init = true := by decide +kernel
theorem pf_X5_write : plainFor yX5_write = true := by decide +kernel
theorem pf_X5_writeLine : plainFor yX5_writeLine = true := by decide +kernel
theorem pf_X5_once : plainFor yX5_once = true := by decide +kernel
theorem pf_X5_through : plainFor yX5_through = true := by decide +kernel
theorem pf_X6_init : plainFor yX6_init = true := by decide +kernel
theorem pf_X6_fill : plainFor yX6_fill = true := by decide +kernel
theorem pf_X6_want : plainFor yX6_want = true := by decide +kernel
theorem pf_X6_findMove : plainFor yX6_findMove = true := by decide +kernel
theorem pf_X6_putAt : plainFor yX6_putAt = true := by decide +kernel
theorem pf_X6_otherAt : plainFor yX6_otherAt = true := by decide +kernel
theorem pf_X6_lack : plainFor yX6_lack = true := by decide +kernel
theorem pf_X7_init : plainFor yX7_init = true := by decide +kernel
theorem pf_X7_put : plainFor yX7_put = true := by decide +kernel
theorem pf_X7_begin : plainFor yX7_begin = true := by decide +kernel
theorem pf_X7_hasMore : plainFor yX7_hasMore = true := by decide +kernel
theorem pf_X7_takes : plainFor yX7_takes = true := by decide +kernel
theorem pf_X7_number : plainFor yX7_number = true := by decide +kernel
theorem pf_X7_endLine : plainFor yX7_endLine = true := by decide +kernel
theorem pf_X7_blame : plainFor yX7_blame = true := by decide +kernel
theorem pf_X7_step : plainFor yX7_step = true := by decide +kernel
theorem pf_X7_sortOf : plainFor yX7_sortOf = true := by decide +kernel
theorem pf_X7_spells : plainFor yX7_spells = true := by decide +kernel
theorem pf_X7_digits : plainFor yX7_digits = true := by decide +kernel
theorem pf_X8_init : plainFor yX8_init = true := by decide +kernel
theorem pf_X8_add : plainFor yX8_add = true := by decide +kernel
theorem pf_X8_agree : plainFor yX8_agree = true := by decide +kernel
theorem pf_X8_least : plainFor yX8_least = true := by decide +kernel
theorem pf_X8_greatest : plainFor yX8_greatest = true := by decide +kernel
theorem pf_X9_init : plainFor yX9_init = true := by decide +kernel
theorem pf_X9_fill : plainFor yX9_fill = true := by decide +kernel
theorem pf_X9_fillLeaf : plainFor yX9_fillLeaf = true := by decide +kernel
theorem pf_X9_fillLights : plainFor yX9_fillLights = true := by decide +kernel
theorem pf_X9_isStrange : plainFor yX9_isStrange = true := by decide +kernel
theorem pf_X9_pairs : plainFor yX9_pairs = true := by decide +kernel
theorem pf_X9_apartFrom : plainFor yX9_apartFrom = true := by decide +kernel
theorem pf_X9_opensAt : plainFor yX9_opensAt = true := by decide +kernel
theorem pf_X9_likeness : plainFor yX9_likeness = true := by decide +kernel
theorem pf_X9_bothHave : plainFor yX9_bothHave = true := by decide +kernel
theorem pf_X9_surely : plainFor yX9_surely = true := by decide +kernel
theorem pf_X9_widest : plainFor yX9_widest = true := by decide +kernel
theorem pf_X10_init : plainFor yX10_init = true := by decide +kernel
theorem pf_X10_write : plainFor yX10_write = true := by decide +kernel
theorem pf_X10_writeLine : plainFor yX10_writeLine = true := by decide +kernel
theorem pf_X10_tellsSome : plainFor yX10_tellsSome = true := by decide +kernel
theorem pf_X10_yearly : plainFor yX10_yearly = true := by decide +kernel
theorem pf_J9_abs_0f7a4 : plainFor yJ9_abs_0f7a4 = true := by decide +kernel
theorem pf_J9_abs_067f4 : plainFor yJ9_abs_067f4 = true := by decide +kernel
theorem pf_J9_floorDiv_7cf53 : plainFor yJ9_floorDiv_7cf53 = true := by decide +kernel
theorem pf_J9_floorDiv_f86c9 : plainFor yJ9_floorDiv_f86c9 = true := by decide +kernel
theorem pf_J9_floorMod_7cf53 : plainFor yJ9_floorMod_7cf53 = true := by decide +kernel
theorem pf_J9_max_7cf53 : plainFor yJ9_max_7cf53 = true := by decide +kernel
theorem pf_J9_min_7cf53 : plainFor yJ9_min_7cf53 = true := by decide +kernel
theorem pf_J0_checkIndex_df160 : plainFor yJ0_checkIndex_df160 = true := by decide +kernel
theorem pf_J0_isLatin1_aae02 : plainFor yJ0_isLatin1_aae02 = true := by decide +kernel
theorem pf_J0_length_8abf5 : plainFor yJ0_length_8abf5 = true := by decide +kernel
theorem pf_J7_fill_53178 : plainFor yJ7_fill_53178 = true := by decide +kernel
theorem pf_J0_charAt_5068e : plainFor yJ0_charAt_5068e = true := by decide +kernel
theorem pf_J0_coder_7d493 : plainFor yJ0_coder_7d493 = true := by decide +kernel
theorem pf_J1_charAt_3b067 : plainFor yJ1_charAt_3b067 = true := by decide +kernel
theorem pf_J2_getChar_3b067 : plainFor yJ2_getChar_3b067 = true := by decide +kernel
theorem pf_J2_length_9d52b : plainFor yJ2_length_9d52b = true := by decide +kernel
theorem pf_J2_charAt_3b067 : plainFor yJ2_charAt_3b067 = true := by decide +kernel
theorem pf_J2_checkIndex_2214a : plainFor yJ2_checkIndex_2214a = true := by decide +kernel
theorem pf_J3_checkIndex_8e157 : plainFor yJ3_checkIndex_8e157 = true := by decide +kernel
theorem shf_0_6 {a n : Nat} (h : SH a = (0, n)) : SH (a + 1) = (20, 40) := by
  have hb : ∀ a : Fin 237, (SH a.val).1 = 0 → SH (a.val + 1) = (20, 40) := by decide +kernel
  exact hb ⟨a, sh_lt h (by decide)⟩ (by show (SH a).1 = 0; rw [h])
theorem shf_0_7 {a n : Nat} (h : SH a = (0, n)) : SH (a + 2) = (20, 40) := by
  have hb : ∀ a : Fin 237, (SH a.val).1 = 0 → SH (a.val + 2) = (20, 40) := by decide +kernel
  exact hb ⟨a, sh_lt h (by decide)⟩ (by show (SH a).1 = 0; rw [h])
theorem shf_0_8 {a n : Nat} (h : SH a = (0, n)) : SH (a + 3) = (20, 40) := by
  have hb : ∀ a : Fin 237, (SH a.val).1 = 0 → SH (a.val + 3) = (20, 40) := by decide +kernel
  exact hb ⟨a, sh_lt h (by decide)⟩ (by show (SH a).1 = 0; rw [h])
theorem shf_0_9 {a n : Nat} (h : SH a = (0, n)) : SH (a + 4) = (20, 40) := by
  have hb : ∀ a : Fin 237, (SH a.val).1 = 0 → SH (a.val + 4) = (20, 40) := by decide +kernel
  exact hb ⟨a, sh_lt h (by decide)⟩ (by show (SH a).1 = 0; rw [h])
theorem shf_0_10 {a n : Nat} (h : SH a = (0, n)) : SH (a + 5) = (20, 40) := by
  have hb : ∀ a : Fin 237, (SH a.val).1 = 0 → SH (a.val + 5) = (20, 40) := by decide +kernel
  exact hb ⟨a, sh_lt h (by decide)⟩ (by show (SH a).1 = 0; rw [h])
theorem shf_0_11 {a n : Nat} (h : SH a = (0, n)) : SH (a + 6) = (20, 40) := by
  have hb : ∀ a : Fin 237, (SH a.val).1 = 0 → SH (a.val + 6) = (20, 40) := by decide +kernel
  exact hb ⟨a, sh_lt h (by decide)⟩ (by show (SH a).1 = 0; rw [h])
theorem shf_0_12 {a n : Nat} (h : SH a = (0, n)) : SH (a + 7) = (3, 0) := by
  have hb : ∀ a : Fin 237, (SH a.val).1 = 0 → SH (a.val + 7) = (3, 0) := by decide +kernel
  exact hb ⟨a, sh_lt h (by decide)⟩ (by show (SH a).1 = 0; rw [h])
theorem shf_0_13 {a n : Nat} (h : SH a = (0, n)) : SH (a + 10) = (3, 0) := by
  have hb : ∀ a : Fin 237, (SH a.val).1 = 0 → SH (a.val + 10) = (3, 0) := by decide +kernel
  exact hb ⟨a, sh_lt h (by decide)⟩ (by show (SH a).1 = 0; rw [h])
theorem shf_0_14 {a n : Nat} (h : SH a = (0, n)) : SH (a + 13) = (20, 4) := by
  have hb : ∀ a : Fin 237, (SH a.val).1 = 0 → SH (a.val + 13) = (20, 4) := by decide +kernel
  exact hb ⟨a, sh_lt h (by decide)⟩ (by show (SH a).1 = 0; rw [h])
theorem shf_0_15 {a n : Nat} (h : SH a = (0, n)) : SH (a + 14) = (20, 4) := by
  have hb : ∀ a : Fin 237, (SH a.val).1 = 0 → SH (a.val + 14) = (20, 4) := by decide +kernel
  exact hb ⟨a, sh_lt h (by decide)⟩ (by show (SH a).1 = 0; rw [h])
theorem shf_0_16 {a n : Nat} (h : SH a = (0, n)) : SH (a + 15) = (20, 8) := by
  have hb : ∀ a : Fin 237, (SH a.val).1 = 0 → SH (a.val + 15) = (20, 8) := by decide +kernel
  exact hb ⟨a, sh_lt h (by decide)⟩ (by show (SH a).1 = 0; rw [h])
theorem shf_0_17 {a n : Nat} (h : SH a = (0, n)) : SH (a + 16) = (20, 8) := by
  have hb : ∀ a : Fin 237, (SH a.val).1 = 0 → SH (a.val + 16) = (20, 8) := by decide +kernel
  exact hb ⟨a, sh_lt h (by decide)⟩ (by show (SH a).1 = 0; rw [h])
theorem shf_0_18 {a n : Nat} (h : SH a = (0, n)) : SH (a + 17) = (20, 8) := by
  have hb : ∀ a : Fin 237, (SH a.val).1 = 0 → SH (a.val + 17) = (20, 8) := by decide +kernel
  exact hb ⟨a, sh_lt h (by decide)⟩ (by show (SH a).1 = 0; rw [h])
theorem shf_1_0 {a n : Nat} (h : SH a = (1, n)) : SH (a + 1) = (20, 381) := by
  have hb : ∀ a : Fin 237, (SH a.val).1 = 1 → SH (a.val + 1) = (20, 381) := by decide +kernel
  exact hb ⟨a, sh_lt h (by decide)⟩ (by show (SH a).1 = 1; rw [h])
theorem shf_1_1 {a n : Nat} (h : SH a = (1, n)) : SH (a + 2) = (20, 381) := by
  have hb : ∀ a : Fin 237, (SH a.val).1 = 1 → SH (a.val + 2) = (20, 381) := by decide +kernel
  exact hb ⟨a, sh_lt h (by decide)⟩ (by show (SH a).1 = 1; rw [h])
theorem shf_2_3 {a n : Nat} (h : SH a = (2, n)) : SH (a + 1) = (20, 40) := by
  have hb : ∀ a : Fin 237, (SH a.val).1 = 2 → SH (a.val + 1) = (20, 40) := by decide +kernel
  exact hb ⟨a, sh_lt h (by decide)⟩ (by show (SH a).1 = 2; rw [h])
theorem shf_2_4 {a n : Nat} (h : SH a = (2, n)) : SH (a + 2) = (20, 40) := by
  have hb : ∀ a : Fin 237, (SH a.val).1 = 2 → SH (a.val + 2) = (20, 40) := by decide +kernel
  exact hb ⟨a, sh_lt h (by decide)⟩ (by show (SH a).1 = 2; rw [h])
theorem shf_3_0 {a n : Nat} (h : SH a = (3, n)) : SH (a + 1) = (20, 40) := by
  have hb : ∀ a : Fin 237, (SH a.val).1 = 3 → SH (a.val + 1) = (20, 40) := by decide +kernel
  exact hb ⟨a, sh_lt h (by decide)⟩ (by show (SH a).1 = 3; rw [h])
theorem shf_3_1 {a n : Nat} (h : SH a = (3, n)) : SH (a + 2) = (20, 40) := by
  have hb : ∀ a : Fin 237, (SH a.val).1 = 3 → SH (a.val + 2) = (20, 40) := by decide +kernel
  exact hb ⟨a, sh_lt h (by decide)⟩ (by show (SH a).1 = 3; rw [h])
theorem shf_4_1 {a n : Nat} (h : SH a = (4, n)) : SH (a + 1) = (20, 12) := by
  have hb : ∀ a : Fin 237, (SH a.val).1 = 4 → SH (a.val + 1) = (20, 12) := by decide +kernel
  exact hb ⟨a, sh_lt h (by decide)⟩ (by show (SH a).1 = 4; rw [h])
theorem shf_4_2 {a n : Nat} (h : SH a = (4, n)) : SH (a + 2) = (20, 12) := by
  have hb : ∀ a : Fin 237, (SH a.val).1 = 4 → SH (a.val + 2) = (20, 12) := by decide +kernel
  exact hb ⟨a, sh_lt h (by decide)⟩ (by show (SH a).1 = 4; rw [h])
theorem shf_6_4 {a n : Nat} (h : SH a = (6, n)) : SH (a + 1) = (20, 40) := by
  have hb : ∀ a : Fin 237, (SH a.val).1 = 6 → SH (a.val + 1) = (20, 40) := by decide +kernel
  exact hb ⟨a, sh_lt h (by decide)⟩ (by show (SH a).1 = 6; rw [h])
theorem shf_6_5 {a n : Nat} (h : SH a = (6, n)) : SH (a + 2) = (20, 40) := by
  have hb : ∀ a : Fin 237, (SH a.val).1 = 6 → SH (a.val + 2) = (20, 40) := by decide +kernel
  exact hb ⟨a, sh_lt h (by decide)⟩ (by show (SH a).1 = 6; rw [h])
theorem shf_7_5 {a n : Nat} (h : SH a = (7, n)) : SH (a + 1) = (20, 500) := by
  have hb : ∀ a : Fin 237, (SH a.val).1 = 7 → SH (a.val + 1) = (20, 500) := by decide +kernel
  exact hb ⟨a, sh_lt h (by decide)⟩ (by show (SH a).1 = 7; rw [h])
theorem shf_8_1 {a n : Nat} (h : SH a = (8, n)) : SH (a + 1) = (20, 20) := by
  have hb : ∀ a : Fin 237, (SH a.val).1 = 8 → SH (a.val + 1) = (20, 20) := by decide +kernel
  exact hb ⟨a, sh_lt h (by decide)⟩ (by show (SH a).1 = 8; rw [h])
theorem shf_8_2 {a n : Nat} (h : SH a = (8, n)) : SH (a + 2) = (20, 20) := by
  have hb : ∀ a : Fin 237, (SH a.val).1 = 8 → SH (a.val + 2) = (20, 20) := by decide +kernel
  exact hb ⟨a, sh_lt h (by decide)⟩ (by show (SH a).1 = 8; rw [h])
theorem shf_9_0 {a n : Nat} (h : SH a = (9, n)) : SH (a + 1) = (20, 40) := by
  have hb : ∀ a : Fin 237, (SH a.val).1 = 9 → SH (a.val + 1) = (20, 40) := by decide +kernel
  exact hb ⟨a, sh_lt h (by decide)⟩ (by show (SH a).1 = 9; rw [h])
theorem shf_9_1 {a n : Nat} (h : SH a = (9, n)) : SH (a + 2) = (20, 40) := by
  have hb : ∀ a : Fin 237, (SH a.val).1 = 9 → SH (a.val + 2) = (20, 40) := by decide +kernel
  exact hb ⟨a, sh_lt h (by decide)⟩ (by show (SH a).1 = 9; rw [h])
theorem shf_9_2 {a n : Nat} (h : SH a = (9, n)) : SH (a + 3) = (20, 40) := by
  have hb : ∀ a : Fin 237, (SH a.val).1 = 9 → SH (a.val + 3) = (20, 40) := by decide +kernel
  exact hb ⟨a, sh_lt h (by decide)⟩ (by show (SH a).1 = 9; rw [h])
theorem shf_9_3 {a n : Nat} (h : SH a = (9, n)) : SH (a + 4) = (20, 40) := by
  have hb : ∀ a : Fin 237, (SH a.val).1 = 9 → SH (a.val + 4) = (20, 40) := by decide +kernel
  exact hb ⟨a, sh_lt h (by decide)⟩ (by show (SH a).1 = 9; rw [h])
theorem shf_9_4 {a n : Nat} (h : SH a = (9, n)) : SH (a + 5) = (20, 40) := by
  have hb : ∀ a : Fin 237, (SH a.val).1 = 9 → SH (a.val + 5) = (20, 40) := by decide +kernel
  exact hb ⟨a, sh_lt h (by decide)⟩ (by show (SH a).1 = 9; rw [h])
theorem shf_9_5 {a n : Nat} (h : SH a = (9, n)) : SH (a + 6) = (20, 12) := by
  have hb : ∀ a : Fin 237, (SH a.val).1 = 9 → SH (a.val + 6) = (20, 12) := by decide +kernel
  exact hb ⟨a, sh_lt h (by decide)⟩ (by show (SH a).1 = 9; rw [h])
theorem shf_9_6 {a n : Nat} (h : SH a = (9, n)) : SH (a + 7) = (20, 12) := by
  have hb : ∀ a : Fin 237, (SH a.val).1 = 9 → SH (a.val + 7) = (20, 12) := by decide +kernel
  exact hb ⟨a, sh_lt h (by decide)⟩ (by show (SH a).1 = 9; rw [h])
theorem shf_9_7 {a n : Nat} (h : SH a = (9, n)) : SH (a + 8) = (20, 12) := by
  have hb : ∀ a : Fin 237, (SH a.val).1 = 9 → SH (a.val + 8) = (20, 12) := by decide +kernel
  exact hb ⟨a, sh_lt h (by decide)⟩ (by show (SH a).1 = 9; rw [h])
theorem shf_10_0 {a n : Nat} (h : SH a = (10, n)) : SH (a + 1) = (20, 12) := by
  have hb : ∀ a : Fin 237, (SH a.val).1 = 10 → SH (a.val + 1) = (20, 12) := by decide +kernel
  exact hb ⟨a, sh_lt h (by decide)⟩ (by show (SH a).1 = 10; rw [h])
theorem shf_10_1 {a n : Nat} (h : SH a = (10, n)) : SH (a + 2) = (20, 12) := by
  have hb : ∀ a : Fin 237, (SH a.val).1 = 10 → SH (a.val + 2) = (20, 12) := by decide +kernel
  exact hb ⟨a, sh_lt h (by decide)⟩ (by show (SH a).1 = 10; rw [h])
theorem shf_11_0 {a n : Nat} (h : SH a = (11, n)) : SH (a + 1) = (7, 0) := by
  have hb : ∀ a : Fin 237, (SH a.val).1 = 11 → SH (a.val + 1) = (7, 0) := by decide +kernel
  exact hb ⟨a, sh_lt h (by decide)⟩ (by show (SH a).1 = 11; rw [h])
theorem shf_11_1 {a n : Nat} (h : SH a = (11, n)) : SH (a + 3) = (22, 6) := by
  have hb : ∀ a : Fin 237, (SH a.val).1 = 11 → SH (a.val + 3) = (22, 6) := by decide +kernel
  exact hb ⟨a, sh_lt h (by decide)⟩ (by show (SH a).1 = 11; rw [h])
theorem shf_11_2 {a n : Nat} (h : SH a = (11, n)) : SH (a + 4) = (23, 6) := by
  have hb : ∀ a : Fin 237, (SH a.val).1 = 11 → SH (a.val + 4) = (23, 6) := by decide +kernel
  exact hb ⟨a, sh_lt h (by decide)⟩ (by show (SH a).1 = 11; rw [h])
theorem shf_11_7 {a n : Nat} (h : SH a = (11, n)) : SH (a + 28) = (8, 0) := by
  have hb : ∀ a : Fin 237, (SH a.val).1 = 11 → SH (a.val + 28) = (8, 0) := by decide +kernel
  exact hb ⟨a, sh_lt h (by decide)⟩ (by show (SH a).1 = 11; rw [h])
theorem shf_11_8 {a n : Nat} (h : SH a = (11, n)) : SH (a + 31) = (20, 4) := by
  have hb : ∀ a : Fin 237, (SH a.val).1 = 11 → SH (a.val + 31) = (20, 4) := by decide +kernel
  exact hb ⟨a, sh_lt h (by decide)⟩ (by show (SH a).1 = 11; rw [h])
theorem shf_11_9 {a n : Nat} (h : SH a = (11, n)) : SH (a + 32) = (20, 4) := by
  have hb : ∀ a : Fin 237, (SH a.val).1 = 11 → SH (a.val + 32) = (20, 4) := by decide +kernel
  exact hb ⟨a, sh_lt h (by decide)⟩ (by show (SH a).1 = 11; rw [h])
theorem shf_11_11 {a n : Nat} (h : SH a = (11, n)) : SH (a + 33) = (9, 0) := by
  have hb : ∀ a : Fin 237, (SH a.val).1 = 11 → SH (a.val + 33) = (9, 0) := by decide +kernel
  exact hb ⟨a, sh_lt h (by decide)⟩ (by show (SH a).1 = 11; rw [h])
theorem shf_11_12 {a n : Nat} (h : SH a = (11, n)) : SH (a + 42) = (9, 0) := by
  have hb : ∀ a : Fin 237, (SH a.val).1 = 11 → SH (a.val + 42) = (9, 0) := by decide +kernel
  exact hb ⟨a, sh_lt h (by decide)⟩ (by show (SH a).1 = 11; rw [h])
theorem shf_11_13 {a n : Nat} (h : SH a = (11, n)) : SH (a + 51) = (1, 0) := by
  have hb : ∀ a : Fin 237, (SH a.val).1 = 11 → SH (a.val + 51) = (1, 0) := by decide +kernel
  exact hb ⟨a, sh_lt h (by decide)⟩ (by show (SH a).1 = 11; rw [h])
theorem shf_11_14 {a n : Nat} (h : SH a = (11, n)) : SH (a + 54) = (4, 0) := by
  have hb : ∀ a : Fin 237, (SH a.val).1 = 11 → SH (a.val + 54) = (4, 0) := by decide +kernel
  exact hb ⟨a, sh_lt h (by decide)⟩ (by show (SH a).1 = 11; rw [h])
theorem shf_11_15 {a n : Nat} (h : SH a = (11, n)) : SH (a + 57) = (2, 0) := by
  have hb : ∀ a : Fin 237, (SH a.val).1 = 11 → SH (a.val + 57) = (2, 0) := by decide +kernel
  exact hb ⟨a, sh_lt h (by decide)⟩ (by show (SH a).1 = 11; rw [h])
theorem shf_11_16 {a n : Nat} (h : SH a = (11, n)) : SH (a + 60) = (6, 0) := by
  have hb : ∀ a : Fin 237, (SH a.val).1 = 11 → SH (a.val + 60) = (6, 0) := by decide +kernel
  exact hb ⟨a, sh_lt h (by decide)⟩ (by show (SH a).1 = 11; rw [h])
theorem shf_11_17 {a n : Nat} (h : SH a = (11, n)) : SH (a + 63) = (3, 0) := by
  have hb : ∀ a : Fin 237, (SH a.val).1 = 11 → SH (a.val + 63) = (3, 0) := by decide +kernel
  exact hb ⟨a, sh_lt h (by decide)⟩ (by show (SH a).1 = 11; rw [h])
theorem shf_11_18 {a n : Nat} (h : SH a = (11, n)) : SH (a + 66) = (20, 40) := by
  have hb : ∀ a : Fin 237, (SH a.val).1 = 11 → SH (a.val + 66) = (20, 40) := by decide +kernel
  exact hb ⟨a, sh_lt h (by decide)⟩ (by show (SH a).1 = 11; rw [h])
theorem shf_12_0 {a n : Nat} (h : SH a = (12, n)) : SH (a + 1) = (24, 4) := by
  have hb : ∀ a : Fin 237, (SH a.val).1 = 12 → SH (a.val + 1) = (24, 4) := by decide +kernel
  exact hb ⟨a, sh_lt h (by decide)⟩ (by show (SH a).1 = 12; rw [h])
theorem shf_12_1 {a n : Nat} (h : SH a = (12, n)) : SH (a + 2) = (24, 3) := by
  have hb : ∀ a : Fin 237, (SH a.val).1 = 12 → SH (a.val + 2) = (24, 3) := by decide +kernel
  exact hb ⟨a, sh_lt h (by decide)⟩ (by show (SH a).1 = 12; rw [h])
theorem shf_12_3 {a n : Nat} (h : SH a = (12, n)) : SH (a + 3) = (20, 8) := by
  have hb : ∀ a : Fin 237, (SH a.val).1 = 12 → SH (a.val + 3) = (20, 8) := by decide +kernel
  exact hb ⟨a, sh_lt h (by decide)⟩ (by show (SH a).1 = 12; rw [h])
theorem shf_12_4 {a n : Nat} (h : SH a = (12, n)) : SH (a + 4) = (20, 8) := by
  have hb : ∀ a : Fin 237, (SH a.val).1 = 12 → SH (a.val + 4) = (20, 8) := by decide +kernel
  exact hb ⟨a, sh_lt h (by decide)⟩ (by show (SH a).1 = 12; rw [h])
theorem shf_12_5 {a n : Nat} (h : SH a = (12, n)) : SH (a + 5) = (20, 8) := by
  have hb : ∀ a : Fin 237, (SH a.val).1 = 12 → SH (a.val + 5) = (20, 8) := by decide +kernel
  exact hb ⟨a, sh_lt h (by decide)⟩ (by show (SH a).1 = 12; rw [h])
theorem shf_12_6 {a n : Nat} (h : SH a = (12, n)) : SH (a + 6) = (20, 8) := by
  have hb : ∀ a : Fin 237, (SH a.val).1 = 12 → SH (a.val + 6) = (20, 8) := by decide +kernel
  exact hb ⟨a, sh_lt h (by decide)⟩ (by show (SH a).1 = 12; rw [h])
theorem shf_12_7 {a n : Nat} (h : SH a = (12, n)) : SH (a + 7) = (20, 8) := by
  have hb : ∀ a : Fin 237, (SH a.val).1 = 12 → SH (a.val + 7) = (20, 8) := by decide +kernel
  exact hb ⟨a, sh_lt h (by decide)⟩ (by show (SH a).1 = 12; rw [h])
theorem shf_12_8 {a n : Nat} (h : SH a = (12, n)) : SH (a + 8) = (20, 8) := by
  have hb : ∀ a : Fin 237, (SH a.val).1 = 12 → SH (a.val + 8) = (20, 8) := by decide +kernel
  exact hb ⟨a, sh_lt h (by decide)⟩ (by show (SH a).1 = 12; rw [h])
theorem shf_12_9 {a n : Nat} (h : SH a = (12, n)) : SH (a + 9) = (20, 320) := by
  have hb : ∀ a : Fin 237, (SH a.val).1 = 12 → SH (a.val + 9) = (20, 320) := by decide +kernel
  exact hb ⟨a, sh_lt h (by decide)⟩ (by show (SH a).1 = 12; rw [h])
theorem shf_12_10 {a n : Nat} (h : SH a = (12, n)) : SH (a + 10) = (20, 320) := by
  have hb : ∀ a : Fin 237, (SH a.val).1 = 12 → SH (a.val + 10) = (20, 320) := by decide +kernel
  exact hb ⟨a, sh_lt h (by decide)⟩ (by show (SH a).1 = 12; rw [h])
theorem shf_12_11 {a n : Nat} (h : SH a = (12, n)) : SH (a + 11) = (20, 320) := by
  have hb : ∀ a : Fin 237, (SH a.val).1 = 12 → SH (a.val + 11) = (20, 320) := by decide +kernel
  exact hb ⟨a, sh_lt h (by decide)⟩ (by show (SH a).1 = 12; rw [h])
theorem shf_12_12 {a n : Nat} (h : SH a = (12, n)) : SH (a + 12) = (20, 320) := by
  have hb : ∀ a : Fin 237, (SH a.val).1 = 12 → SH (a.val + 12) = (20, 320) := by decide +kernel
  exact hb ⟨a, sh_lt h (by decide)⟩ (by show (SH a).1 = 12; rw [h])
theorem shf_12_13 {a n : Nat} (h : SH a = (12, n)) : SH (a + 13) = (20, 320) := by
  have hb : ∀ a : Fin 237, (SH a.val).1 = 12 → SH (a.val + 13) = (20, 320) := by decide +kernel
  exact hb ⟨a, sh_lt h (by decide)⟩ (by show (SH a).1 = 12; rw [h])
theorem shf_12_14 {a n : Nat} (h : SH a = (12, n)) : SH (a + 14) = (20, 320) := by
  have hb : ∀ a : Fin 237, (SH a.val).1 = 12 → SH (a.val + 14) = (20, 320) := by decide +kernel
  exact hb ⟨a, sh_lt h (by decide)⟩ (by show (SH a).1 = 12; rw [h])
theorem shf_12_15 {a n : Nat} (h : SH a = (12, n)) : SH (a + 15) = (20, 320) := by
  have hb : ∀ a : Fin 237, (SH a.val).1 = 12 → SH (a.val + 15) = (20, 320) := by decide +kernel
  exact hb ⟨a, sh_lt h (by decide)⟩ (by show (SH a).1 = 12; rw [h])
theorem shf_12_16 {a n : Nat} (h : SH a = (12, n)) : SH (a + 16) = (20, 320) := by
  have hb : ∀ a : Fin 237, (SH a.val).1 = 12 → SH (a.val + 16) = (20, 320) := by decide +kernel
  exact hb ⟨a, sh_lt h (by decide)⟩ (by show (SH a).1 = 12; rw [h])
theorem shf_12_17 {a n : Nat} (h : SH a = (12, n)) : SH (a + 17) = (20, 32) := by
  have hb : ∀ a : Fin 237, (SH a.val).1 = 12 → SH (a.val + 17) = (20, 32) := by decide +kernel
  exact hb ⟨a, sh_lt h (by decide)⟩ (by show (SH a).1 = 12; rw [h])
theorem shf_12_18 {a n : Nat} (h : SH a = (12, n)) : SH (a + 18) = (20, 32) := by
  have hb : ∀ a : Fin 237, (SH a.val).1 = 12 → SH (a.val + 18) = (20, 32) := by decide +kernel
  exact hb ⟨a, sh_lt h (by decide)⟩ (by show (SH a).1 = 12; rw [h])
theorem shf_12_19 {a n : Nat} (h : SH a = (12, n)) : SH (a + 19) = (20, 64) := by
  have hb : ∀ a : Fin 237, (SH a.val).1 = 12 → SH (a.val + 19) = (20, 64) := by decide +kernel
  exact hb ⟨a, sh_lt h (by decide)⟩ (by show (SH a).1 = 12; rw [h])
theorem shf_12_20 {a n : Nat} (h : SH a = (12, n)) : SH (a + 20) = (20, 64) := by
  have hb : ∀ a : Fin 237, (SH a.val).1 = 12 → SH (a.val + 20) = (20, 64) := by decide +kernel
  exact hb ⟨a, sh_lt h (by decide)⟩ (by show (SH a).1 = 12; rw [h])
theorem shf_12_21 {a n : Nat} (h : SH a = (12, n)) : SH (a + 21) = (20, 64) := by
  have hb : ∀ a : Fin 237, (SH a.val).1 = 12 → SH (a.val + 21) = (20, 64) := by decide +kernel
  exact hb ⟨a, sh_lt h (by decide)⟩ (by show (SH a).1 = 12; rw [h])
theorem shf_12_22 {a n : Nat} (h : SH a = (12, n)) : SH (a + 22) = (20, 6) := by
  have hb : ∀ a : Fin 237, (SH a.val).1 = 12 → SH (a.val + 22) = (20, 6) := by decide +kernel
  exact hb ⟨a, sh_lt h (by decide)⟩ (by show (SH a).1 = 12; rw [h])
theorem shf_12_23 {a n : Nat} (h : SH a = (12, n)) : SH (a + 23) = (20, 84) := by
  have hb : ∀ a : Fin 237, (SH a.val).1 = 12 → SH (a.val + 23) = (20, 84) := by decide +kernel
  exact hb ⟨a, sh_lt h (by decide)⟩ (by show (SH a).1 = 12; rw [h])
theorem shf_12_24 {a n : Nat} (h : SH a = (12, n)) : SH (a + 24) = (20, 84) := by
  have hb : ∀ a : Fin 237, (SH a.val).1 = 12 → SH (a.val + 24) = (20, 84) := by decide +kernel
  exact hb ⟨a, sh_lt h (by decide)⟩ (by show (SH a).1 = 12; rw [h])
theorem shf_12_25 {a n : Nat} (h : SH a = (12, n)) : SH (a + 25) = (20, 4) := by
  have hb : ∀ a : Fin 237, (SH a.val).1 = 12 → SH (a.val + 25) = (20, 4) := by decide +kernel
  exact hb ⟨a, sh_lt h (by decide)⟩ (by show (SH a).1 = 12; rw [h])
theorem shf_12_26 {a n : Nat} (h : SH a = (12, n)) : SH (a + 26) = (20, 500) := by
  have hb : ∀ a : Fin 237, (SH a.val).1 = 12 → SH (a.val + 26) = (20, 500) := by decide +kernel
  exact hb ⟨a, sh_lt h (by decide)⟩ (by show (SH a).1 = 12; rw [h])
theorem shf_12_37 {a n : Nat} (h : SH a = (12, n)) : SH (a + 27) = (20, 40) := by
  have hb : ∀ a : Fin 237, (SH a.val).1 = 12 → SH (a.val + 27) = (20, 40) := by decide +kernel
  exact hb ⟨a, sh_lt h (by decide)⟩ (by show (SH a).1 = 12; rw [h])
theorem shf_12_38 {a n : Nat} (h : SH a = (12, n)) : SH (a + 28) = (20, 40) := by
  have hb : ∀ a : Fin 237, (SH a.val).1 = 12 → SH (a.val + 28) = (20, 40) := by decide +kernel
  exact hb ⟨a, sh_lt h (by decide)⟩ (by show (SH a).1 = 12; rw [h])
theorem shf_12_39 {a n : Nat} (h : SH a = (12, n)) : SH (a + 29) = (20, 40) := by
  have hb : ∀ a : Fin 237, (SH a.val).1 = 12 → SH (a.val + 29) = (20, 40) := by decide +kernel
  exact hb ⟨a, sh_lt h (by decide)⟩ (by show (SH a).1 = 12; rw [h])
theorem shf_12_41 {a n : Nat} (h : SH a = (12, n)) : SH (a + 30) = (21, 800) := by
  have hb : ∀ a : Fin 237, (SH a.val).1 = 12 → SH (a.val + 30) = (21, 800) := by decide +kernel
  exact hb ⟨a, sh_lt h (by decide)⟩ (by show (SH a).1 = 12; rw [h])
theorem shf_12_42 {a n : Nat} (h : SH a = (12, n)) : SH (a + 31) = (21, 800) := by
  have hb : ∀ a : Fin 237, (SH a.val).1 = 12 → SH (a.val + 31) = (21, 800) := by decide +kernel
  exact hb ⟨a, sh_lt h (by decide)⟩ (by show (SH a).1 = 12; rw [h])
theorem shf_12_43 {a n : Nat} (h : SH a = (12, n)) : SH (a + 32) = (20, 12) := by
  have hb : ∀ a : Fin 237, (SH a.val).1 = 12 → SH (a.val + 32) = (20, 12) := by decide +kernel
  exact hb ⟨a, sh_lt h (by decide)⟩ (by show (SH a).1 = 12; rw [h])
theorem shf_12_44 {a n : Nat} (h : SH a = (12, n)) : SH (a + 33) = (20, 12) := by
  have hb : ∀ a : Fin 237, (SH a.val).1 = 12 → SH (a.val + 33) = (20, 12) := by decide +kernel
  exact hb ⟨a, sh_lt h (by decide)⟩ (by show (SH a).1 = 12; rw [h])
theorem shf_12_45 {a n : Nat} (h : SH a = (12, n)) : SH (a + 34) = (20, 5) := by
  have hb : ∀ a : Fin 237, (SH a.val).1 = 12 → SH (a.val + 34) = (20, 5) := by decide +kernel
  exact hb ⟨a, sh_lt h (by decide)⟩ (by show (SH a).1 = 12; rw [h])
theorem shf_12_46 {a n : Nat} (h : SH a = (12, n)) : SH (a + 35) = (20, 5) := by
  have hb : ∀ a : Fin 237, (SH a.val).1 = 12 → SH (a.val + 35) = (20, 5) := by decide +kernel
  exact hb ⟨a, sh_lt h (by decide)⟩ (by show (SH a).1 = 12; rw [h])
theorem shf_12_51 {a n : Nat} (h : SH a = (12, n)) : SH (a + 36) = (20, 40) := by
  have hb : ∀ a : Fin 237, (SH a.val).1 = 12 → SH (a.val + 36) = (20, 40) := by decide +kernel
  exact hb ⟨a, sh_lt h (by decide)⟩ (by show (SH a).1 = 12; rw [h])
theorem shf_12_53 {a n : Nat} (h : SH a = (12, n)) : SH (a + 37) = (20, 20) := by
  have hb : ∀ a : Fin 237, (SH a.val).1 = 12 → SH (a.val + 37) = (20, 20) := by decide +kernel
  exact hb ⟨a, sh_lt h (by decide)⟩ (by show (SH a).1 = 12; rw [h])
theorem shf_12_54 {a n : Nat} (h : SH a = (12, n)) : SH (a + 38) = (20, 20) := by
  have hb : ∀ a : Fin 237, (SH a.val).1 = 12 → SH (a.val + 38) = (20, 20) := by decide +kernel
  exact hb ⟨a, sh_lt h (by decide)⟩ (by show (SH a).1 = 12; rw [h])
theorem shf_12_56 {a n : Nat} (h : SH a = (12, n)) : SH (a + 39) = (20, 240) := by
  have hb : ∀ a : Fin 237, (SH a.val).1 = 12 → SH (a.val + 39) = (20, 240) := by decide +kernel
  exact hb ⟨a, sh_lt h (by decide)⟩ (by show (SH a).1 = 12; rw [h])
theorem shf_12_57 {a n : Nat} (h : SH a = (12, n)) : SH (a + 40) = (20, 240) := by
  have hb : ∀ a : Fin 237, (SH a.val).1 = 12 → SH (a.val + 40) = (20, 240) := by decide +kernel
  exact hb ⟨a, sh_lt h (by decide)⟩ (by show (SH a).1 = 12; rw [h])
theorem shf_12_58 {a n : Nat} (h : SH a = (12, n)) : SH (a + 41) = (20, 6) := by
  have hb : ∀ a : Fin 237, (SH a.val).1 = 12 → SH (a.val + 41) = (20, 6) := by decide +kernel
  exact hb ⟨a, sh_lt h (by decide)⟩ (by show (SH a).1 = 12; rw [h])
theorem shf_12_59 {a n : Nat} (h : SH a = (12, n)) : SH (a + 42) = (20, 4) := by
  have hb : ∀ a : Fin 237, (SH a.val).1 = 12 → SH (a.val + 42) = (20, 4) := by decide +kernel
  exact hb ⟨a, sh_lt h (by decide)⟩ (by show (SH a).1 = 12; rw [h])
theorem jg_RX11_10 {G : GG} {Y : MI} {d C q : Nat} {K : KQ} {pc : Nat} {lv : List (Nat × Value)} {st : List Value} {h : AH} {a n : Nat} (hY : Y.1.cls = RX11) (hs : SH a = (11, n)) (hd : decode Y.2.1 pc = .ok (.getfield 10, 3)) (k : J G Y d C q K (pc + 3) lv (.ref (ad G (a + 1)) :: st) h) : J G Y d C q K pc lv (.ref (ad G a) :: st) h := j_get (k0 := 0) hY ku_11 rfl (by decide) rfl kf_RX11_10 (by decide) hs rfl hd k
theorem jg_RX11_18 {G : GG} {Y : MI} {d C q : Nat} {K : KQ} {pc : Nat} {lv : List (Nat × Value)} {st : List Value} {h : AH} {a n : Nat} (hY : Y.1.cls = RX11) (hs : SH a = (11, n)) (hd : decode Y.2.1 pc = .ok (.getfield 18, 3)) (k : J G Y d C q K (pc + 3) lv (.ref (ad G (a + 3)) :: st) h) : J G Y d C q K pc lv (.ref (ad G a) :: st) h := j_get (k0 := 1) hY ku_11 rfl (by decide) rfl kf_RX11_18 (by decide) hs rfl hd k
theorem jg_RX11_24 {G : GG} {Y : MI} {d C q : Nat} {K : KQ} {pc : Nat} {lv : List (Nat × Value)} {st : List Value} {h : AH} {a n : Nat} (hY : Y.1.cls = RX11) (hs : SH a = (11, n)) (hd : decode Y.2.1 pc = .ok (.getfield 24, 3)) (k : J G Y d C q K (pc + 3) lv (.ref (ad G (a + 4)) :: st) h) : J G Y d C q K pc lv (.ref (ad G a) :: st) h := j_get (k0 := 2) hY ku_11 rfl (by decide) rfl kf_RX11_24 (by decide) hs rfl hd k
theorem jg_RX11_31 {G : GG} {Y : MI} {d C q : Nat} {K : KQ} {pc : Nat} {lv : List (Nat × Value)} {st : List Value} {h : AH} {a n : Nat} (hY : Y.1.cls = RX11) (hs : SH a = (11, n)) (hd : decode Y.2.1 pc = .ok (.getfield 31, 3)) (k : J G Y d C q K (pc + 3) lv (.ref (ad G (hra h a 3)) :: st) h) : J G Y d C q K pc lv (.ref (ad G a) :: st) h := j_get (k0 := 3) hY ku_11 rfl (by decide) rfl kf_RX11_31 (by decide) hs rfl hd k
theorem jp_RX11_31 {G : GG} {Y : MI} {d C q : Nat} {K : KQ} {pc : Nat} {lv : List (Nat × Value)} {st : List Value} {h : AH} {a n : Nat} {v : Nat} (hY : Y.1.cls = RX11) (hs : SH a = (11, n)) (hd : decode Y.2.1 pc = .ok (.putfield 31, 3)) (k : J G Y d C q K (pc + 3) lv st (sra h a 3 v)) : J G Y d C q K pc lv (.ref (ad G v) :: .ref (ad G a) :: st) h := j_put (k0 := 3) tyX11 hY ku_11 tyX11_ok nmX11 rfl (by decide) rfl rfl kf_RX11_31 (by decide) hs rfl rfl rfl (Nat.le_of_ble_eq_true rfl) (by show fvR G a _ _ (up2 h.2.2.2.2 a 3 v a) _ = _; rw [up2_at]; rfl) (fun b hb => cel_sra hb) hd k
theorem jg_RX11_36 {G : GG} {Y : MI} {d C q : Nat} {K : KQ} {pc : Nat} {lv : List (Nat × Value)} {st : List Value} {h : AH} {a n : Nat} (hY : Y.1.cls = RX11) (hs : SH a = (11, n)) (hd : decode Y.2.1 pc = .ok (.getfield 36, 3)) (k : J G Y d C q K (pc + 3) lv (.ref (ad G (hra h a 4)) :: st) h) : J G Y d C q K pc lv (.ref (ad G a) :: st) h := j_get (k0 := 4) hY ku_11 rfl (by decide) rfl kf_RX11_36 (by decide) hs rfl hd k
theorem jp_RX11_36 {G : GG} {Y : MI} {d C q : Nat} {K : KQ} {pc : Nat} {lv : List (Nat × Value)} {st : List Value} {h : AH} {a n : Nat} {v : Nat} (hY : Y.1.cls = RX11) (hs : SH a = (11, n)) (hd : decode Y.2.1 pc = .ok (.putfield 36, 3)) (k : J G Y d C q K (pc + 3) lv st (sra h a 4 v)) : J G Y d C q K pc lv (.ref (ad G v) :: .ref (ad G a) :: st) h := j_put (k0 := 4) tyX11 hY ku_11 tyX11_ok nmX11 rfl (by decide) rfl rfl kf_RX11_36 (by decide) hs rfl rfl rfl (Nat.le_of_ble_eq_true rfl) (by show fvR G a _ _ (up2 h.2.2.2.2 a 4 v a) _ = _; rw [up2_at]; rfl) (fun b hb => cel_sra hb) hd k
theorem jg_RX11_41 {G : GG} {Y : MI} {d C q : Nat} {K : KQ} {pc : Nat} {lv : List (Nat × Value)} {st : List Value} {h : AH} {a n : Nat} (hY : Y.1.cls = RX11) (hs : SH a = (11, n)) (hd : decode Y.2.1 pc = .ok (.getfield 41, 3)) (k : J G Y d C q K (pc + 3) lv (.ref (ad G (hra h a 5)) :: st) h) : J G Y d C q K pc lv (.ref (ad G a) :: st) h := j_get (k0 := 5) hY ku_11 rfl (by decide) rfl kf_RX11_41 (by decide) hs rfl hd k
theorem jp_RX11_41 {G : GG} {Y : MI} {d C q : Nat} {K : KQ} {pc : Nat} {lv : List (Nat × Value)} {st : List Value} {h : AH} {a n : Nat} {v : Nat} (hY : Y.1.cls = RX11) (hs : SH a = (11, n)) (hd : decode Y.2.1 pc = .ok (.putfield 41, 3)) (k : J G Y d C q K (pc + 3) lv st (sra h a 5 v)) : J G Y d C q K pc lv (.ref (ad G v) :: .ref (ad G a) :: st) h := j_put (k0 := 5) tyX11 hY ku_11 tyX11_ok nmX11 rfl (by decide) rfl rfl kf_RX11_41 (by decide) hs rfl rfl rfl (Nat.le_of_ble_eq_true rfl) (by show fvR G a _ _ (up2 h.2.2.2.2 a 5 v a) _ = _; rw [up2_at]; rfl) (fun b hb => cel_sra hb) hd k
theorem jg_RX11_45 {G : GG} {Y : MI} {d C q : Nat} {K : KQ} {pc : Nat} {lv : List (Nat × Value)} {st : List Value} {h : AH} {a n : Nat} (hY : Y.1.cls = RX11) (hs : SH a = (11, n)) (hd : decode Y.2.1 pc = .ok (.getfield 45, 3)) (k : J G Y d C q K (pc + 3) lv (.ref (ad G (hra h a 6)) :: st) h) : J G Y d C q K pc lv (.ref (ad G a) :: st) h := j_get (k0 := 6) hY ku_11 rfl (by decide) rfl kf_RX11_45 (by decide) hs rfl hd k
theorem jp_RX11_45 {G : GG} {Y : MI} {d C q : Nat} {K : KQ} {pc : Nat} {lv : List (Nat × Value)} {st : List Value} {h : AH} {a n : Nat} {v : Nat} (hY : Y.1.cls = RX11) (hs : SH a = (11, n)) (hd : decode Y.2.1 pc = .ok (.putfield 45, 3)) (k : J G Y d C q K (pc + 3) lv st (sra h a 6 v)) : J G Y d C q K pc lv (.ref (ad G v) :: .ref (ad G a) :: st) h := j_put (k0 := 6) tyX11 hY ku_11 tyX11_ok nmX11 rfl (by decide) rfl rfl kf_RX11_45 (by decide) hs rfl rfl rfl (Nat.le_of_ble_eq_true rfl) (by show fvR G a _ _ (up2 h.2.2.2.2 a 6 v a) _ = _; rw [up2_at]; rfl) (fun b hb => cel_sra hb) hd k
theorem jg_RX11_51 {G : GG} {Y : MI} {d C q : Nat} {K : KQ} {pc : Nat} {lv : List (Nat × Value)} {st : List Value} {h : AH} {a n : Nat} (hY : Y.1.cls = RX11) (hs : SH a = (11, n)) (hd : decode Y.2.1 pc = .ok (.getfield 51, 3)) (k : J G Y d C q K (pc + 3) lv (.ref (ad G (a + 28)) :: st) h) : J G Y d C q K pc lv (.ref (ad G a) :: st) h := j_get (k0 := 7) hY ku_11 rfl (by decide) rfl kf_RX11_51 (by decide) hs rfl hd k
theorem jg_RX11_55 {G : GG} {Y : MI} {d C q : Nat} {K : KQ} {pc : Nat} {lv : List (Nat × Value)} {st : List Value} {h : AH} {a n : Nat} (hY : Y.1.cls = RX11) (hs : SH a = (11, n)) (hd : decode Y.2.1 pc = .ok (.getfield 55, 3)) (k : J G Y d C q K (pc + 3) lv (.ref (ad G (a + 31)) :: st) h) : J G Y d C q K pc lv (.ref (ad G a) :: st) h := j_get (k0 := 8) hY ku_11 rfl (by decide) rfl kf_RX11_55 (by decide) hs rfl hd k
theorem jg_RX11_59 {G : GG} {Y : MI} {d C q : Nat} {K : KQ} {pc : Nat} {lv : List (Nat × Value)} {st : List Value} {h : AH} {a n : Nat} (hY : Y.1.cls = RX11) (hs : SH a = (11, n)) (hd : decode Y.2.1 pc = .ok (.getfield 59, 3)) (k : J G Y d C q K (pc + 3) lv (.ref (ad G (a + 32)) :: st) h) : J G Y d C q K pc lv (.ref (ad G a) :: st) h := j_get (k0 := 9) hY ku_11 rfl (by decide) rfl kf_RX11_59 (by decide) hs rfl hd k
theorem jg_RX11_65 {G : GG} {Y : MI} {d C q : Nat} {K : KQ} {pc : Nat} {lv : List (Nat × Value)} {st : List Value} {h : AH} {a n : Nat} (hY : Y.1.cls = RX11) (hs : SH a = (11, n)) (hd : decode Y.2.1 pc = .ok (.getfield 65, 3)) (k : J G Y d C q K (pc + 3) lv (.ref (ad G (a + 33)) :: st) h) : J G Y d C q K pc lv (.ref (ad G a) :: st) h := j_get (k0 := 11) hY ku_11 rfl (by decide) rfl kf_RX11_65 (by decide) hs rfl hd k
theorem jg_RX11_69 {G : GG} {Y : MI} {d C q : Nat} {K : KQ} {pc : Nat} {lv : List (Nat × Value)} {st : List Value} {h : AH} {a n : Nat} (hY : Y.1.cls = RX11) (hs : SH a = (11, n)) (hd : decode Y.2.1 pc = .ok (.getfield 69, 3)) (k : J G Y d C q K (pc + 3) lv (.ref (ad G (a + 42)) :: st) h) : J G Y d C q K pc lv (.ref (ad G a) :: st) h := j_get (k0 := 12) hY ku_11 rfl (by decide) rfl kf_RX11_69 (by decide) hs rfl hd k
theorem jg_RX11_75 {G : GG} {Y : MI} {d C q : Nat} {K : KQ} {pc : Nat} {lv : List (Nat × Value)} {st : List Value} {h : AH} {a n : Nat} (hY : Y.1.cls = RX11) (hs : SH a = (11, n)) (hd : decode Y.2.1 pc = .ok (.getfield 75, 3)) (k : J G Y d C q K (pc + 3) lv (.ref (ad G (a + 51)) :: st) h) : J G Y d C q K pc lv (.ref (ad G a) :: st) h := j_get (k0 := 13) hY ku_11 rfl (by decide) rfl kf_RX11_75 (by decide) hs rfl hd k
theorem jg_RX11_82 {G : GG} {Y : MI} {d C q : Nat} {K : KQ} {pc : Nat} {lv : List (Nat × Value)} {st : List Value} {h : AH} {a n : Nat} (hY : Y.1.cls = RX11) (hs : SH a = (11, n)) (hd : decode Y.2.1 pc = .ok (.getfield 82, 3)) (k : J G Y d C q K (pc + 3) lv (.ref (ad G (a + 54)) :: st) h) : J G Y d C q K pc lv (.ref (ad G a) :: st) h := j_get (k0 := 14) hY ku_11 rfl (by decide) rfl kf_RX11_82 (by decide) hs rfl hd k
theorem jg_RX11_89 {G : GG} {Y : MI} {d C q : Nat} {K : KQ} {pc : Nat} {lv : List (Nat × Value)} {st : List Value} {h : AH} {a n : Nat} (hY : Y.1.cls = RX11) (hs : SH a = (11, n)) (hd : decode Y.2.1 pc = .ok (.getfield 89, 3)) (k : J G Y d C q K (pc + 3) lv (.ref (ad G (a + 57)) :: st) h) : J G Y d C q K pc lv (.ref (ad G a) :: st) h := j_get (k0 := 15) hY ku_11 rfl (by decide) rfl kf_RX11_89 (by decide) hs rfl hd k
theorem jg_RX11_96 {G : GG} {Y : MI} {d C q : Nat} {K : KQ} {pc : Nat} {lv : List (Nat × Value)} {st : List Value} {h : AH} {a n : Nat} (hY : Y.1.cls = RX11) (hs : SH a = (11, n)) (hd : decode Y.2.1 pc = .ok (.getfield 96, 3)) (k : J G Y d C q K (pc + 3) lv (.ref (ad G (a + 60)) :: st) h) : J G Y d C q K pc lv (.ref (ad G a) :: st) h := j_get (k0 := 16) hY ku_11 rfl (by decide) rfl kf_RX11_96 (by decide) hs rfl hd k
theorem jg_RX11_103 {G : GG} {Y : MI} {d C q : Nat} {K : KQ} {pc : Nat} {lv : List (Nat × Value)} {st : List Value} {h : AH} {a n : Nat} (hY : Y.1.cls = RX11) (hs : SH a = (11, n)) (hd : decode Y.2.1 pc = .ok (.getfield 103, 3)) (k : J G Y d C q K (pc + 3) lv (.ref (ad G (a + 63)) :: st) h) : J G Y d C q K pc lv (.ref (ad G a) :: st) h := j_get (k0 := 17) hY ku_11 rfl (by decide) rfl kf_RX11_103 (by decide) hs rfl hd k
theorem jg_RX11_107 {G : GG} {Y : MI} {d C q : Nat} {K : KQ} {pc : Nat} {lv : List (Nat × Value)} {st : List Value} {h : AH} {a n : Nat} (hY : Y.1.cls = RX11) (hs : SH a = (11, n)) (hd : decode Y.2.1 pc = .ok (.getfield 107, 3)) (k : J G Y d C q K (pc + 3) lv (.ref (ad G (a + 66)) :: st) h) : J G Y d C q K pc lv (.ref (ad G a) :: st) h := j_get (k0 := 18) hY ku_11 rfl (by decide) rfl kf_RX11_107 (by decide) hs rfl hd k
theorem jg_RX11_110 {G : GG} {Y : MI} {d C q : Nat} {K : KQ} {pc : Nat} {lv : List (Nat × Value)} {st : List Value} {h : AH} {a n : Nat} (hY : Y.1.cls = RX11) (hs : SH a = (7, n)) (hd : decode Y.2.1 pc = .ok (.getfield 110, 3)) (k : J G Y d C q K (pc + 3) lv (.int (hfi h a 0) :: st) h) : J G Y d C q K pc lv (.ref (ad G a) :: st) h := j_get (k0 := 0) hY ku_7 rfl (by decide) rfl kf_RX11_110 (by decide) hs rfl hd k
theorem jp_RX11_110 {G : GG} {Y : MI} {d C q : Nat} {K : KQ} {pc : Nat} {lv : List (Nat × Value)} {st : List Value} {h : AH} {a n : Nat} {v : Int32} (hY : Y.1.cls = RX11) (hs : SH a = (7, n)) (hd : decode Y.2.1 pc = .ok (.putfield 110, 3)) (k : J G Y d C q K (pc + 3) lv st (sfi h a 0 v)) : J G Y d C q K pc lv (.int v :: .ref (ad G a) :: st) h := j_put (k0 := 0) tyX7 hY ku_7 tyX7_ok nmX7 rfl (by decide) rfl rfl kf_RX11_110 (by decide) hs rfl rfl rfl (Nat.le_of_ble_eq_true rfl) (by show fvR G a (up2 h.1 a 0 v a) _ _ _ = _; rw [up2_at]; rfl) (fun b hb => cel_sfi hb) hd k
theorem jg_RX11_132 {G : GG} {Y : MI} {d C q : Nat} {K : KQ} {pc : Nat} {lv : List (Nat × Value)} {st : List Value} {h : AH} {a n : Nat} (hY : Y.1.cls = RX11) (hs : SH a = (7, n)) (hd : decode Y.2.1 pc = .ok (.getfield 132, 3)) (k : J G Y d C q K (pc + 3) lv (.int (hfi h a 1) :: st) h) : J G Y d C q K pc lv (.ref (ad G a) :: st) h := j_get (k0 := 1) hY ku_7 rfl (by decide) rfl kf_RX11_132 (by decide) hs rfl hd k
theorem jp_RX11_132 {G : GG} {Y : MI} {d C q : Nat} {K : KQ} {pc : Nat} {lv : List (Nat × Value)} {st : List Value} {h : AH} {a n : Nat} {v : Int32} (hY : Y.1.cls = RX11) (hs : SH a = (7, n)) (hd : decode Y.2.1 pc = .ok (.putfield 132, 3)) (k : J G Y d C q K (pc + 3) lv st (sfi h a 1 v)) : J G Y d C q K pc lv (.int v :: .ref (ad G a) :: st) h := j_put (k0 := 1) tyX7 hY ku_7 tyX7_ok nmX7 rfl (by decide) rfl rfl kf_RX11_132 (by decide) hs rfl rfl rfl (Nat.le_of_ble_eq_true rfl) (by show fvR G a (up2 h.1 a 1 v a) _ _ _ = _; rw [up2_at]; rfl) (fun b hb => cel_sfi hb) hd k
theorem jg_RX11_145 {G : GG} {Y : MI} {d C q : Nat} {K : KQ} {pc : Nat} {lv : List (Nat × Value)} {st : List Value} {h : AH} {a n : Nat} (hY : Y.1.cls = RX11) (hs : SH a = (7, n)) (hd : decode Y.2.1 pc = .ok (.getfield 145, 3)) (k : J G Y d C q K (pc + 3) lv (.int (hfi h a 2) :: st) h) : J G Y d C q K pc lv (.ref (ad G a) :: st) h := j_get (k0 := 2) hY ku_7 rfl (by decide) rfl kf_RX11_145 (by decide) hs rfl hd k
theorem jp_RX11_145 {G : GG} {Y : MI} {d C q : Nat} {K : KQ} {pc : Nat} {lv : List (Nat × Value)} {st : List Value} {h : AH} {a n : Nat} {v : Int32} (hY : Y.1.cls = RX11) (hs : SH a = (7, n)) (hd : decode Y.2.1 pc = .ok (.putfield 145, 3)) (k : J G Y d C q K (pc + 3) lv st (sfi h a 2 v)) : J G Y d C q K pc lv (.int v :: .ref (ad G a) :: st) h := j_put (k0 := 2) tyX7 hY ku_7 tyX7_ok nmX7 rfl (by decide) rfl rfl kf_RX11_145 (by decide) hs rfl rfl rfl (Nat.le_of_ble_eq_true rfl) (by show fvR G a (up2 h.1 a 2 v a) _ _ _ = _; rw [up2_at]; rfl) (fun b hb => cel_sfi hb) hd k
theorem jg_RX11_148 {G : GG} {Y : MI} {d C q : Nat} {K : KQ} {pc : Nat} {lv : List (Nat × Value)} {st : List Value} {h : AH} {a n : Nat} (hY : Y.1.cls = RX11) (hs : SH a = (5, n)) (hd : decode Y.2.1 pc = .ok (.getfield 148, 3)) (k : J G Y d C q K (pc + 3) lv (.int (hfi h a 0) :: st) h) : J G Y d C q K pc lv (.ref (ad G a) :: st) h := j_get (k0 := 0) hY ku_5 rfl (by decide) rfl kf_RX11_148 (by decide) hs rfl hd k
theorem jp_RX11_148 {G : GG} {Y : MI} {d C q : Nat} {K : KQ} {pc : Nat} {lv : List (Nat × Value)} {st : List Value} {h : AH} {a n : Nat} {v : Int32} (hY : Y.1.cls = RX11) (hs : SH a = (5, n)) (hd : decode Y.2.1 pc = .ok (.putfield 148, 3)) (k : J G Y d C q K (pc + 3) lv st (sfi h a 0 v)) : J G Y d C q K pc lv (.int v :: .ref (ad G a) :: st) h := j_put (k0 := 0) tyX5 hY ku_5 tyX5_ok nmX5 rfl (by decide) rfl rfl kf_RX11_148 (by decide) hs rfl rfl rfl (Nat.le_of_ble_eq_true rfl) (by show fvR G a (up2 h.1 a 0 v a) _ _ _ = _; rw [up2_at]; rfl) (fun b hb => cel_sfi hb) hd k
theorem jg_RX11_151 {G : GG} {Y : MI} {d C q : Nat} {K : KQ} {pc : Nat} {lv : List (Nat × Value)} {st : List Value} {h : AH} {a n : Nat} (hY : Y.1.cls = RX11) (hs : SH a = (5, n)) (hd : decode Y.2.1 pc = .ok (.getfield 151, 3)) (k : J G Y d C q K (pc + 3) lv (.int (hfi h a 1) :: st) h) : J G Y d C q K pc lv (.ref (ad G a) :: st) h := j_get (k0 := 1) hY ku_5 rfl (by decide) rfl kf_RX11_151 (by decide) hs rfl hd k
theorem jp_RX11_151 {G : GG} {Y : MI} {d C q : Nat} {K : KQ} {pc : Nat} {lv : List (Nat × Value)} {st : List Value} {h : AH} {a n : Nat} {v : Int32} (hY : Y.1.cls = RX11) (hs : SH a = (5, n)) (hd : decode Y.2.1 pc = .ok (.putfield 151, 3)) (k : J G Y d C q K (pc + 3) lv st (sfi h a 1 v)) : J G Y d C q K pc lv (.int v :: .ref (ad G a) :: st) h := j_put (k0 := 1) tyX5 hY ku_5 tyX5_ok nmX5 rfl (by decide) rfl rfl kf_RX11_151 (by decide) hs rfl rfl rfl (Nat.le_of_ble_eq_true rfl) (by show fvR G a (up2 h.1 a 1 v a) _ _ _ = _; rw [up2_at]; rfl) (fun b hb => cel_sfi hb) hd k
theorem jg_RX11_154 {G : GG} {Y : MI} {d C q : Nat} {K : KQ} {pc : Nat} {lv : List (Nat × Value)} {st : List Value} {h : AH} {a n : Nat} (hY : Y.1.cls = RX11) (hs : SH a = (5, n)) (hd : decode Y.2.1 pc = .ok (.getfield 154, 3)) (k : J G Y d C q K (pc + 3) lv (.int (hfi h a 2) :: st) h) : J G Y d C q K pc lv (.ref (ad G a) :: st) h := j_get (k0 := 2) hY ku_5 rfl (by decide) rfl kf_RX11_154 (by decide) hs rfl hd k
theorem jp_RX11_154 {G : GG} {Y : MI} {d C q : Nat} {K : KQ} {pc : Nat} {lv : List (Nat × Value)} {st : List Value} {h : AH} {a n : Nat} {v : Int32} (hY : Y.1.cls = RX11) (hs : SH a = (5, n)) (hd : decode Y.2.1 pc = .ok (.putfield 154, 3)) (k : J G Y d C q K (pc + 3) lv st (sfi h a 2 v)) : J G Y d C q K pc lv (.int v :: .ref (ad G a) :: st) h := j_put (k0 := 2) tyX5 hY ku_5 tyX5_ok nmX5 rfl (by decide) rfl rfl kf_RX11_154 (by decide) hs rfl rfl rfl (Nat.le_of_ble_eq_true rfl) (by show fvR G a (up2 h.1 a 2 v a) _ _ _ = _; rw [up2_at]; rfl) (fun b hb => cel_sfi hb) hd k
theorem jg_RX11_157 {G : GG} {Y : MI} {d C q : Nat} {K : KQ} {pc : Nat} {lv : List (Nat × Value)} {st : List Value} {h : AH} {a n : Nat} (hY : Y.1.cls = RX11) (hs : SH a = (8, n)) (hd : decode Y.2.1 pc = .ok (.getfield 157, 3)) (k : J G Y d C q K (pc + 3) lv (.int (hfi h a 0) :: st) h) : J G Y d C q K pc lv (.ref (ad G a) :: st) h := j_get (k0 := 0) hY ku_8 rfl (by decide) rfl kf_RX11_157 (by decide) hs rfl hd k
theorem jp_RX11_157 {G : GG} {Y : MI} {d C q : Nat} {K : KQ} {pc : Nat} {lv : List (Nat × Value)} {st : List Value} {h : AH} {a n : Nat} {v : Int32} (hY : Y.1.cls = RX11) (hs : SH a = (8, n)) (hd : decode Y.2.1 pc = .ok (.putfield 157, 3)) (k : J G Y d C q K (pc + 3) lv st (sfi h a 0 v)) : J G Y d C q K pc lv (.int v :: .ref (ad G a) :: st) h := j_put (k0 := 0) tyX8 hY ku_8 tyX8_ok nmX8 rfl (by decide) rfl rfl kf_RX11_157 (by decide) hs rfl rfl rfl (Nat.le_of_ble_eq_true rfl) (by show fvR G a (up2 h.1 a 0 v a) _ _ _ = _; rw [up2_at]; rfl) (fun b hb => cel_sfi hb) hd k
theorem jg_RX11_164 {G : GG} {Y : MI} {d C q : Nat} {K : KQ} {pc : Nat} {lv : List (Nat × Value)} {st : List Value} {h : AH} {a n : Nat} (hY : Y.1.cls = RX11) (hs : SH a = (0, n)) (hd : decode Y.2.1 pc = .ok (.getfield 164, 3)) (k : J G Y d C q K (pc + 3) lv (.int (hfi h a 0) :: st) h) : J G Y d C q K pc lv (.ref (ad G a) :: st) h := j_get (k0 := 0) hY ku_0 rfl (by decide) rfl kf_RX11_164 (by decide) hs rfl hd k
theorem jp_RX11_164 {G : GG} {Y : MI} {d C q : Nat} {K : KQ} {pc : Nat} {lv : List (Nat × Value)} {st : List Value} {h : AH} {a n : Nat} {v : Int32} (hY : Y.1.cls = RX11) (hs : SH a = (0, n)) (hd : decode Y.2.1 pc = .ok (.putfield 164, 3)) (k : J G Y d C q K (pc + 3) lv st (sfi h a 0 v)) : J G Y d C q K pc lv (.int v :: .ref (ad G a) :: st) h := j_put (k0 := 0) tyX0 hY ku_0 tyX0_ok nmX0 rfl (by decide) rfl rfl kf_RX11_164 (by decide) hs rfl rfl rfl (Nat.le_of_ble_eq_true rfl) (by show fvR G a (up2 h.1 a 0 v a) _ _ _ = _; rw [up2_at]; rfl) (fun b hb => cel_sfi hb) hd k
theorem jg_RX11_167 {G : GG} {Y : MI} {d C q : Nat} {K : KQ} {pc : Nat} {lv : List (Nat × Value)} {st : List Value} {h : AH} {a n : Nat} (hY : Y.1.cls = RX11) (hs : SH a = (0, n)) (hd : decode Y.2.1 pc = .ok (.getfield 167, 3)) (k : J G Y d C q K (pc + 3) lv (.int (hfi h a 1) :: st) h) : J G Y d C q K pc lv (.ref (ad G a) :: st) h := j_get (k0 := 1) hY ku_0 rfl (by decide) rfl kf_RX11_167 (by decide) hs rfl hd k
theorem jp_RX11_167 {G : GG} {Y : MI} {d C q : Nat} {K : KQ} {pc : Nat} {lv : List (Nat × Value)} {st : List Value} {h : AH} {a n : Nat} {v : Int32} (hY : Y.1.cls = RX11) (hs : SH a = (0, n)) (hd : decode Y.2.1 pc = .ok (.putfield 167, 3)) (k : J G Y d C q K (pc + 3) lv st (sfi h a 1 v)) : J G Y d C q K pc lv (.int v :: .ref (ad G a) :: st) h := j_put (k0 := 1) tyX0 hY ku_0 tyX0_ok nmX0 rfl (by decide) rfl rfl kf_RX11_167 (by decide) hs rfl rfl rfl (Nat.le_of_ble_eq_true rfl) (by show fvR G a (up2 h.1 a 1 v a) _ _ _ = _; rw [up2_at]; rfl) (fun b hb => cel_sfi hb) hd k
theorem jg_RX11_170 {G : GG} {Y : MI} {d C q : Nat} {K : KQ} {pc : Nat} {lv : List (Nat × Value)} {st : List Value} {h : AH} {a n : Nat} (hY : Y.1.cls = RX11) (hs : SH a = (0, n)) (hd : decode Y.2.1 pc = .ok (.getfield 170, 3)) (k : J G Y d C q K (pc + 3) lv (.int (hfi h a 5) :: st) h) : J G Y d C q K pc lv (.ref (ad G a) :: st) h := j_get (k0 := 5) hY ku_0 rfl (by decide) rfl kf_RX11_170 (by decide) hs rfl hd k
theorem jp_RX11_170 {G : GG} {Y : MI} {d C q : Nat} {K : KQ} {pc : Nat} {lv : List (Nat × Value)} {st : List Value} {h : AH} {a n : Nat} {v : Int32} (hY : Y.1.cls = RX11) (hs : SH a = (0, n)) (hd : decode Y.2.1 pc = .ok (.putfield 170, 3)) (k : J G Y d C q K (pc + 3) lv st (sfi h a 5 v)) : J G Y d C q K pc lv (.int v :: .ref (ad G a) :: st) h := j_put (k0 := 5) tyX0 hY ku_0 tyX0_ok nmX0 rfl (by decide) rfl rfl kf_RX11_170 (by decide) hs rfl rfl rfl (Nat.le_of_ble_eq_true rfl) (by show fvR G a (up2 h.1 a 5 v a) _ _ _ = _; rw [up2_at]; rfl) (fun b hb => cel_sfi hb) hd k
theorem jg_RX11_173 {G : GG} {Y : MI} {d C q : Nat} {K : KQ} {pc : Nat} {lv : List (Nat × Value)} {st : List Value} {h : AH} {a n : Nat} (hY : Y.1.cls = RX11) (hs : SH a = (0, n)) (hd : decode Y.2.1 pc = .ok (.getfield 173, 3)) (k : J G Y d C q K (pc + 3) lv (.int (hfi h a 3) :: st) h) : J G Y d C q K pc lv (.ref (ad G a) :: st) h := j_get (k0 := 3) hY ku_0 rfl (by decide) rfl kf_RX11_173 (by decide) hs rfl hd k
theorem jp_RX11_173 {G : GG} {Y : MI} {d C q : Nat} {K : KQ} {pc : Nat} {lv : List (Nat × Value)} {st : List Value} {h : AH} {a n : Nat} {v : Int32} (hY : Y.1.cls = RX11) (hs : SH a = (0, n)) (hd : decode Y.2.1 pc = .ok (.putfield 173, 3)) (k : J G Y d C q K (pc + 3) lv st (sfi h a 3 v)) : J G Y d C q K pc lv (.int v :: .ref (ad G a) :: st) h := j_put (k0 := 3) tyX0 hY ku_0 tyX0_ok nmX0 rfl (by decide) rfl rfl kf_RX11_173 (by decide) hs rfl rfl rfl (Nat.le_of_ble_eq_true rfl) (by show fvR G a (up2 h.1 a 3 v a) _ _ _ = _; rw [up2_at]; rfl) (fun b hb => cel_sfi hb) hd k
theorem jg_RX11_180 {G : GG} {Y : MI} {d C q : Nat} {K : KQ} {pc : Nat} {lv : List (Nat × Value)} {st : List Value} {h : AH} {a n : Nat} (hY : Y.1.cls = RX11) (hs : SH a = (0, n)) (hd : decode Y.2.1 pc = .ok (.getfield 180, 3)) (k : J G Y d C q K (pc + 3) lv (.int (hfi h a 4) :: st) h) : J G Y d C q K pc lv (.ref (ad G a) :: st) h := j_get (k0 := 4) hY ku_0 rfl (by decide) rfl kf_RX11_180 (by decide) hs rfl hd k
theorem jp_RX11_180 {G : GG} {Y : MI} {d C q : Nat} {K : KQ} {pc : Nat} {lv : List (Nat × Value)} {st : List Value} {h : AH} {a n : Nat} {v : Int32} (hY : Y.1.cls = RX11) (hs : SH a = (0, n)) (hd : decode Y.2.1 pc = .ok (.putfield 180, 3)) (k : J G Y d C q K (pc + 3) lv st (sfi h a 4 v)) : J G Y d C q K pc lv (.int v :: .ref (ad G a) :: st) h := j_put (k0 := 4) tyX0 hY ku_0 tyX0_ok nmX0 rfl (by decide) rfl rfl kf_RX11_180 (by decide) hs rfl rfl rfl (Nat.le_of_ble_eq_true rfl) (by show fvR G a (up2 h.1 a 4 v a) _ _ _ = _; rw [up2_at]; rfl) (fun b hb => cel_sfi hb) hd k
theorem jg_RX11_183 {G : GG} {Y : MI} {d C q : Nat} {K : KQ} {pc : Nat} {lv : List (Nat × Value)} {st : List Value} {h : AH} {a n : Nat} (hY : Y.1.cls = RX11) (hs : SH a = (0, n)) (hd : decode Y.2.1 pc = .ok (.getfield 183, 3)) (k : J G Y d C q K (pc + 3) lv (.int (hfi h a 2) :: st) h) : J G Y d C q K pc lv (.ref (ad G a) :: st) h := j_get (k0 := 2) hY ku_0 rfl (by decide) rfl kf_RX11_183 (by decide) hs rfl hd k
theorem jp_RX11_183 {G : GG} {Y : MI} {d C q : Nat} {K : KQ} {pc : Nat} {lv : List (Nat × Value)} {st : List Value} {h : AH} {a n : Nat} {v : Int32} (hY : Y.1.cls = RX11) (hs : SH a = (0, n)) (hd : decode Y.2.1 pc = .ok (.putfield 183, 3)) (k : J G Y d C q K (pc + 3) lv st (sfi h a 2 v)) : J G Y d C q K pc lv (.int v :: .ref (ad G a) :: st) h := j_put (k0 := 2) tyX0 hY ku_0 tyX0_ok nmX0 rfl (by decide) rfl rfl kf_RX11_183 (by decide) hs rfl rfl rfl (Nat.le_of_ble_eq_true rfl) (by show fvR G a (up2 h.1 a 2 v a) _ _ _ = _; rw [up2_at]; rfl) (fun b hb => cel_sfi hb) hd k
theorem jg_RX11_197 {G : GG} {Y : MI} {d C q : Nat} {K : KQ} {pc : Nat} {lv : List (Nat × Value)} {st : List Value} {h : AH} {a n : Nat} (hY : Y.1.cls = RX11) (hs : SH a = (0, n)) (hd : decode Y.2.1 pc = .ok (.getfield 197, 3)) (k : J G Y d C q K (pc + 3) lv (.ref (ad G (a + 1)) :: st) h) : J G Y d C q K pc lv (.ref (ad G a) :: st) h := j_get (k0 := 6) hY ku_0 rfl (by decide) rfl kf_RX11_197 (by decide) hs rfl hd k
theorem jg_RX11_200 {G : GG} {Y : MI} {d C q : Nat} {K : KQ} {pc : Nat} {lv : List (Nat × Value)} {st : List Value} {h : AH} {a n : Nat} (hY : Y.1.cls = RX11) (hs : SH a = (0, n)) (hd : decode Y.2.1 pc = .ok (.getfield 200, 3)) (k : J G Y d C q K (pc + 3) lv (.ref (ad G (a + 2)) :: st) h) : J G Y d C q K pc lv (.ref (ad G a) :: st) h := j_get (k0 := 7) hY ku_0 rfl (by decide) rfl kf_RX11_200 (by decide) hs rfl hd k
theorem jg_RX11_203 {G : GG} {Y : MI} {d C q : Nat} {K : KQ} {pc : Nat} {lv : List (Nat × Value)} {st : List Value} {h : AH} {a n : Nat} (hY : Y.1.cls = RX11) (hs : SH a = (0, n)) (hd : decode Y.2.1 pc = .ok (.getfield 203, 3)) (k : J G Y d C q K (pc + 3) lv (.ref (ad G (a + 3)) :: st) h) : J G Y d C q K pc lv (.ref (ad G a) :: st) h := j_get (k0 := 8) hY ku_0 rfl (by decide) rfl kf_RX11_203 (by decide) hs rfl hd k
theorem jg_RX11_206 {G : GG} {Y : MI} {d C q : Nat} {K : KQ} {pc : Nat} {lv : List (Nat × Value)} {st : List Value} {h : AH} {a n : Nat} (hY : Y.1.cls = RX11) (hs : SH a = (0, n)) (hd : decode Y.2.1 pc = .ok (.getfield 206, 3)) (k : J G Y d C q K (pc + 3) lv (.ref (ad G (a + 4)) :: st) h) : J G Y d C q K pc lv (.ref (ad G a) :: st) h := j_get (k0 := 9) hY ku_0 rfl (by decide) rfl kf_RX11_206 (by decide) hs rfl hd k
theorem jg_RX11_209 {G : GG} {Y : MI} {d C q : Nat} {K : KQ} {pc : Nat} {lv : List (Nat × Value)} {st : List Value} {h : AH} {a n : Nat} (hY : Y.1.cls = RX11) (hs : SH a = (0, n)) (hd : decode Y.2.1 pc = .ok (.getfield 209, 3)) (k : J G Y d C q K (pc + 3) lv (.ref (ad G (a + 5)) :: st) h) : J G Y d C q K pc lv (.ref (ad G a) :: st) h := j_get (k0 := 10) hY ku_0 rfl (by decide) rfl kf_RX11_209 (by decide) hs rfl hd k
theorem jg_RX11_212 {G : GG} {Y : MI} {d C q : Nat} {K : KQ} {pc : Nat} {lv : List (Nat × Value)} {st : List Value} {h : AH} {a n : Nat} (hY : Y.1.cls = RX11) (hs : SH a = (0, n)) (hd : decode Y.2.1 pc = .ok (.getfield 212, 3)) (k : J G Y d C q K (pc + 3) lv (.ref (ad G (a + 6)) :: st) h) : J G Y d C q K pc lv (.ref (ad G a) :: st) h := j_get (k0 := 11) hY ku_0 rfl (by decide) rfl kf_RX11_212 (by decide) hs rfl hd k
theorem jg_RX11_250 {G : GG} {Y : MI} {d C q : Nat} {K : KQ} {pc : Nat} {lv : List (Nat × Value)} {st : List Value} {h : AH} {a n : Nat} (hY : Y.1.cls = RX11) (hs : SH a = (0, n)) (hd : decode Y.2.1 pc = .ok (.getfield 250, 3)) (k : J G Y d C q K (pc + 3) lv (.ref (ad G (a + 7)) :: st) h) : J G Y d C q K pc lv (.ref (ad G a) :: st) h := j_get (k0 := 12) hY ku_0 rfl (by decide) rfl kf_RX11_250 (by decide) hs rfl hd k
theorem jg_RX11_264 {G : GG} {Y : MI} {d C q : Nat} {K : KQ} {pc : Nat} {lv : List (Nat × Value)} {st : List Value} {h : AH} {a n : Nat} (hY : Y.1.cls = RX11) (hs : SH a = (3, n)) (hd : decode Y.2.1 pc = .ok (.getfield 264, 3)) (k : J G Y d C q K (pc + 3) lv (.ref (ad G (a + 1)) :: st) h) : J G Y d C q K pc lv (.ref (ad G a) :: st) h := j_get (k0 := 0) hY ku_3 rfl (by decide) rfl kf_RX11_264 (by decide) hs rfl hd k
theorem jg_RX11_267 {G : GG} {Y : MI} {d C q : Nat} {K : KQ} {pc : Nat} {lv : List (Nat × Value)} {st : List Value} {h : AH} {a n : Nat} (hY : Y.1.cls = RX11) (hs : SH a = (3, n)) (hd : decode Y.2.1 pc = .ok (.getfield 267, 3)) (k : J G Y d C q K (pc + 3) lv (.ref (ad G (a + 2)) :: st) h) : J G Y d C q K pc lv (.ref (ad G a) :: st) h := j_get (k0 := 1) hY ku_3 rfl (by decide) rfl kf_RX11_267 (by decide) hs rfl hd k
theorem jg_RX11_278 {G : GG} {Y : MI} {d C q : Nat} {K : KQ} {pc : Nat} {lv : List (Nat × Value)} {st : List Value} {h : AH} {a n : Nat} (hY : Y.1.cls = RX11) (hs : SH a = (9, n)) (hd : decode Y.2.1 pc = .ok (.getfield 278, 3)) (k : J G Y d C q K (pc + 3) lv (.ref (ad G (a + 1)) :: st) h) : J G Y d C q K pc lv (.ref (ad G a) :: st) h := j_get (k0 := 0) hY ku_9 rfl (by decide) rfl kf_RX11_278 (by decide) hs rfl hd k
theorem jg_RX11_279 {G : GG} {Y : MI} {d C q : Nat} {K : KQ} {pc : Nat} {lv : List (Nat × Value)} {st : List Value} {h : AH} {a n : Nat} (hY : Y.1.cls = RX11) (hs : SH a = (9, n)) (hd : decode Y.2.1 pc = .ok (.getfield 279, 3)) (k : J G Y d C q K (pc + 3) lv (.ref (ad G (a + 2)) :: st) h) : J G Y d C q K pc lv (.ref (ad G a) :: st) h := j_get (k0 := 1) hY ku_9 rfl (by decide) rfl kf_RX11_279 (by decide) hs rfl hd k
theorem jg_RX11_280 {G : GG} {Y : MI} {d C q : Nat} {K : KQ} {pc : Nat} {lv : List (Nat × Value)} {st : List Value} {h : AH} {a n : Nat} (hY : Y.1.cls = RX11) (hs : SH a = (9, n)) (hd : decode Y.2.1 pc = .ok (.getfield 280, 3)) (k : J G Y d C q K (pc + 3) lv (.ref (ad G (a + 3)) :: st) h) : J G Y d C q K pc lv (.ref (ad G a) :: st) h := j_get (k0 := 2) hY ku_9 rfl (by decide) rfl kf_RX11_280 (by decide) hs rfl hd k
theorem jg_RX11_283 {G : GG} {Y : MI} {d C q : Nat} {K : KQ} {pc : Nat} {lv : List (Nat × Value)} {st : List Value} {h : AH} {a n : Nat} (hY : Y.1.cls = RX11) (hs : SH a = (9, n)) (hd : decode Y.2.1 pc = .ok (.getfield 283, 3)) (k : J G Y d C q K (pc + 3) lv (.ref (ad G (a + 4)) :: st) h) : J G Y d C q K pc lv (.ref (ad G a) :: st) h := j_get (k0 := 3) hY ku_9 rfl (by decide) rfl kf_RX11_283 (by decide) hs rfl hd k
theorem jg_RX11_286 {G : GG} {Y : MI} {d C q : Nat} {K : KQ} {pc : Nat} {lv : List (Nat × Value)} {st : List Value} {h : AH} {a n : Nat} (hY : Y.1.cls = RX11) (hs : SH a = (9, n)) (hd : decode Y.2.1 pc = .ok (.getfield 286, 3)) (k : J G Y d C q K (pc + 3) lv (.ref (ad G (a + 5)) :: st) h) : J G Y d C q K pc lv (.ref (ad G a) :: st) h := j_get (k0 := 4) hY ku_9 rfl (by decide) rfl kf_RX11_286 (by decide) hs rfl hd k
theorem jg_RX11_300 {G : GG} {Y : MI} {d C q : Nat} {K : KQ} {pc : Nat} {lv : List (Nat × Value)} {st : List Value} {h : AH} {a n : Nat} (hY : Y.1.cls = RX11) (hs : SH a = (9, n)) (hd : decode Y.2.1 pc = .ok (.getfield 300, 3)) (k : J G Y d C q K (pc + 3) lv (.ref (ad G (a + 6)) :: st) h) : J G Y d C q K pc lv (.ref (ad G a) :: st) h := j_get (k0 := 5) hY ku_9 rfl (by decide) rfl kf_RX11_300 (by decide) hs rfl hd k
theorem jg_RX11_322 {G : GG} {Y : MI} {d C q : Nat} {K : KQ} {pc : Nat} {lv : List (Nat × Value)} {st : List Value} {h : AH} {a n : Nat} (hY : Y.1.cls = RX11) (hs : SH a = (2, n)) (hd : decode Y.2.1 pc = .ok (.getfield 322, 3)) (k : J G Y d C q K (pc + 3) lv (.int (hfi h a 0) :: st) h) : J G Y d C q K pc lv (.ref (ad G a) :: st) h := j_get (k0 := 0) hY ku_2 rfl (by decide) rfl kf_RX11_322 (by decide) hs rfl hd k
theorem jp_RX11_322 {G : GG} {Y : MI} {d C q : Nat} {K : KQ} {pc : Nat} {lv : List (Nat × Value)} {st : List Value} {h : AH} {a n : Nat} {v : Int32} (hY : Y.1.cls = RX11) (hs : SH a = (2, n)) (hz : narrow .boolean (.int v) = .int v) (hf : fits .boolean (.int v) = true) (hd : decode Y.2.1 pc = .ok (.putfield 322, 3)) (k : J G Y d C q K (pc + 3) lv st (sfi h a 0 v)) : J G Y d C q K pc lv (.int v :: .ref (ad G a) :: st) h := j_put (k0 := 0) tyX2 hY ku_2 tyX2_ok nmX2 rfl (by decide) rfl rfl kf_RX11_322 (by decide) hs rfl hz hf (Nat.le_of_ble_eq_true rfl) (by show fvR G a (up2 h.1 a 0 v a) _ _ _ = _; rw [up2_at]; rfl) (fun b hb => cel_sfi hb) hd k
theorem jg_RX11_326 {G : GG} {Y : MI} {d C q : Nat} {K : KQ} {pc : Nat} {lv : List (Nat × Value)} {st : List Value} {h : AH} {a n : Nat} (hY : Y.1.cls = RX11) (hs : SH a = (2, n)) (hd : decode Y.2.1 pc = .ok (.getfield 326, 3)) (k : J G Y d C q K (pc + 3) lv (.int (hfi h a 1) :: st) h) : J G Y d C q K pc lv (.ref (ad G a) :: st) h := j_get (k0 := 1) hY ku_2 rfl (by decide) rfl kf_RX11_326 (by decide) hs rfl hd k
theorem jp_RX11_326 {G : GG} {Y : MI} {d C q : Nat} {K : KQ} {pc : Nat} {lv : List (Nat × Value)} {st : List Value} {h : AH} {a n : Nat} {v : Int32} (hY : Y.1.cls = RX11) (hs : SH a = (2, n)) (hd : decode Y.2.1 pc = .ok (.putfield 326, 3)) (k : J G Y d C q K (pc + 3) lv st (sfi h a 1 v)) : J G Y d C q K pc lv (.int v :: .ref (ad G a) :: st) h := j_put (k0 := 1) tyX2 hY ku_2 tyX2_ok nmX2 rfl (by decide) rfl rfl kf_RX11_326 (by decide) hs rfl rfl rfl (Nat.le_of_ble_eq_true rfl) (by show fvR G a (up2 h.1 a 1 v a) _ _ _ = _; rw [up2_at]; rfl) (fun b hb => cel_sfi hb) hd k
theorem jg_RX11_329 {G : GG} {Y : MI} {d C q : Nat} {K : KQ} {pc : Nat} {lv : List (Nat × Value)} {st : List Value} {h : AH} {a n : Nat} (hY : Y.1.cls = RX11) (hs : SH a = (2, n)) (hd : decode Y.2.1 pc = .ok (.getfield 329, 3)) (k : J G Y d C q K (pc + 3) lv (.int (hfi h a 2) :: st) h) : J G Y d C q K pc lv (.ref (ad G a) :: st) h := j_get (k0 := 2) hY ku_2 rfl (by decide) rfl kf_RX11_329 (by decide) hs rfl hd k
theorem jp_RX11_329 {G : GG} {Y : MI} {d C q : Nat} {K : KQ} {pc : Nat} {lv : List (Nat × Value)} {st : List Value} {h : AH} {a n : Nat} {v : Int32} (hY : Y.1.cls = RX11) (hs : SH a = (2, n)) (hd : decode Y.2.1 pc = .ok (.putfield 329, 3)) (k : J G Y d C q K (pc + 3) lv st (sfi h a 2 v)) : J G Y d C q K pc lv (.int v :: .ref (ad G a) :: st) h := j_put (k0 := 2) tyX2 hY ku_2 tyX2_ok nmX2 rfl (by decide) rfl rfl kf_RX11_329 (by decide) hs rfl rfl rfl (Nat.le_of_ble_eq_true rfl) (by show fvR G a (up2 h.1 a 2 v a) _ _ _ = _; rw [up2_at]; rfl) (fun b hb => cel_sfi hb) hd k
theorem jg_RX11_345 {G : GG} {Y : MI} {d C q : Nat} {K : KQ} {pc : Nat} {lv : List (Nat × Value)} {st : List Value} {h : AH} {a n : Nat} (hY : Y.1.cls = RX11) (hs : SH a = (6, n)) (hd : decode Y.2.1 pc = .ok (.getfield 345, 3)) (k : J G Y d C q K (pc + 3) lv (.int (hfi h a 0) :: st) h) : J G Y d C q K pc lv (.ref (ad G a) :: st) h := j_get (k0 := 0) hY ku_6 rfl (by decide) rfl kf_RX11_345 (by decide) hs rfl hd k
theorem jp_RX11_345 {G : GG} {Y : MI} {d C q : Nat} {K : KQ} {pc : Nat} {lv : List (Nat × Value)} {st : List Value} {h : AH} {a n : Nat} {v : Int32} (hY : Y.1.cls = RX11) (hs : SH a = (6, n)) (hd : decode Y.2.1 pc = .ok (.putfield 345, 3)) (k : J G Y d C q K (pc + 3) lv st (sfi h a 0 v)) : J G Y d C q K pc lv (.int v :: .ref (ad G a) :: st) h := j_put (k0 := 0) tyX6 hY ku_6 tyX6_ok nmX6 rfl (by decide) rfl rfl kf_RX11_345 (by decide) hs rfl rfl rfl (Nat.le_of_ble_eq_true rfl) (by show fvR G a (up2 h.1 a 0 v a) _ _ _ = _; rw [up2_at]; rfl) (fun b hb => cel_sfi hb) hd k
theorem jg_RX11_348 {G : GG} {Y : MI} {d C q : Nat} {K : KQ} {pc : Nat} {lv : List (Nat × Value)} {st : List Value} {h : AH} {a n : Nat} (hY : Y.1.cls = RX11) (hs : SH a = (6, n)) (hd : decode Y.2.1 pc = .ok (.getfield 348, 3)) (k : J G Y d C q K (pc + 3) lv (.int (hfi h a 1) :: st) h) : J G Y d C q K pc lv (.ref (ad G a) :: st) h := j_get (k0 := 1) hY ku_6 rfl (by decide) rfl kf_RX11_348 (by decide) hs rfl hd k
theorem jp_RX11_348 {G : GG} {Y : MI} {d C q : Nat} {K : KQ} {pc : Nat} {lv : List (Nat × Value)} {st : List Value} {h : AH} {a n : Nat} {v : Int32} (hY : Y.1.cls = RX11) (hs : SH a = (6, n)) (hd : decode Y.2.1 pc = .ok (.putfield 348, 3)) (k : J G Y d C q K (pc + 3) lv st (sfi h a 1 v)) : J G Y d C q K pc lv (.int v :: .ref (ad G a) :: st) h := j_put (k0 := 1) tyX6 hY ku_6 tyX6_ok nmX6 rfl (by decide) rfl rfl kf_RX11_348 (by decide) hs rfl rfl rfl (Nat.le_of_ble_eq_true rfl) (by show fvR G a (up2 h.1 a 1 v a) _ _ _ = _; rw [up2_at]; rfl) (fun b hb => cel_sfi hb) hd k
theorem jg_RX11_351 {G : GG} {Y : MI} {d C q : Nat} {K : KQ} {pc : Nat} {lv : List (Nat × Value)} {st : List Value} {h : AH} {a n : Nat} (hY : Y.1.cls = RX11) (hs : SH a = (6, n)) (hd : decode Y.2.1 pc = .ok (.getfield 351, 3)) (k : J G Y d C q K (pc + 3) lv (.int (hfi h a 2) :: st) h) : J G Y d C q K pc lv (.ref (ad G a) :: st) h := j_get (k0 := 2) hY ku_6 rfl (by decide) rfl kf_RX11_351 (by decide) hs rfl hd k
theorem jp_RX11_351 {G : GG} {Y : MI} {d C q : Nat} {K : KQ} {pc : Nat} {lv : List (Nat × Value)} {st : List Value} {h : AH} {a n : Nat} {v : Int32} (hY : Y.1.cls = RX11) (hs : SH a = (6, n)) (hd : decode Y.2.1 pc = .ok (.putfield 351, 3)) (k : J G Y d C q K (pc + 3) lv st (sfi h a 2 v)) : J G Y d C q K pc lv (.int v :: .ref (ad G a) :: st) h := j_put (k0 := 2) tyX6 hY ku_6 tyX6_ok nmX6 rfl (by decide) rfl rfl kf_RX11_351 (by decide) hs rfl rfl rfl (Nat.le_of_ble_eq_true rfl) (by show fvR G a (up2 h.1 a 2 v a) _ _ _ = _; rw [up2_at]; rfl) (fun b hb => cel_sfi hb) hd k
theorem jg_RX11_409 {G : GG} {Y : MI} {d C q : Nat} {K : KQ} {pc : Nat} {lv : List (Nat × Value)} {st : List Value} {h : AH} {a n : Nat} (hY : Y.1.cls = RX11) (hs : SH a = (0, n)) (hd : decode Y.2.1 pc = .ok (.getfield 409, 3)) (k : J G Y d C q K (pc + 3) lv (.ref (ad G (a + 10)) :: st) h) : J G Y d C q K pc lv (.ref (ad G a) :: st) h := j_get (k0 := 13) hY ku_0 rfl (by decide) rfl kf_RX11_409 (by decide) hs rfl hd k
theorem jg_RX11_422 {G : GG} {Y : MI} {d C q : Nat} {K : KQ} {pc : Nat} {lv : List (Nat × Value)} {st : List Value} {h : AH} {a n : Nat} (hY : Y.1.cls = RX11) (hs : SH a = (11, n)) (hd : decode Y.2.1 pc = .ok (.getfield 422, 3)) (k : J G Y d C q K (pc + 3) lv (.int (hfi h a 10) :: st) h) : J G Y d C q K pc lv (.ref (ad G a) :: st) h := j_get (k0 := 10) hY ku_11 rfl (by decide) rfl kf_RX11_422 (by decide) hs rfl hd k
theorem jp_RX11_422 {G : GG} {Y : MI} {d C q : Nat} {K : KQ} {pc : Nat} {lv : List (Nat × Value)} {st : List Value} {h : AH} {a n : Nat} {v : Int32} (hY : Y.1.cls = RX11) (hs : SH a = (11, n)) (hz : narrow .boolean (.int v) = .int v) (hf : fits .boolean (.int v) = true) (hd : decode Y.2.1 pc = .ok (.putfield 422, 3)) (k : J G Y d C q K (pc + 3) lv st (sfi h a 10 v)) : J G Y d C q K pc lv (.int v :: .ref (ad G a) :: st) h := j_put (k0 := 10) tyX11 hY ku_11 tyX11_ok nmX11 rfl (by decide) rfl rfl kf_RX11_422 (by decide) hs rfl hz hf (Nat.le_of_ble_eq_true rfl) (by show fvR G a (up2 h.1 a 10 v a) _ _ _ = _; rw [up2_at]; rfl) (fun b hb => cel_sfi hb) hd k
theorem jg_RX11_435 {G : GG} {Y : MI} {d C q : Nat} {K : KQ} {pc : Nat} {lv : List (Nat × Value)} {st : List Value} {h : AH} {a n : Nat} (hY : Y.1.cls = RX11) (hs : SH a = (9, n)) (hd : decode Y.2.1 pc = .ok (.getfield 435, 3)) (k : J G Y d C q K (pc + 3) lv (.ref (ad G (a + 7)) :: st) h) : J G Y d C q K pc lv (.ref (ad G a) :: st) h := j_get (k0 := 6) hY ku_9 rfl (by decide) rfl kf_RX11_435 (by decide) hs rfl hd k
theorem jg_RX11_446 {G : GG} {Y : MI} {d C q : Nat} {K : KQ} {pc : Nat} {lv : List (Nat × Value)} {st : List Value} {h : AH} {a n : Nat} (hY : Y.1.cls = RX11) (hs : SH a = (4, n)) (hd : decode Y.2.1 pc = .ok (.getfield 446, 3)) (k : J G Y d C q K (pc + 3) lv (.int (hfi h a 0) :: st) h) : J G Y d C q K pc lv (.ref (ad G a) :: st) h := j_get (k0 := 0) hY ku_4 rfl (by decide) rfl kf_RX11_446 (by decide) hs rfl hd k
theorem jp_RX11_446 {G : GG} {Y : MI} {d C q : Nat} {K : KQ} {pc : Nat} {lv : List (Nat × Value)} {st : List Value} {h : AH} {a n : Nat} {v : Int32} (hY : Y.1.cls = RX11) (hs : SH a = (4, n)) (hd : decode Y.2.1 pc = .ok (.putfield 446, 3)) (k : J G Y d C q K (pc + 3) lv st (sfi h a 0 v)) : J G Y d C q K pc lv (.int v :: .ref (ad G a) :: st) h := j_put (k0 := 0) tyX4 hY ku_4 tyX4_ok nmX4 rfl (by decide) rfl rfl kf_RX11_446 (by decide) hs rfl rfl rfl (Nat.le_of_ble_eq_true rfl) (by show fvR G a (up2 h.1 a 0 v a) _ _ _ = _; rw [up2_at]; rfl) (fun b hb => cel_sfi hb) hd k
theorem jg_RX0_9 {G : GG} {Y : MI} {d C q : Nat} {K : KQ} {pc : Nat} {lv : List (Nat × Value)} {st : List Value} {h : AH} {a n : Nat} (hY : Y.1.cls = RX0) (hs : SH a = (0, n)) (hd : decode Y.2.1 pc = .ok (.getfield 9, 3)) (k : J G Y d C q K (pc + 3) lv (.ref (ad G (a + 1)) :: st) h) : J G Y d C q K pc lv (.ref (ad G a) :: st) h := j_get (k0 := 6) hY ku_0 rfl (by decide) rfl kf_RX0_9 (by decide) hs rfl hd k
theorem jg_RX0_15 {G : GG} {Y : MI} {d C q : Nat} {K : KQ} {pc : Nat} {lv : List (Nat × Value)} {st : List Value} {h : AH} {a n : Nat} (hY : Y.1.cls = RX0) (hs : SH a = (0, n)) (hd : decode Y.2.1 pc = .ok (.getfield 15, 3)) (k : J G Y d C q K (pc + 3) lv (.ref (ad G (a + 2)) :: st) h) : J G Y d C q K pc lv (.ref (ad G a) :: st) h := j_get (k0 := 7) hY ku_0 rfl (by decide) rfl kf_RX0_15 (by decide) hs rfl hd k
theorem jg_RX0_18 {G : GG} {Y : MI} {d C q : Nat} {K : KQ} {pc : Nat} {lv : List (Nat × Value)} {st : List Value} {h : AH} {a n : Nat} (hY : Y.1.cls = RX0) (hs : SH a = (0, n)) (hd : decode Y.2.1 pc = .ok (.getfield 18, 3)) (k : J G Y d C q K (pc + 3) lv (.ref (ad G (a + 3)) :: st) h) : J G Y d C q K pc lv (.ref (ad G a) :: st) h := j_get (k0 := 8) hY ku_0 rfl (by decide) rfl kf_RX0_18 (by decide) hs rfl hd k
theorem jg_RX0_21 {G : GG} {Y : MI} {d C q : Nat} {K : KQ} {pc : Nat} {lv : List (Nat × Value)} {st : List Value} {h : AH} {a n : Nat} (hY : Y.1.cls = RX0) (hs : SH a = (0, n)) (hd : decode Y.2.1 pc = .ok (.getfield 21, 3)) (k : J G Y d C q K (pc + 3) lv (.ref (ad G (a + 4)) :: st) h) : J G Y d C q K pc lv (.ref (ad G a) :: st) h := j_get (k0 := 9) hY ku_0 rfl (by decide) rfl kf_RX0_21 (by decide) hs rfl hd k
theorem jg_RX0_24 {G : GG} {Y : MI} {d C q : Nat} {K : KQ} {pc : Nat} {lv : List (Nat × Value)} {st : List Value} {h : AH} {a n : Nat} (hY : Y.1.cls = RX0) (hs : SH a = (0, n)) (hd : decode Y.2.1 pc = .ok (.getfield 24, 3)) (k : J G Y d C q K (pc + 3) lv (.ref (ad G (a + 5)) :: st) h) : J G Y d C q K pc lv (.ref (ad G a) :: st) h := j_get (k0 := 10) hY ku_0 rfl (by decide) rfl kf_RX0_24 (by decide) hs rfl hd k
theorem jg_RX0_27 {G : GG} {Y : MI} {d C q : Nat} {K : KQ} {pc : Nat} {lv : List (Nat × Value)} {st : List Value} {h : AH} {a n : Nat} (hY : Y.1.cls = RX0) (hs : SH a = (0, n)) (hd : decode Y.2.1 pc = .ok (.getfield 27, 3)) (k : J G Y d C q K (pc + 3) lv (.ref (ad G (a + 6)) :: st) h) : J G Y d C q K pc lv (.ref (ad G a) :: st) h := j_get (k0 := 11) hY ku_0 rfl (by decide) rfl kf_RX0_27 (by decide) hs rfl hd k
theorem jg_RX0_33 {G : GG} {Y : MI} {d C q : Nat} {K : KQ} {pc : Nat} {lv : List (Nat × Value)} {st : List Value} {h : AH} {a n : Nat} (hY : Y.1.cls = RX0) (hs : SH a = (0, n)) (hd : decode Y.2.1 pc = .ok (.getfield 33, 3)) (k : J G Y d C q K (pc + 3) lv (.ref (ad G (a + 7)) :: st) h) : J G Y d C q K pc lv (.ref (ad G a) :: st) h := j_get (k0 := 12) hY ku_0 rfl (by decide) rfl kf_RX0_33 (by decide) hs rfl hd k
theorem jg_RX0_37 {G : GG} {Y : MI} {d C q : Nat} {K : KQ} {pc : Nat} {lv : List (Nat × Value)} {st : List Value} {h : AH} {a n : Nat} (hY : Y.1.cls = RX0) (hs : SH a = (0, n)) (hd : decode Y.2.1 pc = .ok (.getfield 37, 3)) (k : J G Y d C q K (pc + 3) lv (.ref (ad G (a + 10)) :: st) h) : J G Y d C q K pc lv (.ref (ad G a) :: st) h := j_get (k0 := 13) hY ku_0 rfl (by decide) rfl kf_RX0_37 (by decide) hs rfl hd k
theorem jg_RX0_40 {G : GG} {Y : MI} {d C q : Nat} {K : KQ} {pc : Nat} {lv : List (Nat × Value)} {st : List Value} {h : AH} {a n : Nat} (hY : Y.1.cls = RX0) (hs : SH a = (0, n)) (hd : decode Y.2.1 pc = .ok (.getfield 40, 3)) (k : J G Y d C q K (pc + 3) lv (.ref (ad G (a + 13)) :: st) h) : J G Y d C q K pc lv (.ref (ad G a) :: st) h := j_get (k0 := 14) hY ku_0 rfl (by decide) rfl kf_RX0_40 (by decide) hs rfl hd k
theorem jg_RX0_43 {G : GG} {Y : MI} {d C q : Nat} {K : KQ} {pc : Nat} {lv : List (Nat × Value)} {st : List Value} {h : AH} {a n : Nat} (hY : Y.1.cls = RX0) (hs : SH a = (0, n)) (hd : decode Y.2.1 pc = .ok (.getfield 43, 3)) (k : J G Y d C q K (pc + 3) lv (.ref (ad G (a + 14)) :: st) h) : J G Y d C q K pc lv (.ref (ad G a) :: st) h := j_get (k0 := 15) hY ku_0 rfl (by decide) rfl kf_RX0_43 (by decide) hs rfl hd k
theorem jg_RX0_46 {G : GG} {Y : MI} {d C q : Nat} {K : KQ} {pc : Nat} {lv : List (Nat × Value)} {st : List Value} {h : AH} {a n : Nat} (hY : Y.1.cls = RX0) (hs : SH a = (0, n)) (hd : decode Y.2.1 pc = .ok (.getfield 46, 3)) (k : J G Y d C q K (pc + 3) lv (.ref (ad G (a + 15)) :: st) h) : J G Y d C q K pc lv (.ref (ad G a) :: st) h := j_get (k0 := 16) hY ku_0 rfl (by decide) rfl kf_RX0_46 (by decide) hs rfl hd k
theorem jg_RX0_49 {G : GG} {Y : MI} {d C q : Nat} {K : KQ} {pc : Nat} {lv : List (Nat × Value)} {st : List Value} {h : AH} {a n : Nat} (hY : Y.1.cls = RX0) (hs : SH a = (0, n)) (hd : decode Y.2.1 pc = .ok (.getfield 49, 3)) (k : J G Y d C q K (pc + 3) lv (.ref (ad G (a + 16)) :: st) h) : J G Y d C q K pc lv (.ref (ad G a) :: st) h := j_get (k0 := 17) hY ku_0 rfl (by decide) rfl kf_RX0_49 (by decide) hs rfl hd k
theorem jg_RX0_52 {G : GG} {Y : MI} {d C q : Nat} {K : KQ} {pc : Nat} {lv : List (Nat × Value)} {st : List Value} {h : AH} {a n : Nat} (hY : Y.1.cls = RX0) (hs : SH a = (0, n)) (hd : decode Y.2.1 pc = .ok (.getfield 52, 3)) (k : J G Y d C q K (pc + 3) lv (.ref (ad G (a + 17)) :: st) h) : J G Y d C q K pc lv (.ref (ad G a) :: st) h := j_get (k0 := 18) hY ku_0 rfl (by decide) rfl kf_RX0_52 (by decide) hs rfl hd k
theorem jg_RX0_71 {G : GG} {Y : MI} {d C q : Nat} {K : KQ} {pc : Nat} {lv : List (Nat × Value)} {st : List Value} {h : AH} {a n : Nat} (hY : Y.1.cls = RX0) (hs : SH a = (0, n)) (hd : decode Y.2.1 pc = .ok (.getfield 71, 3)) (k : J G Y d C q K (pc + 3) lv (.int (hfi h a 0) :: st) h) : J G Y d C q K pc lv (.ref (ad G a) :: st) h := j_get (k0 := 0) hY ku_0 rfl (by decide) rfl kf_RX0_71 (by decide) hs rfl hd k
theorem jp_RX0_71 {G : GG} {Y : MI} {d C q : Nat} {K : KQ} {pc : Nat} {lv : List (Nat × Value)} {st : List Value} {h : AH} {a n : Nat} {v : Int32} (hY : Y.1.cls = RX0) (hs : SH a = (0, n)) (hd : decode Y.2.1 pc = .ok (.putfield 71, 3)) (k : J G Y d C q K (pc + 3) lv st (sfi h a 0 v)) : J G Y d C q K pc lv (.int v :: .ref (ad G a) :: st) h := j_put (k0 := 0) tyX0 hY ku_0 tyX0_ok nmX0 rfl (by decide) rfl rfl kf_RX0_71 (by decide) hs rfl rfl rfl (Nat.le_of_ble_eq_true rfl) (by show fvR G a (up2 h.1 a 0 v a) _ _ _ = _; rw [up2_at]; rfl) (fun b hb => cel_sfi hb) hd k
theorem jg_RX0_75 {G : GG} {Y : MI} {d C q : Nat} {K : KQ} {pc : Nat} {lv : List (Nat × Value)} {st : List Value} {h : AH} {a n : Nat} (hY : Y.1.cls = RX0) (hs : SH a = (0, n)) (hd : decode Y.2.1 pc = .ok (.getfield 75, 3)) (k : J G Y d C q K (pc + 3) lv (.int (hfi h a 1) :: st) h) : J G Y d C q K pc lv (.ref (ad G a) :: st) h := j_get (k0 := 1) hY ku_0 rfl (by decide) rfl kf_RX0_75 (by decide) hs rfl hd k
theorem jp_RX0_75 {G : GG} {Y : MI} {d C q : Nat} {K : KQ} {pc : Nat} {lv : List (Nat × Value)} {st : List Value} {h : AH} {a n : Nat} {v : Int32} (hY : Y.1.cls = RX0) (hs : SH a = (0, n)) (hd : decode Y.2.1 pc = .ok (.putfield 75, 3)) (k : J G Y d C q K (pc + 3) lv st (sfi h a 1 v)) : J G Y d C q K pc lv (.int v :: .ref (ad G a) :: st) h := j_put (k0 := 1) tyX0 hY ku_0 tyX0_ok nmX0 rfl (by decide) rfl rfl kf_RX0_75 (by decide) hs rfl rfl rfl (Nat.le_of_ble_eq_true rfl) (by show fvR G a (up2 h.1 a 1 v a) _ _ _ = _; rw [up2_at]; rfl) (fun b hb => cel_sfi hb) hd k
theorem jg_RX0_78 {G : GG} {Y : MI} {d C q : Nat} {K : KQ} {pc : Nat} {lv : List (Nat × Value)} {st : List Value} {h : AH} {a n : Nat} (hY : Y.1.cls = RX0) (hs : SH a = (0, n)) (hd : decode Y.2.1 pc = .ok (.getfield 78, 3)) (k : J G Y d C q K (pc + 3) lv (.int (hfi h a 2) :: st) h) : J G Y d C q K pc lv (.ref (ad G a) :: st) h := j_get (k0 := 2) hY ku_0 rfl (by decide) rfl kf_RX0_78 (by decide) hs rfl hd k
theorem jp_RX0_78 {G : GG} {Y : MI} {d C q : Nat} {K : KQ} {pc : Nat} {lv : List (Nat × Value)} {st : List Value} {h : AH} {a n : Nat} {v : Int32} (hY : Y.1.cls = RX0) (hs : SH a = (0, n)) (hd : decode Y.2.1 pc = .ok (.putfield 78, 3)) (k : J G Y d C q K (pc + 3) lv st (sfi h a 2 v)) : J G Y d C q K pc lv (.int v :: .ref (ad G a) :: st) h := j_put (k0 := 2) tyX0 hY ku_0 tyX0_ok nmX0 rfl (by decide) rfl rfl kf_RX0_78 (by decide) hs rfl rfl rfl (Nat.le_of_ble_eq_true rfl) (by show fvR G a (up2 h.1 a 2 v a) _ _ _ = _; rw [up2_at]; rfl) (fun b hb => cel_sfi hb) hd k
theorem jg_RX0_81 {G : GG} {Y : MI} {d C q : Nat} {K : KQ} {pc : Nat} {lv : List (Nat × Value)} {st : List Value} {h : AH} {a n : Nat} (hY : Y.1.cls = RX0) (hs : SH a = (0, n)) (hd : decode Y.2.1 pc = .ok (.getfield 81, 3)) (k : J G Y d C q K (pc + 3) lv (.int (hfi h a 3) :: st) h) : J G Y d C q K pc lv (.ref (ad G a) :: st) h := j_get (k0 := 3) hY ku_0 rfl (by decide) rfl kf_RX0_81 (by decide) hs rfl hd k
theorem jp_RX0_81 {G : GG} {Y : MI} {d C q : Nat} {K : KQ} {pc : Nat} {lv : List (Nat × Value)} {st : List Value} {h : AH} {a n : Nat} {v : Int32} (hY : Y.1.cls = RX0) (hs : SH a = (0, n)) (hd : decode Y.2.1 pc = .ok (.putfield 81, 3)) (k : J G Y d C q K (pc + 3) lv st (sfi h a 3 v)) : J G Y d C q K pc lv (.int v :: .ref (ad G a) :: st) h := j_put (k0 := 3) tyX0 hY ku_0 tyX0_ok nmX0 rfl (by decide) rfl rfl kf_RX0_81 (by decide) hs rfl rfl rfl (Nat.le_of_ble_eq_true rfl) (by show fvR G a (up2 h.1 a 3 v a) _ _ _ = _; rw [up2_at]; rfl) (fun b hb => cel_sfi hb) hd k
theorem jg_RX0_84 {G : GG} {Y : MI} {d C q : Nat} {K : KQ} {pc : Nat} {lv : List (Nat × Value)} {st : List Value} {h : AH} {a n : Nat} (hY : Y.1.cls = RX0) (hs : SH a = (0, n)) (hd : decode Y.2.1 pc = .ok (.getfield 84, 3)) (k : J G Y d C q K (pc + 3) lv (.int (hfi h a 4) :: st) h) : J G Y d C q K pc lv (.ref (ad G a) :: st) h := j_get (k0 := 4) hY ku_0 rfl (by decide) rfl kf_RX0_84 (by decide) hs rfl hd k
theorem jp_RX0_84 {G : GG} {Y : MI} {d C q : Nat} {K : KQ} {pc : Nat} {lv : List (Nat × Value)} {st : List Value} {h : AH} {a n : Nat} {v : Int32} (hY : Y.1.cls = RX0) (hs : SH a = (0, n)) (hd : decode Y.2.1 pc = .ok (.putfield 84, 3)) (k : J G Y d C q K (pc + 3) lv st (sfi h a 4 v)) : J G Y d C q K pc lv (.int v :: .ref (ad G a) :: st) h := j_put (k0 := 4) tyX0 hY ku_0 tyX0_ok nmX0 rfl (by decide) rfl rfl kf_RX0_84 (by decide) hs rfl rfl rfl (Nat.le_of_ble_eq_true rfl) (by show fvR G a (up2 h.1 a 4 v a) _ _ _ = _; rw [up2_at]; rfl) (fun b hb => cel_sfi hb) hd k
theorem jg_RX0_87 {G : GG} {Y : MI} {d C q : Nat} {K : KQ} {pc : Nat} {lv : List (Nat × Value)} {st : List Value} {h : AH} {a n : Nat} (hY : Y.1.cls = RX0) (hs : SH a = (0, n)) (hd : decode Y.2.1 pc = .ok (.getfield 87, 3)) (k : J G Y d C q K (pc + 3) lv (.int (hfi h a 5) :: st) h) : J G Y d C q K pc lv (.ref (ad G a) :: st) h := j_get (k0 := 5) hY ku_0 rfl (by decide) rfl kf_RX0_87 (by decide) hs rfl hd k
theorem jp_RX0_87 {G : GG} {Y : MI} {d C q : Nat} {K : KQ} {pc : Nat} {lv : List (Nat × Value)} {st : List Value} {h : AH} {a n : Nat} {v : Int32} (hY : Y.1.cls = RX0) (hs : SH a = (0, n)) (hd : decode Y.2.1 pc = .ok (.putfield 87, 3)) (k : J G Y d C q K (pc + 3) lv st (sfi h a 5 v)) : J G Y d C q K pc lv (.int v :: .ref (ad G a) :: st) h := j_put (k0 := 5) tyX0 hY ku_0 tyX0_ok nmX0 rfl (by decide) rfl rfl kf_RX0_87 (by decide) hs rfl rfl rfl (Nat.le_of_ble_eq_true rfl) (by show fvR G a (up2 h.1 a 5 v a) _ _ _ = _; rw [up2_at]; rfl) (fun b hb => cel_sfi hb) hd k
theorem jg_RX0_115 {G : GG} {Y : MI} {d C q : Nat} {K : KQ} {pc : Nat} {lv : List (Nat × Value)} {st : List Value} {h : AH} {a n : Nat} (hY : Y.1.cls = RX0) (hs : SH a = (7, n)) (hd : decode Y.2.1 pc = .ok (.getfield 115, 3)) (k : J G Y d C q K (pc + 3) lv (.int (hfi h a 3) :: st) h) : J G Y d C q K pc lv (.ref (ad G a) :: st) h := j_get (k0 := 3) hY ku_7 rfl (by decide) rfl kf_RX0_115 (by decide) hs rfl hd k
theorem jp_RX0_115 {G : GG} {Y : MI} {d C q : Nat} {K : KQ} {pc : Nat} {lv : List (Nat × Value)} {st : List Value} {h : AH} {a n : Nat} {v : Int32} (hY : Y.1.cls = RX0) (hs : SH a = (7, n)) (hd : decode Y.2.1 pc = .ok (.putfield 115, 3)) (k : J G Y d C q K (pc + 3) lv st (sfi h a 3 v)) : J G Y d C q K pc lv (.int v :: .ref (ad G a) :: st) h := j_put (k0 := 3) tyX7 hY ku_7 tyX7_ok nmX7 rfl (by decide) rfl rfl kf_RX0_115 (by decide) hs rfl rfl rfl (Nat.le_of_ble_eq_true rfl) (by show fvR G a (up2 h.1 a 3 v a) _ _ _ = _; rw [up2_at]; rfl) (fun b hb => cel_sfi hb) hd k
theorem jg_RX0_122 {G : GG} {Y : MI} {d C q : Nat} {K : KQ} {pc : Nat} {lv : List (Nat × Value)} {st : List Value} {h : AH} {a n : Nat} (hY : Y.1.cls = RX0) (hs : SH a = (7, n)) (hd : decode Y.2.1 pc = .ok (.getfield 122, 3)) (k : J G Y d C q K (pc + 3) lv (.int (hfi h a 4) :: st) h) : J G Y d C q K pc lv (.ref (ad G a) :: st) h := j_get (k0 := 4) hY ku_7 rfl (by decide) rfl kf_RX0_122 (by decide) hs rfl hd k
theorem jp_RX0_122 {G : GG} {Y : MI} {d C q : Nat} {K : KQ} {pc : Nat} {lv : List (Nat × Value)} {st : List Value} {h : AH} {a n : Nat} {v : Int32} (hY : Y.1.cls = RX0) (hs : SH a = (7, n)) (hd : decode Y.2.1 pc = .ok (.putfield 122, 3)) (k : J G Y d C q K (pc + 3) lv st (sfi h a 4 v)) : J G Y d C q K pc lv (.int v :: .ref (ad G a) :: st) h := j_put (k0 := 4) tyX7 hY ku_7 tyX7_ok nmX7 rfl (by decide) rfl rfl kf_RX0_122 (by decide) hs rfl rfl rfl (Nat.le_of_ble_eq_true rfl) (by show fvR G a (up2 h.1 a 4 v a) _ _ _ = _; rw [up2_at]; rfl) (fun b hb => cel_sfi hb) hd k
theorem jg_RX0_129 {G : GG} {Y : MI} {d C q : Nat} {K : KQ} {pc : Nat} {lv : List (Nat × Value)} {st : List Value} {h : AH} {a n : Nat} (hY : Y.1.cls = RX0) (hs : SH a = (7, n)) (hd : decode Y.2.1 pc = .ok (.getfield 129, 3)) (k : J G Y d C q K (pc + 3) lv (.int (hfi h a 1) :: st) h) : J G Y d C q K pc lv (.ref (ad G a) :: st) h := j_get (k0 := 1) hY ku_7 rfl (by decide) rfl kf_RX0_129 (by decide) hs rfl hd k
theorem jp_RX0_129 {G : GG} {Y : MI} {d C q : Nat} {K : KQ} {pc : Nat} {lv : List (Nat × Value)} {st : List Value} {h : AH} {a n : Nat} {v : Int32} (hY : Y.1.cls = RX0) (hs : SH a = (7, n)) (hd : decode Y.2.1 pc = .ok (.putfield 129, 3)) (k : J G Y d C q K (pc + 3) lv st (sfi h a 1 v)) : J G Y d C q K pc lv (.int v :: .ref (ad G a) :: st) h := j_put (k0 := 1) tyX7 hY ku_7 tyX7_ok nmX7 rfl (by decide) rfl rfl kf_RX0_129 (by decide) hs rfl rfl rfl (Nat.le_of_ble_eq_true rfl) (by show fvR G a (up2 h.1 a 1 v a) _ _ _ = _; rw [up2_at]; rfl) (fun b hb => cel_sfi hb) hd k
theorem jg_RX0_149 {G : GG} {Y : MI} {d C q : Nat} {K : KQ} {pc : Nat} {lv : List (Nat × Value)} {st : List Value} {h : AH} {a n : Nat} (hY : Y.1.cls = RX0) (hs : SH a = (5, n)) (hd : decode Y.2.1 pc = .ok (.getfield 149, 3)) (k : J G Y d C q K (pc + 3) lv (.int (hfi h a 0) :: st) h) : J G Y d C q K pc lv (.ref (ad G a) :: st) h := j_get (k0 := 0) hY ku_5 rfl (by decide) rfl kf_RX0_149 (by decide) hs rfl hd k
theorem jp_RX0_149 {G : GG} {Y : MI} {d C q : Nat} {K : KQ} {pc : Nat} {lv : List (Nat × Value)} {st : List Value} {h : AH} {a n : Nat} {v : Int32} (hY : Y.1.cls = RX0) (hs : SH a = (5, n)) (hd : decode Y.2.1 pc = .ok (.putfield 149, 3)) (k : J G Y d C q K (pc + 3) lv st (sfi h a 0 v)) : J G Y d C q K pc lv (.int v :: .ref (ad G a) :: st) h := j_put (k0 := 0) tyX5 hY ku_5 tyX5_ok nmX5 rfl (by decide) rfl rfl kf_RX0_149 (by decide) hs rfl rfl rfl (Nat.le_of_ble_eq_true rfl) (by show fvR G a (up2 h.1 a 0 v a) _ _ _ = _; rw [up2_at]; rfl) (fun b hb => cel_sfi hb) hd k
theorem jg_RX0_168 {G : GG} {Y : MI} {d C q : Nat} {K : KQ} {pc : Nat} {lv : List (Nat × Value)} {st : List Value} {h : AH} {a n : Nat} (hY : Y.1.cls = RX0) (hs : SH a = (3, n)) (hd : decode Y.2.1 pc = .ok (.getfield 168, 3)) (k : J G Y d C q K (pc + 3) lv (.ref (ad G (a + 1)) :: st) h) : J G Y d C q K pc lv (.ref (ad G a) :: st) h := j_get (k0 := 0) hY ku_3 rfl (by decide) rfl kf_RX0_168 (by decide) hs rfl hd k
theorem jg_RX0_174 {G : GG} {Y : MI} {d C q : Nat} {K : KQ} {pc : Nat} {lv : List (Nat × Value)} {st : List Value} {h : AH} {a n : Nat} (hY : Y.1.cls = RX0) (hs : SH a = (3, n)) (hd : decode Y.2.1 pc = .ok (.getfield 174, 3)) (k : J G Y d C q K (pc + 3) lv (.ref (ad G (a + 2)) :: st) h) : J G Y d C q K pc lv (.ref (ad G a) :: st) h := j_get (k0 := 1) hY ku_3 rfl (by decide) rfl kf_RX0_174 (by decide) hs rfl hd k
theorem jg_RX1_9 {G : GG} {Y : MI} {d C q : Nat} {K : KQ} {pc : Nat} {lv : List (Nat × Value)} {st : List Value} {h : AH} {a n : Nat} (hY : Y.1.cls = RX1) (hs : SH a = (1, n)) (hd : decode Y.2.1 pc = .ok (.getfield 9, 3)) (k : J G Y d C q K (pc + 3) lv (.ref (ad G (a + 1)) :: st) h) : J G Y d C q K pc lv (.ref (ad G a) :: st) h := j_get (k0 := 0) hY ku_1 rfl (by decide) rfl kf_RX1_9 (by decide) hs rfl hd k
theorem jg_RX1_13 {G : GG} {Y : MI} {d C q : Nat} {K : KQ} {pc : Nat} {lv : List (Nat × Value)} {st : List Value} {h : AH} {a n : Nat} (hY : Y.1.cls = RX1) (hs : SH a = (1, n)) (hd : decode Y.2.1 pc = .ok (.getfield 13, 3)) (k : J G Y d C q K (pc + 3) lv (.ref (ad G (a + 2)) :: st) h) : J G Y d C q K pc lv (.ref (ad G a) :: st) h := j_get (k0 := 1) hY ku_1 rfl (by decide) rfl kf_RX1_13 (by decide) hs rfl hd k
theorem jg_RX1_23 {G : GG} {Y : MI} {d C q : Nat} {K : KQ} {pc : Nat} {lv : List (Nat × Value)} {st : List Value} {h : AH} {a n : Nat} (hY : Y.1.cls = RX1) (hs : SH a = (0, n)) (hd : decode Y.2.1 pc = .ok (.getfield 23, 3)) (k : J G Y d C q K (pc + 3) lv (.int (hfi h a 0) :: st) h) : J G Y d C q K pc lv (.ref (ad G a) :: st) h := j_get (k0 := 0) hY ku_0 rfl (by decide) rfl kf_RX1_23 (by decide) hs rfl hd k
theorem jp_RX1_23 {G : GG} {Y : MI} {d C q : Nat} {K : KQ} {pc : Nat} {lv : List (Nat × Value)} {st : List Value} {h : AH} {a n : Nat} {v : Int32} (hY : Y.1.cls = RX1) (hs : SH a = (0, n)) (hd : decode Y.2.1 pc = .ok (.putfield 23, 3)) (k : J G Y d C q K (pc + 3) lv st (sfi h a 0 v)) : J G Y d C q K pc lv (.int v :: .ref (ad G a) :: st) h := j_put (k0 := 0) tyX0 hY ku_0 tyX0_ok nmX0 rfl (by decide) rfl rfl kf_RX1_23 (by decide) hs rfl rfl rfl (Nat.le_of_ble_eq_true rfl) (by show fvR G a (up2 h.1 a 0 v a) _ _ _ = _; rw [up2_at]; rfl) (fun b hb => cel_sfi hb) hd k
theorem jg_RX1_29 {G : GG} {Y : MI} {d C q : Nat} {K : KQ} {pc : Nat} {lv : List (Nat × Value)} {st : List Value} {h : AH} {a n : Nat} (hY : Y.1.cls = RX1) (hs : SH a = (0, n)) (hd : decode Y.2.1 pc = .ok (.getfield 29, 3)) (k : J G Y d C q K (pc + 3) lv (.ref (ad G (a + 3)) :: st) h) : J G Y d C q K pc lv (.ref (ad G a) :: st) h := j_get (k0 := 8) hY ku_0 rfl (by decide) rfl kf_RX1_29 (by decide) hs rfl hd k
theorem jg_RX2_9 {G : GG} {Y : MI} {d C q : Nat} {K : KQ} {pc : Nat} {lv : List (Nat × Value)} {st : List Value} {h : AH} {a n : Nat} (hY : Y.1.cls = RX2) (hs : SH a = (2, n)) (hd : decode Y.2.1 pc = .ok (.getfield 9, 3)) (k : J G Y d C q K (pc + 3) lv (.ref (ad G (a + 1)) :: st) h) : J G Y d C q K pc lv (.ref (ad G a) :: st) h := j_get (k0 := 3) hY ku_2 rfl (by decide) rfl kf_RX2_9 (by decide) hs rfl hd k
theorem jg_RX2_15 {G : GG} {Y : MI} {d C q : Nat} {K : KQ} {pc : Nat} {lv : List (Nat × Value)} {st : List Value} {h : AH} {a n : Nat} (hY : Y.1.cls = RX2) (hs : SH a = (2, n)) (hd : decode Y.2.1 pc = .ok (.getfield 15, 3)) (k : J G Y d C q K (pc + 3) lv (.ref (ad G (a + 2)) :: st) h) : J G Y d C q K pc lv (.ref (ad G a) :: st) h := j_get (k0 := 4) hY ku_2 rfl (by decide) rfl kf_RX2_15 (by decide) hs rfl hd k
theorem jg_RX2_18 {G : GG} {Y : MI} {d C q : Nat} {K : KQ} {pc : Nat} {lv : List (Nat × Value)} {st : List Value} {h : AH} {a n : Nat} (hY : Y.1.cls = RX2) (hs : SH a = (0, n)) (hd : decode Y.2.1 pc = .ok (.getfield 18, 3)) (k : J G Y d C q K (pc + 3) lv (.int (hfi h a 0) :: st) h) : J G Y d C q K pc lv (.ref (ad G a) :: st) h := j_get (k0 := 0) hY ku_0 rfl (by decide) rfl kf_RX2_18 (by decide) hs rfl hd k
theorem jp_RX2_18 {G : GG} {Y : MI} {d C q : Nat} {K : KQ} {pc : Nat} {lv : List (Nat × Value)} {st : List Value} {h : AH} {a n : Nat} {v : Int32} (hY : Y.1.cls = RX2) (hs : SH a = (0, n)) (hd : decode Y.2.1 pc = .ok (.putfield 18, 3)) (k : J G Y d C q K (pc + 3) lv st (sfi h a 0 v)) : J G Y d C q K pc lv (.int v :: .ref (ad G a) :: st) h := j_put (k0 := 0) tyX0 hY ku_0 tyX0_ok nmX0 rfl (by decide) rfl rfl kf_RX2_18 (by decide) hs rfl rfl rfl (Nat.le_of_ble_eq_true rfl) (by show fvR G a (up2 h.1 a 0 v a) _ _ _ = _; rw [up2_at]; rfl) (fun b hb => cel_sfi hb) hd k
theorem jg_RX2_24 {G : GG} {Y : MI} {d C q : Nat} {K : KQ} {pc : Nat} {lv : List (Nat × Value)} {st : List Value} {h : AH} {a n : Nat} (hY : Y.1.cls = RX2) (hs : SH a = (0, n)) (hd : decode Y.2.1 pc = .ok (.getfield 24, 3)) (k : J G Y d C q K (pc + 3) lv (.ref (ad G (a + 1)) :: st) h) : J G Y d C q K pc lv (.ref (ad G a) :: st) h := j_get (k0 := 6) hY ku_0 rfl (by decide) rfl kf_RX2_24 (by decide) hs rfl hd k
theorem jg_RX2_27 {G : GG} {Y : MI} {d C q : Nat} {K : KQ} {pc : Nat} {lv : List (Nat × Value)} {st : List Value} {h : AH} {a n : Nat} (hY : Y.1.cls = RX2) (hs : SH a = (0, n)) (hd : decode Y.2.1 pc = .ok (.getfield 27, 3)) (k : J G Y d C q K (pc + 3) lv (.ref (ad G (a + 3)) :: st) h) : J G Y d C q K pc lv (.ref (ad G a) :: st) h := j_get (k0 := 8) hY ku_0 rfl (by decide) rfl kf_RX2_27 (by decide) hs rfl hd k
theorem jg_RX2_43 {G : GG} {Y : MI} {d C q : Nat} {K : KQ} {pc : Nat} {lv : List (Nat × Value)} {st : List Value} {h : AH} {a n : Nat} (hY : Y.1.cls = RX2) (hs : SH a = (2, n)) (hd : decode Y.2.1 pc = .ok (.getfield 43, 3)) (k : J G Y d C q K (pc + 3) lv (.int (hfi h a 1) :: st) h) : J G Y d C q K pc lv (.ref (ad G a) :: st) h := j_get (k0 := 1) hY ku_2 rfl (by decide) rfl kf_RX2_43 (by decide) hs rfl hd k
theorem jp_RX2_43 {G : GG} {Y : MI} {d C q : Nat} {K : KQ} {pc : Nat} {lv : List (Nat × Value)} {st : List Value} {h : AH} {a n : Nat} {v : Int32} (hY : Y.1.cls = RX2) (hs : SH a = (2, n)) (hd : decode Y.2.1 pc = .ok (.putfield 43, 3)) (k : J G Y d C q K (pc + 3) lv st (sfi h a 1 v)) : J G Y d C q K pc lv (.int v :: .ref (ad G a) :: st) h := j_put (k0 := 1) tyX2 hY ku_2 tyX2_ok nmX2 rfl (by decide) rfl rfl kf_RX2_43 (by decide) hs rfl rfl rfl (Nat.le_of_ble_eq_true rfl) (by show fvR G a (up2 h.1 a 1 v a) _ _ _ = _; rw [up2_at]; rfl) (fun b hb => cel_sfi hb) hd k
theorem jg_RX2_46 {G : GG} {Y : MI} {d C q : Nat} {K : KQ} {pc : Nat} {lv : List (Nat × Value)} {st : List Value} {h : AH} {a n : Nat} (hY : Y.1.cls = RX2) (hs : SH a = (2, n)) (hd : decode Y.2.1 pc = .ok (.getfield 46, 3)) (k : J G Y d C q K (pc + 3) lv (.int (hfi h a 2) :: st) h) : J G Y d C q K pc lv (.ref (ad G a) :: st) h := j_get (k0 := 2) hY ku_2 rfl (by decide) rfl kf_RX2_46 (by decide) hs rfl hd k
theorem jp_RX2_46 {G : GG} {Y : MI} {d C q : Nat} {K : KQ} {pc : Nat} {lv : List (Nat × Value)} {st : List Value} {h : AH} {a n : Nat} {v : Int32} (hY : Y.1.cls = RX2) (hs : SH a = (2, n)) (hd : decode Y.2.1 pc = .ok (.putfield 46, 3)) (k : J G Y d C q K (pc + 3) lv st (sfi h a 2 v)) : J G Y d C q K pc lv (.int v :: .ref (ad G a) :: st) h := j_put (k0 := 2) tyX2 hY ku_2 tyX2_ok nmX2 rfl (by decide) rfl rfl kf_RX2_46 (by decide) hs rfl rfl rfl (Nat.le_of_ble_eq_true rfl) (by show fvR G a (up2 h.1 a 2 v a) _ _ _ = _; rw [up2_at]; rfl) (fun b hb => cel_sfi hb) hd k
theorem jg_RX2_49 {G : GG} {Y : MI} {d C q : Nat} {K : KQ} {pc : Nat} {lv : List (Nat × Value)} {st : List Value} {h : AH} {a n : Nat} (hY : Y.1.cls = RX2) (hs : SH a = (2, n)) (hd : decode Y.2.1 pc = .ok (.getfield 49, 3)) (k : J G Y d C q K (pc + 3) lv (.int (hfi h a 0) :: st) h) : J G Y d C q K pc lv (.ref (ad G a) :: st) h := j_get (k0 := 0) hY ku_2 rfl (by decide) rfl kf_RX2_49 (by decide) hs rfl hd k
theorem jp_RX2_49 {G : GG} {Y : MI} {d C q : Nat} {K : KQ} {pc : Nat} {lv : List (Nat × Value)} {st : List Value} {h : AH} {a n : Nat} {v : Int32} (hY : Y.1.cls = RX2) (hs : SH a = (2, n)) (hz : narrow .boolean (.int v) = .int v) (hf : fits .boolean (.int v) = true) (hd : decode Y.2.1 pc = .ok (.putfield 49, 3)) (k : J G Y d C q K (pc + 3) lv st (sfi h a 0 v)) : J G Y d C q K pc lv (.int v :: .ref (ad G a) :: st) h := j_put (k0 := 0) tyX2 hY ku_2 tyX2_ok nmX2 rfl (by decide) rfl rfl kf_RX2_49 (by decide) hs rfl hz hf (Nat.le_of_ble_eq_true rfl) (by show fvR G a (up2 h.1 a 0 v a) _ _ _ = _; rw [up2_at]; rfl) (fun b hb => cel_sfi hb) hd k
theorem jg_RX3_9 {G : GG} {Y : MI} {d C q : Nat} {K : KQ} {pc : Nat} {lv : List (Nat × Value)} {st : List Value} {h : AH} {a n : Nat} (hY : Y.1.cls = RX3) (hs : SH a = (3, n)) (hd : decode Y.2.1 pc = .ok (.getfield 9, 3)) (k : J G Y d C q K (pc + 3) lv (.ref (ad G (a + 1)) :: st) h) : J G Y d C q K pc lv (.ref (ad G a) :: st) h := j_get (k0 := 0) hY ku_3 rfl (by decide) rfl kf_RX3_9 (by decide) hs rfl hd k
theorem jg_RX3_15 {G : GG} {Y : MI} {d C q : Nat} {K : KQ} {pc : Nat} {lv : List (Nat × Value)} {st : List Value} {h : AH} {a n : Nat} (hY : Y.1.cls = RX3) (hs : SH a = (3, n)) (hd : decode Y.2.1 pc = .ok (.getfield 15, 3)) (k : J G Y d C q K (pc + 3) lv (.ref (ad G (a + 2)) :: st) h) : J G Y d C q K pc lv (.ref (ad G a) :: st) h := j_get (k0 := 1) hY ku_3 rfl (by decide) rfl kf_RX3_15 (by decide) hs rfl hd k
theorem jg_RX4_9 {G : GG} {Y : MI} {d C q : Nat} {K : KQ} {pc : Nat} {lv : List (Nat × Value)} {st : List Value} {h : AH} {a n : Nat} (hY : Y.1.cls = RX4) (hs : SH a = (4, n)) (hd : decode Y.2.1 pc = .ok (.getfield 9, 3)) (k : J G Y d C q K (pc + 3) lv (.ref (ad G (a + 1)) :: st) h) : J G Y d C q K pc lv (.ref (ad G a) :: st) h := j_get (k0 := 1) hY ku_4 rfl (by decide) rfl kf_RX4_9 (by decide) hs rfl hd k
theorem jg_RX4_15 {G : GG} {Y : MI} {d C q : Nat} {K : KQ} {pc : Nat} {lv : List (Nat × Value)} {st : List Value} {h : AH} {a n : Nat} (hY : Y.1.cls = RX4) (hs : SH a = (4, n)) (hd : decode Y.2.1 pc = .ok (.getfield 15, 3)) (k : J G Y d C q K (pc + 3) lv (.ref (ad G (a + 2)) :: st) h) : J G Y d C q K pc lv (.ref (ad G a) :: st) h := j_get (k0 := 2) hY ku_4 rfl (by decide) rfl kf_RX4_15 (by decide) hs rfl hd k
theorem jg_RX4_18 {G : GG} {Y : MI} {d C q : Nat} {K : KQ} {pc : Nat} {lv : List (Nat × Value)} {st : List Value} {h : AH} {a n : Nat} (hY : Y.1.cls = RX4) (hs : SH a = (4, n)) (hd : decode Y.2.1 pc = .ok (.getfield 18, 3)) (k : J G Y d C q K (pc + 3) lv (.int (hfi h a 0) :: st) h) : J G Y d C q K pc lv (.ref (ad G a) :: st) h := j_get (k0 := 0) hY ku_4 rfl (by decide) rfl kf_RX4_18 (by decide) hs rfl hd k
theorem jp_RX4_18 {G : GG} {Y : MI} {d C q : Nat} {K : KQ} {pc : Nat} {lv : List (Nat × Value)} {st : List Value} {h : AH} {a n : Nat} {v : Int32} (hY : Y.1.cls = RX4) (hs : SH a = (4, n)) (hd : decode Y.2.1 pc = .ok (.putfield 18, 3)) (k : J G Y d C q K (pc + 3) lv st (sfi h a 0 v)) : J G Y d C q K pc lv (.int v :: .ref (ad G a) :: st) h := j_put (k0 := 0) tyX4 hY ku_4 tyX4_ok nmX4 rfl (by decide) rfl rfl kf_RX4_18 (by decide) hs rfl rfl rfl (Nat.le_of_ble_eq_true rfl) (by show fvR G a (up2 h.1 a 0 v a) _ _ _ = _; rw [up2_at]; rfl) (fun b hb => cel_sfi hb) hd k
theorem jg_RX4_22 {G : GG} {Y : MI} {d C q : Nat} {K : KQ} {pc : Nat} {lv : List (Nat × Value)} {st : List Value} {h : AH} {a n : Nat} (hY : Y.1.cls = RX4) (hs : SH a = (9, n)) (hd : decode Y.2.1 pc = .ok (.getfield 22, 3)) (k : J G Y d C q K (pc + 3) lv (.ref (ad G (a + 7)) :: st) h) : J G Y d C q K pc lv (.ref (ad G a) :: st) h := j_get (k0 := 6) hY ku_9 rfl (by decide) rfl kf_RX4_22 (by decide) hs rfl hd k
theorem jg_RX4_27 {G : GG} {Y : MI} {d C q : Nat} {K : KQ} {pc : Nat} {lv : List (Nat × Value)} {st : List Value} {h : AH} {a n : Nat} (hY : Y.1.cls = RX4) (hs : SH a = (9, n)) (hd : decode Y.2.1 pc = .ok (.getfield 27, 3)) (k : J G Y d C q K (pc + 3) lv (.ref (ad G (a + 6)) :: st) h) : J G Y d C q K pc lv (.ref (ad G a) :: st) h := j_get (k0 := 5) hY ku_9 rfl (by decide) rfl kf_RX4_27 (by decide) hs rfl hd k
theorem jg_RX4_44 {G : GG} {Y : MI} {d C q : Nat} {K : KQ} {pc : Nat} {lv : List (Nat × Value)} {st : List Value} {h : AH} {a n : Nat} (hY : Y.1.cls = RX4) (hs : SH a = (4, n)) (hd : decode Y.2.1 pc = .ok (.getfield 44, 3)) (k : J G Y d C q K (pc + 3) lv (.int (hfi h a 3) :: st) h) : J G Y d C q K pc lv (.ref (ad G a) :: st) h := j_get (k0 := 3) hY ku_4 rfl (by decide) rfl kf_RX4_44 (by decide) hs rfl hd k
theorem jp_RX4_44 {G : GG} {Y : MI} {d C q : Nat} {K : KQ} {pc : Nat} {lv : List (Nat × Value)} {st : List Value} {h : AH} {a n : Nat} {v : Int32} (hY : Y.1.cls = RX4) (hs : SH a = (4, n)) (hd : decode Y.2.1 pc = .ok (.putfield 44, 3)) (k : J G Y d C q K (pc + 3) lv st (sfi h a 3 v)) : J G Y d C q K pc lv (.int v :: .ref (ad G a) :: st) h := j_put (k0 := 3) tyX4 hY ku_4 tyX4_ok nmX4 rfl (by decide) rfl rfl kf_RX4_44 (by decide) hs rfl rfl rfl (Nat.le_of_ble_eq_true rfl) (by show fvR G a (up2 h.1 a 3 v a) _ _ _ = _; rw [up2_at]; rfl) (fun b hb => cel_sfi hb) hd k
theorem jg_RX4_47 {G : GG} {Y : MI} {d C q : Nat} {K : KQ} {pc : Nat} {lv : List (Nat × Value)} {st : List Value} {h : AH} {a n : Nat} (hY : Y.1.cls = RX4) (hs : SH a = (4, n)) (hd : decode Y.2.1 pc = .ok (.getfield 47, 3)) (k : J G Y d C q K (pc + 3) lv (.int (hfi h a 4) :: st) h) : J G Y d C q K pc lv (.ref (ad G a) :: st) h := j_get (k0 := 4) hY ku_4 rfl (by decide) rfl kf_RX4_47 (by decide) hs rfl hd k
theorem jp_RX4_47 {G : GG} {Y : MI} {d C q : Nat} {K : KQ} {pc : Nat} {lv : List (Nat × Value)} {st : List Value} {h : AH} {a n : Nat} {v : Int32} (hY : Y.1.cls = RX4) (hs : SH a = (4, n)) (hd : decode Y.2.1 pc = .ok (.putfield 47, 3)) (k : J G Y d C q K (pc + 3) lv st (sfi h a 4 v)) : J G Y d C q K pc lv (.int v :: .ref (ad G a) :: st) h := j_put (k0 := 4) tyX4 hY ku_4 tyX4_ok nmX4 rfl (by decide) rfl rfl kf_RX4_47 (by decide) hs rfl rfl rfl (Nat.le_of_ble_eq_true rfl) (by show fvR G a (up2 h.1 a 4 v a) _ _ _ = _; rw [up2_at]; rfl) (fun b hb => cel_sfi hb) hd k
theorem jg_RX4_50 {G : GG} {Y : MI} {d C q : Nat} {K : KQ} {pc : Nat} {lv : List (Nat × Value)} {st : List Value} {h : AH} {a n : Nat} (hY : Y.1.cls = RX4) (hs : SH a = (4, n)) (hd : decode Y.2.1 pc = .ok (.getfield 50, 3)) (k : J G Y d C q K (pc + 3) lv (.int (hfi h a 5) :: st) h) : J G Y d C q K pc lv (.ref (ad G a) :: st) h := j_get (k0 := 5) hY ku_4 rfl (by decide) rfl kf_RX4_50 (by decide) hs rfl hd k
theorem jp_RX4_50 {G : GG} {Y : MI} {d C q : Nat} {K : KQ} {pc : Nat} {lv : List (Nat × Value)} {st : List Value} {h : AH} {a n : Nat} {v : Int32} (hY : Y.1.cls = RX4) (hs : SH a = (4, n)) (hd : decode Y.2.1 pc = .ok (.putfield 50, 3)) (k : J G Y d C q K (pc + 3) lv st (sfi h a 5 v)) : J G Y d C q K pc lv (.int v :: .ref (ad G a) :: st) h := j_put (k0 := 5) tyX4 hY ku_4 tyX4_ok nmX4 rfl (by decide) rfl rfl kf_RX4_50 (by decide) hs rfl rfl rfl (Nat.le_of_ble_eq_true rfl) (by show fvR G a (up2 h.1 a 5 v a) _ _ _ = _; rw [up2_at]; rfl) (fun b hb => cel_sfi hb) hd k
theorem jg_RX5_9 {G : GG} {Y : MI} {d C q : Nat} {K : KQ} {pc : Nat} {lv : List (Nat × Value)} {st : List Value} {h : AH} {a n : Nat} (hY : Y.1.cls = RX5) (hs : SH a = (5, n)) (hd : decode Y.2.1 pc = .ok (.getfield 9, 3)) (k : J G Y d C q K (pc + 3) lv (.int (hfi h a 0) :: st) h) : J G Y d C q K pc lv (.ref (ad G a) :: st) h := j_get (k0 := 0) hY ku_5 rfl (by decide) rfl kf_RX5_9 (by decide) hs rfl hd k
theorem jp_RX5_9 {G : GG} {Y : MI} {d C q : Nat} {K : KQ} {pc : Nat} {lv : List (Nat × Value)} {st : List Value} {h : AH} {a n : Nat} {v : Int32} (hY : Y.1.cls = RX5) (hs : SH a = (5, n)) (hd : decode Y.2.1 pc = .ok (.putfield 9, 3)) (k : J G Y d C q K (pc + 3) lv st (sfi h a 0 v)) : J G Y d C q K pc lv (.int v :: .ref (ad G a) :: st) h := j_put (k0 := 0) tyX5 hY ku_5 tyX5_ok nmX5 rfl (by decide) rfl rfl kf_RX5_9 (by decide) hs rfl rfl rfl (Nat.le_of_ble_eq_true rfl) (by show fvR G a (up2 h.1 a 0 v a) _ _ _ = _; rw [up2_at]; rfl) (fun b hb => cel_sfi hb) hd k
theorem jg_RX5_15 {G : GG} {Y : MI} {d C q : Nat} {K : KQ} {pc : Nat} {lv : List (Nat × Value)} {st : List Value} {h : AH} {a n : Nat} (hY : Y.1.cls = RX5) (hs : SH a = (5, n)) (hd : decode Y.2.1 pc = .ok (.getfield 15, 3)) (k : J G Y d C q K (pc + 3) lv (.int (hfi h a 1) :: st) h) : J G Y d C q K pc lv (.ref (ad G a) :: st) h := j_get (k0 := 1) hY ku_5 rfl (by decide) rfl kf_RX5_15 (by decide) hs rfl hd k
theorem jp_RX5_15 {G : GG} {Y : MI} {d C q : Nat} {K : KQ} {pc : Nat} {lv : List (Nat × Value)} {st : List Value} {h : AH} {a n : Nat} {v : Int32} (hY : Y.1.cls = RX5) (hs : SH a = (5, n)) (hd : decode Y.2.1 pc = .ok (.putfield 15, 3)) (k : J G Y d C q K (pc + 3) lv st (sfi h a 1 v)) : J G Y d C q K pc lv (.int v :: .ref (ad G a) :: st) h := j_put (k0 := 1) tyX5 hY ku_5 tyX5_ok nmX5 rfl (by decide) rfl rfl kf_RX5_15 (by decide) hs rfl rfl rfl (Nat.le_of_ble_eq_true rfl) (by show fvR G a (up2 h.1 a 1 v a) _ _ _ = _; rw [up2_at]; rfl) (fun b hb => cel_sfi hb) hd k
theorem jg_RX5_18 {G : GG} {Y : MI} {d C q : Nat} {K : KQ} {pc : Nat} {lv : List (Nat × Value)} {st : List Value} {h : AH} {a n : Nat} (hY : Y.1.cls = RX5) (hs : SH a = (5, n)) (hd : decode Y.2.1 pc = .ok (.getfield 18, 3)) (k : J G Y d C q K (pc + 3) lv (.int (hfi h a 2) :: st) h) : J G Y d C q K pc lv (.ref (ad G a) :: st) h := j_get (k0 := 2) hY ku_5 rfl (by decide) rfl kf_RX5_18 (by decide) hs rfl hd k
theorem jp_RX5_18 {G : GG} {Y : MI} {d C q : Nat} {K : KQ} {pc : Nat} {lv : List (Nat × Value)} {st : List Value} {h : AH} {a n : Nat} {v : Int32} (hY : Y.1.cls = RX5) (hs : SH a = (5, n)) (hd : decode Y.2.1 pc = .ok (.putfield 18, 3)) (k : J G Y d C q K (pc + 3) lv st (sfi h a 2 v)) : J G Y d C q K pc lv (.int v :: .ref (ad G a) :: st) h := j_put (k0 := 2) tyX5 hY ku_5 tyX5_ok nmX5 rfl (by decide) rfl rfl kf_RX5_18 (by decide) hs rfl rfl rfl (Nat.le_of_ble_eq_true rfl) (by show fvR G a (up2 h.1 a 2 v a) _ _ _ = _; rw [up2_at]; rfl) (fun b hb => cel_sfi hb) hd k
theorem jg_RX5_21 {G : GG} {Y : MI} {d C q : Nat} {K : KQ} {pc : Nat} {lv : List (Nat × Value)} {st : List Value} {h : AH} {a n : Nat} (hY : Y.1.cls = RX5) (hs : SH a = (5, n)) (hd : decode Y.2.1 pc = .ok (.getfield 21, 3)) (k : J G Y d C q K (pc + 3) lv (.int (hfi h a 3) :: st) h) : J G Y d C q K pc lv (.ref (ad G a) :: st) h := j_get (k0 := 3) hY ku_5 rfl (by decide) rfl kf_RX5_21 (by decide) hs rfl hd k
theorem jp_RX5_21 {G : GG} {Y : MI} {d C q : Nat} {K : KQ} {pc : Nat} {lv : List (Nat × Value)} {st : List Value} {h : AH} {a n : Nat} {v : Int32} (hY : Y.1.cls = RX5) (hs : SH a = (5, n)) (hd : decode Y.2.1 pc = .ok (.putfield 21, 3)) (k : J G Y d C q K (pc + 3) lv st (sfi h a 3 v)) : J G Y d C q K pc lv (.int v :: .ref (ad G a) :: st) h := j_put (k0 := 3) tyX5 hY ku_5 tyX5_ok nmX5 rfl (by decide) rfl rfl kf_RX5_21 (by decide) hs rfl rfl rfl (Nat.le_of_ble_eq_true rfl) (by show fvR G a (up2 h.1 a 3 v a) _ _ _ = _; rw [up2_at]; rfl) (fun b hb => cel_sfi hb) hd k
theorem jg_RX5_53 {G : GG} {Y : MI} {d C q : Nat} {K : KQ} {pc : Nat} {lv : List (Nat × Value)} {st : List Value} {h : AH} {a n : Nat} (hY : Y.1.cls = RX5) (hs : SH a = (7, n)) (hd : decode Y.2.1 pc = .ok (.getfield 53, 3)) (k : J G Y d C q K (pc + 3) lv (.int (hfi h a 3) :: st) h) : J G Y d C q K pc lv (.ref (ad G a) :: st) h := j_get (k0 := 3) hY ku_7 rfl (by decide) rfl kf_RX5_53 (by decide) hs rfl hd k
theorem jp_RX5_53 {G : GG} {Y : MI} {d C q : Nat} {K : KQ} {pc : Nat} {lv : List (Nat × Value)} {st : List Value} {h : AH} {a n : Nat} {v : Int32} (hY : Y.1.cls = RX5) (hs : SH a = (7, n)) (hd : decode Y.2.1 pc = .ok (.putfield 53, 3)) (k : J G Y d C q K (pc + 3) lv st (sfi h a 3 v)) : J G Y d C q K pc lv (.int v :: .ref (ad G a) :: st) h := j_put (k0 := 3) tyX7 hY ku_7 tyX7_ok nmX7 rfl (by decide) rfl rfl kf_RX5_53 (by decide) hs rfl rfl rfl (Nat.le_of_ble_eq_true rfl) (by show fvR G a (up2 h.1 a 3 v a) _ _ _ = _; rw [up2_at]; rfl) (fun b hb => cel_sfi hb) hd k
theorem jg_RX5_60 {G : GG} {Y : MI} {d C q : Nat} {K : KQ} {pc : Nat} {lv : List (Nat × Value)} {st : List Value} {h : AH} {a n : Nat} (hY : Y.1.cls = RX5) (hs : SH a = (7, n)) (hd : decode Y.2.1 pc = .ok (.getfield 60, 3)) (k : J G Y d C q K (pc + 3) lv (.int (hfi h a 4) :: st) h) : J G Y d C q K pc lv (.ref (ad G a) :: st) h := j_get (k0 := 4) hY ku_7 rfl (by decide) rfl kf_RX5_60 (by decide) hs rfl hd k
theorem jp_RX5_60 {G : GG} {Y : MI} {d C q : Nat} {K : KQ} {pc : Nat} {lv : List (Nat × Value)} {st : List Value} {h : AH} {a n : Nat} {v : Int32} (hY : Y.1.cls = RX5) (hs : SH a = (7, n)) (hd : decode Y.2.1 pc = .ok (.putfield 60, 3)) (k : J G Y d C q K (pc + 3) lv st (sfi h a 4 v)) : J G Y d C q K pc lv (.int v :: .ref (ad G a) :: st) h := j_put (k0 := 4) tyX7 hY ku_7 tyX7_ok nmX7 rfl (by decide) rfl rfl kf_RX5_60 (by decide) hs rfl rfl rfl (Nat.le_of_ble_eq_true rfl) (by show fvR G a (up2 h.1 a 4 v a) _ _ _ = _; rw [up2_at]; rfl) (fun b hb => cel_sfi hb) hd k
theorem jg_RX6_9 {G : GG} {Y : MI} {d C q : Nat} {K : KQ} {pc : Nat} {lv : List (Nat × Value)} {st : List Value} {h : AH} {a n : Nat} (hY : Y.1.cls = RX6) (hs : SH a = (6, n)) (hd : decode Y.2.1 pc = .ok (.getfield 9, 3)) (k : J G Y d C q K (pc + 3) lv (.ref (ad G (a + 1)) :: st) h) : J G Y d C q K pc lv (.ref (ad G a) :: st) h := j_get (k0 := 4) hY ku_6 rfl (by decide) rfl kf_RX6_9 (by decide) hs rfl hd k
theorem jg_RX6_15 {G : GG} {Y : MI} {d C q : Nat} {K : KQ} {pc : Nat} {lv : List (Nat × Value)} {st : List Value} {h : AH} {a n : Nat} (hY : Y.1.cls = RX6) (hs : SH a = (6, n)) (hd : decode Y.2.1 pc = .ok (.getfield 15, 3)) (k : J G Y d C q K (pc + 3) lv (.ref (ad G (a + 2)) :: st) h) : J G Y d C q K pc lv (.ref (ad G a) :: st) h := j_get (k0 := 5) hY ku_6 rfl (by decide) rfl kf_RX6_15 (by decide) hs rfl hd k
theorem jg_RX6_18 {G : GG} {Y : MI} {d C q : Nat} {K : KQ} {pc : Nat} {lv : List (Nat × Value)} {st : List Value} {h : AH} {a n : Nat} (hY : Y.1.cls = RX6) (hs : SH a = (0, n)) (hd : decode Y.2.1 pc = .ok (.getfield 18, 3)) (k : J G Y d C q K (pc + 3) lv (.int (hfi h a 0) :: st) h) : J G Y d C q K pc lv (.ref (ad G a) :: st) h := j_get (k0 := 0) hY ku_0 rfl (by decide) rfl kf_RX6_18 (by decide) hs rfl hd k
theorem jp_RX6_18 {G : GG} {Y : MI} {d C q : Nat} {K : KQ} {pc : Nat} {lv : List (Nat × Value)} {st : List Value} {h : AH} {a n : Nat} {v : Int32} (hY : Y.1.cls = RX6) (hs : SH a = (0, n)) (hd : decode Y.2.1 pc = .ok (.putfield 18, 3)) (k : J G Y d C q K (pc + 3) lv st (sfi h a 0 v)) : J G Y d C q K pc lv (.int v :: .ref (ad G a) :: st) h := j_put (k0 := 0) tyX0 hY ku_0 tyX0_ok nmX0 rfl (by decide) rfl rfl kf_RX6_18 (by decide) hs rfl rfl rfl (Nat.le_of_ble_eq_true rfl) (by show fvR G a (up2 h.1 a 0 v a) _ _ _ = _; rw [up2_at]; rfl) (fun b hb => cel_sfi hb) hd k
theorem jg_RX6_24 {G : GG} {Y : MI} {d C q : Nat} {K : KQ} {pc : Nat} {lv : List (Nat × Value)} {st : List Value} {h : AH} {a n : Nat} (hY : Y.1.cls = RX6) (hs : SH a = (6, n)) (hd : decode Y.2.1 pc = .ok (.getfield 24, 3)) (k : J G Y d C q K (pc + 3) lv (.int (hfi h a 3) :: st) h) : J G Y d C q K pc lv (.ref (ad G a) :: st) h := j_get (k0 := 3) hY ku_6 rfl (by decide) rfl kf_RX6_24 (by decide) hs rfl hd k
theorem jp_RX6_24 {G : GG} {Y : MI} {d C q : Nat} {K : KQ} {pc : Nat} {lv : List (Nat × Value)} {st : List Value} {h : AH} {a n : Nat} {v : Int32} (hY : Y.1.cls = RX6) (hs : SH a = (6, n)) (hd : decode Y.2.1 pc = .ok (.putfield 24, 3)) (k : J G Y d C q K (pc + 3) lv st (sfi h a 3 v)) : J G Y d C q K pc lv (.int v :: .ref (ad G a) :: st) h := j_put (k0 := 3) tyX6 hY ku_6 tyX6_ok nmX6 rfl (by decide) rfl rfl kf_RX6_24 (by decide) hs rfl rfl rfl (Nat.le_of_ble_eq_true rfl) (by show fvR G a (up2 h.1 a 3 v a) _ _ _ = _; rw [up2_at]; rfl) (fun b hb => cel_sfi hb) hd k
theorem jg_RX6_25 {G : GG} {Y : MI} {d C q : Nat} {K : KQ} {pc : Nat} {lv : List (Nat × Value)} {st : List Value} {h : AH} {a n : Nat} (hY : Y.1.cls = RX6) (hs : SH a = (0, n)) (hd : decode Y.2.1 pc = .ok (.getfield 25, 3)) (k : J G Y d C q K (pc + 3) lv (.ref (ad G (a + 7)) :: st) h) : J G Y d C q K pc lv (.ref (ad G a) :: st) h := j_get (k0 := 12) hY ku_0 rfl (by decide) rfl kf_RX6_25 (by decide) hs rfl hd k
theorem jg_RX6_33 {G : GG} {Y : MI} {d C q : Nat} {K : KQ} {pc : Nat} {lv : List (Nat × Value)} {st : List Value} {h : AH} {a n : Nat} (hY : Y.1.cls = RX6) (hs : SH a = (0, n)) (hd : decode Y.2.1 pc = .ok (.getfield 33, 3)) (k : J G Y d C q K (pc + 3) lv (.ref (ad G (a + 6)) :: st) h) : J G Y d C q K pc lv (.ref (ad G a) :: st) h := j_get (k0 := 11) hY ku_0 rfl (by decide) rfl kf_RX6_33 (by decide) hs rfl hd k
theorem jg_RX6_53 {G : GG} {Y : MI} {d C q : Nat} {K : KQ} {pc : Nat} {lv : List (Nat × Value)} {st : List Value} {h : AH} {a n : Nat} (hY : Y.1.cls = RX6) (hs : SH a = (6, n)) (hd : decode Y.2.1 pc = .ok (.getfield 53, 3)) (k : J G Y d C q K (pc + 3) lv (.int (hfi h a 0) :: st) h) : J G Y d C q K pc lv (.ref (ad G a) :: st) h := j_get (k0 := 0) hY ku_6 rfl (by decide) rfl kf_RX6_53 (by decide) hs rfl hd k
theorem jp_RX6_53 {G : GG} {Y : MI} {d C q : Nat} {K : KQ} {pc : Nat} {lv : List (Nat × Value)} {st : List Value} {h : AH} {a n : Nat} {v : Int32} (hY : Y.1.cls = RX6) (hs : SH a = (6, n)) (hd : decode Y.2.1 pc = .ok (.putfield 53, 3)) (k : J G Y d C q K (pc + 3) lv st (sfi h a 0 v)) : J G Y d C q K pc lv (.int v :: .ref (ad G a) :: st) h := j_put (k0 := 0) tyX6 hY ku_6 tyX6_ok nmX6 rfl (by decide) rfl rfl kf_RX6_53 (by decide) hs rfl rfl rfl (Nat.le_of_ble_eq_true rfl) (by show fvR G a (up2 h.1 a 0 v a) _ _ _ = _; rw [up2_at]; rfl) (fun b hb => cel_sfi hb) hd k
theorem jg_RX6_56 {G : GG} {Y : MI} {d C q : Nat} {K : KQ} {pc : Nat} {lv : List (Nat × Value)} {st : List Value} {h : AH} {a n : Nat} (hY : Y.1.cls = RX6) (hs : SH a = (6, n)) (hd : decode Y.2.1 pc = .ok (.getfield 56, 3)) (k : J G Y d C q K (pc + 3) lv (.int (hfi h a 1) :: st) h) : J G Y d C q K pc lv (.ref (ad G a) :: st) h := j_get (k0 := 1) hY ku_6 rfl (by decide) rfl kf_RX6_56 (by decide) hs rfl hd k
theorem jp_RX6_56 {G : GG} {Y : MI} {d C q : Nat} {K : KQ} {pc : Nat} {lv : List (Nat × Value)} {st : List Value} {h : AH} {a n : Nat} {v : Int32} (hY : Y.1.cls = RX6) (hs : SH a = (6, n)) (hd : decode Y.2.1 pc = .ok (.putfield 56, 3)) (k : J G Y d C q K (pc + 3) lv st (sfi h a 1 v)) : J G Y d C q K pc lv (.int v :: .ref (ad G a) :: st) h := j_put (k0 := 1) tyX6 hY ku_6 tyX6_ok nmX6 rfl (by decide) rfl rfl kf_RX6_56 (by decide) hs rfl rfl rfl (Nat.le_of_ble_eq_true rfl) (by show fvR G a (up2 h.1 a 1 v a) _ _ _ = _; rw [up2_at]; rfl) (fun b hb => cel_sfi hb) hd k
theorem jg_RX6_62 {G : GG} {Y : MI} {d C q : Nat} {K : KQ} {pc : Nat} {lv : List (Nat × Value)} {st : List Value} {h : AH} {a n : Nat} (hY : Y.1.cls = RX6) (hs : SH a = (6, n)) (hd : decode Y.2.1 pc = .ok (.getfield 62, 3)) (k : J G Y d C q K (pc + 3) lv (.int (hfi h a 2) :: st) h) : J G Y d C q K pc lv (.ref (ad G a) :: st) h := j_get (k0 := 2) hY ku_6 rfl (by decide) rfl kf_RX6_62 (by decide) hs rfl hd k
theorem jp_RX6_62 {G : GG} {Y : MI} {d C q : Nat} {K : KQ} {pc : Nat} {lv : List (Nat × Value)} {st : List Value} {h : AH} {a n : Nat} {v : Int32} (hY : Y.1.cls = RX6) (hs : SH a = (6, n)) (hd : decode Y.2.1 pc = .ok (.putfield 62, 3)) (k : J G Y d C q K (pc + 3) lv st (sfi h a 2 v)) : J G Y d C q K pc lv (.int v :: .ref (ad G a) :: st) h := j_put (k0 := 2) tyX6 hY ku_6 tyX6_ok nmX6 rfl (by decide) rfl rfl kf_RX6_62 (by decide) hs rfl rfl rfl (Nat.le_of_ble_eq_true rfl) (by show fvR G a (up2 h.1 a 2 v a) _ _ _ = _; rw [up2_at]; rfl) (fun b hb => cel_sfi hb) hd k
theorem jg_RX7_9 {G : GG} {Y : MI} {d C q : Nat} {K : KQ} {pc : Nat} {lv : List (Nat × Value)} {st : List Value} {h : AH} {a n : Nat} (hY : Y.1.cls = RX7) (hs : SH a = (7, n)) (hd : decode Y.2.1 pc = .ok (.getfield 9, 3)) (k : J G Y d C q K (pc + 3) lv (.int (hfi h a 2) :: st) h) : J G Y d C q K pc lv (.ref (ad G a) :: st) h := j_get (k0 := 2) hY ku_7 rfl (by decide) rfl kf_RX7_9 (by decide) hs rfl hd k
theorem jp_RX7_9 {G : GG} {Y : MI} {d C q : Nat} {K : KQ} {pc : Nat} {lv : List (Nat × Value)} {st : List Value} {h : AH} {a n : Nat} {v : Int32} (hY : Y.1.cls = RX7) (hs : SH a = (7, n)) (hd : decode Y.2.1 pc = .ok (.putfield 9, 3)) (k : J G Y d C q K (pc + 3) lv st (sfi h a 2 v)) : J G Y d C q K pc lv (.int v :: .ref (ad G a) :: st) h := j_put (k0 := 2) tyX7 hY ku_7 tyX7_ok nmX7 rfl (by decide) rfl rfl kf_RX7_9 (by decide) hs rfl rfl rfl (Nat.le_of_ble_eq_true rfl) (by show fvR G a (up2 h.1 a 2 v a) _ _ _ = _; rw [up2_at]; rfl) (fun b hb => cel_sfi hb) hd k
theorem jg_RX7_15 {G : GG} {Y : MI} {d C q : Nat} {K : KQ} {pc : Nat} {lv : List (Nat × Value)} {st : List Value} {h : AH} {a n : Nat} (hY : Y.1.cls = RX7) (hs : SH a = (7, n)) (hd : decode Y.2.1 pc = .ok (.getfield 15, 3)) (k : J G Y d C q K (pc + 3) lv (.ref (ad G (a + 1)) :: st) h) : J G Y d C q K pc lv (.ref (ad G a) :: st) h := j_get (k0 := 5) hY ku_7 rfl (by decide) rfl kf_RX7_15 (by decide) hs rfl hd k
theorem jg_RX7_19 {G : GG} {Y : MI} {d C q : Nat} {K : KQ} {pc : Nat} {lv : List (Nat × Value)} {st : List Value} {h : AH} {a n : Nat} (hY : Y.1.cls = RX7) (hs : SH a = (7, n)) (hd : decode Y.2.1 pc = .ok (.getfield 19, 3)) (k : J G Y d C q K (pc + 3) lv (.int (hfi h a 0) :: st) h) : J G Y d C q K pc lv (.ref (ad G a) :: st) h := j_get (k0 := 0) hY ku_7 rfl (by decide) rfl kf_RX7_19 (by decide) hs rfl hd k
theorem jp_RX7_19 {G : GG} {Y : MI} {d C q : Nat} {K : KQ} {pc : Nat} {lv : List (Nat × Value)} {st : List Value} {h : AH} {a n : Nat} {v : Int32} (hY : Y.1.cls = RX7) (hs : SH a = (7, n)) (hd : decode Y.2.1 pc = .ok (.putfield 19, 3)) (k : J G Y d C q K (pc + 3) lv st (sfi h a 0 v)) : J G Y d C q K pc lv (.int v :: .ref (ad G a) :: st) h := j_put (k0 := 0) tyX7 hY ku_7 tyX7_ok nmX7 rfl (by decide) rfl rfl kf_RX7_19 (by decide) hs rfl rfl rfl (Nat.le_of_ble_eq_true rfl) (by show fvR G a (up2 h.1 a 0 v a) _ _ _ = _; rw [up2_at]; rfl) (fun b hb => cel_sfi hb) hd k
theorem jg_RX7_22 {G : GG} {Y : MI} {d C q : Nat} {K : KQ} {pc : Nat} {lv : List (Nat × Value)} {st : List Value} {h : AH} {a n : Nat} (hY : Y.1.cls = RX7) (hs : SH a = (7, n)) (hd : decode Y.2.1 pc = .ok (.getfield 22, 3)) (k : J G Y d C q K (pc + 3) lv (.int (hfi h a 6) :: st) h) : J G Y d C q K pc lv (.ref (ad G a) :: st) h := j_get (k0 := 6) hY ku_7 rfl (by decide) rfl kf_RX7_22 (by decide) hs rfl hd k
theorem jp_RX7_22 {G : GG} {Y : MI} {d C q : Nat} {K : KQ} {pc : Nat} {lv : List (Nat × Value)} {st : List Value} {h : AH} {a n : Nat} {v : Int32} (hY : Y.1.cls = RX7) (hs : SH a = (7, n)) (hd : decode Y.2.1 pc = .ok (.putfield 22, 3)) (k : J G Y d C q K (pc + 3) lv st (sfi h a 6 v)) : J G Y d C q K pc lv (.int v :: .ref (ad G a) :: st) h := j_put (k0 := 6) tyX7 hY ku_7 tyX7_ok nmX7 rfl (by decide) rfl rfl kf_RX7_22 (by decide) hs rfl rfl rfl (Nat.le_of_ble_eq_true rfl) (by show fvR G a (up2 h.1 a 6 v a) _ _ _ = _; rw [up2_at]; rfl) (fun b hb => cel_sfi hb) hd k
theorem jg_RX7_25 {G : GG} {Y : MI} {d C q : Nat} {K : KQ} {pc : Nat} {lv : List (Nat × Value)} {st : List Value} {h : AH} {a n : Nat} (hY : Y.1.cls = RX7) (hs : SH a = (7, n)) (hd : decode Y.2.1 pc = .ok (.getfield 25, 3)) (k : J G Y d C q K (pc + 3) lv (.int (hfi h a 1) :: st) h) : J G Y d C q K pc lv (.ref (ad G a) :: st) h := j_get (k0 := 1) hY ku_7 rfl (by decide) rfl kf_RX7_25 (by decide) hs rfl hd k
theorem jp_RX7_25 {G : GG} {Y : MI} {d C q : Nat} {K : KQ} {pc : Nat} {lv : List (Nat × Value)} {st : List Value} {h : AH} {a n : Nat} {v : Int32} (hY : Y.1.cls = RX7) (hs : SH a = (7, n)) (hd : decode Y.2.1 pc = .ok (.putfield 25, 3)) (k : J G Y d C q K (pc + 3) lv st (sfi h a 1 v)) : J G Y d C q K pc lv (.int v :: .ref (ad G a) :: st) h := j_put (k0 := 1) tyX7 hY ku_7 tyX7_ok nmX7 rfl (by decide) rfl rfl kf_RX7_25 (by decide) hs rfl rfl rfl (Nat.le_of_ble_eq_true rfl) (by show fvR G a (up2 h.1 a 1 v a) _ _ _ = _; rw [up2_at]; rfl) (fun b hb => cel_sfi hb) hd k
theorem jg_RX7_28 {G : GG} {Y : MI} {d C q : Nat} {K : KQ} {pc : Nat} {lv : List (Nat × Value)} {st : List Value} {h : AH} {a n : Nat} (hY : Y.1.cls = RX7) (hs : SH a = (7, n)) (hd : decode Y.2.1 pc = .ok (.getfield 28, 3)) (k : J G Y d C q K (pc + 3) lv (.int (hfi h a 4) :: st) h) : J G Y d C q K pc lv (.ref (ad G a) :: st) h := j_get (k0 := 4) hY ku_7 rfl (by decide) rfl kf_RX7_28 (by decide) hs rfl hd k
theorem jp_RX7_28 {G : GG} {Y : MI} {d C q : Nat} {K : KQ} {pc : Nat} {lv : List (Nat × Value)} {st : List Value} {h : AH} {a n : Nat} {v : Int32} (hY : Y.1.cls = RX7) (hs : SH a = (7, n)) (hd : decode Y.2.1 pc = .ok (.putfield 28, 3)) (k : J G Y d C q K (pc + 3) lv st (sfi h a 4 v)) : J G Y d C q K pc lv (.int v :: .ref (ad G a) :: st) h := j_put (k0 := 4) tyX7 hY ku_7 tyX7_ok nmX7 rfl (by decide) rfl rfl kf_RX7_28 (by decide) hs rfl rfl rfl (Nat.le_of_ble_eq_true rfl) (by show fvR G a (up2 h.1 a 4 v a) _ _ _ = _; rw [up2_at]; rfl) (fun b hb => cel_sfi hb) hd k
theorem jg_RX7_31 {G : GG} {Y : MI} {d C q : Nat} {K : KQ} {pc : Nat} {lv : List (Nat × Value)} {st : List Value} {h : AH} {a n : Nat} (hY : Y.1.cls = RX7) (hs : SH a = (7, n)) (hd : decode Y.2.1 pc = .ok (.getfield 31, 3)) (k : J G Y d C q K (pc + 3) lv (.int (hfi h a 7) :: st) h) : J G Y d C q K pc lv (.ref (ad G a) :: st) h := j_get (k0 := 7) hY ku_7 rfl (by decide) rfl kf_RX7_31 (by decide) hs rfl hd k
theorem jp_RX7_31 {G : GG} {Y : MI} {d C q : Nat} {K : KQ} {pc : Nat} {lv : List (Nat × Value)} {st : List Value} {h : AH} {a n : Nat} {v : Int32} (hY : Y.1.cls = RX7) (hs : SH a = (7, n)) (hd : decode Y.2.1 pc = .ok (.putfield 31, 3)) (k : J G Y d C q K (pc + 3) lv st (sfi h a 7 v)) : J G Y d C q K pc lv (.int v :: .ref (ad G a) :: st) h := j_put (k0 := 7) tyX7 hY ku_7 tyX7_ok nmX7 rfl (by decide) rfl rfl kf_RX7_31 (by decide) hs rfl rfl rfl (Nat.le_of_ble_eq_true rfl) (by show fvR G a (up2 h.1 a 7 v a) _ _ _ = _; rw [up2_at]; rfl) (fun b hb => cel_sfi hb) hd k
theorem jg_RX7_37 {G : GG} {Y : MI} {d C q : Nat} {K : KQ} {pc : Nat} {lv : List (Nat × Value)} {st : List Value} {h : AH} {a n : Nat} (hY : Y.1.cls = RX7) (hs : SH a = (7, n)) (hd : decode Y.2.1 pc = .ok (.getfield 37, 3)) (k : J G Y d C q K (pc + 3) lv (.int (hfi h a 8) :: st) h) : J G Y d C q K pc lv (.ref (ad G a) :: st) h := j_get (k0 := 8) hY ku_7 rfl (by decide) rfl kf_RX7_37 (by decide) hs rfl hd k
theorem jp_RX7_37 {G : GG} {Y : MI} {d C q : Nat} {K : KQ} {pc : Nat} {lv : List (Nat × Value)} {st : List Value} {h : AH} {a n : Nat} {v : Int32} (hY : Y.1.cls = RX7) (hs : SH a = (7, n)) (hd : decode Y.2.1 pc = .ok (.putfield 37, 3)) (k : J G Y d C q K (pc + 3) lv st (sfi h a 8 v)) : J G Y d C q K pc lv (.int v :: .ref (ad G a) :: st) h := j_put (k0 := 8) tyX7 hY ku_7 tyX7_ok nmX7 rfl (by decide) rfl rfl kf_RX7_37 (by decide) hs rfl rfl rfl (Nat.le_of_ble_eq_true rfl) (by show fvR G a (up2 h.1 a 8 v a) _ _ _ = _; rw [up2_at]; rfl) (fun b hb => cel_sfi hb) hd k
theorem jg_RX7_44 {G : GG} {Y : MI} {d C q : Nat} {K : KQ} {pc : Nat} {lv : List (Nat × Value)} {st : List Value} {h : AH} {a n : Nat} (hY : Y.1.cls = RX7) (hs : SH a = (7, n)) (hd : decode Y.2.1 pc = .ok (.getfield 44, 3)) (k : J G Y d C q K (pc + 3) lv (.int (hfi h a 3) :: st) h) : J G Y d C q K pc lv (.ref (ad G a) :: st) h := j_get (k0 := 3) hY ku_7 rfl (by decide) rfl kf_RX7_44 (by decide) hs rfl hd k
theorem jp_RX7_44 {G : GG} {Y : MI} {d C q : Nat} {K : KQ} {pc : Nat} {lv : List (Nat × Value)} {st : List Value} {h : AH} {a n : Nat} {v : Int32} (hY : Y.1.cls = RX7) (hs : SH a = (7, n)) (hd : decode Y.2.1 pc = .ok (.putfield 44, 3)) (k : J G Y d C q K (pc + 3) lv st (sfi h a 3 v)) : J G Y d C q K pc lv (.int v :: .ref (ad G a) :: st) h := j_put (k0 := 3) tyX7 hY ku_7 tyX7_ok nmX7 rfl (by decide) rfl rfl kf_RX7_44 (by decide) hs rfl rfl rfl (Nat.le_of_ble_eq_true rfl) (by show fvR G a (up2 h.1 a 3 v a) _ _ _ = _; rw [up2_at]; rfl) (fun b hb => cel_sfi hb) hd k
theorem jg_RX8_9 {G : GG} {Y : MI} {d C q : Nat} {K : KQ} {pc : Nat} {lv : List (Nat × Value)} {st : List Value} {h : AH} {a n : Nat} (hY : Y.1.cls = RX8) (hs : SH a = (8, n)) (hd : decode Y.2.1 pc = .ok (.getfield 9, 3)) (k : J G Y d C q K (pc + 3) lv (.ref (ad G (a + 1)) :: st) h) : J G Y d C q K pc lv (.ref (ad G a) :: st) h := j_get (k0 := 1) hY ku_8 rfl (by decide) rfl kf_RX8_9 (by decide) hs rfl hd k
theorem jg_RX8_15 {G : GG} {Y : MI} {d C q : Nat} {K : KQ} {pc : Nat} {lv : List (Nat × Value)} {st : List Value} {h : AH} {a n : Nat} (hY : Y.1.cls = RX8) (hs : SH a = (8, n)) (hd : decode Y.2.1 pc = .ok (.getfield 15, 3)) (k : J G Y d C q K (pc + 3) lv (.ref (ad G (a + 2)) :: st) h) : J G Y d C q K pc lv (.ref (ad G a) :: st) h := j_get (k0 := 2) hY ku_8 rfl (by decide) rfl kf_RX8_15 (by decide) hs rfl hd k
theorem jg_RX8_18 {G : GG} {Y : MI} {d C q : Nat} {K : KQ} {pc : Nat} {lv : List (Nat × Value)} {st : List Value} {h : AH} {a n : Nat} (hY : Y.1.cls = RX8) (hs : SH a = (8, n)) (hd : decode Y.2.1 pc = .ok (.getfield 18, 3)) (k : J G Y d C q K (pc + 3) lv (.int (hfi h a 0) :: st) h) : J G Y d C q K pc lv (.ref (ad G a) :: st) h := j_get (k0 := 0) hY ku_8 rfl (by decide) rfl kf_RX8_18 (by decide) hs rfl hd k
theorem jp_RX8_18 {G : GG} {Y : MI} {d C q : Nat} {K : KQ} {pc : Nat} {lv : List (Nat × Value)} {st : List Value} {h : AH} {a n : Nat} {v : Int32} (hY : Y.1.cls = RX8) (hs : SH a = (8, n)) (hd : decode Y.2.1 pc = .ok (.putfield 18, 3)) (k : J G Y d C q K (pc + 3) lv st (sfi h a 0 v)) : J G Y d C q K pc lv (.int v :: .ref (ad G a) :: st) h := j_put (k0 := 0) tyX8 hY ku_8 tyX8_ok nmX8 rfl (by decide) rfl rfl kf_RX8_18 (by decide) hs rfl rfl rfl (Nat.le_of_ble_eq_true rfl) (by show fvR G a (up2 h.1 a 0 v a) _ _ _ = _; rw [up2_at]; rfl) (fun b hb => cel_sfi hb) hd k
theorem jg_RX9_9 {G : GG} {Y : MI} {d C q : Nat} {K : KQ} {pc : Nat} {lv : List (Nat × Value)} {st : List Value} {h : AH} {a n : Nat} (hY : Y.1.cls = RX9) (hs : SH a = (9, n)) (hd : decode Y.2.1 pc = .ok (.getfield 9, 3)) (k : J G Y d C q K (pc + 3) lv (.ref (ad G (a + 1)) :: st) h) : J G Y d C q K pc lv (.ref (ad G a) :: st) h := j_get (k0 := 0) hY ku_9 rfl (by decide) rfl kf_RX9_9 (by decide) hs rfl hd k
theorem jg_RX9_15 {G : GG} {Y : MI} {d C q : Nat} {K : KQ} {pc : Nat} {lv : List (Nat × Value)} {st : List Value} {h : AH} {a n : Nat} (hY : Y.1.cls = RX9) (hs : SH a = (9, n)) (hd : decode Y.2.1 pc = .ok (.getfield 15, 3)) (k : J G Y d C q K (pc + 3) lv (.ref (ad G (a + 2)) :: st) h) : J G Y d C q K pc lv (.ref (ad G a) :: st) h := j_get (k0 := 1) hY ku_9 rfl (by decide) rfl kf_RX9_15 (by decide) hs rfl hd k
theorem jg_RX9_18 {G : GG} {Y : MI} {d C q : Nat} {K : KQ} {pc : Nat} {lv : List (Nat × Value)} {st : List Value} {h : AH} {a n : Nat} (hY : Y.1.cls = RX9) (hs : SH a = (9, n)) (hd : decode Y.2.1 pc = .ok (.getfield 18, 3)) (k : J G Y d C q K (pc + 3) lv (.ref (ad G (a + 3)) :: st) h) : J G Y d C q K pc lv (.ref (ad G a) :: st) h := j_get (k0 := 2) hY ku_9 rfl (by decide) rfl kf_RX9_18 (by decide) hs rfl hd k
theorem jg_RX9_21 {G : GG} {Y : MI} {d C q : Nat} {K : KQ} {pc : Nat} {lv : List (Nat × Value)} {st : List Value} {h : AH} {a n : Nat} (hY : Y.1.cls = RX9) (hs : SH a = (9, n)) (hd : decode Y.2.1 pc = .ok (.getfield 21, 3)) (k : J G Y d C q K (pc + 3) lv (.ref (ad G (a + 4)) :: st) h) : J G Y d C q K pc lv (.ref (ad G a) :: st) h := j_get (k0 := 3) hY ku_9 rfl (by decide) rfl kf_RX9_21 (by decide) hs rfl hd k
theorem jg_RX9_24 {G : GG} {Y : MI} {d C q : Nat} {K : KQ} {pc : Nat} {lv : List (Nat × Value)} {st : List Value} {h : AH} {a n : Nat} (hY : Y.1.cls = RX9) (hs : SH a = (9, n)) (hd : decode Y.2.1 pc = .ok (.getfield 24, 3)) (k : J G Y d C q K (pc + 3) lv (.ref (ad G (a + 5)) :: st) h) : J G Y d C q K pc lv (.ref (ad G a) :: st) h := j_get (k0 := 4) hY ku_9 rfl (by decide) rfl kf_RX9_24 (by decide) hs rfl hd k
theorem jg_RX9_27 {G : GG} {Y : MI} {d C q : Nat} {K : KQ} {pc : Nat} {lv : List (Nat × Value)} {st : List Value} {h : AH} {a n : Nat} (hY : Y.1.cls = RX9) (hs : SH a = (9, n)) (hd : decode Y.2.1 pc = .ok (.getfield 27, 3)) (k : J G Y d C q K (pc + 3) lv (.ref (ad G (a + 6)) :: st) h) : J G Y d C q K pc lv (.ref (ad G a) :: st) h := j_get (k0 := 5) hY ku_9 rfl (by decide) rfl kf_RX9_27 (by decide) hs rfl hd k
theorem jg_RX9_30 {G : GG} {Y : MI} {d C q : Nat} {K : KQ} {pc : Nat} {lv : List (Nat × Value)} {st : List Value} {h : AH} {a n : Nat} (hY : Y.1.cls = RX9) (hs : SH a = (9, n)) (hd : decode Y.2.1 pc = .ok (.getfield 30, 3)) (k : J G Y d C q K (pc + 3) lv (.ref (ad G (a + 7)) :: st) h) : J G Y d C q K pc lv (.ref (ad G a) :: st) h := j_get (k0 := 6) hY ku_9 rfl (by decide) rfl kf_RX9_30 (by decide) hs rfl hd k
theorem jg_RX9_33 {G : GG} {Y : MI} {d C q : Nat} {K : KQ} {pc : Nat} {lv : List (Nat × Value)} {st : List Value} {h : AH} {a n : Nat} (hY : Y.1.cls = RX9) (hs : SH a = (9, n)) (hd : decode Y.2.1 pc = .ok (.getfield 33, 3)) (k : J G Y d C q K (pc + 3) lv (.ref (ad G (a + 8)) :: st) h) : J G Y d C q K pc lv (.ref (ad G a) :: st) h := j_get (k0 := 7) hY ku_9 rfl (by decide) rfl kf_RX9_33 (by decide) hs rfl hd k
theorem jg_RX9_36 {G : GG} {Y : MI} {d C q : Nat} {K : KQ} {pc : Nat} {lv : List (Nat × Value)} {st : List Value} {h : AH} {a n : Nat} (hY : Y.1.cls = RX9) (hs : SH a = (0, n)) (hd : decode Y.2.1 pc = .ok (.getfield 36, 3)) (k : J G Y d C q K (pc + 3) lv (.int (hfi h a 0) :: st) h) : J G Y d C q K pc lv (.ref (ad G a) :: st) h := j_get (k0 := 0) hY ku_0 rfl (by decide) rfl kf_RX9_36 (by decide) hs rfl hd k
theorem jp_RX9_36 {G : GG} {Y : MI} {d C q : Nat} {K : KQ} {pc : Nat} {lv : List (Nat × Value)} {st : List Value} {h : AH} {a n : Nat} {v : Int32} (hY : Y.1.cls = RX9) (hs : SH a = (0, n)) (hd : decode Y.2.1 pc = .ok (.putfield 36, 3)) (k : J G Y d C q K (pc + 3) lv st (sfi h a 0 v)) : J G Y d C q K pc lv (.int v :: .ref (ad G a) :: st) h := j_put (k0 := 0) tyX0 hY ku_0 tyX0_ok nmX0 rfl (by decide) rfl rfl kf_RX9_36 (by decide) hs rfl rfl rfl (Nat.le_of_ble_eq_true rfl) (by show fvR G a (up2 h.1 a 0 v a) _ _ _ = _; rw [up2_at]; rfl) (fun b hb => cel_sfi hb) hd k
theorem jg_RX9_69 {G : GG} {Y : MI} {d C q : Nat} {K : KQ} {pc : Nat} {lv : List (Nat × Value)} {st : List Value} {h : AH} {a n : Nat} (hY : Y.1.cls = RX9) (hs : SH a = (0, n)) (hd : decode Y.2.1 pc = .ok (.getfield 69, 3)) (k : J G Y d C q K (pc + 3) lv (.ref (ad G (a + 6)) :: st) h) : J G Y d C q K pc lv (.ref (ad G a) :: st) h := j_get (k0 := 11) hY ku_0 rfl (by decide) rfl kf_RX9_69 (by decide) hs rfl hd k
theorem jg_RX9_78 {G : GG} {Y : MI} {d C q : Nat} {K : KQ} {pc : Nat} {lv : List (Nat × Value)} {st : List Value} {h : AH} {a n : Nat} (hY : Y.1.cls = RX9) (hs : SH a = (5, n)) (hd : decode Y.2.1 pc = .ok (.getfield 78, 3)) (k : J G Y d C q K (pc + 3) lv (.int (hfi h a 0) :: st) h) : J G Y d C q K pc lv (.ref (ad G a) :: st) h := j_get (k0 := 0) hY ku_5 rfl (by decide) rfl kf_RX9_78 (by decide) hs rfl hd k
theorem jp_RX9_78 {G : GG} {Y : MI} {d C q : Nat} {K : KQ} {pc : Nat} {lv : List (Nat × Value)} {st : List Value} {h : AH} {a n : Nat} {v : Int32} (hY : Y.1.cls = RX9) (hs : SH a = (5, n)) (hd : decode Y.2.1 pc = .ok (.putfield 78, 3)) (k : J G Y d C q K (pc + 3) lv st (sfi h a 0 v)) : J G Y d C q K pc lv (.int v :: .ref (ad G a) :: st) h := j_put (k0 := 0) tyX5 hY ku_5 tyX5_ok nmX5 rfl (by decide) rfl rfl kf_RX9_78 (by decide) hs rfl rfl rfl (Nat.le_of_ble_eq_true rfl) (by show fvR G a (up2 h.1 a 0 v a) _ _ _ = _; rw [up2_at]; rfl) (fun b hb => cel_sfi hb) hd k
theorem jg_RX9_97 {G : GG} {Y : MI} {d C q : Nat} {K : KQ} {pc : Nat} {lv : List (Nat × Value)} {st : List Value} {h : AH} {a n : Nat} (hY : Y.1.cls = RX9) (hs : SH a = (0, n)) (hd : decode Y.2.1 pc = .ok (.getfield 97, 3)) (k : J G Y d C q K (pc + 3) lv (.ref (ad G (a + 1)) :: st) h) : J G Y d C q K pc lv (.ref (ad G a) :: st) h := j_get (k0 := 6) hY ku_0 rfl (by decide) rfl kf_RX9_97 (by decide) hs rfl hd k
theorem jg_RX9_105 {G : GG} {Y : MI} {d C q : Nat} {K : KQ} {pc : Nat} {lv : List (Nat × Value)} {st : List Value} {h : AH} {a n : Nat} (hY : Y.1.cls = RX9) (hs : SH a = (0, n)) (hd : decode Y.2.1 pc = .ok (.getfield 105, 3)) (k : J G Y d C q K (pc + 3) lv (.ref (ad G (a + 2)) :: st) h) : J G Y d C q K pc lv (.ref (ad G a) :: st) h := j_get (k0 := 7) hY ku_0 rfl (by decide) rfl kf_RX9_105 (by decide) hs rfl hd k
theorem jg_RX9_108 {G : GG} {Y : MI} {d C q : Nat} {K : KQ} {pc : Nat} {lv : List (Nat × Value)} {st : List Value} {h : AH} {a n : Nat} (hY : Y.1.cls = RX9) (hs : SH a = (0, n)) (hd : decode Y.2.1 pc = .ok (.getfield 108, 3)) (k : J G Y d C q K (pc + 3) lv (.ref (ad G (a + 3)) :: st) h) : J G Y d C q K pc lv (.ref (ad G a) :: st) h := j_get (k0 := 8) hY ku_0 rfl (by decide) rfl kf_RX9_108 (by decide) hs rfl hd k
theorem jg_RX10_9 {G : GG} {Y : MI} {d C q : Nat} {K : KQ} {pc : Nat} {lv : List (Nat × Value)} {st : List Value} {h : AH} {a n : Nat} (hY : Y.1.cls = RX10) (hs : SH a = (10, n)) (hd : decode Y.2.1 pc = .ok (.getfield 9, 3)) (k : J G Y d C q K (pc + 3) lv (.ref (ad G (a + 1)) :: st) h) : J G Y d C q K pc lv (.ref (ad G a) :: st) h := j_get (k0 := 0) hY ku_10 rfl (by decide) rfl kf_RX10_9 (by decide) hs rfl hd k
theorem jg_RX10_15 {G : GG} {Y : MI} {d C q : Nat} {K : KQ} {pc : Nat} {lv : List (Nat × Value)} {st : List Value} {h : AH} {a n : Nat} (hY : Y.1.cls = RX10) (hs : SH a = (10, n)) (hd : decode Y.2.1 pc = .ok (.getfield 15, 3)) (k : J G Y d C q K (pc + 3) lv (.ref (ad G (a + 2)) :: st) h) : J G Y d C q K pc lv (.ref (ad G a) :: st) h := j_get (k0 := 1) hY ku_10 rfl (by decide) rfl kf_RX10_15 (by decide) hs rfl hd k
theorem jg_RX10_43 {G : GG} {Y : MI} {d C q : Nat} {K : KQ} {pc : Nat} {lv : List (Nat × Value)} {st : List Value} {h : AH} {a n : Nat} (hY : Y.1.cls = RX10) (hs : SH a = (7, n)) (hd : decode Y.2.1 pc = .ok (.getfield 43, 3)) (k : J G Y d C q K (pc + 3) lv (.int (hfi h a 3) :: st) h) : J G Y d C q K pc lv (.ref (ad G a) :: st) h := j_get (k0 := 3) hY ku_7 rfl (by decide) rfl kf_RX10_43 (by decide) hs rfl hd k
theorem jp_RX10_43 {G : GG} {Y : MI} {d C q : Nat} {K : KQ} {pc : Nat} {lv : List (Nat × Value)} {st : List Value} {h : AH} {a n : Nat} {v : Int32} (hY : Y.1.cls = RX10) (hs : SH a = (7, n)) (hd : decode Y.2.1 pc = .ok (.putfield 43, 3)) (k : J G Y d C q K (pc + 3) lv st (sfi h a 3 v)) : J G Y d C q K pc lv (.int v :: .ref (ad G a) :: st) h := j_put (k0 := 3) tyX7 hY ku_7 tyX7_ok nmX7 rfl (by decide) rfl rfl kf_RX10_43 (by decide) hs rfl rfl rfl (Nat.le_of_ble_eq_true rfl) (by show fvR G a (up2 h.1 a 3 v a) _ _ _ = _; rw [up2_at]; rfl) (fun b hb => cel_sfi hb) hd k
theorem jg_RX10_55 {G : GG} {Y : MI} {d C q : Nat} {K : KQ} {pc : Nat} {lv : List (Nat × Value)} {st : List Value} {h : AH} {a n : Nat} (hY : Y.1.cls = RX10) (hs : SH a = (7, n)) (hd : decode Y.2.1 pc = .ok (.getfield 55, 3)) (k : J G Y d C q K (pc + 3) lv (.int (hfi h a 4) :: st) h) : J G Y d C q K pc lv (.ref (ad G a) :: st) h := j_get (k0 := 4) hY ku_7 rfl (by decide) rfl kf_RX10_55 (by decide) hs rfl hd k
theorem jp_RX10_55 {G : GG} {Y : MI} {d C q : Nat} {K : KQ} {pc : Nat} {lv : List (Nat × Value)} {st : List Value} {h : AH} {a n : Nat} {v : Int32} (hY : Y.1.cls = RX10) (hs : SH a = (7, n)) (hd : decode Y.2.1 pc = .ok (.putfield 55, 3)) (k : J G Y d C q K (pc + 3) lv st (sfi h a 4 v)) : J G Y d C q K pc lv (.int v :: .ref (ad G a) :: st) h := j_put (k0 := 4) tyX7 hY ku_7 tyX7_ok nmX7 rfl (by decide) rfl rfl kf_RX10_55 (by decide) hs rfl rfl rfl (Nat.le_of_ble_eq_true rfl) (by show fvR G a (up2 h.1 a 4 v a) _ _ _ = _; rw [up2_at]; rfl) (fun b hb => cel_sfi hb) hd k
theorem jg_RX10_60 {G : GG} {Y : MI} {d C q : Nat} {K : KQ} {pc : Nat} {lv : List (Nat × Value)} {st : List Value} {h : AH} {a n : Nat} (hY : Y.1.cls = RX10) (hs : SH a = (7, n)) (hd : decode Y.2.1 pc = .ok (.getfield 60, 3)) (k : J G Y d C q K (pc + 3) lv (.int (hfi h a 1) :: st) h) : J G Y d C q K pc lv (.ref (ad G a) :: st) h := j_get (k0 := 1) hY ku_7 rfl (by decide) rfl kf_RX10_60 (by decide) hs rfl hd k
theorem jp_RX10_60 {G : GG} {Y : MI} {d C q : Nat} {K : KQ} {pc : Nat} {lv : List (Nat × Value)} {st : List Value} {h : AH} {a n : Nat} {v : Int32} (hY : Y.1.cls = RX10) (hs : SH a = (7, n)) (hd : decode Y.2.1 pc = .ok (.putfield 60, 3)) (k : J G Y d C q K (pc + 3) lv st (sfi h a 1 v)) : J G Y d C q K pc lv (.int v :: .ref (ad G a) :: st) h := j_put (k0 := 1) tyX7 hY ku_7 tyX7_ok nmX7 rfl (by decide) rfl rfl kf_RX10_60 (by decide) hs rfl rfl rfl (Nat.le_of_ble_eq_true rfl) (by show fvR G a (up2 h.1 a 1 v a) _ _ _ = _; rw [up2_at]; rfl) (fun b hb => cel_sfi hb) hd k
theorem jg_RX12_17 {G : GG} {Y : MI} {d C q : Nat} {K : KQ} {pc : Nat} {lv : List (Nat × Value)} {st : List Value} {h : AH} {a n : Nat} (hY : Y.1.cls = RX12) (hs : SH a = (12, n)) (hd : decode Y.2.1 pc = .ok (.getfield 17, 3)) (k : J G Y d C q K (pc + 3) lv (.ref (ad G (a + 1)) :: st) h) : J G Y d C q K pc lv (.ref (ad G a) :: st) h := j_get (k0 := 0) hY ku_12 rfl (by decide) rfl kf_RX12_17 (by decide) hs rfl hd k
theorem jg_RX12_29 {G : GG} {Y : MI} {d C q : Nat} {K : KQ} {pc : Nat} {lv : List (Nat × Value)} {st : List Value} {h : AH} {a n : Nat} (hY : Y.1.cls = RX12) (hs : SH a = (12, n)) (hd : decode Y.2.1 pc = .ok (.getfield 29, 3)) (k : J G Y d C q K (pc + 3) lv (.ref (ad G (a + 2)) :: st) h) : J G Y d C q K pc lv (.ref (ad G a) :: st) h := j_get (k0 := 1) hY ku_12 rfl (by decide) rfl kf_RX12_29 (by decide) hs rfl hd k
theorem jg_RX12_32 {G : GG} {Y : MI} {d C q : Nat} {K : KQ} {pc : Nat} {lv : List (Nat × Value)} {st : List Value} {h : AH} {a n : Nat} (hY : Y.1.cls = RX12) (hs : SH a = (12, n)) (hd : decode Y.2.1 pc = .ok (.getfield 32, 3)) (k : J G Y d C q K (pc + 3) lv (.ref (ad G (a + 3)) :: st) h) : J G Y d C q K pc lv (.ref (ad G a) :: st) h := j_get (k0 := 3) hY ku_12 rfl (by decide) rfl kf_RX12_32 (by decide) hs rfl hd k
theorem jg_RX12_36 {G : GG} {Y : MI} {d C q : Nat} {K : KQ} {pc : Nat} {lv : List (Nat × Value)} {st : List Value} {h : AH} {a n : Nat} (hY : Y.1.cls = RX12) (hs : SH a = (12, n)) (hd : decode Y.2.1 pc = .ok (.getfield 36, 3)) (k : J G Y d C q K (pc + 3) lv (.ref (ad G (a + 4)) :: st) h) : J G Y d C q K pc lv (.ref (ad G a) :: st) h := j_get (k0 := 4) hY ku_12 rfl (by decide) rfl kf_RX12_36 (by decide) hs rfl hd k
theorem jg_RX12_39 {G : GG} {Y : MI} {d C q : Nat} {K : KQ} {pc : Nat} {lv : List (Nat × Value)} {st : List Value} {h : AH} {a n : Nat} (hY : Y.1.cls = RX12) (hs : SH a = (12, n)) (hd : decode Y.2.1 pc = .ok (.getfield 39, 3)) (k : J G Y d C q K (pc + 3) lv (.ref (ad G (a + 5)) :: st) h) : J G Y d C q K pc lv (.ref (ad G a) :: st) h := j_get (k0 := 5) hY ku_12 rfl (by decide) rfl kf_RX12_39 (by decide) hs rfl hd k
theorem jg_RX12_41 {G : GG} {Y : MI} {d C q : Nat} {K : KQ} {pc : Nat} {lv : List (Nat × Value)} {st : List Value} {h : AH} {a n : Nat} (hY : Y.1.cls = RX12) (hs : SH a = (12, n)) (hd : decode Y.2.1 pc = .ok (.getfield 41, 3)) (k : J G Y d C q K (pc + 3) lv (.ref (ad G (a + 6)) :: st) h) : J G Y d C q K pc lv (.ref (ad G a) :: st) h := j_get (k0 := 6) hY ku_12 rfl (by decide) rfl kf_RX12_41 (by decide) hs rfl hd k
theorem jg_RX12_44 {G : GG} {Y : MI} {d C q : Nat} {K : KQ} {pc : Nat} {lv : List (Nat × Value)} {st : List Value} {h : AH} {a n : Nat} (hY : Y.1.cls = RX12) (hs : SH a = (12, n)) (hd : decode Y.2.1 pc = .ok (.getfield 44, 3)) (k : J G Y d C q K (pc + 3) lv (.ref (ad G (a + 7)) :: st) h) : J G Y d C q K pc lv (.ref (ad G a) :: st) h := j_get (k0 := 7) hY ku_12 rfl (by decide) rfl kf_RX12_44 (by decide) hs rfl hd k
theorem jg_RX12_47 {G : GG} {Y : MI} {d C q : Nat} {K : KQ} {pc : Nat} {lv : List (Nat × Value)} {st : List Value} {h : AH} {a n : Nat} (hY : Y.1.cls = RX12) (hs : SH a = (12, n)) (hd : decode Y.2.1 pc = .ok (.getfield 47, 3)) (k : J G Y d C q K (pc + 3) lv (.ref (ad G (a + 8)) :: st) h) : J G Y d C q K pc lv (.ref (ad G a) :: st) h := j_get (k0 := 8) hY ku_12 rfl (by decide) rfl kf_RX12_47 (by decide) hs rfl hd k
theorem jg_RX12_50 {G : GG} {Y : MI} {d C q : Nat} {K : KQ} {pc : Nat} {lv : List (Nat × Value)} {st : List Value} {h : AH} {a n : Nat} (hY : Y.1.cls = RX12) (hs : SH a = (12, n)) (hd : decode Y.2.1 pc = .ok (.getfield 50, 3)) (k : J G Y d C q K (pc + 3) lv (.ref (ad G (a + 9)) :: st) h) : J G Y d C q K pc lv (.ref (ad G a) :: st) h := j_get (k0 := 9) hY ku_12 rfl (by decide) rfl kf_RX12_50 (by decide) hs rfl hd k
theorem jg_RX12_53 {G : GG} {Y : MI} {d C q : Nat} {K : KQ} {pc : Nat} {lv : List (Nat × Value)} {st : List Value} {h : AH} {a n : Nat} (hY : Y.1.cls = RX12) (hs : SH a = (12, n)) (hd : decode Y.2.1 pc = .ok (.getfield 53, 3)) (k : J G Y d C q K (pc + 3) lv (.ref (ad G (a + 10)) :: st) h) : J G Y d C q K pc lv (.ref (ad G a) :: st) h := j_get (k0 := 10) hY ku_12 rfl (by decide) rfl kf_RX12_53 (by decide) hs rfl hd k
theorem jg_RX12_55 {G : GG} {Y : MI} {d C q : Nat} {K : KQ} {pc : Nat} {lv : List (Nat × Value)} {st : List Value} {h : AH} {a n : Nat} (hY : Y.1.cls = RX12) (hs : SH a = (12, n)) (hd : decode Y.2.1 pc = .ok (.getfield 55, 3)) (k : J G Y d C q K (pc + 3) lv (.ref (ad G (a + 11)) :: st) h) : J G Y d C q K pc lv (.ref (ad G a) :: st) h := j_get (k0 := 11) hY ku_12 rfl (by decide) rfl kf_RX12_55 (by decide) hs rfl hd k
theorem jg_RX12_58 {G : GG} {Y : MI} {d C q : Nat} {K : KQ} {pc : Nat} {lv : List (Nat × Value)} {st : List Value} {h : AH} {a n : Nat} (hY : Y.1.cls = RX12) (hs : SH a = (12, n)) (hd : decode Y.2.1 pc = .ok (.getfield 58, 3)) (k : J G Y d C q K (pc + 3) lv (.ref (ad G (a + 12)) :: st) h) : J G Y d C q K pc lv (.ref (ad G a) :: st) h := j_get (k0 := 12) hY ku_12 rfl (by decide) rfl kf_RX12_58 (by decide) hs rfl hd k
theorem jg_RX12_61 {G : GG} {Y : MI} {d C q : Nat} {K : KQ} {pc : Nat} {lv : List (Nat × Value)} {st : List Value} {h : AH} {a n : Nat} (hY : Y.1.cls = RX12) (hs : SH a = (12, n)) (hd : decode Y.2.1 pc = .ok (.getfield 61, 3)) (k : J G Y d C q K (pc + 3) lv (.ref (ad G (a + 13)) :: st) h) : J G Y d C q K pc lv (.ref (ad G a) :: st) h := j_get (k0 := 13) hY ku_12 rfl (by decide) rfl kf_RX12_61 (by decide) hs rfl hd k
theorem jg_RX12_64 {G : GG} {Y : MI} {d C q : Nat} {K : KQ} {pc : Nat} {lv : List (Nat × Value)} {st : List Value} {h : AH} {a n : Nat} (hY : Y.1.cls = RX12) (hs : SH a = (12, n)) (hd : decode Y.2.1 pc = .ok (.getfield 64, 3)) (k : J G Y d C q K (pc + 3) lv (.ref (ad G (a + 14)) :: st) h) : J G Y d C q K pc lv (.ref (ad G a) :: st) h := j_get (k0 := 14) hY ku_12 rfl (by decide) rfl kf_RX12_64 (by decide) hs rfl hd k
theorem jg_RX12_66 {G : GG} {Y : MI} {d C q : Nat} {K : KQ} {pc : Nat} {lv : List (Nat × Value)} {st : List Value} {h : AH} {a n : Nat} (hY : Y.1.cls = RX12) (hs : SH a = (12, n)) (hd : decode Y.2.1 pc = .ok (.getfield 66, 3)) (k : J G Y d C q K (pc + 3) lv (.ref (ad G (a + 15)) :: st) h) : J G Y d C q K pc lv (.ref (ad G a) :: st) h := j_get (k0 := 15) hY ku_12 rfl (by decide) rfl kf_RX12_66 (by decide) hs rfl hd k
theorem jg_RX12_69 {G : GG} {Y : MI} {d C q : Nat} {K : KQ} {pc : Nat} {lv : List (Nat × Value)} {st : List Value} {h : AH} {a n : Nat} (hY : Y.1.cls = RX12) (hs : SH a = (12, n)) (hd : decode Y.2.1 pc = .ok (.getfield 69, 3)) (k : J G Y d C q K (pc + 3) lv (.ref (ad G (a + 16)) :: st) h) : J G Y d C q K pc lv (.ref (ad G a) :: st) h := j_get (k0 := 16) hY ku_12 rfl (by decide) rfl kf_RX12_69 (by decide) hs rfl hd k
theorem jg_RX12_72 {G : GG} {Y : MI} {d C q : Nat} {K : KQ} {pc : Nat} {lv : List (Nat × Value)} {st : List Value} {h : AH} {a n : Nat} (hY : Y.1.cls = RX12) (hs : SH a = (12, n)) (hd : decode Y.2.1 pc = .ok (.getfield 72, 3)) (k : J G Y d C q K (pc + 3) lv (.ref (ad G (a + 17)) :: st) h) : J G Y d C q K pc lv (.ref (ad G a) :: st) h := j_get (k0 := 17) hY ku_12 rfl (by decide) rfl kf_RX12_72 (by decide) hs rfl hd k
theorem jg_RX12_75 {G : GG} {Y : MI} {d C q : Nat} {K : KQ} {pc : Nat} {lv : List (Nat × Value)} {st : List Value} {h : AH} {a n : Nat} (hY : Y.1.cls = RX12) (hs : SH a = (12, n)) (hd : decode Y.2.1 pc = .ok (.getfield 75, 3)) (k : J G Y d C q K (pc + 3) lv (.ref (ad G (a + 18)) :: st) h) : J G Y d C q K pc lv (.ref (ad G a) :: st) h := j_get (k0 := 18) hY ku_12 rfl (by decide) rfl kf_RX12_75 (by decide) hs rfl hd k
theorem jg_RX12_78 {G : GG} {Y : MI} {d C q : Nat} {K : KQ} {pc : Nat} {lv : List (Nat × Value)} {st : List Value} {h : AH} {a n : Nat} (hY : Y.1.cls = RX12) (hs : SH a = (12, n)) (hd : decode Y.2.1 pc = .ok (.getfield 78, 3)) (k : J G Y d C q K (pc + 3) lv (.ref (ad G (a + 19)) :: st) h) : J G Y d C q K pc lv (.ref (ad G a) :: st) h := j_get (k0 := 19) hY ku_12 rfl (by decide) rfl kf_RX12_78 (by decide) hs rfl hd k
theorem jg_RX12_81 {G : GG} {Y : MI} {d C q : Nat} {K : KQ} {pc : Nat} {lv : List (Nat × Value)} {st : List Value} {h : AH} {a n : Nat} (hY : Y.1.cls = RX12) (hs : SH a = (12, n)) (hd : decode Y.2.1 pc = .ok (.getfield 81, 3)) (k : J G Y d C q K (pc + 3) lv (.ref (ad G (a + 20)) :: st) h) : J G Y d C q K pc lv (.ref (ad G a) :: st) h := j_get (k0 := 20) hY ku_12 rfl (by decide) rfl kf_RX12_81 (by decide) hs rfl hd k
theorem jg_RX12_84 {G : GG} {Y : MI} {d C q : Nat} {K : KQ} {pc : Nat} {lv : List (Nat × Value)} {st : List Value} {h : AH} {a n : Nat} (hY : Y.1.cls = RX12) (hs : SH a = (12, n)) (hd : decode Y.2.1 pc = .ok (.getfield 84, 3)) (k : J G Y d C q K (pc + 3) lv (.ref (ad G (a + 21)) :: st) h) : J G Y d C q K pc lv (.ref (ad G a) :: st) h := j_get (k0 := 21) hY ku_12 rfl (by decide) rfl kf_RX12_84 (by decide) hs rfl hd k
theorem jg_RX12_87 {G : GG} {Y : MI} {d C q : Nat} {K : KQ} {pc : Nat} {lv : List (Nat × Value)} {st : List Value} {h : AH} {a n : Nat} (hY : Y.1.cls = RX12) (hs : SH a = (12, n)) (hd : decode Y.2.1 pc = .ok (.getfield 87, 3)) (k : J G Y d C q K (pc + 3) lv (.ref (ad G (a + 22)) :: st) h) : J G Y d C q K pc lv (.ref (ad G a) :: st) h := j_get (k0 := 22) hY ku_12 rfl (by decide) rfl kf_RX12_87 (by decide) hs rfl hd k
theorem jg_RX12_90 {G : GG} {Y : MI} {d C q : Nat} {K : KQ} {pc : Nat} {lv : List (Nat × Value)} {st : List Value} {h : AH} {a n : Nat} (hY : Y.1.cls = RX12) (hs : SH a = (12, n)) (hd : decode Y.2.1 pc = .ok (.getfield 90, 3)) (k : J G Y d C q K (pc + 3) lv (.ref (ad G (a + 23)) :: st) h) : J G Y d C q K pc lv (.ref (ad G a) :: st) h := j_get (k0 := 23) hY ku_12 rfl (by decide) rfl kf_RX12_90 (by decide) hs rfl hd k
theorem jg_RX12_93 {G : GG} {Y : MI} {d C q : Nat} {K : KQ} {pc : Nat} {lv : List (Nat × Value)} {st : List Value} {h : AH} {a n : Nat} (hY : Y.1.cls = RX12) (hs : SH a = (12, n)) (hd : decode Y.2.1 pc = .ok (.getfield 93, 3)) (k : J G Y d C q K (pc + 3) lv (.ref (ad G (a + 24)) :: st) h) : J G Y d C q K pc lv (.ref (ad G a) :: st) h := j_get (k0 := 24) hY ku_12 rfl (by decide) rfl kf_RX12_93 (by decide) hs rfl hd k
theorem jg_RX12_96 {G : GG} {Y : MI} {d C q : Nat} {K : KQ} {pc : Nat} {lv : List (Nat × Value)} {st : List Value} {h : AH} {a n : Nat} (hY : Y.1.cls = RX12) (hs : SH a = (12, n)) (hd : decode Y.2.1 pc = .ok (.getfield 96, 3)) (k : J G Y d C q K (pc + 3) lv (.ref (ad G (a + 25)) :: st) h) : J G Y d C q K pc lv (.ref (ad G a) :: st) h := j_get (k0 := 25) hY ku_12 rfl (by decide) rfl kf_RX12_96 (by decide) hs rfl hd k
theorem jg_RX12_99 {G : GG} {Y : MI} {d C q : Nat} {K : KQ} {pc : Nat} {lv : List (Nat × Value)} {st : List Value} {h : AH} {a n : Nat} (hY : Y.1.cls = RX12) (hs : SH a = (12, n)) (hd : decode Y.2.1 pc = .ok (.getfield 99, 3)) (k : J G Y d C q K (pc + 3) lv (.ref (ad G (a + 26)) :: st) h) : J G Y d C q K pc lv (.ref (ad G a) :: st) h := j_get (k0 := 26) hY ku_12 rfl (by decide) rfl kf_RX12_99 (by decide) hs rfl hd k
theorem jg_RX12_102 {G : GG} {Y : MI} {d C q : Nat} {K : KQ} {pc : Nat} {lv : List (Nat × Value)} {st : List Value} {h : AH} {a n : Nat} (hY : Y.1.cls = RX12) (hs : SH a = (12, n)) (hd : decode Y.2.1 pc = .ok (.getfield 102, 3)) (k : J G Y d C q K (pc + 3) lv (.int (hfi h a 36) :: st) h) : J G Y d C q K pc lv (.ref (ad G a) :: st) h := j_get (k0 := 36) hY ku_12 rfl (by decide) rfl kf_RX12_102 (by decide) hs rfl hd k
theorem jp_RX12_102 {G : GG} {Y : MI} {d C q : Nat} {K : KQ} {pc : Nat} {lv : List (Nat × Value)} {st : List Value} {h : AH} {a n : Nat} {v : Int32} (hY : Y.1.cls = RX12) (hs : SH a = (12, n)) (hd : decode Y.2.1 pc = .ok (.putfield 102, 3)) (k : J G Y d C q K (pc + 3) lv st (sfi h a 36 v)) : J G Y d C q K pc lv (.int v :: .ref (ad G a) :: st) h := j_put (k0 := 36) tyX12 hY ku_12 tyX12_ok nmX12 rfl (by decide) rfl rfl kf_RX12_102 (by decide) hs rfl rfl rfl (Nat.le_of_ble_eq_true rfl) (by show fvR G a (up2 h.1 a 36 v a) _ _ _ = _; rw [up2_at]; rfl) (fun b hb => cel_sfi hb) hd k
theorem jg_RX12_106 {G : GG} {Y : MI} {d C q : Nat} {K : KQ} {pc : Nat} {lv : List (Nat × Value)} {st : List Value} {h : AH} {a n : Nat} (hY : Y.1.cls = RX12) (hs : SH a = (12, n)) (hd : decode Y.2.1 pc = .ok (.getfield 106, 3)) (k : J G Y d C q K (pc + 3) lv (.ref (ad G (a + 27)) :: st) h) : J G Y d C q K pc lv (.ref (ad G a) :: st) h := j_get (k0 := 37) hY ku_12 rfl (by decide) rfl kf_RX12_106 (by decide) hs rfl hd k
theorem jg_RX12_109 {G : GG} {Y : MI} {d C q : Nat} {K : KQ} {pc : Nat} {lv : List (Nat × Value)} {st : List Value} {h : AH} {a n : Nat} (hY : Y.1.cls = RX12) (hs : SH a = (12, n)) (hd : decode Y.2.1 pc = .ok (.getfield 109, 3)) (k : J G Y d C q K (pc + 3) lv (.ref (ad G (a + 28)) :: st) h) : J G Y d C q K pc lv (.ref (ad G a) :: st) h := j_get (k0 := 38) hY ku_12 rfl (by decide) rfl kf_RX12_109 (by decide) hs rfl hd k
theorem jg_RX12_112 {G : GG} {Y : MI} {d C q : Nat} {K : KQ} {pc : Nat} {lv : List (Nat × Value)} {st : List Value} {h : AH} {a n : Nat} (hY : Y.1.cls = RX12) (hs : SH a = (12, n)) (hd : decode Y.2.1 pc = .ok (.getfield 112, 3)) (k : J G Y d C q K (pc + 3) lv (.ref (ad G (a + 29)) :: st) h) : J G Y d C q K pc lv (.ref (ad G a) :: st) h := j_get (k0 := 39) hY ku_12 rfl (by decide) rfl kf_RX12_112 (by decide) hs rfl hd k
theorem jg_RX12_115 {G : GG} {Y : MI} {d C q : Nat} {K : KQ} {pc : Nat} {lv : List (Nat × Value)} {st : List Value} {h : AH} {a n : Nat} (hY : Y.1.cls = RX12) (hs : SH a = (12, n)) (hd : decode Y.2.1 pc = .ok (.getfield 115, 3)) (k : J G Y d C q K (pc + 3) lv (.ref (ad G (a + 30)) :: st) h) : J G Y d C q K pc lv (.ref (ad G a) :: st) h := j_get (k0 := 41) hY ku_12 rfl (by decide) rfl kf_RX12_115 (by decide) hs rfl hd k
theorem jg_RX12_119 {G : GG} {Y : MI} {d C q : Nat} {K : KQ} {pc : Nat} {lv : List (Nat × Value)} {st : List Value} {h : AH} {a n : Nat} (hY : Y.1.cls = RX12) (hs : SH a = (12, n)) (hd : decode Y.2.1 pc = .ok (.getfield 119, 3)) (k : J G Y d C q K (pc + 3) lv (.ref (ad G (a + 31)) :: st) h) : J G Y d C q K pc lv (.ref (ad G a) :: st) h := j_get (k0 := 42) hY ku_12 rfl (by decide) rfl kf_RX12_119 (by decide) hs rfl hd k
theorem jg_RX12_122 {G : GG} {Y : MI} {d C q : Nat} {K : KQ} {pc : Nat} {lv : List (Nat × Value)} {st : List Value} {h : AH} {a n : Nat} (hY : Y.1.cls = RX12) (hs : SH a = (12, n)) (hd : decode Y.2.1 pc = .ok (.getfield 122, 3)) (k : J G Y d C q K (pc + 3) lv (.ref (ad G (a + 32)) :: st) h) : J G Y d C q K pc lv (.ref (ad G a) :: st) h := j_get (k0 := 43) hY ku_12 rfl (by decide) rfl kf_RX12_122 (by decide) hs rfl hd k
theorem jg_RX12_125 {G : GG} {Y : MI} {d C q : Nat} {K : KQ} {pc : Nat} {lv : List (Nat × Value)} {st : List Value} {h : AH} {a n : Nat} (hY : Y.1.cls = RX12) (hs : SH a = (12, n)) (hd : decode Y.2.1 pc = .ok (.getfield 125, 3)) (k : J G Y d C q K (pc + 3) lv (.ref (ad G (a + 33)) :: st) h) : J G Y d C q K pc lv (.ref (ad G a) :: st) h := j_get (k0 := 44) hY ku_12 rfl (by decide) rfl kf_RX12_125 (by decide) hs rfl hd k
theorem jg_RX12_128 {G : GG} {Y : MI} {d C q : Nat} {K : KQ} {pc : Nat} {lv : List (Nat × Value)} {st : List Value} {h : AH} {a n : Nat} (hY : Y.1.cls = RX12) (hs : SH a = (12, n)) (hd : decode Y.2.1 pc = .ok (.getfield 128, 3)) (k : J G Y d C q K (pc + 3) lv (.ref (ad G (a + 34)) :: st) h) : J G Y d C q K pc lv (.ref (ad G a) :: st) h := j_get (k0 := 45) hY ku_12 rfl (by decide) rfl kf_RX12_128 (by decide) hs rfl hd k
theorem jg_RX12_131 {G : GG} {Y : MI} {d C q : Nat} {K : KQ} {pc : Nat} {lv : List (Nat × Value)} {st : List Value} {h : AH} {a n : Nat} (hY : Y.1.cls = RX12) (hs : SH a = (12, n)) (hd : decode Y.2.1 pc = .ok (.getfield 131, 3)) (k : J G Y d C q K (pc + 3) lv (.ref (ad G (a + 35)) :: st) h) : J G Y d C q K pc lv (.ref (ad G a) :: st) h := j_get (k0 := 46) hY ku_12 rfl (by decide) rfl kf_RX12_131 (by decide) hs rfl hd k
theorem jg_RX12_134 {G : GG} {Y : MI} {d C q : Nat} {K : KQ} {pc : Nat} {lv : List (Nat × Value)} {st : List Value} {h : AH} {a n : Nat} (hY : Y.1.cls = RX12) (hs : SH a = (12, n)) (hd : decode Y.2.1 pc = .ok (.getfield 134, 3)) (k : J G Y d C q K (pc + 3) lv (.int (hfi h a 49) :: st) h) : J G Y d C q K pc lv (.ref (ad G a) :: st) h := j_get (k0 := 49) hY ku_12 rfl (by decide) rfl kf_RX12_134 (by decide) hs rfl hd k
theorem jp_RX12_134 {G : GG} {Y : MI} {d C q : Nat} {K : KQ} {pc : Nat} {lv : List (Nat × Value)} {st : List Value} {h : AH} {a n : Nat} {v : Int32} (hY : Y.1.cls = RX12) (hs : SH a = (12, n)) (hd : decode Y.2.1 pc = .ok (.putfield 134, 3)) (k : J G Y d C q K (pc + 3) lv st (sfi h a 49 v)) : J G Y d C q K pc lv (.int v :: .ref (ad G a) :: st) h := j_put (k0 := 49) tyX12 hY ku_12 tyX12_ok nmX12 rfl (by decide) rfl rfl kf_RX12_134 (by decide) hs rfl rfl rfl (Nat.le_of_ble_eq_true rfl) (by show fvR G a (up2 h.1 a 49 v a) _ _ _ = _; rw [up2_at]; rfl) (fun b hb => cel_sfi hb) hd k
theorem jg_RX12_137 {G : GG} {Y : MI} {d C q : Nat} {K : KQ} {pc : Nat} {lv : List (Nat × Value)} {st : List Value} {h : AH} {a n : Nat} (hY : Y.1.cls = RX12) (hs : SH a = (12, n)) (hd : decode Y.2.1 pc = .ok (.getfield 137, 3)) (k : J G Y d C q K (pc + 3) lv (.ref (ad G (a + 36)) :: st) h) : J G Y d C q K pc lv (.ref (ad G a) :: st) h := j_get (k0 := 51) hY ku_12 rfl (by decide) rfl kf_RX12_137 (by decide) hs rfl hd k
theorem jg_RX12_140 {G : GG} {Y : MI} {d C q : Nat} {K : KQ} {pc : Nat} {lv : List (Nat × Value)} {st : List Value} {h : AH} {a n : Nat} (hY : Y.1.cls = RX12) (hs : SH a = (12, n)) (hd : decode Y.2.1 pc = .ok (.getfield 140, 3)) (k : J G Y d C q K (pc + 3) lv (.ref (ad G (a + 37)) :: st) h) : J G Y d C q K pc lv (.ref (ad G a) :: st) h := j_get (k0 := 53) hY ku_12 rfl (by decide) rfl kf_RX12_140 (by decide) hs rfl hd k
theorem jg_RX12_143 {G : GG} {Y : MI} {d C q : Nat} {K : KQ} {pc : Nat} {lv : List (Nat × Value)} {st : List Value} {h : AH} {a n : Nat} (hY : Y.1.cls = RX12) (hs : SH a = (12, n)) (hd : decode Y.2.1 pc = .ok (.getfield 143, 3)) (k : J G Y d C q K (pc + 3) lv (.ref (ad G (a + 38)) :: st) h) : J G Y d C q K pc lv (.ref (ad G a) :: st) h := j_get (k0 := 54) hY ku_12 rfl (by decide) rfl kf_RX12_143 (by decide) hs rfl hd k
theorem jg_RX12_146 {G : GG} {Y : MI} {d C q : Nat} {K : KQ} {pc : Nat} {lv : List (Nat × Value)} {st : List Value} {h : AH} {a n : Nat} (hY : Y.1.cls = RX12) (hs : SH a = (12, n)) (hd : decode Y.2.1 pc = .ok (.getfield 146, 3)) (k : J G Y d C q K (pc + 3) lv (.ref (ad G (a + 39)) :: st) h) : J G Y d C q K pc lv (.ref (ad G a) :: st) h := j_get (k0 := 56) hY ku_12 rfl (by decide) rfl kf_RX12_146 (by decide) hs rfl hd k
theorem jg_RX12_149 {G : GG} {Y : MI} {d C q : Nat} {K : KQ} {pc : Nat} {lv : List (Nat × Value)} {st : List Value} {h : AH} {a n : Nat} (hY : Y.1.cls = RX12) (hs : SH a = (12, n)) (hd : decode Y.2.1 pc = .ok (.getfield 149, 3)) (k : J G Y d C q K (pc + 3) lv (.ref (ad G (a + 40)) :: st) h) : J G Y d C q K pc lv (.ref (ad G a) :: st) h := j_get (k0 := 57) hY ku_12 rfl (by decide) rfl kf_RX12_149 (by decide) hs rfl hd k
theorem jg_RX12_152 {G : GG} {Y : MI} {d C q : Nat} {K : KQ} {pc : Nat} {lv : List (Nat × Value)} {st : List Value} {h : AH} {a n : Nat} (hY : Y.1.cls = RX12) (hs : SH a = (12, n)) (hd : decode Y.2.1 pc = .ok (.getfield 152, 3)) (k : J G Y d C q K (pc + 3) lv (.ref (ad G (a + 41)) :: st) h) : J G Y d C q K pc lv (.ref (ad G a) :: st) h := j_get (k0 := 58) hY ku_12 rfl (by decide) rfl kf_RX12_152 (by decide) hs rfl hd k
theorem jg_RX12_155 {G : GG} {Y : MI} {d C q : Nat} {K : KQ} {pc : Nat} {lv : List (Nat × Value)} {st : List Value} {h : AH} {a n : Nat} (hY : Y.1.cls = RX12) (hs : SH a = (12, n)) (hd : decode Y.2.1 pc = .ok (.getfield 155, 3)) (k : J G Y d C q K (pc + 3) lv (.ref (ad G (a + 42)) :: st) h) : J G Y d C q K pc lv (.ref (ad G a) :: st) h := j_get (k0 := 59) hY ku_12 rfl (by decide) rfl kf_RX12_155 (by decide) hs rfl hd k
theorem jg_RX12_158 {G : GG} {Y : MI} {d C q : Nat} {K : KQ} {pc : Nat} {lv : List (Nat × Value)} {st : List Value} {h : AH} {a n : Nat} (hY : Y.1.cls = RX12) (hs : SH a = (12, n)) (hd : decode Y.2.1 pc = .ok (.getfield 158, 3)) (k : J G Y d C q K (pc + 3) lv (.int (hfi h a 2) :: st) h) : J G Y d C q K pc lv (.ref (ad G a) :: st) h := j_get (k0 := 2) hY ku_12 rfl (by decide) rfl kf_RX12_158 (by decide) hs rfl hd k
theorem jp_RX12_158 {G : GG} {Y : MI} {d C q : Nat} {K : KQ} {pc : Nat} {lv : List (Nat × Value)} {st : List Value} {h : AH} {a n : Nat} {v : Int32} (hY : Y.1.cls = RX12) (hs : SH a = (12, n)) (hd : decode Y.2.1 pc = .ok (.putfield 158, 3)) (k : J G Y d C q K (pc + 3) lv st (sfi h a 2 v)) : J G Y d C q K pc lv (.int v :: .ref (ad G a) :: st) h := j_put (k0 := 2) tyX12 hY ku_12 tyX12_ok nmX12 rfl (by decide) rfl rfl kf_RX12_158 (by decide) hs rfl rfl rfl (Nat.le_of_ble_eq_true rfl) (by show fvR G a (up2 h.1 a 2 v a) _ _ _ = _; rw [up2_at]; rfl) (fun b hb => cel_sfi hb) hd k
theorem jg_RX12_169 {G : GG} {Y : MI} {d C q : Nat} {K : KQ} {pc : Nat} {lv : List (Nat × Value)} {st : List Value} {h : AH} {a n : Nat} (hY : Y.1.cls = RX12) (hs : SH a = (12, n)) (hd : decode Y.2.1 pc = .ok (.getfield 169, 3)) (k : J G Y d C q K (pc + 3) lv (.int (hfi h a 27) :: st) h) : J G Y d C q K pc lv (.ref (ad G a) :: st) h := j_get (k0 := 27) hY ku_12 rfl (by decide) rfl kf_RX12_169 (by decide) hs rfl hd k
theorem jp_RX12_169 {G : GG} {Y : MI} {d C q : Nat} {K : KQ} {pc : Nat} {lv : List (Nat × Value)} {st : List Value} {h : AH} {a n : Nat} {v : Int32} (hY : Y.1.cls = RX12) (hs : SH a = (12, n)) (hd : decode Y.2.1 pc = .ok (.putfield 169, 3)) (k : J G Y d C q K (pc + 3) lv st (sfi h a 27 v)) : J G Y d C q K pc lv (.int v :: .ref (ad G a) :: st) h := j_put (k0 := 27) tyX12 hY ku_12 tyX12_ok nmX12 rfl (by decide) rfl rfl kf_RX12_169 (by decide) hs rfl rfl rfl (Nat.le_of_ble_eq_true rfl) (by show fvR G a (up2 h.1 a 27 v a) _ _ _ = _; rw [up2_at]; rfl) (fun b hb => cel_sfi hb) hd k
theorem jg_RX12_172 {G : GG} {Y : MI} {d C q : Nat} {K : KQ} {pc : Nat} {lv : List (Nat × Value)} {st : List Value} {h : AH} {a n : Nat} (hY : Y.1.cls = RX12) (hs : SH a = (12, n)) (hd : decode Y.2.1 pc = .ok (.getfield 172, 3)) (k : J G Y d C q K (pc + 3) lv (.int (hfi h a 29) :: st) h) : J G Y d C q K pc lv (.ref (ad G a) :: st) h := j_get (k0 := 29) hY ku_12 rfl (by decide) rfl kf_RX12_172 (by decide) hs rfl hd k
theorem jp_RX12_172 {G : GG} {Y : MI} {d C q : Nat} {K : KQ} {pc : Nat} {lv : List (Nat × Value)} {st : List Value} {h : AH} {a n : Nat} {v : Int32} (hY : Y.1.cls = RX12) (hs : SH a = (12, n)) (hd : decode Y.2.1 pc = .ok (.putfield 172, 3)) (k : J G Y d C q K (pc + 3) lv st (sfi h a 29 v)) : J G Y d C q K pc lv (.int v :: .ref (ad G a) :: st) h := j_put (k0 := 29) tyX12 hY ku_12 tyX12_ok nmX12 rfl (by decide) rfl rfl kf_RX12_172 (by decide) hs rfl rfl rfl (Nat.le_of_ble_eq_true rfl) (by show fvR G a (up2 h.1 a 29 v a) _ _ _ = _; rw [up2_at]; rfl) (fun b hb => cel_sfi hb) hd k
theorem jg_RX12_175 {G : GG} {Y : MI} {d C q : Nat} {K : KQ} {pc : Nat} {lv : List (Nat × Value)} {st : List Value} {h : AH} {a n : Nat} (hY : Y.1.cls = RX12) (hs : SH a = (12, n)) (hd : decode Y.2.1 pc = .ok (.getfield 175, 3)) (k : J G Y d C q K (pc + 3) lv (.int (hfi h a 28) :: st) h) : J G Y d C q K pc lv (.ref (ad G a) :: st) h := j_get (k0 := 28) hY ku_12 rfl (by decide) rfl kf_RX12_175 (by decide) hs rfl hd k
theorem jp_RX12_175 {G : GG} {Y : MI} {d C q : Nat} {K : KQ} {pc : Nat} {lv : List (Nat × Value)} {st : List Value} {h : AH} {a n : Nat} {v : Int32} (hY : Y.1.cls = RX12) (hs : SH a = (12, n)) (hd : decode Y.2.1 pc = .ok (.putfield 175, 3)) (k : J G Y d C q K (pc + 3) lv st (sfi h a 28 v)) : J G Y d C q K pc lv (.int v :: .ref (ad G a) :: st) h := j_put (k0 := 28) tyX12 hY ku_12 tyX12_ok nmX12 rfl (by decide) rfl rfl kf_RX12_175 (by decide) hs rfl rfl rfl (Nat.le_of_ble_eq_true rfl) (by show fvR G a (up2 h.1 a 28 v a) _ _ _ = _; rw [up2_at]; rfl) (fun b hb => cel_sfi hb) hd k
theorem jg_RX12_182 {G : GG} {Y : MI} {d C q : Nat} {K : KQ} {pc : Nat} {lv : List (Nat × Value)} {st : List Value} {h : AH} {a n : Nat} (hY : Y.1.cls = RX12) (hs : SH a = (12, n)) (hd : decode Y.2.1 pc = .ok (.getfield 182, 3)) (k : J G Y d C q K (pc + 3) lv (.int (hfi h a 32) :: st) h) : J G Y d C q K pc lv (.ref (ad G a) :: st) h := j_get (k0 := 32) hY ku_12 rfl (by decide) rfl kf_RX12_182 (by decide) hs rfl hd k
theorem jp_RX12_182 {G : GG} {Y : MI} {d C q : Nat} {K : KQ} {pc : Nat} {lv : List (Nat × Value)} {st : List Value} {h : AH} {a n : Nat} {v : Int32} (hY : Y.1.cls = RX12) (hs : SH a = (12, n)) (hd : decode Y.2.1 pc = .ok (.putfield 182, 3)) (k : J G Y d C q K (pc + 3) lv st (sfi h a 32 v)) : J G Y d C q K pc lv (.int v :: .ref (ad G a) :: st) h := j_put (k0 := 32) tyX12 hY ku_12 tyX12_ok nmX12 rfl (by decide) rfl rfl kf_RX12_182 (by decide) hs rfl rfl rfl (Nat.le_of_ble_eq_true rfl) (by show fvR G a (up2 h.1 a 32 v a) _ _ _ = _; rw [up2_at]; rfl) (fun b hb => cel_sfi hb) hd k
theorem jg_RX12_185 {G : GG} {Y : MI} {d C q : Nat} {K : KQ} {pc : Nat} {lv : List (Nat × Value)} {st : List Value} {h : AH} {a n : Nat} (hY : Y.1.cls = RX12) (hs : SH a = (12, n)) (hd : decode Y.2.1 pc = .ok (.getfield 185, 3)) (k : J G Y d C q K (pc + 3) lv (.int (hfi h a 30) :: st) h) : J G Y d C q K pc lv (.ref (ad G a) :: st) h := j_get (k0 := 30) hY ku_12 rfl (by decide) rfl kf_RX12_185 (by decide) hs rfl hd k
theorem jp_RX12_185 {G : GG} {Y : MI} {d C q : Nat} {K : KQ} {pc : Nat} {lv : List (Nat × Value)} {st : List Value} {h : AH} {a n : Nat} {v : Int32} (hY : Y.1.cls = RX12) (hs : SH a = (12, n)) (hd : decode Y.2.1 pc = .ok (.putfield 185, 3)) (k : J G Y d C q K (pc + 3) lv st (sfi h a 30 v)) : J G Y d C q K pc lv (.int v :: .ref (ad G a) :: st) h := j_put (k0 := 30) tyX12 hY ku_12 tyX12_ok nmX12 rfl (by decide) rfl rfl kf_RX12_185 (by decide) hs rfl rfl rfl (Nat.le_of_ble_eq_true rfl) (by show fvR G a (up2 h.1 a 30 v a) _ _ _ = _; rw [up2_at]; rfl) (fun b hb => cel_sfi hb) hd k
theorem jg_RX12_194 {G : GG} {Y : MI} {d C q : Nat} {K : KQ} {pc : Nat} {lv : List (Nat × Value)} {st : List Value} {h : AH} {a n : Nat} (hY : Y.1.cls = RX12) (hs : SH a = (12, n)) (hd : decode Y.2.1 pc = .ok (.getfield 194, 3)) (k : J G Y d C q K (pc + 3) lv (.int (hfi h a 31) :: st) h) : J G Y d C q K pc lv (.ref (ad G a) :: st) h := j_get (k0 := 31) hY ku_12 rfl (by decide) rfl kf_RX12_194 (by decide) hs rfl hd k
theorem jp_RX12_194 {G : GG} {Y : MI} {d C q : Nat} {K : KQ} {pc : Nat} {lv : List (Nat × Value)} {st : List Value} {h : AH} {a n : Nat} {v : Int32} (hY : Y.1.cls = RX12) (hs : SH a = (12, n)) (hd : decode Y.2.1 pc = .ok (.putfield 194, 3)) (k : J G Y d C q K (pc + 3) lv st (sfi h a 31 v)) : J G Y d C q K pc lv (.int v :: .ref (ad G a) :: st) h := j_put (k0 := 31) tyX12 hY ku_12 tyX12_ok nmX12 rfl (by decide) rfl rfl kf_RX12_194 (by decide) hs rfl rfl rfl (Nat.le_of_ble_eq_true rfl) (by show fvR G a (up2 h.1 a 31 v a) _ _ _ = _; rw [up2_at]; rfl) (fun b hb => cel_sfi hb) hd k
theorem jg_RX12_204 {G : GG} {Y : MI} {d C q : Nat} {K : KQ} {pc : Nat} {lv : List (Nat × Value)} {st : List Value} {h : AH} {a n : Nat} (hY : Y.1.cls = RX12) (hs : SH a = (12, n)) (hd : decode Y.2.1 pc = .ok (.getfield 204, 3)) (k : J G Y d C q K (pc + 3) lv (.int (hfi h a 33) :: st) h) : J G Y d C q K pc lv (.ref (ad G a) :: st) h := j_get (k0 := 33) hY ku_12 rfl (by decide) rfl kf_RX12_204 (by decide) hs rfl hd k
theorem jp_RX12_204 {G : GG} {Y : MI} {d C q : Nat} {K : KQ} {pc : Nat} {lv : List (Nat × Value)} {st : List Value} {h : AH} {a n : Nat} {v : Int32} (hY : Y.1.cls = RX12) (hs : SH a = (12, n)) (hd : decode Y.2.1 pc = .ok (.putfield 204, 3)) (k : J G Y d C q K (pc + 3) lv st (sfi h a 33 v)) : J G Y d C q K pc lv (.int v :: .ref (ad G a) :: st) h := j_put (k0 := 33) tyX12 hY ku_12 tyX12_ok nmX12 rfl (by decide) rfl rfl kf_RX12_204 (by decide) hs rfl rfl rfl (Nat.le_of_ble_eq_true rfl) (by show fvR G a (up2 h.1 a 33 v a) _ _ _ = _; rw [up2_at]; rfl) (fun b hb => cel_sfi hb) hd k
theorem jg_RX12_207 {G : GG} {Y : MI} {d C q : Nat} {K : KQ} {pc : Nat} {lv : List (Nat × Value)} {st : List Value} {h : AH} {a n : Nat} (hY : Y.1.cls = RX12) (hs : SH a = (12, n)) (hd : decode Y.2.1 pc = .ok (.getfield 207, 3)) (k : J G Y d C q K (pc + 3) lv (.int (hfi h a 34) :: st) h) : J G Y d C q K pc lv (.ref (ad G a) :: st) h := j_get (k0 := 34) hY ku_12 rfl (by decide) rfl kf_RX12_207 (by decide) hs rfl hd k
theorem jp_RX12_207 {G : GG} {Y : MI} {d C q : Nat} {K : KQ} {pc : Nat} {lv : List (Nat × Value)} {st : List Value} {h : AH} {a n : Nat} {v : Int32} (hY : Y.1.cls = RX12) (hs : SH a = (12, n)) (hd : decode Y.2.1 pc = .ok (.putfield 207, 3)) (k : J G Y d C q K (pc + 3) lv st (sfi h a 34 v)) : J G Y d C q K pc lv (.int v :: .ref (ad G a) :: st) h := j_put (k0 := 34) tyX12 hY ku_12 tyX12_ok nmX12 rfl (by decide) rfl rfl kf_RX12_207 (by decide) hs rfl rfl rfl (Nat.le_of_ble_eq_true rfl) (by show fvR G a (up2 h.1 a 34 v a) _ _ _ = _; rw [up2_at]; rfl) (fun b hb => cel_sfi hb) hd k
theorem jg_RX12_210 {G : GG} {Y : MI} {d C q : Nat} {K : KQ} {pc : Nat} {lv : List (Nat × Value)} {st : List Value} {h : AH} {a n : Nat} (hY : Y.1.cls = RX12) (hs : SH a = (12, n)) (hd : decode Y.2.1 pc = .ok (.getfield 210, 3)) (k : J G Y d C q K (pc + 3) lv (.int (hfi h a 35) :: st) h) : J G Y d C q K pc lv (.ref (ad G a) :: st) h := j_get (k0 := 35) hY ku_12 rfl (by decide) rfl kf_RX12_210 (by decide) hs rfl hd k
theorem jp_RX12_210 {G : GG} {Y : MI} {d C q : Nat} {K : KQ} {pc : Nat} {lv : List (Nat × Value)} {st : List Value} {h : AH} {a n : Nat} {v : Int32} (hY : Y.1.cls = RX12) (hs : SH a = (12, n)) (hd : decode Y.2.1 pc = .ok (.putfield 210, 3)) (k : J G Y d C q K (pc + 3) lv st (sfi h a 35 v)) : J G Y d C q K pc lv (.int v :: .ref (ad G a) :: st) h := j_put (k0 := 35) tyX12 hY ku_12 tyX12_ok nmX12 rfl (by decide) rfl rfl kf_RX12_210 (by decide) hs rfl rfl rfl (Nat.le_of_ble_eq_true rfl) (by show fvR G a (up2 h.1 a 35 v a) _ _ _ = _; rw [up2_at]; rfl) (fun b hb => cel_sfi hb) hd k
theorem jg_RX12_285 {G : GG} {Y : MI} {d C q : Nat} {K : KQ} {pc : Nat} {lv : List (Nat × Value)} {st : List Value} {h : AH} {a n : Nat} (hY : Y.1.cls = RX12) (hs : SH a = (12, n)) (hd : decode Y.2.1 pc = .ok (.getfield 285, 3)) (k : J G Y d C q K (pc + 3) lv (.int (hfi h a 52) :: st) h) : J G Y d C q K pc lv (.ref (ad G a) :: st) h := j_get (k0 := 52) hY ku_12 rfl (by decide) rfl kf_RX12_285 (by decide) hs rfl hd k
theorem jp_RX12_285 {G : GG} {Y : MI} {d C q : Nat} {K : KQ} {pc : Nat} {lv : List (Nat × Value)} {st : List Value} {h : AH} {a n : Nat} {v : Int32} (hY : Y.1.cls = RX12) (hs : SH a = (12, n)) (hd : decode Y.2.1 pc = .ok (.putfield 285, 3)) (k : J G Y d C q K (pc + 3) lv st (sfi h a 52 v)) : J G Y d C q K pc lv (.int v :: .ref (ad G a) :: st) h := j_put (k0 := 52) tyX12 hY ku_12 tyX12_ok nmX12 rfl (by decide) rfl rfl kf_RX12_285 (by decide) hs rfl rfl rfl (Nat.le_of_ble_eq_true rfl) (by show fvR G a (up2 h.1 a 52 v a) _ _ _ = _; rw [up2_at]; rfl) (fun b hb => cel_sfi hb) hd k
theorem jg_RX12_320 {G : GG} {Y : MI} {d C q : Nat} {K : KQ} {pc : Nat} {lv : List (Nat × Value)} {st : List Value} {h : AH} {a n : Nat} (hY : Y.1.cls = RX12) (hs : SH a = (12, n)) (hd : decode Y.2.1 pc = .ok (.getfield 320, 3)) (k : J G Y d C q K (pc + 3) lv (.int (hfi h a 40) :: st) h) : J G Y d C q K pc lv (.ref (ad G a) :: st) h := j_get (k0 := 40) hY ku_12 rfl (by decide) rfl kf_RX12_320 (by decide) hs rfl hd k
theorem jp_RX12_320 {G : GG} {Y : MI} {d C q : Nat} {K : KQ} {pc : Nat} {lv : List (Nat × Value)} {st : List Value} {h : AH} {a n : Nat} {v : Int32} (hY : Y.1.cls = RX12) (hs : SH a = (12, n)) (hd : decode Y.2.1 pc = .ok (.putfield 320, 3)) (k : J G Y d C q K (pc + 3) lv st (sfi h a 40 v)) : J G Y d C q K pc lv (.int v :: .ref (ad G a) :: st) h := j_put (k0 := 40) tyX12 hY ku_12 tyX12_ok nmX12 rfl (by decide) rfl rfl kf_RX12_320 (by decide) hs rfl rfl rfl (Nat.le_of_ble_eq_true rfl) (by show fvR G a (up2 h.1 a 40 v a) _ _ _ = _; rw [up2_at]; rfl) (fun b hb => cel_sfi hb) hd k
theorem jg_RX12_388 {G : GG} {Y : MI} {d C q : Nat} {K : KQ} {pc : Nat} {lv : List (Nat × Value)} {st : List Value} {h : AH} {a n : Nat} (hY : Y.1.cls = RX12) (hs : SH a = (12, n)) (hd : decode Y.2.1 pc = .ok (.getfield 388, 3)) (k : J G Y d C q K (pc + 3) lv (.int (hfi h a 47) :: st) h) : J G Y d C q K pc lv (.ref (ad G a) :: st) h := j_get (k0 := 47) hY ku_12 rfl (by decide) rfl kf_RX12_388 (by decide) hs rfl hd k
theorem jp_RX12_388 {G : GG} {Y : MI} {d C q : Nat} {K : KQ} {pc : Nat} {lv : List (Nat × Value)} {st : List Value} {h : AH} {a n : Nat} {v : Int32} (hY : Y.1.cls = RX12) (hs : SH a = (12, n)) (hd : decode Y.2.1 pc = .ok (.putfield 388, 3)) (k : J G Y d C q K (pc + 3) lv st (sfi h a 47 v)) : J G Y d C q K pc lv (.int v :: .ref (ad G a) :: st) h := j_put (k0 := 47) tyX12 hY ku_12 tyX12_ok nmX12 rfl (by decide) rfl rfl kf_RX12_388 (by decide) hs rfl rfl rfl (Nat.le_of_ble_eq_true rfl) (by show fvR G a (up2 h.1 a 47 v a) _ _ _ = _; rw [up2_at]; rfl) (fun b hb => cel_sfi hb) hd k
theorem jg_RX12_397 {G : GG} {Y : MI} {d C q : Nat} {K : KQ} {pc : Nat} {lv : List (Nat × Value)} {st : List Value} {h : AH} {a n : Nat} (hY : Y.1.cls = RX12) (hs : SH a = (12, n)) (hd : decode Y.2.1 pc = .ok (.getfield 397, 3)) (k : J G Y d C q K (pc + 3) lv (.long (hfl h a 48) :: st) h) : J G Y d C q K pc lv (.ref (ad G a) :: st) h := j_get (k0 := 48) hY ku_12 rfl (by decide) rfl kf_RX12_397 (by decide) hs rfl hd k
theorem jp_RX12_397 {G : GG} {Y : MI} {d C q : Nat} {K : KQ} {pc : Nat} {lv : List (Nat × Value)} {st : List Value} {h : AH} {a n : Nat} {v : Int64} (hY : Y.1.cls = RX12) (hs : SH a = (12, n)) (hd : decode Y.2.1 pc = .ok (.putfield 397, 3)) (k : J G Y d C q K (pc + 3) lv st (sfl h a 48 v)) : J G Y d C q K pc lv (.long v :: .ref (ad G a) :: st) h := j_put (k0 := 48) tyX12 hY ku_12 tyX12_ok nmX12 rfl (by decide) rfl rfl kf_RX12_397 (by decide) hs rfl rfl rfl (Nat.le_of_ble_eq_true rfl) (by show fvR G a _ (up2 h.2.1 a 48 v a) _ _ = _; rw [up2_at]; rfl) (fun b hb => cel_sfl hb) hd k
theorem jg_RX12_416 {G : GG} {Y : MI} {d C q : Nat} {K : KQ} {pc : Nat} {lv : List (Nat × Value)} {st : List Value} {h : AH} {a n : Nat} (hY : Y.1.cls = RX12) (hs : SH a = (12, n)) (hd : decode Y.2.1 pc = .ok (.getfield 416, 3)) (k : J G Y d C q K (pc + 3) lv (.int (hfi h a 50) :: st) h) : J G Y d C q K pc lv (.ref (ad G a) :: st) h := j_get (k0 := 50) hY ku_12 rfl (by decide) rfl kf_RX12_416 (by decide) hs rfl hd k
theorem jp_RX12_416 {G : GG} {Y : MI} {d C q : Nat} {K : KQ} {pc : Nat} {lv : List (Nat × Value)} {st : List Value} {h : AH} {a n : Nat} {v : Int32} (hY : Y.1.cls = RX12) (hs : SH a = (12, n)) (hd : decode Y.2.1 pc = .ok (.putfield 416, 3)) (k : J G Y d C q K (pc + 3) lv st (sfi h a 50 v)) : J G Y d C q K pc lv (.int v :: .ref (ad G a) :: st) h := j_put (k0 := 50) tyX12 hY ku_12 tyX12_ok nmX12 rfl (by decide) rfl rfl kf_RX12_416 (by decide) hs rfl rfl rfl (Nat.le_of_ble_eq_true rfl) (by show fvR G a (up2 h.1 a 50 v a) _ _ _ = _; rw [up2_at]; rfl) (fun b hb => cel_sfi hb) hd k
theorem jg_RX12_455 {G : GG} {Y : MI} {d C q : Nat} {K : KQ} {pc : Nat} {lv : List (Nat × Value)} {st : List Value} {h : AH} {a n : Nat} (hY : Y.1.cls = RX12) (hs : SH a = (12, n)) (hd : decode Y.2.1 pc = .ok (.getfield 455, 3)) (k : J G Y d C q K (pc + 3) lv (.int (hfi h a 55) :: st) h) : J G Y d C q K pc lv (.ref (ad G a) :: st) h := j_get (k0 := 55) hY ku_12 rfl (by decide) rfl kf_RX12_455 (by decide) hs rfl hd k
theorem jp_RX12_455 {G : GG} {Y : MI} {d C q : Nat} {K : KQ} {pc : Nat} {lv : List (Nat × Value)} {st : List Value} {h : AH} {a n : Nat} {v : Int32} (hY : Y.1.cls = RX12) (hs : SH a = (12, n)) (hz : narrow .boolean (.int v) = .int v) (hf : fits .boolean (.int v) = true) (hd : decode Y.2.1 pc = .ok (.putfield 455, 3)) (k : J G Y d C q K (pc + 3) lv st (sfi h a 55 v)) : J G Y d C q K pc lv (.int v :: .ref (ad G a) :: st) h := j_put (k0 := 55) tyX12 hY ku_12 tyX12_ok nmX12 rfl (by decide) rfl rfl kf_RX12_455 (by decide) hs rfl hz hf (Nat.le_of_ble_eq_true rfl) (by show fvR G a (up2 h.1 a 55 v a) _ _ _ = _; rw [up2_at]; rfl) (fun b hb => cel_sfi hb) hd k
theorem cv_RX11_114 : CV RX11 114 mX7_put 1 := ⟨gi_V km_RX11_114 ki_yX7_put ks_yX7_put kn_ThumbBook_Script kc_yX7_put, ⟨rfl, by decide, by decide, by decide +kernel⟩, by decide⟩
theorem cv_RX11_118 : CV RX11 118 mX11_bookAt 1 := ⟨gi_V km_RX11_118 ki_yX11_bookAt ks_yX11_bookAt kn_ThumbBook kc_yX11_bookAt, ⟨rfl, by decide, by decide, by decide +kernel⟩, by decide⟩
theorem cv_RX11_122 : CV RX11 122 mX11_checkOnTape 1 := ⟨gi_V km_RX11_122 ki_yX11_checkOnTape ks_yX11_checkOnTape kn_ThumbBook kc_yX11_checkOnTape, ⟨rfl, by decide, by decide, by decide +kernel⟩, by decide⟩
theorem cv_RX11_125 : CV RX11 125 mX7_begin 1 := ⟨gi_V km_RX11_125 ki_yX7_begin ks_yX7_begin kn_ThumbBook_Script kc_yX7_begin, ⟨rfl, by decide, by decide, by decide +kernel⟩, by decide⟩
theorem cv_RX11_128 : CV RX11 128 mX0_write 1 := ⟨gi_V km_RX11_128 ki_yX0_write ks_yX0_write kn_ThumbBook_Book kc_yX0_write, ⟨rfl, by decide, by decide, by decide +kernel⟩, by decide⟩
theorem cv_RX11_135 : CV RX11 135 mX11_written 0 := ⟨gi_V km_RX11_135 ki_yX11_written ks_yX11_written kn_ThumbBook kc_yX11_written, ⟨rfl, by decide, by decide, by decide +kernel⟩, by decide⟩
theorem cv_RX11_139 : CV RX11 139 mX5_write 1 := ⟨gi_V km_RX11_139 ki_yX5_write ks_yX5_write kn_ThumbBook_Law kc_yX5_write, ⟨rfl, by decide, by decide, by decide +kernel⟩, by decide⟩
theorem cv_RX11_140 : CV RX11 140 mX11_wayAt 1 := ⟨gi_V km_RX11_140 ki_yX11_wayAt ks_yX11_wayAt kn_ThumbBook kc_yX11_wayAt, ⟨rfl, by decide, by decide, by decide +kernel⟩, by decide⟩
theorem cv_RX11_144 : CV RX11 144 mX10_write 1 := ⟨gi_V km_RX11_144 ki_yX10_write ks_yX10_write kn_ThumbBook_Way kc_yX10_write, ⟨rfl, by decide, by decide, by decide +kernel⟩, by decide⟩
theorem cv_RX11_160 : CV RX11 160 mX11_statusAt 1 := ⟨gi_V km_RX11_160 ki_yX11_statusAt ks_yX11_statusAt kn_ThumbBook kc_yX11_statusAt, ⟨rfl, by decide, by decide, by decide +kernel⟩, by decide⟩
theorem cv_RX11_176 : CV RX11 176 mX0_isKnown 0 := ⟨gi_V km_RX11_176 ki_yX0_isKnown ks_yX0_isKnown kn_ThumbBook_Book kc_yX0_isKnown, ⟨rfl, by decide, by decide, by decide +kernel⟩, by decide⟩
theorem cv_RX11_193 : CV RX11 193 mX11_bookWithLeaf 2 := ⟨gi_V km_RX11_193 ki_yX11_bookWithLeaf ks_yX11_bookWithLeaf kn_ThumbBook kc_yX11_bookWithLeaf, ⟨rfl, by decide, by decide, by decide +kernel⟩, by decide⟩
theorem cv_RX11_215 : CS RX11 215 mX11_checkKind 1 := ⟨gi_S km_RX11_215 kt_yX11_checkKind kn_ThumbBook kc_yX11_checkKind, ⟨by decide, by decide, by decide +kernel⟩, by decide⟩
theorem cv_RX11_220 : CV RX11 220 mX10_yearly 2 := ⟨gi_V km_RX11_220 ki_yX10_yearly ks_yX10_yearly kn_ThumbBook_Way kc_yX10_yearly, ⟨rfl, by decide, by decide, by decide +kernel⟩, by decide⟩
theorem cv_RX11_224 : CV RX11 224 mX0_addReader 3 := ⟨gi_V km_RX11_224 ki_yX0_addReader ks_yX0_addReader kn_ThumbBook_Book kc_yX0_addReader, ⟨rfl, by decide, by decide, by decide +kernel⟩, by decide⟩
theorem cv_RX11_228 : CV RX11 228 mX0_ownDirt 3 := ⟨gi_V km_RX11_228 ki_yX0_ownDirt ks_yX0_ownDirt kn_ThumbBook_Book kc_yX0_ownDirt, ⟨rfl, by decide, by decide, by decide +kernel⟩, by decide⟩
theorem cv_RX11_232 : CV RX11 232 mX0_fillAll 3 := ⟨gi_V km_RX11_232 ki_yX0_fillAll ks_yX0_fillAll kn_ThumbBook_Book kc_yX0_fillAll, ⟨rfl, by decide, by decide, by decide +kernel⟩, by decide⟩
theorem cv_RX11_236 : CV RX11 236 mX0_bare 1 := ⟨gi_V km_RX11_236 ki_yX0_bare ks_yX0_bare kn_ThumbBook_Book kc_yX0_bare, ⟨rfl, by decide, by decide, by decide +kernel⟩, by decide⟩
theorem cv_RX11_239 : CV RX11 239 mX0_turned 4 := ⟨gi_V km_RX11_239 ki_yX0_turned ks_yX0_turned kn_ThumbBook_Book kc_yX0_turned, ⟨rfl, by decide, by decide, by decide +kernel⟩, by decide⟩
theorem cv_RX11_243 : CV RX11 243 mX11_fillShades 1 := ⟨gi_V km_RX11_243 ki_yX11_fillShades ks_yX11_fillShades kn_ThumbBook kc_yX11_fillShades, ⟨rfl, by decide, by decide, by decide +kernel⟩, by decide⟩
theorem cv_RX11_247 : CS RX11 247 mX11_stepped 1 := ⟨gi_S km_RX11_247 kt_yX11_stepped kn_ThumbBook kc_yX11_stepped, ⟨by decide, by decide, by decide +kernel⟩, by decide⟩
theorem cv_RX11_253 : CV RX11 253 mX11_reading 2 := ⟨gi_V km_RX11_253 ki_yX11_reading ks_yX11_reading kn_ThumbBook kc_yX11_reading, ⟨rfl, by decide, by decide, by decide +kernel⟩, by decide⟩
theorem cv_RX11_256 : CV RX11 256 mX3_take 3 := ⟨gi_V km_RX11_256 ki_yX3_take ks_yX3_take kn_ThumbBook_Glass kc_yX3_take, ⟨rfl, by decide, by decide, by decide +kernel⟩, by decide⟩
theorem cv_RX11_260 : CV RX11 260 mX3_wasRead 1 := ⟨gi_V km_RX11_260 ki_yX3_wasRead ks_yX3_wasRead kn_ThumbBook_Glass kc_yX3_wasRead, ⟨rfl, by decide, by decide, by decide +kernel⟩, by decide⟩
theorem cv_RX11_270 : CS RX11 270 mX11_checkAheadRead 2 := ⟨gi_S km_RX11_270 kt_yX11_checkAheadRead kn_ThumbBook kc_yX11_checkAheadRead, ⟨by decide, by decide, by decide +kernel⟩, by decide⟩
theorem cv_RX11_274 : CV RX11 274 mX9_fill 3 := ⟨gi_V km_RX11_274 ki_yX9_fill ks_yX9_fill kn_ThumbBook_Undone kc_yX9_fill, ⟨rfl, by decide, by decide, by decide +kernel⟩, by decide⟩
theorem cv_RX11_289 : CV RX11 289 mX9_isStrange 1 := ⟨gi_V km_RX11_289 ki_yX9_isStrange ks_yX9_isStrange kn_ThumbBook_Undone kc_yX9_isStrange, ⟨rfl, by decide, by decide, by decide +kernel⟩, by decide⟩
theorem cv_RX11_292 : CV RX11 292 mX11_knownAt 2 := ⟨gi_V km_RX11_292 ki_yX11_knownAt ks_yX11_knownAt kn_ThumbBook kc_yX11_knownAt, ⟨rfl, by decide, by decide, by decide +kernel⟩, by decide⟩
theorem cv_RX11_296 : CS RX11 296 mX11_checkHeld 2 := ⟨gi_S km_RX11_296 kt_yX11_checkHeld kn_ThumbBook kc_yX11_checkHeld, ⟨by decide, by decide, by decide +kernel⟩, by decide⟩
theorem cv_RX11_303 : CV RX11 303 mX9_pairs 2 := ⟨gi_V km_RX11_303 ki_yX9_pairs ks_yX9_pairs kn_ThumbBook_Undone kc_yX9_pairs, ⟨rfl, by decide, by decide, by decide +kernel⟩, by decide⟩
theorem cv_RX11_307 : CV RX11 307 mX1_ofAtLeast 2 := ⟨gi_V km_RX11_307 ki_yX1_ofAtLeast ks_yX1_ofAtLeast kn_ThumbBook_Chance kc_yX1_ofAtLeast, ⟨rfl, by decide, by decide, by decide +kernel⟩, by decide⟩
theorem cv_RX11_311 : CV RX11 311 mX11_partedInto 1 := ⟨gi_V km_RX11_311 ki_yX11_partedInto ks_yX11_partedInto kn_ThumbBook kc_yX11_partedInto, ⟨rfl, by decide, by decide, by decide +kernel⟩, by decide⟩
theorem cv_RX11_315 : CV RX11 315 mX4_groupOf 1 := ⟨gi_V km_RX11_315 ki_yX4_groupOf ks_yX4_groupOf kn_ThumbBook_Humps kc_yX4_groupOf, ⟨rfl, by decide, by decide, by decide +kernel⟩, by decide⟩
theorem cv_RX11_318 : CV RX11 318 mX2_search 4 := ⟨gi_V km_RX11_318 ki_yX2_search ks_yX2_search kn_ThumbBook_Fit kc_yX2_search, ⟨rfl, by decide, by decide, by decide +kernel⟩, by decide⟩
theorem cv_RX11_332 : CV RX11 332 mX11_ownerBy 2 := ⟨gi_V km_RX11_332 ki_yX11_ownerBy ks_yX11_ownerBy kn_ThumbBook kc_yX11_ownerBy, ⟨rfl, by decide, by decide, by decide +kernel⟩, by decide⟩
theorem cv_RX11_336 : CV RX11 336 mX6_fill 2 := ⟨gi_V km_RX11_336 ki_yX6_fill ks_yX6_fill kn_ThumbBook_Order kc_yX6_fill, ⟨rfl, by decide, by decide, by decide +kernel⟩, by decide⟩
theorem cv_RX11_339 : CV RX11 339 mX6_want 0 := ⟨gi_V km_RX11_339 ki_yX6_want ks_yX6_want kn_ThumbBook_Order kc_yX6_want, ⟨rfl, by decide, by decide, by decide +kernel⟩, by decide⟩
theorem cv_RX11_342 : CV RX11 342 mX6_findMove 0 := ⟨gi_V km_RX11_342 ki_yX6_findMove ks_yX6_findMove kn_ThumbBook_Order kc_yX6_findMove, ⟨rfl, by decide, by decide, by decide +kernel⟩, by decide⟩
theorem cv_RX11_354 : CV RX11 354 mX9_opensAt 2 := ⟨gi_V km_RX11_354 ki_yX9_opensAt ks_yX9_opensAt kn_ThumbBook_Undone kc_yX9_opensAt, ⟨rfl, by decide, by decide, by decide +kernel⟩, by decide⟩
theorem cv_RX11_360 : CV RX11 360 mX8_add 2 := ⟨gi_V km_RX11_360 ki_yX8_add ks_yX8_add kn_ThumbBook_Trials kc_yX8_add, ⟨rfl, by decide, by decide, by decide +kernel⟩, by decide⟩
theorem cv_RX11_364 : CV RX11 364 mX8_agree 1 := ⟨gi_V km_RX11_364 ki_yX8_agree ks_yX8_agree kn_ThumbBook_Trials kc_yX8_agree, ⟨rfl, by decide, by decide, by decide +kernel⟩, by decide⟩
theorem cv_RX11_367 : CV RX11 367 mX8_least 1 := ⟨gi_V km_RX11_367 ki_yX8_least ks_yX8_least kn_ThumbBook_Trials kc_yX8_least, ⟨rfl, by decide, by decide, by decide +kernel⟩, by decide⟩
theorem cv_RX11_370 : CV RX11 370 mX8_greatest 1 := ⟨gi_V km_RX11_370 ki_yX8_greatest ks_yX8_greatest kn_ThumbBook_Trials kc_yX8_greatest, ⟨rfl, by decide, by decide, by decide +kernel⟩, by decide⟩
theorem cv_RX11_373 : CV RX11 373 mX9_likeness 1 := ⟨gi_V km_RX11_373 ki_yX9_likeness ks_yX9_likeness kn_ThumbBook_Undone kc_yX9_likeness, ⟨rfl, by decide, by decide, by decide +kernel⟩, by decide⟩
theorem cv_RX11_377 : CV RX11 377 mX9_surely 3 := ⟨gi_V km_RX11_377 ki_yX9_surely ks_yX9_surely kn_ThumbBook_Undone kc_yX9_surely, ⟨rfl, by decide, by decide, by decide +kernel⟩, by decide⟩
theorem cv_RX11_386 : CS RX11 386 mJ9_max_7cf53 2 := ⟨gi_S km_RX11_386 kt_yJ9_max_7cf53 kn_java_lang_Math kc_yJ9_max_7cf53, ⟨by decide, by decide, by decide +kernel⟩, by decide⟩
theorem cv_RX11_393 : CS RX11 393 mX11_cutUp 2 := ⟨gi_S km_RX11_393 kt_yX11_cutUp kn_ThumbBook kc_yX11_cutUp, ⟨by decide, by decide, by decide +kernel⟩, by decide⟩
theorem cv_RX11_399 : CV RX11 399 mX11_drawTrial 2 := ⟨gi_V km_RX11_399 ki_yX11_drawTrial ks_yX11_drawTrial kn_ThumbBook kc_yX11_drawTrial, ⟨rfl, by decide, by decide, by decide +kernel⟩, by decide⟩
theorem cv_RX11_402 : CV RX11 402 mX3_readAll 1 := ⟨gi_V km_RX11_402 ki_yX3_readAll ks_yX3_readAll kn_ThumbBook_Glass kc_yX3_readAll, ⟨rfl, by decide, by decide, by decide +kernel⟩, by decide⟩
theorem cv_RX11_405 : CV RX11 405 mX9_widest 1 := ⟨gi_V km_RX11_405 ki_yX9_widest ks_yX9_widest kn_ThumbBook_Undone kc_yX9_widest, ⟨rfl, by decide, by decide, by decide +kernel⟩, by decide⟩
theorem cv_RX11_412 : CV RX11 412 mX3_copy 1 := ⟨gi_V km_RX11_412 ki_yX3_copy ks_yX3_copy kn_ThumbBook_Glass kc_yX3_copy, ⟨rfl, by decide, by decide, by decide +kernel⟩, by decide⟩
theorem cv_RX11_442 : CV RX11 442 mX4_sort 1 := ⟨gi_V km_RX11_442 ki_yX4_sort ks_yX4_sort kn_ThumbBook_Humps kc_yX4_sort, ⟨rfl, by decide, by decide, by decide +kernel⟩, by decide⟩
theorem cv_RX11_449 : CV RX11 449 mX4_part 1 := ⟨gi_V km_RX11_449 ki_yX4_part ks_yX4_part kn_ThumbBook_Humps kc_yX4_part, ⟨rfl, by decide, by decide, by decide +kernel⟩, by decide⟩
theorem cv_RX11_452 : CV RX11 452 mX10_tellsSome 0 := ⟨gi_V km_RX11_452 ki_yX10_tellsSome ks_yX10_tellsSome kn_ThumbBook_Way kc_yX10_tellsSome, ⟨rfl, by decide, by decide, by decide +kernel⟩, by decide⟩
theorem cv_RX11_455 : CV RX11 455 mX9_apartFrom 2 := ⟨gi_V km_RX11_455 ki_yX9_apartFrom ks_yX9_apartFrom kn_ThumbBook_Undone kc_yX9_apartFrom, ⟨rfl, by decide, by decide, by decide +kernel⟩, by decide⟩
theorem cv_RX11_459 : CV RX11 459 mX3_wipe 0 := ⟨gi_V km_RX11_459 ki_yX3_wipe ks_yX3_wipe kn_ThumbBook_Glass kc_yX3_wipe, ⟨rfl, by decide, by decide, by decide +kernel⟩, by decide⟩
theorem cv_RX11_462 : CS RX11 462 mJ9_floorMod_7cf53 2 := ⟨gi_S km_RX11_462 kt_yJ9_floorMod_7cf53 kn_java_lang_Math kc_yJ9_floorMod_7cf53, ⟨by decide, by decide, by decide +kernel⟩, by decide⟩
theorem cv_RX11_466 : CS RX11 466 mJ9_floorDiv_f86c9 2 := ⟨gi_S km_RX11_466 kt_yJ9_floorDiv_f86c9 kn_java_lang_Math kc_yJ9_floorDiv_f86c9, ⟨by decide, by decide, by decide +kernel⟩, by decide⟩
theorem cv_RX12_161 : CS RX12 161 mX12_isIn 3 := ⟨gi_S km_RX12_161 kt_yX12_isIn kn_ThumbBookModel kc_yX12_isIn, ⟨by decide, by decide, by decide +kernel⟩, by decide⟩
theorem cv_RX12_165 : CS RX12 165 mX12_isBook 1 := ⟨gi_S km_RX12_165 kt_yX12_isBook kn_ThumbBookModel kc_yX12_isBook, ⟨by decide, by decide, by decide +kernel⟩, by decide⟩
theorem cv_RX12_178 : CV RX12 178 mX12_byteAt 1 := ⟨gi_V km_RX12_178 ki_yX12_byteAt ks_yX12_byteAt kn_ThumbBookModel kc_yX12_byteAt, ⟨rfl, by decide, by decide, by decide +kernel⟩, by decide⟩
theorem cv_RX12_188 : CS RX12 188 mX12_isLetter 1 := ⟨gi_S km_RX12_188 kt_yX12_isLetter kn_ThumbBookModel kc_yX12_isLetter, ⟨by decide, by decide, by decide +kernel⟩, by decide⟩
theorem cv_RX12_191 : CS RX12 191 mX12_isDigit 1 := ⟨gi_S km_RX12_191 kt_yX12_isDigit kn_ThumbBookModel kc_yX12_isDigit, ⟨by decide, by decide, by decide +kernel⟩, by decide⟩
theorem cv_RX12_198 : CS RX12 198 mJ9_min_7cf53 2 := ⟨gi_S km_RX12_198 kt_yJ9_min_7cf53 kn_java_lang_Math kc_yJ9_min_7cf53, ⟨by decide, by decide, by decide +kernel⟩, by decide⟩
theorem cv_RX12_213 : CV RX12 213 mJ0_length_8abf5 0 := ⟨gi_V km_RX12_213 ki_yJ0_length_8abf5 ks_yJ0_length_8abf5 kn_java_lang_String kc_yJ0_length_8abf5, ⟨rfl, by decide, by decide, by decide +kernel⟩, by decide⟩
theorem cv_RX12_217 : CV RX12 217 mJ0_charAt_5068e 1 := ⟨gi_V km_RX12_217 ki_yJ0_charAt_5068e ks_yJ0_charAt_5068e kn_java_lang_String kc_yJ0_charAt_5068e, ⟨rfl, by decide, by decide, by decide +kernel⟩, by decide⟩
theorem cv_RX12_221 : CV RX12 221 mX12_is 1 := ⟨gi_V km_RX12_221 ki_yX12_is ks_yX12_is kn_ThumbBookModel kc_yX12_is, ⟨rfl, by decide, by decide, by decide +kernel⟩, by decide⟩
theorem cv_RX12_225 : CV RX12 225 mX12_stepOn 0 := ⟨gi_V km_RX12_225 ki_yX12_stepOn ks_yX12_stepOn kn_ThumbBookModel kc_yX12_stepOn, ⟨rfl, by decide, by decide, by decide +kernel⟩, by decide⟩
theorem cv_RX12_228 : CV RX12 228 mX12_wrong 1 := ⟨gi_V km_RX12_228 ki_yX12_wrong ks_yX12_wrong kn_ThumbBookModel kc_yX12_wrong, ⟨rfl, by decide, by decide, by decide +kernel⟩, by decide⟩
theorem cv_RX12_232 : CV RX12 232 mX12_passes 1 := ⟨gi_V km_RX12_232 ki_yX12_passes ks_yX12_passes kn_ThumbBookModel kc_yX12_passes, ⟨rfl, by decide, by decide, by decide +kernel⟩, by decide⟩
theorem cv_RX12_235 : CV RX12 235 mX12_readNumber 2 := ⟨gi_V km_RX12_235 ki_yX12_readNumber ks_yX12_readNumber kn_ThumbBookModel kc_yX12_readNumber, ⟨rfl, by decide, by decide, by decide +kernel⟩, by decide⟩
theorem cv_RX12_239 : CV RX12 239 mX12_perhaps 3 := ⟨gi_V km_RX12_239 ki_yX12_perhaps ks_yX12_perhaps kn_ThumbBookModel kc_yX12_perhaps, ⟨rfl, by decide, by decide, by decide +kernel⟩, by decide⟩
theorem cv_RX12_244 : CS RX12 244 mX12_at 2 := ⟨gi_S km_RX12_244 kt_yX12_at kn_ThumbBookModel kc_yX12_at, ⟨by decide, by decide, by decide +kernel⟩, by decide⟩
theorem cv_RX12_247 : CV RX12 247 mX12_which 1 := ⟨gi_V km_RX12_247 ki_yX12_which ks_yX12_which kn_ThumbBookModel kc_yX12_which, ⟨rfl, by decide, by decide, by decide +kernel⟩, by decide⟩
theorem cv_RX12_251 : CV RX12 251 mX12_readText 0 := ⟨gi_V km_RX12_251 ki_yX12_readText ks_yX12_readText kn_ThumbBookModel kc_yX12_readText, ⟨rfl, by decide, by decide, by decide +kernel⟩, by decide⟩
theorem cv_RX12_254 : CV RX12 254 mX12_readSpilt 0 := ⟨gi_V km_RX12_254 ki_yX12_readSpilt ks_yX12_readSpilt kn_ThumbBookModel kc_yX12_readSpilt, ⟨rfl, by decide, by decide, by decide +kernel⟩, by decide⟩
theorem cv_RX12_257 : CV RX12 257 mX12_readWashed 0 := ⟨gi_V km_RX12_257 ki_yX12_readWashed ks_yX12_readWashed kn_ThumbBookModel kc_yX12_readWashed, ⟨rfl, by decide, by decide, by decide +kernel⟩, by decide⟩
theorem cv_RX12_260 : CV RX12 260 mX12_semi 0 := ⟨gi_V km_RX12_260 ki_yX12_semi ks_yX12_semi kn_ThumbBookModel kc_yX12_semi, ⟨rfl, by decide, by decide, by decide +kernel⟩, by decide⟩
theorem cv_RX12_263 : CV RX12 263 mX12_fail 1 := ⟨gi_V km_RX12_263 ki_yX12_fail ks_yX12_fail kn_ThumbBookModel kc_yX12_fail, ⟨rfl, by decide, by decide, by decide +kernel⟩, by decide⟩
theorem cv_RX12_266 : CV RX12 266 mX12_begin 1 := ⟨gi_V km_RX12_266 ki_yX12_begin ks_yX12_begin kn_ThumbBookModel kc_yX12_begin, ⟨rfl, by decide, by decide, by decide +kernel⟩, by decide⟩
theorem cv_RX12_269 : CV RX12 269 mX12_readLine 0 := ⟨gi_V km_RX12_269 ki_yX12_readLine ks_yX12_readLine kn_ThumbBookModel kc_yX12_readLine, ⟨rfl, by decide, by decide, by decide +kernel⟩, by decide⟩
theorem cv_RX12_272 : CV RX12 272 mX12_fallen 0 := ⟨gi_V km_RX12_272 ki_yX12_fallen ks_yX12_fallen kn_ThumbBookModel kc_yX12_fallen, ⟨rfl, by decide, by decide, by decide +kernel⟩, by decide⟩
theorem cv_RX12_275 : CV RX12 275 mX12_copyBook 2 := ⟨gi_V km_RX12_275 ki_yX12_copyBook ks_yX12_copyBook kn_ThumbBookModel kc_yX12_copyBook, ⟨rfl, by decide, by decide, by decide +kernel⟩, by decide⟩
theorem cv_RX12_279 : CS RX12 279 mX12_isWay 1 := ⟨gi_S km_RX12_279 kt_yX12_isWay kn_ThumbBookModel kc_yX12_isWay, ⟨by decide, by decide, by decide +kernel⟩, by decide⟩
theorem cv_RX12_288 : CV RX12 288 mX12_isKnown 1 := ⟨gi_V km_RX12_288 ki_yX12_isKnown ks_yX12_isKnown kn_ThumbBookModel kc_yX12_isKnown, ⟨rfl, by decide, by decide, by decide +kernel⟩, by decide⟩
theorem cv_RX12_291 : CV RX12 291 mX12_kindsOf 1 := ⟨gi_V km_RX12_291 ki_yX12_kindsOf ks_yX12_kindsOf kn_ThumbBookModel kc_yX12_kindsOf, ⟨rfl, by decide, by decide, by decide +kernel⟩, by decide⟩
theorem cv_RX12_294 : CV RX12 294 mX12_isLeaf 2 := ⟨gi_V km_RX12_294 ki_yX12_isLeaf ks_yX12_isLeaf kn_ThumbBookModel kc_yX12_isLeaf, ⟨rfl, by decide, by decide, by decide +kernel⟩, by decide⟩
theorem cv_RX12_298 : CS RX12 298 mJ9_max_7cf53 2 := ⟨gi_S km_RX12_298 kt_yJ9_max_7cf53 kn_java_lang_Math kc_yJ9_max_7cf53, ⟨by decide, by decide, by decide +kernel⟩, by decide⟩
theorem cv_RX12_301 : CV RX12 301 mX12_turningsOf 3 := ⟨gi_V km_RX12_301 ki_yX12_turningsOf ks_yX12_turningsOf kn_ThumbBookModel kc_yX12_turningsOf, ⟨rfl, by decide, by decide, by decide +kernel⟩, by decide⟩
theorem cv_RX12_305 : CV RX12 305 mX12_turningsIn 3 := ⟨gi_V km_RX12_305 ki_yX12_turningsIn ks_yX12_turningsIn kn_ThumbBookModel kc_yX12_turningsIn, ⟨rfl, by decide, by decide, by decide +kernel⟩, by decide⟩
theorem cv_RX12_310 : CV RX12 310 mX12_ownOf 2 := ⟨gi_V km_RX12_310 ki_yX12_ownOf ks_yX12_ownOf kn_ThumbBookModel kc_yX12_ownOf, ⟨rfl, by decide, by decide, by decide +kernel⟩, by decide⟩
theorem cv_RX12_313 : CV RX12 313 mX12_hairOf 2 := ⟨gi_V km_RX12_313 ki_yX12_hairOf ks_yX12_hairOf kn_ThumbBookModel kc_yX12_hairOf, ⟨rfl, by decide, by decide, by decide +kernel⟩, by decide⟩
theorem cv_RX12_316 : CV RX12 316 mX12_tellDirt 1 := ⟨gi_V km_RX12_316 ki_yX12_tellDirt ks_yX12_tellDirt kn_ThumbBookModel kc_yX12_tellDirt, ⟨rfl, by decide, by decide, by decide +kernel⟩, by decide⟩
theorem cv_RX12_324 : CV RX12 324 mX12_draw 1 := ⟨gi_V km_RX12_324 ki_yX12_draw ks_yX12_draw kn_ThumbBookModel kc_yX12_draw, ⟨rfl, by decide, by decide, by decide +kernel⟩, by decide⟩
theorem cv_RX12_327 : CV RX12 327 mX12_reads 3 := ⟨gi_V km_RX12_327 ki_yX12_reads ks_yX12_reads kn_ThumbBookModel kc_yX12_reads, ⟨rfl, by decide, by decide, by decide +kernel⟩, by decide⟩
theorem cv_RX12_330 : CV RX12 330 mX12_drawAll 1 := ⟨gi_V km_RX12_330 ki_yX12_drawAll ks_yX12_drawAll kn_ThumbBookModel kc_yX12_drawAll, ⟨rfl, by decide, by decide, by decide +kernel⟩, by decide⟩
theorem cv_RX12_333 : CV RX12 333 mX12_bareLow 2 := ⟨gi_V km_RX12_333 ki_yX12_bareLow ks_yX12_bareLow kn_ThumbBookModel kc_yX12_bareLow, ⟨rfl, by decide, by decide, by decide +kernel⟩, by decide⟩
theorem cv_RX12_336 : CV RX12 336 mX12_bareHigh 2 := ⟨gi_V km_RX12_336 ki_yX12_bareHigh ks_yX12_bareHigh kn_ThumbBookModel kc_yX12_bareHigh, ⟨rfl, by decide, by decide, by decide +kernel⟩, by decide⟩
theorem cv_RX12_339 : CV RX12 339 mX12_through 1 := ⟨gi_V km_RX12_339 ki_yX12_through ks_yX12_through kn_ThumbBookModel kc_yX12_through, ⟨rfl, by decide, by decide, by decide +kernel⟩, by decide⟩
theorem cv_RX12_342 : CV RX12 342 mX12_undoneLow 3 := ⟨gi_V km_RX12_342 ki_yX12_undoneLow ks_yX12_undoneLow kn_ThumbBookModel kc_yX12_undoneLow, ⟨rfl, by decide, by decide, by decide +kernel⟩, by decide⟩
theorem cv_RX12_345 : CV RX12 345 mX12_undoneHigh 3 := ⟨gi_V km_RX12_345 ki_yX12_undoneHigh ks_yX12_undoneHigh kn_ThumbBookModel kc_yX12_undoneHigh, ⟨rfl, by decide, by decide, by decide +kernel⟩, by decide⟩
theorem cv_RX12_348 : CS RX12 348 mJ9_floorDiv_7cf53 2 := ⟨gi_S km_RX12_348 kt_yJ9_floorDiv_7cf53 kn_java_lang_Math kc_yJ9_floorDiv_7cf53, ⟨by decide, by decide, by decide +kernel⟩, by decide⟩
theorem cv_RX12_351 : CV RX12 351 mX12_turnsLow 2 := ⟨gi_V km_RX12_351 ki_yX12_turnsLow ks_yX12_turnsLow kn_ThumbBookModel kc_yX12_turnsLow, ⟨rfl, by decide, by decide, by decide +kernel⟩, by decide⟩
theorem cv_RX12_354 : CV RX12 354 mX12_turnsHigh 2 := ⟨gi_V km_RX12_354 ki_yX12_turnsHigh ks_yX12_turnsHigh kn_ThumbBookModel kc_yX12_turnsHigh, ⟨rfl, by decide, by decide, by decide +kernel⟩, by decide⟩
theorem cv_RX12_357 : CV RX12 357 mX12_isStrange 2 := ⟨gi_V km_RX12_357 ki_yX12_isStrange ks_yX12_isStrange kn_ThumbBookModel kc_yX12_isStrange, ⟨rfl, by decide, by decide, by decide +kernel⟩, by decide⟩
theorem cv_RX12_360 : CV RX12 360 mX12_isUndone 2 := ⟨gi_V km_RX12_360 ki_yX12_isUndone ks_yX12_isUndone kn_ThumbBookModel kc_yX12_isUndone, ⟨rfl, by decide, by decide, by decide +kernel⟩, by decide⟩
theorem cv_RX12_363 : CV RX12 363 mX12_midst 2 := ⟨gi_V km_RX12_363 ki_yX12_midst ks_yX12_midst kn_ThumbBookModel kc_yX12_midst, ⟨rfl, by decide, by decide, by decide +kernel⟩, by decide⟩
theorem cv_RX12_368 : CV RX12 368 mX12_leavesOf 2 := ⟨gi_V km_RX12_368 ki_yX12_leavesOf ks_yX12_leavesOf kn_ThumbBookModel kc_yX12_leavesOf, ⟨rfl, by decide, by decide, by decide +kernel⟩, by decide⟩
theorem cv_RX12_371 : CV RX12 371 mX12_isAsked 1 := ⟨gi_V km_RX12_371 ki_yX12_isAsked ks_yX12_isAsked kn_ThumbBookModel kc_yX12_isAsked, ⟨rfl, by decide, by decide, by decide +kernel⟩, by decide⟩
theorem cv_RX12_374 : CV RX12 374 mX12_has 2 := ⟨gi_V km_RX12_374 ki_yX12_has ks_yX12_has kn_ThumbBookModel kc_yX12_has, ⟨rfl, by decide, by decide, by decide +kernel⟩, by decide⟩
theorem cv_RX12_377 : CV RX12 377 mX12_lightOf 2 := ⟨gi_V km_RX12_377 ki_yX12_lightOf ks_yX12_lightOf kn_ThumbBookModel kc_yX12_lightOf, ⟨rfl, by decide, by decide, by decide +kernel⟩, by decide⟩
theorem cv_RX12_382 : CV RX12 382 mX12_pairs 2 := ⟨gi_V km_RX12_382 ki_yX12_pairs ks_yX12_pairs kn_ThumbBookModel kc_yX12_pairs, ⟨rfl, by decide, by decide, by decide +kernel⟩, by decide⟩
theorem cv_RX12_385 : CV RX12 385 mX12_chanceOf 2 := ⟨gi_V km_RX12_385 ki_yX12_chanceOf ks_yX12_chanceOf kn_ThumbBookModel kc_yX12_chanceOf, ⟨rfl, by decide, by decide, by decide +kernel⟩, by decide⟩
theorem cv_RX12_393 : CV RX12 393 mX12_spread 2 := ⟨gi_V km_RX12_393 ki_yX12_spread ks_yX12_spread kn_ThumbBookModel kc_yX12_spread, ⟨rfl, by decide, by decide, by decide +kernel⟩, by decide⟩
theorem cv_RX12_401 : CV RX12 401 mX12_part 3 := ⟨gi_V km_RX12_401 ki_yX12_part ks_yX12_part kn_ThumbBookModel kc_yX12_part, ⟨rfl, by decide, by decide, by decide +kernel⟩, by decide⟩
theorem cv_RX12_405 : CV RX12 405 mX12_tellLights 1 := ⟨gi_V km_RX12_405 ki_yX12_tellLights ks_yX12_tellLights kn_ThumbBookModel kc_yX12_tellLights, ⟨rfl, by decide, by decide, by decide +kernel⟩, by decide⟩
theorem cv_RX12_410 : CV RX12 410 mX12_tellHumps 2 := ⟨gi_V km_RX12_410 ki_yX12_tellHumps ks_yX12_tellHumps kn_ThumbBookModel kc_yX12_tellHumps, ⟨rfl, by decide, by decide, by decide +kernel⟩, by decide⟩
theorem cv_RX12_413 : CS RX12 413 mJ9_abs_0f7a4 1 := ⟨gi_S km_RX12_413 kt_yJ9_abs_0f7a4 kn_java_lang_Math kc_yJ9_abs_0f7a4, ⟨by decide, by decide, by decide +kernel⟩, by decide⟩
theorem cv_RX12_419 : CV RX12 419 mX12_tells 1 := ⟨gi_V km_RX12_419 ki_yX12_tells ks_yX12_tells kn_ThumbBookModel kc_yX12_tells, ⟨rfl, by decide, by decide, by decide +kernel⟩, by decide⟩
theorem cv_RX12_422 : CV RX12 422 mX12_makes 3 := ⟨gi_V km_RX12_422 ki_yX12_makes ks_yX12_makes kn_ThumbBookModel kc_yX12_makes, ⟨rfl, by decide, by decide, by decide +kernel⟩, by decide⟩
theorem cv_RX12_425 : CS RX12 425 mJ9_abs_067f4 1 := ⟨gi_S km_RX12_425 kt_yJ9_abs_067f4 kn_java_lang_Math kc_yJ9_abs_067f4, ⟨by decide, by decide, by decide +kernel⟩, by decide⟩
theorem cv_RX12_428 : CV RX12 428 mX12_whoseOf 1 := ⟨gi_V km_RX12_428 ki_yX12_whoseOf ks_yX12_whoseOf kn_ThumbBookModel kc_yX12_whoseOf, ⟨rfl, by decide, by decide, by decide +kernel⟩, by decide⟩
theorem cv_RX12_431 : CV RX12 431 mX12_lay 3 := ⟨gi_V km_RX12_431 ki_yX12_lay ks_yX12_lay kn_ThumbBookModel kc_yX12_lay, ⟨rfl, by decide, by decide, by decide +kernel⟩, by decide⟩
theorem cv_RX12_435 : CV RX12 435 mX12_want 1 := ⟨gi_V km_RX12_435 ki_yX12_want ks_yX12_want kn_ThumbBookModel kc_yX12_want, ⟨rfl, by decide, by decide, by decide +kernel⟩, by decide⟩
theorem cv_RX12_439 : CV RX12 439 mX12_isOpen 2 := ⟨gi_V km_RX12_439 ki_yX12_isOpen ks_yX12_isOpen kn_ThumbBookModel kc_yX12_isOpen, ⟨rfl, by decide, by decide, by decide +kernel⟩, by decide⟩
theorem cv_RX12_442 : CS RX12 442 mX12_signOf 1 := ⟨gi_S km_RX12_442 kt_yX12_signOf kn_ThumbBookModel kc_yX12_signOf, ⟨by decide, by decide, by decide +kernel⟩, by decide⟩
theorem cv_RX12_445 : CV RX12 445 mX12_alikeOf 2 := ⟨gi_V km_RX12_445 ki_yX12_alikeOf ks_yX12_alikeOf kn_ThumbBookModel kc_yX12_alikeOf, ⟨rfl, by decide, by decide, by decide +kernel⟩, by decide⟩
theorem cv_RX12_448 : CV RX12 448 mX12_turnsOf 3 := ⟨gi_V km_RX12_448 ki_yX12_turnsOf ks_yX12_turnsOf kn_ThumbBookModel kc_yX12_turnsOf, ⟨rfl, by decide, by decide, by decide +kernel⟩, by decide⟩
theorem cv_RX12_452 : CV RX12 452 mX12_isSurely 3 := ⟨gi_V km_RX12_452 ki_yX12_isSurely ks_yX12_isSurely kn_ThumbBookModel kc_yX12_isSurely, ⟨rfl, by decide, by decide, by decide +kernel⟩, by decide⟩
theorem cv_RX0_55 : CV RX0 55 mX0_wipe 0 := ⟨gi_V km_RX0_55 ki_yX0_wipe ks_yX0_wipe kn_ThumbBook_Book kc_yX0_wipe, ⟨rfl, by decide, by decide, by decide +kernel⟩, by decide⟩
theorem cv_RX0_58 : CV RX0 58 mX7_hasMore 0 := ⟨gi_V km_RX0_58 ki_yX7_hasMore ks_yX7_hasMore kn_ThumbBook_Script kc_yX7_hasMore, ⟨rfl, by decide, by decide, by decide +kernel⟩, by decide⟩
theorem cv_RX0_64 : CV RX0 64 mX0_writeLine 1 := ⟨gi_V km_RX0_64 ki_yX0_writeLine ks_yX0_writeLine kn_ThumbBook_Book kc_yX0_writeLine, ⟨rfl, by decide, by decide, by decide +kernel⟩, by decide⟩
theorem cv_RX0_68 : CV RX0 68 mX7_endLine 0 := ⟨gi_V km_RX0_68 ki_yX7_endLine ks_yX7_endLine kn_ThumbBook_Script kc_yX7_endLine, ⟨rfl, by decide, by decide, by decide +kernel⟩, by decide⟩
theorem cv_RX0_90 : CV RX0 90 mX3_wipe 0 := ⟨gi_V km_RX0_90 ki_yX3_wipe ks_yX3_wipe kn_ThumbBook_Glass kc_yX3_wipe, ⟨rfl, by decide, by decide, by decide +kernel⟩, by decide⟩
theorem cv_RX0_93 : CV RX0 93 mX7_takes 1 := ⟨gi_V km_RX0_93 ki_yX7_takes ks_yX7_takes kn_ThumbBook_Script kc_yX7_takes, ⟨rfl, by decide, by decide, by decide +kernel⟩, by decide⟩
theorem cv_RX0_97 : CV RX0 97 mX0_writeText 1 := ⟨gi_V km_RX0_97 ki_yX0_writeText ks_yX0_writeText kn_ThumbBook_Book kc_yX0_writeText, ⟨rfl, by decide, by decide, by decide +kernel⟩, by decide⟩
theorem cv_RX0_101 : CV RX0 101 mX7_number 2 := ⟨gi_V km_RX0_101 ki_yX7_number ks_yX7_number kn_ThumbBook_Script kc_yX7_number, ⟨rfl, by decide, by decide, by decide +kernel⟩, by decide⟩
theorem cv_RX0_107 : CV RX0 107 mX0_writeSpilt 1 := ⟨gi_V km_RX0_107 ki_yX0_writeSpilt ks_yX0_writeSpilt kn_ThumbBook_Book kc_yX0_writeSpilt, ⟨rfl, by decide, by decide, by decide +kernel⟩, by decide⟩
theorem cv_RX0_112 : CV RX0 112 mX0_writeWashed 1 := ⟨gi_V km_RX0_112 ki_yX0_writeWashed ks_yX0_writeWashed kn_ThumbBook_Book kc_yX0_writeWashed, ⟨rfl, by decide, by decide, by decide +kernel⟩, by decide⟩
theorem cv_RX0_118 : CV RX0 118 mX7_blame 2 := ⟨gi_V km_RX0_118 ki_yX7_blame ks_yX7_blame kn_ThumbBook_Script kc_yX7_blame, ⟨rfl, by decide, by decide, by decide +kernel⟩, by decide⟩
theorem cv_RX0_132 : CV RX0 132 mX3_readAll 1 := ⟨gi_V km_RX0_132 ki_yX3_readAll ks_yX3_readAll kn_ThumbBook_Glass kc_yX3_readAll, ⟨rfl, by decide, by decide, by decide +kernel⟩, by decide⟩
theorem cv_RX0_136 : CS RX0 136 mJ9_max_7cf53 2 := ⟨gi_S km_RX0_136 kt_yJ9_max_7cf53 kn_java_lang_Math kc_yJ9_max_7cf53, ⟨by decide, by decide, by decide +kernel⟩, by decide⟩
theorem cv_RX0_141 : CS RX0 141 mJ9_min_7cf53 2 := ⟨gi_S km_RX0_141 kt_yJ9_min_7cf53 kn_java_lang_Math kc_yJ9_min_7cf53, ⟨by decide, by decide, by decide +kernel⟩, by decide⟩
theorem cv_RX0_144 : CV RX0 144 mX10_yearly 2 := ⟨gi_V km_RX0_144 ki_yX10_yearly ks_yX10_yearly kn_ThumbBook_Way kc_yX10_yearly, ⟨rfl, by decide, by decide, by decide +kernel⟩, by decide⟩
theorem cv_RX0_154 : CV RX0 154 mX0_turned 4 := ⟨gi_V km_RX0_154 ki_yX0_turned ks_yX0_turned kn_ThumbBook_Book kc_yX0_turned, ⟨rfl, by decide, by decide, by decide +kernel⟩, by decide⟩
theorem cv_RX0_160 : CV RX0 160 mX0_ownDirt 3 := ⟨gi_V km_RX0_160 ki_yX0_ownDirt ks_yX0_ownDirt kn_ThumbBook_Book kc_yX0_ownDirt, ⟨rfl, by decide, by decide, by decide +kernel⟩, by decide⟩
theorem cv_RX0_164 : CV RX0 164 mX5_through 1 := ⟨gi_V km_RX0_164 ki_yX5_through ks_yX5_through kn_ThumbBook_Law kc_yX5_through, ⟨rfl, by decide, by decide, by decide +kernel⟩, by decide⟩
theorem cv_RX0_171 : CV RX0 171 mX0_bare 1 := ⟨gi_V km_RX0_171 ki_yX0_bare ks_yX0_bare kn_ThumbBook_Book kc_yX0_bare, ⟨rfl, by decide, by decide, by decide +kernel⟩, by decide⟩
theorem cv_RX1_16 : CS RX1 16 mJ7_fill_53178 2 := ⟨gi_S km_RX1_16 kt_yJ7_fill_53178 kn_java_util_Arrays kc_yJ7_fill_53178, ⟨by decide, by decide, by decide +kernel⟩, by decide⟩
theorem cv_RX1_32 : CV RX1 32 mX1_mix 1 := ⟨gi_V km_RX1_32 ki_yX1_mix ks_yX1_mix kn_ThumbBook_Chance kc_yX1_mix, ⟨rfl, by decide, by decide, by decide +kernel⟩, by decide⟩
theorem cv_RX1_36 : CS RX1 36 mJ9_max_7cf53 2 := ⟨gi_S km_RX1_36 kt_yJ9_max_7cf53 kn_java_lang_Math kc_yJ9_max_7cf53, ⟨by decide, by decide, by decide +kernel⟩, by decide⟩
theorem cv_RX1_42 : CN RX1 42 mX11_cutDown RX11 2 := ⟨List.mem_of_getElem? (i := 13) rfl, gi_code kc_yX11_cutDown, kt_yX11_cutDown, kn_ThumbBook, ⟨by decide, by decide, by decide +kernel⟩, by decide⟩
theorem cv_RX2_30 : CV RX2 30 mX10_yearly 2 := ⟨gi_V km_RX2_30 ki_yX10_yearly ks_yX10_yearly kn_ThumbBook_Way kc_yX10_yearly, ⟨rfl, by decide, by decide, by decide +kernel⟩, by decide⟩
theorem cv_RX2_39 : CV RX2 39 mX2_differing 5 := ⟨gi_V km_RX2_39 ki_yX2_differing ks_yX2_differing kn_ThumbBook_Fit kc_yX2_differing, ⟨rfl, by decide, by decide, by decide +kernel⟩, by decide⟩
theorem cv_RX2_53 : CS RX2 53 mJ9_abs_0f7a4 1 := ⟨gi_S km_RX2_53 kt_yJ9_abs_0f7a4 kn_java_lang_Math kc_yJ9_abs_0f7a4, ⟨by decide, by decide, by decide +kernel⟩, by decide⟩
theorem cv_RX3_18 : CS RX3 18 mJ7_fill_53178 2 := ⟨gi_S km_RX3_18 kt_yJ7_fill_53178 kn_java_util_Arrays kc_yJ7_fill_53178, ⟨by decide, by decide, by decide +kernel⟩, by decide⟩
theorem cv_RX3_30 : CV RX3 30 mX3_wasRead 1 := ⟨gi_V km_RX3_30 ki_yX3_wasRead ks_yX3_wasRead kn_ThumbBook_Glass kc_yX3_wasRead, ⟨rfl, by decide, by decide, by decide +kernel⟩, by decide⟩
theorem cv_RX3_35 : CS RX3 35 mJ9_max_7cf53 2 := ⟨gi_S km_RX3_35 kt_yJ9_max_7cf53 kn_java_lang_Math kc_yJ9_max_7cf53, ⟨by decide, by decide, by decide +kernel⟩, by decide⟩
theorem cv_RX3_41 : CS RX3 41 mJ9_min_7cf53 2 := ⟨gi_S km_RX3_41 kt_yJ9_min_7cf53 kn_java_lang_Math kc_yJ9_min_7cf53, ⟨by decide, by decide, by decide +kernel⟩, by decide⟩
theorem cv_RX4_30 : CV RX4 30 mX4_insert 2 := ⟨gi_V km_RX4_30 ki_yX4_insert ks_yX4_insert kn_ThumbBook_Humps kc_yX4_insert, ⟨rfl, by decide, by decide, by decide +kernel⟩, by decide⟩
theorem cv_RX4_36 : CV RX4 36 mX4_lastEnd 1 := ⟨gi_V km_RX4_36 ki_yX4_lastEnd ks_yX4_lastEnd kn_ThumbBook_Humps kc_yX4_lastEnd, ⟨rfl, by decide, by decide, by decide +kernel⟩, by decide⟩
theorem cv_RX4_40 : CV RX4 40 mX4_spread 2 := ⟨gi_V km_RX4_40 ki_yX4_spread ks_yX4_spread kn_ThumbBook_Humps kc_yX4_spread, ⟨rfl, by decide, by decide, by decide +kernel⟩, by decide⟩
theorem cv_RX5_24 : CV RX5 24 mX7_hasMore 0 := ⟨gi_V km_RX5_24 ki_yX7_hasMore ks_yX7_hasMore kn_ThumbBook_Script kc_yX7_hasMore, ⟨rfl, by decide, by decide, by decide +kernel⟩, by decide⟩
theorem cv_RX5_30 : CV RX5 30 mX5_writeLine 1 := ⟨gi_V km_RX5_30 ki_yX5_writeLine ks_yX5_writeLine kn_ThumbBook_Law kc_yX5_writeLine, ⟨rfl, by decide, by decide, by decide +kernel⟩, by decide⟩
theorem cv_RX5_34 : CV RX5 34 mX7_endLine 0 := ⟨gi_V km_RX5_34 ki_yX7_endLine ks_yX7_endLine kn_ThumbBook_Script kc_yX7_endLine, ⟨rfl, by decide, by decide, by decide +kernel⟩, by decide⟩
theorem cv_RX5_39 : CV RX5 39 mX7_takes 1 := ⟨gi_V km_RX5_39 ki_yX7_takes ks_yX7_takes kn_ThumbBook_Script kc_yX7_takes, ⟨rfl, by decide, by decide, by decide +kernel⟩, by decide⟩
theorem cv_RX5_43 : CV RX5 43 mX5_once 2 := ⟨gi_V km_RX5_43 ki_yX5_once ks_yX5_once kn_ThumbBook_Law kc_yX5_once, ⟨rfl, by decide, by decide, by decide +kernel⟩, by decide⟩
theorem cv_RX5_47 : CV RX5 47 mX7_number 2 := ⟨gi_V km_RX5_47 ki_yX7_number ks_yX7_number kn_ThumbBook_Script kc_yX7_number, ⟨rfl, by decide, by decide, by decide +kernel⟩, by decide⟩
theorem cv_RX5_56 : CV RX5 56 mX7_blame 2 := ⟨gi_V km_RX5_56 ki_yX7_blame ks_yX7_blame kn_ThumbBook_Script kc_yX7_blame, ⟨rfl, by decide, by decide, by decide +kernel⟩, by decide⟩
theorem cv_RX6_29 : CV RX6 29 mX0_bareHigh 2 := ⟨gi_V km_RX6_29 ki_yX0_bareHigh ks_yX0_bareHigh kn_ThumbBook_Book kc_yX0_bareHigh, ⟨rfl, by decide, by decide, by decide +kernel⟩, by decide⟩
theorem cv_RX6_36 : CV RX6 36 mX0_bareLow 2 := ⟨gi_V km_RX6_36 ki_yX0_bareLow ks_yX0_bareLow kn_ThumbBook_Book kc_yX0_bareLow, ⟨rfl, by decide, by decide, by decide +kernel⟩, by decide⟩
theorem cv_RX6_39 : CV RX6 39 mX5_through 1 := ⟨gi_V km_RX6_39 ki_yX5_through ks_yX5_through kn_ThumbBook_Law kc_yX5_through, ⟨rfl, by decide, by decide, by decide +kernel⟩, by decide⟩
theorem cv_RX6_45 : CV RX6 45 mX6_lack 2 := ⟨gi_V km_RX6_45 ki_yX6_lack ks_yX6_lack kn_ThumbBook_Order kc_yX6_lack, ⟨rfl, by decide, by decide, by decide +kernel⟩, by decide⟩
theorem cv_RX6_49 : CV RX6 49 mX6_want 0 := ⟨gi_V km_RX6_49 ki_yX6_want ks_yX6_want kn_ThumbBook_Order kc_yX6_want, ⟨rfl, by decide, by decide, by decide +kernel⟩, by decide⟩
theorem cv_RX6_59 : CV RX6 59 mX6_putAt 2 := ⟨gi_V km_RX6_59 ki_yX6_putAt ks_yX6_putAt kn_ThumbBook_Order kc_yX6_putAt, ⟨rfl, by decide, by decide, by decide +kernel⟩, by decide⟩
theorem cv_RX6_65 : CS RX6 65 mX6_otherAt 2 := ⟨gi_S km_RX6_65 kt_yX6_otherAt kn_ThumbBook_Order kc_yX6_otherAt, ⟨by decide, by decide, by decide +kernel⟩, by decide⟩
theorem cv_RX6_68 : CS RX6 68 mJ9_max_7cf53 2 := ⟨gi_S km_RX6_68 kt_yJ9_max_7cf53 kn_java_lang_Math kc_yJ9_max_7cf53, ⟨by decide, by decide, by decide +kernel⟩, by decide⟩
theorem cv_RX7_34 : CV RX7 34 mX7_step 0 := ⟨gi_V km_RX7_34 ki_yX7_step ks_yX7_step kn_ThumbBook_Script kc_yX7_step, ⟨rfl, by decide, by decide, by decide +kernel⟩, by decide⟩
theorem cv_RX7_40 : CV RX7 40 mX7_spells 1 := ⟨gi_V km_RX7_40 ki_yX7_spells ks_yX7_spells kn_ThumbBook_Script kc_yX7_spells, ⟨rfl, by decide, by decide, by decide +kernel⟩, by decide⟩
theorem cv_RX7_47 : CV RX7 47 mX7_blame 2 := ⟨gi_V km_RX7_47 ki_yX7_blame ks_yX7_blame kn_ThumbBook_Script kc_yX7_blame, ⟨rfl, by decide, by decide, by decide +kernel⟩, by decide⟩
theorem cv_RX7_51 : CV RX7 51 mX7_digits 0 := ⟨gi_V km_RX7_51 ki_yX7_digits ks_yX7_digits kn_ThumbBook_Script kc_yX7_digits, ⟨rfl, by decide, by decide, by decide +kernel⟩, by decide⟩
theorem cv_RX7_55 : CS RX7 55 mX7_sortOf 1 := ⟨gi_S km_RX7_55 kt_yX7_sortOf kn_ThumbBook_Script kc_yX7_sortOf, ⟨by decide, by decide, by decide +kernel⟩, by decide⟩
theorem cv_RX7_59 : CV RX7 59 mJ0_length_8abf5 0 := ⟨gi_V km_RX7_59 ki_yJ0_length_8abf5 ks_yJ0_length_8abf5 kn_java_lang_String kc_yJ0_length_8abf5, ⟨rfl, by decide, by decide, by decide +kernel⟩, by decide⟩
theorem cv_RX7_63 : CV RX7 63 mJ0_charAt_5068e 1 := ⟨gi_V km_RX7_63 ki_yJ0_charAt_5068e ks_yJ0_charAt_5068e kn_java_lang_String kc_yJ0_charAt_5068e, ⟨rfl, by decide, by decide, by decide +kernel⟩, by decide⟩
theorem cv_RX8_24 : CN RX8 24 mX11_cutDown RX11 2 := ⟨List.mem_of_getElem? (i := 14) rfl, gi_code kc_yX11_cutDown, kt_yX11_cutDown, kn_ThumbBook, ⟨by decide, by decide, by decide +kernel⟩, by decide⟩
theorem cv_RX8_28 : CS RX8 28 mJ9_max_7cf53 2 := ⟨gi_S km_RX8_28 kt_yJ9_max_7cf53 kn_java_lang_Math kc_yJ9_max_7cf53, ⟨by decide, by decide, by decide +kernel⟩, by decide⟩
theorem cv_RX8_37 : CN RX8 37 mX11_cutUp RX11 2 := ⟨List.mem_of_getElem? (i := 15) rfl, gi_code kc_yX11_cutUp, kt_yX11_cutUp, kn_ThumbBook, ⟨by decide, by decide, by decide +kernel⟩, by decide⟩
theorem cv_RX8_40 : CS RX8 40 mJ9_min_7cf53 2 := ⟨gi_S km_RX8_40 kt_yJ9_min_7cf53 kn_java_lang_Math kc_yJ9_min_7cf53, ⟨by decide, by decide, by decide +kernel⟩, by decide⟩
theorem cv_RX9_42 : CV RX9 42 mX3_wasRead 1 := ⟨gi_V km_RX9_42 ki_yX3_wasRead ks_yX3_wasRead kn_ThumbBook_Glass kc_yX3_wasRead, ⟨rfl, by decide, by decide, by decide +kernel⟩, by decide⟩
theorem cv_RX9_48 : CV RX9 48 mX9_fillLeaf 5 := ⟨gi_V km_RX9_48 ki_yX9_fillLeaf ks_yX9_fillLeaf kn_ThumbBook_Undone kc_yX9_fillLeaf, ⟨rfl, by decide, by decide, by decide +kernel⟩, by decide⟩
theorem cv_RX9_52 : CV RX9 52 mX9_fillLights 1 := ⟨gi_V km_RX9_52 ki_yX9_fillLights ks_yX9_fillLights kn_ThumbBook_Undone kc_yX9_fillLights, ⟨rfl, by decide, by decide, by decide +kernel⟩, by decide⟩
theorem cv_RX9_56 : CV RX9 56 mX0_bareHigh 2 := ⟨gi_V km_RX9_56 ki_yX0_bareHigh ks_yX0_bareHigh kn_ThumbBook_Book kc_yX0_bareHigh, ⟨rfl, by decide, by decide, by decide +kernel⟩, by decide⟩
theorem cv_RX9_60 : CV RX9 60 mX5_through 1 := ⟨gi_V km_RX9_60 ki_yX5_through ks_yX5_through kn_ThumbBook_Law kc_yX5_through, ⟨rfl, by decide, by decide, by decide +kernel⟩, by decide⟩
theorem cv_RX9_66 : CV RX9 66 mX0_bareLow 2 := ⟨gi_V km_RX9_66 ki_yX0_bareLow ks_yX0_bareLow kn_ThumbBook_Book kc_yX0_bareLow, ⟨rfl, by decide, by decide, by decide +kernel⟩, by decide⟩
theorem cv_RX9_72 : CS RX9 72 mJ9_max_7cf53 2 := ⟨gi_S km_RX9_72 kt_yJ9_max_7cf53 kn_java_lang_Math kc_yJ9_max_7cf53, ⟨by decide, by decide, by decide +kernel⟩, by decide⟩
theorem cv_RX9_81 : CN RX9 81 mX11_cutUp RX11 2 := ⟨List.mem_of_getElem? (i := 10) rfl, gi_code kc_yX11_cutUp, kt_yX11_cutUp, kn_ThumbBook, ⟨by decide, by decide, by decide +kernel⟩, by decide⟩
theorem cv_RX9_85 : CN RX9 85 mX11_cutDown RX11 2 := ⟨List.mem_of_getElem? (i := 11) rfl, gi_code kc_yX11_cutDown, kt_yX11_cutDown, kn_ThumbBook, ⟨by decide, by decide, by decide +kernel⟩, by decide⟩
theorem cv_RX9_88 : CV RX9 88 mX9_isStrange 1 := ⟨gi_V km_RX9_88 ki_yX9_isStrange ks_yX9_isStrange kn_ThumbBook_Undone kc_yX9_isStrange, ⟨rfl, by decide, by decide, by decide +kernel⟩, by decide⟩
theorem cv_RX9_91 : CS RX9 91 mJ7_fill_53178 2 := ⟨gi_S km_RX9_91 kt_yJ7_fill_53178 kn_java_util_Arrays kc_yJ7_fill_53178, ⟨by decide, by decide, by decide +kernel⟩, by decide⟩
theorem cv_RX9_102 : CN RX9 102 mX11_compared RX11 2 := ⟨List.mem_of_getElem? (i := 12) rfl, gi_code kc_yX11_compared, kt_yX11_compared, kn_ThumbBook, ⟨by decide, by decide, by decide +kernel⟩, by decide⟩
theorem cv_RX9_111 : CV RX9 111 mX10_yearly 2 := ⟨gi_V km_RX9_111 ki_yX10_yearly ks_yX10_yearly kn_ThumbBook_Way kc_yX10_yearly, ⟨rfl, by decide, by decide, by decide +kernel⟩, by decide⟩
theorem cv_RX9_116 : CS RX9 116 mJ9_abs_067f4 1 := ⟨gi_S km_RX9_116 kt_yJ9_abs_067f4 kn_java_lang_Math kc_yJ9_abs_067f4, ⟨by decide, by decide, by decide +kernel⟩, by decide⟩
theorem cv_RX9_120 : CS RX9 120 mJ9_min_7cf53 2 := ⟨gi_S km_RX9_120 kt_yJ9_min_7cf53 kn_java_lang_Math kc_yJ9_min_7cf53, ⟨by decide, by decide, by decide +kernel⟩, by decide⟩
theorem cv_RX9_123 : CV RX9 123 mX9_bothHave 2 := ⟨gi_V km_RX9_123 ki_yX9_bothHave ks_yX9_bothHave kn_ThumbBook_Undone kc_yX9_bothHave, ⟨rfl, by decide, by decide, by decide +kernel⟩, by decide⟩
theorem cv_RX10_18 : CS RX10 18 mJ7_fill_53178 2 := ⟨gi_S km_RX10_18 kt_yJ7_fill_53178 kn_java_util_Arrays kc_yJ7_fill_53178, ⟨by decide, by decide, by decide +kernel⟩, by decide⟩
theorem cv_RX10_24 : CV RX10 24 mX7_hasMore 0 := ⟨gi_V km_RX10_24 ki_yX7_hasMore ks_yX7_hasMore kn_ThumbBook_Script kc_yX7_hasMore, ⟨rfl, by decide, by decide, by decide +kernel⟩, by decide⟩
theorem cv_RX10_30 : CV RX10 30 mX10_writeLine 1 := ⟨gi_V km_RX10_30 ki_yX10_writeLine ks_yX10_writeLine kn_ThumbBook_Way kc_yX10_writeLine, ⟨rfl, by decide, by decide, by decide +kernel⟩, by decide⟩
theorem cv_RX10_34 : CV RX10 34 mX7_endLine 0 := ⟨gi_V km_RX10_34 ki_yX7_endLine ks_yX7_endLine kn_ThumbBook_Script kc_yX7_endLine, ⟨rfl, by decide, by decide, by decide +kernel⟩, by decide⟩
theorem cv_RX10_39 : CV RX10 39 mX7_takes 1 := ⟨gi_V km_RX10_39 ki_yX7_takes ks_yX7_takes kn_ThumbBook_Script kc_yX7_takes, ⟨rfl, by decide, by decide, by decide +kernel⟩, by decide⟩
theorem cv_RX10_47 : CV RX10 47 mX7_blame 2 := ⟨gi_V km_RX10_47 ki_yX7_blame ks_yX7_blame kn_ThumbBook_Script kc_yX7_blame, ⟨rfl, by decide, by decide, by decide +kernel⟩, by decide⟩
theorem cv_RX10_51 : CV RX10 51 mX7_number 2 := ⟨gi_V km_RX10_51 ki_yX7_number ks_yX7_number kn_ThumbBook_Script kc_yX7_number, ⟨rfl, by decide, by decide, by decide +kernel⟩, by decide⟩
theorem cv_RL_7 : CV RL 7 mX11_book 2 := ⟨gi_V km_RL_7 ki_yX11_book ks_yX11_book kn_ThumbBook kc_yX11_book, ⟨rfl, by decide, by decide, by decide +kernel⟩, by decide⟩
theorem cv_RL_17 : CV RL 17 mX11_law 1 := ⟨gi_V km_RL_17 ki_yX11_law ks_yX11_law kn_ThumbBook kc_yX11_law, ⟨rfl, by decide, by decide, by decide +kernel⟩, by decide⟩
theorem cv_RL_21 : CV RL 21 mX11_way 2 := ⟨gi_V km_RL_21 ki_yX11_way ks_yX11_way kn_ThumbBook kc_yX11_way, ⟨rfl, by decide, by decide, by decide +kernel⟩, by decide⟩
theorem cv_RL_24 : CV RL 24 mX11_count 1 := ⟨gi_V km_RL_24 ki_yX11_count ks_yX11_count kn_ThumbBook kc_yX11_count, ⟨rfl, by decide, by decide, by decide +kernel⟩, by decide⟩
theorem cv_RL_27 : CV RL 27 mX11_about 2 := ⟨gi_V km_RL_27 ki_yX11_about ks_yX11_about kn_ThumbBook kc_yX11_about, ⟨rfl, by decide, by decide, by decide +kernel⟩, by decide⟩
theorem cv_RL_30 : CV RL 30 mX11_leaf 3 := ⟨gi_V km_RL_30 ki_yX11_leaf ks_yX11_leaf kn_ThumbBook kc_yX11_leaf, ⟨rfl, by decide, by decide, by decide +kernel⟩, by decide⟩
theorem cv_RL_34 : CV RL 34 mX11_turnings 3 := ⟨gi_V km_RL_34 ki_yX11_turnings ks_yX11_turnings kn_ThumbBook kc_yX11_turnings, ⟨rfl, by decide, by decide, by decide +kernel⟩, by decide⟩
theorem cv_RL_37 : CV RL 37 mX11_reader 4 := ⟨gi_V km_RL_37 ki_yX11_reader ks_yX11_reader kn_ThumbBook kc_yX11_reader, ⟨rfl, by decide, by decide, by decide +kernel⟩, by decide⟩
theorem cv_RL_41 : CV RL 41 mX11_gone 1 := ⟨gi_V km_RL_41 ki_yX11_gone ks_yX11_gone kn_ThumbBook kc_yX11_gone, ⟨rfl, by decide, by decide, by decide +kernel⟩, by decide⟩
theorem cv_RL_44 : CV RL 44 mX11_dirt 3 := ⟨gi_V km_RL_44 ki_yX11_dirt ks_yX11_dirt kn_ThumbBook kc_yX11_dirt, ⟨rfl, by decide, by decide, by decide +kernel⟩, by decide⟩
theorem cv_RL_47 : CV RL 47 mX11_drawn 2 := ⟨gi_V km_RL_47 ki_yX11_drawn ks_yX11_drawn kn_ThumbBook kc_yX11_drawn, ⟨rfl, by decide, by decide, by decide +kernel⟩, by decide⟩
theorem cv_RL_50 : CV RL 50 mX11_read 3 := ⟨gi_V km_RL_50 ki_yX11_read ks_yX11_read kn_ThumbBook kc_yX11_read, ⟨rfl, by decide, by decide, by decide +kernel⟩, by decide⟩
theorem cv_RL_54 : CV RL 54 mX11_bounds 3 := ⟨gi_V km_RL_54 ki_yX11_bounds ks_yX11_bounds kn_ThumbBook kc_yX11_bounds, ⟨rfl, by decide, by decide, by decide +kernel⟩, by decide⟩
theorem cv_RL_57 : CV RL 57 mX11_light 2 := ⟨gi_V km_RL_57 ki_yX11_light ks_yX11_light kn_ThumbBook kc_yX11_light, ⟨rfl, by decide, by decide, by decide +kernel⟩, by decide⟩
theorem cv_RL_60 : CV RL 60 mX11_sleepy 2 := ⟨gi_V km_RL_60 ki_yX11_sleepy ks_yX11_sleepy kn_ThumbBook kc_yX11_sleepy, ⟨rfl, by decide, by decide, by decide +kernel⟩, by decide⟩
theorem cv_RL_63 : CV RL 63 mX11_humps 2 := ⟨gi_V km_RL_63 ki_yX11_humps ks_yX11_humps kn_ThumbBook kc_yX11_humps, ⟨rfl, by decide, by decide, by decide +kernel⟩, by decide⟩
theorem cv_RL_67 : CV RL 67 mX11_hump 3 := ⟨gi_V km_RL_67 ki_yX11_hump ks_yX11_hump kn_ThumbBook kc_yX11_hump, ⟨rfl, by decide, by decide, by decide +kernel⟩, by decide⟩
theorem cv_RL_70 : CV RL 70 mX11_fitted 3 := ⟨gi_V km_RL_70 ki_yX11_fitted ks_yX11_fitted kn_ThumbBook kc_yX11_fitted, ⟨rfl, by decide, by decide, by decide +kernel⟩, by decide⟩
theorem cv_RL_73 : CV RL 73 mX11_years 1 := ⟨gi_V km_RL_73 ki_yX11_years ks_yX11_years kn_ThumbBook kc_yX11_years, ⟨rfl, by decide, by decide, by decide +kernel⟩, by decide⟩
theorem cv_RL_76 : CV RL 76 mX11_whose 1 := ⟨gi_V km_RL_76 ki_yX11_whose ks_yX11_whose kn_ThumbBook kc_yX11_whose, ⟨rfl, by decide, by decide, by decide +kernel⟩, by decide⟩
theorem cv_RL_79 : CV RL 79 mX11_order 2 := ⟨gi_V km_RL_79 ki_yX11_order ks_yX11_order kn_ThumbBook kc_yX11_order, ⟨rfl, by decide, by decide, by decide +kernel⟩, by decide⟩
theorem cv_RL_82 : CV RL 82 mX11_falls 2 := ⟨gi_V km_RL_82 ki_yX11_falls ks_yX11_falls kn_ThumbBook kc_yX11_falls, ⟨rfl, by decide, by decide, by decide +kernel⟩, by decide⟩
theorem cv_RL_85 : CV RL 85 mX11_turn 1 := ⟨gi_V km_RL_85 ki_yX11_turn ks_yX11_turn kn_ThumbBook kc_yX11_turn, ⟨rfl, by decide, by decide, by decide +kernel⟩, by decide⟩
theorem cv_RL_88 : CV RL 88 mX11_town 1 := ⟨gi_V km_RL_88 ki_yX11_town ks_yX11_town kn_ThumbBook kc_yX11_town, ⟨rfl, by decide, by decide, by decide +kernel⟩, by decide⟩
theorem cv_RL_91 : CV RL 91 mX11_alike 2 := ⟨gi_V km_RL_91 ki_yX11_alike ks_yX11_alike kn_ThumbBook kc_yX11_alike, ⟨rfl, by decide, by decide, by decide +kernel⟩, by decide⟩
theorem cv_RL_94 : CV RL 94 mX11_nearest 1 := ⟨gi_V km_RL_94 ki_yX11_nearest ks_yX11_nearest kn_ThumbBook kc_yX11_nearest, ⟨rfl, by decide, by decide, by decide +kernel⟩, by decide⟩
theorem cv_RL_97 : CV RL 97 mX11_sure 3 := ⟨gi_V km_RL_97 ki_yX11_sure ks_yX11_sure kn_ThumbBook kc_yX11_sure, ⟨rfl, by decide, by decide, by decide +kernel⟩, by decide⟩
theorem cv_RL_100 : CV RL 100 mX11_before 4 := ⟨gi_V km_RL_100 ki_yX11_before ks_yX11_before kn_ThumbBook kc_yX11_before, ⟨rfl, by decide, by decide, by decide +kernel⟩, by decide⟩
theorem cv_RL_103 : CV RL 103 mX11_told 4 := ⟨gi_V km_RL_103 ki_yX11_told ks_yX11_told kn_ThumbBook kc_yX11_told, ⟨rfl, by decide, by decide, by decide +kernel⟩, by decide⟩
theorem cv_RL_106 : CV RL 106 mX11_next 1 := ⟨gi_V km_RL_106 ki_yX11_next ks_yX11_next kn_ThumbBook kc_yX11_next, ⟨rfl, by decide, by decide, by decide +kernel⟩, by decide⟩
theorem cv_RL_113 : CV RL 113 mX11_feed 5 := ⟨gi_V km_RL_113 ki_yX11_feed ks_yX11_feed kn_ThumbBook kc_yX11_feed, ⟨rfl, by decide, by decide, by decide +kernel⟩, by decide⟩
theorem cv_RL_117 : CV RL 117 mX12_feed 5 := ⟨gi_V km_RL_117 ki_yX12_feed ks_yX12_feed kn_ThumbBookModel kc_yX12_feed, ⟨rfl, by decide, by decide, by decide +kernel⟩, by decide⟩
theorem cv_RL_123 : CV RL 123 mX12_book 2 := ⟨gi_V km_RL_123 ki_yX12_book ks_yX12_book kn_ThumbBookModel kc_yX12_book, ⟨rfl, by decide, by decide, by decide +kernel⟩, by decide⟩
theorem cv_RL_124 : CV RL 124 mX12_thrown 0 := ⟨gi_V km_RL_124 ki_yX12_thrown ks_yX12_thrown kn_ThumbBookModel kc_yX12_thrown, ⟨rfl, by decide, by decide, by decide +kernel⟩, by decide⟩
theorem cv_RL_131 : CV RL 131 mX12_law 1 := ⟨gi_V km_RL_131 ki_yX12_law ks_yX12_law kn_ThumbBookModel kc_yX12_law, ⟨rfl, by decide, by decide, by decide +kernel⟩, by decide⟩
theorem cv_RL_134 : CV RL 134 mX12_way 2 := ⟨gi_V km_RL_134 ki_yX12_way ks_yX12_way kn_ThumbBookModel kc_yX12_way, ⟨rfl, by decide, by decide, by decide +kernel⟩, by decide⟩
theorem cv_RL_135 : CV RL 135 mX11_fault 0 := ⟨gi_V km_RL_135 ki_yX11_fault ks_yX11_fault kn_ThumbBook kc_yX11_fault, ⟨rfl, by decide, by decide, by decide +kernel⟩, by decide⟩
theorem cv_RL_138 : CV RL 138 mX12_fault 0 := ⟨gi_V km_RL_138 ki_yX12_fault ks_yX12_fault kn_ThumbBookModel kc_yX12_fault, ⟨rfl, by decide, by decide, by decide +kernel⟩, by decide⟩
theorem cv_RL_141 : CV RL 141 mX12_count 1 := ⟨gi_V km_RL_141 ki_yX12_count ks_yX12_count kn_ThumbBookModel kc_yX12_count, ⟨rfl, by decide, by decide, by decide +kernel⟩, by decide⟩
theorem cv_RL_144 : CV RL 144 mX12_about 2 := ⟨gi_V km_RL_144 ki_yX12_about ks_yX12_about kn_ThumbBookModel kc_yX12_about, ⟨rfl, by decide, by decide, by decide +kernel⟩, by decide⟩
theorem cv_RL_148 : CV RL 148 mX12_leaf 3 := ⟨gi_V km_RL_148 ki_yX12_leaf ks_yX12_leaf kn_ThumbBookModel kc_yX12_leaf, ⟨rfl, by decide, by decide, by decide +kernel⟩, by decide⟩
theorem cv_RL_151 : CV RL 151 mX12_turnings 3 := ⟨gi_V km_RL_151 ki_yX12_turnings ks_yX12_turnings kn_ThumbBookModel kc_yX12_turnings, ⟨rfl, by decide, by decide, by decide +kernel⟩, by decide⟩
theorem cv_RL_155 : CV RL 155 mX12_reader 4 := ⟨gi_V km_RL_155 ki_yX12_reader ks_yX12_reader kn_ThumbBookModel kc_yX12_reader, ⟨rfl, by decide, by decide, by decide +kernel⟩, by decide⟩
theorem cv_RL_158 : CV RL 158 mX12_gone 1 := ⟨gi_V km_RL_158 ki_yX12_gone ks_yX12_gone kn_ThumbBookModel kc_yX12_gone, ⟨rfl, by decide, by decide, by decide +kernel⟩, by decide⟩
theorem cv_RL_161 : CV RL 161 mX12_dirt 3 := ⟨gi_V km_RL_161 ki_yX12_dirt ks_yX12_dirt kn_ThumbBookModel kc_yX12_dirt, ⟨rfl, by decide, by decide, by decide +kernel⟩, by decide⟩
theorem cv_RL_164 : CV RL 164 mX12_drawn 2 := ⟨gi_V km_RL_164 ki_yX12_drawn ks_yX12_drawn kn_ThumbBookModel kc_yX12_drawn, ⟨rfl, by decide, by decide, by decide +kernel⟩, by decide⟩
theorem cv_RL_167 : CV RL 167 mX12_read 3 := ⟨gi_V km_RL_167 ki_yX12_read ks_yX12_read kn_ThumbBookModel kc_yX12_read, ⟨rfl, by decide, by decide, by decide +kernel⟩, by decide⟩
theorem cv_RL_170 : CV RL 170 mX12_bounds 3 := ⟨gi_V km_RL_170 ki_yX12_bounds ks_yX12_bounds kn_ThumbBookModel kc_yX12_bounds, ⟨rfl, by decide, by decide, by decide +kernel⟩, by decide⟩
theorem cv_RL_173 : CV RL 173 mX12_light 2 := ⟨gi_V km_RL_173 ki_yX12_light ks_yX12_light kn_ThumbBookModel kc_yX12_light, ⟨rfl, by decide, by decide, by decide +kernel⟩, by decide⟩
theorem cv_RL_176 : CV RL 176 mX12_sleepy 2 := ⟨gi_V km_RL_176 ki_yX12_sleepy ks_yX12_sleepy kn_ThumbBookModel kc_yX12_sleepy, ⟨rfl, by decide, by decide, by decide +kernel⟩, by decide⟩
theorem cv_RL_179 : CV RL 179 mX12_humps 2 := ⟨gi_V km_RL_179 ki_yX12_humps ks_yX12_humps kn_ThumbBookModel kc_yX12_humps, ⟨rfl, by decide, by decide, by decide +kernel⟩, by decide⟩
theorem cv_RL_182 : CV RL 182 mX12_hump 3 := ⟨gi_V km_RL_182 ki_yX12_hump ks_yX12_hump kn_ThumbBookModel kc_yX12_hump, ⟨rfl, by decide, by decide, by decide +kernel⟩, by decide⟩
theorem cv_RL_185 : CV RL 185 mX12_fitted 3 := ⟨gi_V km_RL_185 ki_yX12_fitted ks_yX12_fitted kn_ThumbBookModel kc_yX12_fitted, ⟨rfl, by decide, by decide, by decide +kernel⟩, by decide⟩
theorem cv_RL_188 : CV RL 188 mX12_years 1 := ⟨gi_V km_RL_188 ki_yX12_years ks_yX12_years kn_ThumbBookModel kc_yX12_years, ⟨rfl, by decide, by decide, by decide +kernel⟩, by decide⟩
theorem cv_RL_191 : CV RL 191 mX12_whose 1 := ⟨gi_V km_RL_191 ki_yX12_whose ks_yX12_whose kn_ThumbBookModel kc_yX12_whose, ⟨rfl, by decide, by decide, by decide +kernel⟩, by decide⟩
theorem cv_RL_194 : CV RL 194 mX12_order 2 := ⟨gi_V km_RL_194 ki_yX12_order ks_yX12_order kn_ThumbBookModel kc_yX12_order, ⟨rfl, by decide, by decide, by decide +kernel⟩, by decide⟩
theorem cv_RL_197 : CV RL 197 mX12_falls 2 := ⟨gi_V km_RL_197 ki_yX12_falls ks_yX12_falls kn_ThumbBookModel kc_yX12_falls, ⟨rfl, by decide, by decide, by decide +kernel⟩, by decide⟩
theorem cv_RL_198 : CV RL 198 mX11_blank 2 := ⟨gi_V km_RL_198 ki_yX11_blank ks_yX11_blank kn_ThumbBook kc_yX11_blank, ⟨rfl, by decide, by decide, by decide +kernel⟩, by decide⟩
theorem cv_RL_201 : CV RL 201 mX12_blank 2 := ⟨gi_V km_RL_201 ki_yX12_blank ks_yX12_blank kn_ThumbBookModel kc_yX12_blank, ⟨rfl, by decide, by decide, by decide +kernel⟩, by decide⟩
theorem cv_RL_202 : CV RL 202 mX11_clear 0 := ⟨gi_V km_RL_202 ki_yX11_clear ks_yX11_clear kn_ThumbBook kc_yX11_clear, ⟨rfl, by decide, by decide, by decide +kernel⟩, by decide⟩
theorem cv_RL_205 : CV RL 205 mX12_clear 0 := ⟨gi_V km_RL_205 ki_yX12_clear ks_yX12_clear kn_ThumbBookModel kc_yX12_clear, ⟨rfl, by decide, by decide, by decide +kernel⟩, by decide⟩
theorem cv_RL_208 : CV RL 208 mX12_turn 1 := ⟨gi_V km_RL_208 ki_yX12_turn ks_yX12_turn kn_ThumbBookModel kc_yX12_turn, ⟨rfl, by decide, by decide, by decide +kernel⟩, by decide⟩
theorem cv_RL_211 : CV RL 211 mX12_town 1 := ⟨gi_V km_RL_211 ki_yX12_town ks_yX12_town kn_ThumbBookModel kc_yX12_town, ⟨rfl, by decide, by decide, by decide +kernel⟩, by decide⟩
theorem cv_RL_214 : CV RL 214 mX12_alike 2 := ⟨gi_V km_RL_214 ki_yX12_alike ks_yX12_alike kn_ThumbBookModel kc_yX12_alike, ⟨rfl, by decide, by decide, by decide +kernel⟩, by decide⟩
theorem cv_RL_217 : CV RL 217 mX12_nearest 1 := ⟨gi_V km_RL_217 ki_yX12_nearest ks_yX12_nearest kn_ThumbBookModel kc_yX12_nearest, ⟨rfl, by decide, by decide, by decide +kernel⟩, by decide⟩
theorem cv_RL_220 : CV RL 220 mX12_sure 3 := ⟨gi_V km_RL_220 ki_yX12_sure ks_yX12_sure kn_ThumbBookModel kc_yX12_sure, ⟨rfl, by decide, by decide, by decide +kernel⟩, by decide⟩
theorem cv_RL_223 : CV RL 223 mX12_before 4 := ⟨gi_V km_RL_223 ki_yX12_before ks_yX12_before kn_ThumbBookModel kc_yX12_before, ⟨rfl, by decide, by decide, by decide +kernel⟩, by decide⟩
theorem cv_RL_226 : CV RL 226 mX12_told 4 := ⟨gi_V km_RL_226 ki_yX12_told ks_yX12_told kn_ThumbBookModel kc_yX12_told, ⟨rfl, by decide, by decide, by decide +kernel⟩, by decide⟩
theorem cv_RL_229 : CV RL 229 mX12_next 1 := ⟨gi_V km_RL_229 ki_yX12_next ks_yX12_next kn_ThumbBookModel kc_yX12_next, ⟨rfl, by decide, by decide, by decide +kernel⟩, by decide⟩
theorem cv_RL_230 : CV RL 230 mX11_image 0 := ⟨gi_V km_RL_230 ki_yX11_image ks_yX11_image kn_ThumbBook kc_yX11_image, ⟨rfl, by decide, by decide, by decide +kernel⟩, by decide⟩
theorem cv_RL_233 : CV RL 233 mX12_image 0 := ⟨gi_V km_RL_233 ki_yX12_image ks_yX12_image kn_ThumbBookModel kc_yX12_image, ⟨rfl, by decide, by decide, by decide +kernel⟩, by decide⟩
theorem cv_RL_234 : CV RL 234 mX11_restore 0 := ⟨gi_V km_RL_234 ki_yX11_restore ks_yX11_restore kn_ThumbBook kc_yX11_restore, ⟨rfl, by decide, by decide, by decide +kernel⟩, by decide⟩
theorem cv_RL_238 : CV RL 238 mX12_restore 0 := ⟨gi_V km_RL_238 ki_yX12_restore ks_yX12_restore kn_ThumbBookModel kc_yX12_restore, ⟨rfl, by decide, by decide, by decide +kernel⟩, by decide⟩
theorem cv_RJ0_1059 : CS RJ0 1059 mJ3_checkIndex_8e157 3 := ⟨gi_S km_RJ0_1059 kt_yJ3_checkIndex_8e157 kn_jdk_internal_util_Preconditions kc_yJ3_checkIndex_8e157, ⟨by decide, by decide, by decide +kernel⟩, by decide⟩
theorem cv_RJ0_335 : CV RJ0 335 mJ0_coder_7d493 0 := ⟨gi_V km_RJ0_335 ki_yJ0_coder_7d493 ks_yJ0_coder_7d493 kn_java_lang_String kc_yJ0_coder_7d493, ⟨rfl, by decide, by decide, by decide +kernel⟩, by decide⟩
theorem cv_RJ0_492 : CV RJ0 492 mJ0_isLatin1_aae02 0 := ⟨gi_V km_RJ0_492 ki_yJ0_isLatin1_aae02 ks_yJ0_isLatin1_aae02 kn_java_lang_String kc_yJ0_isLatin1_aae02, ⟨rfl, by decide, by decide, by decide +kernel⟩, by decide⟩
theorem cv_RJ0_495 : CS RJ0 495 mJ1_charAt_3b067 2 := ⟨gi_S km_RJ0_495 kt_yJ1_charAt_3b067 kn_java_lang_StringLatin1 kc_yJ1_charAt_3b067, ⟨by decide, by decide, by decide +kernel⟩, by decide⟩
theorem cv_RJ0_498 : CS RJ0 498 mJ2_charAt_3b067 2 := ⟨gi_S km_RJ0_498 kt_yJ2_charAt_3b067 kn_java_lang_StringUTF16 kc_yJ2_charAt_3b067, ⟨by decide, by decide, by decide +kernel⟩, by decide⟩
theorem cv_RJ1_9 : CS RJ1 9 mJ0_checkIndex_df160 2 := ⟨gi_S km_RJ1_9 kt_yJ0_checkIndex_df160 kn_java_lang_String kc_yJ0_checkIndex_df160, ⟨by decide, by decide, by decide +kernel⟩, by decide⟩
theorem cv_RJ2_48 : CS RJ2 48 mJ2_length_9d52b 1 := ⟨gi_S km_RJ2_48 kt_yJ2_length_9d52b kn_java_lang_StringUTF16 kc_yJ2_length_9d52b, ⟨by decide, by decide, by decide +kernel⟩, by decide⟩
theorem cv_RJ2_67 : CS RJ2 67 mJ2_checkIndex_2214a 2 := ⟨gi_S km_RJ2_67 kt_yJ2_checkIndex_2214a kn_java_lang_StringUTF16 kc_yJ2_checkIndex_2214a, ⟨by decide, by decide, by decide +kernel⟩, by decide⟩
theorem cv_RJ2_71 : CS RJ2 71 mJ2_getChar_3b067 2 := ⟨gi_S km_RJ2_71 kt_yJ2_getChar_3b067 kn_java_lang_StringUTF16 kc_yJ2_getChar_3b067, ⟨by decide, by decide, by decide +kernel⟩, by decide⟩
theorem cv_RJ2_414 : CS RJ2 414 mJ0_checkIndex_df160 2 := ⟨gi_S km_RJ2_414 kt_yJ0_checkIndex_df160 kn_java_lang_String kc_yJ0_checkIndex_df160, ⟨by decide, by decide, by decide +kernel⟩, by decide⟩
