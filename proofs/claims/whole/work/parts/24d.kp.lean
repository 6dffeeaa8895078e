/-! ===== the functions of the class keep the script, written by wip/whole/kp.py ===== -/
set_option maxRecDepth 20000 in
theorem kpX0_allEvents : a_kp [] fX0_allEvents := a_fn_kp (trivial) (trivial)
set_option maxRecDepth 20000 in
theorem kpJ7_fill_53178 : a_kp [] fJ7_fill_53178 := a_fn_kp (trivial) (trivial)
set_option maxRecDepth 20000 in
theorem kpX8_trade : a_kp [] fX8_trade := a_fn_kp (trivial) (trivial)
set_option maxRecDepth 20000 in
theorem kpX0_goTo : a_kp [] fX0_goTo := a_fn_kp (⟨a_kpm kp_acp (by decide), ⟨a_kpm kpX8_trade (by decide), trivial⟩⟩) (trivial)
set_option maxRecDepth 20000 in
theorem kpX8_holds : a_kp [] fX8_holds := a_fn_kp (trivial) (trivial)
set_option maxRecDepth 20000 in
theorem kpX6_troubleOf : a_kp [] fX6_troubleOf := a_fn_kp (⟨a_kpm kpX8_holds (by decide), trivial⟩) (trivial)
set_option maxRecDepth 20000 in
theorem kpX0_canFollow : a_kp [] fX0_canFollow := a_fn_kp (⟨a_kpm kpX6_troubleOf (by decide), trivial⟩) (trivial)
set_option maxRecDepth 20000 in
theorem kpX0_reckonBefore : a_kp [] fX0_reckonBefore := a_fn_kp (⟨a_kpm kpJ7_fill_53178 (by decide), ⟨a_kpm kpX0_goTo (by decide), ⟨a_kpm kpX0_canFollow (by decide), trivial⟩⟩⟩) (trivial)
set_option maxRecDepth 20000 in
theorem kpX0_ordersOfAll : a_kp [] fX0_ordersOfAll := a_fn_kp (⟨a_kpm kpX0_allEvents (by decide), ⟨a_kpm kpX0_reckonBefore (by decide), trivial⟩⟩) (trivial)
set_option maxRecDepth 20000 in
theorem kpX0_reckonBehind : a_kp [] fX0_reckonBehind := a_fn_kp (⟨a_kpm kpJ7_fill_53178 (by decide), ⟨a_kpm kpX0_goTo (by decide), ⟨a_kpm kpX0_canFollow (by decide), trivial⟩⟩⟩) (trivial)
set_option maxRecDepth 20000 in
theorem kpJ6_bitCount_0f7a4 : a_kp [] fJ6_bitCount_0f7a4 := a_fn_kp (trivial) (trivial)
set_option maxRecDepth 20000 in
theorem kpX0_ordersWith : a_kp [] fX0_ordersWith := a_fn_kp (⟨a_kpm kpX0_allEvents (by decide), ⟨a_kpm kpX0_reckonBefore (by decide), ⟨a_kpm kpX0_reckonBehind (by decide), ⟨a_kpm kpJ6_bitCount_0f7a4 (by decide), ⟨a_kpm kpX0_goTo (by decide), ⟨a_kpm kpX8_holds (by decide), trivial⟩⟩⟩⟩⟩⟩) (trivial)
set_option maxRecDepth 20000 in
theorem kpX0_smallestKnot : a_kp [] fX0_smallestKnot := a_fn_kp (⟨a_kpm kpX0_allEvents (by decide), ⟨a_kpm kpX0_reckonBefore (by decide), ⟨a_kpm kpJ6_bitCount_0f7a4 (by decide), trivial⟩⟩⟩) (trivial)
set_option maxRecDepth 20000 in
theorem kpX1_clear : a_kp [] fX1_clear := a_fn_kp (trivial) (trivial)
set_option maxRecDepth 20000 in
theorem kpX1_add : a_kp [] fX1_add := a_fn_kp (trivial) (trivial)
set_option maxRecDepth 20000 in
theorem kpX1_take : a_kp [] fX1_take := a_fn_kp (⟨a_kpm kp_acp (by decide), trivial⟩) (trivial)
set_option maxRecDepth 20000 in
theorem kpX1_push : a_kp [] fX1_push := a_fn_kp (trivial) (trivial)
set_option maxRecDepth 20000 in
theorem kpX1_bit : a_kp [] fX1_bit := a_fn_kp (trivial) (trivial)
set_option maxRecDepth 20000 in
theorem kpX1_turn : a_kp [] fX1_turn := a_fn_kp (⟨a_kpm kpX1_bit (by decide), trivial⟩) (trivial)
set_option maxRecDepth 20000 in
theorem kpX1_choose : a_kp [] fX1_choose := a_fn_kp (trivial) (trivial)
set_option maxRecDepth 20000 in
theorem kpX1_join : a_kp [] fX1_join := a_fn_kp (⟨a_kpm kpX1_bit (by decide), trivial⟩) (trivial)
set_option maxRecDepth 20000 in
theorem kpX1_work : a_kp [] fX1_work := a_fn_kp (⟨a_kpm kpX1_join (by decide), trivial⟩) (trivial)
set_option maxRecDepth 20000 in
theorem kpX1_reckon : a_kp [] fX1_reckon := a_fn_kp (⟨a_kpm kpX1_push (by decide), ⟨a_kpm kpX1_turn (by decide), ⟨a_kpm kpX1_choose (by decide), ⟨a_kpm kpX1_work (by decide), trivial⟩⟩⟩⟩) (trivial)
set_option maxRecDepth 20000 in
theorem kpX2_meetNew : a_kp [] fX2_meetNew := a_fn_kp (trivial) (trivial)
set_option maxRecDepth 20000 in
theorem kpX2_meet : a_kp [] fX2_meet := a_fn_kp (⟨a_kpm kpX2_meetNew (by decide), trivial⟩) (trivial)
set_option maxRecDepth 20000 in
theorem kpX2_tradeForEach : a_kp [] fX2_tradeForEach := a_fn_kp (⟨a_kpm kpJ6_bitCount_0f7a4 (by decide), ⟨a_kpm kpX2_meet (by decide), trivial⟩⟩) (trivial)
set_option maxRecDepth 20000 in
theorem kpX2_goOn : a_kp [] fX2_goOn := a_fn_kp (⟨a_kpm kpX8_holds (by decide), ⟨a_kpm kpX2_tradeForEach (by decide), trivial⟩⟩) (trivial)
set_option maxRecDepth 20000 in
theorem kpX2_fewestMoves : a_kp [] fX2_fewestMoves := a_fn_kp (⟨a_kpm kpJ7_fill_53178 (by decide), ⟨a_kpm kpX2_meet (by decide), ⟨a_kpm kpX8_holds (by decide), ⟨a_kpm kpX2_goOn (by decide), trivial⟩⟩⟩⟩) (trivial)
set_option maxRecDepth 20000 in
theorem kpX6_clear : a_kp [] fX6_clear := a_fn_kp (⟨a_kpm kpX1_clear (by decide), ⟨a_kpm kpX1_add (by decide), ⟨a_kpm kpJ7_fill_53178 (by decide), trivial⟩⟩⟩) (trivial)
set_option maxRecDepth 20000 in
theorem kpX5_at : a_kp [] fX5_at := a_fn_kp (trivial) (trivial)
set_option maxRecDepth 20000 in
theorem kpX5_isBlank : a_kp [] fX5_isBlank := a_fn_kp (trivial) (trivial)
set_option maxRecDepth 20000 in
theorem kpJ9_min_7cf53 : a_kp [] fJ9_min_7cf53 := a_fn_kp (trivial) (trivial)
set_option maxRecDepth 20000 in
theorem kpX5_isLetter : a_kp [] fX5_isLetter := a_fn_kp (trivial) (trivial)
set_option maxRecDepth 20000 in
theorem kpX5_isDigit : a_kp [] fX5_isDigit := a_fn_kp (trivial) (trivial)
set_option maxRecDepth 20000 in
theorem kpX5_next : a_kp [] fX5_next := a_fn_kp (⟨a_kpm kpX5_at (by decide), ⟨a_kpm kpX5_isBlank (by decide), ⟨a_kpm kpJ9_min_7cf53 (by decide), ⟨a_kpm kpX5_isLetter (by decide), ⟨a_kpm kpX5_isDigit (by decide), trivial⟩⟩⟩⟩⟩) (trivial)
set_option maxRecDepth 20000 in
theorem kpX5_begin : a_kp [] fX5_begin := a_fn_kp (⟨a_kpm kpX5_next (by decide), trivial⟩) (trivial)
set_option maxRecDepth 20000 in
theorem kpX5_isWord : a_kp [] fX5_isWord := a_fn_kp (⟨a_kpm kp_slen (by decide), ⟨a_kpm kpX5_at (by decide), ⟨a_kpm kp_schr (by decide), trivial⟩⟩⟩) (trivial)
set_option maxRecDepth 20000 in
theorem kpX3_refuse : a_kp [] fX3_refuse := a_fn_kp (trivial) (trivial)
set_option maxRecDepth 20000 in
theorem kpX3_readReader : a_kp [] fX3_readReader := a_fn_kp (⟨a_kpm kpX3_refuse (by decide), ⟨a_kpm kpX5_next (by decide), trivial⟩⟩) (trivial)
set_option maxRecDepth 20000 in
theorem kpX3_needNumber : a_kp [] fX3_needNumber := a_fn_kp (⟨a_kpm kpX3_refuse (by decide), trivial⟩) (trivial)
set_option maxRecDepth 20000 in
theorem kpX3_readPart : a_kp [] fX3_readPart := a_fn_kp (⟨a_kpm kpX3_needNumber (by decide), ⟨a_kpm kpX3_refuse (by decide), ⟨a_kpm kpX5_next (by decide), trivial⟩⟩⟩) (trivial)
set_option maxRecDepth 20000 in
theorem kpX3_readPerhaps : a_kp [] fX3_readPerhaps := a_fn_kp (⟨a_kpm kpX5_isWord (by decide), ⟨a_kpm kpX5_next (by decide), ⟨a_kpm kpX3_readPart (by decide), trivial⟩⟩⟩) (trivial)
set_option maxRecDepth 20000 in
theorem kpX3_needToldAhead : a_kp [] fX3_needToldAhead := a_fn_kp (⟨a_kpm kpX3_needNumber (by decide), ⟨a_kpm kpX3_refuse (by decide), trivial⟩⟩) (trivial)
set_option maxRecDepth 20000 in
theorem kpX3_readOwner : a_kp [] fX3_readOwner := a_fn_kp (⟨a_kpm kpX5_isWord (by decide), ⟨a_kpm kpX5_next (by decide), ⟨a_kpm kpX3_needToldAhead (by decide), trivial⟩⟩⟩) (trivial)
set_option maxRecDepth 20000 in
theorem kpX3_readBook : a_kp [] fX3_readBook := a_fn_kp (⟨a_kpm kpX3_refuse (by decide), ⟨a_kpm kpX5_next (by decide), ⟨a_kpm kpX3_readPart (by decide), ⟨a_kpm kpX3_readPerhaps (by decide), ⟨a_kpm kpX3_readOwner (by decide), trivial⟩⟩⟩⟩⟩) (trivial)
set_option maxRecDepth 20000 in
theorem kpX3_readWants : a_kp [] fX3_readWants := a_fn_kp (⟨a_kpm kpX5_next (by decide), ⟨a_kpm kpX3_needToldAhead (by decide), ⟨a_kpm kpX3_refuse (by decide), trivial⟩⟩⟩) (trivial)
set_option maxRecDepth 20000 in
theorem kpX5_isSign : a_kp [] fX5_isSign := a_fn_kp (⟨a_kpm kpX5_at (by decide), trivial⟩) (trivial)
set_option maxRecDepth 20000 in
theorem kpX3_operatorOf : a_kp [] fX3_operatorOf := a_fn_kp (⟨a_kpm kpX5_isWord (by decide), ⟨a_kpm kpX5_isSign (by decide), trivial⟩⟩) (trivial)
set_option maxRecDepth 20000 in
theorem kpX3_needSign : a_kp [] fX3_needSign := a_fn_kp (⟨a_kpm kpX5_isSign (by decide), ⟨a_kpm kpX3_refuse (by decide), ⟨a_kpm kpX5_next (by decide), trivial⟩⟩⟩) (trivial)
set_option maxRecDepth 20000 in
theorem kpX3_needWord : a_kp [] fX3_needWord := a_fn_kp (⟨a_kpm kpX5_isWord (by decide), ⟨a_kpm kpX3_refuse (by decide), ⟨a_kpm kpX5_next (by decide), trivial⟩⟩⟩) (trivial)
set_option maxRecDepth 20000 in
theorem kpX3_readValue : a_kp [] fX3_readValue := a_fn_kp (⟨a_kpm kpX5_isWord (by decide), ⟨a_kpm kpX3_refuse (by decide), ⟨a_kpm kpX1_add (by decide), ⟨a_kpm kpX5_next (by decide), trivial⟩⟩⟩⟩) (trivial)
set_option maxRecDepth 20000 in
theorem kpfRD : ∀ d : Nat, a_kp [] (fRD d 0) ∧ a_kp [] (fRD d 1) ∧ a_kp [] (fRD d 2) ∧ a_kp [] (fRD d 3) ∧ a_kp [] (fRD d 4)
  | 0 => ⟨(fun _ _ _ _ h => nomatch h), (fun _ _ _ _ h => nomatch h), (fun _ _ _ _ h => nomatch h), (fun _ _ _ _ h => nomatch h), (fun _ _ _ _ h => nomatch h)⟩
  | d + 1 => by
    have ih := kpfRD d
    exact ⟨a_fn_kp (⟨a_kpm kpX5_isSign (by decide), ⟨a_kpm kpX3_refuse (by decide), ⟨ih.2.1, trivial⟩⟩⟩) (trivial),
      a_fn_kp (⟨ih.2.2.1, ⟨ih.2.2.2.1, ⟨ih.2.1, ⟨a_kpm kpX3_operatorOf (by decide), ⟨a_kpm kpX5_next (by decide), ⟨a_kpm kpX1_add (by decide), trivial⟩⟩⟩⟩⟩⟩) (trivial),
      a_fn_kp (⟨a_kpm kpX5_isWord (by decide), ⟨a_kpm kpX5_next (by decide), ⟨a_kpm kpX3_refuse (by decide), ⟨ih.2.1, ⟨a_kpm kpX3_operatorOf (by decide), ⟨a_kpm kpX1_add (by decide), trivial⟩⟩⟩⟩⟩⟩) (trivial),
      a_fn_kp (⟨a_kpm kpX5_isSign (by decide), ⟨a_kpm kpX5_next (by decide), ⟨ih.1, ⟨a_kpm kpX3_needSign (by decide), ⟨a_kpm kpX5_isWord (by decide), ⟨ih.2.2.2.2, ⟨a_kpm kpX3_readValue (by decide), ⟨a_kpm kpX3_needNumber (by decide), ⟨a_kpm kpX1_add (by decide), trivial⟩⟩⟩⟩⟩⟩⟩⟩⟩) (trivial),
      a_fn_kp (⟨a_kpm kpX5_next (by decide), ⟨ih.1, ⟨a_kpm kpX3_needWord (by decide), ⟨a_kpm kpX1_add (by decide), trivial⟩⟩⟩⟩) (trivial)⟩
theorem kpX3_readExpr : a_kp [] fX3_readExpr := (kpfRD 70).1
theorem kpX3_readLevel : a_kp [] fX3_readLevel := (kpfRD 70).2.1
theorem kpX3_readTest : a_kp [] fX3_readTest := (kpfRD 70).2.2.1
theorem kpX3_readSingle : a_kp [] fX3_readSingle := (kpfRD 70).2.2.2.1
theorem kpX3_readIf : a_kp [] fX3_readIf := (kpfRD 70).2.2.2.2
set_option maxRecDepth 20000 in
theorem kpX3_readLaw : a_kp [] fX3_readLaw := a_fn_kp (⟨a_kpm kpX3_refuse (by decide), ⟨a_kpm kpX1_clear (by decide), ⟨a_kpm kpX5_next (by decide), ⟨a_kpm kpX3_readExpr (by decide), trivial⟩⟩⟩⟩) (trivial)
set_option maxRecDepth 20000 in
theorem kpX3_readAll : a_kp [] fX3_readAll := a_fn_kp (⟨a_kpm kpX6_clear (by decide), ⟨a_kpm kpX5_begin (by decide), ⟨a_kpm kpX5_isWord (by decide), ⟨a_kpm kpX3_readReader (by decide), ⟨a_kpm kpX3_readBook (by decide), ⟨a_kpm kpX3_readWants (by decide), ⟨a_kpm kpX3_readLaw (by decide), ⟨a_kpm kpX3_refuse (by decide), ⟨a_kpm kpX3_needSign (by decide), trivial⟩⟩⟩⟩⟩⟩⟩⟩⟩) (trivial)
set_option maxRecDepth 20000 in
theorem kpX4_begin : a_kp [] fX4_begin := a_fn_kp (⟨a_kpm kp_acp (by decide), trivial⟩) (trivial)
set_option maxRecDepth 20000 in
theorem kpX4_take : a_kp [] fX4_take := a_fn_kp (⟨a_kpm kp_acp (by decide), trivial⟩) (trivial)
set_option maxRecDepth 20000 in
theorem kpX4_tradeMove : a_kp [] fX4_tradeMove := a_fn_kp (⟨a_kpm kpX8_trade (by decide), trivial⟩) (trivial)
set_option maxRecDepth 20000 in
theorem kpX4_writeMove : a_kp [] fX4_writeMove := a_fn_kp (⟨a_kpm kpX4_tradeMove (by decide), trivial⟩) (trivial)
set_option maxRecDepth 20000 in
theorem kpX4_takeBackMove : a_kp [] fX4_takeBackMove := a_fn_kp (⟨a_kpm kpX4_tradeMove (by decide), trivial⟩) (trivial)
set_option maxRecDepth 20000 in
theorem kpX4_writeEvent : a_kp [] fX4_writeEvent := a_fn_kp (trivial) (trivial)
set_option maxRecDepth 20000 in
theorem kpX4_isMoved : a_kp [] fX4_isMoved := a_fn_kp (trivial) (trivial)
set_option maxRecDepth 20000 in
theorem kpX4_changesOf : a_kp [] fX4_changesOf := a_fn_kp (⟨a_kpm kpX4_isMoved (by decide), trivial⟩) (trivial)
set_option maxRecDepth 20000 in
theorem kpX4_placeAfterChange : a_kp [] fX4_placeAfterChange := a_fn_kp (⟨a_kpm kpX4_isMoved (by decide), trivial⟩) (trivial)
set_option maxRecDepth 20000 in
theorem kpX5_put : a_kp [] fX5_put := a_fn_kp (trivial) (trivial)
set_option maxRecDepth 20000 in
theorem kpX6_take : a_kp [] fX6_take := a_fn_kp (⟨a_kpm kpX1_take (by decide), ⟨a_kpm kp_acp (by decide), trivial⟩⟩) (trivial)
set_option maxRecDepth 20000 in
theorem kpX6_pagesWithMore : a_kp [] fX6_pagesWithMore := a_fn_kp (⟨a_kpm kpX1_reckon (by decide), trivial⟩) (trivial)
set_option maxRecDepth 20000 in
theorem kpX6_booksUnder : a_kp [] fX6_booksUnder := a_fn_kp (trivial) (trivial)
set_option maxRecDepth 20000 in
theorem kpX6_reckon : a_kp [] fX6_reckon := a_fn_kp (⟨a_kpm kpX6_pagesWithMore (by decide), ⟨a_kpm kpX6_booksUnder (by decide), trivial⟩⟩) (trivial)
set_option maxRecDepth 20000 in
theorem kpX6_pagesBound : a_kp [] fX6_pagesBound := a_fn_kp (⟨a_kpm kpX1_reckon (by decide), trivial⟩) (trivial)
set_option maxRecDepth 20000 in
theorem kpX6_pagesTogether : a_kp [] fX6_pagesTogether := a_fn_kp (⟨a_kpm kpX8_holds (by decide), trivial⟩) (trivial)
set_option maxRecDepth 20000 in
theorem kpX6_takeableFor : a_kp [] fX6_takeableFor := a_fn_kp (⟨a_kpm kpX8_holds (by decide), trivial⟩) (trivial)
set_option maxRecDepth 20000 in
theorem kpX6_isServed : a_kp [] fX6_isServed := a_fn_kp (⟨a_kpm kpX8_holds (by decide), trivial⟩) (trivial)
set_option maxRecDepth 20000 in
theorem kpX7_weigh : a_kp [] fX7_weigh := a_fn_kp (⟨a_kpm kpX6_isServed (by decide), ⟨a_kpm kp_acp (by decide), trivial⟩⟩) (trivial)
set_option maxRecDepth 20000 in
theorem kpfWK : ∀ d : Nat, a_kp [] (fWK d 0) ∧ a_kp [] (fWK d 1) ∧ a_kp [] (fWK d 2)
  | 0 => ⟨(fun _ _ _ _ h => nomatch h), (fun _ _ _ _ h => nomatch h), (fun _ _ _ _ h => nomatch h)⟩
  | d + 1 => by
    have ih := kpfWK d
    exact ⟨a_fn_kp (⟨a_kpm kpX7_weigh (by decide), ⟨ih.2.1, trivial⟩⟩) (trivial),
      a_fn_kp (⟨a_kpm kpX8_holds (by decide), ⟨ih.2.2, trivial⟩⟩) (trivial),
      a_fn_kp (⟨a_kpm kpX8_trade (by decide), ⟨ih.1, trivial⟩⟩) (trivial)⟩
theorem kpX7_tryPlace : a_kp [] fX7_tryPlace := (kpfWK 20).1
theorem kpX7_tryReader : a_kp [] fX7_tryReader := (kpfWK 20).2.1
theorem kpX7_tryExchange : a_kp [] fX7_tryExchange := (kpfWK 20).2.2
set_option maxRecDepth 20000 in
theorem kpX7_plan : a_kp [] fX7_plan := a_fn_kp (⟨a_kpm kp_acp (by decide), ⟨a_kpm kpX7_tryPlace (by decide), trivial⟩⟩) (trivial)
set_option maxRecDepth 20000 in
theorem kpX8_feed : a_kp [] fX8_feed := a_fn_kp (⟨a_kpm kpX5_put (by decide), trivial⟩) (trivial)
set_option maxRecDepth 20000 in
theorem kpX8_library : a_kp [1] fX8_library := a_fn_kp (⟨a_kpm kpX3_readAll (by decide), ⟨a_kpm kpX6_take (by decide), ⟨a_kpm kpX6_reckon (by decide), ⟨a_kpm kpX4_begin (by decide), trivial⟩⟩⟩⟩) (⟨by decide, trivial⟩)
set_option maxRecDepth 20000 in
theorem kpX8_fault : a_kp [] fX8_fault := a_fn_kp (trivial) (trivial)
set_option maxRecDepth 20000 in
theorem kpX8_count : a_kp [0] fX8_count := a_fn_kp (⟨a_kpm kpX6_pagesTogether (by decide), trivial⟩) (⟨by decide, trivial⟩)
set_option maxRecDepth 20000 in
theorem kpX8_isBook : a_kp [] fX8_isBook := a_fn_kp (trivial) (trivial)
set_option maxRecDepth 20000 in
theorem kpX8_needBook : a_kp [0] fX8_needBook := a_fn_kp (⟨a_kpm kpX8_isBook (by decide), trivial⟩) (⟨by decide, trivial⟩)
set_option maxRecDepth 20000 in
theorem kpX8_needWhat : a_kp [0] fX8_needWhat := a_fn_kp (trivial) (⟨by decide, trivial⟩)
set_option maxRecDepth 20000 in
theorem kpX8_placeOf : a_kp [] fX8_placeOf := a_fn_kp (⟨a_kpm kpX8_holds (by decide), trivial⟩) (trivial)
set_option maxRecDepth 20000 in
theorem kpX8_book : a_kp [0] fX8_book := a_fn_kp (⟨a_kpm kpX8_needBook (by decide), ⟨a_kpm kpX8_needWhat (by decide), ⟨a_kpm kpX8_placeOf (by decide), trivial⟩⟩⟩) (trivial)
set_option maxRecDepth 20000 in
theorem kpX8_isReader : a_kp [] fX8_isReader := a_fn_kp (trivial) (trivial)
set_option maxRecDepth 20000 in
theorem kpX8_needReader : a_kp [0] fX8_needReader := a_fn_kp (⟨a_kpm kpX8_isReader (by decide), trivial⟩) (⟨by decide, trivial⟩)
set_option maxRecDepth 20000 in
theorem kpX8_reader : a_kp [0] fX8_reader := a_fn_kp (⟨a_kpm kpX8_needReader (by decide), ⟨a_kpm kpX8_needWhat (by decide), ⟨a_kpm kpX6_isServed (by decide), trivial⟩⟩⟩) (trivial)
set_option maxRecDepth 20000 in
theorem kpX8_judge : a_kp [] fX8_judge := a_fn_kp (⟨a_kpm kpX8_isReader (by decide), ⟨a_kpm kpX8_isBook (by decide), ⟨a_kpm kpX6_troubleOf (by decide), trivial⟩⟩⟩) (trivial)
set_option maxRecDepth 20000 in
theorem kpX8_settle : a_kp [] fX8_settle := a_fn_kp (⟨a_kpm kpX4_writeMove (by decide), trivial⟩) (trivial)
set_option maxRecDepth 20000 in
theorem kpX8_exchange : a_kp [] fX8_exchange := a_fn_kp (⟨a_kpm kpX8_judge (by decide), ⟨a_kpm kpX8_settle (by decide), trivial⟩⟩) (trivial)
set_option maxRecDepth 20000 in
theorem kpX8_troubleOfSwap : a_kp [] fX8_troubleOfSwap := a_fn_kp (⟨a_kpm kpX8_isReader (by decide), ⟨a_kpm kpX8_isBook (by decide), ⟨a_kpm kpX8_holds (by decide), trivial⟩⟩⟩) (trivial)
set_option maxRecDepth 20000 in
theorem kpX8_swap : a_kp [] fX8_swap := a_fn_kp (⟨a_kpm kpX8_troubleOfSwap (by decide), ⟨a_kpm kpX8_settle (by decide), trivial⟩⟩) (trivial)
set_option maxRecDepth 20000 in
theorem kpX8_undo : a_kp [] fX8_undo := a_fn_kp (⟨a_kpm kpX4_takeBackMove (by decide), trivial⟩) (trivial)
set_option maxRecDepth 20000 in
theorem kpX8_move : a_kp [0] fX8_move := a_fn_kp (⟨a_kpm kpX8_needWhat (by decide), trivial⟩) (⟨by decide, trivial⟩)
set_option maxRecDepth 20000 in
theorem kpX8_reachNow : a_kp [] fX8_reachNow := a_fn_kp (⟨a_kpm kpX6_takeableFor (by decide), trivial⟩) (trivial)
set_option maxRecDepth 20000 in
theorem kpX8_reach : a_kp [0] fX8_reach := a_fn_kp (⟨a_kpm kpX8_needReader (by decide), ⟨a_kpm kpX8_reachNow (by decide), trivial⟩⟩) (trivial)
set_option maxRecDepth 20000 in
theorem kpX8_way : a_kp [0] fX8_way := a_fn_kp (⟨a_kpm kpX8_needReader (by decide), ⟨a_kpm kpX8_needBook (by decide), ⟨a_kpm kpX8_holds (by decide), ⟨a_kpm kpX8_reachNow (by decide), trivial⟩⟩⟩⟩) (trivial)
set_option maxRecDepth 20000 in
theorem kpX8_together : a_kp [0, 1] fX8_together := a_fn_kp (⟨a_kpm kpX8_needReader (by decide), ⟨a_kpm kpX8_needBook (by decide), ⟨a_kpm kpX2_fewestMoves (by decide), trivial⟩⟩⟩) (⟨by decide, trivial⟩)
set_option maxRecDepth 20000 in
theorem kpX8_week : a_kp [] fX8_week := a_fn_kp (⟨a_kpm kpX7_plan (by decide), trivial⟩) (trivial)
set_option maxRecDepth 20000 in
theorem kpX8_row : a_kp [0] fX8_row := a_fn_kp (⟨a_kpm kpX8_needWhat (by decide), trivial⟩) (⟨by decide, ⟨by decide, trivial⟩⟩)
set_option maxRecDepth 20000 in
theorem kpX8_isLost : a_kp [] fX8_isLost := a_fn_kp (⟨a_kpm kpX8_holds (by decide), ⟨a_kpm kpX6_takeableFor (by decide), trivial⟩⟩) (trivial)
set_option maxRecDepth 20000 in
theorem kpX8_freedBy : a_kp [] fX8_freedBy := a_fn_kp (⟨a_kpm kpX8_holds (by decide), ⟨a_kpm kpX6_pagesWithMore (by decide), trivial⟩⟩) (trivial)
set_option maxRecDepth 20000 in
theorem kpX8_lost : a_kp [0] fX8_lost := a_fn_kp (⟨a_kpm kpX8_needBook (by decide), ⟨a_kpm kpX8_needWhat (by decide), ⟨a_kpm kpX8_isLost (by decide), ⟨a_kpm kpX8_freedBy (by decide), trivial⟩⟩⟩⟩) (trivial)
set_option maxRecDepth 20000 in
theorem kpX8_reachIf : a_kp [] fX8_reachIf := a_fn_kp (⟨a_kpm kpX6_takeableFor (by decide), ⟨a_kpm kpX6_booksUnder (by decide), trivial⟩⟩) (trivial)
set_option maxRecDepth 20000 in
theorem kpX8_worth : a_kp [0, 1] fX8_worth := a_fn_kp (⟨a_kpm kpX8_needBook (by decide), ⟨a_kpm kpX8_placeOf (by decide), ⟨a_kpm kpX6_pagesWithMore (by decide), ⟨a_kpm kpX8_reachIf (by decide), ⟨a_kpm kpJ6_bitCount_0f7a4 (by decide), ⟨a_kpm kpX8_reachNow (by decide), trivial⟩⟩⟩⟩⟩⟩) (⟨by decide, trivial⟩)
set_option maxRecDepth 20000 in
theorem kpX8_bindingPays : a_kp [] fX8_bindingPays := a_fn_kp (⟨a_kpm kpX6_pagesBound (by decide), ⟨a_kpm kpX8_reachIf (by decide), ⟨a_kpm kpJ6_bitCount_0f7a4 (by decide), ⟨a_kpm kpX8_reachNow (by decide), trivial⟩⟩⟩⟩) (trivial)
set_option maxRecDepth 20000 in
theorem kpX8_bind : a_kp [0] fX8_bind := a_fn_kp (⟨a_kpm kpX8_needReader (by decide), ⟨a_kpm kpX8_needWhat (by decide), ⟨a_kpm kpX8_holds (by decide), ⟨a_kpm kpX8_bindingPays (by decide), trivial⟩⟩⟩⟩) (trivial)
set_option maxRecDepth 20000 in
theorem kpX8_readersAbleWith : a_kp [] fX8_readersAbleWith := a_fn_kp (trivial) (trivial)
set_option maxRecDepth 20000 in
theorem kpX8_fire : a_kp [1] fX8_fire := a_fn_kp (⟨a_kpm kpJ6_bitCount_0f7a4 (by decide), ⟨a_kpm kpJ9_min_7cf53 (by decide), ⟨a_kpm kpX6_takeableFor (by decide), ⟨a_kpm kpX8_readersAbleWith (by decide), trivial⟩⟩⟩⟩) (⟨by decide, trivial⟩)
set_option maxRecDepth 20000 in
theorem kpX8_event : a_kp [] fX8_event := a_fn_kp (⟨a_kpm kpX8_isReader (by decide), ⟨a_kpm kpX8_isBook (by decide), ⟨a_kpm kpX4_writeEvent (by decide), trivial⟩⟩⟩) (trivial)
set_option maxRecDepth 20000 in
theorem kpX8_forget : a_kp [] fX8_forget := a_fn_kp (trivial) (trivial)
set_option maxRecDepth 20000 in
theorem kpX8_orders : a_kp [] fX8_orders := a_fn_kp (⟨a_kpm kpX0_ordersOfAll (by decide), trivial⟩) (trivial)
set_option maxRecDepth 20000 in
theorem kpX8_there : a_kp [0, 1] fX8_there := a_fn_kp (⟨a_kpm kpX8_needBook (by decide), ⟨a_kpm kpX0_ordersWith (by decide), trivial⟩⟩) (⟨by decide, trivial⟩)
set_option maxRecDepth 20000 in
theorem kpX8_knot : a_kp [] fX8_knot := a_fn_kp (⟨a_kpm kpX0_smallestKnot (by decide), trivial⟩) (trivial)
set_option maxRecDepth 20000 in
theorem kpX8_hands : a_kp [0] fX8_hands := a_fn_kp (⟨a_kpm kpX8_needBook (by decide), ⟨a_kpm kpX4_changesOf (by decide), ⟨a_kpm kpX8_placeOf (by decide), ⟨a_kpm kpX4_placeAfterChange (by decide), trivial⟩⟩⟩⟩) (⟨by decide, trivial⟩)
set_option maxRecDepth 20000 in
theorem kpX8_image : a_kp [] fX8_image := a_fn_kp (⟨a_kpm kpX4_take (by decide), trivial⟩) (trivial)
set_option maxRecDepth 20000 in
theorem kpX8_restore : a_kp [] fX8_restore := a_fn_kp (⟨a_kpm kpX4_take (by decide), trivial⟩) (trivial)
