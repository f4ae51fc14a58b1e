/-! printed by wip/whole/gen: the words that the walks use, by their places in the tables -/
set_option maxRecDepth 20000 in
theorem w0 : Cond.selects "java/util/ArrayList" yJx4a65c_add_72be8 yJx4a65c_add_72be8 ∈ lw_tbl := List.mem_append_left _ (List.mem_of_getElem? (i := 0) rfl)
set_option maxRecDepth 20000 in
theorem w1 : Cond.selects "java/util/ArrayList" yJx4a65c_grow_d5877 yJx4a65c_grow_d5877 ∈ lw_tbl := List.mem_append_left _ (List.mem_of_getElem? (i := 1) rfl)
set_option maxRecDepth 20000 in
theorem w2 : Cond.selects "java/util/ArrayList" yJx4a65c_grow_92f84 yJx4a65c_grow_92f84 ∈ lw_tbl := List.mem_append_left _ (List.mem_of_getElem? (i := 2) rfl)
set_option maxRecDepth 20000 in
theorem w3 : Cond.selects "LetterBroker" yX11_greet yX11_greet ∈ lw_tbl := List.mem_append_left _ (List.mem_of_getElem? (i := 3) rfl)
set_option maxRecDepth 20000 in
theorem w4 : Cond.selects "LetterBroker" yX11_handleFrame yX11_handleFrame ∈ lw_tbl := List.mem_append_left _ (List.mem_of_getElem? (i := 4) rfl)
set_option maxRecDepth 20000 in
theorem w5 : Cond.selects "LetterBroker" yX11_channelNumbered yX11_channelNumbered ∈ lw_tbl := List.mem_append_left _ (List.mem_of_getElem? (i := 5) rfl)
set_option maxRecDepth 20000 in
theorem w6 : Cond.selects "LetterBroker" yX11_handleOnLost yX11_handleOnLost ∈ lw_tbl := List.mem_append_left _ (List.mem_of_getElem? (i := 6) rfl)
set_option maxRecDepth 20000 in
theorem w7 : Cond.selects "LetterBroker" yX11_takeHead yX11_takeHead ∈ lw_tbl := List.mem_append_left _ (List.mem_of_getElem? (i := 7) rfl)
set_option maxRecDepth 20000 in
theorem w8 : Cond.selects "LetterBroker" yX11_complete yX11_complete ∈ lw_tbl := List.mem_append_left _ (List.mem_of_getElem? (i := 8) rfl)
set_option maxRecDepth 20000 in
theorem w9 : Cond.selects "LetterBroker" yX11_keep yX11_keep ∈ lw_tbl := List.mem_append_left _ (List.mem_of_getElem? (i := 9) rfl)
set_option maxRecDepth 20000 in
theorem w10 : Cond.selects "LetterBroker" yX11_post yX11_post ∈ lw_tbl := List.mem_append_left _ (List.mem_of_getElem? (i := 10) rfl)
set_option maxRecDepth 20000 in
theorem w11 : Cond.selects "LetterBroker$Office" yX8_reaches yX8_reaches ∈ lw_tbl := List.mem_append_left _ (List.mem_of_getElem? (i := 11) rfl)
set_option maxRecDepth 20000 in
theorem w12 : Cond.selects "LetterBroker" yX11_lettersInAll yX11_lettersInAll ∈ lw_tbl := List.mem_append_left _ (List.mem_of_getElem? (i := 12) rfl)
set_option maxRecDepth 20000 in
theorem w13 : Cond.selects "LetterBroker" yX11_sendReturned yX11_sendReturned ∈ lw_tbl := List.mem_append_left _ (List.mem_of_getElem? (i := 13) rfl)
set_option maxRecDepth 20000 in
theorem w14 : Cond.selects "LetterBroker" yX11_takeBody yX11_takeBody ∈ lw_tbl := List.mem_append_left _ (List.mem_of_getElem? (i := 14) rfl)
set_option maxRecDepth 20000 in
theorem w15 : Cond.selects "LetterBroker" yX11_doLineMethod yX11_doLineMethod ∈ lw_tbl := List.mem_append_left _ (List.mem_of_getElem? (i := 15) rfl)
set_option maxRecDepth 20000 in
theorem w16 : Cond.selects "LetterBroker" yX11_lineMethodInTurn yX11_lineMethodInTurn ∈ lw_tbl := List.mem_append_left _ (List.mem_of_getElem? (i := 16) rfl)
set_option maxRecDepth 20000 in
theorem w17 : Cond.selects "LetterBroker" yX11_shutLine yX11_shutLine ∈ lw_tbl := List.mem_append_left _ (List.mem_of_getElem? (i := 17) rfl)
set_option maxRecDepth 20000 in
theorem w18 : Cond.selects "LetterBroker" yX11_leaveChannel yX11_leaveChannel ∈ lw_tbl := List.mem_append_left _ (List.mem_of_getElem? (i := 18) rfl)
set_option maxRecDepth 20000 in
theorem w19 : Cond.selects "java/util/ArrayList" yJx4a65c_fastRemove_b59b0 yJx4a65c_fastRemove_b59b0 ∈ lw_tbl := List.mem_append_left _ (List.mem_of_getElem? (i := 19) rfl)
set_option maxRecDepth 20000 in
theorem w20 : Cond.selects "java/util/ArrayList" yJx4a65c_rangeCheckForAdd_d00df yJx4a65c_rangeCheckForAdd_d00df ∈ lw_tbl := List.mem_append_left _ (List.mem_of_getElem? (i := 20) rfl)
set_option maxRecDepth 20000 in
theorem w21 : Cond.selects "LetterBroker" yX11_doMethod yX11_doMethod ∈ lw_tbl := List.mem_append_left _ (List.mem_of_getElem? (i := 21) rfl)
set_option maxRecDepth 20000 in
theorem w22 : Cond.selects "LetterBroker" yX11_openChannel yX11_openChannel ∈ lw_tbl := List.mem_append_left _ (List.mem_of_getElem? (i := 22) rfl)
set_option maxRecDepth 20000 in
theorem w23 : Cond.selects "LetterBroker" yX11_setFlow yX11_setFlow ∈ lw_tbl := List.mem_append_left _ (List.mem_of_getElem? (i := 23) rfl)
set_option maxRecDepth 20000 in
theorem w24 : Cond.selects "LetterBroker" yX11_closeChannel yX11_closeChannel ∈ lw_tbl := List.mem_append_left _ (List.mem_of_getElem? (i := 24) rfl)
set_option maxRecDepth 20000 in
theorem w25 : Cond.selects "LetterBroker" yX11_declareExchange yX11_declareExchange ∈ lw_tbl := List.mem_append_left _ (List.mem_of_getElem? (i := 25) rfl)
set_option maxRecDepth 20000 in
theorem w26 : Cond.selects "LetterBroker" yX11_deleteExchange yX11_deleteExchange ∈ lw_tbl := List.mem_append_left _ (List.mem_of_getElem? (i := 26) rfl)
set_option maxRecDepth 20000 in
theorem w27 : Cond.selects "LetterBroker" yX11_declareQueue yX11_declareQueue ∈ lw_tbl := List.mem_append_left _ (List.mem_of_getElem? (i := 27) rfl)
set_option maxRecDepth 20000 in
theorem w28 : Cond.selects "LetterBroker" yX11_changeBinding yX11_changeBinding ∈ lw_tbl := List.mem_append_left _ (List.mem_of_getElem? (i := 28) rfl)
set_option maxRecDepth 20000 in
theorem w29 : Cond.selects "LetterBroker" yX11_purge yX11_purge ∈ lw_tbl := List.mem_append_left _ (List.mem_of_getElem? (i := 29) rfl)
set_option maxRecDepth 20000 in
theorem w30 : Cond.selects "LetterBroker" yX11_deleteQueue yX11_deleteQueue ∈ lw_tbl := List.mem_append_left _ (List.mem_of_getElem? (i := 30) rfl)
set_option maxRecDepth 20000 in
theorem w31 : Cond.selects "LetterBroker" yX11_setLimit yX11_setLimit ∈ lw_tbl := List.mem_append_left _ (List.mem_of_getElem? (i := 31) rfl)
set_option maxRecDepth 20000 in
theorem w32 : Cond.selects "LetterBroker" yX11_consume yX11_consume ∈ lw_tbl := List.mem_append_left _ (List.mem_of_getElem? (i := 32) rfl)
set_option maxRecDepth 20000 in
theorem w33 : Cond.selects "LetterBroker" yX11_cancel yX11_cancel ∈ lw_tbl := List.mem_append_left _ (List.mem_of_getElem? (i := 33) rfl)
set_option maxRecDepth 20000 in
theorem w34 : Cond.selects "LetterBroker" yX11_publish yX11_publish ∈ lw_tbl := List.mem_append_left _ (List.mem_of_getElem? (i := 34) rfl)
set_option maxRecDepth 20000 in
theorem w35 : Cond.selects "LetterBroker" yX11_get yX11_get ∈ lw_tbl := List.mem_append_left _ (List.mem_of_getElem? (i := 35) rfl)
set_option maxRecDepth 20000 in
theorem w36 : Cond.selects "LetterBroker" yX11_acknowledge yX11_acknowledge ∈ lw_tbl := List.mem_append_left _ (List.mem_of_getElem? (i := 36) rfl)
set_option maxRecDepth 20000 in
theorem w37 : Cond.selects "LetterBroker" yX11_settle yX11_settle ∈ lw_tbl := List.mem_append_left _ (List.mem_of_getElem? (i := 37) rfl)
set_option maxRecDepth 20000 in
theorem w38 : Cond.selects "LetterBroker" yX11_reject yX11_reject ∈ lw_tbl := List.mem_append_left _ (List.mem_of_getElem? (i := 38) rfl)
set_option maxRecDepth 20000 in
theorem w39 : Cond.selects "LetterBroker" yX11_recover yX11_recover ∈ lw_tbl := List.mem_append_left _ (List.mem_of_getElem? (i := 39) rfl)
set_option maxRecDepth 20000 in
theorem w40 : Cond.selects "LetterBroker" yX11_refuse yX11_refuse ∈ lw_tbl := List.mem_append_left _ (List.mem_of_getElem? (i := 40) rfl)
set_option maxRecDepth 20000 in
theorem w41 : Cond.selects "LetterBroker" yX11_transact yX11_transact ∈ lw_tbl := List.mem_append_left _ (List.mem_of_getElem? (i := 41) rfl)
set_option maxRecDepth 20000 in
theorem w42 : Cond.selects "LetterBroker" yX11_commit yX11_commit ∈ lw_tbl := List.mem_append_left _ (List.mem_of_getElem? (i := 42) rfl)
set_option maxRecDepth 20000 in
theorem w43 : Cond.selects "LetterBroker" yX11_rollBack yX11_rollBack ∈ lw_tbl := List.mem_append_left _ (List.mem_of_getElem? (i := 43) rfl)
set_option maxRecDepth 20000 in
theorem w44 : Cond.selects "LetterBroker" yX11_settleMistake yX11_settleMistake ∈ lw_tbl := List.mem_append_left _ (List.mem_of_getElem? (i := 44) rfl)
set_option maxRecDepth 20000 in
theorem w45 : Cond.selects "LetterBroker" yX11_deliverAll yX11_deliverAll ∈ lw_tbl := List.mem_append_left _ (List.mem_of_getElem? (i := 45) rfl)
set_option maxRecDepth 20000 in
theorem w46 : Cond.selects "LetterBroker" yX11_deliverNext yX11_deliverNext ∈ lw_tbl := List.mem_append_left _ (List.mem_of_getElem? (i := 46) rfl)
set_option maxRecDepth 20000 in
theorem w47 : Cond.selects "LetterBroker" yX11_deliver yX11_deliver ∈ lw_tbl := List.mem_append_left _ (List.mem_of_getElem? (i := 47) rfl)
set_option maxRecDepth 20000 in
theorem w48 : Cond.selects "LetterBrokerModel" yX12_greet yX12_greet ∈ lw_tbl := List.mem_append_left _ (List.mem_of_getElem? (i := 48) rfl)
set_option maxRecDepth 20000 in
theorem w49 : Cond.selects "LetterBrokerModel" yX12_hard yX12_hard ∈ lw_tbl := List.mem_append_left _ (List.mem_of_getElem? (i := 49) rfl)
set_option maxRecDepth 20000 in
theorem w50 : Cond.selects "LetterBrokerModel" yX12_method yX12_method ∈ lw_tbl := List.mem_append_left _ (List.mem_of_getElem? (i := 50) rfl)
set_option maxRecDepth 20000 in
theorem w51 : Cond.selects "LetterBrokerModel" yX12_begin yX12_begin ∈ lw_tbl := List.mem_append_left _ (List.mem_of_getElem? (i := 51) rfl)
set_option maxRecDepth 20000 in
theorem w52 : Cond.selects "LetterBrokerModel" yX12_put yX12_put ∈ lw_tbl := List.mem_append_left _ (List.mem_of_getElem? (i := 52) rfl)
set_option maxRecDepth 20000 in
theorem w53 : Cond.selects "LetterBrokerModel" yX12_putShort yX12_putShort ∈ lw_tbl := List.mem_append_left _ (List.mem_of_getElem? (i := 53) rfl)
set_option maxRecDepth 20000 in
theorem w54 : Cond.selects "LetterBrokerModel" yX12_finish yX12_finish ∈ lw_tbl := List.mem_append_left _ (List.mem_of_getElem? (i := 54) rfl)
set_option maxRecDepth 20000 in
theorem w55 : Cond.selects "LetterBrokerModel" yX12_shut yX12_shut ∈ lw_tbl := List.mem_append_left _ (List.mem_of_getElem? (i := 55) rfl)
set_option maxRecDepth 20000 in
theorem w56 : Cond.selects "LetterBrokerModel" yX12_endChannel yX12_endChannel ∈ lw_tbl := List.mem_append_left _ (List.mem_of_getElem? (i := 56) rfl)
set_option maxRecDepth 20000 in
theorem w57 : Cond.selects "LetterBrokerModel" yX12_removeConsumer yX12_removeConsumer ∈ lw_tbl := List.mem_append_left _ (List.mem_of_getElem? (i := 57) rfl)
set_option maxRecDepth 20000 in
theorem w58 : Cond.selects "LetterBrokerModel" yX12_allBack yX12_allBack ∈ lw_tbl := List.mem_append_left _ (List.mem_of_getElem? (i := 58) rfl)
set_option maxRecDepth 20000 in
theorem w59 : Cond.selects "LetterBrokerModel" yX12_goesBack yX12_goesBack ∈ lw_tbl := List.mem_append_left _ (List.mem_of_getElem? (i := 59) rfl)
set_option maxRecDepth 20000 in
theorem w60 : Cond.selects "LetterBrokerModel" yX12_isThere yX12_isThere ∈ lw_tbl := List.mem_append_left _ (List.mem_of_getElem? (i := 60) rfl)
set_option maxRecDepth 20000 in
theorem w61 : Cond.selects "LetterBrokerModel" yX12_removeLetter yX12_removeLetter ∈ lw_tbl := List.mem_append_left _ (List.mem_of_getElem? (i := 61) rfl)
set_option maxRecDepth 20000 in
theorem w62 : Cond.selects "LetterBrokerModel" yX12_moveLetter yX12_moveLetter ∈ lw_tbl := List.mem_append_left _ (List.mem_of_getElem? (i := 62) rfl)
set_option maxRecDepth 20000 in
theorem w63 : Cond.selects "LetterBrokerModel" yX12_drop yX12_drop ∈ lw_tbl := List.mem_append_left _ (List.mem_of_getElem? (i := 63) rfl)
set_option maxRecDepth 20000 in
theorem w64 : Cond.selects "LetterBrokerModel" yX12_say yX12_say ∈ lw_tbl := List.mem_append_left _ (List.mem_of_getElem? (i := 64) rfl)
set_option maxRecDepth 20000 in
theorem w65 : Cond.selects "LetterBrokerModel" yX12_frameLength yX12_frameLength ∈ lw_tbl := List.mem_append_left _ (List.mem_of_getElem? (i := 65) rfl)
set_option maxRecDepth 20000 in
theorem w66 : Cond.selects "LetterBrokerModel" yX12_frame yX12_frame ∈ lw_tbl := List.mem_append_left _ (List.mem_of_getElem? (i := 66) rfl)
set_option maxRecDepth 20000 in
theorem w67 : Cond.selects "LetterBrokerModel" yX12_doMethod yX12_doMethod ∈ lw_tbl := List.mem_append_left _ (List.mem_of_getElem? (i := 67) rfl)
set_option maxRecDepth 20000 in
theorem w68 : Cond.selects "LetterBrokerModel" yX12_next yX12_next ∈ lw_tbl := List.mem_append_left _ (List.mem_of_getElem? (i := 68) rfl)
set_option maxRecDepth 20000 in
theorem w69 : Cond.selects "LetterBrokerModel" yX12_lineMethod yX12_lineMethod ∈ lw_tbl := List.mem_append_left _ (List.mem_of_getElem? (i := 69) rfl)
set_option maxRecDepth 20000 in
theorem w70 : Cond.selects "LetterBrokerModel" yX12_isJust yX12_isJust ∈ lw_tbl := List.mem_append_left _ (List.mem_of_getElem? (i := 70) rfl)
set_option maxRecDepth 20000 in
theorem w71 : Cond.selects "LetterBrokerModel" yX12_channelMethod yX12_channelMethod ∈ lw_tbl := List.mem_append_left _ (List.mem_of_getElem? (i := 71) rfl)
set_option maxRecDepth 20000 in
theorem w72 : Cond.selects "LetterBrokerModel" yX12_exchangeMethod yX12_exchangeMethod ∈ lw_tbl := List.mem_append_left _ (List.mem_of_getElem? (i := 72) rfl)
set_option maxRecDepth 20000 in
theorem w73 : Cond.selects "LetterBrokerModel" yX12_nextName yX12_nextName ∈ lw_tbl := List.mem_append_left _ (List.mem_of_getElem? (i := 73) rfl)
set_option maxRecDepth 20000 in
theorem w74 : Cond.selects "LetterBrokerModel" yX12_nextTruth yX12_nextTruth ∈ lw_tbl := List.mem_append_left _ (List.mem_of_getElem? (i := 74) rfl)
set_option maxRecDepth 20000 in
theorem w75 : Cond.selects "LetterBrokerModel" yX12_exchangeOf yX12_exchangeOf ∈ lw_tbl := List.mem_append_left _ (List.mem_of_getElem? (i := 75) rfl)
set_option maxRecDepth 20000 in
theorem w76 : Cond.selects "LetterBrokerModel" yX12_soft yX12_soft ∈ lw_tbl := List.mem_append_left _ (List.mem_of_getElem? (i := 76) rfl)
set_option maxRecDepth 20000 in
theorem w77 : Cond.selects "LetterBrokerModel" yX12_hasBindings yX12_hasBindings ∈ lw_tbl := List.mem_append_left _ (List.mem_of_getElem? (i := 77) rfl)
set_option maxRecDepth 20000 in
theorem w78 : Cond.selects "LetterBrokerModel" yX12_removeExchange yX12_removeExchange ∈ lw_tbl := List.mem_append_left _ (List.mem_of_getElem? (i := 78) rfl)
set_option maxRecDepth 20000 in
theorem w79 : Cond.selects "LetterBrokerModel" yX12_removeBinding yX12_removeBinding ∈ lw_tbl := List.mem_append_left _ (List.mem_of_getElem? (i := 79) rfl)
set_option maxRecDepth 20000 in
theorem w80 : Cond.selects "LetterBrokerModel" yX12_queueMethod yX12_queueMethod ∈ lw_tbl := List.mem_append_left _ (List.mem_of_getElem? (i := 80) rfl)
set_option maxRecDepth 20000 in
theorem w81 : Cond.selects "LetterBrokerModel" yX12_declareQueue yX12_declareQueue ∈ lw_tbl := List.mem_append_left _ (List.mem_of_getElem? (i := 81) rfl)
set_option maxRecDepth 20000 in
theorem w82 : Cond.selects "LetterBrokerModel" yX12_queueOf yX12_queueOf ∈ lw_tbl := List.mem_append_left _ (List.mem_of_getElem? (i := 82) rfl)
set_option maxRecDepth 20000 in
theorem w83 : Cond.selects "LetterBrokerModel" yX12_putName yX12_putName ∈ lw_tbl := List.mem_append_left _ (List.mem_of_getElem? (i := 83) rfl)
set_option maxRecDepth 20000 in
theorem w84 : Cond.selects "LetterBrokerModel" yX12_waiting yX12_waiting ∈ lw_tbl := List.mem_append_left _ (List.mem_of_getElem? (i := 84) rfl)
set_option maxRecDepth 20000 in
theorem w85 : Cond.selects "LetterBrokerModel" yX12_consumersOf yX12_consumersOf ∈ lw_tbl := List.mem_append_left _ (List.mem_of_getElem? (i := 85) rfl)
set_option maxRecDepth 20000 in
theorem w86 : Cond.selects "LetterBrokerModel" yX12_bind yX12_bind ∈ lw_tbl := List.mem_append_left _ (List.mem_of_getElem? (i := 86) rfl)
set_option maxRecDepth 20000 in
theorem w87 : Cond.selects "LetterBrokerModel" yX12_bindingOf yX12_bindingOf ∈ lw_tbl := List.mem_append_left _ (List.mem_of_getElem? (i := 87) rfl)
set_option maxRecDepth 20000 in
theorem w88 : Cond.selects "LetterBrokerModel" yX12_emptyQueue yX12_emptyQueue ∈ lw_tbl := List.mem_append_left _ (List.mem_of_getElem? (i := 88) rfl)
set_option maxRecDepth 20000 in
theorem w89 : Cond.selects "LetterBrokerModel" yX12_purge yX12_purge ∈ lw_tbl := List.mem_append_left _ (List.mem_of_getElem? (i := 89) rfl)
set_option maxRecDepth 20000 in
theorem w90 : Cond.selects "LetterBrokerModel" yX12_firstOf yX12_firstOf ∈ lw_tbl := List.mem_append_left _ (List.mem_of_getElem? (i := 90) rfl)
set_option maxRecDepth 20000 in
theorem w91 : Cond.selects "LetterBrokerModel" yX12_removeQueue yX12_removeQueue ∈ lw_tbl := List.mem_append_left _ (List.mem_of_getElem? (i := 91) rfl)
set_option maxRecDepth 20000 in
theorem w92 : Cond.selects "LetterBrokerModel" yX12_letterMethod yX12_letterMethod ∈ lw_tbl := List.mem_append_left _ (List.mem_of_getElem? (i := 92) rfl)
set_option maxRecDepth 20000 in
theorem w93 : Cond.selects "LetterBrokerModel" yX12_consume yX12_consume ∈ lw_tbl := List.mem_append_left _ (List.mem_of_getElem? (i := 93) rfl)
set_option maxRecDepth 20000 in
theorem w94 : Cond.selects "LetterBrokerModel" yX12_hasTag yX12_hasTag ∈ lw_tbl := List.mem_append_left _ (List.mem_of_getElem? (i := 94) rfl)
set_option maxRecDepth 20000 in
theorem w95 : Cond.selects "LetterBrokerModel" yX12_cancel yX12_cancel ∈ lw_tbl := List.mem_append_left _ (List.mem_of_getElem? (i := 95) rfl)
set_option maxRecDepth 20000 in
theorem w96 : Cond.selects "LetterBrokerModel" yX12_publish yX12_publish ∈ lw_tbl := List.mem_append_left _ (List.mem_of_getElem? (i := 96) rfl)
set_option maxRecDepth 20000 in
theorem w97 : Cond.selects "LetterBrokerModel" yX12_get yX12_get ∈ lw_tbl := List.mem_append_left _ (List.mem_of_getElem? (i := 97) rfl)
set_option maxRecDepth 20000 in
theorem w98 : Cond.selects "LetterBrokerModel" yX12_tell yX12_tell ∈ lw_tbl := List.mem_append_left _ (List.mem_of_getElem? (i := 98) rfl)
set_option maxRecDepth 20000 in
theorem w99 : Cond.selects "LetterBrokerModel" yX12_putLetter yX12_putLetter ∈ lw_tbl := List.mem_append_left _ (List.mem_of_getElem? (i := 99) rfl)
set_option maxRecDepth 20000 in
theorem w100 : Cond.selects "LetterBrokerModel" yX12_take yX12_take ∈ lw_tbl := List.mem_append_left _ (List.mem_of_getElem? (i := 100) rfl)
set_option maxRecDepth 20000 in
theorem w101 : Cond.selects "LetterBrokerModel" yX12_nextShort yX12_nextShort ∈ lw_tbl := List.mem_append_left _ (List.mem_of_getElem? (i := 101) rfl)
set_option maxRecDepth 20000 in
theorem w102 : Cond.selects "LetterBrokerModel" yX12_settleOrKeep yX12_settleOrKeep ∈ lw_tbl := List.mem_append_left _ (List.mem_of_getElem? (i := 102) rfl)
set_option maxRecDepth 20000 in
theorem w103 : Cond.selects "LetterBrokerModel" yX12_isMeant yX12_isMeant ∈ lw_tbl := List.mem_append_left _ (List.mem_of_getElem? (i := 103) rfl)
set_option maxRecDepth 20000 in
theorem w104 : Cond.selects "LetterBrokerModel" yX12_settle yX12_settle ∈ lw_tbl := List.mem_append_left _ (List.mem_of_getElem? (i := 104) rfl)
set_option maxRecDepth 20000 in
theorem w105 : Cond.selects "LetterBrokerModel" yX12_transactionMethod yX12_transactionMethod ∈ lw_tbl := List.mem_append_left _ (List.mem_of_getElem? (i := 105) rfl)
set_option maxRecDepth 20000 in
theorem w106 : Cond.selects "LetterBrokerModel" yX12_commit yX12_commit ∈ lw_tbl := List.mem_append_left _ (List.mem_of_getElem? (i := 106) rfl)
set_option maxRecDepth 20000 in
theorem w107 : Cond.selects "LetterBrokerModel" yX12_route yX12_route ∈ lw_tbl := List.mem_append_left _ (List.mem_of_getElem? (i := 107) rfl)
set_option maxRecDepth 20000 in
theorem w108 : Cond.selects "LetterBrokerModel" yX12_reaches yX12_reaches ∈ lw_tbl := List.mem_append_left _ (List.mem_of_getElem? (i := 108) rfl)
set_option maxRecDepth 20000 in
theorem w109 : Cond.selects "LetterBrokerModel" yX12_fits yX12_fits ∈ lw_tbl := List.mem_append_left _ (List.mem_of_getElem? (i := 109) rfl)
set_option maxRecDepth 20000 in
theorem w110 : Cond.selects "LetterBrokerModel" yX12_fitsAt yX12_fitsAt ∈ lw_tbl := List.mem_append_left _ (List.mem_of_getElem? (i := 110) rfl)
set_option maxRecDepth 20000 in
theorem w111 : Cond.selects "LetterBrokerModel" yX12_head yX12_head ∈ lw_tbl := List.mem_append_left _ (List.mem_of_getElem? (i := 111) rfl)
set_option maxRecDepth 20000 in
theorem w112 : Cond.selects "LetterBrokerModel" yX12_complete yX12_complete ∈ lw_tbl := List.mem_append_left _ (List.mem_of_getElem? (i := 112) rfl)
set_option maxRecDepth 20000 in
theorem w113 : Cond.selects "LetterBrokerModel" yX12_body yX12_body ∈ lw_tbl := List.mem_append_left _ (List.mem_of_getElem? (i := 113) rfl)
set_option maxRecDepth 20000 in
theorem w114 : Cond.selects "LetterBrokerModel" yX12_deliver yX12_deliver ∈ lw_tbl := List.mem_append_left _ (List.mem_of_getElem? (i := 114) rfl)
set_option maxRecDepth 20000 in
theorem w115 : Cond.selects "LetterBrokerModel" yX12_nextConsumer yX12_nextConsumer ∈ lw_tbl := List.mem_append_left _ (List.mem_of_getElem? (i := 115) rfl)
set_option maxRecDepth 20000 in
theorem w116 : Cond.selects "LetterBrokerModel" yX12_canTake yX12_canTake ∈ lw_tbl := List.mem_append_left _ (List.mem_of_getElem? (i := 116) rfl)
set_option maxRecDepth 20000 in
theorem w117 : Cond.selects "LetterBrokerModel" yX12_held yX12_held ∈ lw_tbl := List.mem_append_left _ (List.mem_of_getElem? (i := 117) rfl)
set_option maxRecDepth 20000 in
theorem w119 : Cond.initialized "LetterBroker" ∈ lw_tbl := List.mem_append_right _ (List.mem_append_left _ (List.mem_of_getElem? (i := 1) rfl))
set_option maxRecDepth 20000 in
theorem w120 : Cond.initialized "LetterBroker$Inbox" ∈ lw_tbl := List.mem_append_right _ (List.mem_append_left _ (List.mem_of_getElem? (i := 2) rfl))
set_option maxRecDepth 20000 in
theorem w121 : Cond.initialized "LetterBroker$Outbox" ∈ lw_tbl := List.mem_append_right _ (List.mem_append_left _ (List.mem_of_getElem? (i := 3) rfl))
set_option maxRecDepth 20000 in
theorem w122 : Cond.initialized "LetterBroker$Office" ∈ lw_tbl := List.mem_append_right _ (List.mem_append_left _ (List.mem_of_getElem? (i := 4) rfl))
set_option maxRecDepth 20000 in
theorem w123 : Cond.initialized "java/util/AbstractCollection" ∈ lw_tbl := List.mem_append_right _ (List.mem_append_left _ (List.mem_of_getElem? (i := 5) rfl))
set_option maxRecDepth 20000 in
theorem w124 : Cond.initialized "java/util/AbstractList" ∈ lw_tbl := List.mem_append_right _ (List.mem_append_left _ (List.mem_of_getElem? (i := 6) rfl))
set_option maxRecDepth 20000 in
theorem w125 : Cond.initialized "java/util/ArrayList" ∈ lw_tbl := List.mem_append_right _ (List.mem_append_left _ (List.mem_of_getElem? (i := 7) rfl))
set_option maxRecDepth 20000 in
theorem w126 : Cond.initialized "LetterBroker$Exchange" ∈ lw_tbl := List.mem_append_right _ (List.mem_append_left _ (List.mem_of_getElem? (i := 8) rfl))
set_option maxRecDepth 20000 in
theorem w127 : Cond.initialized "jdk/internal/util/ArraysSupport" ∈ lw_tbl := List.mem_append_right _ (List.mem_append_left _ (List.mem_of_getElem? (i := 9) rfl))
set_option maxRecDepth 20000 in
theorem w129 : Cond.initialized "java/util/Arrays" ∈ lw_tbl := List.mem_append_right _ (List.mem_append_left _ (List.mem_of_getElem? (i := 11) rfl))
set_option maxRecDepth 20000 in
theorem w131 : Cond.initialized "LetterBroker$Channel" ∈ lw_tbl := List.mem_append_right _ (List.mem_append_left _ (List.mem_of_getElem? (i := 13) rfl))
set_option maxRecDepth 20000 in
theorem w132 : Cond.initialized "LetterBrokerModel" ∈ lw_tbl := List.mem_append_right _ (List.mem_append_left _ (List.mem_of_getElem? (i := 14) rfl))
set_option maxRecDepth 20000 in
theorem w133 : Cond.initialized "LetterBroker$Deed" ∈ lw_tbl := List.mem_append_right _ (List.mem_append_left _ (List.mem_of_getElem? (i := 15) rfl))
set_option maxRecDepth 20000 in
theorem w134 : Cond.initialized "java/util/Objects" ∈ lw_tbl := List.mem_append_right _ (List.mem_append_left _ (List.mem_of_getElem? (i := 16) rfl))
set_option maxRecDepth 20000 in
theorem w135 : Cond.initialized "jdk/internal/util/Preconditions" ∈ lw_tbl := List.mem_append_right _ (List.mem_append_left _ (List.mem_of_getElem? (i := 17) rfl))
set_option maxRecDepth 20000 in
theorem w136 : Cond.initialized "java/lang/Integer" ∈ lw_tbl := List.mem_append_right _ (List.mem_append_left _ (List.mem_of_getElem? (i := 18) rfl))
set_option maxRecDepth 20000 in
theorem w137 : Cond.initialized "LetterBroker$Letter" ∈ lw_tbl := List.mem_append_right _ (List.mem_append_left _ (List.mem_of_getElem? (i := 19) rfl))
set_option maxRecDepth 20000 in
theorem w138 : Cond.initialized "LetterBroker$Queue" ∈ lw_tbl := List.mem_append_right _ (List.mem_append_left _ (List.mem_of_getElem? (i := 20) rfl))
set_option maxRecDepth 20000 in
theorem w139 : Cond.initialized "LetterBroker$Binding" ∈ lw_tbl := List.mem_append_right _ (List.mem_append_left _ (List.mem_of_getElem? (i := 21) rfl))
set_option maxRecDepth 20000 in
theorem w140 : Cond.initialized "LetterBroker$Consumer" ∈ lw_tbl := List.mem_append_right _ (List.mem_append_left _ (List.mem_of_getElem? (i := 22) rfl))
set_option maxRecDepth 20000 in
theorem w141 : Cond.initialized "LetterBroker$Draft" ∈ lw_tbl := List.mem_append_right _ (List.mem_append_left _ (List.mem_of_getElem? (i := 23) rfl))
set_option maxRecDepth 20000 in
theorem w142 : Cond.classLink "LetterBrokerLaw" 7 "LetterBroker" ∈ lw_tbl := List.mem_append_right _ (List.mem_append_left _ (List.mem_of_getElem? (i := 24) rfl))
set_option maxRecDepth 20000 in
theorem w144 : Cond.methodLink "LetterBrokerLaw" 9 yX11_init ∈ lw_tbl := List.mem_append_right _ (List.mem_append_left _ (List.mem_of_getElem? (i := 26) rfl))
set_option maxRecDepth 20000 in
theorem w145 : Cond.instanceMethod yX11_init ∈ lw_tbl := List.mem_append_right _ (List.mem_append_left _ (List.mem_of_getElem? (i := 27) rfl))
set_option maxRecDepth 20000 in
theorem w146 : Cond.code yX11_init cX11_init 2 none ∈ lw_tbl := List.mem_append_right _ (List.mem_append_left _ (List.mem_of_getElem? (i := 28) rfl))
set_option maxRecDepth 20000 in
theorem w147 : Cond.methodLink "LetterBroker" 1 Lib.objectInit ∈ lw_tbl := List.mem_append_right _ (List.mem_append_left _ (List.mem_of_getElem? (i := 29) rfl))
set_option maxRecDepth 20000 in
theorem w150 : Cond.classLink "LetterBroker" 7 "LetterBroker$Inbox" ∈ lw_tbl := List.mem_append_right _ (List.mem_append_left _ (List.mem_of_getElem? (i := 32) rfl))
set_option maxRecDepth 20000 in
theorem w152 : Cond.methodLinkNest "LetterBroker" 9 yX6_init "LetterBroker" ∈ lw_tbl := List.mem_append_right _ (List.mem_append_left _ (List.mem_of_getElem? (i := 34) rfl))
set_option maxRecDepth 20000 in
theorem w153 : Cond.instanceMethod yX6_init ∈ lw_tbl := List.mem_append_right _ (List.mem_append_left _ (List.mem_of_getElem? (i := 35) rfl))
set_option maxRecDepth 20000 in
theorem w154 : Cond.code yX6_init cX6_init 1 none ∈ lw_tbl := List.mem_append_right _ (List.mem_append_left _ (List.mem_of_getElem? (i := 36) rfl))
set_option maxRecDepth 20000 in
theorem w155 : Cond.methodLink "LetterBroker$Inbox" 3 Lib.objectInit ∈ lw_tbl := List.mem_append_right _ (List.mem_append_left _ (List.mem_of_getElem? (i := 37) rfl))
set_option maxRecDepth 20000 in
theorem w156 : Cond.fieldLink "LetterBroker$Inbox" 15 "LetterBroker$Inbox" "size" "I" ∈ lw_tbl := List.mem_append_right _ (List.mem_append_left _ (List.mem_of_getElem? (i := 38) rfl))
set_option maxRecDepth 20000 in
theorem w157 : Cond.fieldLink "LetterBroker" 43 "LetterBroker$Inbox" "size" "I" ∈ lw_tbl := List.mem_append_right _ (List.mem_append_left _ (List.mem_of_getElem? (i := 39) rfl))
set_option maxRecDepth 20000 in
theorem w158 : Cond.fieldLink "LetterBroker$Inbox" 9 "LetterBroker$Inbox" "bytes" "[I" ∈ lw_tbl := List.mem_append_right _ (List.mem_append_left _ (List.mem_of_getElem? (i := 40) rfl))
set_option maxRecDepth 20000 in
theorem w159 : Cond.fieldLink "LetterBroker$Inbox" 22 "LetterBroker$Inbox" "handled" "I" ∈ lw_tbl := List.mem_append_right _ (List.mem_append_left _ (List.mem_of_getElem? (i := 41) rfl))
set_option maxRecDepth 20000 in
theorem w160 : Cond.fieldLink "LetterBroker$Inbox" 25 "LetterBroker$Inbox" "at" "I" ∈ lw_tbl := List.mem_append_right _ (List.mem_append_left _ (List.mem_of_getElem? (i := 42) rfl))
set_option maxRecDepth 20000 in
theorem w161 : Cond.fieldLink "LetterBroker$Inbox" 28 "LetterBroker$Inbox" "end" "I" ∈ lw_tbl := List.mem_append_right _ (List.mem_append_left _ (List.mem_of_getElem? (i := 43) rfl))
set_option maxRecDepth 20000 in
theorem w162 : Cond.fieldLink "LetterBroker$Inbox" 31 "LetterBroker$Inbox" "wrong" "Z" ∈ lw_tbl := List.mem_append_right _ (List.mem_append_left _ (List.mem_of_getElem? (i := 44) rfl))
set_option maxRecDepth 20000 in
theorem w177 : Cond.classLink "LetterBroker" 16 "LetterBroker$Outbox" ∈ lw_tbl := List.mem_append_right _ (List.mem_append_left _ (List.mem_of_getElem? (i := 59) rfl))
set_option maxRecDepth 20000 in
theorem w179 : Cond.methodLinkNest "LetterBroker" 18 yX9_init "LetterBroker" ∈ lw_tbl := List.mem_append_right _ (List.mem_append_left _ (List.mem_of_getElem? (i := 61) rfl))
set_option maxRecDepth 20000 in
theorem w180 : Cond.instanceMethod yX9_init ∈ lw_tbl := List.mem_append_right _ (List.mem_append_left _ (List.mem_of_getElem? (i := 62) rfl))
set_option maxRecDepth 20000 in
theorem w181 : Cond.code yX9_init cX9_init 1 none ∈ lw_tbl := List.mem_append_right _ (List.mem_append_left _ (List.mem_of_getElem? (i := 63) rfl))
set_option maxRecDepth 20000 in
theorem w182 : Cond.methodLink "LetterBroker$Outbox" 3 Lib.objectInit ∈ lw_tbl := List.mem_append_right _ (List.mem_append_left _ (List.mem_of_getElem? (i := 64) rfl))
set_option maxRecDepth 20000 in
theorem w183 : Cond.fieldLink "LetterBroker$Outbox" 15 "LetterBroker$Outbox" "size" "I" ∈ lw_tbl := List.mem_append_right _ (List.mem_append_left _ (List.mem_of_getElem? (i := 65) rfl))
set_option maxRecDepth 20000 in
theorem w184 : Cond.fieldLink "LetterBroker" 50 "LetterBroker$Outbox" "size" "I" ∈ lw_tbl := List.mem_append_right _ (List.mem_append_left _ (List.mem_of_getElem? (i := 66) rfl))
set_option maxRecDepth 20000 in
theorem w185 : Cond.fieldLink "LetterBroker$Outbox" 11 "LetterBroker$Outbox" "ring" "[I" ∈ lw_tbl := List.mem_append_right _ (List.mem_append_left _ (List.mem_of_getElem? (i := 67) rfl))
set_option maxRecDepth 20000 in
theorem w186 : Cond.fieldLink "LetterBroker$Outbox" 19 "LetterBroker$Outbox" "first" "I" ∈ lw_tbl := List.mem_append_right _ (List.mem_append_left _ (List.mem_of_getElem? (i := 68) rfl))
set_option maxRecDepth 20000 in
theorem w187 : Cond.fieldLink "LetterBroker$Outbox" 26 "LetterBroker$Outbox" "lengthAt" "I" ∈ lw_tbl := List.mem_append_right _ (List.mem_append_left _ (List.mem_of_getElem? (i := 69) rfl))
set_option maxRecDepth 20000 in
theorem w188 : Cond.fieldLink "LetterBroker$Outbox" 29 "LetterBroker$Outbox" "sizeAtPayload" "I" ∈ lw_tbl := List.mem_append_right _ (List.mem_append_left _ (List.mem_of_getElem? (i := 70) rfl))
set_option maxRecDepth 20000 in
theorem w200 : Cond.classLink "LetterBroker" 23 "LetterBroker$Office" ∈ lw_tbl := List.mem_append_right _ (List.mem_append_left _ (List.mem_of_getElem? (i := 82) rfl))
set_option maxRecDepth 20000 in
theorem w202 : Cond.methodLink "LetterBroker" 25 yX8_init ∈ lw_tbl := List.mem_append_right _ (List.mem_append_left _ (List.mem_of_getElem? (i := 84) rfl))
set_option maxRecDepth 20000 in
theorem w203 : Cond.instanceMethod yX8_init ∈ lw_tbl := List.mem_append_right _ (List.mem_append_left _ (List.mem_of_getElem? (i := 85) rfl))
set_option maxRecDepth 20000 in
theorem w204 : Cond.code yX8_init cX8_init 1 none ∈ lw_tbl := List.mem_append_right _ (List.mem_append_left _ (List.mem_of_getElem? (i := 86) rfl))
set_option maxRecDepth 20000 in
theorem w205 : Cond.methodLink "LetterBroker$Office" 3 Lib.objectInit ∈ lw_tbl := List.mem_append_right _ (List.mem_append_left _ (List.mem_of_getElem? (i := 87) rfl))
set_option maxRecDepth 20000 in
theorem w206 : Cond.classLink "LetterBroker$Office" 9 "java/util/ArrayList" ∈ lw_tbl := List.mem_append_right _ (List.mem_append_left _ (List.mem_of_getElem? (i := 88) rfl))
set_option maxRecDepth 20000 in
theorem w208 : Cond.methodLink "LetterBroker$Office" 11 yJx4a65c_init_da8c8 ∈ lw_tbl := List.mem_append_right _ (List.mem_append_left _ (List.mem_of_getElem? (i := 90) rfl))
set_option maxRecDepth 20000 in
theorem w209 : Cond.instanceMethod yJx4a65c_init_da8c8 ∈ lw_tbl := List.mem_append_right _ (List.mem_append_left _ (List.mem_of_getElem? (i := 91) rfl))
set_option maxRecDepth 20000 in
theorem w210 : Cond.code yJx4a65c_init_da8c8 cJx4a65c_init_da8c8 1 none ∈ lw_tbl := List.mem_append_right _ (List.mem_append_left _ (List.mem_of_getElem? (i := 92) rfl))
set_option maxRecDepth 20000 in
theorem w211 : Cond.methodLink "java/util/ArrayList" 1 yJxc12de_init_da8c8 ∈ lw_tbl := List.mem_append_right _ (List.mem_append_left _ (List.mem_of_getElem? (i := 93) rfl))
set_option maxRecDepth 20000 in
theorem w212 : Cond.instanceMethod yJxc12de_init_da8c8 ∈ lw_tbl := List.mem_append_right _ (List.mem_append_left _ (List.mem_of_getElem? (i := 94) rfl))
set_option maxRecDepth 20000 in
theorem w213 : Cond.code yJxc12de_init_da8c8 cJxc12de_init_da8c8 1 none ∈ lw_tbl := List.mem_append_right _ (List.mem_append_left _ (List.mem_of_getElem? (i := 95) rfl))
set_option maxRecDepth 20000 in
theorem w214 : Cond.methodLink "java/util/AbstractList" 1 yJxa1e45_init_da8c8 ∈ lw_tbl := List.mem_append_right _ (List.mem_append_left _ (List.mem_of_getElem? (i := 96) rfl))
set_option maxRecDepth 20000 in
theorem w215 : Cond.instanceMethod yJxa1e45_init_da8c8 ∈ lw_tbl := List.mem_append_right _ (List.mem_append_left _ (List.mem_of_getElem? (i := 97) rfl))
set_option maxRecDepth 20000 in
theorem w216 : Cond.code yJxa1e45_init_da8c8 cJxa1e45_init_da8c8 1 none ∈ lw_tbl := List.mem_append_right _ (List.mem_append_left _ (List.mem_of_getElem? (i := 98) rfl))
set_option maxRecDepth 20000 in
theorem w217 : Cond.methodLink "java/util/AbstractCollection" 1 Lib.objectInit ∈ lw_tbl := List.mem_append_right _ (List.mem_append_left _ (List.mem_of_getElem? (i := 99) rfl))
set_option maxRecDepth 20000 in
theorem w218 : Cond.fieldLink "java/util/ArrayList" 39 "java/util/ArrayList" "DEFAULTCAPACITY_EMPTY_ELEMENTDATA" "[Ljava/lang/Object;" ∈ lw_tbl := List.mem_append_right _ (List.mem_append_left _ (List.mem_of_getElem? (i := 100) rfl))
set_option maxRecDepth 20000 in
theorem w220 : Cond.fieldLink "java/util/ArrayList" 9 "java/util/ArrayList" "elementData" "[Ljava/lang/Object;" ∈ lw_tbl := List.mem_append_right _ (List.mem_append_left _ (List.mem_of_getElem? (i := 102) rfl))
set_option maxRecDepth 20000 in
theorem w221 : Cond.fieldLink "java/util/ArrayList" 48 "java/util/ArrayList" "size" "I" ∈ lw_tbl := List.mem_append_right _ (List.mem_append_left _ (List.mem_of_getElem? (i := 103) rfl))
set_option maxRecDepth 20000 in
theorem w222 : Cond.fieldLink "java/util/AbstractList" 7 "java/util/AbstractList" "modCount" "I" ∈ lw_tbl := List.mem_append_right _ (List.mem_append_left _ (List.mem_of_getElem? (i := 104) rfl))
set_option maxRecDepth 20000 in
theorem w223 : Cond.fieldLink "java/util/ArrayList" 63 "java/util/ArrayList" "modCount" "I" ∈ lw_tbl := List.mem_append_right _ (List.mem_append_left _ (List.mem_of_getElem? (i := 105) rfl))
set_option maxRecDepth 20000 in
theorem w224 : Cond.sameField "java/util/ArrayList" "java/util/AbstractList" "modCount" "I" ∈ lw_tbl := List.mem_append_right _ (List.mem_append_left _ (List.mem_of_getElem? (i := 106) rfl))
set_option maxRecDepth 20000 in
theorem w232 : Cond.classLink "LetterBroker$Office" 27 "LetterBroker$Exchange" ∈ lw_tbl := List.mem_append_right _ (List.mem_append_left _ (List.mem_of_getElem? (i := 114) rfl))
set_option maxRecDepth 20000 in
theorem w234 : Cond.methodLink "LetterBroker$Office" 29 yX5_init ∈ lw_tbl := List.mem_append_right _ (List.mem_append_left _ (List.mem_of_getElem? (i := 116) rfl))
set_option maxRecDepth 20000 in
theorem w235 : Cond.instanceMethod yX5_init ∈ lw_tbl := List.mem_append_right _ (List.mem_append_left _ (List.mem_of_getElem? (i := 117) rfl))
set_option maxRecDepth 20000 in
theorem w236 : Cond.code yX5_init cX5_init 4 none ∈ lw_tbl := List.mem_append_right _ (List.mem_append_left _ (List.mem_of_getElem? (i := 118) rfl))
set_option maxRecDepth 20000 in
theorem w237 : Cond.methodLink "LetterBroker$Exchange" 1 Lib.objectInit ∈ lw_tbl := List.mem_append_right _ (List.mem_append_left _ (List.mem_of_getElem? (i := 119) rfl))
set_option maxRecDepth 20000 in
theorem w238 : Cond.fieldLink "LetterBroker$Exchange" 7 "LetterBroker$Exchange" "name" "J" ∈ lw_tbl := List.mem_append_right _ (List.mem_append_left _ (List.mem_of_getElem? (i := 120) rfl))
set_option maxRecDepth 20000 in
theorem w239 : Cond.fieldLink "LetterBroker$Office" 46 "LetterBroker$Exchange" "name" "J" ∈ lw_tbl := List.mem_append_right _ (List.mem_append_left _ (List.mem_of_getElem? (i := 121) rfl))
set_option maxRecDepth 20000 in
theorem w240 : Cond.fieldLink "LetterBroker" 325 "LetterBroker$Exchange" "name" "J" ∈ lw_tbl := List.mem_append_right _ (List.mem_append_left _ (List.mem_of_getElem? (i := 122) rfl))
set_option maxRecDepth 20000 in
theorem w241 : Cond.fieldLink "LetterBroker$Exchange" 13 "LetterBroker$Exchange" "kind" "I" ∈ lw_tbl := List.mem_append_right _ (List.mem_append_left _ (List.mem_of_getElem? (i := 123) rfl))
set_option maxRecDepth 20000 in
theorem w242 : Cond.fieldLink "LetterBroker$Binding" 31 "LetterBroker$Exchange" "kind" "I" ∈ lw_tbl := List.mem_append_right _ (List.mem_append_left _ (List.mem_of_getElem? (i := 124) rfl))
set_option maxRecDepth 20000 in
theorem w243 : Cond.fieldLink "LetterBroker" 294 "LetterBroker$Exchange" "kind" "I" ∈ lw_tbl := List.mem_append_right _ (List.mem_append_left _ (List.mem_of_getElem? (i := 125) rfl))
set_option maxRecDepth 20000 in
theorem w250 : Cond.methodLink "LetterBroker$Office" 32 ⟨"java/util/List", "add", "(Ljava/lang/Object;)Z"⟩ ∈ lw_tbl := List.mem_append_right _ (List.mem_append_left _ (List.mem_of_getElem? (i := 132) rfl))
set_option maxRecDepth 20000 in
theorem w254 : Cond.selects "java/util/ArrayList" ⟨"java/util/List", "add", "(Ljava/lang/Object;)Z"⟩ yJx4a65c_add_9ea2d ∈ lw_tbl := List.mem_append_right _ (List.mem_append_left _ (List.mem_of_getElem? (i := 136) rfl))
set_option maxRecDepth 20000 in
theorem w256 : Cond.instanceMethod yJx4a65c_add_9ea2d ∈ lw_tbl := List.mem_append_right _ (List.mem_append_left _ (List.mem_of_getElem? (i := 138) rfl))
set_option maxRecDepth 20000 in
theorem w258 : Cond.code yJx4a65c_add_9ea2d cJx4a65c_add_9ea2d 2 (some .boolean) ∈ lw_tbl := List.mem_append_right _ (List.mem_append_left _ (List.mem_of_getElem? (i := 140) rfl))
set_option maxRecDepth 20000 in
theorem w259 : Cond.methodLink "java/util/ArrayList" 131 yJx4a65c_add_72be8 ∈ lw_tbl := List.mem_append_right _ (List.mem_append_left _ (List.mem_of_getElem? (i := 141) rfl))
set_option maxRecDepth 20000 in
theorem w261 : Cond.instanceMethod yJx4a65c_add_72be8 ∈ lw_tbl := List.mem_append_right _ (List.mem_append_left _ (List.mem_of_getElem? (i := 143) rfl))
set_option maxRecDepth 20000 in
theorem w262 : Cond.code yJx4a65c_add_72be8 cJx4a65c_add_72be8 4 none ∈ lw_tbl := List.mem_append_right _ (List.mem_append_left _ (List.mem_of_getElem? (i := 144) rfl))
set_option maxRecDepth 20000 in
theorem w263 : Cond.methodLink "java/util/ArrayList" 129 yJx4a65c_grow_d5877 ∈ lw_tbl := List.mem_append_right _ (List.mem_append_left _ (List.mem_of_getElem? (i := 145) rfl))
set_option maxRecDepth 20000 in
theorem w265 : Cond.instanceMethod yJx4a65c_grow_d5877 ∈ lw_tbl := List.mem_append_right _ (List.mem_append_left _ (List.mem_of_getElem? (i := 147) rfl))
set_option maxRecDepth 20000 in
theorem w266 : Cond.code yJx4a65c_grow_d5877 cJx4a65c_grow_d5877 1 (some (.array (.object "java/lang/Object"))) ∈ lw_tbl := List.mem_append_right _ (List.mem_append_left _ (List.mem_of_getElem? (i := 148) rfl))
set_option maxRecDepth 20000 in
theorem w267 : Cond.methodLink "java/util/ArrayList" 69 yJx4a65c_grow_92f84 ∈ lw_tbl := List.mem_append_right _ (List.mem_append_left _ (List.mem_of_getElem? (i := 149) rfl))
set_option maxRecDepth 20000 in
theorem w269 : Cond.instanceMethod yJx4a65c_grow_92f84 ∈ lw_tbl := List.mem_append_right _ (List.mem_append_left _ (List.mem_of_getElem? (i := 151) rfl))
set_option maxRecDepth 20000 in
theorem w270 : Cond.code yJx4a65c_grow_92f84 cJx4a65c_grow_92f84 4 (some (.array (.object "java/lang/Object"))) ∈ lw_tbl := List.mem_append_right _ (List.mem_append_left _ (List.mem_of_getElem? (i := 152) rfl))
set_option maxRecDepth 20000 in
theorem w271 : Cond.methodLink "java/util/ArrayList" 73 yJ8_newLength_cabcc ∈ lw_tbl := List.mem_append_right _ (List.mem_append_left _ (List.mem_of_getElem? (i := 153) rfl))
set_option maxRecDepth 20000 in
theorem w272 : Cond.static yJ8_newLength_cabcc ∈ lw_tbl := List.mem_append_right _ (List.mem_append_left _ (List.mem_of_getElem? (i := 154) rfl))
set_option maxRecDepth 20000 in
theorem w273 : Cond.code yJ8_newLength_cabcc cJ8_newLength_cabcc 4 (some .int) ∈ lw_tbl := List.mem_append_right _ (List.mem_append_left _ (List.mem_of_getElem? (i := 155) rfl))
set_option maxRecDepth 20000 in
theorem w274 : Cond.methodLink "jdk/internal/util/ArraysSupport" 194 yJ9_max_7cf53 ∈ lw_tbl := List.mem_append_right _ (List.mem_append_left _ (List.mem_of_getElem? (i := 156) rfl))
set_option maxRecDepth 20000 in
theorem w277 : Cond.constant "jdk/internal/util/ArraysSupport" 200 (2147483639) ∈ lw_tbl := List.mem_append_right _ (List.mem_append_left _ (List.mem_of_getElem? (i := 159) rfl))
set_option maxRecDepth 20000 in
theorem w278 : Cond.methodLink "jdk/internal/util/ArraysSupport" 201 yJ8_hugeLength_7cf53 ∈ lw_tbl := List.mem_append_right _ (List.mem_append_left _ (List.mem_of_getElem? (i := 160) rfl))
set_option maxRecDepth 20000 in
theorem w279 : Cond.static yJ8_hugeLength_7cf53 ∈ lw_tbl := List.mem_append_right _ (List.mem_append_left _ (List.mem_of_getElem? (i := 161) rfl))
set_option maxRecDepth 20000 in
theorem w280 : Cond.code yJ8_hugeLength_7cf53 cJ8_hugeLength_7cf53 3 (some .int) ∈ lw_tbl := List.mem_append_right _ (List.mem_append_left _ (List.mem_of_getElem? (i := 162) rfl))
set_option maxRecDepth 20000 in
theorem w281 : Cond.methodLink "java/util/ArrayList" 66 yJ7_copyOf_1904c ∈ lw_tbl := List.mem_append_right _ (List.mem_append_left _ (List.mem_of_getElem? (i := 163) rfl))
set_option maxRecDepth 20000 in
theorem w282 : Cond.static yJ7_copyOf_1904c ∈ lw_tbl := List.mem_append_right _ (List.mem_append_left _ (List.mem_of_getElem? (i := 164) rfl))
set_option maxRecDepth 20000 in
theorem w283 : Cond.code yJ7_copyOf_1904c cJ7_copyOf_1904c 2 (some (.array (.object "java/lang/Object"))) ∈ lw_tbl := List.mem_append_right _ (List.mem_append_left _ (List.mem_of_getElem? (i := 165) rfl))
set_option maxRecDepth 20000 in
theorem w284 : Cond.methodLink "java/util/Arrays" 86 ⟨"java/lang/Object", "getClass", "()Ljava/lang/Class;"⟩ ∈ lw_tbl := List.mem_append_right _ (List.mem_append_left _ (List.mem_of_getElem? (i := 166) rfl))
set_option maxRecDepth 20000 in
theorem w302 : Cond.methodLink "java/util/Arrays" 300 yJ7_copyOf_6403c ∈ lw_tbl := List.mem_append_right _ (List.mem_append_left _ (List.mem_of_getElem? (i := 184) rfl))
set_option maxRecDepth 20000 in
theorem w303 : Cond.static yJ7_copyOf_6403c ∈ lw_tbl := List.mem_append_right _ (List.mem_append_left _ (List.mem_of_getElem? (i := 185) rfl))
set_option maxRecDepth 20000 in
theorem w304 : Cond.code yJ7_copyOf_6403c cJ7_copyOf_6403c 4 (some (.array (.object "java/lang/Object"))) ∈ lw_tbl := List.mem_append_right _ (List.mem_append_left _ (List.mem_of_getElem? (i := 186) rfl))
set_option maxRecDepth 20000 in
theorem w305 : Cond.classLink "java/util/Arrays" 110 "[Ljava/lang/Object;" ∈ lw_tbl := List.mem_append_right _ (List.mem_append_left _ (List.mem_of_getElem? (i := 187) rfl))
set_option maxRecDepth 20000 in
theorem w307 : Cond.classLink "java/util/Arrays" 2 "java/lang/Object" ∈ lw_tbl := List.mem_append_right _ (List.mem_append_left _ (List.mem_of_getElem? (i := 189) rfl))
set_option maxRecDepth 20000 in
theorem w308 : Cond.methodLink "java/util/Arrays" 304 yJ9_min_7cf53 ∈ lw_tbl := List.mem_append_right _ (List.mem_append_left _ (List.mem_of_getElem? (i := 190) rfl))
set_option maxRecDepth 20000 in
theorem w311 : Cond.methodLink "java/util/Arrays" 150 arraycopyName ∈ lw_tbl := List.mem_append_right _ (List.mem_append_left _ (List.mem_of_getElem? (i := 193) rfl))
set_option maxRecDepth 20000 in
theorem w314 : Cond.methodLink "java/util/ArrayList" 79 yJ9_max_7cf53 ∈ lw_tbl := List.mem_append_right _ (List.mem_append_left _ (List.mem_of_getElem? (i := 196) rfl))
set_option maxRecDepth 20000 in
theorem w315 : Cond.classLink "java/util/ArrayList" 7 "java/lang/Object" ∈ lw_tbl := List.mem_append_right _ (List.mem_append_left _ (List.mem_of_getElem? (i := 197) rfl))
set_option maxRecDepth 20000 in
theorem w316 : Cond.fieldLink "LetterBroker$Office" 12 "LetterBroker$Office" "exchanges" "Ljava/util/List;" ∈ lw_tbl := List.mem_append_right _ (List.mem_append_left _ (List.mem_of_getElem? (i := 198) rfl))
set_option maxRecDepth 20000 in
theorem w317 : Cond.fieldLink "LetterBroker" 299 "LetterBroker$Office" "exchanges" "Ljava/util/List;" ∈ lw_tbl := List.mem_append_right _ (List.mem_append_left _ (List.mem_of_getElem? (i := 199) rfl))
set_option maxRecDepth 20000 in
theorem w318 : Cond.fieldLink "LetterBroker$Office" 18 "LetterBroker$Office" "queues" "Ljava/util/List;" ∈ lw_tbl := List.mem_append_right _ (List.mem_append_left _ (List.mem_of_getElem? (i := 200) rfl))
set_option maxRecDepth 20000 in
theorem w319 : Cond.fieldLink "LetterBroker" 97 "LetterBroker$Office" "queues" "Ljava/util/List;" ∈ lw_tbl := List.mem_append_right _ (List.mem_append_left _ (List.mem_of_getElem? (i := 201) rfl))
set_option maxRecDepth 20000 in
theorem w320 : Cond.fieldLink "LetterBroker$Office" 21 "LetterBroker$Office" "bindings" "Ljava/util/List;" ∈ lw_tbl := List.mem_append_right _ (List.mem_append_left _ (List.mem_of_getElem? (i := 202) rfl))
set_option maxRecDepth 20000 in
theorem w321 : Cond.fieldLink "LetterBroker" 333 "LetterBroker$Office" "bindings" "Ljava/util/List;" ∈ lw_tbl := List.mem_append_right _ (List.mem_append_left _ (List.mem_of_getElem? (i := 203) rfl))
set_option maxRecDepth 20000 in
theorem w322 : Cond.fieldLink "LetterBroker$Office" 24 "LetterBroker$Office" "consumers" "Ljava/util/List;" ∈ lw_tbl := List.mem_append_right _ (List.mem_append_left _ (List.mem_of_getElem? (i := 204) rfl))
set_option maxRecDepth 20000 in
theorem w323 : Cond.fieldLink "LetterBroker" 351 "LetterBroker$Office" "consumers" "Ljava/util/List;" ∈ lw_tbl := List.mem_append_right _ (List.mem_append_left _ (List.mem_of_getElem? (i := 205) rfl))
set_option maxRecDepth 20000 in
theorem w324 : Cond.fieldLink "LetterBroker$Office" 103 "LetterBroker$Office" "latestNumber" "I" ∈ lw_tbl := List.mem_append_right _ (List.mem_append_left _ (List.mem_of_getElem? (i := 206) rfl))
set_option maxRecDepth 20000 in
theorem w325 : Cond.fieldLink "LetterBroker$Office" 79 "LetterBroker$Office" "latestSerial" "I" ∈ lw_tbl := List.mem_append_right _ (List.mem_append_left _ (List.mem_of_getElem? (i := 207) rfl))
set_option maxRecDepth 20000 in
theorem w339 : Cond.classLink "LetterBroker" 30 "LetterBroker$Channel" ∈ lw_tbl := List.mem_append_right _ (List.mem_append_left _ (List.mem_of_getElem? (i := 221) rfl))
set_option maxRecDepth 20000 in
theorem w342 : Cond.methodLink "LetterBroker" 36 yX1_init ∈ lw_tbl := List.mem_append_right _ (List.mem_append_left _ (List.mem_of_getElem? (i := 224) rfl))
set_option maxRecDepth 20000 in
theorem w343 : Cond.instanceMethod yX1_init ∈ lw_tbl := List.mem_append_right _ (List.mem_append_left _ (List.mem_of_getElem? (i := 225) rfl))
set_option maxRecDepth 20000 in
theorem w344 : Cond.code yX1_init cX1_init 2 none ∈ lw_tbl := List.mem_append_right _ (List.mem_append_left _ (List.mem_of_getElem? (i := 226) rfl))
set_option maxRecDepth 20000 in
theorem w345 : Cond.methodLink "LetterBroker$Channel" 3 Lib.objectInit ∈ lw_tbl := List.mem_append_right _ (List.mem_append_left _ (List.mem_of_getElem? (i := 227) rfl))
set_option maxRecDepth 20000 in
theorem w346 : Cond.classLink "LetterBroker$Channel" 9 "java/util/ArrayList" ∈ lw_tbl := List.mem_append_right _ (List.mem_append_left _ (List.mem_of_getElem? (i := 228) rfl))
set_option maxRecDepth 20000 in
theorem w347 : Cond.methodLink "LetterBroker$Channel" 11 yJx4a65c_init_da8c8 ∈ lw_tbl := List.mem_append_right _ (List.mem_append_left _ (List.mem_of_getElem? (i := 229) rfl))
set_option maxRecDepth 20000 in
theorem w348 : Cond.fieldLink "LetterBroker$Channel" 25 "LetterBroker$Channel" "number" "I" ∈ lw_tbl := List.mem_append_right _ (List.mem_append_left _ (List.mem_of_getElem? (i := 230) rfl))
set_option maxRecDepth 20000 in
theorem w349 : Cond.fieldLink "LetterBroker" 145 "LetterBroker$Channel" "number" "I" ∈ lw_tbl := List.mem_append_right _ (List.mem_append_left _ (List.mem_of_getElem? (i := 231) rfl))
set_option maxRecDepth 20000 in
theorem w350 : Cond.fieldLink "LetterBroker$Channel" 12 "LetterBroker$Channel" "held" "Ljava/util/List;" ∈ lw_tbl := List.mem_append_right _ (List.mem_append_left _ (List.mem_of_getElem? (i := 232) rfl))
set_option maxRecDepth 20000 in
theorem w351 : Cond.fieldLink "LetterBroker$Consumer" 37 "LetterBroker$Channel" "held" "Ljava/util/List;" ∈ lw_tbl := List.mem_append_right _ (List.mem_append_left _ (List.mem_of_getElem? (i := 233) rfl))
set_option maxRecDepth 20000 in
theorem w352 : Cond.fieldLink "LetterBroker" 83 "LetterBroker$Channel" "held" "Ljava/util/List;" ∈ lw_tbl := List.mem_append_right _ (List.mem_append_left _ (List.mem_of_getElem? (i := 234) rfl))
set_option maxRecDepth 20000 in
theorem w353 : Cond.fieldLink "LetterBroker$Channel" 18 "LetterBroker$Channel" "kept" "Ljava/util/List;" ∈ lw_tbl := List.mem_append_right _ (List.mem_append_left _ (List.mem_of_getElem? (i := 235) rfl))
set_option maxRecDepth 20000 in
theorem w354 : Cond.fieldLink "LetterBroker" 94 "LetterBroker$Channel" "kept" "Ljava/util/List;" ∈ lw_tbl := List.mem_append_right _ (List.mem_append_left _ (List.mem_of_getElem? (i := 236) rfl))
set_option maxRecDepth 20000 in
theorem w355 : Cond.fieldLink "LetterBroker$Channel" 21 "LetterBroker$Channel" "state" "I" ∈ lw_tbl := List.mem_append_right _ (List.mem_append_left _ (List.mem_of_getElem? (i := 237) rfl))
set_option maxRecDepth 20000 in
theorem w356 : Cond.fieldLink "LetterBroker" 80 "LetterBroker$Channel" "state" "I" ∈ lw_tbl := List.mem_append_right _ (List.mem_append_left _ (List.mem_of_getElem? (i := 238) rfl))
set_option maxRecDepth 20000 in
theorem w357 : Cond.fieldLink "LetterBroker$Channel" 28 "LetterBroker$Channel" "limit" "I" ∈ lw_tbl := List.mem_append_right _ (List.mem_append_left _ (List.mem_of_getElem? (i := 239) rfl))
set_option maxRecDepth 20000 in
theorem w358 : Cond.fieldLink "LetterBroker$Consumer" 34 "LetterBroker$Channel" "limit" "I" ∈ lw_tbl := List.mem_append_right _ (List.mem_append_right _ (List.mem_append_left _ (List.mem_of_getElem? (i := 0) rfl)))
set_option maxRecDepth 20000 in
theorem w359 : Cond.fieldLink "LetterBroker" 280 "LetterBroker$Channel" "limit" "I" ∈ lw_tbl := List.mem_append_right _ (List.mem_append_right _ (List.mem_append_left _ (List.mem_of_getElem? (i := 1) rfl)))
set_option maxRecDepth 20000 in
theorem w360 : Cond.fieldLink "LetterBroker$Consumer" 29 "LetterBroker$Channel" "flowing" "Z" ∈ lw_tbl := List.mem_append_right _ (List.mem_append_right _ (List.mem_append_left _ (List.mem_of_getElem? (i := 2) rfl)))
set_option maxRecDepth 20000 in
theorem w361 : Cond.fieldLink "LetterBroker$Channel" 31 "LetterBroker$Channel" "flowing" "Z" ∈ lw_tbl := List.mem_append_right _ (List.mem_append_right _ (List.mem_append_left _ (List.mem_of_getElem? (i := 3) rfl)))
set_option maxRecDepth 20000 in
theorem w362 : Cond.fieldLink "LetterBroker" 268 "LetterBroker$Channel" "flowing" "Z" ∈ lw_tbl := List.mem_append_right _ (List.mem_append_right _ (List.mem_append_left _ (List.mem_of_getElem? (i := 4) rfl)))
set_option maxRecDepth 20000 in
theorem w363 : Cond.fieldLink "LetterBroker$Channel" 82 "LetterBroker$Channel" "transacted" "Z" ∈ lw_tbl := List.mem_append_right _ (List.mem_append_right _ (List.mem_append_left _ (List.mem_of_getElem? (i := 5) rfl)))
set_option maxRecDepth 20000 in
theorem w364 : Cond.fieldLink "LetterBroker" 373 "LetterBroker$Channel" "transacted" "Z" ∈ lw_tbl := List.mem_append_right _ (List.mem_append_right _ (List.mem_append_left _ (List.mem_of_getElem? (i := 6) rfl)))
set_option maxRecDepth 20000 in
theorem w365 : Cond.fieldLink "LetterBroker$Channel" 35 "LetterBroker$Channel" "delivered" "I" ∈ lw_tbl := List.mem_append_right _ (List.mem_append_right _ (List.mem_append_left _ (List.mem_of_getElem? (i := 7) rfl)))
set_option maxRecDepth 20000 in
theorem w366 : Cond.fieldLink "LetterBroker" 91 "LetterBroker$Channel" "delivered" "I" ∈ lw_tbl := List.mem_append_right _ (List.mem_append_right _ (List.mem_append_left _ (List.mem_of_getElem? (i := 8) rfl)))
set_option maxRecDepth 20000 in
theorem w367 : Cond.fieldLink "LetterBroker$Channel" 85 "LetterBroker$Channel" "draft" "LLetterBroker$Draft;" ∈ lw_tbl := List.mem_append_right _ (List.mem_append_right _ (List.mem_append_left _ (List.mem_of_getElem? (i := 9) rfl)))
set_option maxRecDepth 20000 in
theorem w368 : Cond.fieldLink "LetterBroker" 170 "LetterBroker$Channel" "draft" "LLetterBroker$Draft;" ∈ lw_tbl := List.mem_append_right _ (List.mem_append_right _ (List.mem_append_left _ (List.mem_of_getElem? (i := 10) rfl)))
set_option maxRecDepth 20000 in
theorem w388 : Cond.fieldLink "LetterBroker" 10 "LetterBroker" "inbox" "LLetterBroker$Inbox;" ∈ lw_tbl := List.mem_append_right _ (List.mem_append_right _ (List.mem_append_left _ (List.mem_of_getElem? (i := 30) rfl)))
set_option maxRecDepth 20000 in
theorem w389 : Cond.fieldLink "LetterBroker" 19 "LetterBroker" "outbox" "LLetterBroker$Outbox;" ∈ lw_tbl := List.mem_append_right _ (List.mem_append_right _ (List.mem_append_left _ (List.mem_of_getElem? (i := 31) rfl)))
set_option maxRecDepth 20000 in
theorem w390 : Cond.fieldLink "LetterBroker" 26 "LetterBroker" "office" "LLetterBroker$Office;" ∈ lw_tbl := List.mem_append_right _ (List.mem_append_right _ (List.mem_append_left _ (List.mem_of_getElem? (i := 32) rfl)))
set_option maxRecDepth 20000 in
theorem w391 : Cond.fieldLink "LetterBroker" 32 "LetterBroker" "channels" "[LLetterBroker$Channel;" ∈ lw_tbl := List.mem_append_right _ (List.mem_append_right _ (List.mem_append_left _ (List.mem_of_getElem? (i := 33) rfl)))
set_option maxRecDepth 20000 in
theorem w392 : Cond.fieldLink "LetterBroker" 39 "LetterBroker" "lineState" "I" ∈ lw_tbl := List.mem_append_right _ (List.mem_append_right _ (List.mem_append_left _ (List.mem_of_getElem? (i := 34) rfl)))
set_option maxRecDepth 20000 in
theorem w404 : Cond.methodLink "LetterBrokerLaw" 15 yX11_send ∈ lw_tbl := List.mem_append_right _ (List.mem_append_right _ (List.mem_append_left _ (List.mem_of_getElem? (i := 46) rfl)))
set_option maxRecDepth 20000 in
theorem w405 : Cond.instanceMethod yX11_send ∈ lw_tbl := List.mem_append_right _ (List.mem_append_right _ (List.mem_append_left _ (List.mem_of_getElem? (i := 47) rfl)))
set_option maxRecDepth 20000 in
theorem w406 : Cond.selects "LetterBroker" yX11_send yX11_send ∈ lw_tbl := List.mem_append_right _ (List.mem_append_right _ (List.mem_append_left _ (List.mem_of_getElem? (i := 48) rfl)))
set_option maxRecDepth 20000 in
theorem w407 : Cond.code yX11_send cX11_send 4 (some .int) ∈ lw_tbl := List.mem_append_right _ (List.mem_append_right _ (List.mem_append_left _ (List.mem_of_getElem? (i := 49) rfl)))
set_option maxRecDepth 20000 in
theorem w408 : Cond.methodLink "LetterBroker" 46 yX6_add ∈ lw_tbl := List.mem_append_right _ (List.mem_append_right _ (List.mem_append_left _ (List.mem_of_getElem? (i := 50) rfl)))
set_option maxRecDepth 20000 in
theorem w409 : Cond.instanceMethod yX6_add ∈ lw_tbl := List.mem_append_right _ (List.mem_append_right _ (List.mem_append_left _ (List.mem_of_getElem? (i := 51) rfl)))
set_option maxRecDepth 20000 in
theorem w410 : Cond.selects "LetterBroker$Inbox" yX6_add yX6_add ∈ lw_tbl := List.mem_append_right _ (List.mem_append_right _ (List.mem_append_left _ (List.mem_of_getElem? (i := 52) rfl)))
set_option maxRecDepth 20000 in
theorem w411 : Cond.code yX6_add cX6_add 5 none ∈ lw_tbl := List.mem_append_right _ (List.mem_append_right _ (List.mem_append_left _ (List.mem_of_getElem? (i := 53) rfl)))
set_option maxRecDepth 20000 in
theorem w412 : Cond.methodLink "LetterBrokerLaw" 20 yX11_step ∈ lw_tbl := List.mem_append_right _ (List.mem_append_right _ (List.mem_append_left _ (List.mem_of_getElem? (i := 54) rfl)))
set_option maxRecDepth 20000 in
theorem w413 : Cond.instanceMethod yX11_step ∈ lw_tbl := List.mem_append_right _ (List.mem_append_right _ (List.mem_append_left _ (List.mem_of_getElem? (i := 55) rfl)))
set_option maxRecDepth 20000 in
theorem w414 : Cond.selects "LetterBroker" yX11_step yX11_step ∈ lw_tbl := List.mem_append_right _ (List.mem_append_right _ (List.mem_append_left _ (List.mem_of_getElem? (i := 56) rfl)))
set_option maxRecDepth 20000 in
theorem w415 : Cond.code yX11_step cX11_step 3 (some .int) ∈ lw_tbl := List.mem_append_right _ (List.mem_append_right _ (List.mem_append_left _ (List.mem_of_getElem? (i := 57) rfl)))
set_option maxRecDepth 20000 in
theorem w416 : Cond.methodLink "LetterBroker" 51 yX6_lookForGreeting ∈ lw_tbl := List.mem_append_right _ (List.mem_append_right _ (List.mem_append_left _ (List.mem_of_getElem? (i := 58) rfl)))
set_option maxRecDepth 20000 in
theorem w417 : Cond.instanceMethod yX6_lookForGreeting ∈ lw_tbl := List.mem_append_right _ (List.mem_append_right _ (List.mem_append_left _ (List.mem_of_getElem? (i := 59) rfl)))
set_option maxRecDepth 20000 in
theorem w418 : Cond.selects "LetterBroker$Inbox" yX6_lookForGreeting yX6_lookForGreeting ∈ lw_tbl := List.mem_append_right _ (List.mem_append_right _ (List.mem_append_left _ (List.mem_of_getElem? (i := 60) rfl)))
set_option maxRecDepth 20000 in
theorem w419 : Cond.code yX6_lookForGreeting cX6_lookForGreeting 2 (some .int) ∈ lw_tbl := List.mem_append_right _ (List.mem_append_right _ (List.mem_append_left _ (List.mem_of_getElem? (i := 61) rfl)))
set_option maxRecDepth 20000 in
theorem w420 : Cond.fieldLinkNest "LetterBroker$Inbox" 19 "LetterBroker" "GREETING" "[I" "LetterBroker" ∈ lw_tbl := List.mem_append_right _ (List.mem_append_right _ (List.mem_append_left _ (List.mem_of_getElem? (i := 62) rfl)))
set_option maxRecDepth 20000 in
theorem w422 : Cond.methodLink "LetterBroker" 55 yX6_lookForFrame ∈ lw_tbl := List.mem_append_right _ (List.mem_append_right _ (List.mem_append_left _ (List.mem_of_getElem? (i := 64) rfl)))
set_option maxRecDepth 20000 in
theorem w423 : Cond.instanceMethod yX6_lookForFrame ∈ lw_tbl := List.mem_append_right _ (List.mem_append_right _ (List.mem_append_left _ (List.mem_of_getElem? (i := 65) rfl)))
set_option maxRecDepth 20000 in
theorem w424 : Cond.selects "LetterBroker$Inbox" yX6_lookForFrame yX6_lookForFrame ∈ lw_tbl := List.mem_append_right _ (List.mem_append_right _ (List.mem_append_left _ (List.mem_of_getElem? (i := 66) rfl)))
set_option maxRecDepth 20000 in
theorem w425 : Cond.code yX6_lookForFrame cX6_lookForFrame 1 (some .int) ∈ lw_tbl := List.mem_append_right _ (List.mem_append_right _ (List.mem_append_left _ (List.mem_of_getElem? (i := 67) rfl)))
set_option maxRecDepth 20000 in
theorem w426 : Cond.methodLink "LetterBroker" 58 yX11_greet ∈ lw_tbl := List.mem_append_right _ (List.mem_append_right _ (List.mem_append_left _ (List.mem_of_getElem? (i := 68) rfl)))
set_option maxRecDepth 20000 in
theorem w428 : Cond.instanceMethod yX11_greet ∈ lw_tbl := List.mem_append_right _ (List.mem_append_right _ (List.mem_append_left _ (List.mem_of_getElem? (i := 70) rfl)))
set_option maxRecDepth 20000 in
theorem w429 : Cond.code yX11_greet cX11_greet 1 (some .int) ∈ lw_tbl := List.mem_append_right _ (List.mem_append_right _ (List.mem_append_left _ (List.mem_of_getElem? (i := 71) rfl)))
set_option maxRecDepth 20000 in
theorem w430 : Cond.methodLink "LetterBroker" 125 yX9_tell ∈ lw_tbl := List.mem_append_right _ (List.mem_append_right _ (List.mem_append_left _ (List.mem_of_getElem? (i := 72) rfl)))
set_option maxRecDepth 20000 in
theorem w431 : Cond.instanceMethod yX9_tell ∈ lw_tbl := List.mem_append_right _ (List.mem_append_right _ (List.mem_append_left _ (List.mem_of_getElem? (i := 73) rfl)))
set_option maxRecDepth 20000 in
theorem w432 : Cond.selects "LetterBroker$Outbox" yX9_tell yX9_tell ∈ lw_tbl := List.mem_append_right _ (List.mem_append_right _ (List.mem_append_left _ (List.mem_of_getElem? (i := 74) rfl)))
set_option maxRecDepth 20000 in
theorem w433 : Cond.code yX9_tell cX9_tell 3 none ∈ lw_tbl := List.mem_append_right _ (List.mem_append_right _ (List.mem_append_left _ (List.mem_of_getElem? (i := 75) rfl)))
set_option maxRecDepth 20000 in
theorem w434 : Cond.methodLink "LetterBroker$Outbox" 32 yX9_begin ∈ lw_tbl := List.mem_append_right _ (List.mem_append_right _ (List.mem_append_left _ (List.mem_of_getElem? (i := 76) rfl)))
set_option maxRecDepth 20000 in
theorem w435 : Cond.instanceMethod yX9_begin ∈ lw_tbl := List.mem_append_right _ (List.mem_append_right _ (List.mem_append_left _ (List.mem_of_getElem? (i := 77) rfl)))
set_option maxRecDepth 20000 in
theorem w436 : Cond.selects "LetterBroker$Outbox" yX9_begin yX9_begin ∈ lw_tbl := List.mem_append_right _ (List.mem_append_right _ (List.mem_append_left _ (List.mem_of_getElem? (i := 78) rfl)))
set_option maxRecDepth 20000 in
theorem w437 : Cond.code yX9_begin cX9_begin 3 none ∈ lw_tbl := List.mem_append_right _ (List.mem_append_right _ (List.mem_append_left _ (List.mem_of_getElem? (i := 79) rfl)))
set_option maxRecDepth 20000 in
theorem w438 : Cond.methodLink "LetterBroker$Outbox" 22 yX9_put ∈ lw_tbl := List.mem_append_right _ (List.mem_append_right _ (List.mem_append_left _ (List.mem_of_getElem? (i := 80) rfl)))
set_option maxRecDepth 20000 in
theorem w439 : Cond.instanceMethod yX9_put ∈ lw_tbl := List.mem_append_right _ (List.mem_append_right _ (List.mem_append_left _ (List.mem_of_getElem? (i := 81) rfl)))
set_option maxRecDepth 20000 in
theorem w440 : Cond.selects "LetterBroker$Outbox" yX9_put yX9_put ∈ lw_tbl := List.mem_append_right _ (List.mem_append_right _ (List.mem_append_left _ (List.mem_of_getElem? (i := 82) rfl)))
set_option maxRecDepth 20000 in
theorem w441 : Cond.code yX9_put cX9_put 2 none ∈ lw_tbl := List.mem_append_right _ (List.mem_append_right _ (List.mem_append_left _ (List.mem_of_getElem? (i := 83) rfl)))
set_option maxRecDepth 20000 in
theorem w442 : Cond.methodLink "LetterBroker$Outbox" 36 yX9_end ∈ lw_tbl := List.mem_append_right _ (List.mem_append_right _ (List.mem_append_left _ (List.mem_of_getElem? (i := 84) rfl)))
set_option maxRecDepth 20000 in
theorem w443 : Cond.instanceMethod yX9_end ∈ lw_tbl := List.mem_append_right _ (List.mem_append_right _ (List.mem_append_left _ (List.mem_of_getElem? (i := 85) rfl)))
set_option maxRecDepth 20000 in
theorem w444 : Cond.selects "LetterBroker$Outbox" yX9_end yX9_end ∈ lw_tbl := List.mem_append_right _ (List.mem_append_right _ (List.mem_append_left _ (List.mem_of_getElem? (i := 86) rfl)))
set_option maxRecDepth 20000 in
theorem w445 : Cond.code yX9_end cX9_end 1 none ∈ lw_tbl := List.mem_append_right _ (List.mem_append_right _ (List.mem_append_left _ (List.mem_of_getElem? (i := 87) rfl)))
set_option maxRecDepth 20000 in
theorem w446 : Cond.methodLink "LetterBroker" 61 yX11_handleFrame ∈ lw_tbl := List.mem_append_right _ (List.mem_append_right _ (List.mem_append_left _ (List.mem_of_getElem? (i := 88) rfl)))
set_option maxRecDepth 20000 in
theorem w448 : Cond.instanceMethod yX11_handleFrame ∈ lw_tbl := List.mem_append_right _ (List.mem_append_right _ (List.mem_append_left _ (List.mem_of_getElem? (i := 90) rfl)))
set_option maxRecDepth 20000 in
theorem w449 : Cond.code yX11_handleFrame cX11_handleFrame 5 (some .int) ∈ lw_tbl := List.mem_append_right _ (List.mem_append_right _ (List.mem_append_left _ (List.mem_of_getElem? (i := 91) rfl)))
set_option maxRecDepth 20000 in
theorem w450 : Cond.methodLink "LetterBroker" 163 yX6_frameKind ∈ lw_tbl := List.mem_append_right _ (List.mem_append_right _ (List.mem_append_left _ (List.mem_of_getElem? (i := 92) rfl)))
set_option maxRecDepth 20000 in
theorem w451 : Cond.instanceMethod yX6_frameKind ∈ lw_tbl := List.mem_append_right _ (List.mem_append_right _ (List.mem_append_left _ (List.mem_of_getElem? (i := 93) rfl)))
set_option maxRecDepth 20000 in
theorem w452 : Cond.selects "LetterBroker$Inbox" yX6_frameKind yX6_frameKind ∈ lw_tbl := List.mem_append_right _ (List.mem_append_right _ (List.mem_append_left _ (List.mem_of_getElem? (i := 94) rfl)))
set_option maxRecDepth 20000 in
theorem w453 : Cond.code yX6_frameKind cX6_frameKind 1 (some .int) ∈ lw_tbl := List.mem_append_right _ (List.mem_append_right _ (List.mem_append_left _ (List.mem_of_getElem? (i := 95) rfl)))
set_option maxRecDepth 20000 in
theorem w454 : Cond.methodLink "LetterBroker" 138 yX6_frameChannel ∈ lw_tbl := List.mem_append_right _ (List.mem_append_right _ (List.mem_append_left _ (List.mem_of_getElem? (i := 96) rfl)))
set_option maxRecDepth 20000 in
theorem w455 : Cond.instanceMethod yX6_frameChannel ∈ lw_tbl := List.mem_append_right _ (List.mem_append_right _ (List.mem_append_left _ (List.mem_of_getElem? (i := 97) rfl)))
set_option maxRecDepth 20000 in
theorem w456 : Cond.selects "LetterBroker$Inbox" yX6_frameChannel yX6_frameChannel ∈ lw_tbl := List.mem_append_right _ (List.mem_append_right _ (List.mem_append_left _ (List.mem_of_getElem? (i := 98) rfl)))
set_option maxRecDepth 20000 in
theorem w457 : Cond.code yX6_frameChannel cX6_frameChannel 1 (some .int) ∈ lw_tbl := List.mem_append_right _ (List.mem_append_right _ (List.mem_append_left _ (List.mem_of_getElem? (i := 99) rfl)))
set_option maxRecDepth 20000 in
theorem w458 : Cond.methodLink "LetterBroker" 76 yX11_channelNumbered ∈ lw_tbl := List.mem_append_right _ (List.mem_append_right _ (List.mem_append_left _ (List.mem_of_getElem? (i := 100) rfl)))
set_option maxRecDepth 20000 in
theorem w460 : Cond.instanceMethod yX11_channelNumbered ∈ lw_tbl := List.mem_append_right _ (List.mem_append_right _ (List.mem_append_left _ (List.mem_of_getElem? (i := 102) rfl)))
set_option maxRecDepth 20000 in
theorem w461 : Cond.code yX11_channelNumbered cX11_channelNumbered 2 (some (.object "LetterBroker$Channel")) ∈ lw_tbl := List.mem_append_right _ (List.mem_append_right _ (List.mem_append_left _ (List.mem_of_getElem? (i := 103) rfl)))
set_option maxRecDepth 20000 in
theorem w462 : Cond.methodLink "LetterBroker" 166 yX11_handleOnLost ∈ lw_tbl := List.mem_append_right _ (List.mem_append_right _ (List.mem_append_left _ (List.mem_of_getElem? (i := 104) rfl)))
set_option maxRecDepth 20000 in
theorem w464 : Cond.instanceMethod yX11_handleOnLost ∈ lw_tbl := List.mem_append_right _ (List.mem_append_right _ (List.mem_append_left _ (List.mem_of_getElem? (i := 106) rfl)))
set_option maxRecDepth 20000 in
theorem w465 : Cond.code yX11_handleOnLost cX11_handleOnLost 3 (some .int) ∈ lw_tbl := List.mem_append_right _ (List.mem_append_right _ (List.mem_append_left _ (List.mem_of_getElem? (i := 107) rfl)))
set_option maxRecDepth 20000 in
theorem w466 : Cond.methodLink "LetterBroker" 189 yX6_readShort ∈ lw_tbl := List.mem_append_right _ (List.mem_append_right _ (List.mem_append_left _ (List.mem_of_getElem? (i := 108) rfl)))
set_option maxRecDepth 20000 in
theorem w467 : Cond.instanceMethod yX6_readShort ∈ lw_tbl := List.mem_append_right _ (List.mem_append_right _ (List.mem_append_left _ (List.mem_of_getElem? (i := 109) rfl)))
set_option maxRecDepth 20000 in
theorem w468 : Cond.selects "LetterBroker$Inbox" yX6_readShort yX6_readShort ∈ lw_tbl := List.mem_append_right _ (List.mem_append_right _ (List.mem_append_left _ (List.mem_of_getElem? (i := 110) rfl)))
set_option maxRecDepth 20000 in
theorem w469 : Cond.code yX6_readShort cX6_readShort 2 (some .int) ∈ lw_tbl := List.mem_append_right _ (List.mem_append_right _ (List.mem_append_left _ (List.mem_of_getElem? (i := 111) rfl)))
set_option maxRecDepth 20000 in
theorem w470 : Cond.methodLink "LetterBroker$Inbox" 35 yX6_readByte ∈ lw_tbl := List.mem_append_right _ (List.mem_append_right _ (List.mem_append_left _ (List.mem_of_getElem? (i := 112) rfl)))
set_option maxRecDepth 20000 in
theorem w471 : Cond.instanceMethod yX6_readByte ∈ lw_tbl := List.mem_append_right _ (List.mem_append_right _ (List.mem_append_left _ (List.mem_of_getElem? (i := 113) rfl)))
set_option maxRecDepth 20000 in
theorem w472 : Cond.selects "LetterBroker$Inbox" yX6_readByte yX6_readByte ∈ lw_tbl := List.mem_append_right _ (List.mem_append_right _ (List.mem_append_left _ (List.mem_of_getElem? (i := 114) rfl)))
set_option maxRecDepth 20000 in
theorem w473 : Cond.code yX6_readByte cX6_readByte 1 (some .int) ∈ lw_tbl := List.mem_append_right _ (List.mem_append_right _ (List.mem_append_left _ (List.mem_of_getElem? (i := 115) rfl)))
set_option maxRecDepth 20000 in
theorem w474 : Cond.methodLink "LetterBroker" 132 yX6_isJustRead ∈ lw_tbl := List.mem_append_right _ (List.mem_append_right _ (List.mem_append_left _ (List.mem_of_getElem? (i := 116) rfl)))
set_option maxRecDepth 20000 in
theorem w475 : Cond.instanceMethod yX6_isJustRead ∈ lw_tbl := List.mem_append_right _ (List.mem_append_right _ (List.mem_append_left _ (List.mem_of_getElem? (i := 117) rfl)))
set_option maxRecDepth 20000 in
theorem w476 : Cond.selects "LetterBroker$Inbox" yX6_isJustRead yX6_isJustRead ∈ lw_tbl := List.mem_append_right _ (List.mem_append_right _ (List.mem_append_left _ (List.mem_of_getElem? (i := 118) rfl)))
set_option maxRecDepth 20000 in
theorem w477 : Cond.code yX6_isJustRead cX6_isJustRead 1 (some .boolean) ∈ lw_tbl := List.mem_append_right _ (List.mem_append_right _ (List.mem_append_left _ (List.mem_of_getElem? (i := 119) rfl)))
set_option maxRecDepth 20000 in
theorem w478 : Cond.methodLink "LetterBroker" 174 yX4_due ∈ lw_tbl := List.mem_append_right _ (List.mem_append_right _ (List.mem_append_left _ (List.mem_of_getElem? (i := 120) rfl)))
set_option maxRecDepth 20000 in
theorem w479 : Cond.instanceMethod yX4_due ∈ lw_tbl := List.mem_append_right _ (List.mem_append_right _ (List.mem_append_left _ (List.mem_of_getElem? (i := 121) rfl)))
set_option maxRecDepth 20000 in
theorem w480 : Cond.selects "LetterBroker$Draft" yX4_due yX4_due ∈ lw_tbl := List.mem_append_right _ (List.mem_append_right _ (List.mem_append_left _ (List.mem_of_getElem? (i := 122) rfl)))
set_option maxRecDepth 20000 in
theorem w481 : Cond.code yX4_due cX4_due 1 (some .int) ∈ lw_tbl := List.mem_append_right _ (List.mem_append_right _ (List.mem_append_left _ (List.mem_of_getElem? (i := 123) rfl)))
set_option maxRecDepth 20000 in
theorem w482 : Cond.methodLink "LetterBroker" 179 yX11_takeHead ∈ lw_tbl := List.mem_append_right _ (List.mem_append_right _ (List.mem_append_left _ (List.mem_of_getElem? (i := 124) rfl)))
set_option maxRecDepth 20000 in
theorem w484 : Cond.instanceMethod yX11_takeHead ∈ lw_tbl := List.mem_append_right _ (List.mem_append_right _ (List.mem_append_left _ (List.mem_of_getElem? (i := 126) rfl)))
set_option maxRecDepth 20000 in
theorem w485 : Cond.code yX11_takeHead cX11_takeHead 4 (some .int) ∈ lw_tbl := List.mem_append_right _ (List.mem_append_right _ (List.mem_append_left _ (List.mem_of_getElem? (i := 127) rfl)))
set_option maxRecDepth 20000 in
theorem w486 : Cond.methodLink "LetterBroker" 265 yX6_readByte ∈ lw_tbl := List.mem_append_right _ (List.mem_append_right _ (List.mem_append_left _ (List.mem_of_getElem? (i := 128) rfl)))
set_option maxRecDepth 20000 in
theorem w487 : Cond.methodLink "LetterBroker" 364 yX11_complete ∈ lw_tbl := List.mem_append_right _ (List.mem_append_right _ (List.mem_append_left _ (List.mem_of_getElem? (i := 129) rfl)))
set_option maxRecDepth 20000 in
theorem w489 : Cond.instanceMethod yX11_complete ∈ lw_tbl := List.mem_append_right _ (List.mem_append_right _ (List.mem_append_left _ (List.mem_of_getElem? (i := 131) rfl)))
set_option maxRecDepth 20000 in
theorem w490 : Cond.code yX11_complete cX11_complete 3 (some .int) ∈ lw_tbl := List.mem_append_right _ (List.mem_append_right _ (List.mem_append_left _ (List.mem_of_getElem? (i := 132) rfl)))
set_option maxRecDepth 20000 in
theorem w491 : Cond.classLink "LetterBroker" 376 "LetterBroker$Deed" ∈ lw_tbl := List.mem_append_right _ (List.mem_append_right _ (List.mem_append_left _ (List.mem_of_getElem? (i := 133) rfl)))
set_option maxRecDepth 20000 in
theorem w493 : Cond.methodLink "LetterBroker" 378 yX3_init ∈ lw_tbl := List.mem_append_right _ (List.mem_append_right _ (List.mem_append_left _ (List.mem_of_getElem? (i := 135) rfl)))
set_option maxRecDepth 20000 in
theorem w494 : Cond.instanceMethod yX3_init ∈ lw_tbl := List.mem_append_right _ (List.mem_append_right _ (List.mem_append_left _ (List.mem_of_getElem? (i := 136) rfl)))
set_option maxRecDepth 20000 in
theorem w495 : Cond.code yX3_init cX3_init 2 none ∈ lw_tbl := List.mem_append_right _ (List.mem_append_right _ (List.mem_append_left _ (List.mem_of_getElem? (i := 137) rfl)))
set_option maxRecDepth 20000 in
theorem w496 : Cond.methodLink "LetterBroker$Deed" 1 Lib.objectInit ∈ lw_tbl := List.mem_append_right _ (List.mem_append_right _ (List.mem_append_left _ (List.mem_of_getElem? (i := 138) rfl)))
set_option maxRecDepth 20000 in
theorem w497 : Cond.fieldLink "LetterBroker$Deed" 7 "LetterBroker$Deed" "draft" "LLetterBroker$Draft;" ∈ lw_tbl := List.mem_append_right _ (List.mem_append_right _ (List.mem_append_left _ (List.mem_of_getElem? (i := 139) rfl)))
set_option maxRecDepth 20000 in
theorem w498 : Cond.fieldLink "LetterBroker" 480 "LetterBroker$Deed" "draft" "LLetterBroker$Draft;" ∈ lw_tbl := List.mem_append_right _ (List.mem_append_right _ (List.mem_append_left _ (List.mem_of_getElem? (i := 140) rfl)))
set_option maxRecDepth 20000 in
theorem w499 : Cond.fieldLink "LetterBroker$Deed" 13 "LetterBroker$Deed" "n" "I" ∈ lw_tbl := List.mem_append_right _ (List.mem_append_right _ (List.mem_append_left _ (List.mem_of_getElem? (i := 141) rfl)))
set_option maxRecDepth 20000 in
theorem w500 : Cond.fieldLink "LetterBroker$Deed" 17 "LetterBroker$Deed" "upTo" "Z" ∈ lw_tbl := List.mem_append_right _ (List.mem_append_right _ (List.mem_append_left _ (List.mem_of_getElem? (i := 142) rfl)))
set_option maxRecDepth 20000 in
theorem w501 : Cond.fieldLink "LetterBroker$Deed" 21 "LetterBroker$Deed" "back" "Z" ∈ lw_tbl := List.mem_append_right _ (List.mem_append_right _ (List.mem_append_left _ (List.mem_of_getElem? (i := 143) rfl)))
set_option maxRecDepth 20000 in
theorem w502 : Cond.fieldLink "LetterBroker$Channel" 66 "LetterBroker$Deed" "back" "Z" ∈ lw_tbl := List.mem_append_right _ (List.mem_append_right _ (List.mem_append_left _ (List.mem_of_getElem? (i := 144) rfl)))
set_option maxRecDepth 20000 in
theorem w512 : Cond.methodLink "LetterBroker" 381 yX11_keep ∈ lw_tbl := List.mem_append_right _ (List.mem_append_right _ (List.mem_append_left _ (List.mem_of_getElem? (i := 154) rfl)))
set_option maxRecDepth 20000 in
theorem w514 : Cond.instanceMethod yX11_keep ∈ lw_tbl := List.mem_append_right _ (List.mem_append_right _ (List.mem_append_left _ (List.mem_of_getElem? (i := 156) rfl)))
set_option maxRecDepth 20000 in
theorem w515 : Cond.code yX11_keep cX11_keep 3 (some .int) ∈ lw_tbl := List.mem_append_right _ (List.mem_append_right _ (List.mem_append_left _ (List.mem_of_getElem? (i := 157) rfl)))
set_option maxRecDepth 20000 in
theorem w517 : Cond.methodLink "LetterBroker" 87 ⟨"java/util/List", "size", "()I"⟩ ∈ lw_tbl := List.mem_append_right _ (List.mem_append_right _ (List.mem_append_left _ (List.mem_of_getElem? (i := 159) rfl)))
set_option maxRecDepth 20000 in
theorem w520 : Cond.selects "java/util/ArrayList" ⟨"java/util/List", "size", "()I"⟩ yJx4a65c_size_8abf5 ∈ lw_tbl := List.mem_append_right _ (List.mem_append_right _ (List.mem_append_left _ (List.mem_of_getElem? (i := 162) rfl)))
set_option maxRecDepth 20000 in
theorem w522 : Cond.instanceMethod yJx4a65c_size_8abf5 ∈ lw_tbl := List.mem_append_right _ (List.mem_append_right _ (List.mem_append_left _ (List.mem_of_getElem? (i := 164) rfl)))
set_option maxRecDepth 20000 in
theorem w524 : Cond.code yJx4a65c_size_8abf5 cJx4a65c_size_8abf5 1 (some .int) ∈ lw_tbl := List.mem_append_right _ (List.mem_append_right _ (List.mem_append_left _ (List.mem_of_getElem? (i := 166) rfl)))
set_option maxRecDepth 20000 in
theorem w526 : Cond.methodLink "LetterBroker" 304 ⟨"java/util/List", "add", "(Ljava/lang/Object;)Z"⟩ ∈ lw_tbl := List.mem_append_right _ (List.mem_append_right _ (List.mem_append_left _ (List.mem_of_getElem? (i := 168) rfl)))
set_option maxRecDepth 20000 in
theorem w527 : Cond.methodLink "LetterBroker" 385 yX11_post ∈ lw_tbl := List.mem_append_right _ (List.mem_append_right _ (List.mem_append_left _ (List.mem_of_getElem? (i := 169) rfl)))
set_option maxRecDepth 20000 in
theorem w529 : Cond.instanceMethod yX11_post ∈ lw_tbl := List.mem_append_right _ (List.mem_append_right _ (List.mem_append_left _ (List.mem_of_getElem? (i := 171) rfl)))
set_option maxRecDepth 20000 in
theorem w530 : Cond.code yX11_post cX11_post 4 (some .int) ∈ lw_tbl := List.mem_append_right _ (List.mem_append_right _ (List.mem_append_left _ (List.mem_of_getElem? (i := 172) rfl)))
set_option maxRecDepth 20000 in
theorem w531 : Cond.methodLink "LetterBroker" 388 yX8_placesReachedBy ∈ lw_tbl := List.mem_append_right _ (List.mem_append_right _ (List.mem_append_left _ (List.mem_of_getElem? (i := 173) rfl)))
set_option maxRecDepth 20000 in
theorem w532 : Cond.instanceMethod yX8_placesReachedBy ∈ lw_tbl := List.mem_append_right _ (List.mem_append_right _ (List.mem_append_left _ (List.mem_of_getElem? (i := 174) rfl)))
set_option maxRecDepth 20000 in
theorem w533 : Cond.selects "LetterBroker$Office" yX8_placesReachedBy yX8_placesReachedBy ∈ lw_tbl := List.mem_append_right _ (List.mem_append_right _ (List.mem_append_left _ (List.mem_of_getElem? (i := 175) rfl)))
set_option maxRecDepth 20000 in
theorem w534 : Cond.code yX8_placesReachedBy cX8_placesReachedBy 4 (some .int) ∈ lw_tbl := List.mem_append_right _ (List.mem_append_right _ (List.mem_append_left _ (List.mem_of_getElem? (i := 176) rfl)))
set_option maxRecDepth 20000 in
theorem w536 : Cond.methodLink "LetterBroker$Office" 38 ⟨"java/util/List", "size", "()I"⟩ ∈ lw_tbl := List.mem_append_right _ (List.mem_append_right _ (List.mem_append_left _ (List.mem_of_getElem? (i := 178) rfl)))
set_option maxRecDepth 20000 in
theorem w538 : Cond.methodLink "LetterBroker$Office" 42 ⟨"java/util/List", "get", "(I)Ljava/lang/Object;"⟩ ∈ lw_tbl := List.mem_append_right _ (List.mem_append_right _ (List.mem_append_left _ (List.mem_of_getElem? (i := 180) rfl)))
set_option maxRecDepth 20000 in
theorem w541 : Cond.selects "java/util/ArrayList" ⟨"java/util/List", "get", "(I)Ljava/lang/Object;"⟩ yJx4a65c_get_915e3 ∈ lw_tbl := List.mem_append_right _ (List.mem_append_right _ (List.mem_append_left _ (List.mem_of_getElem? (i := 183) rfl)))
set_option maxRecDepth 20000 in
theorem w543 : Cond.instanceMethod yJx4a65c_get_915e3 ∈ lw_tbl := List.mem_append_right _ (List.mem_append_right _ (List.mem_append_left _ (List.mem_of_getElem? (i := 185) rfl)))
set_option maxRecDepth 20000 in
theorem w545 : Cond.code yJx4a65c_get_915e3 cJx4a65c_get_915e3 2 (some (.object "java/lang/Object")) ∈ lw_tbl := List.mem_append_right _ (List.mem_append_right _ (List.mem_append_left _ (List.mem_of_getElem? (i := 187) rfl)))
set_option maxRecDepth 20000 in
theorem w546 : Cond.methodLink "java/util/ArrayList" 118 yJ15_checkIndex_7cf53 ∈ lw_tbl := List.mem_append_right _ (List.mem_append_right _ (List.mem_append_left _ (List.mem_of_getElem? (i := 188) rfl)))
set_option maxRecDepth 20000 in
theorem w547 : Cond.static yJ15_checkIndex_7cf53 ∈ lw_tbl := List.mem_append_right _ (List.mem_append_right _ (List.mem_append_left _ (List.mem_of_getElem? (i := 189) rfl)))
set_option maxRecDepth 20000 in
theorem w548 : Cond.code yJ15_checkIndex_7cf53 cJ15_checkIndex_7cf53 2 (some .int) ∈ lw_tbl := List.mem_append_right _ (List.mem_append_right _ (List.mem_append_left _ (List.mem_of_getElem? (i := 190) rfl)))
set_option maxRecDepth 20000 in
theorem w549 : Cond.methodLink "java/util/Objects" 105 yJ3_checkIndex_8e157 ∈ lw_tbl := List.mem_append_right _ (List.mem_append_right _ (List.mem_append_left _ (List.mem_of_getElem? (i := 191) rfl)))
set_option maxRecDepth 20000 in
theorem w550 : Cond.static yJ3_checkIndex_8e157 ∈ lw_tbl := List.mem_append_right _ (List.mem_append_right _ (List.mem_append_left _ (List.mem_of_getElem? (i := 192) rfl)))
set_option maxRecDepth 20000 in
theorem w551 : Cond.code yJ3_checkIndex_8e157 cJ3_checkIndex_8e157 3 (some .int) ∈ lw_tbl := List.mem_append_right _ (List.mem_append_right _ (List.mem_append_left _ (List.mem_of_getElem? (i := 193) rfl)))
set_option maxRecDepth 20000 in
theorem w552 : Cond.methodLink "java/util/ArrayList" 123 yJx4a65c_elementData_915e3 ∈ lw_tbl := List.mem_append_right _ (List.mem_append_right _ (List.mem_append_left _ (List.mem_of_getElem? (i := 194) rfl)))
set_option maxRecDepth 20000 in
theorem w553 : Cond.instanceMethod yJx4a65c_elementData_915e3 ∈ lw_tbl := List.mem_append_right _ (List.mem_append_right _ (List.mem_append_left _ (List.mem_of_getElem? (i := 195) rfl)))
set_option maxRecDepth 20000 in
theorem w554 : Cond.selects "java/util/ArrayList" yJx4a65c_elementData_915e3 yJx4a65c_elementData_915e3 ∈ lw_tbl := List.mem_append_right _ (List.mem_append_right _ (List.mem_append_left _ (List.mem_of_getElem? (i := 196) rfl)))
set_option maxRecDepth 20000 in
theorem w555 : Cond.code yJx4a65c_elementData_915e3 cJx4a65c_elementData_915e3 2 (some (.object "java/lang/Object")) ∈ lw_tbl := List.mem_append_right _ (List.mem_append_right _ (List.mem_append_left _ (List.mem_of_getElem? (i := 197) rfl)))
set_option maxRecDepth 20000 in
theorem w556 : Cond.classLink "LetterBroker$Office" 50 "LetterBroker$Queue" ∈ lw_tbl := List.mem_append_right _ (List.mem_append_right _ (List.mem_append_left _ (List.mem_of_getElem? (i := 198) rfl)))
set_option maxRecDepth 20000 in
theorem w557 : Cond.methodLink "LetterBroker$Office" 99 yX8_reaches ∈ lw_tbl := List.mem_append_right _ (List.mem_append_right _ (List.mem_append_left _ (List.mem_of_getElem? (i := 199) rfl)))
set_option maxRecDepth 20000 in
theorem w559 : Cond.instanceMethod yX8_reaches ∈ lw_tbl := List.mem_append_right _ (List.mem_append_right _ (List.mem_append_left _ (List.mem_of_getElem? (i := 201) rfl)))
set_option maxRecDepth 20000 in
theorem w560 : Cond.code yX8_reaches cX8_reaches 5 (some .boolean) ∈ lw_tbl := List.mem_append_right _ (List.mem_append_right _ (List.mem_append_left _ (List.mem_of_getElem? (i := 202) rfl)))
set_option maxRecDepth 20000 in
theorem w561 : Cond.classLink "LetterBroker$Office" 53 "LetterBroker$Binding" ∈ lw_tbl := List.mem_append_right _ (List.mem_append_right _ (List.mem_append_left _ (List.mem_of_getElem? (i := 203) rfl)))
set_option maxRecDepth 20000 in
theorem w562 : Cond.methodLink "LetterBroker$Office" 116 yX0_fits ∈ lw_tbl := List.mem_append_right _ (List.mem_append_right _ (List.mem_append_left _ (List.mem_of_getElem? (i := 204) rfl)))
set_option maxRecDepth 20000 in
theorem w563 : Cond.instanceMethod yX0_fits ∈ lw_tbl := List.mem_append_right _ (List.mem_append_right _ (List.mem_append_left _ (List.mem_of_getElem? (i := 205) rfl)))
set_option maxRecDepth 20000 in
theorem w564 : Cond.selects "LetterBroker$Binding" yX0_fits yX0_fits ∈ lw_tbl := List.mem_append_right _ (List.mem_append_right _ (List.mem_append_left _ (List.mem_of_getElem? (i := 206) rfl)))
set_option maxRecDepth 20000 in
theorem w565 : Cond.code yX0_fits cX0_fits 8 (some .boolean) ∈ lw_tbl := List.mem_append_right _ (List.mem_append_right _ (List.mem_append_left _ (List.mem_of_getElem? (i := 207) rfl)))
set_option maxRecDepth 20000 in
theorem w566 : Cond.constantLong "LetterBroker$Binding" 40 (35) ∈ lw_tbl := List.mem_append_right _ (List.mem_append_right _ (List.mem_append_left _ (List.mem_of_getElem? (i := 208) rfl)))
set_option maxRecDepth 20000 in
theorem w567 : Cond.constantLong "LetterBroker$Binding" 43 (42) ∈ lw_tbl := List.mem_append_right _ (List.mem_append_right _ (List.mem_append_left _ (List.mem_of_getElem? (i := 209) rfl)))
set_option maxRecDepth 20000 in
theorem w568 : Cond.methodLink "LetterBroker" 392 yJ6_bitCount_0f7a4 ∈ lw_tbl := List.mem_append_right _ (List.mem_append_right _ (List.mem_append_left _ (List.mem_of_getElem? (i := 210) rfl)))
set_option maxRecDepth 20000 in
theorem w569 : Cond.static yJ6_bitCount_0f7a4 ∈ lw_tbl := List.mem_append_right _ (List.mem_append_right _ (List.mem_append_left _ (List.mem_of_getElem? (i := 211) rfl)))
set_option maxRecDepth 20000 in
theorem w570 : Cond.code yJ6_bitCount_0f7a4 cJ6_bitCount_0f7a4 1 (some .int) ∈ lw_tbl := List.mem_append_right _ (List.mem_append_right _ (List.mem_append_left _ (List.mem_of_getElem? (i := 212) rfl)))
set_option maxRecDepth 20000 in
theorem w571 : Cond.constant "java/lang/Integer" 265 (1431655765) ∈ lw_tbl := List.mem_append_right _ (List.mem_append_right _ (List.mem_append_left _ (List.mem_of_getElem? (i := 213) rfl)))
set_option maxRecDepth 20000 in
theorem w572 : Cond.constant "java/lang/Integer" 266 (858993459) ∈ lw_tbl := List.mem_append_right _ (List.mem_append_right _ (List.mem_append_left _ (List.mem_of_getElem? (i := 214) rfl)))
set_option maxRecDepth 20000 in
theorem w573 : Cond.constant "java/lang/Integer" 267 (252645135) ∈ lw_tbl := List.mem_append_right _ (List.mem_append_right _ (List.mem_append_left _ (List.mem_of_getElem? (i := 215) rfl)))
set_option maxRecDepth 20000 in
theorem w574 : Cond.methodLink "LetterBroker" 397 yX11_lettersInAll ∈ lw_tbl := List.mem_append_right _ (List.mem_append_right _ (List.mem_append_left _ (List.mem_of_getElem? (i := 216) rfl)))
set_option maxRecDepth 20000 in
theorem w576 : Cond.instanceMethod yX11_lettersInAll ∈ lw_tbl := List.mem_append_right _ (List.mem_append_right _ (List.mem_append_left _ (List.mem_of_getElem? (i := 218) rfl)))
set_option maxRecDepth 20000 in
theorem w577 : Cond.code yX11_lettersInAll cX11_lettersInAll 3 (some .int) ∈ lw_tbl := List.mem_append_right _ (List.mem_append_right _ (List.mem_append_left _ (List.mem_of_getElem? (i := 219) rfl)))
set_option maxRecDepth 20000 in
theorem w578 : Cond.methodLink "LetterBroker" 411 yX8_lettersThatWait ∈ lw_tbl := List.mem_append_right _ (List.mem_append_right _ (List.mem_append_left _ (List.mem_of_getElem? (i := 220) rfl)))
set_option maxRecDepth 20000 in
theorem w579 : Cond.instanceMethod yX8_lettersThatWait ∈ lw_tbl := List.mem_append_right _ (List.mem_append_right _ (List.mem_append_left _ (List.mem_of_getElem? (i := 221) rfl)))
set_option maxRecDepth 20000 in
theorem w580 : Cond.selects "LetterBroker$Office" yX8_lettersThatWait yX8_lettersThatWait ∈ lw_tbl := List.mem_append_right _ (List.mem_append_right _ (List.mem_append_left _ (List.mem_of_getElem? (i := 222) rfl)))
set_option maxRecDepth 20000 in
theorem w581 : Cond.code yX8_lettersThatWait cX8_lettersThatWait 3 (some .int) ∈ lw_tbl := List.mem_append_right _ (List.mem_append_right _ (List.mem_append_left _ (List.mem_of_getElem? (i := 223) rfl)))
set_option maxRecDepth 20000 in
theorem w582 : Cond.methodLink "LetterBroker" 403 yX11_sendReturned ∈ lw_tbl := List.mem_append_right _ (List.mem_append_right _ (List.mem_append_left _ (List.mem_of_getElem? (i := 224) rfl)))
set_option maxRecDepth 20000 in
theorem w584 : Cond.instanceMethod yX11_sendReturned ∈ lw_tbl := List.mem_append_right _ (List.mem_append_right _ (List.mem_append_left _ (List.mem_of_getElem? (i := 226) rfl)))
set_option maxRecDepth 20000 in
theorem w585 : Cond.code yX11_sendReturned cX11_sendReturned 3 none ∈ lw_tbl := List.mem_append_right _ (List.mem_append_right _ (List.mem_append_left _ (List.mem_of_getElem? (i := 227) rfl)))
set_option maxRecDepth 20000 in
theorem w586 : Cond.methodLink "LetterBroker" 272 yX9_begin ∈ lw_tbl := List.mem_append_right _ (List.mem_append_right _ (List.mem_append_left _ (List.mem_of_getElem? (i := 228) rfl)))
set_option maxRecDepth 20000 in
theorem w587 : Cond.methodLink "LetterBroker" 414 yX9_putShort ∈ lw_tbl := List.mem_append_right _ (List.mem_append_right _ (List.mem_append_left _ (List.mem_of_getElem? (i := 229) rfl)))
set_option maxRecDepth 20000 in
theorem w588 : Cond.instanceMethod yX9_putShort ∈ lw_tbl := List.mem_append_right _ (List.mem_append_right _ (List.mem_append_left _ (List.mem_of_getElem? (i := 230) rfl)))
set_option maxRecDepth 20000 in
theorem w589 : Cond.selects "LetterBroker$Outbox" yX9_putShort yX9_putShort ∈ lw_tbl := List.mem_append_right _ (List.mem_append_right _ (List.mem_append_left _ (List.mem_of_getElem? (i := 231) rfl)))
set_option maxRecDepth 20000 in
theorem w590 : Cond.code yX9_putShort cX9_putShort 2 none ∈ lw_tbl := List.mem_append_right _ (List.mem_append_right _ (List.mem_append_left _ (List.mem_of_getElem? (i := 232) rfl)))
set_option maxRecDepth 20000 in
theorem w591 : Cond.methodLink "LetterBroker" 322 yX9_putName ∈ lw_tbl := List.mem_append_right _ (List.mem_append_right _ (List.mem_append_left _ (List.mem_of_getElem? (i := 233) rfl)))
set_option maxRecDepth 20000 in
theorem w592 : Cond.instanceMethod yX9_putName ∈ lw_tbl := List.mem_append_right _ (List.mem_append_right _ (List.mem_append_left _ (List.mem_of_getElem? (i := 234) rfl)))
set_option maxRecDepth 20000 in
theorem w593 : Cond.selects "LetterBroker$Outbox" yX9_putName yX9_putName ∈ lw_tbl := List.mem_append_right _ (List.mem_append_right _ (List.mem_append_left _ (List.mem_of_getElem? (i := 235) rfl)))
set_option maxRecDepth 20000 in
theorem w594 : Cond.code yX9_putName cX9_putName 6 none ∈ lw_tbl := List.mem_append_right _ (List.mem_append_right _ (List.mem_append_left _ (List.mem_of_getElem? (i := 236) rfl)))
set_option maxRecDepth 20000 in
theorem w595 : Cond.methodLink "LetterBroker" 277 yX9_end ∈ lw_tbl := List.mem_append_right _ (List.mem_append_right _ (List.mem_append_left _ (List.mem_of_getElem? (i := 237) rfl)))
set_option maxRecDepth 20000 in
theorem w596 : Cond.methodLink "LetterBroker" 423 yX9_putContent ∈ lw_tbl := List.mem_append_right _ (List.mem_append_right _ (List.mem_append_left _ (List.mem_of_getElem? (i := 238) rfl)))
set_option maxRecDepth 20000 in
theorem w597 : Cond.instanceMethod yX9_putContent ∈ lw_tbl := List.mem_append_right _ (List.mem_append_right _ (List.mem_append_left _ (List.mem_of_getElem? (i := 239) rfl)))
set_option maxRecDepth 20000 in
theorem w598 : Cond.selects "LetterBroker$Outbox" yX9_putContent yX9_putContent ∈ lw_tbl := List.mem_append_right _ (List.mem_append_right _ (List.mem_append_right _ (List.mem_append_left _ (List.mem_of_getElem? (i := 0) rfl))))
set_option maxRecDepth 20000 in
theorem w599 : Cond.code yX9_putContent cX9_putContent 4 none ∈ lw_tbl := List.mem_append_right _ (List.mem_append_right _ (List.mem_append_right _ (List.mem_append_left _ (List.mem_of_getElem? (i := 1) rfl))))
set_option maxRecDepth 20000 in
theorem w600 : Cond.methodLink "LetterBroker" 407 yX8_putInto ∈ lw_tbl := List.mem_append_right _ (List.mem_append_right _ (List.mem_append_right _ (List.mem_append_left _ (List.mem_of_getElem? (i := 2) rfl))))
set_option maxRecDepth 20000 in
theorem w601 : Cond.instanceMethod yX8_putInto ∈ lw_tbl := List.mem_append_right _ (List.mem_append_right _ (List.mem_append_right _ (List.mem_append_left _ (List.mem_of_getElem? (i := 3) rfl))))
set_option maxRecDepth 20000 in
theorem w602 : Cond.selects "LetterBroker$Office" yX8_putInto yX8_putInto ∈ lw_tbl := List.mem_append_right _ (List.mem_append_right _ (List.mem_append_right _ (List.mem_append_left _ (List.mem_of_getElem? (i := 4) rfl))))
set_option maxRecDepth 20000 in
theorem w603 : Cond.code yX8_putInto cX8_putInto 4 none ∈ lw_tbl := List.mem_append_right _ (List.mem_append_right _ (List.mem_append_right _ (List.mem_append_left _ (List.mem_of_getElem? (i := 5) rfl))))
set_option maxRecDepth 20000 in
theorem w604 : Cond.classLink "LetterBroker$Office" 106 "LetterBroker$Letter" ∈ lw_tbl := List.mem_append_right _ (List.mem_append_right _ (List.mem_append_right _ (List.mem_append_left _ (List.mem_of_getElem? (i := 6) rfl))))
set_option maxRecDepth 20000 in
theorem w606 : Cond.methodLink "LetterBroker$Office" 108 yX7_init ∈ lw_tbl := List.mem_append_right _ (List.mem_append_right _ (List.mem_append_right _ (List.mem_append_left _ (List.mem_of_getElem? (i := 8) rfl))))
set_option maxRecDepth 20000 in
theorem w607 : Cond.instanceMethod yX7_init ∈ lw_tbl := List.mem_append_right _ (List.mem_append_right _ (List.mem_append_right _ (List.mem_append_left _ (List.mem_of_getElem? (i := 9) rfl))))
set_option maxRecDepth 20000 in
theorem w608 : Cond.code yX7_init cX7_init 4 none ∈ lw_tbl := List.mem_append_right _ (List.mem_append_right _ (List.mem_append_right _ (List.mem_append_left _ (List.mem_of_getElem? (i := 10) rfl))))
set_option maxRecDepth 20000 in
theorem w609 : Cond.methodLink "LetterBroker$Letter" 1 Lib.objectInit ∈ lw_tbl := List.mem_append_right _ (List.mem_append_right _ (List.mem_append_right _ (List.mem_append_left _ (List.mem_of_getElem? (i := 11) rfl))))
set_option maxRecDepth 20000 in
theorem w610 : Cond.fieldLink "LetterBroker$Letter" 7 "LetterBroker$Letter" "draft" "LLetterBroker$Draft;" ∈ lw_tbl := List.mem_append_right _ (List.mem_append_right _ (List.mem_append_right _ (List.mem_append_left _ (List.mem_of_getElem? (i := 12) rfl))))
set_option maxRecDepth 20000 in
theorem w611 : Cond.fieldLink "LetterBroker$Outbox" 51 "LetterBroker$Letter" "draft" "LLetterBroker$Draft;" ∈ lw_tbl := List.mem_append_right _ (List.mem_append_right _ (List.mem_append_right _ (List.mem_append_left _ (List.mem_of_getElem? (i := 13) rfl))))
set_option maxRecDepth 20000 in
theorem w612 : Cond.fieldLink "LetterBroker" 433 "LetterBroker$Letter" "draft" "LLetterBroker$Draft;" ∈ lw_tbl := List.mem_append_right _ (List.mem_append_right _ (List.mem_append_right _ (List.mem_append_left _ (List.mem_of_getElem? (i := 14) rfl))))
set_option maxRecDepth 20000 in
theorem w613 : Cond.fieldLink "LetterBroker$Letter" 13 "LetterBroker$Letter" "home" "LLetterBroker$Queue;" ∈ lw_tbl := List.mem_append_right _ (List.mem_append_right _ (List.mem_append_right _ (List.mem_append_left _ (List.mem_of_getElem? (i := 15) rfl))))
set_option maxRecDepth 20000 in
theorem w614 : Cond.fieldLink "LetterBroker$Channel" 69 "LetterBroker$Letter" "home" "LLetterBroker$Queue;" ∈ lw_tbl := List.mem_append_right _ (List.mem_append_right _ (List.mem_append_right _ (List.mem_append_left _ (List.mem_of_getElem? (i := 16) rfl))))
set_option maxRecDepth 20000 in
theorem w615 : Cond.fieldLink "LetterBroker$Letter" 17 "LetterBroker$Letter" "number" "I" ∈ lw_tbl := List.mem_append_right _ (List.mem_append_right _ (List.mem_append_right _ (List.mem_append_left _ (List.mem_of_getElem? (i := 17) rfl))))
set_option maxRecDepth 20000 in
theorem w616 : Cond.fieldLink "LetterBroker$Queue" 36 "LetterBroker$Letter" "number" "I" ∈ lw_tbl := List.mem_append_right _ (List.mem_append_right _ (List.mem_append_right _ (List.mem_append_left _ (List.mem_of_getElem? (i := 18) rfl))))
set_option maxRecDepth 20000 in
theorem w617 : Cond.fieldLink "LetterBroker" 122 "LetterBroker$Letter" "number" "I" ∈ lw_tbl := List.mem_append_right _ (List.mem_append_right _ (List.mem_append_right _ (List.mem_append_left _ (List.mem_of_getElem? (i := 19) rfl))))
set_option maxRecDepth 20000 in
theorem w618 : Cond.fieldLink "LetterBroker$Queue" 20 "LetterBroker$Letter" "redelivered" "Z" ∈ lw_tbl := List.mem_append_right _ (List.mem_append_right _ (List.mem_append_right _ (List.mem_append_left _ (List.mem_of_getElem? (i := 20) rfl))))
set_option maxRecDepth 20000 in
theorem w619 : Cond.fieldLink "LetterBroker$Outbox" 47 "LetterBroker$Letter" "redelivered" "Z" ∈ lw_tbl := List.mem_append_right _ (List.mem_append_right _ (List.mem_append_right _ (List.mem_append_left _ (List.mem_of_getElem? (i := 21) rfl))))
set_option maxRecDepth 20000 in
theorem w620 : Cond.fieldLink "LetterBroker$Channel" 38 "LetterBroker$Letter" "deliveredAs" "I" ∈ lw_tbl := List.mem_append_right _ (List.mem_append_right _ (List.mem_append_right _ (List.mem_append_left _ (List.mem_of_getElem? (i := 22) rfl))))
set_option maxRecDepth 20000 in
theorem w621 : Cond.fieldLink "LetterBroker$Deed" 28 "LetterBroker$Letter" "deliveredAs" "I" ∈ lw_tbl := List.mem_append_right _ (List.mem_append_right _ (List.mem_append_right _ (List.mem_append_left _ (List.mem_of_getElem? (i := 23) rfl))))
set_option maxRecDepth 20000 in
theorem w622 : Cond.fieldLink "LetterBroker$Outbox" 42 "LetterBroker$Letter" "deliveredAs" "I" ∈ lw_tbl := List.mem_append_right _ (List.mem_append_right _ (List.mem_append_right _ (List.mem_append_left _ (List.mem_of_getElem? (i := 24) rfl))))
set_option maxRecDepth 20000 in
theorem w634 : Cond.methodLink "LetterBroker" 183 yX11_takeBody ∈ lw_tbl := List.mem_append_right _ (List.mem_append_right _ (List.mem_append_right _ (List.mem_append_left _ (List.mem_of_getElem? (i := 36) rfl))))
set_option maxRecDepth 20000 in
theorem w636 : Cond.instanceMethod yX11_takeBody ∈ lw_tbl := List.mem_append_right _ (List.mem_append_right _ (List.mem_append_right _ (List.mem_append_left _ (List.mem_of_getElem? (i := 38) rfl))))
set_option maxRecDepth 20000 in
theorem w637 : Cond.code yX11_takeBody cX11_takeBody 5 (some .int) ∈ lw_tbl := List.mem_append_right _ (List.mem_append_right _ (List.mem_append_right _ (List.mem_append_left _ (List.mem_of_getElem? (i := 39) rfl))))
set_option maxRecDepth 20000 in
theorem w638 : Cond.methodLink "LetterBroker" 186 yX6_unread ∈ lw_tbl := List.mem_append_right _ (List.mem_append_right _ (List.mem_append_right _ (List.mem_append_left _ (List.mem_of_getElem? (i := 40) rfl))))
set_option maxRecDepth 20000 in
theorem w639 : Cond.instanceMethod yX6_unread ∈ lw_tbl := List.mem_append_right _ (List.mem_append_right _ (List.mem_append_right _ (List.mem_append_left _ (List.mem_of_getElem? (i := 41) rfl))))
set_option maxRecDepth 20000 in
theorem w640 : Cond.selects "LetterBroker$Inbox" yX6_unread yX6_unread ∈ lw_tbl := List.mem_append_right _ (List.mem_append_right _ (List.mem_append_right _ (List.mem_append_left _ (List.mem_of_getElem? (i := 42) rfl))))
set_option maxRecDepth 20000 in
theorem w641 : Cond.code yX6_unread cX6_unread 1 (some .int) ∈ lw_tbl := List.mem_append_right _ (List.mem_append_right _ (List.mem_append_right _ (List.mem_append_left _ (List.mem_of_getElem? (i := 43) rfl))))
set_option maxRecDepth 20000 in
theorem w642 : Cond.methodLink "LetterBroker" 367 yX4_lacks ∈ lw_tbl := List.mem_append_right _ (List.mem_append_right _ (List.mem_append_right _ (List.mem_append_left _ (List.mem_of_getElem? (i := 44) rfl))))
set_option maxRecDepth 20000 in
theorem w643 : Cond.instanceMethod yX4_lacks ∈ lw_tbl := List.mem_append_right _ (List.mem_append_right _ (List.mem_append_right _ (List.mem_append_left _ (List.mem_of_getElem? (i := 45) rfl))))
set_option maxRecDepth 20000 in
theorem w644 : Cond.selects "LetterBroker$Draft" yX4_lacks yX4_lacks ∈ lw_tbl := List.mem_append_right _ (List.mem_append_right _ (List.mem_append_right _ (List.mem_append_left _ (List.mem_of_getElem? (i := 46) rfl))))
set_option maxRecDepth 20000 in
theorem w645 : Cond.code yX4_lacks cX4_lacks 1 (some .int) ∈ lw_tbl := List.mem_append_right _ (List.mem_append_right _ (List.mem_append_right _ (List.mem_append_left _ (List.mem_of_getElem? (i := 47) rfl))))
set_option maxRecDepth 20000 in
theorem w646 : Cond.methodLink "LetterBroker" 370 yX4_append ∈ lw_tbl := List.mem_append_right _ (List.mem_append_right _ (List.mem_append_right _ (List.mem_append_left _ (List.mem_of_getElem? (i := 48) rfl))))
set_option maxRecDepth 20000 in
theorem w647 : Cond.instanceMethod yX4_append ∈ lw_tbl := List.mem_append_right _ (List.mem_append_right _ (List.mem_append_right _ (List.mem_append_left _ (List.mem_of_getElem? (i := 49) rfl))))
set_option maxRecDepth 20000 in
theorem w648 : Cond.selects "LetterBroker$Draft" yX4_append yX4_append ∈ lw_tbl := List.mem_append_right _ (List.mem_append_right _ (List.mem_append_right _ (List.mem_append_left _ (List.mem_of_getElem? (i := 50) rfl))))
set_option maxRecDepth 20000 in
theorem w649 : Cond.code yX4_append cX4_append 2 none ∈ lw_tbl := List.mem_append_right _ (List.mem_append_right _ (List.mem_append_right _ (List.mem_append_left _ (List.mem_of_getElem? (i := 51) rfl))))
set_option maxRecDepth 20000 in
theorem w650 : Cond.methodLink "LetterBroker" 192 yX11_doLineMethod ∈ lw_tbl := List.mem_append_right _ (List.mem_append_right _ (List.mem_append_right _ (List.mem_append_left _ (List.mem_of_getElem? (i := 52) rfl))))
set_option maxRecDepth 20000 in
theorem w652 : Cond.instanceMethod yX11_doLineMethod ∈ lw_tbl := List.mem_append_right _ (List.mem_append_right _ (List.mem_append_right _ (List.mem_append_left _ (List.mem_of_getElem? (i := 54) rfl))))
set_option maxRecDepth 20000 in
theorem w653 : Cond.code yX11_doLineMethod cX11_doLineMethod 2 (some .int) ∈ lw_tbl := List.mem_append_right _ (List.mem_append_right _ (List.mem_append_right _ (List.mem_append_left _ (List.mem_of_getElem? (i := 55) rfl))))
set_option maxRecDepth 20000 in
theorem w654 : Cond.methodLink "LetterBroker" 129 yX11_lineMethodInTurn ∈ lw_tbl := List.mem_append_right _ (List.mem_append_right _ (List.mem_append_right _ (List.mem_append_left _ (List.mem_of_getElem? (i := 56) rfl))))
set_option maxRecDepth 20000 in
theorem w656 : Cond.instanceMethod yX11_lineMethodInTurn ∈ lw_tbl := List.mem_append_right _ (List.mem_append_right _ (List.mem_append_right _ (List.mem_append_left _ (List.mem_of_getElem? (i := 58) rfl))))
set_option maxRecDepth 20000 in
theorem w657 : Cond.code yX11_lineMethodInTurn cX11_lineMethodInTurn 1 (some .int) ∈ lw_tbl := List.mem_append_right _ (List.mem_append_right _ (List.mem_append_right _ (List.mem_append_left _ (List.mem_of_getElem? (i := 59) rfl))))
set_option maxRecDepth 20000 in
theorem w658 : Cond.methodLink "LetterBroker" 135 yX11_shutLine ∈ lw_tbl := List.mem_append_right _ (List.mem_append_right _ (List.mem_append_right _ (List.mem_append_left _ (List.mem_of_getElem? (i := 60) rfl))))
set_option maxRecDepth 20000 in
theorem w660 : Cond.instanceMethod yX11_shutLine ∈ lw_tbl := List.mem_append_right _ (List.mem_append_right _ (List.mem_append_right _ (List.mem_append_left _ (List.mem_of_getElem? (i := 62) rfl))))
set_option maxRecDepth 20000 in
theorem w661 : Cond.code yX11_shutLine cX11_shutLine 2 none ∈ lw_tbl := List.mem_append_right _ (List.mem_append_right _ (List.mem_append_right _ (List.mem_append_left _ (List.mem_of_getElem? (i := 63) rfl))))
set_option maxRecDepth 20000 in
theorem w662 : Cond.methodLink "LetterBroker" 150 yX6_clear ∈ lw_tbl := List.mem_append_right _ (List.mem_append_right _ (List.mem_append_right _ (List.mem_append_left _ (List.mem_of_getElem? (i := 64) rfl))))
set_option maxRecDepth 20000 in
theorem w663 : Cond.instanceMethod yX6_clear ∈ lw_tbl := List.mem_append_right _ (List.mem_append_right _ (List.mem_append_right _ (List.mem_append_left _ (List.mem_of_getElem? (i := 65) rfl))))
set_option maxRecDepth 20000 in
theorem w664 : Cond.selects "LetterBroker$Inbox" yX6_clear yX6_clear ∈ lw_tbl := List.mem_append_right _ (List.mem_append_right _ (List.mem_append_right _ (List.mem_append_left _ (List.mem_of_getElem? (i := 66) rfl))))
set_option maxRecDepth 20000 in
theorem w665 : Cond.code yX6_clear cX6_clear 1 none ∈ lw_tbl := List.mem_append_right _ (List.mem_append_right _ (List.mem_append_right _ (List.mem_append_left _ (List.mem_of_getElem? (i := 67) rfl))))
set_option maxRecDepth 20000 in
theorem w666 : Cond.methodLink "LetterBroker" 146 yX11_leaveChannel ∈ lw_tbl := List.mem_append_right _ (List.mem_append_right _ (List.mem_append_right _ (List.mem_append_left _ (List.mem_of_getElem? (i := 68) rfl))))
set_option maxRecDepth 20000 in
theorem w668 : Cond.instanceMethod yX11_leaveChannel ∈ lw_tbl := List.mem_append_right _ (List.mem_append_right _ (List.mem_append_right _ (List.mem_append_left _ (List.mem_of_getElem? (i := 70) rfl))))
set_option maxRecDepth 20000 in
theorem w669 : Cond.code yX11_leaveChannel cX11_leaveChannel 3 none ∈ lw_tbl := List.mem_append_right _ (List.mem_append_right _ (List.mem_append_right _ (List.mem_append_left _ (List.mem_of_getElem? (i := 71) rfl))))
set_option maxRecDepth 20000 in
theorem w670 : Cond.methodLink "LetterBroker" 153 yX8_removeConsumersOn ∈ lw_tbl := List.mem_append_right _ (List.mem_append_right _ (List.mem_append_right _ (List.mem_append_left _ (List.mem_of_getElem? (i := 72) rfl))))
set_option maxRecDepth 20000 in
theorem w671 : Cond.instanceMethod yX8_removeConsumersOn ∈ lw_tbl := List.mem_append_right _ (List.mem_append_right _ (List.mem_append_right _ (List.mem_append_left _ (List.mem_of_getElem? (i := 73) rfl))))
set_option maxRecDepth 20000 in
theorem w672 : Cond.selects "LetterBroker$Office" yX8_removeConsumersOn yX8_removeConsumersOn ∈ lw_tbl := List.mem_append_right _ (List.mem_append_right _ (List.mem_append_right _ (List.mem_append_left _ (List.mem_of_getElem? (i := 74) rfl))))
set_option maxRecDepth 20000 in
theorem w673 : Cond.code yX8_removeConsumersOn cX8_removeConsumersOn 3 none ∈ lw_tbl := List.mem_append_right _ (List.mem_append_right _ (List.mem_append_right _ (List.mem_append_left _ (List.mem_of_getElem? (i := 75) rfl))))
set_option maxRecDepth 20000 in
theorem w674 : Cond.classLink "LetterBroker$Office" 66 "LetterBroker$Consumer" ∈ lw_tbl := List.mem_append_right _ (List.mem_append_right _ (List.mem_append_right _ (List.mem_append_left _ (List.mem_of_getElem? (i := 76) rfl))))
set_option maxRecDepth 20000 in
theorem w676 : Cond.methodLink "LetterBroker$Office" 86 ⟨"java/util/List", "remove", "(I)Ljava/lang/Object;"⟩ ∈ lw_tbl := List.mem_append_right _ (List.mem_append_right _ (List.mem_append_right _ (List.mem_append_left _ (List.mem_of_getElem? (i := 78) rfl))))
set_option maxRecDepth 20000 in
theorem w679 : Cond.selects "java/util/ArrayList" ⟨"java/util/List", "remove", "(I)Ljava/lang/Object;"⟩ yJx4a65c_remove_915e3 ∈ lw_tbl := List.mem_append_right _ (List.mem_append_right _ (List.mem_append_right _ (List.mem_append_left _ (List.mem_of_getElem? (i := 81) rfl))))
set_option maxRecDepth 20000 in
theorem w681 : Cond.instanceMethod yJx4a65c_remove_915e3 ∈ lw_tbl := List.mem_append_right _ (List.mem_append_right _ (List.mem_append_right _ (List.mem_append_left _ (List.mem_of_getElem? (i := 83) rfl))))
set_option maxRecDepth 20000 in
theorem w683 : Cond.code yJx4a65c_remove_915e3 cJx4a65c_remove_915e3 4 (some (.object "java/lang/Object")) ∈ lw_tbl := List.mem_append_right _ (List.mem_append_right _ (List.mem_append_right _ (List.mem_append_left _ (List.mem_of_getElem? (i := 85) rfl))))
set_option maxRecDepth 20000 in
theorem w684 : Cond.methodLink "java/util/ArrayList" 144 yJx4a65c_fastRemove_b59b0 ∈ lw_tbl := List.mem_append_right _ (List.mem_append_right _ (List.mem_append_right _ (List.mem_append_left _ (List.mem_of_getElem? (i := 86) rfl))))
set_option maxRecDepth 20000 in
theorem w686 : Cond.instanceMethod yJx4a65c_fastRemove_b59b0 ∈ lw_tbl := List.mem_append_right _ (List.mem_append_right _ (List.mem_append_right _ (List.mem_append_left _ (List.mem_of_getElem? (i := 88) rfl))))
set_option maxRecDepth 20000 in
theorem w687 : Cond.code yJx4a65c_fastRemove_b59b0 cJx4a65c_fastRemove_b59b0 4 none ∈ lw_tbl := List.mem_append_right _ (List.mem_append_right _ (List.mem_append_right _ (List.mem_append_left _ (List.mem_of_getElem? (i := 89) rfl))))
set_option maxRecDepth 20000 in
theorem w688 : Cond.methodLink "java/util/ArrayList" 112 arraycopyName ∈ lw_tbl := List.mem_append_right _ (List.mem_append_right _ (List.mem_append_right _ (List.mem_append_left _ (List.mem_of_getElem? (i := 90) rfl))))
set_option maxRecDepth 20000 in
theorem w689 : Cond.methodLink "LetterBroker" 157 yX1_giveAllBack ∈ lw_tbl := List.mem_append_right _ (List.mem_append_right _ (List.mem_append_right _ (List.mem_append_left _ (List.mem_of_getElem? (i := 91) rfl))))
set_option maxRecDepth 20000 in
theorem w690 : Cond.instanceMethod yX1_giveAllBack ∈ lw_tbl := List.mem_append_right _ (List.mem_append_right _ (List.mem_append_right _ (List.mem_append_left _ (List.mem_of_getElem? (i := 92) rfl))))
set_option maxRecDepth 20000 in
theorem w691 : Cond.selects "LetterBroker$Channel" yX1_giveAllBack yX1_giveAllBack ∈ lw_tbl := List.mem_append_right _ (List.mem_append_right _ (List.mem_append_right _ (List.mem_append_left _ (List.mem_of_getElem? (i := 93) rfl))))
set_option maxRecDepth 20000 in
theorem w692 : Cond.code yX1_giveAllBack cX1_giveAllBack 2 none ∈ lw_tbl := List.mem_append_right _ (List.mem_append_right _ (List.mem_append_right _ (List.mem_append_left _ (List.mem_of_getElem? (i := 94) rfl))))
set_option maxRecDepth 20000 in
theorem w694 : Cond.methodLink "LetterBroker$Channel" 49 ⟨"java/util/List", "size", "()I"⟩ ∈ lw_tbl := List.mem_append_right _ (List.mem_append_right _ (List.mem_append_right _ (List.mem_append_left _ (List.mem_of_getElem? (i := 96) rfl))))
set_option maxRecDepth 20000 in
theorem w696 : Cond.methodLink "LetterBroker$Channel" 53 ⟨"java/util/List", "get", "(I)Ljava/lang/Object;"⟩ ∈ lw_tbl := List.mem_append_right _ (List.mem_append_right _ (List.mem_append_right _ (List.mem_append_left _ (List.mem_of_getElem? (i := 98) rfl))))
set_option maxRecDepth 20000 in
theorem w697 : Cond.classLink "LetterBroker$Channel" 39 "LetterBroker$Letter" ∈ lw_tbl := List.mem_append_right _ (List.mem_append_right _ (List.mem_append_right _ (List.mem_append_left _ (List.mem_of_getElem? (i := 99) rfl))))
set_option maxRecDepth 20000 in
theorem w698 : Cond.methodLink "LetterBroker$Channel" 73 yX10_takeBack ∈ lw_tbl := List.mem_append_right _ (List.mem_append_right _ (List.mem_append_right _ (List.mem_append_left _ (List.mem_of_getElem? (i := 100) rfl))))
set_option maxRecDepth 20000 in
theorem w699 : Cond.instanceMethod yX10_takeBack ∈ lw_tbl := List.mem_append_right _ (List.mem_append_right _ (List.mem_append_right _ (List.mem_append_left _ (List.mem_of_getElem? (i := 101) rfl))))
set_option maxRecDepth 20000 in
theorem w700 : Cond.selects "LetterBroker$Queue" yX10_takeBack yX10_takeBack ∈ lw_tbl := List.mem_append_right _ (List.mem_append_right _ (List.mem_append_right _ (List.mem_append_left _ (List.mem_of_getElem? (i := 102) rfl))))
set_option maxRecDepth 20000 in
theorem w701 : Cond.code yX10_takeBack cX10_takeBack 3 none ∈ lw_tbl := List.mem_append_right _ (List.mem_append_right _ (List.mem_append_right _ (List.mem_append_left _ (List.mem_of_getElem? (i := 103) rfl))))
set_option maxRecDepth 20000 in
theorem w703 : Cond.methodLink "LetterBroker$Queue" 26 ⟨"java/util/List", "size", "()I"⟩ ∈ lw_tbl := List.mem_append_right _ (List.mem_append_right _ (List.mem_append_right _ (List.mem_append_left _ (List.mem_of_getElem? (i := 105) rfl))))
set_option maxRecDepth 20000 in
theorem w705 : Cond.methodLink "LetterBroker$Queue" 32 ⟨"java/util/List", "get", "(I)Ljava/lang/Object;"⟩ ∈ lw_tbl := List.mem_append_right _ (List.mem_append_right _ (List.mem_append_right _ (List.mem_append_left _ (List.mem_of_getElem? (i := 107) rfl))))
set_option maxRecDepth 20000 in
theorem w706 : Cond.classLink "LetterBroker$Queue" 21 "LetterBroker$Letter" ∈ lw_tbl := List.mem_append_right _ (List.mem_append_right _ (List.mem_append_right _ (List.mem_append_left _ (List.mem_of_getElem? (i := 108) rfl))))
set_option maxRecDepth 20000 in
theorem w708 : Cond.methodLink "LetterBroker$Queue" 40 ⟨"java/util/List", "add", "(ILjava/lang/Object;)V"⟩ ∈ lw_tbl := List.mem_append_right _ (List.mem_append_right _ (List.mem_append_right _ (List.mem_append_left _ (List.mem_of_getElem? (i := 110) rfl))))
set_option maxRecDepth 20000 in
theorem w711 : Cond.selects "java/util/ArrayList" ⟨"java/util/List", "add", "(ILjava/lang/Object;)V"⟩ yJx4a65c_add_7a177 ∈ lw_tbl := List.mem_append_right _ (List.mem_append_right _ (List.mem_append_right _ (List.mem_append_left _ (List.mem_of_getElem? (i := 113) rfl))))
set_option maxRecDepth 20000 in
theorem w713 : Cond.instanceMethod yJx4a65c_add_7a177 ∈ lw_tbl := List.mem_append_right _ (List.mem_append_right _ (List.mem_append_right _ (List.mem_append_left _ (List.mem_of_getElem? (i := 115) rfl))))
set_option maxRecDepth 20000 in
theorem w715 : Cond.code yJx4a65c_add_7a177 cJx4a65c_add_7a177 5 none ∈ lw_tbl := List.mem_append_right _ (List.mem_append_right _ (List.mem_append_right _ (List.mem_append_left _ (List.mem_of_getElem? (i := 117) rfl))))
set_option maxRecDepth 20000 in
theorem w716 : Cond.methodLink "java/util/ArrayList" 135 yJx4a65c_rangeCheckForAdd_d00df ∈ lw_tbl := List.mem_append_right _ (List.mem_append_right _ (List.mem_append_right _ (List.mem_append_left _ (List.mem_of_getElem? (i := 118) rfl))))
set_option maxRecDepth 20000 in
theorem w718 : Cond.instanceMethod yJx4a65c_rangeCheckForAdd_d00df ∈ lw_tbl := List.mem_append_right _ (List.mem_append_right _ (List.mem_append_right _ (List.mem_append_left _ (List.mem_of_getElem? (i := 120) rfl))))
set_option maxRecDepth 20000 in
theorem w719 : Cond.code yJx4a65c_rangeCheckForAdd_d00df cJx4a65c_rangeCheckForAdd_d00df 2 none ∈ lw_tbl := List.mem_append_right _ (List.mem_append_right _ (List.mem_append_right _ (List.mem_append_left _ (List.mem_of_getElem? (i := 121) rfl))))
set_option maxRecDepth 20000 in
theorem w721 : Cond.methodLink "LetterBroker$Channel" 79 ⟨"java/util/List", "clear", "()V"⟩ ∈ lw_tbl := List.mem_append_right _ (List.mem_append_right _ (List.mem_append_right _ (List.mem_append_left _ (List.mem_of_getElem? (i := 123) rfl))))
set_option maxRecDepth 20000 in
theorem w724 : Cond.selects "java/util/ArrayList" ⟨"java/util/List", "clear", "()V"⟩ yJx4a65c_clear_da8c8 ∈ lw_tbl := List.mem_append_right _ (List.mem_append_right _ (List.mem_append_right _ (List.mem_append_left _ (List.mem_of_getElem? (i := 126) rfl))))
set_option maxRecDepth 20000 in
theorem w726 : Cond.instanceMethod yJx4a65c_clear_da8c8 ∈ lw_tbl := List.mem_append_right _ (List.mem_append_right _ (List.mem_append_right _ (List.mem_append_left _ (List.mem_of_getElem? (i := 128) rfl))))
set_option maxRecDepth 20000 in
theorem w728 : Cond.code yJx4a65c_clear_da8c8 cJx4a65c_clear_da8c8 4 none ∈ lw_tbl := List.mem_append_right _ (List.mem_append_right _ (List.mem_append_right _ (List.mem_append_left _ (List.mem_of_getElem? (i := 130) rfl))))
set_option maxRecDepth 20000 in
theorem w729 : Cond.methodLink "LetterBroker" 160 yX1_leave ∈ lw_tbl := List.mem_append_right _ (List.mem_append_right _ (List.mem_append_right _ (List.mem_append_left _ (List.mem_of_getElem? (i := 131) rfl))))
set_option maxRecDepth 20000 in
theorem w730 : Cond.instanceMethod yX1_leave ∈ lw_tbl := List.mem_append_right _ (List.mem_append_right _ (List.mem_append_right _ (List.mem_append_left _ (List.mem_of_getElem? (i := 132) rfl))))
set_option maxRecDepth 20000 in
theorem w731 : Cond.selects "LetterBroker$Channel" yX1_leave yX1_leave ∈ lw_tbl := List.mem_append_right _ (List.mem_append_right _ (List.mem_append_right _ (List.mem_append_left _ (List.mem_of_getElem? (i := 133) rfl))))
set_option maxRecDepth 20000 in
theorem w732 : Cond.code yX1_leave cX1_leave 2 none ∈ lw_tbl := List.mem_append_right _ (List.mem_append_right _ (List.mem_append_right _ (List.mem_append_left _ (List.mem_of_getElem? (i := 134) rfl))))
set_option maxRecDepth 20000 in
theorem w733 : Cond.methodLink "LetterBroker" 196 yX11_doMethod ∈ lw_tbl := List.mem_append_right _ (List.mem_append_right _ (List.mem_append_right _ (List.mem_append_left _ (List.mem_of_getElem? (i := 135) rfl))))
set_option maxRecDepth 20000 in
theorem w735 : Cond.instanceMethod yX11_doMethod ∈ lw_tbl := List.mem_append_right _ (List.mem_append_right _ (List.mem_append_right _ (List.mem_append_left _ (List.mem_of_getElem? (i := 137) rfl))))
set_option maxRecDepth 20000 in
theorem w736 : Cond.code yX11_doMethod cX11_doMethod 5 (some .int) ∈ lw_tbl := List.mem_append_right _ (List.mem_append_right _ (List.mem_append_right _ (List.mem_append_left _ (List.mem_of_getElem? (i := 138) rfl))))
set_option maxRecDepth 20000 in
theorem w737 : Cond.methodLink "LetterBroker" 199 yX11_openChannel ∈ lw_tbl := List.mem_append_right _ (List.mem_append_right _ (List.mem_append_right _ (List.mem_append_left _ (List.mem_of_getElem? (i := 139) rfl))))
set_option maxRecDepth 20000 in
theorem w739 : Cond.instanceMethod yX11_openChannel ∈ lw_tbl := List.mem_append_right _ (List.mem_append_right _ (List.mem_append_right _ (List.mem_append_left _ (List.mem_of_getElem? (i := 141) rfl))))
set_option maxRecDepth 20000 in
theorem w740 : Cond.code yX11_openChannel cX11_openChannel 2 (some .int) ∈ lw_tbl := List.mem_append_right _ (List.mem_append_right _ (List.mem_append_right _ (List.mem_append_left _ (List.mem_of_getElem? (i := 142) rfl))))
set_option maxRecDepth 20000 in
theorem w741 : Cond.methodLink "LetterBroker" 262 yX1_begin ∈ lw_tbl := List.mem_append_right _ (List.mem_append_right _ (List.mem_append_right _ (List.mem_append_left _ (List.mem_of_getElem? (i := 143) rfl))))
set_option maxRecDepth 20000 in
theorem w742 : Cond.instanceMethod yX1_begin ∈ lw_tbl := List.mem_append_right _ (List.mem_append_right _ (List.mem_append_right _ (List.mem_append_left _ (List.mem_of_getElem? (i := 144) rfl))))
set_option maxRecDepth 20000 in
theorem w743 : Cond.selects "LetterBroker$Channel" yX1_begin yX1_begin ∈ lw_tbl := List.mem_append_right _ (List.mem_append_right _ (List.mem_append_right _ (List.mem_append_left _ (List.mem_of_getElem? (i := 145) rfl))))
set_option maxRecDepth 20000 in
theorem w744 : Cond.code yX1_begin cX1_begin 1 none ∈ lw_tbl := List.mem_append_right _ (List.mem_append_right _ (List.mem_append_right _ (List.mem_append_left _ (List.mem_of_getElem? (i := 146) rfl))))
set_option maxRecDepth 20000 in
theorem w745 : Cond.methodLink "LetterBroker" 203 yX11_setFlow ∈ lw_tbl := List.mem_append_right _ (List.mem_append_right _ (List.mem_append_right _ (List.mem_append_left _ (List.mem_of_getElem? (i := 147) rfl))))
set_option maxRecDepth 20000 in
theorem w747 : Cond.instanceMethod yX11_setFlow ∈ lw_tbl := List.mem_append_right _ (List.mem_append_right _ (List.mem_append_right _ (List.mem_append_left _ (List.mem_of_getElem? (i := 149) rfl))))
set_option maxRecDepth 20000 in
theorem w748 : Cond.code yX11_setFlow cX11_setFlow 3 (some .int) ∈ lw_tbl := List.mem_append_right _ (List.mem_append_right _ (List.mem_append_right _ (List.mem_append_left _ (List.mem_of_getElem? (i := 150) rfl))))
set_option maxRecDepth 20000 in
theorem w749 : Cond.methodLink "LetterBroker" 274 yX9_put ∈ lw_tbl := List.mem_append_right _ (List.mem_append_right _ (List.mem_append_right _ (List.mem_append_left _ (List.mem_of_getElem? (i := 151) rfl))))
set_option maxRecDepth 20000 in
theorem w750 : Cond.methodLink "LetterBroker" 206 yX11_closeChannel ∈ lw_tbl := List.mem_append_right _ (List.mem_append_right _ (List.mem_append_right _ (List.mem_append_left _ (List.mem_of_getElem? (i := 152) rfl))))
set_option maxRecDepth 20000 in
theorem w752 : Cond.instanceMethod yX11_closeChannel ∈ lw_tbl := List.mem_append_right _ (List.mem_append_right _ (List.mem_append_right _ (List.mem_append_left _ (List.mem_of_getElem? (i := 154) rfl))))
set_option maxRecDepth 20000 in
theorem w753 : Cond.code yX11_closeChannel cX11_closeChannel 2 (some .int) ∈ lw_tbl := List.mem_append_right _ (List.mem_append_right _ (List.mem_append_right _ (List.mem_append_left _ (List.mem_of_getElem? (i := 155) rfl))))
set_option maxRecDepth 20000 in
theorem w754 : Cond.methodLink "LetterBroker" 209 yX11_declareExchange ∈ lw_tbl := List.mem_append_right _ (List.mem_append_right _ (List.mem_append_right _ (List.mem_append_left _ (List.mem_of_getElem? (i := 156) rfl))))
set_option maxRecDepth 20000 in
theorem w756 : Cond.instanceMethod yX11_declareExchange ∈ lw_tbl := List.mem_append_right _ (List.mem_append_right _ (List.mem_append_right _ (List.mem_append_left _ (List.mem_of_getElem? (i := 158) rfl))))
set_option maxRecDepth 20000 in
theorem w757 : Cond.code yX11_declareExchange cX11_declareExchange 7 (some .int) ∈ lw_tbl := List.mem_append_right _ (List.mem_append_right _ (List.mem_append_right _ (List.mem_append_left _ (List.mem_of_getElem? (i := 159) rfl))))
set_option maxRecDepth 20000 in
theorem w758 : Cond.methodLink "LetterBroker" 283 yX6_readName ∈ lw_tbl := List.mem_append_right _ (List.mem_append_right _ (List.mem_append_right _ (List.mem_append_left _ (List.mem_of_getElem? (i := 160) rfl))))
set_option maxRecDepth 20000 in
theorem w759 : Cond.instanceMethod yX6_readName ∈ lw_tbl := List.mem_append_right _ (List.mem_append_right _ (List.mem_append_right _ (List.mem_append_left _ (List.mem_of_getElem? (i := 161) rfl))))
set_option maxRecDepth 20000 in
theorem w760 : Cond.selects "LetterBroker$Inbox" yX6_readName yX6_readName ∈ lw_tbl := List.mem_append_right _ (List.mem_append_right _ (List.mem_append_right _ (List.mem_append_left _ (List.mem_of_getElem? (i := 162) rfl))))
set_option maxRecDepth 20000 in
theorem w761 : Cond.code yX6_readName cX6_readName 6 (some .long) ∈ lw_tbl := List.mem_append_right _ (List.mem_append_right _ (List.mem_append_right _ (List.mem_append_left _ (List.mem_of_getElem? (i := 163) rfl))))
set_option maxRecDepth 20000 in
theorem w762 : Cond.methodLink "LetterBroker" 287 yX6_readFlag ∈ lw_tbl := List.mem_append_right _ (List.mem_append_right _ (List.mem_append_right _ (List.mem_append_left _ (List.mem_of_getElem? (i := 164) rfl))))
set_option maxRecDepth 20000 in
theorem w763 : Cond.instanceMethod yX6_readFlag ∈ lw_tbl := List.mem_append_right _ (List.mem_append_right _ (List.mem_append_right _ (List.mem_append_left _ (List.mem_of_getElem? (i := 165) rfl))))
set_option maxRecDepth 20000 in
theorem w764 : Cond.selects "LetterBroker$Inbox" yX6_readFlag yX6_readFlag ∈ lw_tbl := List.mem_append_right _ (List.mem_append_right _ (List.mem_append_right _ (List.mem_append_left _ (List.mem_of_getElem? (i := 166) rfl))))
set_option maxRecDepth 20000 in
theorem w765 : Cond.code yX6_readFlag cX6_readFlag 1 (some .boolean) ∈ lw_tbl := List.mem_append_right _ (List.mem_append_right _ (List.mem_append_right _ (List.mem_append_left _ (List.mem_of_getElem? (i := 167) rfl))))
set_option maxRecDepth 20000 in
theorem w766 : Cond.methodLink "LetterBroker" 290 yX8_exchangeNamed ∈ lw_tbl := List.mem_append_right _ (List.mem_append_right _ (List.mem_append_right _ (List.mem_append_left _ (List.mem_of_getElem? (i := 168) rfl))))
set_option maxRecDepth 20000 in
theorem w767 : Cond.instanceMethod yX8_exchangeNamed ∈ lw_tbl := List.mem_append_right _ (List.mem_append_right _ (List.mem_append_right _ (List.mem_append_left _ (List.mem_of_getElem? (i := 169) rfl))))
set_option maxRecDepth 20000 in
theorem w768 : Cond.selects "LetterBroker$Office" yX8_exchangeNamed yX8_exchangeNamed ∈ lw_tbl := List.mem_append_right _ (List.mem_append_right _ (List.mem_append_right _ (List.mem_append_left _ (List.mem_of_getElem? (i := 170) rfl))))
set_option maxRecDepth 20000 in
theorem w769 : Cond.code yX8_exchangeNamed cX8_exchangeNamed 4 (some (.object "LetterBroker$Exchange")) ∈ lw_tbl := List.mem_append_right _ (List.mem_append_right _ (List.mem_append_right _ (List.mem_append_left _ (List.mem_of_getElem? (i := 171) rfl))))
set_option maxRecDepth 20000 in
theorem w770 : Cond.classLink "LetterBroker" 295 "LetterBroker$Exchange" ∈ lw_tbl := List.mem_append_right _ (List.mem_append_right _ (List.mem_append_right _ (List.mem_append_left _ (List.mem_of_getElem? (i := 172) rfl))))
set_option maxRecDepth 20000 in
theorem w771 : Cond.methodLink "LetterBroker" 302 yX5_init ∈ lw_tbl := List.mem_append_right _ (List.mem_append_right _ (List.mem_append_right _ (List.mem_append_left _ (List.mem_of_getElem? (i := 173) rfl))))
set_option maxRecDepth 20000 in
theorem w772 : Cond.methodLink "LetterBroker" 212 yX11_deleteExchange ∈ lw_tbl := List.mem_append_right _ (List.mem_append_right _ (List.mem_append_right _ (List.mem_append_left _ (List.mem_of_getElem? (i := 174) rfl))))
set_option maxRecDepth 20000 in
theorem w774 : Cond.instanceMethod yX11_deleteExchange ∈ lw_tbl := List.mem_append_right _ (List.mem_append_right _ (List.mem_append_right _ (List.mem_append_left _ (List.mem_of_getElem? (i := 176) rfl))))
set_option maxRecDepth 20000 in
theorem w775 : Cond.code yX11_deleteExchange cX11_deleteExchange 6 (some .int) ∈ lw_tbl := List.mem_append_right _ (List.mem_append_right _ (List.mem_append_right _ (List.mem_append_left _ (List.mem_of_getElem? (i := 177) rfl))))
set_option maxRecDepth 20000 in
theorem w776 : Cond.methodLink "LetterBroker" 307 yX8_isBound ∈ lw_tbl := List.mem_append_right _ (List.mem_append_right _ (List.mem_append_right _ (List.mem_append_left _ (List.mem_of_getElem? (i := 178) rfl))))
set_option maxRecDepth 20000 in
theorem w777 : Cond.instanceMethod yX8_isBound ∈ lw_tbl := List.mem_append_right _ (List.mem_append_right _ (List.mem_append_right _ (List.mem_append_left _ (List.mem_of_getElem? (i := 179) rfl))))
set_option maxRecDepth 20000 in
theorem w778 : Cond.selects "LetterBroker$Office" yX8_isBound yX8_isBound ∈ lw_tbl := List.mem_append_right _ (List.mem_append_right _ (List.mem_append_right _ (List.mem_append_left _ (List.mem_of_getElem? (i := 180) rfl))))
set_option maxRecDepth 20000 in
theorem w779 : Cond.code yX8_isBound cX8_isBound 3 (some .boolean) ∈ lw_tbl := List.mem_append_right _ (List.mem_append_right _ (List.mem_append_right _ (List.mem_append_left _ (List.mem_of_getElem? (i := 181) rfl))))
set_option maxRecDepth 20000 in
theorem w780 : Cond.methodLink "LetterBroker" 311 yX8_remove ∈ lw_tbl := List.mem_append_right _ (List.mem_append_right _ (List.mem_append_right _ (List.mem_append_left _ (List.mem_of_getElem? (i := 182) rfl))))
set_option maxRecDepth 20000 in
theorem w781 : Cond.instanceMethod yX8_remove ∈ lw_tbl := List.mem_append_right _ (List.mem_append_right _ (List.mem_append_right _ (List.mem_append_left _ (List.mem_of_getElem? (i := 183) rfl))))
set_option maxRecDepth 20000 in
theorem w782 : Cond.selects "LetterBroker$Office" yX8_remove yX8_remove ∈ lw_tbl := List.mem_append_right _ (List.mem_append_right _ (List.mem_append_right _ (List.mem_append_left _ (List.mem_of_getElem? (i := 184) rfl))))
set_option maxRecDepth 20000 in
theorem w783 : Cond.code yX8_remove cX8_remove 3 none ∈ lw_tbl := List.mem_append_right _ (List.mem_append_right _ (List.mem_append_right _ (List.mem_append_left _ (List.mem_of_getElem? (i := 185) rfl))))
set_option maxRecDepth 20000 in
theorem w784 : Cond.methodLink "LetterBroker" 215 yX11_declareQueue ∈ lw_tbl := List.mem_append_right _ (List.mem_append_right _ (List.mem_append_right _ (List.mem_append_left _ (List.mem_of_getElem? (i := 186) rfl))))
set_option maxRecDepth 20000 in
theorem w786 : Cond.instanceMethod yX11_declareQueue ∈ lw_tbl := List.mem_append_right _ (List.mem_append_right _ (List.mem_append_right _ (List.mem_append_left _ (List.mem_of_getElem? (i := 188) rfl))))
set_option maxRecDepth 20000 in
theorem w787 : Cond.code yX11_declareQueue cX11_declareQueue 6 (some .int) ∈ lw_tbl := List.mem_append_right _ (List.mem_append_right _ (List.mem_append_right _ (List.mem_append_left _ (List.mem_of_getElem? (i := 189) rfl))))
set_option maxRecDepth 20000 in
theorem w788 : Cond.methodLink "LetterBroker" 315 yX8_queueNamed ∈ lw_tbl := List.mem_append_right _ (List.mem_append_right _ (List.mem_append_right _ (List.mem_append_left _ (List.mem_of_getElem? (i := 190) rfl))))
set_option maxRecDepth 20000 in
theorem w789 : Cond.instanceMethod yX8_queueNamed ∈ lw_tbl := List.mem_append_right _ (List.mem_append_right _ (List.mem_append_right _ (List.mem_append_left _ (List.mem_of_getElem? (i := 191) rfl))))
set_option maxRecDepth 20000 in
theorem w790 : Cond.selects "LetterBroker$Office" yX8_queueNamed yX8_queueNamed ∈ lw_tbl := List.mem_append_right _ (List.mem_append_right _ (List.mem_append_right _ (List.mem_append_left _ (List.mem_of_getElem? (i := 192) rfl))))
set_option maxRecDepth 20000 in
theorem w791 : Cond.code yX8_queueNamed cX8_queueNamed 4 (some (.object "LetterBroker$Queue")) ∈ lw_tbl := List.mem_append_right _ (List.mem_append_right _ (List.mem_append_right _ (List.mem_append_left _ (List.mem_of_getElem? (i := 193) rfl))))
set_option maxRecDepth 20000 in
theorem w792 : Cond.classLink "LetterBroker" 104 "LetterBroker$Queue" ∈ lw_tbl := List.mem_append_right _ (List.mem_append_right _ (List.mem_append_right _ (List.mem_append_left _ (List.mem_of_getElem? (i := 194) rfl))))
set_option maxRecDepth 20000 in
theorem w794 : Cond.methodLink "LetterBroker" 319 yX10_init ∈ lw_tbl := List.mem_append_right _ (List.mem_append_right _ (List.mem_append_right _ (List.mem_append_left _ (List.mem_of_getElem? (i := 196) rfl))))
set_option maxRecDepth 20000 in
theorem w795 : Cond.instanceMethod yX10_init ∈ lw_tbl := List.mem_append_right _ (List.mem_append_right _ (List.mem_append_right _ (List.mem_append_left _ (List.mem_of_getElem? (i := 197) rfl))))
set_option maxRecDepth 20000 in
theorem w796 : Cond.code yX10_init cX10_init 3 none ∈ lw_tbl := List.mem_append_right _ (List.mem_append_right _ (List.mem_append_right _ (List.mem_append_left _ (List.mem_of_getElem? (i := 198) rfl))))
set_option maxRecDepth 20000 in
theorem w797 : Cond.methodLink "LetterBroker$Queue" 1 Lib.objectInit ∈ lw_tbl := List.mem_append_right _ (List.mem_append_right _ (List.mem_append_right _ (List.mem_append_left _ (List.mem_of_getElem? (i := 199) rfl))))
set_option maxRecDepth 20000 in
theorem w798 : Cond.classLink "LetterBroker$Queue" 7 "java/util/ArrayList" ∈ lw_tbl := List.mem_append_right _ (List.mem_append_right _ (List.mem_append_right _ (List.mem_append_left _ (List.mem_of_getElem? (i := 200) rfl))))
set_option maxRecDepth 20000 in
theorem w799 : Cond.methodLink "LetterBroker$Queue" 9 yJx4a65c_init_da8c8 ∈ lw_tbl := List.mem_append_right _ (List.mem_append_right _ (List.mem_append_right _ (List.mem_append_left _ (List.mem_of_getElem? (i := 201) rfl))))
set_option maxRecDepth 20000 in
theorem w800 : Cond.fieldLink "LetterBroker$Queue" 16 "LetterBroker$Queue" "name" "J" ∈ lw_tbl := List.mem_append_right _ (List.mem_append_right _ (List.mem_append_right _ (List.mem_append_left _ (List.mem_of_getElem? (i := 202) rfl))))
set_option maxRecDepth 20000 in
theorem w801 : Cond.fieldLink "LetterBroker$Office" 52 "LetterBroker$Queue" "name" "J" ∈ lw_tbl := List.mem_append_right _ (List.mem_append_right _ (List.mem_append_right _ (List.mem_append_left _ (List.mem_of_getElem? (i := 203) rfl))))
set_option maxRecDepth 20000 in
theorem w802 : Cond.fieldLink "LetterBroker$Queue" 10 "LetterBroker$Queue" "waiting" "Ljava/util/List;" ∈ lw_tbl := List.mem_append_right _ (List.mem_append_right _ (List.mem_append_right _ (List.mem_append_left _ (List.mem_of_getElem? (i := 204) rfl))))
set_option maxRecDepth 20000 in
theorem w803 : Cond.fieldLink "LetterBroker$Office" 76 "LetterBroker$Queue" "waiting" "Ljava/util/List;" ∈ lw_tbl := List.mem_append_right _ (List.mem_append_right _ (List.mem_append_right _ (List.mem_append_left _ (List.mem_of_getElem? (i := 205) rfl))))
set_option maxRecDepth 20000 in
theorem w804 : Cond.fieldLink "LetterBroker" 106 "LetterBroker$Queue" "waiting" "Ljava/util/List;" ∈ lw_tbl := List.mem_append_right _ (List.mem_append_right _ (List.mem_append_right _ (List.mem_append_left _ (List.mem_of_getElem? (i := 206) rfl))))
set_option maxRecDepth 20000 in
theorem w805 : Cond.fieldLink "LetterBroker$Office" 96 "LetterBroker$Queue" "latestServed" "I" ∈ lw_tbl := List.mem_append_right _ (List.mem_append_right _ (List.mem_append_right _ (List.mem_append_left _ (List.mem_of_getElem? (i := 207) rfl))))
set_option maxRecDepth 20000 in
theorem w806 : Cond.fieldLink "LetterBroker" 450 "LetterBroker$Queue" "latestServed" "I" ∈ lw_tbl := List.mem_append_right _ (List.mem_append_right _ (List.mem_append_right _ (List.mem_append_left _ (List.mem_of_getElem? (i := 208) rfl))))
set_option maxRecDepth 20000 in
theorem w814 : Cond.methodLink "LetterBroker" 109 yX8_consumersOf ∈ lw_tbl := List.mem_append_right _ (List.mem_append_right _ (List.mem_append_right _ (List.mem_append_left _ (List.mem_of_getElem? (i := 216) rfl))))
set_option maxRecDepth 20000 in
theorem w815 : Cond.instanceMethod yX8_consumersOf ∈ lw_tbl := List.mem_append_right _ (List.mem_append_right _ (List.mem_append_right _ (List.mem_append_left _ (List.mem_of_getElem? (i := 217) rfl))))
set_option maxRecDepth 20000 in
theorem w816 : Cond.selects "LetterBroker$Office" yX8_consumersOf yX8_consumersOf ∈ lw_tbl := List.mem_append_right _ (List.mem_append_right _ (List.mem_append_right _ (List.mem_append_left _ (List.mem_of_getElem? (i := 218) rfl))))
set_option maxRecDepth 20000 in
theorem w817 : Cond.code yX8_consumersOf cX8_consumersOf 4 (some .int) ∈ lw_tbl := List.mem_append_right _ (List.mem_append_right _ (List.mem_append_right _ (List.mem_append_left _ (List.mem_of_getElem? (i := 219) rfl))))
set_option maxRecDepth 20000 in
theorem w818 : Cond.methodLink "LetterBroker" 218 yX11_changeBinding ∈ lw_tbl := List.mem_append_right _ (List.mem_append_right _ (List.mem_append_right _ (List.mem_append_left _ (List.mem_of_getElem? (i := 220) rfl))))
set_option maxRecDepth 20000 in
theorem w820 : Cond.instanceMethod yX11_changeBinding ∈ lw_tbl := List.mem_append_right _ (List.mem_append_right _ (List.mem_append_right _ (List.mem_append_left _ (List.mem_of_getElem? (i := 222) rfl))))
set_option maxRecDepth 20000 in
theorem w821 : Cond.code yX11_changeBinding cX11_changeBinding 8 (some .int) ∈ lw_tbl := List.mem_append_right _ (List.mem_append_right _ (List.mem_append_right _ (List.mem_append_left _ (List.mem_of_getElem? (i := 223) rfl))))
set_option maxRecDepth 20000 in
theorem w822 : Cond.methodLink "LetterBroker" 329 yX8_bindingAt ∈ lw_tbl := List.mem_append_right _ (List.mem_append_right _ (List.mem_append_right _ (List.mem_append_left _ (List.mem_of_getElem? (i := 224) rfl))))
set_option maxRecDepth 20000 in
theorem w823 : Cond.instanceMethod yX8_bindingAt ∈ lw_tbl := List.mem_append_right _ (List.mem_append_right _ (List.mem_append_right _ (List.mem_append_left _ (List.mem_of_getElem? (i := 225) rfl))))
set_option maxRecDepth 20000 in
theorem w824 : Cond.selects "LetterBroker$Office" yX8_bindingAt yX8_bindingAt ∈ lw_tbl := List.mem_append_right _ (List.mem_append_right _ (List.mem_append_right _ (List.mem_append_left _ (List.mem_of_getElem? (i := 226) rfl))))
set_option maxRecDepth 20000 in
theorem w825 : Cond.code yX8_bindingAt cX8_bindingAt 7 (some .int) ∈ lw_tbl := List.mem_append_right _ (List.mem_append_right _ (List.mem_append_right _ (List.mem_append_left _ (List.mem_of_getElem? (i := 227) rfl))))
set_option maxRecDepth 20000 in
theorem w827 : Cond.methodLink "LetterBroker" 336 ⟨"java/util/List", "remove", "(I)Ljava/lang/Object;"⟩ ∈ lw_tbl := List.mem_append_right _ (List.mem_append_right _ (List.mem_append_right _ (List.mem_append_left _ (List.mem_of_getElem? (i := 229) rfl))))
set_option maxRecDepth 20000 in
theorem w828 : Cond.classLink "LetterBroker" 338 "LetterBroker$Binding" ∈ lw_tbl := List.mem_append_right _ (List.mem_append_right _ (List.mem_append_right _ (List.mem_append_left _ (List.mem_of_getElem? (i := 230) rfl))))
set_option maxRecDepth 20000 in
theorem w830 : Cond.methodLink "LetterBroker" 340 yX0_init ∈ lw_tbl := List.mem_append_right _ (List.mem_append_right _ (List.mem_append_right _ (List.mem_append_left _ (List.mem_of_getElem? (i := 232) rfl))))
set_option maxRecDepth 20000 in
theorem w831 : Cond.instanceMethod yX0_init ∈ lw_tbl := List.mem_append_right _ (List.mem_append_right _ (List.mem_append_right _ (List.mem_append_left _ (List.mem_of_getElem? (i := 233) rfl))))
set_option maxRecDepth 20000 in
theorem w832 : Cond.code yX0_init cX0_init 5 none ∈ lw_tbl := List.mem_append_right _ (List.mem_append_right _ (List.mem_append_right _ (List.mem_append_left _ (List.mem_of_getElem? (i := 234) rfl))))
set_option maxRecDepth 20000 in
theorem w833 : Cond.methodLink "LetterBroker$Binding" 3 Lib.objectInit ∈ lw_tbl := List.mem_append_right _ (List.mem_append_right _ (List.mem_append_right _ (List.mem_append_left _ (List.mem_of_getElem? (i := 235) rfl))))
set_option maxRecDepth 20000 in
theorem w834 : Cond.methodLink "LetterBroker$Binding" 23 yX0_wordsOf ∈ lw_tbl := List.mem_append_right _ (List.mem_append_right _ (List.mem_append_right _ (List.mem_append_left _ (List.mem_of_getElem? (i := 236) rfl))))
set_option maxRecDepth 20000 in
theorem w835 : Cond.static yX0_wordsOf ∈ lw_tbl := List.mem_append_right _ (List.mem_append_right _ (List.mem_append_right _ (List.mem_append_left _ (List.mem_of_getElem? (i := 237) rfl))))
set_option maxRecDepth 20000 in
theorem w836 : Cond.code yX0_wordsOf cX0_wordsOf 8 (some (.array .long)) ∈ lw_tbl := List.mem_append_right _ (List.mem_append_right _ (List.mem_append_right _ (List.mem_append_left _ (List.mem_of_getElem? (i := 238) rfl))))
set_option maxRecDepth 20000 in
theorem w837 : Cond.constantLong "LetterBroker$Binding" 45 (255) ∈ lw_tbl := List.mem_append_right _ (List.mem_append_right _ (List.mem_append_right _ (List.mem_append_left _ (List.mem_of_getElem? (i := 239) rfl))))
set_option maxRecDepth 20000 in
theorem w838 : Cond.constantLong "LetterBroker$Binding" 47 (46) ∈ lw_tbl := List.mem_append_right _ (List.mem_append_right _ (List.mem_append_right _ (List.mem_append_right _ (List.mem_append_left _ (List.mem_of_getElem? (i := 0) rfl)))))
set_option maxRecDepth 20000 in
theorem w839 : Cond.fieldLink "LetterBroker$Binding" 9 "LetterBroker$Binding" "queue" "LLetterBroker$Queue;" ∈ lw_tbl := List.mem_append_right _ (List.mem_append_right _ (List.mem_append_right _ (List.mem_append_right _ (List.mem_append_left _ (List.mem_of_getElem? (i := 1) rfl)))))
set_option maxRecDepth 20000 in
theorem w840 : Cond.fieldLink "LetterBroker$Office" 55 "LetterBroker$Binding" "queue" "LLetterBroker$Queue;" ∈ lw_tbl := List.mem_append_right _ (List.mem_append_right _ (List.mem_append_right _ (List.mem_append_right _ (List.mem_append_left _ (List.mem_of_getElem? (i := 2) rfl)))))
set_option maxRecDepth 20000 in
theorem w841 : Cond.fieldLink "LetterBroker$Binding" 15 "LetterBroker$Binding" "exchange" "LLetterBroker$Exchange;" ∈ lw_tbl := List.mem_append_right _ (List.mem_append_right _ (List.mem_append_right _ (List.mem_append_right _ (List.mem_append_left _ (List.mem_of_getElem? (i := 3) rfl)))))
set_option maxRecDepth 20000 in
theorem w842 : Cond.fieldLink "LetterBroker$Office" 59 "LetterBroker$Binding" "exchange" "LLetterBroker$Exchange;" ∈ lw_tbl := List.mem_append_right _ (List.mem_append_right _ (List.mem_append_right _ (List.mem_append_right _ (List.mem_append_left _ (List.mem_of_getElem? (i := 4) rfl)))))
set_option maxRecDepth 20000 in
theorem w843 : Cond.fieldLink "LetterBroker$Binding" 19 "LetterBroker$Binding" "key" "J" ∈ lw_tbl := List.mem_append_right _ (List.mem_append_right _ (List.mem_append_right _ (List.mem_append_right _ (List.mem_append_left _ (List.mem_of_getElem? (i := 5) rfl)))))
set_option maxRecDepth 20000 in
theorem w844 : Cond.fieldLink "LetterBroker$Office" 63 "LetterBroker$Binding" "key" "J" ∈ lw_tbl := List.mem_append_right _ (List.mem_append_right _ (List.mem_append_right _ (List.mem_append_right _ (List.mem_append_left _ (List.mem_of_getElem? (i := 6) rfl)))))
set_option maxRecDepth 20000 in
theorem w845 : Cond.fieldLink "LetterBroker$Binding" 27 "LetterBroker$Binding" "words" "[J" ∈ lw_tbl := List.mem_append_right _ (List.mem_append_right _ (List.mem_append_right _ (List.mem_append_right _ (List.mem_append_left _ (List.mem_of_getElem? (i := 7) rfl)))))
set_option maxRecDepth 20000 in
theorem w856 : Cond.methodLink "LetterBroker" 221 yX11_purge ∈ lw_tbl := List.mem_append_right _ (List.mem_append_right _ (List.mem_append_right _ (List.mem_append_right _ (List.mem_append_left _ (List.mem_of_getElem? (i := 18) rfl)))))
set_option maxRecDepth 20000 in
theorem w858 : Cond.instanceMethod yX11_purge ∈ lw_tbl := List.mem_append_right _ (List.mem_append_right _ (List.mem_append_right _ (List.mem_append_right _ (List.mem_append_left _ (List.mem_of_getElem? (i := 20) rfl)))))
set_option maxRecDepth 20000 in
theorem w859 : Cond.code yX11_purge cX11_purge 3 (some .int) ∈ lw_tbl := List.mem_append_right _ (List.mem_append_right _ (List.mem_append_right _ (List.mem_append_right _ (List.mem_append_left _ (List.mem_of_getElem? (i := 21) rfl)))))
set_option maxRecDepth 20000 in
theorem w861 : Cond.methodLink "LetterBroker" 343 ⟨"java/util/List", "clear", "()V"⟩ ∈ lw_tbl := List.mem_append_right _ (List.mem_append_right _ (List.mem_append_right _ (List.mem_append_right _ (List.mem_append_left _ (List.mem_of_getElem? (i := 23) rfl)))))
set_option maxRecDepth 20000 in
theorem w862 : Cond.methodLink "LetterBroker" 224 yX11_deleteQueue ∈ lw_tbl := List.mem_append_right _ (List.mem_append_right _ (List.mem_append_right _ (List.mem_append_right _ (List.mem_append_left _ (List.mem_of_getElem? (i := 24) rfl)))))
set_option maxRecDepth 20000 in
theorem w864 : Cond.instanceMethod yX11_deleteQueue ∈ lw_tbl := List.mem_append_right _ (List.mem_append_right _ (List.mem_append_right _ (List.mem_append_right _ (List.mem_append_left _ (List.mem_of_getElem? (i := 26) rfl)))))
set_option maxRecDepth 20000 in
theorem w865 : Cond.code yX11_deleteQueue cX11_deleteQueue 6 (some .int) ∈ lw_tbl := List.mem_append_right _ (List.mem_append_right _ (List.mem_append_right _ (List.mem_append_right _ (List.mem_append_left _ (List.mem_of_getElem? (i := 27) rfl)))))
set_option maxRecDepth 20000 in
theorem w867 : Cond.methodLink "LetterBroker" 116 ⟨"java/util/List", "isEmpty", "()Z"⟩ ∈ lw_tbl := List.mem_append_right _ (List.mem_append_right _ (List.mem_append_right _ (List.mem_append_right _ (List.mem_append_left _ (List.mem_of_getElem? (i := 29) rfl)))))
set_option maxRecDepth 20000 in
theorem w870 : Cond.selects "java/util/ArrayList" ⟨"java/util/List", "isEmpty", "()Z"⟩ yJx4a65c_isEmpty_aae02 ∈ lw_tbl := List.mem_append_right _ (List.mem_append_right _ (List.mem_append_right _ (List.mem_append_right _ (List.mem_append_left _ (List.mem_of_getElem? (i := 32) rfl)))))
set_option maxRecDepth 20000 in
theorem w872 : Cond.instanceMethod yJx4a65c_isEmpty_aae02 ∈ lw_tbl := List.mem_append_right _ (List.mem_append_right _ (List.mem_append_right _ (List.mem_append_right _ (List.mem_append_left _ (List.mem_of_getElem? (i := 34) rfl)))))
set_option maxRecDepth 20000 in
theorem w874 : Cond.code yJx4a65c_isEmpty_aae02 cJx4a65c_isEmpty_aae02 1 (some .boolean) ∈ lw_tbl := List.mem_append_right _ (List.mem_append_right _ (List.mem_append_right _ (List.mem_append_right _ (List.mem_append_left _ (List.mem_of_getElem? (i := 36) rfl)))))
set_option maxRecDepth 20000 in
theorem w875 : Cond.methodLink "LetterBroker" 344 yX8_remove_ ∈ lw_tbl := List.mem_append_right _ (List.mem_append_right _ (List.mem_append_right _ (List.mem_append_right _ (List.mem_append_left _ (List.mem_of_getElem? (i := 37) rfl)))))
set_option maxRecDepth 20000 in
theorem w876 : Cond.instanceMethod yX8_remove_ ∈ lw_tbl := List.mem_append_right _ (List.mem_append_right _ (List.mem_append_right _ (List.mem_append_right _ (List.mem_append_left _ (List.mem_of_getElem? (i := 38) rfl)))))
set_option maxRecDepth 20000 in
theorem w877 : Cond.selects "LetterBroker$Office" yX8_remove_ yX8_remove_ ∈ lw_tbl := List.mem_append_right _ (List.mem_append_right _ (List.mem_append_right _ (List.mem_append_right _ (List.mem_append_left _ (List.mem_of_getElem? (i := 39) rfl)))))
set_option maxRecDepth 20000 in
theorem w878 : Cond.code yX8_remove_ cX8_remove_ 3 none ∈ lw_tbl := List.mem_append_right _ (List.mem_append_right _ (List.mem_append_right _ (List.mem_append_right _ (List.mem_append_left _ (List.mem_of_getElem? (i := 40) rfl)))))
set_option maxRecDepth 20000 in
theorem w879 : Cond.methodLink "LetterBroker" 227 yX11_setLimit ∈ lw_tbl := List.mem_append_right _ (List.mem_append_right _ (List.mem_append_right _ (List.mem_append_right _ (List.mem_append_left _ (List.mem_of_getElem? (i := 41) rfl)))))
set_option maxRecDepth 20000 in
theorem w881 : Cond.instanceMethod yX11_setLimit ∈ lw_tbl := List.mem_append_right _ (List.mem_append_right _ (List.mem_append_right _ (List.mem_append_right _ (List.mem_append_left _ (List.mem_of_getElem? (i := 43) rfl)))))
set_option maxRecDepth 20000 in
theorem w882 : Cond.code yX11_setLimit cX11_setLimit 3 (some .int) ∈ lw_tbl := List.mem_append_right _ (List.mem_append_right _ (List.mem_append_right _ (List.mem_append_right _ (List.mem_append_left _ (List.mem_of_getElem? (i := 44) rfl)))))
set_option maxRecDepth 20000 in
theorem w883 : Cond.methodLink "LetterBroker" 230 yX11_consume ∈ lw_tbl := List.mem_append_right _ (List.mem_append_right _ (List.mem_append_right _ (List.mem_append_right _ (List.mem_append_left _ (List.mem_of_getElem? (i := 45) rfl)))))
set_option maxRecDepth 20000 in
theorem w885 : Cond.instanceMethod yX11_consume ∈ lw_tbl := List.mem_append_right _ (List.mem_append_right _ (List.mem_append_right _ (List.mem_append_right _ (List.mem_append_left _ (List.mem_of_getElem? (i := 47) rfl)))))
set_option maxRecDepth 20000 in
theorem w886 : Cond.code yX11_consume cX11_consume 6 (some .int) ∈ lw_tbl := List.mem_append_right _ (List.mem_append_right _ (List.mem_append_right _ (List.mem_append_right _ (List.mem_append_left _ (List.mem_of_getElem? (i := 48) rfl)))))
set_option maxRecDepth 20000 in
theorem w887 : Cond.methodLink "LetterBroker" 347 yX8_consumerAt ∈ lw_tbl := List.mem_append_right _ (List.mem_append_right _ (List.mem_append_right _ (List.mem_append_right _ (List.mem_append_left _ (List.mem_of_getElem? (i := 49) rfl)))))
set_option maxRecDepth 20000 in
theorem w888 : Cond.instanceMethod yX8_consumerAt ∈ lw_tbl := List.mem_append_right _ (List.mem_append_right _ (List.mem_append_right _ (List.mem_append_right _ (List.mem_append_left _ (List.mem_of_getElem? (i := 50) rfl)))))
set_option maxRecDepth 20000 in
theorem w889 : Cond.selects "LetterBroker$Office" yX8_consumerAt yX8_consumerAt ∈ lw_tbl := List.mem_append_right _ (List.mem_append_right _ (List.mem_append_right _ (List.mem_append_right _ (List.mem_append_left _ (List.mem_of_getElem? (i := 51) rfl)))))
set_option maxRecDepth 20000 in
theorem w890 : Cond.code yX8_consumerAt cX8_consumerAt 5 (some .int) ∈ lw_tbl := List.mem_append_right _ (List.mem_append_right _ (List.mem_append_right _ (List.mem_append_right _ (List.mem_append_left _ (List.mem_of_getElem? (i := 52) rfl)))))
set_option maxRecDepth 20000 in
theorem w891 : Cond.methodLink "LetterBroker" 354 yX8_addConsumer ∈ lw_tbl := List.mem_append_right _ (List.mem_append_right _ (List.mem_append_right _ (List.mem_append_right _ (List.mem_append_left _ (List.mem_of_getElem? (i := 53) rfl)))))
set_option maxRecDepth 20000 in
theorem w892 : Cond.instanceMethod yX8_addConsumer ∈ lw_tbl := List.mem_append_right _ (List.mem_append_right _ (List.mem_append_right _ (List.mem_append_right _ (List.mem_append_left _ (List.mem_of_getElem? (i := 54) rfl)))))
set_option maxRecDepth 20000 in
theorem w893 : Cond.selects "LetterBroker$Office" yX8_addConsumer yX8_addConsumer ∈ lw_tbl := List.mem_append_right _ (List.mem_append_right _ (List.mem_append_right _ (List.mem_append_right _ (List.mem_append_left _ (List.mem_of_getElem? (i := 55) rfl)))))
set_option maxRecDepth 20000 in
theorem w894 : Cond.code yX8_addConsumer cX8_addConsumer 6 none ∈ lw_tbl := List.mem_append_right _ (List.mem_append_right _ (List.mem_append_right _ (List.mem_append_right _ (List.mem_append_left _ (List.mem_of_getElem? (i := 56) rfl)))))
set_option maxRecDepth 20000 in
theorem w896 : Cond.methodLink "LetterBroker$Office" 83 yX2_init ∈ lw_tbl := List.mem_append_right _ (List.mem_append_right _ (List.mem_append_right _ (List.mem_append_right _ (List.mem_append_left _ (List.mem_of_getElem? (i := 58) rfl)))))
set_option maxRecDepth 20000 in
theorem w897 : Cond.instanceMethod yX2_init ∈ lw_tbl := List.mem_append_right _ (List.mem_append_right _ (List.mem_append_right _ (List.mem_append_right _ (List.mem_append_left _ (List.mem_of_getElem? (i := 59) rfl)))))
set_option maxRecDepth 20000 in
theorem w898 : Cond.code yX2_init cX2_init 7 none ∈ lw_tbl := List.mem_append_right _ (List.mem_append_right _ (List.mem_append_right _ (List.mem_append_right _ (List.mem_append_left _ (List.mem_of_getElem? (i := 60) rfl)))))
set_option maxRecDepth 20000 in
theorem w899 : Cond.methodLink "LetterBroker$Consumer" 1 Lib.objectInit ∈ lw_tbl := List.mem_append_right _ (List.mem_append_right _ (List.mem_append_right _ (List.mem_append_right _ (List.mem_append_left _ (List.mem_of_getElem? (i := 61) rfl)))))
set_option maxRecDepth 20000 in
theorem w900 : Cond.fieldLink "LetterBroker$Consumer" 7 "LetterBroker$Consumer" "queue" "LLetterBroker$Queue;" ∈ lw_tbl := List.mem_append_right _ (List.mem_append_right _ (List.mem_append_right _ (List.mem_append_right _ (List.mem_append_left _ (List.mem_of_getElem? (i := 62) rfl)))))
set_option maxRecDepth 20000 in
theorem w901 : Cond.fieldLink "LetterBroker$Office" 75 "LetterBroker$Consumer" "queue" "LLetterBroker$Queue;" ∈ lw_tbl := List.mem_append_right _ (List.mem_append_right _ (List.mem_append_right _ (List.mem_append_right _ (List.mem_append_left _ (List.mem_of_getElem? (i := 63) rfl)))))
set_option maxRecDepth 20000 in
theorem w902 : Cond.fieldLink "LetterBroker$Consumer" 13 "LetterBroker$Consumer" "channel" "LLetterBroker$Channel;" ∈ lw_tbl := List.mem_append_right _ (List.mem_append_right _ (List.mem_append_right _ (List.mem_append_right _ (List.mem_append_left _ (List.mem_of_getElem? (i := 64) rfl)))))
set_option maxRecDepth 20000 in
theorem w903 : Cond.fieldLink "LetterBroker$Office" 68 "LetterBroker$Consumer" "channel" "LLetterBroker$Channel;" ∈ lw_tbl := List.mem_append_right _ (List.mem_append_right _ (List.mem_append_right _ (List.mem_append_right _ (List.mem_append_left _ (List.mem_of_getElem? (i := 65) rfl)))))
set_option maxRecDepth 20000 in
theorem w904 : Cond.fieldLink "LetterBroker" 453 "LetterBroker$Consumer" "channel" "LLetterBroker$Channel;" ∈ lw_tbl := List.mem_append_right _ (List.mem_append_right _ (List.mem_append_right _ (List.mem_append_right _ (List.mem_append_left _ (List.mem_of_getElem? (i := 66) rfl)))))
set_option maxRecDepth 20000 in
theorem w905 : Cond.fieldLink "LetterBroker$Consumer" 17 "LetterBroker$Consumer" "tag" "J" ∈ lw_tbl := List.mem_append_right _ (List.mem_append_right _ (List.mem_append_right _ (List.mem_append_right _ (List.mem_append_left _ (List.mem_of_getElem? (i := 67) rfl)))))
set_option maxRecDepth 20000 in
theorem w906 : Cond.fieldLink "LetterBroker$Office" 72 "LetterBroker$Consumer" "tag" "J" ∈ lw_tbl := List.mem_append_right _ (List.mem_append_right _ (List.mem_append_right _ (List.mem_append_right _ (List.mem_append_left _ (List.mem_of_getElem? (i := 68) rfl)))))
set_option maxRecDepth 20000 in
theorem w907 : Cond.fieldLink "LetterBroker" 460 "LetterBroker$Consumer" "tag" "J" ∈ lw_tbl := List.mem_append_right _ (List.mem_append_right _ (List.mem_append_right _ (List.mem_append_right _ (List.mem_append_left _ (List.mem_of_getElem? (i := 69) rfl)))))
set_option maxRecDepth 20000 in
theorem w908 : Cond.fieldLink "LetterBroker$Consumer" 21 "LetterBroker$Consumer" "holdsNothing" "Z" ∈ lw_tbl := List.mem_append_right _ (List.mem_append_right _ (List.mem_append_right _ (List.mem_append_right _ (List.mem_append_left _ (List.mem_of_getElem? (i := 70) rfl)))))
set_option maxRecDepth 20000 in
theorem w909 : Cond.fieldLink "LetterBroker" 457 "LetterBroker$Consumer" "holdsNothing" "Z" ∈ lw_tbl := List.mem_append_right _ (List.mem_append_right _ (List.mem_append_right _ (List.mem_append_right _ (List.mem_append_left _ (List.mem_of_getElem? (i := 71) rfl)))))
set_option maxRecDepth 20000 in
theorem w910 : Cond.fieldLink "LetterBroker$Consumer" 25 "LetterBroker$Consumer" "serial" "I" ∈ lw_tbl := List.mem_append_right _ (List.mem_append_right _ (List.mem_append_right _ (List.mem_append_right _ (List.mem_append_left _ (List.mem_of_getElem? (i := 72) rfl)))))
set_option maxRecDepth 20000 in
theorem w911 : Cond.fieldLink "LetterBroker$Office" 93 "LetterBroker$Consumer" "serial" "I" ∈ lw_tbl := List.mem_append_right _ (List.mem_append_right _ (List.mem_append_right _ (List.mem_append_right _ (List.mem_append_left _ (List.mem_of_getElem? (i := 73) rfl)))))
set_option maxRecDepth 20000 in
theorem w912 : Cond.fieldLink "LetterBroker" 445 "LetterBroker$Consumer" "serial" "I" ∈ lw_tbl := List.mem_append_right _ (List.mem_append_right _ (List.mem_append_right _ (List.mem_append_right _ (List.mem_append_left _ (List.mem_of_getElem? (i := 74) rfl)))))
set_option maxRecDepth 20000 in
theorem w924 : Cond.methodLink "LetterBroker" 233 yX11_cancel ∈ lw_tbl := List.mem_append_right _ (List.mem_append_right _ (List.mem_append_right _ (List.mem_append_right _ (List.mem_append_left _ (List.mem_of_getElem? (i := 86) rfl)))))
set_option maxRecDepth 20000 in
theorem w926 : Cond.instanceMethod yX11_cancel ∈ lw_tbl := List.mem_append_right _ (List.mem_append_right _ (List.mem_append_right _ (List.mem_append_right _ (List.mem_append_left _ (List.mem_of_getElem? (i := 88) rfl)))))
set_option maxRecDepth 20000 in
theorem w927 : Cond.code yX11_cancel cX11_cancel 5 (some .int) ∈ lw_tbl := List.mem_append_right _ (List.mem_append_right _ (List.mem_append_right _ (List.mem_append_right _ (List.mem_append_left _ (List.mem_of_getElem? (i := 89) rfl)))))
set_option maxRecDepth 20000 in
theorem w928 : Cond.methodLink "LetterBroker" 236 yX11_publish ∈ lw_tbl := List.mem_append_right _ (List.mem_append_right _ (List.mem_append_right _ (List.mem_append_right _ (List.mem_append_left _ (List.mem_of_getElem? (i := 90) rfl)))))
set_option maxRecDepth 20000 in
theorem w930 : Cond.instanceMethod yX11_publish ∈ lw_tbl := List.mem_append_right _ (List.mem_append_right _ (List.mem_append_right _ (List.mem_append_right _ (List.mem_append_left _ (List.mem_of_getElem? (i := 92) rfl)))))
set_option maxRecDepth 20000 in
theorem w931 : Cond.code yX11_publish cX11_publish 7 (some .int) ∈ lw_tbl := List.mem_append_right _ (List.mem_append_right _ (List.mem_append_right _ (List.mem_append_right _ (List.mem_append_left _ (List.mem_of_getElem? (i := 93) rfl)))))
set_option maxRecDepth 20000 in
theorem w932 : Cond.classLink "LetterBroker" 175 "LetterBroker$Draft" ∈ lw_tbl := List.mem_append_right _ (List.mem_append_right _ (List.mem_append_right _ (List.mem_append_right _ (List.mem_append_left _ (List.mem_of_getElem? (i := 94) rfl)))))
set_option maxRecDepth 20000 in
theorem w934 : Cond.methodLink "LetterBroker" 358 yX4_init ∈ lw_tbl := List.mem_append_right _ (List.mem_append_right _ (List.mem_append_right _ (List.mem_append_right _ (List.mem_append_left _ (List.mem_of_getElem? (i := 96) rfl)))))
set_option maxRecDepth 20000 in
theorem w935 : Cond.instanceMethod yX4_init ∈ lw_tbl := List.mem_append_right _ (List.mem_append_right _ (List.mem_append_right _ (List.mem_append_right _ (List.mem_append_left _ (List.mem_of_getElem? (i := 97) rfl)))))
set_option maxRecDepth 20000 in
theorem w936 : Cond.code yX4_init cX4_init 6 none ∈ lw_tbl := List.mem_append_right _ (List.mem_append_right _ (List.mem_append_right _ (List.mem_append_right _ (List.mem_append_left _ (List.mem_of_getElem? (i := 98) rfl)))))
set_option maxRecDepth 20000 in
theorem w937 : Cond.methodLink "LetterBroker$Draft" 3 Lib.objectInit ∈ lw_tbl := List.mem_append_right _ (List.mem_append_right _ (List.mem_append_right _ (List.mem_append_right _ (List.mem_append_left _ (List.mem_of_getElem? (i := 99) rfl)))))
set_option maxRecDepth 20000 in
theorem w938 : Cond.methodLink "LetterBroker$Draft" 26 yX0_wordsOf ∈ lw_tbl := List.mem_append_right _ (List.mem_append_right _ (List.mem_append_right _ (List.mem_append_right _ (List.mem_append_left _ (List.mem_of_getElem? (i := 100) rfl)))))
set_option maxRecDepth 20000 in
theorem w939 : Cond.fieldLink "LetterBroker$Draft" 15 "LetterBroker$Draft" "exchange" "J" ∈ lw_tbl := List.mem_append_right _ (List.mem_append_right _ (List.mem_append_right _ (List.mem_append_right _ (List.mem_append_left _ (List.mem_of_getElem? (i := 101) rfl)))))
set_option maxRecDepth 20000 in
theorem w940 : Cond.fieldLink "LetterBroker$Outbox" 55 "LetterBroker$Draft" "exchange" "J" ∈ lw_tbl := List.mem_append_right _ (List.mem_append_right _ (List.mem_append_right _ (List.mem_append_right _ (List.mem_append_left _ (List.mem_of_getElem? (i := 102) rfl)))))
set_option maxRecDepth 20000 in
theorem w941 : Cond.fieldLink "LetterBroker$Office" 111 "LetterBroker$Draft" "exchange" "J" ∈ lw_tbl := List.mem_append_right _ (List.mem_append_right _ (List.mem_append_right _ (List.mem_append_right _ (List.mem_append_left _ (List.mem_of_getElem? (i := 103) rfl)))))
set_option maxRecDepth 20000 in
theorem w942 : Cond.fieldLink "LetterBroker" 417 "LetterBroker$Draft" "exchange" "J" ∈ lw_tbl := List.mem_append_right _ (List.mem_append_right _ (List.mem_append_right _ (List.mem_append_right _ (List.mem_append_left _ (List.mem_of_getElem? (i := 104) rfl)))))
set_option maxRecDepth 20000 in
theorem w943 : Cond.fieldLink "LetterBroker$Draft" 19 "LetterBroker$Draft" "key" "J" ∈ lw_tbl := List.mem_append_right _ (List.mem_append_right _ (List.mem_append_right _ (List.mem_append_right _ (List.mem_append_left _ (List.mem_of_getElem? (i := 105) rfl)))))
set_option maxRecDepth 20000 in
theorem w944 : Cond.fieldLink "LetterBroker$Binding" 37 "LetterBroker$Draft" "key" "J" ∈ lw_tbl := List.mem_append_right _ (List.mem_append_right _ (List.mem_append_right _ (List.mem_append_right _ (List.mem_append_left _ (List.mem_of_getElem? (i := 106) rfl)))))
set_option maxRecDepth 20000 in
theorem w945 : Cond.fieldLink "LetterBroker$Outbox" 65 "LetterBroker$Draft" "key" "J" ∈ lw_tbl := List.mem_append_right _ (List.mem_append_right _ (List.mem_append_right _ (List.mem_append_right _ (List.mem_append_left _ (List.mem_of_getElem? (i := 107) rfl)))))
set_option maxRecDepth 20000 in
theorem w946 : Cond.fieldLink "LetterBroker$Office" 115 "LetterBroker$Draft" "key" "J" ∈ lw_tbl := List.mem_append_right _ (List.mem_append_right _ (List.mem_append_right _ (List.mem_append_right _ (List.mem_append_left _ (List.mem_of_getElem? (i := 108) rfl)))))
set_option maxRecDepth 20000 in
theorem w947 : Cond.fieldLink "LetterBroker" 420 "LetterBroker$Draft" "key" "J" ∈ lw_tbl := List.mem_append_right _ (List.mem_append_right _ (List.mem_append_right _ (List.mem_append_right _ (List.mem_append_left _ (List.mem_of_getElem? (i := 109) rfl)))))
set_option maxRecDepth 20000 in
theorem w948 : Cond.fieldLink "LetterBroker$Draft" 22 "LetterBroker$Draft" "mustReach" "Z" ∈ lw_tbl := List.mem_append_right _ (List.mem_append_right _ (List.mem_append_right _ (List.mem_append_right _ (List.mem_append_left _ (List.mem_of_getElem? (i := 110) rfl)))))
set_option maxRecDepth 20000 in
theorem w949 : Cond.fieldLink "LetterBroker" 400 "LetterBroker$Draft" "mustReach" "Z" ∈ lw_tbl := List.mem_append_right _ (List.mem_append_right _ (List.mem_append_right _ (List.mem_append_right _ (List.mem_append_left _ (List.mem_of_getElem? (i := 111) rfl)))))
set_option maxRecDepth 20000 in
theorem w950 : Cond.fieldLink "LetterBroker$Draft" 32 "LetterBroker$Draft" "words" "[J" ∈ lw_tbl := List.mem_append_right _ (List.mem_append_right _ (List.mem_append_right _ (List.mem_append_right _ (List.mem_append_left _ (List.mem_of_getElem? (i := 112) rfl)))))
set_option maxRecDepth 20000 in
theorem w951 : Cond.fieldLink "LetterBroker$Binding" 42 "LetterBroker$Draft" "words" "[J" ∈ lw_tbl := List.mem_append_right _ (List.mem_append_right _ (List.mem_append_right _ (List.mem_append_right _ (List.mem_append_left _ (List.mem_of_getElem? (i := 113) rfl)))))
set_option maxRecDepth 20000 in
theorem w952 : Cond.fieldLink "LetterBroker$Draft" 11 "LetterBroker$Draft" "length" "I" ∈ lw_tbl := List.mem_append_right _ (List.mem_append_right _ (List.mem_append_right _ (List.mem_append_right _ (List.mem_append_left _ (List.mem_of_getElem? (i := 114) rfl)))))
set_option maxRecDepth 20000 in
theorem w953 : Cond.fieldLink "LetterBroker$Outbox" 68 "LetterBroker$Draft" "length" "I" ∈ lw_tbl := List.mem_append_right _ (List.mem_append_right _ (List.mem_append_right _ (List.mem_append_right _ (List.mem_append_left _ (List.mem_of_getElem? (i := 115) rfl)))))
set_option maxRecDepth 20000 in
theorem w954 : Cond.fieldLink "LetterBroker" 361 "LetterBroker$Draft" "length" "I" ∈ lw_tbl := List.mem_append_right _ (List.mem_append_right _ (List.mem_append_right _ (List.mem_append_right _ (List.mem_append_left _ (List.mem_of_getElem? (i := 116) rfl)))))
set_option maxRecDepth 20000 in
theorem w955 : Cond.fieldLink "LetterBroker$Draft" 39 "LetterBroker$Draft" "body" "J" ∈ lw_tbl := List.mem_append_right _ (List.mem_append_right _ (List.mem_append_right _ (List.mem_append_right _ (List.mem_append_left _ (List.mem_of_getElem? (i := 117) rfl)))))
set_option maxRecDepth 20000 in
theorem w956 : Cond.fieldLink "LetterBroker$Outbox" 71 "LetterBroker$Draft" "body" "J" ∈ lw_tbl := List.mem_append_right _ (List.mem_append_right _ (List.mem_append_right _ (List.mem_append_right _ (List.mem_append_left _ (List.mem_of_getElem? (i := 118) rfl)))))
set_option maxRecDepth 20000 in
theorem w957 : Cond.fieldLink "LetterBroker$Draft" 36 "LetterBroker$Draft" "bodySize" "I" ∈ lw_tbl := List.mem_append_right _ (List.mem_append_right _ (List.mem_append_right _ (List.mem_append_right _ (List.mem_append_left _ (List.mem_of_getElem? (i := 119) rfl)))))
set_option maxRecDepth 20000 in
theorem w973 : Cond.methodLink "LetterBroker" 239 yX11_get ∈ lw_tbl := List.mem_append_right _ (List.mem_append_right _ (List.mem_append_right _ (List.mem_append_right _ (List.mem_append_left _ (List.mem_of_getElem? (i := 135) rfl)))))
set_option maxRecDepth 20000 in
theorem w975 : Cond.instanceMethod yX11_get ∈ lw_tbl := List.mem_append_right _ (List.mem_append_right _ (List.mem_append_right _ (List.mem_append_right _ (List.mem_append_left _ (List.mem_of_getElem? (i := 137) rfl)))))
set_option maxRecDepth 20000 in
theorem w976 : Cond.code yX11_get cX11_get 5 (some .int) ∈ lw_tbl := List.mem_append_right _ (List.mem_append_right _ (List.mem_append_right _ (List.mem_append_right _ (List.mem_append_left _ (List.mem_of_getElem? (i := 138) rfl)))))
set_option maxRecDepth 20000 in
theorem w977 : Cond.classLink "LetterBroker" 120 "LetterBroker$Letter" ∈ lw_tbl := List.mem_append_right _ (List.mem_append_right _ (List.mem_append_right _ (List.mem_append_right _ (List.mem_append_left _ (List.mem_of_getElem? (i := 139) rfl)))))
set_option maxRecDepth 20000 in
theorem w978 : Cond.methodLink "LetterBroker" 426 yX1_take ∈ lw_tbl := List.mem_append_right _ (List.mem_append_right _ (List.mem_append_right _ (List.mem_append_right _ (List.mem_append_left _ (List.mem_of_getElem? (i := 140) rfl)))))
set_option maxRecDepth 20000 in
theorem w979 : Cond.instanceMethod yX1_take ∈ lw_tbl := List.mem_append_right _ (List.mem_append_right _ (List.mem_append_right _ (List.mem_append_right _ (List.mem_append_left _ (List.mem_of_getElem? (i := 141) rfl)))))
set_option maxRecDepth 20000 in
theorem w980 : Cond.selects "LetterBroker$Channel" yX1_take yX1_take ∈ lw_tbl := List.mem_append_right _ (List.mem_append_right _ (List.mem_append_right _ (List.mem_append_right _ (List.mem_append_left _ (List.mem_of_getElem? (i := 142) rfl)))))
set_option maxRecDepth 20000 in
theorem w981 : Cond.code yX1_take cX1_take 3 none ∈ lw_tbl := List.mem_append_right _ (List.mem_append_right _ (List.mem_append_right _ (List.mem_append_right _ (List.mem_append_left _ (List.mem_of_getElem? (i := 143) rfl)))))
set_option maxRecDepth 20000 in
theorem w983 : Cond.methodLink "LetterBroker$Channel" 43 ⟨"java/util/List", "add", "(Ljava/lang/Object;)Z"⟩ ∈ lw_tbl := List.mem_append_right _ (List.mem_append_right _ (List.mem_append_right _ (List.mem_append_right _ (List.mem_append_left _ (List.mem_of_getElem? (i := 145) rfl)))))
set_option maxRecDepth 20000 in
theorem w984 : Cond.methodLink "LetterBroker" 429 yX9_putLetter ∈ lw_tbl := List.mem_append_right _ (List.mem_append_right _ (List.mem_append_right _ (List.mem_append_right _ (List.mem_append_left _ (List.mem_of_getElem? (i := 146) rfl)))))
set_option maxRecDepth 20000 in
theorem w985 : Cond.instanceMethod yX9_putLetter ∈ lw_tbl := List.mem_append_right _ (List.mem_append_right _ (List.mem_append_right _ (List.mem_append_right _ (List.mem_append_left _ (List.mem_of_getElem? (i := 147) rfl)))))
set_option maxRecDepth 20000 in
theorem w986 : Cond.selects "LetterBroker$Outbox" yX9_putLetter yX9_putLetter ∈ lw_tbl := List.mem_append_right _ (List.mem_append_right _ (List.mem_append_right _ (List.mem_append_right _ (List.mem_append_left _ (List.mem_of_getElem? (i := 148) rfl)))))
set_option maxRecDepth 20000 in
theorem w987 : Cond.code yX9_putLetter cX9_putLetter 2 none ∈ lw_tbl := List.mem_append_right _ (List.mem_append_right _ (List.mem_append_right _ (List.mem_append_right _ (List.mem_append_left _ (List.mem_of_getElem? (i := 149) rfl)))))
set_option maxRecDepth 20000 in
theorem w988 : Cond.methodLink "LetterBroker$Outbox" 39 yX9_putShort ∈ lw_tbl := List.mem_append_right _ (List.mem_append_right _ (List.mem_append_right _ (List.mem_append_right _ (List.mem_append_left _ (List.mem_of_getElem? (i := 150) rfl)))))
set_option maxRecDepth 20000 in
theorem w989 : Cond.methodLink "LetterBroker$Outbox" 61 yX9_putName ∈ lw_tbl := List.mem_append_right _ (List.mem_append_right _ (List.mem_append_right _ (List.mem_append_right _ (List.mem_append_left _ (List.mem_of_getElem? (i := 151) rfl)))))
set_option maxRecDepth 20000 in
theorem w990 : Cond.methodLink "LetterBroker" 241 yX11_acknowledge ∈ lw_tbl := List.mem_append_right _ (List.mem_append_right _ (List.mem_append_right _ (List.mem_append_right _ (List.mem_append_left _ (List.mem_of_getElem? (i := 152) rfl)))))
set_option maxRecDepth 20000 in
theorem w992 : Cond.instanceMethod yX11_acknowledge ∈ lw_tbl := List.mem_append_right _ (List.mem_append_right _ (List.mem_append_right _ (List.mem_append_right _ (List.mem_append_left _ (List.mem_of_getElem? (i := 154) rfl)))))
set_option maxRecDepth 20000 in
theorem w993 : Cond.code yX11_acknowledge cX11_acknowledge 4 (some .int) ∈ lw_tbl := List.mem_append_right _ (List.mem_append_right _ (List.mem_append_right _ (List.mem_append_right _ (List.mem_append_left _ (List.mem_of_getElem? (i := 155) rfl)))))
set_option maxRecDepth 20000 in
theorem w994 : Cond.methodLink "LetterBroker" 463 yX11_settle ∈ lw_tbl := List.mem_append_right _ (List.mem_append_right _ (List.mem_append_right _ (List.mem_append_right _ (List.mem_append_left _ (List.mem_of_getElem? (i := 156) rfl)))))
set_option maxRecDepth 20000 in
theorem w996 : Cond.instanceMethod yX11_settle ∈ lw_tbl := List.mem_append_right _ (List.mem_append_right _ (List.mem_append_right _ (List.mem_append_right _ (List.mem_append_left _ (List.mem_of_getElem? (i := 158) rfl)))))
set_option maxRecDepth 20000 in
theorem w997 : Cond.code yX11_settle cX11_settle 6 (some .int) ∈ lw_tbl := List.mem_append_right _ (List.mem_append_right _ (List.mem_append_right _ (List.mem_append_right _ (List.mem_append_left _ (List.mem_of_getElem? (i := 159) rfl)))))
set_option maxRecDepth 20000 in
theorem w998 : Cond.methodLink "LetterBroker" 467 yX3_init_ ∈ lw_tbl := List.mem_append_right _ (List.mem_append_right _ (List.mem_append_right _ (List.mem_append_right _ (List.mem_append_left _ (List.mem_of_getElem? (i := 160) rfl)))))
set_option maxRecDepth 20000 in
theorem w999 : Cond.instanceMethod yX3_init_ ∈ lw_tbl := List.mem_append_right _ (List.mem_append_right _ (List.mem_append_right _ (List.mem_append_right _ (List.mem_append_left _ (List.mem_of_getElem? (i := 161) rfl)))))
set_option maxRecDepth 20000 in
theorem w1000 : Cond.code yX3_init_ cX3_init_ 4 none ∈ lw_tbl := List.mem_append_right _ (List.mem_append_right _ (List.mem_append_right _ (List.mem_append_right _ (List.mem_append_left _ (List.mem_of_getElem? (i := 162) rfl)))))
set_option maxRecDepth 20000 in
theorem w1001 : Cond.methodLink "LetterBroker" 470 yX3_coversAll ∈ lw_tbl := List.mem_append_right _ (List.mem_append_right _ (List.mem_append_right _ (List.mem_append_right _ (List.mem_append_left _ (List.mem_of_getElem? (i := 163) rfl)))))
set_option maxRecDepth 20000 in
theorem w1002 : Cond.instanceMethod yX3_coversAll ∈ lw_tbl := List.mem_append_right _ (List.mem_append_right _ (List.mem_append_right _ (List.mem_append_right _ (List.mem_append_left _ (List.mem_of_getElem? (i := 164) rfl)))))
set_option maxRecDepth 20000 in
theorem w1003 : Cond.selects "LetterBroker$Deed" yX3_coversAll yX3_coversAll ∈ lw_tbl := List.mem_append_right _ (List.mem_append_right _ (List.mem_append_right _ (List.mem_append_right _ (List.mem_append_left _ (List.mem_of_getElem? (i := 165) rfl)))))
set_option maxRecDepth 20000 in
theorem w1004 : Cond.code yX3_coversAll cX3_coversAll 1 (some .boolean) ∈ lw_tbl := List.mem_append_right _ (List.mem_append_right _ (List.mem_append_right _ (List.mem_append_right _ (List.mem_append_left _ (List.mem_of_getElem? (i := 166) rfl)))))
set_option maxRecDepth 20000 in
theorem w1005 : Cond.methodLink "LetterBroker" 473 yX1_holdsSomeOf ∈ lw_tbl := List.mem_append_right _ (List.mem_append_right _ (List.mem_append_right _ (List.mem_append_right _ (List.mem_append_left _ (List.mem_of_getElem? (i := 167) rfl)))))
set_option maxRecDepth 20000 in
theorem w1006 : Cond.instanceMethod yX1_holdsSomeOf ∈ lw_tbl := List.mem_append_right _ (List.mem_append_right _ (List.mem_append_right _ (List.mem_append_right _ (List.mem_append_left _ (List.mem_of_getElem? (i := 168) rfl)))))
set_option maxRecDepth 20000 in
theorem w1007 : Cond.selects "LetterBroker$Channel" yX1_holdsSomeOf yX1_holdsSomeOf ∈ lw_tbl := List.mem_append_right _ (List.mem_append_right _ (List.mem_append_right _ (List.mem_append_right _ (List.mem_append_left _ (List.mem_of_getElem? (i := 169) rfl)))))
set_option maxRecDepth 20000 in
theorem w1008 : Cond.code yX1_holdsSomeOf cX1_holdsSomeOf 3 (some .boolean) ∈ lw_tbl := List.mem_append_right _ (List.mem_append_right _ (List.mem_append_right _ (List.mem_append_right _ (List.mem_append_left _ (List.mem_of_getElem? (i := 170) rfl)))))
set_option maxRecDepth 20000 in
theorem w1009 : Cond.methodLink "LetterBroker$Channel" 57 yX3_covers ∈ lw_tbl := List.mem_append_right _ (List.mem_append_right _ (List.mem_append_right _ (List.mem_append_right _ (List.mem_append_left _ (List.mem_of_getElem? (i := 171) rfl)))))
set_option maxRecDepth 20000 in
theorem w1010 : Cond.instanceMethod yX3_covers ∈ lw_tbl := List.mem_append_right _ (List.mem_append_right _ (List.mem_append_right _ (List.mem_append_right _ (List.mem_append_left _ (List.mem_of_getElem? (i := 172) rfl)))))
set_option maxRecDepth 20000 in
theorem w1011 : Cond.selects "LetterBroker$Deed" yX3_covers yX3_covers ∈ lw_tbl := List.mem_append_right _ (List.mem_append_right _ (List.mem_append_right _ (List.mem_append_right _ (List.mem_append_left _ (List.mem_of_getElem? (i := 173) rfl)))))
set_option maxRecDepth 20000 in
theorem w1012 : Cond.code yX3_covers cX3_covers 2 (some .boolean) ∈ lw_tbl := List.mem_append_right _ (List.mem_append_right _ (List.mem_append_right _ (List.mem_append_right _ (List.mem_append_left _ (List.mem_of_getElem? (i := 174) rfl)))))
set_option maxRecDepth 20000 in
theorem w1013 : Cond.methodLink "LetterBroker$Deed" 24 yX3_coversAll ∈ lw_tbl := List.mem_append_right _ (List.mem_append_right _ (List.mem_append_right _ (List.mem_append_right _ (List.mem_append_left _ (List.mem_of_getElem? (i := 175) rfl)))))
set_option maxRecDepth 20000 in
theorem w1014 : Cond.methodLink "LetterBroker" 477 yX1_settle ∈ lw_tbl := List.mem_append_right _ (List.mem_append_right _ (List.mem_append_right _ (List.mem_append_right _ (List.mem_append_left _ (List.mem_of_getElem? (i := 176) rfl)))))
set_option maxRecDepth 20000 in
theorem w1015 : Cond.instanceMethod yX1_settle ∈ lw_tbl := List.mem_append_right _ (List.mem_append_right _ (List.mem_append_right _ (List.mem_append_right _ (List.mem_append_left _ (List.mem_of_getElem? (i := 177) rfl)))))
set_option maxRecDepth 20000 in
theorem w1016 : Cond.selects "LetterBroker$Channel" yX1_settle yX1_settle ∈ lw_tbl := List.mem_append_right _ (List.mem_append_right _ (List.mem_append_right _ (List.mem_append_right _ (List.mem_append_left _ (List.mem_of_getElem? (i := 178) rfl)))))
set_option maxRecDepth 20000 in
theorem w1017 : Cond.code yX1_settle cX1_settle 4 none ∈ lw_tbl := List.mem_append_right _ (List.mem_append_right _ (List.mem_append_right _ (List.mem_append_right _ (List.mem_append_left _ (List.mem_of_getElem? (i := 179) rfl)))))
set_option maxRecDepth 20000 in
theorem w1019 : Cond.methodLink "LetterBroker$Channel" 63 ⟨"java/util/List", "remove", "(I)Ljava/lang/Object;"⟩ ∈ lw_tbl := List.mem_append_right _ (List.mem_append_right _ (List.mem_append_right _ (List.mem_append_right _ (List.mem_append_left _ (List.mem_of_getElem? (i := 181) rfl)))))
set_option maxRecDepth 20000 in
theorem w1020 : Cond.methodLink "LetterBroker" 244 yX11_reject ∈ lw_tbl := List.mem_append_right _ (List.mem_append_right _ (List.mem_append_right _ (List.mem_append_right _ (List.mem_append_left _ (List.mem_of_getElem? (i := 182) rfl)))))
set_option maxRecDepth 20000 in
theorem w1022 : Cond.instanceMethod yX11_reject ∈ lw_tbl := List.mem_append_right _ (List.mem_append_right _ (List.mem_append_right _ (List.mem_append_right _ (List.mem_append_left _ (List.mem_of_getElem? (i := 184) rfl)))))
set_option maxRecDepth 20000 in
theorem w1023 : Cond.code yX11_reject cX11_reject 4 (some .int) ∈ lw_tbl := List.mem_append_right _ (List.mem_append_right _ (List.mem_append_right _ (List.mem_append_right _ (List.mem_append_left _ (List.mem_of_getElem? (i := 185) rfl)))))
set_option maxRecDepth 20000 in
theorem w1024 : Cond.methodLink "LetterBroker" 247 yX11_recover ∈ lw_tbl := List.mem_append_right _ (List.mem_append_right _ (List.mem_append_right _ (List.mem_append_right _ (List.mem_append_left _ (List.mem_of_getElem? (i := 186) rfl)))))
set_option maxRecDepth 20000 in
theorem w1026 : Cond.instanceMethod yX11_recover ∈ lw_tbl := List.mem_append_right _ (List.mem_append_right _ (List.mem_append_right _ (List.mem_append_right _ (List.mem_append_left _ (List.mem_of_getElem? (i := 188) rfl)))))
set_option maxRecDepth 20000 in
theorem w1027 : Cond.code yX11_recover cX11_recover 2 (some .int) ∈ lw_tbl := List.mem_append_right _ (List.mem_append_right _ (List.mem_append_right _ (List.mem_append_right _ (List.mem_append_left _ (List.mem_of_getElem? (i := 189) rfl)))))
set_option maxRecDepth 20000 in
theorem w1028 : Cond.methodLink "LetterBroker" 250 yX11_refuse ∈ lw_tbl := List.mem_append_right _ (List.mem_append_right _ (List.mem_append_right _ (List.mem_append_right _ (List.mem_append_left _ (List.mem_of_getElem? (i := 190) rfl)))))
set_option maxRecDepth 20000 in
theorem w1030 : Cond.instanceMethod yX11_refuse ∈ lw_tbl := List.mem_append_right _ (List.mem_append_right _ (List.mem_append_right _ (List.mem_append_right _ (List.mem_append_left _ (List.mem_of_getElem? (i := 192) rfl)))))
set_option maxRecDepth 20000 in
theorem w1031 : Cond.code yX11_refuse cX11_refuse 5 (some .int) ∈ lw_tbl := List.mem_append_right _ (List.mem_append_right _ (List.mem_append_right _ (List.mem_append_right _ (List.mem_append_left _ (List.mem_of_getElem? (i := 193) rfl)))))
set_option maxRecDepth 20000 in
theorem w1032 : Cond.methodLink "LetterBroker" 253 yX11_transact ∈ lw_tbl := List.mem_append_right _ (List.mem_append_right _ (List.mem_append_right _ (List.mem_append_right _ (List.mem_append_left _ (List.mem_of_getElem? (i := 194) rfl)))))
set_option maxRecDepth 20000 in
theorem w1034 : Cond.instanceMethod yX11_transact ∈ lw_tbl := List.mem_append_right _ (List.mem_append_right _ (List.mem_append_right _ (List.mem_append_right _ (List.mem_append_left _ (List.mem_of_getElem? (i := 196) rfl)))))
set_option maxRecDepth 20000 in
theorem w1035 : Cond.code yX11_transact cX11_transact 2 (some .int) ∈ lw_tbl := List.mem_append_right _ (List.mem_append_right _ (List.mem_append_right _ (List.mem_append_right _ (List.mem_append_left _ (List.mem_of_getElem? (i := 197) rfl)))))
set_option maxRecDepth 20000 in
theorem w1036 : Cond.methodLink "LetterBroker" 256 yX11_commit ∈ lw_tbl := List.mem_append_right _ (List.mem_append_right _ (List.mem_append_right _ (List.mem_append_right _ (List.mem_append_left _ (List.mem_of_getElem? (i := 198) rfl)))))
set_option maxRecDepth 20000 in
theorem w1038 : Cond.instanceMethod yX11_commit ∈ lw_tbl := List.mem_append_right _ (List.mem_append_right _ (List.mem_append_right _ (List.mem_append_right _ (List.mem_append_left _ (List.mem_of_getElem? (i := 200) rfl)))))
set_option maxRecDepth 20000 in
theorem w1039 : Cond.code yX11_commit cX11_commit 4 (some .int) ∈ lw_tbl := List.mem_append_right _ (List.mem_append_right _ (List.mem_append_right _ (List.mem_append_right _ (List.mem_append_left _ (List.mem_of_getElem? (i := 201) rfl)))))
set_option maxRecDepth 20000 in
theorem w1041 : Cond.methodLink "LetterBroker" 100 ⟨"java/util/List", "get", "(I)Ljava/lang/Object;"⟩ ∈ lw_tbl := List.mem_append_right _ (List.mem_append_right _ (List.mem_append_right _ (List.mem_append_right _ (List.mem_append_left _ (List.mem_of_getElem? (i := 203) rfl)))))
set_option maxRecDepth 20000 in
theorem w1042 : Cond.methodLink "LetterBroker" 259 yX11_rollBack ∈ lw_tbl := List.mem_append_right _ (List.mem_append_right _ (List.mem_append_right _ (List.mem_append_right _ (List.mem_append_left _ (List.mem_of_getElem? (i := 204) rfl)))))
set_option maxRecDepth 20000 in
theorem w1044 : Cond.instanceMethod yX11_rollBack ∈ lw_tbl := List.mem_append_right _ (List.mem_append_right _ (List.mem_append_right _ (List.mem_append_right _ (List.mem_append_left _ (List.mem_of_getElem? (i := 206) rfl)))))
set_option maxRecDepth 20000 in
theorem w1045 : Cond.code yX11_rollBack cX11_rollBack 2 (some .int) ∈ lw_tbl := List.mem_append_right _ (List.mem_append_right _ (List.mem_append_right _ (List.mem_append_right _ (List.mem_append_left _ (List.mem_of_getElem? (i := 207) rfl)))))
set_option maxRecDepth 20000 in
theorem w1046 : Cond.methodLink "LetterBroker" 64 yX11_settleMistake ∈ lw_tbl := List.mem_append_right _ (List.mem_append_right _ (List.mem_append_right _ (List.mem_append_right _ (List.mem_append_left _ (List.mem_of_getElem? (i := 208) rfl)))))
set_option maxRecDepth 20000 in
theorem w1048 : Cond.instanceMethod yX11_settleMistake ∈ lw_tbl := List.mem_append_right _ (List.mem_append_right _ (List.mem_append_right _ (List.mem_append_right _ (List.mem_append_left _ (List.mem_of_getElem? (i := 210) rfl)))))
set_option maxRecDepth 20000 in
theorem w1049 : Cond.code yX11_settleMistake cX11_settleMistake 3 none ∈ lw_tbl := List.mem_append_right _ (List.mem_append_right _ (List.mem_append_right _ (List.mem_append_right _ (List.mem_append_left _ (List.mem_of_getElem? (i := 211) rfl)))))
set_option maxRecDepth 20000 in
theorem w1050 : Cond.methodLink "LetterBroker" 141 yX9_tellMistake ∈ lw_tbl := List.mem_append_right _ (List.mem_append_right _ (List.mem_append_right _ (List.mem_append_right _ (List.mem_append_left _ (List.mem_of_getElem? (i := 212) rfl)))))
set_option maxRecDepth 20000 in
theorem w1051 : Cond.instanceMethod yX9_tellMistake ∈ lw_tbl := List.mem_append_right _ (List.mem_append_right _ (List.mem_append_right _ (List.mem_append_right _ (List.mem_append_left _ (List.mem_of_getElem? (i := 213) rfl)))))
set_option maxRecDepth 20000 in
theorem w1052 : Cond.selects "LetterBroker$Outbox" yX9_tellMistake yX9_tellMistake ∈ lw_tbl := List.mem_append_right _ (List.mem_append_right _ (List.mem_append_right _ (List.mem_append_right _ (List.mem_append_left _ (List.mem_of_getElem? (i := 214) rfl)))))
set_option maxRecDepth 20000 in
theorem w1053 : Cond.code yX9_tellMistake cX9_tellMistake 4 none ∈ lw_tbl := List.mem_append_right _ (List.mem_append_right _ (List.mem_append_right _ (List.mem_append_right _ (List.mem_append_left _ (List.mem_of_getElem? (i := 215) rfl)))))
set_option maxRecDepth 20000 in
theorem w1054 : Cond.methodLink "LetterBroker" 67 yX6_dropHandled ∈ lw_tbl := List.mem_append_right _ (List.mem_append_right _ (List.mem_append_right _ (List.mem_append_right _ (List.mem_append_left _ (List.mem_of_getElem? (i := 216) rfl)))))
set_option maxRecDepth 20000 in
theorem w1055 : Cond.instanceMethod yX6_dropHandled ∈ lw_tbl := List.mem_append_right _ (List.mem_append_right _ (List.mem_append_right _ (List.mem_append_right _ (List.mem_append_left _ (List.mem_of_getElem? (i := 217) rfl)))))
set_option maxRecDepth 20000 in
theorem w1056 : Cond.selects "LetterBroker$Inbox" yX6_dropHandled yX6_dropHandled ∈ lw_tbl := List.mem_append_right _ (List.mem_append_right _ (List.mem_append_right _ (List.mem_append_right _ (List.mem_append_left _ (List.mem_of_getElem? (i := 218) rfl)))))
set_option maxRecDepth 20000 in
theorem w1057 : Cond.code yX6_dropHandled cX6_dropHandled 1 none ∈ lw_tbl := List.mem_append_right _ (List.mem_append_right _ (List.mem_append_right _ (List.mem_append_right _ (List.mem_append_left _ (List.mem_of_getElem? (i := 219) rfl)))))
set_option maxRecDepth 20000 in
theorem w1058 : Cond.methodLink "LetterBroker$Inbox" 39 arraycopyName ∈ lw_tbl := List.mem_append_right _ (List.mem_append_right _ (List.mem_append_right _ (List.mem_append_right _ (List.mem_append_left _ (List.mem_of_getElem? (i := 220) rfl)))))
set_option maxRecDepth 20000 in
theorem w1059 : Cond.methodLink "LetterBroker" 70 yX11_deliverAll ∈ lw_tbl := List.mem_append_right _ (List.mem_append_right _ (List.mem_append_right _ (List.mem_append_right _ (List.mem_append_left _ (List.mem_of_getElem? (i := 221) rfl)))))
set_option maxRecDepth 20000 in
theorem w1061 : Cond.instanceMethod yX11_deliverAll ∈ lw_tbl := List.mem_append_right _ (List.mem_append_right _ (List.mem_append_right _ (List.mem_append_right _ (List.mem_append_left _ (List.mem_of_getElem? (i := 223) rfl)))))
set_option maxRecDepth 20000 in
theorem w1062 : Cond.code yX11_deliverAll cX11_deliverAll 3 none ∈ lw_tbl := List.mem_append_right _ (List.mem_append_right _ (List.mem_append_right _ (List.mem_append_right _ (List.mem_append_left _ (List.mem_of_getElem? (i := 224) rfl)))))
set_option maxRecDepth 20000 in
theorem w1063 : Cond.methodLink "LetterBroker" 434 yX11_deliverNext ∈ lw_tbl := List.mem_append_right _ (List.mem_append_right _ (List.mem_append_right _ (List.mem_append_right _ (List.mem_append_left _ (List.mem_of_getElem? (i := 225) rfl)))))
set_option maxRecDepth 20000 in
theorem w1065 : Cond.instanceMethod yX11_deliverNext ∈ lw_tbl := List.mem_append_right _ (List.mem_append_right _ (List.mem_append_right _ (List.mem_append_right _ (List.mem_append_left _ (List.mem_of_getElem? (i := 227) rfl)))))
set_option maxRecDepth 20000 in
theorem w1066 : Cond.code yX11_deliverNext cX11_deliverNext 4 (some .boolean) ∈ lw_tbl := List.mem_append_right _ (List.mem_append_right _ (List.mem_append_right _ (List.mem_append_right _ (List.mem_append_left _ (List.mem_of_getElem? (i := 228) rfl)))))
set_option maxRecDepth 20000 in
theorem w1067 : Cond.methodLink "LetterBroker" 437 yX8_nextConsumerOf ∈ lw_tbl := List.mem_append_right _ (List.mem_append_right _ (List.mem_append_right _ (List.mem_append_right _ (List.mem_append_left _ (List.mem_of_getElem? (i := 229) rfl)))))
set_option maxRecDepth 20000 in
theorem w1068 : Cond.instanceMethod yX8_nextConsumerOf ∈ lw_tbl := List.mem_append_right _ (List.mem_append_right _ (List.mem_append_right _ (List.mem_append_right _ (List.mem_append_left _ (List.mem_of_getElem? (i := 230) rfl)))))
set_option maxRecDepth 20000 in
theorem w1069 : Cond.selects "LetterBroker$Office" yX8_nextConsumerOf yX8_nextConsumerOf ∈ lw_tbl := List.mem_append_right _ (List.mem_append_right _ (List.mem_append_right _ (List.mem_append_right _ (List.mem_append_left _ (List.mem_of_getElem? (i := 231) rfl)))))
set_option maxRecDepth 20000 in
theorem w1070 : Cond.code yX8_nextConsumerOf cX8_nextConsumerOf 5 (some (.object "LetterBroker$Consumer")) ∈ lw_tbl := List.mem_append_right _ (List.mem_append_right _ (List.mem_append_right _ (List.mem_append_right _ (List.mem_append_left _ (List.mem_of_getElem? (i := 232) rfl)))))
set_option maxRecDepth 20000 in
theorem w1071 : Cond.methodLink "LetterBroker$Office" 89 yX2_isWilling ∈ lw_tbl := List.mem_append_right _ (List.mem_append_right _ (List.mem_append_right _ (List.mem_append_right _ (List.mem_append_left _ (List.mem_of_getElem? (i := 233) rfl)))))
set_option maxRecDepth 20000 in
theorem w1072 : Cond.instanceMethod yX2_isWilling ∈ lw_tbl := List.mem_append_right _ (List.mem_append_right _ (List.mem_append_right _ (List.mem_append_right _ (List.mem_append_left _ (List.mem_of_getElem? (i := 234) rfl)))))
set_option maxRecDepth 20000 in
theorem w1073 : Cond.selects "LetterBroker$Consumer" yX2_isWilling yX2_isWilling ∈ lw_tbl := List.mem_append_right _ (List.mem_append_right _ (List.mem_append_right _ (List.mem_append_right _ (List.mem_append_left _ (List.mem_of_getElem? (i := 235) rfl)))))
set_option maxRecDepth 20000 in
theorem w1074 : Cond.code yX2_isWilling cX2_isWilling 1 (some .boolean) ∈ lw_tbl := List.mem_append_right _ (List.mem_append_right _ (List.mem_append_right _ (List.mem_append_right _ (List.mem_append_left _ (List.mem_of_getElem? (i := 236) rfl)))))
set_option maxRecDepth 20000 in
theorem w1076 : Cond.methodLink "LetterBroker$Consumer" 41 ⟨"java/util/List", "size", "()I"⟩ ∈ lw_tbl := List.mem_append_right _ (List.mem_append_right _ (List.mem_append_right _ (List.mem_append_right _ (List.mem_append_left _ (List.mem_of_getElem? (i := 238) rfl)))))
set_option maxRecDepth 20000 in
theorem w1077 : Cond.methodLink "LetterBroker" 441 yX11_deliver ∈ lw_tbl := List.mem_append_right _ (List.mem_append_right _ (List.mem_append_right _ (List.mem_append_right _ (List.mem_append_left _ (List.mem_of_getElem? (i := 239) rfl)))))
set_option maxRecDepth 20000 in
theorem w1079 : Cond.instanceMethod yX11_deliver ∈ lw_tbl := List.mem_append_right _ (List.mem_append_right _ (List.mem_append_right _ (List.mem_append_right _ (List.mem_append_right _ (List.mem_append_left _ (List.mem_of_getElem? (i := 1) rfl))))))
set_option maxRecDepth 20000 in
theorem w1080 : Cond.code yX11_deliver cX11_deliver 4 none ∈ lw_tbl := List.mem_append_right _ (List.mem_append_right _ (List.mem_append_right _ (List.mem_append_right _ (List.mem_append_right _ (List.mem_append_left _ (List.mem_of_getElem? (i := 2) rfl))))))
set_option maxRecDepth 20000 in
theorem w1081 : Cond.methodLink "LetterBrokerLaw" 25 yX11_ready ∈ lw_tbl := List.mem_append_right _ (List.mem_append_right _ (List.mem_append_right _ (List.mem_append_right _ (List.mem_append_right _ (List.mem_append_left _ (List.mem_of_getElem? (i := 3) rfl))))))
set_option maxRecDepth 20000 in
theorem w1082 : Cond.instanceMethod yX11_ready ∈ lw_tbl := List.mem_append_right _ (List.mem_append_right _ (List.mem_append_right _ (List.mem_append_right _ (List.mem_append_right _ (List.mem_append_left _ (List.mem_of_getElem? (i := 4) rfl))))))
set_option maxRecDepth 20000 in
theorem w1083 : Cond.selects "LetterBroker" yX11_ready yX11_ready ∈ lw_tbl := List.mem_append_right _ (List.mem_append_right _ (List.mem_append_right _ (List.mem_append_right _ (List.mem_append_right _ (List.mem_append_left _ (List.mem_of_getElem? (i := 5) rfl))))))
set_option maxRecDepth 20000 in
theorem w1084 : Cond.code yX11_ready cX11_ready 1 (some .int) ∈ lw_tbl := List.mem_append_right _ (List.mem_append_right _ (List.mem_append_right _ (List.mem_append_right _ (List.mem_append_right _ (List.mem_append_left _ (List.mem_of_getElem? (i := 6) rfl))))))
set_option maxRecDepth 20000 in
theorem w1085 : Cond.methodLink "LetterBrokerLaw" 29 yX11_receive ∈ lw_tbl := List.mem_append_right _ (List.mem_append_right _ (List.mem_append_right _ (List.mem_append_right _ (List.mem_append_right _ (List.mem_append_left _ (List.mem_of_getElem? (i := 7) rfl))))))
set_option maxRecDepth 20000 in
theorem w1086 : Cond.instanceMethod yX11_receive ∈ lw_tbl := List.mem_append_right _ (List.mem_append_right _ (List.mem_append_right _ (List.mem_append_right _ (List.mem_append_right _ (List.mem_append_left _ (List.mem_of_getElem? (i := 8) rfl))))))
set_option maxRecDepth 20000 in
theorem w1087 : Cond.selects "LetterBroker" yX11_receive yX11_receive ∈ lw_tbl := List.mem_append_right _ (List.mem_append_right _ (List.mem_append_right _ (List.mem_append_right _ (List.mem_append_right _ (List.mem_append_left _ (List.mem_of_getElem? (i := 9) rfl))))))
set_option maxRecDepth 20000 in
theorem w1088 : Cond.code yX11_receive cX11_receive 1 (some .int) ∈ lw_tbl := List.mem_append_right _ (List.mem_append_right _ (List.mem_append_right _ (List.mem_append_right _ (List.mem_append_right _ (List.mem_append_left _ (List.mem_of_getElem? (i := 10) rfl))))))
set_option maxRecDepth 20000 in
theorem w1089 : Cond.methodLink "LetterBroker" 73 yX9_take ∈ lw_tbl := List.mem_append_right _ (List.mem_append_right _ (List.mem_append_right _ (List.mem_append_right _ (List.mem_append_right _ (List.mem_append_left _ (List.mem_of_getElem? (i := 11) rfl))))))
set_option maxRecDepth 20000 in
theorem w1090 : Cond.instanceMethod yX9_take ∈ lw_tbl := List.mem_append_right _ (List.mem_append_right _ (List.mem_append_right _ (List.mem_append_right _ (List.mem_append_right _ (List.mem_append_left _ (List.mem_of_getElem? (i := 12) rfl))))))
set_option maxRecDepth 20000 in
theorem w1091 : Cond.selects "LetterBroker$Outbox" yX9_take yX9_take ∈ lw_tbl := List.mem_append_right _ (List.mem_append_right _ (List.mem_append_right _ (List.mem_append_right _ (List.mem_append_right _ (List.mem_append_left _ (List.mem_of_getElem? (i := 13) rfl))))))
set_option maxRecDepth 20000 in
theorem w1092 : Cond.code yX9_take cX9_take 2 (some .int) ∈ lw_tbl := List.mem_append_right _ (List.mem_append_right _ (List.mem_append_right _ (List.mem_append_right _ (List.mem_append_right _ (List.mem_append_left _ (List.mem_of_getElem? (i := 14) rfl))))))
set_option maxRecDepth 20000 in
theorem w1093 : Cond.methodLink "LetterBrokerLaw" 33 yX11_line ∈ lw_tbl := List.mem_append_right _ (List.mem_append_right _ (List.mem_append_right _ (List.mem_append_right _ (List.mem_append_right _ (List.mem_append_left _ (List.mem_of_getElem? (i := 15) rfl))))))
set_option maxRecDepth 20000 in
theorem w1094 : Cond.instanceMethod yX11_line ∈ lw_tbl := List.mem_append_right _ (List.mem_append_right _ (List.mem_append_right _ (List.mem_append_right _ (List.mem_append_right _ (List.mem_append_left _ (List.mem_of_getElem? (i := 16) rfl))))))
set_option maxRecDepth 20000 in
theorem w1095 : Cond.selects "LetterBroker" yX11_line yX11_line ∈ lw_tbl := List.mem_append_right _ (List.mem_append_right _ (List.mem_append_right _ (List.mem_append_right _ (List.mem_append_right _ (List.mem_append_left _ (List.mem_of_getElem? (i := 17) rfl))))))
set_option maxRecDepth 20000 in
theorem w1096 : Cond.code yX11_line cX11_line 1 (some .int) ∈ lw_tbl := List.mem_append_right _ (List.mem_append_right _ (List.mem_append_right _ (List.mem_append_right _ (List.mem_append_right _ (List.mem_append_left _ (List.mem_of_getElem? (i := 18) rfl))))))
set_option maxRecDepth 20000 in
theorem w1097 : Cond.methodLink "LetterBrokerLaw" 37 yX11_connect ∈ lw_tbl := List.mem_append_right _ (List.mem_append_right _ (List.mem_append_right _ (List.mem_append_right _ (List.mem_append_right _ (List.mem_append_left _ (List.mem_of_getElem? (i := 19) rfl))))))
set_option maxRecDepth 20000 in
theorem w1098 : Cond.instanceMethod yX11_connect ∈ lw_tbl := List.mem_append_right _ (List.mem_append_right _ (List.mem_append_right _ (List.mem_append_right _ (List.mem_append_right _ (List.mem_append_left _ (List.mem_of_getElem? (i := 20) rfl))))))
set_option maxRecDepth 20000 in
theorem w1099 : Cond.selects "LetterBroker" yX11_connect yX11_connect ∈ lw_tbl := List.mem_append_right _ (List.mem_append_right _ (List.mem_append_right _ (List.mem_append_right _ (List.mem_append_right _ (List.mem_append_left _ (List.mem_of_getElem? (i := 21) rfl))))))
set_option maxRecDepth 20000 in
theorem w1100 : Cond.code yX11_connect cX11_connect 1 (some .boolean) ∈ lw_tbl := List.mem_append_right _ (List.mem_append_right _ (List.mem_append_right _ (List.mem_append_right _ (List.mem_append_right _ (List.mem_append_left _ (List.mem_of_getElem? (i := 22) rfl))))))
set_option maxRecDepth 20000 in
theorem w1101 : Cond.methodLink "LetterBrokerLaw" 42 yX11_channel ∈ lw_tbl := List.mem_append_right _ (List.mem_append_right _ (List.mem_append_right _ (List.mem_append_right _ (List.mem_append_right _ (List.mem_append_left _ (List.mem_of_getElem? (i := 23) rfl))))))
set_option maxRecDepth 20000 in
theorem w1102 : Cond.instanceMethod yX11_channel ∈ lw_tbl := List.mem_append_right _ (List.mem_append_right _ (List.mem_append_right _ (List.mem_append_right _ (List.mem_append_right _ (List.mem_append_left _ (List.mem_of_getElem? (i := 24) rfl))))))
set_option maxRecDepth 20000 in
theorem w1103 : Cond.selects "LetterBroker" yX11_channel yX11_channel ∈ lw_tbl := List.mem_append_right _ (List.mem_append_right _ (List.mem_append_right _ (List.mem_append_right _ (List.mem_append_right _ (List.mem_append_left _ (List.mem_of_getElem? (i := 25) rfl))))))
set_option maxRecDepth 20000 in
theorem w1104 : Cond.code yX11_channel cX11_channel 4 (some .int) ∈ lw_tbl := List.mem_append_right _ (List.mem_append_right _ (List.mem_append_right _ (List.mem_append_right _ (List.mem_append_right _ (List.mem_append_left _ (List.mem_of_getElem? (i := 26) rfl))))))
set_option maxRecDepth 20000 in
theorem w1105 : Cond.methodLink "LetterBrokerLaw" 47 yX11_queue ∈ lw_tbl := List.mem_append_right _ (List.mem_append_right _ (List.mem_append_right _ (List.mem_append_right _ (List.mem_append_right _ (List.mem_append_left _ (List.mem_of_getElem? (i := 27) rfl))))))
set_option maxRecDepth 20000 in
theorem w1106 : Cond.instanceMethod yX11_queue ∈ lw_tbl := List.mem_append_right _ (List.mem_append_right _ (List.mem_append_right _ (List.mem_append_right _ (List.mem_append_right _ (List.mem_append_left _ (List.mem_of_getElem? (i := 28) rfl))))))
set_option maxRecDepth 20000 in
theorem w1107 : Cond.selects "LetterBroker" yX11_queue yX11_queue ∈ lw_tbl := List.mem_append_right _ (List.mem_append_right _ (List.mem_append_right _ (List.mem_append_right _ (List.mem_append_right _ (List.mem_append_left _ (List.mem_of_getElem? (i := 29) rfl))))))
set_option maxRecDepth 20000 in
theorem w1108 : Cond.code yX11_queue cX11_queue 4 (some .int) ∈ lw_tbl := List.mem_append_right _ (List.mem_append_right _ (List.mem_append_right _ (List.mem_append_right _ (List.mem_append_right _ (List.mem_append_left _ (List.mem_of_getElem? (i := 30) rfl))))))
set_option maxRecDepth 20000 in
theorem w1109 : Cond.methodLink "LetterBroker" 113 yX8_bindingsOf ∈ lw_tbl := List.mem_append_right _ (List.mem_append_right _ (List.mem_append_right _ (List.mem_append_right _ (List.mem_append_right _ (List.mem_append_left _ (List.mem_of_getElem? (i := 31) rfl))))))
set_option maxRecDepth 20000 in
theorem w1110 : Cond.instanceMethod yX8_bindingsOf ∈ lw_tbl := List.mem_append_right _ (List.mem_append_right _ (List.mem_append_right _ (List.mem_append_right _ (List.mem_append_right _ (List.mem_append_left _ (List.mem_of_getElem? (i := 32) rfl))))))
set_option maxRecDepth 20000 in
theorem w1111 : Cond.selects "LetterBroker$Office" yX8_bindingsOf yX8_bindingsOf ∈ lw_tbl := List.mem_append_right _ (List.mem_append_right _ (List.mem_append_right _ (List.mem_append_right _ (List.mem_append_right _ (List.mem_append_left _ (List.mem_of_getElem? (i := 33) rfl))))))
set_option maxRecDepth 20000 in
theorem w1112 : Cond.code yX8_bindingsOf cX8_bindingsOf 4 (some .int) ∈ lw_tbl := List.mem_append_right _ (List.mem_append_right _ (List.mem_append_right _ (List.mem_append_right _ (List.mem_append_right _ (List.mem_append_left _ (List.mem_of_getElem? (i := 34) rfl))))))
set_option maxRecDepth 20000 in
theorem w1113 : Cond.classLink "LetterBrokerLaw" 10 "LetterBrokerModel" ∈ lw_tbl := List.mem_append_right _ (List.mem_append_right _ (List.mem_append_right _ (List.mem_append_right _ (List.mem_append_right _ (List.mem_append_left _ (List.mem_of_getElem? (i := 35) rfl))))))
set_option maxRecDepth 20000 in
theorem w1115 : Cond.methodLink "LetterBrokerLaw" 12 yX12_init ∈ lw_tbl := List.mem_append_right _ (List.mem_append_right _ (List.mem_append_right _ (List.mem_append_right _ (List.mem_append_right _ (List.mem_append_left _ (List.mem_of_getElem? (i := 37) rfl))))))
set_option maxRecDepth 20000 in
theorem w1116 : Cond.instanceMethod yX12_init ∈ lw_tbl := List.mem_append_right _ (List.mem_append_right _ (List.mem_append_right _ (List.mem_append_right _ (List.mem_append_right _ (List.mem_append_left _ (List.mem_of_getElem? (i := 38) rfl))))))
set_option maxRecDepth 20000 in
theorem w1117 : Cond.code yX12_init cX12_init 1 none ∈ lw_tbl := List.mem_append_right _ (List.mem_append_right _ (List.mem_append_right _ (List.mem_append_right _ (List.mem_append_right _ (List.mem_append_left _ (List.mem_of_getElem? (i := 39) rfl))))))
set_option maxRecDepth 20000 in
theorem w1118 : Cond.methodLink "LetterBrokerModel" 1 Lib.objectInit ∈ lw_tbl := List.mem_append_right _ (List.mem_append_right _ (List.mem_append_right _ (List.mem_append_right _ (List.mem_append_right _ (List.mem_append_left _ (List.mem_of_getElem? (i := 40) rfl))))))
set_option maxRecDepth 20000 in
theorem w1119 : Cond.fieldLink "LetterBrokerModel" 207 "LetterBrokerModel" "line" "I" ∈ lw_tbl := List.mem_append_right _ (List.mem_append_right _ (List.mem_append_right _ (List.mem_append_right _ (List.mem_append_right _ (List.mem_append_left _ (List.mem_of_getElem? (i := 41) rfl))))))
set_option maxRecDepth 20000 in
theorem w1120 : Cond.fieldLink "LetterBrokerModel" 7 "LetterBrokerModel" "in" "[I" ∈ lw_tbl := List.mem_append_right _ (List.mem_append_right _ (List.mem_append_right _ (List.mem_append_right _ (List.mem_append_right _ (List.mem_append_left _ (List.mem_of_getElem? (i := 42) rfl))))))
set_option maxRecDepth 20000 in
theorem w1121 : Cond.fieldLink "LetterBrokerModel" 210 "LetterBrokerModel" "inCount" "I" ∈ lw_tbl := List.mem_append_right _ (List.mem_append_right _ (List.mem_append_right _ (List.mem_append_right _ (List.mem_append_right _ (List.mem_append_left _ (List.mem_of_getElem? (i := 43) rfl))))))
set_option maxRecDepth 20000 in
theorem w1122 : Cond.fieldLink "LetterBrokerModel" 13 "LetterBrokerModel" "out" "[I" ∈ lw_tbl := List.mem_append_right _ (List.mem_append_right _ (List.mem_append_right _ (List.mem_append_right _ (List.mem_append_right _ (List.mem_append_left _ (List.mem_of_getElem? (i := 44) rfl))))))
set_option maxRecDepth 20000 in
theorem w1123 : Cond.fieldLink "LetterBrokerModel" 154 "LetterBrokerModel" "outCount" "I" ∈ lw_tbl := List.mem_append_right _ (List.mem_append_right _ (List.mem_append_right _ (List.mem_append_right _ (List.mem_append_right _ (List.mem_append_left _ (List.mem_of_getElem? (i := 45) rfl))))))
set_option maxRecDepth 20000 in
theorem w1124 : Cond.fieldLink "LetterBrokerModel" 16 "LetterBrokerModel" "exchanges" "I" ∈ lw_tbl := List.mem_append_right _ (List.mem_append_right _ (List.mem_append_right _ (List.mem_append_right _ (List.mem_append_right _ (List.mem_append_left _ (List.mem_of_getElem? (i := 46) rfl))))))
set_option maxRecDepth 20000 in
theorem w1125 : Cond.fieldLink "LetterBrokerModel" 20 "LetterBrokerModel" "exchangeNames" "[J" ∈ lw_tbl := List.mem_append_right _ (List.mem_append_right _ (List.mem_append_right _ (List.mem_append_right _ (List.mem_append_right _ (List.mem_append_left _ (List.mem_of_getElem? (i := 47) rfl))))))
set_option maxRecDepth 20000 in
theorem w1126 : Cond.fieldLink "LetterBrokerModel" 24 "LetterBrokerModel" "kinds" "[I" ∈ lw_tbl := List.mem_append_right _ (List.mem_append_right _ (List.mem_append_right _ (List.mem_append_right _ (List.mem_append_right _ (List.mem_append_left _ (List.mem_of_getElem? (i := 48) rfl))))))
set_option maxRecDepth 20000 in
theorem w1127 : Cond.fieldLink "LetterBrokerModel" 185 "LetterBrokerModel" "queues" "I" ∈ lw_tbl := List.mem_append_right _ (List.mem_append_right _ (List.mem_append_right _ (List.mem_append_right _ (List.mem_append_right _ (List.mem_append_left _ (List.mem_of_getElem? (i := 49) rfl))))))
set_option maxRecDepth 20000 in
theorem w1128 : Cond.fieldLink "LetterBrokerModel" 345 "LetterBrokerModel" "queueCount" "I" ∈ lw_tbl := List.mem_append_right _ (List.mem_append_right _ (List.mem_append_right _ (List.mem_append_right _ (List.mem_append_right _ (List.mem_append_left _ (List.mem_of_getElem? (i := 50) rfl))))))
set_option maxRecDepth 20000 in
theorem w1129 : Cond.fieldLink "LetterBrokerModel" 27 "LetterBrokerModel" "queueNames" "[J" ∈ lw_tbl := List.mem_append_right _ (List.mem_append_right _ (List.mem_append_right _ (List.mem_append_right _ (List.mem_append_right _ (List.mem_append_left _ (List.mem_of_getElem? (i := 51) rfl))))))
set_option maxRecDepth 20000 in
theorem w1130 : Cond.fieldLink "LetterBrokerModel" 30 "LetterBrokerModel" "queueNumbers" "[I" ∈ lw_tbl := List.mem_append_right _ (List.mem_append_right _ (List.mem_append_right _ (List.mem_append_right _ (List.mem_append_right _ (List.mem_append_left _ (List.mem_of_getElem? (i := 52) rfl))))))
set_option maxRecDepth 20000 in
theorem w1131 : Cond.fieldLink "LetterBrokerModel" 33 "LetterBrokerModel" "latest" "[I" ∈ lw_tbl := List.mem_append_right _ (List.mem_append_right _ (List.mem_append_right _ (List.mem_append_right _ (List.mem_append_right _ (List.mem_append_left _ (List.mem_of_getElem? (i := 53) rfl))))))
set_option maxRecDepth 20000 in
theorem w1132 : Cond.fieldLink "LetterBrokerModel" 222 "LetterBrokerModel" "bindings" "I" ∈ lw_tbl := List.mem_append_right _ (List.mem_append_right _ (List.mem_append_right _ (List.mem_append_right _ (List.mem_append_right _ (List.mem_append_left _ (List.mem_of_getElem? (i := 54) rfl))))))
set_option maxRecDepth 20000 in
theorem w1133 : Cond.fieldLink "LetterBrokerModel" 36 "LetterBrokerModel" "boundQueues" "[J" ∈ lw_tbl := List.mem_append_right _ (List.mem_append_right _ (List.mem_append_right _ (List.mem_append_right _ (List.mem_append_right _ (List.mem_append_left _ (List.mem_of_getElem? (i := 55) rfl))))))
set_option maxRecDepth 20000 in
theorem w1134 : Cond.fieldLink "LetterBrokerModel" 39 "LetterBrokerModel" "boundExchanges" "[J" ∈ lw_tbl := List.mem_append_right _ (List.mem_append_right _ (List.mem_append_right _ (List.mem_append_right _ (List.mem_append_right _ (List.mem_append_left _ (List.mem_of_getElem? (i := 56) rfl))))))
set_option maxRecDepth 20000 in
theorem w1135 : Cond.fieldLink "LetterBrokerModel" 42 "LetterBrokerModel" "boundKeys" "[J" ∈ lw_tbl := List.mem_append_right _ (List.mem_append_right _ (List.mem_append_right _ (List.mem_append_right _ (List.mem_append_right _ (List.mem_append_left _ (List.mem_of_getElem? (i := 57) rfl))))))
set_option maxRecDepth 20000 in
theorem w1136 : Cond.fieldLink "LetterBrokerModel" 198 "LetterBrokerModel" "consumers" "I" ∈ lw_tbl := List.mem_append_right _ (List.mem_append_right _ (List.mem_append_right _ (List.mem_append_right _ (List.mem_append_right _ (List.mem_append_left _ (List.mem_of_getElem? (i := 58) rfl))))))
set_option maxRecDepth 20000 in
theorem w1137 : Cond.fieldLink "LetterBrokerModel" 377 "LetterBrokerModel" "came" "I" ∈ lw_tbl := List.mem_append_right _ (List.mem_append_right _ (List.mem_append_right _ (List.mem_append_right _ (List.mem_append_right _ (List.mem_append_left _ (List.mem_of_getElem? (i := 59) rfl))))))
set_option maxRecDepth 20000 in
theorem w1138 : Cond.fieldLink "LetterBrokerModel" 45 "LetterBrokerModel" "consumerNumbers" "[I" ∈ lw_tbl := List.mem_append_right _ (List.mem_append_right _ (List.mem_append_right _ (List.mem_append_right _ (List.mem_append_right _ (List.mem_append_left _ (List.mem_of_getElem? (i := 60) rfl))))))
set_option maxRecDepth 20000 in
theorem w1139 : Cond.fieldLink "LetterBrokerModel" 48 "LetterBrokerModel" "consumerChannels" "[I" ∈ lw_tbl := List.mem_append_right _ (List.mem_append_right _ (List.mem_append_right _ (List.mem_append_right _ (List.mem_append_right _ (List.mem_append_left _ (List.mem_of_getElem? (i := 61) rfl))))))
set_option maxRecDepth 20000 in
theorem w1140 : Cond.fieldLink "LetterBrokerModel" 51 "LetterBrokerModel" "consumerTags" "[J" ∈ lw_tbl := List.mem_append_right _ (List.mem_append_right _ (List.mem_append_right _ (List.mem_append_right _ (List.mem_append_right _ (List.mem_append_left _ (List.mem_of_getElem? (i := 62) rfl))))))
set_option maxRecDepth 20000 in
theorem w1141 : Cond.fieldLink "LetterBrokerModel" 54 "LetterBrokerModel" "consumerQueues" "[I" ∈ lw_tbl := List.mem_append_right _ (List.mem_append_right _ (List.mem_append_right _ (List.mem_append_right _ (List.mem_append_right _ (List.mem_append_left _ (List.mem_of_getElem? (i := 63) rfl))))))
set_option maxRecDepth 20000 in
theorem w1142 : Cond.fieldLink "LetterBrokerModel" 57 "LetterBrokerModel" "consumerFree" "[Z" ∈ lw_tbl := List.mem_append_right _ (List.mem_append_right _ (List.mem_append_right _ (List.mem_append_right _ (List.mem_append_right _ (List.mem_append_left _ (List.mem_of_getElem? (i := 64) rfl))))))
set_option maxRecDepth 20000 in
theorem w1143 : Cond.fieldLink "LetterBrokerModel" 179 "LetterBrokerModel" "letters" "I" ∈ lw_tbl := List.mem_append_right _ (List.mem_append_right _ (List.mem_append_right _ (List.mem_append_right _ (List.mem_append_right _ (List.mem_append_left _ (List.mem_of_getElem? (i := 65) rfl))))))
set_option maxRecDepth 20000 in
theorem w1144 : Cond.fieldLink "LetterBrokerModel" 255 "LetterBrokerModel" "numbered" "I" ∈ lw_tbl := List.mem_append_right _ (List.mem_append_right _ (List.mem_append_right _ (List.mem_append_right _ (List.mem_append_right _ (List.mem_append_left _ (List.mem_of_getElem? (i := 66) rfl))))))
set_option maxRecDepth 20000 in
theorem w1145 : Cond.fieldLink "LetterBrokerModel" 61 "LetterBrokerModel" "letterNumbers" "[I" ∈ lw_tbl := List.mem_append_right _ (List.mem_append_right _ (List.mem_append_right _ (List.mem_append_right _ (List.mem_append_right _ (List.mem_append_left _ (List.mem_of_getElem? (i := 67) rfl))))))
set_option maxRecDepth 20000 in
theorem w1146 : Cond.fieldLink "LetterBrokerModel" 64 "LetterBrokerModel" "letterQueues" "[I" ∈ lw_tbl := List.mem_append_right _ (List.mem_append_right _ (List.mem_append_right _ (List.mem_append_right _ (List.mem_append_right _ (List.mem_append_left _ (List.mem_of_getElem? (i := 68) rfl))))))
set_option maxRecDepth 20000 in
theorem w1147 : Cond.fieldLink "LetterBrokerModel" 67 "LetterBrokerModel" "holders" "[I" ∈ lw_tbl := List.mem_append_right _ (List.mem_append_right _ (List.mem_append_right _ (List.mem_append_right _ (List.mem_append_right _ (List.mem_append_left _ (List.mem_of_getElem? (i := 69) rfl))))))
set_option maxRecDepth 20000 in
theorem w1148 : Cond.fieldLink "LetterBrokerModel" 70 "LetterBrokerModel" "tags" "[I" ∈ lw_tbl := List.mem_append_right _ (List.mem_append_right _ (List.mem_append_right _ (List.mem_append_right _ (List.mem_append_right _ (List.mem_append_left _ (List.mem_of_getElem? (i := 70) rfl))))))
set_option maxRecDepth 20000 in
theorem w1149 : Cond.fieldLink "LetterBrokerModel" 73 "LetterBrokerModel" "again" "[Z" ∈ lw_tbl := List.mem_append_right _ (List.mem_append_right _ (List.mem_append_right _ (List.mem_append_right _ (List.mem_append_right _ (List.mem_append_left _ (List.mem_of_getElem? (i := 71) rfl))))))
set_option maxRecDepth 20000 in
theorem w1150 : Cond.fieldLink "LetterBrokerModel" 76 "LetterBrokerModel" "letterExchanges" "[J" ∈ lw_tbl := List.mem_append_right _ (List.mem_append_right _ (List.mem_append_right _ (List.mem_append_right _ (List.mem_append_right _ (List.mem_append_left _ (List.mem_of_getElem? (i := 72) rfl))))))
set_option maxRecDepth 20000 in
theorem w1151 : Cond.fieldLink "LetterBrokerModel" 79 "LetterBrokerModel" "letterKeys" "[J" ∈ lw_tbl := List.mem_append_right _ (List.mem_append_right _ (List.mem_append_right _ (List.mem_append_right _ (List.mem_append_right _ (List.mem_append_left _ (List.mem_of_getElem? (i := 73) rfl))))))
set_option maxRecDepth 20000 in
theorem w1152 : Cond.fieldLink "LetterBrokerModel" 82 "LetterBrokerModel" "sizes" "[I" ∈ lw_tbl := List.mem_append_right _ (List.mem_append_right _ (List.mem_append_right _ (List.mem_append_right _ (List.mem_append_right _ (List.mem_append_left _ (List.mem_of_getElem? (i := 74) rfl))))))
set_option maxRecDepth 20000 in
theorem w1153 : Cond.fieldLink "LetterBrokerModel" 85 "LetterBrokerModel" "contents" "[J" ∈ lw_tbl := List.mem_append_right _ (List.mem_append_right _ (List.mem_append_right _ (List.mem_append_right _ (List.mem_append_right _ (List.mem_append_left _ (List.mem_of_getElem? (i := 75) rfl))))))
set_option maxRecDepth 20000 in
theorem w1154 : Cond.fieldLink "LetterBrokerModel" 88 "LetterBrokerModel" "states" "[I" ∈ lw_tbl := List.mem_append_right _ (List.mem_append_right _ (List.mem_append_right _ (List.mem_append_right _ (List.mem_append_right _ (List.mem_append_left _ (List.mem_of_getElem? (i := 76) rfl))))))
set_option maxRecDepth 20000 in
theorem w1155 : Cond.fieldLink "LetterBrokerModel" 91 "LetterBrokerModel" "limits" "[I" ∈ lw_tbl := List.mem_append_right _ (List.mem_append_right _ (List.mem_append_right _ (List.mem_append_right _ (List.mem_append_right _ (List.mem_append_left _ (List.mem_of_getElem? (i := 77) rfl))))))
set_option maxRecDepth 20000 in
theorem w1156 : Cond.fieldLink "LetterBrokerModel" 94 "LetterBrokerModel" "flows" "[Z" ∈ lw_tbl := List.mem_append_right _ (List.mem_append_right _ (List.mem_append_right _ (List.mem_append_right _ (List.mem_append_right _ (List.mem_append_left _ (List.mem_of_getElem? (i := 78) rfl))))))
set_option maxRecDepth 20000 in
theorem w1157 : Cond.fieldLink "LetterBrokerModel" 97 "LetterBrokerModel" "counts" "[I" ∈ lw_tbl := List.mem_append_right _ (List.mem_append_right _ (List.mem_append_right _ (List.mem_append_right _ (List.mem_append_right _ (List.mem_append_left _ (List.mem_of_getElem? (i := 79) rfl))))))
set_option maxRecDepth 20000 in
theorem w1158 : Cond.fieldLink "LetterBrokerModel" 100 "LetterBrokerModel" "transacted" "[Z" ∈ lw_tbl := List.mem_append_right _ (List.mem_append_right _ (List.mem_append_right _ (List.mem_append_right _ (List.mem_append_right _ (List.mem_append_left _ (List.mem_of_getElem? (i := 80) rfl))))))
set_option maxRecDepth 20000 in
theorem w1159 : Cond.fieldLink "LetterBrokerModel" 103 "LetterBrokerModel" "due" "[I" ∈ lw_tbl := List.mem_append_right _ (List.mem_append_right _ (List.mem_append_right _ (List.mem_append_right _ (List.mem_append_right _ (List.mem_append_left _ (List.mem_of_getElem? (i := 81) rfl))))))
set_option maxRecDepth 20000 in
theorem w1160 : Cond.fieldLink "LetterBrokerModel" 106 "LetterBrokerModel" "comingExchanges" "[J" ∈ lw_tbl := List.mem_append_right _ (List.mem_append_right _ (List.mem_append_right _ (List.mem_append_right _ (List.mem_append_right _ (List.mem_append_left _ (List.mem_of_getElem? (i := 82) rfl))))))
set_option maxRecDepth 20000 in
theorem w1161 : Cond.fieldLink "LetterBrokerModel" 109 "LetterBrokerModel" "comingKeys" "[J" ∈ lw_tbl := List.mem_append_right _ (List.mem_append_right _ (List.mem_append_right _ (List.mem_append_right _ (List.mem_append_right _ (List.mem_append_left _ (List.mem_of_getElem? (i := 83) rfl))))))
set_option maxRecDepth 20000 in
theorem w1162 : Cond.fieldLink "LetterBrokerModel" 112 "LetterBrokerModel" "comingMust" "[Z" ∈ lw_tbl := List.mem_append_right _ (List.mem_append_right _ (List.mem_append_right _ (List.mem_append_right _ (List.mem_append_right _ (List.mem_append_left _ (List.mem_of_getElem? (i := 84) rfl))))))
set_option maxRecDepth 20000 in
theorem w1163 : Cond.fieldLink "LetterBrokerModel" 115 "LetterBrokerModel" "comingSizes" "[I" ∈ lw_tbl := List.mem_append_right _ (List.mem_append_right _ (List.mem_append_right _ (List.mem_append_right _ (List.mem_append_right _ (List.mem_append_left _ (List.mem_of_getElem? (i := 85) rfl))))))
set_option maxRecDepth 20000 in
theorem w1164 : Cond.fieldLink "LetterBrokerModel" 118 "LetterBrokerModel" "comingLacks" "[I" ∈ lw_tbl := List.mem_append_right _ (List.mem_append_right _ (List.mem_append_right _ (List.mem_append_right _ (List.mem_append_right _ (List.mem_append_left _ (List.mem_of_getElem? (i := 86) rfl))))))
set_option maxRecDepth 20000 in
theorem w1165 : Cond.fieldLink "LetterBrokerModel" 121 "LetterBrokerModel" "comingContents" "[J" ∈ lw_tbl := List.mem_append_right _ (List.mem_append_right _ (List.mem_append_right _ (List.mem_append_right _ (List.mem_append_right _ (List.mem_append_left _ (List.mem_of_getElem? (i := 87) rfl))))))
set_option maxRecDepth 20000 in
theorem w1166 : Cond.fieldLink "LetterBrokerModel" 124 "LetterBrokerModel" "keptCounts" "[I" ∈ lw_tbl := List.mem_append_right _ (List.mem_append_right _ (List.mem_append_right _ (List.mem_append_right _ (List.mem_append_right _ (List.mem_append_left _ (List.mem_of_getElem? (i := 88) rfl))))))
set_option maxRecDepth 20000 in
theorem w1167 : Cond.fieldLink "LetterBrokerModel" 127 "LetterBrokerModel" "keptKinds" "[I" ∈ lw_tbl := List.mem_append_right _ (List.mem_append_right _ (List.mem_append_right _ (List.mem_append_right _ (List.mem_append_right _ (List.mem_append_left _ (List.mem_of_getElem? (i := 89) rfl))))))
set_option maxRecDepth 20000 in
theorem w1168 : Cond.fieldLink "LetterBrokerModel" 130 "LetterBrokerModel" "keptOnes" "[J" ∈ lw_tbl := List.mem_append_right _ (List.mem_append_right _ (List.mem_append_right _ (List.mem_append_right _ (List.mem_append_right _ (List.mem_append_left _ (List.mem_of_getElem? (i := 90) rfl))))))
set_option maxRecDepth 20000 in
theorem w1169 : Cond.fieldLink "LetterBrokerModel" 133 "LetterBrokerModel" "keptTwos" "[J" ∈ lw_tbl := List.mem_append_right _ (List.mem_append_right _ (List.mem_append_right _ (List.mem_append_right _ (List.mem_append_right _ (List.mem_append_left _ (List.mem_of_getElem? (i := 91) rfl))))))
set_option maxRecDepth 20000 in
theorem w1170 : Cond.fieldLink "LetterBrokerModel" 136 "LetterBrokerModel" "keptAll" "[Z" ∈ lw_tbl := List.mem_append_right _ (List.mem_append_right _ (List.mem_append_right _ (List.mem_append_right _ (List.mem_append_right _ (List.mem_append_left _ (List.mem_of_getElem? (i := 92) rfl))))))
set_option maxRecDepth 20000 in
theorem w1171 : Cond.fieldLink "LetterBrokerModel" 139 "LetterBrokerModel" "keptSizes" "[I" ∈ lw_tbl := List.mem_append_right _ (List.mem_append_right _ (List.mem_append_right _ (List.mem_append_right _ (List.mem_append_right _ (List.mem_append_left _ (List.mem_of_getElem? (i := 93) rfl))))))
set_option maxRecDepth 20000 in
theorem w1172 : Cond.fieldLink "LetterBrokerModel" 142 "LetterBrokerModel" "keptContents" "[J" ∈ lw_tbl := List.mem_append_right _ (List.mem_append_right _ (List.mem_append_right _ (List.mem_append_right _ (List.mem_append_right _ (List.mem_append_left _ (List.mem_of_getElem? (i := 94) rfl))))))
set_option maxRecDepth 20000 in
theorem w1173 : Cond.fieldLink "LetterBrokerModel" 318 "LetterBrokerModel" "channel" "I" ∈ lw_tbl := List.mem_append_right _ (List.mem_append_right _ (List.mem_append_right _ (List.mem_append_right _ (List.mem_append_right _ (List.mem_append_left _ (List.mem_of_getElem? (i := 95) rfl))))))
set_option maxRecDepth 20000 in
theorem w1174 : Cond.fieldLink "LetterBrokerModel" 301 "LetterBrokerModel" "at" "I" ∈ lw_tbl := List.mem_append_right _ (List.mem_append_right _ (List.mem_append_right _ (List.mem_append_right _ (List.mem_append_right _ (List.mem_append_left _ (List.mem_of_getElem? (i := 96) rfl))))))
set_option maxRecDepth 20000 in
theorem w1175 : Cond.fieldLink "LetterBrokerModel" 304 "LetterBrokerModel" "end" "I" ∈ lw_tbl := List.mem_append_right _ (List.mem_append_right _ (List.mem_append_right _ (List.mem_append_right _ (List.mem_append_right _ (List.mem_append_left _ (List.mem_of_getElem? (i := 97) rfl))))))
set_option maxRecDepth 20000 in
theorem w1176 : Cond.fieldLink "LetterBrokerModel" 307 "LetterBrokerModel" "broken" "Z" ∈ lw_tbl := List.mem_append_right _ (List.mem_append_right _ (List.mem_append_right _ (List.mem_append_right _ (List.mem_append_right _ (List.mem_append_left _ (List.mem_of_getElem? (i := 98) rfl))))))
set_option maxRecDepth 20000 in
theorem w1177 : Cond.fieldLink "LetterBrokerModel" 145 "LetterBrokerModel" "keyWords" "[J" ∈ lw_tbl := List.mem_append_right _ (List.mem_append_right _ (List.mem_append_right _ (List.mem_append_right _ (List.mem_append_right _ (List.mem_append_left _ (List.mem_of_getElem? (i := 99) rfl))))))
set_option maxRecDepth 20000 in
theorem w1178 : Cond.fieldLink "LetterBrokerModel" 148 "LetterBrokerModel" "patternWords" "[J" ∈ lw_tbl := List.mem_append_right _ (List.mem_append_right _ (List.mem_append_right _ (List.mem_append_right _ (List.mem_append_right _ (List.mem_append_left _ (List.mem_of_getElem? (i := 100) rfl))))))
set_option maxRecDepth 20000 in
theorem w1179 : Cond.fieldLink "LetterBrokerModel" 151 "LetterBrokerModel" "fitted" "[Z" ∈ lw_tbl := List.mem_append_right _ (List.mem_append_right _ (List.mem_append_right _ (List.mem_append_right _ (List.mem_append_right _ (List.mem_append_left _ (List.mem_of_getElem? (i := 101) rfl))))))
set_option maxRecDepth 20000 in
theorem w1180 : Cond.fieldLink "LetterBrokerModel" 161 "LetterBrokerModel" "begun" "I" ∈ lw_tbl := List.mem_append_right _ (List.mem_append_right _ (List.mem_append_right _ (List.mem_append_right _ (List.mem_append_right _ (List.mem_append_left _ (List.mem_of_getElem? (i := 102) rfl))))))
set_option maxRecDepth 20000 in
theorem w1307 : Cond.methodLink "LetterBrokerLaw" 19 yX12_send ∈ lw_tbl := List.mem_append_right _ (List.mem_append_right _ (List.mem_append_right _ (List.mem_append_right _ (List.mem_append_right _ (List.mem_append_left _ (List.mem_of_getElem? (i := 229) rfl))))))
set_option maxRecDepth 20000 in
theorem w1308 : Cond.instanceMethod yX12_send ∈ lw_tbl := List.mem_append_right _ (List.mem_append_right _ (List.mem_append_right _ (List.mem_append_right _ (List.mem_append_right _ (List.mem_append_left _ (List.mem_of_getElem? (i := 230) rfl))))))
set_option maxRecDepth 20000 in
theorem w1309 : Cond.selects "LetterBrokerModel" yX12_send yX12_send ∈ lw_tbl := List.mem_append_right _ (List.mem_append_right _ (List.mem_append_right _ (List.mem_append_right _ (List.mem_append_right _ (List.mem_append_left _ (List.mem_of_getElem? (i := 231) rfl))))))
set_option maxRecDepth 20000 in
theorem w1310 : Cond.code yX12_send cX12_send 5 (some .int) ∈ lw_tbl := List.mem_append_right _ (List.mem_append_right _ (List.mem_append_right _ (List.mem_append_right _ (List.mem_append_right _ (List.mem_append_left _ (List.mem_of_getElem? (i := 232) rfl))))))
set_option maxRecDepth 20000 in
theorem w1311 : Cond.constantLong "LetterBrokerModel" 225 (255) ∈ lw_tbl := List.mem_append_right _ (List.mem_append_right _ (List.mem_append_right _ (List.mem_append_right _ (List.mem_append_right _ (List.mem_append_left _ (List.mem_of_getElem? (i := 233) rfl))))))
set_option maxRecDepth 20000 in
theorem w1312 : Cond.methodLink "LetterBrokerLaw" 24 yX12_step ∈ lw_tbl := List.mem_append_right _ (List.mem_append_right _ (List.mem_append_right _ (List.mem_append_right _ (List.mem_append_right _ (List.mem_append_left _ (List.mem_of_getElem? (i := 234) rfl))))))
set_option maxRecDepth 20000 in
theorem w1313 : Cond.instanceMethod yX12_step ∈ lw_tbl := List.mem_append_right _ (List.mem_append_right _ (List.mem_append_right _ (List.mem_append_right _ (List.mem_append_right _ (List.mem_append_left _ (List.mem_of_getElem? (i := 235) rfl))))))
set_option maxRecDepth 20000 in
theorem w1314 : Cond.selects "LetterBrokerModel" yX12_step yX12_step ∈ lw_tbl := List.mem_append_right _ (List.mem_append_right _ (List.mem_append_right _ (List.mem_append_right _ (List.mem_append_right _ (List.mem_append_left _ (List.mem_of_getElem? (i := 236) rfl))))))
set_option maxRecDepth 20000 in
theorem w1315 : Cond.code yX12_step cX12_step 2 (some .int) ∈ lw_tbl := List.mem_append_right _ (List.mem_append_right _ (List.mem_append_right _ (List.mem_append_right _ (List.mem_append_right _ (List.mem_append_left _ (List.mem_of_getElem? (i := 237) rfl))))))
set_option maxRecDepth 20000 in
theorem w1316 : Cond.methodLink "LetterBrokerModel" 440 yX12_greet ∈ lw_tbl := List.mem_append_right _ (List.mem_append_right _ (List.mem_append_right _ (List.mem_append_right _ (List.mem_append_right _ (List.mem_append_left _ (List.mem_of_getElem? (i := 238) rfl))))))
set_option maxRecDepth 20000 in
theorem w1318 : Cond.instanceMethod yX12_greet ∈ lw_tbl := List.mem_append_right _ (List.mem_append_right _ (List.mem_append_right _ (List.mem_append_right _ (List.mem_append_right _ (List.mem_append_right _ (List.mem_append_left _ (List.mem_of_getElem? (i := 0) rfl)))))))
set_option maxRecDepth 20000 in
theorem w1319 : Cond.code yX12_greet cX12_greet 2 (some .int) ∈ lw_tbl := List.mem_append_right _ (List.mem_append_right _ (List.mem_append_right _ (List.mem_append_right _ (List.mem_append_right _ (List.mem_append_right _ (List.mem_append_left _ (List.mem_of_getElem? (i := 1) rfl)))))))
set_option maxRecDepth 20000 in
theorem w1320 : Cond.constantLong "LetterBrokerModel" 435 (4705506589711272193) ∈ lw_tbl := List.mem_append_right _ (List.mem_append_right _ (List.mem_append_right _ (List.mem_append_right _ (List.mem_append_right _ (List.mem_append_right _ (List.mem_append_left _ (List.mem_of_getElem? (i := 2) rfl)))))))
set_option maxRecDepth 20000 in
theorem w1321 : Cond.methodLink "LetterBrokerModel" 315 yX12_hard ∈ lw_tbl := List.mem_append_right _ (List.mem_append_right _ (List.mem_append_right _ (List.mem_append_right _ (List.mem_append_right _ (List.mem_append_right _ (List.mem_append_left _ (List.mem_of_getElem? (i := 3) rfl)))))))
set_option maxRecDepth 20000 in
theorem w1323 : Cond.instanceMethod yX12_hard ∈ lw_tbl := List.mem_append_right _ (List.mem_append_right _ (List.mem_append_right _ (List.mem_append_right _ (List.mem_append_right _ (List.mem_append_right _ (List.mem_append_left _ (List.mem_of_getElem? (i := 5) rfl)))))))
set_option maxRecDepth 20000 in
theorem w1324 : Cond.code yX12_hard cX12_hard 2 none ∈ lw_tbl := List.mem_append_right _ (List.mem_append_right _ (List.mem_append_right _ (List.mem_append_right _ (List.mem_append_right _ (List.mem_append_right _ (List.mem_append_left _ (List.mem_of_getElem? (i := 6) rfl)))))))
set_option maxRecDepth 20000 in
theorem w1325 : Cond.methodLink "LetterBrokerModel" 168 yX12_method ∈ lw_tbl := List.mem_append_right _ (List.mem_append_right _ (List.mem_append_right _ (List.mem_append_right _ (List.mem_append_right _ (List.mem_append_right _ (List.mem_append_left _ (List.mem_of_getElem? (i := 7) rfl)))))))
set_option maxRecDepth 20000 in
theorem w1327 : Cond.instanceMethod yX12_method ∈ lw_tbl := List.mem_append_right _ (List.mem_append_right _ (List.mem_append_right _ (List.mem_append_right _ (List.mem_append_right _ (List.mem_append_right _ (List.mem_append_left _ (List.mem_of_getElem? (i := 9) rfl)))))))
set_option maxRecDepth 20000 in
theorem w1328 : Cond.code yX12_method cX12_method 4 none ∈ lw_tbl := List.mem_append_right _ (List.mem_append_right _ (List.mem_append_right _ (List.mem_append_right _ (List.mem_append_right _ (List.mem_append_right _ (List.mem_append_left _ (List.mem_of_getElem? (i := 10) rfl)))))))
set_option maxRecDepth 20000 in
theorem w1329 : Cond.methodLink "LetterBrokerModel" 164 yX12_begin ∈ lw_tbl := List.mem_append_right _ (List.mem_append_right _ (List.mem_append_right _ (List.mem_append_right _ (List.mem_append_right _ (List.mem_append_right _ (List.mem_append_left _ (List.mem_of_getElem? (i := 11) rfl)))))))
set_option maxRecDepth 20000 in
theorem w1331 : Cond.instanceMethod yX12_begin ∈ lw_tbl := List.mem_append_right _ (List.mem_append_right _ (List.mem_append_right _ (List.mem_append_right _ (List.mem_append_right _ (List.mem_append_right _ (List.mem_append_left _ (List.mem_of_getElem? (i := 13) rfl)))))))
set_option maxRecDepth 20000 in
theorem w1332 : Cond.code yX12_begin cX12_begin 3 none ∈ lw_tbl := List.mem_append_right _ (List.mem_append_right _ (List.mem_append_right _ (List.mem_append_right _ (List.mem_append_right _ (List.mem_append_right _ (List.mem_append_left _ (List.mem_of_getElem? (i := 14) rfl)))))))
set_option maxRecDepth 20000 in
theorem w1333 : Cond.methodLink "LetterBrokerModel" 157 yX12_put ∈ lw_tbl := List.mem_append_right _ (List.mem_append_right _ (List.mem_append_right _ (List.mem_append_right _ (List.mem_append_right _ (List.mem_append_right _ (List.mem_append_left _ (List.mem_of_getElem? (i := 15) rfl)))))))
set_option maxRecDepth 20000 in
theorem w1335 : Cond.instanceMethod yX12_put ∈ lw_tbl := List.mem_append_right _ (List.mem_append_right _ (List.mem_append_right _ (List.mem_append_right _ (List.mem_append_right _ (List.mem_append_right _ (List.mem_append_left _ (List.mem_of_getElem? (i := 17) rfl)))))))
set_option maxRecDepth 20000 in
theorem w1336 : Cond.code yX12_put cX12_put 2 none ∈ lw_tbl := List.mem_append_right _ (List.mem_append_right _ (List.mem_append_right _ (List.mem_append_right _ (List.mem_append_right _ (List.mem_append_right _ (List.mem_append_left _ (List.mem_of_getElem? (i := 18) rfl)))))))
set_option maxRecDepth 20000 in
theorem w1337 : Cond.methodLink "LetterBrokerModel" 216 yX12_putShort ∈ lw_tbl := List.mem_append_right _ (List.mem_append_right _ (List.mem_append_right _ (List.mem_append_right _ (List.mem_append_right _ (List.mem_append_right _ (List.mem_append_left _ (List.mem_of_getElem? (i := 19) rfl)))))))
set_option maxRecDepth 20000 in
theorem w1339 : Cond.instanceMethod yX12_putShort ∈ lw_tbl := List.mem_append_right _ (List.mem_append_right _ (List.mem_append_right _ (List.mem_append_right _ (List.mem_append_right _ (List.mem_append_right _ (List.mem_append_left _ (List.mem_of_getElem? (i := 21) rfl)))))))
set_option maxRecDepth 20000 in
theorem w1340 : Cond.code yX12_putShort cX12_putShort 2 none ∈ lw_tbl := List.mem_append_right _ (List.mem_append_right _ (List.mem_append_right _ (List.mem_append_right _ (List.mem_append_right _ (List.mem_append_right _ (List.mem_append_left _ (List.mem_of_getElem? (i := 22) rfl)))))))
set_option maxRecDepth 20000 in
theorem w1341 : Cond.methodLink "LetterBrokerModel" 172 yX12_finish ∈ lw_tbl := List.mem_append_right _ (List.mem_append_right _ (List.mem_append_right _ (List.mem_append_right _ (List.mem_append_right _ (List.mem_append_right _ (List.mem_append_left _ (List.mem_of_getElem? (i := 23) rfl)))))))
set_option maxRecDepth 20000 in
theorem w1343 : Cond.instanceMethod yX12_finish ∈ lw_tbl := List.mem_append_right _ (List.mem_append_right _ (List.mem_append_right _ (List.mem_append_right _ (List.mem_append_right _ (List.mem_append_right _ (List.mem_append_left _ (List.mem_of_getElem? (i := 25) rfl)))))))
set_option maxRecDepth 20000 in
theorem w1344 : Cond.code yX12_finish cX12_finish 1 none ∈ lw_tbl := List.mem_append_right _ (List.mem_append_right _ (List.mem_append_right _ (List.mem_append_right _ (List.mem_append_right _ (List.mem_append_right _ (List.mem_append_left _ (List.mem_of_getElem? (i := 26) rfl)))))))
set_option maxRecDepth 20000 in
theorem w1345 : Cond.methodLink "LetterBrokerModel" 219 yX12_shut ∈ lw_tbl := List.mem_append_right _ (List.mem_append_right _ (List.mem_append_right _ (List.mem_append_right _ (List.mem_append_right _ (List.mem_append_right _ (List.mem_append_left _ (List.mem_of_getElem? (i := 27) rfl)))))))
set_option maxRecDepth 20000 in
theorem w1347 : Cond.instanceMethod yX12_shut ∈ lw_tbl := List.mem_append_right _ (List.mem_append_right _ (List.mem_append_right _ (List.mem_append_right _ (List.mem_append_right _ (List.mem_append_right _ (List.mem_append_left _ (List.mem_of_getElem? (i := 29) rfl)))))))
set_option maxRecDepth 20000 in
theorem w1348 : Cond.code yX12_shut cX12_shut 2 none ∈ lw_tbl := List.mem_append_right _ (List.mem_append_right _ (List.mem_append_right _ (List.mem_append_right _ (List.mem_append_right _ (List.mem_append_right _ (List.mem_append_left _ (List.mem_of_getElem? (i := 30) rfl)))))))
set_option maxRecDepth 20000 in
theorem w1349 : Cond.methodLink "LetterBrokerModel" 213 yX12_endChannel ∈ lw_tbl := List.mem_append_right _ (List.mem_append_right _ (List.mem_append_right _ (List.mem_append_right _ (List.mem_append_right _ (List.mem_append_right _ (List.mem_append_left _ (List.mem_of_getElem? (i := 31) rfl)))))))
set_option maxRecDepth 20000 in
theorem w1351 : Cond.instanceMethod yX12_endChannel ∈ lw_tbl := List.mem_append_right _ (List.mem_append_right _ (List.mem_append_right _ (List.mem_append_right _ (List.mem_append_right _ (List.mem_append_right _ (List.mem_append_left _ (List.mem_of_getElem? (i := 33) rfl)))))))
set_option maxRecDepth 20000 in
theorem w1352 : Cond.code yX12_endChannel cX12_endChannel 4 none ∈ lw_tbl := List.mem_append_right _ (List.mem_append_right _ (List.mem_append_right _ (List.mem_append_right _ (List.mem_append_right _ (List.mem_append_right _ (List.mem_append_left _ (List.mem_of_getElem? (i := 34) rfl)))))))
set_option maxRecDepth 20000 in
theorem w1353 : Cond.methodLink "LetterBrokerModel" 201 yX12_removeConsumer ∈ lw_tbl := List.mem_append_right _ (List.mem_append_right _ (List.mem_append_right _ (List.mem_append_right _ (List.mem_append_right _ (List.mem_append_right _ (List.mem_append_left _ (List.mem_of_getElem? (i := 35) rfl)))))))
set_option maxRecDepth 20000 in
theorem w1355 : Cond.instanceMethod yX12_removeConsumer ∈ lw_tbl := List.mem_append_right _ (List.mem_append_right _ (List.mem_append_right _ (List.mem_append_right _ (List.mem_append_right _ (List.mem_append_right _ (List.mem_append_left _ (List.mem_of_getElem? (i := 37) rfl)))))))
set_option maxRecDepth 20000 in
theorem w1356 : Cond.code yX12_removeConsumer cX12_removeConsumer 3 none ∈ lw_tbl := List.mem_append_right _ (List.mem_append_right _ (List.mem_append_right _ (List.mem_append_right _ (List.mem_append_right _ (List.mem_append_right _ (List.mem_append_left _ (List.mem_of_getElem? (i := 38) rfl)))))))
set_option maxRecDepth 20000 in
theorem w1357 : Cond.methodLink "LetterBrokerModel" 204 yX12_allBack ∈ lw_tbl := List.mem_append_right _ (List.mem_append_right _ (List.mem_append_right _ (List.mem_append_right _ (List.mem_append_right _ (List.mem_append_right _ (List.mem_append_left _ (List.mem_of_getElem? (i := 39) rfl)))))))
set_option maxRecDepth 20000 in
theorem w1359 : Cond.instanceMethod yX12_allBack ∈ lw_tbl := List.mem_append_right _ (List.mem_append_right _ (List.mem_append_right _ (List.mem_append_right _ (List.mem_append_right _ (List.mem_append_right _ (List.mem_append_left _ (List.mem_of_getElem? (i := 41) rfl)))))))
set_option maxRecDepth 20000 in
theorem w1360 : Cond.code yX12_allBack cX12_allBack 3 none ∈ lw_tbl := List.mem_append_right _ (List.mem_append_right _ (List.mem_append_right _ (List.mem_append_right _ (List.mem_append_right _ (List.mem_append_right _ (List.mem_append_left _ (List.mem_of_getElem? (i := 42) rfl)))))))
set_option maxRecDepth 20000 in
theorem w1361 : Cond.methodLink "LetterBrokerModel" 195 yX12_goesBack ∈ lw_tbl := List.mem_append_right _ (List.mem_append_right _ (List.mem_append_right _ (List.mem_append_right _ (List.mem_append_right _ (List.mem_append_right _ (List.mem_append_left _ (List.mem_of_getElem? (i := 43) rfl)))))))
set_option maxRecDepth 20000 in
theorem w1363 : Cond.instanceMethod yX12_goesBack ∈ lw_tbl := List.mem_append_right _ (List.mem_append_right _ (List.mem_append_right _ (List.mem_append_right _ (List.mem_append_right _ (List.mem_append_right _ (List.mem_append_left _ (List.mem_of_getElem? (i := 45) rfl)))))))
set_option maxRecDepth 20000 in
theorem w1364 : Cond.code yX12_goesBack cX12_goesBack 2 (some .boolean) ∈ lw_tbl := List.mem_append_right _ (List.mem_append_right _ (List.mem_append_right _ (List.mem_append_right _ (List.mem_append_right _ (List.mem_append_right _ (List.mem_append_left _ (List.mem_of_getElem? (i := 46) rfl)))))))
set_option maxRecDepth 20000 in
theorem w1365 : Cond.methodLink "LetterBrokerModel" 188 yX12_isThere ∈ lw_tbl := List.mem_append_right _ (List.mem_append_right _ (List.mem_append_right _ (List.mem_append_right _ (List.mem_append_right _ (List.mem_append_right _ (List.mem_append_left _ (List.mem_of_getElem? (i := 47) rfl)))))))
set_option maxRecDepth 20000 in
theorem w1367 : Cond.instanceMethod yX12_isThere ∈ lw_tbl := List.mem_append_right _ (List.mem_append_right _ (List.mem_append_right _ (List.mem_append_right _ (List.mem_append_right _ (List.mem_append_right _ (List.mem_append_left _ (List.mem_of_getElem? (i := 49) rfl)))))))
set_option maxRecDepth 20000 in
theorem w1368 : Cond.code yX12_isThere cX12_isThere 4 (some .boolean) ∈ lw_tbl := List.mem_append_right _ (List.mem_append_right _ (List.mem_append_right _ (List.mem_append_right _ (List.mem_append_right _ (List.mem_append_right _ (List.mem_append_left _ (List.mem_of_getElem? (i := 50) rfl)))))))
set_option maxRecDepth 20000 in
theorem w1369 : Cond.methodLink "LetterBrokerModel" 192 yX12_removeLetter ∈ lw_tbl := List.mem_append_right _ (List.mem_append_right _ (List.mem_append_right _ (List.mem_append_right _ (List.mem_append_right _ (List.mem_append_right _ (List.mem_append_left _ (List.mem_of_getElem? (i := 51) rfl)))))))
set_option maxRecDepth 20000 in
theorem w1371 : Cond.instanceMethod yX12_removeLetter ∈ lw_tbl := List.mem_append_right _ (List.mem_append_right _ (List.mem_append_right _ (List.mem_append_right _ (List.mem_append_right _ (List.mem_append_right _ (List.mem_append_left _ (List.mem_of_getElem? (i := 53) rfl)))))))
set_option maxRecDepth 20000 in
theorem w1372 : Cond.code yX12_removeLetter cX12_removeLetter 3 none ∈ lw_tbl := List.mem_append_right _ (List.mem_append_right _ (List.mem_append_right _ (List.mem_append_right _ (List.mem_append_right _ (List.mem_append_right _ (List.mem_append_left _ (List.mem_of_getElem? (i := 54) rfl)))))))
set_option maxRecDepth 20000 in
theorem w1373 : Cond.methodLink "LetterBrokerModel" 182 yX12_moveLetter ∈ lw_tbl := List.mem_append_right _ (List.mem_append_right _ (List.mem_append_right _ (List.mem_append_right _ (List.mem_append_right _ (List.mem_append_right _ (List.mem_append_left _ (List.mem_of_getElem? (i := 55) rfl)))))))
set_option maxRecDepth 20000 in
theorem w1375 : Cond.instanceMethod yX12_moveLetter ∈ lw_tbl := List.mem_append_right _ (List.mem_append_right _ (List.mem_append_right _ (List.mem_append_right _ (List.mem_append_right _ (List.mem_append_right _ (List.mem_append_left _ (List.mem_of_getElem? (i := 57) rfl)))))))
set_option maxRecDepth 20000 in
theorem w1376 : Cond.code yX12_moveLetter cX12_moveLetter 3 none ∈ lw_tbl := List.mem_append_right _ (List.mem_append_right _ (List.mem_append_right _ (List.mem_append_right _ (List.mem_append_right _ (List.mem_append_right _ (List.mem_append_left _ (List.mem_of_getElem? (i := 58) rfl)))))))
set_option maxRecDepth 20000 in
theorem w1377 : Cond.methodLink "LetterBrokerModel" 437 yX12_drop ∈ lw_tbl := List.mem_append_right _ (List.mem_append_right _ (List.mem_append_right _ (List.mem_append_right _ (List.mem_append_right _ (List.mem_append_right _ (List.mem_append_left _ (List.mem_of_getElem? (i := 59) rfl)))))))
set_option maxRecDepth 20000 in
theorem w1379 : Cond.instanceMethod yX12_drop ∈ lw_tbl := List.mem_append_right _ (List.mem_append_right _ (List.mem_append_right _ (List.mem_append_right _ (List.mem_append_right _ (List.mem_append_right _ (List.mem_append_left _ (List.mem_of_getElem? (i := 61) rfl)))))))
set_option maxRecDepth 20000 in
theorem w1380 : Cond.code yX12_drop cX12_drop 3 none ∈ lw_tbl := List.mem_append_right _ (List.mem_append_right _ (List.mem_append_right _ (List.mem_append_right _ (List.mem_append_right _ (List.mem_append_right _ (List.mem_append_left _ (List.mem_of_getElem? (i := 62) rfl)))))))
set_option maxRecDepth 20000 in
theorem w1381 : Cond.methodLink "LetterBrokerModel" 278 yX12_say ∈ lw_tbl := List.mem_append_right _ (List.mem_append_right _ (List.mem_append_right _ (List.mem_append_right _ (List.mem_append_right _ (List.mem_append_right _ (List.mem_append_left _ (List.mem_of_getElem? (i := 63) rfl)))))))
set_option maxRecDepth 20000 in
theorem w1383 : Cond.instanceMethod yX12_say ∈ lw_tbl := List.mem_append_right _ (List.mem_append_right _ (List.mem_append_right _ (List.mem_append_right _ (List.mem_append_right _ (List.mem_append_right _ (List.mem_append_left _ (List.mem_of_getElem? (i := 65) rfl)))))))
set_option maxRecDepth 20000 in
theorem w1384 : Cond.code yX12_say cX12_say 4 none ∈ lw_tbl := List.mem_append_right _ (List.mem_append_right _ (List.mem_append_right _ (List.mem_append_right _ (List.mem_append_right _ (List.mem_append_right _ (List.mem_append_left _ (List.mem_of_getElem? (i := 66) rfl)))))))
set_option maxRecDepth 20000 in
theorem w1385 : Cond.methodLink "LetterBrokerModel" 443 yX12_frameLength ∈ lw_tbl := List.mem_append_right _ (List.mem_append_right _ (List.mem_append_right _ (List.mem_append_right _ (List.mem_append_right _ (List.mem_append_right _ (List.mem_append_left _ (List.mem_of_getElem? (i := 67) rfl)))))))
set_option maxRecDepth 20000 in
theorem w1387 : Cond.instanceMethod yX12_frameLength ∈ lw_tbl := List.mem_append_right _ (List.mem_append_right _ (List.mem_append_right _ (List.mem_append_right _ (List.mem_append_right _ (List.mem_append_right _ (List.mem_append_left _ (List.mem_of_getElem? (i := 69) rfl)))))))
set_option maxRecDepth 20000 in
theorem w1388 : Cond.code yX12_frameLength cX12_frameLength 1 (some .int) ∈ lw_tbl := List.mem_append_right _ (List.mem_append_right _ (List.mem_append_right _ (List.mem_append_right _ (List.mem_append_right _ (List.mem_append_right _ (List.mem_append_left _ (List.mem_of_getElem? (i := 70) rfl)))))))
set_option maxRecDepth 20000 in
theorem w1389 : Cond.methodLink "LetterBrokerModel" 446 yX12_frame ∈ lw_tbl := List.mem_append_right _ (List.mem_append_right _ (List.mem_append_right _ (List.mem_append_right _ (List.mem_append_right _ (List.mem_append_right _ (List.mem_append_left _ (List.mem_of_getElem? (i := 71) rfl)))))))
set_option maxRecDepth 20000 in
theorem w1391 : Cond.instanceMethod yX12_frame ∈ lw_tbl := List.mem_append_right _ (List.mem_append_right _ (List.mem_append_right _ (List.mem_append_right _ (List.mem_append_right _ (List.mem_append_right _ (List.mem_append_left _ (List.mem_of_getElem? (i := 73) rfl)))))))
set_option maxRecDepth 20000 in
theorem w1392 : Cond.code yX12_frame cX12_frame 4 none ∈ lw_tbl := List.mem_append_right _ (List.mem_append_right _ (List.mem_append_right _ (List.mem_append_right _ (List.mem_append_right _ (List.mem_append_right _ (List.mem_append_left _ (List.mem_of_getElem? (i := 74) rfl)))))))
set_option maxRecDepth 20000 in
theorem w1393 : Cond.methodLink "LetterBrokerModel" 426 yX12_doMethod ∈ lw_tbl := List.mem_append_right _ (List.mem_append_right _ (List.mem_append_right _ (List.mem_append_right _ (List.mem_append_right _ (List.mem_append_right _ (List.mem_append_left _ (List.mem_of_getElem? (i := 75) rfl)))))))
set_option maxRecDepth 20000 in
theorem w1395 : Cond.instanceMethod yX12_doMethod ∈ lw_tbl := List.mem_append_right _ (List.mem_append_right _ (List.mem_append_right _ (List.mem_append_right _ (List.mem_append_right _ (List.mem_append_right _ (List.mem_append_left _ (List.mem_of_getElem? (i := 77) rfl)))))))
set_option maxRecDepth 20000 in
theorem w1396 : Cond.code yX12_doMethod cX12_doMethod 4 none ∈ lw_tbl := List.mem_append_right _ (List.mem_append_right _ (List.mem_append_right _ (List.mem_append_right _ (List.mem_append_right _ (List.mem_append_right _ (List.mem_append_left _ (List.mem_of_getElem? (i := 78) rfl)))))))
set_option maxRecDepth 20000 in
theorem w1397 : Cond.methodLink "LetterBrokerModel" 311 yX12_next ∈ lw_tbl := List.mem_append_right _ (List.mem_append_right _ (List.mem_append_right _ (List.mem_append_right _ (List.mem_append_right _ (List.mem_append_right _ (List.mem_append_left _ (List.mem_of_getElem? (i := 79) rfl)))))))
set_option maxRecDepth 20000 in
theorem w1399 : Cond.instanceMethod yX12_next ∈ lw_tbl := List.mem_append_right _ (List.mem_append_right _ (List.mem_append_right _ (List.mem_append_right _ (List.mem_append_right _ (List.mem_append_right _ (List.mem_append_left _ (List.mem_of_getElem? (i := 81) rfl)))))))
set_option maxRecDepth 20000 in
theorem w1400 : Cond.code yX12_next cX12_next 1 (some .int) ∈ lw_tbl := List.mem_append_right _ (List.mem_append_right _ (List.mem_append_right _ (List.mem_append_right _ (List.mem_append_right _ (List.mem_append_right _ (List.mem_append_left _ (List.mem_of_getElem? (i := 82) rfl)))))))
set_option maxRecDepth 20000 in
theorem w1401 : Cond.methodLink "LetterBrokerModel" 401 yX12_lineMethod ∈ lw_tbl := List.mem_append_right _ (List.mem_append_right _ (List.mem_append_right _ (List.mem_append_right _ (List.mem_append_right _ (List.mem_append_right _ (List.mem_append_left _ (List.mem_of_getElem? (i := 83) rfl)))))))
set_option maxRecDepth 20000 in
theorem w1403 : Cond.instanceMethod yX12_lineMethod ∈ lw_tbl := List.mem_append_right _ (List.mem_append_right _ (List.mem_append_right _ (List.mem_append_right _ (List.mem_append_right _ (List.mem_append_right _ (List.mem_append_left _ (List.mem_of_getElem? (i := 85) rfl)))))))
set_option maxRecDepth 20000 in
theorem w1404 : Cond.code yX12_lineMethod cX12_lineMethod 4 none ∈ lw_tbl := List.mem_append_right _ (List.mem_append_right _ (List.mem_append_right _ (List.mem_append_right _ (List.mem_append_right _ (List.mem_append_right _ (List.mem_append_left _ (List.mem_of_getElem? (i := 86) rfl)))))))
set_option maxRecDepth 20000 in
theorem w1405 : Cond.methodLink "LetterBrokerModel" 329 yX12_isJust ∈ lw_tbl := List.mem_append_right _ (List.mem_append_right _ (List.mem_append_right _ (List.mem_append_right _ (List.mem_append_right _ (List.mem_append_right _ (List.mem_append_left _ (List.mem_of_getElem? (i := 87) rfl)))))))
set_option maxRecDepth 20000 in
theorem w1407 : Cond.instanceMethod yX12_isJust ∈ lw_tbl := List.mem_append_right _ (List.mem_append_right _ (List.mem_append_right _ (List.mem_append_right _ (List.mem_append_right _ (List.mem_append_right _ (List.mem_append_left _ (List.mem_of_getElem? (i := 89) rfl)))))))
set_option maxRecDepth 20000 in
theorem w1408 : Cond.code yX12_isJust cX12_isJust 1 (some .boolean) ∈ lw_tbl := List.mem_append_right _ (List.mem_append_right _ (List.mem_append_right _ (List.mem_append_right _ (List.mem_append_right _ (List.mem_append_right _ (List.mem_append_left _ (List.mem_of_getElem? (i := 90) rfl)))))))
set_option maxRecDepth 20000 in
theorem w1409 : Cond.methodLink "LetterBrokerModel" 404 yX12_isMethod ∈ lw_tbl := List.mem_append_right _ (List.mem_append_right _ (List.mem_append_right _ (List.mem_append_right _ (List.mem_append_right _ (List.mem_append_right _ (List.mem_append_left _ (List.mem_of_getElem? (i := 91) rfl)))))))
set_option maxRecDepth 20000 in
theorem w1410 : Cond.static yX12_isMethod ∈ lw_tbl := List.mem_append_right _ (List.mem_append_right _ (List.mem_append_right _ (List.mem_append_right _ (List.mem_append_right _ (List.mem_append_right _ (List.mem_append_left _ (List.mem_of_getElem? (i := 92) rfl)))))))
set_option maxRecDepth 20000 in
theorem w1411 : Cond.code yX12_isMethod cX12_isMethod 2 (some .boolean) ∈ lw_tbl := List.mem_append_right _ (List.mem_append_right _ (List.mem_append_right _ (List.mem_append_right _ (List.mem_append_right _ (List.mem_append_right _ (List.mem_append_left _ (List.mem_of_getElem? (i := 93) rfl)))))))
set_option maxRecDepth 20000 in
theorem w1412 : Cond.methodLink "LetterBrokerModel" 408 yX12_channelMethod ∈ lw_tbl := List.mem_append_right _ (List.mem_append_right _ (List.mem_append_right _ (List.mem_append_right _ (List.mem_append_right _ (List.mem_append_right _ (List.mem_append_left _ (List.mem_of_getElem? (i := 94) rfl)))))))
set_option maxRecDepth 20000 in
theorem w1414 : Cond.instanceMethod yX12_channelMethod ∈ lw_tbl := List.mem_append_right _ (List.mem_append_right _ (List.mem_append_right _ (List.mem_append_right _ (List.mem_append_right _ (List.mem_append_right _ (List.mem_append_left _ (List.mem_of_getElem? (i := 96) rfl)))))))
set_option maxRecDepth 20000 in
theorem w1415 : Cond.code yX12_channelMethod cX12_channelMethod 4 none ∈ lw_tbl := List.mem_append_right _ (List.mem_append_right _ (List.mem_append_right _ (List.mem_append_right _ (List.mem_append_right _ (List.mem_append_right _ (List.mem_append_left _ (List.mem_of_getElem? (i := 97) rfl)))))))
set_option maxRecDepth 20000 in
theorem w1416 : Cond.methodLink "LetterBrokerModel" 411 yX12_exchangeMethod ∈ lw_tbl := List.mem_append_right _ (List.mem_append_right _ (List.mem_append_right _ (List.mem_append_right _ (List.mem_append_right _ (List.mem_append_right _ (List.mem_append_left _ (List.mem_of_getElem? (i := 98) rfl)))))))
set_option maxRecDepth 20000 in
theorem w1418 : Cond.instanceMethod yX12_exchangeMethod ∈ lw_tbl := List.mem_append_right _ (List.mem_append_right _ (List.mem_append_right _ (List.mem_append_right _ (List.mem_append_right _ (List.mem_append_right _ (List.mem_append_left _ (List.mem_of_getElem? (i := 100) rfl)))))))
set_option maxRecDepth 20000 in
theorem w1419 : Cond.code yX12_exchangeMethod cX12_exchangeMethod 8 none ∈ lw_tbl := List.mem_append_right _ (List.mem_append_right _ (List.mem_append_right _ (List.mem_append_right _ (List.mem_append_right _ (List.mem_append_right _ (List.mem_append_left _ (List.mem_of_getElem? (i := 101) rfl)))))))
set_option maxRecDepth 20000 in
theorem w1420 : Cond.methodLink "LetterBrokerModel" 321 yX12_nextName ∈ lw_tbl := List.mem_append_right _ (List.mem_append_right _ (List.mem_append_right _ (List.mem_append_right _ (List.mem_append_right _ (List.mem_append_right _ (List.mem_append_left _ (List.mem_of_getElem? (i := 102) rfl)))))))
set_option maxRecDepth 20000 in
theorem w1422 : Cond.instanceMethod yX12_nextName ∈ lw_tbl := List.mem_append_right _ (List.mem_append_right _ (List.mem_append_right _ (List.mem_append_right _ (List.mem_append_right _ (List.mem_append_right _ (List.mem_append_left _ (List.mem_of_getElem? (i := 104) rfl)))))))
set_option maxRecDepth 20000 in
theorem w1423 : Cond.code yX12_nextName cX12_nextName 6 (some .long) ∈ lw_tbl := List.mem_append_right _ (List.mem_append_right _ (List.mem_append_right _ (List.mem_append_right _ (List.mem_append_right _ (List.mem_append_right _ (List.mem_append_left _ (List.mem_of_getElem? (i := 105) rfl)))))))
set_option maxRecDepth 20000 in
theorem w1424 : Cond.methodLink "LetterBrokerModel" 325 yX12_nextTruth ∈ lw_tbl := List.mem_append_right _ (List.mem_append_right _ (List.mem_append_right _ (List.mem_append_right _ (List.mem_append_right _ (List.mem_append_right _ (List.mem_append_left _ (List.mem_of_getElem? (i := 106) rfl)))))))
set_option maxRecDepth 20000 in
theorem w1426 : Cond.instanceMethod yX12_nextTruth ∈ lw_tbl := List.mem_append_right _ (List.mem_append_right _ (List.mem_append_right _ (List.mem_append_right _ (List.mem_append_right _ (List.mem_append_right _ (List.mem_append_left _ (List.mem_of_getElem? (i := 108) rfl)))))))
set_option maxRecDepth 20000 in
theorem w1427 : Cond.code yX12_nextTruth cX12_nextTruth 1 (some .boolean) ∈ lw_tbl := List.mem_append_right _ (List.mem_append_right _ (List.mem_append_right _ (List.mem_append_right _ (List.mem_append_right _ (List.mem_append_right _ (List.mem_append_left _ (List.mem_of_getElem? (i := 109) rfl)))))))
set_option maxRecDepth 20000 in
theorem w1428 : Cond.methodLink "LetterBrokerModel" 245 yX12_exchangeOf ∈ lw_tbl := List.mem_append_right _ (List.mem_append_right _ (List.mem_append_right _ (List.mem_append_right _ (List.mem_append_right _ (List.mem_append_right _ (List.mem_append_left _ (List.mem_of_getElem? (i := 110) rfl)))))))
set_option maxRecDepth 20000 in
theorem w1430 : Cond.instanceMethod yX12_exchangeOf ∈ lw_tbl := List.mem_append_right _ (List.mem_append_right _ (List.mem_append_right _ (List.mem_append_right _ (List.mem_append_right _ (List.mem_append_right _ (List.mem_append_left _ (List.mem_of_getElem? (i := 112) rfl)))))))
set_option maxRecDepth 20000 in
theorem w1431 : Cond.code yX12_exchangeOf cX12_exchangeOf 4 (some .int) ∈ lw_tbl := List.mem_append_right _ (List.mem_append_right _ (List.mem_append_right _ (List.mem_append_right _ (List.mem_append_right _ (List.mem_append_right _ (List.mem_append_left _ (List.mem_of_getElem? (i := 113) rfl)))))))
set_option maxRecDepth 20000 in
theorem w1432 : Cond.methodLink "LetterBrokerModel" 252 yX12_soft ∈ lw_tbl := List.mem_append_right _ (List.mem_append_right _ (List.mem_append_right _ (List.mem_append_right _ (List.mem_append_right _ (List.mem_append_right _ (List.mem_append_left _ (List.mem_of_getElem? (i := 114) rfl)))))))
set_option maxRecDepth 20000 in
theorem w1434 : Cond.instanceMethod yX12_soft ∈ lw_tbl := List.mem_append_right _ (List.mem_append_right _ (List.mem_append_right _ (List.mem_append_right _ (List.mem_append_right _ (List.mem_append_right _ (List.mem_append_left _ (List.mem_of_getElem? (i := 116) rfl)))))))
set_option maxRecDepth 20000 in
theorem w1435 : Cond.code yX12_soft cX12_soft 3 none ∈ lw_tbl := List.mem_append_right _ (List.mem_append_right _ (List.mem_append_right _ (List.mem_append_right _ (List.mem_append_right _ (List.mem_append_right _ (List.mem_append_left _ (List.mem_of_getElem? (i := 117) rfl)))))))
set_option maxRecDepth 20000 in
theorem w1436 : Cond.methodLink "LetterBrokerModel" 332 yX12_hasBindings ∈ lw_tbl := List.mem_append_right _ (List.mem_append_right _ (List.mem_append_right _ (List.mem_append_right _ (List.mem_append_right _ (List.mem_append_right _ (List.mem_append_left _ (List.mem_of_getElem? (i := 118) rfl)))))))
set_option maxRecDepth 20000 in
theorem w1438 : Cond.instanceMethod yX12_hasBindings ∈ lw_tbl := List.mem_append_right _ (List.mem_append_right _ (List.mem_append_right _ (List.mem_append_right _ (List.mem_append_right _ (List.mem_append_right _ (List.mem_append_left _ (List.mem_of_getElem? (i := 120) rfl)))))))
set_option maxRecDepth 20000 in
theorem w1439 : Cond.code yX12_hasBindings cX12_hasBindings 5 (some .boolean) ∈ lw_tbl := List.mem_append_right _ (List.mem_append_right _ (List.mem_append_right _ (List.mem_append_right _ (List.mem_append_right _ (List.mem_append_right _ (List.mem_append_left _ (List.mem_of_getElem? (i := 121) rfl)))))))
set_option maxRecDepth 20000 in
theorem w1440 : Cond.methodLink "LetterBrokerModel" 336 yX12_removeExchange ∈ lw_tbl := List.mem_append_right _ (List.mem_append_right _ (List.mem_append_right _ (List.mem_append_right _ (List.mem_append_right _ (List.mem_append_right _ (List.mem_append_left _ (List.mem_of_getElem? (i := 122) rfl)))))))
set_option maxRecDepth 20000 in
theorem w1442 : Cond.instanceMethod yX12_removeExchange ∈ lw_tbl := List.mem_append_right _ (List.mem_append_right _ (List.mem_append_right _ (List.mem_append_right _ (List.mem_append_right _ (List.mem_append_right _ (List.mem_append_left _ (List.mem_of_getElem? (i := 124) rfl)))))))
set_option maxRecDepth 20000 in
theorem w1443 : Cond.code yX12_removeExchange cX12_removeExchange 3 none ∈ lw_tbl := List.mem_append_right _ (List.mem_append_right _ (List.mem_append_right _ (List.mem_append_right _ (List.mem_append_right _ (List.mem_append_right _ (List.mem_append_left _ (List.mem_of_getElem? (i := 125) rfl)))))))
set_option maxRecDepth 20000 in
theorem w1444 : Cond.methodLink "LetterBrokerModel" 339 yX12_removeBinding ∈ lw_tbl := List.mem_append_right _ (List.mem_append_right _ (List.mem_append_right _ (List.mem_append_right _ (List.mem_append_right _ (List.mem_append_right _ (List.mem_append_left _ (List.mem_of_getElem? (i := 126) rfl)))))))
set_option maxRecDepth 20000 in
theorem w1446 : Cond.instanceMethod yX12_removeBinding ∈ lw_tbl := List.mem_append_right _ (List.mem_append_right _ (List.mem_append_right _ (List.mem_append_right _ (List.mem_append_right _ (List.mem_append_right _ (List.mem_append_left _ (List.mem_of_getElem? (i := 128) rfl)))))))
set_option maxRecDepth 20000 in
theorem w1447 : Cond.code yX12_removeBinding cX12_removeBinding 3 none ∈ lw_tbl := List.mem_append_right _ (List.mem_append_right _ (List.mem_append_right _ (List.mem_append_right _ (List.mem_append_right _ (List.mem_append_right _ (List.mem_append_left _ (List.mem_of_getElem? (i := 129) rfl)))))))
set_option maxRecDepth 20000 in
theorem w1448 : Cond.methodLink "LetterBrokerModel" 414 yX12_queueMethod ∈ lw_tbl := List.mem_append_right _ (List.mem_append_right _ (List.mem_append_right _ (List.mem_append_right _ (List.mem_append_right _ (List.mem_append_right _ (List.mem_append_left _ (List.mem_of_getElem? (i := 130) rfl)))))))
set_option maxRecDepth 20000 in
theorem w1450 : Cond.instanceMethod yX12_queueMethod ∈ lw_tbl := List.mem_append_right _ (List.mem_append_right _ (List.mem_append_right _ (List.mem_append_right _ (List.mem_append_right _ (List.mem_append_right _ (List.mem_append_left _ (List.mem_of_getElem? (i := 132) rfl)))))))
set_option maxRecDepth 20000 in
theorem w1451 : Cond.code yX12_queueMethod cX12_queueMethod 2 none ∈ lw_tbl := List.mem_append_right _ (List.mem_append_right _ (List.mem_append_right _ (List.mem_append_right _ (List.mem_append_right _ (List.mem_append_right _ (List.mem_append_left _ (List.mem_of_getElem? (i := 133) rfl)))))))
set_option maxRecDepth 20000 in
theorem w1452 : Cond.methodLink "LetterBrokerModel" 364 yX12_declareQueue ∈ lw_tbl := List.mem_append_right _ (List.mem_append_right _ (List.mem_append_right _ (List.mem_append_right _ (List.mem_append_right _ (List.mem_append_right _ (List.mem_append_left _ (List.mem_of_getElem? (i := 134) rfl)))))))
set_option maxRecDepth 20000 in
theorem w1454 : Cond.instanceMethod yX12_declareQueue ∈ lw_tbl := List.mem_append_right _ (List.mem_append_right _ (List.mem_append_right _ (List.mem_append_right _ (List.mem_append_right _ (List.mem_append_right _ (List.mem_append_left _ (List.mem_of_getElem? (i := 136) rfl)))))))
set_option maxRecDepth 20000 in
theorem w1455 : Cond.code yX12_declareQueue cX12_declareQueue 6 none ∈ lw_tbl := List.mem_append_right _ (List.mem_append_right _ (List.mem_append_right _ (List.mem_append_right _ (List.mem_append_right _ (List.mem_append_right _ (List.mem_append_left _ (List.mem_of_getElem? (i := 137) rfl)))))))
set_option maxRecDepth 20000 in
theorem w1456 : Cond.methodLink "LetterBrokerModel" 342 yX12_queueOf ∈ lw_tbl := List.mem_append_right _ (List.mem_append_right _ (List.mem_append_right _ (List.mem_append_right _ (List.mem_append_right _ (List.mem_append_right _ (List.mem_append_left _ (List.mem_of_getElem? (i := 138) rfl)))))))
set_option maxRecDepth 20000 in
theorem w1458 : Cond.instanceMethod yX12_queueOf ∈ lw_tbl := List.mem_append_right _ (List.mem_append_right _ (List.mem_append_right _ (List.mem_append_right _ (List.mem_append_right _ (List.mem_append_right _ (List.mem_append_left _ (List.mem_of_getElem? (i := 140) rfl)))))))
set_option maxRecDepth 20000 in
theorem w1459 : Cond.code yX12_queueOf cX12_queueOf 4 (some .int) ∈ lw_tbl := List.mem_append_right _ (List.mem_append_right _ (List.mem_append_right _ (List.mem_append_right _ (List.mem_append_right _ (List.mem_append_right _ (List.mem_append_left _ (List.mem_of_getElem? (i := 141) rfl)))))))
set_option maxRecDepth 20000 in
theorem w1460 : Cond.methodLink "LetterBrokerModel" 258 yX12_putName ∈ lw_tbl := List.mem_append_right _ (List.mem_append_right _ (List.mem_append_right _ (List.mem_append_right _ (List.mem_append_right _ (List.mem_append_right _ (List.mem_append_left _ (List.mem_of_getElem? (i := 142) rfl)))))))
set_option maxRecDepth 20000 in
theorem w1462 : Cond.instanceMethod yX12_putName ∈ lw_tbl := List.mem_append_right _ (List.mem_append_right _ (List.mem_append_right _ (List.mem_append_right _ (List.mem_append_right _ (List.mem_append_right _ (List.mem_append_left _ (List.mem_of_getElem? (i := 144) rfl)))))))
set_option maxRecDepth 20000 in
theorem w1463 : Cond.code yX12_putName cX12_putName 5 none ∈ lw_tbl := List.mem_append_right _ (List.mem_append_right _ (List.mem_append_right _ (List.mem_append_right _ (List.mem_append_right _ (List.mem_append_right _ (List.mem_append_left _ (List.mem_of_getElem? (i := 145) rfl)))))))
set_option maxRecDepth 20000 in
theorem w1464 : Cond.methodLink "LetterBrokerModel" 175 yX12_length ∈ lw_tbl := List.mem_append_right _ (List.mem_append_right _ (List.mem_append_right _ (List.mem_append_right _ (List.mem_append_right _ (List.mem_append_right _ (List.mem_append_left _ (List.mem_of_getElem? (i := 146) rfl)))))))
set_option maxRecDepth 20000 in
theorem w1465 : Cond.static yX12_length ∈ lw_tbl := List.mem_append_right _ (List.mem_append_right _ (List.mem_append_right _ (List.mem_append_right _ (List.mem_append_right _ (List.mem_append_right _ (List.mem_append_left _ (List.mem_of_getElem? (i := 147) rfl)))))))
set_option maxRecDepth 20000 in
theorem w1466 : Cond.code yX12_length cX12_length 5 (some .int) ∈ lw_tbl := List.mem_append_right _ (List.mem_append_right _ (List.mem_append_right _ (List.mem_append_right _ (List.mem_append_right _ (List.mem_append_right _ (List.mem_append_left _ (List.mem_of_getElem? (i := 148) rfl)))))))
set_option maxRecDepth 20000 in
theorem w1467 : Cond.methodLink "LetterBrokerModel" 348 yX12_waiting ∈ lw_tbl := List.mem_append_right _ (List.mem_append_right _ (List.mem_append_right _ (List.mem_append_right _ (List.mem_append_right _ (List.mem_append_right _ (List.mem_append_left _ (List.mem_of_getElem? (i := 149) rfl)))))))
set_option maxRecDepth 20000 in
theorem w1469 : Cond.instanceMethod yX12_waiting ∈ lw_tbl := List.mem_append_right _ (List.mem_append_right _ (List.mem_append_right _ (List.mem_append_right _ (List.mem_append_right _ (List.mem_append_right _ (List.mem_append_left _ (List.mem_of_getElem? (i := 151) rfl)))))))
set_option maxRecDepth 20000 in
theorem w1470 : Cond.code yX12_waiting cX12_waiting 4 (some .int) ∈ lw_tbl := List.mem_append_right _ (List.mem_append_right _ (List.mem_append_right _ (List.mem_append_right _ (List.mem_append_right _ (List.mem_append_right _ (List.mem_append_left _ (List.mem_of_getElem? (i := 152) rfl)))))))
set_option maxRecDepth 20000 in
theorem w1471 : Cond.methodLink "LetterBrokerModel" 351 yX12_consumersOf ∈ lw_tbl := List.mem_append_right _ (List.mem_append_right _ (List.mem_append_right _ (List.mem_append_right _ (List.mem_append_right _ (List.mem_append_right _ (List.mem_append_left _ (List.mem_of_getElem? (i := 153) rfl)))))))
set_option maxRecDepth 20000 in
theorem w1473 : Cond.instanceMethod yX12_consumersOf ∈ lw_tbl := List.mem_append_right _ (List.mem_append_right _ (List.mem_append_right _ (List.mem_append_right _ (List.mem_append_right _ (List.mem_append_right _ (List.mem_append_left _ (List.mem_of_getElem? (i := 155) rfl)))))))
set_option maxRecDepth 20000 in
theorem w1474 : Cond.code yX12_consumersOf cX12_consumersOf 4 (some .int) ∈ lw_tbl := List.mem_append_right _ (List.mem_append_right _ (List.mem_append_right _ (List.mem_append_right _ (List.mem_append_right _ (List.mem_append_right _ (List.mem_append_left _ (List.mem_of_getElem? (i := 156) rfl)))))))
set_option maxRecDepth 20000 in
theorem w1475 : Cond.methodLink "LetterBrokerModel" 367 yX12_bind ∈ lw_tbl := List.mem_append_right _ (List.mem_append_right _ (List.mem_append_right _ (List.mem_append_right _ (List.mem_append_right _ (List.mem_append_right _ (List.mem_append_left _ (List.mem_of_getElem? (i := 157) rfl)))))))
set_option maxRecDepth 20000 in
theorem w1477 : Cond.instanceMethod yX12_bind ∈ lw_tbl := List.mem_append_right _ (List.mem_append_right _ (List.mem_append_right _ (List.mem_append_right _ (List.mem_append_right _ (List.mem_append_right _ (List.mem_append_left _ (List.mem_of_getElem? (i := 159) rfl)))))))
set_option maxRecDepth 20000 in
theorem w1478 : Cond.code yX12_bind cX12_bind 10 none ∈ lw_tbl := List.mem_append_right _ (List.mem_append_right _ (List.mem_append_right _ (List.mem_append_right _ (List.mem_append_right _ (List.mem_append_right _ (List.mem_append_left _ (List.mem_of_getElem? (i := 160) rfl)))))))
set_option maxRecDepth 20000 in
theorem w1479 : Cond.methodLink "LetterBrokerModel" 354 yX12_bindingOf ∈ lw_tbl := List.mem_append_right _ (List.mem_append_right _ (List.mem_append_right _ (List.mem_append_right _ (List.mem_append_right _ (List.mem_append_right _ (List.mem_append_left _ (List.mem_of_getElem? (i := 161) rfl)))))))
set_option maxRecDepth 20000 in
theorem w1481 : Cond.instanceMethod yX12_bindingOf ∈ lw_tbl := List.mem_append_right _ (List.mem_append_right _ (List.mem_append_right _ (List.mem_append_right _ (List.mem_append_right _ (List.mem_append_right _ (List.mem_append_left _ (List.mem_of_getElem? (i := 163) rfl)))))))
set_option maxRecDepth 20000 in
theorem w1482 : Cond.code yX12_bindingOf cX12_bindingOf 8 (some .int) ∈ lw_tbl := List.mem_append_right _ (List.mem_append_right _ (List.mem_append_right _ (List.mem_append_right _ (List.mem_append_right _ (List.mem_append_right _ (List.mem_append_left _ (List.mem_of_getElem? (i := 164) rfl)))))))
set_option maxRecDepth 20000 in
theorem w1483 : Cond.methodLink "LetterBrokerModel" 370 yX12_emptyQueue ∈ lw_tbl := List.mem_append_right _ (List.mem_append_right _ (List.mem_append_right _ (List.mem_append_right _ (List.mem_append_right _ (List.mem_append_right _ (List.mem_append_left _ (List.mem_of_getElem? (i := 165) rfl)))))))
set_option maxRecDepth 20000 in
theorem w1485 : Cond.instanceMethod yX12_emptyQueue ∈ lw_tbl := List.mem_append_right _ (List.mem_append_right _ (List.mem_append_right _ (List.mem_append_right _ (List.mem_append_right _ (List.mem_append_right _ (List.mem_append_left _ (List.mem_of_getElem? (i := 167) rfl)))))))
set_option maxRecDepth 20000 in
theorem w1486 : Cond.code yX12_emptyQueue cX12_emptyQueue 11 none ∈ lw_tbl := List.mem_append_right _ (List.mem_append_right _ (List.mem_append_right _ (List.mem_append_right _ (List.mem_append_right _ (List.mem_append_right _ (List.mem_append_left _ (List.mem_of_getElem? (i := 168) rfl)))))))
set_option maxRecDepth 20000 in
theorem w1487 : Cond.methodLink "LetterBrokerModel" 358 yX12_purge ∈ lw_tbl := List.mem_append_right _ (List.mem_append_right _ (List.mem_append_right _ (List.mem_append_right _ (List.mem_append_right _ (List.mem_append_right _ (List.mem_append_left _ (List.mem_of_getElem? (i := 169) rfl)))))))
set_option maxRecDepth 20000 in
theorem w1489 : Cond.instanceMethod yX12_purge ∈ lw_tbl := List.mem_append_right _ (List.mem_append_right _ (List.mem_append_right _ (List.mem_append_right _ (List.mem_append_right _ (List.mem_append_right _ (List.mem_append_left _ (List.mem_of_getElem? (i := 171) rfl)))))))
set_option maxRecDepth 20000 in
theorem w1490 : Cond.code yX12_purge cX12_purge 4 (some .int) ∈ lw_tbl := List.mem_append_right _ (List.mem_append_right _ (List.mem_append_right _ (List.mem_append_right _ (List.mem_append_right _ (List.mem_append_right _ (List.mem_append_left _ (List.mem_of_getElem? (i := 172) rfl)))))))
set_option maxRecDepth 20000 in
theorem w1491 : Cond.methodLink "LetterBrokerModel" 288 yX12_firstOf ∈ lw_tbl := List.mem_append_right _ (List.mem_append_right _ (List.mem_append_right _ (List.mem_append_right _ (List.mem_append_right _ (List.mem_append_right _ (List.mem_append_left _ (List.mem_of_getElem? (i := 173) rfl)))))))
set_option maxRecDepth 20000 in
theorem w1493 : Cond.instanceMethod yX12_firstOf ∈ lw_tbl := List.mem_append_right _ (List.mem_append_right _ (List.mem_append_right _ (List.mem_append_right _ (List.mem_append_right _ (List.mem_append_right _ (List.mem_append_left _ (List.mem_of_getElem? (i := 175) rfl)))))))
set_option maxRecDepth 20000 in
theorem w1494 : Cond.code yX12_firstOf cX12_firstOf 3 (some .int) ∈ lw_tbl := List.mem_append_right _ (List.mem_append_right _ (List.mem_append_right _ (List.mem_append_right _ (List.mem_append_right _ (List.mem_append_right _ (List.mem_append_left _ (List.mem_of_getElem? (i := 176) rfl)))))))
set_option maxRecDepth 20000 in
theorem w1495 : Cond.methodLink "LetterBrokerModel" 361 yX12_removeQueue ∈ lw_tbl := List.mem_append_right _ (List.mem_append_right _ (List.mem_append_right _ (List.mem_append_right _ (List.mem_append_right _ (List.mem_append_right _ (List.mem_append_left _ (List.mem_of_getElem? (i := 177) rfl)))))))
set_option maxRecDepth 20000 in
theorem w1497 : Cond.instanceMethod yX12_removeQueue ∈ lw_tbl := List.mem_append_right _ (List.mem_append_right _ (List.mem_append_right _ (List.mem_append_right _ (List.mem_append_right _ (List.mem_append_right _ (List.mem_append_left _ (List.mem_of_getElem? (i := 179) rfl)))))))
set_option maxRecDepth 20000 in
theorem w1498 : Cond.code yX12_removeQueue cX12_removeQueue 3 none ∈ lw_tbl := List.mem_append_right _ (List.mem_append_right _ (List.mem_append_right _ (List.mem_append_right _ (List.mem_append_right _ (List.mem_append_right _ (List.mem_append_left _ (List.mem_of_getElem? (i := 180) rfl)))))))
set_option maxRecDepth 20000 in
theorem w1499 : Cond.methodLink "LetterBrokerModel" 417 yX12_letterMethod ∈ lw_tbl := List.mem_append_right _ (List.mem_append_right _ (List.mem_append_right _ (List.mem_append_right _ (List.mem_append_right _ (List.mem_append_right _ (List.mem_append_left _ (List.mem_of_getElem? (i := 181) rfl)))))))
set_option maxRecDepth 20000 in
theorem w1501 : Cond.instanceMethod yX12_letterMethod ∈ lw_tbl := List.mem_append_right _ (List.mem_append_right _ (List.mem_append_right _ (List.mem_append_right _ (List.mem_append_right _ (List.mem_append_right _ (List.mem_append_left _ (List.mem_of_getElem? (i := 183) rfl)))))))
set_option maxRecDepth 20000 in
theorem w1502 : Cond.code yX12_letterMethod cX12_letterMethod 7 none ∈ lw_tbl := List.mem_append_right _ (List.mem_append_right _ (List.mem_append_right _ (List.mem_append_right _ (List.mem_append_right _ (List.mem_append_right _ (List.mem_append_left _ (List.mem_of_getElem? (i := 184) rfl)))))))
set_option maxRecDepth 20000 in
theorem w1503 : Cond.methodLink "LetterBrokerModel" 380 yX12_consume ∈ lw_tbl := List.mem_append_right _ (List.mem_append_right _ (List.mem_append_right _ (List.mem_append_right _ (List.mem_append_right _ (List.mem_append_right _ (List.mem_append_left _ (List.mem_of_getElem? (i := 185) rfl)))))))
set_option maxRecDepth 20000 in
theorem w1505 : Cond.instanceMethod yX12_consume ∈ lw_tbl := List.mem_append_right _ (List.mem_append_right _ (List.mem_append_right _ (List.mem_append_right _ (List.mem_append_right _ (List.mem_append_right _ (List.mem_append_left _ (List.mem_of_getElem? (i := 187) rfl)))))))
set_option maxRecDepth 20000 in
theorem w1506 : Cond.code yX12_consume cX12_consume 8 none ∈ lw_tbl := List.mem_append_right _ (List.mem_append_right _ (List.mem_append_right _ (List.mem_append_right _ (List.mem_append_right _ (List.mem_append_right _ (List.mem_append_left _ (List.mem_of_getElem? (i := 188) rfl)))))))
set_option maxRecDepth 20000 in
theorem w1507 : Cond.methodLink "LetterBrokerModel" 373 yX12_hasTag ∈ lw_tbl := List.mem_append_right _ (List.mem_append_right _ (List.mem_append_right _ (List.mem_append_right _ (List.mem_append_right _ (List.mem_append_right _ (List.mem_append_left _ (List.mem_of_getElem? (i := 189) rfl)))))))
set_option maxRecDepth 20000 in
theorem w1509 : Cond.instanceMethod yX12_hasTag ∈ lw_tbl := List.mem_append_right _ (List.mem_append_right _ (List.mem_append_right _ (List.mem_append_right _ (List.mem_append_right _ (List.mem_append_right _ (List.mem_append_left _ (List.mem_of_getElem? (i := 191) rfl)))))))
set_option maxRecDepth 20000 in
theorem w1510 : Cond.code yX12_hasTag cX12_hasTag 6 (some .boolean) ∈ lw_tbl := List.mem_append_right _ (List.mem_append_right _ (List.mem_append_right _ (List.mem_append_right _ (List.mem_append_right _ (List.mem_append_right _ (List.mem_append_left _ (List.mem_of_getElem? (i := 192) rfl)))))))
set_option maxRecDepth 20000 in
theorem w1511 : Cond.methodLink "LetterBrokerModel" 383 yX12_cancel ∈ lw_tbl := List.mem_append_right _ (List.mem_append_right _ (List.mem_append_right _ (List.mem_append_right _ (List.mem_append_right _ (List.mem_append_right _ (List.mem_append_left _ (List.mem_of_getElem? (i := 193) rfl)))))))
set_option maxRecDepth 20000 in
theorem w1513 : Cond.instanceMethod yX12_cancel ∈ lw_tbl := List.mem_append_right _ (List.mem_append_right _ (List.mem_append_right _ (List.mem_append_right _ (List.mem_append_right _ (List.mem_append_right _ (List.mem_append_left _ (List.mem_of_getElem? (i := 195) rfl)))))))
set_option maxRecDepth 20000 in
theorem w1514 : Cond.code yX12_cancel cX12_cancel 4 none ∈ lw_tbl := List.mem_append_right _ (List.mem_append_right _ (List.mem_append_right _ (List.mem_append_right _ (List.mem_append_right _ (List.mem_append_right _ (List.mem_append_left _ (List.mem_of_getElem? (i := 196) rfl)))))))
set_option maxRecDepth 20000 in
theorem w1515 : Cond.methodLink "LetterBrokerModel" 386 yX12_publish ∈ lw_tbl := List.mem_append_right _ (List.mem_append_right _ (List.mem_append_right _ (List.mem_append_right _ (List.mem_append_right _ (List.mem_append_right _ (List.mem_append_left _ (List.mem_of_getElem? (i := 197) rfl)))))))
set_option maxRecDepth 20000 in
theorem w1517 : Cond.instanceMethod yX12_publish ∈ lw_tbl := List.mem_append_right _ (List.mem_append_right _ (List.mem_append_right _ (List.mem_append_right _ (List.mem_append_right _ (List.mem_append_right _ (List.mem_append_left _ (List.mem_of_getElem? (i := 199) rfl)))))))
set_option maxRecDepth 20000 in
theorem w1518 : Cond.code yX12_publish cX12_publish 7 none ∈ lw_tbl := List.mem_append_right _ (List.mem_append_right _ (List.mem_append_right _ (List.mem_append_right _ (List.mem_append_right _ (List.mem_append_right _ (List.mem_append_left _ (List.mem_of_getElem? (i := 200) rfl)))))))
set_option maxRecDepth 20000 in
theorem w1519 : Cond.methodLink "LetterBrokerModel" 389 yX12_get ∈ lw_tbl := List.mem_append_right _ (List.mem_append_right _ (List.mem_append_right _ (List.mem_append_right _ (List.mem_append_right _ (List.mem_append_right _ (List.mem_append_left _ (List.mem_of_getElem? (i := 201) rfl)))))))
set_option maxRecDepth 20000 in
theorem w1521 : Cond.instanceMethod yX12_get ∈ lw_tbl := List.mem_append_right _ (List.mem_append_right _ (List.mem_append_right _ (List.mem_append_right _ (List.mem_append_right _ (List.mem_append_right _ (List.mem_append_left _ (List.mem_of_getElem? (i := 203) rfl)))))))
set_option maxRecDepth 20000 in
theorem w1522 : Cond.code yX12_get cX12_get 7 none ∈ lw_tbl := List.mem_append_right _ (List.mem_append_right _ (List.mem_append_right _ (List.mem_append_right _ (List.mem_append_right _ (List.mem_append_right _ (List.mem_append_left _ (List.mem_of_getElem? (i := 204) rfl)))))))
set_option maxRecDepth 20000 in
theorem w1523 : Cond.methodLink "LetterBrokerModel" 294 yX12_tell ∈ lw_tbl := List.mem_append_right _ (List.mem_append_right _ (List.mem_append_right _ (List.mem_append_right _ (List.mem_append_right _ (List.mem_append_right _ (List.mem_append_left _ (List.mem_of_getElem? (i := 205) rfl)))))))
set_option maxRecDepth 20000 in
theorem w1525 : Cond.instanceMethod yX12_tell ∈ lw_tbl := List.mem_append_right _ (List.mem_append_right _ (List.mem_append_right _ (List.mem_append_right _ (List.mem_append_right _ (List.mem_append_right _ (List.mem_append_left _ (List.mem_of_getElem? (i := 207) rfl)))))))
set_option maxRecDepth 20000 in
theorem w1526 : Cond.code yX12_tell cX12_tell 3 none ∈ lw_tbl := List.mem_append_right _ (List.mem_append_right _ (List.mem_append_right _ (List.mem_append_right _ (List.mem_append_right _ (List.mem_append_right _ (List.mem_append_left _ (List.mem_of_getElem? (i := 208) rfl)))))))
set_option maxRecDepth 20000 in
theorem w1527 : Cond.methodLink "LetterBrokerModel" 262 yX12_putLetter ∈ lw_tbl := List.mem_append_right _ (List.mem_append_right _ (List.mem_append_right _ (List.mem_append_right _ (List.mem_append_right _ (List.mem_append_right _ (List.mem_append_left _ (List.mem_of_getElem? (i := 209) rfl)))))))
set_option maxRecDepth 20000 in
theorem w1529 : Cond.instanceMethod yX12_putLetter ∈ lw_tbl := List.mem_append_right _ (List.mem_append_right _ (List.mem_append_right _ (List.mem_append_right _ (List.mem_append_right _ (List.mem_append_right _ (List.mem_append_left _ (List.mem_of_getElem? (i := 211) rfl)))))))
set_option maxRecDepth 20000 in
theorem w1530 : Cond.code yX12_putLetter cX12_putLetter 6 none ∈ lw_tbl := List.mem_append_right _ (List.mem_append_right _ (List.mem_append_right _ (List.mem_append_right _ (List.mem_append_right _ (List.mem_append_right _ (List.mem_append_left _ (List.mem_of_getElem? (i := 212) rfl)))))))
set_option maxRecDepth 20000 in
theorem w1531 : Cond.methodLink "LetterBrokerModel" 297 yX12_take ∈ lw_tbl := List.mem_append_right _ (List.mem_append_right _ (List.mem_append_right _ (List.mem_append_right _ (List.mem_append_right _ (List.mem_append_right _ (List.mem_append_left _ (List.mem_of_getElem? (i := 213) rfl)))))))
set_option maxRecDepth 20000 in
theorem w1533 : Cond.instanceMethod yX12_take ∈ lw_tbl := List.mem_append_right _ (List.mem_append_right _ (List.mem_append_right _ (List.mem_append_right _ (List.mem_append_right _ (List.mem_append_right _ (List.mem_append_left _ (List.mem_of_getElem? (i := 215) rfl)))))))
set_option maxRecDepth 20000 in
theorem w1534 : Cond.code yX12_take cX12_take 4 none ∈ lw_tbl := List.mem_append_right _ (List.mem_append_right _ (List.mem_append_right _ (List.mem_append_right _ (List.mem_append_right _ (List.mem_append_right _ (List.mem_append_left _ (List.mem_of_getElem? (i := 216) rfl)))))))
set_option maxRecDepth 20000 in
theorem w1535 : Cond.methodLink "LetterBrokerModel" 392 yX12_nextShort ∈ lw_tbl := List.mem_append_right _ (List.mem_append_right _ (List.mem_append_right _ (List.mem_append_right _ (List.mem_append_right _ (List.mem_append_right _ (List.mem_append_left _ (List.mem_of_getElem? (i := 217) rfl)))))))
set_option maxRecDepth 20000 in
theorem w1537 : Cond.instanceMethod yX12_nextShort ∈ lw_tbl := List.mem_append_right _ (List.mem_append_right _ (List.mem_append_right _ (List.mem_append_right _ (List.mem_append_right _ (List.mem_append_right _ (List.mem_append_left _ (List.mem_of_getElem? (i := 219) rfl)))))))
set_option maxRecDepth 20000 in
theorem w1538 : Cond.code yX12_nextShort cX12_nextShort 2 (some .int) ∈ lw_tbl := List.mem_append_right _ (List.mem_append_right _ (List.mem_append_right _ (List.mem_append_right _ (List.mem_append_right _ (List.mem_append_right _ (List.mem_append_left _ (List.mem_of_getElem? (i := 220) rfl)))))))
set_option maxRecDepth 20000 in
theorem w1539 : Cond.methodLink "LetterBrokerModel" 395 yX12_settleOrKeep ∈ lw_tbl := List.mem_append_right _ (List.mem_append_right _ (List.mem_append_right _ (List.mem_append_right _ (List.mem_append_right _ (List.mem_append_right _ (List.mem_append_left _ (List.mem_of_getElem? (i := 221) rfl)))))))
set_option maxRecDepth 20000 in
theorem w1541 : Cond.instanceMethod yX12_settleOrKeep ∈ lw_tbl := List.mem_append_right _ (List.mem_append_right _ (List.mem_append_right _ (List.mem_append_right _ (List.mem_append_right _ (List.mem_append_right _ (List.mem_append_left _ (List.mem_of_getElem? (i := 223) rfl)))))))
set_option maxRecDepth 20000 in
theorem w1542 : Cond.code yX12_settleOrKeep cX12_settleOrKeep 7 none ∈ lw_tbl := List.mem_append_right _ (List.mem_append_right _ (List.mem_append_right _ (List.mem_append_right _ (List.mem_append_right _ (List.mem_append_right _ (List.mem_append_left _ (List.mem_of_getElem? (i := 224) rfl)))))))
set_option maxRecDepth 20000 in
theorem w1543 : Cond.methodLink "LetterBrokerModel" 270 yX12_isMeant ∈ lw_tbl := List.mem_append_right _ (List.mem_append_right _ (List.mem_append_right _ (List.mem_append_right _ (List.mem_append_right _ (List.mem_append_right _ (List.mem_append_left _ (List.mem_of_getElem? (i := 225) rfl)))))))
set_option maxRecDepth 20000 in
theorem w1545 : Cond.instanceMethod yX12_isMeant ∈ lw_tbl := List.mem_append_right _ (List.mem_append_right _ (List.mem_append_right _ (List.mem_append_right _ (List.mem_append_right _ (List.mem_append_right _ (List.mem_append_left _ (List.mem_of_getElem? (i := 227) rfl)))))))
set_option maxRecDepth 20000 in
theorem w1546 : Cond.code yX12_isMeant cX12_isMeant 5 (some .boolean) ∈ lw_tbl := List.mem_append_right _ (List.mem_append_right _ (List.mem_append_right _ (List.mem_append_right _ (List.mem_append_right _ (List.mem_append_right _ (List.mem_append_left _ (List.mem_of_getElem? (i := 228) rfl)))))))
set_option maxRecDepth 20000 in
theorem w1547 : Cond.methodLink "LetterBrokerModel" 274 yX12_settle ∈ lw_tbl := List.mem_append_right _ (List.mem_append_right _ (List.mem_append_right _ (List.mem_append_right _ (List.mem_append_right _ (List.mem_append_right _ (List.mem_append_left _ (List.mem_of_getElem? (i := 229) rfl)))))))
set_option maxRecDepth 20000 in
theorem w1549 : Cond.instanceMethod yX12_settle ∈ lw_tbl := List.mem_append_right _ (List.mem_append_right _ (List.mem_append_right _ (List.mem_append_right _ (List.mem_append_right _ (List.mem_append_right _ (List.mem_append_left _ (List.mem_of_getElem? (i := 231) rfl)))))))
set_option maxRecDepth 20000 in
theorem w1550 : Cond.code yX12_settle cX12_settle 7 none ∈ lw_tbl := List.mem_append_right _ (List.mem_append_right _ (List.mem_append_right _ (List.mem_append_right _ (List.mem_append_right _ (List.mem_append_right _ (List.mem_append_left _ (List.mem_of_getElem? (i := 232) rfl)))))))
set_option maxRecDepth 20000 in
theorem w1551 : Cond.methodLink "LetterBrokerModel" 420 yX12_transactionMethod ∈ lw_tbl := List.mem_append_right _ (List.mem_append_right _ (List.mem_append_right _ (List.mem_append_right _ (List.mem_append_right _ (List.mem_append_right _ (List.mem_append_left _ (List.mem_of_getElem? (i := 233) rfl)))))))
set_option maxRecDepth 20000 in
theorem w1553 : Cond.instanceMethod yX12_transactionMethod ∈ lw_tbl := List.mem_append_right _ (List.mem_append_right _ (List.mem_append_right _ (List.mem_append_right _ (List.mem_append_right _ (List.mem_append_right _ (List.mem_append_left _ (List.mem_of_getElem? (i := 235) rfl)))))))
set_option maxRecDepth 20000 in
theorem w1554 : Cond.code yX12_transactionMethod cX12_transactionMethod 3 none ∈ lw_tbl := List.mem_append_right _ (List.mem_append_right _ (List.mem_append_right _ (List.mem_append_right _ (List.mem_append_right _ (List.mem_append_right _ (List.mem_append_left _ (List.mem_of_getElem? (i := 236) rfl)))))))
set_option maxRecDepth 20000 in
theorem w1555 : Cond.methodLink "LetterBrokerModel" 398 yX12_commit ∈ lw_tbl := List.mem_append_right _ (List.mem_append_right _ (List.mem_append_right _ (List.mem_append_right _ (List.mem_append_right _ (List.mem_append_right _ (List.mem_append_left _ (List.mem_of_getElem? (i := 237) rfl)))))))
set_option maxRecDepth 20000 in
theorem w1557 : Cond.instanceMethod yX12_commit ∈ lw_tbl := List.mem_append_right _ (List.mem_append_right _ (List.mem_append_right _ (List.mem_append_right _ (List.mem_append_right _ (List.mem_append_right _ (List.mem_append_left _ (List.mem_of_getElem? (i := 239) rfl)))))))
set_option maxRecDepth 20000 in
theorem w1558 : Cond.code yX12_commit cX12_commit 5 none ∈ lw_tbl := List.mem_append_right _ (List.mem_append_right _ (List.mem_append_right _ (List.mem_append_right _ (List.mem_append_right _ (List.mem_append_right _ (List.mem_append_right _ (List.mem_of_getElem? (i := 0) rfl)))))))
set_option maxRecDepth 20000 in
theorem w1559 : Cond.methodLink "LetterBrokerModel" 266 yX12_route ∈ lw_tbl := List.mem_append_right _ (List.mem_append_right _ (List.mem_append_right _ (List.mem_append_right _ (List.mem_append_right _ (List.mem_append_right _ (List.mem_append_right _ (List.mem_of_getElem? (i := 1) rfl)))))))
set_option maxRecDepth 20000 in
theorem w1561 : Cond.instanceMethod yX12_route ∈ lw_tbl := List.mem_append_right _ (List.mem_append_right _ (List.mem_append_right _ (List.mem_append_right _ (List.mem_append_right _ (List.mem_append_right _ (List.mem_append_right _ (List.mem_of_getElem? (i := 3) rfl)))))))
set_option maxRecDepth 20000 in
theorem w1562 : Cond.code yX12_route cX12_route 13 (some .boolean) ∈ lw_tbl := List.mem_append_right _ (List.mem_append_right _ (List.mem_append_right _ (List.mem_append_right _ (List.mem_append_right _ (List.mem_append_right _ (List.mem_append_right _ (List.mem_of_getElem? (i := 4) rfl)))))))
set_option maxRecDepth 20000 in
theorem w1563 : Cond.methodLink "LetterBrokerModel" 248 yX12_reaches ∈ lw_tbl := List.mem_append_right _ (List.mem_append_right _ (List.mem_append_right _ (List.mem_append_right _ (List.mem_append_right _ (List.mem_append_right _ (List.mem_append_right _ (List.mem_of_getElem? (i := 5) rfl)))))))
set_option maxRecDepth 20000 in
theorem w1565 : Cond.instanceMethod yX12_reaches ∈ lw_tbl := List.mem_append_right _ (List.mem_append_right _ (List.mem_append_right _ (List.mem_append_right _ (List.mem_append_right _ (List.mem_append_right _ (List.mem_append_right _ (List.mem_of_getElem? (i := 7) rfl)))))))
set_option maxRecDepth 20000 in
theorem w1566 : Cond.code yX12_reaches cX12_reaches 9 (some .boolean) ∈ lw_tbl := List.mem_append_right _ (List.mem_append_right _ (List.mem_append_right _ (List.mem_append_right _ (List.mem_append_right _ (List.mem_append_right _ (List.mem_append_right _ (List.mem_of_getElem? (i := 8) rfl)))))))
set_option maxRecDepth 20000 in
theorem w1567 : Cond.methodLink "LetterBrokerModel" 241 yX12_fits ∈ lw_tbl := List.mem_append_right _ (List.mem_append_right _ (List.mem_append_right _ (List.mem_append_right _ (List.mem_append_right _ (List.mem_append_right _ (List.mem_append_right _ (List.mem_of_getElem? (i := 9) rfl)))))))
set_option maxRecDepth 20000 in
theorem w1569 : Cond.instanceMethod yX12_fits ∈ lw_tbl := List.mem_append_right _ (List.mem_append_right _ (List.mem_append_right _ (List.mem_append_right _ (List.mem_append_right _ (List.mem_append_right _ (List.mem_append_right _ (List.mem_of_getElem? (i := 11) rfl)))))))
set_option maxRecDepth 20000 in
theorem w1570 : Cond.code yX12_fits cX12_fits 9 (some .boolean) ∈ lw_tbl := List.mem_append_right _ (List.mem_append_right _ (List.mem_append_right _ (List.mem_append_right _ (List.mem_append_right _ (List.mem_append_right _ (List.mem_append_right _ (List.mem_of_getElem? (i := 12) rfl)))))))
set_option maxRecDepth 20000 in
theorem w1571 : Cond.methodLink "LetterBrokerModel" 229 yX12_split ∈ lw_tbl := List.mem_append_right _ (List.mem_append_right _ (List.mem_append_right _ (List.mem_append_right _ (List.mem_append_right _ (List.mem_append_right _ (List.mem_append_right _ (List.mem_of_getElem? (i := 13) rfl)))))))
set_option maxRecDepth 20000 in
theorem w1572 : Cond.static yX12_split ∈ lw_tbl := List.mem_append_right _ (List.mem_append_right _ (List.mem_append_right _ (List.mem_append_right _ (List.mem_append_right _ (List.mem_append_right _ (List.mem_append_right _ (List.mem_of_getElem? (i := 14) rfl)))))))
set_option maxRecDepth 20000 in
theorem w1573 : Cond.code yX12_split cX12_split 7 (some .int) ∈ lw_tbl := List.mem_append_right _ (List.mem_append_right _ (List.mem_append_right _ (List.mem_append_right _ (List.mem_append_right _ (List.mem_append_right _ (List.mem_append_right _ (List.mem_of_getElem? (i := 15) rfl)))))))
set_option maxRecDepth 20000 in
theorem w1574 : Cond.constantLong "LetterBrokerModel" 227 (46) ∈ lw_tbl := List.mem_append_right _ (List.mem_append_right _ (List.mem_append_right _ (List.mem_append_right _ (List.mem_append_right _ (List.mem_append_right _ (List.mem_append_right _ (List.mem_of_getElem? (i := 16) rfl)))))))
set_option maxRecDepth 20000 in
theorem w1575 : Cond.methodLink "LetterBrokerModel" 233 yX12_fitsAt ∈ lw_tbl := List.mem_append_right _ (List.mem_append_right _ (List.mem_append_right _ (List.mem_append_right _ (List.mem_append_right _ (List.mem_append_right _ (List.mem_append_right _ (List.mem_of_getElem? (i := 17) rfl)))))))
set_option maxRecDepth 20000 in
theorem w1577 : Cond.instanceMethod yX12_fitsAt ∈ lw_tbl := List.mem_append_right _ (List.mem_append_right _ (List.mem_append_right _ (List.mem_append_right _ (List.mem_append_right _ (List.mem_append_right _ (List.mem_append_right _ (List.mem_of_getElem? (i := 19) rfl)))))))
set_option maxRecDepth 20000 in
theorem w1578 : Cond.code yX12_fitsAt cX12_fitsAt 6 (some .boolean) ∈ lw_tbl := List.mem_append_right _ (List.mem_append_right _ (List.mem_append_right _ (List.mem_append_right _ (List.mem_append_right _ (List.mem_append_right _ (List.mem_append_right _ (List.mem_of_getElem? (i := 20) rfl)))))))
set_option maxRecDepth 20000 in
theorem w1579 : Cond.constantLong "LetterBrokerModel" 237 (291) ∈ lw_tbl := List.mem_append_right _ (List.mem_append_right _ (List.mem_append_right _ (List.mem_append_right _ (List.mem_append_right _ (List.mem_append_right _ (List.mem_append_right _ (List.mem_of_getElem? (i := 21) rfl)))))))
set_option maxRecDepth 20000 in
theorem w1580 : Cond.constantLong "LetterBrokerModel" 239 (298) ∈ lw_tbl := List.mem_append_right _ (List.mem_append_right _ (List.mem_append_right _ (List.mem_append_right _ (List.mem_append_right _ (List.mem_append_right _ (List.mem_append_right _ (List.mem_of_getElem? (i := 22) rfl)))))))
set_option maxRecDepth 20000 in
theorem w1581 : Cond.methodLink "LetterBrokerModel" 429 yX12_head ∈ lw_tbl := List.mem_append_right _ (List.mem_append_right _ (List.mem_append_right _ (List.mem_append_right _ (List.mem_append_right _ (List.mem_append_right _ (List.mem_append_right _ (List.mem_of_getElem? (i := 23) rfl)))))))
set_option maxRecDepth 20000 in
theorem w1583 : Cond.instanceMethod yX12_head ∈ lw_tbl := List.mem_append_right _ (List.mem_append_right _ (List.mem_append_right _ (List.mem_append_right _ (List.mem_append_right _ (List.mem_append_right _ (List.mem_append_right _ (List.mem_of_getElem? (i := 25) rfl)))))))
set_option maxRecDepth 20000 in
theorem w1584 : Cond.code yX12_head cX12_head 2 none ∈ lw_tbl := List.mem_append_right _ (List.mem_append_right _ (List.mem_append_right _ (List.mem_append_right _ (List.mem_append_right _ (List.mem_append_right _ (List.mem_append_right _ (List.mem_of_getElem? (i := 26) rfl)))))))
set_option maxRecDepth 20000 in
theorem w1585 : Cond.methodLink "LetterBrokerModel" 423 yX12_complete ∈ lw_tbl := List.mem_append_right _ (List.mem_append_right _ (List.mem_append_right _ (List.mem_append_right _ (List.mem_append_right _ (List.mem_append_right _ (List.mem_append_right _ (List.mem_of_getElem? (i := 27) rfl)))))))
set_option maxRecDepth 20000 in
theorem w1587 : Cond.instanceMethod yX12_complete ∈ lw_tbl := List.mem_append_right _ (List.mem_append_right _ (List.mem_append_right _ (List.mem_append_right _ (List.mem_append_right _ (List.mem_append_right _ (List.mem_append_right _ (List.mem_of_getElem? (i := 29) rfl)))))))
set_option maxRecDepth 20000 in
theorem w1588 : Cond.code yX12_complete cX12_complete 3 none ∈ lw_tbl := List.mem_append_right _ (List.mem_append_right _ (List.mem_append_right _ (List.mem_append_right _ (List.mem_append_right _ (List.mem_append_right _ (List.mem_append_right _ (List.mem_of_getElem? (i := 30) rfl)))))))
set_option maxRecDepth 20000 in
theorem w1589 : Cond.methodLink "LetterBrokerModel" 432 yX12_body ∈ lw_tbl := List.mem_append_right _ (List.mem_append_right _ (List.mem_append_right _ (List.mem_append_right _ (List.mem_append_right _ (List.mem_append_right _ (List.mem_append_right _ (List.mem_of_getElem? (i := 31) rfl)))))))
set_option maxRecDepth 20000 in
theorem w1591 : Cond.instanceMethod yX12_body ∈ lw_tbl := List.mem_append_right _ (List.mem_append_right _ (List.mem_append_right _ (List.mem_append_right _ (List.mem_append_right _ (List.mem_append_right _ (List.mem_append_right _ (List.mem_of_getElem? (i := 33) rfl)))))))
set_option maxRecDepth 20000 in
theorem w1592 : Cond.code yX12_body cX12_body 3 none ∈ lw_tbl := List.mem_append_right _ (List.mem_append_right _ (List.mem_append_right _ (List.mem_append_right _ (List.mem_append_right _ (List.mem_append_right _ (List.mem_append_right _ (List.mem_of_getElem? (i := 34) rfl)))))))
set_option maxRecDepth 20000 in
theorem w1593 : Cond.methodLink "LetterBrokerModel" 449 yX12_deliver ∈ lw_tbl := List.mem_append_right _ (List.mem_append_right _ (List.mem_append_right _ (List.mem_append_right _ (List.mem_append_right _ (List.mem_append_right _ (List.mem_append_right _ (List.mem_of_getElem? (i := 35) rfl)))))))
set_option maxRecDepth 20000 in
theorem w1595 : Cond.instanceMethod yX12_deliver ∈ lw_tbl := List.mem_append_right _ (List.mem_append_right _ (List.mem_append_right _ (List.mem_append_right _ (List.mem_append_right _ (List.mem_append_right _ (List.mem_append_right _ (List.mem_of_getElem? (i := 37) rfl)))))))
set_option maxRecDepth 20000 in
theorem w1596 : Cond.code yX12_deliver cX12_deliver 5 (some .boolean) ∈ lw_tbl := List.mem_append_right _ (List.mem_append_right _ (List.mem_append_right _ (List.mem_append_right _ (List.mem_append_right _ (List.mem_append_right _ (List.mem_append_right _ (List.mem_of_getElem? (i := 38) rfl)))))))
set_option maxRecDepth 20000 in
theorem w1597 : Cond.methodLink "LetterBrokerModel" 291 yX12_nextConsumer ∈ lw_tbl := List.mem_append_right _ (List.mem_append_right _ (List.mem_append_right _ (List.mem_append_right _ (List.mem_append_right _ (List.mem_append_right _ (List.mem_append_right _ (List.mem_of_getElem? (i := 39) rfl)))))))
set_option maxRecDepth 20000 in
theorem w1599 : Cond.instanceMethod yX12_nextConsumer ∈ lw_tbl := List.mem_append_right _ (List.mem_append_right _ (List.mem_append_right _ (List.mem_append_right _ (List.mem_append_right _ (List.mem_append_right _ (List.mem_append_right _ (List.mem_of_getElem? (i := 41) rfl)))))))
set_option maxRecDepth 20000 in
theorem w1600 : Cond.code yX12_nextConsumer cX12_nextConsumer 4 (some .int) ∈ lw_tbl := List.mem_append_right _ (List.mem_append_right _ (List.mem_append_right _ (List.mem_append_right _ (List.mem_append_right _ (List.mem_append_right _ (List.mem_append_right _ (List.mem_of_getElem? (i := 42) rfl)))))))
set_option maxRecDepth 20000 in
theorem w1601 : Cond.methodLink "LetterBrokerModel" 285 yX12_canTake ∈ lw_tbl := List.mem_append_right _ (List.mem_append_right _ (List.mem_append_right _ (List.mem_append_right _ (List.mem_append_right _ (List.mem_append_right _ (List.mem_append_right _ (List.mem_of_getElem? (i := 43) rfl)))))))
set_option maxRecDepth 20000 in
theorem w1603 : Cond.instanceMethod yX12_canTake ∈ lw_tbl := List.mem_append_right _ (List.mem_append_right _ (List.mem_append_right _ (List.mem_append_right _ (List.mem_append_right _ (List.mem_append_right _ (List.mem_append_right _ (List.mem_of_getElem? (i := 45) rfl)))))))
set_option maxRecDepth 20000 in
theorem w1604 : Cond.code yX12_canTake cX12_canTake 3 (some .boolean) ∈ lw_tbl := List.mem_append_right _ (List.mem_append_right _ (List.mem_append_right _ (List.mem_append_right _ (List.mem_append_right _ (List.mem_append_right _ (List.mem_append_right _ (List.mem_of_getElem? (i := 46) rfl)))))))
set_option maxRecDepth 20000 in
theorem w1605 : Cond.methodLink "LetterBrokerModel" 281 yX12_held ∈ lw_tbl := List.mem_append_right _ (List.mem_append_right _ (List.mem_append_right _ (List.mem_append_right _ (List.mem_append_right _ (List.mem_append_right _ (List.mem_append_right _ (List.mem_of_getElem? (i := 47) rfl)))))))
set_option maxRecDepth 20000 in
theorem w1607 : Cond.instanceMethod yX12_held ∈ lw_tbl := List.mem_append_right _ (List.mem_append_right _ (List.mem_append_right _ (List.mem_append_right _ (List.mem_append_right _ (List.mem_append_right _ (List.mem_append_right _ (List.mem_of_getElem? (i := 49) rfl)))))))
set_option maxRecDepth 20000 in
theorem w1608 : Cond.code yX12_held cX12_held 4 (some .int) ∈ lw_tbl := List.mem_append_right _ (List.mem_append_right _ (List.mem_append_right _ (List.mem_append_right _ (List.mem_append_right _ (List.mem_append_right _ (List.mem_append_right _ (List.mem_of_getElem? (i := 50) rfl)))))))
set_option maxRecDepth 20000 in
theorem w1609 : Cond.methodLink "LetterBrokerLaw" 28 yX12_ready ∈ lw_tbl := List.mem_append_right _ (List.mem_append_right _ (List.mem_append_right _ (List.mem_append_right _ (List.mem_append_right _ (List.mem_append_right _ (List.mem_append_right _ (List.mem_of_getElem? (i := 51) rfl)))))))
set_option maxRecDepth 20000 in
theorem w1610 : Cond.instanceMethod yX12_ready ∈ lw_tbl := List.mem_append_right _ (List.mem_append_right _ (List.mem_append_right _ (List.mem_append_right _ (List.mem_append_right _ (List.mem_append_right _ (List.mem_append_right _ (List.mem_of_getElem? (i := 52) rfl)))))))
set_option maxRecDepth 20000 in
theorem w1611 : Cond.selects "LetterBrokerModel" yX12_ready yX12_ready ∈ lw_tbl := List.mem_append_right _ (List.mem_append_right _ (List.mem_append_right _ (List.mem_append_right _ (List.mem_append_right _ (List.mem_append_right _ (List.mem_append_right _ (List.mem_of_getElem? (i := 53) rfl)))))))
set_option maxRecDepth 20000 in
theorem w1612 : Cond.code yX12_ready cX12_ready 1 (some .int) ∈ lw_tbl := List.mem_append_right _ (List.mem_append_right _ (List.mem_append_right _ (List.mem_append_right _ (List.mem_append_right _ (List.mem_append_right _ (List.mem_append_right _ (List.mem_of_getElem? (i := 54) rfl)))))))
set_option maxRecDepth 20000 in
theorem w1613 : Cond.methodLink "LetterBrokerLaw" 32 yX12_receive ∈ lw_tbl := List.mem_append_right _ (List.mem_append_right _ (List.mem_append_right _ (List.mem_append_right _ (List.mem_append_right _ (List.mem_append_right _ (List.mem_append_right _ (List.mem_of_getElem? (i := 55) rfl)))))))
set_option maxRecDepth 20000 in
theorem w1614 : Cond.instanceMethod yX12_receive ∈ lw_tbl := List.mem_append_right _ (List.mem_append_right _ (List.mem_append_right _ (List.mem_append_right _ (List.mem_append_right _ (List.mem_append_right _ (List.mem_append_right _ (List.mem_of_getElem? (i := 56) rfl)))))))
set_option maxRecDepth 20000 in
theorem w1615 : Cond.selects "LetterBrokerModel" yX12_receive yX12_receive ∈ lw_tbl := List.mem_append_right _ (List.mem_append_right _ (List.mem_append_right _ (List.mem_append_right _ (List.mem_append_right _ (List.mem_append_right _ (List.mem_append_right _ (List.mem_of_getElem? (i := 57) rfl)))))))
set_option maxRecDepth 20000 in
theorem w1616 : Cond.code yX12_receive cX12_receive 3 (some .int) ∈ lw_tbl := List.mem_append_right _ (List.mem_append_right _ (List.mem_append_right _ (List.mem_append_right _ (List.mem_append_right _ (List.mem_append_right _ (List.mem_append_right _ (List.mem_of_getElem? (i := 58) rfl)))))))
set_option maxRecDepth 20000 in
theorem w1617 : Cond.methodLink "LetterBrokerLaw" 36 yX12_line ∈ lw_tbl := List.mem_append_right _ (List.mem_append_right _ (List.mem_append_right _ (List.mem_append_right _ (List.mem_append_right _ (List.mem_append_right _ (List.mem_append_right _ (List.mem_of_getElem? (i := 59) rfl)))))))
set_option maxRecDepth 20000 in
theorem w1618 : Cond.instanceMethod yX12_line ∈ lw_tbl := List.mem_append_right _ (List.mem_append_right _ (List.mem_append_right _ (List.mem_append_right _ (List.mem_append_right _ (List.mem_append_right _ (List.mem_append_right _ (List.mem_of_getElem? (i := 60) rfl)))))))
set_option maxRecDepth 20000 in
theorem w1619 : Cond.selects "LetterBrokerModel" yX12_line yX12_line ∈ lw_tbl := List.mem_append_right _ (List.mem_append_right _ (List.mem_append_right _ (List.mem_append_right _ (List.mem_append_right _ (List.mem_append_right _ (List.mem_append_right _ (List.mem_of_getElem? (i := 61) rfl)))))))
set_option maxRecDepth 20000 in
theorem w1620 : Cond.code yX12_line cX12_line 1 (some .int) ∈ lw_tbl := List.mem_append_right _ (List.mem_append_right _ (List.mem_append_right _ (List.mem_append_right _ (List.mem_append_right _ (List.mem_append_right _ (List.mem_append_right _ (List.mem_of_getElem? (i := 62) rfl)))))))
set_option maxRecDepth 20000 in
theorem w1621 : Cond.methodLink "LetterBrokerLaw" 41 yX12_connect ∈ lw_tbl := List.mem_append_right _ (List.mem_append_right _ (List.mem_append_right _ (List.mem_append_right _ (List.mem_append_right _ (List.mem_append_right _ (List.mem_append_right _ (List.mem_of_getElem? (i := 63) rfl)))))))
set_option maxRecDepth 20000 in
theorem w1622 : Cond.instanceMethod yX12_connect ∈ lw_tbl := List.mem_append_right _ (List.mem_append_right _ (List.mem_append_right _ (List.mem_append_right _ (List.mem_append_right _ (List.mem_append_right _ (List.mem_append_right _ (List.mem_of_getElem? (i := 64) rfl)))))))
set_option maxRecDepth 20000 in
theorem w1623 : Cond.selects "LetterBrokerModel" yX12_connect yX12_connect ∈ lw_tbl := List.mem_append_right _ (List.mem_append_right _ (List.mem_append_right _ (List.mem_append_right _ (List.mem_append_right _ (List.mem_append_right _ (List.mem_append_right _ (List.mem_of_getElem? (i := 65) rfl)))))))
set_option maxRecDepth 20000 in
theorem w1624 : Cond.code yX12_connect cX12_connect 1 (some .boolean) ∈ lw_tbl := List.mem_append_right _ (List.mem_append_right _ (List.mem_append_right _ (List.mem_append_right _ (List.mem_append_right _ (List.mem_append_right _ (List.mem_append_right _ (List.mem_of_getElem? (i := 66) rfl)))))))
set_option maxRecDepth 20000 in
theorem w1625 : Cond.methodLink "LetterBrokerLaw" 46 yX12_channel ∈ lw_tbl := List.mem_append_right _ (List.mem_append_right _ (List.mem_append_right _ (List.mem_append_right _ (List.mem_append_right _ (List.mem_append_right _ (List.mem_append_right _ (List.mem_of_getElem? (i := 67) rfl)))))))
set_option maxRecDepth 20000 in
theorem w1626 : Cond.instanceMethod yX12_channel ∈ lw_tbl := List.mem_append_right _ (List.mem_append_right _ (List.mem_append_right _ (List.mem_append_right _ (List.mem_append_right _ (List.mem_append_right _ (List.mem_append_right _ (List.mem_of_getElem? (i := 68) rfl)))))))
set_option maxRecDepth 20000 in
theorem w1627 : Cond.selects "LetterBrokerModel" yX12_channel yX12_channel ∈ lw_tbl := List.mem_append_right _ (List.mem_append_right _ (List.mem_append_right _ (List.mem_append_right _ (List.mem_append_right _ (List.mem_append_right _ (List.mem_append_right _ (List.mem_of_getElem? (i := 69) rfl)))))))
set_option maxRecDepth 20000 in
theorem w1628 : Cond.code yX12_channel cX12_channel 3 (some .int) ∈ lw_tbl := List.mem_append_right _ (List.mem_append_right _ (List.mem_append_right _ (List.mem_append_right _ (List.mem_append_right _ (List.mem_append_right _ (List.mem_append_right _ (List.mem_of_getElem? (i := 70) rfl)))))))
set_option maxRecDepth 20000 in
theorem w1629 : Cond.methodLink "LetterBrokerLaw" 50 yX12_queue ∈ lw_tbl := List.mem_append_right _ (List.mem_append_right _ (List.mem_append_right _ (List.mem_append_right _ (List.mem_append_right _ (List.mem_append_right _ (List.mem_append_right _ (List.mem_of_getElem? (i := 71) rfl)))))))
set_option maxRecDepth 20000 in
theorem w1630 : Cond.instanceMethod yX12_queue ∈ lw_tbl := List.mem_append_right _ (List.mem_append_right _ (List.mem_append_right _ (List.mem_append_right _ (List.mem_append_right _ (List.mem_append_right _ (List.mem_append_right _ (List.mem_of_getElem? (i := 72) rfl)))))))
set_option maxRecDepth 20000 in
theorem w1631 : Cond.selects "LetterBrokerModel" yX12_queue yX12_queue ∈ lw_tbl := List.mem_append_right _ (List.mem_append_right _ (List.mem_append_right _ (List.mem_append_right _ (List.mem_append_right _ (List.mem_append_right _ (List.mem_append_right _ (List.mem_of_getElem? (i := 73) rfl)))))))
set_option maxRecDepth 20000 in
theorem w1632 : Cond.code yX12_queue cX12_queue 5 (some .int) ∈ lw_tbl := List.mem_append_right _ (List.mem_append_right _ (List.mem_append_right _ (List.mem_append_right _ (List.mem_append_right _ (List.mem_append_right _ (List.mem_append_right _ (List.mem_of_getElem? (i := 74) rfl)))))))
set_option maxRecDepth 20000 in
theorem w1633 : Cond.constantLong "LetterBrokerLaw" 13 (4294967295) ∈ lw_tbl := List.mem_append_right _ (List.mem_append_right _ (List.mem_append_right _ (List.mem_append_right _ (List.mem_append_right _ (List.mem_append_right _ (List.mem_append_right _ (List.mem_of_getElem? (i := 75) rfl)))))))
theorem fl_1119_0 : Fl "LetterBrokerModel" 207 13 0 := ⟨by decide, _, rfl, by decide, "LetterBrokerModel", w1119, Or.inl rfl⟩
theorem fl_1120_0 : Fl "LetterBrokerModel" 7 13 1 := ⟨by decide, _, rfl, by decide, "LetterBrokerModel", w1120, Or.inl rfl⟩
theorem fl_1121_0 : Fl "LetterBrokerModel" 210 13 2 := ⟨by decide, _, rfl, by decide, "LetterBrokerModel", w1121, Or.inl rfl⟩
theorem fl_1122_0 : Fl "LetterBrokerModel" 13 13 3 := ⟨by decide, _, rfl, by decide, "LetterBrokerModel", w1122, Or.inl rfl⟩
theorem fl_1123_0 : Fl "LetterBrokerModel" 154 13 4 := ⟨by decide, _, rfl, by decide, "LetterBrokerModel", w1123, Or.inl rfl⟩
theorem fl_1124_0 : Fl "LetterBrokerModel" 16 13 5 := ⟨by decide, _, rfl, by decide, "LetterBrokerModel", w1124, Or.inl rfl⟩
theorem fl_1125_0 : Fl "LetterBrokerModel" 20 13 6 := ⟨by decide, _, rfl, by decide, "LetterBrokerModel", w1125, Or.inl rfl⟩
theorem fl_1126_0 : Fl "LetterBrokerModel" 24 13 7 := ⟨by decide, _, rfl, by decide, "LetterBrokerModel", w1126, Or.inl rfl⟩
theorem fl_1127_0 : Fl "LetterBrokerModel" 185 13 8 := ⟨by decide, _, rfl, by decide, "LetterBrokerModel", w1127, Or.inl rfl⟩
theorem fl_1128_0 : Fl "LetterBrokerModel" 345 13 9 := ⟨by decide, _, rfl, by decide, "LetterBrokerModel", w1128, Or.inl rfl⟩
theorem fl_1129_0 : Fl "LetterBrokerModel" 27 13 10 := ⟨by decide, _, rfl, by decide, "LetterBrokerModel", w1129, Or.inl rfl⟩
theorem fl_1130_0 : Fl "LetterBrokerModel" 30 13 11 := ⟨by decide, _, rfl, by decide, "LetterBrokerModel", w1130, Or.inl rfl⟩
theorem fl_1131_0 : Fl "LetterBrokerModel" 33 13 12 := ⟨by decide, _, rfl, by decide, "LetterBrokerModel", w1131, Or.inl rfl⟩
theorem fl_1132_0 : Fl "LetterBrokerModel" 222 13 13 := ⟨by decide, _, rfl, by decide, "LetterBrokerModel", w1132, Or.inl rfl⟩
theorem fl_1133_0 : Fl "LetterBrokerModel" 36 13 14 := ⟨by decide, _, rfl, by decide, "LetterBrokerModel", w1133, Or.inl rfl⟩
theorem fl_1134_0 : Fl "LetterBrokerModel" 39 13 15 := ⟨by decide, _, rfl, by decide, "LetterBrokerModel", w1134, Or.inl rfl⟩
theorem fl_1135_0 : Fl "LetterBrokerModel" 42 13 16 := ⟨by decide, _, rfl, by decide, "LetterBrokerModel", w1135, Or.inl rfl⟩
theorem fl_1136_0 : Fl "LetterBrokerModel" 198 13 17 := ⟨by decide, _, rfl, by decide, "LetterBrokerModel", w1136, Or.inl rfl⟩
theorem fl_1137_0 : Fl "LetterBrokerModel" 377 13 18 := ⟨by decide, _, rfl, by decide, "LetterBrokerModel", w1137, Or.inl rfl⟩
theorem fl_1138_0 : Fl "LetterBrokerModel" 45 13 19 := ⟨by decide, _, rfl, by decide, "LetterBrokerModel", w1138, Or.inl rfl⟩
theorem fl_1139_0 : Fl "LetterBrokerModel" 48 13 20 := ⟨by decide, _, rfl, by decide, "LetterBrokerModel", w1139, Or.inl rfl⟩
theorem fl_1140_0 : Fl "LetterBrokerModel" 51 13 21 := ⟨by decide, _, rfl, by decide, "LetterBrokerModel", w1140, Or.inl rfl⟩
theorem fl_1141_0 : Fl "LetterBrokerModel" 54 13 22 := ⟨by decide, _, rfl, by decide, "LetterBrokerModel", w1141, Or.inl rfl⟩
theorem fl_1142_0 : Fl "LetterBrokerModel" 57 13 23 := ⟨by decide, _, rfl, by decide, "LetterBrokerModel", w1142, Or.inl rfl⟩
theorem fl_1143_0 : Fl "LetterBrokerModel" 179 13 24 := ⟨by decide, _, rfl, by decide, "LetterBrokerModel", w1143, Or.inl rfl⟩
theorem fl_1144_0 : Fl "LetterBrokerModel" 255 13 25 := ⟨by decide, _, rfl, by decide, "LetterBrokerModel", w1144, Or.inl rfl⟩
theorem fl_1145_0 : Fl "LetterBrokerModel" 61 13 26 := ⟨by decide, _, rfl, by decide, "LetterBrokerModel", w1145, Or.inl rfl⟩
theorem fl_1146_0 : Fl "LetterBrokerModel" 64 13 27 := ⟨by decide, _, rfl, by decide, "LetterBrokerModel", w1146, Or.inl rfl⟩
theorem fl_1147_0 : Fl "LetterBrokerModel" 67 13 28 := ⟨by decide, _, rfl, by decide, "LetterBrokerModel", w1147, Or.inl rfl⟩
theorem fl_1148_0 : Fl "LetterBrokerModel" 70 13 29 := ⟨by decide, _, rfl, by decide, "LetterBrokerModel", w1148, Or.inl rfl⟩
theorem fl_1149_0 : Fl "LetterBrokerModel" 73 13 30 := ⟨by decide, _, rfl, by decide, "LetterBrokerModel", w1149, Or.inl rfl⟩
theorem fl_1150_0 : Fl "LetterBrokerModel" 76 13 31 := ⟨by decide, _, rfl, by decide, "LetterBrokerModel", w1150, Or.inl rfl⟩
theorem fl_1151_0 : Fl "LetterBrokerModel" 79 13 32 := ⟨by decide, _, rfl, by decide, "LetterBrokerModel", w1151, Or.inl rfl⟩
theorem fl_1152_0 : Fl "LetterBrokerModel" 82 13 33 := ⟨by decide, _, rfl, by decide, "LetterBrokerModel", w1152, Or.inl rfl⟩
theorem fl_1153_0 : Fl "LetterBrokerModel" 85 13 34 := ⟨by decide, _, rfl, by decide, "LetterBrokerModel", w1153, Or.inl rfl⟩
theorem fl_1154_0 : Fl "LetterBrokerModel" 88 13 35 := ⟨by decide, _, rfl, by decide, "LetterBrokerModel", w1154, Or.inl rfl⟩
theorem fl_1155_0 : Fl "LetterBrokerModel" 91 13 36 := ⟨by decide, _, rfl, by decide, "LetterBrokerModel", w1155, Or.inl rfl⟩
theorem fl_1156_0 : Fl "LetterBrokerModel" 94 13 37 := ⟨by decide, _, rfl, by decide, "LetterBrokerModel", w1156, Or.inl rfl⟩
theorem fl_1157_0 : Fl "LetterBrokerModel" 97 13 38 := ⟨by decide, _, rfl, by decide, "LetterBrokerModel", w1157, Or.inl rfl⟩
theorem fl_1158_0 : Fl "LetterBrokerModel" 100 13 39 := ⟨by decide, _, rfl, by decide, "LetterBrokerModel", w1158, Or.inl rfl⟩
theorem fl_1159_0 : Fl "LetterBrokerModel" 103 13 40 := ⟨by decide, _, rfl, by decide, "LetterBrokerModel", w1159, Or.inl rfl⟩
theorem fl_1160_0 : Fl "LetterBrokerModel" 106 13 41 := ⟨by decide, _, rfl, by decide, "LetterBrokerModel", w1160, Or.inl rfl⟩
theorem fl_1161_0 : Fl "LetterBrokerModel" 109 13 42 := ⟨by decide, _, rfl, by decide, "LetterBrokerModel", w1161, Or.inl rfl⟩
theorem fl_1162_0 : Fl "LetterBrokerModel" 112 13 43 := ⟨by decide, _, rfl, by decide, "LetterBrokerModel", w1162, Or.inl rfl⟩
theorem fl_1163_0 : Fl "LetterBrokerModel" 115 13 44 := ⟨by decide, _, rfl, by decide, "LetterBrokerModel", w1163, Or.inl rfl⟩
theorem fl_1164_0 : Fl "LetterBrokerModel" 118 13 45 := ⟨by decide, _, rfl, by decide, "LetterBrokerModel", w1164, Or.inl rfl⟩
theorem fl_1165_0 : Fl "LetterBrokerModel" 121 13 46 := ⟨by decide, _, rfl, by decide, "LetterBrokerModel", w1165, Or.inl rfl⟩
theorem fl_1166_0 : Fl "LetterBrokerModel" 124 13 47 := ⟨by decide, _, rfl, by decide, "LetterBrokerModel", w1166, Or.inl rfl⟩
theorem fl_1167_0 : Fl "LetterBrokerModel" 127 13 48 := ⟨by decide, _, rfl, by decide, "LetterBrokerModel", w1167, Or.inl rfl⟩
theorem fl_1168_0 : Fl "LetterBrokerModel" 130 13 49 := ⟨by decide, _, rfl, by decide, "LetterBrokerModel", w1168, Or.inl rfl⟩
theorem fl_1169_0 : Fl "LetterBrokerModel" 133 13 50 := ⟨by decide, _, rfl, by decide, "LetterBrokerModel", w1169, Or.inl rfl⟩
theorem fl_1170_0 : Fl "LetterBrokerModel" 136 13 51 := ⟨by decide, _, rfl, by decide, "LetterBrokerModel", w1170, Or.inl rfl⟩
theorem fl_1171_0 : Fl "LetterBrokerModel" 139 13 52 := ⟨by decide, _, rfl, by decide, "LetterBrokerModel", w1171, Or.inl rfl⟩
theorem fl_1172_0 : Fl "LetterBrokerModel" 142 13 53 := ⟨by decide, _, rfl, by decide, "LetterBrokerModel", w1172, Or.inl rfl⟩
theorem fl_1173_0 : Fl "LetterBrokerModel" 318 13 54 := ⟨by decide, _, rfl, by decide, "LetterBrokerModel", w1173, Or.inl rfl⟩
theorem fl_1174_0 : Fl "LetterBrokerModel" 301 13 55 := ⟨by decide, _, rfl, by decide, "LetterBrokerModel", w1174, Or.inl rfl⟩
theorem fl_1175_0 : Fl "LetterBrokerModel" 304 13 56 := ⟨by decide, _, rfl, by decide, "LetterBrokerModel", w1175, Or.inl rfl⟩
theorem fl_1176_0 : Fl "LetterBrokerModel" 307 13 57 := ⟨by decide, _, rfl, by decide, "LetterBrokerModel", w1176, Or.inl rfl⟩
theorem fl_1177_0 : Fl "LetterBrokerModel" 145 13 58 := ⟨by decide, _, rfl, by decide, "LetterBrokerModel", w1177, Or.inl rfl⟩
theorem fl_1178_0 : Fl "LetterBrokerModel" 148 13 59 := ⟨by decide, _, rfl, by decide, "LetterBrokerModel", w1178, Or.inl rfl⟩
theorem fl_1179_0 : Fl "LetterBrokerModel" 151 13 60 := ⟨by decide, _, rfl, by decide, "LetterBrokerModel", w1179, Or.inl rfl⟩
theorem fl_1180_0 : Fl "LetterBrokerModel" 161 13 61 := ⟨by decide, _, rfl, by decide, "LetterBrokerModel", w1180, Or.inl rfl⟩
theorem fl_156_0 : Fl "LetterBroker$Inbox" 15 7 0 := ⟨by decide, _, rfl, by decide, "LetterBroker$Inbox", w156, Or.inl rfl⟩
theorem fl_157_0 : Fl "LetterBroker" 43 7 0 := ⟨by decide, _, rfl, by decide, "LetterBroker$Inbox", w157, Or.inl rfl⟩
theorem fl_158_0 : Fl "LetterBroker$Inbox" 9 7 1 := ⟨by decide, _, rfl, by decide, "LetterBroker$Inbox", w158, Or.inl rfl⟩
theorem fl_159_0 : Fl "LetterBroker$Inbox" 22 7 2 := ⟨by decide, _, rfl, by decide, "LetterBroker$Inbox", w159, Or.inl rfl⟩
theorem fl_160_0 : Fl "LetterBroker$Inbox" 25 7 3 := ⟨by decide, _, rfl, by decide, "LetterBroker$Inbox", w160, Or.inl rfl⟩
theorem fl_161_0 : Fl "LetterBroker$Inbox" 28 7 4 := ⟨by decide, _, rfl, by decide, "LetterBroker$Inbox", w161, Or.inl rfl⟩
theorem fl_162_0 : Fl "LetterBroker$Inbox" 31 7 5 := ⟨by decide, _, rfl, by decide, "LetterBroker$Inbox", w162, Or.inl rfl⟩
theorem fl_183_0 : Fl "LetterBroker$Outbox" 15 10 0 := ⟨by decide, _, rfl, by decide, "LetterBroker$Outbox", w183, Or.inl rfl⟩
theorem fl_184_0 : Fl "LetterBroker" 50 10 0 := ⟨by decide, _, rfl, by decide, "LetterBroker$Outbox", w184, Or.inl rfl⟩
theorem fl_185_0 : Fl "LetterBroker$Outbox" 11 10 1 := ⟨by decide, _, rfl, by decide, "LetterBroker$Outbox", w185, Or.inl rfl⟩
theorem fl_186_0 : Fl "LetterBroker$Outbox" 19 10 2 := ⟨by decide, _, rfl, by decide, "LetterBroker$Outbox", w186, Or.inl rfl⟩
theorem fl_187_0 : Fl "LetterBroker$Outbox" 26 10 3 := ⟨by decide, _, rfl, by decide, "LetterBroker$Outbox", w187, Or.inl rfl⟩
theorem fl_188_0 : Fl "LetterBroker$Outbox" 29 10 4 := ⟨by decide, _, rfl, by decide, "LetterBroker$Outbox", w188, Or.inl rfl⟩
theorem fl_220_0 : Fl "java/util/ArrayList" 9 0 1 := ⟨by decide, _, rfl, by decide, "java/util/ArrayList", w220, Or.inl rfl⟩
theorem fl_221_0 : Fl "java/util/ArrayList" 48 0 2 := ⟨by decide, _, rfl, by decide, "java/util/ArrayList", w221, Or.inl rfl⟩
theorem fl_222_0 : Fl "java/util/AbstractList" 7 0 0 := ⟨by decide, _, rfl, by decide, "java/util/AbstractList", w222, Or.inl rfl⟩
theorem fl_223_0 : Fl "java/util/ArrayList" 63 0 0 := ⟨by decide, _, rfl, by decide, "java/util/ArrayList", w223, Or.inr w224⟩
theorem fl_238_0 : Fl "LetterBroker$Exchange" 7 6 0 := ⟨by decide, _, rfl, by decide, "LetterBroker$Exchange", w238, Or.inl rfl⟩
theorem fl_239_0 : Fl "LetterBroker$Office" 46 6 0 := ⟨by decide, _, rfl, by decide, "LetterBroker$Exchange", w239, Or.inl rfl⟩
theorem fl_240_0 : Fl "LetterBroker" 325 6 0 := ⟨by decide, _, rfl, by decide, "LetterBroker$Exchange", w240, Or.inl rfl⟩
theorem fl_241_0 : Fl "LetterBroker$Exchange" 13 6 1 := ⟨by decide, _, rfl, by decide, "LetterBroker$Exchange", w241, Or.inl rfl⟩
theorem fl_242_0 : Fl "LetterBroker$Binding" 31 6 1 := ⟨by decide, _, rfl, by decide, "LetterBroker$Exchange", w242, Or.inl rfl⟩
theorem fl_243_0 : Fl "LetterBroker" 294 6 1 := ⟨by decide, _, rfl, by decide, "LetterBroker$Exchange", w243, Or.inl rfl⟩
theorem fl_316_0 : Fl "LetterBroker$Office" 12 9 0 := ⟨by decide, _, rfl, by decide, "LetterBroker$Office", w316, Or.inl rfl⟩
theorem fl_317_0 : Fl "LetterBroker" 299 9 0 := ⟨by decide, _, rfl, by decide, "LetterBroker$Office", w317, Or.inl rfl⟩
theorem fl_318_0 : Fl "LetterBroker$Office" 18 9 1 := ⟨by decide, _, rfl, by decide, "LetterBroker$Office", w318, Or.inl rfl⟩
theorem fl_319_0 : Fl "LetterBroker" 97 9 1 := ⟨by decide, _, rfl, by decide, "LetterBroker$Office", w319, Or.inl rfl⟩
theorem fl_320_0 : Fl "LetterBroker$Office" 21 9 2 := ⟨by decide, _, rfl, by decide, "LetterBroker$Office", w320, Or.inl rfl⟩
theorem fl_321_0 : Fl "LetterBroker" 333 9 2 := ⟨by decide, _, rfl, by decide, "LetterBroker$Office", w321, Or.inl rfl⟩
theorem fl_322_0 : Fl "LetterBroker$Office" 24 9 3 := ⟨by decide, _, rfl, by decide, "LetterBroker$Office", w322, Or.inl rfl⟩
theorem fl_323_0 : Fl "LetterBroker" 351 9 3 := ⟨by decide, _, rfl, by decide, "LetterBroker$Office", w323, Or.inl rfl⟩
theorem fl_324_0 : Fl "LetterBroker$Office" 103 9 4 := ⟨by decide, _, rfl, by decide, "LetterBroker$Office", w324, Or.inl rfl⟩
theorem fl_325_0 : Fl "LetterBroker$Office" 79 9 5 := ⟨by decide, _, rfl, by decide, "LetterBroker$Office", w325, Or.inl rfl⟩
theorem fl_348_0 : Fl "LetterBroker$Channel" 25 2 0 := ⟨by decide, _, rfl, by decide, "LetterBroker$Channel", w348, Or.inl rfl⟩
theorem fl_349_0 : Fl "LetterBroker" 145 2 0 := ⟨by decide, _, rfl, by decide, "LetterBroker$Channel", w349, Or.inl rfl⟩
theorem fl_350_0 : Fl "LetterBroker$Channel" 12 2 1 := ⟨by decide, _, rfl, by decide, "LetterBroker$Channel", w350, Or.inl rfl⟩
theorem fl_351_0 : Fl "LetterBroker$Consumer" 37 2 1 := ⟨by decide, _, rfl, by decide, "LetterBroker$Channel", w351, Or.inl rfl⟩
theorem fl_352_0 : Fl "LetterBroker" 83 2 1 := ⟨by decide, _, rfl, by decide, "LetterBroker$Channel", w352, Or.inl rfl⟩
theorem fl_353_0 : Fl "LetterBroker$Channel" 18 2 2 := ⟨by decide, _, rfl, by decide, "LetterBroker$Channel", w353, Or.inl rfl⟩
theorem fl_354_0 : Fl "LetterBroker" 94 2 2 := ⟨by decide, _, rfl, by decide, "LetterBroker$Channel", w354, Or.inl rfl⟩
theorem fl_355_0 : Fl "LetterBroker$Channel" 21 2 3 := ⟨by decide, _, rfl, by decide, "LetterBroker$Channel", w355, Or.inl rfl⟩
theorem fl_356_0 : Fl "LetterBroker" 80 2 3 := ⟨by decide, _, rfl, by decide, "LetterBroker$Channel", w356, Or.inl rfl⟩
theorem fl_357_0 : Fl "LetterBroker$Channel" 28 2 4 := ⟨by decide, _, rfl, by decide, "LetterBroker$Channel", w357, Or.inl rfl⟩
theorem fl_358_0 : Fl "LetterBroker$Consumer" 34 2 4 := ⟨by decide, _, rfl, by decide, "LetterBroker$Channel", w358, Or.inl rfl⟩
theorem fl_359_0 : Fl "LetterBroker" 280 2 4 := ⟨by decide, _, rfl, by decide, "LetterBroker$Channel", w359, Or.inl rfl⟩
theorem fl_360_0 : Fl "LetterBroker$Consumer" 29 2 5 := ⟨by decide, _, rfl, by decide, "LetterBroker$Channel", w360, Or.inl rfl⟩
theorem fl_361_0 : Fl "LetterBroker$Channel" 31 2 5 := ⟨by decide, _, rfl, by decide, "LetterBroker$Channel", w361, Or.inl rfl⟩
theorem fl_362_0 : Fl "LetterBroker" 268 2 5 := ⟨by decide, _, rfl, by decide, "LetterBroker$Channel", w362, Or.inl rfl⟩
theorem fl_363_0 : Fl "LetterBroker$Channel" 82 2 6 := ⟨by decide, _, rfl, by decide, "LetterBroker$Channel", w363, Or.inl rfl⟩
theorem fl_364_0 : Fl "LetterBroker" 373 2 6 := ⟨by decide, _, rfl, by decide, "LetterBroker$Channel", w364, Or.inl rfl⟩
theorem fl_365_0 : Fl "LetterBroker$Channel" 35 2 7 := ⟨by decide, _, rfl, by decide, "LetterBroker$Channel", w365, Or.inl rfl⟩
theorem fl_366_0 : Fl "LetterBroker" 91 2 7 := ⟨by decide, _, rfl, by decide, "LetterBroker$Channel", w366, Or.inl rfl⟩
theorem fl_367_0 : Fl "LetterBroker$Channel" 85 2 8 := ⟨by decide, _, rfl, by decide, "LetterBroker$Channel", w367, Or.inl rfl⟩
theorem fl_368_0 : Fl "LetterBroker" 170 2 8 := ⟨by decide, _, rfl, by decide, "LetterBroker$Channel", w368, Or.inl rfl⟩
theorem fl_388_0 : Fl "LetterBroker" 10 12 0 := ⟨by decide, _, rfl, by decide, "LetterBroker", w388, Or.inl rfl⟩
theorem fl_389_0 : Fl "LetterBroker" 19 12 1 := ⟨by decide, _, rfl, by decide, "LetterBroker", w389, Or.inl rfl⟩
theorem fl_390_0 : Fl "LetterBroker" 26 12 2 := ⟨by decide, _, rfl, by decide, "LetterBroker", w390, Or.inl rfl⟩
theorem fl_391_0 : Fl "LetterBroker" 32 12 3 := ⟨by decide, _, rfl, by decide, "LetterBroker", w391, Or.inl rfl⟩
theorem fl_392_0 : Fl "LetterBroker" 39 12 4 := ⟨by decide, _, rfl, by decide, "LetterBroker", w392, Or.inl rfl⟩
theorem fl_497_0 : Fl "LetterBroker$Deed" 7 4 0 := ⟨by decide, _, rfl, by decide, "LetterBroker$Deed", w497, Or.inl rfl⟩
theorem fl_498_0 : Fl "LetterBroker" 480 4 0 := ⟨by decide, _, rfl, by decide, "LetterBroker$Deed", w498, Or.inl rfl⟩
theorem fl_499_0 : Fl "LetterBroker$Deed" 13 4 1 := ⟨by decide, _, rfl, by decide, "LetterBroker$Deed", w499, Or.inl rfl⟩
theorem fl_500_0 : Fl "LetterBroker$Deed" 17 4 2 := ⟨by decide, _, rfl, by decide, "LetterBroker$Deed", w500, Or.inl rfl⟩
theorem fl_501_0 : Fl "LetterBroker$Deed" 21 4 3 := ⟨by decide, _, rfl, by decide, "LetterBroker$Deed", w501, Or.inl rfl⟩
theorem fl_502_0 : Fl "LetterBroker$Channel" 66 4 3 := ⟨by decide, _, rfl, by decide, "LetterBroker$Deed", w502, Or.inl rfl⟩
theorem fl_610_0 : Fl "LetterBroker$Letter" 7 8 0 := ⟨by decide, _, rfl, by decide, "LetterBroker$Letter", w610, Or.inl rfl⟩
theorem fl_611_0 : Fl "LetterBroker$Outbox" 51 8 0 := ⟨by decide, _, rfl, by decide, "LetterBroker$Letter", w611, Or.inl rfl⟩
theorem fl_612_0 : Fl "LetterBroker" 433 8 0 := ⟨by decide, _, rfl, by decide, "LetterBroker$Letter", w612, Or.inl rfl⟩
theorem fl_613_0 : Fl "LetterBroker$Letter" 13 8 1 := ⟨by decide, _, rfl, by decide, "LetterBroker$Letter", w613, Or.inl rfl⟩
theorem fl_614_0 : Fl "LetterBroker$Channel" 69 8 1 := ⟨by decide, _, rfl, by decide, "LetterBroker$Letter", w614, Or.inl rfl⟩
theorem fl_615_0 : Fl "LetterBroker$Letter" 17 8 2 := ⟨by decide, _, rfl, by decide, "LetterBroker$Letter", w615, Or.inl rfl⟩
theorem fl_616_0 : Fl "LetterBroker$Queue" 36 8 2 := ⟨by decide, _, rfl, by decide, "LetterBroker$Letter", w616, Or.inl rfl⟩
theorem fl_617_0 : Fl "LetterBroker" 122 8 2 := ⟨by decide, _, rfl, by decide, "LetterBroker$Letter", w617, Or.inl rfl⟩
theorem fl_618_0 : Fl "LetterBroker$Queue" 20 8 3 := ⟨by decide, _, rfl, by decide, "LetterBroker$Letter", w618, Or.inl rfl⟩
theorem fl_619_0 : Fl "LetterBroker$Outbox" 47 8 3 := ⟨by decide, _, rfl, by decide, "LetterBroker$Letter", w619, Or.inl rfl⟩
theorem fl_620_0 : Fl "LetterBroker$Channel" 38 8 4 := ⟨by decide, _, rfl, by decide, "LetterBroker$Letter", w620, Or.inl rfl⟩
theorem fl_621_0 : Fl "LetterBroker$Deed" 28 8 4 := ⟨by decide, _, rfl, by decide, "LetterBroker$Letter", w621, Or.inl rfl⟩
theorem fl_622_0 : Fl "LetterBroker$Outbox" 42 8 4 := ⟨by decide, _, rfl, by decide, "LetterBroker$Letter", w622, Or.inl rfl⟩
theorem fl_800_0 : Fl "LetterBroker$Queue" 16 11 0 := ⟨by decide, _, rfl, by decide, "LetterBroker$Queue", w800, Or.inl rfl⟩
theorem fl_801_0 : Fl "LetterBroker$Office" 52 11 0 := ⟨by decide, _, rfl, by decide, "LetterBroker$Queue", w801, Or.inl rfl⟩
theorem fl_802_0 : Fl "LetterBroker$Queue" 10 11 1 := ⟨by decide, _, rfl, by decide, "LetterBroker$Queue", w802, Or.inl rfl⟩
theorem fl_803_0 : Fl "LetterBroker$Office" 76 11 1 := ⟨by decide, _, rfl, by decide, "LetterBroker$Queue", w803, Or.inl rfl⟩
theorem fl_804_0 : Fl "LetterBroker" 106 11 1 := ⟨by decide, _, rfl, by decide, "LetterBroker$Queue", w804, Or.inl rfl⟩
theorem fl_805_0 : Fl "LetterBroker$Office" 96 11 2 := ⟨by decide, _, rfl, by decide, "LetterBroker$Queue", w805, Or.inl rfl⟩
theorem fl_806_0 : Fl "LetterBroker" 450 11 2 := ⟨by decide, _, rfl, by decide, "LetterBroker$Queue", w806, Or.inl rfl⟩
theorem fl_839_0 : Fl "LetterBroker$Binding" 9 1 0 := ⟨by decide, _, rfl, by decide, "LetterBroker$Binding", w839, Or.inl rfl⟩
theorem fl_840_0 : Fl "LetterBroker$Office" 55 1 0 := ⟨by decide, _, rfl, by decide, "LetterBroker$Binding", w840, Or.inl rfl⟩
theorem fl_841_0 : Fl "LetterBroker$Binding" 15 1 1 := ⟨by decide, _, rfl, by decide, "LetterBroker$Binding", w841, Or.inl rfl⟩
theorem fl_842_0 : Fl "LetterBroker$Office" 59 1 1 := ⟨by decide, _, rfl, by decide, "LetterBroker$Binding", w842, Or.inl rfl⟩
theorem fl_843_0 : Fl "LetterBroker$Binding" 19 1 2 := ⟨by decide, _, rfl, by decide, "LetterBroker$Binding", w843, Or.inl rfl⟩
theorem fl_844_0 : Fl "LetterBroker$Office" 63 1 2 := ⟨by decide, _, rfl, by decide, "LetterBroker$Binding", w844, Or.inl rfl⟩
theorem fl_845_0 : Fl "LetterBroker$Binding" 27 1 3 := ⟨by decide, _, rfl, by decide, "LetterBroker$Binding", w845, Or.inl rfl⟩
theorem fl_900_0 : Fl "LetterBroker$Consumer" 7 3 0 := ⟨by decide, _, rfl, by decide, "LetterBroker$Consumer", w900, Or.inl rfl⟩
theorem fl_901_0 : Fl "LetterBroker$Office" 75 3 0 := ⟨by decide, _, rfl, by decide, "LetterBroker$Consumer", w901, Or.inl rfl⟩
theorem fl_902_0 : Fl "LetterBroker$Consumer" 13 3 1 := ⟨by decide, _, rfl, by decide, "LetterBroker$Consumer", w902, Or.inl rfl⟩
theorem fl_903_0 : Fl "LetterBroker$Office" 68 3 1 := ⟨by decide, _, rfl, by decide, "LetterBroker$Consumer", w903, Or.inl rfl⟩
theorem fl_904_0 : Fl "LetterBroker" 453 3 1 := ⟨by decide, _, rfl, by decide, "LetterBroker$Consumer", w904, Or.inl rfl⟩
theorem fl_905_0 : Fl "LetterBroker$Consumer" 17 3 2 := ⟨by decide, _, rfl, by decide, "LetterBroker$Consumer", w905, Or.inl rfl⟩
theorem fl_906_0 : Fl "LetterBroker$Office" 72 3 2 := ⟨by decide, _, rfl, by decide, "LetterBroker$Consumer", w906, Or.inl rfl⟩
theorem fl_907_0 : Fl "LetterBroker" 460 3 2 := ⟨by decide, _, rfl, by decide, "LetterBroker$Consumer", w907, Or.inl rfl⟩
theorem fl_908_0 : Fl "LetterBroker$Consumer" 21 3 3 := ⟨by decide, _, rfl, by decide, "LetterBroker$Consumer", w908, Or.inl rfl⟩
theorem fl_909_0 : Fl "LetterBroker" 457 3 3 := ⟨by decide, _, rfl, by decide, "LetterBroker$Consumer", w909, Or.inl rfl⟩
theorem fl_910_0 : Fl "LetterBroker$Consumer" 25 3 4 := ⟨by decide, _, rfl, by decide, "LetterBroker$Consumer", w910, Or.inl rfl⟩
theorem fl_911_0 : Fl "LetterBroker$Office" 93 3 4 := ⟨by decide, _, rfl, by decide, "LetterBroker$Consumer", w911, Or.inl rfl⟩
theorem fl_912_0 : Fl "LetterBroker" 445 3 4 := ⟨by decide, _, rfl, by decide, "LetterBroker$Consumer", w912, Or.inl rfl⟩
theorem fl_939_0 : Fl "LetterBroker$Draft" 15 5 0 := ⟨by decide, _, rfl, by decide, "LetterBroker$Draft", w939, Or.inl rfl⟩
theorem fl_940_0 : Fl "LetterBroker$Outbox" 55 5 0 := ⟨by decide, _, rfl, by decide, "LetterBroker$Draft", w940, Or.inl rfl⟩
theorem fl_941_0 : Fl "LetterBroker$Office" 111 5 0 := ⟨by decide, _, rfl, by decide, "LetterBroker$Draft", w941, Or.inl rfl⟩
theorem fl_942_0 : Fl "LetterBroker" 417 5 0 := ⟨by decide, _, rfl, by decide, "LetterBroker$Draft", w942, Or.inl rfl⟩
theorem fl_943_0 : Fl "LetterBroker$Draft" 19 5 1 := ⟨by decide, _, rfl, by decide, "LetterBroker$Draft", w943, Or.inl rfl⟩
theorem fl_944_0 : Fl "LetterBroker$Binding" 37 5 1 := ⟨by decide, _, rfl, by decide, "LetterBroker$Draft", w944, Or.inl rfl⟩
theorem fl_945_0 : Fl "LetterBroker$Outbox" 65 5 1 := ⟨by decide, _, rfl, by decide, "LetterBroker$Draft", w945, Or.inl rfl⟩
theorem fl_946_0 : Fl "LetterBroker$Office" 115 5 1 := ⟨by decide, _, rfl, by decide, "LetterBroker$Draft", w946, Or.inl rfl⟩
theorem fl_947_0 : Fl "LetterBroker" 420 5 1 := ⟨by decide, _, rfl, by decide, "LetterBroker$Draft", w947, Or.inl rfl⟩
theorem fl_948_0 : Fl "LetterBroker$Draft" 22 5 2 := ⟨by decide, _, rfl, by decide, "LetterBroker$Draft", w948, Or.inl rfl⟩
theorem fl_949_0 : Fl "LetterBroker" 400 5 2 := ⟨by decide, _, rfl, by decide, "LetterBroker$Draft", w949, Or.inl rfl⟩
theorem fl_950_0 : Fl "LetterBroker$Draft" 32 5 3 := ⟨by decide, _, rfl, by decide, "LetterBroker$Draft", w950, Or.inl rfl⟩
theorem fl_951_0 : Fl "LetterBroker$Binding" 42 5 3 := ⟨by decide, _, rfl, by decide, "LetterBroker$Draft", w951, Or.inl rfl⟩
theorem fl_952_0 : Fl "LetterBroker$Draft" 11 5 4 := ⟨by decide, _, rfl, by decide, "LetterBroker$Draft", w952, Or.inl rfl⟩
theorem fl_953_0 : Fl "LetterBroker$Outbox" 68 5 4 := ⟨by decide, _, rfl, by decide, "LetterBroker$Draft", w953, Or.inl rfl⟩
theorem fl_954_0 : Fl "LetterBroker" 361 5 4 := ⟨by decide, _, rfl, by decide, "LetterBroker$Draft", w954, Or.inl rfl⟩
theorem fl_955_0 : Fl "LetterBroker$Draft" 39 5 5 := ⟨by decide, _, rfl, by decide, "LetterBroker$Draft", w955, Or.inl rfl⟩
theorem fl_956_0 : Fl "LetterBroker$Outbox" 71 5 5 := ⟨by decide, _, rfl, by decide, "LetterBroker$Draft", w956, Or.inl rfl⟩
theorem fl_957_0 : Fl "LetterBroker$Draft" 36 5 6 := ⟨by decide, _, rfl, by decide, "LetterBroker$Draft", w957, Or.inl rfl⟩
