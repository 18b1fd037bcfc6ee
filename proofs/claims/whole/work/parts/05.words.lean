/-! the words of each method and of each call, by their places in the tables -/
set_option maxRecDepth 100000 in
theorem wX0_init : zq_cw mX0_init ∈ zq_g := zq_tg (List.mem_of_getElem? (i := 169) rfl) rfl
set_option maxRecDepth 100000 in
theorem wX0_get : zq_cw mX0_get ∈ zq_g := zq_tg (List.mem_of_getElem? (i := 637) rfl) rfl
set_option maxRecDepth 100000 in
theorem wX1_init : zq_cw mX1_init ∈ zq_g := zq_tg (List.mem_of_getElem? (i := 155) rfl) rfl
set_option maxRecDepth 100000 in
theorem wX1_whoHolds : zq_cw mX1_whoHolds ∈ zq_g := zq_tg (List.mem_of_getElem? (i := 490) rfl) rfl
set_option maxRecDepth 100000 in
theorem wX1_leastActsDoer : zq_cw mX1_leastActsDoer ∈ zq_g := zq_tg (List.mem_of_getElem? (i := 494) rfl) rfl
set_option maxRecDepth 100000 in
theorem wX1_lastDoer : zq_cw mX1_lastDoer ∈ zq_g := zq_tg (List.mem_of_getElem? (i := 499) rfl) rfl
set_option maxRecDepth 100000 in
theorem wX1_comesBack : zq_cw mX1_comesBack ∈ zq_g := zq_tg (List.mem_of_getElem? (i := 517) rfl) rfl
set_option maxRecDepth 100000 in
theorem wX2_init : zq_cw mX2_init ∈ zq_g := zq_tg (List.mem_of_getElem? (i := 227) rfl) rfl
set_option maxRecDepth 100000 in
theorem wX2_worth : zq_cw mX2_worth ∈ zq_g := zq_tg (List.mem_of_getElem? (i := 627) rfl) rfl
set_option maxRecDepth 100000 in
theorem wX3_init : zq_cw mX3_init ∈ zq_g := zq_tg (List.mem_of_getElem? (i := 213) rfl) rfl
set_option maxRecDepth 100000 in
theorem wX3_worth : zq_cw mX3_worth ∈ zq_g := zq_tg (List.mem_of_getElem? (i := 631) rfl) rfl
set_option maxRecDepth 100000 in
theorem wX4_init : zq_cw mX4_init ∈ zq_g := zq_tg (List.mem_of_getElem? (i := 220) rfl) rfl
set_option maxRecDepth 100000 in
theorem wX4_worth : zq_cw mX4_worth ∈ zq_g := zq_tg (List.mem_of_getElem? (i := 642) rfl) rfl
set_option maxRecDepth 100000 in
theorem wX5_init : zq_cw mX5_init ∈ zq_g := zq_tg (List.mem_of_getElem? (i := 114) rfl) rfl
set_option maxRecDepth 100000 in
theorem wX5_begin : zq_cw mX5_begin ∈ zq_g := zq_tg (List.mem_of_getElem? (i := 357) rfl) rfl
set_option maxRecDepth 100000 in
theorem wX5_become : zq_cw mX5_become ∈ zq_g := zq_tg (List.mem_of_getElem? (i := 671) rfl) rfl
set_option maxRecDepth 100000 in
theorem wX5_move : zq_cw mX5_move ∈ zq_g := zq_tg (List.mem_of_getElem? (i := 418) rfl) rfl
set_option maxRecDepth 100000 in
theorem wX5_turnSmoke : zq_cw mX5_turnSmoke ∈ zq_g := zq_tg (List.mem_of_getElem? (i := 434) rfl) rfl
set_option maxRecDepth 100000 in
theorem wX5_act : zq_cw mX5_act ∈ zq_g := zq_tg (List.mem_of_getElem? (i := 449) rfl) rfl
set_option maxRecDepth 100000 in
theorem wX5_passDay : zq_cw mX5_passDay ∈ zq_g := zq_tg (List.mem_of_getElem? (i := 458) rfl) rfl
set_option maxRecDepth 100000 in
theorem wX5_remember : zq_cw mX5_remember ∈ zq_g := zq_tg (List.mem_of_getElem? (i := 422) rfl) rfl
set_option maxRecDepth 100000 in
theorem wX5_takeBack : zq_cw mX5_takeBack ∈ zq_g := zq_tg (List.mem_of_getElem? (i := 466) rfl) rfl
set_option maxRecDepth 100000 in
theorem wX5_hasDeed : zq_cw mX5_hasDeed ∈ zq_g := zq_tg (List.mem_of_getElem? (i := 474) rfl) rfl
set_option maxRecDepth 100000 in
theorem wX5_ofDeed : zq_cw mX5_ofDeed ∈ zq_g := zq_tg (List.mem_of_getElem? (i := 478) rfl) rfl
set_option maxRecDepth 100000 in
theorem wX5_deedsOfAct : zq_cw mX5_deedsOfAct ∈ zq_g := zq_tg (List.mem_of_getElem? (i := 660) rfl) rfl
set_option maxRecDepth 100000 in
theorem wX5_keptOn : zq_cw mX5_keptOn ∈ zq_g := zq_tg (List.mem_of_getElem? (i := 529) rfl) rfl
set_option maxRecDepth 100000 in
theorem wX5_daysKept : zq_cw mX5_daysKept ∈ zq_g := zq_tg (List.mem_of_getElem? (i := 603) rfl) rfl
set_option maxRecDepth 100000 in
theorem wX5_firstDayKept : zq_cw mX5_firstDayKept ∈ zq_g := zq_tg (List.mem_of_getElem? (i := 607) rfl) rfl
set_option maxRecDepth 100000 in
theorem wX5_lastDayKept : zq_cw mX5_lastDayKept ∈ zq_g := zq_tg (List.mem_of_getElem? (i := 611) rfl) rfl
set_option maxRecDepth 100000 in
theorem wX5_peopleIn : zq_cw mX5_peopleIn ∈ zq_g := zq_tg (List.mem_of_getElem? (i := 405) rfl) rfl
set_option maxRecDepth 100000 in
theorem wX5_seen : zq_cw mX5_seen ∈ zq_g := zq_tg (List.mem_of_getElem? (i := 370) rfl) rfl
set_option maxRecDepth 100000 in
theorem wX5_shown : zq_cw mX5_shown ∈ zq_g := zq_tg (List.mem_of_getElem? (i := 375) rfl) rfl
set_option maxRecDepth 100000 in
theorem wX5_shownIf : zq_cw mX5_shownIf ∈ zq_g := zq_tg (List.mem_of_getElem? (i := 379) rfl) rfl
set_option maxRecDepth 100000 in
theorem wX5_shows : zq_cw mX5_shows ∈ zq_g := zq_tg (List.mem_of_getElem? (i := 383) rfl) rfl
set_option maxRecDepth 100000 in
theorem wX5_isInSmoke : zq_cw mX5_isInSmoke ∈ zq_g := zq_tg (List.mem_of_getElem? (i := 390) rfl) rfl
set_option maxRecDepth 100000 in
theorem wX5_isAhead : zq_cw mX5_isAhead ∈ zq_g := zq_tg (List.mem_of_getElem? (i := 396) rfl) rfl
set_option maxRecDepth 100000 in
theorem wX5_leastSmoke : zq_cw mX5_leastSmoke ∈ zq_g := zq_tg (List.mem_of_getElem? (i := 545) rfl) rfl
set_option maxRecDepth 100000 in
theorem wX5_nearestRow : zq_cw mX5_nearestRow ∈ zq_g := zq_tg (List.mem_of_getElem? (i := 549) rfl) rfl
set_option maxRecDepth 100000 in
theorem wX5_farthestRow : zq_cw mX5_farthestRow ∈ zq_g := zq_tg (List.mem_of_getElem? (i := 554) rfl) rfl
set_option maxRecDepth 100000 in
theorem wX6_init : zq_cw mX6_init ∈ zq_g := zq_tg (List.mem_of_getElem? (i := 199) rfl) rfl
set_option maxRecDepth 100000 in
theorem wX6_worth : zq_cw mX6_worth ∈ zq_g := zq_tg (List.mem_of_getElem? (i := 662) rfl) rfl
set_option maxRecDepth 100000 in
theorem wX7_init : zq_cw mX7_init ∈ zq_g := zq_tg (List.mem_of_getElem? (i := 206) rfl) rfl
set_option maxRecDepth 100000 in
theorem wX7_worth : zq_cw mX7_worth ∈ zq_g := zq_tg (List.mem_of_getElem? (i := 646) rfl) rfl
set_option maxRecDepth 100000 in
theorem wX8_init : zq_cw mX8_init ∈ zq_g := zq_tg (List.mem_of_getElem? (i := 83) rfl) rfl
set_option maxRecDepth 100000 in
theorem wX8_readAll : zq_cw mX8_readAll ∈ zq_g := zq_tg (List.mem_of_getElem? (i := 289) rfl) rfl
set_option maxRecDepth 100000 in
theorem wX8_readItem : zq_cw mX8_readItem ∈ zq_g := zq_tg (List.mem_of_getElem? (i := 318) rfl) rfl
set_option maxRecDepth 100000 in
theorem wX8_readPerson : zq_cw mX8_readPerson ∈ zq_g := zq_tg (List.mem_of_getElem? (i := 322) rfl) rfl
set_option maxRecDepth 100000 in
theorem wX8_readLate : zq_cw mX8_readLate ∈ zq_g := zq_tg (List.mem_of_getElem? (i := 334) rfl) rfl
set_option maxRecDepth 100000 in
theorem wX8_readCloud : zq_cw mX8_readCloud ∈ zq_g := zq_tg (List.mem_of_getElem? (i := 338) rfl) rfl
set_option maxRecDepth 100000 in
theorem wX8_readRule : zq_cw mX8_readRule ∈ zq_g := zq_tg (List.mem_of_getElem? (i := 346) rfl) rfl
set_option maxRecDepth 100000 in
theorem wX8_readNumber : zq_cw mX8_readNumber ∈ zq_g := zq_tg (List.mem_of_getElem? (i := 326) rfl) rfl
set_option maxRecDepth 100000 in
theorem wX8_readStop : zq_cw mX8_readStop ∈ zq_g := zq_tg (List.mem_of_getElem? (i := 330) rfl) rfl
set_option maxRecDepth 100000 in
theorem wX8_nextToken : zq_cw mX8_nextToken ∈ zq_g := zq_tg (List.mem_of_getElem? (i := 300) rfl) rfl
set_option maxRecDepth 100000 in
theorem wX8_takeLetters : zq_cw mX8_takeLetters ∈ zq_g := zq_tg (List.mem_of_getElem? (i := 307) rfl) rfl
set_option maxRecDepth 100000 in
theorem wX8_takeDigits : zq_cw mX8_takeDigits ∈ zq_g := zq_tg (List.mem_of_getElem? (i := 314) rfl) rfl
set_option maxRecDepth 100000 in
theorem wX8_isLetter : zq_cw mX8_isLetter ∈ zq_g := zq_tg (List.mem_of_getElem? (i := 303) rfl) rfl
set_option maxRecDepth 100000 in
theorem wX8_isDigit : zq_cw mX8_isDigit ∈ zq_g := zq_tg (List.mem_of_getElem? (i := 310) rfl) rfl
set_option maxRecDepth 100000 in
theorem wX9_init : zq_cw mX9_init ∈ zq_g := zq_tg (List.mem_of_getElem? (i := 29) rfl) rfl
set_option maxRecDepth 100000 in
theorem wX9_forget : zq_cw mX9_forget ∈ zq_g := zq_tg (List.mem_of_getElem? (i := 296) rfl) rfl
set_option maxRecDepth 100000 in
theorem wX9_become : zq_cw mX9_become ∈ zq_g := zq_tg (List.mem_of_getElem? (i := 350) rfl) rfl
set_option maxRecDepth 100000 in
theorem wX9_hasPerson : zq_cw mX9_hasPerson ∈ zq_g := zq_tg (List.mem_of_getElem? (i := 366) rfl) rfl
set_option maxRecDepth 100000 in
theorem wX9_areBits : zq_cw mX9_areBits ∈ zq_g := zq_tg (List.mem_of_getElem? (i := 541) rfl) rfl
set_option maxRecDepth 100000 in
theorem wX9_hasCloud : zq_cw mX9_hasCloud ∈ zq_g := zq_tg (List.mem_of_getElem? (i := 342) rfl) rfl
set_option maxRecDepth 100000 in
theorem wX9_ofHeight : zq_cw mX9_ofHeight ∈ zq_g := zq_tg (List.mem_of_getElem? (i := 595) rfl) rfl
set_option maxRecDepth 100000 in
theorem wX9_actsGiving : zq_cw mX9_actsGiving ∈ zq_g := zq_tg (List.mem_of_getElem? (i := 504) rfl) rfl
set_option maxRecDepth 100000 in
theorem wX9_actsGivenBy : zq_cw mX9_actsGivenBy ∈ zq_g := zq_tg (List.mem_of_getElem? (i := 521) rfl) rfl
set_option maxRecDepth 100000 in
theorem wX9_actsAcross : zq_cw mX9_actsAcross ∈ zq_g := zq_tg (List.mem_of_getElem? (i := 508) rfl) rfl
set_option maxRecDepth 100000 in
theorem wX10_init : zq_cw mX10_init ∈ zq_g := zq_tg (List.mem_of_getElem? (i := 234) rfl) rfl
set_option maxRecDepth 100000 in
theorem wX10_worth : zq_cw mX10_worth ∈ zq_g := zq_tg (List.mem_of_getElem? (i := 653) rfl) rfl
set_option maxRecDepth 100000 in
theorem wX11_init : zq_cw mX11_init ∈ zq_g := zq_tg (List.mem_of_getElem? (i := 21) rfl) rfl
set_option maxRecDepth 100000 in
theorem wX11_type : zq_cw mX11_type ∈ zq_g := zq_tg (List.mem_of_getElem? (i := 274) rfl) rfl
set_option maxRecDepth 100000 in
theorem wX11_clear : zq_cw mX11_clear ∈ zq_g := zq_tg (List.mem_of_getElem? (i := 281) rfl) rfl
set_option maxRecDepth 100000 in
theorem wX11_square : zq_cw mX11_square ∈ zq_g := zq_tg (List.mem_of_getElem? (i := 285) rfl) rfl
set_option maxRecDepth 100000 in
theorem wX11_person : zq_cw mX11_person ∈ zq_g := zq_tg (List.mem_of_getElem? (i := 362) rfl) rfl
set_option maxRecDepth 100000 in
theorem wX11_cell : zq_cw mX11_cell ∈ zq_g := zq_tg (List.mem_of_getElem? (i := 401) rfl) rfl
set_option maxRecDepth 100000 in
theorem wX11_now : zq_cw mX11_now ∈ zq_g := zq_tg (List.mem_of_getElem? (i := 409) rfl) rfl
set_option maxRecDepth 100000 in
theorem wX11_walk : zq_cw mX11_walk ∈ zq_g := zq_tg (List.mem_of_getElem? (i := 414) rfl) rfl
set_option maxRecDepth 100000 in
theorem wX11_die : zq_cw mX11_die ∈ zq_g := zq_tg (List.mem_of_getElem? (i := 426) rfl) rfl
set_option maxRecDepth 100000 in
theorem wX11_smoke : zq_cw mX11_smoke ∈ zq_g := zq_tg (List.mem_of_getElem? (i := 430) rfl) rfl
set_option maxRecDepth 100000 in
theorem wX11_deed : zq_cw mX11_deed ∈ zq_g := zq_tg (List.mem_of_getElem? (i := 444) rfl) rfl
set_option maxRecDepth 100000 in
theorem wX11_day : zq_cw mX11_day ∈ zq_g := zq_tg (List.mem_of_getElem? (i := 454) rfl) rfl
set_option maxRecDepth 100000 in
theorem wX11_undo : zq_cw mX11_undo ∈ zq_g := zq_tg (List.mem_of_getElem? (i := 462) rfl) rfl
set_option maxRecDepth 100000 in
theorem wX11_done : zq_cw mX11_done ∈ zq_g := zq_tg (List.mem_of_getElem? (i := 470) rfl) rfl
set_option maxRecDepth 100000 in
theorem wX11_counts : zq_cw mX11_counts ∈ zq_g := zq_tg (List.mem_of_getElem? (i := 482) rfl) rfl
set_option maxRecDepth 100000 in
theorem wX11_holder : zq_cw mX11_holder ∈ zq_g := zq_tg (List.mem_of_getElem? (i := 486) rfl) rfl
set_option maxRecDepth 100000 in
theorem wX11_round : zq_cw mX11_round ∈ zq_g := zq_tg (List.mem_of_getElem? (i := 513) rfl) rfl
set_option maxRecDepth 100000 in
theorem wX11_votes : zq_cw mX11_votes ∈ zq_g := zq_tg (List.mem_of_getElem? (i := 525) rfl) rfl
set_option maxRecDepth 100000 in
theorem wX11_nearer : zq_cw mX11_nearer ∈ zq_g := zq_tg (List.mem_of_getElem? (i := 533) rfl) rfl
set_option maxRecDepth 100000 in
theorem wX11_hide : zq_cw mX11_hide ∈ zq_g := zq_tg (List.mem_of_getElem? (i := 537) rfl) rfl
set_option maxRecDepth 100000 in
theorem wX11_blocks : zq_cw mX11_blocks ∈ zq_g := zq_tg (List.mem_of_getElem? (i := 561) rfl) rfl
set_option maxRecDepth 100000 in
theorem wX11_hides : zq_cw mX11_hides ∈ zq_g := zq_tg (List.mem_of_getElem? (i := 566) rfl) rfl
set_option maxRecDepth 100000 in
theorem wX11_odds : zq_cw mX11_odds ∈ zq_g := zq_tg (List.mem_of_getElem? (i := 572) rfl) rfl
set_option maxRecDepth 100000 in
theorem wX11_often : zq_cw mX11_often ∈ zq_g := zq_tg (List.mem_of_getElem? (i := 586) rfl) rfl
set_option maxRecDepth 100000 in
theorem wX11_stood : zq_cw mX11_stood ∈ zq_g := zq_tg (List.mem_of_getElem? (i := 591) rfl) rfl
set_option maxRecDepth 100000 in
theorem wX11_days : zq_cw mX11_days ∈ zq_g := zq_tg (List.mem_of_getElem? (i := 599) rfl) rfl
set_option maxRecDepth 100000 in
theorem wX11_together : zq_cw mX11_together ∈ zq_g := zq_tg (List.mem_of_getElem? (i := 615) rfl) rfl
set_option maxRecDepth 100000 in
theorem wX11_mark : zq_cw mX11_mark ∈ zq_g := zq_tg (List.mem_of_getElem? (i := 619) rfl) rfl
set_option maxRecDepth 100000 in
theorem wX11_keep : zq_cw mX11_keep ∈ zq_g := zq_tg (List.mem_of_getElem? (i := 667) rfl) rfl
set_option maxRecDepth 100000 in
theorem wX11_back : zq_cw mX11_back ∈ zq_g := zq_tg (List.mem_of_getElem? (i := 675) rfl) rfl
set_option maxRecDepth 100000 in
theorem wX11_count : zq_cw mX11_count ∈ zq_g := zq_tg (List.mem_of_getElem? (i := 679) rfl) rfl
set_option maxRecDepth 100000 in
theorem wX11_trace : zq_cw mX11_trace ∈ zq_g := zq_tg (List.mem_of_getElem? (i := 683) rfl) rfl
set_option maxRecDepth 100000 in
theorem wX11_isBeyond : zq_cw mX11_isBeyond ∈ zq_g := zq_tg (List.mem_of_getElem? (i := 277) rfl) rfl
set_option maxRecDepth 100000 in
theorem wX11_isInSquare : zq_cw mX11_isInSquare ∈ zq_g := zq_tg (List.mem_of_getElem? (i := 386) rfl) rfl
set_option maxRecDepth 100000 in
theorem wX11_bit : zq_cw mX11_bit ∈ zq_g := zq_tg (List.mem_of_getElem? (i := 393) rfl) rfl
set_option maxRecDepth 100000 in
theorem wX11_power : zq_cw mX11_power ∈ zq_g := zq_tg (List.mem_of_getElem? (i := 576) rfl) rfl
set_option maxRecDepth 100000 in
theorem wX11_commonDivisor : zq_cw mX11_commonDivisor ∈ zq_g := zq_tg (List.mem_of_getElem? (i := 579) rfl) rfl
set_option maxRecDepth 100000 in
theorem wX12_init : zq_cw mX12_init ∈ zq_g := zq_tg (List.mem_of_getElem? (i := 688) rfl) rfl
set_option maxRecDepth 100000 in
theorem wX12_in : zq_cw mX12_in ∈ zq_g := zq_tg (List.mem_of_getElem? (i := 707) rfl) rfl
set_option maxRecDepth 100000 in
theorem wX12_isPerson : zq_cw mX12_isPerson ∈ zq_g := zq_tg (List.mem_of_getElem? (i := 798) rfl) rfl
set_option maxRecDepth 100000 in
theorem wX12_isPeople : zq_cw mX12_isPeople ∈ zq_g := zq_tg (List.mem_of_getElem? (i := 901) rfl) rfl
set_option maxRecDepth 100000 in
theorem wX12_type : zq_cw mX12_type ∈ zq_g := zq_tg (List.mem_of_getElem? (i := 782) rfl) rfl
set_option maxRecDepth 100000 in
theorem wX12_clear : zq_cw mX12_clear ∈ zq_g := zq_tg (List.mem_of_getElem? (i := 786) rfl) rfl
set_option maxRecDepth 100000 in
theorem wX12_byteAt : zq_cw mX12_byteAt ∈ zq_g := zq_tg (List.mem_of_getElem? (i := 701) rfl) rfl
set_option maxRecDepth 100000 in
theorem wX12_isLetter : zq_cw mX12_isLetter ∈ zq_g := zq_tg (List.mem_of_getElem? (i := 704) rfl) rfl
set_option maxRecDepth 100000 in
theorem wX12_isDigit : zq_cw mX12_isDigit ∈ zq_g := zq_tg (List.mem_of_getElem? (i := 710) rfl) rfl
set_option maxRecDepth 100000 in
theorem wX12_token : zq_cw mX12_token ∈ zq_g := zq_tg (List.mem_of_getElem? (i := 697) rfl) rfl
set_option maxRecDepth 100000 in
theorem wX12_number : zq_cw mX12_number ∈ zq_g := zq_tg (List.mem_of_getElem? (i := 722) rfl) rfl
set_option maxRecDepth 100000 in
theorem wX12_readsPerson : zq_cw mX12_readsPerson ∈ zq_g := zq_tg (List.mem_of_getElem? (i := 718) rfl) rfl
set_option maxRecDepth 100000 in
theorem wX12_readsLate : zq_cw mX12_readsLate ∈ zq_g := zq_tg (List.mem_of_getElem? (i := 726) rfl) rfl
set_option maxRecDepth 100000 in
theorem wX12_readsCloud : zq_cw mX12_readsCloud ∈ zq_g := zq_tg (List.mem_of_getElem? (i := 730) rfl) rfl
set_option maxRecDepth 100000 in
theorem wX12_readsRule : zq_cw mX12_readsRule ∈ zq_g := zq_tg (List.mem_of_getElem? (i := 734) rfl) rfl
set_option maxRecDepth 100000 in
theorem wX12_readsItem : zq_cw mX12_readsItem ∈ zq_g := zq_tg (List.mem_of_getElem? (i := 714) rfl) rfl
set_option maxRecDepth 100000 in
theorem wX12_reads : zq_cw mX12_reads ∈ zq_g := zq_tg (List.mem_of_getElem? (i := 693) rfl) rfl
set_option maxRecDepth 100000 in
theorem wX12_tells : zq_cw mX12_tells ∈ zq_g := zq_tg (List.mem_of_getElem? (i := 738) rfl) rfl
set_option maxRecDepth 100000 in
theorem wX12_square : zq_cw mX12_square ∈ zq_g := zq_tg (List.mem_of_getElem? (i := 790) rfl) rfl
set_option maxRecDepth 100000 in
theorem wX12_isCloud : zq_cw mX12_isCloud ∈ zq_g := zq_tg (List.mem_of_getElem? (i := 810) rfl) rfl
set_option maxRecDepth 100000 in
theorem wX12_isBare : zq_cw mX12_isBare ∈ zq_g := zq_tg (List.mem_of_getElem? (i := 806) rfl) rfl
set_option maxRecDepth 100000 in
theorem wX12_isSeen : zq_cw mX12_isSeen ∈ zq_g := zq_tg (List.mem_of_getElem? (i := 802) rfl) rfl
set_option maxRecDepth 100000 in
theorem wX12_seenNow : zq_cw mX12_seenNow ∈ zq_g := zq_tg (List.mem_of_getElem? (i := 822) rfl) rfl
set_option maxRecDepth 100000 in
theorem wX12_person : zq_cw mX12_person ∈ zq_g := zq_tg (List.mem_of_getElem? (i := 794) rfl) rfl
set_option maxRecDepth 100000 in
theorem wX12_cell : zq_cw mX12_cell ∈ zq_g := zq_tg (List.mem_of_getElem? (i := 814) rfl) rfl
set_option maxRecDepth 100000 in
theorem wX12_now : zq_cw mX12_now ∈ zq_g := zq_tg (List.mem_of_getElem? (i := 818) rfl) rfl
set_option maxRecDepth 100000 in
theorem wX12_keeps : zq_cw mX12_keeps ∈ zq_g := zq_tg (List.mem_of_getElem? (i := 830) rfl) rfl
set_option maxRecDepth 100000 in
theorem wX12_walk : zq_cw mX12_walk ∈ zq_g := zq_tg (List.mem_of_getElem? (i := 826) rfl) rfl
set_option maxRecDepth 100000 in
theorem wX12_die : zq_cw mX12_die ∈ zq_g := zq_tg (List.mem_of_getElem? (i := 834) rfl) rfl
set_option maxRecDepth 100000 in
theorem wX12_smoke : zq_cw mX12_smoke ∈ zq_g := zq_tg (List.mem_of_getElem? (i := 838) rfl) rfl
set_option maxRecDepth 100000 in
theorem wX12_ones : zq_cw mX12_ones ∈ zq_g := zq_tg (List.mem_of_getElem? (i := 841) rfl) rfl
set_option maxRecDepth 100000 in
theorem wX12_deed : zq_cw mX12_deed ∈ zq_g := zq_tg (List.mem_of_getElem? (i := 845) rfl) rfl
set_option maxRecDepth 100000 in
theorem wX12_day : zq_cw mX12_day ∈ zq_g := zq_tg (List.mem_of_getElem? (i := 849) rfl) rfl
set_option maxRecDepth 100000 in
theorem wX12_undo : zq_cw mX12_undo ∈ zq_g := zq_tg (List.mem_of_getElem? (i := 853) rfl) rfl
set_option maxRecDepth 100000 in
theorem wX12_isDeed : zq_cw mX12_isDeed ∈ zq_g := zq_tg (List.mem_of_getElem? (i := 861) rfl) rfl
set_option maxRecDepth 100000 in
theorem wX12_done : zq_cw mX12_done ∈ zq_g := zq_tg (List.mem_of_getElem? (i := 857) rfl) rfl
set_option maxRecDepth 100000 in
theorem wX12_counts : zq_cw mX12_counts ∈ zq_g := zq_tg (List.mem_of_getElem? (i := 865) rfl) rfl
set_option maxRecDepth 100000 in
theorem wX12_ownHolder : zq_cw mX12_ownHolder ∈ zq_g := zq_tg (List.mem_of_getElem? (i := 877) rfl) rfl
set_option maxRecDepth 100000 in
theorem wX12_laysWays : zq_cw mX12_laysWays ∈ zq_g := zq_tg (List.mem_of_getElem? (i := 881) rfl) rfl
set_option maxRecDepth 100000 in
theorem wX12_holderBy : zq_cw mX12_holderBy ∈ zq_g := zq_tg (List.mem_of_getElem? (i := 873) rfl) rfl
set_option maxRecDepth 100000 in
theorem wX12_holder : zq_cw mX12_holder ∈ zq_g := zq_tg (List.mem_of_getElem? (i := 869) rfl) rfl
set_option maxRecDepth 100000 in
theorem wX12_round : zq_cw mX12_round ∈ zq_g := zq_tg (List.mem_of_getElem? (i := 885) rfl) rfl
set_option maxRecDepth 100000 in
theorem wX12_votes : zq_cw mX12_votes ∈ zq_g := zq_tg (List.mem_of_getElem? (i := 889) rfl) rfl
set_option maxRecDepth 100000 in
theorem wX12_nearer : zq_cw mX12_nearer ∈ zq_g := zq_tg (List.mem_of_getElem? (i := 893) rfl) rfl
set_option maxRecDepth 100000 in
theorem wX12_hide : zq_cw mX12_hide ∈ zq_g := zq_tg (List.mem_of_getElem? (i := 897) rfl) rfl
set_option maxRecDepth 100000 in
theorem wX12_blocks : zq_cw mX12_blocks ∈ zq_g := zq_tg (List.mem_of_getElem? (i := 905) rfl) rfl
set_option maxRecDepth 100000 in
theorem wX12_hides : zq_cw mX12_hides ∈ zq_g := zq_tg (List.mem_of_getElem? (i := 909) rfl) rfl
set_option maxRecDepth 100000 in
theorem wX12_power : zq_cw mX12_power ∈ zq_g := zq_tg (List.mem_of_getElem? (i := 918) rfl) rfl
set_option maxRecDepth 100000 in
theorem wX12_odds : zq_cw mX12_odds ∈ zq_g := zq_tg (List.mem_of_getElem? (i := 913) rfl) rfl
set_option maxRecDepth 100000 in
theorem wX12_often : zq_cw mX12_often ∈ zq_g := zq_tg (List.mem_of_getElem? (i := 922) rfl) rfl
set_option maxRecDepth 100000 in
theorem wX12_stood : zq_cw mX12_stood ∈ zq_g := zq_tg (List.mem_of_getElem? (i := 926) rfl) rfl
set_option maxRecDepth 100000 in
theorem wX12_days : zq_cw mX12_days ∈ zq_g := zq_tg (List.mem_of_getElem? (i := 930) rfl) rfl
set_option maxRecDepth 100000 in
theorem wX12_together : zq_cw mX12_together ∈ zq_g := zq_tg (List.mem_of_getElem? (i := 934) rfl) rfl
set_option maxRecDepth 100000 in
theorem wX12_mark : zq_cw mX12_mark ∈ zq_g := zq_tg (List.mem_of_getElem? (i := 938) rfl) rfl
set_option maxRecDepth 100000 in
theorem wX12_keep : zq_cw mX12_keep ∈ zq_g := zq_tg (List.mem_of_getElem? (i := 948) rfl) rfl
set_option maxRecDepth 100000 in
theorem wX12_back : zq_cw mX12_back ∈ zq_g := zq_tg (List.mem_of_getElem? (i := 952) rfl) rfl
set_option maxRecDepth 100000 in
theorem wX12_count : zq_cw mX12_count ∈ zq_g := zq_tg (List.mem_of_getElem? (i := 956) rfl) rfl
set_option maxRecDepth 100000 in
theorem wX12_trace : zq_cw mX12_trace ∈ zq_g := zq_tg (List.mem_of_getElem? (i := 960) rfl) rfl
set_option maxRecDepth 100000 in
theorem wJ6_bitCount_0f7a4 : zq_cw mJ6_bitCount_0f7a4 ∈ zq_g := zq_tg (List.mem_of_getElem? (i := 437) rfl) rfl
set_option maxRecDepth 100000 in
theorem wJ9_max_7cf53 : zq_cw mJ9_max_7cf53 ∈ zq_g := zq_tg (List.mem_of_getElem? (i := 557) rfl) rfl
set_option maxRecDepth 100000 in
theorem wJ9_max_f86c9 : zq_cw mJ9_max_f86c9 ∈ zq_g := zq_tg (List.mem_of_getElem? (i := 582) rfl) rfl
set_option maxRecDepth 100000 in
theorem wJ9_min_7cf53 : zq_cw mJ9_min_7cf53 ∈ zq_g := zq_tg (List.mem_of_getElem? (i := 292) rfl) rfl
set_option maxRecDepth 100000 in
theorem k11_87 : zq_cv 11 87 mX11_isBeyond 2 ∧ Cond.static mX11_isBeyond.2.1 ∈ zq_g := ⟨⟨zq_tg (List.mem_of_getElem? (i := 275) rfl) rfl, zq_tg (List.mem_of_getElem? (i := 1) rfl) rfl, wX11_isBeyond, by decide +kernel⟩, zq_tg (List.mem_of_getElem? (i := 276) rfl) rfl⟩
set_option maxRecDepth 100000 in
theorem k11_95 : zq_cv 11 95 mX8_readAll 1 ∧ Cond.instanceMethod mX8_readAll.2.1 ∈ zq_g ∧ Cond.selects mX8_readAll.2.1.cls mX8_readAll.2.1 mX8_readAll.2.1 ∈ zq_g := ⟨⟨zq_tg (List.mem_of_getElem? (i := 286) rfl) rfl, zq_tg (List.mem_of_getElem? (i := 3) rfl) rfl, wX8_readAll, by decide +kernel⟩, zq_tg (List.mem_of_getElem? (i := 287) rfl) rfl, zq_tg (List.mem_of_getElem? (i := 288) rfl) rfl⟩
set_option maxRecDepth 100000 in
theorem k8_19 : zq_cv 8 19 mJ9_min_7cf53 2 ∧ Cond.static mJ9_min_7cf53.2.1 ∈ zq_g := ⟨⟨zq_tg (List.mem_of_getElem? (i := 290) rfl) rfl, zq_tg (List.mem_of_getElem? (i := 14) rfl) rfl, wJ9_min_7cf53, by decide +kernel⟩, zq_tg (List.mem_of_getElem? (i := 291) rfl) rfl⟩
set_option maxRecDepth 100000 in
theorem k8_36 : zq_cv 8 36 mX9_forget 0 ∧ Cond.instanceMethod mX9_forget.2.1 ∈ zq_g ∧ Cond.selects mX9_forget.2.1.cls mX9_forget.2.1 mX9_forget.2.1 ∈ zq_g := ⟨⟨zq_tg (List.mem_of_getElem? (i := 293) rfl) rfl, zq_tg (List.mem_of_getElem? (i := 2) rfl) rfl, wX9_forget, by decide +kernel⟩, zq_tg (List.mem_of_getElem? (i := 294) rfl) rfl, zq_tg (List.mem_of_getElem? (i := 295) rfl) rfl⟩
set_option maxRecDepth 100000 in
theorem k8_41 : zq_cv 8 41 mX8_nextToken 0 ∧ Cond.instanceMethod mX8_nextToken.2.1 ∈ zq_g ∧ Cond.selects mX8_nextToken.2.1.cls mX8_nextToken.2.1 mX8_nextToken.2.1 ∈ zq_g := ⟨⟨zq_tg (List.mem_of_getElem? (i := 297) rfl) rfl, zq_tg (List.mem_of_getElem? (i := 3) rfl) rfl, wX8_nextToken, by decide +kernel⟩, zq_tg (List.mem_of_getElem? (i := 299) rfl) rfl, List.mem_filter.mpr ⟨List.mem_append_left _ (List.mem_of_getElem? (i := 0) rfl), rfl⟩⟩
set_option maxRecDepth 100000 in
theorem k8_107 : zq_cv 8 107 mX8_isLetter 1 ∧ Cond.static mX8_isLetter.2.1 ∈ zq_g := ⟨⟨zq_tg (List.mem_of_getElem? (i := 301) rfl) rfl, zq_tg (List.mem_of_getElem? (i := 3) rfl) rfl, wX8_isLetter, by decide +kernel⟩, zq_tg (List.mem_of_getElem? (i := 302) rfl) rfl⟩
set_option maxRecDepth 100000 in
theorem k8_110 : zq_cv 8 110 mX8_takeLetters 0 ∧ Cond.instanceMethod mX8_takeLetters.2.1 ∈ zq_g ∧ Cond.selects mX8_takeLetters.2.1.cls mX8_takeLetters.2.1 mX8_takeLetters.2.1 ∈ zq_g := ⟨⟨zq_tg (List.mem_of_getElem? (i := 304) rfl) rfl, zq_tg (List.mem_of_getElem? (i := 3) rfl) rfl, wX8_takeLetters, by decide +kernel⟩, zq_tg (List.mem_of_getElem? (i := 306) rfl) rfl, List.mem_filter.mpr ⟨List.mem_append_left _ (List.mem_of_getElem? (i := 1) rfl), rfl⟩⟩
set_option maxRecDepth 100000 in
theorem k8_113 : zq_cv 8 113 mX8_isDigit 1 ∧ Cond.static mX8_isDigit.2.1 ∈ zq_g := ⟨⟨zq_tg (List.mem_of_getElem? (i := 308) rfl) rfl, zq_tg (List.mem_of_getElem? (i := 3) rfl) rfl, wX8_isDigit, by decide +kernel⟩, zq_tg (List.mem_of_getElem? (i := 309) rfl) rfl⟩
set_option maxRecDepth 100000 in
theorem k8_116 : zq_cv 8 116 mX8_takeDigits 0 ∧ Cond.instanceMethod mX8_takeDigits.2.1 ∈ zq_g ∧ Cond.selects mX8_takeDigits.2.1.cls mX8_takeDigits.2.1 mX8_takeDigits.2.1 ∈ zq_g := ⟨⟨zq_tg (List.mem_of_getElem? (i := 311) rfl) rfl, zq_tg (List.mem_of_getElem? (i := 3) rfl) rfl, wX8_takeDigits, by decide +kernel⟩, zq_tg (List.mem_of_getElem? (i := 313) rfl) rfl, List.mem_filter.mpr ⟨List.mem_append_left _ (List.mem_of_getElem? (i := 2) rfl), rfl⟩⟩
set_option maxRecDepth 100000 in
theorem k8_47 : zq_cv 8 47 mX8_readItem 0 ∧ Cond.instanceMethod mX8_readItem.2.1 ∈ zq_g ∧ Cond.selects mX8_readItem.2.1.cls mX8_readItem.2.1 mX8_readItem.2.1 ∈ zq_g := ⟨⟨zq_tg (List.mem_of_getElem? (i := 315) rfl) rfl, zq_tg (List.mem_of_getElem? (i := 3) rfl) rfl, wX8_readItem, by decide +kernel⟩, zq_tg (List.mem_of_getElem? (i := 317) rfl) rfl, List.mem_filter.mpr ⟨List.mem_append_left _ (List.mem_of_getElem? (i := 3) rfl), rfl⟩⟩
set_option maxRecDepth 100000 in
theorem k8_57 : zq_cv 8 57 mX8_readPerson 0 ∧ Cond.instanceMethod mX8_readPerson.2.1 ∈ zq_g ∧ Cond.selects mX8_readPerson.2.1.cls mX8_readPerson.2.1 mX8_readPerson.2.1 ∈ zq_g := ⟨⟨zq_tg (List.mem_of_getElem? (i := 319) rfl) rfl, zq_tg (List.mem_of_getElem? (i := 3) rfl) rfl, wX8_readPerson, by decide +kernel⟩, zq_tg (List.mem_of_getElem? (i := 321) rfl) rfl, List.mem_filter.mpr ⟨List.mem_append_left _ (List.mem_of_getElem? (i := 4) rfl), rfl⟩⟩
set_option maxRecDepth 100000 in
theorem k8_72 : zq_cv 8 72 mX8_readNumber 2 ∧ Cond.instanceMethod mX8_readNumber.2.1 ∈ zq_g ∧ Cond.selects mX8_readNumber.2.1.cls mX8_readNumber.2.1 mX8_readNumber.2.1 ∈ zq_g := ⟨⟨zq_tg (List.mem_of_getElem? (i := 323) rfl) rfl, zq_tg (List.mem_of_getElem? (i := 3) rfl) rfl, wX8_readNumber, by decide +kernel⟩, zq_tg (List.mem_of_getElem? (i := 325) rfl) rfl, List.mem_filter.mpr ⟨List.mem_append_left _ (List.mem_of_getElem? (i := 5) rfl), rfl⟩⟩
set_option maxRecDepth 100000 in
theorem k8_82 : zq_cv 8 82 mX8_readStop 0 ∧ Cond.instanceMethod mX8_readStop.2.1 ∈ zq_g ∧ Cond.selects mX8_readStop.2.1.cls mX8_readStop.2.1 mX8_readStop.2.1 ∈ zq_g := ⟨⟨zq_tg (List.mem_of_getElem? (i := 327) rfl) rfl, zq_tg (List.mem_of_getElem? (i := 3) rfl) rfl, wX8_readStop, by decide +kernel⟩, zq_tg (List.mem_of_getElem? (i := 329) rfl) rfl, List.mem_filter.mpr ⟨List.mem_append_left _ (List.mem_of_getElem? (i := 6) rfl), rfl⟩⟩
set_option maxRecDepth 100000 in
theorem k8_60 : zq_cv 8 60 mX8_readLate 0 ∧ Cond.instanceMethod mX8_readLate.2.1 ∈ zq_g ∧ Cond.selects mX8_readLate.2.1.cls mX8_readLate.2.1 mX8_readLate.2.1 ∈ zq_g := ⟨⟨zq_tg (List.mem_of_getElem? (i := 331) rfl) rfl, zq_tg (List.mem_of_getElem? (i := 3) rfl) rfl, wX8_readLate, by decide +kernel⟩, zq_tg (List.mem_of_getElem? (i := 333) rfl) rfl, List.mem_filter.mpr ⟨List.mem_append_left _ (List.mem_of_getElem? (i := 7) rfl), rfl⟩⟩
set_option maxRecDepth 100000 in
theorem k8_63 : zq_cv 8 63 mX8_readCloud 0 ∧ Cond.instanceMethod mX8_readCloud.2.1 ∈ zq_g ∧ Cond.selects mX8_readCloud.2.1.cls mX8_readCloud.2.1 mX8_readCloud.2.1 ∈ zq_g := ⟨⟨zq_tg (List.mem_of_getElem? (i := 335) rfl) rfl, zq_tg (List.mem_of_getElem? (i := 3) rfl) rfl, wX8_readCloud, by decide +kernel⟩, zq_tg (List.mem_of_getElem? (i := 337) rfl) rfl, List.mem_filter.mpr ⟨List.mem_append_left _ (List.mem_of_getElem? (i := 8) rfl), rfl⟩⟩
set_option maxRecDepth 100000 in
theorem k8_91 : zq_cv 8 91 mX9_hasCloud 1 ∧ Cond.instanceMethod mX9_hasCloud.2.1 ∈ zq_g ∧ Cond.selects mX9_hasCloud.2.1.cls mX9_hasCloud.2.1 mX9_hasCloud.2.1 ∈ zq_g := ⟨⟨zq_tg (List.mem_of_getElem? (i := 339) rfl) rfl, zq_tg (List.mem_of_getElem? (i := 2) rfl) rfl, wX9_hasCloud, by decide +kernel⟩, zq_tg (List.mem_of_getElem? (i := 340) rfl) rfl, zq_tg (List.mem_of_getElem? (i := 341) rfl) rfl⟩
set_option maxRecDepth 100000 in
theorem k8_66 : zq_cv 8 66 mX8_readRule 0 ∧ Cond.instanceMethod mX8_readRule.2.1 ∈ zq_g ∧ Cond.selects mX8_readRule.2.1.cls mX8_readRule.2.1 mX8_readRule.2.1 ∈ zq_g := ⟨⟨zq_tg (List.mem_of_getElem? (i := 343) rfl) rfl, zq_tg (List.mem_of_getElem? (i := 3) rfl) rfl, wX8_readRule, by decide +kernel⟩, zq_tg (List.mem_of_getElem? (i := 345) rfl) rfl, List.mem_filter.mpr ⟨List.mem_append_left _ (List.mem_of_getElem? (i := 9) rfl), rfl⟩⟩
set_option maxRecDepth 100000 in
theorem k11_99 : zq_cv 11 99 mX9_become 1 ∧ Cond.instanceMethod mX9_become.2.1 ∈ zq_g ∧ Cond.selects mX9_become.2.1.cls mX9_become.2.1 mX9_become.2.1 ∈ zq_g := ⟨⟨zq_tg (List.mem_of_getElem? (i := 347) rfl) rfl, zq_tg (List.mem_of_getElem? (i := 2) rfl) rfl, wX9_become, by decide +kernel⟩, zq_tg (List.mem_of_getElem? (i := 348) rfl) rfl, zq_tg (List.mem_of_getElem? (i := 349) rfl) rfl⟩
set_option maxRecDepth 100000 in
theorem k11_102 : zq_cv 11 102 mX5_begin 0 ∧ Cond.instanceMethod mX5_begin.2.1 ∈ zq_g ∧ Cond.selects mX5_begin.2.1.cls mX5_begin.2.1 mX5_begin.2.1 ∈ zq_g := ⟨⟨zq_tg (List.mem_of_getElem? (i := 354) rfl) rfl, zq_tg (List.mem_of_getElem? (i := 4) rfl) rfl, wX5_begin, by decide +kernel⟩, zq_tg (List.mem_of_getElem? (i := 355) rfl) rfl, zq_tg (List.mem_of_getElem? (i := 356) rfl) rfl⟩
set_option maxRecDepth 100000 in
theorem k11_105 : zq_cv 11 105 mX9_hasPerson 1 ∧ Cond.instanceMethod mX9_hasPerson.2.1 ∈ zq_g ∧ Cond.selects mX9_hasPerson.2.1.cls mX9_hasPerson.2.1 mX9_hasPerson.2.1 ∈ zq_g := ⟨⟨zq_tg (List.mem_of_getElem? (i := 363) rfl) rfl, zq_tg (List.mem_of_getElem? (i := 2) rfl) rfl, wX9_hasPerson, by decide +kernel⟩, zq_tg (List.mem_of_getElem? (i := 364) rfl) rfl, zq_tg (List.mem_of_getElem? (i := 365) rfl) rfl⟩
set_option maxRecDepth 100000 in
theorem k11_115 : zq_cv 11 115 mX5_seen 0 ∧ Cond.instanceMethod mX5_seen.2.1 ∈ zq_g ∧ Cond.selects mX5_seen.2.1.cls mX5_seen.2.1 mX5_seen.2.1 ∈ zq_g := ⟨⟨zq_tg (List.mem_of_getElem? (i := 367) rfl) rfl, zq_tg (List.mem_of_getElem? (i := 4) rfl) rfl, wX5_seen, by decide +kernel⟩, zq_tg (List.mem_of_getElem? (i := 368) rfl) rfl, zq_tg (List.mem_of_getElem? (i := 369) rfl) rfl⟩
set_option maxRecDepth 100000 in
theorem k5_70 : zq_cv 5 70 mX9_hasCloud 1 ∧ Cond.instanceMethod mX9_hasCloud.2.1 ∈ zq_g ∧ Cond.selects mX9_hasCloud.2.1.cls mX9_hasCloud.2.1 mX9_hasCloud.2.1 ∈ zq_g := ⟨⟨zq_tg (List.mem_of_getElem? (i := 371) rfl) rfl, zq_tg (List.mem_of_getElem? (i := 2) rfl) rfl, wX9_hasCloud, by decide +kernel⟩, zq_tg (List.mem_of_getElem? (i := 340) rfl) rfl, zq_tg (List.mem_of_getElem? (i := 341) rfl) rfl⟩
set_option maxRecDepth 100000 in
theorem k5_74 : zq_cv 5 74 mX5_shown 0 ∧ Cond.instanceMethod mX5_shown.2.1 ∈ zq_g ∧ Cond.selects mX5_shown.2.1.cls mX5_shown.2.1 mX5_shown.2.1 ∈ zq_g := ⟨⟨zq_tg (List.mem_of_getElem? (i := 372) rfl) rfl, zq_tg (List.mem_of_getElem? (i := 4) rfl) rfl, wX5_shown, by decide +kernel⟩, zq_tg (List.mem_of_getElem? (i := 373) rfl) rfl, zq_tg (List.mem_of_getElem? (i := 374) rfl) rfl⟩
set_option maxRecDepth 100000 in
theorem k5_77 : zq_cv 5 77 mX5_shownIf 2 ∧ Cond.instanceMethod mX5_shownIf.2.1 ∈ zq_g ∧ Cond.selects mX5_shownIf.2.1.cls mX5_shownIf.2.1 mX5_shownIf.2.1 ∈ zq_g := ⟨⟨zq_tg (List.mem_of_getElem? (i := 376) rfl) rfl, zq_tg (List.mem_of_getElem? (i := 4) rfl) rfl, wX5_shownIf, by decide +kernel⟩, zq_tg (List.mem_of_getElem? (i := 377) rfl) rfl, zq_tg (List.mem_of_getElem? (i := 378) rfl) rfl⟩
set_option maxRecDepth 100000 in
theorem k5_80 : zq_cv 5 80 mX5_shows 3 ∧ Cond.instanceMethod mX5_shows.2.1 ∈ zq_g ∧ Cond.selects mX5_shows.2.1.cls mX5_shows.2.1 mX5_shows.2.1 ∈ zq_g := ⟨⟨zq_tg (List.mem_of_getElem? (i := 380) rfl) rfl, zq_tg (List.mem_of_getElem? (i := 4) rfl) rfl, wX5_shows, by decide +kernel⟩, zq_tg (List.mem_of_getElem? (i := 381) rfl) rfl, zq_tg (List.mem_of_getElem? (i := 382) rfl) rfl⟩
set_option maxRecDepth 100000 in
theorem k5_84 : zq_cvN 5 84 mX11_isInSquare 1 ∧ Cond.static mX11_isInSquare.2.1 ∈ zq_g := ⟨⟨List.mem_filter.mpr ⟨List.mem_append_right _ (List.mem_of_getElem? (i := 384) rfl), rfl⟩, zq_tg (List.mem_of_getElem? (i := 1) rfl) rfl, wX11_isInSquare, by decide +kernel⟩, zq_tg (List.mem_of_getElem? (i := 385) rfl) rfl⟩
set_option maxRecDepth 100000 in
theorem k5_87 : zq_cv 5 87 mX5_isInSmoke 1 ∧ Cond.instanceMethod mX5_isInSmoke.2.1 ∈ zq_g ∧ Cond.selects mX5_isInSmoke.2.1.cls mX5_isInSmoke.2.1 mX5_isInSmoke.2.1 ∈ zq_g := ⟨⟨zq_tg (List.mem_of_getElem? (i := 387) rfl) rfl, zq_tg (List.mem_of_getElem? (i := 4) rfl) rfl, wX5_isInSmoke, by decide +kernel⟩, zq_tg (List.mem_of_getElem? (i := 389) rfl) rfl, List.mem_filter.mpr ⟨List.mem_append_left _ (List.mem_of_getElem? (i := 10) rfl), rfl⟩⟩
set_option maxRecDepth 100000 in
theorem k5_60 : zq_cvN 5 60 mX11_bit 2 ∧ Cond.static mX11_bit.2.1 ∈ zq_g := ⟨⟨List.mem_filter.mpr ⟨List.mem_append_right _ (List.mem_of_getElem? (i := 391) rfl), rfl⟩, zq_tg (List.mem_of_getElem? (i := 1) rfl) rfl, wX11_bit, by decide +kernel⟩, zq_tg (List.mem_of_getElem? (i := 392) rfl) rfl⟩
set_option maxRecDepth 100000 in
theorem k5_93 : zq_cv 5 93 mX5_isAhead 2 ∧ Cond.static mX5_isAhead.2.1 ∈ zq_g := ⟨⟨zq_tg (List.mem_of_getElem? (i := 394) rfl) rfl, zq_tg (List.mem_of_getElem? (i := 4) rfl) rfl, wX5_isAhead, by decide +kernel⟩, zq_tg (List.mem_of_getElem? (i := 395) rfl) rfl⟩
set_option maxRecDepth 100000 in
theorem k11_119 : zq_cv 11 119 mX11_bit 2 ∧ Cond.static mX11_bit.2.1 ∈ zq_g := ⟨⟨zq_tg (List.mem_of_getElem? (i := 397) rfl) rfl, zq_tg (List.mem_of_getElem? (i := 1) rfl) rfl, wX11_bit, by decide +kernel⟩, zq_tg (List.mem_of_getElem? (i := 392) rfl) rfl⟩
set_option maxRecDepth 100000 in
theorem k11_123 : zq_cv 11 123 mX5_peopleIn 1 ∧ Cond.instanceMethod mX5_peopleIn.2.1 ∈ zq_g ∧ Cond.selects mX5_peopleIn.2.1.cls mX5_peopleIn.2.1 mX5_peopleIn.2.1 ∈ zq_g := ⟨⟨zq_tg (List.mem_of_getElem? (i := 402) rfl) rfl, zq_tg (List.mem_of_getElem? (i := 4) rfl) rfl, wX5_peopleIn, by decide +kernel⟩, zq_tg (List.mem_of_getElem? (i := 403) rfl) rfl, zq_tg (List.mem_of_getElem? (i := 404) rfl) rfl⟩
set_option maxRecDepth 100000 in
theorem k11_132 : zq_cv 11 132 mX9_hasCloud 1 ∧ Cond.instanceMethod mX9_hasCloud.2.1 ∈ zq_g ∧ Cond.selects mX9_hasCloud.2.1.cls mX9_hasCloud.2.1 mX9_hasCloud.2.1 ∈ zq_g := ⟨⟨zq_tg (List.mem_of_getElem? (i := 410) rfl) rfl, zq_tg (List.mem_of_getElem? (i := 2) rfl) rfl, wX9_hasCloud, by decide +kernel⟩, zq_tg (List.mem_of_getElem? (i := 340) rfl) rfl, zq_tg (List.mem_of_getElem? (i := 341) rfl) rfl⟩
set_option maxRecDepth 100000 in
theorem k11_138 : zq_cv 11 138 mX5_move 2 ∧ Cond.instanceMethod mX5_move.2.1 ∈ zq_g ∧ Cond.selects mX5_move.2.1.cls mX5_move.2.1 mX5_move.2.1 ∈ zq_g := ⟨⟨zq_tg (List.mem_of_getElem? (i := 415) rfl) rfl, zq_tg (List.mem_of_getElem? (i := 4) rfl) rfl, wX5_move, by decide +kernel⟩, zq_tg (List.mem_of_getElem? (i := 416) rfl) rfl, zq_tg (List.mem_of_getElem? (i := 417) rfl) rfl⟩
set_option maxRecDepth 100000 in
theorem k5_52 : zq_cv 5 52 mX5_remember 3 ∧ Cond.instanceMethod mX5_remember.2.1 ∈ zq_g ∧ Cond.selects mX5_remember.2.1.cls mX5_remember.2.1 mX5_remember.2.1 ∈ zq_g := ⟨⟨zq_tg (List.mem_of_getElem? (i := 419) rfl) rfl, zq_tg (List.mem_of_getElem? (i := 4) rfl) rfl, wX5_remember, by decide +kernel⟩, zq_tg (List.mem_of_getElem? (i := 421) rfl) rfl, List.mem_filter.mpr ⟨List.mem_append_left _ (List.mem_of_getElem? (i := 11) rfl), rfl⟩⟩
set_option maxRecDepth 100000 in
theorem k11_141 : zq_cv 11 141 mX5_turnSmoke 1 ∧ Cond.instanceMethod mX5_turnSmoke.2.1 ∈ zq_g ∧ Cond.selects mX5_turnSmoke.2.1.cls mX5_turnSmoke.2.1 mX5_turnSmoke.2.1 ∈ zq_g := ⟨⟨zq_tg (List.mem_of_getElem? (i := 431) rfl) rfl, zq_tg (List.mem_of_getElem? (i := 4) rfl) rfl, wX5_turnSmoke, by decide +kernel⟩, zq_tg (List.mem_of_getElem? (i := 432) rfl) rfl, zq_tg (List.mem_of_getElem? (i := 433) rfl) rfl⟩
set_option maxRecDepth 100000 in
theorem k11_145 : zq_cv 11 145 mJ6_bitCount_0f7a4 1 ∧ Cond.static mJ6_bitCount_0f7a4.2.1 ∈ zq_g := ⟨⟨zq_tg (List.mem_of_getElem? (i := 435) rfl) rfl, zq_tg (List.mem_of_getElem? (i := 16) rfl) rfl, wJ6_bitCount_0f7a4, by decide +kernel⟩, zq_tg (List.mem_of_getElem? (i := 436) rfl) rfl⟩
set_option maxRecDepth 100000 in
theorem k11_150 : zq_cv 11 150 mX11_isInSquare 1 ∧ Cond.static mX11_isInSquare.2.1 ∈ zq_g := ⟨⟨zq_tg (List.mem_of_getElem? (i := 445) rfl) rfl, zq_tg (List.mem_of_getElem? (i := 1) rfl) rfl, wX11_isInSquare, by decide +kernel⟩, zq_tg (List.mem_of_getElem? (i := 385) rfl) rfl⟩
set_option maxRecDepth 100000 in
theorem k11_156 : zq_cv 11 156 mX5_act 2 ∧ Cond.instanceMethod mX5_act.2.1 ∈ zq_g ∧ Cond.selects mX5_act.2.1.cls mX5_act.2.1 mX5_act.2.1 ∈ zq_g := ⟨⟨zq_tg (List.mem_of_getElem? (i := 446) rfl) rfl, zq_tg (List.mem_of_getElem? (i := 4) rfl) rfl, wX5_act, by decide +kernel⟩, zq_tg (List.mem_of_getElem? (i := 447) rfl) rfl, zq_tg (List.mem_of_getElem? (i := 448) rfl) rfl⟩
set_option maxRecDepth 100000 in
theorem k5_56 : zq_cv 5 56 mX5_seen 0 ∧ Cond.instanceMethod mX5_seen.2.1 ∈ zq_g ∧ Cond.selects mX5_seen.2.1.cls mX5_seen.2.1 mX5_seen.2.1 ∈ zq_g := ⟨⟨zq_tg (List.mem_of_getElem? (i := 450) rfl) rfl, zq_tg (List.mem_of_getElem? (i := 4) rfl) rfl, wX5_seen, by decide +kernel⟩, zq_tg (List.mem_of_getElem? (i := 368) rfl) rfl, zq_tg (List.mem_of_getElem? (i := 369) rfl) rfl⟩
set_option maxRecDepth 100000 in
theorem k11_159 : zq_cv 11 159 mX5_passDay 0 ∧ Cond.instanceMethod mX5_passDay.2.1 ∈ zq_g ∧ Cond.selects mX5_passDay.2.1.cls mX5_passDay.2.1 mX5_passDay.2.1 ∈ zq_g := ⟨⟨zq_tg (List.mem_of_getElem? (i := 455) rfl) rfl, zq_tg (List.mem_of_getElem? (i := 4) rfl) rfl, wX5_passDay, by decide +kernel⟩, zq_tg (List.mem_of_getElem? (i := 456) rfl) rfl, zq_tg (List.mem_of_getElem? (i := 457) rfl) rfl⟩
set_option maxRecDepth 100000 in
theorem k11_165 : zq_cv 11 165 mX5_takeBack 0 ∧ Cond.instanceMethod mX5_takeBack.2.1 ∈ zq_g ∧ Cond.selects mX5_takeBack.2.1.cls mX5_takeBack.2.1 mX5_takeBack.2.1 ∈ zq_g := ⟨⟨zq_tg (List.mem_of_getElem? (i := 463) rfl) rfl, zq_tg (List.mem_of_getElem? (i := 4) rfl) rfl, wX5_takeBack, by decide +kernel⟩, zq_tg (List.mem_of_getElem? (i := 464) rfl) rfl, zq_tg (List.mem_of_getElem? (i := 465) rfl) rfl⟩
set_option maxRecDepth 100000 in
theorem k11_168 : zq_cv 11 168 mX5_hasDeed 1 ∧ Cond.instanceMethod mX5_hasDeed.2.1 ∈ zq_g ∧ Cond.selects mX5_hasDeed.2.1.cls mX5_hasDeed.2.1 mX5_hasDeed.2.1 ∈ zq_g := ⟨⟨zq_tg (List.mem_of_getElem? (i := 471) rfl) rfl, zq_tg (List.mem_of_getElem? (i := 4) rfl) rfl, wX5_hasDeed, by decide +kernel⟩, zq_tg (List.mem_of_getElem? (i := 472) rfl) rfl, zq_tg (List.mem_of_getElem? (i := 473) rfl) rfl⟩
set_option maxRecDepth 100000 in
theorem k11_171 : zq_cv 11 171 mX5_ofDeed 2 ∧ Cond.instanceMethod mX5_ofDeed.2.1 ∈ zq_g ∧ Cond.selects mX5_ofDeed.2.1.cls mX5_ofDeed.2.1 mX5_ofDeed.2.1 ∈ zq_g := ⟨⟨zq_tg (List.mem_of_getElem? (i := 475) rfl) rfl, zq_tg (List.mem_of_getElem? (i := 4) rfl) rfl, wX5_ofDeed, by decide +kernel⟩, zq_tg (List.mem_of_getElem? (i := 476) rfl) rfl, zq_tg (List.mem_of_getElem? (i := 477) rfl) rfl⟩
set_option maxRecDepth 100000 in
theorem k11_174 : zq_cv 11 174 mX1_whoHolds 3 ∧ Cond.instanceMethod mX1_whoHolds.2.1 ∈ zq_g ∧ Cond.selects mX1_whoHolds.2.1.cls mX1_whoHolds.2.1 mX1_whoHolds.2.1 ∈ zq_g := ⟨⟨zq_tg (List.mem_of_getElem? (i := 487) rfl) rfl, zq_tg (List.mem_of_getElem? (i := 5) rfl) rfl, wX1_whoHolds, by decide +kernel⟩, zq_tg (List.mem_of_getElem? (i := 488) rfl) rfl, zq_tg (List.mem_of_getElem? (i := 489) rfl) rfl⟩
set_option maxRecDepth 100000 in
theorem k1_19 : zq_cv 1 19 mX1_leastActsDoer 3 ∧ Cond.instanceMethod mX1_leastActsDoer.2.1 ∈ zq_g ∧ Cond.selects mX1_leastActsDoer.2.1.cls mX1_leastActsDoer.2.1 mX1_leastActsDoer.2.1 ∈ zq_g := ⟨⟨zq_tg (List.mem_of_getElem? (i := 491) rfl) rfl, zq_tg (List.mem_of_getElem? (i := 5) rfl) rfl, wX1_leastActsDoer, by decide +kernel⟩, zq_tg (List.mem_of_getElem? (i := 493) rfl) rfl, List.mem_filter.mpr ⟨List.mem_append_left _ (List.mem_of_getElem? (i := 12) rfl), rfl⟩⟩
set_option maxRecDepth 100000 in
theorem k1_29 : zq_cvN 1 29 mX11_bit 2 ∧ Cond.static mX11_bit.2.1 ∈ zq_g := ⟨⟨List.mem_filter.mpr ⟨List.mem_append_right _ (List.mem_of_getElem? (i := 495) rfl), rfl⟩, zq_tg (List.mem_of_getElem? (i := 1) rfl) rfl, wX11_bit, by decide +kernel⟩, zq_tg (List.mem_of_getElem? (i := 392) rfl) rfl⟩
set_option maxRecDepth 100000 in
theorem k1_33 : zq_cv 1 33 mX1_lastDoer 3 ∧ Cond.instanceMethod mX1_lastDoer.2.1 ∈ zq_g ∧ Cond.selects mX1_lastDoer.2.1.cls mX1_lastDoer.2.1 mX1_lastDoer.2.1 ∈ zq_g := ⟨⟨zq_tg (List.mem_of_getElem? (i := 496) rfl) rfl, zq_tg (List.mem_of_getElem? (i := 5) rfl) rfl, wX1_lastDoer, by decide +kernel⟩, zq_tg (List.mem_of_getElem? (i := 498) rfl) rfl, List.mem_filter.mpr ⟨List.mem_append_left _ (List.mem_of_getElem? (i := 13) rfl), rfl⟩⟩
set_option maxRecDepth 100000 in
theorem k1_42 : zq_cv 1 42 mX5_ofDeed 2 ∧ Cond.instanceMethod mX5_ofDeed.2.1 ∈ zq_g ∧ Cond.selects mX5_ofDeed.2.1.cls mX5_ofDeed.2.1 mX5_ofDeed.2.1 ∈ zq_g := ⟨⟨zq_tg (List.mem_of_getElem? (i := 500) rfl) rfl, zq_tg (List.mem_of_getElem? (i := 4) rfl) rfl, wX5_ofDeed, by decide +kernel⟩, zq_tg (List.mem_of_getElem? (i := 476) rfl) rfl, zq_tg (List.mem_of_getElem? (i := 477) rfl) rfl⟩
set_option maxRecDepth 100000 in
theorem k1_23 : zq_cv 1 23 mX9_actsGiving 1 ∧ Cond.instanceMethod mX9_actsGiving.2.1 ∈ zq_g ∧ Cond.selects mX9_actsGiving.2.1.cls mX9_actsGiving.2.1 mX9_actsGiving.2.1 ∈ zq_g := ⟨⟨zq_tg (List.mem_of_getElem? (i := 501) rfl) rfl, zq_tg (List.mem_of_getElem? (i := 2) rfl) rfl, wX9_actsGiving, by decide +kernel⟩, zq_tg (List.mem_of_getElem? (i := 502) rfl) rfl, zq_tg (List.mem_of_getElem? (i := 503) rfl) rfl⟩
set_option maxRecDepth 100000 in
theorem k9_46 : zq_cv 9 46 mX9_actsAcross 3 ∧ Cond.instanceMethod mX9_actsAcross.2.1 ∈ zq_g ∧ Cond.selects mX9_actsAcross.2.1.cls mX9_actsAcross.2.1 mX9_actsAcross.2.1 ∈ zq_g := ⟨⟨zq_tg (List.mem_of_getElem? (i := 505) rfl) rfl, zq_tg (List.mem_of_getElem? (i := 2) rfl) rfl, wX9_actsAcross, by decide +kernel⟩, zq_tg (List.mem_of_getElem? (i := 507) rfl) rfl, List.mem_filter.mpr ⟨List.mem_append_left _ (List.mem_of_getElem? (i := 14) rfl), rfl⟩⟩
set_option maxRecDepth 100000 in
theorem k9_50 : zq_cvN 9 50 mX11_bit 2 ∧ Cond.static mX11_bit.2.1 ∈ zq_g := ⟨⟨List.mem_filter.mpr ⟨List.mem_append_right _ (List.mem_of_getElem? (i := 509) rfl), rfl⟩, zq_tg (List.mem_of_getElem? (i := 1) rfl) rfl, wX11_bit, by decide +kernel⟩, zq_tg (List.mem_of_getElem? (i := 392) rfl) rfl⟩
set_option maxRecDepth 100000 in
theorem k11_178 : zq_cv 11 178 mX1_comesBack 1 ∧ Cond.instanceMethod mX1_comesBack.2.1 ∈ zq_g ∧ Cond.selects mX1_comesBack.2.1.cls mX1_comesBack.2.1 mX1_comesBack.2.1 ∈ zq_g := ⟨⟨zq_tg (List.mem_of_getElem? (i := 514) rfl) rfl, zq_tg (List.mem_of_getElem? (i := 5) rfl) rfl, wX1_comesBack, by decide +kernel⟩, zq_tg (List.mem_of_getElem? (i := 515) rfl) rfl, zq_tg (List.mem_of_getElem? (i := 516) rfl) rfl⟩
set_option maxRecDepth 100000 in
theorem k1_45 : zq_cv 1 45 mX9_actsGivenBy 1 ∧ Cond.instanceMethod mX9_actsGivenBy.2.1 ∈ zq_g ∧ Cond.selects mX9_actsGivenBy.2.1.cls mX9_actsGivenBy.2.1 mX9_actsGivenBy.2.1 ∈ zq_g := ⟨⟨zq_tg (List.mem_of_getElem? (i := 518) rfl) rfl, zq_tg (List.mem_of_getElem? (i := 2) rfl) rfl, wX9_actsGivenBy, by decide +kernel⟩, zq_tg (List.mem_of_getElem? (i := 519) rfl) rfl, zq_tg (List.mem_of_getElem? (i := 520) rfl) rfl⟩
set_option maxRecDepth 100000 in
theorem k11_181 : zq_cv 11 181 mX5_keptOn 1 ∧ Cond.instanceMethod mX5_keptOn.2.1 ∈ zq_g ∧ Cond.selects mX5_keptOn.2.1.cls mX5_keptOn.2.1 mX5_keptOn.2.1 ∈ zq_g := ⟨⟨zq_tg (List.mem_of_getElem? (i := 526) rfl) rfl, zq_tg (List.mem_of_getElem? (i := 4) rfl) rfl, wX5_keptOn, by decide +kernel⟩, zq_tg (List.mem_of_getElem? (i := 527) rfl) rfl, zq_tg (List.mem_of_getElem? (i := 528) rfl) rfl⟩
set_option maxRecDepth 100000 in
theorem k11_184 : zq_cv 11 184 mX9_areBits 1 ∧ Cond.instanceMethod mX9_areBits.2.1 ∈ zq_g ∧ Cond.selects mX9_areBits.2.1.cls mX9_areBits.2.1 mX9_areBits.2.1 ∈ zq_g := ⟨⟨zq_tg (List.mem_of_getElem? (i := 538) rfl) rfl, zq_tg (List.mem_of_getElem? (i := 2) rfl) rfl, wX9_areBits, by decide +kernel⟩, zq_tg (List.mem_of_getElem? (i := 539) rfl) rfl, zq_tg (List.mem_of_getElem? (i := 540) rfl) rfl⟩
set_option maxRecDepth 100000 in
theorem k11_187 : zq_cv 11 187 mX5_leastSmoke 2 ∧ Cond.instanceMethod mX5_leastSmoke.2.1 ∈ zq_g ∧ Cond.selects mX5_leastSmoke.2.1.cls mX5_leastSmoke.2.1 mX5_leastSmoke.2.1 ∈ zq_g := ⟨⟨zq_tg (List.mem_of_getElem? (i := 542) rfl) rfl, zq_tg (List.mem_of_getElem? (i := 4) rfl) rfl, wX5_leastSmoke, by decide +kernel⟩, zq_tg (List.mem_of_getElem? (i := 543) rfl) rfl, zq_tg (List.mem_of_getElem? (i := 544) rfl) rfl⟩
set_option maxRecDepth 100000 in
theorem k5_97 : zq_cv 5 97 mX5_nearestRow 2 ∧ Cond.instanceMethod mX5_nearestRow.2.1 ∈ zq_g ∧ Cond.selects mX5_nearestRow.2.1.cls mX5_nearestRow.2.1 mX5_nearestRow.2.1 ∈ zq_g := ⟨⟨zq_tg (List.mem_of_getElem? (i := 546) rfl) rfl, zq_tg (List.mem_of_getElem? (i := 4) rfl) rfl, wX5_nearestRow, by decide +kernel⟩, zq_tg (List.mem_of_getElem? (i := 548) rfl) rfl, List.mem_filter.mpr ⟨List.mem_append_left _ (List.mem_of_getElem? (i := 15) rfl), rfl⟩⟩
set_option maxRecDepth 100000 in
theorem k5_103 : zq_cv 5 103 mJ9_min_7cf53 2 ∧ Cond.static mJ9_min_7cf53.2.1 ∈ zq_g := ⟨⟨zq_tg (List.mem_of_getElem? (i := 550) rfl) rfl, zq_tg (List.mem_of_getElem? (i := 14) rfl) rfl, wJ9_min_7cf53, by decide +kernel⟩, zq_tg (List.mem_of_getElem? (i := 291) rfl) rfl⟩
set_option maxRecDepth 100000 in
theorem k5_100 : zq_cv 5 100 mX5_farthestRow 2 ∧ Cond.instanceMethod mX5_farthestRow.2.1 ∈ zq_g ∧ Cond.selects mX5_farthestRow.2.1.cls mX5_farthestRow.2.1 mX5_farthestRow.2.1 ∈ zq_g := ⟨⟨zq_tg (List.mem_of_getElem? (i := 551) rfl) rfl, zq_tg (List.mem_of_getElem? (i := 4) rfl) rfl, wX5_farthestRow, by decide +kernel⟩, zq_tg (List.mem_of_getElem? (i := 553) rfl) rfl, List.mem_filter.mpr ⟨List.mem_append_left _ (List.mem_of_getElem? (i := 16) rfl), rfl⟩⟩
set_option maxRecDepth 100000 in
theorem k5_108 : zq_cv 5 108 mJ9_max_7cf53 2 ∧ Cond.static mJ9_max_7cf53.2.1 ∈ zq_g := ⟨⟨zq_tg (List.mem_of_getElem? (i := 555) rfl) rfl, zq_tg (List.mem_of_getElem? (i := 14) rfl) rfl, wJ9_max_7cf53, by decide +kernel⟩, zq_tg (List.mem_of_getElem? (i := 556) rfl) rfl⟩
set_option maxRecDepth 100000 in
theorem k11_190 : zq_cv 11 190 mX5_shows 3 ∧ Cond.instanceMethod mX5_shows.2.1 ∈ zq_g ∧ Cond.selects mX5_shows.2.1.cls mX5_shows.2.1 mX5_shows.2.1 ∈ zq_g := ⟨⟨zq_tg (List.mem_of_getElem? (i := 562) rfl) rfl, zq_tg (List.mem_of_getElem? (i := 4) rfl) rfl, wX5_shows, by decide +kernel⟩, zq_tg (List.mem_of_getElem? (i := 381) rfl) rfl, zq_tg (List.mem_of_getElem? (i := 382) rfl) rfl⟩
set_option maxRecDepth 100000 in
theorem k11_194 : zq_cv 11 194 mX5_shownIf 2 ∧ Cond.instanceMethod mX5_shownIf.2.1 ∈ zq_g ∧ Cond.selects mX5_shownIf.2.1.cls mX5_shownIf.2.1 mX5_shownIf.2.1 ∈ zq_g := ⟨⟨zq_tg (List.mem_of_getElem? (i := 567) rfl) rfl, zq_tg (List.mem_of_getElem? (i := 4) rfl) rfl, wX5_shownIf, by decide +kernel⟩, zq_tg (List.mem_of_getElem? (i := 377) rfl) rfl, zq_tg (List.mem_of_getElem? (i := 378) rfl) rfl⟩
set_option maxRecDepth 100000 in
theorem k11_197 : zq_cv 11 197 mX5_shown 0 ∧ Cond.instanceMethod mX5_shown.2.1 ∈ zq_g ∧ Cond.selects mX5_shown.2.1.cls mX5_shown.2.1 mX5_shown.2.1 ∈ zq_g := ⟨⟨zq_tg (List.mem_of_getElem? (i := 568) rfl) rfl, zq_tg (List.mem_of_getElem? (i := 4) rfl) rfl, wX5_shown, by decide +kernel⟩, zq_tg (List.mem_of_getElem? (i := 373) rfl) rfl, zq_tg (List.mem_of_getElem? (i := 374) rfl) rfl⟩
set_option maxRecDepth 100000 in
theorem k11_202 : zq_cv 11 202 mX11_power 2 ∧ Cond.static mX11_power.2.1 ∈ zq_g := ⟨⟨zq_tg (List.mem_of_getElem? (i := 574) rfl) rfl, zq_tg (List.mem_of_getElem? (i := 1) rfl) rfl, wX11_power, by decide +kernel⟩, zq_tg (List.mem_of_getElem? (i := 575) rfl) rfl⟩
set_option maxRecDepth 100000 in
theorem k11_206 : zq_cv 11 206 mX11_commonDivisor 2 ∧ Cond.static mX11_commonDivisor.2.1 ∈ zq_g := ⟨⟨zq_tg (List.mem_of_getElem? (i := 577) rfl) rfl, zq_tg (List.mem_of_getElem? (i := 1) rfl) rfl, wX11_commonDivisor, by decide +kernel⟩, zq_tg (List.mem_of_getElem? (i := 578) rfl) rfl⟩
set_option maxRecDepth 100000 in
theorem k11_210 : zq_cv 11 210 mJ9_max_f86c9 2 ∧ Cond.static mJ9_max_f86c9.2.1 ∈ zq_g := ⟨⟨zq_tg (List.mem_of_getElem? (i := 580) rfl) rfl, zq_tg (List.mem_of_getElem? (i := 14) rfl) rfl, wJ9_max_f86c9, by decide +kernel⟩, zq_tg (List.mem_of_getElem? (i := 581) rfl) rfl⟩
set_option maxRecDepth 100000 in
theorem k11_217 : zq_cv 11 217 mX9_ofHeight 1 ∧ Cond.instanceMethod mX9_ofHeight.2.1 ∈ zq_g ∧ Cond.selects mX9_ofHeight.2.1.cls mX9_ofHeight.2.1 mX9_ofHeight.2.1 ∈ zq_g := ⟨⟨zq_tg (List.mem_of_getElem? (i := 592) rfl) rfl, zq_tg (List.mem_of_getElem? (i := 2) rfl) rfl, wX9_ofHeight, by decide +kernel⟩, zq_tg (List.mem_of_getElem? (i := 593) rfl) rfl, zq_tg (List.mem_of_getElem? (i := 594) rfl) rfl⟩
set_option maxRecDepth 100000 in
theorem k11_220 : zq_cv 11 220 mX5_daysKept 1 ∧ Cond.instanceMethod mX5_daysKept.2.1 ∈ zq_g ∧ Cond.selects mX5_daysKept.2.1.cls mX5_daysKept.2.1 mX5_daysKept.2.1 ∈ zq_g := ⟨⟨zq_tg (List.mem_of_getElem? (i := 600) rfl) rfl, zq_tg (List.mem_of_getElem? (i := 4) rfl) rfl, wX5_daysKept, by decide +kernel⟩, zq_tg (List.mem_of_getElem? (i := 601) rfl) rfl, zq_tg (List.mem_of_getElem? (i := 602) rfl) rfl⟩
set_option maxRecDepth 100000 in
theorem k11_223 : zq_cv 11 223 mX5_firstDayKept 1 ∧ Cond.instanceMethod mX5_firstDayKept.2.1 ∈ zq_g ∧ Cond.selects mX5_firstDayKept.2.1.cls mX5_firstDayKept.2.1 mX5_firstDayKept.2.1 ∈ zq_g := ⟨⟨zq_tg (List.mem_of_getElem? (i := 604) rfl) rfl, zq_tg (List.mem_of_getElem? (i := 4) rfl) rfl, wX5_firstDayKept, by decide +kernel⟩, zq_tg (List.mem_of_getElem? (i := 605) rfl) rfl, zq_tg (List.mem_of_getElem? (i := 606) rfl) rfl⟩
set_option maxRecDepth 100000 in
theorem k11_226 : zq_cv 11 226 mX5_lastDayKept 1 ∧ Cond.instanceMethod mX5_lastDayKept.2.1 ∈ zq_g ∧ Cond.selects mX5_lastDayKept.2.1.cls mX5_lastDayKept.2.1 mX5_lastDayKept.2.1 ∈ zq_g := ⟨⟨zq_tg (List.mem_of_getElem? (i := 608) rfl) rfl, zq_tg (List.mem_of_getElem? (i := 4) rfl) rfl, wX5_lastDayKept, by decide +kernel⟩, zq_tg (List.mem_of_getElem? (i := 609) rfl) rfl, zq_tg (List.mem_of_getElem? (i := 610) rfl) rfl⟩
set_option maxRecDepth 100000 in
theorem k2_15 : zq_cv 2 15 mX3_worth 1 ∧ Cond.sameMethod mX3_worth.2.1.cls mX3_worth.2.1.cls mX3_worth.2.1.name mX3_worth.2.1.desc ∈ zq_g ∧ Cond.superclass (zq_cn 2) mX3_worth.2.1.cls ∈ zq_g ∧ Cond.instanceMethod mX3_worth.2.1 ∈ zq_g ∧ mX3_worth.2.1.name ≠ "<init>" := ⟨⟨zq_tg (List.mem_of_getElem? (i := 629) rfl) rfl, zq_tg (List.mem_of_getElem? (i := 9) rfl) rfl, wX3_worth, by decide +kernel⟩, zq_tg (List.mem_of_getElem? (i := 961) rfl) rfl, zq_tg (List.mem_of_getElem? (i := 229) rfl) rfl, zq_tg (List.mem_of_getElem? (i := 630) rfl) rfl, by decide +kernel⟩
set_option maxRecDepth 100000 in
theorem k3_17 : zq_cv 3 17 mX6_worth 1 ∧ Cond.sameMethod mX6_worth.2.1.cls mX6_worth.2.1.cls mX6_worth.2.1.name mX6_worth.2.1.desc ∈ zq_g ∧ Cond.superclass (zq_cn 3) mX6_worth.2.1.cls ∈ zq_g ∧ Cond.instanceMethod mX6_worth.2.1 ∈ zq_g ∧ mX6_worth.2.1.name ≠ "<init>" := ⟨⟨zq_tg (List.mem_of_getElem? (i := 633) rfl) rfl, zq_tg (List.mem_of_getElem? (i := 7) rfl) rfl, wX6_worth, by decide +kernel⟩, zq_tg (List.mem_of_getElem? (i := 624) rfl) rfl, zq_tg (List.mem_of_getElem? (i := 215) rfl) rfl, zq_tg (List.mem_of_getElem? (i := 622) rfl) rfl, by decide +kernel⟩
set_option maxRecDepth 100000 in
theorem k3_21 : zq_cv 3 21 mX0_get 1 ∧ Cond.instanceMethod mX0_get.2.1 ∈ zq_g ∧ Cond.selects mX0_get.2.1.cls mX0_get.2.1 mX0_get.2.1 ∈ zq_g := ⟨⟨zq_tg (List.mem_of_getElem? (i := 634) rfl) rfl, zq_tg (List.mem_of_getElem? (i := 6) rfl) rfl, wX0_get, by decide +kernel⟩, zq_tg (List.mem_of_getElem? (i := 635) rfl) rfl, zq_tg (List.mem_of_getElem? (i := 636) rfl) rfl⟩
set_option maxRecDepth 100000 in
theorem k0_21 : zq_cv 0 21 mX5_ofDeed 2 ∧ Cond.instanceMethod mX5_ofDeed.2.1 ∈ zq_g ∧ Cond.selects mX5_ofDeed.2.1.cls mX5_ofDeed.2.1 mX5_ofDeed.2.1 ∈ zq_g := ⟨⟨zq_tg (List.mem_of_getElem? (i := 638) rfl) rfl, zq_tg (List.mem_of_getElem? (i := 4) rfl) rfl, wX5_ofDeed, by decide +kernel⟩, zq_tg (List.mem_of_getElem? (i := 476) rfl) rfl, zq_tg (List.mem_of_getElem? (i := 477) rfl) rfl⟩
set_option maxRecDepth 100000 in
theorem k4_15 : zq_cv 4 15 mX7_worth 1 ∧ Cond.sameMethod mX7_worth.2.1.cls mX7_worth.2.1.cls mX7_worth.2.1.name mX7_worth.2.1.desc ∈ zq_g ∧ Cond.superclass (zq_cn 4) mX7_worth.2.1.cls ∈ zq_g ∧ Cond.instanceMethod mX7_worth.2.1 ∈ zq_g ∧ mX7_worth.2.1.name ≠ "<init>" := ⟨⟨zq_tg (List.mem_of_getElem? (i := 644) rfl) rfl, zq_tg (List.mem_of_getElem? (i := 8) rfl) rfl, wX7_worth, by decide +kernel⟩, zq_tg (List.mem_of_getElem? (i := 962) rfl) rfl, zq_tg (List.mem_of_getElem? (i := 222) rfl) rfl, zq_tg (List.mem_of_getElem? (i := 645) rfl) rfl, by decide +kernel⟩
set_option maxRecDepth 100000 in
theorem k7_17 : zq_cv 7 17 mX6_worth 1 ∧ Cond.sameMethod mX6_worth.2.1.cls mX6_worth.2.1.cls mX6_worth.2.1.name mX6_worth.2.1.desc ∈ zq_g ∧ Cond.superclass (zq_cn 7) mX6_worth.2.1.cls ∈ zq_g ∧ Cond.instanceMethod mX6_worth.2.1 ∈ zq_g ∧ mX6_worth.2.1.name ≠ "<init>" := ⟨⟨zq_tg (List.mem_of_getElem? (i := 648) rfl) rfl, zq_tg (List.mem_of_getElem? (i := 7) rfl) rfl, wX6_worth, by decide +kernel⟩, zq_tg (List.mem_of_getElem? (i := 624) rfl) rfl, zq_tg (List.mem_of_getElem? (i := 208) rfl) rfl, zq_tg (List.mem_of_getElem? (i := 622) rfl) rfl, by decide +kernel⟩
set_option maxRecDepth 100000 in
theorem k7_31 : zq_cv 7 31 mX0_get 1 ∧ Cond.instanceMethod mX0_get.2.1 ∈ zq_g ∧ Cond.selects mX0_get.2.1.cls mX0_get.2.1 mX0_get.2.1 ∈ zq_g := ⟨⟨zq_tg (List.mem_of_getElem? (i := 649) rfl) rfl, zq_tg (List.mem_of_getElem? (i := 6) rfl) rfl, wX0_get, by decide +kernel⟩, zq_tg (List.mem_of_getElem? (i := 635) rfl) rfl, zq_tg (List.mem_of_getElem? (i := 636) rfl) rfl⟩
set_option maxRecDepth 100000 in
theorem k10_17 : zq_cv 10 17 mX6_worth 1 ∧ Cond.sameMethod mX6_worth.2.1.cls mX6_worth.2.1.cls mX6_worth.2.1.name mX6_worth.2.1.desc ∈ zq_g ∧ Cond.superclass (zq_cn 10) mX6_worth.2.1.cls ∈ zq_g ∧ Cond.instanceMethod mX6_worth.2.1 ∈ zq_g ∧ mX6_worth.2.1.name ≠ "<init>" := ⟨⟨zq_tg (List.mem_of_getElem? (i := 655) rfl) rfl, zq_tg (List.mem_of_getElem? (i := 7) rfl) rfl, wX6_worth, by decide +kernel⟩, zq_tg (List.mem_of_getElem? (i := 624) rfl) rfl, zq_tg (List.mem_of_getElem? (i := 236) rfl) rfl, zq_tg (List.mem_of_getElem? (i := 622) rfl) rfl, by decide +kernel⟩
set_option maxRecDepth 100000 in
theorem k10_25 : zq_cv 10 25 mX0_get 1 ∧ Cond.instanceMethod mX0_get.2.1 ∈ zq_g ∧ Cond.selects mX0_get.2.1.cls mX0_get.2.1 mX0_get.2.1 ∈ zq_g := ⟨⟨zq_tg (List.mem_of_getElem? (i := 656) rfl) rfl, zq_tg (List.mem_of_getElem? (i := 6) rfl) rfl, wX0_get, by decide +kernel⟩, zq_tg (List.mem_of_getElem? (i := 635) rfl) rfl, zq_tg (List.mem_of_getElem? (i := 636) rfl) rfl⟩
set_option maxRecDepth 100000 in
theorem k10_29 : zq_cv 10 29 mX5_deedsOfAct 1 ∧ Cond.instanceMethod mX5_deedsOfAct.2.1 ∈ zq_g ∧ Cond.selects mX5_deedsOfAct.2.1.cls mX5_deedsOfAct.2.1 mX5_deedsOfAct.2.1 ∈ zq_g := ⟨⟨zq_tg (List.mem_of_getElem? (i := 657) rfl) rfl, zq_tg (List.mem_of_getElem? (i := 4) rfl) rfl, wX5_deedsOfAct, by decide +kernel⟩, zq_tg (List.mem_of_getElem? (i := 658) rfl) rfl, zq_tg (List.mem_of_getElem? (i := 659) rfl) rfl⟩
set_option maxRecDepth 100000 in
theorem k5_64 : zq_cv 5 64 mX5_ofDeed 2 ∧ Cond.instanceMethod mX5_ofDeed.2.1 ∈ zq_g ∧ Cond.selects mX5_ofDeed.2.1.cls mX5_ofDeed.2.1 mX5_ofDeed.2.1 ∈ zq_g := ⟨⟨zq_tg (List.mem_of_getElem? (i := 661) rfl) rfl, zq_tg (List.mem_of_getElem? (i := 4) rfl) rfl, wX5_ofDeed, by decide +kernel⟩, zq_tg (List.mem_of_getElem? (i := 476) rfl) rfl, zq_tg (List.mem_of_getElem? (i := 477) rfl) rfl⟩
set_option maxRecDepth 100000 in
theorem k6_15 : zq_cv 6 15 mX0_get 1 ∧ Cond.instanceMethod mX0_get.2.1 ∈ zq_g ∧ Cond.selects mX0_get.2.1.cls mX0_get.2.1 mX0_get.2.1 ∈ zq_g := ⟨⟨zq_tg (List.mem_of_getElem? (i := 663) rfl) rfl, zq_tg (List.mem_of_getElem? (i := 6) rfl) rfl, wX0_get, by decide +kernel⟩, zq_tg (List.mem_of_getElem? (i := 635) rfl) rfl, zq_tg (List.mem_of_getElem? (i := 636) rfl) rfl⟩
set_option maxRecDepth 100000 in
theorem k11_237 : zq_cv 11 237 mX5_become 1 ∧ Cond.instanceMethod mX5_become.2.1 ∈ zq_g ∧ Cond.selects mX5_become.2.1.cls mX5_become.2.1 mX5_become.2.1 ∈ zq_g := ⟨⟨zq_tg (List.mem_of_getElem? (i := 668) rfl) rfl, zq_tg (List.mem_of_getElem? (i := 4) rfl) rfl, wX5_become, by decide +kernel⟩, zq_tg (List.mem_of_getElem? (i := 669) rfl) rfl, zq_tg (List.mem_of_getElem? (i := 670) rfl) rfl⟩
set_option maxRecDepth 100000 in
theorem k12_32 : zq_cv 12 32 mX12_reads 0 ∧ Cond.instanceMethod mX12_reads.2.1 ∈ zq_g ∧ Cond.selects mX12_reads.2.1.cls mX12_reads.2.1 mX12_reads.2.1 ∈ zq_g := ⟨⟨zq_tg (List.mem_of_getElem? (i := 690) rfl) rfl, zq_tg (List.mem_of_getElem? (i := 13) rfl) rfl, wX12_reads, by decide +kernel⟩, zq_tg (List.mem_of_getElem? (i := 692) rfl) rfl, List.mem_filter.mpr ⟨List.mem_append_left _ (List.mem_of_getElem? (i := 17) rfl), rfl⟩⟩
set_option maxRecDepth 100000 in
theorem k12_70 : zq_cv 12 70 mX12_token 0 ∧ Cond.instanceMethod mX12_token.2.1 ∈ zq_g ∧ Cond.selects mX12_token.2.1.cls mX12_token.2.1 mX12_token.2.1 ∈ zq_g := ⟨⟨zq_tg (List.mem_of_getElem? (i := 694) rfl) rfl, zq_tg (List.mem_of_getElem? (i := 13) rfl) rfl, wX12_token, by decide +kernel⟩, zq_tg (List.mem_of_getElem? (i := 696) rfl) rfl, List.mem_filter.mpr ⟨List.mem_append_left _ (List.mem_of_getElem? (i := 18) rfl), rfl⟩⟩
set_option maxRecDepth 100000 in
theorem k12_50 : zq_cv 12 50 mX12_byteAt 1 ∧ Cond.instanceMethod mX12_byteAt.2.1 ∈ zq_g ∧ Cond.selects mX12_byteAt.2.1.cls mX12_byteAt.2.1 mX12_byteAt.2.1 ∈ zq_g := ⟨⟨zq_tg (List.mem_of_getElem? (i := 698) rfl) rfl, zq_tg (List.mem_of_getElem? (i := 13) rfl) rfl, wX12_byteAt, by decide +kernel⟩, zq_tg (List.mem_of_getElem? (i := 700) rfl) rfl, List.mem_filter.mpr ⟨List.mem_append_left _ (List.mem_of_getElem? (i := 19) rfl), rfl⟩⟩
set_option maxRecDepth 100000 in
theorem k12_57 : zq_cv 12 57 mX12_isLetter 1 ∧ Cond.static mX12_isLetter.2.1 ∈ zq_g := ⟨⟨zq_tg (List.mem_of_getElem? (i := 702) rfl) rfl, zq_tg (List.mem_of_getElem? (i := 13) rfl) rfl, wX12_isLetter, by decide +kernel⟩, zq_tg (List.mem_of_getElem? (i := 703) rfl) rfl⟩
set_option maxRecDepth 100000 in
theorem k12_39 : zq_cv 12 39 mX12_in 3 ∧ Cond.static mX12_in.2.1 ∈ zq_g := ⟨⟨zq_tg (List.mem_of_getElem? (i := 705) rfl) rfl, zq_tg (List.mem_of_getElem? (i := 13) rfl) rfl, wX12_in, by decide +kernel⟩, zq_tg (List.mem_of_getElem? (i := 706) rfl) rfl⟩
set_option maxRecDepth 100000 in
theorem k12_61 : zq_cv 12 61 mX12_isDigit 1 ∧ Cond.static mX12_isDigit.2.1 ∈ zq_g := ⟨⟨zq_tg (List.mem_of_getElem? (i := 708) rfl) rfl, zq_tg (List.mem_of_getElem? (i := 13) rfl) rfl, wX12_isDigit, by decide +kernel⟩, zq_tg (List.mem_of_getElem? (i := 709) rfl) rfl⟩
set_option maxRecDepth 100000 in
theorem k12_88 : zq_cv 12 88 mX12_readsItem 0 ∧ Cond.instanceMethod mX12_readsItem.2.1 ∈ zq_g ∧ Cond.selects mX12_readsItem.2.1.cls mX12_readsItem.2.1 mX12_readsItem.2.1 ∈ zq_g := ⟨⟨zq_tg (List.mem_of_getElem? (i := 711) rfl) rfl, zq_tg (List.mem_of_getElem? (i := 13) rfl) rfl, wX12_readsItem, by decide +kernel⟩, zq_tg (List.mem_of_getElem? (i := 713) rfl) rfl, List.mem_filter.mpr ⟨List.mem_append_left _ (List.mem_of_getElem? (i := 20) rfl), rfl⟩⟩
set_option maxRecDepth 100000 in
theorem k12_76 : zq_cv 12 76 mX12_readsPerson 0 ∧ Cond.instanceMethod mX12_readsPerson.2.1 ∈ zq_g ∧ Cond.selects mX12_readsPerson.2.1.cls mX12_readsPerson.2.1 mX12_readsPerson.2.1 ∈ zq_g := ⟨⟨zq_tg (List.mem_of_getElem? (i := 715) rfl) rfl, zq_tg (List.mem_of_getElem? (i := 13) rfl) rfl, wX12_readsPerson, by decide +kernel⟩, zq_tg (List.mem_of_getElem? (i := 717) rfl) rfl, List.mem_filter.mpr ⟨List.mem_append_left _ (List.mem_of_getElem? (i := 21) rfl), rfl⟩⟩
set_option maxRecDepth 100000 in
theorem k12_73 : zq_cv 12 73 mX12_number 3 ∧ Cond.instanceMethod mX12_number.2.1 ∈ zq_g ∧ Cond.selects mX12_number.2.1.cls mX12_number.2.1 mX12_number.2.1 ∈ zq_g := ⟨⟨zq_tg (List.mem_of_getElem? (i := 719) rfl) rfl, zq_tg (List.mem_of_getElem? (i := 13) rfl) rfl, wX12_number, by decide +kernel⟩, zq_tg (List.mem_of_getElem? (i := 721) rfl) rfl, List.mem_filter.mpr ⟨List.mem_append_left _ (List.mem_of_getElem? (i := 22) rfl), rfl⟩⟩
set_option maxRecDepth 100000 in
theorem k12_79 : zq_cv 12 79 mX12_readsLate 0 ∧ Cond.instanceMethod mX12_readsLate.2.1 ∈ zq_g ∧ Cond.selects mX12_readsLate.2.1.cls mX12_readsLate.2.1 mX12_readsLate.2.1 ∈ zq_g := ⟨⟨zq_tg (List.mem_of_getElem? (i := 723) rfl) rfl, zq_tg (List.mem_of_getElem? (i := 13) rfl) rfl, wX12_readsLate, by decide +kernel⟩, zq_tg (List.mem_of_getElem? (i := 725) rfl) rfl, List.mem_filter.mpr ⟨List.mem_append_left _ (List.mem_of_getElem? (i := 23) rfl), rfl⟩⟩
set_option maxRecDepth 100000 in
theorem k12_82 : zq_cv 12 82 mX12_readsCloud 0 ∧ Cond.instanceMethod mX12_readsCloud.2.1 ∈ zq_g ∧ Cond.selects mX12_readsCloud.2.1.cls mX12_readsCloud.2.1 mX12_readsCloud.2.1 ∈ zq_g := ⟨⟨zq_tg (List.mem_of_getElem? (i := 727) rfl) rfl, zq_tg (List.mem_of_getElem? (i := 13) rfl) rfl, wX12_readsCloud, by decide +kernel⟩, zq_tg (List.mem_of_getElem? (i := 729) rfl) rfl, List.mem_filter.mpr ⟨List.mem_append_left _ (List.mem_of_getElem? (i := 24) rfl), rfl⟩⟩
set_option maxRecDepth 100000 in
theorem k12_85 : zq_cv 12 85 mX12_readsRule 0 ∧ Cond.instanceMethod mX12_readsRule.2.1 ∈ zq_g ∧ Cond.selects mX12_readsRule.2.1.cls mX12_readsRule.2.1 mX12_readsRule.2.1 ∈ zq_g := ⟨⟨zq_tg (List.mem_of_getElem? (i := 731) rfl) rfl, zq_tg (List.mem_of_getElem? (i := 13) rfl) rfl, wX12_readsRule, by decide +kernel⟩, zq_tg (List.mem_of_getElem? (i := 733) rfl) rfl, List.mem_filter.mpr ⟨List.mem_append_left _ (List.mem_of_getElem? (i := 25) rfl), rfl⟩⟩
set_option maxRecDepth 100000 in
theorem k12_36 : zq_cv 12 36 mX12_tells 0 ∧ Cond.instanceMethod mX12_tells.2.1 ∈ zq_g ∧ Cond.selects mX12_tells.2.1.cls mX12_tells.2.1 mX12_tells.2.1 ∈ zq_g := ⟨⟨zq_tg (List.mem_of_getElem? (i := 735) rfl) rfl, zq_tg (List.mem_of_getElem? (i := 13) rfl) rfl, wX12_tells, by decide +kernel⟩, zq_tg (List.mem_of_getElem? (i := 737) rfl) rfl, List.mem_filter.mpr ⟨List.mem_append_left _ (List.mem_of_getElem? (i := 26) rfl), rfl⟩⟩
set_option maxRecDepth 100000 in
theorem k12_100 : zq_cv 12 100 mX12_isPerson 1 ∧ Cond.instanceMethod mX12_isPerson.2.1 ∈ zq_g ∧ Cond.selects mX12_isPerson.2.1.cls mX12_isPerson.2.1 mX12_isPerson.2.1 ∈ zq_g := ⟨⟨zq_tg (List.mem_of_getElem? (i := 795) rfl) rfl, zq_tg (List.mem_of_getElem? (i := 13) rfl) rfl, wX12_isPerson, by decide +kernel⟩, zq_tg (List.mem_of_getElem? (i := 797) rfl) rfl, List.mem_filter.mpr ⟨List.mem_append_left _ (List.mem_of_getElem? (i := 27) rfl), rfl⟩⟩
set_option maxRecDepth 100000 in
theorem k12_97 : zq_cv 12 97 mX12_isSeen 1 ∧ Cond.instanceMethod mX12_isSeen.2.1 ∈ zq_g ∧ Cond.selects mX12_isSeen.2.1.cls mX12_isSeen.2.1 mX12_isSeen.2.1 ∈ zq_g := ⟨⟨zq_tg (List.mem_of_getElem? (i := 799) rfl) rfl, zq_tg (List.mem_of_getElem? (i := 13) rfl) rfl, wX12_isSeen, by decide +kernel⟩, zq_tg (List.mem_of_getElem? (i := 801) rfl) rfl, List.mem_filter.mpr ⟨List.mem_append_left _ (List.mem_of_getElem? (i := 28) rfl), rfl⟩⟩
set_option maxRecDepth 100000 in
theorem k12_91 : zq_cv 12 91 mX12_isBare 3 ∧ Cond.instanceMethod mX12_isBare.2.1 ∈ zq_g ∧ Cond.selects mX12_isBare.2.1.cls mX12_isBare.2.1 mX12_isBare.2.1 ∈ zq_g := ⟨⟨zq_tg (List.mem_of_getElem? (i := 803) rfl) rfl, zq_tg (List.mem_of_getElem? (i := 13) rfl) rfl, wX12_isBare, by decide +kernel⟩, zq_tg (List.mem_of_getElem? (i := 805) rfl) rfl, List.mem_filter.mpr ⟨List.mem_append_left _ (List.mem_of_getElem? (i := 29) rfl), rfl⟩⟩
set_option maxRecDepth 100000 in
theorem k12_94 : zq_cv 12 94 mX12_isCloud 1 ∧ Cond.instanceMethod mX12_isCloud.2.1 ∈ zq_g ∧ Cond.selects mX12_isCloud.2.1.cls mX12_isCloud.2.1 mX12_isCloud.2.1 ∈ zq_g := ⟨⟨zq_tg (List.mem_of_getElem? (i := 807) rfl) rfl, zq_tg (List.mem_of_getElem? (i := 13) rfl) rfl, wX12_isCloud, by decide +kernel⟩, zq_tg (List.mem_of_getElem? (i := 809) rfl) rfl, List.mem_filter.mpr ⟨List.mem_append_left _ (List.mem_of_getElem? (i := 30) rfl), rfl⟩⟩
set_option maxRecDepth 100000 in
theorem k12_103 : zq_cv 12 103 mX12_seenNow 0 ∧ Cond.instanceMethod mX12_seenNow.2.1 ∈ zq_g ∧ Cond.selects mX12_seenNow.2.1.cls mX12_seenNow.2.1 mX12_seenNow.2.1 ∈ zq_g := ⟨⟨zq_tg (List.mem_of_getElem? (i := 819) rfl) rfl, zq_tg (List.mem_of_getElem? (i := 13) rfl) rfl, wX12_seenNow, by decide +kernel⟩, zq_tg (List.mem_of_getElem? (i := 821) rfl) rfl, List.mem_filter.mpr ⟨List.mem_append_left _ (List.mem_of_getElem? (i := 31) rfl), rfl⟩⟩
set_option maxRecDepth 100000 in
theorem k12_107 : zq_cv 12 107 mX12_keeps 0 ∧ Cond.instanceMethod mX12_keeps.2.1 ∈ zq_g ∧ Cond.selects mX12_keeps.2.1.cls mX12_keeps.2.1 mX12_keeps.2.1 ∈ zq_g := ⟨⟨zq_tg (List.mem_of_getElem? (i := 827) rfl) rfl, zq_tg (List.mem_of_getElem? (i := 13) rfl) rfl, wX12_keeps, by decide +kernel⟩, zq_tg (List.mem_of_getElem? (i := 829) rfl) rfl, List.mem_filter.mpr ⟨List.mem_append_left _ (List.mem_of_getElem? (i := 32) rfl), rfl⟩⟩
set_option maxRecDepth 100000 in
theorem k12_110 : zq_cv 12 110 mX12_ones 1 ∧ Cond.static mX12_ones.2.1 ∈ zq_g := ⟨⟨zq_tg (List.mem_of_getElem? (i := 839) rfl) rfl, zq_tg (List.mem_of_getElem? (i := 13) rfl) rfl, wX12_ones, by decide +kernel⟩, zq_tg (List.mem_of_getElem? (i := 840) rfl) rfl⟩
set_option maxRecDepth 100000 in
theorem k12_113 : zq_cv 12 113 mX12_isDeed 1 ∧ Cond.instanceMethod mX12_isDeed.2.1 ∈ zq_g ∧ Cond.selects mX12_isDeed.2.1.cls mX12_isDeed.2.1 mX12_isDeed.2.1 ∈ zq_g := ⟨⟨zq_tg (List.mem_of_getElem? (i := 858) rfl) rfl, zq_tg (List.mem_of_getElem? (i := 13) rfl) rfl, wX12_isDeed, by decide +kernel⟩, zq_tg (List.mem_of_getElem? (i := 860) rfl) rfl, List.mem_filter.mpr ⟨List.mem_append_left _ (List.mem_of_getElem? (i := 33) rfl), rfl⟩⟩
set_option maxRecDepth 100000 in
theorem k12_124 : zq_cv 12 124 mX12_holderBy 3 ∧ Cond.instanceMethod mX12_holderBy.2.1 ∈ zq_g ∧ Cond.selects mX12_holderBy.2.1.cls mX12_holderBy.2.1 mX12_holderBy.2.1 ∈ zq_g := ⟨⟨zq_tg (List.mem_of_getElem? (i := 870) rfl) rfl, zq_tg (List.mem_of_getElem? (i := 13) rfl) rfl, wX12_holderBy, by decide +kernel⟩, zq_tg (List.mem_of_getElem? (i := 872) rfl) rfl, List.mem_filter.mpr ⟨List.mem_append_left _ (List.mem_of_getElem? (i := 34) rfl), rfl⟩⟩
set_option maxRecDepth 100000 in
theorem k12_116 : zq_cv 12 116 mX12_ownHolder 3 ∧ Cond.instanceMethod mX12_ownHolder.2.1 ∈ zq_g ∧ Cond.selects mX12_ownHolder.2.1.cls mX12_ownHolder.2.1 mX12_ownHolder.2.1 ∈ zq_g := ⟨⟨zq_tg (List.mem_of_getElem? (i := 874) rfl) rfl, zq_tg (List.mem_of_getElem? (i := 13) rfl) rfl, wX12_ownHolder, by decide +kernel⟩, zq_tg (List.mem_of_getElem? (i := 876) rfl) rfl, List.mem_filter.mpr ⟨List.mem_append_left _ (List.mem_of_getElem? (i := 35) rfl), rfl⟩⟩
set_option maxRecDepth 100000 in
theorem k12_120 : zq_cv 12 120 mX12_laysWays 1 ∧ Cond.instanceMethod mX12_laysWays.2.1 ∈ zq_g ∧ Cond.selects mX12_laysWays.2.1.cls mX12_laysWays.2.1 mX12_laysWays.2.1 ∈ zq_g := ⟨⟨zq_tg (List.mem_of_getElem? (i := 878) rfl) rfl, zq_tg (List.mem_of_getElem? (i := 13) rfl) rfl, wX12_laysWays, by decide +kernel⟩, zq_tg (List.mem_of_getElem? (i := 880) rfl) rfl, List.mem_filter.mpr ⟨List.mem_append_left _ (List.mem_of_getElem? (i := 36) rfl), rfl⟩⟩
set_option maxRecDepth 100000 in
theorem k12_127 : zq_cv 12 127 mX12_isPeople 1 ∧ Cond.instanceMethod mX12_isPeople.2.1 ∈ zq_g ∧ Cond.selects mX12_isPeople.2.1.cls mX12_isPeople.2.1 mX12_isPeople.2.1 ∈ zq_g := ⟨⟨zq_tg (List.mem_of_getElem? (i := 898) rfl) rfl, zq_tg (List.mem_of_getElem? (i := 13) rfl) rfl, wX12_isPeople, by decide +kernel⟩, zq_tg (List.mem_of_getElem? (i := 900) rfl) rfl, List.mem_filter.mpr ⟨List.mem_append_left _ (List.mem_of_getElem? (i := 37) rfl), rfl⟩⟩
set_option maxRecDepth 100000 in
theorem k12_134 : zq_cv 12 134 mX12_power 2 ∧ Cond.static mX12_power.2.1 ∈ zq_g := ⟨⟨zq_tg (List.mem_of_getElem? (i := 916) rfl) rfl, zq_tg (List.mem_of_getElem? (i := 13) rfl) rfl, wX12_power, by decide +kernel⟩, zq_tg (List.mem_of_getElem? (i := 917) rfl) rfl⟩
