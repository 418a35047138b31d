set_option maxRecDepth 100000 in
theorem btl_64 : [(lw_tbl.drop 64)[15]?, (lw_tbl.drop 64)[16]?, (lw_tbl.drop 64)[17]?, (lw_tbl.drop 64)[18]?, (lw_tbl.drop 64)[19]?] = [some (Cond.classLink "CalledNumbersLaw" 7 "CalledNumbers"), some (Cond.instantiable "CalledNumbers" 18), some (Cond.methodLink "CalledNumbersLaw" 9 yX10_init), some (Cond.instanceMethod yX10_init), some (Cond.code yX10_init cX10_init 2 none)] := rfl
set_option maxRecDepth 100000 in
theorem btl_288 : [(lw_tbl.drop 288)[2]?, (lw_tbl.drop 288)[3]?, (lw_tbl.drop 288)[4]?, (lw_tbl.drop 288)[5]?, (lw_tbl.drop 288)[14]?, (lw_tbl.drop 288)[15]?, (lw_tbl.drop 288)[16]?, (lw_tbl.drop 288)[17]?, (lw_tbl.drop 288)[26]?, (lw_tbl.drop 288)[27]?, (lw_tbl.drop 288)[28]?, (lw_tbl.drop 288)[29]?, (lw_tbl.drop 288)[30]?, (lw_tbl.drop 288)[31]?] = [some (Cond.methodLink "CalledNumbersLaw" 13 yX10_row), some (Cond.instanceMethod yX10_row), some (Cond.selects "CalledNumbers" yX10_row yX10_row), some (Cond.code yX10_row cX10_row 3 (some .int)), some (Cond.methodLink "CalledNumbersLaw" 18 yX10_lay), some (Cond.instanceMethod yX10_lay), some (Cond.selects "CalledNumbers" yX10_lay yX10_lay), some (Cond.code yX10_lay cX10_lay 5 (some .int)), some (Cond.methodLink "CalledNumbersLaw" 23 yX10_at), some (Cond.instanceMethod yX10_at), some (Cond.selects "CalledNumbers" yX10_at yX10_at), some (Cond.code yX10_at cX10_at 4 (some .int)), some (Cond.methodLink "CalledNumbersLaw" 27 yX10_tear), some (Cond.instanceMethod yX10_tear)] := rfl
set_option maxRecDepth 100000 in
theorem btl_320 : [(lw_tbl.drop 320)[0]?, (lw_tbl.drop 320)[1]?, (lw_tbl.drop 320)[2]?, (lw_tbl.drop 320)[3]?, (lw_tbl.drop 320)[4]?, (lw_tbl.drop 320)[5]?, (lw_tbl.drop 320)[13]?, (lw_tbl.drop 320)[14]?, (lw_tbl.drop 320)[15]?, (lw_tbl.drop 320)[16]?, (lw_tbl.drop 320)[17]?, (lw_tbl.drop 320)[18]?, (lw_tbl.drop 320)[19]?, (lw_tbl.drop 320)[20]?, (lw_tbl.drop 320)[28]?, (lw_tbl.drop 320)[29]?, (lw_tbl.drop 320)[30]?, (lw_tbl.drop 320)[31]?] = [some (Cond.selects "CalledNumbers" yX10_tear yX10_tear), some (Cond.code yX10_tear cX10_tear 3 (some .int)), some (Cond.methodLink "CalledNumbersLaw" 32 yX10_copy), some (Cond.instanceMethod yX10_copy), some (Cond.selects "CalledNumbers" yX10_copy yX10_copy), some (Cond.code yX10_copy cX10_copy 6 (some .int)), some (Cond.methodLink "CalledNumbersLaw" 37 yX10_mean), some (Cond.instanceMethod yX10_mean), some (Cond.selects "CalledNumbers" yX10_mean yX10_mean), some (Cond.code yX10_mean cX10_mean 7 (some .int)), some (Cond.methodLink "CalledNumbersLaw" 41 yX10_text), some (Cond.instanceMethod yX10_text), some (Cond.selects "CalledNumbers" yX10_text yX10_text), some (Cond.code yX10_text cX10_text 3 (some .int)), some (Cond.methodLink "CalledNumbersLaw" 45 yX10_put), some (Cond.instanceMethod yX10_put), some (Cond.selects "CalledNumbers" yX10_put yX10_put), some (Cond.code yX10_put cX10_put 6 (some .int))] := rfl
set_option maxRecDepth 100000 in
theorem btl_352 : [(lw_tbl.drop 352)[4]?, (lw_tbl.drop 352)[5]?, (lw_tbl.drop 352)[6]?, (lw_tbl.drop 352)[7]?, (lw_tbl.drop 352)[21]?, (lw_tbl.drop 352)[22]?, (lw_tbl.drop 352)[23]?, (lw_tbl.drop 352)[24]?] = [some (Cond.methodLink "CalledNumbersLaw" 49 yX10_fault), some (Cond.instanceMethod yX10_fault), some (Cond.selects "CalledNumbers" yX10_fault yX10_fault), some (Cond.code yX10_fault cX10_fault 3 (some .int)), some (Cond.methodLink "CalledNumbersLaw" 53 yX10_hall), some (Cond.instanceMethod yX10_hall), some (Cond.selects "CalledNumbers" yX10_hall yX10_hall), some (Cond.code yX10_hall cX10_hall 4 (some .int))] := rfl
set_option maxRecDepth 100000 in
theorem btl_384 : [(lw_tbl.drop 384)[2]?, (lw_tbl.drop 384)[3]?, (lw_tbl.drop 384)[4]?, (lw_tbl.drop 384)[5]?] = [some (Cond.methodLink "CalledNumbersLaw" 57 yX10_player), some (Cond.instanceMethod yX10_player), some (Cond.selects "CalledNumbers" yX10_player yX10_player), some (Cond.code yX10_player cX10_player 3 (some .int))] := rfl
set_option maxRecDepth 100000 in
theorem btl_448 : [(lw_tbl.drop 448)[4]?, (lw_tbl.drop 448)[5]?, (lw_tbl.drop 448)[6]?, (lw_tbl.drop 448)[7]?, (lw_tbl.drop 448)[12]?, (lw_tbl.drop 448)[13]?, (lw_tbl.drop 448)[14]?, (lw_tbl.drop 448)[15]?] = [some (Cond.methodLink "CalledNumbersLaw" 61 yX10_card), some (Cond.instanceMethod yX10_card), some (Cond.selects "CalledNumbers" yX10_card yX10_card), some (Cond.code yX10_card cX10_card 3 (some .int)), some (Cond.methodLink "CalledNumbersLaw" 65 yX10_mark), some (Cond.instanceMethod yX10_mark), some (Cond.selects "CalledNumbers" yX10_mark yX10_mark), some (Cond.code yX10_mark cX10_mark 5 (some .int))] := rfl
set_option maxRecDepth 100000 in
theorem btl_480 : [(lw_tbl.drop 480)[7]?, (lw_tbl.drop 480)[8]?, (lw_tbl.drop 480)[9]?, (lw_tbl.drop 480)[10]?] = [some (Cond.methodLink "CalledNumbersLaw" 69 yX10_call), some (Cond.instanceMethod yX10_call), some (Cond.selects "CalledNumbers" yX10_call yX10_call), some (Cond.code yX10_call cX10_call 2 (some .int))] := rfl
set_option maxRecDepth 100000 in
theorem btl_512 : [(lw_tbl.drop 512)[22]?, (lw_tbl.drop 512)[23]?, (lw_tbl.drop 512)[24]?, (lw_tbl.drop 512)[25]?] = [some (Cond.methodLink "CalledNumbersLaw" 73 yX10_rub), some (Cond.instanceMethod yX10_rub), some (Cond.selects "CalledNumbers" yX10_rub yX10_rub), some (Cond.code yX10_rub cX10_rub 3 (some .int))] := rfl
set_option maxRecDepth 100000 in
theorem btl_544 : [(lw_tbl.drop 544)[2]?, (lw_tbl.drop 544)[3]?, (lw_tbl.drop 544)[4]?, (lw_tbl.drop 544)[5]?, (lw_tbl.drop 544)[10]?, (lw_tbl.drop 544)[11]?, (lw_tbl.drop 544)[12]?, (lw_tbl.drop 544)[13]?, (lw_tbl.drop 544)[22]?, (lw_tbl.drop 544)[23]?, (lw_tbl.drop 544)[24]?, (lw_tbl.drop 544)[25]?, (lw_tbl.drop 544)[26]?, (lw_tbl.drop 544)[27]?, (lw_tbl.drop 544)[28]?, (lw_tbl.drop 544)[29]?, (lw_tbl.drop 544)[31]?] = [some (Cond.methodLink "CalledNumbersLaw" 77 yX10_undo), some (Cond.instanceMethod yX10_undo), some (Cond.selects "CalledNumbers" yX10_undo yX10_undo), some (Cond.code yX10_undo cX10_undo 3 (some .int)), some (Cond.methodLink "CalledNumbersLaw" 81 yX10_keep), some (Cond.instanceMethod yX10_keep), some (Cond.selects "CalledNumbers" yX10_keep yX10_keep), some (Cond.code yX10_keep cX10_keep 2 (some .int)), some (Cond.methodLink "CalledNumbersLaw" 85 yX10_on), some (Cond.instanceMethod yX10_on), some (Cond.selects "CalledNumbers" yX10_on yX10_on), some (Cond.code yX10_on cX10_on 2 (some .int)), some (Cond.methodLink "CalledNumbersLaw" 89 yX10_hears), some (Cond.instanceMethod yX10_hears), some (Cond.selects "CalledNumbers" yX10_hears yX10_hears), some (Cond.code yX10_hears cX10_hears 5 (some .int)), some (Cond.methodLink "CalledNumbersLaw" 94 yX10_run)] := rfl
set_option maxRecDepth 100000 in
theorem btl_576 : [(lw_tbl.drop 576)[0]?, (lw_tbl.drop 576)[1]?, (lw_tbl.drop 576)[2]?, (lw_tbl.drop 576)[7]?, (lw_tbl.drop 576)[8]?, (lw_tbl.drop 576)[9]?, (lw_tbl.drop 576)[10]?, (lw_tbl.drop 576)[16]?, (lw_tbl.drop 576)[17]?, (lw_tbl.drop 576)[18]?, (lw_tbl.drop 576)[19]?] = [some (Cond.instanceMethod yX10_run), some (Cond.selects "CalledNumbers" yX10_run yX10_run), some (Cond.code yX10_run cX10_run 6 (some .int)), some (Cond.methodLink "CalledNumbersLaw" 98 yX10_safe), some (Cond.instanceMethod yX10_safe), some (Cond.selects "CalledNumbers" yX10_safe yX10_safe), some (Cond.code yX10_safe cX10_safe 6 (some .int)), some (Cond.methodLink "CalledNumbersLaw" 103 yX10_fewest), some (Cond.instanceMethod yX10_fewest), some (Cond.selects "CalledNumbers" yX10_fewest yX10_fewest), some (Cond.code yX10_fewest cX10_fewest 5 (some .int))] := rfl
set_option maxRecDepth 100000 in
theorem btl_608 : [(lw_tbl.drop 608)[5]?, (lw_tbl.drop 608)[6]?, (lw_tbl.drop 608)[7]?, (lw_tbl.drop 608)[8]?, (lw_tbl.drop 608)[13]?, (lw_tbl.drop 608)[14]?, (lw_tbl.drop 608)[15]?, (lw_tbl.drop 608)[16]?, (lw_tbl.drop 608)[22]?, (lw_tbl.drop 608)[23]?, (lw_tbl.drop 608)[24]?, (lw_tbl.drop 608)[25]?] = [some (Cond.methodLink "CalledNumbersLaw" 107 yX10_most), some (Cond.instanceMethod yX10_most), some (Cond.selects "CalledNumbers" yX10_most yX10_most), some (Cond.code yX10_most cX10_most 3 (some .int)), some (Cond.methodLink "CalledNumbersLaw" 111 yX10_which), some (Cond.instanceMethod yX10_which), some (Cond.selects "CalledNumbers" yX10_which yX10_which), some (Cond.code yX10_which cX10_which 5 (some .int)), some (Cond.methodLink "CalledNumbersLaw" 115 yX10_kinds), some (Cond.instanceMethod yX10_kinds), some (Cond.selects "CalledNumbers" yX10_kinds yX10_kinds), some (Cond.code yX10_kinds cX10_kinds 4 (some .int))] := rfl
set_option maxRecDepth 100000 in
theorem btl_640 : [(lw_tbl.drop 640)[6]?, (lw_tbl.drop 640)[7]?, (lw_tbl.drop 640)[8]?, (lw_tbl.drop 640)[9]?, (lw_tbl.drop 640)[15]?, (lw_tbl.drop 640)[16]?, (lw_tbl.drop 640)[17]?, (lw_tbl.drop 640)[18]?, (lw_tbl.drop 640)[29]?, (lw_tbl.drop 640)[30]?, (lw_tbl.drop 640)[31]?] = [some (Cond.methodLink "CalledNumbersLaw" 119 yX10_next), some (Cond.instanceMethod yX10_next), some (Cond.selects "CalledNumbers" yX10_next yX10_next), some (Cond.code yX10_next cX10_next 9 (some .int)), some (Cond.methodLink "CalledNumbersLaw" 123 yX10_duel), some (Cond.instanceMethod yX10_duel), some (Cond.selects "CalledNumbers" yX10_duel yX10_duel), some (Cond.code yX10_duel cX10_duel 4 (some .int)), some (Cond.methodLink "CalledNumbersLaw" 127 yX10_odds), some (Cond.instanceMethod yX10_odds), some (Cond.selects "CalledNumbers" yX10_odds yX10_odds)] := rfl
set_option maxRecDepth 100000 in
theorem btl_672 : [(lw_tbl.drop 672)[0]?, (lw_tbl.drop 672)[20]?, (lw_tbl.drop 672)[21]?, (lw_tbl.drop 672)[22]?, (lw_tbl.drop 672)[23]?, (lw_tbl.drop 672)[24]?, (lw_tbl.drop 672)[25]?, (lw_tbl.drop 672)[26]?, (lw_tbl.drop 672)[27]?] = [some (Cond.code yX10_odds cX10_odds 3 (some .int)), some (Cond.methodLink "CalledNumbersLaw" 131 yX10_mid), some (Cond.instanceMethod yX10_mid), some (Cond.selects "CalledNumbers" yX10_mid yX10_mid), some (Cond.code yX10_mid cX10_mid 3 (some .int)), some (Cond.methodLink "CalledNumbersLaw" 135 yX10_lots), some (Cond.instanceMethod yX10_lots), some (Cond.selects "CalledNumbers" yX10_lots yX10_lots), some (Cond.code yX10_lots cX10_lots 5 (some .int))] := rfl
set_option maxRecDepth 100000 in
theorem btl_704 : [(lw_tbl.drop 704)[2]?, (lw_tbl.drop 704)[3]?, (lw_tbl.drop 704)[4]?, (lw_tbl.drop 704)[5]?, (lw_tbl.drop 704)[6]?, (lw_tbl.drop 704)[7]?, (lw_tbl.drop 704)[8]?, (lw_tbl.drop 704)[9]?, (lw_tbl.drop 704)[10]?, (lw_tbl.drop 704)[11]?, (lw_tbl.drop 704)[12]?, (lw_tbl.drop 704)[13]?, (lw_tbl.drop 704)[14]?] = [some (Cond.methodLink "CalledNumbersLaw" 139 yX10_asked), some (Cond.instanceMethod yX10_asked), some (Cond.selects "CalledNumbers" yX10_asked yX10_asked), some (Cond.code yX10_asked cX10_asked 1 (some .int)), some (Cond.methodLink "CalledNumbersLaw" 143 yX10_upper), some (Cond.instanceMethod yX10_upper), some (Cond.selects "CalledNumbers" yX10_upper yX10_upper), some (Cond.code yX10_upper cX10_upper 1 (some .long)), some (Cond.methodLink "CalledNumbersLaw" 148 yX10_lower), some (Cond.instanceMethod yX10_lower), some (Cond.selects "CalledNumbers" yX10_lower yX10_lower), some (Cond.code yX10_lower cX10_lower 1 (some .long)), some (Cond.methodLink "CalledNumbersLaw" 152 yX10_count)] := rfl
set_option maxRecDepth 100000 in
theorem btl_736 : [(lw_tbl.drop 736)[6]?, (lw_tbl.drop 736)[7]?, (lw_tbl.drop 736)[8]?, (lw_tbl.drop 736)[9]?, (lw_tbl.drop 736)[10]?, (lw_tbl.drop 736)[11]?, (lw_tbl.drop 736)[12]?, (lw_tbl.drop 736)[13]?, (lw_tbl.drop 736)[14]?, (lw_tbl.drop 736)[15]?, (lw_tbl.drop 736)[16]?, (lw_tbl.drop 736)[17]?, (lw_tbl.drop 736)[21]?, (lw_tbl.drop 736)[22]?, (lw_tbl.drop 736)[23]?, (lw_tbl.drop 736)[24]?, (lw_tbl.drop 736)[25]?] = [some (Cond.methodLink "CalledNumbersLaw" 156 yX10_finding), some (Cond.instanceMethod yX10_finding), some (Cond.selects "CalledNumbers" yX10_finding yX10_finding), some (Cond.code yX10_finding cX10_finding 1 (some .int)), some (Cond.methodLink "CalledNumbersLaw" 160 yX10_findings), some (Cond.instanceMethod yX10_findings), some (Cond.selects "CalledNumbers" yX10_findings yX10_findings), some (Cond.code yX10_findings cX10_findings 2 (some .int)), some (Cond.methodLink "CalledNumbersLaw" 164 yX10_digest), some (Cond.instanceMethod yX10_digest), some (Cond.selects "CalledNumbers" yX10_digest yX10_digest), some (Cond.code yX10_digest cX10_digest 5 (some .long)), some (Cond.classLink "CalledNumbersLaw" 10 "CalledNumbersModel"), some (Cond.instantiable "CalledNumbersModel" 22), some (Cond.methodLink "CalledNumbersLaw" 12 yX11_init), some (Cond.instanceMethod yX11_init), some (Cond.code yX11_init cX11_init 2 none)] := rfl
set_option maxRecDepth 100000 in
theorem btl_800 : [(lw_tbl.drop 800)[30]?, (lw_tbl.drop 800)[31]?] = [some (Cond.methodLink "CalledNumbersLaw" 17 yX11_row), some (Cond.instanceMethod yX11_row)] := rfl
set_option maxRecDepth 100000 in
theorem btl_832 : [(lw_tbl.drop 832)[0]?, (lw_tbl.drop 832)[1]?, (lw_tbl.drop 832)[18]?, (lw_tbl.drop 832)[19]?, (lw_tbl.drop 832)[20]?, (lw_tbl.drop 832)[21]?, (lw_tbl.drop 832)[26]?, (lw_tbl.drop 832)[27]?, (lw_tbl.drop 832)[28]?, (lw_tbl.drop 832)[29]?, (lw_tbl.drop 832)[30]?, (lw_tbl.drop 832)[31]?] = [some (Cond.selects "CalledNumbersModel" yX11_row yX11_row), some (Cond.code yX11_row cX11_row 3 (some .int)), some (Cond.methodLink "CalledNumbersLaw" 22 yX11_lay), some (Cond.instanceMethod yX11_lay), some (Cond.selects "CalledNumbersModel" yX11_lay yX11_lay), some (Cond.code yX11_lay cX11_lay 5 (some .int)), some (Cond.methodLink "CalledNumbersLaw" 26 yX11_at), some (Cond.instanceMethod yX11_at), some (Cond.selects "CalledNumbersModel" yX11_at yX11_at), some (Cond.code yX11_at cX11_at 3 (some .int)), some (Cond.methodLink "CalledNumbersLaw" 31 yX11_tear), some (Cond.instanceMethod yX11_tear)] := rfl
set_option maxRecDepth 100000 in
theorem btl_864 : [(lw_tbl.drop 864)[0]?, (lw_tbl.drop 864)[1]?, (lw_tbl.drop 864)[2]?, (lw_tbl.drop 864)[3]?, (lw_tbl.drop 864)[4]?, (lw_tbl.drop 864)[5]?, (lw_tbl.drop 864)[6]?, (lw_tbl.drop 864)[7]?, (lw_tbl.drop 864)[8]?, (lw_tbl.drop 864)[9]?, (lw_tbl.drop 864)[10]?, (lw_tbl.drop 864)[11]?, (lw_tbl.drop 864)[12]?, (lw_tbl.drop 864)[13]?, (lw_tbl.drop 864)[19]?, (lw_tbl.drop 864)[20]?, (lw_tbl.drop 864)[21]?, (lw_tbl.drop 864)[22]?, (lw_tbl.drop 864)[23]?, (lw_tbl.drop 864)[24]?, (lw_tbl.drop 864)[25]?, (lw_tbl.drop 864)[26]?] = [some (Cond.selects "CalledNumbersModel" yX11_tear yX11_tear), some (Cond.code yX11_tear cX11_tear 2 (some .int)), some (Cond.methodLink "CalledNumbersLaw" 36 yX11_copy), some (Cond.instanceMethod yX11_copy), some (Cond.selects "CalledNumbersModel" yX11_copy yX11_copy), some (Cond.code yX11_copy cX11_copy 7 (some .int)), some (Cond.methodLink "CalledNumbersLaw" 40 yX11_mean), some (Cond.instanceMethod yX11_mean), some (Cond.selects "CalledNumbersModel" yX11_mean yX11_mean), some (Cond.code yX11_mean cX11_mean 5 (some .int)), some (Cond.methodLink "CalledNumbersLaw" 44 yX11_text), some (Cond.instanceMethod yX11_text), some (Cond.selects "CalledNumbersModel" yX11_text yX11_text), some (Cond.code yX11_text cX11_text 4 (some .int)), some (Cond.methodLink "CalledNumbersLaw" 48 yX11_put), some (Cond.instanceMethod yX11_put), some (Cond.selects "CalledNumbersModel" yX11_put yX11_put), some (Cond.code yX11_put cX11_put 5 (some .int)), some (Cond.methodLink "CalledNumbersLaw" 52 yX11_fault), some (Cond.instanceMethod yX11_fault), some (Cond.selects "CalledNumbersModel" yX11_fault yX11_fault), some (Cond.code yX11_fault cX11_fault 2 (some .int))] := rfl
set_option maxRecDepth 100000 in
theorem btl_896 : [(lw_tbl.drop 896)[20]?, (lw_tbl.drop 896)[21]?, (lw_tbl.drop 896)[22]?, (lw_tbl.drop 896)[23]?, (lw_tbl.drop 896)[24]?, (lw_tbl.drop 896)[25]?, (lw_tbl.drop 896)[26]?, (lw_tbl.drop 896)[27]?] = [some (Cond.methodLink "CalledNumbersLaw" 56 yX11_hall), some (Cond.instanceMethod yX11_hall), some (Cond.selects "CalledNumbersModel" yX11_hall yX11_hall), some (Cond.code yX11_hall cX11_hall 3 (some .int)), some (Cond.methodLink "CalledNumbersLaw" 60 yX11_player), some (Cond.instanceMethod yX11_player), some (Cond.selects "CalledNumbersModel" yX11_player yX11_player), some (Cond.code yX11_player cX11_player 3 (some .int))] := rfl
set_option maxRecDepth 100000 in
theorem btl_928 : [(lw_tbl.drop 928)[17]?, (lw_tbl.drop 928)[18]?, (lw_tbl.drop 928)[19]?, (lw_tbl.drop 928)[20]?, (lw_tbl.drop 928)[21]?, (lw_tbl.drop 928)[22]?, (lw_tbl.drop 928)[23]?, (lw_tbl.drop 928)[24]?] = [some (Cond.methodLink "CalledNumbersLaw" 64 yX11_card), some (Cond.instanceMethod yX11_card), some (Cond.selects "CalledNumbersModel" yX11_card yX11_card), some (Cond.code yX11_card cX11_card 3 (some .int)), some (Cond.methodLink "CalledNumbersLaw" 68 yX11_mark), some (Cond.instanceMethod yX11_mark), some (Cond.selects "CalledNumbersModel" yX11_mark yX11_mark), some (Cond.code yX11_mark cX11_mark 6 (some .int))] := rfl
set_option maxRecDepth 100000 in
theorem btl_960 : [(lw_tbl.drop 960)[0]?, (lw_tbl.drop 960)[1]?, (lw_tbl.drop 960)[2]?, (lw_tbl.drop 960)[3]?, (lw_tbl.drop 960)[19]?, (lw_tbl.drop 960)[20]?, (lw_tbl.drop 960)[21]?, (lw_tbl.drop 960)[22]?, (lw_tbl.drop 960)[23]?, (lw_tbl.drop 960)[24]?, (lw_tbl.drop 960)[25]?, (lw_tbl.drop 960)[26]?, (lw_tbl.drop 960)[27]?, (lw_tbl.drop 960)[28]?, (lw_tbl.drop 960)[29]?, (lw_tbl.drop 960)[30]?] = [some (Cond.methodLink "CalledNumbersLaw" 72 yX11_call), some (Cond.instanceMethod yX11_call), some (Cond.selects "CalledNumbersModel" yX11_call yX11_call), some (Cond.code yX11_call cX11_call 2 (some .int)), some (Cond.methodLink "CalledNumbersLaw" 76 yX11_rub), some (Cond.instanceMethod yX11_rub), some (Cond.selects "CalledNumbersModel" yX11_rub yX11_rub), some (Cond.code yX11_rub cX11_rub 3 (some .int)), some (Cond.methodLink "CalledNumbersLaw" 80 yX11_undo), some (Cond.instanceMethod yX11_undo), some (Cond.selects "CalledNumbersModel" yX11_undo yX11_undo), some (Cond.code yX11_undo cX11_undo 3 (some .int)), some (Cond.methodLink "CalledNumbersLaw" 84 yX11_keep), some (Cond.instanceMethod yX11_keep), some (Cond.selects "CalledNumbersModel" yX11_keep yX11_keep), some (Cond.code yX11_keep cX11_keep 2 (some .int))] := rfl
set_option maxRecDepth 100000 in
theorem btl_992 : [(lw_tbl.drop 992)[0]?, (lw_tbl.drop 992)[1]?, (lw_tbl.drop 992)[2]?, (lw_tbl.drop 992)[3]?, (lw_tbl.drop 992)[4]?, (lw_tbl.drop 992)[5]?, (lw_tbl.drop 992)[6]?, (lw_tbl.drop 992)[7]?, (lw_tbl.drop 992)[9]?, (lw_tbl.drop 992)[10]?, (lw_tbl.drop 992)[11]?, (lw_tbl.drop 992)[12]?, (lw_tbl.drop 992)[13]?, (lw_tbl.drop 992)[14]?, (lw_tbl.drop 992)[15]?, (lw_tbl.drop 992)[16]?, (lw_tbl.drop 992)[17]?, (lw_tbl.drop 992)[18]?, (lw_tbl.drop 992)[19]?, (lw_tbl.drop 992)[20]?] = [some (Cond.methodLink "CalledNumbersLaw" 88 yX11_on), some (Cond.instanceMethod yX11_on), some (Cond.selects "CalledNumbersModel" yX11_on yX11_on), some (Cond.code yX11_on cX11_on 2 (some .int)), some (Cond.methodLink "CalledNumbersLaw" 93 yX11_hears), some (Cond.instanceMethod yX11_hears), some (Cond.selects "CalledNumbersModel" yX11_hears yX11_hears), some (Cond.code yX11_hears cX11_hears 5 (some .int)), some (Cond.methodLink "CalledNumbersLaw" 97 yX11_run), some (Cond.instanceMethod yX11_run), some (Cond.selects "CalledNumbersModel" yX11_run yX11_run), some (Cond.code yX11_run cX11_run 3 (some .int)), some (Cond.methodLink "CalledNumbersLaw" 102 yX11_safe), some (Cond.instanceMethod yX11_safe), some (Cond.selects "CalledNumbersModel" yX11_safe yX11_safe), some (Cond.code yX11_safe cX11_safe 6 (some .int)), some (Cond.methodLink "CalledNumbersLaw" 106 yX11_fewest), some (Cond.instanceMethod yX11_fewest), some (Cond.selects "CalledNumbersModel" yX11_fewest yX11_fewest), some (Cond.code yX11_fewest cX11_fewest 5 (some .int))] := rfl
set_option maxRecDepth 100000 in
theorem btl_1024 : [(lw_tbl.drop 1024)[1]?, (lw_tbl.drop 1024)[2]?, (lw_tbl.drop 1024)[3]?, (lw_tbl.drop 1024)[4]?, (lw_tbl.drop 1024)[5]?, (lw_tbl.drop 1024)[6]?, (lw_tbl.drop 1024)[7]?, (lw_tbl.drop 1024)[8]?, (lw_tbl.drop 1024)[10]?, (lw_tbl.drop 1024)[11]?, (lw_tbl.drop 1024)[12]?, (lw_tbl.drop 1024)[13]?, (lw_tbl.drop 1024)[23]?, (lw_tbl.drop 1024)[24]?, (lw_tbl.drop 1024)[25]?, (lw_tbl.drop 1024)[26]?, (lw_tbl.drop 1024)[31]?] = [some (Cond.methodLink "CalledNumbersLaw" 110 yX11_most), some (Cond.instanceMethod yX11_most), some (Cond.selects "CalledNumbersModel" yX11_most yX11_most), some (Cond.code yX11_most cX11_most 7 (some .int)), some (Cond.methodLink "CalledNumbersLaw" 114 yX11_which), some (Cond.instanceMethod yX11_which), some (Cond.selects "CalledNumbersModel" yX11_which yX11_which), some (Cond.code yX11_which cX11_which 6 (some .int)), some (Cond.methodLink "CalledNumbersLaw" 118 yX11_kinds), some (Cond.instanceMethod yX11_kinds), some (Cond.selects "CalledNumbersModel" yX11_kinds yX11_kinds), some (Cond.code yX11_kinds cX11_kinds 4 (some .int)), some (Cond.methodLink "CalledNumbersLaw" 122 yX11_next), some (Cond.instanceMethod yX11_next), some (Cond.selects "CalledNumbersModel" yX11_next yX11_next), some (Cond.code yX11_next cX11_next 9 (some .int)), some (Cond.methodLink "CalledNumbersLaw" 126 yX11_duel)] := rfl
set_option maxRecDepth 100000 in
theorem btl_1056 : [(lw_tbl.drop 1056)[0]?, (lw_tbl.drop 1056)[1]?, (lw_tbl.drop 1056)[2]?, (lw_tbl.drop 1056)[11]?, (lw_tbl.drop 1056)[12]?, (lw_tbl.drop 1056)[13]?, (lw_tbl.drop 1056)[14]?, (lw_tbl.drop 1056)[23]?, (lw_tbl.drop 1056)[24]?, (lw_tbl.drop 1056)[25]?, (lw_tbl.drop 1056)[26]?, (lw_tbl.drop 1056)[27]?, (lw_tbl.drop 1056)[28]?, (lw_tbl.drop 1056)[29]?, (lw_tbl.drop 1056)[30]?] = [some (Cond.instanceMethod yX11_duel), some (Cond.selects "CalledNumbersModel" yX11_duel yX11_duel), some (Cond.code yX11_duel cX11_duel 8 (some .int)), some (Cond.methodLink "CalledNumbersLaw" 130 yX11_odds), some (Cond.instanceMethod yX11_odds), some (Cond.selects "CalledNumbersModel" yX11_odds yX11_odds), some (Cond.code yX11_odds cX11_odds 3 (some .int)), some (Cond.methodLink "CalledNumbersLaw" 134 yX11_mid), some (Cond.instanceMethod yX11_mid), some (Cond.selects "CalledNumbersModel" yX11_mid yX11_mid), some (Cond.code yX11_mid cX11_mid 3 (some .int)), some (Cond.methodLink "CalledNumbersLaw" 138 yX11_lots), some (Cond.instanceMethod yX11_lots), some (Cond.selects "CalledNumbersModel" yX11_lots yX11_lots), some (Cond.code yX11_lots cX11_lots 8 (some .int))] := rfl
set_option maxRecDepth 100000 in
theorem btl_1088 : [(lw_tbl.drop 1088)[3]?, (lw_tbl.drop 1088)[4]?, (lw_tbl.drop 1088)[5]?, (lw_tbl.drop 1088)[6]?, (lw_tbl.drop 1088)[7]?, (lw_tbl.drop 1088)[8]?, (lw_tbl.drop 1088)[9]?, (lw_tbl.drop 1088)[10]?, (lw_tbl.drop 1088)[11]?, (lw_tbl.drop 1088)[12]?, (lw_tbl.drop 1088)[13]?, (lw_tbl.drop 1088)[14]?, (lw_tbl.drop 1088)[15]?, (lw_tbl.drop 1088)[16]?, (lw_tbl.drop 1088)[17]?, (lw_tbl.drop 1088)[18]?] = [some (Cond.methodLink "CalledNumbersLaw" 142 yX11_asked), some (Cond.instanceMethod yX11_asked), some (Cond.selects "CalledNumbersModel" yX11_asked yX11_asked), some (Cond.code yX11_asked cX11_asked 1 (some .int)), some (Cond.methodLink "CalledNumbersLaw" 147 yX11_upper), some (Cond.instanceMethod yX11_upper), some (Cond.selects "CalledNumbersModel" yX11_upper yX11_upper), some (Cond.code yX11_upper cX11_upper 1 (some .long)), some (Cond.methodLink "CalledNumbersLaw" 151 yX11_lower), some (Cond.instanceMethod yX11_lower), some (Cond.selects "CalledNumbersModel" yX11_lower yX11_lower), some (Cond.code yX11_lower cX11_lower 1 (some .long)), some (Cond.methodLink "CalledNumbersLaw" 155 yX11_count), some (Cond.instanceMethod yX11_count), some (Cond.selects "CalledNumbersModel" yX11_count yX11_count), some (Cond.code yX11_count cX11_count 2 (some .int))] := rfl
set_option maxRecDepth 100000 in
theorem btl_1120 : [(lw_tbl.drop 1120)[4]?, (lw_tbl.drop 1120)[5]?, (lw_tbl.drop 1120)[6]?, (lw_tbl.drop 1120)[7]?, (lw_tbl.drop 1120)[8]?, (lw_tbl.drop 1120)[9]?, (lw_tbl.drop 1120)[10]?, (lw_tbl.drop 1120)[11]?, (lw_tbl.drop 1120)[12]?, (lw_tbl.drop 1120)[13]?, (lw_tbl.drop 1120)[14]?, (lw_tbl.drop 1120)[15]?] = [some (Cond.methodLink "CalledNumbersLaw" 159 yX11_finding), some (Cond.instanceMethod yX11_finding), some (Cond.selects "CalledNumbersModel" yX11_finding yX11_finding), some (Cond.code yX11_finding cX11_finding 1 (some .int)), some (Cond.methodLink "CalledNumbersLaw" 163 yX11_findings), some (Cond.instanceMethod yX11_findings), some (Cond.selects "CalledNumbersModel" yX11_findings yX11_findings), some (Cond.code yX11_findings cX11_findings 2 (some .int)), some (Cond.methodLink "CalledNumbersLaw" 167 yX11_digest), some (Cond.instanceMethod yX11_digest), some (Cond.selects "CalledNumbersModel" yX11_digest yX11_digest), some (Cond.code yX11_digest cX11_digest 5 (some .long))] := rfl
theorem tw79 : Cond.classLink "CalledNumbersLaw" 7 "CalledNumbers" ∈ mB := lw_bt btl_64 (a := 64) (i := 15) (k := 0) rfl rfl (by decide +kernel)
theorem tw80 : Cond.instantiable "CalledNumbers" 18 ∈ mB := lw_bt btl_64 (a := 64) (i := 16) (k := 1) rfl rfl (by decide +kernel)
theorem tw81 : Cond.methodLink "CalledNumbersLaw" 9 yX10_init ∈ mB := lw_bt btl_64 (a := 64) (i := 17) (k := 2) rfl rfl (by decide +kernel)
theorem tw82 : Cond.instanceMethod yX10_init ∈ mB := lw_bt btl_64 (a := 64) (i := 18) (k := 3) rfl rfl (by decide +kernel)
theorem tw83 : Cond.code yX10_init cX10_init 2 none ∈ mB := lw_bt btl_64 (a := 64) (i := 19) (k := 4) rfl rfl (by decide +kernel)
theorem tw290 : Cond.methodLink "CalledNumbersLaw" 13 yX10_row ∈ mB := lw_bt btl_288 (a := 288) (i := 2) (k := 0) rfl rfl (by decide +kernel)
theorem tw291 : Cond.instanceMethod yX10_row ∈ mB := lw_bt btl_288 (a := 288) (i := 3) (k := 1) rfl rfl (by decide +kernel)
theorem tw292 : Cond.selects "CalledNumbers" yX10_row yX10_row ∈ mB := lw_bt btl_288 (a := 288) (i := 4) (k := 2) rfl rfl (by decide +kernel)
theorem tw293 : Cond.code yX10_row cX10_row 3 (some .int) ∈ mB := lw_bt btl_288 (a := 288) (i := 5) (k := 3) rfl rfl (by decide +kernel)
theorem tw302 : Cond.methodLink "CalledNumbersLaw" 18 yX10_lay ∈ mB := lw_bt btl_288 (a := 288) (i := 14) (k := 4) rfl rfl (by decide +kernel)
theorem tw303 : Cond.instanceMethod yX10_lay ∈ mB := lw_bt btl_288 (a := 288) (i := 15) (k := 5) rfl rfl (by decide +kernel)
theorem tw304 : Cond.selects "CalledNumbers" yX10_lay yX10_lay ∈ mB := lw_bt btl_288 (a := 288) (i := 16) (k := 6) rfl rfl (by decide +kernel)
theorem tw305 : Cond.code yX10_lay cX10_lay 5 (some .int) ∈ mB := lw_bt btl_288 (a := 288) (i := 17) (k := 7) rfl rfl (by decide +kernel)
theorem tw314 : Cond.methodLink "CalledNumbersLaw" 23 yX10_at ∈ mB := lw_bt btl_288 (a := 288) (i := 26) (k := 8) rfl rfl (by decide +kernel)
theorem tw315 : Cond.instanceMethod yX10_at ∈ mB := lw_bt btl_288 (a := 288) (i := 27) (k := 9) rfl rfl (by decide +kernel)
theorem tw316 : Cond.selects "CalledNumbers" yX10_at yX10_at ∈ mB := lw_bt btl_288 (a := 288) (i := 28) (k := 10) rfl rfl (by decide +kernel)
theorem tw317 : Cond.code yX10_at cX10_at 4 (some .int) ∈ mB := lw_bt btl_288 (a := 288) (i := 29) (k := 11) rfl rfl (by decide +kernel)
theorem tw318 : Cond.methodLink "CalledNumbersLaw" 27 yX10_tear ∈ mB := lw_bt btl_288 (a := 288) (i := 30) (k := 12) rfl rfl (by decide +kernel)
theorem tw319 : Cond.instanceMethod yX10_tear ∈ mB := lw_bt btl_288 (a := 288) (i := 31) (k := 13) rfl rfl (by decide +kernel)
theorem tw320 : Cond.selects "CalledNumbers" yX10_tear yX10_tear ∈ mB := lw_bt btl_320 (a := 320) (i := 0) (k := 0) rfl rfl (by decide +kernel)
theorem tw321 : Cond.code yX10_tear cX10_tear 3 (some .int) ∈ mB := lw_bt btl_320 (a := 320) (i := 1) (k := 1) rfl rfl (by decide +kernel)
theorem tw322 : Cond.methodLink "CalledNumbersLaw" 32 yX10_copy ∈ mB := lw_bt btl_320 (a := 320) (i := 2) (k := 2) rfl rfl (by decide +kernel)
theorem tw323 : Cond.instanceMethod yX10_copy ∈ mB := lw_bt btl_320 (a := 320) (i := 3) (k := 3) rfl rfl (by decide +kernel)
theorem tw324 : Cond.selects "CalledNumbers" yX10_copy yX10_copy ∈ mB := lw_bt btl_320 (a := 320) (i := 4) (k := 4) rfl rfl (by decide +kernel)
theorem tw325 : Cond.code yX10_copy cX10_copy 6 (some .int) ∈ mB := lw_bt btl_320 (a := 320) (i := 5) (k := 5) rfl rfl (by decide +kernel)
theorem tw333 : Cond.methodLink "CalledNumbersLaw" 37 yX10_mean ∈ mB := lw_bt btl_320 (a := 320) (i := 13) (k := 6) rfl rfl (by decide +kernel)
theorem tw334 : Cond.instanceMethod yX10_mean ∈ mB := lw_bt btl_320 (a := 320) (i := 14) (k := 7) rfl rfl (by decide +kernel)
theorem tw335 : Cond.selects "CalledNumbers" yX10_mean yX10_mean ∈ mB := lw_bt btl_320 (a := 320) (i := 15) (k := 8) rfl rfl (by decide +kernel)
theorem tw336 : Cond.code yX10_mean cX10_mean 7 (some .int) ∈ mB := lw_bt btl_320 (a := 320) (i := 16) (k := 9) rfl rfl (by decide +kernel)
theorem tw337 : Cond.methodLink "CalledNumbersLaw" 41 yX10_text ∈ mB := lw_bt btl_320 (a := 320) (i := 17) (k := 10) rfl rfl (by decide +kernel)
theorem tw338 : Cond.instanceMethod yX10_text ∈ mB := lw_bt btl_320 (a := 320) (i := 18) (k := 11) rfl rfl (by decide +kernel)
theorem tw339 : Cond.selects "CalledNumbers" yX10_text yX10_text ∈ mB := lw_bt btl_320 (a := 320) (i := 19) (k := 12) rfl rfl (by decide +kernel)
theorem tw340 : Cond.code yX10_text cX10_text 3 (some .int) ∈ mB := lw_bt btl_320 (a := 320) (i := 20) (k := 13) rfl rfl (by decide +kernel)
theorem tw348 : Cond.methodLink "CalledNumbersLaw" 45 yX10_put ∈ mB := lw_bt btl_320 (a := 320) (i := 28) (k := 14) rfl rfl (by decide +kernel)
theorem tw349 : Cond.instanceMethod yX10_put ∈ mB := lw_bt btl_320 (a := 320) (i := 29) (k := 15) rfl rfl (by decide +kernel)
theorem tw350 : Cond.selects "CalledNumbers" yX10_put yX10_put ∈ mB := lw_bt btl_320 (a := 320) (i := 30) (k := 16) rfl rfl (by decide +kernel)
theorem tw351 : Cond.code yX10_put cX10_put 6 (some .int) ∈ mB := lw_bt btl_320 (a := 320) (i := 31) (k := 17) rfl rfl (by decide +kernel)
theorem tw356 : Cond.methodLink "CalledNumbersLaw" 49 yX10_fault ∈ mB := lw_bt btl_352 (a := 352) (i := 4) (k := 0) rfl rfl (by decide +kernel)
theorem tw357 : Cond.instanceMethod yX10_fault ∈ mB := lw_bt btl_352 (a := 352) (i := 5) (k := 1) rfl rfl (by decide +kernel)
theorem tw358 : Cond.selects "CalledNumbers" yX10_fault yX10_fault ∈ mB := lw_bt btl_352 (a := 352) (i := 6) (k := 2) rfl rfl (by decide +kernel)
theorem tw359 : Cond.code yX10_fault cX10_fault 3 (some .int) ∈ mB := lw_bt btl_352 (a := 352) (i := 7) (k := 3) rfl rfl (by decide +kernel)
theorem tw373 : Cond.methodLink "CalledNumbersLaw" 53 yX10_hall ∈ mB := lw_bt btl_352 (a := 352) (i := 21) (k := 4) rfl rfl (by decide +kernel)
theorem tw374 : Cond.instanceMethod yX10_hall ∈ mB := lw_bt btl_352 (a := 352) (i := 22) (k := 5) rfl rfl (by decide +kernel)
theorem tw375 : Cond.selects "CalledNumbers" yX10_hall yX10_hall ∈ mB := lw_bt btl_352 (a := 352) (i := 23) (k := 6) rfl rfl (by decide +kernel)
theorem tw376 : Cond.code yX10_hall cX10_hall 4 (some .int) ∈ mB := lw_bt btl_352 (a := 352) (i := 24) (k := 7) rfl rfl (by decide +kernel)
theorem tw386 : Cond.methodLink "CalledNumbersLaw" 57 yX10_player ∈ mB := lw_bt btl_384 (a := 384) (i := 2) (k := 0) rfl rfl (by decide +kernel)
theorem tw387 : Cond.instanceMethod yX10_player ∈ mB := lw_bt btl_384 (a := 384) (i := 3) (k := 1) rfl rfl (by decide +kernel)
theorem tw388 : Cond.selects "CalledNumbers" yX10_player yX10_player ∈ mB := lw_bt btl_384 (a := 384) (i := 4) (k := 2) rfl rfl (by decide +kernel)
theorem tw389 : Cond.code yX10_player cX10_player 3 (some .int) ∈ mB := lw_bt btl_384 (a := 384) (i := 5) (k := 3) rfl rfl (by decide +kernel)
theorem tw452 : Cond.methodLink "CalledNumbersLaw" 61 yX10_card ∈ mB := lw_bt btl_448 (a := 448) (i := 4) (k := 0) rfl rfl (by decide +kernel)
theorem tw453 : Cond.instanceMethod yX10_card ∈ mB := lw_bt btl_448 (a := 448) (i := 5) (k := 1) rfl rfl (by decide +kernel)
theorem tw454 : Cond.selects "CalledNumbers" yX10_card yX10_card ∈ mB := lw_bt btl_448 (a := 448) (i := 6) (k := 2) rfl rfl (by decide +kernel)
theorem tw455 : Cond.code yX10_card cX10_card 3 (some .int) ∈ mB := lw_bt btl_448 (a := 448) (i := 7) (k := 3) rfl rfl (by decide +kernel)
theorem tw460 : Cond.methodLink "CalledNumbersLaw" 65 yX10_mark ∈ mB := lw_bt btl_448 (a := 448) (i := 12) (k := 4) rfl rfl (by decide +kernel)
theorem tw461 : Cond.instanceMethod yX10_mark ∈ mB := lw_bt btl_448 (a := 448) (i := 13) (k := 5) rfl rfl (by decide +kernel)
theorem tw462 : Cond.selects "CalledNumbers" yX10_mark yX10_mark ∈ mB := lw_bt btl_448 (a := 448) (i := 14) (k := 6) rfl rfl (by decide +kernel)
theorem tw463 : Cond.code yX10_mark cX10_mark 5 (some .int) ∈ mB := lw_bt btl_448 (a := 448) (i := 15) (k := 7) rfl rfl (by decide +kernel)
theorem tw487 : Cond.methodLink "CalledNumbersLaw" 69 yX10_call ∈ mB := lw_bt btl_480 (a := 480) (i := 7) (k := 0) rfl rfl (by decide +kernel)
theorem tw488 : Cond.instanceMethod yX10_call ∈ mB := lw_bt btl_480 (a := 480) (i := 8) (k := 1) rfl rfl (by decide +kernel)
theorem tw489 : Cond.selects "CalledNumbers" yX10_call yX10_call ∈ mB := lw_bt btl_480 (a := 480) (i := 9) (k := 2) rfl rfl (by decide +kernel)
theorem tw490 : Cond.code yX10_call cX10_call 2 (some .int) ∈ mB := lw_bt btl_480 (a := 480) (i := 10) (k := 3) rfl rfl (by decide +kernel)
theorem tw534 : Cond.methodLink "CalledNumbersLaw" 73 yX10_rub ∈ mB := lw_bt btl_512 (a := 512) (i := 22) (k := 0) rfl rfl (by decide +kernel)
theorem tw535 : Cond.instanceMethod yX10_rub ∈ mB := lw_bt btl_512 (a := 512) (i := 23) (k := 1) rfl rfl (by decide +kernel)
theorem tw536 : Cond.selects "CalledNumbers" yX10_rub yX10_rub ∈ mB := lw_bt btl_512 (a := 512) (i := 24) (k := 2) rfl rfl (by decide +kernel)
theorem tw537 : Cond.code yX10_rub cX10_rub 3 (some .int) ∈ mB := lw_bt btl_512 (a := 512) (i := 25) (k := 3) rfl rfl (by decide +kernel)
theorem tw546 : Cond.methodLink "CalledNumbersLaw" 77 yX10_undo ∈ mB := lw_bt btl_544 (a := 544) (i := 2) (k := 0) rfl rfl (by decide +kernel)
theorem tw547 : Cond.instanceMethod yX10_undo ∈ mB := lw_bt btl_544 (a := 544) (i := 3) (k := 1) rfl rfl (by decide +kernel)
theorem tw548 : Cond.selects "CalledNumbers" yX10_undo yX10_undo ∈ mB := lw_bt btl_544 (a := 544) (i := 4) (k := 2) rfl rfl (by decide +kernel)
theorem tw549 : Cond.code yX10_undo cX10_undo 3 (some .int) ∈ mB := lw_bt btl_544 (a := 544) (i := 5) (k := 3) rfl rfl (by decide +kernel)
theorem tw554 : Cond.methodLink "CalledNumbersLaw" 81 yX10_keep ∈ mB := lw_bt btl_544 (a := 544) (i := 10) (k := 4) rfl rfl (by decide +kernel)
theorem tw555 : Cond.instanceMethod yX10_keep ∈ mB := lw_bt btl_544 (a := 544) (i := 11) (k := 5) rfl rfl (by decide +kernel)
theorem tw556 : Cond.selects "CalledNumbers" yX10_keep yX10_keep ∈ mB := lw_bt btl_544 (a := 544) (i := 12) (k := 6) rfl rfl (by decide +kernel)
theorem tw557 : Cond.code yX10_keep cX10_keep 2 (some .int) ∈ mB := lw_bt btl_544 (a := 544) (i := 13) (k := 7) rfl rfl (by decide +kernel)
theorem tw566 : Cond.methodLink "CalledNumbersLaw" 85 yX10_on ∈ mB := lw_bt btl_544 (a := 544) (i := 22) (k := 8) rfl rfl (by decide +kernel)
theorem tw567 : Cond.instanceMethod yX10_on ∈ mB := lw_bt btl_544 (a := 544) (i := 23) (k := 9) rfl rfl (by decide +kernel)
theorem tw568 : Cond.selects "CalledNumbers" yX10_on yX10_on ∈ mB := lw_bt btl_544 (a := 544) (i := 24) (k := 10) rfl rfl (by decide +kernel)
theorem tw569 : Cond.code yX10_on cX10_on 2 (some .int) ∈ mB := lw_bt btl_544 (a := 544) (i := 25) (k := 11) rfl rfl (by decide +kernel)
theorem tw570 : Cond.methodLink "CalledNumbersLaw" 89 yX10_hears ∈ mB := lw_bt btl_544 (a := 544) (i := 26) (k := 12) rfl rfl (by decide +kernel)
theorem tw571 : Cond.instanceMethod yX10_hears ∈ mB := lw_bt btl_544 (a := 544) (i := 27) (k := 13) rfl rfl (by decide +kernel)
theorem tw572 : Cond.selects "CalledNumbers" yX10_hears yX10_hears ∈ mB := lw_bt btl_544 (a := 544) (i := 28) (k := 14) rfl rfl (by decide +kernel)
theorem tw573 : Cond.code yX10_hears cX10_hears 5 (some .int) ∈ mB := lw_bt btl_544 (a := 544) (i := 29) (k := 15) rfl rfl (by decide +kernel)
theorem tw575 : Cond.methodLink "CalledNumbersLaw" 94 yX10_run ∈ mB := lw_bt btl_544 (a := 544) (i := 31) (k := 16) rfl rfl (by decide +kernel)
theorem tw576 : Cond.instanceMethod yX10_run ∈ mB := lw_bt btl_576 (a := 576) (i := 0) (k := 0) rfl rfl (by decide +kernel)
theorem tw577 : Cond.selects "CalledNumbers" yX10_run yX10_run ∈ mB := lw_bt btl_576 (a := 576) (i := 1) (k := 1) rfl rfl (by decide +kernel)
theorem tw578 : Cond.code yX10_run cX10_run 6 (some .int) ∈ mB := lw_bt btl_576 (a := 576) (i := 2) (k := 2) rfl rfl (by decide +kernel)
theorem tw583 : Cond.methodLink "CalledNumbersLaw" 98 yX10_safe ∈ mB := lw_bt btl_576 (a := 576) (i := 7) (k := 3) rfl rfl (by decide +kernel)
theorem tw584 : Cond.instanceMethod yX10_safe ∈ mB := lw_bt btl_576 (a := 576) (i := 8) (k := 4) rfl rfl (by decide +kernel)
theorem tw585 : Cond.selects "CalledNumbers" yX10_safe yX10_safe ∈ mB := lw_bt btl_576 (a := 576) (i := 9) (k := 5) rfl rfl (by decide +kernel)
theorem tw586 : Cond.code yX10_safe cX10_safe 6 (some .int) ∈ mB := lw_bt btl_576 (a := 576) (i := 10) (k := 6) rfl rfl (by decide +kernel)
theorem tw592 : Cond.methodLink "CalledNumbersLaw" 103 yX10_fewest ∈ mB := lw_bt btl_576 (a := 576) (i := 16) (k := 7) rfl rfl (by decide +kernel)
theorem tw593 : Cond.instanceMethod yX10_fewest ∈ mB := lw_bt btl_576 (a := 576) (i := 17) (k := 8) rfl rfl (by decide +kernel)
theorem tw594 : Cond.selects "CalledNumbers" yX10_fewest yX10_fewest ∈ mB := lw_bt btl_576 (a := 576) (i := 18) (k := 9) rfl rfl (by decide +kernel)
theorem tw595 : Cond.code yX10_fewest cX10_fewest 5 (some .int) ∈ mB := lw_bt btl_576 (a := 576) (i := 19) (k := 10) rfl rfl (by decide +kernel)
theorem tw613 : Cond.methodLink "CalledNumbersLaw" 107 yX10_most ∈ mB := lw_bt btl_608 (a := 608) (i := 5) (k := 0) rfl rfl (by decide +kernel)
theorem tw614 : Cond.instanceMethod yX10_most ∈ mB := lw_bt btl_608 (a := 608) (i := 6) (k := 1) rfl rfl (by decide +kernel)
theorem tw615 : Cond.selects "CalledNumbers" yX10_most yX10_most ∈ mB := lw_bt btl_608 (a := 608) (i := 7) (k := 2) rfl rfl (by decide +kernel)
theorem tw616 : Cond.code yX10_most cX10_most 3 (some .int) ∈ mB := lw_bt btl_608 (a := 608) (i := 8) (k := 3) rfl rfl (by decide +kernel)
theorem tw621 : Cond.methodLink "CalledNumbersLaw" 111 yX10_which ∈ mB := lw_bt btl_608 (a := 608) (i := 13) (k := 4) rfl rfl (by decide +kernel)
theorem tw622 : Cond.instanceMethod yX10_which ∈ mB := lw_bt btl_608 (a := 608) (i := 14) (k := 5) rfl rfl (by decide +kernel)
theorem tw623 : Cond.selects "CalledNumbers" yX10_which yX10_which ∈ mB := lw_bt btl_608 (a := 608) (i := 15) (k := 6) rfl rfl (by decide +kernel)
theorem tw624 : Cond.code yX10_which cX10_which 5 (some .int) ∈ mB := lw_bt btl_608 (a := 608) (i := 16) (k := 7) rfl rfl (by decide +kernel)
theorem tw630 : Cond.methodLink "CalledNumbersLaw" 115 yX10_kinds ∈ mB := lw_bt btl_608 (a := 608) (i := 22) (k := 8) rfl rfl (by decide +kernel)
theorem tw631 : Cond.instanceMethod yX10_kinds ∈ mB := lw_bt btl_608 (a := 608) (i := 23) (k := 9) rfl rfl (by decide +kernel)
theorem tw632 : Cond.selects "CalledNumbers" yX10_kinds yX10_kinds ∈ mB := lw_bt btl_608 (a := 608) (i := 24) (k := 10) rfl rfl (by decide +kernel)
theorem tw633 : Cond.code yX10_kinds cX10_kinds 4 (some .int) ∈ mB := lw_bt btl_608 (a := 608) (i := 25) (k := 11) rfl rfl (by decide +kernel)
theorem tw646 : Cond.methodLink "CalledNumbersLaw" 119 yX10_next ∈ mB := lw_bt btl_640 (a := 640) (i := 6) (k := 0) rfl rfl (by decide +kernel)
theorem tw647 : Cond.instanceMethod yX10_next ∈ mB := lw_bt btl_640 (a := 640) (i := 7) (k := 1) rfl rfl (by decide +kernel)
theorem tw648 : Cond.selects "CalledNumbers" yX10_next yX10_next ∈ mB := lw_bt btl_640 (a := 640) (i := 8) (k := 2) rfl rfl (by decide +kernel)
theorem tw649 : Cond.code yX10_next cX10_next 9 (some .int) ∈ mB := lw_bt btl_640 (a := 640) (i := 9) (k := 3) rfl rfl (by decide +kernel)
theorem tw655 : Cond.methodLink "CalledNumbersLaw" 123 yX10_duel ∈ mB := lw_bt btl_640 (a := 640) (i := 15) (k := 4) rfl rfl (by decide +kernel)
theorem tw656 : Cond.instanceMethod yX10_duel ∈ mB := lw_bt btl_640 (a := 640) (i := 16) (k := 5) rfl rfl (by decide +kernel)
theorem tw657 : Cond.selects "CalledNumbers" yX10_duel yX10_duel ∈ mB := lw_bt btl_640 (a := 640) (i := 17) (k := 6) rfl rfl (by decide +kernel)
theorem tw658 : Cond.code yX10_duel cX10_duel 4 (some .int) ∈ mB := lw_bt btl_640 (a := 640) (i := 18) (k := 7) rfl rfl (by decide +kernel)
theorem tw669 : Cond.methodLink "CalledNumbersLaw" 127 yX10_odds ∈ mB := lw_bt btl_640 (a := 640) (i := 29) (k := 8) rfl rfl (by decide +kernel)
theorem tw670 : Cond.instanceMethod yX10_odds ∈ mB := lw_bt btl_640 (a := 640) (i := 30) (k := 9) rfl rfl (by decide +kernel)
theorem tw671 : Cond.selects "CalledNumbers" yX10_odds yX10_odds ∈ mB := lw_bt btl_640 (a := 640) (i := 31) (k := 10) rfl rfl (by decide +kernel)
theorem tw672 : Cond.code yX10_odds cX10_odds 3 (some .int) ∈ mB := lw_bt btl_672 (a := 672) (i := 0) (k := 0) rfl rfl (by decide +kernel)
theorem tw692 : Cond.methodLink "CalledNumbersLaw" 131 yX10_mid ∈ mB := lw_bt btl_672 (a := 672) (i := 20) (k := 1) rfl rfl (by decide +kernel)
theorem tw693 : Cond.instanceMethod yX10_mid ∈ mB := lw_bt btl_672 (a := 672) (i := 21) (k := 2) rfl rfl (by decide +kernel)
theorem tw694 : Cond.selects "CalledNumbers" yX10_mid yX10_mid ∈ mB := lw_bt btl_672 (a := 672) (i := 22) (k := 3) rfl rfl (by decide +kernel)
theorem tw695 : Cond.code yX10_mid cX10_mid 3 (some .int) ∈ mB := lw_bt btl_672 (a := 672) (i := 23) (k := 4) rfl rfl (by decide +kernel)
theorem tw696 : Cond.methodLink "CalledNumbersLaw" 135 yX10_lots ∈ mB := lw_bt btl_672 (a := 672) (i := 24) (k := 5) rfl rfl (by decide +kernel)
theorem tw697 : Cond.instanceMethod yX10_lots ∈ mB := lw_bt btl_672 (a := 672) (i := 25) (k := 6) rfl rfl (by decide +kernel)
theorem tw698 : Cond.selects "CalledNumbers" yX10_lots yX10_lots ∈ mB := lw_bt btl_672 (a := 672) (i := 26) (k := 7) rfl rfl (by decide +kernel)
theorem tw699 : Cond.code yX10_lots cX10_lots 5 (some .int) ∈ mB := lw_bt btl_672 (a := 672) (i := 27) (k := 8) rfl rfl (by decide +kernel)
theorem tw706 : Cond.methodLink "CalledNumbersLaw" 139 yX10_asked ∈ mB := lw_bt btl_704 (a := 704) (i := 2) (k := 0) rfl rfl (by decide +kernel)
theorem tw707 : Cond.instanceMethod yX10_asked ∈ mB := lw_bt btl_704 (a := 704) (i := 3) (k := 1) rfl rfl (by decide +kernel)
theorem tw708 : Cond.selects "CalledNumbers" yX10_asked yX10_asked ∈ mB := lw_bt btl_704 (a := 704) (i := 4) (k := 2) rfl rfl (by decide +kernel)
theorem tw709 : Cond.code yX10_asked cX10_asked 1 (some .int) ∈ mB := lw_bt btl_704 (a := 704) (i := 5) (k := 3) rfl rfl (by decide +kernel)
theorem tw710 : Cond.methodLink "CalledNumbersLaw" 143 yX10_upper ∈ mB := lw_bt btl_704 (a := 704) (i := 6) (k := 4) rfl rfl (by decide +kernel)
theorem tw711 : Cond.instanceMethod yX10_upper ∈ mB := lw_bt btl_704 (a := 704) (i := 7) (k := 5) rfl rfl (by decide +kernel)
theorem tw712 : Cond.selects "CalledNumbers" yX10_upper yX10_upper ∈ mB := lw_bt btl_704 (a := 704) (i := 8) (k := 6) rfl rfl (by decide +kernel)
theorem tw713 : Cond.code yX10_upper cX10_upper 1 (some .long) ∈ mB := lw_bt btl_704 (a := 704) (i := 9) (k := 7) rfl rfl (by decide +kernel)
theorem tw714 : Cond.methodLink "CalledNumbersLaw" 148 yX10_lower ∈ mB := lw_bt btl_704 (a := 704) (i := 10) (k := 8) rfl rfl (by decide +kernel)
theorem tw715 : Cond.instanceMethod yX10_lower ∈ mB := lw_bt btl_704 (a := 704) (i := 11) (k := 9) rfl rfl (by decide +kernel)
theorem tw716 : Cond.selects "CalledNumbers" yX10_lower yX10_lower ∈ mB := lw_bt btl_704 (a := 704) (i := 12) (k := 10) rfl rfl (by decide +kernel)
theorem tw717 : Cond.code yX10_lower cX10_lower 1 (some .long) ∈ mB := lw_bt btl_704 (a := 704) (i := 13) (k := 11) rfl rfl (by decide +kernel)
theorem tw718 : Cond.methodLink "CalledNumbersLaw" 152 yX10_count ∈ mB := lw_bt btl_704 (a := 704) (i := 14) (k := 12) rfl rfl (by decide +kernel)
theorem tw742 : Cond.methodLink "CalledNumbersLaw" 156 yX10_finding ∈ mB := lw_bt btl_736 (a := 736) (i := 6) (k := 0) rfl rfl (by decide +kernel)
theorem tw743 : Cond.instanceMethod yX10_finding ∈ mB := lw_bt btl_736 (a := 736) (i := 7) (k := 1) rfl rfl (by decide +kernel)
theorem tw744 : Cond.selects "CalledNumbers" yX10_finding yX10_finding ∈ mB := lw_bt btl_736 (a := 736) (i := 8) (k := 2) rfl rfl (by decide +kernel)
theorem tw745 : Cond.code yX10_finding cX10_finding 1 (some .int) ∈ mB := lw_bt btl_736 (a := 736) (i := 9) (k := 3) rfl rfl (by decide +kernel)
theorem tw746 : Cond.methodLink "CalledNumbersLaw" 160 yX10_findings ∈ mB := lw_bt btl_736 (a := 736) (i := 10) (k := 4) rfl rfl (by decide +kernel)
theorem tw747 : Cond.instanceMethod yX10_findings ∈ mB := lw_bt btl_736 (a := 736) (i := 11) (k := 5) rfl rfl (by decide +kernel)
theorem tw748 : Cond.selects "CalledNumbers" yX10_findings yX10_findings ∈ mB := lw_bt btl_736 (a := 736) (i := 12) (k := 6) rfl rfl (by decide +kernel)
theorem tw749 : Cond.code yX10_findings cX10_findings 2 (some .int) ∈ mB := lw_bt btl_736 (a := 736) (i := 13) (k := 7) rfl rfl (by decide +kernel)
theorem tw750 : Cond.methodLink "CalledNumbersLaw" 164 yX10_digest ∈ mB := lw_bt btl_736 (a := 736) (i := 14) (k := 8) rfl rfl (by decide +kernel)
theorem tw751 : Cond.instanceMethod yX10_digest ∈ mB := lw_bt btl_736 (a := 736) (i := 15) (k := 9) rfl rfl (by decide +kernel)
theorem tw752 : Cond.selects "CalledNumbers" yX10_digest yX10_digest ∈ mB := lw_bt btl_736 (a := 736) (i := 16) (k := 10) rfl rfl (by decide +kernel)
theorem tw753 : Cond.code yX10_digest cX10_digest 5 (some .long) ∈ mB := lw_bt btl_736 (a := 736) (i := 17) (k := 11) rfl rfl (by decide +kernel)
theorem tw757 : Cond.classLink "CalledNumbersLaw" 10 "CalledNumbersModel" ∈ mB := lw_bt btl_736 (a := 736) (i := 21) (k := 12) rfl rfl (by decide +kernel)
theorem tw758 : Cond.instantiable "CalledNumbersModel" 22 ∈ mB := lw_bt btl_736 (a := 736) (i := 22) (k := 13) rfl rfl (by decide +kernel)
theorem tw759 : Cond.methodLink "CalledNumbersLaw" 12 yX11_init ∈ mB := lw_bt btl_736 (a := 736) (i := 23) (k := 14) rfl rfl (by decide +kernel)
theorem tw760 : Cond.instanceMethod yX11_init ∈ mB := lw_bt btl_736 (a := 736) (i := 24) (k := 15) rfl rfl (by decide +kernel)
theorem tw761 : Cond.code yX11_init cX11_init 2 none ∈ mB := lw_bt btl_736 (a := 736) (i := 25) (k := 16) rfl rfl (by decide +kernel)
theorem tw830 : Cond.methodLink "CalledNumbersLaw" 17 yX11_row ∈ mB := lw_bt btl_800 (a := 800) (i := 30) (k := 0) rfl rfl (by decide +kernel)
theorem tw831 : Cond.instanceMethod yX11_row ∈ mB := lw_bt btl_800 (a := 800) (i := 31) (k := 1) rfl rfl (by decide +kernel)
theorem tw832 : Cond.selects "CalledNumbersModel" yX11_row yX11_row ∈ mB := lw_bt btl_832 (a := 832) (i := 0) (k := 0) rfl rfl (by decide +kernel)
theorem tw833 : Cond.code yX11_row cX11_row 3 (some .int) ∈ mB := lw_bt btl_832 (a := 832) (i := 1) (k := 1) rfl rfl (by decide +kernel)
theorem tw850 : Cond.methodLink "CalledNumbersLaw" 22 yX11_lay ∈ mB := lw_bt btl_832 (a := 832) (i := 18) (k := 2) rfl rfl (by decide +kernel)
theorem tw851 : Cond.instanceMethod yX11_lay ∈ mB := lw_bt btl_832 (a := 832) (i := 19) (k := 3) rfl rfl (by decide +kernel)
theorem tw852 : Cond.selects "CalledNumbersModel" yX11_lay yX11_lay ∈ mB := lw_bt btl_832 (a := 832) (i := 20) (k := 4) rfl rfl (by decide +kernel)
theorem tw853 : Cond.code yX11_lay cX11_lay 5 (some .int) ∈ mB := lw_bt btl_832 (a := 832) (i := 21) (k := 5) rfl rfl (by decide +kernel)
theorem tw858 : Cond.methodLink "CalledNumbersLaw" 26 yX11_at ∈ mB := lw_bt btl_832 (a := 832) (i := 26) (k := 6) rfl rfl (by decide +kernel)
theorem tw859 : Cond.instanceMethod yX11_at ∈ mB := lw_bt btl_832 (a := 832) (i := 27) (k := 7) rfl rfl (by decide +kernel)
theorem tw860 : Cond.selects "CalledNumbersModel" yX11_at yX11_at ∈ mB := lw_bt btl_832 (a := 832) (i := 28) (k := 8) rfl rfl (by decide +kernel)
theorem tw861 : Cond.code yX11_at cX11_at 3 (some .int) ∈ mB := lw_bt btl_832 (a := 832) (i := 29) (k := 9) rfl rfl (by decide +kernel)
theorem tw862 : Cond.methodLink "CalledNumbersLaw" 31 yX11_tear ∈ mB := lw_bt btl_832 (a := 832) (i := 30) (k := 10) rfl rfl (by decide +kernel)
theorem tw863 : Cond.instanceMethod yX11_tear ∈ mB := lw_bt btl_832 (a := 832) (i := 31) (k := 11) rfl rfl (by decide +kernel)
theorem tw864 : Cond.selects "CalledNumbersModel" yX11_tear yX11_tear ∈ mB := lw_bt btl_864 (a := 864) (i := 0) (k := 0) rfl rfl (by decide +kernel)
theorem tw865 : Cond.code yX11_tear cX11_tear 2 (some .int) ∈ mB := lw_bt btl_864 (a := 864) (i := 1) (k := 1) rfl rfl (by decide +kernel)
theorem tw866 : Cond.methodLink "CalledNumbersLaw" 36 yX11_copy ∈ mB := lw_bt btl_864 (a := 864) (i := 2) (k := 2) rfl rfl (by decide +kernel)
theorem tw867 : Cond.instanceMethod yX11_copy ∈ mB := lw_bt btl_864 (a := 864) (i := 3) (k := 3) rfl rfl (by decide +kernel)
theorem tw868 : Cond.selects "CalledNumbersModel" yX11_copy yX11_copy ∈ mB := lw_bt btl_864 (a := 864) (i := 4) (k := 4) rfl rfl (by decide +kernel)
theorem tw869 : Cond.code yX11_copy cX11_copy 7 (some .int) ∈ mB := lw_bt btl_864 (a := 864) (i := 5) (k := 5) rfl rfl (by decide +kernel)
theorem tw870 : Cond.methodLink "CalledNumbersLaw" 40 yX11_mean ∈ mB := lw_bt btl_864 (a := 864) (i := 6) (k := 6) rfl rfl (by decide +kernel)
theorem tw871 : Cond.instanceMethod yX11_mean ∈ mB := lw_bt btl_864 (a := 864) (i := 7) (k := 7) rfl rfl (by decide +kernel)
theorem tw872 : Cond.selects "CalledNumbersModel" yX11_mean yX11_mean ∈ mB := lw_bt btl_864 (a := 864) (i := 8) (k := 8) rfl rfl (by decide +kernel)
theorem tw873 : Cond.code yX11_mean cX11_mean 5 (some .int) ∈ mB := lw_bt btl_864 (a := 864) (i := 9) (k := 9) rfl rfl (by decide +kernel)
theorem tw874 : Cond.methodLink "CalledNumbersLaw" 44 yX11_text ∈ mB := lw_bt btl_864 (a := 864) (i := 10) (k := 10) rfl rfl (by decide +kernel)
theorem tw875 : Cond.instanceMethod yX11_text ∈ mB := lw_bt btl_864 (a := 864) (i := 11) (k := 11) rfl rfl (by decide +kernel)
theorem tw876 : Cond.selects "CalledNumbersModel" yX11_text yX11_text ∈ mB := lw_bt btl_864 (a := 864) (i := 12) (k := 12) rfl rfl (by decide +kernel)
theorem tw877 : Cond.code yX11_text cX11_text 4 (some .int) ∈ mB := lw_bt btl_864 (a := 864) (i := 13) (k := 13) rfl rfl (by decide +kernel)
theorem tw883 : Cond.methodLink "CalledNumbersLaw" 48 yX11_put ∈ mB := lw_bt btl_864 (a := 864) (i := 19) (k := 14) rfl rfl (by decide +kernel)
theorem tw884 : Cond.instanceMethod yX11_put ∈ mB := lw_bt btl_864 (a := 864) (i := 20) (k := 15) rfl rfl (by decide +kernel)
theorem tw885 : Cond.selects "CalledNumbersModel" yX11_put yX11_put ∈ mB := lw_bt btl_864 (a := 864) (i := 21) (k := 16) rfl rfl (by decide +kernel)
theorem tw886 : Cond.code yX11_put cX11_put 5 (some .int) ∈ mB := lw_bt btl_864 (a := 864) (i := 22) (k := 17) rfl rfl (by decide +kernel)
theorem tw887 : Cond.methodLink "CalledNumbersLaw" 52 yX11_fault ∈ mB := lw_bt btl_864 (a := 864) (i := 23) (k := 18) rfl rfl (by decide +kernel)
theorem tw888 : Cond.instanceMethod yX11_fault ∈ mB := lw_bt btl_864 (a := 864) (i := 24) (k := 19) rfl rfl (by decide +kernel)
theorem tw889 : Cond.selects "CalledNumbersModel" yX11_fault yX11_fault ∈ mB := lw_bt btl_864 (a := 864) (i := 25) (k := 20) rfl rfl (by decide +kernel)
theorem tw890 : Cond.code yX11_fault cX11_fault 2 (some .int) ∈ mB := lw_bt btl_864 (a := 864) (i := 26) (k := 21) rfl rfl (by decide +kernel)
theorem tw916 : Cond.methodLink "CalledNumbersLaw" 56 yX11_hall ∈ mB := lw_bt btl_896 (a := 896) (i := 20) (k := 0) rfl rfl (by decide +kernel)
theorem tw917 : Cond.instanceMethod yX11_hall ∈ mB := lw_bt btl_896 (a := 896) (i := 21) (k := 1) rfl rfl (by decide +kernel)
theorem tw918 : Cond.selects "CalledNumbersModel" yX11_hall yX11_hall ∈ mB := lw_bt btl_896 (a := 896) (i := 22) (k := 2) rfl rfl (by decide +kernel)
theorem tw919 : Cond.code yX11_hall cX11_hall 3 (some .int) ∈ mB := lw_bt btl_896 (a := 896) (i := 23) (k := 3) rfl rfl (by decide +kernel)
theorem tw920 : Cond.methodLink "CalledNumbersLaw" 60 yX11_player ∈ mB := lw_bt btl_896 (a := 896) (i := 24) (k := 4) rfl rfl (by decide +kernel)
theorem tw921 : Cond.instanceMethod yX11_player ∈ mB := lw_bt btl_896 (a := 896) (i := 25) (k := 5) rfl rfl (by decide +kernel)
theorem tw922 : Cond.selects "CalledNumbersModel" yX11_player yX11_player ∈ mB := lw_bt btl_896 (a := 896) (i := 26) (k := 6) rfl rfl (by decide +kernel)
theorem tw923 : Cond.code yX11_player cX11_player 3 (some .int) ∈ mB := lw_bt btl_896 (a := 896) (i := 27) (k := 7) rfl rfl (by decide +kernel)
theorem tw945 : Cond.methodLink "CalledNumbersLaw" 64 yX11_card ∈ mB := lw_bt btl_928 (a := 928) (i := 17) (k := 0) rfl rfl (by decide +kernel)
theorem tw946 : Cond.instanceMethod yX11_card ∈ mB := lw_bt btl_928 (a := 928) (i := 18) (k := 1) rfl rfl (by decide +kernel)
theorem tw947 : Cond.selects "CalledNumbersModel" yX11_card yX11_card ∈ mB := lw_bt btl_928 (a := 928) (i := 19) (k := 2) rfl rfl (by decide +kernel)
theorem tw948 : Cond.code yX11_card cX11_card 3 (some .int) ∈ mB := lw_bt btl_928 (a := 928) (i := 20) (k := 3) rfl rfl (by decide +kernel)
theorem tw949 : Cond.methodLink "CalledNumbersLaw" 68 yX11_mark ∈ mB := lw_bt btl_928 (a := 928) (i := 21) (k := 4) rfl rfl (by decide +kernel)
theorem tw950 : Cond.instanceMethod yX11_mark ∈ mB := lw_bt btl_928 (a := 928) (i := 22) (k := 5) rfl rfl (by decide +kernel)
theorem tw951 : Cond.selects "CalledNumbersModel" yX11_mark yX11_mark ∈ mB := lw_bt btl_928 (a := 928) (i := 23) (k := 6) rfl rfl (by decide +kernel)
theorem tw952 : Cond.code yX11_mark cX11_mark 6 (some .int) ∈ mB := lw_bt btl_928 (a := 928) (i := 24) (k := 7) rfl rfl (by decide +kernel)
theorem tw960 : Cond.methodLink "CalledNumbersLaw" 72 yX11_call ∈ mB := lw_bt btl_960 (a := 960) (i := 0) (k := 0) rfl rfl (by decide +kernel)
theorem tw961 : Cond.instanceMethod yX11_call ∈ mB := lw_bt btl_960 (a := 960) (i := 1) (k := 1) rfl rfl (by decide +kernel)
theorem tw962 : Cond.selects "CalledNumbersModel" yX11_call yX11_call ∈ mB := lw_bt btl_960 (a := 960) (i := 2) (k := 2) rfl rfl (by decide +kernel)
theorem tw963 : Cond.code yX11_call cX11_call 2 (some .int) ∈ mB := lw_bt btl_960 (a := 960) (i := 3) (k := 3) rfl rfl (by decide +kernel)
theorem tw979 : Cond.methodLink "CalledNumbersLaw" 76 yX11_rub ∈ mB := lw_bt btl_960 (a := 960) (i := 19) (k := 4) rfl rfl (by decide +kernel)
theorem tw980 : Cond.instanceMethod yX11_rub ∈ mB := lw_bt btl_960 (a := 960) (i := 20) (k := 5) rfl rfl (by decide +kernel)
theorem tw981 : Cond.selects "CalledNumbersModel" yX11_rub yX11_rub ∈ mB := lw_bt btl_960 (a := 960) (i := 21) (k := 6) rfl rfl (by decide +kernel)
theorem tw982 : Cond.code yX11_rub cX11_rub 3 (some .int) ∈ mB := lw_bt btl_960 (a := 960) (i := 22) (k := 7) rfl rfl (by decide +kernel)
theorem tw983 : Cond.methodLink "CalledNumbersLaw" 80 yX11_undo ∈ mB := lw_bt btl_960 (a := 960) (i := 23) (k := 8) rfl rfl (by decide +kernel)
theorem tw984 : Cond.instanceMethod yX11_undo ∈ mB := lw_bt btl_960 (a := 960) (i := 24) (k := 9) rfl rfl (by decide +kernel)
theorem tw985 : Cond.selects "CalledNumbersModel" yX11_undo yX11_undo ∈ mB := lw_bt btl_960 (a := 960) (i := 25) (k := 10) rfl rfl (by decide +kernel)
theorem tw986 : Cond.code yX11_undo cX11_undo 3 (some .int) ∈ mB := lw_bt btl_960 (a := 960) (i := 26) (k := 11) rfl rfl (by decide +kernel)
theorem tw987 : Cond.methodLink "CalledNumbersLaw" 84 yX11_keep ∈ mB := lw_bt btl_960 (a := 960) (i := 27) (k := 12) rfl rfl (by decide +kernel)
theorem tw988 : Cond.instanceMethod yX11_keep ∈ mB := lw_bt btl_960 (a := 960) (i := 28) (k := 13) rfl rfl (by decide +kernel)
theorem tw989 : Cond.selects "CalledNumbersModel" yX11_keep yX11_keep ∈ mB := lw_bt btl_960 (a := 960) (i := 29) (k := 14) rfl rfl (by decide +kernel)
theorem tw990 : Cond.code yX11_keep cX11_keep 2 (some .int) ∈ mB := lw_bt btl_960 (a := 960) (i := 30) (k := 15) rfl rfl (by decide +kernel)
theorem tw992 : Cond.methodLink "CalledNumbersLaw" 88 yX11_on ∈ mB := lw_bt btl_992 (a := 992) (i := 0) (k := 0) rfl rfl (by decide +kernel)
theorem tw993 : Cond.instanceMethod yX11_on ∈ mB := lw_bt btl_992 (a := 992) (i := 1) (k := 1) rfl rfl (by decide +kernel)
theorem tw994 : Cond.selects "CalledNumbersModel" yX11_on yX11_on ∈ mB := lw_bt btl_992 (a := 992) (i := 2) (k := 2) rfl rfl (by decide +kernel)
theorem tw995 : Cond.code yX11_on cX11_on 2 (some .int) ∈ mB := lw_bt btl_992 (a := 992) (i := 3) (k := 3) rfl rfl (by decide +kernel)
theorem tw996 : Cond.methodLink "CalledNumbersLaw" 93 yX11_hears ∈ mB := lw_bt btl_992 (a := 992) (i := 4) (k := 4) rfl rfl (by decide +kernel)
theorem tw997 : Cond.instanceMethod yX11_hears ∈ mB := lw_bt btl_992 (a := 992) (i := 5) (k := 5) rfl rfl (by decide +kernel)
theorem tw998 : Cond.selects "CalledNumbersModel" yX11_hears yX11_hears ∈ mB := lw_bt btl_992 (a := 992) (i := 6) (k := 6) rfl rfl (by decide +kernel)
theorem tw999 : Cond.code yX11_hears cX11_hears 5 (some .int) ∈ mB := lw_bt btl_992 (a := 992) (i := 7) (k := 7) rfl rfl (by decide +kernel)
theorem tw1001 : Cond.methodLink "CalledNumbersLaw" 97 yX11_run ∈ mB := lw_bt btl_992 (a := 992) (i := 9) (k := 8) rfl rfl (by decide +kernel)
theorem tw1002 : Cond.instanceMethod yX11_run ∈ mB := lw_bt btl_992 (a := 992) (i := 10) (k := 9) rfl rfl (by decide +kernel)
theorem tw1003 : Cond.selects "CalledNumbersModel" yX11_run yX11_run ∈ mB := lw_bt btl_992 (a := 992) (i := 11) (k := 10) rfl rfl (by decide +kernel)
theorem tw1004 : Cond.code yX11_run cX11_run 3 (some .int) ∈ mB := lw_bt btl_992 (a := 992) (i := 12) (k := 11) rfl rfl (by decide +kernel)
theorem tw1005 : Cond.methodLink "CalledNumbersLaw" 102 yX11_safe ∈ mB := lw_bt btl_992 (a := 992) (i := 13) (k := 12) rfl rfl (by decide +kernel)
theorem tw1006 : Cond.instanceMethod yX11_safe ∈ mB := lw_bt btl_992 (a := 992) (i := 14) (k := 13) rfl rfl (by decide +kernel)
theorem tw1007 : Cond.selects "CalledNumbersModel" yX11_safe yX11_safe ∈ mB := lw_bt btl_992 (a := 992) (i := 15) (k := 14) rfl rfl (by decide +kernel)
theorem tw1008 : Cond.code yX11_safe cX11_safe 6 (some .int) ∈ mB := lw_bt btl_992 (a := 992) (i := 16) (k := 15) rfl rfl (by decide +kernel)
theorem tw1009 : Cond.methodLink "CalledNumbersLaw" 106 yX11_fewest ∈ mB := lw_bt btl_992 (a := 992) (i := 17) (k := 16) rfl rfl (by decide +kernel)
theorem tw1010 : Cond.instanceMethod yX11_fewest ∈ mB := lw_bt btl_992 (a := 992) (i := 18) (k := 17) rfl rfl (by decide +kernel)
theorem tw1011 : Cond.selects "CalledNumbersModel" yX11_fewest yX11_fewest ∈ mB := lw_bt btl_992 (a := 992) (i := 19) (k := 18) rfl rfl (by decide +kernel)
theorem tw1012 : Cond.code yX11_fewest cX11_fewest 5 (some .int) ∈ mB := lw_bt btl_992 (a := 992) (i := 20) (k := 19) rfl rfl (by decide +kernel)
theorem tw1025 : Cond.methodLink "CalledNumbersLaw" 110 yX11_most ∈ mB := lw_bt btl_1024 (a := 1024) (i := 1) (k := 0) rfl rfl (by decide +kernel)
theorem tw1026 : Cond.instanceMethod yX11_most ∈ mB := lw_bt btl_1024 (a := 1024) (i := 2) (k := 1) rfl rfl (by decide +kernel)
theorem tw1027 : Cond.selects "CalledNumbersModel" yX11_most yX11_most ∈ mB := lw_bt btl_1024 (a := 1024) (i := 3) (k := 2) rfl rfl (by decide +kernel)
theorem tw1028 : Cond.code yX11_most cX11_most 7 (some .int) ∈ mB := lw_bt btl_1024 (a := 1024) (i := 4) (k := 3) rfl rfl (by decide +kernel)
theorem tw1029 : Cond.methodLink "CalledNumbersLaw" 114 yX11_which ∈ mB := lw_bt btl_1024 (a := 1024) (i := 5) (k := 4) rfl rfl (by decide +kernel)
theorem tw1030 : Cond.instanceMethod yX11_which ∈ mB := lw_bt btl_1024 (a := 1024) (i := 6) (k := 5) rfl rfl (by decide +kernel)
theorem tw1031 : Cond.selects "CalledNumbersModel" yX11_which yX11_which ∈ mB := lw_bt btl_1024 (a := 1024) (i := 7) (k := 6) rfl rfl (by decide +kernel)
theorem tw1032 : Cond.code yX11_which cX11_which 6 (some .int) ∈ mB := lw_bt btl_1024 (a := 1024) (i := 8) (k := 7) rfl rfl (by decide +kernel)
theorem tw1034 : Cond.methodLink "CalledNumbersLaw" 118 yX11_kinds ∈ mB := lw_bt btl_1024 (a := 1024) (i := 10) (k := 8) rfl rfl (by decide +kernel)
theorem tw1035 : Cond.instanceMethod yX11_kinds ∈ mB := lw_bt btl_1024 (a := 1024) (i := 11) (k := 9) rfl rfl (by decide +kernel)
theorem tw1036 : Cond.selects "CalledNumbersModel" yX11_kinds yX11_kinds ∈ mB := lw_bt btl_1024 (a := 1024) (i := 12) (k := 10) rfl rfl (by decide +kernel)
theorem tw1037 : Cond.code yX11_kinds cX11_kinds 4 (some .int) ∈ mB := lw_bt btl_1024 (a := 1024) (i := 13) (k := 11) rfl rfl (by decide +kernel)
theorem tw1047 : Cond.methodLink "CalledNumbersLaw" 122 yX11_next ∈ mB := lw_bt btl_1024 (a := 1024) (i := 23) (k := 12) rfl rfl (by decide +kernel)
theorem tw1048 : Cond.instanceMethod yX11_next ∈ mB := lw_bt btl_1024 (a := 1024) (i := 24) (k := 13) rfl rfl (by decide +kernel)
theorem tw1049 : Cond.selects "CalledNumbersModel" yX11_next yX11_next ∈ mB := lw_bt btl_1024 (a := 1024) (i := 25) (k := 14) rfl rfl (by decide +kernel)
theorem tw1050 : Cond.code yX11_next cX11_next 9 (some .int) ∈ mB := lw_bt btl_1024 (a := 1024) (i := 26) (k := 15) rfl rfl (by decide +kernel)
theorem tw1055 : Cond.methodLink "CalledNumbersLaw" 126 yX11_duel ∈ mB := lw_bt btl_1024 (a := 1024) (i := 31) (k := 16) rfl rfl (by decide +kernel)
theorem tw1056 : Cond.instanceMethod yX11_duel ∈ mB := lw_bt btl_1056 (a := 1056) (i := 0) (k := 0) rfl rfl (by decide +kernel)
theorem tw1057 : Cond.selects "CalledNumbersModel" yX11_duel yX11_duel ∈ mB := lw_bt btl_1056 (a := 1056) (i := 1) (k := 1) rfl rfl (by decide +kernel)
theorem tw1058 : Cond.code yX11_duel cX11_duel 8 (some .int) ∈ mB := lw_bt btl_1056 (a := 1056) (i := 2) (k := 2) rfl rfl (by decide +kernel)
theorem tw1067 : Cond.methodLink "CalledNumbersLaw" 130 yX11_odds ∈ mB := lw_bt btl_1056 (a := 1056) (i := 11) (k := 3) rfl rfl (by decide +kernel)
theorem tw1068 : Cond.instanceMethod yX11_odds ∈ mB := lw_bt btl_1056 (a := 1056) (i := 12) (k := 4) rfl rfl (by decide +kernel)
theorem tw1069 : Cond.selects "CalledNumbersModel" yX11_odds yX11_odds ∈ mB := lw_bt btl_1056 (a := 1056) (i := 13) (k := 5) rfl rfl (by decide +kernel)
theorem tw1070 : Cond.code yX11_odds cX11_odds 3 (some .int) ∈ mB := lw_bt btl_1056 (a := 1056) (i := 14) (k := 6) rfl rfl (by decide +kernel)
theorem tw1079 : Cond.methodLink "CalledNumbersLaw" 134 yX11_mid ∈ mB := lw_bt btl_1056 (a := 1056) (i := 23) (k := 7) rfl rfl (by decide +kernel)
theorem tw1080 : Cond.instanceMethod yX11_mid ∈ mB := lw_bt btl_1056 (a := 1056) (i := 24) (k := 8) rfl rfl (by decide +kernel)
theorem tw1081 : Cond.selects "CalledNumbersModel" yX11_mid yX11_mid ∈ mB := lw_bt btl_1056 (a := 1056) (i := 25) (k := 9) rfl rfl (by decide +kernel)
theorem tw1082 : Cond.code yX11_mid cX11_mid 3 (some .int) ∈ mB := lw_bt btl_1056 (a := 1056) (i := 26) (k := 10) rfl rfl (by decide +kernel)
theorem tw1083 : Cond.methodLink "CalledNumbersLaw" 138 yX11_lots ∈ mB := lw_bt btl_1056 (a := 1056) (i := 27) (k := 11) rfl rfl (by decide +kernel)
theorem tw1084 : Cond.instanceMethod yX11_lots ∈ mB := lw_bt btl_1056 (a := 1056) (i := 28) (k := 12) rfl rfl (by decide +kernel)
theorem tw1085 : Cond.selects "CalledNumbersModel" yX11_lots yX11_lots ∈ mB := lw_bt btl_1056 (a := 1056) (i := 29) (k := 13) rfl rfl (by decide +kernel)
theorem tw1086 : Cond.code yX11_lots cX11_lots 8 (some .int) ∈ mB := lw_bt btl_1056 (a := 1056) (i := 30) (k := 14) rfl rfl (by decide +kernel)
theorem tw1091 : Cond.methodLink "CalledNumbersLaw" 142 yX11_asked ∈ mB := lw_bt btl_1088 (a := 1088) (i := 3) (k := 0) rfl rfl (by decide +kernel)
theorem tw1092 : Cond.instanceMethod yX11_asked ∈ mB := lw_bt btl_1088 (a := 1088) (i := 4) (k := 1) rfl rfl (by decide +kernel)
theorem tw1093 : Cond.selects "CalledNumbersModel" yX11_asked yX11_asked ∈ mB := lw_bt btl_1088 (a := 1088) (i := 5) (k := 2) rfl rfl (by decide +kernel)
theorem tw1094 : Cond.code yX11_asked cX11_asked 1 (some .int) ∈ mB := lw_bt btl_1088 (a := 1088) (i := 6) (k := 3) rfl rfl (by decide +kernel)
theorem tw1095 : Cond.methodLink "CalledNumbersLaw" 147 yX11_upper ∈ mB := lw_bt btl_1088 (a := 1088) (i := 7) (k := 4) rfl rfl (by decide +kernel)
theorem tw1096 : Cond.instanceMethod yX11_upper ∈ mB := lw_bt btl_1088 (a := 1088) (i := 8) (k := 5) rfl rfl (by decide +kernel)
theorem tw1097 : Cond.selects "CalledNumbersModel" yX11_upper yX11_upper ∈ mB := lw_bt btl_1088 (a := 1088) (i := 9) (k := 6) rfl rfl (by decide +kernel)
theorem tw1098 : Cond.code yX11_upper cX11_upper 1 (some .long) ∈ mB := lw_bt btl_1088 (a := 1088) (i := 10) (k := 7) rfl rfl (by decide +kernel)
theorem tw1099 : Cond.methodLink "CalledNumbersLaw" 151 yX11_lower ∈ mB := lw_bt btl_1088 (a := 1088) (i := 11) (k := 8) rfl rfl (by decide +kernel)
theorem tw1100 : Cond.instanceMethod yX11_lower ∈ mB := lw_bt btl_1088 (a := 1088) (i := 12) (k := 9) rfl rfl (by decide +kernel)
theorem tw1101 : Cond.selects "CalledNumbersModel" yX11_lower yX11_lower ∈ mB := lw_bt btl_1088 (a := 1088) (i := 13) (k := 10) rfl rfl (by decide +kernel)
theorem tw1102 : Cond.code yX11_lower cX11_lower 1 (some .long) ∈ mB := lw_bt btl_1088 (a := 1088) (i := 14) (k := 11) rfl rfl (by decide +kernel)
theorem tw1103 : Cond.methodLink "CalledNumbersLaw" 155 yX11_count ∈ mB := lw_bt btl_1088 (a := 1088) (i := 15) (k := 12) rfl rfl (by decide +kernel)
theorem tw1104 : Cond.instanceMethod yX11_count ∈ mB := lw_bt btl_1088 (a := 1088) (i := 16) (k := 13) rfl rfl (by decide +kernel)
theorem tw1105 : Cond.selects "CalledNumbersModel" yX11_count yX11_count ∈ mB := lw_bt btl_1088 (a := 1088) (i := 17) (k := 14) rfl rfl (by decide +kernel)
theorem tw1106 : Cond.code yX11_count cX11_count 2 (some .int) ∈ mB := lw_bt btl_1088 (a := 1088) (i := 18) (k := 15) rfl rfl (by decide +kernel)
theorem tw1124 : Cond.methodLink "CalledNumbersLaw" 159 yX11_finding ∈ mB := lw_bt btl_1120 (a := 1120) (i := 4) (k := 0) rfl rfl (by decide +kernel)
theorem tw1125 : Cond.instanceMethod yX11_finding ∈ mB := lw_bt btl_1120 (a := 1120) (i := 5) (k := 1) rfl rfl (by decide +kernel)
theorem tw1126 : Cond.selects "CalledNumbersModel" yX11_finding yX11_finding ∈ mB := lw_bt btl_1120 (a := 1120) (i := 6) (k := 2) rfl rfl (by decide +kernel)
theorem tw1127 : Cond.code yX11_finding cX11_finding 1 (some .int) ∈ mB := lw_bt btl_1120 (a := 1120) (i := 7) (k := 3) rfl rfl (by decide +kernel)
theorem tw1128 : Cond.methodLink "CalledNumbersLaw" 163 yX11_findings ∈ mB := lw_bt btl_1120 (a := 1120) (i := 8) (k := 4) rfl rfl (by decide +kernel)
theorem tw1129 : Cond.instanceMethod yX11_findings ∈ mB := lw_bt btl_1120 (a := 1120) (i := 9) (k := 5) rfl rfl (by decide +kernel)
theorem tw1130 : Cond.selects "CalledNumbersModel" yX11_findings yX11_findings ∈ mB := lw_bt btl_1120 (a := 1120) (i := 10) (k := 6) rfl rfl (by decide +kernel)
theorem tw1131 : Cond.code yX11_findings cX11_findings 2 (some .int) ∈ mB := lw_bt btl_1120 (a := 1120) (i := 11) (k := 7) rfl rfl (by decide +kernel)
theorem tw1132 : Cond.methodLink "CalledNumbersLaw" 167 yX11_digest ∈ mB := lw_bt btl_1120 (a := 1120) (i := 12) (k := 8) rfl rfl (by decide +kernel)
theorem tw1133 : Cond.instanceMethod yX11_digest ∈ mB := lw_bt btl_1120 (a := 1120) (i := 13) (k := 9) rfl rfl (by decide +kernel)
theorem tw1134 : Cond.selects "CalledNumbersModel" yX11_digest yX11_digest ∈ mB := lw_bt btl_1120 (a := 1120) (i := 14) (k := 10) rfl rfl (by decide +kernel)
theorem tw1135 : Cond.code yX11_digest cX11_digest 5 (some .long) ∈ mB := lw_bt btl_1120 (a := 1120) (i := 15) (k := 11) rfl rfl (by decide +kernel)
theorem hy_X10_asked : yX10_asked.cls = RX10 ∧ yX10_asked.cls ≠ "java/lang/invoke/MethodHandle" ∧ yX10_asked.cls ≠ "java/lang/invoke/VarHandle" ∧ (parseMethodDescriptor yX10_asked.desc).map (fun d => d.parameters.length) = some 0 := by decide +kernel
theorem hy_X10_at : yX10_at.cls = RX10 ∧ yX10_at.cls ≠ "java/lang/invoke/MethodHandle" ∧ yX10_at.cls ≠ "java/lang/invoke/VarHandle" ∧ (parseMethodDescriptor yX10_at.desc).map (fun d => d.parameters.length) = some 2 := by decide +kernel
theorem hy_X10_call : yX10_call.cls = RX10 ∧ yX10_call.cls ≠ "java/lang/invoke/MethodHandle" ∧ yX10_call.cls ≠ "java/lang/invoke/VarHandle" ∧ (parseMethodDescriptor yX10_call.desc).map (fun d => d.parameters.length) = some 1 := by decide +kernel
theorem hy_X10_card : yX10_card.cls = RX10 ∧ yX10_card.cls ≠ "java/lang/invoke/MethodHandle" ∧ yX10_card.cls ≠ "java/lang/invoke/VarHandle" ∧ (parseMethodDescriptor yX10_card.desc).map (fun d => d.parameters.length) = some 2 := by decide +kernel
theorem hy_X10_copy : yX10_copy.cls = RX10 ∧ yX10_copy.cls ≠ "java/lang/invoke/MethodHandle" ∧ yX10_copy.cls ≠ "java/lang/invoke/VarHandle" ∧ (parseMethodDescriptor yX10_copy.desc).map (fun d => d.parameters.length) = some 5 := by decide +kernel
theorem hy_X10_digest : yX10_digest.cls = RX10 ∧ yX10_digest.cls ≠ "java/lang/invoke/MethodHandle" ∧ yX10_digest.cls ≠ "java/lang/invoke/VarHandle" ∧ (parseMethodDescriptor yX10_digest.desc).map (fun d => d.parameters.length) = some 0 := by decide +kernel
theorem hy_X10_duel : yX10_duel.cls = RX10 ∧ yX10_duel.cls ≠ "java/lang/invoke/MethodHandle" ∧ yX10_duel.cls ≠ "java/lang/invoke/VarHandle" ∧ (parseMethodDescriptor yX10_duel.desc).map (fun d => d.parameters.length) = some 3 := by decide +kernel
theorem hy_X10_fault : yX10_fault.cls = RX10 ∧ yX10_fault.cls ≠ "java/lang/invoke/MethodHandle" ∧ yX10_fault.cls ≠ "java/lang/invoke/VarHandle" ∧ (parseMethodDescriptor yX10_fault.desc).map (fun d => d.parameters.length) = some 1 := by decide +kernel
theorem hy_X10_fewest : yX10_fewest.cls = RX10 ∧ yX10_fewest.cls ≠ "java/lang/invoke/MethodHandle" ∧ yX10_fewest.cls ≠ "java/lang/invoke/VarHandle" ∧ (parseMethodDescriptor yX10_fewest.desc).map (fun d => d.parameters.length) = some 2 := by decide +kernel
theorem hy_X10_finding : yX10_finding.cls = RX10 ∧ yX10_finding.cls ≠ "java/lang/invoke/MethodHandle" ∧ yX10_finding.cls ≠ "java/lang/invoke/VarHandle" ∧ (parseMethodDescriptor yX10_finding.desc).map (fun d => d.parameters.length) = some 0 := by decide +kernel
theorem hy_X10_findings : yX10_findings.cls = RX10 ∧ yX10_findings.cls ≠ "java/lang/invoke/MethodHandle" ∧ yX10_findings.cls ≠ "java/lang/invoke/VarHandle" ∧ (parseMethodDescriptor yX10_findings.desc).map (fun d => d.parameters.length) = some 1 := by decide +kernel
theorem hy_X10_hall : yX10_hall.cls = RX10 ∧ yX10_hall.cls ≠ "java/lang/invoke/MethodHandle" ∧ yX10_hall.cls ≠ "java/lang/invoke/VarHandle" ∧ (parseMethodDescriptor yX10_hall.desc).map (fun d => d.parameters.length) = some 1 := by decide +kernel
theorem hy_X10_hears : yX10_hears.cls = RX10 ∧ yX10_hears.cls ≠ "java/lang/invoke/MethodHandle" ∧ yX10_hears.cls ≠ "java/lang/invoke/VarHandle" ∧ (parseMethodDescriptor yX10_hears.desc).map (fun d => d.parameters.length) = some 4 := by decide +kernel
theorem hy_X10_keep : yX10_keep.cls = RX10 ∧ yX10_keep.cls ≠ "java/lang/invoke/MethodHandle" ∧ yX10_keep.cls ≠ "java/lang/invoke/VarHandle" ∧ (parseMethodDescriptor yX10_keep.desc).map (fun d => d.parameters.length) = some 1 := by decide +kernel
theorem hy_X10_kinds : yX10_kinds.cls = RX10 ∧ yX10_kinds.cls ≠ "java/lang/invoke/MethodHandle" ∧ yX10_kinds.cls ≠ "java/lang/invoke/VarHandle" ∧ (parseMethodDescriptor yX10_kinds.desc).map (fun d => d.parameters.length) = some 2 := by decide +kernel
theorem hy_X10_lay : yX10_lay.cls = RX10 ∧ yX10_lay.cls ≠ "java/lang/invoke/MethodHandle" ∧ yX10_lay.cls ≠ "java/lang/invoke/VarHandle" ∧ (parseMethodDescriptor yX10_lay.desc).map (fun d => d.parameters.length) = some 3 := by decide +kernel
theorem hy_X10_lots : yX10_lots.cls = RX10 ∧ yX10_lots.cls ≠ "java/lang/invoke/MethodHandle" ∧ yX10_lots.cls ≠ "java/lang/invoke/VarHandle" ∧ (parseMethodDescriptor yX10_lots.desc).map (fun d => d.parameters.length) = some 2 := by decide +kernel
theorem hy_X10_lower : yX10_lower.cls = RX10 ∧ yX10_lower.cls ≠ "java/lang/invoke/MethodHandle" ∧ yX10_lower.cls ≠ "java/lang/invoke/VarHandle" ∧ (parseMethodDescriptor yX10_lower.desc).map (fun d => d.parameters.length) = some 0 := by decide +kernel
theorem hy_X10_mark : yX10_mark.cls = RX10 ∧ yX10_mark.cls ≠ "java/lang/invoke/MethodHandle" ∧ yX10_mark.cls ≠ "java/lang/invoke/VarHandle" ∧ (parseMethodDescriptor yX10_mark.desc).map (fun d => d.parameters.length) = some 2 := by decide +kernel
theorem hy_X10_mean : yX10_mean.cls = RX10 ∧ yX10_mean.cls ≠ "java/lang/invoke/MethodHandle" ∧ yX10_mean.cls ≠ "java/lang/invoke/VarHandle" ∧ (parseMethodDescriptor yX10_mean.desc).map (fun d => d.parameters.length) = some 1 := by decide +kernel
theorem hy_X10_mid : yX10_mid.cls = RX10 ∧ yX10_mid.cls ≠ "java/lang/invoke/MethodHandle" ∧ yX10_mid.cls ≠ "java/lang/invoke/VarHandle" ∧ (parseMethodDescriptor yX10_mid.desc).map (fun d => d.parameters.length) = some 2 := by decide +kernel
theorem hy_X10_most : yX10_most.cls = RX10 ∧ yX10_most.cls ≠ "java/lang/invoke/MethodHandle" ∧ yX10_most.cls ≠ "java/lang/invoke/VarHandle" ∧ (parseMethodDescriptor yX10_most.desc).map (fun d => d.parameters.length) = some 2 := by decide +kernel
theorem hy_X10_next : yX10_next.cls = RX10 ∧ yX10_next.cls ≠ "java/lang/invoke/MethodHandle" ∧ yX10_next.cls ≠ "java/lang/invoke/VarHandle" ∧ (parseMethodDescriptor yX10_next.desc).map (fun d => d.parameters.length) = some 2 := by decide +kernel
theorem hy_X10_odds : yX10_odds.cls = RX10 ∧ yX10_odds.cls ≠ "java/lang/invoke/MethodHandle" ∧ yX10_odds.cls ≠ "java/lang/invoke/VarHandle" ∧ (parseMethodDescriptor yX10_odds.desc).map (fun d => d.parameters.length) = some 2 := by decide +kernel
theorem hy_X10_on : yX10_on.cls = RX10 ∧ yX10_on.cls ≠ "java/lang/invoke/MethodHandle" ∧ yX10_on.cls ≠ "java/lang/invoke/VarHandle" ∧ (parseMethodDescriptor yX10_on.desc).map (fun d => d.parameters.length) = some 1 := by decide +kernel
theorem hy_X10_player : yX10_player.cls = RX10 ∧ yX10_player.cls ≠ "java/lang/invoke/MethodHandle" ∧ yX10_player.cls ≠ "java/lang/invoke/VarHandle" ∧ (parseMethodDescriptor yX10_player.desc).map (fun d => d.parameters.length) = some 2 := by decide +kernel
theorem hy_X10_put : yX10_put.cls = RX10 ∧ yX10_put.cls ≠ "java/lang/invoke/MethodHandle" ∧ yX10_put.cls ≠ "java/lang/invoke/VarHandle" ∧ (parseMethodDescriptor yX10_put.desc).map (fun d => d.parameters.length) = some 3 := by decide +kernel
theorem hy_X10_row : yX10_row.cls = RX10 ∧ yX10_row.cls ≠ "java/lang/invoke/MethodHandle" ∧ yX10_row.cls ≠ "java/lang/invoke/VarHandle" ∧ (parseMethodDescriptor yX10_row.desc).map (fun d => d.parameters.length) = some 2 := by decide +kernel
theorem hy_X10_rub : yX10_rub.cls = RX10 ∧ yX10_rub.cls ≠ "java/lang/invoke/MethodHandle" ∧ yX10_rub.cls ≠ "java/lang/invoke/VarHandle" ∧ (parseMethodDescriptor yX10_rub.desc).map (fun d => d.parameters.length) = some 2 := by decide +kernel
theorem hy_X10_run : yX10_run.cls = RX10 ∧ yX10_run.cls ≠ "java/lang/invoke/MethodHandle" ∧ yX10_run.cls ≠ "java/lang/invoke/VarHandle" ∧ (parseMethodDescriptor yX10_run.desc).map (fun d => d.parameters.length) = some 1 := by decide +kernel
theorem hy_X10_safe : yX10_safe.cls = RX10 ∧ yX10_safe.cls ≠ "java/lang/invoke/MethodHandle" ∧ yX10_safe.cls ≠ "java/lang/invoke/VarHandle" ∧ (parseMethodDescriptor yX10_safe.desc).map (fun d => d.parameters.length) = some 0 := by decide +kernel
theorem hy_X10_tear : yX10_tear.cls = RX10 ∧ yX10_tear.cls ≠ "java/lang/invoke/MethodHandle" ∧ yX10_tear.cls ≠ "java/lang/invoke/VarHandle" ∧ (parseMethodDescriptor yX10_tear.desc).map (fun d => d.parameters.length) = some 1 := by decide +kernel
theorem hy_X10_text : yX10_text.cls = RX10 ∧ yX10_text.cls ≠ "java/lang/invoke/MethodHandle" ∧ yX10_text.cls ≠ "java/lang/invoke/VarHandle" ∧ (parseMethodDescriptor yX10_text.desc).map (fun d => d.parameters.length) = some 2 := by decide +kernel
theorem hy_X10_undo : yX10_undo.cls = RX10 ∧ yX10_undo.cls ≠ "java/lang/invoke/MethodHandle" ∧ yX10_undo.cls ≠ "java/lang/invoke/VarHandle" ∧ (parseMethodDescriptor yX10_undo.desc).map (fun d => d.parameters.length) = some 1 := by decide +kernel
theorem hy_X10_upper : yX10_upper.cls = RX10 ∧ yX10_upper.cls ≠ "java/lang/invoke/MethodHandle" ∧ yX10_upper.cls ≠ "java/lang/invoke/VarHandle" ∧ (parseMethodDescriptor yX10_upper.desc).map (fun d => d.parameters.length) = some 0 := by decide +kernel
theorem hy_X10_which : yX10_which.cls = RX10 ∧ yX10_which.cls ≠ "java/lang/invoke/MethodHandle" ∧ yX10_which.cls ≠ "java/lang/invoke/VarHandle" ∧ (parseMethodDescriptor yX10_which.desc).map (fun d => d.parameters.length) = some 2 := by decide +kernel
theorem hy_X11_asked : yX11_asked.cls = RX11 ∧ yX11_asked.cls ≠ "java/lang/invoke/MethodHandle" ∧ yX11_asked.cls ≠ "java/lang/invoke/VarHandle" ∧ (parseMethodDescriptor yX11_asked.desc).map (fun d => d.parameters.length) = some 0 := by decide +kernel
theorem hy_X11_at : yX11_at.cls = RX11 ∧ yX11_at.cls ≠ "java/lang/invoke/MethodHandle" ∧ yX11_at.cls ≠ "java/lang/invoke/VarHandle" ∧ (parseMethodDescriptor yX11_at.desc).map (fun d => d.parameters.length) = some 2 := by decide +kernel
theorem hy_X11_call : yX11_call.cls = RX11 ∧ yX11_call.cls ≠ "java/lang/invoke/MethodHandle" ∧ yX11_call.cls ≠ "java/lang/invoke/VarHandle" ∧ (parseMethodDescriptor yX11_call.desc).map (fun d => d.parameters.length) = some 1 := by decide +kernel
theorem hy_X11_card : yX11_card.cls = RX11 ∧ yX11_card.cls ≠ "java/lang/invoke/MethodHandle" ∧ yX11_card.cls ≠ "java/lang/invoke/VarHandle" ∧ (parseMethodDescriptor yX11_card.desc).map (fun d => d.parameters.length) = some 2 := by decide +kernel
theorem hy_X11_copy : yX11_copy.cls = RX11 ∧ yX11_copy.cls ≠ "java/lang/invoke/MethodHandle" ∧ yX11_copy.cls ≠ "java/lang/invoke/VarHandle" ∧ (parseMethodDescriptor yX11_copy.desc).map (fun d => d.parameters.length) = some 5 := by decide +kernel
theorem hy_X11_count : yX11_count.cls = RX11 ∧ yX11_count.cls ≠ "java/lang/invoke/MethodHandle" ∧ yX11_count.cls ≠ "java/lang/invoke/VarHandle" ∧ (parseMethodDescriptor yX11_count.desc).map (fun d => d.parameters.length) = some 1 := by decide +kernel
theorem hy_X11_digest : yX11_digest.cls = RX11 ∧ yX11_digest.cls ≠ "java/lang/invoke/MethodHandle" ∧ yX11_digest.cls ≠ "java/lang/invoke/VarHandle" ∧ (parseMethodDescriptor yX11_digest.desc).map (fun d => d.parameters.length) = some 0 := by decide +kernel
theorem hy_X11_duel : yX11_duel.cls = RX11 ∧ yX11_duel.cls ≠ "java/lang/invoke/MethodHandle" ∧ yX11_duel.cls ≠ "java/lang/invoke/VarHandle" ∧ (parseMethodDescriptor yX11_duel.desc).map (fun d => d.parameters.length) = some 3 := by decide +kernel
theorem hy_X11_fault : yX11_fault.cls = RX11 ∧ yX11_fault.cls ≠ "java/lang/invoke/MethodHandle" ∧ yX11_fault.cls ≠ "java/lang/invoke/VarHandle" ∧ (parseMethodDescriptor yX11_fault.desc).map (fun d => d.parameters.length) = some 1 := by decide +kernel
theorem hy_X11_fewest : yX11_fewest.cls = RX11 ∧ yX11_fewest.cls ≠ "java/lang/invoke/MethodHandle" ∧ yX11_fewest.cls ≠ "java/lang/invoke/VarHandle" ∧ (parseMethodDescriptor yX11_fewest.desc).map (fun d => d.parameters.length) = some 2 := by decide +kernel
theorem hy_X11_finding : yX11_finding.cls = RX11 ∧ yX11_finding.cls ≠ "java/lang/invoke/MethodHandle" ∧ yX11_finding.cls ≠ "java/lang/invoke/VarHandle" ∧ (parseMethodDescriptor yX11_finding.desc).map (fun d => d.parameters.length) = some 0 := by decide +kernel
theorem hy_X11_findings : yX11_findings.cls = RX11 ∧ yX11_findings.cls ≠ "java/lang/invoke/MethodHandle" ∧ yX11_findings.cls ≠ "java/lang/invoke/VarHandle" ∧ (parseMethodDescriptor yX11_findings.desc).map (fun d => d.parameters.length) = some 1 := by decide +kernel
theorem hy_X11_hall : yX11_hall.cls = RX11 ∧ yX11_hall.cls ≠ "java/lang/invoke/MethodHandle" ∧ yX11_hall.cls ≠ "java/lang/invoke/VarHandle" ∧ (parseMethodDescriptor yX11_hall.desc).map (fun d => d.parameters.length) = some 1 := by decide +kernel
theorem hy_X11_hears : yX11_hears.cls = RX11 ∧ yX11_hears.cls ≠ "java/lang/invoke/MethodHandle" ∧ yX11_hears.cls ≠ "java/lang/invoke/VarHandle" ∧ (parseMethodDescriptor yX11_hears.desc).map (fun d => d.parameters.length) = some 4 := by decide +kernel
theorem hy_X11_keep : yX11_keep.cls = RX11 ∧ yX11_keep.cls ≠ "java/lang/invoke/MethodHandle" ∧ yX11_keep.cls ≠ "java/lang/invoke/VarHandle" ∧ (parseMethodDescriptor yX11_keep.desc).map (fun d => d.parameters.length) = some 1 := by decide +kernel
theorem hy_X11_kinds : yX11_kinds.cls = RX11 ∧ yX11_kinds.cls ≠ "java/lang/invoke/MethodHandle" ∧ yX11_kinds.cls ≠ "java/lang/invoke/VarHandle" ∧ (parseMethodDescriptor yX11_kinds.desc).map (fun d => d.parameters.length) = some 2 := by decide +kernel
theorem hy_X11_lay : yX11_lay.cls = RX11 ∧ yX11_lay.cls ≠ "java/lang/invoke/MethodHandle" ∧ yX11_lay.cls ≠ "java/lang/invoke/VarHandle" ∧ (parseMethodDescriptor yX11_lay.desc).map (fun d => d.parameters.length) = some 3 := by decide +kernel
theorem hy_X11_lots : yX11_lots.cls = RX11 ∧ yX11_lots.cls ≠ "java/lang/invoke/MethodHandle" ∧ yX11_lots.cls ≠ "java/lang/invoke/VarHandle" ∧ (parseMethodDescriptor yX11_lots.desc).map (fun d => d.parameters.length) = some 2 := by decide +kernel
theorem hy_X11_lower : yX11_lower.cls = RX11 ∧ yX11_lower.cls ≠ "java/lang/invoke/MethodHandle" ∧ yX11_lower.cls ≠ "java/lang/invoke/VarHandle" ∧ (parseMethodDescriptor yX11_lower.desc).map (fun d => d.parameters.length) = some 0 := by decide +kernel
theorem hy_X11_mark : yX11_mark.cls = RX11 ∧ yX11_mark.cls ≠ "java/lang/invoke/MethodHandle" ∧ yX11_mark.cls ≠ "java/lang/invoke/VarHandle" ∧ (parseMethodDescriptor yX11_mark.desc).map (fun d => d.parameters.length) = some 2 := by decide +kernel
theorem hy_X11_mean : yX11_mean.cls = RX11 ∧ yX11_mean.cls ≠ "java/lang/invoke/MethodHandle" ∧ yX11_mean.cls ≠ "java/lang/invoke/VarHandle" ∧ (parseMethodDescriptor yX11_mean.desc).map (fun d => d.parameters.length) = some 1 := by decide +kernel
theorem hy_X11_mid : yX11_mid.cls = RX11 ∧ yX11_mid.cls ≠ "java/lang/invoke/MethodHandle" ∧ yX11_mid.cls ≠ "java/lang/invoke/VarHandle" ∧ (parseMethodDescriptor yX11_mid.desc).map (fun d => d.parameters.length) = some 2 := by decide +kernel
theorem hy_X11_most : yX11_most.cls = RX11 ∧ yX11_most.cls ≠ "java/lang/invoke/MethodHandle" ∧ yX11_most.cls ≠ "java/lang/invoke/VarHandle" ∧ (parseMethodDescriptor yX11_most.desc).map (fun d => d.parameters.length) = some 2 := by decide +kernel
theorem hy_X11_next : yX11_next.cls = RX11 ∧ yX11_next.cls ≠ "java/lang/invoke/MethodHandle" ∧ yX11_next.cls ≠ "java/lang/invoke/VarHandle" ∧ (parseMethodDescriptor yX11_next.desc).map (fun d => d.parameters.length) = some 2 := by decide +kernel
theorem hy_X11_odds : yX11_odds.cls = RX11 ∧ yX11_odds.cls ≠ "java/lang/invoke/MethodHandle" ∧ yX11_odds.cls ≠ "java/lang/invoke/VarHandle" ∧ (parseMethodDescriptor yX11_odds.desc).map (fun d => d.parameters.length) = some 2 := by decide +kernel
theorem hy_X11_on : yX11_on.cls = RX11 ∧ yX11_on.cls ≠ "java/lang/invoke/MethodHandle" ∧ yX11_on.cls ≠ "java/lang/invoke/VarHandle" ∧ (parseMethodDescriptor yX11_on.desc).map (fun d => d.parameters.length) = some 1 := by decide +kernel
theorem hy_X11_player : yX11_player.cls = RX11 ∧ yX11_player.cls ≠ "java/lang/invoke/MethodHandle" ∧ yX11_player.cls ≠ "java/lang/invoke/VarHandle" ∧ (parseMethodDescriptor yX11_player.desc).map (fun d => d.parameters.length) = some 2 := by decide +kernel
theorem hy_X11_put : yX11_put.cls = RX11 ∧ yX11_put.cls ≠ "java/lang/invoke/MethodHandle" ∧ yX11_put.cls ≠ "java/lang/invoke/VarHandle" ∧ (parseMethodDescriptor yX11_put.desc).map (fun d => d.parameters.length) = some 3 := by decide +kernel
theorem hy_X11_row : yX11_row.cls = RX11 ∧ yX11_row.cls ≠ "java/lang/invoke/MethodHandle" ∧ yX11_row.cls ≠ "java/lang/invoke/VarHandle" ∧ (parseMethodDescriptor yX11_row.desc).map (fun d => d.parameters.length) = some 2 := by decide +kernel
theorem hy_X11_rub : yX11_rub.cls = RX11 ∧ yX11_rub.cls ≠ "java/lang/invoke/MethodHandle" ∧ yX11_rub.cls ≠ "java/lang/invoke/VarHandle" ∧ (parseMethodDescriptor yX11_rub.desc).map (fun d => d.parameters.length) = some 2 := by decide +kernel
theorem hy_X11_run : yX11_run.cls = RX11 ∧ yX11_run.cls ≠ "java/lang/invoke/MethodHandle" ∧ yX11_run.cls ≠ "java/lang/invoke/VarHandle" ∧ (parseMethodDescriptor yX11_run.desc).map (fun d => d.parameters.length) = some 1 := by decide +kernel
theorem hy_X11_safe : yX11_safe.cls = RX11 ∧ yX11_safe.cls ≠ "java/lang/invoke/MethodHandle" ∧ yX11_safe.cls ≠ "java/lang/invoke/VarHandle" ∧ (parseMethodDescriptor yX11_safe.desc).map (fun d => d.parameters.length) = some 0 := by decide +kernel
theorem hy_X11_tear : yX11_tear.cls = RX11 ∧ yX11_tear.cls ≠ "java/lang/invoke/MethodHandle" ∧ yX11_tear.cls ≠ "java/lang/invoke/VarHandle" ∧ (parseMethodDescriptor yX11_tear.desc).map (fun d => d.parameters.length) = some 1 := by decide +kernel
theorem hy_X11_text : yX11_text.cls = RX11 ∧ yX11_text.cls ≠ "java/lang/invoke/MethodHandle" ∧ yX11_text.cls ≠ "java/lang/invoke/VarHandle" ∧ (parseMethodDescriptor yX11_text.desc).map (fun d => d.parameters.length) = some 2 := by decide +kernel
theorem hy_X11_undo : yX11_undo.cls = RX11 ∧ yX11_undo.cls ≠ "java/lang/invoke/MethodHandle" ∧ yX11_undo.cls ≠ "java/lang/invoke/VarHandle" ∧ (parseMethodDescriptor yX11_undo.desc).map (fun d => d.parameters.length) = some 1 := by decide +kernel
theorem hy_X11_upper : yX11_upper.cls = RX11 ∧ yX11_upper.cls ≠ "java/lang/invoke/MethodHandle" ∧ yX11_upper.cls ≠ "java/lang/invoke/VarHandle" ∧ (parseMethodDescriptor yX11_upper.desc).map (fun d => d.parameters.length) = some 0 := by decide +kernel
theorem hy_X11_which : yX11_which.cls = RX11 ∧ yX11_which.cls ≠ "java/lang/invoke/MethodHandle" ∧ yX11_which.cls ≠ "java/lang/invoke/VarHandle" ∧ (parseMethodDescriptor yX11_which.desc).map (fun d => d.parameters.length) = some 2 := by decide +kernel
/-! THE LAW'S WALK: two worlds side by side, and the script -/
theorem P_mem {D : va_G} {cl : List vw_C} {ws : va_W} {H : Heap} : va_P D cl ws H ↔ ∀ q ∈ ws, va_at D cl q H := ⟨fun h q hq => by obtain ⟨k, hk⟩ := List.getElem?_of_mem hq; exact h k q hk, fun h k q hk => h q (List.mem_of_getElem? hk)⟩
theorem app_l {α : Type} {a b : List α} {i : Nat} {x : α} (h : a[i]? = some x) : (a ++ b)[i]? = some x := by
  rw [List.getElem?_append_left (List.getElem?_eq_some_iff.mp h).1]; exact h
theorem app_r {α : Type} {a b : List α} {i : Nat} {x : α} (h : b[i]? = some x) : (a ++ b)[a.length + i]? = some x := by
  rw [List.getElem?_append_right (Nat.le_add_right _ _), Nat.add_sub_cancel_left]; exact h
theorem D_l {A : Nat → Prop} {a b : va_W} (h : va_D A (a ++ b)) : va_D A a := ⟨fun i j p q hi hj e => h.1 i j p q (app_l hi) (app_l hj) e, fun k q hk => h.2 k q (app_l hk)⟩
theorem D_r {A : Nat → Prop} {a b : va_W} (h : va_D A (a ++ b)) : va_D A b := ⟨fun i j p q hi hj e => Nat.add_left_cancel (h.1 _ _ p q (app_r hi) (app_r hj) e), fun k q hk => h.2 _ q (app_r hk)⟩
theorem D_x {A : Nat → Prop} {a b : va_W} (h : va_D A (a ++ b)) : ∀ (i j : Nat) (p q : Nat × va_E), a[i]? = some p → b[j]? = some q → p.1 ≠ q.1 := fun i j p q hi hj e => by
  have h1 := h.1 _ _ p q (app_l hi) (app_r hj) e
  have h2 := (List.getElem?_eq_some_iff.mp hi).1
  omega
def Sx (K : Kx) (A : Nat → Prop) (b L : Nat) (xs : Nat → Int32) : Prop := va_X b L xs (ks K) (ks K).heap ∧ b < (ks K).heap.size ∧ ¬ A b
/-- an index of the script, and what number it is -/
def Ix (i : Int32) (L j : Nat) : Prop := vp_in i L ∧ i.toNatClampNeg = j
section KL
variable {K : Kx} {A : Nat → Prop} {ws : va_W} {cs sl : Nat} {cc : ByteArray} {own : String} {n mc ms : Nat} {pc : Nat} {lv lv' : List (Nat × Value)} {st rest : List Value}
theorem k_swap {a b : va_W} (kk : Wc K A (b ++ a) cs sl pc lv st) : Wc K A (a ++ b) cs sl pc lv st := fun H locs ls hP hD hS hl => kk H locs ls (P_mem.mpr (fun q hq => P_mem.mp hP q (List.mem_append.mpr (List.mem_append.mp hq).symm))) (va_D.app (D_r hD) (D_l hD) (fun i j p q hi hj e => D_x hD j i q p hj hi e.symm)) hS hl
theorem k_slen (C : Cc K A cc own n mc ms) {b L : Nat} {xs : Nat → Int32} (S : Sx K A b L xs) (d : decode cc pc = .ok (.arraylength, 1)) (kk : Wc K A ws cs sl (pc + 1) lv (.int (Int32.ofNat L) :: st)) : Wc K A ws cs sl pc lv (.ref b :: st) := fun H locs ls hP hD hS hl => va_slen C.1 C.2.1 S.1 S.2.1 S.2.2 hS d (kk H locs ls hP hD hS hl)
theorem k_sld (C : Cc K A cc own n mc ms) {b L j : Nat} {xs : Nat → Int32} {i : Int32} (S : Sx K A b L xs) (hi : Ix i L j) (d : decode cc pc = .ok (.iaload, 1)) (kk : Wc K A ws cs sl (pc + 1) lv (.int (xs j) :: st)) : Wc K A ws cs sl pc lv (.int i :: .ref b :: st) := by
  obtain ⟨h1, rfl⟩ := hi
  exact fun H locs ls hP hD hS hl => va_sld C.1 C.2.1 S.1 S.2.1 S.2.2 hS h1 d (kk H locs ls hP hD hS hl)
theorem k_isub (C : Cc K A cc own n mc ms) {x y : Int32} (d : decode cc pc = .ok (.isub, 1)) (kk : Wc K A ws cs sl (pc + 1) lv (.int (x - y) :: st)) : Wc K A ws cs sl pc lv (.int y :: .int x :: st) := fun H locs ls hP hD hS hl => lv_isub C.1 C.2.1 d (kk H locs ls hP hD hS hl)
theorem k_iand (C : Cc K A cc own n mc ms) {x y : Int32} (d : decode cc pc = .ok (.iand, 1)) (kk : Wc K A ws cs sl (pc + 1) lv (.int (x &&& y) :: st)) : Wc K A ws cs sl pc lv (.int y :: .int x :: st) := fun H locs ls hP hD hS hl => lv_iand C.1 C.2.1 d (kk H locs ls hP hD hS hl)
theorem k_pop (C : Cc K A cc own n mc ms) {a : Value} (d : decode cc pc = .ok (.pop, 1)) (h : a.category = 1) (kk : Wc K A ws cs sl (pc + 1) lv st) : Wc K A ws cs sl pc lv (a :: st) := fun H locs ls hP hD hS hl => lv_pop C.1 C.2.1 d h (kk H locs ls hP hD hS hl)
theorem k_pop2 (C : Cc K A cc own n mc ms) {a : Value} (d : decode cc pc = .ok (.pop2, 1)) (h : a.category = 2) (kk : Wc K A ws cs sl (pc + 1) lv st) : Wc K A ws cs sl pc lv (a :: st) := fun H locs ls hP hD hS hl => lv_pop2_2 C.1 C.2.1 d h (kk H locs ls hP hD hS hl)
theorem k_icmpeq (C : Cc K A cc own n mc ms) {x y : Int32} {off : Int} (tgt : Nat) (d : decode cc pc = .ok (.if_icmp .eq off, 3)) (ht : (pc : Int) + off = (tgt : Int)) (kt : x = y → Wc K A ws cs sl tgt lv st) (kf : ¬ x = y → Wc K A ws cs sl (pc + 3) lv st) : Wc K A ws cs sl pc lv (.int y :: .int x :: st) := fun H locs ls hP hD hS hl => lv_icmp_eq C.1 C.2.1 d ht (fun h => kt h H locs ls hP hD hS hl) (fun h => kf h H locs ls hP hD hS hl)
theorem k_lcmpeq (C : Cc K A cc own n mc ms) {x y : Int64} {off : Int} (tgt : Nat) (d0 : decode cc pc = .ok (.lcmp, 1)) (d : decode cc (pc + 1) = .ok (.ifCond .eq off, 3)) (ht : ((pc + 1 : Nat) : Int) + off = (tgt : Int)) (kt : x = y → Wc K A ws cs sl tgt lv st) (kf : ¬ x = y → Wc K A ws cs sl (pc + 1 + 3) lv st) : Wc K A ws cs sl pc lv (.long y :: .long x :: st) := fun H locs ls hP hD hS hl => W.lcmp C.1 C.2.1 d0 (lv_if_eq C.1 C.2.1 d ht (fun h => kt (lgc_eq.mp h) H locs ls hP hD hS hl) (fun h => kf (fun q => h (lgc_eq.mpr q)) H locs ls hP hD hS hl))
theorem k_tableOut (C : Cc K A cc own n mc ms) {dflt lo hi : Int} {offs : Array Int} {len : Nat} {x : Int32} (tgt : Nat) (d : decode cc pc = .ok (.tableswitch dflt lo hi offs, len)) (h : x.toInt < lo ∨ hi < x.toInt) (ht : (pc : Int) + dflt = (tgt : Int)) (kk : Wc K A ws cs sl tgt lv st) : Wc K A ws cs sl pc lv (.int x :: st) := fun H locs ls hP hD hS hl => lv_tableOut C.1 C.2.1 d h ht (kk H locs ls hP hD hS hl)
theorem k_tableIn (C : Cc K A cc own n mc ms) {dflt lo hi : Int} {offs : Array Int} {len : Nat} {x : Int32} {off : Int} (tgt : Nat) (d : decode cc pc = .ok (.tableswitch dflt lo hi offs, len)) (h1 : ¬ x.toInt < lo) (h2 : ¬ hi < x.toInt) (ho : offs[(x.toInt - lo).toNat]? = some off) (ht : (pc : Int) + off = (tgt : Int)) (kk : Wc K A ws cs sl tgt lv st) : Wc K A ws cs sl pc lv (.int x :: st) := fun H locs ls hP hD hS hl => lv_tableIn C.1 C.2.1 d h1 h2 ho ht (kk H locs ls hP hD hS hl)
/-- an instance method of an object of the memory layer; the rest of the world stays -/
theorem k_callL (C : Cc K A cc own n mc ms) {Y : mY} {ad : Nat → Nat} {σ τ : mS} {y : MethodName} {cd : ByteArray} {maxL nc ar i k ci : Nat} {ret : Option FieldType} {As : List Value} {v : Option Value} {fd : List Nat} {q : vw_C} {wr : va_W} (hJ : mJ Y ad) (hM : MetG (kl K) Y (kD K) ad (kcy K) y cd maxL ret nc (.ref (ad k) :: As) σ v τ) (hk : k ∈ Y.1) (hd : Y.2 k = .inl (ci, fd)) (hc : vwCl[ci]? = some q) (hy : y.cls = q.1 ∧ y.cls ≠ "java/lang/invoke/MethodHandle" ∧ y.cls ≠ "java/lang/invoke/VarHandle" ∧ (parseMethodDescriptor y.desc).map (fun d => d.parameters.length) = some ar) (hw : Cond.methodLink own i y ∈ mB ∧ Cond.instanceMethod y ∈ mB ∧ Cond.selects q.1 y y ∈ mB ∧ Cond.initialized q.1 ∈ mB ∧ Cond.code y cd maxL ret ∈ mB) (hn : nc < n) (hm : maxL ≤ 31) (h1 : cs ≤ mc) (h2 : sl ≤ ms) (ha : As.length = ar) (hst : st = As.reverse ++ .ref (ad k) :: rest) (hr : (rest.map fun v => v.category).sum ≤ 8) (d : decode cc pc = .ok (.invokevirtual i, 3)) (kk : Wc K A (mwo Y ad (kcy K) τ ++ wr) cs sl (pc + 3) lv (v.toList ++ rest)) : Wc K A (mwo Y ad (kcy K) σ ++ wr) cs sl pc lv st := by
  intro H locs ls hP hD hS hl T hT X
  have hPc : va_P (kD K) vwCl (mwo Y ad (kcy K) σ) H := P_mem.mpr (fun q hq => P_mem.mp hP q (List.mem_append_left _ hq))
  have hPr : va_P (kD K) vwCl wr H := P_mem.mpr (fun q hq => P_mem.mp hP q (List.mem_append_right _ hq))
  have hF2 : ∀ q, mA Y ad q → A q := fun q h => by
    obtain ⟨k, hk, rfl⟩ := h
    obtain ⟨i, -, he⟩ := mwo_at (ad := ad) (cy := kcy K) (σ := σ) hk rfl
    exact (D_l hD).2 i _ he
  have hX : ∀ q ∈ wr, ¬ mA Y ad q.1 := fun q hq h => by
    obtain ⟨k, hk, e⟩ := h
    obtain ⟨i, -, he⟩ := mwo_at (ad := ad) (cy := kcy K) (σ := σ) hk rfl
    obtain ⟨j, hj⟩ := List.getElem?_of_mem hq
    exact D_x hD i j _ q he hj e
  have hT2 : GoodIn mB (wsV own i q.1 y (.code y cd maxL ret :: mB)) := mB_in (fun _ h => h) (fun w h => by
    rcases List.mem_append.mp h with h | h
    · simp only [List.mem_cons, List.not_mem_nil, or_false] at h
      rcases h with rfl | rfl | rfl | rfl
      · exact hw.1
      · exact hw.2.1
      · exact hw.2.2.1
      · exact hw.2.2.2.1
    · rcases List.mem_cons.mp h with rfl | h
      · exact hw.2.2.2.2
      · exact h)
  obtain ⟨p0, hp0, he⟩ := mwo_at (ad := ad) (cy := kcy K) (σ := σ) hk hd
  have hroom : (rmN nc).frames + 1 ≤ (kR K).frames ∧ 8 + (maxL + 11) + (rmN nc).locals ≤ (kR K).locals := by
    refine ⟨Nat.le_trans hn C.2.2.2.2.2.2.2.2.1.1, Nat.le_trans ?_ C.2.2.2.2.2.2.2.2.1.2.2.2⟩
    show 8 + (maxL + 11) + 50 * nc ≤ 50 * n
    omega
  have hp : PreS (ks K) H (va_Pc (.ref (ad k) :: As) (Pg Y (kD K) ad (kcy K) σ)) (.ref (ad k) :: As) := ⟨Pg_blind, fun U hU hW => ⟨rfl, by rw [hU]; exact hPc, va_K.moved hW.alike C.2.2.2.2.2.1, mT_narrow hF2 (mT_warm hW (fun a h1 h2 => by rw [hU]; exact hS.2.1 a h1 h2) C.2.2.2.2.2.2.2.1)⟩⟩
  obtain ⟨v', st₀, t, T', L, h0, X', hL, e1, e2, ⟨hv, hP1, hz, hk9⟩, sg⟩ := va_runV (nL := kn K) (As := As) (rest := rest) (cells := cs) (slots := sl) (e := ke K) (below := kb K) (meth := kme K) (locs := locs) (g := F0 (km K) pc ls st) ⟨C.1, C.2.1, C.2.2.1, C.2.2.2.1, C.2.2.2.2.1⟩ hM (cwV ar C.2.2.2.2.1 hT2 rfl rfl rfl hy hroom) ⟨hp.1, va_recv C.2.2.2.2.2.1 hPc hc he, hp.2⟩ rfl ha hl.1 hst (lv_room hr) d ⟨Nat.le_trans h1 C.2.2.2.2.2.2.2.2.1.2.1, Nat.le_trans h2 C.2.2.2.2.2.2.2.2.1.2.2.1⟩ T hT X
  cases hv
  rw [h0] at hz hk9
  have hPr' : va_P (kD K) vwCl wr t.heap := P_mem.mpr (fun q hq => (P_mem.mp hPr q hq).kept (hk9 q.1 (P_mem.mp hPr q hq).lt (hX q hq)))
  have hD' : va_D A (mwo Y ad (kcy K) τ ++ wr) := va_D.app ((mwo_D hJ (kcy K) τ).weaken (fun _ q _ z => hF2 q.1 z)) (D_r hD) (fun i j p q hi hj e => hX q (List.mem_of_getElem? hj) (by rw [← e]; exact (mwo_D hJ (kcy K) τ).2 i p hi))
  obtain ⟨t2, a1, b1⟩ := kk T'.heap (locs ++ L) ls (by rw [e1]; exact va_P.app hP1 hPr') hD'
    ⟨Nat.le_trans hS.1 (by rw [e1]; exact hz), fun q h1 h2 => by rw [e1, hk9 q (Nat.lt_of_lt_of_le h1 hS.1) (fun z => h2 (hF2 q z))]; exact hS.2.1 q h1 h2, fun q hq => by
      rcases List.mem_append.mp hq with h | h
      · exact hS.2.2 q h
      · exact hF2 _ (hL q h)⟩ hl T' rfl X'
  exact ⟨t2, sg t2 a1, b1⟩
end KL
/-! numbers of the law's loop -/
theorem i32_ofNat {a : Nat} (h : a < 2147483648) : (Int32.ofNat a).toInt = (a : Int) := Int32.toInt_ofNat_of_lt h
theorem i32_lt {a : Nat} {x : Int32} (h : a < 2147483648) (e : x.toInt = (a : Int)) : x.toNatClampNeg = a ∧ ¬ x < 0 := by
  refine ⟨?_, fun q => ?_⟩
  · show x.toInt.toNat = a
    rw [e]; rfl
  · rw [Int32.lt_iff_toInt_lt, e] at q
    have h0 : (0 : Int32).toInt = 0 := by decide
    rw [h0] at q
    omega
theorem i32_bm {z : Int} (h1 : -2147483648 ≤ z) (h2 : z < 2147483648) : z.bmod (2 ^ 32) = z := Int.bmod_eq_of_le (by omega) (by omega)
theorem i32_add {x : Int32} {a : Nat} {y : Int32} {b : Nat} (hx : x.toInt = (a : Int)) (hy : y.toInt = (b : Int)) (h : a + b < 2147483648) : (x + y).toInt = ((a + b : Nat) : Int) := by
  rw [Int32.toInt_add, hx, hy, i32_bm (by omega) (by omega)]
  omega
theorem Ix_of {x : Int32} {L j : Nat} (e : x.toInt = (j : Int)) (h : j < L) (hL : L ≤ 3072) : Ix x L j := by
  obtain ⟨h1, h2⟩ := i32_lt (a := j) (by omega) e
  refine ⟨fun q => ?_, h1⟩
  rcases q with q | q
  · exact h2 q
  · rw [h1] at q
    omega
theorem lim_iff {L k : Nat} (hL : L ≤ 3072) (hk : 6 * k ≤ 3078) : (Int32.ofNat L - 6 < Int32.ofNat (6 * k)) ↔ L < 6 * k + 6 := by
  have h6 : (6 : Int32).toInt = 6 := by decide
  rw [Int32.lt_iff_toInt_lt, Int32.toInt_sub, i32_ofNat (by omega), i32_ofNat (by omega), h6, i32_bm (by omega) (by omega)]
  omega
/-! THE CLAIM OUT OF ONE WALK OF THE LAW'S BODY. Your part is whole_start (and what it stands on); all else here is the same for every law, but numbers. -/
def R_law : String := "CalledNumbersLaw"
def lw_P (b : Addr) (xs : List Int32) (args : Array Value) (s : State) : Prop := args = #[.ref b] ∧ s.IntsAt b xs ∧ xs.length ≤ 3072 ∧ (Jvm.Cond.and given_1 narrow_1).before args s = true
def lw_Q (_ : Array Value) (s : State) (o : Outcome) (t : State) : Prop := o = .returned (some (.int 1)) ∧ Framed s o t [] 600000 7302250
def lw_Z (below : List Frame) (a : Array Value) (s : State) : State → Prop := fun t => ∃ o, t.status = .running ∧ Ended t below o ∧ lw_Q a s o t
/-- the law's own end, with 1 on the stack, nothing written that was there before, its room as the claim has it -/
theorem lw_ret {p : Program} {l : Launch} {e : Env} {s : State} {m : MethodId} {below : List Frame} {meth : Method} {c : Code} {b : Nat} (hx : p.tables.exec = Jvm.exec) (hb : c.code = code) (hr : meth.sig.returnType = ret) (hlocks : meth.locks = false) {pc : Nat} {H : Heap} {ls : Array Slot} (hdg : decode code pc = .ok (.ireturn, 1)) : W p l e room_1 s m #[Value.ref b] below meth c H [] 600000 7302250 (lw_Z below #[Value.ref b] s) (F0 m pc ls [.int 1]) := by
  intro T hT X
  obtain ⟨fs, hret, hrun, hended, hW, hframe⟩ := X.leave (v := some (.int 1)) (hlocks := hlocks) (fun h => by rw [hr] at h; cases h)
  have hmeth' : T.vm.method? m = some meth := X.method'
  refine ⟨T.setFrames fs, ?_, .returned (some (.int 1)), hrun, hended, rfl, ⟨_, rfl⟩, hW, hframe⟩
  jvm_step X.here [X.here.top, hx, hb, hdg, hmeth', hr, ret, narrow_b1]
  (try refine ⟨rfl, ?_⟩); (try refine ⟨rfl, ?_⟩)
  first | (intro acts; rw [hret _ acts rfl rfl rfl]) | rw [hret _ _ rfl rfl rfl]
  exact Steps.refl _
/-- what holds at the law's entry: the machine, the code, the tables' words (any of lw_tbl by 'hts w (by decide +kernel)'), the script of L ints xs at the cell b, what the Statement gives of the start (any of its parts by flat_of_before) -/
def lw_At (p : Program) (s : State) (m : MethodId) (meth : Method) (c : Code) (b L : Nat) (xs : Nat → Int32) : Prop :=
  p.tables.exec = Jvm.exec ∧ c.code = code ∧ meth.sig.returnType = ret ∧ c.maxLocals = 4 ∧ s.vm.findClass R_law = some m.cls ∧ (∀ w ∈ lw_tbl, w.before #[Value.ref b] s = true) ∧ va_X b L xs s s.heap ∧ b < s.heap.size ∧ meth.locks = false ∧ (Jvm.Cond.and given_1 narrow_1).before #[Value.ref b] s = true
