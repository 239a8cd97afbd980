theorem gWs_t0 {w : Cond} (h : w ∈ k2_sels lw_privs) (hg : goodWord w = true) : w ∈ gWs := gWs_in (List.mem_append_left _ h) hg
theorem gWs_t1 {w : Cond} (h : w ∈ tables_1_1) (hg : goodWord w = true) : w ∈ gWs := gWs_in (List.mem_append_right _ (List.mem_append_left _ h)) hg
theorem gWs_t2 {w : Cond} (h : w ∈ tables_1_2) (hg : goodWord w = true) : w ∈ gWs := gWs_in (List.mem_append_right _ (List.mem_append_right _ (List.mem_append_left _ h))) hg
theorem gWs_t3 {w : Cond} (h : w ∈ tables_1_3) (hg : goodWord w = true) : w ∈ gWs := gWs_in (List.mem_append_right _ (List.mem_append_right _ (List.mem_append_right _ (List.mem_append_left _ h)))) hg
theorem gWs_t4 {w : Cond} (h : w ∈ tables_1_4) (hg : goodWord w = true) : w ∈ gWs := gWs_in (List.mem_append_right _ (List.mem_append_right _ (List.mem_append_right _ (List.mem_append_right _ (List.mem_append_left _ h))))) hg
theorem gWs_t5 {w : Cond} (h : w ∈ tables_1_5) (hg : goodWord w = true) : w ∈ gWs := gWs_in (List.mem_append_right _ (List.mem_append_right _ (List.mem_append_right _ (List.mem_append_right _ (List.mem_append_right _ (List.mem_append_left _ h)))))) hg
theorem gWs_t6 {w : Cond} (h : w ∈ tables_1_6) (hg : goodWord w = true) : w ∈ gWs := gWs_in (List.mem_append_right _ (List.mem_append_right _ (List.mem_append_right _ (List.mem_append_right _ (List.mem_append_right _ (List.mem_append_right _ (List.mem_append_left _ h))))))) hg
theorem gWs_t7 {w : Cond} (h : w ∈ tables_1_7) (hg : goodWord w = true) : w ∈ gWs := gWs_in (List.mem_append_right _ (List.mem_append_right _ (List.mem_append_right _ (List.mem_append_right _ (List.mem_append_right _ (List.mem_append_right _ (List.mem_append_right _ h))))))) hg
theorem wV_X9_isBlank : Cond.selects RX9 yX9_isBlank yX9_isBlank ∈ gWs := gWs_t0 (List.mem_of_getElem? (i := 0) rfl) rfl
theorem wV_X9_here : Cond.selects RX9 yX9_here yX9_here ∈ gWs := gWs_t0 (List.mem_of_getElem? (i := 1) rfl) rfl
theorem wV_X9_isLetter : Cond.selects RX9 yX9_isLetter yX9_isLetter ∈ gWs := gWs_t0 (List.mem_of_getElem? (i := 2) rfl) rfl
theorem wV_X9_cutWord : Cond.selects RX9 yX9_cutWord yX9_cutWord ∈ gWs := gWs_t0 (List.mem_of_getElem? (i := 3) rfl) rfl
theorem wV_X9_languageWord : Cond.selects RX9 yX9_languageWord yX9_languageWord ∈ gWs := gWs_t0 (List.mem_of_getElem? (i := 4) rfl) rfl
theorem wV_X9_spells : Cond.selects RX9 yX9_spells yX9_spells ∈ gWs := gWs_t0 (List.mem_of_getElem? (i := 5) rfl) rfl
theorem wV_X9_put : Cond.selects RX9 yX9_put yX9_put ∈ gWs := gWs_t0 (List.mem_of_getElem? (i := 6) rfl) rfl
theorem wV_X9_isDigit : Cond.selects RX9 yX9_isDigit yX9_isDigit ∈ gWs := gWs_t0 (List.mem_of_getElem? (i := 7) rfl) rfl
theorem wV_X9_cutDigits : Cond.selects RX9 yX9_cutDigits yX9_cutDigits ∈ gWs := gWs_t0 (List.mem_of_getElem? (i := 8) rfl) rfl
theorem wV_X9_cutSign : Cond.selects RX9 yX9_cutSign yX9_cutSign ∈ gWs := gWs_t0 (List.mem_of_getElem? (i := 9) rfl) rfl
theorem wV_X5_readLine : Cond.selects RX5 yX5_readLine yX5_readLine ∈ gWs := gWs_t0 (List.mem_of_getElem? (i := 10) rfl) rfl
theorem wV_X5_readSetting : Cond.selects RX5 yX5_readSetting yX5_readSetting ∈ gWs := gWs_t0 (List.mem_of_getElem? (i := 11) rfl) rfl
theorem wV_X5_refuse : Cond.selects RX5 yX5_refuse yX5_refuse ∈ gWs := gWs_t0 (List.mem_of_getElem? (i := 12) rfl) rfl
theorem wV_X5_takeNumber : Cond.selects RX5 yX5_takeNumber yX5_takeNumber ∈ gWs := gWs_t0 (List.mem_of_getElem? (i := 13) rfl) rfl
theorem wV_X5_readOwn : Cond.selects RX5 yX5_readOwn yX5_readOwn ∈ gWs := gWs_t0 (List.mem_of_getElem? (i := 14) rfl) rfl
theorem wV_X5_takeNewName : Cond.selects RX5 yX5_takeNewName yX5_takeNewName ∈ gWs := gWs_t0 (List.mem_of_getElem? (i := 15) rfl) rfl
theorem wV_X5_readAt : Cond.selects RX5 yX5_readAt yX5_readAt ∈ gWs := gWs_t0 (List.mem_of_getElem? (i := 16) rfl) rfl
theorem wV_X5_takeFunction : Cond.selects RX5 yX5_takeFunction yX5_takeFunction ∈ gWs := gWs_t0 (List.mem_of_getElem? (i := 17) rfl) rfl
theorem wV_X5_takeSigned : Cond.selects RX5 yX5_takeSigned yX5_takeSigned ∈ gWs := gWs_t0 (List.mem_of_getElem? (i := 18) rfl) rfl
theorem wV_X5_readPair : Cond.selects RX5 yX5_readPair yX5_readPair ∈ gWs := gWs_t0 (List.mem_of_getElem? (i := 19) rfl) rfl
theorem wV_X5_addTimes : Cond.selects RX5 yX5_addTimes yX5_addTimes ∈ gWs := gWs_t0 (List.mem_of_getElem? (i := 20) rfl) rfl
theorem wV_X5_addPoint : Cond.selects RX5 yX5_addPoint yX5_addPoint ∈ gWs := gWs_t0 (List.mem_of_getElem? (i := 21) rfl) rfl
theorem wV_X5_readOver : Cond.selects RX5 yX5_readOver yX5_readOver ∈ gWs := gWs_t0 (List.mem_of_getElem? (i := 22) rfl) rfl
theorem wV_X5_readTwist : Cond.selects RX5 yX5_readTwist yX5_readTwist ∈ gWs := gWs_t0 (List.mem_of_getElem? (i := 23) rfl) rfl
theorem wV_X5_takeStop : Cond.selects RX5 yX5_takeStop yX5_takeStop ∈ gWs := gWs_t0 (List.mem_of_getElem? (i := 24) rfl) rfl
theorem wV_X10_putNumbers : Cond.selects RX10 yX10_putNumbers yX10_putNumbers ∈ gWs := gWs_t0 (List.mem_of_getElem? (i := 25) rfl) rfl
theorem wV_X10_isPlace : Cond.selects RX10 yX10_isPlace yX10_isPlace ∈ gWs := gWs_t0 (List.mem_of_getElem? (i := 26) rfl) rfl
theorem wV_X4_cellOf : Cond.selects RX4 yX4_cellOf yX4_cellOf ∈ gWs := gWs_t0 (List.mem_of_getElem? (i := 27) rfl) rfl
theorem wV_X4_crossed : Cond.selects RX4 yX4_crossed yX4_crossed ∈ gWs := gWs_t0 (List.mem_of_getElem? (i := 28) rfl) rfl
theorem wV_X4_knownCell : Cond.selects RX4 yX4_knownCell yX4_knownCell ∈ gWs := gWs_t0 (List.mem_of_getElem? (i := 29) rfl) rfl
theorem wV_X10_isReach : Cond.selects RX10 yX10_isReach yX10_isReach ∈ gWs := gWs_t0 (List.mem_of_getElem? (i := 30) rfl) rfl
theorem wV_X7_rowOf : Cond.selects RX7 yX7_rowOf yX7_rowOf ∈ gWs := gWs_t0 (List.mem_of_getElem? (i := 31) rfl) rfl
theorem wV_X8_markFrom : Cond.selects RX8 yX8_markFrom yX8_markFrom ∈ gWs := gWs_t0 (List.mem_of_getElem? (i := 32) rfl) rfl
theorem wV_X7_fill : Cond.selects RX7 yX7_fill yX7_fill ∈ gWs := gWs_t0 (List.mem_of_getElem? (i := 33) rfl) rfl
theorem wV_X10_powerOf : Cond.selects RX10 yX10_powerOf yX10_powerOf ∈ gWs := gWs_t0 (List.mem_of_getElem? (i := 34) rfl) rfl
theorem wV_X1_counted : Cond.selects RX1 yX1_counted yX1_counted ∈ gWs := gWs_t0 (List.mem_of_getElem? (i := 35) rfl) rfl
theorem wV_X10_isRest : Cond.selects RX10 yX10_isRest yX10_isRest ∈ gWs := gWs_t0 (List.mem_of_getElem? (i := 36) rfl) rfl
theorem wV_X10_doPart : Cond.selects RX10 yX10_doPart yX10_doPart ∈ gWs := gWs_t0 (List.mem_of_getElem? (i := 37) rfl) rfl
theorem wV_X10_placeIn : Cond.selects RX10 yX10_placeIn yX10_placeIn ∈ gWs := gWs_t0 (List.mem_of_getElem? (i := 38) rfl) rfl
theorem wV_X11_freshText : Cond.selects RX11 yX11_freshText yX11_freshText ∈ gWs := gWs_t0 (List.mem_of_getElem? (i := 40) rfl) rfl
theorem wV_X11_reads : Cond.selects RX11 yX11_reads yX11_reads ∈ gWs := gWs_t0 (List.mem_of_getElem? (i := 41) rfl) rfl
theorem wV_X11_takeText : Cond.selects RX11 yX11_takeText yX11_takeText ∈ gWs := gWs_t0 (List.mem_of_getElem? (i := 42) rfl) rfl
theorem wV_X11_reading : Cond.selects RX11 yX11_reading yX11_reading ∈ gWs := gWs_t0 (List.mem_of_getElem? (i := 43) rfl) rfl
theorem wV_X11_begins : Cond.selects RX11 yX11_begins yX11_begins ∈ gWs := gWs_t0 (List.mem_of_getElem? (i := 44) rfl) rfl
theorem wV_X11_sieves : Cond.selects RX11 yX11_sieves yX11_sieves ∈ gWs := gWs_t0 (List.mem_of_getElem? (i := 45) rfl) rfl
theorem wV_X11_isPrime : Cond.selects RX11 yX11_isPrime yX11_isPrime ∈ gWs := gWs_t0 (List.mem_of_getElem? (i := 46) rfl) rfl
theorem wV_X11_forgets : Cond.selects RX11 yX11_forgets yX11_forgets ∈ gWs := gWs_t0 (List.mem_of_getElem? (i := 47) rfl) rfl
theorem wV_X11_readText : Cond.selects RX11 yX11_readText yX11_readText ∈ gWs := gWs_t0 (List.mem_of_getElem? (i := 48) rfl) rfl
theorem wV_X11_token : Cond.selects RX11 yX11_token yX11_token ∈ gWs := gWs_t0 (List.mem_of_getElem? (i := 49) rfl) rfl
theorem wV_X11_here : Cond.selects RX11 yX11_here yX11_here ∈ gWs := gWs_t0 (List.mem_of_getElem? (i := 50) rfl) rfl
theorem wV_X11_wordHere : Cond.selects RX11 yX11_wordHere yX11_wordHere ∈ gWs := gWs_t0 (List.mem_of_getElem? (i := 51) rfl) rfl
theorem wV_X11_nameHere : Cond.selects RX11 yX11_nameHere yX11_nameHere ∈ gWs := gWs_t0 (List.mem_of_getElem? (i := 52) rfl) rfl
theorem wV_X11_digits : Cond.selects RX11 yX11_digits yX11_digits ∈ gWs := gWs_t0 (List.mem_of_getElem? (i := 53) rfl) rfl
theorem wV_X11_readLine : Cond.selects RX11 yX11_readLine yX11_readLine ∈ gWs := gWs_t0 (List.mem_of_getElem? (i := 54) rfl) rfl
theorem wV_X11_wrong : Cond.selects RX11 yX11_wrong yX11_wrong ∈ gWs := gWs_t0 (List.mem_of_getElem? (i := 55) rfl) rfl
theorem wV_X11_readOnce : Cond.selects RX11 yX11_readOnce yX11_readOnce ∈ gWs := gWs_t0 (List.mem_of_getElem? (i := 56) rfl) rfl
theorem wV_X11_goOn : Cond.selects RX11 yX11_goOn yX11_goOn ∈ gWs := gWs_t0 (List.mem_of_getElem? (i := 57) rfl) rfl
theorem wV_X11_numeralOf : Cond.selects RX11 yX11_numeralOf yX11_numeralOf ∈ gWs := gWs_t0 (List.mem_of_getElem? (i := 58) rfl) rfl
theorem wV_X11_readFunction : Cond.selects RX11 yX11_readFunction yX11_readFunction ∈ gWs := gWs_t0 (List.mem_of_getElem? (i := 59) rfl) rfl
theorem wV_X11_functionsRead : Cond.selects RX11 yX11_functionsRead yX11_functionsRead ∈ gWs := gWs_t0 (List.mem_of_getElem? (i := 60) rfl) rfl
theorem wV_X11_namedAt : Cond.selects RX11 yX11_namedAt yX11_namedAt ∈ gWs := gWs_t0 (List.mem_of_getElem? (i := 61) rfl) rfl
theorem wV_X11_readFirst : Cond.selects RX11 yX11_readFirst yX11_readFirst ∈ gWs := gWs_t0 (List.mem_of_getElem? (i := 62) rfl) rfl
theorem wV_X11_functionHere : Cond.selects RX11 yX11_functionHere yX11_functionHere ∈ gWs := gWs_t0 (List.mem_of_getElem? (i := 63) rfl) rfl
theorem wV_X11_readSecond : Cond.selects RX11 yX11_readSecond yX11_readSecond ∈ gWs := gWs_t0 (List.mem_of_getElem? (i := 64) rfl) rfl
theorem wV_X11_readSign : Cond.selects RX11 yX11_readSign yX11_readSign ∈ gWs := gWs_t0 (List.mem_of_getElem? (i := 65) rfl) rfl
theorem wV_X11_readAt : Cond.selects RX11 yX11_readAt yX11_readAt ∈ gWs := gWs_t0 (List.mem_of_getElem? (i := 66) rfl) rfl
theorem wV_X11_functions : Cond.selects RX11 yX11_functions yX11_functions ∈ gWs := gWs_t0 (List.mem_of_getElem? (i := 67) rfl) rfl
theorem wV_X11_laysBack : Cond.selects RX11 yX11_laysBack yX11_laysBack ∈ gWs := gWs_t0 (List.mem_of_getElem? (i := 68) rfl) rfl
theorem wV_X11_lays : Cond.selects RX11 yX11_lays yX11_lays ∈ gWs := gWs_t0 (List.mem_of_getElem? (i := 69) rfl) rfl
theorem wV_X11_isFunction : Cond.selects RX11 yX11_isFunction yX11_isFunction ∈ gWs := gWs_t0 (List.mem_of_getElem? (i := 70) rfl) rfl
theorem wV_X11_isOwn : Cond.selects RX11 yX11_isOwn yX11_isOwn ∈ gWs := gWs_t0 (List.mem_of_getElem? (i := 71) rfl) rfl
theorem wV_X11_remembers : Cond.selects RX11 yX11_remembers yX11_remembers ∈ gWs := gWs_t0 (List.mem_of_getElem? (i := 72) rfl) rfl
theorem wV_X11_laysPowers : Cond.selects RX11 yX11_laysPowers yX11_laysPowers ∈ gWs := gWs_t0 (List.mem_of_getElem? (i := 73) rfl) rfl
theorem wV_X11_rest : Cond.selects RX11 yX11_rest yX11_rest ∈ gWs := gWs_t0 (List.mem_of_getElem? (i := 74) rfl) rfl
theorem wV_X11_known : Cond.selects RX11 yX11_known yX11_known ∈ gWs := gWs_t0 (List.mem_of_getElem? (i := 75) rfl) rfl
theorem wV_X11_ownAt : Cond.selects RX11 yX11_ownAt yX11_ownAt ∈ gWs := gWs_t0 (List.mem_of_getElem? (i := 76) rfl) rfl
theorem wV_X11_together : Cond.selects RX11 yX11_together yX11_together ∈ gWs := gWs_t0 (List.mem_of_getElem? (i := 77) rfl) rfl
theorem wV_X11_over : Cond.selects RX11 yX11_over yX11_over ∈ gWs := gWs_t0 (List.mem_of_getElem? (i := 78) rfl) rfl
theorem wV_X11_isIn : Cond.selects RX11 yX11_isIn yX11_isIn ∈ gWs := gWs_t0 (List.mem_of_getElem? (i := 79) rfl) rfl
theorem wV_X11_valueAt : Cond.selects RX11 yX11_valueAt yX11_valueAt ∈ gWs := gWs_t0 (List.mem_of_getElem? (i := 80) rfl) rfl
theorem wV_X11_laysSums : Cond.selects RX11 yX11_laysSums yX11_laysSums ∈ gWs := gWs_t0 (List.mem_of_getElem? (i := 81) rfl) rfl
theorem wV_X11_laysValues : Cond.selects RX11 yX11_laysValues yX11_laysValues ∈ gWs := gWs_t0 (List.mem_of_getElem? (i := 82) rfl) rfl
theorem wV_X11_laysBlocks : Cond.selects RX11 yX11_laysBlocks yX11_laysBlocks ∈ gWs := gWs_t0 (List.mem_of_getElem? (i := 83) rfl) rfl
theorem wV_X11_firstOf : Cond.selects RX11 yX11_firstOf yX11_firstOf ∈ gWs := gWs_t0 (List.mem_of_getElem? (i := 84) rfl) rfl
theorem wV_X11_laysInBlocks : Cond.selects RX11 yX11_laysInBlocks yX11_laysInBlocks ∈ gWs := gWs_t0 (List.mem_of_getElem? (i := 85) rfl) rfl
theorem wV_X11_laysAtQuotients : Cond.selects RX11 yX11_laysAtQuotients yX11_laysAtQuotients ∈ gWs := gWs_t0 (List.mem_of_getElem? (i := 86) rfl) rfl
theorem wV_X11_acrossBlocks : Cond.selects RX11 yX11_acrossBlocks yX11_acrossBlocks ∈ gWs := gWs_t0 (List.mem_of_getElem? (i := 87) rfl) rfl
theorem wV_X11_laysCoprime : Cond.selects RX11 yX11_laysCoprime yX11_laysCoprime ∈ gWs := gWs_t0 (List.mem_of_getElem? (i := 88) rfl) rfl
theorem wV_X11_laysPhi : Cond.selects RX11 yX11_laysPhi yX11_laysPhi ∈ gWs := gWs_t0 (List.mem_of_getElem? (i := 89) rfl) rfl
theorem wV_X11_laysKinds : Cond.selects RX11 yX11_laysKinds yX11_laysKinds ∈ gWs := gWs_t0 (List.mem_of_getElem? (i := 90) rfl) rfl
theorem wV_X11_without : Cond.selects RX11 yX11_without yX11_without ∈ gWs := gWs_t0 (List.mem_of_getElem? (i := 91) rfl) rfl
theorem wV_X11_isRest : Cond.selects RX11 yX11_isRest yX11_isRest ∈ gWs := gWs_t0 (List.mem_of_getElem? (i := 92) rfl) rfl
theorem wV_X11_isPowerOfPrime : Cond.selects RX11 yX11_isPowerOfPrime yX11_isPowerOfPrime ∈ gWs := gWs_t0 (List.mem_of_getElem? (i := 93) rfl) rfl
theorem wV_X11_draw : Cond.selects RX11 yX11_draw yX11_draw ∈ gWs := gWs_t0 (List.mem_of_getElem? (i := 94) rfl) rfl
theorem wV_X11_ownMany : Cond.selects RX11 yX11_ownMany yX11_ownMany ∈ gWs := gWs_t0 (List.mem_of_getElem? (i := 95) rfl) rfl
theorem wV_X11_greatestPrime : Cond.selects RX11 yX11_greatestPrime yX11_greatestPrime ∈ gWs := gWs_t0 (List.mem_of_getElem? (i := 96) rfl) rfl
theorem wN_L : Cond.initialized RL ∈ gWs := gWs_t1 (List.mem_of_getElem? (i := 0) rfl) rfl
theorem wN_X10 : Cond.initialized RX10 ∈ gWs := gWs_t1 (List.mem_of_getElem? (i := 1) rfl) rfl
theorem wN_X3 : Cond.initialized RX3 ∈ gWs := gWs_t1 (List.mem_of_getElem? (i := 2) rfl) rfl
theorem wN_J7 : Cond.initialized RJ7 ∈ gWs := gWs_t1 (List.mem_of_getElem? (i := 3) rfl) rfl
theorem wN_J0 : Cond.initialized RJ0 ∈ gWs := gWs_t1 (List.mem_of_getElem? (i := 4) rfl) rfl
theorem wN_J1 : Cond.initialized RJ1 ∈ gWs := gWs_t1 (List.mem_of_getElem? (i := 5) rfl) rfl
theorem wN_J3 : Cond.initialized RJ3 ∈ gWs := gWs_t1 (List.mem_of_getElem? (i := 6) rfl) rfl
theorem wN_J2 : Cond.initialized RJ2 ∈ gWs := gWs_t1 (List.mem_of_getElem? (i := 7) rfl) rfl
theorem wN_X5 : Cond.initialized RX5 ∈ gWs := gWs_t1 (List.mem_of_getElem? (i := 8) rfl) rfl
theorem wN_X9 : Cond.initialized RX9 ∈ gWs := gWs_t1 (List.mem_of_getElem? (i := 9) rfl) rfl
theorem wN_X0 : Cond.initialized RX0 ∈ gWs := gWs_t1 (List.mem_of_getElem? (i := 10) rfl) rfl
theorem wN_X2 : Cond.initialized RX2 ∈ gWs := gWs_t1 (List.mem_of_getElem? (i := 11) rfl) rfl
theorem wN_X7 : Cond.initialized RX7 ∈ gWs := gWs_t1 (List.mem_of_getElem? (i := 12) rfl) rfl
theorem wN_X8 : Cond.initialized RX8 ∈ gWs := gWs_t1 (List.mem_of_getElem? (i := 13) rfl) rfl
theorem wN_X4 : Cond.initialized RX4 ∈ gWs := gWs_t1 (List.mem_of_getElem? (i := 14) rfl) rfl
theorem wN_X6 : Cond.initialized RX6 ∈ gWs := gWs_t1 (List.mem_of_getElem? (i := 15) rfl) rfl
theorem wN_X1 : Cond.initialized RX1 ∈ gWs := gWs_t1 (List.mem_of_getElem? (i := 16) rfl) rfl
theorem wN_X11 : Cond.initialized RX11 ∈ gWs := gWs_t1 (List.mem_of_getElem? (i := 17) rfl) rfl
theorem wN_J9 : Cond.initialized RJ9 ∈ gWs := gWs_t1 (List.mem_of_getElem? (i := 18) rfl) rfl
theorem wN_J10 : Cond.initialized RJ10 ∈ gWs := gWs_t1 (List.mem_of_getElem? (i := 24) rfl) rfl
theorem wL_L_8 : Cond.classLink RL 8 RX10 ∈ gWs := gWs_t1 (List.mem_of_getElem? (i := 25) rfl) rfl
theorem wT_X10 : Cond.instantiable RX10 6 ∈ gWs := gWs_t1 (List.mem_of_getElem? (i := 26) rfl) rfl
theorem wM_L_17 : Cond.methodLink RL 17 yX10_init ∈ gWs := gWs_t1 (List.mem_of_getElem? (i := 27) rfl) rfl
theorem wI_X10_init : Cond.instanceMethod yX10_init ∈ gWs := gWs_t1 (List.mem_of_getElem? (i := 28) rfl) rfl
theorem wC_X10_init : Cond.code yX10_init cX10_init 1 (none) ∈ gWs := gWs_t1 (List.mem_of_getElem? (i := 29) rfl) rfl
theorem wM_X10_1 : Cond.methodLink RX10 1 objectInit ∈ gWs := gWs_t1 (List.mem_of_getElem? (i := 30) rfl) rfl
theorem wI_O : Cond.instanceMethod objectInit ∈ gWs := gWs_t1 (List.mem_of_getElem? (i := 31) rfl) rfl
theorem wC_O : Cond.code objectInit ⟨#[0xb1]⟩ 1 none ∈ gWs := gWs_t1 (List.mem_of_getElem? (i := 32) rfl) rfl
theorem wL_X10_7 : Cond.classLink RX10 7 RX3 ∈ gWs := gWs_t1 (List.mem_of_getElem? (i := 33) rfl) rfl
theorem wT_X3 : Cond.instantiable RX3 12 ∈ gWs := gWs_t1 (List.mem_of_getElem? (i := 34) rfl) rfl
theorem wM_X10_9 : Cond.methodLink RX10 9 yX3_init ∈ gWs := gWs_t1 (List.mem_of_getElem? (i := 35) rfl) rfl
theorem wI_X3_init : Cond.instanceMethod yX3_init ∈ gWs := gWs_t1 (List.mem_of_getElem? (i := 36) rfl) rfl
theorem wC_X3_init : Cond.code yX3_init cX3_init 1 (none) ∈ gWs := gWs_t1 (List.mem_of_getElem? (i := 37) rfl) rfl
theorem wM_X3_3 : Cond.methodLink RX3 3 objectInit ∈ gWs := gWs_t1 (List.mem_of_getElem? (i := 38) rfl) rfl
theorem wM_X3_36 : Cond.methodLink RX3 36 yX3_reset ∈ gWs := gWs_t1 (List.mem_of_getElem? (i := 39) rfl) rfl
theorem wI_X3_reset : Cond.instanceMethod yX3_reset ∈ gWs := gWs_t1 (List.mem_of_getElem? (i := 40) rfl) rfl
theorem wV_X3_reset : Cond.selects RX3 yX3_reset yX3_reset ∈ gWs := gWs_t1 (List.mem_of_getElem? (i := 41) rfl) rfl
theorem wC_X3_reset : Cond.code yX3_reset cX3_reset 2 (none) ∈ gWs := gWs_t1 (List.mem_of_getElem? (i := 42) rfl) rfl
theorem wK_X3_43 : Cond.constant RX3 43 (1000003) ∈ gWs := gWs_t1 (List.mem_of_getElem? (i := 43) rfl) rfl
theorem wM_X3_53 : Cond.methodLink RX3 53 yJ7_fill_53178 ∈ gWs := gWs_t1 (List.mem_of_getElem? (i := 44) rfl) rfl
theorem wS_J7_fill_53178 : Cond.static yJ7_fill_53178 ∈ gWs := gWs_t1 (List.mem_of_getElem? (i := 45) rfl) rfl
theorem wC_J7_fill_53178 : Cond.code yJ7_fill_53178 cJ7_fill_53178 4 (none) ∈ gWs := gWs_t1 (List.mem_of_getElem? (i := 46) rfl) rfl
theorem wM_X3_59 : Cond.methodLink RX3 59 yX3_knownName ∈ gWs := gWs_t1 (List.mem_of_getElem? (i := 47) rfl) rfl
theorem wS_X3_knownName : Cond.static yX3_knownName ∈ gWs := gWs_t1 (List.mem_of_getElem? (i := 48) rfl) rfl
theorem wC_X3_knownName : Cond.code yX3_knownName cX3_knownName 4 (some .int) ∈ gWs := gWs_t1 (List.mem_of_getElem? (i := 49) rfl) rfl
theorem wM_X3_72 : Cond.methodLink RX3 72 yJ0_charAt_5068e ∈ gWs := gWs_t1 (List.mem_of_getElem? (i := 51) rfl) rfl
theorem wI_J0_charAt_5068e : Cond.instanceMethod yJ0_charAt_5068e ∈ gWs := gWs_t1 (List.mem_of_getElem? (i := 52) rfl) rfl
theorem wV_J0_charAt_5068e : Cond.selects RJ0 yJ0_charAt_5068e yJ0_charAt_5068e ∈ gWs := gWs_t1 (List.mem_of_getElem? (i := 53) rfl) rfl
theorem wC_J0_charAt_5068e : Cond.code yJ0_charAt_5068e cJ0_charAt_5068e 2 (some .char) ∈ gWs := gWs_t1 (List.mem_of_getElem? (i := 54) rfl) rfl
theorem wM_J0_492 : Cond.methodLink RJ0 492 yJ0_isLatin1_aae02 ∈ gWs := gWs_t1 (List.mem_of_getElem? (i := 55) rfl) rfl
theorem wI_J0_isLatin1_aae02 : Cond.instanceMethod yJ0_isLatin1_aae02 ∈ gWs := gWs_t1 (List.mem_of_getElem? (i := 56) rfl) rfl
theorem wV_J0_isLatin1_aae02 : Cond.selects RJ0 yJ0_isLatin1_aae02 yJ0_isLatin1_aae02 ∈ gWs := gWs_t1 (List.mem_of_getElem? (i := 57) rfl) rfl
theorem wC_J0_isLatin1_aae02 : Cond.code yJ0_isLatin1_aae02 cJ0_isLatin1_aae02 1 (some .boolean) ∈ gWs := gWs_t1 (List.mem_of_getElem? (i := 58) rfl) rfl
theorem wF_J0_38 : Cond.fieldLink RJ0 38 "java/lang/String" "COMPACT_STRINGS" "Z" ∈ gWs := gWs_t1 (List.mem_of_getElem? (i := 59) rfl) rfl
theorem wM_J0_495 : Cond.methodLink RJ0 495 yJ1_charAt_3b067 ∈ gWs := gWs_t1 (List.mem_of_getElem? (i := 61) rfl) rfl
theorem wS_J1_charAt_3b067 : Cond.static yJ1_charAt_3b067 ∈ gWs := gWs_t1 (List.mem_of_getElem? (i := 62) rfl) rfl
theorem wC_J1_charAt_3b067 : Cond.code yJ1_charAt_3b067 cJ1_charAt_3b067 2 (some .char) ∈ gWs := gWs_t1 (List.mem_of_getElem? (i := 63) rfl) rfl
theorem wM_J1_9 : Cond.methodLink RJ1 9 yJ0_checkIndex_df160 ∈ gWs := gWs_t1 (List.mem_of_getElem? (i := 64) rfl) rfl
theorem wS_J0_checkIndex_df160 : Cond.static yJ0_checkIndex_df160 ∈ gWs := gWs_t1 (List.mem_of_getElem? (i := 65) rfl) rfl
theorem wC_J0_checkIndex_df160 : Cond.code yJ0_checkIndex_df160 cJ0_checkIndex_df160 2 (none) ∈ gWs := gWs_t1 (List.mem_of_getElem? (i := 66) rfl) rfl
theorem wF_J0_1053 : Cond.fieldLink RJ0 1053 "jdk/internal/util/Preconditions" "SIOOBE_FORMATTER" "Ljava/util/function/BiFunction;" ∈ gWs := gWs_t1 (List.mem_of_getElem? (i := 67) rfl) rfl
theorem wM_J0_1059 : Cond.methodLink RJ0 1059 yJ3_checkIndex_8e157 ∈ gWs := gWs_t1 (List.mem_of_getElem? (i := 69) rfl) rfl
theorem wS_J3_checkIndex_8e157 : Cond.static yJ3_checkIndex_8e157 ∈ gWs := gWs_t1 (List.mem_of_getElem? (i := 70) rfl) rfl
theorem wC_J3_checkIndex_8e157 : Cond.code yJ3_checkIndex_8e157 cJ3_checkIndex_8e157 3 (some .int) ∈ gWs := gWs_t1 (List.mem_of_getElem? (i := 71) rfl) rfl
theorem wM_J0_498 : Cond.methodLink RJ0 498 yJ2_charAt_3b067 ∈ gWs := gWs_t1 (List.mem_of_getElem? (i := 72) rfl) rfl
theorem wS_J2_charAt_3b067 : Cond.static yJ2_charAt_3b067 ∈ gWs := gWs_t1 (List.mem_of_getElem? (i := 73) rfl) rfl
theorem wC_J2_charAt_3b067 : Cond.code yJ2_charAt_3b067 cJ2_charAt_3b067 2 (some .char) ∈ gWs := gWs_t1 (List.mem_of_getElem? (i := 74) rfl) rfl
theorem wM_J2_67 : Cond.methodLink RJ2 67 yJ2_checkIndex_2214a ∈ gWs := gWs_t1 (List.mem_of_getElem? (i := 75) rfl) rfl
theorem wS_J2_checkIndex_2214a : Cond.static yJ2_checkIndex_2214a ∈ gWs := gWs_t1 (List.mem_of_getElem? (i := 76) rfl) rfl
theorem wC_J2_checkIndex_2214a : Cond.code yJ2_checkIndex_2214a cJ2_checkIndex_2214a 2 (none) ∈ gWs := gWs_t1 (List.mem_of_getElem? (i := 77) rfl) rfl
theorem wM_J2_48 : Cond.methodLink RJ2 48 yJ2_length_9d52b ∈ gWs := gWs_t1 (List.mem_of_getElem? (i := 78) rfl) rfl
theorem wS_J2_length_9d52b : Cond.static yJ2_length_9d52b ∈ gWs := gWs_t1 (List.mem_of_getElem? (i := 79) rfl) rfl
theorem wC_J2_length_9d52b : Cond.code yJ2_length_9d52b cJ2_length_9d52b 1 (some .int) ∈ gWs := gWs_t1 (List.mem_of_getElem? (i := 80) rfl) rfl
theorem wM_J2_414 : Cond.methodLink RJ2 414 yJ0_checkIndex_df160 ∈ gWs := gWs_t1 (List.mem_of_getElem? (i := 81) rfl) rfl
theorem wM_J2_71 : Cond.methodLink RJ2 71 yJ2_getChar_3b067 ∈ gWs := gWs_t1 (List.mem_of_getElem? (i := 82) rfl) rfl
theorem wS_J2_getChar_3b067 : Cond.static yJ2_getChar_3b067 ∈ gWs := gWs_t1 (List.mem_of_getElem? (i := 83) rfl) rfl
theorem wC_J2_getChar_3b067 : Cond.code yJ2_getChar_3b067 cJ2_getChar_3b067 2 (some .char) ∈ gWs := gWs_t1 (List.mem_of_getElem? (i := 84) rfl) rfl
theorem wF_J2_44 : Cond.fieldLink RJ2 44 "java/lang/StringUTF16" "$assertionsDisabled" "Z" ∈ gWs := gWs_t1 (List.mem_of_getElem? (i := 85) rfl) rfl
theorem wF_J2_59 : Cond.fieldLink RJ2 59 "java/lang/StringUTF16" "HI_BYTE_SHIFT" "I" ∈ gWs := gWs_t1 (List.mem_of_getElem? (i := 87) rfl) rfl
theorem wF_J2_63 : Cond.fieldLink RJ2 63 "java/lang/StringUTF16" "LO_BYTE_SHIFT" "I" ∈ gWs := gWs_t1 (List.mem_of_getElem? (i := 89) rfl) rfl
theorem wM_X3_63 : Cond.methodLink RX3 63 yX3_add ∈ gWs := gWs_t1 (List.mem_of_getElem? (i := 91) rfl) rfl
theorem wI_X3_add : Cond.instanceMethod yX3_add ∈ gWs := gWs_t1 (List.mem_of_getElem? (i := 92) rfl) rfl
theorem wV_X3_add : Cond.selects RX3 yX3_add yX3_add ∈ gWs := gWs_t1 (List.mem_of_getElem? (i := 93) rfl) rfl
theorem wC_X3_add : Cond.code yX3_add cX3_add 6 (some .int) ∈ gWs := gWs_t1 (List.mem_of_getElem? (i := 94) rfl) rfl
theorem wM_X3_82 : Cond.methodLink RX3 82 yX3_isFilled ∈ gWs := gWs_t1 (List.mem_of_getElem? (i := 95) rfl) rfl
theorem wI_X3_isFilled : Cond.instanceMethod yX3_isFilled ∈ gWs := gWs_t1 (List.mem_of_getElem? (i := 96) rfl) rfl
theorem wV_X3_isFilled : Cond.selects RX3 yX3_isFilled yX3_isFilled ∈ gWs := gWs_t1 (List.mem_of_getElem? (i := 97) rfl) rfl
theorem wC_X3_isFilled : Cond.code yX3_isFilled cX3_isFilled 1 (some .boolean) ∈ gWs := gWs_t1 (List.mem_of_getElem? (i := 98) rfl) rfl
theorem wM_X3_78 : Cond.methodLink RX3 78 yX3_has ∈ gWs := gWs_t1 (List.mem_of_getElem? (i := 99) rfl) rfl
theorem wI_X3_has : Cond.instanceMethod yX3_has ∈ gWs := gWs_t1 (List.mem_of_getElem? (i := 100) rfl) rfl
theorem wV_X3_has : Cond.selects RX3 yX3_has yX3_has ∈ gWs := gWs_t1 (List.mem_of_getElem? (i := 101) rfl) rfl
theorem wC_X3_has : Cond.code yX3_has cX3_has 2 (some .boolean) ∈ gWs := gWs_t1 (List.mem_of_getElem? (i := 102) rfl) rfl
theorem wF_X3_39 : Cond.fieldLink RX3 39 "QuotientSums$Plan" "bound" "I" ∈ gWs := gWs_t1 (List.mem_of_getElem? (i := 105) rfl) rfl
theorem wF_X2_19 : Cond.fieldLink RX2 19 "QuotientSums$Plan" "bound" "I" ∈ gWs := gWs_t1 (List.mem_of_getElem? (i := 106) rfl) rfl
theorem wF_X10_143 : Cond.fieldLink RX10 143 "QuotientSums$Plan" "bound" "I" ∈ gWs := gWs_t1 (List.mem_of_getElem? (i := 107) rfl) rfl
theorem wF_X5_101 : Cond.fieldLink RX5 101 "QuotientSums$Plan" "bound" "I" ∈ gWs := gWs_t1 (List.mem_of_getElem? (i := 108) rfl) rfl
theorem wF_X3_44 : Cond.fieldLink RX3 44 "QuotientSums$Plan" "modulus" "I" ∈ gWs := gWs_t1 (List.mem_of_getElem? (i := 109) rfl) rfl
theorem wF_X2_26 : Cond.fieldLink RX2 26 "QuotientSums$Plan" "modulus" "I" ∈ gWs := gWs_t1 (List.mem_of_getElem? (i := 110) rfl) rfl
theorem wF_X7_36 : Cond.fieldLink RX7 36 "QuotientSums$Plan" "modulus" "I" ∈ gWs := gWs_t1 (List.mem_of_getElem? (i := 111) rfl) rfl
theorem wF_X10_151 : Cond.fieldLink RX10 151 "QuotientSums$Plan" "modulus" "I" ∈ gWs := gWs_t1 (List.mem_of_getElem? (i := 112) rfl) rfl
theorem wF_X5_105 : Cond.fieldLink RX5 105 "QuotientSums$Plan" "modulus" "I" ∈ gWs := gWs_t1 (List.mem_of_getElem? (i := 113) rfl) rfl
theorem wF_X3_47 : Cond.fieldLink RX3 47 "QuotientSums$Plan" "seed" "I" ∈ gWs := gWs_t1 (List.mem_of_getElem? (i := 114) rfl) rfl
theorem wF_X5_109 : Cond.fieldLink RX5 109 "QuotientSums$Plan" "seed" "I" ∈ gWs := gWs_t1 (List.mem_of_getElem? (i := 115) rfl) rfl
theorem wF_X10_270 : Cond.fieldLink RX10 270 "QuotientSums$Plan" "seed" "I" ∈ gWs := gWs_t1 (List.mem_of_getElem? (i := 116) rfl) rfl
theorem wF_X3_50 : Cond.fieldLink RX3 50 "QuotientSums$Plan" "functions" "I" ∈ gWs := gWs_t1 (List.mem_of_getElem? (i := 117) rfl) rfl
theorem wF_X10_316 : Cond.fieldLink RX10 316 "QuotientSums$Plan" "functions" "I" ∈ gWs := gWs_t1 (List.mem_of_getElem? (i := 118) rfl) rfl
theorem wF_X3_9 : Cond.fieldLink RX3 9 "QuotientSums$Plan" "names" "[I" ∈ gWs := gWs_t1 (List.mem_of_getElem? (i := 119) rfl) rfl
theorem wF_X3_15 : Cond.fieldLink RX3 15 "QuotientSums$Plan" "kinds" "[I" ∈ gWs := gWs_t1 (List.mem_of_getElem? (i := 120) rfl) rfl
theorem wF_X4_51 : Cond.fieldLink RX4 51 "QuotientSums$Plan" "kinds" "[I" ∈ gWs := gWs_t1 (List.mem_of_getElem? (i := 121) rfl) rfl
theorem wF_X10_108 : Cond.fieldLink RX10 108 "QuotientSums$Plan" "kinds" "[I" ∈ gWs := gWs_t1 (List.mem_of_getElem? (i := 122) rfl) rfl
theorem wF_X3_18 : Cond.fieldLink RX3 18 "QuotientSums$Plan" "firsts" "[I" ∈ gWs := gWs_t1 (List.mem_of_getElem? (i := 123) rfl) rfl
theorem wF_X4_39 : Cond.fieldLink RX4 39 "QuotientSums$Plan" "firsts" "[I" ∈ gWs := gWs_t1 (List.mem_of_getElem? (i := 124) rfl) rfl
theorem wF_X10_112 : Cond.fieldLink RX10 112 "QuotientSums$Plan" "firsts" "[I" ∈ gWs := gWs_t1 (List.mem_of_getElem? (i := 125) rfl) rfl
theorem wF_X3_21 : Cond.fieldLink RX3 21 "QuotientSums$Plan" "seconds" "[I" ∈ gWs := gWs_t1 (List.mem_of_getElem? (i := 126) rfl) rfl
theorem wF_X4_48 : Cond.fieldLink RX4 48 "QuotientSums$Plan" "seconds" "[I" ∈ gWs := gWs_t1 (List.mem_of_getElem? (i := 127) rfl) rfl
theorem wF_X10_115 : Cond.fieldLink RX10 115 "QuotientSums$Plan" "seconds" "[I" ∈ gWs := gWs_t1 (List.mem_of_getElem? (i := 128) rfl) rfl
theorem wF_X3_24 : Cond.fieldLink RX3 24 "QuotientSums$Plan" "degrees" "[I" ∈ gWs := gWs_t1 (List.mem_of_getElem? (i := 129) rfl) rfl
theorem wF_X10_118 : Cond.fieldLink RX10 118 "QuotientSums$Plan" "degrees" "[I" ∈ gWs := gWs_t1 (List.mem_of_getElem? (i := 130) rfl) rfl
theorem wF_X5_137 : Cond.fieldLink RX5 137 "QuotientSums$Plan" "degrees" "[I" ∈ gWs := gWs_t1 (List.mem_of_getElem? (i := 131) rfl) rfl
theorem wF_X3_27 : Cond.fieldLink RX3 27 "QuotientSums$Plan" "colours" "[I" ∈ gWs := gWs_t1 (List.mem_of_getElem? (i := 132) rfl) rfl
theorem wF_X4_61 : Cond.fieldLink RX4 61 "QuotientSums$Plan" "colours" "[I" ∈ gWs := gWs_t1 (List.mem_of_getElem? (i := 133) rfl) rfl
theorem wF_X10_121 : Cond.fieldLink RX10 121 "QuotientSums$Plan" "colours" "[I" ∈ gWs := gWs_t1 (List.mem_of_getElem? (i := 134) rfl) rfl
theorem wF_X5_152 : Cond.fieldLink RX5 152 "QuotientSums$Plan" "colours" "[I" ∈ gWs := gWs_t1 (List.mem_of_getElem? (i := 135) rfl) rfl
theorem wF_X3_30 : Cond.fieldLink RX3 30 "QuotientSums$Plan" "needs" "[I" ∈ gWs := gWs_t1 (List.mem_of_getElem? (i := 136) rfl) rfl
theorem wF_X4_32 : Cond.fieldLink RX4 32 "QuotientSums$Plan" "needs" "[I" ∈ gWs := gWs_t1 (List.mem_of_getElem? (i := 137) rfl) rfl
theorem wF_X3_33 : Cond.fieldLink RX3 33 "QuotientSums$Plan" "numbers" "[I" ∈ gWs := gWs_t1 (List.mem_of_getElem? (i := 138) rfl) rfl
theorem wF_X2_30 : Cond.fieldLink RX2 30 "QuotientSums$Plan" "numbers" "[I" ∈ gWs := gWs_t1 (List.mem_of_getElem? (i := 139) rfl) rfl
theorem wF_X4_80 : Cond.fieldLink RX4 80 "QuotientSums$Plan" "numbers" "[I" ∈ gWs := gWs_t1 (List.mem_of_getElem? (i := 140) rfl) rfl
theorem wF_X10_135 : Cond.fieldLink RX10 135 "QuotientSums$Plan" "numbers" "[I" ∈ gWs := gWs_t1 (List.mem_of_getElem? (i := 141) rfl) rfl
theorem wF_X5_126 : Cond.fieldLink RX5 126 "QuotientSums$Plan" "numbers" "[I" ∈ gWs := gWs_t1 (List.mem_of_getElem? (i := 142) rfl) rfl
theorem wA_int : Cond.arrayClass .int ∈ gWs := gWs_t1 (List.mem_of_getElem? (i := 168) rfl) rfl
theorem wA_byte : Cond.arrayClass .byte ∈ gWs := gWs_t1 (List.mem_of_getElem? (i := 169) rfl) rfl
theorem wL_X10_16 : Cond.classLink RX10 16 RX5 ∈ gWs := gWs_t1 (List.mem_of_getElem? (i := 170) rfl) rfl
theorem wT_X5 : Cond.instantiable RX5 7 ∈ gWs := gWs_t1 (List.mem_of_getElem? (i := 171) rfl) rfl
theorem wI_X5_init : Cond.instanceMethod yX5_init ∈ gWs := gWs_t1 (List.mem_of_getElem? (i := 173) rfl) rfl
theorem wC_X5_init : Cond.code yX5_init cX5_init 1 (none) ∈ gWs := gWs_t1 (List.mem_of_getElem? (i := 174) rfl) rfl
theorem wM_X5_3 : Cond.methodLink RX5 3 objectInit ∈ gWs := gWs_t1 (List.mem_of_getElem? (i := 175) rfl) rfl
theorem wL_X5_9 : Cond.classLink RX5 9 RX9 ∈ gWs := gWs_t1 (List.mem_of_getElem? (i := 176) rfl) rfl
theorem wT_X9 : Cond.instantiable RX9 8 ∈ gWs := gWs_t1 (List.mem_of_getElem? (i := 177) rfl) rfl
theorem wI_X9_init : Cond.instanceMethod yX9_init ∈ gWs := gWs_t1 (List.mem_of_getElem? (i := 179) rfl) rfl
theorem wC_X9_init : Cond.code yX9_init cX9_init 1 (none) ∈ gWs := gWs_t1 (List.mem_of_getElem? (i := 180) rfl) rfl
theorem wM_X9_3 : Cond.methodLink RX9 3 objectInit ∈ gWs := gWs_t1 (List.mem_of_getElem? (i := 181) rfl) rfl
theorem wF_X9_24 : Cond.fieldLink RX9 24 "QuotientSums$Tape" "fed" "I" ∈ gWs := gWs_t1 (List.mem_of_getElem? (i := 182) rfl) rfl
theorem wF_X10_65 : Cond.fieldLink RX10 65 "QuotientSums$Tape" "fed" "I" ∈ gWs := gWs_t1 (List.mem_of_getElem? (i := 183) rfl) rfl
theorem wF_X9_11 : Cond.fieldLink RX9 11 "QuotientSums$Tape" "bytes" "[I" ∈ gWs := gWs_t1 (List.mem_of_getElem? (i := 184) rfl) rfl
theorem wF_X9_15 : Cond.fieldLink RX9 15 "QuotientSums$Tape" "sorts" "[I" ∈ gWs := gWs_t1 (List.mem_of_getElem? (i := 185) rfl) rfl
theorem wF_X9_18 : Cond.fieldLink RX9 18 "QuotientSums$Tape" "starts" "[I" ∈ gWs := gWs_t1 (List.mem_of_getElem? (i := 186) rfl) rfl
theorem wF_X9_21 : Cond.fieldLink RX9 21 "QuotientSums$Tape" "contents" "[I" ∈ gWs := gWs_t1 (List.mem_of_getElem? (i := 187) rfl) rfl
theorem wF_X9_31 : Cond.fieldLink RX9 31 "QuotientSums$Tape" "length" "I" ∈ gWs := gWs_t1 (List.mem_of_getElem? (i := 188) rfl) rfl
theorem wF_X9_28 : Cond.fieldLink RX9 28 "QuotientSums$Tape" "tokens" "I" ∈ gWs := gWs_t1 (List.mem_of_getElem? (i := 189) rfl) rfl
theorem wF_X9_43 : Cond.fieldLink RX9 43 "QuotientSums$Tape" "at" "I" ∈ gWs := gWs_t1 (List.mem_of_getElem? (i := 190) rfl) rfl
theorem wL_X5_22 : Cond.classLink RX5 22 RX3 ∈ gWs := gWs_t1 (List.mem_of_getElem? (i := 208) rfl) rfl
theorem wM_X5_24 : Cond.methodLink RX5 24 yX3_init ∈ gWs := gWs_t1 (List.mem_of_getElem? (i := 209) rfl) rfl
theorem wF_X5_12 : Cond.fieldLink RX5 12 "QuotientSums$Reader" "tape" "LQuotientSums$Tape;" ∈ gWs := gWs_t1 (List.mem_of_getElem? (i := 210) rfl) rfl
theorem wF_X10_51 : Cond.fieldLink RX10 51 "QuotientSums$Reader" "tape" "LQuotientSums$Tape;" ∈ gWs := gWs_t1 (List.mem_of_getElem? (i := 211) rfl) rfl
theorem wF_X5_42 : Cond.fieldLink RX5 42 "QuotientSums$Reader" "lines" "I" ∈ gWs := gWs_t1 (List.mem_of_getElem? (i := 212) rfl) rfl
theorem wF_X10_85 : Cond.fieldLink RX10 85 "QuotientSums$Reader" "lines" "I" ∈ gWs := gWs_t1 (List.mem_of_getElem? (i := 213) rfl) rfl
theorem wF_X5_45 : Cond.fieldLink RX5 45 "QuotientSums$Reader" "faulty" "I" ∈ gWs := gWs_t1 (List.mem_of_getElem? (i := 214) rfl) rfl
theorem wF_X10_88 : Cond.fieldLink RX10 88 "QuotientSums$Reader" "faulty" "I" ∈ gWs := gWs_t1 (List.mem_of_getElem? (i := 215) rfl) rfl
theorem wF_X5_18 : Cond.fieldLink RX5 18 "QuotientSums$Reader" "place" "I" ∈ gWs := gWs_t1 (List.mem_of_getElem? (i := 216) rfl) rfl
theorem wF_X10_91 : Cond.fieldLink RX10 91 "QuotientSums$Reader" "place" "I" ∈ gWs := gWs_t1 (List.mem_of_getElem? (i := 217) rfl) rfl
theorem wF_X5_25 : Cond.fieldLink RX5 25 "QuotientSums$Reader" "plan" "LQuotientSums$Plan;" ∈ gWs := gWs_t1 (List.mem_of_getElem? (i := 218) rfl) rfl
theorem wF_X5_36 : Cond.fieldLink RX5 36 "QuotientSums$Reader" "token" "I" ∈ gWs := gWs_t1 (List.mem_of_getElem? (i := 219) rfl) rfl
theorem wF_X5_39 : Cond.fieldLink RX5 39 "QuotientSums$Reader" "toldOnce" "I" ∈ gWs := gWs_t1 (List.mem_of_getElem? (i := 220) rfl) rfl
theorem wL_X10_23 : Cond.classLink RX10 23 RX0 ∈ gWs := gWs_t1 (List.mem_of_getElem? (i := 236) rfl) rfl
theorem wT_X0 : Cond.instantiable RX0 6 ∈ gWs := gWs_t1 (List.mem_of_getElem? (i := 237) rfl) rfl
theorem wI_X0_init : Cond.instanceMethod yX0_init ∈ gWs := gWs_t1 (List.mem_of_getElem? (i := 239) rfl) rfl
theorem wC_X0_init : Cond.code yX0_init cX0_init 1 (none) ∈ gWs := gWs_t2 (List.mem_of_getElem? (i := 0) rfl) rfl
theorem wM_X0_1 : Cond.methodLink RX0 1 objectInit ∈ gWs := gWs_t2 (List.mem_of_getElem? (i := 1) rfl) rfl
theorem wF_X0_22 : Cond.fieldLink RX0 22 "QuotientSums$Changes" "size" "I" ∈ gWs := gWs_t2 (List.mem_of_getElem? (i := 2) rfl) rfl
theorem wF_X10_306 : Cond.fieldLink RX10 306 "QuotientSums$Changes" "size" "I" ∈ gWs := gWs_t2 (List.mem_of_getElem? (i := 3) rfl) rfl
theorem wF_X0_26 : Cond.fieldLink RX0 26 "QuotientSums$Changes" "top" "I" ∈ gWs := gWs_t2 (List.mem_of_getElem? (i := 4) rfl) rfl
theorem wF_X0_9 : Cond.fieldLink RX0 9 "QuotientSums$Changes" "kinds" "[I" ∈ gWs := gWs_t2 (List.mem_of_getElem? (i := 5) rfl) rfl
theorem wF_X0_13 : Cond.fieldLink RX0 13 "QuotientSums$Changes" "cells" "[I" ∈ gWs := gWs_t2 (List.mem_of_getElem? (i := 6) rfl) rfl
theorem wF_X0_16 : Cond.fieldLink RX0 16 "QuotientSums$Changes" "ones" "[I" ∈ gWs := gWs_t2 (List.mem_of_getElem? (i := 7) rfl) rfl
theorem wF_X0_19 : Cond.fieldLink RX0 19 "QuotientSums$Changes" "others" "[I" ∈ gWs := gWs_t2 (List.mem_of_getElem? (i := 8) rfl) rfl
theorem wL_X10_30 : Cond.classLink RX10 30 RX2 ∈ gWs := gWs_t2 (List.mem_of_getElem? (i := 22) rfl) rfl
theorem wT_X2 : Cond.instantiable RX2 4 ∈ gWs := gWs_t2 (List.mem_of_getElem? (i := 23) rfl) rfl
theorem wI_X2_init : Cond.instanceMethod yX2_init ∈ gWs := gWs_t2 (List.mem_of_getElem? (i := 25) rfl) rfl
theorem wC_X2_init : Cond.code yX2_init cX2_init 1 (none) ∈ gWs := gWs_t2 (List.mem_of_getElem? (i := 26) rfl) rfl
theorem wM_X2_3 : Cond.methodLink RX2 3 objectInit ∈ gWs := gWs_t2 (List.mem_of_getElem? (i := 27) rfl) rfl
theorem wF_X2_15 : Cond.fieldLink RX2 15 "QuotientSums$Image" "kept" "Z" ∈ gWs := gWs_t2 (List.mem_of_getElem? (i := 28) rfl) rfl
theorem wF_X10_77 : Cond.fieldLink RX10 77 "QuotientSums$Image" "kept" "Z" ∈ gWs := gWs_t2 (List.mem_of_getElem? (i := 29) rfl) rfl
theorem wF_X2_25 : Cond.fieldLink RX2 25 "QuotientSums$Image" "bound" "I" ∈ gWs := gWs_t2 (List.mem_of_getElem? (i := 30) rfl) rfl
theorem wF_X2_29 : Cond.fieldLink RX2 29 "QuotientSums$Image" "modulus" "I" ∈ gWs := gWs_t2 (List.mem_of_getElem? (i := 31) rfl) rfl
theorem wF_X2_9 : Cond.fieldLink RX2 9 "QuotientSums$Image" "numbers" "[I" ∈ gWs := gWs_t2 (List.mem_of_getElem? (i := 32) rfl) rfl
theorem wL_X10_37 : Cond.classLink RX10 37 RX7 ∈ gWs := gWs_t2 (List.mem_of_getElem? (i := 42) rfl) rfl
theorem wT_X7 : Cond.instantiable RX7 4 ∈ gWs := gWs_t2 (List.mem_of_getElem? (i := 43) rfl) rfl
theorem wM_X10_39 : Cond.methodLink RX10 39 yX7_init ∈ gWs := gWs_t2 (List.mem_of_getElem? (i := 44) rfl) rfl
theorem wI_X7_init : Cond.instanceMethod yX7_init ∈ gWs := gWs_t2 (List.mem_of_getElem? (i := 45) rfl) rfl
theorem wC_X7_init : Cond.code yX7_init cX7_init 2 (none) ∈ gWs := gWs_t2 (List.mem_of_getElem? (i := 46) rfl) rfl
theorem wM_X7_3 : Cond.methodLink RX7 3 objectInit ∈ gWs := gWs_t2 (List.mem_of_getElem? (i := 47) rfl) rfl
theorem wL_X7_9 : Cond.classLink RX7 9 RX8 ∈ gWs := gWs_t2 (List.mem_of_getElem? (i := 48) rfl) rfl
theorem wT_X8 : Cond.instantiable RX8 1 ∈ gWs := gWs_t2 (List.mem_of_getElem? (i := 49) rfl) rfl
theorem wI_X8_init : Cond.instanceMethod yX8_init ∈ gWs := gWs_t2 (List.mem_of_getElem? (i := 51) rfl) rfl
theorem wC_X8_init : Cond.code yX8_init cX8_init 1 (none) ∈ gWs := gWs_t2 (List.mem_of_getElem? (i := 52) rfl) rfl
theorem wM_X8_3 : Cond.methodLink RX8 3 objectInit ∈ gWs := gWs_t2 (List.mem_of_getElem? (i := 53) rfl) rfl
theorem wF_X8_9 : Cond.fieldLink RX8 9 "QuotientSums$Sieve" "least" "[I" ∈ gWs := gWs_t2 (List.mem_of_getElem? (i := 54) rfl) rfl
theorem wF_X7_70 : Cond.fieldLink RX7 70 "QuotientSums$Sieve" "least" "[I" ∈ gWs := gWs_t2 (List.mem_of_getElem? (i := 55) rfl) rfl
theorem wL_X7_18 : Cond.classLink RX7 18 RX4 ∈ gWs := gWs_t2 (List.mem_of_getElem? (i := 59) rfl) rfl
theorem wT_X4 : Cond.instantiable RX4 2 ∈ gWs := gWs_t2 (List.mem_of_getElem? (i := 60) rfl) rfl
theorem wM_X7_20 : Cond.methodLink RX7 20 yX4_init ∈ gWs := gWs_t2 (List.mem_of_getElem? (i := 61) rfl) rfl
theorem wI_X4_init : Cond.instanceMethod yX4_init ∈ gWs := gWs_t2 (List.mem_of_getElem? (i := 62) rfl) rfl
theorem wC_X4_init : Cond.code yX4_init cX4_init 2 (none) ∈ gWs := gWs_t2 (List.mem_of_getElem? (i := 63) rfl) rfl
theorem wM_X4_3 : Cond.methodLink RX4 3 objectInit ∈ gWs := gWs_t2 (List.mem_of_getElem? (i := 64) rfl) rfl
theorem wF_X4_11 : Cond.fieldLink RX4 11 "QuotientSums$Powers" "ofPrime" "[I" ∈ gWs := gWs_t2 (List.mem_of_getElem? (i := 65) rfl) rfl
theorem wF_X4_15 : Cond.fieldLink RX4 15 "QuotientSums$Powers" "cells" "[I" ∈ gWs := gWs_t2 (List.mem_of_getElem? (i := 66) rfl) rfl
theorem wL_X7_25 : Cond.classLink RX7 25 RX6 ∈ gWs := gWs_t2 (List.mem_of_getElem? (i := 72) rfl) rfl
theorem wT_X6 : Cond.instantiable RX6 5 ∈ gWs := gWs_t2 (List.mem_of_getElem? (i := 74) rfl) rfl
theorem wI_X6_init : Cond.instanceMethod yX6_init ∈ gWs := gWs_t2 (List.mem_of_getElem? (i := 76) rfl) rfl
theorem wC_X6_init : Cond.code yX6_init cX6_init 1 (none) ∈ gWs := gWs_t2 (List.mem_of_getElem? (i := 77) rfl) rfl
theorem wM_X6_3 : Cond.methodLink RX6 3 objectInit ∈ gWs := gWs_t2 (List.mem_of_getElem? (i := 78) rfl) rfl
theorem wF_X6_9 : Cond.fieldLink RX6 9 "QuotientSums$Row" "sums" "[I" ∈ gWs := gWs_t2 (List.mem_of_getElem? (i := 79) rfl) rfl
theorem wF_X7_74 : Cond.fieldLink RX7 74 "QuotientSums$Row" "sums" "[I" ∈ gWs := gWs_t2 (List.mem_of_getElem? (i := 80) rfl) rfl
theorem wF_X6_15 : Cond.fieldLink RX6 15 "QuotientSums$Row" "function" "I" ∈ gWs := gWs_t2 (List.mem_of_getElem? (i := 81) rfl) rfl
theorem wF_X7_32 : Cond.fieldLink RX7 32 "QuotientSums$Row" "function" "I" ∈ gWs := gWs_t2 (List.mem_of_getElem? (i := 82) rfl) rfl
theorem wF_X6_19 : Cond.fieldLink RX6 19 "QuotientSums$Row" "modulus" "I" ∈ gWs := gWs_t2 (List.mem_of_getElem? (i := 83) rfl) rfl
theorem wF_X7_65 : Cond.fieldLink RX7 65 "QuotientSums$Row" "modulus" "I" ∈ gWs := gWs_t2 (List.mem_of_getElem? (i := 84) rfl) rfl
theorem wF_X6_22 : Cond.fieldLink RX6 22 "QuotientSums$Row" "filled" "I" ∈ gWs := gWs_t2 (List.mem_of_getElem? (i := 85) rfl) rfl
theorem wF_X7_51 : Cond.fieldLink RX7 51 "QuotientSums$Row" "filled" "I" ∈ gWs := gWs_t2 (List.mem_of_getElem? (i := 86) rfl) rfl
theorem wF_X7_48 : Cond.fieldLink RX7 48 "QuotientSums$Row" "used" "I" ∈ gWs := gWs_t2 (List.mem_of_getElem? (i := 87) rfl) rfl
theorem wF_X7_12 : Cond.fieldLink RX7 12 "QuotientSums$Rows" "sieve" "LQuotientSums$Sieve;" ∈ gWs := gWs_t2 (List.mem_of_getElem? (i := 99) rfl) rfl
theorem wF_X10_194 : Cond.fieldLink RX10 194 "QuotientSums$Rows" "sieve" "LQuotientSums$Sieve;" ∈ gWs := gWs_t2 (List.mem_of_getElem? (i := 100) rfl) rfl
theorem wF_X7_21 : Cond.fieldLink RX7 21 "QuotientSums$Rows" "powers" "LQuotientSums$Powers;" ∈ gWs := gWs_t2 (List.mem_of_getElem? (i := 101) rfl) rfl
theorem wF_X10_164 : Cond.fieldLink RX10 164 "QuotientSums$Rows" "powers" "LQuotientSums$Powers;" ∈ gWs := gWs_t2 (List.mem_of_getElem? (i := 102) rfl) rfl
theorem wF_X7_27 : Cond.fieldLink RX7 27 "QuotientSums$Rows" "rows" "[LQuotientSums$Row;" ∈ gWs := gWs_t2 (List.mem_of_getElem? (i := 103) rfl) rfl
theorem wF_X7_45 : Cond.fieldLink RX7 45 "QuotientSums$Rows" "turn" "I" ∈ gWs := gWs_t2 (List.mem_of_getElem? (i := 104) rfl) rfl
theorem wL_X10_44 : Cond.classLink RX10 44 RX1 ∈ gWs := gWs_t2 (List.mem_of_getElem? (i := 114) rfl) rfl
theorem wT_X1 : Cond.instantiable RX1 4 ∈ gWs := gWs_t2 (List.mem_of_getElem? (i := 115) rfl) rfl
theorem wI_X1_init : Cond.instanceMethod yX1_init ∈ gWs := gWs_t2 (List.mem_of_getElem? (i := 117) rfl) rfl
theorem wC_X1_init : Cond.code yX1_init cX1_init 1 (none) ∈ gWs := gWs_t2 (List.mem_of_getElem? (i := 118) rfl) rfl
theorem wM_X1_3 : Cond.methodLink RX1 3 objectInit ∈ gWs := gWs_t2 (List.mem_of_getElem? (i := 119) rfl) rfl
theorem wF_X1_11 : Cond.fieldLink RX1 11 "QuotientSums$Couples" "small" "[J" ∈ gWs := gWs_t2 (List.mem_of_getElem? (i := 120) rfl) rfl
theorem wF_X1_15 : Cond.fieldLink RX1 15 "QuotientSums$Couples" "great" "[J" ∈ gWs := gWs_t2 (List.mem_of_getElem? (i := 121) rfl) rfl
theorem wF_X1_18 : Cond.fieldLink RX1 18 "QuotientSums$Couples" "x" "I" ∈ gWs := gWs_t2 (List.mem_of_getElem? (i := 122) rfl) rfl
theorem wF_X1_27 : Cond.fieldLink RX1 27 "QuotientSums$Couples" "root" "I" ∈ gWs := gWs_t2 (List.mem_of_getElem? (i := 123) rfl) rfl
theorem wA_long : Cond.arrayClass .long ∈ gWs := gWs_t2 (List.mem_of_getElem? (i := 133) rfl) rfl
theorem wF_X10_10 : Cond.fieldLink RX10 10 "QuotientSums" "now" "LQuotientSums$Plan;" ∈ gWs := gWs_t2 (List.mem_of_getElem? (i := 134) rfl) rfl
theorem wF_X10_19 : Cond.fieldLink RX10 19 "QuotientSums" "reader" "LQuotientSums$Reader;" ∈ gWs := gWs_t2 (List.mem_of_getElem? (i := 135) rfl) rfl
theorem wF_X10_26 : Cond.fieldLink RX10 26 "QuotientSums" "changes" "LQuotientSums$Changes;" ∈ gWs := gWs_t2 (List.mem_of_getElem? (i := 136) rfl) rfl
theorem wF_X10_33 : Cond.fieldLink RX10 33 "QuotientSums" "image" "LQuotientSums$Image;" ∈ gWs := gWs_t2 (List.mem_of_getElem? (i := 137) rfl) rfl
theorem wF_X10_40 : Cond.fieldLink RX10 40 "QuotientSums" "rows" "LQuotientSums$Rows;" ∈ gWs := gWs_t2 (List.mem_of_getElem? (i := 138) rfl) rfl
theorem wF_X10_47 : Cond.fieldLink RX10 47 "QuotientSums" "couples" "LQuotientSums$Couples;" ∈ gWs := gWs_t2 (List.mem_of_getElem? (i := 139) rfl) rfl
theorem wM_L_21 : Cond.methodLink RL 21 yX10_feed ∈ gWs := gWs_t2 (List.mem_of_getElem? (i := 153) rfl) rfl
theorem wI_X10_feed : Cond.instanceMethod yX10_feed ∈ gWs := gWs_t2 (List.mem_of_getElem? (i := 154) rfl) rfl
theorem wV_X10_feed : Cond.selects RX10 yX10_feed yX10_feed ∈ gWs := gWs_t2 (List.mem_of_getElem? (i := 155) rfl) rfl
theorem wC_X10_feed : Cond.code yX10_feed cX10_feed 6 (some .int) ∈ gWs := gWs_t2 (List.mem_of_getElem? (i := 156) rfl) rfl
theorem wM_X10_55 : Cond.methodLink RX10 55 yX9_hasRoom ∈ gWs := gWs_t2 (List.mem_of_getElem? (i := 157) rfl) rfl
theorem wI_X9_hasRoom : Cond.instanceMethod yX9_hasRoom ∈ gWs := gWs_t2 (List.mem_of_getElem? (i := 158) rfl) rfl
theorem wV_X9_hasRoom : Cond.selects RX9 yX9_hasRoom yX9_hasRoom ∈ gWs := gWs_t2 (List.mem_of_getElem? (i := 159) rfl) rfl
theorem wC_X9_hasRoom : Cond.code yX9_hasRoom cX9_hasRoom 1 (some .boolean) ∈ gWs := gWs_t2 (List.mem_of_getElem? (i := 160) rfl) rfl
theorem wM_X10_61 : Cond.methodLink RX10 61 yX9_append ∈ gWs := gWs_t2 (List.mem_of_getElem? (i := 161) rfl) rfl
theorem wI_X9_append : Cond.instanceMethod yX9_append ∈ gWs := gWs_t2 (List.mem_of_getElem? (i := 162) rfl) rfl
theorem wV_X9_append : Cond.selects RX9 yX9_append yX9_append ∈ gWs := gWs_t2 (List.mem_of_getElem? (i := 163) rfl) rfl
theorem wC_X9_append : Cond.code yX9_append cX9_append 3 (none) ∈ gWs := gWs_t2 (List.mem_of_getElem? (i := 164) rfl) rfl
theorem wM_L_26 : Cond.methodLink RL 26 yX10_text ∈ gWs := gWs_t2 (List.mem_of_getElem? (i := 165) rfl) rfl
theorem wI_X10_text : Cond.instanceMethod yX10_text ∈ gWs := gWs_t2 (List.mem_of_getElem? (i := 166) rfl) rfl
theorem wV_X10_text : Cond.selects RX10 yX10_text yX10_text ∈ gWs := gWs_t2 (List.mem_of_getElem? (i := 167) rfl) rfl
theorem wC_X10_text : Cond.code yX10_text cX10_text 2 (some .int) ∈ gWs := gWs_t2 (List.mem_of_getElem? (i := 168) rfl) rfl
theorem wM_X10_69 : Cond.methodLink RX10 69 yX5_read ∈ gWs := gWs_t2 (List.mem_of_getElem? (i := 169) rfl) rfl
theorem wI_X5_read : Cond.instanceMethod yX5_read ∈ gWs := gWs_t2 (List.mem_of_getElem? (i := 170) rfl) rfl
theorem wV_X5_read : Cond.selects RX5 yX5_read yX5_read ∈ gWs := gWs_t2 (List.mem_of_getElem? (i := 171) rfl) rfl
theorem wC_X5_read : Cond.code yX5_read cX5_read 3 (some .boolean) ∈ gWs := gWs_t2 (List.mem_of_getElem? (i := 172) rfl) rfl
theorem wM_X5_29 : Cond.methodLink RX5 29 yX9_cut ∈ gWs := gWs_t2 (List.mem_of_getElem? (i := 173) rfl) rfl
theorem wI_X9_cut : Cond.instanceMethod yX9_cut ∈ gWs := gWs_t2 (List.mem_of_getElem? (i := 174) rfl) rfl
theorem wV_X9_cut : Cond.selects RX9 yX9_cut yX9_cut ∈ gWs := gWs_t2 (List.mem_of_getElem? (i := 175) rfl) rfl
theorem wC_X9_cut : Cond.code yX9_cut cX9_cut 4 (none) ∈ gWs := gWs_t2 (List.mem_of_getElem? (i := 176) rfl) rfl
theorem wM_X9_34 : Cond.methodLink RX9 34 yJ9_min_7cf53 ∈ gWs := gWs_t2 (List.mem_of_getElem? (i := 177) rfl) rfl
theorem wS_min : Cond.static Lib.Math.min.name ∈ gWs := gWs_t2 (List.mem_of_getElem? (i := 178) rfl) rfl
theorem wS_J9_min_7cf53 : Cond.static yJ9_min_7cf53 ∈ gWs := gWs_t2 (List.mem_of_getElem? (i := 178) rfl) rfl
theorem wC_min : Cond.code Lib.Math.min.name Lib.Math.min.code 2 (some .int) ∈ gWs := gWs_t2 (List.mem_of_getElem? (i := 179) rfl) rfl
theorem wC_J9_min_7cf53 : Cond.code yJ9_min_7cf53 cJ9_min_7cf53 2 (some .int) ∈ gWs := gWs_t2 (List.mem_of_getElem? (i := 179) rfl) rfl
theorem wM_X9_40 : Cond.methodLink RX9 40 yJ9_max_7cf53 ∈ gWs := gWs_t2 (List.mem_of_getElem? (i := 180) rfl) rfl
theorem wS_max : Cond.static Lib.Math.max.name ∈ gWs := gWs_t2 (List.mem_of_getElem? (i := 181) rfl) rfl
theorem wS_J9_max_7cf53 : Cond.static yJ9_max_7cf53 ∈ gWs := gWs_t2 (List.mem_of_getElem? (i := 181) rfl) rfl
theorem wC_max : Cond.code Lib.Math.max.name Lib.Math.max.code 2 (some .int) ∈ gWs := gWs_t2 (List.mem_of_getElem? (i := 182) rfl) rfl
theorem wC_J9_max_7cf53 : Cond.code yJ9_max_7cf53 cJ9_max_7cf53 2 (some .int) ∈ gWs := gWs_t2 (List.mem_of_getElem? (i := 182) rfl) rfl
theorem wM_X9_46 : Cond.methodLink RX9 46 yX9_isBlank ∈ gWs := gWs_t2 (List.mem_of_getElem? (i := 183) rfl) rfl
theorem wI_X9_isBlank : Cond.instanceMethod yX9_isBlank ∈ gWs := gWs_t2 (List.mem_of_getElem? (i := 185) rfl) rfl
theorem wC_X9_isBlank : Cond.code yX9_isBlank cX9_isBlank 1 (some .boolean) ∈ gWs := gWs_t2 (List.mem_of_getElem? (i := 186) rfl) rfl
theorem wM_X9_71 : Cond.methodLink RX9 71 yX9_here ∈ gWs := gWs_t2 (List.mem_of_getElem? (i := 187) rfl) rfl
theorem wI_X9_here : Cond.instanceMethod yX9_here ∈ gWs := gWs_t2 (List.mem_of_getElem? (i := 189) rfl) rfl
theorem wC_X9_here : Cond.code yX9_here cX9_here 1 (some .int) ∈ gWs := gWs_t2 (List.mem_of_getElem? (i := 190) rfl) rfl
theorem wM_X9_50 : Cond.methodLink RX9 50 yX9_isLetter ∈ gWs := gWs_t2 (List.mem_of_getElem? (i := 191) rfl) rfl
theorem wI_X9_isLetter : Cond.instanceMethod yX9_isLetter ∈ gWs := gWs_t2 (List.mem_of_getElem? (i := 193) rfl) rfl
theorem wC_X9_isLetter : Cond.code yX9_isLetter cX9_isLetter 1 (some .boolean) ∈ gWs := gWs_t2 (List.mem_of_getElem? (i := 194) rfl) rfl
theorem wM_X9_53 : Cond.methodLink RX9 53 yX9_cutWord ∈ gWs := gWs_t2 (List.mem_of_getElem? (i := 195) rfl) rfl
theorem wI_X9_cutWord : Cond.instanceMethod yX9_cutWord ∈ gWs := gWs_t2 (List.mem_of_getElem? (i := 197) rfl) rfl
theorem wC_X9_cutWord : Cond.code yX9_cutWord cX9_cutWord 4 (none) ∈ gWs := gWs_t2 (List.mem_of_getElem? (i := 198) rfl) rfl
theorem wM_X9_75 : Cond.methodLink RX9 75 yX9_languageWord ∈ gWs := gWs_t2 (List.mem_of_getElem? (i := 199) rfl) rfl
theorem wI_X9_languageWord : Cond.instanceMethod yX9_languageWord ∈ gWs := gWs_t2 (List.mem_of_getElem? (i := 201) rfl) rfl
theorem wC_X9_languageWord : Cond.code yX9_languageWord cX9_languageWord 3 (some .int) ∈ gWs := gWs_t2 (List.mem_of_getElem? (i := 202) rfl) rfl
theorem wM_X9_79 : Cond.methodLink RX9 79 yX9_spells ∈ gWs := gWs_t2 (List.mem_of_getElem? (i := 203) rfl) rfl
theorem wI_X9_spells : Cond.instanceMethod yX9_spells ∈ gWs := gWs_t2 (List.mem_of_getElem? (i := 205) rfl) rfl
theorem wC_X9_spells : Cond.code yX9_spells cX9_spells 5 (some .boolean) ∈ gWs := gWs_t2 (List.mem_of_getElem? (i := 206) rfl) rfl
theorem wM_X9_85 : Cond.methodLink RX9 85 yJ0_length_8abf5 ∈ gWs := gWs_t2 (List.mem_of_getElem? (i := 208) rfl) rfl
theorem wI_J0_length_8abf5 : Cond.instanceMethod yJ0_length_8abf5 ∈ gWs := gWs_t2 (List.mem_of_getElem? (i := 209) rfl) rfl
theorem wV_J0_length_8abf5 : Cond.selects RJ0 yJ0_length_8abf5 yJ0_length_8abf5 ∈ gWs := gWs_t2 (List.mem_of_getElem? (i := 210) rfl) rfl
theorem wC_J0_length_8abf5 : Cond.code yJ0_length_8abf5 cJ0_length_8abf5 1 (some .int) ∈ gWs := gWs_t2 (List.mem_of_getElem? (i := 211) rfl) rfl
theorem wM_J0_335 : Cond.methodLink RJ0 335 yJ0_coder_7d493 ∈ gWs := gWs_t2 (List.mem_of_getElem? (i := 212) rfl) rfl
theorem wI_J0_coder_7d493 : Cond.instanceMethod yJ0_coder_7d493 ∈ gWs := gWs_t2 (List.mem_of_getElem? (i := 213) rfl) rfl
theorem wV_J0_coder_7d493 : Cond.selects RJ0 yJ0_coder_7d493 yJ0_coder_7d493 ∈ gWs := gWs_t2 (List.mem_of_getElem? (i := 214) rfl) rfl
theorem wC_J0_coder_7d493 : Cond.code yJ0_coder_7d493 cJ0_coder_7d493 1 (some .byte) ∈ gWs := gWs_t2 (List.mem_of_getElem? (i := 215) rfl) rfl
theorem wM_X9_89 : Cond.methodLink RX9 89 yJ0_charAt_5068e ∈ gWs := gWs_t2 (List.mem_of_getElem? (i := 216) rfl) rfl
theorem wM_X9_64 : Cond.methodLink RX9 64 yX9_put ∈ gWs := gWs_t2 (List.mem_of_getElem? (i := 217) rfl) rfl
theorem wI_X9_put : Cond.instanceMethod yX9_put ∈ gWs := gWs_t2 (List.mem_of_getElem? (i := 219) rfl) rfl
theorem wC_X9_put : Cond.code yX9_put cX9_put 4 (none) ∈ gWs := gWs_t2 (List.mem_of_getElem? (i := 220) rfl) rfl
theorem wM_X9_57 : Cond.methodLink RX9 57 yX9_isDigit ∈ gWs := gWs_t2 (List.mem_of_getElem? (i := 221) rfl) rfl
theorem wI_X9_isDigit : Cond.instanceMethod yX9_isDigit ∈ gWs := gWs_t2 (List.mem_of_getElem? (i := 223) rfl) rfl
theorem wC_X9_isDigit : Cond.code yX9_isDigit cX9_isDigit 1 (some .boolean) ∈ gWs := gWs_t2 (List.mem_of_getElem? (i := 224) rfl) rfl
theorem wM_X9_60 : Cond.methodLink RX9 60 yX9_cutDigits ∈ gWs := gWs_t2 (List.mem_of_getElem? (i := 225) rfl) rfl
theorem wI_X9_cutDigits : Cond.instanceMethod yX9_cutDigits ∈ gWs := gWs_t2 (List.mem_of_getElem? (i := 227) rfl) rfl
theorem wC_X9_cutDigits : Cond.code yX9_cutDigits cX9_cutDigits 2 (some .int) ∈ gWs := gWs_t2 (List.mem_of_getElem? (i := 228) rfl) rfl
theorem wK_X9_74 : Cond.constant RX9 74 (100000000) ∈ gWs := gWs_t2 (List.mem_of_getElem? (i := 229) rfl) rfl
theorem wM_X9_68 : Cond.methodLink RX9 68 yX9_cutSign ∈ gWs := gWs_t2 (List.mem_of_getElem? (i := 230) rfl) rfl
theorem wI_X9_cutSign : Cond.instanceMethod yX9_cutSign ∈ gWs := gWs_t2 (List.mem_of_getElem? (i := 232) rfl) rfl
theorem wC_X9_cutSign : Cond.code yX9_cutSign cX9_cutSign 3 (none) ∈ gWs := gWs_t2 (List.mem_of_getElem? (i := 233) rfl) rfl
theorem wM_X5_33 : Cond.methodLink RX5 33 yX3_reset ∈ gWs := gWs_t2 (List.mem_of_getElem? (i := 234) rfl) rfl
theorem wM_X5_48 : Cond.methodLink RX5 48 yX9_sortOf ∈ gWs := gWs_t2 (List.mem_of_getElem? (i := 235) rfl) rfl
theorem wI_X9_sortOf : Cond.instanceMethod yX9_sortOf ∈ gWs := gWs_t2 (List.mem_of_getElem? (i := 236) rfl) rfl
theorem wV_X9_sortOf : Cond.selects RX9 yX9_sortOf yX9_sortOf ∈ gWs := gWs_t2 (List.mem_of_getElem? (i := 237) rfl) rfl
theorem wC_X9_sortOf : Cond.code yX9_sortOf cX9_sortOf 2 (some .int) ∈ gWs := gWs_t2 (List.mem_of_getElem? (i := 238) rfl) rfl
theorem wM_X5_52 : Cond.methodLink RX5 52 yX5_readLine ∈ gWs := gWs_t2 (List.mem_of_getElem? (i := 239) rfl) rfl
theorem wI_X5_readLine : Cond.instanceMethod yX5_readLine ∈ gWs := gWs_t3 (List.mem_of_getElem? (i := 1) rfl) rfl
theorem wC_X5_readLine : Cond.code yX5_readLine cX5_readLine 2 (some .boolean) ∈ gWs := gWs_t3 (List.mem_of_getElem? (i := 2) rfl) rfl
theorem wM_X5_78 : Cond.methodLink RX5 78 yX5_readSetting ∈ gWs := gWs_t3 (List.mem_of_getElem? (i := 3) rfl) rfl
theorem wI_X5_readSetting : Cond.instanceMethod yX5_readSetting ∈ gWs := gWs_t3 (List.mem_of_getElem? (i := 5) rfl) rfl
theorem wC_X5_readSetting : Cond.code yX5_readSetting cX5_readSetting 3 (some .boolean) ∈ gWs := gWs_t3 (List.mem_of_getElem? (i := 6) rfl) rfl
theorem wM_X5_62 : Cond.methodLink RX5 62 yX5_refuse ∈ gWs := gWs_t3 (List.mem_of_getElem? (i := 7) rfl) rfl
theorem wI_X5_refuse : Cond.instanceMethod yX5_refuse ∈ gWs := gWs_t3 (List.mem_of_getElem? (i := 9) rfl) rfl
theorem wC_X5_refuse : Cond.code yX5_refuse cX5_refuse 2 (some .boolean) ∈ gWs := gWs_t3 (List.mem_of_getElem? (i := 10) rfl) rfl
theorem wM_X5_59 : Cond.methodLink RX5 59 yX9_startOf ∈ gWs := gWs_t3 (List.mem_of_getElem? (i := 11) rfl) rfl
theorem wI_X9_startOf : Cond.instanceMethod yX9_startOf ∈ gWs := gWs_t3 (List.mem_of_getElem? (i := 12) rfl) rfl
theorem wV_X9_startOf : Cond.selects RX9 yX9_startOf yX9_startOf ∈ gWs := gWs_t3 (List.mem_of_getElem? (i := 13) rfl) rfl
theorem wC_X9_startOf : Cond.code yX9_startOf cX9_startOf 2 (some .int) ∈ gWs := gWs_t3 (List.mem_of_getElem? (i := 14) rfl) rfl
theorem wK_X5_96 : Cond.constant RX5 96 (200000) ∈ gWs := gWs_t3 (List.mem_of_getElem? (i := 15) rfl) rfl
theorem wM_X5_97 : Cond.methodLink RX5 97 yX5_takeNumber ∈ gWs := gWs_t3 (List.mem_of_getElem? (i := 16) rfl) rfl
theorem wI_X5_takeNumber : Cond.instanceMethod yX5_takeNumber ∈ gWs := gWs_t3 (List.mem_of_getElem? (i := 18) rfl) rfl
theorem wC_X5_takeNumber : Cond.code yX5_takeNumber cX5_takeNumber 4 (some .boolean) ∈ gWs := gWs_t3 (List.mem_of_getElem? (i := 19) rfl) rfl
theorem wM_X5_66 : Cond.methodLink RX5 66 yX9_contentOf ∈ gWs := gWs_t3 (List.mem_of_getElem? (i := 20) rfl) rfl
theorem wI_X9_contentOf : Cond.instanceMethod yX9_contentOf ∈ gWs := gWs_t3 (List.mem_of_getElem? (i := 21) rfl) rfl
theorem wV_X9_contentOf : Cond.selects RX9 yX9_contentOf yX9_contentOf ∈ gWs := gWs_t3 (List.mem_of_getElem? (i := 22) rfl) rfl
theorem wC_X9_contentOf : Cond.code yX9_contentOf cX9_contentOf 2 (some .int) ∈ gWs := gWs_t3 (List.mem_of_getElem? (i := 23) rfl) rfl
theorem wK_X5_104 : Cond.constant RX5 104 (1000003) ∈ gWs := gWs_t3 (List.mem_of_getElem? (i := 24) rfl) rfl
theorem wK_X5_108 : Cond.constant RX5 108 (99999) ∈ gWs := gWs_t3 (List.mem_of_getElem? (i := 25) rfl) rfl
theorem wM_X5_81 : Cond.methodLink RX5 81 yX5_readOwn ∈ gWs := gWs_t3 (List.mem_of_getElem? (i := 26) rfl) rfl
theorem wI_X5_readOwn : Cond.instanceMethod yX5_readOwn ∈ gWs := gWs_t3 (List.mem_of_getElem? (i := 28) rfl) rfl
theorem wC_X5_readOwn : Cond.code yX5_readOwn cX5_readOwn 3 (some .boolean) ∈ gWs := gWs_t3 (List.mem_of_getElem? (i := 29) rfl) rfl
theorem wM_X5_130 : Cond.methodLink RX5 130 yX5_takeNewName ∈ gWs := gWs_t3 (List.mem_of_getElem? (i := 30) rfl) rfl
theorem wI_X5_takeNewName : Cond.instanceMethod yX5_takeNewName ∈ gWs := gWs_t3 (List.mem_of_getElem? (i := 32) rfl) rfl
theorem wC_X5_takeNewName : Cond.code yX5_takeNewName cX5_takeNewName 2 (some .int) ∈ gWs := gWs_t3 (List.mem_of_getElem? (i := 33) rfl) rfl
theorem wM_X5_72 : Cond.methodLink RX5 72 yX3_isFilled ∈ gWs := gWs_t3 (List.mem_of_getElem? (i := 34) rfl) rfl
theorem wM_X5_75 : Cond.methodLink RX5 75 yX3_find ∈ gWs := gWs_t3 (List.mem_of_getElem? (i := 35) rfl) rfl
theorem wI_X3_find : Cond.instanceMethod yX3_find ∈ gWs := gWs_t3 (List.mem_of_getElem? (i := 36) rfl) rfl
theorem wV_X3_find : Cond.selects RX3 yX3_find yX3_find ∈ gWs := gWs_t3 (List.mem_of_getElem? (i := 37) rfl) rfl
theorem wC_X3_find : Cond.code yX3_find cX3_find 3 (some .int) ∈ gWs := gWs_t3 (List.mem_of_getElem? (i := 38) rfl) rfl
theorem wM_X5_133 : Cond.methodLink RX5 133 yX3_add ∈ gWs := gWs_t3 (List.mem_of_getElem? (i := 39) rfl) rfl
theorem wM_X5_84 : Cond.methodLink RX5 84 yX5_readAt ∈ gWs := gWs_t3 (List.mem_of_getElem? (i := 40) rfl) rfl
theorem wI_X5_readAt : Cond.instanceMethod yX5_readAt ∈ gWs := gWs_t3 (List.mem_of_getElem? (i := 42) rfl) rfl
theorem wC_X5_readAt : Cond.code yX5_readAt cX5_readAt 3 (some .boolean) ∈ gWs := gWs_t3 (List.mem_of_getElem? (i := 43) rfl) rfl
theorem wM_X5_112 : Cond.methodLink RX5 112 yX5_takeFunction ∈ gWs := gWs_t3 (List.mem_of_getElem? (i := 44) rfl) rfl
theorem wI_X5_takeFunction : Cond.instanceMethod yX5_takeFunction ∈ gWs := gWs_t3 (List.mem_of_getElem? (i := 46) rfl) rfl
theorem wC_X5_takeFunction : Cond.code yX5_takeFunction cX5_takeFunction 2 (some .int) ∈ gWs := gWs_t3 (List.mem_of_getElem? (i := 47) rfl) rfl
theorem wM_X5_116 : Cond.methodLink RX5 116 yX3_isOwn ∈ gWs := gWs_t3 (List.mem_of_getElem? (i := 48) rfl) rfl
theorem wI_X3_isOwn : Cond.instanceMethod yX3_isOwn ∈ gWs := gWs_t3 (List.mem_of_getElem? (i := 49) rfl) rfl
theorem wV_X3_isOwn : Cond.selects RX3 yX3_isOwn yX3_isOwn ∈ gWs := gWs_t3 (List.mem_of_getElem? (i := 50) rfl) rfl
theorem wC_X3_isOwn : Cond.code yX3_isOwn cX3_isOwn 2 (some .boolean) ∈ gWs := gWs_t3 (List.mem_of_getElem? (i := 51) rfl) rfl
theorem wM_X5_119 : Cond.methodLink RX5 119 yX3_cell ∈ gWs := gWs_t3 (List.mem_of_getElem? (i := 52) rfl) rfl
theorem wS_X3_cell : Cond.static yX3_cell ∈ gWs := gWs_t3 (List.mem_of_getElem? (i := 53) rfl) rfl
theorem wC_X3_cell : Cond.code yX3_cell cX3_cell 2 (some .int) ∈ gWs := gWs_t3 (List.mem_of_getElem? (i := 54) rfl) rfl
theorem wM_X5_123 : Cond.methodLink RX5 123 yX5_takeSigned ∈ gWs := gWs_t3 (List.mem_of_getElem? (i := 55) rfl) rfl
theorem wI_X5_takeSigned : Cond.instanceMethod yX5_takeSigned ∈ gWs := gWs_t3 (List.mem_of_getElem? (i := 57) rfl) rfl
theorem wC_X5_takeSigned : Cond.code yX5_takeSigned cX5_takeSigned 2 (some .boolean) ∈ gWs := gWs_t3 (List.mem_of_getElem? (i := 58) rfl) rfl
theorem wS_X10_isTellable : Cond.static yX10_isTellable ∈ gWs := gWs_t3 (List.mem_of_getElem? (i := 60) rfl) rfl
theorem wC_X10_isTellable : Cond.code yX10_isTellable cX10_isTellable 1 (some .boolean) ∈ gWs := gWs_t3 (List.mem_of_getElem? (i := 61) rfl) rfl
theorem wM_X5_87 : Cond.methodLink RX5 87 yX5_readPair ∈ gWs := gWs_t3 (List.mem_of_getElem? (i := 62) rfl) rfl
theorem wI_X5_readPair : Cond.instanceMethod yX5_readPair ∈ gWs := gWs_t3 (List.mem_of_getElem? (i := 64) rfl) rfl
theorem wC_X5_readPair : Cond.code yX5_readPair cX5_readPair 5 (some .boolean) ∈ gWs := gWs_t3 (List.mem_of_getElem? (i := 65) rfl) rfl
theorem wM_X5_140 : Cond.methodLink RX5 140 yX5_addTimes ∈ gWs := gWs_t3 (List.mem_of_getElem? (i := 66) rfl) rfl
theorem wI_X5_addTimes : Cond.instanceMethod yX5_addTimes ∈ gWs := gWs_t3 (List.mem_of_getElem? (i := 68) rfl) rfl
theorem wC_X5_addTimes : Cond.code yX5_addTimes cX5_addTimes 5 (some .boolean) ∈ gWs := gWs_t3 (List.mem_of_getElem? (i := 69) rfl) rfl
theorem wM_X5_147 : Cond.methodLink RX5 147 yJ9_max_7cf53 ∈ gWs := gWs_t3 (List.mem_of_getElem? (i := 70) rfl) rfl
theorem wM_X5_144 : Cond.methodLink RX5 144 yX5_addPoint ∈ gWs := gWs_t3 (List.mem_of_getElem? (i := 71) rfl) rfl
theorem wI_X5_addPoint : Cond.instanceMethod yX5_addPoint ∈ gWs := gWs_t3 (List.mem_of_getElem? (i := 73) rfl) rfl
theorem wC_X5_addPoint : Cond.code yX5_addPoint cX5_addPoint 7 (some .boolean) ∈ gWs := gWs_t3 (List.mem_of_getElem? (i := 74) rfl) rfl
theorem wM_X5_90 : Cond.methodLink RX5 90 yX5_readOver ∈ gWs := gWs_t3 (List.mem_of_getElem? (i := 75) rfl) rfl
theorem wI_X5_readOver : Cond.instanceMethod yX5_readOver ∈ gWs := gWs_t3 (List.mem_of_getElem? (i := 77) rfl) rfl
theorem wC_X5_readOver : Cond.code yX5_readOver cX5_readOver 4 (some .boolean) ∈ gWs := gWs_t3 (List.mem_of_getElem? (i := 78) rfl) rfl
theorem wM_X5_93 : Cond.methodLink RX5 93 yX5_readTwist ∈ gWs := gWs_t3 (List.mem_of_getElem? (i := 79) rfl) rfl
theorem wI_X5_readTwist : Cond.instanceMethod yX5_readTwist ∈ gWs := gWs_t3 (List.mem_of_getElem? (i := 81) rfl) rfl
theorem wC_X5_readTwist : Cond.code yX5_readTwist cX5_readTwist 4 (some .boolean) ∈ gWs := gWs_t3 (List.mem_of_getElem? (i := 82) rfl) rfl
theorem wM_X5_56 : Cond.methodLink RX5 56 yX5_takeStop ∈ gWs := gWs_t3 (List.mem_of_getElem? (i := 83) rfl) rfl
theorem wI_X5_takeStop : Cond.instanceMethod yX5_takeStop ∈ gWs := gWs_t3 (List.mem_of_getElem? (i := 85) rfl) rfl
theorem wC_X5_takeStop : Cond.code yX5_takeStop cX5_takeStop 1 (some .boolean) ∈ gWs := gWs_t3 (List.mem_of_getElem? (i := 86) rfl) rfl
theorem wM_X10_73 : Cond.methodLink RX10 73 yX5_swap ∈ gWs := gWs_t3 (List.mem_of_getElem? (i := 87) rfl) rfl
theorem wI_X5_swap : Cond.instanceMethod yX5_swap ∈ gWs := gWs_t3 (List.mem_of_getElem? (i := 88) rfl) rfl
theorem wV_X5_swap : Cond.selects RX5 yX5_swap yX5_swap ∈ gWs := gWs_t3 (List.mem_of_getElem? (i := 89) rfl) rfl
theorem wC_X5_swap : Cond.code yX5_swap cX5_swap 3 (some (.object "QuotientSums$Plan")) ∈ gWs := gWs_t3 (List.mem_of_getElem? (i := 90) rfl) rfl
theorem wM_X10_81 : Cond.methodLink RX10 81 yX0_forget ∈ gWs := gWs_t3 (List.mem_of_getElem? (i := 91) rfl) rfl
theorem wI_X0_forget : Cond.instanceMethod yX0_forget ∈ gWs := gWs_t3 (List.mem_of_getElem? (i := 92) rfl) rfl
theorem wV_X0_forget : Cond.selects RX0 yX0_forget yX0_forget ∈ gWs := gWs_t3 (List.mem_of_getElem? (i := 93) rfl) rfl
theorem wC_X0_forget : Cond.code yX0_forget cX0_forget 1 (none) ∈ gWs := gWs_t3 (List.mem_of_getElem? (i := 94) rfl) rfl
theorem wM_X10_84 : Cond.methodLink RX10 84 yX7_forget ∈ gWs := gWs_t3 (List.mem_of_getElem? (i := 95) rfl) rfl
theorem wI_X7_forget : Cond.instanceMethod yX7_forget ∈ gWs := gWs_t3 (List.mem_of_getElem? (i := 96) rfl) rfl
theorem wV_X7_forget : Cond.selects RX7 yX7_forget yX7_forget ∈ gWs := gWs_t3 (List.mem_of_getElem? (i := 97) rfl) rfl
theorem wC_X7_forget : Cond.code yX7_forget cX7_forget 2 (none) ∈ gWs := gWs_t3 (List.mem_of_getElem? (i := 98) rfl) rfl
theorem wM_L_31 : Cond.methodLink RL 31 yX10_fault ∈ gWs := gWs_t3 (List.mem_of_getElem? (i := 99) rfl) rfl
theorem wI_X10_fault : Cond.instanceMethod yX10_fault ∈ gWs := gWs_t3 (List.mem_of_getElem? (i := 100) rfl) rfl
theorem wV_X10_fault : Cond.selects RX10 yX10_fault yX10_fault ∈ gWs := gWs_t3 (List.mem_of_getElem? (i := 101) rfl) rfl
theorem wC_X10_fault : Cond.code yX10_fault cX10_fault 2 (some .int) ∈ gWs := gWs_t3 (List.mem_of_getElem? (i := 102) rfl) rfl
theorem wM_L_35 : Cond.methodLink RL 35 yX10_named ∈ gWs := gWs_t3 (List.mem_of_getElem? (i := 103) rfl) rfl
theorem wI_X10_named : Cond.instanceMethod yX10_named ∈ gWs := gWs_t3 (List.mem_of_getElem? (i := 104) rfl) rfl
theorem wV_X10_named : Cond.selects RX10 yX10_named yX10_named ∈ gWs := gWs_t3 (List.mem_of_getElem? (i := 105) rfl) rfl
theorem wC_X10_named : Cond.code yX10_named cX10_named 2 (some .int) ∈ gWs := gWs_t3 (List.mem_of_getElem? (i := 106) rfl) rfl
theorem wM_X10_94 : Cond.methodLink RX10 94 yX3_find ∈ gWs := gWs_t3 (List.mem_of_getElem? (i := 107) rfl) rfl
theorem wM_L_49 : Cond.methodLink RL 49 yX10_told ∈ gWs := gWs_t3 (List.mem_of_getElem? (i := 108) rfl) rfl
theorem wI_X10_told : Cond.instanceMethod yX10_told ∈ gWs := gWs_t3 (List.mem_of_getElem? (i := 109) rfl) rfl
theorem wV_X10_told : Cond.selects RX10 yX10_told yX10_told ∈ gWs := gWs_t3 (List.mem_of_getElem? (i := 110) rfl) rfl
theorem wC_X10_told : Cond.code yX10_told cX10_told 4 (some .int) ∈ gWs := gWs_t3 (List.mem_of_getElem? (i := 111) rfl) rfl
theorem wM_X10_129 : Cond.methodLink RX10 129 yX3_isOwn ∈ gWs := gWs_t3 (List.mem_of_getElem? (i := 112) rfl) rfl
theorem wM_X10_132 : Cond.methodLink RX10 132 yX10_isOwnPower ∈ gWs := gWs_t3 (List.mem_of_getElem? (i := 113) rfl) rfl
theorem wS_X10_isOwnPower : Cond.static yX10_isOwnPower ∈ gWs := gWs_t3 (List.mem_of_getElem? (i := 114) rfl) rfl
theorem wC_X10_isOwnPower : Cond.code yX10_isOwnPower cX10_isOwnPower 1 (some .boolean) ∈ gWs := gWs_t3 (List.mem_of_getElem? (i := 115) rfl) rfl
theorem wM_X10_138 : Cond.methodLink RX10 138 yX3_cell ∈ gWs := gWs_t3 (List.mem_of_getElem? (i := 116) rfl) rfl
theorem wM_L_54 : Cond.methodLink RL 54 yX10_bound ∈ gWs := gWs_t3 (List.mem_of_getElem? (i := 117) rfl) rfl
theorem wI_X10_bound : Cond.instanceMethod yX10_bound ∈ gWs := gWs_t3 (List.mem_of_getElem? (i := 118) rfl) rfl
theorem wV_X10_bound : Cond.selects RX10 yX10_bound yX10_bound ∈ gWs := gWs_t3 (List.mem_of_getElem? (i := 119) rfl) rfl
theorem wC_X10_bound : Cond.code yX10_bound cX10_bound 3 (some .int) ∈ gWs := gWs_t3 (List.mem_of_getElem? (i := 120) rfl) rfl
theorem wK_X10_142 : Cond.constant RX10 142 (200000) ∈ gWs := gWs_t3 (List.mem_of_getElem? (i := 121) rfl) rfl
theorem wM_X10_146 : Cond.methodLink RX10 146 yX0_push ∈ gWs := gWs_t3 (List.mem_of_getElem? (i := 122) rfl) rfl
theorem wI_X0_push : Cond.instanceMethod yX0_push ∈ gWs := gWs_t3 (List.mem_of_getElem? (i := 123) rfl) rfl
theorem wV_X0_push : Cond.selects RX0 yX0_push yX0_push ∈ gWs := gWs_t3 (List.mem_of_getElem? (i := 124) rfl) rfl
theorem wC_X0_push : Cond.code yX0_push cX0_push 5 (none) ∈ gWs := gWs_t3 (List.mem_of_getElem? (i := 125) rfl) rfl
theorem wM_X0_29 : Cond.methodLink RX0 29 yJ9_min_7cf53 ∈ gWs := gWs_t3 (List.mem_of_getElem? (i := 126) rfl) rfl
theorem wM_L_58 : Cond.methodLink RL 58 yX10_modulus ∈ gWs := gWs_t3 (List.mem_of_getElem? (i := 127) rfl) rfl
theorem wI_X10_modulus : Cond.instanceMethod yX10_modulus ∈ gWs := gWs_t3 (List.mem_of_getElem? (i := 128) rfl) rfl
theorem wV_X10_modulus : Cond.selects RX10 yX10_modulus yX10_modulus ∈ gWs := gWs_t3 (List.mem_of_getElem? (i := 129) rfl) rfl
theorem wC_X10_modulus : Cond.code yX10_modulus cX10_modulus 3 (some .int) ∈ gWs := gWs_t3 (List.mem_of_getElem? (i := 130) rfl) rfl
theorem wK_X10_150 : Cond.constant RX10 150 (1000003) ∈ gWs := gWs_t3 (List.mem_of_getElem? (i := 131) rfl) rfl
theorem wM_L_62 : Cond.methodLink RL 62 yX10_set ∈ gWs := gWs_t3 (List.mem_of_getElem? (i := 132) rfl) rfl
theorem wI_X10_set : Cond.instanceMethod yX10_set ∈ gWs := gWs_t3 (List.mem_of_getElem? (i := 133) rfl) rfl
theorem wV_X10_set : Cond.selects RX10 yX10_set yX10_set ∈ gWs := gWs_t3 (List.mem_of_getElem? (i := 134) rfl) rfl
theorem wC_X10_set : Cond.code yX10_set cX10_set 6 (some .boolean) ∈ gWs := gWs_t3 (List.mem_of_getElem? (i := 135) rfl) rfl
theorem wM_X10_154 : Cond.methodLink RX10 154 yX10_isTellable ∈ gWs := gWs_t3 (List.mem_of_getElem? (i := 136) rfl) rfl
theorem wM_X10_157 : Cond.methodLink RX10 157 yX10_putNumbers ∈ gWs := gWs_t3 (List.mem_of_getElem? (i := 137) rfl) rfl
theorem wI_X10_putNumbers : Cond.instanceMethod yX10_putNumbers ∈ gWs := gWs_t3 (List.mem_of_getElem? (i := 139) rfl) rfl
theorem wC_X10_putNumbers : Cond.code yX10_putNumbers cX10_putNumbers 4 (none) ∈ gWs := gWs_t3 (List.mem_of_getElem? (i := 140) rfl) rfl
theorem wM_L_67 : Cond.methodLink RL 67 yX10_value ∈ gWs := gWs_t3 (List.mem_of_getElem? (i := 141) rfl) rfl
theorem wI_X10_value : Cond.instanceMethod yX10_value ∈ gWs := gWs_t3 (List.mem_of_getElem? (i := 142) rfl) rfl
theorem wV_X10_value : Cond.selects RX10 yX10_value yX10_value ∈ gWs := gWs_t3 (List.mem_of_getElem? (i := 143) rfl) rfl
theorem wC_X10_value : Cond.code yX10_value cX10_value 3 (some .int) ∈ gWs := gWs_t3 (List.mem_of_getElem? (i := 144) rfl) rfl
theorem wM_X10_98 : Cond.methodLink RX10 98 yX3_has ∈ gWs := gWs_t3 (List.mem_of_getElem? (i := 145) rfl) rfl
theorem wM_X10_161 : Cond.methodLink RX10 161 yX10_isPlace ∈ gWs := gWs_t3 (List.mem_of_getElem? (i := 146) rfl) rfl
theorem wI_X10_isPlace : Cond.instanceMethod yX10_isPlace ∈ gWs := gWs_t3 (List.mem_of_getElem? (i := 148) rfl) rfl
theorem wC_X10_isPlace : Cond.code yX10_isPlace cX10_isPlace 2 (some .boolean) ∈ gWs := gWs_t3 (List.mem_of_getElem? (i := 149) rfl) rfl
theorem wM_X10_168 : Cond.methodLink RX10 168 yX4_valueAt ∈ gWs := gWs_t3 (List.mem_of_getElem? (i := 150) rfl) rfl
theorem wI_X4_valueAt : Cond.instanceMethod yX4_valueAt ∈ gWs := gWs_t3 (List.mem_of_getElem? (i := 151) rfl) rfl
theorem wV_X4_valueAt : Cond.selects RX4 yX4_valueAt yX4_valueAt ∈ gWs := gWs_t3 (List.mem_of_getElem? (i := 152) rfl) rfl
theorem wC_X4_valueAt : Cond.code yX4_valueAt cX4_valueAt 9 (some .int) ∈ gWs := gWs_t3 (List.mem_of_getElem? (i := 153) rfl) rfl
theorem wM_X4_18 : Cond.methodLink RX4 18 yX4_valueAtPower ∈ gWs := gWs_t3 (List.mem_of_getElem? (i := 154) rfl) rfl
theorem wI_X4_valueAtPower : Cond.instanceMethod yX4_valueAtPower ∈ gWs := gWs_t3 (List.mem_of_getElem? (i := 155) rfl) rfl
theorem wV_X4_valueAtPower : Cond.selects RX4 yX4_valueAtPower yX4_valueAtPower ∈ gWs := gWs_t3 (List.mem_of_getElem? (i := 156) rfl) rfl
theorem wC_X4_valueAtPower : Cond.code yX4_valueAtPower cX4_valueAtPower 8 (some .int) ∈ gWs := gWs_t3 (List.mem_of_getElem? (i := 157) rfl) rfl
theorem wM_X4_28 : Cond.methodLink RX4 28 yX3_has ∈ gWs := gWs_t3 (List.mem_of_getElem? (i := 158) rfl) rfl
theorem wM_X4_22 : Cond.methodLink RX4 22 yX3_rest ∈ gWs := gWs_t3 (List.mem_of_getElem? (i := 159) rfl) rfl
theorem wI_X3_rest : Cond.instanceMethod yX3_rest ∈ gWs := gWs_t3 (List.mem_of_getElem? (i := 160) rfl) rfl
theorem wV_X3_rest : Cond.selects RX3 yX3_rest yX3_rest ∈ gWs := gWs_t3 (List.mem_of_getElem? (i := 161) rfl) rfl
theorem wC_X3_rest : Cond.code yX3_rest cX3_rest 4 (some .int) ∈ gWs := gWs_t3 (List.mem_of_getElem? (i := 162) rfl) rfl
theorem wM_X4_35 : Cond.methodLink RX4 35 yX4_cellOf ∈ gWs := gWs_t3 (List.mem_of_getElem? (i := 163) rfl) rfl
theorem wI_X4_cellOf : Cond.instanceMethod yX4_cellOf ∈ gWs := gWs_t3 (List.mem_of_getElem? (i := 165) rfl) rfl
theorem wC_X4_cellOf : Cond.code yX4_cellOf cX4_cellOf 7 (some .long) ∈ gWs := gWs_t3 (List.mem_of_getElem? (i := 166) rfl) rfl
theorem wM_X4_42 : Cond.methodLink RX4 42 yJ9_max_7cf53 ∈ gWs := gWs_t3 (List.mem_of_getElem? (i := 167) rfl) rfl
theorem wM_X4_54 : Cond.methodLink RX4 54 yX4_ownCell ∈ gWs := gWs_t3 (List.mem_of_getElem? (i := 168) rfl) rfl
theorem wS_X4_ownCell : Cond.static yX4_ownCell ∈ gWs := gWs_t3 (List.mem_of_getElem? (i := 169) rfl) rfl
theorem wC_X4_ownCell : Cond.code yX4_ownCell cX4_ownCell 5 (some .long) ∈ gWs := gWs_t3 (List.mem_of_getElem? (i := 170) rfl) rfl
theorem wM_X4_77 : Cond.methodLink RX4 77 yX3_cell ∈ gWs := gWs_t3 (List.mem_of_getElem? (i := 172) rfl) rfl
theorem wM_X4_57 : Cond.methodLink RX4 57 yX4_crossed ∈ gWs := gWs_t3 (List.mem_of_getElem? (i := 173) rfl) rfl
theorem wI_X4_crossed : Cond.instanceMethod yX4_crossed ∈ gWs := gWs_t3 (List.mem_of_getElem? (i := 175) rfl) rfl
theorem wC_X4_crossed : Cond.code yX4_crossed cX4_crossed 8 (some .long) ∈ gWs := gWs_t3 (List.mem_of_getElem? (i := 176) rfl) rfl
theorem wM_X4_64 : Cond.methodLink RX4 64 yX4_sign ∈ gWs := gWs_t3 (List.mem_of_getElem? (i := 177) rfl) rfl
theorem wS_X4_sign : Cond.static yX4_sign ∈ gWs := gWs_t3 (List.mem_of_getElem? (i := 178) rfl) rfl
theorem wC_X4_sign : Cond.code yX4_sign cX4_sign 5 (some .int) ∈ gWs := gWs_t3 (List.mem_of_getElem? (i := 179) rfl) rfl
theorem wM_X4_68 : Cond.methodLink RX4 68 yX4_knownCell ∈ gWs := gWs_t3 (List.mem_of_getElem? (i := 180) rfl) rfl
theorem wI_X4_knownCell : Cond.instanceMethod yX4_knownCell ∈ gWs := gWs_t3 (List.mem_of_getElem? (i := 182) rfl) rfl
theorem wC_X4_knownCell : Cond.code yX4_knownCell cX4_knownCell 3 (some .long) ∈ gWs := gWs_t3 (List.mem_of_getElem? (i := 183) rfl) rfl
theorem wQ_X4_72 : Cond.constantLong RX4 72 (-1) ∈ gWs := gWs_t3 (List.mem_of_getElem? (i := 184) rfl) rfl
theorem wM_L_71 : Cond.methodLink RL 71 yX10_atPower ∈ gWs := gWs_t3 (List.mem_of_getElem? (i := 185) rfl) rfl
theorem wI_X10_atPower : Cond.instanceMethod yX10_atPower ∈ gWs := gWs_t3 (List.mem_of_getElem? (i := 186) rfl) rfl
theorem wV_X10_atPower : Cond.selects RX10 yX10_atPower yX10_atPower ∈ gWs := gWs_t3 (List.mem_of_getElem? (i := 187) rfl) rfl
theorem wC_X10_atPower : Cond.code yX10_atPower cX10_atPower 4 (some .int) ∈ gWs := gWs_t3 (List.mem_of_getElem? (i := 188) rfl) rfl
theorem wK_X10_174 : Cond.constant RX10 174 (200003) ∈ gWs := gWs_t3 (List.mem_of_getElem? (i := 189) rfl) rfl
theorem wM_X10_175 : Cond.methodLink RX10 175 yX4_valueAtPower ∈ gWs := gWs_t3 (List.mem_of_getElem? (i := 190) rfl) rfl
theorem wM_L_76 : Cond.methodLink RL 76 yX10_sum ∈ gWs := gWs_t3 (List.mem_of_getElem? (i := 191) rfl) rfl
theorem wI_X10_sum : Cond.instanceMethod yX10_sum ∈ gWs := gWs_t3 (List.mem_of_getElem? (i := 192) rfl) rfl
theorem wV_X10_sum : Cond.selects RX10 yX10_sum yX10_sum ∈ gWs := gWs_t3 (List.mem_of_getElem? (i := 193) rfl) rfl
theorem wC_X10_sum : Cond.code yX10_sum cX10_sum 3 (some .int) ∈ gWs := gWs_t3 (List.mem_of_getElem? (i := 194) rfl) rfl
theorem wM_X10_179 : Cond.methodLink RX10 179 yX10_isReach ∈ gWs := gWs_t3 (List.mem_of_getElem? (i := 195) rfl) rfl
theorem wI_X10_isReach : Cond.instanceMethod yX10_isReach ∈ gWs := gWs_t3 (List.mem_of_getElem? (i := 197) rfl) rfl
theorem wC_X10_isReach : Cond.code yX10_isReach cX10_isReach 2 (some .boolean) ∈ gWs := gWs_t3 (List.mem_of_getElem? (i := 198) rfl) rfl
theorem wM_X10_182 : Cond.methodLink RX10 182 yX7_upTo ∈ gWs := gWs_t3 (List.mem_of_getElem? (i := 199) rfl) rfl
theorem wI_X7_upTo : Cond.instanceMethod yX7_upTo ∈ gWs := gWs_t3 (List.mem_of_getElem? (i := 200) rfl) rfl
theorem wV_X7_upTo : Cond.selects RX7 yX7_upTo yX7_upTo ∈ gWs := gWs_t3 (List.mem_of_getElem? (i := 201) rfl) rfl
theorem wC_X7_upTo : Cond.code yX7_upTo cX7_upTo 5 (some (.object "QuotientSums$Row")) ∈ gWs := gWs_t3 (List.mem_of_getElem? (i := 202) rfl) rfl
theorem wM_X7_41 : Cond.methodLink RX7 41 yX7_rowOf ∈ gWs := gWs_t3 (List.mem_of_getElem? (i := 203) rfl) rfl
theorem wI_X7_rowOf : Cond.instanceMethod yX7_rowOf ∈ gWs := gWs_t3 (List.mem_of_getElem? (i := 205) rfl) rfl
theorem wC_X7_rowOf : Cond.code yX7_rowOf cX7_rowOf 6 (some (.object "QuotientSums$Row")) ∈ gWs := gWs_t3 (List.mem_of_getElem? (i := 206) rfl) rfl
theorem wM_X7_66 : Cond.methodLink RX7 66 yX6_begin ∈ gWs := gWs_t3 (List.mem_of_getElem? (i := 207) rfl) rfl
theorem wI_X6_begin : Cond.instanceMethod yX6_begin ∈ gWs := gWs_t3 (List.mem_of_getElem? (i := 208) rfl) rfl
theorem wV_X6_begin : Cond.selects RX6 yX6_begin yX6_begin ∈ gWs := gWs_t3 (List.mem_of_getElem? (i := 209) rfl) rfl
theorem wC_X6_begin : Cond.code yX6_begin cX6_begin 3 (none) ∈ gWs := gWs_t3 (List.mem_of_getElem? (i := 210) rfl) rfl
theorem wM_X7_54 : Cond.methodLink RX7 54 yX8_reach ∈ gWs := gWs_t3 (List.mem_of_getElem? (i := 211) rfl) rfl
theorem wI_X8_reach : Cond.instanceMethod yX8_reach ∈ gWs := gWs_t3 (List.mem_of_getElem? (i := 212) rfl) rfl
theorem wV_X8_reach : Cond.selects RX8 yX8_reach yX8_reach ∈ gWs := gWs_t3 (List.mem_of_getElem? (i := 213) rfl) rfl
theorem wC_X8_reach : Cond.code yX8_reach cX8_reach 5 (none) ∈ gWs := gWs_t3 (List.mem_of_getElem? (i := 214) rfl) rfl
theorem wK_X8_15 : Cond.constant RX8 15 (200000) ∈ gWs := gWs_t3 (List.mem_of_getElem? (i := 215) rfl) rfl
theorem wS_X10_grown : Cond.static yX10_grown ∈ gWs := gWs_t3 (List.mem_of_getElem? (i := 217) rfl) rfl
theorem wC_X10_grown : Cond.code yX10_grown cX10_grown 2 (some .int) ∈ gWs := gWs_t3 (List.mem_of_getElem? (i := 218) rfl) rfl
theorem wK_X10_328 : Cond.constant RX10 328 (200001) ∈ gWs := gWs_t3 (List.mem_of_getElem? (i := 219) rfl) rfl
theorem wM_X10_252 : Cond.methodLink RX10 252 yJ9_min_7cf53 ∈ gWs := gWs_t3 (List.mem_of_getElem? (i := 220) rfl) rfl
theorem wM_X10_225 : Cond.methodLink RX10 225 yJ9_max_7cf53 ∈ gWs := gWs_t3 (List.mem_of_getElem? (i := 221) rfl) rfl
theorem wM_X8_20 : Cond.methodLink RX8 20 yJ7_copyOf_59c91 ∈ gWs := gWs_t3 (List.mem_of_getElem? (i := 222) rfl) rfl
theorem wS_J7_copyOf_59c91 : Cond.static yJ7_copyOf_59c91 ∈ gWs := gWs_t3 (List.mem_of_getElem? (i := 223) rfl) rfl
theorem wC_J7_copyOf_59c91 : Cond.code yJ7_copyOf_59c91 cJ7_copyOf_59c91 3 (some (.array .int)) ∈ gWs := gWs_t3 (List.mem_of_getElem? (i := 224) rfl) rfl
theorem wL_J7_317 : Cond.classLink RJ7 317 "[I" ∈ gWs := gWs_t3 (List.mem_of_getElem? (i := 231) rfl) rfl
theorem wM_J7_304 : Cond.methodLink RJ7 304 yJ9_min_7cf53 ∈ gWs := gWs_t3 (List.mem_of_getElem? (i := 232) rfl) rfl
theorem wM_J7_150 : Cond.methodLink RJ7 150 arraycopyName ∈ gWs := gWs_t3 (List.mem_of_getElem? (i := 233) rfl) rfl
theorem wS_arraycopy : Cond.static arraycopyName ∈ gWs := gWs_t3 (List.mem_of_getElem? (i := 234) rfl) rfl
theorem wNat_arraycopy : Cond.native arraycopyName ∈ gWs := gWs_t3 (List.mem_of_getElem? (i := 235) rfl) rfl
theorem wM_X8_26 : Cond.methodLink RX8 26 yJ9_max_7cf53 ∈ gWs := gWs_t3 (List.mem_of_getElem? (i := 236) rfl) rfl
theorem wM_X8_31 : Cond.methodLink RX8 31 yX8_markFrom ∈ gWs := gWs_t3 (List.mem_of_getElem? (i := 237) rfl) rfl
theorem wI_X8_markFrom : Cond.instanceMethod yX8_markFrom ∈ gWs := gWs_t3 (List.mem_of_getElem? (i := 239) rfl) rfl
theorem wC_X8_markFrom : Cond.code yX8_markFrom cX8_markFrom 4 (none) ∈ gWs := gWs_t4 (List.mem_of_getElem? (i := 0) rfl) rfl
theorem wM_X7_58 : Cond.methodLink RX7 58 yX6_makeRoom ∈ gWs := gWs_t4 (List.mem_of_getElem? (i := 1) rfl) rfl
theorem wI_X6_makeRoom : Cond.instanceMethod yX6_makeRoom ∈ gWs := gWs_t4 (List.mem_of_getElem? (i := 2) rfl) rfl
theorem wV_X6_makeRoom : Cond.selects RX6 yX6_makeRoom yX6_makeRoom ∈ gWs := gWs_t4 (List.mem_of_getElem? (i := 3) rfl) rfl
theorem wC_X6_makeRoom : Cond.code yX6_makeRoom cX6_makeRoom 2 (none) ∈ gWs := gWs_t4 (List.mem_of_getElem? (i := 4) rfl) rfl
theorem wK_X6_25 : Cond.constant RX6 25 (200000) ∈ gWs := gWs_t4 (List.mem_of_getElem? (i := 5) rfl) rfl
theorem wM_X6_30 : Cond.methodLink RX6 30 yJ7_copyOf_59c91 ∈ gWs := gWs_t4 (List.mem_of_getElem? (i := 7) rfl) rfl
theorem wM_X7_61 : Cond.methodLink RX7 61 yX7_fill ∈ gWs := gWs_t4 (List.mem_of_getElem? (i := 8) rfl) rfl
theorem wI_X7_fill : Cond.instanceMethod yX7_fill ∈ gWs := gWs_t4 (List.mem_of_getElem? (i := 10) rfl) rfl
theorem wC_X7_fill : Cond.code yX7_fill cX7_fill 10 (none) ∈ gWs := gWs_t4 (List.mem_of_getElem? (i := 11) rfl) rfl
theorem wM_X7_77 : Cond.methodLink RX7 77 yJ9_min_7cf53 ∈ gWs := gWs_t4 (List.mem_of_getElem? (i := 12) rfl) rfl
theorem wM_X7_83 : Cond.methodLink RX7 83 yX4_valueAtPower ∈ gWs := gWs_t4 (List.mem_of_getElem? (i := 13) rfl) rfl
theorem wM_X7_87 : Cond.methodLink RX7 87 yX6_append ∈ gWs := gWs_t4 (List.mem_of_getElem? (i := 14) rfl) rfl
theorem wI_X6_append : Cond.instanceMethod yX6_append ∈ gWs := gWs_t4 (List.mem_of_getElem? (i := 15) rfl) rfl
theorem wV_X6_append : Cond.selects RX6 yX6_append yX6_append ∈ gWs := gWs_t4 (List.mem_of_getElem? (i := 16) rfl) rfl
theorem wC_X6_append : Cond.code yX6_append cX6_append 3 (none) ∈ gWs := gWs_t4 (List.mem_of_getElem? (i := 17) rfl) rfl
theorem wM_X7_90 : Cond.methodLink RX7 90 yX6_appendProduct ∈ gWs := gWs_t4 (List.mem_of_getElem? (i := 18) rfl) rfl
theorem wI_X6_appendProduct : Cond.instanceMethod yX6_appendProduct ∈ gWs := gWs_t4 (List.mem_of_getElem? (i := 19) rfl) rfl
theorem wV_X6_appendProduct : Cond.selects RX6 yX6_appendProduct yX6_appendProduct ∈ gWs := gWs_t4 (List.mem_of_getElem? (i := 20) rfl) rfl
theorem wC_X6_appendProduct : Cond.code yX6_appendProduct cX6_appendProduct 6 (none) ∈ gWs := gWs_t4 (List.mem_of_getElem? (i := 21) rfl) rfl
theorem wM_X6_36 : Cond.methodLink RX6 36 yX6_append ∈ gWs := gWs_t4 (List.mem_of_getElem? (i := 22) rfl) rfl
theorem wM_X10_186 : Cond.methodLink RX10 186 yX6_sumTo ∈ gWs := gWs_t4 (List.mem_of_getElem? (i := 23) rfl) rfl
theorem wI_X6_sumTo : Cond.instanceMethod yX6_sumTo ∈ gWs := gWs_t4 (List.mem_of_getElem? (i := 24) rfl) rfl
theorem wV_X6_sumTo : Cond.selects RX6 yX6_sumTo yX6_sumTo ∈ gWs := gWs_t4 (List.mem_of_getElem? (i := 25) rfl) rfl
theorem wC_X6_sumTo : Cond.code yX6_sumTo cX6_sumTo 2 (some .int) ∈ gWs := gWs_t4 (List.mem_of_getElem? (i := 26) rfl) rfl
theorem wM_L_80 : Cond.methodLink RL 80 yX10_range ∈ gWs := gWs_t4 (List.mem_of_getElem? (i := 27) rfl) rfl
theorem wI_X10_range : Cond.instanceMethod yX10_range ∈ gWs := gWs_t4 (List.mem_of_getElem? (i := 28) rfl) rfl
theorem wV_X10_range : Cond.selects RX10 yX10_range yX10_range ∈ gWs := gWs_t4 (List.mem_of_getElem? (i := 29) rfl) rfl
theorem wC_X10_range : Cond.code yX10_range cX10_range 4 (some .int) ∈ gWs := gWs_t4 (List.mem_of_getElem? (i := 30) rfl) rfl
theorem wM_X10_191 : Cond.methodLink RX10 191 yX6_stretch ∈ gWs := gWs_t4 (List.mem_of_getElem? (i := 31) rfl) rfl
theorem wI_X6_stretch : Cond.instanceMethod yX6_stretch ∈ gWs := gWs_t4 (List.mem_of_getElem? (i := 32) rfl) rfl
theorem wV_X6_stretch : Cond.selects RX6 yX6_stretch yX6_stretch ∈ gWs := gWs_t4 (List.mem_of_getElem? (i := 33) rfl) rfl
theorem wC_X6_stretch : Cond.code yX6_stretch cX6_stretch 4 (some .int) ∈ gWs := gWs_t4 (List.mem_of_getElem? (i := 34) rfl) rfl
theorem wM_X6_40 : Cond.methodLink RX6 40 yX6_sumTo ∈ gWs := gWs_t4 (List.mem_of_getElem? (i := 35) rfl) rfl
theorem wM_L_84 : Cond.methodLink RL 84 yX10_primes ∈ gWs := gWs_t4 (List.mem_of_getElem? (i := 36) rfl) rfl
theorem wI_X10_primes : Cond.instanceMethod yX10_primes ∈ gWs := gWs_t4 (List.mem_of_getElem? (i := 37) rfl) rfl
theorem wV_X10_primes : Cond.selects RX10 yX10_primes yX10_primes ∈ gWs := gWs_t4 (List.mem_of_getElem? (i := 38) rfl) rfl
theorem wC_X10_primes : Cond.code yX10_primes cX10_primes 6 (some .int) ∈ gWs := gWs_t4 (List.mem_of_getElem? (i := 39) rfl) rfl
theorem wM_X10_198 : Cond.methodLink RX10 198 yX8_reach ∈ gWs := gWs_t4 (List.mem_of_getElem? (i := 40) rfl) rfl
theorem wM_X10_203 : Cond.methodLink RX10 203 yX8_leastPrime ∈ gWs := gWs_t4 (List.mem_of_getElem? (i := 41) rfl) rfl
theorem wI_X8_leastPrime : Cond.instanceMethod yX8_leastPrime ∈ gWs := gWs_t4 (List.mem_of_getElem? (i := 42) rfl) rfl
theorem wV_X8_leastPrime : Cond.selects RX8 yX8_leastPrime yX8_leastPrime ∈ gWs := gWs_t4 (List.mem_of_getElem? (i := 43) rfl) rfl
theorem wC_X8_leastPrime : Cond.code yX8_leastPrime cX8_leastPrime 3 (some .int) ∈ gWs := gWs_t4 (List.mem_of_getElem? (i := 44) rfl) rfl
theorem wM_X10_206 : Cond.methodLink RX10 206 yX10_powerOf ∈ gWs := gWs_t4 (List.mem_of_getElem? (i := 45) rfl) rfl
theorem wI_X10_powerOf : Cond.instanceMethod yX10_powerOf ∈ gWs := gWs_t4 (List.mem_of_getElem? (i := 47) rfl) rfl
theorem wC_X10_powerOf : Cond.code yX10_powerOf cX10_powerOf 6 (some .int) ∈ gWs := gWs_t4 (List.mem_of_getElem? (i := 48) rfl) rfl
theorem wM_X10_209 : Cond.methodLink RX10 209 yX3_rest ∈ gWs := gWs_t4 (List.mem_of_getElem? (i := 49) rfl) rfl
theorem wM_L_88 : Cond.methodLink RL 88 yX10_quotients ∈ gWs := gWs_t4 (List.mem_of_getElem? (i := 50) rfl) rfl
theorem wI_X10_quotients : Cond.instanceMethod yX10_quotients ∈ gWs := gWs_t4 (List.mem_of_getElem? (i := 51) rfl) rfl
theorem wV_X10_quotients : Cond.selects RX10 yX10_quotients yX10_quotients ∈ gWs := gWs_t4 (List.mem_of_getElem? (i := 52) rfl) rfl
theorem wC_X10_quotients : Cond.code yX10_quotients cX10_quotients 2 (some .int) ∈ gWs := gWs_t4 (List.mem_of_getElem? (i := 53) rfl) rfl
theorem wM_X10_213 : Cond.methodLink RX10 213 yX10_quotientTotal ∈ gWs := gWs_t4 (List.mem_of_getElem? (i := 54) rfl) rfl
theorem wS_X10_quotientTotal : Cond.static yX10_quotientTotal ∈ gWs := gWs_t4 (List.mem_of_getElem? (i := 55) rfl) rfl
theorem wC_X10_quotientTotal : Cond.code yX10_quotientTotal cX10_quotientTotal 2 (some .int) ∈ gWs := gWs_t4 (List.mem_of_getElem? (i := 56) rfl) rfl
theorem wM_X10_222 : Cond.methodLink RX10 222 yX10_rootOf ∈ gWs := gWs_t4 (List.mem_of_getElem? (i := 57) rfl) rfl
theorem wS_X10_rootOf : Cond.static yX10_rootOf ∈ gWs := gWs_t4 (List.mem_of_getElem? (i := 58) rfl) rfl
theorem wC_X10_rootOf : Cond.code yX10_rootOf cX10_rootOf 4 (some .int) ∈ gWs := gWs_t4 (List.mem_of_getElem? (i := 59) rfl) rfl
theorem wM_X10_219 : Cond.methodLink RX10 219 yX10_divided ∈ gWs := gWs_t4 (List.mem_of_getElem? (i := 60) rfl) rfl
theorem wS_X10_divided : Cond.static yX10_divided ∈ gWs := gWs_t4 (List.mem_of_getElem? (i := 61) rfl) rfl
theorem wC_X10_divided : Cond.code yX10_divided cX10_divided 2 (some .int) ∈ gWs := gWs_t4 (List.mem_of_getElem? (i := 62) rfl) rfl
theorem wM_L_92 : Cond.methodLink RL 92 yX10_quotient ∈ gWs := gWs_t4 (List.mem_of_getElem? (i := 63) rfl) rfl
theorem wI_X10_quotient : Cond.instanceMethod yX10_quotient ∈ gWs := gWs_t4 (List.mem_of_getElem? (i := 64) rfl) rfl
theorem wV_X10_quotient : Cond.selects RX10 yX10_quotient yX10_quotient ∈ gWs := gWs_t4 (List.mem_of_getElem? (i := 65) rfl) rfl
theorem wC_X10_quotient : Cond.code yX10_quotient cX10_quotient 3 (some .int) ∈ gWs := gWs_t4 (List.mem_of_getElem? (i := 66) rfl) rfl
theorem wM_X10_216 : Cond.methodLink RX10 216 yX10_quotientAt ∈ gWs := gWs_t4 (List.mem_of_getElem? (i := 67) rfl) rfl
theorem wS_X10_quotientAt : Cond.static yX10_quotientAt ∈ gWs := gWs_t4 (List.mem_of_getElem? (i := 68) rfl) rfl
theorem wC_X10_quotientAt : Cond.code yX10_quotientAt cX10_quotientAt 2 (some .int) ∈ gWs := gWs_t4 (List.mem_of_getElem? (i := 69) rfl) rfl
theorem wM_L_96 : Cond.methodLink RL 96 yX10_block ∈ gWs := gWs_t4 (List.mem_of_getElem? (i := 70) rfl) rfl
theorem wI_X10_block : Cond.instanceMethod yX10_block ∈ gWs := gWs_t4 (List.mem_of_getElem? (i := 71) rfl) rfl
theorem wV_X10_block : Cond.selects RX10 yX10_block yX10_block ∈ gWs := gWs_t4 (List.mem_of_getElem? (i := 72) rfl) rfl
theorem wC_X10_block : Cond.code yX10_block cX10_block 5 (some .int) ∈ gWs := gWs_t4 (List.mem_of_getElem? (i := 73) rfl) rfl
theorem wM_L_100 : Cond.methodLink RL 100 yX10_hyper ∈ gWs := gWs_t4 (List.mem_of_getElem? (i := 74) rfl) rfl
theorem wI_X10_hyper : Cond.instanceMethod yX10_hyper ∈ gWs := gWs_t4 (List.mem_of_getElem? (i := 75) rfl) rfl
theorem wV_X10_hyper : Cond.selects RX10 yX10_hyper yX10_hyper ∈ gWs := gWs_t4 (List.mem_of_getElem? (i := 76) rfl) rfl
theorem wC_X10_hyper : Cond.code yX10_hyper cX10_hyper 11 (some .int) ∈ gWs := gWs_t4 (List.mem_of_getElem? (i := 77) rfl) rfl
theorem wM_L_149 : Cond.methodLink RL 149 yX10_blocks ∈ gWs := gWs_t4 (List.mem_of_getElem? (i := 78) rfl) rfl
theorem wI_X10_blocks : Cond.instanceMethod yX10_blocks ∈ gWs := gWs_t4 (List.mem_of_getElem? (i := 79) rfl) rfl
theorem wV_X10_blocks : Cond.selects RX10 yX10_blocks yX10_blocks ∈ gWs := gWs_t4 (List.mem_of_getElem? (i := 80) rfl) rfl
theorem wC_X10_blocks : Cond.code yX10_blocks cX10_blocks 9 (some .int) ∈ gWs := gWs_t4 (List.mem_of_getElem? (i := 81) rfl) rfl
theorem wM_L_104 : Cond.methodLink RL 104 yX10_common ∈ gWs := gWs_t4 (List.mem_of_getElem? (i := 82) rfl) rfl
theorem wI_X10_common : Cond.instanceMethod yX10_common ∈ gWs := gWs_t4 (List.mem_of_getElem? (i := 83) rfl) rfl
theorem wV_X10_common : Cond.selects RX10 yX10_common yX10_common ∈ gWs := gWs_t4 (List.mem_of_getElem? (i := 84) rfl) rfl
theorem wC_X10_common : Cond.code yX10_common cX10_common 9 (some .int) ∈ gWs := gWs_t4 (List.mem_of_getElem? (i := 85) rfl) rfl
theorem wM_X10_230 : Cond.methodLink RX10 230 yX1_reach ∈ gWs := gWs_t4 (List.mem_of_getElem? (i := 86) rfl) rfl
theorem wI_X1_reach : Cond.instanceMethod yX1_reach ∈ gWs := gWs_t4 (List.mem_of_getElem? (i := 87) rfl) rfl
theorem wV_X1_reach : Cond.selects RX1 yX1_reach yX1_reach ∈ gWs := gWs_t4 (List.mem_of_getElem? (i := 88) rfl) rfl
theorem wC_X1_reach : Cond.code yX1_reach cX1_reach 3 (none) ∈ gWs := gWs_t4 (List.mem_of_getElem? (i := 89) rfl) rfl
theorem wK_X1_22 : Cond.constant RX1 22 (200000) ∈ gWs := gWs_t4 (List.mem_of_getElem? (i := 90) rfl) rfl
theorem wM_X1_30 : Cond.methodLink RX1 30 yX1_counted ∈ gWs := gWs_t4 (List.mem_of_getElem? (i := 92) rfl) rfl
theorem wI_X1_counted : Cond.instanceMethod yX1_counted ∈ gWs := gWs_t4 (List.mem_of_getElem? (i := 94) rfl) rfl
theorem wC_X1_counted : Cond.code yX1_counted cX1_counted 7 (some .long) ∈ gWs := gWs_t4 (List.mem_of_getElem? (i := 95) rfl) rfl
theorem wM_X1_38 : Cond.methodLink RX1 38 yJ9_max_7cf53 ∈ gWs := gWs_t4 (List.mem_of_getElem? (i := 97) rfl) rfl
theorem wM_X1_43 : Cond.methodLink RX1 43 yX1_without ∈ gWs := gWs_t4 (List.mem_of_getElem? (i := 98) rfl) rfl
theorem wI_X1_without : Cond.instanceMethod yX1_without ∈ gWs := gWs_t4 (List.mem_of_getElem? (i := 99) rfl) rfl
theorem wV_X1_without : Cond.selects RX1 yX1_without yX1_without ∈ gWs := gWs_t4 (List.mem_of_getElem? (i := 100) rfl) rfl
theorem wC_X1_without : Cond.code yX1_without cX1_without 3 (some .long) ∈ gWs := gWs_t4 (List.mem_of_getElem? (i := 101) rfl) rfl
theorem wM_X10_231 : Cond.methodLink RX10 231 yX1_without ∈ gWs := gWs_t4 (List.mem_of_getElem? (i := 102) rfl) rfl
theorem wM_L_108 : Cond.methodLink RL 108 yX10_coprime ∈ gWs := gWs_t4 (List.mem_of_getElem? (i := 103) rfl) rfl
theorem wI_X10_coprime : Cond.instanceMethod yX10_coprime ∈ gWs := gWs_t4 (List.mem_of_getElem? (i := 104) rfl) rfl
theorem wV_X10_coprime : Cond.selects RX10 yX10_coprime yX10_coprime ∈ gWs := gWs_t4 (List.mem_of_getElem? (i := 105) rfl) rfl
theorem wC_X10_coprime : Cond.code yX10_coprime cX10_coprime 2 (some .long) ∈ gWs := gWs_t4 (List.mem_of_getElem? (i := 106) rfl) rfl
theorem wQ_X10_235 : Cond.constantLong RX10 235 (-1) ∈ gWs := gWs_t4 (List.mem_of_getElem? (i := 107) rfl) rfl
theorem wM_L_113 : Cond.methodLink RL 113 yX10_many ∈ gWs := gWs_t4 (List.mem_of_getElem? (i := 108) rfl) rfl
theorem wI_X10_many : Cond.instanceMethod yX10_many ∈ gWs := gWs_t4 (List.mem_of_getElem? (i := 109) rfl) rfl
theorem wV_X10_many : Cond.selects RX10 yX10_many yX10_many ∈ gWs := gWs_t4 (List.mem_of_getElem? (i := 110) rfl) rfl
theorem wC_X10_many : Cond.code yX10_many cX10_many 3 (some .int) ∈ gWs := gWs_t4 (List.mem_of_getElem? (i := 111) rfl) rfl
theorem wM_X10_237 : Cond.methodLink RX10 237 yX10_freeUpTo ∈ gWs := gWs_t4 (List.mem_of_getElem? (i := 112) rfl) rfl
theorem wS_X10_freeUpTo : Cond.static yX10_freeUpTo ∈ gWs := gWs_t4 (List.mem_of_getElem? (i := 113) rfl) rfl
theorem wC_X10_freeUpTo : Cond.code yX10_freeUpTo cX10_freeUpTo 3 (some .int) ∈ gWs := gWs_t4 (List.mem_of_getElem? (i := 114) rfl) rfl
theorem wM_X10_243 : Cond.methodLink RX10 243 yX10_signOf ∈ gWs := gWs_t4 (List.mem_of_getElem? (i := 115) rfl) rfl
theorem wS_X10_signOf : Cond.static yX10_signOf ∈ gWs := gWs_t4 (List.mem_of_getElem? (i := 116) rfl) rfl
theorem wC_X10_signOf : Cond.code yX10_signOf cX10_signOf 4 (some .int) ∈ gWs := gWs_t4 (List.mem_of_getElem? (i := 117) rfl) rfl
theorem wM_X10_240 : Cond.methodLink RX10 240 yX10_fullUpTo ∈ gWs := gWs_t4 (List.mem_of_getElem? (i := 118) rfl) rfl
theorem wS_X10_fullUpTo : Cond.static yX10_fullUpTo ∈ gWs := gWs_t4 (List.mem_of_getElem? (i := 119) rfl) rfl
theorem wC_X10_fullUpTo : Cond.code yX10_fullUpTo cX10_fullUpTo 3 (some .int) ∈ gWs := gWs_t4 (List.mem_of_getElem? (i := 120) rfl) rfl
theorem wM_L_117 : Cond.methodLink RL 117 yX10_full ∈ gWs := gWs_t4 (List.mem_of_getElem? (i := 121) rfl) rfl
theorem wI_X10_full : Cond.instanceMethod yX10_full ∈ gWs := gWs_t4 (List.mem_of_getElem? (i := 122) rfl) rfl
theorem wV_X10_full : Cond.selects RX10 yX10_full yX10_full ∈ gWs := gWs_t4 (List.mem_of_getElem? (i := 123) rfl) rfl
theorem wC_X10_full : Cond.code yX10_full cX10_full 6 (some .int) ∈ gWs := gWs_t4 (List.mem_of_getElem? (i := 124) rfl) rfl
theorem wM_L_121 : Cond.methodLink RL 121 yX10_fullSum ∈ gWs := gWs_t4 (List.mem_of_getElem? (i := 125) rfl) rfl
theorem wI_X10_fullSum : Cond.instanceMethod yX10_fullSum ∈ gWs := gWs_t4 (List.mem_of_getElem? (i := 126) rfl) rfl
theorem wV_X10_fullSum : Cond.selects RX10 yX10_fullSum yX10_fullSum ∈ gWs := gWs_t4 (List.mem_of_getElem? (i := 127) rfl) rfl
theorem wC_X10_fullSum : Cond.code yX10_fullSum cX10_fullSum 8 (some .int) ∈ gWs := gWs_t4 (List.mem_of_getElem? (i := 128) rfl) rfl
theorem wM_L_125 : Cond.methodLink RL 125 yX10_smooth ∈ gWs := gWs_t4 (List.mem_of_getElem? (i := 129) rfl) rfl
theorem wI_X10_smooth : Cond.instanceMethod yX10_smooth ∈ gWs := gWs_t4 (List.mem_of_getElem? (i := 130) rfl) rfl
theorem wV_X10_smooth : Cond.selects RX10 yX10_smooth yX10_smooth ∈ gWs := gWs_t4 (List.mem_of_getElem? (i := 131) rfl) rfl
theorem wC_X10_smooth : Cond.code yX10_smooth cX10_smooth 8 (some .int) ∈ gWs := gWs_t4 (List.mem_of_getElem? (i := 132) rfl) rfl
theorem wM_X10_246 : Cond.methodLink RX10 246 yX8_isSmooth ∈ gWs := gWs_t4 (List.mem_of_getElem? (i := 133) rfl) rfl
theorem wI_X8_isSmooth : Cond.instanceMethod yX8_isSmooth ∈ gWs := gWs_t4 (List.mem_of_getElem? (i := 134) rfl) rfl
theorem wV_X8_isSmooth : Cond.selects RX8 yX8_isSmooth yX8_isSmooth ∈ gWs := gWs_t4 (List.mem_of_getElem? (i := 135) rfl) rfl
theorem wC_X8_isSmooth : Cond.code yX8_isSmooth cX8_isSmooth 6 (some .boolean) ∈ gWs := gWs_t4 (List.mem_of_getElem? (i := 136) rfl) rfl
theorem wM_X8_35 : Cond.methodLink RX8 35 yX8_leastPrime ∈ gWs := gWs_t4 (List.mem_of_getElem? (i := 137) rfl) rfl
theorem wM_X10_250 : Cond.methodLink RX10 250 yX6_valueAt ∈ gWs := gWs_t4 (List.mem_of_getElem? (i := 138) rfl) rfl
theorem wI_X6_valueAt : Cond.instanceMethod yX6_valueAt ∈ gWs := gWs_t4 (List.mem_of_getElem? (i := 139) rfl) rfl
theorem wV_X6_valueAt : Cond.selects RX6 yX6_valueAt yX6_valueAt ∈ gWs := gWs_t4 (List.mem_of_getElem? (i := 140) rfl) rfl
theorem wC_X6_valueAt : Cond.code yX6_valueAt cX6_valueAt 3 (some .int) ∈ gWs := gWs_t4 (List.mem_of_getElem? (i := 141) rfl) rfl
theorem wM_L_129 : Cond.methodLink RL 129 yX10_rough ∈ gWs := gWs_t4 (List.mem_of_getElem? (i := 142) rfl) rfl
theorem wI_X10_rough : Cond.instanceMethod yX10_rough ∈ gWs := gWs_t4 (List.mem_of_getElem? (i := 143) rfl) rfl
theorem wV_X10_rough : Cond.selects RX10 yX10_rough yX10_rough ∈ gWs := gWs_t4 (List.mem_of_getElem? (i := 144) rfl) rfl
theorem wC_X10_rough : Cond.code yX10_rough cX10_rough 8 (some .int) ∈ gWs := gWs_t4 (List.mem_of_getElem? (i := 145) rfl) rfl
theorem wM_L_133 : Cond.methodLink RL 133 yX10_first ∈ gWs := gWs_t4 (List.mem_of_getElem? (i := 146) rfl) rfl
theorem wI_X10_first : Cond.instanceMethod yX10_first ∈ gWs := gWs_t4 (List.mem_of_getElem? (i := 147) rfl) rfl
theorem wV_X10_first : Cond.selects RX10 yX10_first yX10_first ∈ gWs := gWs_t4 (List.mem_of_getElem? (i := 148) rfl) rfl
theorem wC_X10_first : Cond.code yX10_first cX10_first 7 (some .int) ∈ gWs := gWs_t4 (List.mem_of_getElem? (i := 149) rfl) rfl
theorem wM_X10_255 : Cond.methodLink RX10 255 yX10_isRest ∈ gWs := gWs_t4 (List.mem_of_getElem? (i := 150) rfl) rfl
theorem wI_X10_isRest : Cond.instanceMethod yX10_isRest ∈ gWs := gWs_t4 (List.mem_of_getElem? (i := 152) rfl) rfl
theorem wC_X10_isRest : Cond.code yX10_isRest cX10_isRest 2 (some .boolean) ∈ gWs := gWs_t4 (List.mem_of_getElem? (i := 153) rfl) rfl
theorem wK_X10_258 : Cond.constant RX10 258 (400000) ∈ gWs := gWs_t4 (List.mem_of_getElem? (i := 154) rfl) rfl
theorem wM_X10_259 : Cond.methodLink RX10 259 yX6_placeOf ∈ gWs := gWs_t4 (List.mem_of_getElem? (i := 155) rfl) rfl
theorem wI_X6_placeOf : Cond.instanceMethod yX6_placeOf ∈ gWs := gWs_t4 (List.mem_of_getElem? (i := 156) rfl) rfl
theorem wV_X6_placeOf : Cond.selects RX6 yX6_placeOf yX6_placeOf ∈ gWs := gWs_t4 (List.mem_of_getElem? (i := 157) rfl) rfl
theorem wC_X6_placeOf : Cond.code yX6_placeOf cX6_placeOf 5 (some .int) ∈ gWs := gWs_t4 (List.mem_of_getElem? (i := 158) rfl) rfl
theorem wM_L_137 : Cond.methodLink RL 137 yX10_parts ∈ gWs := gWs_t4 (List.mem_of_getElem? (i := 159) rfl) rfl
theorem wI_X10_parts : Cond.instanceMethod yX10_parts ∈ gWs := gWs_t4 (List.mem_of_getElem? (i := 160) rfl) rfl
theorem wV_X10_parts : Cond.selects RX10 yX10_parts yX10_parts ∈ gWs := gWs_t4 (List.mem_of_getElem? (i := 161) rfl) rfl
theorem wC_X10_parts : Cond.code yX10_parts cX10_parts 5 (some .int) ∈ gWs := gWs_t4 (List.mem_of_getElem? (i := 162) rfl) rfl
theorem wM_X10_263 : Cond.methodLink RX10 263 yX8_exponent ∈ gWs := gWs_t4 (List.mem_of_getElem? (i := 163) rfl) rfl
theorem wI_X8_exponent : Cond.instanceMethod yX8_exponent ∈ gWs := gWs_t4 (List.mem_of_getElem? (i := 164) rfl) rfl
theorem wV_X8_exponent : Cond.selects RX8 yX8_exponent yX8_exponent ∈ gWs := gWs_t4 (List.mem_of_getElem? (i := 165) rfl) rfl
theorem wC_X8_exponent : Cond.code yX8_exponent cX8_exponent 5 (some .int) ∈ gWs := gWs_t4 (List.mem_of_getElem? (i := 166) rfl) rfl
theorem wM_X10_266 : Cond.methodLink RX10 266 yX10_doPart ∈ gWs := gWs_t4 (List.mem_of_getElem? (i := 167) rfl) rfl
theorem wI_X10_doPart : Cond.instanceMethod yX10_doPart ∈ gWs := gWs_t4 (List.mem_of_getElem? (i := 169) rfl) rfl
theorem wC_X10_doPart : Cond.code yX10_doPart cX10_doPart 5 (some .boolean) ∈ gWs := gWs_t4 (List.mem_of_getElem? (i := 170) rfl) rfl
theorem wM_L_141 : Cond.methodLink RL 141 yX10_best ∈ gWs := gWs_t4 (List.mem_of_getElem? (i := 171) rfl) rfl
theorem wI_X10_best : Cond.instanceMethod yX10_best ∈ gWs := gWs_t4 (List.mem_of_getElem? (i := 172) rfl) rfl
theorem wV_X10_best : Cond.selects RX10 yX10_best yX10_best ∈ gWs := gWs_t4 (List.mem_of_getElem? (i := 173) rfl) rfl
theorem wC_X10_best : Cond.code yX10_best cX10_best 9 (some .int) ∈ gWs := gWs_t4 (List.mem_of_getElem? (i := 174) rfl) rfl
theorem wM_L_145 : Cond.methodLink RL 145 yX10_howMany ∈ gWs := gWs_t4 (List.mem_of_getElem? (i := 175) rfl) rfl
theorem wI_X10_howMany : Cond.instanceMethod yX10_howMany ∈ gWs := gWs_t4 (List.mem_of_getElem? (i := 176) rfl) rfl
theorem wV_X10_howMany : Cond.selects RX10 yX10_howMany yX10_howMany ∈ gWs := gWs_t4 (List.mem_of_getElem? (i := 177) rfl) rfl
theorem wC_X10_howMany : Cond.code yX10_howMany cX10_howMany 7 (some .int) ∈ gWs := gWs_t4 (List.mem_of_getElem? (i := 178) rfl) rfl
theorem wM_L_153 : Cond.methodLink RL 153 yX10_isWhole ∈ gWs := gWs_t4 (List.mem_of_getElem? (i := 179) rfl) rfl
theorem wI_X10_isWhole : Cond.instanceMethod yX10_isWhole ∈ gWs := gWs_t4 (List.mem_of_getElem? (i := 180) rfl) rfl
theorem wV_X10_isWhole : Cond.selects RX10 yX10_isWhole yX10_isWhole ∈ gWs := gWs_t4 (List.mem_of_getElem? (i := 181) rfl) rfl
theorem wC_X10_isWhole : Cond.code yX10_isWhole cX10_isWhole 7 (some .int) ∈ gWs := gWs_t4 (List.mem_of_getElem? (i := 182) rfl) rfl
theorem wM_L_157 : Cond.methodLink RL 157 yX10_chance ∈ gWs := gWs_t4 (List.mem_of_getElem? (i := 183) rfl) rfl
theorem wI_X10_chance : Cond.instanceMethod yX10_chance ∈ gWs := gWs_t4 (List.mem_of_getElem? (i := 184) rfl) rfl
theorem wV_X10_chance : Cond.selects RX10 yX10_chance yX10_chance ∈ gWs := gWs_t4 (List.mem_of_getElem? (i := 185) rfl) rfl
theorem wC_X10_chance : Cond.code yX10_chance cX10_chance 13 (some .int) ∈ gWs := gWs_t4 (List.mem_of_getElem? (i := 186) rfl) rfl
theorem wM_X10_273 : Cond.methodLink RX10 273 yX10_drawAfter ∈ gWs := gWs_t4 (List.mem_of_getElem? (i := 187) rfl) rfl
theorem wS_X10_drawAfter : Cond.static yX10_drawAfter ∈ gWs := gWs_t4 (List.mem_of_getElem? (i := 188) rfl) rfl
theorem wC_X10_drawAfter : Cond.code yX10_drawAfter cX10_drawAfter 2 (some .long) ∈ gWs := gWs_t4 (List.mem_of_getElem? (i := 189) rfl) rfl
theorem wQ_X10_284 : Cond.constantLong RX10 284 (1103515245) ∈ gWs := gWs_t4 (List.mem_of_getElem? (i := 190) rfl) rfl
theorem wQ_X10_286 : Cond.constantLong RX10 286 (12345) ∈ gWs := gWs_t4 (List.mem_of_getElem? (i := 191) rfl) rfl
theorem wQ_X10_288 : Cond.constantLong RX10 288 (2147483647) ∈ gWs := gWs_t4 (List.mem_of_getElem? (i := 192) rfl) rfl
theorem wQ_X10_277 : Cond.constantLong RX10 277 (65536) ∈ gWs := gWs_t4 (List.mem_of_getElem? (i := 193) rfl) rfl
theorem wQ_X10_279 : Cond.constantLong RX10 279 (32768) ∈ gWs := gWs_t4 (List.mem_of_getElem? (i := 194) rfl) rfl
theorem wM_X10_281 : Cond.methodLink RX10 281 yX10_placeIn ∈ gWs := gWs_t4 (List.mem_of_getElem? (i := 195) rfl) rfl
theorem wI_X10_placeIn : Cond.instanceMethod yX10_placeIn ∈ gWs := gWs_t4 (List.mem_of_getElem? (i := 197) rfl) rfl
theorem wC_X10_placeIn : Cond.code yX10_placeIn cX10_placeIn 3 (some .int) ∈ gWs := gWs_t4 (List.mem_of_getElem? (i := 198) rfl) rfl
theorem wM_L_161 : Cond.methodLink RL 161 yX10_undo ∈ gWs := gWs_t4 (List.mem_of_getElem? (i := 199) rfl) rfl
theorem wI_X10_undo : Cond.instanceMethod yX10_undo ∈ gWs := gWs_t4 (List.mem_of_getElem? (i := 200) rfl) rfl
theorem wV_X10_undo : Cond.selects RX10 yX10_undo yX10_undo ∈ gWs := gWs_t4 (List.mem_of_getElem? (i := 201) rfl) rfl
theorem wC_X10_undo : Cond.code yX10_undo cX10_undo 2 (some .int) ∈ gWs := gWs_t4 (List.mem_of_getElem? (i := 202) rfl) rfl
theorem wM_X10_290 : Cond.methodLink RX10 290 yX0_drop ∈ gWs := gWs_t4 (List.mem_of_getElem? (i := 203) rfl) rfl
theorem wI_X0_drop : Cond.instanceMethod yX0_drop ∈ gWs := gWs_t4 (List.mem_of_getElem? (i := 204) rfl) rfl
theorem wV_X0_drop : Cond.selects RX0 yX0_drop yX0_drop ∈ gWs := gWs_t4 (List.mem_of_getElem? (i := 205) rfl) rfl
theorem wC_X0_drop : Cond.code yX0_drop cX0_drop 1 (some .boolean) ∈ gWs := gWs_t4 (List.mem_of_getElem? (i := 206) rfl) rfl
theorem wM_X10_293 : Cond.methodLink RX10 293 yX0_firstDropped ∈ gWs := gWs_t4 (List.mem_of_getElem? (i := 207) rfl) rfl
theorem wI_X0_firstDropped : Cond.instanceMethod yX0_firstDropped ∈ gWs := gWs_t4 (List.mem_of_getElem? (i := 208) rfl) rfl
theorem wV_X0_firstDropped : Cond.selects RX0 yX0_firstDropped yX0_firstDropped ∈ gWs := gWs_t4 (List.mem_of_getElem? (i := 209) rfl) rfl
theorem wC_X0_firstDropped : Cond.code yX0_firstDropped cX0_firstDropped 1 (some .int) ∈ gWs := gWs_t4 (List.mem_of_getElem? (i := 210) rfl) rfl
theorem wM_X10_297 : Cond.methodLink RX10 297 yX0_kindDropped ∈ gWs := gWs_t4 (List.mem_of_getElem? (i := 211) rfl) rfl
theorem wI_X0_kindDropped : Cond.instanceMethod yX0_kindDropped ∈ gWs := gWs_t4 (List.mem_of_getElem? (i := 212) rfl) rfl
theorem wV_X0_kindDropped : Cond.selects RX0 yX0_kindDropped yX0_kindDropped ∈ gWs := gWs_t4 (List.mem_of_getElem? (i := 213) rfl) rfl
theorem wC_X0_kindDropped : Cond.code yX0_kindDropped cX0_kindDropped 1 (some .int) ∈ gWs := gWs_t4 (List.mem_of_getElem? (i := 214) rfl) rfl
theorem wM_X10_300 : Cond.methodLink RX10 300 yX0_cellDropped ∈ gWs := gWs_t4 (List.mem_of_getElem? (i := 215) rfl) rfl
theorem wI_X0_cellDropped : Cond.instanceMethod yX0_cellDropped ∈ gWs := gWs_t4 (List.mem_of_getElem? (i := 216) rfl) rfl
theorem wV_X0_cellDropped : Cond.selects RX0 yX0_cellDropped yX0_cellDropped ∈ gWs := gWs_t4 (List.mem_of_getElem? (i := 217) rfl) rfl
theorem wC_X0_cellDropped : Cond.code yX0_cellDropped cX0_cellDropped 1 (some .int) ∈ gWs := gWs_t4 (List.mem_of_getElem? (i := 218) rfl) rfl
theorem wM_X10_303 : Cond.methodLink RX10 303 yX0_secondDropped ∈ gWs := gWs_t4 (List.mem_of_getElem? (i := 219) rfl) rfl
theorem wI_X0_secondDropped : Cond.instanceMethod yX0_secondDropped ∈ gWs := gWs_t4 (List.mem_of_getElem? (i := 220) rfl) rfl
theorem wV_X0_secondDropped : Cond.selects RX0 yX0_secondDropped yX0_secondDropped ∈ gWs := gWs_t4 (List.mem_of_getElem? (i := 221) rfl) rfl
theorem wC_X0_secondDropped : Cond.code yX0_secondDropped cX0_secondDropped 1 (some .int) ∈ gWs := gWs_t4 (List.mem_of_getElem? (i := 222) rfl) rfl
theorem wM_L_165 : Cond.methodLink RL 165 yX10_keep ∈ gWs := gWs_t4 (List.mem_of_getElem? (i := 223) rfl) rfl
theorem wI_X10_keep : Cond.instanceMethod yX10_keep ∈ gWs := gWs_t4 (List.mem_of_getElem? (i := 224) rfl) rfl
theorem wV_X10_keep : Cond.selects RX10 yX10_keep yX10_keep ∈ gWs := gWs_t4 (List.mem_of_getElem? (i := 225) rfl) rfl
theorem wC_X10_keep : Cond.code yX10_keep cX10_keep 1 (some .int) ∈ gWs := gWs_t4 (List.mem_of_getElem? (i := 226) rfl) rfl
theorem wM_X10_309 : Cond.methodLink RX10 309 yX2_take ∈ gWs := gWs_t4 (List.mem_of_getElem? (i := 227) rfl) rfl
theorem wI_X2_take : Cond.instanceMethod yX2_take ∈ gWs := gWs_t4 (List.mem_of_getElem? (i := 228) rfl) rfl
theorem wV_X2_take : Cond.selects RX2 yX2_take yX2_take ∈ gWs := gWs_t4 (List.mem_of_getElem? (i := 229) rfl) rfl
theorem wC_X2_take : Cond.code yX2_take cX2_take 2 (none) ∈ gWs := gWs_t4 (List.mem_of_getElem? (i := 230) rfl) rfl
theorem wM_X2_31 : Cond.methodLink RX2 31 arraycopyName ∈ gWs := gWs_t4 (List.mem_of_getElem? (i := 231) rfl) rfl
theorem wM_L_169 : Cond.methodLink RL 169 yX10_back ∈ gWs := gWs_t4 (List.mem_of_getElem? (i := 232) rfl) rfl
theorem wI_X10_back : Cond.instanceMethod yX10_back ∈ gWs := gWs_t4 (List.mem_of_getElem? (i := 233) rfl) rfl
theorem wV_X10_back : Cond.selects RX10 yX10_back yX10_back ∈ gWs := gWs_t4 (List.mem_of_getElem? (i := 234) rfl) rfl
theorem wC_X10_back : Cond.code yX10_back cX10_back 1 (some .int) ∈ gWs := gWs_t4 (List.mem_of_getElem? (i := 235) rfl) rfl
theorem wM_X10_313 : Cond.methodLink RX10 313 yX2_give ∈ gWs := gWs_t4 (List.mem_of_getElem? (i := 236) rfl) rfl
theorem wI_X2_give : Cond.instanceMethod yX2_give ∈ gWs := gWs_t4 (List.mem_of_getElem? (i := 237) rfl) rfl
theorem wV_X2_give : Cond.selects RX2 yX2_give yX2_give ∈ gWs := gWs_t4 (List.mem_of_getElem? (i := 238) rfl) rfl
theorem wC_X2_give : Cond.code yX2_give cX2_give 2 (none) ∈ gWs := gWs_t4 (List.mem_of_getElem? (i := 239) rfl) rfl
theorem wM_L_173 : Cond.methodLink RL 173 yX10_count ∈ gWs := gWs_t5 (List.mem_of_getElem? (i := 0) rfl) rfl
theorem wI_X10_count : Cond.instanceMethod yX10_count ∈ gWs := gWs_t5 (List.mem_of_getElem? (i := 1) rfl) rfl
theorem wV_X10_count : Cond.selects RX10 yX10_count yX10_count ∈ gWs := gWs_t5 (List.mem_of_getElem? (i := 2) rfl) rfl
theorem wC_X10_count : Cond.code yX10_count cX10_count 2 (some .int) ∈ gWs := gWs_t5 (List.mem_of_getElem? (i := 3) rfl) rfl
theorem wM_X10_319 : Cond.methodLink RX10 319 yX3_ownFunctions ∈ gWs := gWs_t5 (List.mem_of_getElem? (i := 4) rfl) rfl
theorem wI_X3_ownFunctions : Cond.instanceMethod yX3_ownFunctions ∈ gWs := gWs_t5 (List.mem_of_getElem? (i := 5) rfl) rfl
theorem wV_X3_ownFunctions : Cond.selects RX3 yX3_ownFunctions yX3_ownFunctions ∈ gWs := gWs_t5 (List.mem_of_getElem? (i := 6) rfl) rfl
theorem wC_X3_ownFunctions : Cond.code yX3_ownFunctions cX3_ownFunctions 3 (some .int) ∈ gWs := gWs_t5 (List.mem_of_getElem? (i := 7) rfl) rfl
theorem wM_X10_322 : Cond.methodLink RX10 322 yX10_lastPrime ∈ gWs := gWs_t5 (List.mem_of_getElem? (i := 8) rfl) rfl
theorem wS_X10_lastPrime : Cond.static yX10_lastPrime ∈ gWs := gWs_t5 (List.mem_of_getElem? (i := 9) rfl) rfl
theorem wC_X10_lastPrime : Cond.code yX10_lastPrime cX10_lastPrime 2 (some .int) ∈ gWs := gWs_t5 (List.mem_of_getElem? (i := 10) rfl) rfl
theorem wM_X10_325 : Cond.methodLink RX10 325 yX10_isPrime ∈ gWs := gWs_t5 (List.mem_of_getElem? (i := 11) rfl) rfl
theorem wS_X10_isPrime : Cond.static yX10_isPrime ∈ gWs := gWs_t5 (List.mem_of_getElem? (i := 12) rfl) rfl
theorem wC_X10_isPrime : Cond.code yX10_isPrime cX10_isPrime 2 (some .boolean) ∈ gWs := gWs_t5 (List.mem_of_getElem? (i := 13) rfl) rfl
theorem wM_L_39 : Cond.methodLink RL 39 yL_function ∈ gWs := gWs_t5 (List.mem_of_getElem? (i := 14) rfl) rfl
theorem wS_L_function : Cond.static yL_function ∈ gWs := gWs_t5 (List.mem_of_getElem? (i := 15) rfl) rfl
theorem wL_L_13 : Cond.classLink RL 13 "java/lang/IndexOutOfBoundsException" ∈ gWs := gWs_t5 (List.mem_of_getElem? (i := 17) rfl) rfl
theorem wL_L_15 : Cond.classLink RL 15 "java/util/NoSuchElementException" ∈ gWs := gWs_t5 (List.mem_of_getElem? (i := 18) rfl) rfl
theorem wM_L_7 : Cond.methodLink RL 7 yX10_function ∈ gWs := gWs_t5 (List.mem_of_getElem? (i := 19) rfl) rfl
theorem wI_X10_function : Cond.instanceMethod yX10_function ∈ gWs := gWs_t5 (List.mem_of_getElem? (i := 20) rfl) rfl
theorem wV_X10_function : Cond.selects RX10 yX10_function yX10_function ∈ gWs := gWs_t5 (List.mem_of_getElem? (i := 21) rfl) rfl
theorem wC_X10_function : Cond.code yX10_function cX10_function 3 (some .int) ∈ gWs := gWs_t5 (List.mem_of_getElem? (i := 22) rfl) rfl
theorem wL_X10_101 : Cond.classLink RX10 101 "java/lang/IndexOutOfBoundsException" ∈ gWs := gWs_t5 (List.mem_of_getElem? (i := 23) rfl) rfl
theorem wL_X10_124 : Cond.classLink RX10 124 "java/util/NoSuchElementException" ∈ gWs := gWs_t5 (List.mem_of_getElem? (i := 89) rfl) rfl
theorem wL_L_18 : Cond.classLink RL 18 RX11 ∈ gWs := gWs_t5 (List.mem_of_getElem? (i := 105) rfl) rfl
theorem wT_X11 : Cond.instantiable RX11 40 ∈ gWs := gWs_t5 (List.mem_of_getElem? (i := 106) rfl) rfl
theorem wM_L_20 : Cond.methodLink RL 20 yX11_init ∈ gWs := gWs_t5 (List.mem_of_getElem? (i := 107) rfl) rfl
theorem wI_X11_init : Cond.instanceMethod yX11_init ∈ gWs := gWs_t5 (List.mem_of_getElem? (i := 108) rfl) rfl
theorem wC_X11_init : Cond.code yX11_init cX11_init 1 (none) ∈ gWs := gWs_t5 (List.mem_of_getElem? (i := 109) rfl) rfl
theorem wM_X11_1 : Cond.methodLink RX11 1 objectInit ∈ gWs := gWs_t5 (List.mem_of_getElem? (i := 110) rfl) rfl
theorem wK_X11_64 : Cond.constant RX11 64 (200001) ∈ gWs := gWs_t5 (List.mem_of_getElem? (i := 111) rfl) rfl
theorem wM_X11_80 : Cond.methodLink RX11 80 yX11_freshText ∈ gWs := gWs_t5 (List.mem_of_getElem? (i := 112) rfl) rfl
theorem wI_X11_freshText : Cond.instanceMethod yX11_freshText ∈ gWs := gWs_t5 (List.mem_of_getElem? (i := 114) rfl) rfl
theorem wC_X11_freshText : Cond.code yX11_freshText cX11_freshText 2 (none) ∈ gWs := gWs_t5 (List.mem_of_getElem? (i := 115) rfl) rfl
theorem wM_X11_162 : Cond.methodLink RX11 162 yX11_reads ∈ gWs := gWs_t5 (List.mem_of_getElem? (i := 116) rfl) rfl
theorem wI_X11_reads : Cond.instanceMethod yX11_reads ∈ gWs := gWs_t5 (List.mem_of_getElem? (i := 118) rfl) rfl
theorem wC_X11_reads : Cond.code yX11_reads cX11_reads 3 (none) ∈ gWs := gWs_t5 (List.mem_of_getElem? (i := 119) rfl) rfl
theorem wK_X11_194 : Cond.constant RX11 194 (1000003) ∈ gWs := gWs_t5 (List.mem_of_getElem? (i := 120) rfl) rfl
theorem wM_X11_207 : Cond.methodLink RX11 207 yX11_knownName ∈ gWs := gWs_t5 (List.mem_of_getElem? (i := 121) rfl) rfl
theorem wS_X11_knownName : Cond.static yX11_knownName ∈ gWs := gWs_t5 (List.mem_of_getElem? (i := 122) rfl) rfl
theorem wC_X11_knownName : Cond.code yX11_knownName cX11_knownName 4 (some .int) ∈ gWs := gWs_t5 (List.mem_of_getElem? (i := 123) rfl) rfl
theorem wM_X11_138 : Cond.methodLink RX11 138 yJ0_charAt_5068e ∈ gWs := gWs_t5 (List.mem_of_getElem? (i := 125) rfl) rfl
theorem wM_X11_83 : Cond.methodLink RX11 83 yX11_takeText ∈ gWs := gWs_t5 (List.mem_of_getElem? (i := 126) rfl) rfl
theorem wI_X11_takeText : Cond.instanceMethod yX11_takeText ∈ gWs := gWs_t5 (List.mem_of_getElem? (i := 128) rfl) rfl
theorem wC_X11_takeText : Cond.code yX11_takeText cX11_takeText 2 (none) ∈ gWs := gWs_t5 (List.mem_of_getElem? (i := 129) rfl) rfl
theorem wM_X11_166 : Cond.methodLink RX11 166 yX11_reading ∈ gWs := gWs_t5 (List.mem_of_getElem? (i := 130) rfl) rfl
theorem wI_X11_reading : Cond.instanceMethod yX11_reading ∈ gWs := gWs_t5 (List.mem_of_getElem? (i := 132) rfl) rfl
theorem wC_X11_reading : Cond.code yX11_reading cX11_reading 2 (some .int) ∈ gWs := gWs_t5 (List.mem_of_getElem? (i := 133) rfl) rfl
theorem wM_X11_86 : Cond.methodLink RX11 86 yX11_begins ∈ gWs := gWs_t5 (List.mem_of_getElem? (i := 134) rfl) rfl
theorem wI_X11_begins : Cond.instanceMethod yX11_begins ∈ gWs := gWs_t5 (List.mem_of_getElem? (i := 136) rfl) rfl
theorem wC_X11_begins : Cond.code yX11_begins cX11_begins 2 (none) ∈ gWs := gWs_t5 (List.mem_of_getElem? (i := 137) rfl) rfl
theorem wM_X11_229 : Cond.methodLink RX11 229 yX11_sieves ∈ gWs := gWs_t5 (List.mem_of_getElem? (i := 138) rfl) rfl
theorem wI_X11_sieves : Cond.instanceMethod yX11_sieves ∈ gWs := gWs_t5 (List.mem_of_getElem? (i := 140) rfl) rfl
theorem wC_X11_sieves : Cond.code yX11_sieves cX11_sieves 3 (none) ∈ gWs := gWs_t5 (List.mem_of_getElem? (i := 141) rfl) rfl
theorem wK_X11_189 : Cond.constant RX11 189 (200000) ∈ gWs := gWs_t5 (List.mem_of_getElem? (i := 142) rfl) rfl
theorem wM_X11_292 : Cond.methodLink RX11 292 yX11_isPrime ∈ gWs := gWs_t5 (List.mem_of_getElem? (i := 143) rfl) rfl
theorem wI_X11_isPrime : Cond.instanceMethod yX11_isPrime ∈ gWs := gWs_t5 (List.mem_of_getElem? (i := 145) rfl) rfl
theorem wC_X11_isPrime : Cond.code yX11_isPrime cX11_isPrime 2 (some .boolean) ∈ gWs := gWs_t5 (List.mem_of_getElem? (i := 146) rfl) rfl
theorem wM_X11_232 : Cond.methodLink RX11 232 yX11_forgets ∈ gWs := gWs_t5 (List.mem_of_getElem? (i := 147) rfl) rfl
theorem wI_X11_forgets : Cond.instanceMethod yX11_forgets ∈ gWs := gWs_t5 (List.mem_of_getElem? (i := 149) rfl) rfl
theorem wC_X11_forgets : Cond.code yX11_forgets cX11_forgets 1 (none) ∈ gWs := gWs_t5 (List.mem_of_getElem? (i := 150) rfl) rfl
theorem wF_X11_89 : Cond.fieldLink RX11 89 "QuotientSumsModel" "thrown" "I" ∈ gWs := gWs_t5 (List.mem_of_getElem? (i := 151) rfl) rfl
theorem wF_X11_7 : Cond.fieldLink RX11 7 "QuotientSumsModel" "tape" "[I" ∈ gWs := gWs_t5 (List.mem_of_getElem? (i := 152) rfl) rfl
theorem wF_X11_92 : Cond.fieldLink RX11 92 "QuotientSumsModel" "taped" "I" ∈ gWs := gWs_t5 (List.mem_of_getElem? (i := 153) rfl) rfl
theorem wF_X11_13 : Cond.fieldLink RX11 13 "QuotientSumsModel" "number" "[I" ∈ gWs := gWs_t5 (List.mem_of_getElem? (i := 154) rfl) rfl
theorem wF_X11_16 : Cond.fieldLink RX11 16 "QuotientSumsModel" "isTold" "[Z" ∈ gWs := gWs_t5 (List.mem_of_getElem? (i := 155) rfl) rfl
theorem wF_X11_20 : Cond.fieldLink RX11 20 "QuotientSumsModel" "name" "[I" ∈ gWs := gWs_t5 (List.mem_of_getElem? (i := 156) rfl) rfl
theorem wF_X11_23 : Cond.fieldLink RX11 23 "QuotientSumsModel" "sortOf" "[I" ∈ gWs := gWs_t5 (List.mem_of_getElem? (i := 157) rfl) rfl
theorem wF_X11_26 : Cond.fieldLink RX11 26 "QuotientSumsModel" "first" "[I" ∈ gWs := gWs_t5 (List.mem_of_getElem? (i := 158) rfl) rfl
theorem wF_X11_29 : Cond.fieldLink RX11 29 "QuotientSumsModel" "second" "[I" ∈ gWs := gWs_t5 (List.mem_of_getElem? (i := 159) rfl) rfl
theorem wF_X11_32 : Cond.fieldLink RX11 32 "QuotientSumsModel" "degree" "[I" ∈ gWs := gWs_t5 (List.mem_of_getElem? (i := 160) rfl) rfl
theorem wF_X11_35 : Cond.fieldLink RX11 35 "QuotientSumsModel" "colours" "[I" ∈ gWs := gWs_t5 (List.mem_of_getElem? (i := 161) rfl) rfl
theorem wF_X11_38 : Cond.fieldLink RX11 38 "QuotientSumsModel" "signBy" "[I" ∈ gWs := gWs_t5 (List.mem_of_getElem? (i := 162) rfl) rfl
theorem wF_X11_41 : Cond.fieldLink RX11 41 "QuotientSumsModel" "own" "[I" ∈ gWs := gWs_t5 (List.mem_of_getElem? (i := 163) rfl) rfl
theorem wF_X11_202 : Cond.fieldLink RX11 202 "QuotientSumsModel" "lines" "I" ∈ gWs := gWs_t5 (List.mem_of_getElem? (i := 164) rfl) rfl
theorem wF_X11_98 : Cond.fieldLink RX11 98 "QuotientSumsModel" "size" "I" ∈ gWs := gWs_t5 (List.mem_of_getElem? (i := 165) rfl) rfl
theorem wF_X11_95 : Cond.fieldLink RX11 95 "QuotientSumsModel" "at" "I" ∈ gWs := gWs_t5 (List.mem_of_getElem? (i := 166) rfl) rfl
theorem wF_X11_105 : Cond.fieldLink RX11 105 "QuotientSumsModel" "place" "I" ∈ gWs := gWs_t5 (List.mem_of_getElem? (i := 167) rfl) rfl
theorem wF_X11_108 : Cond.fieldLink RX11 108 "QuotientSumsModel" "sort" "I" ∈ gWs := gWs_t5 (List.mem_of_getElem? (i := 168) rfl) rfl
theorem wF_X11_118 : Cond.fieldLink RX11 118 "QuotientSumsModel" "value" "I" ∈ gWs := gWs_t5 (List.mem_of_getElem? (i := 169) rfl) rfl
theorem wF_X11_142 : Cond.fieldLink RX11 142 "QuotientSumsModel" "fault" "I" ∈ gWs := gWs_t5 (List.mem_of_getElem? (i := 170) rfl) rfl
theorem wF_X11_145 : Cond.fieldLink RX11 145 "QuotientSumsModel" "faultPlace" "I" ∈ gWs := gWs_t5 (List.mem_of_getElem? (i := 171) rfl) rfl
theorem wF_X11_216 : Cond.fieldLink RX11 216 "QuotientSumsModel" "lastFault" "I" ∈ gWs := gWs_t5 (List.mem_of_getElem? (i := 172) rfl) rfl
theorem wF_X11_44 : Cond.fieldLink RX11 44 "QuotientSumsModel" "lastPlace" "I" ∈ gWs := gWs_t5 (List.mem_of_getElem? (i := 173) rfl) rfl
theorem wF_X11_48 : Cond.fieldLink RX11 48 "QuotientSumsModel" "s" "[I" ∈ gWs := gWs_t5 (List.mem_of_getElem? (i := 174) rfl) rfl
theorem wF_X11_51 : Cond.fieldLink RX11 51 "QuotientSumsModel" "kept" "[I" ∈ gWs := gWs_t5 (List.mem_of_getElem? (i := 175) rfl) rfl
theorem wF_X11_219 : Cond.fieldLink RX11 219 "QuotientSumsModel" "undoable" "I" ∈ gWs := gWs_t5 (List.mem_of_getElem? (i := 176) rfl) rfl
theorem wF_X11_222 : Cond.fieldLink RX11 222 "QuotientSumsModel" "hasImage" "Z" ∈ gWs := gWs_t5 (List.mem_of_getElem? (i := 177) rfl) rfl
theorem wF_X11_54 : Cond.fieldLink RX11 54 "QuotientSumsModel" "power" "[J" ∈ gWs := gWs_t5 (List.mem_of_getElem? (i := 178) rfl) rfl
theorem wF_X11_58 : Cond.fieldLink RX11 58 "QuotientSumsModel" "table" "[J" ∈ gWs := gWs_t5 (List.mem_of_getElem? (i := 179) rfl) rfl
theorem wF_X11_61 : Cond.fieldLink RX11 61 "QuotientSumsModel" "marks" "[I" ∈ gWs := gWs_t5 (List.mem_of_getElem? (i := 180) rfl) rfl
theorem wF_X11_65 : Cond.fieldLink RX11 65 "QuotientSumsModel" "row" "[I" ∈ gWs := gWs_t5 (List.mem_of_getElem? (i := 181) rfl) rfl
theorem wF_X11_295 : Cond.fieldLink RX11 295 "QuotientSumsModel" "rowOf" "I" ∈ gWs := gWs_t5 (List.mem_of_getElem? (i := 182) rfl) rfl
theorem wF_X11_298 : Cond.fieldLink RX11 298 "QuotientSumsModel" "areSums" "Z" ∈ gWs := gWs_t5 (List.mem_of_getElem? (i := 183) rfl) rfl
theorem wF_X11_289 : Cond.fieldLink RX11 289 "QuotientSumsModel" "isSieved" "Z" ∈ gWs := gWs_t5 (List.mem_of_getElem? (i := 184) rfl) rfl
theorem wF_X11_68 : Cond.fieldLink RX11 68 "QuotientSumsModel" "lastOf" "[I" ∈ gWs := gWs_t5 (List.mem_of_getElem? (i := 185) rfl) rfl
theorem wF_X11_314 : Cond.fieldLink RX11 314 "QuotientSumsModel" "blocks" "I" ∈ gWs := gWs_t5 (List.mem_of_getElem? (i := 186) rfl) rfl
theorem wF_X11_71 : Cond.fieldLink RX11 71 "QuotientSumsModel" "inBlock" "[J" ∈ gWs := gWs_t5 (List.mem_of_getElem? (i := 187) rfl) rfl
theorem wF_X11_74 : Cond.fieldLink RX11 74 "QuotientSumsModel" "atQuotient" "[J" ∈ gWs := gWs_t5 (List.mem_of_getElem? (i := 188) rfl) rfl
theorem wF_X11_77 : Cond.fieldLink RX11 77 "QuotientSumsModel" "small" "[J" ∈ gWs := gWs_t5 (List.mem_of_getElem? (i := 189) rfl) rfl
theorem wF_X11_353 : Cond.fieldLink RX11 353 "QuotientSumsModel" "drawn" "I" ∈ gWs := gWs_t5 (List.mem_of_getElem? (i := 190) rfl) rfl
theorem wA_boolean : Cond.arrayClass .boolean ∈ gWs := gWs_t6 (List.mem_of_getElem? (i := 32) rfl) rfl
theorem wM_L_45 : Cond.methodLink RL 45 yX11_thrown ∈ gWs := gWs_t6 (List.mem_of_getElem? (i := 33) rfl) rfl
theorem wI_X11_thrown : Cond.instanceMethod yX11_thrown ∈ gWs := gWs_t6 (List.mem_of_getElem? (i := 34) rfl) rfl
theorem wV_X11_thrown : Cond.selects RX11 yX11_thrown yX11_thrown ∈ gWs := gWs_t6 (List.mem_of_getElem? (i := 35) rfl) rfl
theorem wC_X11_thrown : Cond.code yX11_thrown cX11_thrown 1 (some .int) ∈ gWs := gWs_t6 (List.mem_of_getElem? (i := 36) rfl) rfl
theorem wM_L_25 : Cond.methodLink RL 25 yX11_feed ∈ gWs := gWs_t6 (List.mem_of_getElem? (i := 37) rfl) rfl
theorem wI_X11_feed : Cond.instanceMethod yX11_feed ∈ gWs := gWs_t6 (List.mem_of_getElem? (i := 38) rfl) rfl
theorem wV_X11_feed : Cond.selects RX11 yX11_feed yX11_feed ∈ gWs := gWs_t6 (List.mem_of_getElem? (i := 39) rfl) rfl
theorem wC_X11_feed : Cond.code yX11_feed cX11_feed 8 (some .int) ∈ gWs := gWs_t6 (List.mem_of_getElem? (i := 40) rfl) rfl
theorem wM_L_30 : Cond.methodLink RL 30 yX11_text ∈ gWs := gWs_t6 (List.mem_of_getElem? (i := 41) rfl) rfl
theorem wI_X11_text : Cond.instanceMethod yX11_text ∈ gWs := gWs_t6 (List.mem_of_getElem? (i := 42) rfl) rfl
theorem wV_X11_text : Cond.selects RX11 yX11_text yX11_text ∈ gWs := gWs_t6 (List.mem_of_getElem? (i := 43) rfl) rfl
theorem wC_X11_text : Cond.code yX11_text cX11_text 2 (some .int) ∈ gWs := gWs_t6 (List.mem_of_getElem? (i := 44) rfl) rfl
theorem wM_X11_213 : Cond.methodLink RX11 213 yX11_readText ∈ gWs := gWs_t6 (List.mem_of_getElem? (i := 45) rfl) rfl
theorem wI_X11_readText : Cond.instanceMethod yX11_readText ∈ gWs := gWs_t6 (List.mem_of_getElem? (i := 47) rfl) rfl
theorem wC_X11_readText : Cond.code yX11_readText cX11_readText 2 (none) ∈ gWs := gWs_t6 (List.mem_of_getElem? (i := 48) rfl) rfl
theorem wM_X11_148 : Cond.methodLink RX11 148 yX11_token ∈ gWs := gWs_t6 (List.mem_of_getElem? (i := 49) rfl) rfl
theorem wI_X11_token : Cond.instanceMethod yX11_token ∈ gWs := gWs_t6 (List.mem_of_getElem? (i := 51) rfl) rfl
theorem wC_X11_token : Cond.code yX11_token cX11_token 2 (none) ∈ gWs := gWs_t6 (List.mem_of_getElem? (i := 52) rfl) rfl
theorem wM_X11_101 : Cond.methodLink RX11 101 yX11_here ∈ gWs := gWs_t6 (List.mem_of_getElem? (i := 53) rfl) rfl
theorem wI_X11_here : Cond.instanceMethod yX11_here ∈ gWs := gWs_t6 (List.mem_of_getElem? (i := 55) rfl) rfl
theorem wC_X11_here : Cond.code yX11_here cX11_here 1 (some .int) ∈ gWs := gWs_t6 (List.mem_of_getElem? (i := 56) rfl) rfl
theorem wM_X11_111 : Cond.methodLink RX11 111 yX11_isSmall ∈ gWs := gWs_t6 (List.mem_of_getElem? (i := 57) rfl) rfl
theorem wS_X11_isSmall : Cond.static yX11_isSmall ∈ gWs := gWs_t6 (List.mem_of_getElem? (i := 58) rfl) rfl
theorem wC_X11_isSmall : Cond.code yX11_isSmall cX11_isSmall 1 (some .boolean) ∈ gWs := gWs_t6 (List.mem_of_getElem? (i := 59) rfl) rfl
theorem wM_X11_115 : Cond.methodLink RX11 115 yX11_wordHere ∈ gWs := gWs_t6 (List.mem_of_getElem? (i := 60) rfl) rfl
theorem wI_X11_wordHere : Cond.instanceMethod yX11_wordHere ∈ gWs := gWs_t6 (List.mem_of_getElem? (i := 62) rfl) rfl
theorem wC_X11_wordHere : Cond.code yX11_wordHere cX11_wordHere 4 (some .int) ∈ gWs := gWs_t6 (List.mem_of_getElem? (i := 63) rfl) rfl
theorem wM_X11_133 : Cond.methodLink RX11 133 yJ0_length_8abf5 ∈ gWs := gWs_t6 (List.mem_of_getElem? (i := 65) rfl) rfl
theorem wM_X11_121 : Cond.methodLink RX11 121 yX11_nameHere ∈ gWs := gWs_t6 (List.mem_of_getElem? (i := 66) rfl) rfl
theorem wI_X11_nameHere : Cond.instanceMethod yX11_nameHere ∈ gWs := gWs_t6 (List.mem_of_getElem? (i := 68) rfl) rfl
theorem wC_X11_nameHere : Cond.code yX11_nameHere cX11_nameHere 2 (none) ∈ gWs := gWs_t6 (List.mem_of_getElem? (i := 69) rfl) rfl
theorem wM_X11_124 : Cond.methodLink RX11 124 yX11_isDigit ∈ gWs := gWs_t6 (List.mem_of_getElem? (i := 70) rfl) rfl
theorem wS_X11_isDigit : Cond.static yX11_isDigit ∈ gWs := gWs_t6 (List.mem_of_getElem? (i := 71) rfl) rfl
theorem wC_X11_isDigit : Cond.code yX11_isDigit cX11_isDigit 1 (some .boolean) ∈ gWs := gWs_t6 (List.mem_of_getElem? (i := 72) rfl) rfl
theorem wM_X11_127 : Cond.methodLink RX11 127 yX11_digits ∈ gWs := gWs_t6 (List.mem_of_getElem? (i := 73) rfl) rfl
theorem wI_X11_digits : Cond.instanceMethod yX11_digits ∈ gWs := gWs_t6 (List.mem_of_getElem? (i := 75) rfl) rfl
theorem wC_X11_digits : Cond.code yX11_digits cX11_digits 1 (none) ∈ gWs := gWs_t6 (List.mem_of_getElem? (i := 76) rfl) rfl
theorem wK_X11_130 : Cond.constant RX11 130 (9999999) ∈ gWs := gWs_t6 (List.mem_of_getElem? (i := 77) rfl) rfl
theorem wM_X11_210 : Cond.methodLink RX11 210 yX11_readLine ∈ gWs := gWs_t6 (List.mem_of_getElem? (i := 78) rfl) rfl
theorem wI_X11_readLine : Cond.instanceMethod yX11_readLine ∈ gWs := gWs_t6 (List.mem_of_getElem? (i := 80) rfl) rfl
theorem wC_X11_readLine : Cond.code yX11_readLine cX11_readLine 1 (none) ∈ gWs := gWs_t6 (List.mem_of_getElem? (i := 81) rfl) rfl
theorem wM_X11_151 : Cond.methodLink RX11 151 yX11_wrong ∈ gWs := gWs_t6 (List.mem_of_getElem? (i := 82) rfl) rfl
theorem wI_X11_wrong : Cond.instanceMethod yX11_wrong ∈ gWs := gWs_t6 (List.mem_of_getElem? (i := 84) rfl) rfl
theorem wC_X11_wrong : Cond.code yX11_wrong cX11_wrong 2 (none) ∈ gWs := gWs_t6 (List.mem_of_getElem? (i := 85) rfl) rfl
theorem wM_X11_190 : Cond.methodLink RX11 190 yX11_readOnce ∈ gWs := gWs_t6 (List.mem_of_getElem? (i := 86) rfl) rfl
theorem wI_X11_readOnce : Cond.instanceMethod yX11_readOnce ∈ gWs := gWs_t6 (List.mem_of_getElem? (i := 88) rfl) rfl
theorem wC_X11_readOnce : Cond.code yX11_readOnce cX11_readOnce 5 (none) ∈ gWs := gWs_t6 (List.mem_of_getElem? (i := 89) rfl) rfl
theorem wM_X11_155 : Cond.methodLink RX11 155 yX11_goOn ∈ gWs := gWs_t6 (List.mem_of_getElem? (i := 90) rfl) rfl
theorem wI_X11_goOn : Cond.instanceMethod yX11_goOn ∈ gWs := gWs_t6 (List.mem_of_getElem? (i := 92) rfl) rfl
theorem wC_X11_goOn : Cond.code yX11_goOn cX11_goOn 1 (none) ∈ gWs := gWs_t6 (List.mem_of_getElem? (i := 93) rfl) rfl
theorem wM_X11_158 : Cond.methodLink RX11 158 yX11_numeralOf ∈ gWs := gWs_t6 (List.mem_of_getElem? (i := 94) rfl) rfl
theorem wI_X11_numeralOf : Cond.instanceMethod yX11_numeralOf ∈ gWs := gWs_t6 (List.mem_of_getElem? (i := 96) rfl) rfl
theorem wC_X11_numeralOf : Cond.code yX11_numeralOf cX11_numeralOf 5 (some .int) ∈ gWs := gWs_t6 (List.mem_of_getElem? (i := 97) rfl) rfl
theorem wK_X11_195 : Cond.constant RX11 195 (99999) ∈ gWs := gWs_t6 (List.mem_of_getElem? (i := 98) rfl) rfl
theorem wM_X11_196 : Cond.methodLink RX11 196 yX11_readFunction ∈ gWs := gWs_t6 (List.mem_of_getElem? (i := 99) rfl) rfl
theorem wI_X11_readFunction : Cond.instanceMethod yX11_readFunction ∈ gWs := gWs_t6 (List.mem_of_getElem? (i := 101) rfl) rfl
theorem wC_X11_readFunction : Cond.code yX11_readFunction cX11_readFunction 4 (none) ∈ gWs := gWs_t6 (List.mem_of_getElem? (i := 102) rfl) rfl
theorem wM_X11_170 : Cond.methodLink RX11 170 yX11_functionsRead ∈ gWs := gWs_t6 (List.mem_of_getElem? (i := 103) rfl) rfl
theorem wI_X11_functionsRead : Cond.instanceMethod yX11_functionsRead ∈ gWs := gWs_t6 (List.mem_of_getElem? (i := 105) rfl) rfl
theorem wC_X11_functionsRead : Cond.code yX11_functionsRead cX11_functionsRead 1 (some .int) ∈ gWs := gWs_t6 (List.mem_of_getElem? (i := 106) rfl) rfl
theorem wM_X11_173 : Cond.methodLink RX11 173 yX11_namedAt ∈ gWs := gWs_t6 (List.mem_of_getElem? (i := 107) rfl) rfl
theorem wI_X11_namedAt : Cond.instanceMethod yX11_namedAt ∈ gWs := gWs_t6 (List.mem_of_getElem? (i := 109) rfl) rfl
theorem wC_X11_namedAt : Cond.code yX11_namedAt cX11_namedAt 5 (some .int) ∈ gWs := gWs_t6 (List.mem_of_getElem? (i := 110) rfl) rfl
theorem wM_X11_177 : Cond.methodLink RX11 177 yX11_readFirst ∈ gWs := gWs_t6 (List.mem_of_getElem? (i := 111) rfl) rfl
theorem wI_X11_readFirst : Cond.instanceMethod yX11_readFirst ∈ gWs := gWs_t6 (List.mem_of_getElem? (i := 113) rfl) rfl
theorem wC_X11_readFirst : Cond.code yX11_readFirst cX11_readFirst 3 (none) ∈ gWs := gWs_t6 (List.mem_of_getElem? (i := 114) rfl) rfl
theorem wM_X11_186 : Cond.methodLink RX11 186 yX11_functionHere ∈ gWs := gWs_t6 (List.mem_of_getElem? (i := 115) rfl) rfl
theorem wI_X11_functionHere : Cond.instanceMethod yX11_functionHere ∈ gWs := gWs_t6 (List.mem_of_getElem? (i := 117) rfl) rfl
theorem wC_X11_functionHere : Cond.code yX11_functionHere cX11_functionHere 2 (some .int) ∈ gWs := gWs_t6 (List.mem_of_getElem? (i := 118) rfl) rfl
theorem wM_X11_180 : Cond.methodLink RX11 180 yX11_readSecond ∈ gWs := gWs_t6 (List.mem_of_getElem? (i := 119) rfl) rfl
theorem wI_X11_readSecond : Cond.instanceMethod yX11_readSecond ∈ gWs := gWs_t6 (List.mem_of_getElem? (i := 121) rfl) rfl
theorem wC_X11_readSecond : Cond.code yX11_readSecond cX11_readSecond 5 (none) ∈ gWs := gWs_t6 (List.mem_of_getElem? (i := 122) rfl) rfl
theorem wM_X11_183 : Cond.methodLink RX11 183 yX11_readSign ∈ gWs := gWs_t6 (List.mem_of_getElem? (i := 123) rfl) rfl
theorem wI_X11_readSign : Cond.instanceMethod yX11_readSign ∈ gWs := gWs_t6 (List.mem_of_getElem? (i := 125) rfl) rfl
theorem wC_X11_readSign : Cond.code yX11_readSign cX11_readSign 2 (none) ∈ gWs := gWs_t6 (List.mem_of_getElem? (i := 126) rfl) rfl
theorem wM_X11_199 : Cond.methodLink RX11 199 yX11_readAt ∈ gWs := gWs_t6 (List.mem_of_getElem? (i := 127) rfl) rfl
theorem wI_X11_readAt : Cond.instanceMethod yX11_readAt ∈ gWs := gWs_t6 (List.mem_of_getElem? (i := 129) rfl) rfl
theorem wC_X11_readAt : Cond.code yX11_readAt cX11_readAt 5 (none) ∈ gWs := gWs_t6 (List.mem_of_getElem? (i := 130) rfl) rfl
theorem wM_L_34 : Cond.methodLink RL 34 yX11_fault ∈ gWs := gWs_t6 (List.mem_of_getElem? (i := 131) rfl) rfl
theorem wI_X11_fault : Cond.instanceMethod yX11_fault ∈ gWs := gWs_t6 (List.mem_of_getElem? (i := 132) rfl) rfl
theorem wV_X11_fault : Cond.selects RX11 yX11_fault yX11_fault ∈ gWs := gWs_t6 (List.mem_of_getElem? (i := 133) rfl) rfl
theorem wC_X11_fault : Cond.code yX11_fault cX11_fault 2 (some .int) ∈ gWs := gWs_t6 (List.mem_of_getElem? (i := 134) rfl) rfl
theorem wM_L_38 : Cond.methodLink RL 38 yX11_named ∈ gWs := gWs_t6 (List.mem_of_getElem? (i := 135) rfl) rfl
theorem wI_X11_named : Cond.instanceMethod yX11_named ∈ gWs := gWs_t6 (List.mem_of_getElem? (i := 136) rfl) rfl
theorem wV_X11_named : Cond.selects RX11 yX11_named yX11_named ∈ gWs := gWs_t6 (List.mem_of_getElem? (i := 137) rfl) rfl
theorem wC_X11_named : Cond.code yX11_named cX11_named 2 (some .int) ∈ gWs := gWs_t6 (List.mem_of_getElem? (i := 138) rfl) rfl
theorem wM_X11_226 : Cond.methodLink RX11 226 yX11_functions ∈ gWs := gWs_t6 (List.mem_of_getElem? (i := 139) rfl) rfl
theorem wI_X11_functions : Cond.instanceMethod yX11_functions ∈ gWs := gWs_t6 (List.mem_of_getElem? (i := 141) rfl) rfl
theorem wC_X11_functions : Cond.code yX11_functions cX11_functions 1 (some .int) ∈ gWs := gWs_t6 (List.mem_of_getElem? (i := 142) rfl) rfl
theorem wM_L_164 : Cond.methodLink RL 164 yX11_undo ∈ gWs := gWs_t6 (List.mem_of_getElem? (i := 143) rfl) rfl
theorem wI_X11_undo : Cond.instanceMethod yX11_undo ∈ gWs := gWs_t6 (List.mem_of_getElem? (i := 144) rfl) rfl
theorem wV_X11_undo : Cond.selects RX11 yX11_undo yX11_undo ∈ gWs := gWs_t6 (List.mem_of_getElem? (i := 145) rfl) rfl
theorem wC_X11_undo : Cond.code yX11_undo cX11_undo 1 (some .int) ∈ gWs := gWs_t6 (List.mem_of_getElem? (i := 146) rfl) rfl
theorem wM_X11_238 : Cond.methodLink RX11 238 yX11_laysBack ∈ gWs := gWs_t6 (List.mem_of_getElem? (i := 147) rfl) rfl
theorem wI_X11_laysBack : Cond.instanceMethod yX11_laysBack ∈ gWs := gWs_t6 (List.mem_of_getElem? (i := 149) rfl) rfl
theorem wC_X11_laysBack : Cond.code yX11_laysBack cX11_laysBack 3 (none) ∈ gWs := gWs_t6 (List.mem_of_getElem? (i := 150) rfl) rfl
theorem wM_L_168 : Cond.methodLink RL 168 yX11_keep ∈ gWs := gWs_t6 (List.mem_of_getElem? (i := 151) rfl) rfl
theorem wI_X11_keep : Cond.instanceMethod yX11_keep ∈ gWs := gWs_t6 (List.mem_of_getElem? (i := 152) rfl) rfl
theorem wV_X11_keep : Cond.selects RX11 yX11_keep yX11_keep ∈ gWs := gWs_t6 (List.mem_of_getElem? (i := 153) rfl) rfl
theorem wC_X11_keep : Cond.code yX11_keep cX11_keep 1 (some .int) ∈ gWs := gWs_t6 (List.mem_of_getElem? (i := 154) rfl) rfl
theorem wM_X11_235 : Cond.methodLink RX11 235 yX11_lays ∈ gWs := gWs_t6 (List.mem_of_getElem? (i := 155) rfl) rfl
theorem wI_X11_lays : Cond.instanceMethod yX11_lays ∈ gWs := gWs_t6 (List.mem_of_getElem? (i := 157) rfl) rfl
theorem wC_X11_lays : Cond.code yX11_lays cX11_lays 3 (none) ∈ gWs := gWs_t6 (List.mem_of_getElem? (i := 158) rfl) rfl
theorem wM_L_172 : Cond.methodLink RL 172 yX11_back ∈ gWs := gWs_t6 (List.mem_of_getElem? (i := 159) rfl) rfl
theorem wI_X11_back : Cond.instanceMethod yX11_back ∈ gWs := gWs_t6 (List.mem_of_getElem? (i := 160) rfl) rfl
theorem wV_X11_back : Cond.selects RX11 yX11_back yX11_back ∈ gWs := gWs_t6 (List.mem_of_getElem? (i := 161) rfl) rfl
theorem wC_X11_back : Cond.code yX11_back cX11_back 1 (some .int) ∈ gWs := gWs_t6 (List.mem_of_getElem? (i := 162) rfl) rfl
theorem wM_L_44 : Cond.methodLink RL 44 yX11_function ∈ gWs := gWs_t6 (List.mem_of_getElem? (i := 163) rfl) rfl
theorem wI_X11_function : Cond.instanceMethod yX11_function ∈ gWs := gWs_t6 (List.mem_of_getElem? (i := 164) rfl) rfl
theorem wV_X11_function : Cond.selects RX11 yX11_function yX11_function ∈ gWs := gWs_t6 (List.mem_of_getElem? (i := 165) rfl) rfl
theorem wC_X11_function : Cond.code yX11_function cX11_function 3 (some .int) ∈ gWs := gWs_t6 (List.mem_of_getElem? (i := 166) rfl) rfl
theorem wM_X11_241 : Cond.methodLink RX11 241 yX11_isFunction ∈ gWs := gWs_t6 (List.mem_of_getElem? (i := 167) rfl) rfl
theorem wI_X11_isFunction : Cond.instanceMethod yX11_isFunction ∈ gWs := gWs_t6 (List.mem_of_getElem? (i := 169) rfl) rfl
theorem wC_X11_isFunction : Cond.code yX11_isFunction cX11_isFunction 2 (some .boolean) ∈ gWs := gWs_t6 (List.mem_of_getElem? (i := 170) rfl) rfl
theorem wM_L_53 : Cond.methodLink RL 53 yX11_told ∈ gWs := gWs_t6 (List.mem_of_getElem? (i := 171) rfl) rfl
theorem wI_X11_told : Cond.instanceMethod yX11_told ∈ gWs := gWs_t6 (List.mem_of_getElem? (i := 172) rfl) rfl
theorem wV_X11_told : Cond.selects RX11 yX11_told yX11_told ∈ gWs := gWs_t6 (List.mem_of_getElem? (i := 173) rfl) rfl
theorem wC_X11_told : Cond.code yX11_told cX11_told 4 (some .int) ∈ gWs := gWs_t6 (List.mem_of_getElem? (i := 174) rfl) rfl
theorem wM_X11_244 : Cond.methodLink RX11 244 yX11_isOwn ∈ gWs := gWs_t6 (List.mem_of_getElem? (i := 175) rfl) rfl
theorem wI_X11_isOwn : Cond.instanceMethod yX11_isOwn ∈ gWs := gWs_t6 (List.mem_of_getElem? (i := 177) rfl) rfl
theorem wC_X11_isOwn : Cond.code yX11_isOwn cX11_isOwn 2 (some .boolean) ∈ gWs := gWs_t6 (List.mem_of_getElem? (i := 178) rfl) rfl
theorem wM_X11_247 : Cond.methodLink RX11 247 yX11_within ∈ gWs := gWs_t6 (List.mem_of_getElem? (i := 179) rfl) rfl
theorem wS_X11_within : Cond.static yX11_within ∈ gWs := gWs_t6 (List.mem_of_getElem? (i := 180) rfl) rfl
theorem wC_X11_within : Cond.code yX11_within cX11_within 3 (some .boolean) ∈ gWs := gWs_t6 (List.mem_of_getElem? (i := 181) rfl) rfl
theorem wM_L_57 : Cond.methodLink RL 57 yX11_bound ∈ gWs := gWs_t6 (List.mem_of_getElem? (i := 182) rfl) rfl
theorem wI_X11_bound : Cond.instanceMethod yX11_bound ∈ gWs := gWs_t6 (List.mem_of_getElem? (i := 183) rfl) rfl
theorem wV_X11_bound : Cond.selects RX11 yX11_bound yX11_bound ∈ gWs := gWs_t6 (List.mem_of_getElem? (i := 184) rfl) rfl
theorem wC_X11_bound : Cond.code yX11_bound cX11_bound 3 (some .int) ∈ gWs := gWs_t6 (List.mem_of_getElem? (i := 185) rfl) rfl
theorem wM_X11_251 : Cond.methodLink RX11 251 yX11_remembers ∈ gWs := gWs_t6 (List.mem_of_getElem? (i := 186) rfl) rfl
theorem wI_X11_remembers : Cond.instanceMethod yX11_remembers ∈ gWs := gWs_t6 (List.mem_of_getElem? (i := 188) rfl) rfl
theorem wC_X11_remembers : Cond.code yX11_remembers cX11_remembers 2 (none) ∈ gWs := gWs_t6 (List.mem_of_getElem? (i := 189) rfl) rfl
theorem wM_L_61 : Cond.methodLink RL 61 yX11_modulus ∈ gWs := gWs_t6 (List.mem_of_getElem? (i := 190) rfl) rfl
theorem wI_X11_modulus : Cond.instanceMethod yX11_modulus ∈ gWs := gWs_t6 (List.mem_of_getElem? (i := 191) rfl) rfl
theorem wV_X11_modulus : Cond.selects RX11 yX11_modulus yX11_modulus ∈ gWs := gWs_t6 (List.mem_of_getElem? (i := 192) rfl) rfl
theorem wC_X11_modulus : Cond.code yX11_modulus cX11_modulus 3 (some .int) ∈ gWs := gWs_t6 (List.mem_of_getElem? (i := 193) rfl) rfl
theorem wM_L_66 : Cond.methodLink RL 66 yX11_set ∈ gWs := gWs_t6 (List.mem_of_getElem? (i := 194) rfl) rfl
theorem wI_X11_set : Cond.instanceMethod yX11_set ∈ gWs := gWs_t6 (List.mem_of_getElem? (i := 195) rfl) rfl
theorem wV_X11_set : Cond.selects RX11 yX11_set yX11_set ∈ gWs := gWs_t6 (List.mem_of_getElem? (i := 196) rfl) rfl
theorem wC_X11_set : Cond.code yX11_set cX11_set 5 (some .boolean) ∈ gWs := gWs_t6 (List.mem_of_getElem? (i := 197) rfl) rfl
theorem wM_L_75 : Cond.methodLink RL 75 yX11_atPower ∈ gWs := gWs_t6 (List.mem_of_getElem? (i := 198) rfl) rfl
theorem wI_X11_atPower : Cond.instanceMethod yX11_atPower ∈ gWs := gWs_t6 (List.mem_of_getElem? (i := 199) rfl) rfl
theorem wV_X11_atPower : Cond.selects RX11 yX11_atPower yX11_atPower ∈ gWs := gWs_t6 (List.mem_of_getElem? (i := 200) rfl) rfl
theorem wC_X11_atPower : Cond.code yX11_atPower cX11_atPower 4 (some .int) ∈ gWs := gWs_t6 (List.mem_of_getElem? (i := 201) rfl) rfl
theorem wK_X11_277 : Cond.constant RX11 277 (200003) ∈ gWs := gWs_t6 (List.mem_of_getElem? (i := 202) rfl) rfl
theorem wM_X11_278 : Cond.methodLink RX11 278 yX11_laysPowers ∈ gWs := gWs_t6 (List.mem_of_getElem? (i := 203) rfl) rfl
theorem wI_X11_laysPowers : Cond.instanceMethod yX11_laysPowers ∈ gWs := gWs_t6 (List.mem_of_getElem? (i := 205) rfl) rfl
theorem wC_X11_laysPowers : Cond.code yX11_laysPowers cX11_laysPowers 8 (none) ∈ gWs := gWs_t6 (List.mem_of_getElem? (i := 206) rfl) rfl
theorem wM_X11_256 : Cond.methodLink RX11 256 yX11_rest ∈ gWs := gWs_t6 (List.mem_of_getElem? (i := 207) rfl) rfl
theorem wI_X11_rest : Cond.instanceMethod yX11_rest ∈ gWs := gWs_t6 (List.mem_of_getElem? (i := 209) rfl) rfl
theorem wC_X11_rest : Cond.code yX11_rest cX11_rest 5 (some .long) ∈ gWs := gWs_t6 (List.mem_of_getElem? (i := 210) rfl) rfl
theorem wM_X11_260 : Cond.methodLink RX11 260 yX11_known ∈ gWs := gWs_t6 (List.mem_of_getElem? (i := 211) rfl) rfl
theorem wI_X11_known : Cond.instanceMethod yX11_known ∈ gWs := gWs_t6 (List.mem_of_getElem? (i := 213) rfl) rfl
theorem wC_X11_known : Cond.code yX11_known cX11_known 3 (some .long) ∈ gWs := gWs_t6 (List.mem_of_getElem? (i := 214) rfl) rfl
theorem wQ_X11_254 : Cond.constantLong RX11 254 (-1) ∈ gWs := gWs_t6 (List.mem_of_getElem? (i := 215) rfl) rfl
theorem wM_X11_264 : Cond.methodLink RX11 264 yX11_ownAt ∈ gWs := gWs_t6 (List.mem_of_getElem? (i := 216) rfl) rfl
theorem wI_X11_ownAt : Cond.instanceMethod yX11_ownAt ∈ gWs := gWs_t6 (List.mem_of_getElem? (i := 218) rfl) rfl
theorem wC_X11_ownAt : Cond.code yX11_ownAt cX11_ownAt 4 (some .long) ∈ gWs := gWs_t6 (List.mem_of_getElem? (i := 219) rfl) rfl
theorem wM_X11_267 : Cond.methodLink RX11 267 yX11_together ∈ gWs := gWs_t6 (List.mem_of_getElem? (i := 220) rfl) rfl
theorem wI_X11_together : Cond.instanceMethod yX11_together ∈ gWs := gWs_t6 (List.mem_of_getElem? (i := 222) rfl) rfl
theorem wC_X11_together : Cond.code yX11_together cX11_together 7 (some .long) ∈ gWs := gWs_t6 (List.mem_of_getElem? (i := 223) rfl) rfl
theorem wM_X11_271 : Cond.methodLink RX11 271 yX11_over ∈ gWs := gWs_t6 (List.mem_of_getElem? (i := 224) rfl) rfl
theorem wI_X11_over : Cond.instanceMethod yX11_over ∈ gWs := gWs_t6 (List.mem_of_getElem? (i := 226) rfl) rfl
theorem wC_X11_over : Cond.code yX11_over cX11_over 7 (some .long) ∈ gWs := gWs_t6 (List.mem_of_getElem? (i := 227) rfl) rfl
theorem wM_X11_274 : Cond.methodLink RX11 274 yX11_sign ∈ gWs := gWs_t6 (List.mem_of_getElem? (i := 228) rfl) rfl
theorem wS_X11_sign : Cond.static yX11_sign ∈ gWs := gWs_t6 (List.mem_of_getElem? (i := 229) rfl) rfl
theorem wC_X11_sign : Cond.code yX11_sign cX11_sign 4 (some .int) ∈ gWs := gWs_t6 (List.mem_of_getElem? (i := 230) rfl) rfl
theorem wM_L_70 : Cond.methodLink RL 70 yX11_value ∈ gWs := gWs_t6 (List.mem_of_getElem? (i := 231) rfl) rfl
theorem wI_X11_value : Cond.instanceMethod yX11_value ∈ gWs := gWs_t6 (List.mem_of_getElem? (i := 232) rfl) rfl
theorem wV_X11_value : Cond.selects RX11 yX11_value yX11_value ∈ gWs := gWs_t6 (List.mem_of_getElem? (i := 233) rfl) rfl
theorem wC_X11_value : Cond.code yX11_value cX11_value 3 (some .int) ∈ gWs := gWs_t6 (List.mem_of_getElem? (i := 234) rfl) rfl
theorem wM_X11_282 : Cond.methodLink RX11 282 yX11_isIn ∈ gWs := gWs_t6 (List.mem_of_getElem? (i := 235) rfl) rfl
theorem wI_X11_isIn : Cond.instanceMethod yX11_isIn ∈ gWs := gWs_t6 (List.mem_of_getElem? (i := 237) rfl) rfl
theorem wC_X11_isIn : Cond.code yX11_isIn cX11_isIn 3 (some .boolean) ∈ gWs := gWs_t6 (List.mem_of_getElem? (i := 238) rfl) rfl
theorem wM_X11_286 : Cond.methodLink RX11 286 yX11_valueAt ∈ gWs := gWs_t6 (List.mem_of_getElem? (i := 239) rfl) rfl
theorem wI_X11_valueAt : Cond.instanceMethod yX11_valueAt ∈ gWs := gWs_t7 (List.mem_of_getElem? (i := 1) rfl) rfl
theorem wC_X11_valueAt : Cond.code yX11_valueAt cX11_valueAt 8 (some .long) ∈ gWs := gWs_t7 (List.mem_of_getElem? (i := 2) rfl) rfl
theorem wM_L_79 : Cond.methodLink RL 79 yX11_sum ∈ gWs := gWs_t7 (List.mem_of_getElem? (i := 3) rfl) rfl
theorem wI_X11_sum : Cond.instanceMethod yX11_sum ∈ gWs := gWs_t7 (List.mem_of_getElem? (i := 4) rfl) rfl
theorem wV_X11_sum : Cond.selects RX11 yX11_sum yX11_sum ∈ gWs := gWs_t7 (List.mem_of_getElem? (i := 5) rfl) rfl
theorem wC_X11_sum : Cond.code yX11_sum cX11_sum 3 (some .int) ∈ gWs := gWs_t7 (List.mem_of_getElem? (i := 6) rfl) rfl
theorem wM_X11_311 : Cond.methodLink RX11 311 yX11_laysSums ∈ gWs := gWs_t7 (List.mem_of_getElem? (i := 7) rfl) rfl
theorem wI_X11_laysSums : Cond.instanceMethod yX11_laysSums ∈ gWs := gWs_t7 (List.mem_of_getElem? (i := 9) rfl) rfl
theorem wC_X11_laysSums : Cond.code yX11_laysSums cX11_laysSums 3 (none) ∈ gWs := gWs_t7 (List.mem_of_getElem? (i := 10) rfl) rfl
theorem wM_X11_308 : Cond.methodLink RX11 308 yX11_laysValues ∈ gWs := gWs_t7 (List.mem_of_getElem? (i := 11) rfl) rfl
theorem wI_X11_laysValues : Cond.instanceMethod yX11_laysValues ∈ gWs := gWs_t7 (List.mem_of_getElem? (i := 13) rfl) rfl
theorem wC_X11_laysValues : Cond.code yX11_laysValues cX11_laysValues 5 (none) ∈ gWs := gWs_t7 (List.mem_of_getElem? (i := 14) rfl) rfl
theorem wM_X11_301 : Cond.methodLink RX11 301 yX11_mostPower ∈ gWs := gWs_t7 (List.mem_of_getElem? (i := 15) rfl) rfl
theorem wS_X11_mostPower : Cond.static yX11_mostPower ∈ gWs := gWs_t7 (List.mem_of_getElem? (i := 16) rfl) rfl
theorem wC_X11_mostPower : Cond.code yX11_mostPower cX11_mostPower 4 (some .int) ∈ gWs := gWs_t7 (List.mem_of_getElem? (i := 17) rfl) rfl
theorem wM_X11_305 : Cond.methodLink RX11 305 yX11_powerIn ∈ gWs := gWs_t7 (List.mem_of_getElem? (i := 18) rfl) rfl
theorem wS_X11_powerIn : Cond.static yX11_powerIn ∈ gWs := gWs_t7 (List.mem_of_getElem? (i := 19) rfl) rfl
theorem wC_X11_powerIn : Cond.code yX11_powerIn cX11_powerIn 4 (some .int) ∈ gWs := gWs_t7 (List.mem_of_getElem? (i := 20) rfl) rfl
theorem wM_L_83 : Cond.methodLink RL 83 yX11_range ∈ gWs := gWs_t7 (List.mem_of_getElem? (i := 21) rfl) rfl
theorem wI_X11_range : Cond.instanceMethod yX11_range ∈ gWs := gWs_t7 (List.mem_of_getElem? (i := 22) rfl) rfl
theorem wV_X11_range : Cond.selects RX11 yX11_range yX11_range ∈ gWs := gWs_t7 (List.mem_of_getElem? (i := 23) rfl) rfl
theorem wC_X11_range : Cond.code yX11_range cX11_range 4 (some .int) ∈ gWs := gWs_t7 (List.mem_of_getElem? (i := 24) rfl) rfl
theorem wM_L_87 : Cond.methodLink RL 87 yX11_primes ∈ gWs := gWs_t7 (List.mem_of_getElem? (i := 25) rfl) rfl
theorem wI_X11_primes : Cond.instanceMethod yX11_primes ∈ gWs := gWs_t7 (List.mem_of_getElem? (i := 26) rfl) rfl
theorem wV_X11_primes : Cond.selects RX11 yX11_primes yX11_primes ∈ gWs := gWs_t7 (List.mem_of_getElem? (i := 27) rfl) rfl
theorem wC_X11_primes : Cond.code yX11_primes cX11_primes 9 (some .int) ∈ gWs := gWs_t7 (List.mem_of_getElem? (i := 28) rfl) rfl
theorem wM_L_91 : Cond.methodLink RL 91 yX11_quotients ∈ gWs := gWs_t7 (List.mem_of_getElem? (i := 29) rfl) rfl
theorem wI_X11_quotients : Cond.instanceMethod yX11_quotients ∈ gWs := gWs_t7 (List.mem_of_getElem? (i := 30) rfl) rfl
theorem wV_X11_quotients : Cond.selects RX11 yX11_quotients yX11_quotients ∈ gWs := gWs_t7 (List.mem_of_getElem? (i := 31) rfl) rfl
theorem wC_X11_quotients : Cond.code yX11_quotients cX11_quotients 2 (some .int) ∈ gWs := gWs_t7 (List.mem_of_getElem? (i := 32) rfl) rfl
theorem wM_X11_317 : Cond.methodLink RX11 317 yX11_laysBlocks ∈ gWs := gWs_t7 (List.mem_of_getElem? (i := 33) rfl) rfl
theorem wI_X11_laysBlocks : Cond.instanceMethod yX11_laysBlocks ∈ gWs := gWs_t7 (List.mem_of_getElem? (i := 35) rfl) rfl
theorem wC_X11_laysBlocks : Cond.code yX11_laysBlocks cX11_laysBlocks 3 (none) ∈ gWs := gWs_t7 (List.mem_of_getElem? (i := 36) rfl) rfl
theorem wM_L_95 : Cond.methodLink RL 95 yX11_quotient ∈ gWs := gWs_t7 (List.mem_of_getElem? (i := 37) rfl) rfl
theorem wI_X11_quotient : Cond.instanceMethod yX11_quotient ∈ gWs := gWs_t7 (List.mem_of_getElem? (i := 38) rfl) rfl
theorem wV_X11_quotient : Cond.selects RX11 yX11_quotient yX11_quotient ∈ gWs := gWs_t7 (List.mem_of_getElem? (i := 39) rfl) rfl
theorem wC_X11_quotient : Cond.code yX11_quotient cX11_quotient 3 (some .int) ∈ gWs := gWs_t7 (List.mem_of_getElem? (i := 40) rfl) rfl
theorem wM_L_99 : Cond.methodLink RL 99 yX11_block ∈ gWs := gWs_t7 (List.mem_of_getElem? (i := 41) rfl) rfl
theorem wI_X11_block : Cond.instanceMethod yX11_block ∈ gWs := gWs_t7 (List.mem_of_getElem? (i := 42) rfl) rfl
theorem wV_X11_block : Cond.selects RX11 yX11_block yX11_block ∈ gWs := gWs_t7 (List.mem_of_getElem? (i := 43) rfl) rfl
theorem wC_X11_block : Cond.code yX11_block cX11_block 4 (some .int) ∈ gWs := gWs_t7 (List.mem_of_getElem? (i := 44) rfl) rfl
theorem wM_X11_320 : Cond.methodLink RX11 320 yX11_firstOf ∈ gWs := gWs_t7 (List.mem_of_getElem? (i := 45) rfl) rfl
theorem wI_X11_firstOf : Cond.instanceMethod yX11_firstOf ∈ gWs := gWs_t7 (List.mem_of_getElem? (i := 47) rfl) rfl
theorem wC_X11_firstOf : Cond.code yX11_firstOf cX11_firstOf 2 (some .int) ∈ gWs := gWs_t7 (List.mem_of_getElem? (i := 48) rfl) rfl
theorem wM_L_103 : Cond.methodLink RL 103 yX11_hyper ∈ gWs := gWs_t7 (List.mem_of_getElem? (i := 49) rfl) rfl
theorem wI_X11_hyper : Cond.instanceMethod yX11_hyper ∈ gWs := gWs_t7 (List.mem_of_getElem? (i := 50) rfl) rfl
theorem wV_X11_hyper : Cond.selects RX11 yX11_hyper yX11_hyper ∈ gWs := gWs_t7 (List.mem_of_getElem? (i := 51) rfl) rfl
theorem wC_X11_hyper : Cond.code yX11_hyper cX11_hyper 4 (some .int) ∈ gWs := gWs_t7 (List.mem_of_getElem? (i := 52) rfl) rfl
theorem wM_X11_323 : Cond.methodLink RX11 323 yX11_laysInBlocks ∈ gWs := gWs_t7 (List.mem_of_getElem? (i := 53) rfl) rfl
theorem wI_X11_laysInBlocks : Cond.instanceMethod yX11_laysInBlocks ∈ gWs := gWs_t7 (List.mem_of_getElem? (i := 55) rfl) rfl
theorem wC_X11_laysInBlocks : Cond.code yX11_laysInBlocks cX11_laysInBlocks 3 (none) ∈ gWs := gWs_t7 (List.mem_of_getElem? (i := 56) rfl) rfl
theorem wM_X11_326 : Cond.methodLink RX11 326 yX11_laysAtQuotients ∈ gWs := gWs_t7 (List.mem_of_getElem? (i := 57) rfl) rfl
theorem wI_X11_laysAtQuotients : Cond.instanceMethod yX11_laysAtQuotients ∈ gWs := gWs_t7 (List.mem_of_getElem? (i := 59) rfl) rfl
theorem wC_X11_laysAtQuotients : Cond.code yX11_laysAtQuotients cX11_laysAtQuotients 4 (none) ∈ gWs := gWs_t7 (List.mem_of_getElem? (i := 60) rfl) rfl
theorem wM_X11_329 : Cond.methodLink RX11 329 yX11_acrossBlocks ∈ gWs := gWs_t7 (List.mem_of_getElem? (i := 61) rfl) rfl
theorem wI_X11_acrossBlocks : Cond.instanceMethod yX11_acrossBlocks ∈ gWs := gWs_t7 (List.mem_of_getElem? (i := 63) rfl) rfl
theorem wC_X11_acrossBlocks : Cond.code yX11_acrossBlocks cX11_acrossBlocks 4 (some .int) ∈ gWs := gWs_t7 (List.mem_of_getElem? (i := 64) rfl) rfl
theorem wM_L_152 : Cond.methodLink RL 152 yX11_blocks ∈ gWs := gWs_t7 (List.mem_of_getElem? (i := 65) rfl) rfl
theorem wI_X11_blocks : Cond.instanceMethod yX11_blocks ∈ gWs := gWs_t7 (List.mem_of_getElem? (i := 66) rfl) rfl
theorem wV_X11_blocks : Cond.selects RX11 yX11_blocks yX11_blocks ∈ gWs := gWs_t7 (List.mem_of_getElem? (i := 67) rfl) rfl
theorem wC_X11_blocks : Cond.code yX11_blocks cX11_blocks 4 (some .int) ∈ gWs := gWs_t7 (List.mem_of_getElem? (i := 68) rfl) rfl
theorem wM_L_107 : Cond.methodLink RL 107 yX11_common ∈ gWs := gWs_t7 (List.mem_of_getElem? (i := 69) rfl) rfl
theorem wI_X11_common : Cond.instanceMethod yX11_common ∈ gWs := gWs_t7 (List.mem_of_getElem? (i := 70) rfl) rfl
theorem wV_X11_common : Cond.selects RX11 yX11_common yX11_common ∈ gWs := gWs_t7 (List.mem_of_getElem? (i := 71) rfl) rfl
theorem wC_X11_common : Cond.code yX11_common cX11_common 3 (some .int) ∈ gWs := gWs_t7 (List.mem_of_getElem? (i := 72) rfl) rfl
theorem wM_X11_337 : Cond.methodLink RX11 337 yX11_laysCoprime ∈ gWs := gWs_t7 (List.mem_of_getElem? (i := 73) rfl) rfl
theorem wI_X11_laysCoprime : Cond.instanceMethod yX11_laysCoprime ∈ gWs := gWs_t7 (List.mem_of_getElem? (i := 75) rfl) rfl
theorem wC_X11_laysCoprime : Cond.code yX11_laysCoprime cX11_laysCoprime 6 (none) ∈ gWs := gWs_t7 (List.mem_of_getElem? (i := 76) rfl) rfl
theorem wM_X11_332 : Cond.methodLink RX11 332 yX11_laysPhi ∈ gWs := gWs_t7 (List.mem_of_getElem? (i := 77) rfl) rfl
theorem wI_X11_laysPhi : Cond.instanceMethod yX11_laysPhi ∈ gWs := gWs_t7 (List.mem_of_getElem? (i := 79) rfl) rfl
theorem wC_X11_laysPhi : Cond.code yX11_laysPhi cX11_laysPhi 4 (none) ∈ gWs := gWs_t7 (List.mem_of_getElem? (i := 80) rfl) rfl
theorem wQ_X11_335 : Cond.constantLong RX11 335 (2) ∈ gWs := gWs_t7 (List.mem_of_getElem? (i := 81) rfl) rfl
theorem wM_L_112 : Cond.methodLink RL 112 yX11_coprime ∈ gWs := gWs_t7 (List.mem_of_getElem? (i := 82) rfl) rfl
theorem wI_X11_coprime : Cond.instanceMethod yX11_coprime ∈ gWs := gWs_t7 (List.mem_of_getElem? (i := 83) rfl) rfl
theorem wV_X11_coprime : Cond.selects RX11 yX11_coprime yX11_coprime ∈ gWs := gWs_t7 (List.mem_of_getElem? (i := 84) rfl) rfl
theorem wC_X11_coprime : Cond.code yX11_coprime cX11_coprime 5 (some .long) ∈ gWs := gWs_t7 (List.mem_of_getElem? (i := 85) rfl) rfl
theorem wM_L_116 : Cond.methodLink RL 116 yX11_many ∈ gWs := gWs_t7 (List.mem_of_getElem? (i := 86) rfl) rfl
theorem wI_X11_many : Cond.instanceMethod yX11_many ∈ gWs := gWs_t7 (List.mem_of_getElem? (i := 87) rfl) rfl
theorem wV_X11_many : Cond.selects RX11 yX11_many yX11_many ∈ gWs := gWs_t7 (List.mem_of_getElem? (i := 88) rfl) rfl
theorem wC_X11_many : Cond.code yX11_many cX11_many 5 (some .int) ∈ gWs := gWs_t7 (List.mem_of_getElem? (i := 89) rfl) rfl
theorem wM_X11_340 : Cond.methodLink RX11 340 yX11_laysKinds ∈ gWs := gWs_t7 (List.mem_of_getElem? (i := 90) rfl) rfl
theorem wI_X11_laysKinds : Cond.instanceMethod yX11_laysKinds ∈ gWs := gWs_t7 (List.mem_of_getElem? (i := 92) rfl) rfl
theorem wC_X11_laysKinds : Cond.code yX11_laysKinds cX11_laysKinds 6 (none) ∈ gWs := gWs_t7 (List.mem_of_getElem? (i := 93) rfl) rfl
theorem wM_L_120 : Cond.methodLink RL 120 yX11_full ∈ gWs := gWs_t7 (List.mem_of_getElem? (i := 94) rfl) rfl
theorem wI_X11_full : Cond.instanceMethod yX11_full ∈ gWs := gWs_t7 (List.mem_of_getElem? (i := 95) rfl) rfl
theorem wV_X11_full : Cond.selects RX11 yX11_full yX11_full ∈ gWs := gWs_t7 (List.mem_of_getElem? (i := 96) rfl) rfl
theorem wC_X11_full : Cond.code yX11_full cX11_full 4 (some .int) ∈ gWs := gWs_t7 (List.mem_of_getElem? (i := 97) rfl) rfl
theorem wM_L_124 : Cond.methodLink RL 124 yX11_fullSum ∈ gWs := gWs_t7 (List.mem_of_getElem? (i := 98) rfl) rfl
theorem wI_X11_fullSum : Cond.instanceMethod yX11_fullSum ∈ gWs := gWs_t7 (List.mem_of_getElem? (i := 99) rfl) rfl
theorem wV_X11_fullSum : Cond.selects RX11 yX11_fullSum yX11_fullSum ∈ gWs := gWs_t7 (List.mem_of_getElem? (i := 100) rfl) rfl
theorem wC_X11_fullSum : Cond.code yX11_fullSum cX11_fullSum 6 (some .int) ∈ gWs := gWs_t7 (List.mem_of_getElem? (i := 101) rfl) rfl
theorem wM_L_128 : Cond.methodLink RL 128 yX11_smooth ∈ gWs := gWs_t7 (List.mem_of_getElem? (i := 102) rfl) rfl
theorem wI_X11_smooth : Cond.instanceMethod yX11_smooth ∈ gWs := gWs_t7 (List.mem_of_getElem? (i := 103) rfl) rfl
theorem wV_X11_smooth : Cond.selects RX11 yX11_smooth yX11_smooth ∈ gWs := gWs_t7 (List.mem_of_getElem? (i := 104) rfl) rfl
theorem wC_X11_smooth : Cond.code yX11_smooth cX11_smooth 4 (some .int) ∈ gWs := gWs_t7 (List.mem_of_getElem? (i := 105) rfl) rfl
theorem wM_X11_343 : Cond.methodLink RX11 343 yX11_without ∈ gWs := gWs_t7 (List.mem_of_getElem? (i := 106) rfl) rfl
theorem wI_X11_without : Cond.instanceMethod yX11_without ∈ gWs := gWs_t7 (List.mem_of_getElem? (i := 108) rfl) rfl
theorem wC_X11_without : Cond.code yX11_without cX11_without 8 (some .int) ∈ gWs := gWs_t7 (List.mem_of_getElem? (i := 109) rfl) rfl
theorem wM_L_132 : Cond.methodLink RL 132 yX11_rough ∈ gWs := gWs_t7 (List.mem_of_getElem? (i := 110) rfl) rfl
theorem wI_X11_rough : Cond.instanceMethod yX11_rough ∈ gWs := gWs_t7 (List.mem_of_getElem? (i := 111) rfl) rfl
theorem wV_X11_rough : Cond.selects RX11 yX11_rough yX11_rough ∈ gWs := gWs_t7 (List.mem_of_getElem? (i := 112) rfl) rfl
theorem wC_X11_rough : Cond.code yX11_rough cX11_rough 4 (some .int) ∈ gWs := gWs_t7 (List.mem_of_getElem? (i := 113) rfl) rfl
theorem wM_L_136 : Cond.methodLink RL 136 yX11_first ∈ gWs := gWs_t7 (List.mem_of_getElem? (i := 114) rfl) rfl
theorem wI_X11_first : Cond.instanceMethod yX11_first ∈ gWs := gWs_t7 (List.mem_of_getElem? (i := 115) rfl) rfl
theorem wV_X11_first : Cond.selects RX11 yX11_first yX11_first ∈ gWs := gWs_t7 (List.mem_of_getElem? (i := 116) rfl) rfl
theorem wC_X11_first : Cond.code yX11_first cX11_first 4 (some .int) ∈ gWs := gWs_t7 (List.mem_of_getElem? (i := 117) rfl) rfl
theorem wM_X11_347 : Cond.methodLink RX11 347 yX11_isRest ∈ gWs := gWs_t7 (List.mem_of_getElem? (i := 118) rfl) rfl
theorem wI_X11_isRest : Cond.instanceMethod yX11_isRest ∈ gWs := gWs_t7 (List.mem_of_getElem? (i := 120) rfl) rfl
theorem wC_X11_isRest : Cond.code yX11_isRest cX11_isRest 2 (some .boolean) ∈ gWs := gWs_t7 (List.mem_of_getElem? (i := 121) rfl) rfl
theorem wM_L_140 : Cond.methodLink RL 140 yX11_parts ∈ gWs := gWs_t7 (List.mem_of_getElem? (i := 122) rfl) rfl
theorem wI_X11_parts : Cond.instanceMethod yX11_parts ∈ gWs := gWs_t7 (List.mem_of_getElem? (i := 123) rfl) rfl
theorem wV_X11_parts : Cond.selects RX11 yX11_parts yX11_parts ∈ gWs := gWs_t7 (List.mem_of_getElem? (i := 124) rfl) rfl
theorem wC_X11_parts : Cond.code yX11_parts cX11_parts 4 (some .int) ∈ gWs := gWs_t7 (List.mem_of_getElem? (i := 125) rfl) rfl
theorem wM_X11_350 : Cond.methodLink RX11 350 yX11_isPowerOfPrime ∈ gWs := gWs_t7 (List.mem_of_getElem? (i := 126) rfl) rfl
theorem wI_X11_isPowerOfPrime : Cond.instanceMethod yX11_isPowerOfPrime ∈ gWs := gWs_t7 (List.mem_of_getElem? (i := 128) rfl) rfl
theorem wC_X11_isPowerOfPrime : Cond.code yX11_isPowerOfPrime cX11_isPowerOfPrime 4 (some .boolean) ∈ gWs := gWs_t7 (List.mem_of_getElem? (i := 129) rfl) rfl
theorem wM_L_144 : Cond.methodLink RL 144 yX11_best ∈ gWs := gWs_t7 (List.mem_of_getElem? (i := 130) rfl) rfl
theorem wI_X11_best : Cond.instanceMethod yX11_best ∈ gWs := gWs_t7 (List.mem_of_getElem? (i := 131) rfl) rfl
theorem wV_X11_best : Cond.selects RX11 yX11_best yX11_best ∈ gWs := gWs_t7 (List.mem_of_getElem? (i := 132) rfl) rfl
theorem wC_X11_best : Cond.code yX11_best cX11_best 6 (some .int) ∈ gWs := gWs_t7 (List.mem_of_getElem? (i := 133) rfl) rfl
theorem wM_L_148 : Cond.methodLink RL 148 yX11_howMany ∈ gWs := gWs_t7 (List.mem_of_getElem? (i := 134) rfl) rfl
theorem wI_X11_howMany : Cond.instanceMethod yX11_howMany ∈ gWs := gWs_t7 (List.mem_of_getElem? (i := 135) rfl) rfl
theorem wV_X11_howMany : Cond.selects RX11 yX11_howMany yX11_howMany ∈ gWs := gWs_t7 (List.mem_of_getElem? (i := 136) rfl) rfl
theorem wC_X11_howMany : Cond.code yX11_howMany cX11_howMany 6 (some .int) ∈ gWs := gWs_t7 (List.mem_of_getElem? (i := 137) rfl) rfl
theorem wM_L_156 : Cond.methodLink RL 156 yX11_isWhole ∈ gWs := gWs_t7 (List.mem_of_getElem? (i := 138) rfl) rfl
theorem wI_X11_isWhole : Cond.instanceMethod yX11_isWhole ∈ gWs := gWs_t7 (List.mem_of_getElem? (i := 139) rfl) rfl
theorem wV_X11_isWhole : Cond.selects RX11 yX11_isWhole yX11_isWhole ∈ gWs := gWs_t7 (List.mem_of_getElem? (i := 140) rfl) rfl
theorem wC_X11_isWhole : Cond.code yX11_isWhole cX11_isWhole 4 (some .int) ∈ gWs := gWs_t7 (List.mem_of_getElem? (i := 141) rfl) rfl
theorem wM_L_160 : Cond.methodLink RL 160 yX11_chance ∈ gWs := gWs_t7 (List.mem_of_getElem? (i := 142) rfl) rfl
theorem wI_X11_chance : Cond.instanceMethod yX11_chance ∈ gWs := gWs_t7 (List.mem_of_getElem? (i := 143) rfl) rfl
theorem wV_X11_chance : Cond.selects RX11 yX11_chance yX11_chance ∈ gWs := gWs_t7 (List.mem_of_getElem? (i := 144) rfl) rfl
theorem wC_X11_chance : Cond.code yX11_chance cX11_chance 9 (some .int) ∈ gWs := gWs_t7 (List.mem_of_getElem? (i := 145) rfl) rfl
theorem wK_X11_358 : Cond.constant RX11 358 (32768) ∈ gWs := gWs_t7 (List.mem_of_getElem? (i := 146) rfl) rfl
theorem wM_X11_359 : Cond.methodLink RX11 359 yX11_draw ∈ gWs := gWs_t7 (List.mem_of_getElem? (i := 147) rfl) rfl
theorem wI_X11_draw : Cond.instanceMethod yX11_draw ∈ gWs := gWs_t7 (List.mem_of_getElem? (i := 149) rfl) rfl
theorem wC_X11_draw : Cond.code yX11_draw cX11_draw 2 (some .int) ∈ gWs := gWs_t7 (List.mem_of_getElem? (i := 150) rfl) rfl
theorem wK_X11_356 : Cond.constant RX11 356 (1103515245) ∈ gWs := gWs_t7 (List.mem_of_getElem? (i := 151) rfl) rfl
theorem wK_X11_357 : Cond.constant RX11 357 (2147483647) ∈ gWs := gWs_t7 (List.mem_of_getElem? (i := 152) rfl) rfl
theorem wM_L_176 : Cond.methodLink RL 176 yX11_count ∈ gWs := gWs_t7 (List.mem_of_getElem? (i := 153) rfl) rfl
theorem wI_X11_count : Cond.instanceMethod yX11_count ∈ gWs := gWs_t7 (List.mem_of_getElem? (i := 154) rfl) rfl
theorem wV_X11_count : Cond.selects RX11 yX11_count yX11_count ∈ gWs := gWs_t7 (List.mem_of_getElem? (i := 155) rfl) rfl
theorem wC_X11_count : Cond.code yX11_count cX11_count 2 (some .int) ∈ gWs := gWs_t7 (List.mem_of_getElem? (i := 156) rfl) rfl
theorem wM_X11_362 : Cond.methodLink RX11 362 yX11_ownMany ∈ gWs := gWs_t7 (List.mem_of_getElem? (i := 157) rfl) rfl
theorem wI_X11_ownMany : Cond.instanceMethod yX11_ownMany ∈ gWs := gWs_t7 (List.mem_of_getElem? (i := 159) rfl) rfl
theorem wC_X11_ownMany : Cond.code yX11_ownMany cX11_ownMany 3 (some .int) ∈ gWs := gWs_t7 (List.mem_of_getElem? (i := 160) rfl) rfl
theorem wM_X11_365 : Cond.methodLink RX11 365 yX11_greatestPrime ∈ gWs := gWs_t7 (List.mem_of_getElem? (i := 161) rfl) rfl
theorem wI_X11_greatestPrime : Cond.instanceMethod yX11_greatestPrime ∈ gWs := gWs_t7 (List.mem_of_getElem? (i := 163) rfl) rfl
theorem wC_X11_greatestPrime : Cond.code yX11_greatestPrime cX11_greatestPrime 2 (some .int) ∈ gWs := gWs_t7 (List.mem_of_getElem? (i := 164) rfl) rfl
theorem wF_J0_15 : Cond.fieldLink RJ0 15 "java/lang/String" "coder" "B" ∈ gWs := gWs_t7 (List.mem_of_getElem? (i := 182) rfl) rfl
theorem wF_J0_9 : Cond.fieldLink RJ0 9 "java/lang/String" "value" "[B" ∈ gWs := gWs_t7 (List.mem_of_getElem? (i := 183) rfl) rfl
theorem inX0 : ∀ w ∈ u_ws RX0 TX0 6, w ∈ gWs := List.forall_mem_cons.mpr ⟨gWs_t2 (List.mem_of_getElem? (i := 9) rfl) rfl, List.forall_mem_cons.mpr ⟨gWs_t2 (List.mem_of_getElem? (i := 11) rfl) rfl, List.forall_mem_cons.mpr ⟨gWs_t2 (List.mem_of_getElem? (i := 13) rfl) rfl, List.forall_mem_cons.mpr ⟨gWs_t2 (List.mem_of_getElem? (i := 15) rfl) rfl, List.forall_mem_cons.mpr ⟨gWs_t2 (List.mem_of_getElem? (i := 17) rfl) rfl, List.forall_mem_cons.mpr ⟨gWs_t2 (List.mem_of_getElem? (i := 19) rfl) rfl, fun _ h => absurd h List.not_mem_nil⟩⟩⟩⟩⟩⟩
theorem inX1 : ∀ w ∈ u_ws RX1 TX1 4, w ∈ gWs := List.forall_mem_cons.mpr ⟨gWs_t2 (List.mem_of_getElem? (i := 124) rfl) rfl, List.forall_mem_cons.mpr ⟨gWs_t2 (List.mem_of_getElem? (i := 126) rfl) rfl, List.forall_mem_cons.mpr ⟨gWs_t2 (List.mem_of_getElem? (i := 128) rfl) rfl, List.forall_mem_cons.mpr ⟨gWs_t2 (List.mem_of_getElem? (i := 130) rfl) rfl, fun _ h => absurd h List.not_mem_nil⟩⟩⟩⟩
theorem inX2 : ∀ w ∈ u_ws RX2 TX2 4, w ∈ gWs := List.forall_mem_cons.mpr ⟨gWs_t2 (List.mem_of_getElem? (i := 33) rfl) rfl, List.forall_mem_cons.mpr ⟨gWs_t2 (List.mem_of_getElem? (i := 35) rfl) rfl, List.forall_mem_cons.mpr ⟨gWs_t2 (List.mem_of_getElem? (i := 37) rfl) rfl, List.forall_mem_cons.mpr ⟨gWs_t2 (List.mem_of_getElem? (i := 39) rfl) rfl, fun _ h => absurd h List.not_mem_nil⟩⟩⟩⟩
theorem inX3 : ∀ w ∈ u_ws RX3 TX3 12, w ∈ gWs := List.forall_mem_cons.mpr ⟨gWs_t1 (List.mem_of_getElem? (i := 143) rfl) rfl, List.forall_mem_cons.mpr ⟨gWs_t1 (List.mem_of_getElem? (i := 145) rfl) rfl, List.forall_mem_cons.mpr ⟨gWs_t1 (List.mem_of_getElem? (i := 147) rfl) rfl, List.forall_mem_cons.mpr ⟨gWs_t1 (List.mem_of_getElem? (i := 149) rfl) rfl, List.forall_mem_cons.mpr ⟨gWs_t1 (List.mem_of_getElem? (i := 151) rfl) rfl, List.forall_mem_cons.mpr ⟨gWs_t1 (List.mem_of_getElem? (i := 153) rfl) rfl, List.forall_mem_cons.mpr ⟨gWs_t1 (List.mem_of_getElem? (i := 155) rfl) rfl, List.forall_mem_cons.mpr ⟨gWs_t1 (List.mem_of_getElem? (i := 157) rfl) rfl, List.forall_mem_cons.mpr ⟨gWs_t1 (List.mem_of_getElem? (i := 159) rfl) rfl, List.forall_mem_cons.mpr ⟨gWs_t1 (List.mem_of_getElem? (i := 161) rfl) rfl, List.forall_mem_cons.mpr ⟨gWs_t1 (List.mem_of_getElem? (i := 163) rfl) rfl, List.forall_mem_cons.mpr ⟨gWs_t1 (List.mem_of_getElem? (i := 165) rfl) rfl, fun _ h => absurd h List.not_mem_nil⟩⟩⟩⟩⟩⟩⟩⟩⟩⟩⟩⟩
theorem inX4 : ∀ w ∈ u_ws RX4 TX4 2, w ∈ gWs := List.forall_mem_cons.mpr ⟨gWs_t2 (List.mem_of_getElem? (i := 67) rfl) rfl, List.forall_mem_cons.mpr ⟨gWs_t2 (List.mem_of_getElem? (i := 69) rfl) rfl, fun _ h => absurd h List.not_mem_nil⟩⟩
theorem inX5 : ∀ w ∈ u_ws RX5 TX5 7, w ∈ gWs := List.forall_mem_cons.mpr ⟨gWs_t1 (List.mem_of_getElem? (i := 221) rfl) rfl, List.forall_mem_cons.mpr ⟨gWs_t1 (List.mem_of_getElem? (i := 223) rfl) rfl, List.forall_mem_cons.mpr ⟨gWs_t1 (List.mem_of_getElem? (i := 225) rfl) rfl, List.forall_mem_cons.mpr ⟨gWs_t1 (List.mem_of_getElem? (i := 227) rfl) rfl, List.forall_mem_cons.mpr ⟨gWs_t1 (List.mem_of_getElem? (i := 229) rfl) rfl, List.forall_mem_cons.mpr ⟨gWs_t1 (List.mem_of_getElem? (i := 231) rfl) rfl, List.forall_mem_cons.mpr ⟨gWs_t1 (List.mem_of_getElem? (i := 233) rfl) rfl, fun _ h => absurd h List.not_mem_nil⟩⟩⟩⟩⟩⟩⟩
theorem inX6 : ∀ w ∈ u_ws RX6 TX6 5, w ∈ gWs := List.forall_mem_cons.mpr ⟨gWs_t2 (List.mem_of_getElem? (i := 88) rfl) rfl, List.forall_mem_cons.mpr ⟨gWs_t2 (List.mem_of_getElem? (i := 90) rfl) rfl, List.forall_mem_cons.mpr ⟨gWs_t2 (List.mem_of_getElem? (i := 92) rfl) rfl, List.forall_mem_cons.mpr ⟨gWs_t2 (List.mem_of_getElem? (i := 94) rfl) rfl, List.forall_mem_cons.mpr ⟨gWs_t2 (List.mem_of_getElem? (i := 96) rfl) rfl, fun _ h => absurd h List.not_mem_nil⟩⟩⟩⟩⟩
theorem inX7 : ∀ w ∈ u_ws RX7 TX7 4, w ∈ gWs := List.forall_mem_cons.mpr ⟨gWs_t2 (List.mem_of_getElem? (i := 105) rfl) rfl, List.forall_mem_cons.mpr ⟨gWs_t2 (List.mem_of_getElem? (i := 107) rfl) rfl, List.forall_mem_cons.mpr ⟨gWs_t2 (List.mem_of_getElem? (i := 109) rfl) rfl, List.forall_mem_cons.mpr ⟨gWs_t2 (List.mem_of_getElem? (i := 111) rfl) rfl, fun _ h => absurd h List.not_mem_nil⟩⟩⟩⟩
theorem inX8 : ∀ w ∈ u_ws RX8 TX8 1, w ∈ gWs := List.forall_mem_cons.mpr ⟨gWs_t2 (List.mem_of_getElem? (i := 56) rfl) rfl, fun _ h => absurd h List.not_mem_nil⟩
theorem inX9 : ∀ w ∈ u_ws RX9 TX9 8, w ∈ gWs := List.forall_mem_cons.mpr ⟨gWs_t1 (List.mem_of_getElem? (i := 191) rfl) rfl, List.forall_mem_cons.mpr ⟨gWs_t1 (List.mem_of_getElem? (i := 193) rfl) rfl, List.forall_mem_cons.mpr ⟨gWs_t1 (List.mem_of_getElem? (i := 195) rfl) rfl, List.forall_mem_cons.mpr ⟨gWs_t1 (List.mem_of_getElem? (i := 197) rfl) rfl, List.forall_mem_cons.mpr ⟨gWs_t1 (List.mem_of_getElem? (i := 199) rfl) rfl, List.forall_mem_cons.mpr ⟨gWs_t1 (List.mem_of_getElem? (i := 201) rfl) rfl, List.forall_mem_cons.mpr ⟨gWs_t1 (List.mem_of_getElem? (i := 203) rfl) rfl, List.forall_mem_cons.mpr ⟨gWs_t1 (List.mem_of_getElem? (i := 205) rfl) rfl, fun _ h => absurd h List.not_mem_nil⟩⟩⟩⟩⟩⟩⟩⟩
theorem inX10 : ∀ w ∈ u_ws RX10 TX10 6, w ∈ gWs := List.forall_mem_cons.mpr ⟨gWs_t2 (List.mem_of_getElem? (i := 140) rfl) rfl, List.forall_mem_cons.mpr ⟨gWs_t2 (List.mem_of_getElem? (i := 142) rfl) rfl, List.forall_mem_cons.mpr ⟨gWs_t2 (List.mem_of_getElem? (i := 144) rfl) rfl, List.forall_mem_cons.mpr ⟨gWs_t2 (List.mem_of_getElem? (i := 146) rfl) rfl, List.forall_mem_cons.mpr ⟨gWs_t2 (List.mem_of_getElem? (i := 148) rfl) rfl, List.forall_mem_cons.mpr ⟨gWs_t2 (List.mem_of_getElem? (i := 150) rfl) rfl, fun _ h => absurd h List.not_mem_nil⟩⟩⟩⟩⟩⟩
theorem inX11 : ∀ w ∈ u_ws RX11 TX11 40, w ∈ gWs := List.forall_mem_cons.mpr ⟨gWs_t5 (List.mem_of_getElem? (i := 191) rfl) rfl, List.forall_mem_cons.mpr ⟨gWs_t5 (List.mem_of_getElem? (i := 193) rfl) rfl, List.forall_mem_cons.mpr ⟨gWs_t5 (List.mem_of_getElem? (i := 195) rfl) rfl, List.forall_mem_cons.mpr ⟨gWs_t5 (List.mem_of_getElem? (i := 197) rfl) rfl, List.forall_mem_cons.mpr ⟨gWs_t5 (List.mem_of_getElem? (i := 199) rfl) rfl, List.forall_mem_cons.mpr ⟨gWs_t5 (List.mem_of_getElem? (i := 201) rfl) rfl, List.forall_mem_cons.mpr ⟨gWs_t5 (List.mem_of_getElem? (i := 203) rfl) rfl, List.forall_mem_cons.mpr ⟨gWs_t5 (List.mem_of_getElem? (i := 205) rfl) rfl, List.forall_mem_cons.mpr ⟨gWs_t5 (List.mem_of_getElem? (i := 207) rfl) rfl, List.forall_mem_cons.mpr ⟨gWs_t5 (List.mem_of_getElem? (i := 209) rfl) rfl, List.forall_mem_cons.mpr ⟨gWs_t5 (List.mem_of_getElem? (i := 211) rfl) rfl, List.forall_mem_cons.mpr ⟨gWs_t5 (List.mem_of_getElem? (i := 213) rfl) rfl, List.forall_mem_cons.mpr ⟨gWs_t5 (List.mem_of_getElem? (i := 215) rfl) rfl, List.forall_mem_cons.mpr ⟨gWs_t5 (List.mem_of_getElem? (i := 217) rfl) rfl, List.forall_mem_cons.mpr ⟨gWs_t5 (List.mem_of_getElem? (i := 219) rfl) rfl, List.forall_mem_cons.mpr ⟨gWs_t5 (List.mem_of_getElem? (i := 221) rfl) rfl, List.forall_mem_cons.mpr ⟨gWs_t5 (List.mem_of_getElem? (i := 223) rfl) rfl, List.forall_mem_cons.mpr ⟨gWs_t5 (List.mem_of_getElem? (i := 225) rfl) rfl, List.forall_mem_cons.mpr ⟨gWs_t5 (List.mem_of_getElem? (i := 227) rfl) rfl, List.forall_mem_cons.mpr ⟨gWs_t5 (List.mem_of_getElem? (i := 229) rfl) rfl, List.forall_mem_cons.mpr ⟨gWs_t5 (List.mem_of_getElem? (i := 231) rfl) rfl, List.forall_mem_cons.mpr ⟨gWs_t5 (List.mem_of_getElem? (i := 233) rfl) rfl, List.forall_mem_cons.mpr ⟨gWs_t5 (List.mem_of_getElem? (i := 235) rfl) rfl, List.forall_mem_cons.mpr ⟨gWs_t5 (List.mem_of_getElem? (i := 237) rfl) rfl, List.forall_mem_cons.mpr ⟨gWs_t5 (List.mem_of_getElem? (i := 239) rfl) rfl, List.forall_mem_cons.mpr ⟨gWs_t6 (List.mem_of_getElem? (i := 1) rfl) rfl, List.forall_mem_cons.mpr ⟨gWs_t6 (List.mem_of_getElem? (i := 3) rfl) rfl, List.forall_mem_cons.mpr ⟨gWs_t6 (List.mem_of_getElem? (i := 5) rfl) rfl, List.forall_mem_cons.mpr ⟨gWs_t6 (List.mem_of_getElem? (i := 7) rfl) rfl, List.forall_mem_cons.mpr ⟨gWs_t6 (List.mem_of_getElem? (i := 9) rfl) rfl, List.forall_mem_cons.mpr ⟨gWs_t6 (List.mem_of_getElem? (i := 11) rfl) rfl, List.forall_mem_cons.mpr ⟨gWs_t6 (List.mem_of_getElem? (i := 13) rfl) rfl, List.forall_mem_cons.mpr ⟨gWs_t6 (List.mem_of_getElem? (i := 15) rfl) rfl, List.forall_mem_cons.mpr ⟨gWs_t6 (List.mem_of_getElem? (i := 17) rfl) rfl, List.forall_mem_cons.mpr ⟨gWs_t6 (List.mem_of_getElem? (i := 19) rfl) rfl, List.forall_mem_cons.mpr ⟨gWs_t6 (List.mem_of_getElem? (i := 21) rfl) rfl, List.forall_mem_cons.mpr ⟨gWs_t6 (List.mem_of_getElem? (i := 23) rfl) rfl, List.forall_mem_cons.mpr ⟨gWs_t6 (List.mem_of_getElem? (i := 25) rfl) rfl, List.forall_mem_cons.mpr ⟨gWs_t6 (List.mem_of_getElem? (i := 27) rfl) rfl, List.forall_mem_cons.mpr ⟨gWs_t6 (List.mem_of_getElem? (i := 29) rfl) rfl, fun _ h => absurd h List.not_mem_nil⟩⟩⟩⟩⟩⟩⟩⟩⟩⟩⟩⟩⟩⟩⟩⟩⟩⟩⟩⟩⟩⟩⟩⟩⟩⟩⟩⟩⟩⟩⟩⟩⟩⟩⟩⟩⟩⟩⟩⟩
def gIsN (w : Cond) : Bool := match w with
  | .fieldLinkNest .. => true
  | .methodLinkNest .. => true
  | .declares _ => true
  | .castable .. => true
  | _ => false
def gN : List Cond := lw_tbl.filter gIsN
theorem gN_t1 {w : Cond} (h : w ∈ tables_1_1) (hg : gIsN w = true) : w ∈ gN := List.mem_filter.mpr ⟨List.mem_append_right _ (List.mem_append_left _ h), hg⟩
theorem gN_t2 {w : Cond} (h : w ∈ tables_1_2) (hg : gIsN w = true) : w ∈ gN := List.mem_filter.mpr ⟨List.mem_append_right _ (List.mem_append_right _ (List.mem_append_left _ h)), hg⟩
theorem gN_t3 {w : Cond} (h : w ∈ tables_1_3) (hg : gIsN w = true) : w ∈ gN := List.mem_filter.mpr ⟨List.mem_append_right _ (List.mem_append_right _ (List.mem_append_right _ (List.mem_append_left _ h))), hg⟩
theorem gN_t4 {w : Cond} (h : w ∈ tables_1_4) (hg : gIsN w = true) : w ∈ gN := List.mem_filter.mpr ⟨List.mem_append_right _ (List.mem_append_right _ (List.mem_append_right _ (List.mem_append_right _ (List.mem_append_left _ h)))), hg⟩
theorem gN_t5 {w : Cond} (h : w ∈ tables_1_5) (hg : gIsN w = true) : w ∈ gN := List.mem_filter.mpr ⟨List.mem_append_right _ (List.mem_append_right _ (List.mem_append_right _ (List.mem_append_right _ (List.mem_append_right _ (List.mem_append_left _ h))))), hg⟩
theorem gN_t6 {w : Cond} (h : w ∈ tables_1_6) (hg : gIsN w = true) : w ∈ gN := List.mem_filter.mpr ⟨List.mem_append_right _ (List.mem_append_right _ (List.mem_append_right _ (List.mem_append_right _ (List.mem_append_right _ (List.mem_append_right _ (List.mem_append_left _ h)))))), hg⟩
theorem gN_t7 {w : Cond} (h : w ∈ tables_1_7) (hg : gIsN w = true) : w ∈ gN := List.mem_filter.mpr ⟨List.mem_append_right _ (List.mem_append_right _ (List.mem_append_right _ (List.mem_append_right _ (List.mem_append_right _ (List.mem_append_right _ (List.mem_append_right _ h)))))), hg⟩
theorem wNF_X3_67 : Cond.fieldLinkNest RX3 67 "QuotientSums" "KNOWN_DEGREES" "[I" RX10 ∈ gN := gN_t1 (List.mem_of_getElem? (i := 103) rfl) rfl
theorem wNM_X10_18 : Cond.methodLinkNest RX10 18 yX5_init RX10 ∈ gN := gN_t1 (List.mem_of_getElem? (i := 172) rfl) rfl
theorem wNM_X5_11 : Cond.methodLinkNest RX5 11 yX9_init RX10 ∈ gN := gN_t1 (List.mem_of_getElem? (i := 178) rfl) rfl
theorem wNM_X10_25 : Cond.methodLinkNest RX10 25 yX0_init RX10 ∈ gN := gN_t1 (List.mem_of_getElem? (i := 238) rfl) rfl
theorem wNM_X10_32 : Cond.methodLinkNest RX10 32 yX2_init RX10 ∈ gN := gN_t2 (List.mem_of_getElem? (i := 24) rfl) rfl
theorem wNM_X7_11 : Cond.methodLinkNest RX7 11 yX8_init RX10 ∈ gN := gN_t2 (List.mem_of_getElem? (i := 50) rfl) rfl
theorem wNM_X7_31 : Cond.methodLinkNest RX7 31 yX6_init RX10 ∈ gN := gN_t2 (List.mem_of_getElem? (i := 75) rfl) rfl
theorem wNM_X10_46 : Cond.methodLinkNest RX10 46 yX1_init RX10 ∈ gN := gN_t2 (List.mem_of_getElem? (i := 116) rfl) rfl
theorem wNM_X5_69 : Cond.methodLinkNest RX5 69 yX10_isTellable RX10 ∈ gN := gN_t3 (List.mem_of_getElem? (i := 59) rfl) rfl
theorem wNM_X4_74 : Cond.methodLinkNest RX4 74 yX10_isOwnPower RX10 ∈ gN := gN_t3 (List.mem_of_getElem? (i := 171) rfl) rfl
theorem wNM_X8_16 : Cond.methodLinkNest RX8 16 yX10_grown RX10 ∈ gN := gN_t3 (List.mem_of_getElem? (i := 216) rfl) rfl
theorem wNM_X6_26 : Cond.methodLinkNest RX6 26 yX10_grown RX10 ∈ gN := gN_t4 (List.mem_of_getElem? (i := 6) rfl) rfl
theorem wNM_X1_23 : Cond.methodLinkNest RX1 23 yX10_rootOf RX10 ∈ gN := gN_t4 (List.mem_of_getElem? (i := 91) rfl) rfl
theorem wNM_X1_34 : Cond.methodLinkNest RX1 34 yX10_divided RX10 ∈ gN := gN_t4 (List.mem_of_getElem? (i := 96) rfl) rfl
