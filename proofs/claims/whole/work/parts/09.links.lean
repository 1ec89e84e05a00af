theorem p_t1 {w : Cond} {i : Nat} (h : tables_1_1[i]? = some w) (g : goodWord w = true) : w ∈ p_tbl := p_mem (List.mem_append_right _ (List.mem_append_left _ (List.mem_of_getElem? h))) g
theorem p_t2 {w : Cond} {i : Nat} (h : tables_1_2[i]? = some w) (g : goodWord w = true) : w ∈ p_tbl := p_mem (List.mem_append_right _ (List.mem_append_right _ (List.mem_append_left _ (List.mem_of_getElem? h)))) g
theorem p_t3 {w : Cond} {i : Nat} (h : tables_1_3[i]? = some w) (g : goodWord w = true) : w ∈ p_tbl := p_mem (List.mem_append_right _ (List.mem_append_right _ (List.mem_append_right _ (List.mem_append_left _ (List.mem_of_getElem? h))))) g
theorem p_t4 {w : Cond} {i : Nat} (h : tables_1_4[i]? = some w) (g : goodWord w = true) : w ∈ p_tbl := p_mem (List.mem_append_right _ (List.mem_append_right _ (List.mem_append_right _ (List.mem_append_right _ (List.mem_append_left _ (List.mem_of_getElem? h)))))) g
theorem p_t5 {w : Cond} {i : Nat} (h : tables_1_5[i]? = some w) (g : goodWord w = true) : w ∈ p_tbl := p_mem (List.mem_append_right _ (List.mem_append_right _ (List.mem_append_right _ (List.mem_append_right _ (List.mem_append_right _ (List.mem_append_left _ (List.mem_of_getElem? h))))))) g
theorem p_t6 {w : Cond} {i : Nat} (h : tables_1_6[i]? = some w) (g : goodWord w = true) : w ∈ p_tbl := p_mem (List.mem_append_right _ (List.mem_append_right _ (List.mem_append_right _ (List.mem_append_right _ (List.mem_append_right _ (List.mem_append_right _ (List.mem_append_left _ (List.mem_of_getElem? h)))))))) g
theorem p_t7 {w : Cond} {i : Nat} (h : tables_1_7[i]? = some w) (g : goodWord w = true) : w ∈ p_tbl := p_mem (List.mem_append_right _ (List.mem_append_right _ (List.mem_append_right _ (List.mem_append_right _ (List.mem_append_right _ (List.mem_append_right _ (List.mem_append_right _ (List.mem_append_left _ (List.mem_of_getElem? h))))))))) g
theorem p_t8 {w : Cond} {i : Nat} (h : tables_1_8[i]? = some w) (g : goodWord w = true) : w ∈ p_tbl := p_mem (List.mem_append_right _ (List.mem_append_right _ (List.mem_append_right _ (List.mem_append_right _ (List.mem_append_right _ (List.mem_append_right _ (List.mem_append_right _ (List.mem_append_right _ (List.mem_of_getElem? h))))))))) g
def mX11_init : pM := (yX11_init, cX11_init, 1, none)
theorem mk_X11_init : p_MK mX11_init 0 := ⟨p_t1 (i := 25) rfl rfl, p_t1 (i := 1) rfl rfl, by decide, by decide, by decide +kernel⟩
theorem mi_X11_init : Cond.instanceMethod mX11_init.1 ∈ p_tbl := p_t1 (i := 24) rfl rfl
def mX7_init : pM := (yX7_init, cX7_init, 2, none)
theorem mk_X7_init : p_MK mX7_init 0 := ⟨p_t1 (i := 33) rfl rfl, p_t1 (i := 2) rfl rfl, by decide, by decide, by decide +kernel⟩
theorem mi_X7_init : Cond.instanceMethod mX7_init.1 ∈ p_tbl := p_t1 (i := 32) rfl rfl
def mX8_init : pM := (yX8_init, cX8_init, 3, none)
theorem mk_X8_init : p_MK mX8_init 2 := ⟨p_t1 (i := 39) rfl rfl, p_t1 (i := 3) rfl rfl, by decide, by decide, by decide +kernel⟩
theorem mi_X8_init : Cond.instanceMethod mX8_init.1 ∈ p_tbl := p_t1 (i := 38) rfl rfl
def mJ9_max_7cf53 : pM := (yJ9_max_7cf53, cJ9_max_7cf53, 2, (some .int))
theorem mk_J9_max_7cf53 : p_MK mJ9_max_7cf53 2 := ⟨p_t1 (i := 43) rfl rfl, p_t1 (i := 4) rfl rfl, by decide, by decide, by decide +kernel⟩
theorem mz_J9_max_7cf53 : Cond.static mJ9_max_7cf53.1 ∈ p_tbl := p_t1 (i := 42) rfl rfl
def mX8_add : pM := (yX8_add, cX8_add, 1, (some .boolean))
theorem mk_X8_add : p_MK mX8_add 0 := ⟨p_t1 (i := 63) rfl rfl, p_t1 (i := 3) rfl rfl, by decide, by decide, by decide +kernel⟩
theorem mv_X8_add : p_MV mX8_add := ⟨p_t1 (i := 61) rfl rfl, p_t1 (i := 62) rfl rfl⟩
def mX8_put : pM := (yX8_put, cX8_put, 4, none)
theorem mk_X8_put : p_MK mX8_put 3 := ⟨p_t1 (i := 67) rfl rfl, p_t1 (i := 3) rfl rfl, by decide, by decide, by decide +kernel⟩
theorem mv_X8_put : p_MV mX8_put := ⟨p_t1 (i := 65) rfl rfl, p_t1 (i := 66) rfl rfl⟩
def mX2_init : pM := (yX2_init, cX2_init, 3, none)
theorem mk_X2_init : p_MK mX2_init 0 := ⟨p_t1 (i := 147) rfl rfl, p_t1 (i := 5) rfl rfl, by decide, by decide, by decide +kernel⟩
theorem mi_X2_init : Cond.instanceMethod mX2_init.1 ∈ p_tbl := p_t1 (i := 146) rfl rfl
def mX6_init : pM := (yX6_init, cX6_init, 1, none)
theorem mk_X6_init : p_MK mX6_init 0 := ⟨p_t1 (i := 153) rfl rfl, p_t1 (i := 6) rfl rfl, by decide, by decide, by decide +kernel⟩
theorem mi_X6_init : Cond.instanceMethod mX6_init.1 ∈ p_tbl := p_t1 (i := 152) rfl rfl
def mX0_init : pM := (yX0_init, cX0_init, 3, none)
theorem mk_X0_init : p_MK mX0_init 2 := ⟨p_t1 (i := 174) rfl rfl, p_t1 (i := 7) rfl rfl, by decide, by decide, by decide +kernel⟩
theorem mi_X0_init : Cond.instanceMethod mX0_init.1 ∈ p_tbl := p_t1 (i := 173) rfl rfl
def mX3_init : pM := (yX3_init, cX3_init, 3, none)
theorem mk_X3_init : p_MK mX3_init 2 := ⟨p_t2 (i := 18) rfl rfl, p_t1 (i := 8) rfl rfl, by decide, by decide, by decide +kernel⟩
theorem mi_X3_init : Cond.instanceMethod mX3_init.1 ∈ p_tbl := p_t2 (i := 17) rfl rfl
def mX5_init : pM := (yX5_init, cX5_init, 3, none)
theorem mk_X5_init : p_MK mX5_init 2 := ⟨p_t2 (i := 49) rfl rfl, p_t1 (i := 9) rfl rfl, by decide, by decide, by decide +kernel⟩
theorem mi_X5_init : Cond.instanceMethod mX5_init.1 ∈ p_tbl := p_t2 (i := 48) rfl rfl
def mX1_init : pM := (yX1_init, cX1_init, 3, none)
theorem mk_X1_init : p_MK mX1_init 2 := ⟨p_t2 (i := 87) rfl rfl, p_t1 (i := 10) rfl rfl, by decide, by decide, by decide +kernel⟩
theorem mi_X1_init : Cond.instanceMethod mX1_init.1 ∈ p_tbl := p_t2 (i := 86) rfl rfl
def mX10_init : pM := (yX10_init, cX10_init, 1, none)
theorem mk_X10_init : p_MK mX10_init 0 := ⟨p_t2 (i := 111) rfl rfl, p_t1 (i := 11) rfl rfl, by decide, by decide, by decide +kernel⟩
theorem mi_X10_init : Cond.instanceMethod mX10_init.1 ∈ p_tbl := p_t2 (i := 110) rfl rfl
def mX9_init : pM := (yX9_init, cX9_init, 2, none)
theorem mk_X9_init : p_MK mX9_init 1 := ⟨p_t2 (i := 119) rfl rfl, p_t1 (i := 12) rfl rfl, by decide, by decide, by decide +kernel⟩
theorem mi_X9_init : Cond.instanceMethod mX9_init.1 ∈ p_tbl := p_t2 (i := 118) rfl rfl
def mX4_init : pM := (yX4_init, cX4_init, 1, none)
theorem mk_X4_init : p_MK mX4_init 0 := ⟨p_t2 (i := 154) rfl rfl, p_t1 (i := 13) rfl rfl, by decide, by decide, by decide +kernel⟩
theorem mi_X4_init : Cond.instanceMethod mX4_init.1 ∈ p_tbl := p_t2 (i := 153) rfl rfl
def mX11_feed : pM := (yX11_feed, cX11_feed, 6, (some .int))
theorem mk_X11_feed : p_MK mX11_feed 5 := ⟨p_t2 (i := 195) rfl rfl, p_t1 (i := 1) rfl rfl, by decide, by decide, by decide +kernel⟩
theorem mv_X11_feed : p_MV mX11_feed := ⟨p_t2 (i := 193) rfl rfl, p_t2 (i := 194) rfl rfl⟩
def mX8_size : pM := (yX8_size, cX8_size, 1, (some .int))
theorem mk_X8_size : p_MK mX8_size 0 := ⟨p_t2 (i := 199) rfl rfl, p_t1 (i := 3) rfl rfl, by decide, by decide, by decide +kernel⟩
theorem mv_X8_size : p_MV mX8_size := ⟨p_t2 (i := 197) rfl rfl, p_t2 (i := 198) rfl rfl⟩
def mX11_feedOne : pM := (yX11_feedOne, cX11_feedOne, 4, none)
theorem mk_X11_feedOne : p_MK mX11_feedOne 1 := ⟨p_t2 (i := 203) rfl rfl, p_t1 (i := 1) rfl rfl, by decide, by decide, by decide +kernel⟩
theorem mv_X11_feedOne : p_MV mX11_feedOne := ⟨p_t2 (i := 202) rfl rfl, p_mem (List.mem_append_left _ (by decide +kernel)) rfl⟩
def mX11_end : pM := (yX11_end, cX11_end, 2, (some .int))
theorem mk_X11_end : p_MK mX11_end 1 := ⟨p_t2 (i := 209) rfl rfl, p_t1 (i := 1) rfl rfl, by decide, by decide, by decide +kernel⟩
theorem mv_X11_end : p_MV mX11_end := ⟨p_t2 (i := 207) rfl rfl, p_t2 (i := 208) rfl rfl⟩
def mX8_cut : pM := (yX8_cut, cX8_cut, 2, none)
theorem mk_X8_cut : p_MK mX8_cut 1 := ⟨p_t2 (i := 213) rfl rfl, p_t1 (i := 3) rfl rfl, by decide, by decide, by decide +kernel⟩
theorem mv_X8_cut : p_MV mX8_cut := ⟨p_t2 (i := 211) rfl rfl, p_t2 (i := 212) rfl rfl⟩
def mX11_town : pM := (yX11_town, cX11_town, 2, (some .int))
theorem mk_X11_town : p_MK mX11_town 0 := ⟨p_t2 (i := 217) rfl rfl, p_t1 (i := 1) rfl rfl, by decide, by decide, by decide +kernel⟩
theorem mv_X11_town : p_MV mX11_town := ⟨p_t2 (i := 215) rfl rfl, p_t2 (i := 216) rfl rfl⟩
def mX10_read : pM := (yX10_read, cX10_read, 7, (some .int))
theorem mk_X10_read : p_MK mX10_read 1 := ⟨p_t2 (i := 221) rfl rfl, p_t1 (i := 11) rfl rfl, by decide, by decide, by decide +kernel⟩
theorem mv_X10_read : p_MV mX10_read := ⟨p_t2 (i := 219) rfl rfl, p_t2 (i := 220) rfl rfl⟩
def mX9_open : pM := (yX9_open, cX9_open, 2, none)
theorem mk_X9_open : p_MK mX9_open 1 := ⟨p_t2 (i := 226) rfl rfl, p_t1 (i := 12) rfl rfl, by decide, by decide, by decide +kernel⟩
theorem mv_X9_open : p_MV mX9_open := ⟨p_t2 (i := 224) rfl rfl, p_t2 (i := 225) rfl rfl⟩
def mX9_advance : pM := (yX9_advance, cX9_advance, 1, none)
theorem mk_X9_advance : p_MK mX9_advance 0 := ⟨p_t2 (i := 230) rfl rfl, p_t1 (i := 12) rfl rfl, by decide, by decide, by decide +kernel⟩
theorem mv_X9_advance : p_MV mX9_advance := ⟨p_t2 (i := 228) rfl rfl, p_t2 (i := 229) rfl rfl⟩
def mX8_get : pM := (yX8_get, cX8_get, 3, (some .int))
theorem mk_X8_get : p_MK mX8_get 2 := ⟨p_t2 (i := 235) rfl rfl, p_t1 (i := 3) rfl rfl, by decide, by decide, by decide +kernel⟩
theorem mv_X8_get : p_MV mX8_get := ⟨p_t2 (i := 233) rfl rfl, p_t2 (i := 234) rfl rfl⟩
def mX9_isBlank : pM := (yX9_isBlank, cX9_isBlank, 1, (some .boolean))
theorem mk_X9_isBlank : p_MK mX9_isBlank 1 := ⟨p_t2 (i := 238) rfl rfl, p_t1 (i := 12) rfl rfl, by decide, by decide, by decide +kernel⟩
theorem mz_X9_isBlank : Cond.static mX9_isBlank.1 ∈ p_tbl := p_t2 (i := 237) rfl rfl
def mX9_sortOf : pM := (yX9_sortOf, cX9_sortOf, 1, (some .int))
theorem mk_X9_sortOf : p_MK mX9_sortOf 1 := ⟨p_t3 (i := 1) rfl rfl, p_t1 (i := 12) rfl rfl, by decide, by decide, by decide +kernel⟩
theorem mz_X9_sortOf : Cond.static mX9_sortOf.1 ∈ p_tbl := p_t3 (i := 0) rfl rfl
def mX9_goOn : pM := (yX9_goOn, cX9_goOn, 1, (some .boolean))
theorem mk_X9_goOn : p_MK mX9_goOn 0 := ⟨p_t3 (i := 5) rfl rfl, p_t1 (i := 12) rfl rfl, by decide, by decide, by decide +kernel⟩
theorem mv_X9_goOn : p_MV mX9_goOn := ⟨p_t3 (i := 3) rfl rfl, p_t3 (i := 4) rfl rfl⟩
def mX10_readLine : pM := (yX10_readLine, cX10_readLine, 5, none)
theorem mk_X10_readLine : p_MK mX10_readLine 1 := ⟨p_t3 (i := 9) rfl rfl, p_t1 (i := 11) rfl rfl, by decide, by decide, by decide +kernel⟩
theorem mv_X10_readLine : p_MV mX10_readLine := ⟨p_t3 (i := 8) rfl rfl, p_mem (List.mem_append_left _ (by decide +kernel)) rfl⟩
def mX10_sortHere : pM := (yX10_sortHere, cX10_sortHere, 1, (some .int))
theorem mk_X10_sortHere : p_MK mX10_sortHere 0 := ⟨p_t3 (i := 13) rfl rfl, p_t1 (i := 11) rfl rfl, by decide, by decide, by decide +kernel⟩
theorem mv_X10_sortHere : p_MV mX10_sortHere := ⟨p_t3 (i := 12) rfl rfl, p_mem (List.mem_append_left _ (by decide +kernel)) rfl⟩
def mX9_isWord : pM := (yX9_isWord, cX9_isWord, 3, (some .boolean))
theorem mk_X9_isWord : p_MK mX9_isWord 1 := ⟨p_t3 (i := 18) rfl rfl, p_t1 (i := 12) rfl rfl, by decide, by decide, by decide +kernel⟩
theorem mv_X9_isWord : p_MV mX9_isWord := ⟨p_t3 (i := 16) rfl rfl, p_t3 (i := 17) rfl rfl⟩
def mJ0_length_8abf5 : pM := (yJ0_length_8abf5, cJ0_length_8abf5, 1, (some .int))
theorem mk_J0_length_8abf5 : p_MK mJ0_length_8abf5 0 := ⟨p_t3 (i := 22) rfl rfl, p_t1 (i := 15) rfl rfl, by decide, by decide, by decide +kernel⟩
theorem mv_J0_length_8abf5 : p_MV mJ0_length_8abf5 := ⟨p_t3 (i := 20) rfl rfl, p_t3 (i := 21) rfl rfl⟩
def mJ0_coder_7d493 : pM := (yJ0_coder_7d493, cJ0_coder_7d493, 1, (some .byte))
theorem mk_J0_coder_7d493 : p_MK mJ0_coder_7d493 0 := ⟨p_t3 (i := 26) rfl rfl, p_t1 (i := 15) rfl rfl, by decide, by decide, by decide +kernel⟩
theorem mv_J0_coder_7d493 : p_MV mJ0_coder_7d493 := ⟨p_t3 (i := 24) rfl rfl, p_t3 (i := 25) rfl rfl⟩
def mJ0_charAt_5068e : pM := (yJ0_charAt_5068e, cJ0_charAt_5068e, 2, (some .char))
theorem mk_J0_charAt_5068e : p_MK mJ0_charAt_5068e 1 := ⟨p_t3 (i := 32) rfl rfl, p_t1 (i := 15) rfl rfl, by decide, by decide, by decide +kernel⟩
theorem mv_J0_charAt_5068e : p_MV mJ0_charAt_5068e := ⟨p_t3 (i := 30) rfl rfl, p_t3 (i := 31) rfl rfl⟩
def mJ0_isLatin1_aae02 : pM := (yJ0_isLatin1_aae02, cJ0_isLatin1_aae02, 1, (some .boolean))
theorem mk_J0_isLatin1_aae02 : p_MK mJ0_isLatin1_aae02 0 := ⟨p_t3 (i := 36) rfl rfl, p_t1 (i := 15) rfl rfl, by decide, by decide, by decide +kernel⟩
theorem mv_J0_isLatin1_aae02 : p_MV mJ0_isLatin1_aae02 := ⟨p_t3 (i := 34) rfl rfl, p_t3 (i := 35) rfl rfl⟩
def mJ1_charAt_3b067 : pM := (yJ1_charAt_3b067, cJ1_charAt_3b067, 2, (some .char))
theorem mk_J1_charAt_3b067 : p_MK mJ1_charAt_3b067 2 := ⟨p_t3 (i := 39) rfl rfl, p_t1 (i := 16) rfl rfl, by decide, by decide, by decide +kernel⟩
theorem mz_J1_charAt_3b067 : Cond.static mJ1_charAt_3b067.1 ∈ p_tbl := p_t3 (i := 38) rfl rfl
def mJ0_checkIndex_df160 : pM := (yJ0_checkIndex_df160, cJ0_checkIndex_df160, 2, none)
theorem mk_J0_checkIndex_df160 : p_MK mJ0_checkIndex_df160 2 := ⟨p_t3 (i := 42) rfl rfl, p_t1 (i := 15) rfl rfl, by decide, by decide, by decide +kernel⟩
theorem mz_J0_checkIndex_df160 : Cond.static mJ0_checkIndex_df160.1 ∈ p_tbl := p_t3 (i := 41) rfl rfl
def mJ3_checkIndex_8e157 : pM := (yJ3_checkIndex_8e157, cJ3_checkIndex_8e157, 3, (some .int))
theorem mk_J3_checkIndex_8e157 : p_MK mJ3_checkIndex_8e157 3 := ⟨p_t3 (i := 47) rfl rfl, p_t1 (i := 17) rfl rfl, by decide, by decide, by decide +kernel⟩
theorem mz_J3_checkIndex_8e157 : Cond.static mJ3_checkIndex_8e157.1 ∈ p_tbl := p_t3 (i := 46) rfl rfl
def mJ2_charAt_3b067 : pM := (yJ2_charAt_3b067, cJ2_charAt_3b067, 2, (some .char))
theorem mk_J2_charAt_3b067 : p_MK mJ2_charAt_3b067 2 := ⟨p_t3 (i := 50) rfl rfl, p_t1 (i := 18) rfl rfl, by decide, by decide, by decide +kernel⟩
theorem mz_J2_charAt_3b067 : Cond.static mJ2_charAt_3b067.1 ∈ p_tbl := p_t3 (i := 49) rfl rfl
def mJ2_checkIndex_2214a : pM := (yJ2_checkIndex_2214a, cJ2_checkIndex_2214a, 2, none)
theorem mk_J2_checkIndex_2214a : p_MK mJ2_checkIndex_2214a 2 := ⟨p_t3 (i := 53) rfl rfl, p_t1 (i := 18) rfl rfl, by decide, by decide, by decide +kernel⟩
theorem mz_J2_checkIndex_2214a : Cond.static mJ2_checkIndex_2214a.1 ∈ p_tbl := p_t3 (i := 52) rfl rfl
def mJ2_length_9d52b : pM := (yJ2_length_9d52b, cJ2_length_9d52b, 1, (some .int))
theorem mk_J2_length_9d52b : p_MK mJ2_length_9d52b 1 := ⟨p_t3 (i := 56) rfl rfl, p_t1 (i := 18) rfl rfl, by decide, by decide, by decide +kernel⟩
theorem mz_J2_length_9d52b : Cond.static mJ2_length_9d52b.1 ∈ p_tbl := p_t3 (i := 55) rfl rfl
def mJ2_getChar_3b067 : pM := (yJ2_getChar_3b067, cJ2_getChar_3b067, 2, (some .char))
theorem mk_J2_getChar_3b067 : p_MK mJ2_getChar_3b067 2 := ⟨p_t3 (i := 60) rfl rfl, p_t1 (i := 18) rfl rfl, by decide, by decide, by decide +kernel⟩
theorem mz_J2_getChar_3b067 : Cond.static mJ2_getChar_3b067.1 ∈ p_tbl := p_t3 (i := 59) rfl rfl
def mX9_from : pM := (yX9_from, cX9_from, 1, (some .int))
theorem mk_X9_from : p_MK mX9_from 0 := ⟨p_t3 (i := 73) rfl rfl, p_t1 (i := 12) rfl rfl, by decide, by decide, by decide +kernel⟩
theorem mv_X9_from : p_MV mX9_from := ⟨p_t3 (i := 71) rfl rfl, p_t3 (i := 72) rfl rfl⟩
def mX9_pass : pM := (yX9_pass, cX9_pass, 2, (some .boolean))
theorem mk_X9_pass : p_MK mX9_pass 1 := ⟨p_t3 (i := 77) rfl rfl, p_t1 (i := 12) rfl rfl, by decide, by decide, by decide +kernel⟩
theorem mv_X9_pass : p_MV mX9_pass := ⟨p_t3 (i := 75) rfl rfl, p_t3 (i := 76) rfl rfl⟩
def mX9_note : pM := (yX9_note, cX9_note, 3, none)
theorem mk_X9_note : p_MK mX9_note 2 := ⟨p_t3 (i := 81) rfl rfl, p_t1 (i := 12) rfl rfl, by decide, by decide, by decide +kernel⟩
theorem mv_X9_note : p_MV mX9_note := ⟨p_t3 (i := 79) rfl rfl, p_t3 (i := 80) rfl rfl⟩
def mX10_numbersOf : pM := (yX10_numbersOf, cX10_numbersOf, 1, (some .int))
theorem mk_X10_numbersOf : p_MK mX10_numbersOf 1 := ⟨p_t3 (i := 84) rfl rfl, p_t1 (i := 11) rfl rfl, by decide, by decide, by decide +kernel⟩
theorem mz_X10_numbersOf : Cond.static mX10_numbersOf.1 ∈ p_tbl := p_t3 (i := 83) rfl rfl
def mX9_number : pM := (yX9_number, cX9_number, 3, (some .int))
theorem mk_X9_number : p_MK mX9_number 0 := ⟨p_t3 (i := 88) rfl rfl, p_t1 (i := 12) rfl rfl, by decide, by decide, by decide +kernel⟩
theorem mv_X9_number : p_MV mX9_number := ⟨p_t3 (i := 86) rfl rfl, p_t3 (i := 87) rfl rfl⟩
def mX9_isNumber : pM := (yX9_isNumber, cX9_isNumber, 1, (some .boolean))
theorem mk_X9_isNumber : p_MK mX9_isNumber 0 := ⟨p_t3 (i := 92) rfl rfl, p_t1 (i := 12) rfl rfl, by decide, by decide, by decide +kernel⟩
theorem mv_X9_isNumber : p_MV mX9_isNumber := ⟨p_t3 (i := 90) rfl rfl, p_t3 (i := 91) rfl rfl⟩
def mX9_sign : pM := (yX9_sign, cX9_sign, 1, (some .int))
theorem mk_X9_sign : p_MK mX9_sign 0 := ⟨p_t3 (i := 96) rfl rfl, p_t1 (i := 12) rfl rfl, by decide, by decide, by decide +kernel⟩
theorem mv_X9_sign : p_MV mX9_sign := ⟨p_t3 (i := 94) rfl rfl, p_t3 (i := 95) rfl rfl⟩
def mX9_isClean : pM := (yX9_isClean, cX9_isClean, 1, (some .boolean))
theorem mk_X9_isClean : p_MK mX9_isClean 0 := ⟨p_t3 (i := 100) rfl rfl, p_t1 (i := 12) rfl rfl, by decide, by decide, by decide +kernel⟩
theorem mv_X9_isClean : p_MV mX9_isClean := ⟨p_t3 (i := 98) rfl rfl, p_t3 (i := 99) rfl rfl⟩
def mX10_take : pM := (yX10_take, cX10_take, 5, none)
theorem mk_X10_take : p_MK mX10_take 3 := ⟨p_t3 (i := 104) rfl rfl, p_t1 (i := 11) rfl rfl, by decide, by decide, by decide +kernel⟩
theorem mv_X10_take : p_MV mX10_take := ⟨p_t3 (i := 103) rfl rfl, p_mem (List.mem_append_left _ (by decide +kernel)) rfl⟩
def mX10_tableOf : pM := (yX10_tableOf, cX10_tableOf, 2, (some (.object "StreetWaves$Table")))
theorem mk_X10_tableOf : p_MK mX10_tableOf 2 := ⟨p_t3 (i := 107) rfl rfl, p_t1 (i := 11) rfl rfl, by decide, by decide, by decide +kernel⟩
theorem mz_X10_tableOf : Cond.static mX10_tableOf.1 ∈ p_tbl := p_t3 (i := 106) rfl rfl
def mX10_isCrooked : pM := (yX10_isCrooked, cX10_isCrooked, 3, (some .boolean))
theorem mk_X10_isCrooked : p_MK mX10_isCrooked 0 := ⟨p_t3 (i := 111) rfl rfl, p_t1 (i := 11) rfl rfl, by decide, by decide, by decide +kernel⟩
theorem mv_X10_isCrooked : p_MV mX10_isCrooked := ⟨p_t3 (i := 110) rfl rfl, p_mem (List.mem_append_left _ (by decide +kernel)) rfl⟩
def mX8_full : pM := (yX8_full, cX8_full, 1, (some .boolean))
theorem mk_X8_full : p_MK mX8_full 0 := ⟨p_t3 (i := 116) rfl rfl, p_t1 (i := 3) rfl rfl, by decide, by decide, by decide +kernel⟩
theorem mv_X8_full : p_MV mX8_full := ⟨p_t3 (i := 114) rfl rfl, p_t3 (i := 115) rfl rfl⟩
def mX10_areNumbersFine : pM := (yX10_areNumbersFine, cX10_areNumbersFine, 4, (some .boolean))
theorem mk_X10_areNumbersFine : p_MK mX10_areNumbersFine 1 := ⟨p_t3 (i := 120) rfl rfl, p_t1 (i := 11) rfl rfl, by decide, by decide, by decide +kernel⟩
theorem mv_X10_areNumbersFine : p_MV mX10_areNumbersFine := ⟨p_t3 (i := 119) rfl rfl, p_mem (List.mem_append_left _ (by decide +kernel)) rfl⟩
def mX10_addTo : pM := (yX10_addTo, cX10_addTo, 6, none)
theorem mk_X10_addTo : p_MK mX10_addTo 3 := ⟨p_t3 (i := 128) rfl rfl, p_t1 (i := 11) rfl rfl, by decide, by decide, by decide +kernel⟩
theorem mv_X10_addTo : p_MV mX10_addTo := ⟨p_t3 (i := 127) rfl rfl, p_mem (List.mem_append_left _ (by decide +kernel)) rfl⟩
def mJ9_min_7cf53 : pM := (yJ9_min_7cf53, cJ9_min_7cf53, 2, (some .int))
theorem mk_J9_min_7cf53 : p_MK mJ9_min_7cf53 2 := ⟨p_t3 (i := 133) rfl rfl, p_t1 (i := 4) rfl rfl, by decide, by decide, by decide +kernel⟩
theorem mz_J9_min_7cf53 : Cond.static mJ9_min_7cf53.1 ∈ p_tbl := p_t3 (i := 132) rfl rfl
def mX9_tell : pM := (yX9_tell, cX9_tell, 2, none)
theorem mk_X9_tell : p_MK mX9_tell 1 := ⟨p_t3 (i := 138) rfl rfl, p_t1 (i := 12) rfl rfl, by decide, by decide, by decide +kernel⟩
theorem mv_X9_tell : p_MV mX9_tell := ⟨p_t3 (i := 136) rfl rfl, p_t3 (i := 137) rfl rfl⟩
def mX11_refresh : pM := (yX11_refresh, cX11_refresh, 1, none)
theorem mk_X11_refresh : p_MK mX11_refresh 0 := ⟨p_t3 (i := 143) rfl rfl, p_t1 (i := 1) rfl rfl, by decide, by decide, by decide +kernel⟩
theorem mv_X11_refresh : p_MV mX11_refresh := ⟨p_t3 (i := 142) rfl rfl, p_mem (List.mem_append_left _ (by decide +kernel)) rfl⟩
def mX2_build : pM := (yX2_build, cX2_build, 3, none)
theorem mk_X2_build : p_MK mX2_build 1 := ⟨p_t3 (i := 147) rfl rfl, p_t1 (i := 5) rfl rfl, by decide, by decide, by decide +kernel⟩
theorem mv_X2_build : p_MV mX2_build := ⟨p_t3 (i := 145) rfl rfl, p_t3 (i := 146) rfl rfl⟩
def mX7_setting : pM := (yX7_setting, cX7_setting, 2, (some .int))
theorem mk_X7_setting : p_MK mX7_setting 1 := ⟨p_t3 (i := 151) rfl rfl, p_t1 (i := 2) rfl rfl, by decide, by decide, by decide +kernel⟩
theorem mv_X7_setting : p_MV mX7_setting := ⟨p_t3 (i := 149) rfl rfl, p_t3 (i := 150) rfl rfl⟩
def mX0_build : pM := (yX0_build, cX0_build, 5, none)
theorem mk_X0_build : p_MK mX0_build 1 := ⟨p_t3 (i := 156) rfl rfl, p_t1 (i := 7) rfl rfl, by decide, by decide, by decide +kernel⟩
theorem mv_X0_build : p_MV mX0_build := ⟨p_t3 (i := 154) rfl rfl, p_t3 (i := 155) rfl rfl⟩
def mX7_wallStands : pM := (yX7_wallStands, cX7_wallStands, 2, (some .boolean))
theorem mk_X7_wallStands : p_MK mX7_wallStands 1 := ⟨p_t3 (i := 160) rfl rfl, p_t1 (i := 2) rfl rfl, by decide, by decide, by decide +kernel⟩
theorem mv_X7_wallStands : p_MV mX7_wallStands := ⟨p_t3 (i := 158) rfl rfl, p_t3 (i := 159) rfl rfl⟩
def mX8_has : pM := (yX8_has, cX8_has, 2, (some .boolean))
theorem mk_X8_has : p_MK mX8_has 1 := ⟨p_t3 (i := 164) rfl rfl, p_t1 (i := 3) rfl rfl, by decide, by decide, by decide +kernel⟩
theorem mv_X8_has : p_MV mX8_has := ⟨p_t3 (i := 162) rfl rfl, p_t3 (i := 163) rfl rfl⟩
def mX7_isKnown : pM := (yX7_isKnown, cX7_isKnown, 4, (some .boolean))
theorem mk_X7_isKnown : p_MK mX7_isKnown 2 := ⟨p_t3 (i := 168) rfl rfl, p_t1 (i := 2) rfl rfl, by decide, by decide, by decide +kernel⟩
theorem mv_X7_isKnown : p_MV mX7_isKnown := ⟨p_t3 (i := 167) rfl rfl, p_mem (List.mem_append_left _ (by decide +kernel)) rfl⟩
def mX3_forget : pM := (yX3_forget, cX3_forget, 1, none)
theorem mk_X3_forget : p_MK mX3_forget 0 := ⟨p_t3 (i := 173) rfl rfl, p_t1 (i := 8) rfl rfl, by decide, by decide, by decide +kernel⟩
theorem mv_X3_forget : p_MV mX3_forget := ⟨p_t3 (i := 171) rfl rfl, p_t3 (i := 172) rfl rfl⟩
def mX11_law : pM := (yX11_law, cX11_law, 2, (some .int))
theorem mk_X11_law : p_MK mX11_law 0 := ⟨p_t3 (i := 178) rfl rfl, p_t1 (i := 1) rfl rfl, by decide, by decide, by decide +kernel⟩
theorem mv_X11_law : p_MV mX11_law := ⟨p_t3 (i := 176) rfl rfl, p_t3 (i := 177) rfl rfl⟩
def mX4_read : pM := (yX4_read, cX4_read, 3, (some .int))
theorem mk_X4_read : p_MK mX4_read 1 := ⟨p_t3 (i := 182) rfl rfl, p_t1 (i := 13) rfl rfl, by decide, by decide, by decide +kernel⟩
theorem mv_X4_read : p_MV mX4_read := ⟨p_t3 (i := 180) rfl rfl, p_t3 (i := 181) rfl rfl⟩
def mX4_readLine : pM := (yX4_readLine, cX4_readLine, 4, none)
theorem mk_X4_readLine : p_MK mX4_readLine 1 := ⟨p_t3 (i := 189) rfl rfl, p_t1 (i := 13) rfl rfl, by decide, by decide, by decide +kernel⟩
theorem mv_X4_readLine : p_MV mX4_readLine := ⟨p_t3 (i := 188) rfl rfl, p_mem (List.mem_append_left _ (by decide +kernel)) rfl⟩
def mX4_readTest : pM := (yX4_readTest, cX4_readTest, 6, (some .boolean))
theorem mk_X4_readTest : p_MK mX4_readTest 2 := ⟨p_t3 (i := 199) rfl rfl, p_t1 (i := 13) rfl rfl, by decide, by decide, by decide +kernel⟩
theorem mv_X4_readTest : p_MV mX4_readTest := ⟨p_t3 (i := 198) rfl rfl, p_mem (List.mem_append_left _ (by decide +kernel)) rfl⟩
def mX4_aboutHere : pM := (yX4_aboutHere, cX4_aboutHere, 1, (some .int))
theorem mk_X4_aboutHere : p_MK mX4_aboutHere 0 := ⟨p_t3 (i := 204) rfl rfl, p_t1 (i := 13) rfl rfl, by decide, by decide, by decide +kernel⟩
theorem mv_X4_aboutHere : p_MV mX4_aboutHere := ⟨p_t3 (i := 203) rfl rfl, p_mem (List.mem_append_left _ (by decide +kernel)) rfl⟩
def mX4_columnOf : pM := (yX4_columnOf, cX4_columnOf, 1, (some .int))
theorem mk_X4_columnOf : p_MK mX4_columnOf 1 := ⟨p_t3 (i := 214) rfl rfl, p_t1 (i := 13) rfl rfl, by decide, by decide, by decide +kernel⟩
theorem mz_X4_columnOf : Cond.static mX4_columnOf.1 ∈ p_tbl := p_t3 (i := 213) rfl rfl
def mX4_readNumber : pM := (yX4_readNumber, cX4_readNumber, 4, (some .boolean))
theorem mk_X4_readNumber : p_MK mX4_readNumber 2 := ⟨p_t3 (i := 220) rfl rfl, p_t1 (i := 13) rfl rfl, by decide, by decide, by decide +kernel⟩
theorem mv_X4_readNumber : p_MV mX4_readNumber := ⟨p_t3 (i := 219) rfl rfl, p_mem (List.mem_append_left _ (by decide +kernel)) rfl⟩
def mX8_copy : pM := (yX8_copy, cX8_copy, 2, none)
theorem mk_X8_copy : p_MK mX8_copy 1 := ⟨p_t3 (i := 232) rfl rfl, p_t1 (i := 3) rfl rfl, by decide, by decide, by decide +kernel⟩
theorem mv_X8_copy : p_MV mX8_copy := ⟨p_t3 (i := 230) rfl rfl, p_t3 (i := 231) rfl rfl⟩
def mX11_fault : pM := (yX11_fault, cX11_fault, 2, (some .int))
theorem mk_X11_fault : p_MK mX11_fault 1 := ⟨p_t4 (i := 0) rfl rfl, p_t1 (i := 1) rfl rfl, by decide, by decide, by decide +kernel⟩
theorem mv_X11_fault : p_MV mX11_fault := ⟨p_t3 (i := 238) rfl rfl, p_t3 (i := 239) rfl rfl⟩
def mX11_day : pM := (yX11_day, cX11_day, 2, (some .boolean))
theorem mk_X11_day : p_MK mX11_day 1 := ⟨p_t4 (i := 4) rfl rfl, p_t1 (i := 1) rfl rfl, by decide, by decide, by decide +kernel⟩
theorem mv_X11_day : p_MV mX11_day := ⟨p_t4 (i := 2) rfl rfl, p_t4 (i := 3) rfl rfl⟩
def mX11_view : pM := (yX11_view, cX11_view, 2, (some .boolean))
theorem mk_X11_view : p_MK mX11_view 1 := ⟨p_t4 (i := 8) rfl rfl, p_t1 (i := 1) rfl rfl, by decide, by decide, by decide +kernel⟩
theorem mv_X11_view : p_MV mX11_view := ⟨p_t4 (i := 6) rfl rfl, p_t4 (i := 7) rfl rfl⟩
def mX11_pull : pM := (yX11_pull, cX11_pull, 5, (some .boolean))
theorem mk_X11_pull : p_MK mX11_pull 2 := ⟨p_t4 (i := 12) rfl rfl, p_t1 (i := 1) rfl rfl, by decide, by decide, by decide +kernel⟩
theorem mv_X11_pull : p_MV mX11_pull := ⟨p_t4 (i := 10) rfl rfl, p_t4 (i := 11) rfl rfl⟩
def mX11_stuff : pM := (yX11_stuff, cX11_stuff, 4, (some .boolean))
theorem mk_X11_stuff : p_MK mX11_stuff 3 := ⟨p_t4 (i := 18) rfl rfl, p_t1 (i := 1) rfl rfl, by decide, by decide, by decide +kernel⟩
theorem mv_X11_stuff : p_MV mX11_stuff := ⟨p_t4 (i := 16) rfl rfl, p_t4 (i := 17) rfl rfl⟩
def mX11_isPercent : pM := (yX11_isPercent, cX11_isPercent, 1, (some .boolean))
theorem mk_X11_isPercent : p_MK mX11_isPercent 1 := ⟨p_t4 (i := 21) rfl rfl, p_t1 (i := 1) rfl rfl, by decide, by decide, by decide +kernel⟩
theorem mz_X11_isPercent : Cond.static mX11_isPercent.1 ∈ p_tbl := p_t4 (i := 20) rfl rfl
def mX11_set : pM := (yX11_set, cX11_set, 3, (some .boolean))
theorem mk_X11_set : p_MK mX11_set 2 := ⟨p_t4 (i := 25) rfl rfl, p_t1 (i := 1) rfl rfl, by decide, by decide, by decide +kernel⟩
theorem mv_X11_set : p_MV mX11_set := ⟨p_t4 (i := 23) rfl rfl, p_t4 (i := 24) rfl rfl⟩
def mX11_wall : pM := (yX11_wall, cX11_wall, 3, (some .int))
theorem mk_X11_wall : p_MK mX11_wall 2 := ⟨p_t4 (i := 33) rfl rfl, p_t1 (i := 1) rfl rfl, by decide, by decide, by decide +kernel⟩
theorem mv_X11_wall : p_MV mX11_wall := ⟨p_t4 (i := 31) rfl rfl, p_t4 (i := 32) rfl rfl⟩
def mX11_sender : pM := (yX11_sender, cX11_sender, 3, (some .int))
theorem mk_X11_sender : p_MK mX11_sender 2 := ⟨p_t4 (i := 37) rfl rfl, p_t1 (i := 1) rfl rfl, by decide, by decide, by decide +kernel⟩
theorem mv_X11_sender : p_MV mX11_sender := ⟨p_t4 (i := 35) rfl rfl, p_t4 (i := 36) rfl rfl⟩
def mX11_sees : pM := (yX11_sees, cX11_sees, 4, (some .boolean))
theorem mk_X11_sees : p_MK mX11_sees 3 := ⟨p_t4 (i := 41) rfl rfl, p_t1 (i := 1) rfl rfl, by decide, by decide, by decide +kernel⟩
theorem mv_X11_sees : p_MV mX11_sees := ⟨p_t4 (i := 39) rfl rfl, p_t4 (i := 40) rfl rfl⟩
def mX3_list : pM := (yX3_list, cX3_list, 5, (some .boolean))
theorem mk_X3_list : p_MK mX3_list 3 := ⟨p_t4 (i := 45) rfl rfl, p_t1 (i := 8) rfl rfl, by decide, by decide, by decide +kernel⟩
theorem mv_X3_list : p_MV mX3_list := ⟨p_t4 (i := 43) rfl rfl, p_t4 (i := 44) rfl rfl⟩
def mX7_senderStands : pM := (yX7_senderStands, cX7_senderStands, 2, (some .boolean))
theorem mk_X7_senderStands : p_MK mX7_senderStands 1 := ⟨p_t4 (i := 49) rfl rfl, p_t1 (i := 2) rfl rfl, by decide, by decide, by decide +kernel⟩
theorem mv_X7_senderStands : p_MV mX7_senderStands := ⟨p_t4 (i := 47) rfl rfl, p_t4 (i := 48) rfl rfl⟩
def mX11_isPoint : pM := (yX11_isPoint, cX11_isPoint, 2, (some .boolean))
theorem mk_X11_isPoint : p_MK mX11_isPoint 2 := ⟨p_t4 (i := 52) rfl rfl, p_t1 (i := 1) rfl rfl, by decide, by decide, by decide +kernel⟩
theorem mz_X11_isPoint : Cond.static mX11_isPoint.1 ∈ p_tbl := p_t4 (i := 51) rfl rfl
def mX3_keyOf : pM := (yX3_keyOf, cX3_keyOf, 3, (some .int))
theorem mk_X3_keyOf : p_MK mX3_keyOf 3 := ⟨p_t4 (i := 55) rfl rfl, p_t1 (i := 8) rfl rfl, by decide, by decide, by decide +kernel⟩
theorem mz_X3_keyOf : Cond.static mX3_keyOf.1 ∈ p_tbl := p_t4 (i := 54) rfl rfl
def mX2_search : pM := (yX2_search, cX2_search, 7, (some .int))
theorem mk_X2_search : p_MK mX2_search 5 := ⟨p_t4 (i := 59) rfl rfl, p_t1 (i := 5) rfl rfl, by decide, by decide, by decide +kernel⟩
theorem mv_X2_search : p_MV mX2_search := ⟨p_t4 (i := 57) rfl rfl, p_t4 (i := 58) rfl rfl⟩
def mX6_put : pM := (yX6_put, cX6_put, 3, none)
theorem mk_X6_put : p_MK mX6_put 2 := ⟨p_t4 (i := 65) rfl rfl, p_t1 (i := 6) rfl rfl, by decide, by decide, by decide +kernel⟩
theorem mv_X6_put : p_MV mX6_put := ⟨p_t4 (i := 63) rfl rfl, p_t4 (i := 64) rfl rfl⟩
def mX2_searchSight : pM := (yX2_searchSight, cX2_searchSight, 2, none)
theorem mk_X2_searchSight : p_MK mX2_searchSight 0 := ⟨p_t4 (i := 69) rfl rfl, p_t1 (i := 5) rfl rfl, by decide, by decide, by decide +kernel⟩
theorem mv_X2_searchSight : p_MV mX2_searchSight := ⟨p_t4 (i := 68) rfl rfl, p_mem (List.mem_append_left _ (by decide +kernel)) rfl⟩
def mX6_squareTo : pM := (yX6_squareTo, cX6_squareTo, 6, (some .int))
theorem mk_X6_squareTo : p_MK mX6_squareTo 1 := ⟨p_t4 (i := 73) rfl rfl, p_t1 (i := 6) rfl rfl, by decide, by decide, by decide +kernel⟩
theorem mv_X6_squareTo : p_MV mX6_squareTo := ⟨p_t4 (i := 71) rfl rfl, p_t4 (i := 72) rfl rfl⟩
def mX2_spread : pM := (yX2_spread, cX2_spread, 2, (some .int))
theorem mk_X2_spread : p_MK mX2_spread 1 := ⟨p_t4 (i := 77) rfl rfl, p_t1 (i := 5) rfl rfl, by decide, by decide, by decide +kernel⟩
theorem mv_X2_spread : p_MV mX2_spread := ⟨p_t4 (i := 76) rfl rfl, p_mem (List.mem_append_left _ (by decide +kernel)) rfl⟩
def mX2_carry : pM := (yX2_carry, cX2_carry, 6, (some .int))
theorem mk_X2_carry : p_MK mX2_carry 3 := ⟨p_t4 (i := 82) rfl rfl, p_t1 (i := 5) rfl rfl, by decide, by decide, by decide +kernel⟩
theorem mv_X2_carry : p_MV mX2_carry := ⟨p_t4 (i := 81) rfl rfl, p_mem (List.mem_append_left _ (by decide +kernel)) rfl⟩
def mX0_meets : pM := (yX0_meets, cX0_meets, 14, (some .boolean))
theorem mk_X0_meets : p_MK mX0_meets 3 := ⟨p_t4 (i := 86) rfl rfl, p_t1 (i := 7) rfl rfl, by decide, by decide, by decide +kernel⟩
theorem mv_X0_meets : p_MV mX0_meets := ⟨p_t4 (i := 84) rfl rfl, p_t4 (i := 85) rfl rfl⟩
def mX2_keep : pM := (yX2_keep, cX2_keep, 8, none)
theorem mk_X2_keep : p_MK mX2_keep 6 := ⟨p_t4 (i := 90) rfl rfl, p_t1 (i := 5) rfl rfl, by decide, by decide, by decide +kernel⟩
theorem mv_X2_keep : p_MV mX2_keep := ⟨p_t4 (i := 89) rfl rfl, p_mem (List.mem_append_left _ (by decide +kernel)) rfl⟩
def mX2_searchMirrors : pM := (yX2_searchMirrors, cX2_searchMirrors, 4, none)
theorem mk_X2_searchMirrors : p_MK mX2_searchMirrors 0 := ⟨p_t4 (i := 97) rfl rfl, p_t1 (i := 5) rfl rfl, by decide, by decide, by decide +kernel⟩
theorem mv_X2_searchMirrors : p_MV mX2_searchMirrors := ⟨p_t4 (i := 96) rfl rfl, p_mem (List.mem_append_left _ (by decide +kernel)) rfl⟩
def mX6_mirror : pM := (yX6_mirror, cX6_mirror, 3, none)
theorem mk_X6_mirror : p_MK mX6_mirror 2 := ⟨p_t4 (i := 101) rfl rfl, p_t1 (i := 6) rfl rfl, by decide, by decide, by decide +kernel⟩
theorem mv_X6_mirror : p_MV mX6_mirror := ⟨p_t4 (i := 99) rfl rfl, p_t4 (i := 100) rfl rfl⟩
def mX2_searchPairs : pM := (yX2_searchPairs, cX2_searchPairs, 5, none)
theorem mk_X2_searchPairs : p_MK mX2_searchPairs 0 := ⟨p_t4 (i := 106) rfl rfl, p_t1 (i := 5) rfl rfl, by decide, by decide, by decide +kernel⟩
theorem mv_X2_searchPairs : p_MV mX2_searchPairs := ⟨p_t4 (i := 105) rfl rfl, p_mem (List.mem_append_left _ (by decide +kernel)) rfl⟩
def mX2_searchCorners : pM := (yX2_searchCorners, cX2_searchCorners, 6, none)
theorem mk_X2_searchCorners : p_MK mX2_searchCorners 0 := ⟨p_t4 (i := 110) rfl rfl, p_t1 (i := 5) rfl rfl, by decide, by decide, by decide +kernel⟩
theorem mv_X2_searchCorners : p_MV mX2_searchCorners := ⟨p_t4 (i := 109) rfl rfl, p_mem (List.mem_append_left _ (by decide +kernel)) rfl⟩
def mX0_putEnd : pM := (yX0_putEnd, cX0_putEnd, 4, none)
theorem mk_X0_putEnd : p_MK mX0_putEnd 2 := ⟨p_t4 (i := 114) rfl rfl, p_t1 (i := 7) rfl rfl, by decide, by decide, by decide +kernel⟩
theorem mv_X0_putEnd : p_MV mX0_putEnd := ⟨p_t4 (i := 112) rfl rfl, p_t4 (i := 113) rfl rfl⟩
def mX2_isEarlierCorner : pM := (yX2_isEarlierCorner, cX2_isEarlierCorner, 3, (some .boolean))
theorem mk_X2_isEarlierCorner : p_MK mX2_isEarlierCorner 1 := ⟨p_t4 (i := 119) rfl rfl, p_t1 (i := 5) rfl rfl, by decide, by decide, by decide +kernel⟩
theorem mv_X2_isEarlierCorner : p_MV mX2_isEarlierCorner := ⟨p_t4 (i := 118) rfl rfl, p_mem (List.mem_append_left _ (by decide +kernel)) rfl⟩
def mX0_endsAt : pM := (yX0_endsAt, cX0_endsAt, 6, (some .boolean))
theorem mk_X0_endsAt : p_MK mX0_endsAt 1 := ⟨p_t4 (i := 123) rfl rfl, p_t1 (i := 7) rfl rfl, by decide, by decide, by decide +kernel⟩
theorem mv_X0_endsAt : p_MV mX0_endsAt := ⟨p_t4 (i := 121) rfl rfl, p_t4 (i := 122) rfl rfl⟩
def mX2_rootOf : pM := (yX2_rootOf, cX2_rootOf, 5, (some .int))
theorem mk_X2_rootOf : p_MK mX2_rootOf 1 := ⟨p_t4 (i := 126) rfl rfl, p_t1 (i := 5) rfl rfl, by decide, by decide, by decide +kernel⟩
theorem mz_X2_rootOf : Cond.static mX2_rootOf.1 ∈ p_tbl := p_t4 (i := 125) rfl rfl
def mX2_sort : pM := (yX2_sort, cX2_sort, 4, none)
theorem mk_X2_sort : p_MK mX2_sort 0 := ⟨p_t4 (i := 131) rfl rfl, p_t1 (i := 5) rfl rfl, by decide, by decide, by decide +kernel⟩
theorem mv_X2_sort : p_MV mX2_sort := ⟨p_t4 (i := 129) rfl rfl, p_t4 (i := 130) rfl rfl⟩
def mX2_isLonger : pM := (yX2_isLonger, cX2_isLonger, 3, (some .boolean))
theorem mk_X2_isLonger : p_MK mX2_isLonger 2 := ⟨p_t4 (i := 135) rfl rfl, p_t1 (i := 5) rfl rfl, by decide, by decide, by decide +kernel⟩
theorem mv_X2_isLonger : p_MV mX2_isLonger := ⟨p_t4 (i := 134) rfl rfl, p_mem (List.mem_append_left _ (by decide +kernel)) rfl⟩
def mX2_orderOfLengths : pM := (yX2_orderOfLengths, cX2_orderOfLengths, 10, (some .int))
theorem mk_X2_orderOfLengths : p_MK mX2_orderOfLengths 4 := ⟨p_t4 (i := 138) rfl rfl, p_t1 (i := 5) rfl rfl, by decide, by decide, by decide +kernel⟩
theorem mz_X2_orderOfLengths : Cond.static mX2_orderOfLengths.1 ∈ p_tbl := p_t4 (i := 137) rfl rfl
def mX2_signOf : pM := (yX2_signOf, cX2_signOf, 12, (some .int))
theorem mk_X2_signOf : p_MK mX2_signOf 3 := ⟨p_t4 (i := 142) rfl rfl, p_t1 (i := 5) rfl rfl, by decide, by decide, by decide +kernel⟩
theorem mz_X2_signOf : Cond.static mX2_signOf.1 ∈ p_tbl := p_t4 (i := 141) rfl rfl
def mX2_sawTarget : pM := (yX2_sawTarget, cX2_sawTarget, 1, (some .boolean))
theorem mk_X2_sawTarget : p_MK mX2_sawTarget 0 := ⟨p_t4 (i := 146) rfl rfl, p_t1 (i := 5) rfl rfl, by decide, by decide, by decide +kernel⟩
theorem mv_X2_sawTarget : p_MV mX2_sawTarget := ⟨p_t4 (i := 144) rfl rfl, p_t4 (i := 145) rfl rfl⟩
def mX11_ways : pM := (yX11_ways, cX11_ways, 4, (some .int))
theorem mk_X11_ways : p_MK mX11_ways 3 := ⟨p_t4 (i := 150) rfl rfl, p_t1 (i := 1) rfl rfl, by decide, by decide, by decide +kernel⟩
theorem mv_X11_ways : p_MV mX11_ways := ⟨p_t4 (i := 148) rfl rfl, p_t4 (i := 149) rfl rfl⟩
def mX2_size : pM := (yX2_size, cX2_size, 1, (some .int))
theorem mk_X2_size : p_MK mX2_size 0 := ⟨p_t4 (i := 154) rfl rfl, p_t1 (i := 5) rfl rfl, by decide, by decide, by decide +kernel⟩
theorem mv_X2_size : p_MV mX2_size := ⟨p_t4 (i := 152) rfl rfl, p_t4 (i := 153) rfl rfl⟩
def mX11_way : pM := (yX11_way, cX11_way, 6, (some .int))
theorem mk_X11_way : p_MK mX11_way 5 := ⟨p_t4 (i := 158) rfl rfl, p_t1 (i := 1) rfl rfl, by decide, by decide, by decide +kernel⟩
theorem mv_X11_way : p_MV mX11_way := ⟨p_t4 (i := 156) rfl rfl, p_t4 (i := 157) rfl rfl⟩
def mX2_lateness : pM := (yX2_lateness, cX2_lateness, 2, (some .int))
theorem mk_X2_lateness : p_MK mX2_lateness 1 := ⟨p_t4 (i := 162) rfl rfl, p_t1 (i := 5) rfl rfl, by decide, by decide, by decide +kernel⟩
theorem mv_X2_lateness : p_MV mX2_lateness := ⟨p_t4 (i := 160) rfl rfl, p_t4 (i := 161) rfl rfl⟩
def mX2_tell : pM := (yX2_tell, cX2_tell, 3, (some .int))
theorem mk_X2_tell : p_MK mX2_tell 2 := ⟨p_t4 (i := 166) rfl rfl, p_t1 (i := 5) rfl rfl, by decide, by decide, by decide +kernel⟩
theorem mv_X2_tell : p_MV mX2_tell := ⟨p_t4 (i := 164) rfl rfl, p_t4 (i := 165) rfl rfl⟩
def mX11_compare : pM := (yX11_compare, cX11_compare, 9, (some .int))
theorem mk_X11_compare : p_MK mX11_compare 6 := ⟨p_t4 (i := 171) rfl rfl, p_t1 (i := 1) rfl rfl, by decide, by decide, by decide +kernel⟩
theorem mv_X11_compare : p_MV mX11_compare := ⟨p_t4 (i := 169) rfl rfl, p_t4 (i := 170) rfl rfl⟩
def mX11_signal : pM := (yX11_signal, cX11_signal, 4, (some .int))
theorem mk_X11_signal : p_MK mX11_signal 3 := ⟨p_t4 (i := 176) rfl rfl, p_t1 (i := 1) rfl rfl, by decide, by decide, by decide +kernel⟩
theorem mv_X11_signal : p_MV mX11_signal := ⟨p_t4 (i := 174) rfl rfl, p_t4 (i := 175) rfl rfl⟩
def mX3_signalAt : pM := (yX3_signalAt, cX3_signalAt, 5, (some .int))
theorem mk_X3_signalAt : p_MK mX3_signalAt 3 := ⟨p_t4 (i := 180) rfl rfl, p_t1 (i := 8) rfl rfl, by decide, by decide, by decide +kernel⟩
theorem mv_X3_signalAt : p_MV mX3_signalAt := ⟨p_t4 (i := 178) rfl rfl, p_t4 (i := 179) rfl rfl⟩
def mX11_heard : pM := (yX11_heard, cX11_heard, 3, (some .int))
theorem mk_X11_heard : p_MK mX11_heard 2 := ⟨p_t4 (i := 184) rfl rfl, p_t1 (i := 1) rfl rfl, by decide, by decide, by decide +kernel⟩
theorem mv_X11_heard : p_MV mX11_heard := ⟨p_t4 (i := 182) rfl rfl, p_t4 (i := 183) rfl rfl⟩
def mX3_listen : pM := (yX3_listen, cX3_listen, 4, none)
theorem mk_X3_listen : p_MK mX3_listen 2 := ⟨p_t4 (i := 189) rfl rfl, p_t1 (i := 8) rfl rfl, by decide, by decide, by decide +kernel⟩
theorem mv_X3_listen : p_MV mX3_listen := ⟨p_t4 (i := 187) rfl rfl, p_t4 (i := 188) rfl rfl⟩
def mX3_heardBits : pM := (yX3_heardBits, cX3_heardBits, 3, (some .int))
theorem mk_X3_heardBits : p_MK mX3_heardBits 0 := ⟨p_t4 (i := 195) rfl rfl, p_t1 (i := 8) rfl rfl, by decide, by decide, by decide +kernel⟩
theorem mv_X3_heardBits : p_MV mX3_heardBits := ⟨p_t4 (i := 193) rfl rfl, p_t4 (i := 194) rfl rfl⟩
def mX3_isHeard : pM := (yX3_isHeard, cX3_isHeard, 6, (some .boolean))
theorem mk_X3_isHeard : p_MK mX3_isHeard 1 := ⟨p_t4 (i := 199) rfl rfl, p_t1 (i := 8) rfl rfl, by decide, by decide, by decide +kernel⟩
theorem mv_X3_isHeard : p_MV mX3_isHeard := ⟨p_t4 (i := 197) rfl rfl, p_t4 (i := 198) rfl rfl⟩
def mX11_best : pM := (yX11_best, cX11_best, 3, (some .int))
theorem mk_X11_best : p_MK mX11_best 2 := ⟨p_t4 (i := 206) rfl rfl, p_t1 (i := 1) rfl rfl, by decide, by decide, by decide +kernel⟩
theorem mv_X11_best : p_MV mX11_best := ⟨p_t4 (i := 204) rfl rfl, p_t4 (i := 205) rfl rfl⟩
def mX3_bestHeard : pM := (yX3_bestHeard, cX3_bestHeard, 4, (some .int))
theorem mk_X3_bestHeard : p_MK mX3_bestHeard 0 := ⟨p_t4 (i := 210) rfl rfl, p_t1 (i := 8) rfl rfl, by decide, by decide, by decide +kernel⟩
theorem mv_X3_bestHeard : p_MV mX3_bestHeard := ⟨p_t4 (i := 208) rfl rfl, p_t4 (i := 209) rfl rfl⟩
def mX11_step : pM := (yX11_step, cX11_step, 4, (some .int))
theorem mk_X11_step : p_MK mX11_step 2 := ⟨p_t4 (i := 214) rfl rfl, p_t1 (i := 1) rfl rfl, by decide, by decide, by decide +kernel⟩
theorem mv_X11_step : p_MV mX11_step := ⟨p_t4 (i := 212) rfl rfl, p_t4 (i := 213) rfl rfl⟩
def mX11_unwalk : pM := (yX11_unwalk, cX11_unwalk, 1, none)
theorem mk_X11_unwalk : p_MK mX11_unwalk 0 := ⟨p_t4 (i := 218) rfl rfl, p_t1 (i := 1) rfl rfl, by decide, by decide, by decide +kernel⟩
theorem mv_X11_unwalk : p_MV mX11_unwalk := ⟨p_t4 (i := 216) rfl rfl, p_t4 (i := 217) rfl rfl⟩
def mX11_served : pM := (yX11_served, cX11_served, 2, (some .int))
theorem mk_X11_served : p_MK mX11_served 1 := ⟨p_t4 (i := 222) rfl rfl, p_t1 (i := 1) rfl rfl, by decide, by decide, by decide +kernel⟩
theorem mv_X11_served : p_MV mX11_served := ⟨p_t4 (i := 220) rfl rfl, p_t4 (i := 221) rfl rfl⟩
def mX3_followWalk : pM := (yX3_followWalk, cX3_followWalk, 6, none)
theorem mk_X3_followWalk : p_MK mX3_followWalk 0 := ⟨p_t4 (i := 226) rfl rfl, p_t1 (i := 8) rfl rfl, by decide, by decide, by decide +kernel⟩
theorem mv_X3_followWalk : p_MV mX3_followWalk := ⟨p_t4 (i := 224) rfl rfl, p_t4 (i := 225) rfl rfl⟩
def mX3_isWish : pM := (yX3_isWish, cX3_isWish, 3, (some .boolean))
theorem mk_X3_isWish : p_MK mX3_isWish 2 := ⟨p_t4 (i := 233) rfl rfl, p_t1 (i := 8) rfl rfl, by decide, by decide, by decide +kernel⟩
theorem mv_X3_isWish : p_MV mX3_isWish := ⟨p_t4 (i := 232) rfl rfl, p_mem (List.mem_append_left _ (by decide +kernel)) rfl⟩
def mX3_servedIn : pM := (yX3_servedIn, cX3_servedIn, 2, (some .int))
theorem mk_X3_servedIn : p_MK mX3_servedIn 1 := ⟨p_t4 (i := 237) rfl rfl, p_t1 (i := 8) rfl rfl, by decide, by decide, by decide +kernel⟩
theorem mv_X3_servedIn : p_MV mX3_servedIn := ⟨p_t4 (i := 235) rfl rfl, p_t4 (i := 236) rfl rfl⟩
def mX11_walk : pM := (yX11_walk, cX11_walk, 2, (some .int))
theorem mk_X11_walk : p_MK mX11_walk 1 := ⟨p_t5 (i := 1) rfl rfl, p_t1 (i := 1) rfl rfl, by decide, by decide, by decide +kernel⟩
theorem mv_X11_walk : p_MV mX11_walk := ⟨p_t4 (i := 239) rfl rfl, p_t5 (i := 0) rfl rfl⟩
def mX3_changes : pM := (yX3_changes, cX3_changes, 5, (some .int))
theorem mk_X3_changes : p_MK mX3_changes 0 := ⟨p_t5 (i := 5) rfl rfl, p_t1 (i := 8) rfl rfl, by decide, by decide, by decide +kernel⟩
theorem mv_X3_changes : p_MV mX3_changes := ⟨p_t5 (i := 3) rfl rfl, p_t5 (i := 4) rfl rfl⟩
def mX3_lost : pM := (yX3_lost, cX3_lost, 3, (some .int))
theorem mk_X3_lost : p_MK mX3_lost 0 := ⟨p_t5 (i := 10) rfl rfl, p_t1 (i := 8) rfl rfl, by decide, by decide, by decide +kernel⟩
theorem mv_X3_lost : p_MV mX3_lost := ⟨p_t5 (i := 8) rfl rfl, p_t5 (i := 9) rfl rfl⟩
def mX11_cover : pM := (yX11_cover, cX11_cover, 2, (some .int))
theorem mk_X11_cover : p_MK mX11_cover 1 := ⟨p_t5 (i := 14) rfl rfl, p_t1 (i := 1) rfl rfl, by decide, by decide, by decide +kernel⟩
theorem mv_X11_cover : p_MV mX11_cover := ⟨p_t5 (i := 12) rfl rfl, p_t5 (i := 13) rfl rfl⟩
def mX5_chooseSites : pM := (yX5_chooseSites, cX5_chooseSites, 3, none)
theorem mk_X5_chooseSites : p_MK mX5_chooseSites 0 := ⟨p_t5 (i := 18) rfl rfl, p_t1 (i := 9) rfl rfl, by decide, by decide, by decide +kernel⟩
theorem mv_X5_chooseSites : p_MV mX5_chooseSites := ⟨p_t5 (i := 16) rfl rfl, p_t5 (i := 17) rfl rfl⟩
def mX5_findSiteReaches : pM := (yX5_findSiteReaches, cX5_findSiteReaches, 4, none)
theorem mk_X5_findSiteReaches : p_MK mX5_findSiteReaches 0 := ⟨p_t5 (i := 22) rfl rfl, p_t1 (i := 9) rfl rfl, by decide, by decide, by decide +kernel⟩
theorem mv_X5_findSiteReaches : p_MV mX5_findSiteReaches := ⟨p_t5 (i := 21) rfl rfl, p_mem (List.mem_append_left _ (by decide +kernel)) rfl⟩
def mX3_siteSignal : pM := (yX3_siteSignal, cX3_siteSignal, 6, (some .int))
theorem mk_X3_siteSignal : p_MK mX3_siteSignal 2 := ⟨p_t5 (i := 27) rfl rfl, p_t1 (i := 8) rfl rfl, by decide, by decide, by decide +kernel⟩
theorem mv_X3_siteSignal : p_MV mX3_siteSignal := ⟨p_t5 (i := 25) rfl rfl, p_t5 (i := 26) rfl rfl⟩
def mX5_reachOf : pM := (yX5_reachOf, cX5_reachOf, 4, (some .int))
theorem mk_X5_reachOf : p_MK mX5_reachOf 1 := ⟨p_t5 (i := 33) rfl rfl, p_t1 (i := 9) rfl rfl, by decide, by decide, by decide +kernel⟩
theorem mv_X5_reachOf : p_MV mX5_reachOf := ⟨p_t5 (i := 32) rfl rfl, p_mem (List.mem_append_left _ (by decide +kernel)) rfl⟩
def mX5_costOf : pM := (yX5_costOf, cX5_costOf, 4, (some .int))
theorem mk_X5_costOf : p_MK mX5_costOf 1 := ⟨p_t5 (i := 37) rfl rfl, p_t1 (i := 9) rfl rfl, by decide, by decide, by decide +kernel⟩
theorem mv_X5_costOf : p_MV mX5_costOf := ⟨p_t5 (i := 36) rfl rfl, p_mem (List.mem_append_left _ (by decide +kernel)) rfl⟩
def mJ6_bitCount_0f7a4 : pM := (yJ6_bitCount_0f7a4, cJ6_bitCount_0f7a4, 1, (some .int))
theorem mk_J6_bitCount_0f7a4 : p_MK mJ6_bitCount_0f7a4 1 := ⟨p_t5 (i := 41) rfl rfl, p_t1 (i := 20) rfl rfl, by decide, by decide, by decide +kernel⟩
theorem mz_J6_bitCount_0f7a4 : Cond.static mJ6_bitCount_0f7a4.1 ∈ p_tbl := p_t5 (i := 40) rfl rfl
def mX5_offer : pM := (yX5_offer, cX5_offer, 4, none)
theorem mk_X5_offer : p_MK mX5_offer 3 := ⟨p_t5 (i := 48) rfl rfl, p_t1 (i := 9) rfl rfl, by decide, by decide, by decide +kernel⟩
theorem mv_X5_offer : p_MV mX5_offer := ⟨p_t5 (i := 47) rfl rfl, p_mem (List.mem_append_left _ (by decide +kernel)) rfl⟩
def mX11_serves : pM := (yX11_serves, cX11_serves, 3, (some .int))
theorem mk_X11_serves : p_MK mX11_serves 2 := ⟨p_t5 (i := 52) rfl rfl, p_t1 (i := 1) rfl rfl, by decide, by decide, by decide +kernel⟩
theorem mv_X11_serves : p_MV mX11_serves := ⟨p_t5 (i := 50) rfl rfl, p_t5 (i := 51) rfl rfl⟩
def mX11_clash : pM := (yX11_clash, cX11_clash, 3, (some .boolean))
theorem mk_X11_clash : p_MK mX11_clash 2 := ⟨p_t5 (i := 57) rfl rfl, p_t1 (i := 1) rfl rfl, by decide, by decide, by decide +kernel⟩
theorem mv_X11_clash : p_MV mX11_clash := ⟨p_t5 (i := 55) rfl rfl, p_t5 (i := 56) rfl rfl⟩
def mX5_findReaches : pM := (yX5_findReaches, cX5_findReaches, 5, none)
theorem mk_X5_findReaches : p_MK mX5_findReaches 0 := ⟨p_t5 (i := 62) rfl rfl, p_t1 (i := 9) rfl rfl, by decide, by decide, by decide +kernel⟩
theorem mv_X5_findReaches : p_MV mX5_findReaches := ⟨p_t5 (i := 60) rfl rfl, p_t5 (i := 61) rfl rfl⟩
def mX5_clashing : pM := (yX5_clashing, cX5_clashing, 3, (some .boolean))
theorem mk_X5_clashing : p_MK mX5_clashing 2 := ⟨p_t5 (i := 68) rfl rfl, p_t1 (i := 9) rfl rfl, by decide, by decide, by decide +kernel⟩
theorem mv_X5_clashing : p_MV mX5_clashing := ⟨p_t5 (i := 66) rfl rfl, p_t5 (i := 67) rfl rfl⟩
def mX5_areClashing : pM := (yX5_areClashing, cX5_areClashing, 3, (some .boolean))
theorem mk_X5_areClashing : p_MK mX5_areClashing 3 := ⟨p_t5 (i := 71) rfl rfl, p_t1 (i := 9) rfl rfl, by decide, by decide, by decide +kernel⟩
theorem mz_X5_areClashing : Cond.static mX5_areClashing.1 ∈ p_tbl := p_t5 (i := 70) rfl rfl
def mX11_colour : pM := (yX11_colour, cX11_colour, 2, (some .int))
theorem mk_X11_colour : p_MK mX11_colour 1 := ⟨p_t5 (i := 75) rfl rfl, p_t1 (i := 1) rfl rfl, by decide, by decide, by decide +kernel⟩
theorem mv_X11_colour : p_MV mX11_colour := ⟨p_t5 (i := 73) rfl rfl, p_t5 (i := 74) rfl rfl⟩
def mX5_paintSenders : pM := (yX5_paintSenders, cX5_paintSenders, 1, none)
theorem mk_X5_paintSenders : p_MK mX5_paintSenders 0 := ⟨p_t5 (i := 79) rfl rfl, p_t1 (i := 9) rfl rfl, by decide, by decide, by decide +kernel⟩
theorem mv_X5_paintSenders : p_MV mX5_paintSenders := ⟨p_t5 (i := 77) rfl rfl, p_t5 (i := 78) rfl rfl⟩
def mX5_paintFrom : pM := (yX5_paintFrom, cX5_paintFrom, 5, (some .boolean))
theorem mk_X5_paintFrom : p_MK mX5_paintFrom 4 := ⟨p_t5 (i := 83) rfl rfl, p_t1 (i := 9) rfl rfl, by decide, by decide, by decide +kernel⟩
theorem mz_X5_paintFrom : Cond.static mX5_paintFrom.1 ∈ p_tbl := p_t5 (i := 82) rfl rfl
def mX5_isFree : pM := (yX5_isFree, cX5_isFree, 4, (some .boolean))
theorem mk_X5_isFree : p_MK mX5_isFree 3 := ⟨p_t5 (i := 86) rfl rfl, p_t1 (i := 9) rfl rfl, by decide, by decide, by decide +kernel⟩
theorem mz_X5_isFree : Cond.static mX5_isFree.1 ∈ p_tbl := p_t5 (i := 85) rfl rfl
def mX5_paintOf : pM := (yX5_paintOf, cX5_paintOf, 2, (some .int))
theorem mk_X5_paintOf : p_MK mX5_paintOf 1 := ⟨p_t5 (i := 90) rfl rfl, p_t1 (i := 9) rfl rfl, by decide, by decide, by decide +kernel⟩
theorem mv_X5_paintOf : p_MV mX5_paintOf := ⟨p_t5 (i := 88) rfl rfl, p_t5 (i := 89) rfl rfl⟩
def mX11_span : pM := (yX11_span, cX11_span, 4, (some .boolean))
theorem mk_X11_span : p_MK mX11_span 3 := ⟨p_t5 (i := 94) rfl rfl, p_t1 (i := 1) rfl rfl, by decide, by decide, by decide +kernel⟩
theorem mv_X11_span : p_MV mX11_span := ⟨p_t5 (i := 92) rfl rfl, p_t5 (i := 93) rfl rfl⟩
def mX11_places : pM := (yX11_places, cX11_places, 3, (some .int))
theorem mk_X11_places : p_MK mX11_places 0 := ⟨p_t5 (i := 99) rfl rfl, p_t1 (i := 1) rfl rfl, by decide, by decide, by decide +kernel⟩
theorem mv_X11_places : p_MV mX11_places := ⟨p_t5 (i := 97) rfl rfl, p_t5 (i := 98) rfl rfl⟩
def mX3_fits : pM := (yX3_fits, cX3_fits, 6, (some .boolean))
theorem mk_X3_fits : p_MK mX3_fits 2 := ⟨p_t5 (i := 103) rfl rfl, p_t1 (i := 8) rfl rfl, by decide, by decide, by decide +kernel⟩
theorem mv_X3_fits : p_MV mX3_fits := ⟨p_t5 (i := 101) rfl rfl, p_t5 (i := 102) rfl rfl⟩
def mX11_place : pM := (yX11_place, cX11_place, 4, (some .int))
theorem mk_X11_place : p_MK mX11_place 1 := ⟨p_t5 (i := 107) rfl rfl, p_t1 (i := 1) rfl rfl, by decide, by decide, by decide +kernel⟩
theorem mv_X11_place : p_MV mX11_place := ⟨p_t5 (i := 105) rfl rfl, p_t5 (i := 106) rfl rfl⟩
def mX11_echo : pM := (yX11_echo, cX11_echo, 13, (some .int))
theorem mk_X11_echo : p_MK mX11_echo 5 := ⟨p_t5 (i := 111) rfl rfl, p_t1 (i := 1) rfl rfl, by decide, by decide, by decide +kernel⟩
theorem mv_X11_echo : p_MV mX11_echo := ⟨p_t5 (i := 109) rfl rfl, p_t5 (i := 110) rfl rfl⟩
def mX11_echoesAt : pM := (yX11_echoesAt, cX11_echoesAt, 6, (some .boolean))
theorem mk_X11_echoesAt : p_MK mX11_echoesAt 5 := ⟨p_t5 (i := 114) rfl rfl, p_t1 (i := 1) rfl rfl, by decide, by decide, by decide +kernel⟩
theorem mz_X11_echoesAt : Cond.static mX11_echoesAt.1 ∈ p_tbl := p_t5 (i := 113) rfl rfl
def mX11_why : pM := (yX11_why, cX11_why, 3, (some .int))
theorem mk_X11_why : p_MK mX11_why 2 := ⟨p_t5 (i := 118) rfl rfl, p_t1 (i := 1) rfl rfl, by decide, by decide, by decide +kernel⟩
theorem mv_X11_why : p_MV mX11_why := ⟨p_t5 (i := 116) rfl rfl, p_t5 (i := 117) rfl rfl⟩
def mX1_hearSenders : pM := (yX1_hearSenders, cX1_hearSenders, 4, none)
theorem mk_X1_hearSenders : p_MK mX1_hearSenders 0 := ⟨p_t5 (i := 122) rfl rfl, p_t1 (i := 10) rfl rfl, by decide, by decide, by decide +kernel⟩
theorem mv_X1_hearSenders : p_MV mX1_hearSenders := ⟨p_t5 (i := 120) rfl rfl, p_t5 (i := 121) rfl rfl⟩
def mX1_lineFor : pM := (yX1_lineFor, cX1_lineFor, 4, (some .int))
theorem mk_X1_lineFor : p_MK mX1_lineFor 2 := ⟨p_t5 (i := 131) rfl rfl, p_t1 (i := 10) rfl rfl, by decide, by decide, by decide +kernel⟩
theorem mv_X1_lineFor : p_MV mX1_lineFor := ⟨p_t5 (i := 129) rfl rfl, p_t5 (i := 130) rfl rfl⟩
def mX1_isFitting : pM := (yX1_isFitting, cX1_isFitting, 8, (some .boolean))
theorem mk_X1_isFitting : p_MK mX1_isFitting 3 := ⟨p_t5 (i := 135) rfl rfl, p_t1 (i := 10) rfl rfl, by decide, by decide, by decide +kernel⟩
theorem mv_X1_isFitting : p_MV mX1_isFitting := ⟨p_t5 (i := 134) rfl rfl, p_mem (List.mem_append_left _ (by decide +kernel)) rfl⟩
def mX1_holds : pM := (yX1_holds, cX1_holds, 8, (some .boolean))
theorem mk_X1_holds : p_MK mX1_holds 4 := ⟨p_t5 (i := 140) rfl rfl, p_t1 (i := 10) rfl rfl, by decide, by decide, by decide +kernel⟩
theorem mv_X1_holds : p_MV mX1_holds := ⟨p_t5 (i := 139) rfl rfl, p_mem (List.mem_append_left _ (by decide +kernel)) rfl⟩
def mX1_isAlone : pM := (yX1_isAlone, cX1_isAlone, 5, (some .boolean))
theorem mk_X1_isAlone : p_MK mX1_isAlone 1 := ⟨p_t5 (i := 144) rfl rfl, p_t1 (i := 10) rfl rfl, by decide, by decide, by decide +kernel⟩
theorem mv_X1_isAlone : p_MV mX1_isAlone := ⟨p_t5 (i := 143) rfl rfl, p_mem (List.mem_append_left _ (by decide +kernel)) rfl⟩
def mX1_valueOf : pM := (yX1_valueOf, cX1_valueOf, 4, (some .int))
theorem mk_X1_valueOf : p_MK mX1_valueOf 3 := ⟨p_t5 (i := 149) rfl rfl, p_t1 (i := 10) rfl rfl, by decide, by decide, by decide +kernel⟩
theorem mv_X1_valueOf : p_MV mX1_valueOf := ⟨p_t5 (i := 148) rfl rfl, p_mem (List.mem_append_left _ (by decide +kernel)) rfl⟩
def mX11_breach : pM := (yX11_breach, cX11_breach, 2, (some .int))
theorem mk_X11_breach : p_MK mX11_breach 1 := ⟨p_t5 (i := 153) rfl rfl, p_t1 (i := 1) rfl rfl, by decide, by decide, by decide +kernel⟩
theorem mv_X11_breach : p_MV mX11_breach := ⟨p_t5 (i := 151) rfl rfl, p_t5 (i := 152) rfl rfl⟩
def mX1_findBreach : pM := (yX1_findBreach, cX1_findBreach, 4, none)
theorem mk_X1_findBreach : p_MK mX1_findBreach 0 := ⟨p_t5 (i := 157) rfl rfl, p_t1 (i := 10) rfl rfl, by decide, by decide, by decide +kernel⟩
theorem mv_X1_findBreach : p_MV mX1_findBreach := ⟨p_t5 (i := 155) rfl rfl, p_t5 (i := 156) rfl rfl⟩
def mX11_count : pM := (yX11_count, cX11_count, 2, (some .int))
theorem mk_X11_count : p_MK mX11_count 1 := ⟨p_t5 (i := 163) rfl rfl, p_t1 (i := 1) rfl rfl, by decide, by decide, by decide +kernel⟩
theorem mv_X11_count : p_MV mX11_count := ⟨p_t5 (i := 161) rfl rfl, p_t5 (i := 162) rfl rfl⟩
def mX7_standingWalls : pM := (yX7_standingWalls, cX7_standingWalls, 3, (some .int))
theorem mk_X7_standingWalls : p_MK mX7_standingWalls 0 := ⟨p_t5 (i := 167) rfl rfl, p_t1 (i := 2) rfl rfl, by decide, by decide, by decide +kernel⟩
theorem mv_X7_standingWalls : p_MV mX7_standingWalls := ⟨p_t5 (i := 165) rfl rfl, p_t5 (i := 166) rfl rfl⟩
def mX7_standingSenders : pM := (yX7_standingSenders, cX7_standingSenders, 3, (some .int))
theorem mk_X7_standingSenders : p_MK mX7_standingSenders 0 := ⟨p_t5 (i := 173) rfl rfl, p_t1 (i := 2) rfl rfl, by decide, by decide, by decide +kernel⟩
theorem mv_X7_standingSenders : p_MV mX7_standingSenders := ⟨p_t5 (i := 171) rfl rfl, p_t5 (i := 172) rfl rfl⟩
def mX11_image : pM := (yX11_image, cX11_image, 3, (some .boolean))
theorem mk_X11_image : p_MK mX11_image 1 := ⟨p_t5 (i := 178) rfl rfl, p_t1 (i := 1) rfl rfl, by decide, by decide, by decide +kernel⟩
theorem mv_X11_image : p_MV mX11_image := ⟨p_t5 (i := 176) rfl rfl, p_t5 (i := 177) rfl rfl⟩
def mX7_copy : pM := (yX7_copy, cX7_copy, 2, none)
theorem mk_X7_copy : p_MK mX7_copy 1 := ⟨p_t5 (i := 182) rfl rfl, p_t1 (i := 2) rfl rfl, by decide, by decide, by decide +kernel⟩
theorem mv_X7_copy : p_MV mX7_copy := ⟨p_t5 (i := 180) rfl rfl, p_t5 (i := 181) rfl rfl⟩
def mX11_again : pM := (yX11_again, cX11_again, 3, (some .boolean))
theorem mk_X11_again : p_MK mX11_again 1 := ⟨p_t5 (i := 187) rfl rfl, p_t1 (i := 1) rfl rfl, by decide, by decide, by decide +kernel⟩
theorem mv_X11_again : p_MV mX11_again := ⟨p_t5 (i := 185) rfl rfl, p_t5 (i := 186) rfl rfl⟩
def mX12_init : pM := (yX12_init, cX12_init, 2, none)
theorem mk_X12_init : p_MK mX12_init 0 := ⟨p_t5 (i := 192) rfl rfl, p_t1 (i := 14) rfl rfl, by decide, by decide, by decide +kernel⟩
theorem mi_X12_init : Cond.instanceMethod mX12_init.1 ∈ p_tbl := p_t5 (i := 191) rfl rfl
def mX12_forgets : pM := (yX12_forgets, cX12_forgets, 2, none)
theorem mk_X12_forgets : p_MK mX12_forgets 0 := ⟨p_t5 (i := 197) rfl rfl, p_t1 (i := 14) rfl rfl, by decide, by decide, by decide +kernel⟩
theorem mv_X12_forgets : p_MV mX12_forgets := ⟨p_t5 (i := 196) rfl rfl, p_mem (List.mem_append_left _ (by decide +kernel)) rfl⟩
def mX12_sees : pM := (yX12_sees, cX12_sees, 6, (some .boolean))
theorem mk_X12_sees : p_MK mX12_sees 3 := ⟨p_t6 (i := 86) rfl rfl, p_t1 (i := 14) rfl rfl, by decide, by decide, by decide +kernel⟩
theorem mv_X12_sees : p_MV mX12_sees := ⟨p_t6 (i := 84) rfl rfl, p_t6 (i := 85) rfl rfl⟩
def mX12_finds : pM := (yX12_finds, cX12_finds, 4, (some .boolean))
theorem mk_X12_finds : p_MK mX12_finds 3 := ⟨p_t6 (i := 90) rfl rfl, p_t1 (i := 14) rfl rfl, by decide, by decide, by decide +kernel⟩
theorem mv_X12_finds : p_MV mX12_finds := ⟨p_t6 (i := 89) rfl rfl, p_mem (List.mem_append_left _ (by decide +kernel)) rfl⟩
def mX12_seesSender : pM := (yX12_seesSender, cX12_seesSender, 2, (some .boolean))
theorem mk_X12_seesSender : p_MK mX12_seesSender 1 := ⟨p_t6 (i := 94) rfl rfl, p_t1 (i := 14) rfl rfl, by decide, by decide, by decide +kernel⟩
theorem mv_X12_seesSender : p_MV mX12_seesSender := ⟨p_t6 (i := 93) rfl rfl, p_mem (List.mem_append_left _ (by decide +kernel)) rfl⟩
def mX12_isOf : pM := (yX12_isOf, cX12_isOf, 3, (some .boolean))
theorem mk_X12_isOf : p_MK mX12_isOf 2 := ⟨p_t6 (i := 98) rfl rfl, p_t1 (i := 14) rfl rfl, by decide, by decide, by decide +kernel⟩
theorem mv_X12_isOf : p_MV mX12_isOf := ⟨p_t6 (i := 97) rfl rfl, p_mem (List.mem_append_left _ (by decide +kernel)) rfl⟩
def mX12_isIn : pM := (yX12_isIn, cX12_isIn, 3, (some .boolean))
theorem mk_X12_isIn : p_MK mX12_isIn 3 := ⟨p_t6 (i := 101) rfl rfl, p_t1 (i := 14) rfl rfl, by decide, by decide, by decide +kernel⟩
theorem mz_X12_isIn : Cond.static mX12_isIn.1 ∈ p_tbl := p_t6 (i := 100) rfl rfl
def mX12_senderOf : pM := (yX12_senderOf, cX12_senderOf, 3, (some .int))
theorem mk_X12_senderOf : p_MK mX12_senderOf 2 := ⟨p_t6 (i := 105) rfl rfl, p_t1 (i := 14) rfl rfl, by decide, by decide, by decide +kernel⟩
theorem mv_X12_senderOf : p_MV mX12_senderOf := ⟨p_t6 (i := 104) rfl rfl, p_mem (List.mem_append_left _ (by decide +kernel)) rfl⟩
def mX12_isThere : pM := (yX12_isThere, cX12_isThere, 4, (some .boolean))
theorem mk_X12_isThere : p_MK mX12_isThere 2 := ⟨p_t6 (i := 109) rfl rfl, p_t1 (i := 14) rfl rfl, by decide, by decide, by decide +kernel⟩
theorem mv_X12_isThere : p_MV mX12_isThere := ⟨p_t6 (i := 108) rfl rfl, p_mem (List.mem_append_left _ (by decide +kernel)) rfl⟩
def mX12_isPoint : pM := (yX12_isPoint, cX12_isPoint, 2, (some .boolean))
theorem mk_X12_isPoint : p_MK mX12_isPoint 2 := ⟨p_t6 (i := 112) rfl rfl, p_t1 (i := 14) rfl rfl, by decide, by decide, by decide +kernel⟩
theorem mz_X12_isPoint : Cond.static mX12_isPoint.1 ∈ p_tbl := p_t6 (i := 111) rfl rfl
def mX12_from : pM := (yX12_from, cX12_from, 4, none)
theorem mk_X12_from : p_MK mX12_from 3 := ⟨p_t6 (i := 116) rfl rfl, p_t1 (i := 14) rfl rfl, by decide, by decide, by decide +kernel⟩
theorem mv_X12_from : p_MV mX12_from := ⟨p_t6 (i := 115) rfl rfl, p_mem (List.mem_append_left _ (by decide +kernel)) rfl⟩
def mX12_tries : pM := (yX12_tries, cX12_tries, 8, none)
theorem mk_X12_tries : p_MK mX12_tries 2 := ⟨p_t6 (i := 120) rfl rfl, p_t1 (i := 14) rfl rfl, by decide, by decide, by decide +kernel⟩
theorem mv_X12_tries : p_MV mX12_tries := ⟨p_t6 (i := 119) rfl rfl, p_mem (List.mem_append_left _ (by decide +kernel)) rfl⟩
def mX12_squares : pM := (yX12_squares, cX12_squares, 4, (some .long))
theorem mk_X12_squares : p_MK mX12_squares 2 := ⟨p_t6 (i := 123) rfl rfl, p_t1 (i := 14) rfl rfl, by decide, by decide, by decide +kernel⟩
theorem mz_X12_squares : Cond.static mX12_squares.1 ∈ p_tbl := p_t6 (i := 122) rfl rfl
def mX12_begins : pM := (yX12_begins, cX12_begins, 3, none)
theorem mk_X12_begins : p_MK mX12_begins 1 := ⟨p_t6 (i := 127) rfl rfl, p_t1 (i := 14) rfl rfl, by decide, by decide, by decide +kernel⟩
theorem mv_X12_begins : p_MV mX12_begins := ⟨p_t6 (i := 126) rfl rfl, p_mem (List.mem_append_left _ (by decide +kernel)) rfl⟩
def mX12_leg : pM := (yX12_leg, cX12_leg, 14, none)
theorem mk_X12_leg : p_MK mX12_leg 6 := ⟨p_t6 (i := 132) rfl rfl, p_t1 (i := 14) rfl rfl, by decide, by decide, by decide +kernel⟩
theorem mv_X12_leg : p_MV mX12_leg := ⟨p_t6 (i := 131) rfl rfl, p_mem (List.mem_append_left _ (by decide +kernel)) rfl⟩
def mX12_seesWall : pM := (yX12_seesWall, cX12_seesWall, 2, (some .boolean))
theorem mk_X12_seesWall : p_MK mX12_seesWall 1 := ⟨p_t6 (i := 136) rfl rfl, p_t1 (i := 14) rfl rfl, by decide, by decide, by decide +kernel⟩
theorem mv_X12_seesWall : p_MV mX12_seesWall := ⟨p_t6 (i := 135) rfl rfl, p_mem (List.mem_append_left _ (by decide +kernel)) rfl⟩
def mX12_wallOf : pM := (yX12_wallOf, cX12_wallOf, 3, (some .int))
theorem mk_X12_wallOf : p_MK mX12_wallOf 2 := ⟨p_t6 (i := 140) rfl rfl, p_t1 (i := 14) rfl rfl, by decide, by decide, by decide +kernel⟩
theorem mv_X12_wallOf : p_MV mX12_wallOf := ⟨p_t6 (i := 139) rfl rfl, p_mem (List.mem_append_left _ (by decide +kernel)) rfl⟩
def mX12_side : pM := (yX12_side, cX12_side, 8, (some .long))
theorem mk_X12_side : p_MK mX12_side 4 := ⟨p_t6 (i := 144) rfl rfl, p_t1 (i := 14) rfl rfl, by decide, by decide, by decide +kernel⟩
theorem mv_X12_side : p_MV mX12_side := ⟨p_t6 (i := 143) rfl rfl, p_mem (List.mem_append_left _ (by decide +kernel)) rfl⟩
def mX12_isUpright : pM := (yX12_isUpright, cX12_isUpright, 2, (some .boolean))
theorem mk_X12_isUpright : p_MK mX12_isUpright 1 := ⟨p_t6 (i := 148) rfl rfl, p_t1 (i := 14) rfl rfl, by decide, by decide, by decide +kernel⟩
theorem mv_X12_isUpright : p_MV mX12_isUpright := ⟨p_t6 (i := 147) rfl rfl, p_mem (List.mem_append_left _ (by decide +kernel)) rfl⟩
def mX12_areOpposite : pM := (yX12_areOpposite, cX12_areOpposite, 4, (some .boolean))
theorem mk_X12_areOpposite : p_MK mX12_areOpposite 2 := ⟨p_t6 (i := 151) rfl rfl, p_t1 (i := 14) rfl rfl, by decide, by decide, by decide +kernel⟩
theorem mz_X12_areOpposite : Cond.static mX12_areOpposite.1 ∈ p_tbl := p_t6 (i := 150) rfl rfl
def mX12_crosses : pM := (yX12_crosses, cX12_crosses, 18, (some .boolean))
theorem mk_X12_crosses : p_MK mX12_crosses 7 := ⟨p_t6 (i := 155) rfl rfl, p_t1 (i := 14) rfl rfl, by decide, by decide, by decide +kernel⟩
theorem mv_X12_crosses : p_MV mX12_crosses := ⟨p_t6 (i := 154) rfl rfl, p_mem (List.mem_append_left _ (by decide +kernel)) rfl⟩
def mX12_size : pM := (yX12_size, cX12_size, 2, (some .long))
theorem mk_X12_size : p_MK mX12_size 1 := ⟨p_t6 (i := 158) rfl rfl, p_t1 (i := 14) rfl rfl, by decide, by decide, by decide +kernel⟩
theorem mz_X12_size : Cond.static mX12_size.1 ∈ p_tbl := p_t6 (i := 157) rfl rfl
def mX12_weakens : pM := (yX12_weakens, cX12_weakens, 2, none)
theorem mk_X12_weakens : p_MK mX12_weakens 1 := ⟨p_t6 (i := 162) rfl rfl, p_t1 (i := 14) rfl rfl, by decide, by decide, by decide +kernel⟩
theorem mv_X12_weakens : p_MV mX12_weakens := ⟨p_t6 (i := 161) rfl rfl, p_mem (List.mem_append_left _ (by decide +kernel)) rfl⟩
def mX12_adds : pM := (yX12_adds, cX12_adds, 8, none)
theorem mk_X12_adds : p_MK mX12_adds 5 := ⟨p_t6 (i := 167) rfl rfl, p_t1 (i := 14) rfl rfl, by decide, by decide, by decide +kernel⟩
theorem mv_X12_adds : p_MV mX12_adds := ⟨p_t6 (i := 166) rfl rfl, p_mem (List.mem_append_left _ (by decide +kernel)) rfl⟩
def mX12_byMirror : pM := (yX12_byMirror, cX12_byMirror, 14, none)
theorem mk_X12_byMirror : p_MK mX12_byMirror 1 := ⟨p_t6 (i := 171) rfl rfl, p_t1 (i := 14) rfl rfl, by decide, by decide, by decide +kernel⟩
theorem mv_X12_byMirror : p_MV mX12_byMirror := ⟨p_t6 (i := 170) rfl rfl, p_mem (List.mem_append_left _ (by decide +kernel)) rfl⟩
def mX12_areAlike : pM := (yX12_areAlike, cX12_areAlike, 4, (some .boolean))
theorem mk_X12_areAlike : p_MK mX12_areAlike 2 := ⟨p_t6 (i := 174) rfl rfl, p_t1 (i := 14) rfl rfl, by decide, by decide, by decide +kernel⟩
theorem mz_X12_areAlike : Cond.static mX12_areAlike.1 ∈ p_tbl := p_t6 (i := 173) rfl rfl
def mX12_mirrorX : pM := (yX12_mirrorX, cX12_mirrorX, 4, (some .long))
theorem mk_X12_mirrorX : p_MK mX12_mirrorX 2 := ⟨p_t6 (i := 178) rfl rfl, p_t1 (i := 14) rfl rfl, by decide, by decide, by decide +kernel⟩
theorem mv_X12_mirrorX : p_MV mX12_mirrorX := ⟨p_t6 (i := 177) rfl rfl, p_mem (List.mem_append_left _ (by decide +kernel)) rfl⟩
def mX12_mirrorY : pM := (yX12_mirrorY, cX12_mirrorY, 4, (some .long))
theorem mk_X12_mirrorY : p_MK mX12_mirrorY 2 := ⟨p_t6 (i := 183) rfl rfl, p_t1 (i := 14) rfl rfl, by decide, by decide, by decide +kernel⟩
theorem mv_X12_mirrorY : p_MV mX12_mirrorY := ⟨p_t6 (i := 182) rfl rfl, p_mem (List.mem_append_left _ (by decide +kernel)) rfl⟩
def mX12_byMirrors : pM := (yX12_byMirrors, cX12_byMirrors, 25, none)
theorem mk_X12_byMirrors : p_MK mX12_byMirrors 2 := ⟨p_t6 (i := 187) rfl rfl, p_t1 (i := 14) rfl rfl, by decide, by decide, by decide +kernel⟩
theorem mv_X12_byMirrors : p_MV mX12_byMirrors := ⟨p_t6 (i := 186) rfl rfl, p_mem (List.mem_append_left _ (by decide +kernel)) rfl⟩
def mX12_byCorner : pM := (yX12_byCorner, cX12_byCorner, 9, none)
theorem mk_X12_byCorner : p_MK mX12_byCorner 2 := ⟨p_t6 (i := 191) rfl rfl, p_t1 (i := 14) rfl rfl, by decide, by decide, by decide +kernel⟩
theorem mv_X12_byCorner : p_MV mX12_byCorner := ⟨p_t6 (i := 190) rfl rfl, p_mem (List.mem_append_left _ (by decide +kernel)) rfl⟩
def mX12_isEndAhead : pM := (yX12_isEndAhead, cX12_isEndAhead, 6, (some .boolean))
theorem mk_X12_isEndAhead : p_MK mX12_isEndAhead 3 := ⟨p_t6 (i := 195) rfl rfl, p_t1 (i := 14) rfl rfl, by decide, by decide, by decide +kernel⟩
theorem mv_X12_isEndAhead : p_MV mX12_isEndAhead := ⟨p_t6 (i := 194) rfl rfl, p_mem (List.mem_append_left _ (by decide +kernel)) rfl⟩
def mX12_root : pM := (yX12_root, cX12_root, 8, (some .long))
theorem mk_X12_root : p_MK mX12_root 1 := ⟨p_t6 (i := 198) rfl rfl, p_t1 (i := 14) rfl rfl, by decide, by decide, by decide +kernel⟩
theorem mz_X12_root : Cond.static mX12_root.1 ∈ p_tbl := p_t6 (i := 197) rfl rfl
def mX12_orders : pM := (yX12_orders, cX12_orders, 3, none)
theorem mk_X12_orders : p_MK mX12_orders 0 := ⟨p_t6 (i := 203) rfl rfl, p_t1 (i := 14) rfl rfl, by decide, by decide, by decide +kernel⟩
theorem mv_X12_orders : p_MV mX12_orders := ⟨p_t6 (i := 202) rfl rfl, p_mem (List.mem_append_left _ (by decide +kernel)) rfl⟩
def mX12_isAhead : pM := (yX12_isAhead, cX12_isAhead, 4, (some .boolean))
theorem mk_X12_isAhead : p_MK mX12_isAhead 2 := ⟨p_t6 (i := 207) rfl rfl, p_t1 (i := 14) rfl rfl, by decide, by decide, by decide +kernel⟩
theorem mv_X12_isAhead : p_MV mX12_isAhead := ⟨p_t6 (i := 206) rfl rfl, p_mem (List.mem_append_left _ (by decide +kernel)) rfl⟩
def mX12_lengths : pM := (yX12_lengths, cX12_lengths, 3, (some .int))
theorem mk_X12_lengths : p_MK mX12_lengths 2 := ⟨p_t6 (i := 211) rfl rfl, p_t1 (i := 14) rfl rfl, by decide, by decide, by decide +kernel⟩
theorem mv_X12_lengths : p_MV mX12_lengths := ⟨p_t6 (i := 210) rfl rfl, p_mem (List.mem_append_left _ (by decide +kernel)) rfl⟩
def mX12_compareRoots : pM := (yX12_compareRoots, cX12_compareRoots, 10, (some .int))
theorem mk_X12_compareRoots : p_MK mX12_compareRoots 4 := ⟨p_t6 (i := 214) rfl rfl, p_t1 (i := 14) rfl rfl, by decide, by decide, by decide +kernel⟩
theorem mz_X12_compareRoots : Cond.static mX12_compareRoots.1 ∈ p_tbl := p_t6 (i := 213) rfl rfl
def mX12_withMore : pM := (yX12_withMore, cX12_withMore, 12, (some .int))
theorem mk_X12_withMore : p_MK mX12_withMore 3 := ⟨p_t6 (i := 218) rfl rfl, p_t1 (i := 14) rfl rfl, by decide, by decide, by decide +kernel⟩
theorem mz_X12_withMore : Cond.static mX12_withMore.1 ∈ p_tbl := p_t6 (i := 217) rfl rfl
def mX12_ways : pM := (yX12_ways, cX12_ways, 4, (some .int))
theorem mk_X12_ways : p_MK mX12_ways 3 := ⟨p_t6 (i := 222) rfl rfl, p_t1 (i := 14) rfl rfl, by decide, by decide, by decide +kernel⟩
theorem mv_X12_ways : p_MV mX12_ways := ⟨p_t6 (i := 220) rfl rfl, p_t6 (i := 221) rfl rfl⟩
def mX12_way : pM := (yX12_way, cX12_way, 7, (some .int))
theorem mk_X12_way : p_MK mX12_way 5 := ⟨p_t6 (i := 226) rfl rfl, p_t1 (i := 14) rfl rfl, by decide, by decide, by decide +kernel⟩
theorem mv_X12_way : p_MV mX12_way := ⟨p_t6 (i := 224) rfl rfl, p_t6 (i := 225) rfl rfl⟩
def mX12_late : pM := (yX12_late, cX12_late, 2, (some .int))
theorem mk_X12_late : p_MK mX12_late 1 := ⟨p_t6 (i := 229) rfl rfl, p_t1 (i := 14) rfl rfl, by decide, by decide, by decide +kernel⟩
theorem mz_X12_late : Cond.static mX12_late.1 ∈ p_tbl := p_t6 (i := 228) rfl rfl
def mX12_compare : pM := (yX12_compare, cX12_compare, 11, (some .int))
theorem mk_X12_compare : p_MK mX12_compare 6 := ⟨p_t6 (i := 234) rfl rfl, p_t1 (i := 14) rfl rfl, by decide, by decide, by decide +kernel⟩
theorem mv_X12_compare : p_MV mX12_compare := ⟨p_t6 (i := 232) rfl rfl, p_t6 (i := 233) rfl rfl⟩
def mX12_signal : pM := (yX12_signal, cX12_signal, 4, (some .int))
theorem mk_X12_signal : p_MK mX12_signal 3 := ⟨p_t6 (i := 238) rfl rfl, p_t1 (i := 14) rfl rfl, by decide, by decide, by decide +kernel⟩
theorem mv_X12_signal : p_MV mX12_signal := ⟨p_t6 (i := 236) rfl rfl, p_t6 (i := 237) rfl rfl⟩
def mX12_signalOf : pM := (yX12_signalOf, cX12_signalOf, 5, (some .int))
theorem mk_X12_signalOf : p_MK mX12_signalOf 3 := ⟨p_t7 (i := 2) rfl rfl, p_t1 (i := 14) rfl rfl, by decide, by decide, by decide +kernel⟩
theorem mv_X12_signalOf : p_MV mX12_signalOf := ⟨p_t7 (i := 1) rfl rfl, p_mem (List.mem_append_left _ (by decide +kernel)) rfl⟩
def mX12_sum : pM := (yX12_sum, cX12_sum, 3, (some .int))
theorem mk_X12_sum : p_MK mX12_sum 0 := ⟨p_t7 (i := 6) rfl rfl, p_t1 (i := 14) rfl rfl, by decide, by decide, by decide +kernel⟩
theorem mv_X12_sum : p_MV mX12_sum := ⟨p_t7 (i := 5) rfl rfl, p_mem (List.mem_append_left _ (by decide +kernel)) rfl⟩
def mX12_heard : pM := (yX12_heard, cX12_heard, 5, (some .int))
theorem mk_X12_heard : p_MK mX12_heard 2 := ⟨p_t7 (i := 10) rfl rfl, p_t1 (i := 14) rfl rfl, by decide, by decide, by decide +kernel⟩
theorem mv_X12_heard : p_MV mX12_heard := ⟨p_t7 (i := 8) rfl rfl, p_t7 (i := 9) rfl rfl⟩
def mX12_isHeard : pM := (yX12_isHeard, cX12_isHeard, 8, (some .boolean))
theorem mk_X12_isHeard : p_MK mX12_isHeard 3 := ⟨p_t7 (i := 14) rfl rfl, p_t1 (i := 14) rfl rfl, by decide, by decide, by decide +kernel⟩
theorem mv_X12_isHeard : p_MV mX12_isHeard := ⟨p_t7 (i := 13) rfl rfl, p_mem (List.mem_append_left _ (by decide +kernel)) rfl⟩
def mX12_best : pM := (yX12_best, cX12_best, 3, (some .int))
theorem mk_X12_best : p_MK mX12_best 2 := ⟨p_t7 (i := 18) rfl rfl, p_t1 (i := 14) rfl rfl, by decide, by decide, by decide +kernel⟩
theorem mv_X12_best : p_MV mX12_best := ⟨p_t7 (i := 16) rfl rfl, p_t7 (i := 17) rfl rfl⟩
def mX12_bestAt : pM := (yX12_bestAt, cX12_bestAt, 5, (some .int))
theorem mk_X12_bestAt : p_MK mX12_bestAt 2 := ⟨p_t7 (i := 22) rfl rfl, p_t1 (i := 14) rfl rfl, by decide, by decide, by decide +kernel⟩
theorem mv_X12_bestAt : p_MV mX12_bestAt := ⟨p_t7 (i := 21) rfl rfl, p_mem (List.mem_append_left _ (by decide +kernel)) rfl⟩
def mX12_step : pM := (yX12_step, cX12_step, 3, (some .int))
theorem mk_X12_step : p_MK mX12_step 2 := ⟨p_t7 (i := 26) rfl rfl, p_t1 (i := 14) rfl rfl, by decide, by decide, by decide +kernel⟩
theorem mv_X12_step : p_MV mX12_step := ⟨p_t7 (i := 24) rfl rfl, p_t7 (i := 25) rfl rfl⟩
def mX12_unwalk : pM := (yX12_unwalk, cX12_unwalk, 1, none)
theorem mk_X12_unwalk : p_MK mX12_unwalk 0 := ⟨p_t7 (i := 30) rfl rfl, p_t1 (i := 14) rfl rfl, by decide, by decide, by decide +kernel⟩
theorem mv_X12_unwalk : p_MV mX12_unwalk := ⟨p_t7 (i := 28) rfl rfl, p_t7 (i := 29) rfl rfl⟩
def mX12_served : pM := (yX12_served, cX12_served, 2, (some .int))
theorem mk_X12_served : p_MK mX12_served 1 := ⟨p_t7 (i := 34) rfl rfl, p_t1 (i := 14) rfl rfl, by decide, by decide, by decide +kernel⟩
theorem mv_X12_served : p_MV mX12_served := ⟨p_t7 (i := 32) rfl rfl, p_t7 (i := 33) rfl rfl⟩
def mX12_walks : pM := (yX12_walks, cX12_walks, 7, none)
theorem mk_X12_walks : p_MK mX12_walks 0 := ⟨p_t7 (i := 38) rfl rfl, p_t1 (i := 14) rfl rfl, by decide, by decide, by decide +kernel⟩
theorem mv_X12_walks : p_MV mX12_walks := ⟨p_t7 (i := 37) rfl rfl, p_mem (List.mem_append_left _ (by decide +kernel)) rfl⟩
def mX12_walk : pM := (yX12_walk, cX12_walk, 5, (some .int))
theorem mk_X12_walk : p_MK mX12_walk 1 := ⟨p_t7 (i := 42) rfl rfl, p_t1 (i := 14) rfl rfl, by decide, by decide, by decide +kernel⟩
theorem mv_X12_walk : p_MV mX12_walk := ⟨p_t7 (i := 40) rfl rfl, p_t7 (i := 41) rfl rfl⟩
def mX12_serves : pM := (yX12_serves, cX12_serves, 3, (some .int))
theorem mk_X12_serves : p_MK mX12_serves 2 := ⟨p_t7 (i := 46) rfl rfl, p_t1 (i := 14) rfl rfl, by decide, by decide, by decide +kernel⟩
theorem mv_X12_serves : p_MV mX12_serves := ⟨p_t7 (i := 44) rfl rfl, p_t7 (i := 45) rfl rfl⟩
def mX12_siteSignal : pM := (yX12_siteSignal, cX12_siteSignal, 4, (some .int))
theorem mk_X12_siteSignal : p_MK mX12_siteSignal 2 := ⟨p_t7 (i := 50) rfl rfl, p_t1 (i := 14) rfl rfl, by decide, by decide, by decide +kernel⟩
theorem mv_X12_siteSignal : p_MV mX12_siteSignal := ⟨p_t7 (i := 49) rfl rfl, p_mem (List.mem_append_left _ (by decide +kernel)) rfl⟩
def mX12_cover : pM := (yX12_cover, cX12_cover, 2, (some .int))
theorem mk_X12_cover : p_MK mX12_cover 1 := ⟨p_t7 (i := 54) rfl rfl, p_t1 (i := 14) rfl rfl, by decide, by decide, by decide +kernel⟩
theorem mv_X12_cover : p_MV mX12_cover := ⟨p_t7 (i := 52) rfl rfl, p_t7 (i := 53) rfl rfl⟩
def mX12_covers : pM := (yX12_covers, cX12_covers, 8, (some .boolean))
theorem mk_X12_covers : p_MK mX12_covers 0 := ⟨p_t7 (i := 58) rfl rfl, p_t1 (i := 14) rfl rfl, by decide, by decide, by decide +kernel⟩
theorem mv_X12_covers : p_MV mX12_covers := ⟨p_t7 (i := 57) rfl rfl, p_mem (List.mem_append_left _ (by decide +kernel)) rfl⟩
def mX12_clash : pM := (yX12_clash, cX12_clash, 3, (some .boolean))
theorem mk_X12_clash : p_MK mX12_clash 2 := ⟨p_t7 (i := 62) rfl rfl, p_t1 (i := 14) rfl rfl, by decide, by decide, by decide +kernel⟩
theorem mv_X12_clash : p_MV mX12_clash := ⟨p_t7 (i := 60) rfl rfl, p_t7 (i := 61) rfl rfl⟩
def mX12_clashes : pM := (yX12_clashes, cX12_clashes, 7, (some .boolean))
theorem mk_X12_clashes : p_MK mX12_clashes 2 := ⟨p_t7 (i := 66) rfl rfl, p_t1 (i := 14) rfl rfl, by decide, by decide, by decide +kernel⟩
theorem mv_X12_clashes : p_MV mX12_clashes := ⟨p_t7 (i := 65) rfl rfl, p_mem (List.mem_append_left _ (by decide +kernel)) rfl⟩
def mX12_colour : pM := (yX12_colour, cX12_colour, 2, (some .int))
theorem mk_X12_colour : p_MK mX12_colour 1 := ⟨p_t7 (i := 70) rfl rfl, p_t1 (i := 14) rfl rfl, by decide, by decide, by decide +kernel⟩
theorem mv_X12_colour : p_MV mX12_colour := ⟨p_t7 (i := 68) rfl rfl, p_t7 (i := 69) rfl rfl⟩
def mX12_colouring : pM := (yX12_colouring, cX12_colouring, 4, (some .int))
theorem mk_X12_colouring : p_MK mX12_colouring 0 := ⟨p_t7 (i := 74) rfl rfl, p_t1 (i := 14) rfl rfl, by decide, by decide, by decide +kernel⟩
theorem mv_X12_colouring : p_MV mX12_colouring := ⟨p_t7 (i := 73) rfl rfl, p_mem (List.mem_append_left _ (by decide +kernel)) rfl⟩
def mX12_colours : pM := (yX12_colours, cX12_colours, 5, (some .boolean))
theorem mk_X12_colours : p_MK mX12_colours 1 := ⟨p_t7 (i := 78) rfl rfl, p_t1 (i := 14) rfl rfl, by decide, by decide, by decide +kernel⟩
theorem mv_X12_colours : p_MV mX12_colours := ⟨p_t7 (i := 77) rfl rfl, p_mem (List.mem_append_left _ (by decide +kernel)) rfl⟩
def mX12_isApart : pM := (yX12_isApart, cX12_isApart, 4, (some .boolean))
theorem mk_X12_isApart : p_MK mX12_isApart 1 := ⟨p_t7 (i := 82) rfl rfl, p_t1 (i := 14) rfl rfl, by decide, by decide, by decide +kernel⟩
theorem mv_X12_isApart : p_MV mX12_isApart := ⟨p_t7 (i := 81) rfl rfl, p_mem (List.mem_append_left _ (by decide +kernel)) rfl⟩
def mX12_span : pM := (yX12_span, cX12_span, 4, (some .boolean))
theorem mk_X12_span : p_MK mX12_span 3 := ⟨p_t7 (i := 86) rfl rfl, p_t1 (i := 14) rfl rfl, by decide, by decide, by decide +kernel⟩
theorem mv_X12_span : p_MV mX12_span := ⟨p_t7 (i := 84) rfl rfl, p_t7 (i := 85) rfl rfl⟩
def mX12_places : pM := (yX12_places, cX12_places, 3, (some .int))
theorem mk_X12_places : p_MK mX12_places 0 := ⟨p_t7 (i := 91) rfl rfl, p_t1 (i := 14) rfl rfl, by decide, by decide, by decide +kernel⟩
theorem mv_X12_places : p_MV mX12_places := ⟨p_t7 (i := 89) rfl rfl, p_t7 (i := 90) rfl rfl⟩
def mX12_fits : pM := (yX12_fits, cX12_fits, 5, (some .boolean))
theorem mk_X12_fits : p_MK mX12_fits 2 := ⟨p_t7 (i := 95) rfl rfl, p_t1 (i := 14) rfl rfl, by decide, by decide, by decide +kernel⟩
theorem mv_X12_fits : p_MV mX12_fits := ⟨p_t7 (i := 94) rfl rfl, p_mem (List.mem_append_left _ (by decide +kernel)) rfl⟩
def mX12_place : pM := (yX12_place, cX12_place, 4, (some .int))
theorem mk_X12_place : p_MK mX12_place 1 := ⟨p_t7 (i := 99) rfl rfl, p_t1 (i := 14) rfl rfl, by decide, by decide, by decide +kernel⟩
theorem mv_X12_place : p_MV mX12_place := ⟨p_t7 (i := 97) rfl rfl, p_t7 (i := 98) rfl rfl⟩
def mX12_echo : pM := (yX12_echo, cX12_echo, 11, (some .int))
theorem mk_X12_echo : p_MK mX12_echo 5 := ⟨p_t7 (i := 103) rfl rfl, p_t1 (i := 14) rfl rfl, by decide, by decide, by decide +kernel⟩
theorem mv_X12_echo : p_MV mX12_echo := ⟨p_t7 (i := 101) rfl rfl, p_t7 (i := 102) rfl rfl⟩
def mX12_echoes : pM := (yX12_echoes, cX12_echoes, 6, (some .boolean))
theorem mk_X12_echoes : p_MK mX12_echoes 5 := ⟨p_t7 (i := 106) rfl rfl, p_t1 (i := 14) rfl rfl, by decide, by decide, by decide +kernel⟩
theorem mz_X12_echoes : Cond.static mX12_echoes.1 ∈ p_tbl := p_t7 (i := 105) rfl rfl
def mX12_feed : pM := (yX12_feed, cX12_feed, 8, (some .int))
theorem mk_X12_feed : p_MK mX12_feed 5 := ⟨p_t7 (i := 110) rfl rfl, p_t1 (i := 14) rfl rfl, by decide, by decide, by decide +kernel⟩
theorem mv_X12_feed : p_MV mX12_feed := ⟨p_t7 (i := 108) rfl rfl, p_t7 (i := 109) rfl rfl⟩
def mX12_end : pM := (yX12_end, cX12_end, 2, (some .int))
theorem mk_X12_end : p_MK mX12_end 1 := ⟨p_t7 (i := 114) rfl rfl, p_t1 (i := 14) rfl rfl, by decide, by decide, by decide +kernel⟩
theorem mv_X12_end : p_MV mX12_end := ⟨p_t7 (i := 112) rfl rfl, p_t7 (i := 113) rfl rfl⟩
def mX12_town : pM := (yX12_town, cX12_town, 2, (some .int))
theorem mk_X12_town : p_MK mX12_town 0 := ⟨p_t7 (i := 118) rfl rfl, p_t1 (i := 14) rfl rfl, by decide, by decide, by decide +kernel⟩
theorem mv_X12_town : p_MV mX12_town := ⟨p_t7 (i := 116) rfl rfl, p_t7 (i := 117) rfl rfl⟩
def mX12_reads : pM := (yX12_reads, cX12_reads, 1, none)
theorem mk_X12_reads : p_MK mX12_reads 0 := ⟨p_t7 (i := 122) rfl rfl, p_t1 (i := 14) rfl rfl, by decide, by decide, by decide +kernel⟩
theorem mv_X12_reads : p_MV mX12_reads := ⟨p_t7 (i := 121) rfl rfl, p_mem (List.mem_append_left _ (by decide +kernel)) rfl⟩
def mX12_advance : pM := (yX12_advance, cX12_advance, 4, none)
theorem mk_X12_advance : p_MK mX12_advance 0 := ⟨p_t7 (i := 126) rfl rfl, p_t1 (i := 14) rfl rfl, by decide, by decide, by decide +kernel⟩
theorem mv_X12_advance : p_MV mX12_advance := ⟨p_t7 (i := 125) rfl rfl, p_mem (List.mem_append_left _ (by decide +kernel)) rfl⟩
def mX12_byteAt : pM := (yX12_byteAt, cX12_byteAt, 2, (some .int))
theorem mk_X12_byteAt : p_MK mX12_byteAt 1 := ⟨p_t7 (i := 130) rfl rfl, p_t1 (i := 14) rfl rfl, by decide, by decide, by decide +kernel⟩
theorem mv_X12_byteAt : p_MV mX12_byteAt := ⟨p_t7 (i := 129) rfl rfl, p_mem (List.mem_append_left _ (by decide +kernel)) rfl⟩
def mX12_isLetter : pM := (yX12_isLetter, cX12_isLetter, 1, (some .boolean))
theorem mk_X12_isLetter : p_MK mX12_isLetter 1 := ⟨p_t7 (i := 133) rfl rfl, p_t1 (i := 14) rfl rfl, by decide, by decide, by decide +kernel⟩
theorem mz_X12_isLetter : Cond.static mX12_isLetter.1 ∈ p_tbl := p_t7 (i := 132) rfl rfl
def mX12_wordOf : pM := (yX12_wordOf, cX12_wordOf, 2, (some .int))
theorem mk_X12_wordOf : p_MK mX12_wordOf 1 := ⟨p_t7 (i := 138) rfl rfl, p_t1 (i := 14) rfl rfl, by decide, by decide, by decide +kernel⟩
theorem mz_X12_wordOf : Cond.static mX12_wordOf.1 ∈ p_tbl := p_t7 (i := 137) rfl rfl
def mX12_four : pM := (yX12_four, cX12_four, 4, (some .long))
theorem mk_X12_four : p_MK mX12_four 4 := ⟨p_t7 (i := 141) rfl rfl, p_t1 (i := 14) rfl rfl, by decide, by decide, by decide +kernel⟩
theorem mz_X12_four : Cond.static mX12_four.1 ∈ p_tbl := p_t7 (i := 140) rfl rfl
def mX12_three : pM := (yX12_three, cX12_three, 3, (some .long))
theorem mk_X12_three : p_MK mX12_three 3 := ⟨p_t7 (i := 144) rfl rfl, p_t1 (i := 14) rfl rfl, by decide, by decide, by decide +kernel⟩
theorem mz_X12_three : Cond.static mX12_three.1 ∈ p_tbl := p_t7 (i := 143) rfl rfl
def mX12_isDigit : pM := (yX12_isDigit, cX12_isDigit, 1, (some .boolean))
theorem mk_X12_isDigit : p_MK mX12_isDigit 1 := ⟨p_t7 (i := 153) rfl rfl, p_t1 (i := 14) rfl rfl, by decide, by decide, by decide +kernel⟩
theorem mz_X12_isDigit : Cond.static mX12_isDigit.1 ∈ p_tbl := p_t7 (i := 152) rfl rfl
def mX12_isSignByte : pM := (yX12_isSignByte, cX12_isSignByte, 1, (some .boolean))
theorem mk_X12_isSignByte : p_MK mX12_isSignByte 1 := ⟨p_t7 (i := 156) rfl rfl, p_t1 (i := 14) rfl rfl, by decide, by decide, by decide +kernel⟩
theorem mz_X12_isSignByte : Cond.static mX12_isSignByte.1 ∈ p_tbl := p_t7 (i := 155) rfl rfl
def mX12_aTownLine : pM := (yX12_aTownLine, cX12_aTownLine, 6, none)
theorem mk_X12_aTownLine : p_MK mX12_aTownLine 0 := ⟨p_t7 (i := 160) rfl rfl, p_t1 (i := 14) rfl rfl, by decide, by decide, by decide +kernel⟩
theorem mv_X12_aTownLine : p_MV mX12_aTownLine := ⟨p_t7 (i := 159) rfl rfl, p_mem (List.mem_append_left _ (by decide +kernel)) rfl⟩
def mX12_stops : pM := (yX12_stops, cX12_stops, 1, none)
theorem mk_X12_stops : p_MK mX12_stops 0 := ⟨p_t7 (i := 164) rfl rfl, p_t1 (i := 14) rfl rfl, by decide, by decide, by decide +kernel⟩
theorem mv_X12_stops : p_MV mX12_stops := ⟨p_t7 (i := 163) rfl rfl, p_mem (List.mem_append_left _ (by decide +kernel)) rfl⟩
def mX12_numbersOf : pM := (yX12_numbersOf, cX12_numbersOf, 1, (some .int))
theorem mk_X12_numbersOf : p_MK mX12_numbersOf 1 := ⟨p_t7 (i := 167) rfl rfl, p_t1 (i := 14) rfl rfl, by decide, by decide, by decide +kernel⟩
theorem mz_X12_numbersOf : Cond.static mX12_numbersOf.1 ∈ p_tbl := p_t7 (i := 166) rfl rfl
def mX12_numbered : pM := (yX12_numbered, cX12_numbered, 2, (some .int))
theorem mk_X12_numbered : p_MK mX12_numbered 0 := ⟨p_t7 (i := 171) rfl rfl, p_t1 (i := 14) rfl rfl, by decide, by decide, by decide +kernel⟩
theorem mv_X12_numbered : p_MV mX12_numbered := ⟨p_t7 (i := 170) rfl rfl, p_mem (List.mem_append_left _ (by decide +kernel)) rfl⟩
def mX12_mayBe : pM := (yX12_mayBe, cX12_mayBe, 3, (some .boolean))
theorem mk_X12_mayBe : p_MK mX12_mayBe 3 := ⟨p_t7 (i := 174) rfl rfl, p_t1 (i := 14) rfl rfl, by decide, by decide, by decide +kernel⟩
theorem mz_X12_mayBe : Cond.static mX12_mayBe.1 ∈ p_tbl := p_t7 (i := 173) rfl rfl
def mX12_also : pM := (yX12_also, cX12_also, 3, none)
theorem mk_X12_also : p_MK mX12_also 2 := ⟨p_t7 (i := 178) rfl rfl, p_t1 (i := 14) rfl rfl, by decide, by decide, by decide +kernel⟩
theorem mv_X12_also : p_MV mX12_also := ⟨p_t7 (i := 177) rfl rfl, p_mem (List.mem_append_left _ (by decide +kernel)) rfl⟩
def mX12_must : pM := (yX12_must, cX12_must, 2, none)
theorem mk_X12_must : p_MK mX12_must 1 := ⟨p_t7 (i := 182) rfl rfl, p_t1 (i := 14) rfl rfl, by decide, by decide, by decide +kernel⟩
theorem mv_X12_must : p_MV mX12_must := ⟨p_t7 (i := 181) rfl rfl, p_mem (List.mem_append_left _ (by decide +kernel)) rfl⟩
def mX12_mostOf : pM := (yX12_mostOf, cX12_mostOf, 1, (some .int))
theorem mk_X12_mostOf : p_MK mX12_mostOf 1 := ⟨p_t7 (i := 185) rfl rfl, p_t1 (i := 14) rfl rfl, by decide, by decide, by decide +kernel⟩
theorem mz_X12_mostOf : Cond.static mX12_mostOf.1 ∈ p_tbl := p_t7 (i := 184) rfl rfl
def mX12_comes : pM := (yX12_comes, cX12_comes, 6, none)
theorem mk_X12_comes : p_MK mX12_comes 1 := ⟨p_t7 (i := 189) rfl rfl, p_t1 (i := 14) rfl rfl, by decide, by decide, by decide +kernel⟩
theorem mv_X12_comes : p_MV mX12_comes := ⟨p_t7 (i := 188) rfl rfl, p_mem (List.mem_append_left _ (by decide +kernel)) rfl⟩
def mX12_law : pM := (yX12_law, cX12_law, 2, (some .int))
theorem mk_X12_law : p_MK mX12_law 0 := ⟨p_t7 (i := 193) rfl rfl, p_t1 (i := 14) rfl rfl, by decide, by decide, by decide +kernel⟩
theorem mv_X12_law : p_MV mX12_law := ⟨p_t7 (i := 191) rfl rfl, p_t7 (i := 192) rfl rfl⟩
def mX12_aLawLine : pM := (yX12_aLawLine, cX12_aLawLine, 4, none)
theorem mk_X12_aLawLine : p_MK mX12_aLawLine 0 := ⟨p_t7 (i := 197) rfl rfl, p_t1 (i := 14) rfl rfl, by decide, by decide, by decide +kernel⟩
theorem mv_X12_aLawLine : p_MV mX12_aLawLine := ⟨p_t7 (i := 196) rfl rfl, p_mem (List.mem_append_left _ (by decide +kernel)) rfl⟩
def mX12_takes : pM := (yX12_takes, cX12_takes, 2, (some .boolean))
theorem mk_X12_takes : p_MK mX12_takes 1 := ⟨p_t7 (i := 201) rfl rfl, p_t1 (i := 14) rfl rfl, by decide, by decide, by decide +kernel⟩
theorem mv_X12_takes : p_MV mX12_takes := ⟨p_t7 (i := 200) rfl rfl, p_mem (List.mem_append_left _ (by decide +kernel)) rfl⟩
def mX12_aTest : pM := (yX12_aTest, cX12_aTest, 1, none)
theorem mk_X12_aTest : p_MK mX12_aTest 0 := ⟨p_t7 (i := 205) rfl rfl, p_t1 (i := 14) rfl rfl, by decide, by decide, by decide +kernel⟩
theorem mv_X12_aTest : p_MV mX12_aTest := ⟨p_t7 (i := 204) rfl rfl, p_mem (List.mem_append_left _ (by decide +kernel)) rfl⟩
def mX12_puts : pM := (yX12_puts, cX12_puts, 3, none)
theorem mk_X12_puts : p_MK mX12_puts 2 := ⟨p_t7 (i := 209) rfl rfl, p_t1 (i := 14) rfl rfl, by decide, by decide, by decide +kernel⟩
theorem mv_X12_puts : p_MV mX12_puts := ⟨p_t7 (i := 208) rfl rfl, p_mem (List.mem_append_left _ (by decide +kernel)) rfl⟩
def mX12_fault : pM := (yX12_fault, cX12_fault, 2, (some .int))
theorem mk_X12_fault : p_MK mX12_fault 1 := ⟨p_t7 (i := 213) rfl rfl, p_t1 (i := 14) rfl rfl, by decide, by decide, by decide +kernel⟩
theorem mv_X12_fault : p_MV mX12_fault := ⟨p_t7 (i := 211) rfl rfl, p_t7 (i := 212) rfl rfl⟩
def mX12_why : pM := (yX12_why, cX12_why, 3, (some .int))
theorem mk_X12_why : p_MK mX12_why 2 := ⟨p_t7 (i := 217) rfl rfl, p_t1 (i := 14) rfl rfl, by decide, by decide, by decide +kernel⟩
theorem mv_X12_why : p_MV mX12_why := ⟨p_t7 (i := 215) rfl rfl, p_t7 (i := 216) rfl rfl⟩
def mX12_lineOf : pM := (yX12_lineOf, cX12_lineOf, 4, (some .int))
theorem mk_X12_lineOf : p_MK mX12_lineOf 2 := ⟨p_t7 (i := 221) rfl rfl, p_t1 (i := 14) rfl rfl, by decide, by decide, by decide +kernel⟩
theorem mv_X12_lineOf : p_MV mX12_lineOf := ⟨p_t7 (i := 220) rfl rfl, p_mem (List.mem_append_left _ (by decide +kernel)) rfl⟩
def mX12_holds : pM := (yX12_holds, cX12_holds, 10, (some .boolean))
theorem mk_X12_holds : p_MK mX12_holds 3 := ⟨p_t7 (i := 225) rfl rfl, p_t1 (i := 14) rfl rfl, by decide, by decide, by decide +kernel⟩
theorem mv_X12_holds : p_MV mX12_holds := ⟨p_t7 (i := 224) rfl rfl, p_mem (List.mem_append_left _ (by decide +kernel)) rfl⟩
def mX12_asked : pM := (yX12_asked, cX12_asked, 4, (some .int))
theorem mk_X12_asked : p_MK mX12_asked 3 := ⟨p_t7 (i := 229) rfl rfl, p_t1 (i := 14) rfl rfl, by decide, by decide, by decide +kernel⟩
theorem mv_X12_asked : p_MV mX12_asked := ⟨p_t7 (i := 228) rfl rfl, p_mem (List.mem_append_left _ (by decide +kernel)) rfl⟩
def mX12_isAlone : pM := (yX12_isAlone, cX12_isAlone, 4, (some .boolean))
theorem mk_X12_isAlone : p_MK mX12_isAlone 1 := ⟨p_t7 (i := 233) rfl rfl, p_t1 (i := 14) rfl rfl, by decide, by decide, by decide +kernel⟩
theorem mv_X12_isAlone : p_MV mX12_isAlone := ⟨p_t7 (i := 232) rfl rfl, p_mem (List.mem_append_left _ (by decide +kernel)) rfl⟩
def mX12_greatest : pM := (yX12_greatest, cX12_greatest, 5, (some .int))
theorem mk_X12_greatest : p_MK mX12_greatest 1 := ⟨p_t7 (i := 237) rfl rfl, p_t1 (i := 14) rfl rfl, by decide, by decide, by decide +kernel⟩
theorem mv_X12_greatest : p_MV mX12_greatest := ⟨p_t7 (i := 236) rfl rfl, p_mem (List.mem_append_left _ (by decide +kernel)) rfl⟩
def mX12_breach : pM := (yX12_breach, cX12_breach, 5, (some .int))
theorem mk_X12_breach : p_MK mX12_breach 1 := ⟨p_t8 (i := 1) rfl rfl, p_t1 (i := 14) rfl rfl, by decide, by decide, by decide +kernel⟩
theorem mv_X12_breach : p_MV mX12_breach := ⟨p_t7 (i := 239) rfl rfl, p_t8 (i := 0) rfl rfl⟩
def mX12_day : pM := (yX12_day, cX12_day, 2, (some .boolean))
theorem mk_X12_day : p_MK mX12_day 1 := ⟨p_t8 (i := 5) rfl rfl, p_t1 (i := 14) rfl rfl, by decide, by decide, by decide +kernel⟩
theorem mv_X12_day : p_MV mX12_day := ⟨p_t8 (i := 3) rfl rfl, p_t8 (i := 4) rfl rfl⟩
def mX12_view : pM := (yX12_view, cX12_view, 2, (some .boolean))
theorem mk_X12_view : p_MK mX12_view 1 := ⟨p_t8 (i := 9) rfl rfl, p_t1 (i := 14) rfl rfl, by decide, by decide, by decide +kernel⟩
theorem mv_X12_view : p_MV mX12_view := ⟨p_t8 (i := 7) rfl rfl, p_t8 (i := 8) rfl rfl⟩
def mX12_pull : pM := (yX12_pull, cX12_pull, 4, (some .boolean))
theorem mk_X12_pull : p_MK mX12_pull 2 := ⟨p_t8 (i := 13) rfl rfl, p_t1 (i := 14) rfl rfl, by decide, by decide, by decide +kernel⟩
theorem mv_X12_pull : p_MV mX12_pull := ⟨p_t8 (i := 11) rfl rfl, p_t8 (i := 12) rfl rfl⟩
def mX12_stuff : pM := (yX12_stuff, cX12_stuff, 4, (some .boolean))
theorem mk_X12_stuff : p_MK mX12_stuff 3 := ⟨p_t8 (i := 17) rfl rfl, p_t1 (i := 14) rfl rfl, by decide, by decide, by decide +kernel⟩
theorem mv_X12_stuff : p_MV mX12_stuff := ⟨p_t8 (i := 15) rfl rfl, p_t8 (i := 16) rfl rfl⟩
def mX12_set : pM := (yX12_set, cX12_set, 3, (some .boolean))
theorem mk_X12_set : p_MK mX12_set 2 := ⟨p_t8 (i := 21) rfl rfl, p_t1 (i := 14) rfl rfl, by decide, by decide, by decide +kernel⟩
theorem mv_X12_set : p_MV mX12_set := ⟨p_t8 (i := 19) rfl rfl, p_t8 (i := 20) rfl rfl⟩
def mX12_leastOf : pM := (yX12_leastOf, cX12_leastOf, 1, (some .int))
theorem mk_X12_leastOf : p_MK mX12_leastOf 1 := ⟨p_t8 (i := 24) rfl rfl, p_t1 (i := 14) rfl rfl, by decide, by decide, by decide +kernel⟩
theorem mz_X12_leastOf : Cond.static mX12_leastOf.1 ∈ p_tbl := p_t8 (i := 23) rfl rfl
def mX12_mostFor : pM := (yX12_mostFor, cX12_mostFor, 1, (some .int))
theorem mk_X12_mostFor : p_MK mX12_mostFor 1 := ⟨p_t8 (i := 27) rfl rfl, p_t1 (i := 14) rfl rfl, by decide, by decide, by decide +kernel⟩
theorem mz_X12_mostFor : Cond.static mX12_mostFor.1 ∈ p_tbl := p_t8 (i := 26) rfl rfl
def mX12_wall : pM := (yX12_wall, cX12_wall, 3, (some .int))
theorem mk_X12_wall : p_MK mX12_wall 2 := ⟨p_t8 (i := 31) rfl rfl, p_t1 (i := 14) rfl rfl, by decide, by decide, by decide +kernel⟩
theorem mv_X12_wall : p_MV mX12_wall := ⟨p_t8 (i := 29) rfl rfl, p_t8 (i := 30) rfl rfl⟩
def mX12_sender : pM := (yX12_sender, cX12_sender, 3, (some .int))
theorem mk_X12_sender : p_MK mX12_sender 2 := ⟨p_t8 (i := 35) rfl rfl, p_t1 (i := 14) rfl rfl, by decide, by decide, by decide +kernel⟩
theorem mv_X12_sender : p_MV mX12_sender := ⟨p_t8 (i := 33) rfl rfl, p_t8 (i := 34) rfl rfl⟩
def mX12_count : pM := (yX12_count, cX12_count, 5, (some .int))
theorem mk_X12_count : p_MK mX12_count 1 := ⟨p_t8 (i := 39) rfl rfl, p_t1 (i := 14) rfl rfl, by decide, by decide, by decide +kernel⟩
theorem mv_X12_count : p_MV mX12_count := ⟨p_t8 (i := 37) rfl rfl, p_t8 (i := 38) rfl rfl⟩
def mX12_image : pM := (yX12_image, cX12_image, 3, (some .boolean))
theorem mk_X12_image : p_MK mX12_image 1 := ⟨p_t8 (i := 43) rfl rfl, p_t1 (i := 14) rfl rfl, by decide, by decide, by decide +kernel⟩
theorem mv_X12_image : p_MV mX12_image := ⟨p_t8 (i := 41) rfl rfl, p_t8 (i := 42) rfl rfl⟩
def mX12_again : pM := (yX12_again, cX12_again, 3, (some .boolean))
theorem mk_X12_again : p_MK mX12_again 1 := ⟨p_t8 (i := 47) rfl rfl, p_t1 (i := 14) rfl rfl, by decide, by decide, by decide +kernel⟩
theorem mv_X12_again : p_MV mX12_again := ⟨p_t8 (i := 45) rfl rfl, p_t8 (i := 46) rfl rfl⟩
theorem fl_X11_10 : p_FL RX11 10 11 0 := ⟨(RX11, TX11, 8), rfl, by decide, rfl, p_t2 (i := 167) rfl rfl⟩
theorem fl_X11_16 : p_FL RX11 16 11 1 := ⟨(RX11, TX11, 8), rfl, by decide, rfl, p_t2 (i := 168) rfl rfl⟩
theorem fl_X11_23 : p_FL RX11 23 11 2 := ⟨(RX11, TX11, 8), rfl, by decide, rfl, p_t2 (i := 169) rfl rfl⟩
theorem fl_X11_32 : p_FL RX11 32 11 3 := ⟨(RX11, TX11, 8), rfl, by decide, rfl, p_t2 (i := 170) rfl rfl⟩
theorem fl_X11_41 : p_FL RX11 41 11 4 := ⟨(RX11, TX11, 8), rfl, by decide, rfl, p_t2 (i := 171) rfl rfl⟩
theorem fl_X11_48 : p_FL RX11 48 11 5 := ⟨(RX11, TX11, 8), rfl, by decide, rfl, p_t2 (i := 172) rfl rfl⟩
theorem fl_X11_55 : p_FL RX11 55 11 6 := ⟨(RX11, TX11, 8), rfl, by decide, rfl, p_t2 (i := 173) rfl rfl⟩
theorem fl_X11_62 : p_FL RX11 62 11 7 := ⟨(RX11, TX11, 8), rfl, by decide, rfl, p_t2 (i := 174) rfl rfl⟩
theorem fl_X11_66 : p_FL RX11 66 7 0 := ⟨(RX7, TX7, 13), rfl, by decide, rfl, p_t1 (i := 69) rfl rfl⟩
theorem fl_X11_99 : p_FL RX11 99 7 9 := ⟨(RX7, TX7, 13), rfl, by decide, rfl, p_t1 (i := 105) rfl rfl⟩
theorem fl_X11_103 : p_FL RX11 103 7 10 := ⟨(RX7, TX7, 13), rfl, by decide, rfl, p_t1 (i := 108) rfl rfl⟩
theorem fl_X11_106 : p_FL RX11 106 7 11 := ⟨(RX7, TX7, 13), rfl, by decide, rfl, p_t1 (i := 112) rfl rfl⟩
theorem fl_X11_109 : p_FL RX11 109 7 12 := ⟨(RX7, TX7, 13), rfl, by decide, rfl, p_t1 (i := 114) rfl rfl⟩
theorem fl_X11_112 : p_FL RX11 112 7 1 := ⟨(RX7, TX7, 13), rfl, by decide, rfl, p_t1 (i := 75) rfl rfl⟩
theorem fl_X11_115 : p_FL RX11 115 7 2 := ⟨(RX7, TX7, 13), rfl, by decide, rfl, p_t1 (i := 80) rfl rfl⟩
theorem fl_X11_126 : p_FL RX11 126 7 5 := ⟨(RX7, TX7, 13), rfl, by decide, rfl, p_t1 (i := 94) rfl rfl⟩
theorem fl_X11_139 : p_FL RX11 139 7 6 := ⟨(RX7, TX7, 13), rfl, by decide, rfl, p_t1 (i := 96) rfl rfl⟩
theorem fl_X11_186 : p_FL RX11 186 7 8 := ⟨(RX7, TX7, 13), rfl, by decide, rfl, p_t1 (i := 103) rfl rfl⟩
theorem fl_X11_204 : p_FL RX11 204 5 5 := ⟨(RX5, TX5, 9), rfl, by decide, rfl, p_t2 (i := 57) rfl rfl⟩
theorem fl_X11_207 : p_FL RX11 207 5 6 := ⟨(RX5, TX5, 9), rfl, by decide, rfl, p_t2 (i := 59) rfl rfl⟩
theorem fl_X11_210 : p_FL RX11 210 5 7 := ⟨(RX5, TX5, 9), rfl, by decide, rfl, p_t2 (i := 61) rfl rfl⟩
theorem fl_X11_248 : p_FL RX11 248 1 3 := ⟨(RX1, TX1, 5), rfl, by decide, rfl, p_t2 (i := 93) rfl rfl⟩
theorem fl_X11_251 : p_FL RX11 251 1 4 := ⟨(RX1, TX1, 5), rfl, by decide, rfl, p_t2 (i := 95) rfl rfl⟩
theorem fl_X11_260 : p_FL RX11 260 7 3 := ⟨(RX7, TX7, 13), rfl, by decide, rfl, p_t1 (i := 85) rfl rfl⟩
theorem fl_X11_263 : p_FL RX11 263 7 4 := ⟨(RX7, TX7, 13), rfl, by decide, rfl, p_t1 (i := 91) rfl rfl⟩
theorem fl_X11_266 : p_FL RX11 266 7 7 := ⟨(RX7, TX7, 13), rfl, by decide, rfl, p_t1 (i := 100) rfl rfl⟩
theorem fl_X11_269 : p_FL RX11 269 5 8 := ⟨(RX5, TX5, 9), rfl, by decide, rfl, p_t2 (i := 63) rfl rfl⟩
theorem fl_X0_7 : p_FL RX0 7 0 2 := ⟨(RX0, TX0, 9), rfl, by decide, rfl, p_t1 (i := 180) rfl rfl⟩
theorem fl_X0_13 : p_FL RX0 13 0 3 := ⟨(RX0, TX0, 9), rfl, by decide, rfl, p_t1 (i := 182) rfl rfl⟩
theorem fl_X0_16 : p_FL RX0 16 0 4 := ⟨(RX0, TX0, 9), rfl, by decide, rfl, p_t1 (i := 184) rfl rfl⟩
theorem fl_X0_20 : p_FL RX0 20 0 5 := ⟨(RX0, TX0, 9), rfl, by decide, rfl, p_t1 (i := 186) rfl rfl⟩
theorem fl_X0_23 : p_FL RX0 23 0 6 := ⟨(RX0, TX0, 9), rfl, by decide, rfl, p_t1 (i := 187) rfl rfl⟩
theorem fl_X0_26 : p_FL RX0 26 0 7 := ⟨(RX0, TX0, 9), rfl, by decide, rfl, p_t1 (i := 188) rfl rfl⟩
theorem fl_X0_29 : p_FL RX0 29 0 8 := ⟨(RX0, TX0, 9), rfl, by decide, rfl, p_t1 (i := 190) rfl rfl⟩
theorem fl_X0_32 : p_FL RX0 32 0 0 := ⟨(RX0, TX0, 9), rfl, by decide, rfl, p_t1 (i := 176) rfl rfl⟩
theorem fl_X0_35 : p_FL RX0 35 0 1 := ⟨(RX0, TX0, 9), rfl, by decide, rfl, p_t1 (i := 178) rfl rfl⟩
theorem fl_X0_45 : p_FL RX0 45 7 1 := ⟨(RX7, TX7, 13), rfl, by decide, rfl, p_t1 (i := 74) rfl rfl⟩
theorem fl_X0_55 : p_FL RX0 55 7 5 := ⟨(RX7, TX7, 13), rfl, by decide, rfl, p_t1 (i := 93) rfl rfl⟩
theorem fl_X0_58 : p_FL RX0 58 6 0 := ⟨(RX6, TX6, 3), rfl, by decide, rfl, p_t1 (i := 156) rfl rfl⟩
theorem fl_X0_64 : p_FL RX0 64 6 1 := ⟨(RX6, TX6, 3), rfl, by decide, rfl, p_t1 (i := 158) rfl rfl⟩
theorem fl_X0_67 : p_FL RX0 67 6 2 := ⟨(RX6, TX6, 3), rfl, by decide, rfl, p_t1 (i := 160) rfl rfl⟩
theorem fl_X1_9 : p_FL RX1 9 1 2 := ⟨(RX1, TX1, 5), rfl, by decide, rfl, p_t2 (i := 91) rfl rfl⟩
theorem fl_X1_15 : p_FL RX1 15 1 3 := ⟨(RX1, TX1, 5), rfl, by decide, rfl, p_t2 (i := 92) rfl rfl⟩
theorem fl_X1_19 : p_FL RX1 19 1 4 := ⟨(RX1, TX1, 5), rfl, by decide, rfl, p_t2 (i := 94) rfl rfl⟩
theorem fl_X1_22 : p_FL RX1 22 1 0 := ⟨(RX1, TX1, 5), rfl, by decide, rfl, p_t2 (i := 89) rfl rfl⟩
theorem fl_X1_26 : p_FL RX1 26 1 1 := ⟨(RX1, TX1, 5), rfl, by decide, rfl, p_t2 (i := 90) rfl rfl⟩
theorem fl_X1_30 : p_FL RX1 30 7 4 := ⟨(RX7, TX7, 13), rfl, by decide, rfl, p_t1 (i := 87) rfl rfl⟩
theorem fl_X1_70 : p_FL RX1 70 7 7 := ⟨(RX7, TX7, 13), rfl, by decide, rfl, p_t1 (i := 99) rfl rfl⟩
theorem fl_X1_93 : p_FL RX1 93 7 2 := ⟨(RX7, TX7, 13), rfl, by decide, rfl, p_t1 (i := 79) rfl rfl⟩
theorem fl_X2_12 : p_FL RX2 12 2 1 := ⟨(RX2, TX2, 14), rfl, by decide, rfl, p_t1 (i := 212) rfl rfl⟩
theorem fl_X2_18 : p_FL RX2 18 2 2 := ⟨(RX2, TX2, 14), rfl, by decide, rfl, p_t1 (i := 213) rfl rfl⟩
theorem fl_X2_21 : p_FL RX2 21 2 3 := ⟨(RX2, TX2, 14), rfl, by decide, rfl, p_t1 (i := 214) rfl rfl⟩
theorem fl_X2_24 : p_FL RX2 24 2 4 := ⟨(RX2, TX2, 14), rfl, by decide, rfl, p_t1 (i := 215) rfl rfl⟩
theorem fl_X2_27 : p_FL RX2 27 2 5 := ⟨(RX2, TX2, 14), rfl, by decide, rfl, p_t1 (i := 216) rfl rfl⟩
theorem fl_X2_30 : p_FL RX2 30 2 6 := ⟨(RX2, TX2, 14), rfl, by decide, rfl, p_t1 (i := 217) rfl rfl⟩
theorem fl_X2_33 : p_FL RX2 33 2 7 := ⟨(RX2, TX2, 14), rfl, by decide, rfl, p_t1 (i := 218) rfl rfl⟩
theorem fl_X2_41 : p_FL RX2 41 2 8 := ⟨(RX2, TX2, 14), rfl, by decide, rfl, p_t1 (i := 219) rfl rfl⟩
theorem fl_X2_45 : p_FL RX2 45 2 9 := ⟨(RX2, TX2, 14), rfl, by decide, rfl, p_t1 (i := 220) rfl rfl⟩
theorem fl_X2_49 : p_FL RX2 49 2 10 := ⟨(RX2, TX2, 14), rfl, by decide, rfl, p_t1 (i := 221) rfl rfl⟩
theorem fl_X2_53 : p_FL RX2 53 2 11 := ⟨(RX2, TX2, 14), rfl, by decide, rfl, p_t1 (i := 222) rfl rfl⟩
theorem fl_X2_56 : p_FL RX2 56 2 12 := ⟨(RX2, TX2, 14), rfl, by decide, rfl, p_t1 (i := 223) rfl rfl⟩
theorem fl_X2_59 : p_FL RX2 59 2 13 := ⟨(RX2, TX2, 14), rfl, by decide, rfl, p_t1 (i := 224) rfl rfl⟩
theorem fl_X2_67 : p_FL RX2 67 2 0 := ⟨(RX2, TX2, 14), rfl, by decide, rfl, p_t1 (i := 211) rfl rfl⟩
theorem fl_X2_81 : p_FL RX2 81 0 1 := ⟨(RX0, TX0, 9), rfl, by decide, rfl, p_t1 (i := 179) rfl rfl⟩
theorem fl_X2_130 : p_FL RX2 130 0 2 := ⟨(RX0, TX0, 9), rfl, by decide, rfl, p_t1 (i := 181) rfl rfl⟩
theorem fl_X2_138 : p_FL RX2 138 0 7 := ⟨(RX0, TX0, 9), rfl, by decide, rfl, p_t1 (i := 189) rfl rfl⟩
theorem fl_X2_141 : p_FL RX2 141 0 0 := ⟨(RX0, TX0, 9), rfl, by decide, rfl, p_t1 (i := 177) rfl rfl⟩
theorem fl_X2_164 : p_FL RX2 164 0 8 := ⟨(RX0, TX0, 9), rfl, by decide, rfl, p_t1 (i := 191) rfl rfl⟩
theorem fl_X3_11 : p_FL RX3 11 3 2 := ⟨(RX3, TX3, 8), rfl, by decide, rfl, p_t2 (i := 22) rfl rfl⟩
theorem fl_X3_15 : p_FL RX3 15 3 3 := ⟨(RX3, TX3, 8), rfl, by decide, rfl, p_t2 (i := 23) rfl rfl⟩
theorem fl_X3_18 : p_FL RX3 18 3 4 := ⟨(RX3, TX3, 8), rfl, by decide, rfl, p_t2 (i := 24) rfl rfl⟩
theorem fl_X3_21 : p_FL RX3 21 3 5 := ⟨(RX3, TX3, 8), rfl, by decide, rfl, p_t2 (i := 25) rfl rfl⟩
theorem fl_X3_24 : p_FL RX3 24 3 6 := ⟨(RX3, TX3, 8), rfl, by decide, rfl, p_t2 (i := 26) rfl rfl⟩
theorem fl_X3_28 : p_FL RX3 28 3 7 := ⟨(RX3, TX3, 8), rfl, by decide, rfl, p_t2 (i := 27) rfl rfl⟩
theorem fl_X3_31 : p_FL RX3 31 3 0 := ⟨(RX3, TX3, 8), rfl, by decide, rfl, p_t2 (i := 20) rfl rfl⟩
theorem fl_X3_35 : p_FL RX3 35 3 1 := ⟨(RX3, TX3, 8), rfl, by decide, rfl, p_t2 (i := 21) rfl rfl⟩
theorem fl_X3_53 : p_FL RX3 53 7 2 := ⟨(RX7, TX7, 13), rfl, by decide, rfl, p_t1 (i := 78) rfl rfl⟩
theorem fl_X3_63 : p_FL RX3 63 7 3 := ⟨(RX7, TX7, 13), rfl, by decide, rfl, p_t1 (i := 84) rfl rfl⟩
theorem fl_X3_71 : p_FL RX3 71 7 4 := ⟨(RX7, TX7, 13), rfl, by decide, rfl, p_t1 (i := 90) rfl rfl⟩
theorem fl_X3_98 : p_FL RX3 98 7 8 := ⟨(RX7, TX7, 13), rfl, by decide, rfl, p_t1 (i := 102) rfl rfl⟩
theorem fl_X4_19 : p_FL RX4 19 4 0 := ⟨(RX4, TX4, 2), rfl, by decide, rfl, p_t2 (i := 160) rfl rfl⟩
theorem fl_X4_25 : p_FL RX4 25 4 1 := ⟨(RX4, TX4, 2), rfl, by decide, rfl, p_t2 (i := 161) rfl rfl⟩
theorem fl_X4_33 : p_FL RX4 33 7 0 := ⟨(RX7, TX7, 13), rfl, by decide, rfl, p_t1 (i := 71) rfl rfl⟩
theorem fl_X4_55 : p_FL RX4 55 7 7 := ⟨(RX7, TX7, 13), rfl, by decide, rfl, p_t1 (i := 98) rfl rfl⟩
theorem fl_X5_9 : p_FL RX5 9 5 2 := ⟨(RX5, TX5, 9), rfl, by decide, rfl, p_t2 (i := 53) rfl rfl⟩
theorem fl_X5_15 : p_FL RX5 15 5 3 := ⟨(RX5, TX5, 9), rfl, by decide, rfl, p_t2 (i := 54) rfl rfl⟩
theorem fl_X5_18 : p_FL RX5 18 5 4 := ⟨(RX5, TX5, 9), rfl, by decide, rfl, p_t2 (i := 55) rfl rfl⟩
theorem fl_X5_21 : p_FL RX5 21 5 5 := ⟨(RX5, TX5, 9), rfl, by decide, rfl, p_t2 (i := 56) rfl rfl⟩
theorem fl_X5_25 : p_FL RX5 25 5 6 := ⟨(RX5, TX5, 9), rfl, by decide, rfl, p_t2 (i := 58) rfl rfl⟩
theorem fl_X5_28 : p_FL RX5 28 5 7 := ⟨(RX5, TX5, 9), rfl, by decide, rfl, p_t2 (i := 60) rfl rfl⟩
theorem fl_X5_31 : p_FL RX5 31 5 8 := ⟨(RX5, TX5, 9), rfl, by decide, rfl, p_t2 (i := 62) rfl rfl⟩
theorem fl_X5_34 : p_FL RX5 34 5 0 := ⟨(RX5, TX5, 9), rfl, by decide, rfl, p_t2 (i := 51) rfl rfl⟩
theorem fl_X5_38 : p_FL RX5 38 5 1 := ⟨(RX5, TX5, 9), rfl, by decide, rfl, p_t2 (i := 52) rfl rfl⟩
theorem fl_X5_45 : p_FL RX5 45 7 4 := ⟨(RX7, TX7, 13), rfl, by decide, rfl, p_t1 (i := 88) rfl rfl⟩
theorem fl_X5_57 : p_FL RX5 57 7 3 := ⟨(RX7, TX7, 13), rfl, by decide, rfl, p_t1 (i := 83) rfl rfl⟩
theorem fl_X6_7 : p_FL RX6 7 6 0 := ⟨(RX6, TX6, 3), rfl, by decide, rfl, p_t1 (i := 155) rfl rfl⟩
theorem fl_X6_13 : p_FL RX6 13 6 1 := ⟨(RX6, TX6, 3), rfl, by decide, rfl, p_t1 (i := 157) rfl rfl⟩
theorem fl_X6_16 : p_FL RX6 16 6 2 := ⟨(RX6, TX6, 3), rfl, by decide, rfl, p_t1 (i := 159) rfl rfl⟩
theorem fl_X6_19 : p_FL RX6 19 0 3 := ⟨(RX0, TX0, 9), rfl, by decide, rfl, p_t1 (i := 183) rfl rfl⟩
theorem fl_X6_27 : p_FL RX6 27 0 4 := ⟨(RX0, TX0, 9), rfl, by decide, rfl, p_t1 (i := 185) rfl rfl⟩
theorem fl_X7_14 : p_FL RX7 14 7 0 := ⟨(RX7, TX7, 13), rfl, by decide, rfl, p_t1 (i := 68) rfl rfl⟩
theorem fl_X7_20 : p_FL RX7 20 7 1 := ⟨(RX7, TX7, 13), rfl, by decide, rfl, p_t1 (i := 72) rfl rfl⟩
theorem fl_X7_23 : p_FL RX7 23 7 2 := ⟨(RX7, TX7, 13), rfl, by decide, rfl, p_t1 (i := 76) rfl rfl⟩
theorem fl_X7_26 : p_FL RX7 26 7 3 := ⟨(RX7, TX7, 13), rfl, by decide, rfl, p_t1 (i := 81) rfl rfl⟩
theorem fl_X7_29 : p_FL RX7 29 7 4 := ⟨(RX7, TX7, 13), rfl, by decide, rfl, p_t1 (i := 86) rfl rfl⟩
theorem fl_X7_32 : p_FL RX7 32 7 5 := ⟨(RX7, TX7, 13), rfl, by decide, rfl, p_t1 (i := 92) rfl rfl⟩
theorem fl_X7_39 : p_FL RX7 39 7 6 := ⟨(RX7, TX7, 13), rfl, by decide, rfl, p_t1 (i := 95) rfl rfl⟩
theorem fl_X7_44 : p_FL RX7 44 7 7 := ⟨(RX7, TX7, 13), rfl, by decide, rfl, p_t1 (i := 97) rfl rfl⟩
theorem fl_X7_47 : p_FL RX7 47 7 8 := ⟨(RX7, TX7, 13), rfl, by decide, rfl, p_t1 (i := 101) rfl rfl⟩
theorem fl_X7_50 : p_FL RX7 50 7 9 := ⟨(RX7, TX7, 13), rfl, by decide, rfl, p_t1 (i := 104) rfl rfl⟩
theorem fl_X7_54 : p_FL RX7 54 7 10 := ⟨(RX7, TX7, 13), rfl, by decide, rfl, p_t1 (i := 107) rfl rfl⟩
theorem fl_X7_57 : p_FL RX7 57 7 11 := ⟨(RX7, TX7, 13), rfl, by decide, rfl, p_t1 (i := 110) rfl rfl⟩
theorem fl_X7_60 : p_FL RX7 60 7 12 := ⟨(RX7, TX7, 13), rfl, by decide, rfl, p_t1 (i := 113) rfl rfl⟩
theorem fl_X8_15 : p_FL RX8 15 8 0 := ⟨(RX8, TX8, 4), rfl, by decide, rfl, p_t1 (i := 44) rfl rfl⟩
theorem fl_X8_21 : p_FL RX8 21 8 1 := ⟨(RX8, TX8, 4), rfl, by decide, rfl, p_t1 (i := 45) rfl rfl⟩
theorem fl_X8_24 : p_FL RX8 24 8 2 := ⟨(RX8, TX8, 4), rfl, by decide, rfl, p_t1 (i := 46) rfl rfl⟩
theorem fl_X8_28 : p_FL RX8 28 8 3 := ⟨(RX8, TX8, 4), rfl, by decide, rfl, p_t1 (i := 47) rfl rfl⟩
theorem fl_X9_11 : p_FL RX9 11 9 1 := ⟨(RX9, TX9, 6), rfl, by decide, rfl, p_t2 (i := 122) rfl rfl⟩
theorem fl_X9_15 : p_FL RX9 15 9 2 := ⟨(RX9, TX9, 6), rfl, by decide, rfl, p_t2 (i := 123) rfl rfl⟩
theorem fl_X9_18 : p_FL RX9 18 9 3 := ⟨(RX9, TX9, 6), rfl, by decide, rfl, p_t2 (i := 124) rfl rfl⟩
theorem fl_X9_21 : p_FL RX9 21 9 4 := ⟨(RX9, TX9, 6), rfl, by decide, rfl, p_t2 (i := 125) rfl rfl⟩
theorem fl_X9_24 : p_FL RX9 24 9 5 := ⟨(RX9, TX9, 6), rfl, by decide, rfl, p_t2 (i := 126) rfl rfl⟩
theorem fl_X9_27 : p_FL RX9 27 9 0 := ⟨(RX9, TX9, 6), rfl, by decide, rfl, p_t2 (i := 121) rfl rfl⟩
theorem fl_X9_65 : p_FL RX9 65 7 9 := ⟨(RX7, TX7, 13), rfl, by decide, rfl, p_t1 (i := 106) rfl rfl⟩
theorem fl_X9_68 : p_FL RX9 68 7 10 := ⟨(RX7, TX7, 13), rfl, by decide, rfl, p_t1 (i := 109) rfl rfl⟩
theorem fl_X10_19 : p_FL RX10 19 10 0 := ⟨(RX10, TX10, 3), rfl, by decide, rfl, p_t2 (i := 140) rfl rfl⟩
theorem fl_X10_25 : p_FL RX10 25 10 1 := ⟨(RX10, TX10, 3), rfl, by decide, rfl, p_t2 (i := 141) rfl rfl⟩
theorem fl_X10_29 : p_FL RX10 29 10 2 := ⟨(RX10, TX10, 3), rfl, by decide, rfl, p_t2 (i := 142) rfl rfl⟩
theorem fl_X10_32 : p_FL RX10 32 7 1 := ⟨(RX7, TX7, 13), rfl, by decide, rfl, p_t1 (i := 73) rfl rfl⟩
theorem fl_X10_42 : p_FL RX10 42 7 2 := ⟨(RX7, TX7, 13), rfl, by decide, rfl, p_t1 (i := 77) rfl rfl⟩
theorem fl_X10_45 : p_FL RX10 45 7 3 := ⟨(RX7, TX7, 13), rfl, by decide, rfl, p_t1 (i := 82) rfl rfl⟩
theorem fl_X10_48 : p_FL RX10 48 7 4 := ⟨(RX7, TX7, 13), rfl, by decide, rfl, p_t1 (i := 89) rfl rfl⟩
theorem fl_X10_51 : p_FL RX10 51 7 0 := ⟨(RX7, TX7, 13), rfl, by decide, rfl, p_t1 (i := 70) rfl rfl⟩
theorem fl_X10_131 : p_FL RX10 131 7 11 := ⟨(RX7, TX7, 13), rfl, by decide, rfl, p_t1 (i := 111) rfl rfl⟩
theorem fl_X12_7 : p_FL RX12 7 12 0 := ⟨(RX12, TX12, 41), rfl, by decide, rfl, p_t5 (i := 198) rfl rfl⟩
theorem fl_X12_13 : p_FL RX12 13 12 1 := ⟨(RX12, TX12, 41), rfl, by decide, rfl, p_t5 (i := 199) rfl rfl⟩
theorem fl_X12_17 : p_FL RX12 17 12 7 := ⟨(RX12, TX12, 41), rfl, by decide, rfl, p_t5 (i := 205) rfl rfl⟩
theorem fl_X12_20 : p_FL RX12 20 12 8 := ⟨(RX12, TX12, 41), rfl, by decide, rfl, p_t5 (i := 206) rfl rfl⟩
theorem fl_X12_23 : p_FL RX12 23 12 9 := ⟨(RX12, TX12, 41), rfl, by decide, rfl, p_t5 (i := 207) rfl rfl⟩
theorem fl_X12_26 : p_FL RX12 26 12 10 := ⟨(RX12, TX12, 41), rfl, by decide, rfl, p_t5 (i := 208) rfl rfl⟩
theorem fl_X12_29 : p_FL RX12 29 12 11 := ⟨(RX12, TX12, 41), rfl, by decide, rfl, p_t5 (i := 209) rfl rfl⟩
theorem fl_X12_32 : p_FL RX12 32 12 12 := ⟨(RX12, TX12, 41), rfl, by decide, rfl, p_t5 (i := 210) rfl rfl⟩
theorem fl_X12_35 : p_FL RX12 35 12 19 := ⟨(RX12, TX12, 41), rfl, by decide, rfl, p_t5 (i := 217) rfl rfl⟩
theorem fl_X12_38 : p_FL RX12 38 12 20 := ⟨(RX12, TX12, 41), rfl, by decide, rfl, p_t5 (i := 218) rfl rfl⟩
theorem fl_X12_41 : p_FL RX12 41 12 21 := ⟨(RX12, TX12, 41), rfl, by decide, rfl, p_t5 (i := 219) rfl rfl⟩
theorem fl_X12_44 : p_FL RX12 44 12 22 := ⟨(RX12, TX12, 41), rfl, by decide, rfl, p_t5 (i := 220) rfl rfl⟩
theorem fl_X12_47 : p_FL RX12 47 12 26 := ⟨(RX12, TX12, 41), rfl, by decide, rfl, p_t5 (i := 224) rfl rfl⟩
theorem fl_X12_50 : p_FL RX12 50 12 27 := ⟨(RX12, TX12, 41), rfl, by decide, rfl, p_t5 (i := 225) rfl rfl⟩
theorem fl_X12_53 : p_FL RX12 53 12 36 := ⟨(RX12, TX12, 41), rfl, by decide, rfl, p_t5 (i := 234) rfl rfl⟩
theorem fl_X12_56 : p_FL RX12 56 12 37 := ⟨(RX12, TX12, 41), rfl, by decide, rfl, p_t5 (i := 235) rfl rfl⟩
theorem fl_X12_59 : p_FL RX12 59 12 39 := ⟨(RX12, TX12, 41), rfl, by decide, rfl, p_t5 (i := 237) rfl rfl⟩
theorem fl_X12_62 : p_FL RX12 62 12 40 := ⟨(RX12, TX12, 41), rfl, by decide, rfl, p_t5 (i := 238) rfl rfl⟩
theorem fl_X12_98 : p_FL RX12 98 12 2 := ⟨(RX12, TX12, 41), rfl, by decide, rfl, p_t5 (i := 200) rfl rfl⟩
theorem fl_X12_102 : p_FL RX12 102 12 3 := ⟨(RX12, TX12, 41), rfl, by decide, rfl, p_t5 (i := 201) rfl rfl⟩
theorem fl_X12_105 : p_FL RX12 105 12 4 := ⟨(RX12, TX12, 41), rfl, by decide, rfl, p_t5 (i := 202) rfl rfl⟩
theorem fl_X12_108 : p_FL RX12 108 12 5 := ⟨(RX12, TX12, 41), rfl, by decide, rfl, p_t5 (i := 203) rfl rfl⟩
theorem fl_X12_124 : p_FL RX12 124 12 6 := ⟨(RX12, TX12, 41), rfl, by decide, rfl, p_t5 (i := 204) rfl rfl⟩
theorem fl_X12_136 : p_FL RX12 136 12 18 := ⟨(RX12, TX12, 41), rfl, by decide, rfl, p_t5 (i := 216) rfl rfl⟩
theorem fl_X12_142 : p_FL RX12 142 12 13 := ⟨(RX12, TX12, 41), rfl, by decide, rfl, p_t5 (i := 211) rfl rfl⟩
theorem fl_X12_145 : p_FL RX12 145 12 14 := ⟨(RX12, TX12, 41), rfl, by decide, rfl, p_t5 (i := 212) rfl rfl⟩
theorem fl_X12_148 : p_FL RX12 148 12 15 := ⟨(RX12, TX12, 41), rfl, by decide, rfl, p_t5 (i := 213) rfl rfl⟩
theorem fl_X12_151 : p_FL RX12 151 12 16 := ⟨(RX12, TX12, 41), rfl, by decide, rfl, p_t5 (i := 214) rfl rfl⟩
theorem fl_X12_154 : p_FL RX12 154 12 17 := ⟨(RX12, TX12, 41), rfl, by decide, rfl, p_t5 (i := 215) rfl rfl⟩
theorem fl_X12_260 : p_FL RX12 260 12 23 := ⟨(RX12, TX12, 41), rfl, by decide, rfl, p_t5 (i := 221) rfl rfl⟩
theorem fl_X12_263 : p_FL RX12 263 12 24 := ⟨(RX12, TX12, 41), rfl, by decide, rfl, p_t5 (i := 222) rfl rfl⟩
theorem fl_X12_266 : p_FL RX12 266 12 25 := ⟨(RX12, TX12, 41), rfl, by decide, rfl, p_t5 (i := 223) rfl rfl⟩
theorem fl_X12_293 : p_FL RX12 293 12 28 := ⟨(RX12, TX12, 41), rfl, by decide, rfl, p_t5 (i := 226) rfl rfl⟩
theorem fl_X12_320 : p_FL RX12 320 12 29 := ⟨(RX12, TX12, 41), rfl, by decide, rfl, p_t5 (i := 227) rfl rfl⟩
theorem fl_X12_327 : p_FL RX12 327 12 30 := ⟨(RX12, TX12, 41), rfl, by decide, rfl, p_t5 (i := 228) rfl rfl⟩
theorem fl_X12_330 : p_FL RX12 330 12 31 := ⟨(RX12, TX12, 41), rfl, by decide, rfl, p_t5 (i := 229) rfl rfl⟩
theorem fl_X12_339 : p_FL RX12 339 12 34 := ⟨(RX12, TX12, 41), rfl, by decide, rfl, p_t5 (i := 232) rfl rfl⟩
theorem fl_X12_345 : p_FL RX12 345 12 32 := ⟨(RX12, TX12, 41), rfl, by decide, rfl, p_t5 (i := 230) rfl rfl⟩
theorem fl_X12_348 : p_FL RX12 348 12 33 := ⟨(RX12, TX12, 41), rfl, by decide, rfl, p_t5 (i := 231) rfl rfl⟩
theorem fl_X12_354 : p_FL RX12 354 12 35 := ⟨(RX12, TX12, 41), rfl, by decide, rfl, p_t5 (i := 233) rfl rfl⟩
theorem fl_X12_363 : p_FL RX12 363 12 38 := ⟨(RX12, TX12, 41), rfl, by decide, rfl, p_t5 (i := 236) rfl rfl⟩
theorem ml_X11_1 : Cond.methodLink RX11 1 Lib.objectInit ∈ p_tbl := p_t1 (i := 26) rfl rfl
theorem ml_X11_9 : Cond.methodLink RX11 9 yX7_init ∈ p_tbl := p_t1 (i := 31) rfl rfl
theorem ml_X11_22 : Cond.methodLink RX11 22 yX2_init ∈ p_tbl := p_t1 (i := 145) rfl rfl
theorem ml_X11_29 : Cond.methodLink RX11 29 yX3_init ∈ p_tbl := p_t2 (i := 16) rfl rfl
theorem ml_X11_38 : Cond.methodLink RX11 38 yX5_init ∈ p_tbl := p_t2 (i := 47) rfl rfl
theorem ml_X11_47 : Cond.methodLink RX11 47 yX1_init ∈ p_tbl := p_t2 (i := 85) rfl rfl
theorem ml_X11_70 : Cond.methodLink RX11 70 yX8_size ∈ p_tbl := p_t2 (i := 196) rfl rfl
theorem ml_X11_76 : Cond.methodLink RX11 76 yX11_feedOne ∈ p_tbl := p_t2 (i := 200) rfl rfl
theorem ml_X11_80 : Cond.methodLink RX11 80 yX8_add ∈ p_tbl := p_t2 (i := 204) rfl rfl
theorem ml_X11_84 : Cond.methodLink RX11 84 yX8_put ∈ p_tbl := p_t2 (i := 205) rfl rfl
theorem ml_X11_88 : Cond.methodLink RX11 88 yX8_cut ∈ p_tbl := p_t2 (i := 210) rfl rfl
theorem ml_X11_91 : Cond.methodLink RX11 91 yX10_read ∈ p_tbl := p_t2 (i := 218) rfl rfl
theorem ml_X11_95 : Cond.methodLink RX11 95 yX11_refresh ∈ p_tbl := p_t3 (i := 140) rfl rfl
theorem ml_X11_98 : Cond.methodLink RX11 98 yX4_read ∈ p_tbl := p_t3 (i := 179) rfl rfl
theorem ml_X11_118 : Cond.methodLink RX11 118 yX8_has ∈ p_tbl := p_t4 (i := 13) rfl rfl
theorem ml_X11_122 : Cond.methodLink RX11 122 yX8_get ∈ p_tbl := p_t4 (i := 14) rfl rfl
theorem ml_X11_129 : Cond.methodLink RX11 129 yX11_isPercent ∈ p_tbl := p_t4 (i := 19) rfl rfl
theorem ml_X11_142 : Cond.methodLink RX11 142 yX2_build ∈ p_tbl := p_t3 (i := 144) rfl rfl
theorem ml_X11_146 : Cond.methodLink RX11 146 yX3_forget ∈ p_tbl := p_t3 (i := 170) rfl rfl
theorem ml_X11_149 : Cond.methodLink RX11 149 yX3_list ∈ p_tbl := p_t4 (i := 42) rfl rfl
theorem ml_X11_153 : Cond.methodLink RX11 153 yX2_sawTarget ∈ p_tbl := p_t4 (i := 143) rfl rfl
theorem ml_X11_156 : Cond.methodLink RX11 156 yX2_size ∈ p_tbl := p_t4 (i := 151) rfl rfl
theorem ml_X11_157 : Cond.methodLink RX11 157 yX2_lateness ∈ p_tbl := p_t4 (i := 159) rfl rfl
theorem ml_X11_161 : Cond.methodLink RX11 161 yX2_tell ∈ p_tbl := p_t4 (i := 167) rfl rfl
theorem ml_X11_164 : Cond.methodLink RX11 164 yX2_orderOfLengths ∈ p_tbl := p_t4 (i := 172) rfl rfl
theorem ml_X11_168 : Cond.methodLink RX11 168 yX3_signalAt ∈ p_tbl := p_t4 (i := 177) rfl rfl
theorem ml_X11_172 : Cond.methodLink RX11 172 yX11_isPoint ∈ p_tbl := p_t4 (i := 185) rfl rfl
theorem ml_X11_176 : Cond.methodLink RX11 176 yX3_listen ∈ p_tbl := p_t4 (i := 186) rfl rfl
theorem ml_X11_180 : Cond.methodLink RX11 180 yX3_heardBits ∈ p_tbl := p_t4 (i := 192) rfl rfl
theorem ml_X11_183 : Cond.methodLink RX11 183 yX3_bestHeard ∈ p_tbl := p_t4 (i := 207) rfl rfl
theorem ml_X11_189 : Cond.methodLink RX11 189 yX3_followWalk ∈ p_tbl := p_t4 (i := 223) rfl rfl
theorem ml_X11_192 : Cond.methodLink RX11 192 yX3_servedIn ∈ p_tbl := p_t4 (i := 234) rfl rfl
theorem ml_X11_195 : Cond.methodLink RX11 195 yX3_changes ∈ p_tbl := p_t5 (i := 2) rfl rfl
theorem ml_X11_198 : Cond.methodLink RX11 198 yX3_lost ∈ p_tbl := p_t5 (i := 7) rfl rfl
theorem ml_X11_201 : Cond.methodLink RX11 201 yX5_chooseSites ∈ p_tbl := p_t5 (i := 15) rfl rfl
theorem ml_X11_213 : Cond.methodLink RX11 213 yX3_siteSignal ∈ p_tbl := p_t5 (i := 53) rfl rfl
theorem ml_X11_216 : Cond.methodLink RX11 216 yX7_senderStands ∈ p_tbl := p_t5 (i := 58) rfl rfl
theorem ml_X11_219 : Cond.methodLink RX11 219 yX5_findReaches ∈ p_tbl := p_t5 (i := 59) rfl rfl
theorem ml_X11_222 : Cond.methodLink RX11 222 yX5_clashing ∈ p_tbl := p_t5 (i := 65) rfl rfl
theorem ml_X11_225 : Cond.methodLink RX11 225 yX5_paintSenders ∈ p_tbl := p_t5 (i := 76) rfl rfl
theorem ml_X11_228 : Cond.methodLink RX11 228 yX5_paintOf ∈ p_tbl := p_t5 (i := 87) rfl rfl
theorem ml_X11_232 : Cond.methodLink RX11 232 yX3_fits ∈ p_tbl := p_t5 (i := 100) rfl rfl
theorem ml_X11_235 : Cond.methodLink RX11 235 yX11_echoesAt ∈ p_tbl := p_t5 (i := 112) rfl rfl
theorem ml_X11_239 : Cond.methodLink RX11 239 yX1_hearSenders ∈ p_tbl := p_t5 (i := 119) rfl rfl
theorem ml_X11_242 : Cond.methodLink RX11 242 yX1_lineFor ∈ p_tbl := p_t5 (i := 128) rfl rfl
theorem ml_X11_245 : Cond.methodLink RX11 245 yX1_findBreach ∈ p_tbl := p_t5 (i := 154) rfl rfl
theorem ml_X11_254 : Cond.methodLink RX11 254 yX7_standingWalls ∈ p_tbl := p_t5 (i := 164) rfl rfl
theorem ml_X11_257 : Cond.methodLink RX11 257 yX7_standingSenders ∈ p_tbl := p_t5 (i := 170) rfl rfl
theorem ml_X11_272 : Cond.methodLink RX11 272 yX7_copy ∈ p_tbl := p_t5 (i := 179) rfl rfl
theorem ml_X0_1 : Cond.methodLink RX0 1 Lib.objectInit ∈ p_tbl := p_t1 (i := 175) rfl rfl
theorem ml_X0_39 : Cond.methodLink RX0 39 yX7_wallStands ∈ p_tbl := p_t3 (i := 157) rfl rfl
theorem ml_X0_49 : Cond.methodLink RX0 49 yX8_get ∈ p_tbl := p_t3 (i := 169) rfl rfl
theorem ml_X0_70 : Cond.methodLink RX0 70 yX6_put ∈ p_tbl := p_t4 (i := 115) rfl rfl
theorem ml_X1_3 : Cond.methodLink RX1 3 Lib.objectInit ∈ p_tbl := p_t2 (i := 88) rfl rfl
theorem ml_X1_36 : Cond.methodLink RX1 36 yX8_size ∈ p_tbl := p_t5 (i := 123) rfl rfl
theorem ml_X1_42 : Cond.methodLink RX1 42 yX8_get ∈ p_tbl := p_t5 (i := 124) rfl rfl
theorem ml_X1_46 : Cond.methodLink RX1 46 yX3_signalAt ∈ p_tbl := p_t5 (i := 125) rfl rfl
theorem ml_X1_52 : Cond.methodLink RX1 52 Lib.Math.max.name ∈ p_tbl := p_t5 (i := 126) rfl rfl
theorem ml_X1_57 : Cond.methodLink RX1 57 Lib.Math.min.name ∈ p_tbl := p_t5 (i := 127) rfl rfl
theorem ml_X1_60 : Cond.methodLink RX1 60 yX1_hearSenders ∈ p_tbl := p_t5 (i := 158) rfl rfl
theorem ml_X1_63 : Cond.methodLink RX1 63 yX7_senderStands ∈ p_tbl := p_t5 (i := 145) rfl rfl
theorem ml_X1_67 : Cond.methodLink RX1 67 yX1_lineFor ∈ p_tbl := p_t5 (i := 159) rfl rfl
theorem ml_X1_75 : Cond.methodLink RX1 75 yX1_isFitting ∈ p_tbl := p_t5 (i := 132) rfl rfl
theorem ml_X1_79 : Cond.methodLink RX1 79 yX4_columnOf ∈ p_tbl := p_t5 (i := 136) rfl rfl
theorem ml_X1_83 : Cond.methodLink RX1 83 yX1_holds ∈ p_tbl := p_t5 (i := 137) rfl rfl
theorem ml_X1_87 : Cond.methodLink RX1 87 yX1_isAlone ∈ p_tbl := p_t5 (i := 141) rfl rfl
theorem ml_X1_90 : Cond.methodLink RX1 90 yX1_valueOf ∈ p_tbl := p_t5 (i := 146) rfl rfl
theorem ml_X2_3 : Cond.methodLink RX2 3 Lib.objectInit ∈ p_tbl := p_t1 (i := 148) rfl rfl
theorem ml_X2_38 : Cond.methodLink RX2 38 yX8_init ∈ p_tbl := p_t1 (i := 169) rfl rfl
theorem ml_X2_64 : Cond.methodLink RX2 64 yX0_init ∈ p_tbl := p_t1 (i := 172) rfl rfl
theorem ml_X2_71 : Cond.methodLink RX2 71 yX7_setting ∈ p_tbl := p_t3 (i := 148) rfl rfl
theorem ml_X2_77 : Cond.methodLink RX2 77 yX0_build ∈ p_tbl := p_t3 (i := 153) rfl rfl
theorem ml_X2_84 : Cond.methodLink RX2 84 yX8_cut ∈ p_tbl := p_t4 (i := 60) rfl rfl
theorem ml_X2_88 : Cond.methodLink RX2 88 yX8_get ∈ p_tbl := p_t4 (i := 61) rfl rfl
theorem ml_X2_92 : Cond.methodLink RX2 92 yX6_put ∈ p_tbl := p_t4 (i := 62) rfl rfl
theorem ml_X2_95 : Cond.methodLink RX2 95 yX2_searchSight ∈ p_tbl := p_t4 (i := 66) rfl rfl
theorem ml_X2_98 : Cond.methodLink RX2 98 yX8_size ∈ p_tbl := p_t4 (i := 91) rfl rfl
theorem ml_X2_102 : Cond.methodLink RX2 102 yX2_searchMirrors ∈ p_tbl := p_t4 (i := 94) rfl rfl
theorem ml_X2_105 : Cond.methodLink RX2 105 yX2_searchPairs ∈ p_tbl := p_t4 (i := 103) rfl rfl
theorem ml_X2_108 : Cond.methodLink RX2 108 yX2_searchCorners ∈ p_tbl := p_t4 (i := 107) rfl rfl
theorem ml_X2_111 : Cond.methodLink RX2 111 yX6_squareTo ∈ p_tbl := p_t4 (i := 70) rfl rfl
theorem ml_X2_115 : Cond.methodLink RX2 115 yX2_spread ∈ p_tbl := p_t4 (i := 74) rfl rfl
theorem ml_X2_118 : Cond.methodLink RX2 118 yX2_carry ∈ p_tbl := p_t4 (i := 79) rfl rfl
theorem ml_X2_122 : Cond.methodLink RX2 122 yX2_keep ∈ p_tbl := p_t4 (i := 87) rfl rfl
theorem ml_X2_126 : Cond.methodLink RX2 126 yX6_mirror ∈ p_tbl := p_t4 (i := 98) rfl rfl
theorem ml_X2_134 : Cond.methodLink RX2 134 yX0_meets ∈ p_tbl := p_t4 (i := 83) rfl rfl
theorem ml_X2_144 : Cond.methodLink RX2 144 yX0_putEnd ∈ p_tbl := p_t4 (i := 111) rfl rfl
theorem ml_X2_148 : Cond.methodLink RX2 148 yX2_isEarlierCorner ∈ p_tbl := p_t4 (i := 116) rfl rfl
theorem ml_X2_152 : Cond.methodLink RX2 152 yX2_rootOf ∈ p_tbl := p_t4 (i := 124) rfl rfl
theorem ml_X2_155 : Cond.methodLink RX2 155 yX0_endsAt ∈ p_tbl := p_t4 (i := 120) rfl rfl
theorem ml_X2_159 : Cond.methodLink RX2 159 Lib.Math.max.name ∈ p_tbl := p_t4 (i := 78) rfl rfl
theorem ml_X2_167 : Cond.methodLink RX2 167 yX8_add ∈ p_tbl := p_t4 (i := 92) rfl rfl
theorem ml_X2_171 : Cond.methodLink RX2 171 yX8_put ∈ p_tbl := p_t4 (i := 93) rfl rfl
theorem ml_X2_174 : Cond.methodLink RX2 174 yX2_isLonger ∈ p_tbl := p_t4 (i := 132) rfl rfl
theorem ml_X2_178 : Cond.methodLink RX2 178 yX2_orderOfLengths ∈ p_tbl := p_t4 (i := 136) rfl rfl
theorem ml_X2_182 : Cond.methodLink RX2 182 yX2_tell ∈ p_tbl := p_t4 (i := 163) rfl rfl
theorem ml_X2_188 : Cond.methodLink RX2 188 yX2_signOf ∈ p_tbl := p_t4 (i := 140) rfl rfl
theorem ml_X3_3 : Cond.methodLink RX3 3 Lib.objectInit ∈ p_tbl := p_t2 (i := 19) rfl rfl
theorem ml_X3_39 : Cond.methodLink RX3 39 yX7_senderStands ∈ p_tbl := p_t4 (i := 46) rfl rfl
theorem ml_X3_49 : Cond.methodLink RX3 49 yX3_keyOf ∈ p_tbl := p_t4 (i := 53) rfl rfl
theorem ml_X3_57 : Cond.methodLink RX3 57 yX2_search ∈ p_tbl := p_t4 (i := 56) rfl rfl
theorem ml_X3_66 : Cond.methodLink RX3 66 yX8_has ∈ p_tbl := p_t5 (i := 28) rfl rfl
theorem ml_X3_74 : Cond.methodLink RX3 74 yX8_get ∈ p_tbl := p_t4 (i := 200) rfl rfl
theorem ml_X3_78 : Cond.methodLink RX3 78 yX2_sort ∈ p_tbl := p_t4 (i := 128) rfl rfl
theorem ml_X3_81 : Cond.methodLink RX3 81 yX3_signalAt ∈ p_tbl := p_t4 (i := 190) rfl rfl
theorem ml_X3_84 : Cond.methodLink RX3 84 Lib.Math.max.name ∈ p_tbl := p_t4 (i := 191) rfl rfl
theorem ml_X3_89 : Cond.methodLink RX3 89 yX7_setting ∈ p_tbl := p_t4 (i := 201) rfl rfl
theorem ml_X3_95 : Cond.methodLink RX3 95 yX3_isHeard ∈ p_tbl := p_t4 (i := 196) rfl rfl
theorem ml_X3_101 : Cond.methodLink RX3 101 yX8_size ∈ p_tbl := p_t4 (i := 227) rfl rfl
theorem ml_X3_105 : Cond.methodLink RX3 105 yX3_listen ∈ p_tbl := p_t4 (i := 228) rfl rfl
theorem ml_X3_109 : Cond.methodLink RX3 109 yX3_bestHeard ∈ p_tbl := p_t4 (i := 229) rfl rfl
theorem ml_X3_112 : Cond.methodLink RX3 112 yX3_isWish ∈ p_tbl := p_t4 (i := 230) rfl rfl
theorem ml_X3_115 : Cond.methodLink RX3 115 yX3_servedIn ∈ p_tbl := p_t5 (i := 6) rfl rfl
theorem ml_X4_3 : Cond.methodLink RX4 3 Lib.objectInit ∈ p_tbl := p_t2 (i := 155) rfl rfl
theorem ml_X4_13 : Cond.methodLink RX4 13 yX8_init ∈ p_tbl := p_t2 (i := 158) rfl rfl
theorem ml_X4_16 : Cond.methodLink RX4 16 yX9_init ∈ p_tbl := p_t2 (i := 159) rfl rfl
theorem ml_X4_29 : Cond.methodLink RX4 29 yX8_cut ∈ p_tbl := p_t3 (i := 183) rfl rfl
theorem ml_X4_38 : Cond.methodLink RX4 38 yX9_open ∈ p_tbl := p_t3 (i := 184) rfl rfl
theorem ml_X4_41 : Cond.methodLink RX4 41 yX9_goOn ∈ p_tbl := p_t3 (i := 185) rfl rfl
theorem ml_X4_45 : Cond.methodLink RX4 45 yX4_readLine ∈ p_tbl := p_t3 (i := 186) rfl rfl
theorem ml_X4_48 : Cond.methodLink RX4 48 yX9_tell ∈ p_tbl := p_t3 (i := 227) rfl rfl
theorem ml_X4_52 : Cond.methodLink RX4 52 yX9_isClean ∈ p_tbl := p_t3 (i := 228) rfl rfl
theorem ml_X4_58 : Cond.methodLink RX4 58 yX8_copy ∈ p_tbl := p_t3 (i := 229) rfl rfl
theorem ml_X4_61 : Cond.methodLink RX4 61 yX8_add ∈ p_tbl := p_t3 (i := 190) rfl rfl
theorem ml_X4_64 : Cond.methodLink RX4 64 yX9_from ∈ p_tbl := p_t3 (i := 191) rfl rfl
theorem ml_X4_68 : Cond.methodLink RX4 68 yX9_note ∈ p_tbl := p_t3 (i := 192) rfl rfl
theorem ml_X4_73 : Cond.methodLink RX4 73 yX9_isWord ∈ p_tbl := p_t3 (i := 194) rfl rfl
theorem ml_X4_77 : Cond.methodLink RX4 77 yX9_advance ∈ p_tbl := p_t3 (i := 195) rfl rfl
theorem ml_X4_80 : Cond.methodLink RX4 80 yX4_readTest ∈ p_tbl := p_t3 (i := 196) rfl rfl
theorem ml_X4_86 : Cond.methodLink RX4 86 yX9_sign ∈ p_tbl := p_t3 (i := 221) rfl rfl
theorem ml_X4_89 : Cond.methodLink RX4 89 yX9_pass ∈ p_tbl := p_t3 (i := 216) rfl rfl
theorem ml_X4_95 : Cond.methodLink RX4 95 yX8_put ∈ p_tbl := p_t3 (i := 215) rfl rfl
theorem ml_X4_103 : Cond.methodLink RX4 103 yX4_aboutHere ∈ p_tbl := p_t3 (i := 201) rfl rfl
theorem ml_X4_106 : Cond.methodLink RX4 106 yX4_columnOf ∈ p_tbl := p_t3 (i := 212) rfl rfl
theorem ml_X4_110 : Cond.methodLink RX4 110 yX4_readNumber ∈ p_tbl := p_t3 (i := 217) rfl rfl
theorem ml_X4_113 : Cond.methodLink RX4 113 yX9_number ∈ p_tbl := p_t3 (i := 222) rfl rfl
theorem ml_X4_116 : Cond.methodLink RX4 116 yX9_isNumber ∈ p_tbl := p_t3 (i := 223) rfl rfl
theorem ml_X5_3 : Cond.methodLink RX5 3 Lib.objectInit ∈ p_tbl := p_t2 (i := 50) rfl rfl
theorem ml_X5_42 : Cond.methodLink RX5 42 yX5_findSiteReaches ∈ p_tbl := p_t5 (i := 19) rfl rfl
theorem ml_X5_51 : Cond.methodLink RX5 51 yX8_size ∈ p_tbl := p_t5 (i := 23) rfl rfl
theorem ml_X5_60 : Cond.methodLink RX5 60 yX5_reachOf ∈ p_tbl := p_t5 (i := 30) rfl rfl
theorem ml_X5_64 : Cond.methodLink RX5 64 yX5_costOf ∈ p_tbl := p_t5 (i := 34) rfl rfl
theorem ml_X5_67 : Cond.methodLink RX5 67 yJ6_bitCount_0f7a4 ∈ p_tbl := p_t5 (i := 39) rfl rfl
theorem ml_X5_72 : Cond.methodLink RX5 72 yX5_offer ∈ p_tbl := p_t5 (i := 45) rfl rfl
theorem ml_X5_76 : Cond.methodLink RX5 76 yX3_siteSignal ∈ p_tbl := p_t5 (i := 24) rfl rfl
theorem ml_X5_82 : Cond.methodLink RX5 82 yX7_setting ∈ p_tbl := p_t5 (i := 29) rfl rfl
theorem ml_X5_85 : Cond.methodLink RX5 85 yX8_get ∈ p_tbl := p_t5 (i := 38) rfl rfl
theorem ml_X5_88 : Cond.methodLink RX5 88 yX7_senderStands ∈ p_tbl := p_t5 (i := 63) rfl rfl
theorem ml_X5_92 : Cond.methodLink RX5 92 yX3_signalAt ∈ p_tbl := p_t5 (i := 64) rfl rfl
theorem ml_X5_96 : Cond.methodLink RX5 96 yX5_areClashing ∈ p_tbl := p_t5 (i := 69) rfl rfl
theorem ml_X5_100 : Cond.methodLink RX5 100 yX5_findReaches ∈ p_tbl := p_t5 (i := 80) rfl rfl
theorem ml_X5_103 : Cond.methodLink RX5 103 yX5_paintFrom ∈ p_tbl := p_t5 (i := 81) rfl rfl
theorem ml_X5_107 : Cond.methodLink RX5 107 yX5_isFree ∈ p_tbl := p_t5 (i := 84) rfl rfl
theorem ml_X6_1 : Cond.methodLink RX6 1 Lib.objectInit ∈ p_tbl := p_t1 (i := 154) rfl rfl
theorem ml_X7_3 : Cond.methodLink RX7 3 Lib.objectInit ∈ p_tbl := p_t1 (i := 34) rfl rfl
theorem ml_X7_11 : Cond.methodLink RX7 11 yX8_init ∈ p_tbl := p_t1 (i := 37) rfl rfl
theorem ml_X7_63 : Cond.methodLink RX7 63 yX8_add ∈ p_tbl := p_t1 (i := 60) rfl rfl
theorem ml_X7_67 : Cond.methodLink RX7 67 yX8_put ∈ p_tbl := p_t1 (i := 64) rfl rfl
theorem ml_X7_71 : Cond.methodLink RX7 71 yX8_copy ∈ p_tbl := p_t5 (i := 183) rfl rfl
theorem ml_X7_75 : Cond.methodLink RX7 75 yX8_get ∈ p_tbl := p_t3 (i := 152) rfl rfl
theorem ml_X7_79 : Cond.methodLink RX7 79 yX8_has ∈ p_tbl := p_t3 (i := 161) rfl rfl
theorem ml_X7_83 : Cond.methodLink RX7 83 yX7_isKnown ∈ p_tbl := p_t3 (i := 165) rfl rfl
theorem ml_X7_87 : Cond.methodLink RX7 87 yX8_size ∈ p_tbl := p_t5 (i := 168) rfl rfl
theorem ml_X7_91 : Cond.methodLink RX7 91 yX7_wallStands ∈ p_tbl := p_t5 (i := 169) rfl rfl
theorem ml_X7_94 : Cond.methodLink RX7 94 yX7_senderStands ∈ p_tbl := p_t5 (i := 174) rfl rfl
theorem ml_X8_3 : Cond.methodLink RX8 3 Lib.objectInit ∈ p_tbl := p_t1 (i := 40) rfl rfl
theorem ml_X8_9 : Cond.methodLink RX8 9 Lib.Math.max.name ∈ p_tbl := p_t1 (i := 41) rfl rfl
theorem ml_X8_31 : Cond.methodLink RX8 31 Lib.Math.min.name ∈ p_tbl := p_t3 (i := 233) rfl rfl
theorem ml_X8_34 : Cond.methodLink RX8 34 arraycopyName ∈ p_tbl := p_t3 (i := 234) rfl rfl
theorem ml_X9_3 : Cond.methodLink RX9 3 Lib.objectInit ∈ p_tbl := p_t2 (i := 120) rfl rfl
theorem ml_X9_31 : Cond.methodLink RX9 31 yX9_advance ∈ p_tbl := p_t2 (i := 227) rfl rfl
theorem ml_X9_34 : Cond.methodLink RX9 34 yX8_size ∈ p_tbl := p_t2 (i := 231) rfl rfl
theorem ml_X9_40 : Cond.methodLink RX9 40 yX8_get ∈ p_tbl := p_t2 (i := 232) rfl rfl
theorem ml_X9_44 : Cond.methodLink RX9 44 yX9_isBlank ∈ p_tbl := p_t2 (i := 236) rfl rfl
theorem ml_X9_48 : Cond.methodLink RX9 48 yX9_sortOf ∈ p_tbl := p_t2 (i := 239) rfl rfl
theorem ml_X9_52 : Cond.methodLink RX9 52 yJ0_length_8abf5 ∈ p_tbl := p_t3 (i := 19) rfl rfl
theorem ml_X9_57 : Cond.methodLink RX9 57 yJ0_charAt_5068e ∈ p_tbl := p_t3 (i := 29) rfl rfl
theorem ml_X9_61 : Cond.methodLink RX9 61 yX9_note ∈ p_tbl := p_t3 (i := 78) rfl rfl
theorem ml_X10_3 : Cond.methodLink RX10 3 Lib.objectInit ∈ p_tbl := p_t2 (i := 112) rfl rfl
theorem ml_X10_13 : Cond.methodLink RX10 13 yX8_init ∈ p_tbl := p_t2 (i := 116) rfl rfl
theorem ml_X10_16 : Cond.methodLink RX10 16 yX9_init ∈ p_tbl := p_t2 (i := 117) rfl rfl
theorem ml_X10_38 : Cond.methodLink RX10 38 yX8_size ∈ p_tbl := p_t2 (i := 222) rfl rfl
theorem ml_X10_54 : Cond.methodLink RX10 54 yX9_open ∈ p_tbl := p_t2 (i := 223) rfl rfl
theorem ml_X10_57 : Cond.methodLink RX10 57 yX9_goOn ∈ p_tbl := p_t3 (i := 2) rfl rfl
theorem ml_X10_61 : Cond.methodLink RX10 61 yX10_readLine ∈ p_tbl := p_t3 (i := 6) rfl rfl
theorem ml_X10_65 : Cond.methodLink RX10 65 yX9_tell ∈ p_tbl := p_t3 (i := 135) rfl rfl
theorem ml_X10_68 : Cond.methodLink RX10 68 yX9_isClean ∈ p_tbl := p_t3 (i := 97) rfl rfl
theorem ml_X10_71 : Cond.methodLink RX10 71 yX8_cut ∈ p_tbl := p_t3 (i := 139) rfl rfl
theorem ml_X10_77 : Cond.methodLink RX10 77 yX9_isWord ∈ p_tbl := p_t3 (i := 15) rfl rfl
theorem ml_X10_87 : Cond.methodLink RX10 87 yX10_sortHere ∈ p_tbl := p_t3 (i := 10) rfl rfl
theorem ml_X10_90 : Cond.methodLink RX10 90 yX9_from ∈ p_tbl := p_t3 (i := 70) rfl rfl
theorem ml_X10_93 : Cond.methodLink RX10 93 yX9_pass ∈ p_tbl := p_t3 (i := 74) rfl rfl
theorem ml_X10_97 : Cond.methodLink RX10 97 yX10_numbersOf ∈ p_tbl := p_t3 (i := 82) rfl rfl
theorem ml_X10_101 : Cond.methodLink RX10 101 yX9_number ∈ p_tbl := p_t3 (i := 85) rfl rfl
theorem ml_X10_104 : Cond.methodLink RX10 104 yX9_isNumber ∈ p_tbl := p_t3 (i := 89) rfl rfl
theorem ml_X10_107 : Cond.methodLink RX10 107 yX9_sign ∈ p_tbl := p_t3 (i := 93) rfl rfl
theorem ml_X10_110 : Cond.methodLink RX10 110 yX10_take ∈ p_tbl := p_t3 (i := 101) rfl rfl
theorem ml_X10_114 : Cond.methodLink RX10 114 yX10_tableOf ∈ p_tbl := p_t3 (i := 105) rfl rfl
theorem ml_X10_118 : Cond.methodLink RX10 118 yX10_isCrooked ∈ p_tbl := p_t3 (i := 108) rfl rfl
theorem ml_X10_121 : Cond.methodLink RX10 121 yX9_note ∈ p_tbl := p_t3 (i := 112) rfl rfl
theorem ml_X10_124 : Cond.methodLink RX10 124 yX8_full ∈ p_tbl := p_t3 (i := 113) rfl rfl
theorem ml_X10_127 : Cond.methodLink RX10 127 yX10_areNumbersFine ∈ p_tbl := p_t3 (i := 117) rfl rfl
theorem ml_X10_135 : Cond.methodLink RX10 135 yX10_addTo ∈ p_tbl := p_t3 (i := 125) rfl rfl
theorem ml_X10_145 : Cond.methodLink RX10 145 yX8_add ∈ p_tbl := p_t3 (i := 129) rfl rfl
theorem ml_X10_148 : Cond.methodLink RX10 148 yX8_put ∈ p_tbl := p_t3 (i := 130) rfl rfl
theorem ml_X10_152 : Cond.methodLink RX10 152 Lib.Math.min.name ∈ p_tbl := p_t3 (i := 131) rfl rfl
theorem ml_X10_158 : Cond.methodLink RX10 158 Lib.Math.max.name ∈ p_tbl := p_t3 (i := 134) rfl rfl
theorem ml_L_9 : Cond.methodLink RL 9 yX11_init ∈ p_tbl := p_t1 (i := 23) rfl rfl
theorem ml_L_12 : Cond.methodLink RL 12 yX12_init ∈ p_tbl := p_t5 (i := 190) rfl rfl
theorem ml_L_13 : Cond.methodLink RL 13 yX11_feed ∈ p_tbl := p_t2 (i := 192) rfl rfl
theorem ml_L_17 : Cond.methodLink RL 17 yX12_feed ∈ p_tbl := p_t7 (i := 107) rfl rfl
theorem ml_L_18 : Cond.methodLink RL 18 yX11_end ∈ p_tbl := p_t2 (i := 206) rfl rfl
theorem ml_L_22 : Cond.methodLink RL 22 yX12_end ∈ p_tbl := p_t7 (i := 111) rfl rfl
theorem ml_L_23 : Cond.methodLink RL 23 yX11_town ∈ p_tbl := p_t2 (i := 214) rfl rfl
theorem ml_L_27 : Cond.methodLink RL 27 yX12_town ∈ p_tbl := p_t7 (i := 115) rfl rfl
theorem ml_L_28 : Cond.methodLink RL 28 yX11_law ∈ p_tbl := p_t3 (i := 175) rfl rfl
theorem ml_L_31 : Cond.methodLink RL 31 yX12_law ∈ p_tbl := p_t7 (i := 190) rfl rfl
theorem ml_L_32 : Cond.methodLink RL 32 yX11_fault ∈ p_tbl := p_t3 (i := 237) rfl rfl
theorem ml_L_35 : Cond.methodLink RL 35 yX12_fault ∈ p_tbl := p_t7 (i := 210) rfl rfl
theorem ml_L_36 : Cond.methodLink RL 36 yX11_day ∈ p_tbl := p_t4 (i := 1) rfl rfl
theorem ml_L_40 : Cond.methodLink RL 40 yX12_day ∈ p_tbl := p_t8 (i := 2) rfl rfl
theorem ml_L_41 : Cond.methodLink RL 41 yX11_view ∈ p_tbl := p_t4 (i := 5) rfl rfl
theorem ml_L_44 : Cond.methodLink RL 44 yX12_view ∈ p_tbl := p_t8 (i := 6) rfl rfl
theorem ml_L_45 : Cond.methodLink RL 45 yX11_pull ∈ p_tbl := p_t4 (i := 9) rfl rfl
theorem ml_L_49 : Cond.methodLink RL 49 yX12_pull ∈ p_tbl := p_t8 (i := 10) rfl rfl
theorem ml_L_50 : Cond.methodLink RL 50 yX11_stuff ∈ p_tbl := p_t4 (i := 15) rfl rfl
theorem ml_L_54 : Cond.methodLink RL 54 yX12_stuff ∈ p_tbl := p_t8 (i := 14) rfl rfl
theorem ml_L_55 : Cond.methodLink RL 55 yX11_set ∈ p_tbl := p_t4 (i := 22) rfl rfl
theorem ml_L_59 : Cond.methodLink RL 59 yX12_set ∈ p_tbl := p_t8 (i := 18) rfl rfl
theorem ml_L_60 : Cond.methodLink RL 60 yX11_wall ∈ p_tbl := p_t4 (i := 30) rfl rfl
theorem ml_L_64 : Cond.methodLink RL 64 yX12_wall ∈ p_tbl := p_t8 (i := 28) rfl rfl
theorem ml_L_65 : Cond.methodLink RL 65 yX11_sender ∈ p_tbl := p_t4 (i := 34) rfl rfl
theorem ml_L_68 : Cond.methodLink RL 68 yX12_sender ∈ p_tbl := p_t8 (i := 32) rfl rfl
theorem ml_L_69 : Cond.methodLink RL 69 yX11_sees ∈ p_tbl := p_t4 (i := 38) rfl rfl
theorem ml_L_72 : Cond.methodLink RL 72 yX12_sees ∈ p_tbl := p_t6 (i := 83) rfl rfl
theorem ml_L_73 : Cond.methodLink RL 73 yX11_ways ∈ p_tbl := p_t4 (i := 147) rfl rfl
theorem ml_L_77 : Cond.methodLink RL 77 yX12_ways ∈ p_tbl := p_t6 (i := 219) rfl rfl
theorem ml_L_78 : Cond.methodLink RL 78 yX11_way ∈ p_tbl := p_t4 (i := 155) rfl rfl
theorem ml_L_81 : Cond.methodLink RL 81 yX12_way ∈ p_tbl := p_t6 (i := 223) rfl rfl
theorem ml_L_82 : Cond.methodLink RL 82 yX11_compare ∈ p_tbl := p_t4 (i := 168) rfl rfl
theorem ml_L_86 : Cond.methodLink RL 86 yX12_compare ∈ p_tbl := p_t6 (i := 231) rfl rfl
theorem ml_L_87 : Cond.methodLink RL 87 yX11_signal ∈ p_tbl := p_t4 (i := 173) rfl rfl
theorem ml_L_90 : Cond.methodLink RL 90 yX12_signal ∈ p_tbl := p_t6 (i := 235) rfl rfl
theorem ml_L_91 : Cond.methodLink RL 91 yX11_heard ∈ p_tbl := p_t4 (i := 181) rfl rfl
theorem ml_L_94 : Cond.methodLink RL 94 yX12_heard ∈ p_tbl := p_t7 (i := 7) rfl rfl
theorem ml_L_95 : Cond.methodLink RL 95 yX11_best ∈ p_tbl := p_t4 (i := 203) rfl rfl
theorem ml_L_98 : Cond.methodLink RL 98 yX12_best ∈ p_tbl := p_t7 (i := 15) rfl rfl
theorem ml_L_99 : Cond.methodLink RL 99 yX11_step ∈ p_tbl := p_t4 (i := 211) rfl rfl
theorem ml_L_102 : Cond.methodLink RL 102 yX12_step ∈ p_tbl := p_t7 (i := 23) rfl rfl
theorem ml_L_103 : Cond.methodLink RL 103 yX11_unwalk ∈ p_tbl := p_t4 (i := 215) rfl rfl
theorem ml_L_106 : Cond.methodLink RL 106 yX12_unwalk ∈ p_tbl := p_t7 (i := 27) rfl rfl
theorem ml_L_107 : Cond.methodLink RL 107 yX11_served ∈ p_tbl := p_t4 (i := 219) rfl rfl
theorem ml_L_110 : Cond.methodLink RL 110 yX12_served ∈ p_tbl := p_t7 (i := 31) rfl rfl
theorem ml_L_111 : Cond.methodLink RL 111 yX11_walk ∈ p_tbl := p_t4 (i := 238) rfl rfl
theorem ml_L_114 : Cond.methodLink RL 114 yX12_walk ∈ p_tbl := p_t7 (i := 39) rfl rfl
theorem ml_L_115 : Cond.methodLink RL 115 yX11_cover ∈ p_tbl := p_t5 (i := 11) rfl rfl
theorem ml_L_118 : Cond.methodLink RL 118 yX12_cover ∈ p_tbl := p_t7 (i := 51) rfl rfl
theorem ml_L_119 : Cond.methodLink RL 119 yX11_serves ∈ p_tbl := p_t5 (i := 49) rfl rfl
theorem ml_L_122 : Cond.methodLink RL 122 yX12_serves ∈ p_tbl := p_t7 (i := 43) rfl rfl
theorem ml_L_123 : Cond.methodLink RL 123 yX11_clash ∈ p_tbl := p_t5 (i := 54) rfl rfl
theorem ml_L_126 : Cond.methodLink RL 126 yX12_clash ∈ p_tbl := p_t7 (i := 59) rfl rfl
theorem ml_L_127 : Cond.methodLink RL 127 yX11_colour ∈ p_tbl := p_t5 (i := 72) rfl rfl
theorem ml_L_130 : Cond.methodLink RL 130 yX12_colour ∈ p_tbl := p_t7 (i := 67) rfl rfl
theorem ml_L_131 : Cond.methodLink RL 131 yX11_span ∈ p_tbl := p_t5 (i := 91) rfl rfl
theorem ml_L_134 : Cond.methodLink RL 134 yX12_span ∈ p_tbl := p_t7 (i := 83) rfl rfl
theorem ml_L_135 : Cond.methodLink RL 135 yX11_places ∈ p_tbl := p_t5 (i := 96) rfl rfl
theorem ml_L_138 : Cond.methodLink RL 138 yX12_places ∈ p_tbl := p_t7 (i := 88) rfl rfl
theorem ml_L_139 : Cond.methodLink RL 139 yX11_place ∈ p_tbl := p_t5 (i := 104) rfl rfl
theorem ml_L_142 : Cond.methodLink RL 142 yX12_place ∈ p_tbl := p_t7 (i := 96) rfl rfl
theorem ml_L_143 : Cond.methodLink RL 143 yX11_echo ∈ p_tbl := p_t5 (i := 108) rfl rfl
theorem ml_L_146 : Cond.methodLink RL 146 yX12_echo ∈ p_tbl := p_t7 (i := 100) rfl rfl
theorem ml_L_147 : Cond.methodLink RL 147 yX11_why ∈ p_tbl := p_t5 (i := 115) rfl rfl
theorem ml_L_150 : Cond.methodLink RL 150 yX12_why ∈ p_tbl := p_t7 (i := 214) rfl rfl
theorem ml_L_151 : Cond.methodLink RL 151 yX11_breach ∈ p_tbl := p_t5 (i := 150) rfl rfl
theorem ml_L_154 : Cond.methodLink RL 154 yX12_breach ∈ p_tbl := p_t7 (i := 238) rfl rfl
theorem ml_L_155 : Cond.methodLink RL 155 yX11_count ∈ p_tbl := p_t5 (i := 160) rfl rfl
theorem ml_L_158 : Cond.methodLink RL 158 yX12_count ∈ p_tbl := p_t8 (i := 36) rfl rfl
theorem ml_L_159 : Cond.methodLink RL 159 yX11_image ∈ p_tbl := p_t5 (i := 175) rfl rfl
theorem ml_L_162 : Cond.methodLink RL 162 yX12_image ∈ p_tbl := p_t8 (i := 40) rfl rfl
theorem ml_L_163 : Cond.methodLink RL 163 yX11_again ∈ p_tbl := p_t5 (i := 184) rfl rfl
theorem ml_L_166 : Cond.methodLink RL 166 yX12_again ∈ p_tbl := p_t8 (i := 44) rfl rfl
theorem ml_X12_1 : Cond.methodLink RX12 1 Lib.objectInit ∈ p_tbl := p_t5 (i := 193) rfl rfl
theorem ml_X12_65 : Cond.methodLink RX12 65 yX12_forgets ∈ p_tbl := p_t5 (i := 194) rfl rfl
theorem ml_X12_68 : Cond.methodLink RX12 68 yX12_isIn ∈ p_tbl := p_t6 (i := 99) rfl rfl
theorem ml_X12_72 : Cond.methodLink RX12 72 yX12_wallOf ∈ p_tbl := p_t6 (i := 137) rfl rfl
theorem ml_X12_76 : Cond.methodLink RX12 76 yX12_isThere ∈ p_tbl := p_t6 (i := 106) rfl rfl
theorem ml_X12_80 : Cond.methodLink RX12 80 yX12_isOf ∈ p_tbl := p_t6 (i := 95) rfl rfl
theorem ml_X12_83 : Cond.methodLink RX12 83 yX12_senderOf ∈ p_tbl := p_t6 (i := 102) rfl rfl
theorem ml_X12_86 : Cond.methodLink RX12 86 yX12_isUpright ∈ p_tbl := p_t6 (i := 145) rfl rfl
theorem ml_X12_90 : Cond.methodLink RX12 90 yX12_side ∈ p_tbl := p_t6 (i := 141) rfl rfl
theorem ml_X12_94 : Cond.methodLink RX12 94 yX12_size ∈ p_tbl := p_t6 (i := 156) rfl rfl
theorem ml_X12_113 : Cond.methodLink RX12 113 yX12_seesWall ∈ p_tbl := p_t6 (i := 133) rfl rfl
theorem ml_X12_116 : Cond.methodLink RX12 116 yX12_areOpposite ∈ p_tbl := p_t6 (i := 149) rfl rfl
theorem ml_X12_120 : Cond.methodLink RX12 120 yX12_crosses ∈ p_tbl := p_t6 (i := 152) rfl rfl
theorem ml_X12_128 : Cond.methodLink RX12 128 yX12_weakens ∈ p_tbl := p_t6 (i := 159) rfl rfl
theorem ml_X12_157 : Cond.methodLink RX12 157 yX12_areAlike ∈ p_tbl := p_t6 (i := 172) rfl rfl
theorem ml_X12_160 : Cond.methodLink RX12 160 yX12_mirrorX ∈ p_tbl := p_t6 (i := 175) rfl rfl
theorem ml_X12_164 : Cond.methodLink RX12 164 yX12_mirrorY ∈ p_tbl := p_t6 (i := 180) rfl rfl
theorem ml_X12_167 : Cond.methodLink RX12 167 yX12_squares ∈ p_tbl := p_t6 (i := 121) rfl rfl
theorem ml_X12_171 : Cond.methodLink RX12 171 yX12_begins ∈ p_tbl := p_t6 (i := 124) rfl rfl
theorem ml_X12_175 : Cond.methodLink RX12 175 yX12_leg ∈ p_tbl := p_t6 (i := 129) rfl rfl
theorem ml_X12_179 : Cond.methodLink RX12 179 yX12_adds ∈ p_tbl := p_t6 (i := 164) rfl rfl
theorem ml_X12_183 : Cond.methodLink RX12 183 yX12_isEndAhead ∈ p_tbl := p_t6 (i := 192) rfl rfl
theorem ml_X12_186 : Cond.methodLink RX12 186 yX12_root ∈ p_tbl := p_t6 (i := 196) rfl rfl
theorem ml_X12_189 : Cond.methodLink RX12 189 yX12_byMirror ∈ p_tbl := p_t6 (i := 168) rfl rfl
theorem ml_X12_192 : Cond.methodLink RX12 192 yX12_byMirrors ∈ p_tbl := p_t6 (i := 184) rfl rfl
theorem ml_X12_196 : Cond.methodLink RX12 196 yX12_byCorner ∈ p_tbl := p_t6 (i := 188) rfl rfl
theorem ml_X12_201 : Cond.methodLink RX12 201 yX12_withMore ∈ p_tbl := p_t6 (i := 216) rfl rfl
theorem ml_X12_205 : Cond.methodLink RX12 205 yX12_compareRoots ∈ p_tbl := p_t6 (i := 212) rfl rfl
theorem ml_X12_209 : Cond.methodLink RX12 209 yX12_lengths ∈ p_tbl := p_t6 (i := 208) rfl rfl
theorem ml_X12_212 : Cond.methodLink RX12 212 yX12_isAhead ∈ p_tbl := p_t6 (i := 204) rfl rfl
theorem ml_X12_215 : Cond.methodLink RX12 215 yX12_seesSender ∈ p_tbl := p_t6 (i := 91) rfl rfl
theorem ml_X12_218 : Cond.methodLink RX12 218 yX12_isPoint ∈ p_tbl := p_t6 (i := 110) rfl rfl
theorem ml_X12_221 : Cond.methodLink RX12 221 yX12_from ∈ p_tbl := p_t6 (i := 113) rfl rfl
theorem ml_X12_225 : Cond.methodLink RX12 225 yX12_tries ∈ p_tbl := p_t6 (i := 117) rfl rfl
theorem ml_X12_228 : Cond.methodLink RX12 228 yX12_orders ∈ p_tbl := p_t6 (i := 200) rfl rfl
theorem ml_X12_231 : Cond.methodLink RX12 231 yX12_finds ∈ p_tbl := p_t6 (i := 87) rfl rfl
theorem ml_X12_236 : Cond.methodLink RX12 236 yX12_late ∈ p_tbl := p_t6 (i := 227) rfl rfl
theorem ml_X12_240 : Cond.methodLink RX12 240 yX12_sum ∈ p_tbl := p_t7 (i := 3) rfl rfl
theorem ml_X12_244 : Cond.methodLink RX12 244 yX12_signalOf ∈ p_tbl := p_t6 (i := 239) rfl rfl
theorem ml_X12_248 : Cond.methodLink RX12 248 yX12_isHeard ∈ p_tbl := p_t7 (i := 11) rfl rfl
theorem ml_X12_251 : Cond.methodLink RX12 251 yX12_bestAt ∈ p_tbl := p_t7 (i := 19) rfl rfl
theorem ml_X12_254 : Cond.methodLink RX12 254 yX12_walks ∈ p_tbl := p_t7 (i := 35) rfl rfl
theorem ml_X12_257 : Cond.methodLink RX12 257 yX12_siteSignal ∈ p_tbl := p_t7 (i := 47) rfl rfl
theorem ml_X12_269 : Cond.methodLink RX12 269 yX12_covers ∈ p_tbl := p_t7 (i := 55) rfl rfl
theorem ml_X12_273 : Cond.methodLink RX12 273 yX12_clashes ∈ p_tbl := p_t7 (i := 63) rfl rfl
theorem ml_X12_276 : Cond.methodLink RX12 276 yX12_isApart ∈ p_tbl := p_t7 (i := 79) rfl rfl
theorem ml_X12_279 : Cond.methodLink RX12 279 yX12_colours ∈ p_tbl := p_t7 (i := 75) rfl rfl
theorem ml_X12_282 : Cond.methodLink RX12 282 yX12_colouring ∈ p_tbl := p_t7 (i := 71) rfl rfl
theorem ml_X12_286 : Cond.methodLink RX12 286 yX12_fits ∈ p_tbl := p_t7 (i := 92) rfl rfl
theorem ml_X12_289 : Cond.methodLink RX12 289 yX12_echoes ∈ p_tbl := p_t7 (i := 104) rfl rfl
theorem ml_X12_300 : Cond.methodLink RX12 300 yX12_three ∈ p_tbl := p_t7 (i := 142) rfl rfl
theorem ml_X12_304 : Cond.methodLink RX12 304 yX12_four ∈ p_tbl := p_t7 (i := 139) rfl rfl
theorem ml_X12_323 : Cond.methodLink RX12 323 yX12_byteAt ∈ p_tbl := p_t7 (i := 127) rfl rfl
theorem ml_X12_333 : Cond.methodLink RX12 333 yX12_isLetter ∈ p_tbl := p_t7 (i := 131) rfl rfl
theorem ml_X12_336 : Cond.methodLink RX12 336 yX12_wordOf ∈ p_tbl := p_t7 (i := 136) rfl rfl
theorem ml_X12_342 : Cond.methodLink RX12 342 yX12_isDigit ∈ p_tbl := p_t7 (i := 151) rfl rfl
theorem ml_X12_351 : Cond.methodLink RX12 351 yX12_isSignByte ∈ p_tbl := p_t7 (i := 154) rfl rfl
theorem ml_X12_357 : Cond.methodLink RX12 357 yX12_advance ∈ p_tbl := p_t7 (i := 123) rfl rfl
theorem ml_X12_360 : Cond.methodLink RX12 360 yX12_stops ∈ p_tbl := p_t7 (i := 161) rfl rfl
theorem ml_X12_366 : Cond.methodLink RX12 366 yX12_numbersOf ∈ p_tbl := p_t7 (i := 165) rfl rfl
theorem ml_X12_369 : Cond.methodLink RX12 369 yX12_numbered ∈ p_tbl := p_t7 (i := 168) rfl rfl
theorem ml_X12_372 : Cond.methodLink RX12 372 yX12_mayBe ∈ p_tbl := p_t7 (i := 172) rfl rfl
theorem ml_X12_375 : Cond.methodLink RX12 375 yX12_also ∈ p_tbl := p_t7 (i := 175) rfl rfl
theorem ml_X12_378 : Cond.methodLink RX12 378 yX12_must ∈ p_tbl := p_t7 (i := 179) rfl rfl
theorem ml_X12_381 : Cond.methodLink RX12 381 yX12_mostOf ∈ p_tbl := p_t7 (i := 183) rfl rfl
theorem ml_X12_384 : Cond.methodLink RX12 384 yX12_reads ∈ p_tbl := p_t7 (i := 119) rfl rfl
theorem ml_X12_387 : Cond.methodLink RX12 387 yX12_aTownLine ∈ p_tbl := p_t7 (i := 157) rfl rfl
theorem ml_X12_390 : Cond.methodLink RX12 390 yX12_comes ∈ p_tbl := p_t7 (i := 186) rfl rfl
theorem ml_X12_393 : Cond.methodLink RX12 393 yX12_takes ∈ p_tbl := p_t7 (i := 198) rfl rfl
theorem ml_X12_396 : Cond.methodLink RX12 396 yX12_aTest ∈ p_tbl := p_t7 (i := 202) rfl rfl
theorem ml_X12_399 : Cond.methodLink RX12 399 yX12_puts ∈ p_tbl := p_t7 (i := 206) rfl rfl
theorem ml_X12_402 : Cond.methodLink RX12 402 yX12_aLawLine ∈ p_tbl := p_t7 (i := 194) rfl rfl
theorem ml_X12_405 : Cond.methodLink RX12 405 yX12_isAlone ∈ p_tbl := p_t7 (i := 230) rfl rfl
theorem ml_X12_408 : Cond.methodLink RX12 408 yX12_greatest ∈ p_tbl := p_t7 (i := 234) rfl rfl
theorem ml_X12_411 : Cond.methodLink RX12 411 yX12_asked ∈ p_tbl := p_t7 (i := 226) rfl rfl
theorem ml_X12_414 : Cond.methodLink RX12 414 yX12_holds ∈ p_tbl := p_t7 (i := 222) rfl rfl
theorem ml_X12_417 : Cond.methodLink RX12 417 yX12_lineOf ∈ p_tbl := p_t7 (i := 218) rfl rfl
theorem ml_X12_420 : Cond.methodLink RX12 420 yX12_leastOf ∈ p_tbl := p_t8 (i := 22) rfl rfl
theorem ml_X12_423 : Cond.methodLink RX12 423 yX12_mostFor ∈ p_tbl := p_t8 (i := 25) rfl rfl
theorem ml_J0_335 : Cond.methodLink RJ0 335 yJ0_coder_7d493 ∈ p_tbl := p_t3 (i := 23) rfl rfl
theorem ml_J0_492 : Cond.methodLink RJ0 492 yJ0_isLatin1_aae02 ∈ p_tbl := p_t3 (i := 33) rfl rfl
theorem ml_J0_495 : Cond.methodLink RJ0 495 yJ1_charAt_3b067 ∈ p_tbl := p_t3 (i := 37) rfl rfl
theorem ml_J0_498 : Cond.methodLink RJ0 498 yJ2_charAt_3b067 ∈ p_tbl := p_t3 (i := 48) rfl rfl
theorem ml_J0_1059 : Cond.methodLink RJ0 1059 yJ3_checkIndex_8e157 ∈ p_tbl := p_t3 (i := 45) rfl rfl
theorem ml_J1_9 : Cond.methodLink RJ1 9 yJ0_checkIndex_df160 ∈ p_tbl := p_t3 (i := 40) rfl rfl
theorem ml_J2_48 : Cond.methodLink RJ2 48 yJ2_length_9d52b ∈ p_tbl := p_t3 (i := 54) rfl rfl
theorem ml_J2_67 : Cond.methodLink RJ2 67 yJ2_checkIndex_2214a ∈ p_tbl := p_t3 (i := 51) rfl rfl
theorem ml_J2_71 : Cond.methodLink RJ2 71 yJ2_getChar_3b067 ∈ p_tbl := p_t3 (i := 58) rfl rfl
theorem ml_J2_414 : Cond.methodLink RJ2 414 yJ0_checkIndex_df160 ∈ p_tbl := p_t3 (i := 57) rfl rfl
theorem kc_X11_231 : Cond.constant RX11 231 1000000000 ∈ p_tbl := p_t5 (i := 95) rfl rfl
theorem kc_X2_185 : Cond.constant RX2 185 32768 ∈ p_tbl := p_t4 (i := 127) rfl rfl
theorem kc_X12_285 : Cond.constant RX12 285 1000000000 ∈ p_tbl := p_t7 (i := 87) rfl rfl
theorem kc_J6_265 : Cond.constant RJ6 265 1431655765 ∈ p_tbl := p_t5 (i := 42) rfl rfl
theorem kc_J6_266 : Cond.constant RJ6 266 858993459 ∈ p_tbl := p_t5 (i := 43) rfl rfl
theorem kc_J6_267 : Cond.constant RJ6 267 252645135 ∈ p_tbl := p_t5 (i := 44) rfl rfl
theorem kl_X2_186 : Cond.constantLong RX2 186 4 ∈ p_tbl := p_t4 (i := 139) rfl rfl
theorem kl_X3_93 : Cond.constantLong RX3 93 100 ∈ p_tbl := p_t4 (i := 202) rfl rfl
theorem kl_X6_25 : Cond.constantLong RX6 25 2 ∈ p_tbl := p_t4 (i := 102) rfl rfl
theorem kl_X12_111 : Cond.constantLong RX12 111 100 ∈ p_tbl := p_t6 (i := 163) rfl rfl
theorem kl_X12_132 : Cond.constantLong RX12 132 20000 ∈ p_tbl := p_t6 (i := 199) rfl rfl
theorem kl_X12_134 : Cond.constantLong RX12 134 2 ∈ p_tbl := p_t6 (i := 179) rfl rfl
theorem kl_X12_140 : Cond.constantLong RX12 140 1000 ∈ p_tbl := p_t6 (i := 128) rfl rfl
theorem kl_X12_199 : Cond.constantLong RX12 199 4 ∈ p_tbl := p_t6 (i := 215) rfl rfl
theorem kl_X12_234 : Cond.constantLong RX12 234 10000 ∈ p_tbl := p_t6 (i := 230) rfl rfl
theorem kl_X12_296 : Cond.constantLong RX12 296 32 ∈ p_tbl := p_t7 (i := 134) rfl rfl
theorem kl_X12_298 : Cond.constantLong RX12 298 96 ∈ p_tbl := p_t7 (i := 135) rfl rfl
theorem kl_X12_308 : Cond.constantLong RX12 308 32768 ∈ p_tbl := p_t7 (i := 145) rfl rfl
theorem kl_X12_310 : Cond.constantLong RX12 310 101 ∈ p_tbl := p_t7 (i := 146) rfl rfl
theorem kl_X12_312 : Cond.constantLong RX12 312 114 ∈ p_tbl := p_t7 (i := 147) rfl rfl
theorem kl_X12_314 : Cond.constantLong RX12 314 24 ∈ p_tbl := p_t7 (i := 148) rfl rfl
theorem kl_X12_316 : Cond.constantLong RX12 316 25 ∈ p_tbl := p_t7 (i := 149) rfl rfl
theorem kl_X12_318 : Cond.constantLong RX12 318 294 ∈ p_tbl := p_t7 (i := 150) rfl rfl
theorem kk_X11_7 : Cond.classLink RX11 7 RX7 ∈ p_tbl := p_t1 (i := 29) rfl rfl
theorem kk_X11_20 : Cond.classLink RX11 20 RX2 ∈ p_tbl := p_t1 (i := 143) rfl rfl
theorem kk_X11_27 : Cond.classLink RX11 27 RX3 ∈ p_tbl := p_t2 (i := 14) rfl rfl
theorem kk_X11_36 : Cond.classLink RX11 36 RX5 ∈ p_tbl := p_t2 (i := 45) rfl rfl
theorem kk_X11_45 : Cond.classLink RX11 45 RX1 ∈ p_tbl := p_t2 (i := 83) rfl rfl
theorem kk_X11_52 : Cond.classLink RX11 52 RX10 ∈ p_tbl := p_t2 (i := 107) rfl rfl
theorem kk_X11_59 : Cond.classLink RX11 59 RX4 ∈ p_tbl := p_t2 (i := 150) rfl rfl
theorem kk_X2_9 : Cond.classLink RX2 9 RX6 ∈ p_tbl := p_t1 (i := 149) rfl rfl
theorem kk_X2_36 : Cond.classLink RX2 36 RX8 ∈ p_tbl := p_t1 (i := 168) rfl rfl
theorem kk_X2_62 : Cond.classLink RX2 62 RX0 ∈ p_tbl := p_t1 (i := 170) rfl rfl
theorem kk_X4_9 : Cond.classLink RX4 9 RX9 ∈ p_tbl := p_t2 (i := 156) rfl rfl
theorem kk_X4_11 : Cond.classLink RX4 11 RX8 ∈ p_tbl := p_t2 (i := 157) rfl rfl
theorem kk_X7_9 : Cond.classLink RX7 9 RX8 ∈ p_tbl := p_t1 (i := 35) rfl rfl
theorem kk_X10_9 : Cond.classLink RX10 9 RX9 ∈ p_tbl := p_t2 (i := 113) rfl rfl
theorem kk_X10_11 : Cond.classLink RX10 11 RX8 ∈ p_tbl := p_t2 (i := 115) rfl rfl
theorem kk_L_7 : Cond.classLink RL 7 RX11 ∈ p_tbl := p_t1 (i := 21) rfl rfl
theorem kk_L_10 : Cond.classLink RL 10 RX12 ∈ p_tbl := p_t5 (i := 188) rfl rfl
theorem fs_X11_132 : Cond.fieldLink RX11 132 "StreetWaves" "SETTING_LOW" "[I" ∈ p_tbl := p_t4 (i := 26) rfl rfl
theorem fs_X11_136 : Cond.fieldLink RX11 136 "StreetWaves" "SETTING_HIGH" "[I" ∈ p_tbl := p_t4 (i := 28) rfl rfl
theorem fs_X10_139 : Cond.fieldLink RX10 139 "StreetWaves$TownText" "LOW" "[I" ∈ p_tbl := p_t3 (i := 121) rfl rfl
theorem fs_X10_142 : Cond.fieldLink RX10 142 "StreetWaves$TownText" "HIGH" "[I" ∈ p_tbl := p_t3 (i := 123) rfl rfl
theorem w_obj : Cond.instanceMethod Lib.objectInit ∈ p_tbl ∧ Cond.code Lib.objectInit ⟨#[0xb1]⟩ 1 none ∈ p_tbl := ⟨p_mem (by decide +kernel) rfl, p_mem (by decide +kernel) rfl⟩
theorem w_int : Cond.arrayClass .int ∈ p_tbl := p_mem (by decide +kernel) rfl
theorem w_bool : Cond.arrayClass .boolean ∈ p_tbl := p_mem (by decide +kernel) rfl
theorem w_copy : Cond.native arraycopyName ∈ p_tbl ∧ Cond.static arraycopyName ∈ p_tbl ∧ Cond.initialized "java/lang/System" ∈ p_tbl := ⟨p_mem (by decide +kernel) rfl, p_mem (by decide +kernel) rfl, p_mem (by decide +kernel) rfl⟩
theorem w_mx : p_Mx := ⟨p_mem (by decide +kernel) rfl, p_mem (by decide +kernel) rfl, p_mem (by decide +kernel) rfl⟩
theorem w_mn : p_Mn := ⟨p_mem (by decide +kernel) rfl, p_mem (by decide +kernel) rfl, p_mem (by decide +kernel) rfl⟩
