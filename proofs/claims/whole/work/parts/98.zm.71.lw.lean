theorem tw_138 : Cond.classLink RLw 7 RX9 ∈ gw_ := gw_in (tk_1 _ (List.mem_of_getElem? (i := 22) (by decide +kernel))) rfl
theorem tw_139 : Cond.instantiable RX9 13 ∈ gw_ := gw_in (tk_1 _ (List.mem_of_getElem? (i := 23) (by decide +kernel))) rfl
theorem tw_140 : Cond.methodLink RLw 9 yX9_init ∈ gw_ := gw_in (tk_1 _ (List.mem_of_getElem? (i := 24) (by decide +kernel))) rfl
theorem tw_141 : Cond.instanceMethod yX9_init ∈ gw_ := gw_in (tk_1 _ (List.mem_of_getElem? (i := 25) (by decide +kernel))) rfl
theorem tw_465 : Cond.methodLink RLw 13 yX9_feed ∈ gw_ := gw_in (tk_2 _ (List.mem_of_getElem? (i := 109) (by decide +kernel))) rfl
theorem tw_466 : Cond.instanceMethod yX9_feed ∈ gw_ := gw_in (tk_2 _ (List.mem_of_getElem? (i := 110) (by decide +kernel))) rfl
theorem tw_467 : Cond.selects RX9 yX9_feed yX9_feed ∈ gw_ := gw_in (tk_2 _ (List.mem_of_getElem? (i := 111) (by decide +kernel))) rfl
theorem tw_473 : Cond.methodLink RLw 18 yX9_end ∈ gw_ := gw_in (tk_2 _ (List.mem_of_getElem? (i := 117) (by decide +kernel))) rfl
theorem tw_474 : Cond.instanceMethod yX9_end ∈ gw_ := gw_in (tk_2 _ (List.mem_of_getElem? (i := 118) (by decide +kernel))) rfl
theorem tw_475 : Cond.selects RX9 yX9_end yX9_end ∈ gw_ := gw_in (tk_2 _ (List.mem_of_getElem? (i := 119) (by decide +kernel))) rfl
theorem tw_477 : Cond.methodLink RLw 23 yX9_election ∈ gw_ := gw_in (tk_2 _ (List.mem_of_getElem? (i := 121) (by decide +kernel))) rfl
theorem tw_478 : Cond.instanceMethod yX9_election ∈ gw_ := gw_in (tk_2 _ (List.mem_of_getElem? (i := 122) (by decide +kernel))) rfl
theorem tw_479 : Cond.selects RX9 yX9_election yX9_election ∈ gw_ := gw_in (tk_2 _ (List.mem_of_getElem? (i := 123) (by decide +kernel))) rfl
theorem tw_636 : Cond.methodLink RLw 28 yX9_rule ∈ gw_ := gw_in (tk_3 _ (List.mem_of_getElem? (i := 40) (by decide +kernel))) rfl
theorem tw_637 : Cond.instanceMethod yX9_rule ∈ gw_ := gw_in (tk_3 _ (List.mem_of_getElem? (i := 41) (by decide +kernel))) rfl
theorem tw_638 : Cond.selects RX9 yX9_rule yX9_rule ∈ gw_ := gw_in (tk_3 _ (List.mem_of_getElem? (i := 42) (by decide +kernel))) rfl
theorem tw_718 : Cond.methodLink RLw 32 yX9_force ∈ gw_ := gw_in (tk_3 _ (List.mem_of_getElem? (i := 122) (by decide +kernel))) rfl
theorem tw_719 : Cond.instanceMethod yX9_force ∈ gw_ := gw_in (tk_3 _ (List.mem_of_getElem? (i := 123) (by decide +kernel))) rfl
theorem tw_720 : Cond.selects RX9 yX9_force yX9_force ∈ gw_ := gw_in (tk_3 _ (List.mem_of_getElem? (i := 124) (by decide +kernel))) rfl
theorem tw_722 : Cond.methodLink RLw 36 yX9_station ∈ gw_ := gw_in (tk_3 _ (List.mem_of_getElem? (i := 126) (by decide +kernel))) rfl
theorem tw_723 : Cond.instanceMethod yX9_station ∈ gw_ := gw_in (tk_3 _ (List.mem_of_getElem? (i := 127) (by decide +kernel))) rfl
theorem tw_724 : Cond.selects RX9 yX9_station yX9_station ∈ gw_ := gw_in (tk_3 _ (List.mem_of_getElem? (i := 128) (by decide +kernel))) rfl
theorem tw_739 : Cond.methodLink RLw 41 yX9_paper ∈ gw_ := gw_in (tk_3 _ (List.mem_of_getElem? (i := 143) (by decide +kernel))) rfl
theorem tw_740 : Cond.instanceMethod yX9_paper ∈ gw_ := gw_in (tk_3 _ (List.mem_of_getElem? (i := 144) (by decide +kernel))) rfl
theorem tw_741 : Cond.selects RX9 yX9_paper yX9_paper ∈ gw_ := gw_in (tk_3 _ (List.mem_of_getElem? (i := 145) (by decide +kernel))) rfl
theorem tw_754 : Cond.methodLink RLw 45 yX9_row ∈ gw_ := gw_in (tk_3 _ (List.mem_of_getElem? (i := 158) (by decide +kernel))) rfl
theorem tw_755 : Cond.instanceMethod yX9_row ∈ gw_ := gw_in (tk_3 _ (List.mem_of_getElem? (i := 159) (by decide +kernel))) rfl
theorem tw_756 : Cond.selects RX9 yX9_row yX9_row ∈ gw_ := gw_in (tk_3 _ (List.mem_of_getElem? (i := 160) (by decide +kernel))) rfl
theorem tw_763 : Cond.methodLink RLw 50 yX9_runs ∈ gw_ := gw_in (tk_3 _ (List.mem_of_getElem? (i := 167) (by decide +kernel))) rfl
theorem tw_764 : Cond.instanceMethod yX9_runs ∈ gw_ := gw_in (tk_3 _ (List.mem_of_getElem? (i := 168) (by decide +kernel))) rfl
theorem tw_765 : Cond.selects RX9 yX9_runs yX9_runs ∈ gw_ := gw_in (tk_3 _ (List.mem_of_getElem? (i := 169) (by decide +kernel))) rfl
theorem tw_779 : Cond.methodLink RLw 54 yX9_moved ∈ gw_ := gw_in (tk_3 _ (List.mem_of_getElem? (i := 183) (by decide +kernel))) rfl
theorem tw_780 : Cond.instanceMethod yX9_moved ∈ gw_ := gw_in (tk_3 _ (List.mem_of_getElem? (i := 184) (by decide +kernel))) rfl
theorem tw_781 : Cond.selects RX9 yX9_moved yX9_moved ∈ gw_ := gw_in (tk_3 _ (List.mem_of_getElem? (i := 185) (by decide +kernel))) rfl
theorem tw_787 : Cond.methodLink RLw 58 yX9_told ∈ gw_ := gw_in (tk_3 _ (List.mem_of_getElem? (i := 191) (by decide +kernel))) rfl
theorem tw_788 : Cond.instanceMethod yX9_told ∈ gw_ := gw_in (tk_3 _ (List.mem_of_getElem? (i := 192) (by decide +kernel))) rfl
theorem tw_789 : Cond.selects RX9 yX9_told yX9_told ∈ gw_ := gw_in (tk_3 _ (List.mem_of_getElem? (i := 193) (by decide +kernel))) rfl
theorem tw_794 : Cond.methodLink RLw 62 yX9_hour ∈ gw_ := gw_in (tk_3 _ (List.mem_of_getElem? (i := 198) (by decide +kernel))) rfl
theorem tw_795 : Cond.instanceMethod yX9_hour ∈ gw_ := gw_in (tk_3 _ (List.mem_of_getElem? (i := 199) (by decide +kernel))) rfl
theorem tw_796 : Cond.selects RX9 yX9_hour yX9_hour ∈ gw_ := gw_in (tk_3 _ (List.mem_of_getElem? (i := 200) (by decide +kernel))) rfl
theorem tw_862 : Cond.methodLink RLw 66 yX9_move ∈ gw_ := gw_in (tk_4 _ (List.mem_of_getElem? (i := 26) (by decide +kernel))) rfl
theorem tw_863 : Cond.instanceMethod yX9_move ∈ gw_ := gw_in (tk_4 _ (List.mem_of_getElem? (i := 27) (by decide +kernel))) rfl
theorem tw_864 : Cond.selects RX9 yX9_move yX9_move ∈ gw_ := gw_in (tk_4 _ (List.mem_of_getElem? (i := 28) (by decide +kernel))) rfl
theorem tw_880 : Cond.methodLink RLw 70 yX9_lend ∈ gw_ := gw_in (tk_4 _ (List.mem_of_getElem? (i := 44) (by decide +kernel))) rfl
theorem tw_881 : Cond.instanceMethod yX9_lend ∈ gw_ := gw_in (tk_4 _ (List.mem_of_getElem? (i := 45) (by decide +kernel))) rfl
theorem tw_882 : Cond.selects RX9 yX9_lend yX9_lend ∈ gw_ := gw_in (tk_4 _ (List.mem_of_getElem? (i := 46) (by decide +kernel))) rfl
theorem tw_893 : Cond.methodLink RLw 74 yX9_spoil ∈ gw_ := gw_in (tk_4 _ (List.mem_of_getElem? (i := 57) (by decide +kernel))) rfl
theorem tw_894 : Cond.instanceMethod yX9_spoil ∈ gw_ := gw_in (tk_4 _ (List.mem_of_getElem? (i := 58) (by decide +kernel))) rfl
theorem tw_895 : Cond.selects RX9 yX9_spoil yX9_spoil ∈ gw_ := gw_in (tk_4 _ (List.mem_of_getElem? (i := 59) (by decide +kernel))) rfl
theorem tw_898 : Cond.methodLink RLw 78 yX9_find ∈ gw_ := gw_in (tk_4 _ (List.mem_of_getElem? (i := 62) (by decide +kernel))) rfl
theorem tw_899 : Cond.instanceMethod yX9_find ∈ gw_ := gw_in (tk_4 _ (List.mem_of_getElem? (i := 63) (by decide +kernel))) rfl
theorem tw_900 : Cond.selects RX9 yX9_find yX9_find ∈ gw_ := gw_in (tk_4 _ (List.mem_of_getElem? (i := 64) (by decide +kernel))) rfl
theorem tw_902 : Cond.methodLink RLw 82 yX9_send ∈ gw_ := gw_in (tk_4 _ (List.mem_of_getElem? (i := 66) (by decide +kernel))) rfl
theorem tw_903 : Cond.instanceMethod yX9_send ∈ gw_ := gw_in (tk_4 _ (List.mem_of_getElem? (i := 67) (by decide +kernel))) rfl
theorem tw_904 : Cond.selects RX9 yX9_send yX9_send ∈ gw_ := gw_in (tk_4 _ (List.mem_of_getElem? (i := 68) (by decide +kernel))) rfl
theorem tw_906 : Cond.methodLink RLw 86 yX9_tell ∈ gw_ := gw_in (tk_4 _ (List.mem_of_getElem? (i := 70) (by decide +kernel))) rfl
theorem tw_907 : Cond.instanceMethod yX9_tell ∈ gw_ := gw_in (tk_4 _ (List.mem_of_getElem? (i := 71) (by decide +kernel))) rfl
theorem tw_908 : Cond.selects RX9 yX9_tell yX9_tell ∈ gw_ := gw_in (tk_4 _ (List.mem_of_getElem? (i := 72) (by decide +kernel))) rfl
theorem tw_914 : Cond.methodLink RLw 90 yX9_recount ∈ gw_ := gw_in (tk_4 _ (List.mem_of_getElem? (i := 78) (by decide +kernel))) rfl
theorem tw_915 : Cond.instanceMethod yX9_recount ∈ gw_ := gw_in (tk_4 _ (List.mem_of_getElem? (i := 79) (by decide +kernel))) rfl
theorem tw_916 : Cond.selects RX9 yX9_recount yX9_recount ∈ gw_ := gw_in (tk_4 _ (List.mem_of_getElem? (i := 80) (by decide +kernel))) rfl
theorem tw_924 : Cond.methodLink RLw 94 yX9_undo ∈ gw_ := gw_in (tk_4 _ (List.mem_of_getElem? (i := 88) (by decide +kernel))) rfl
theorem tw_925 : Cond.instanceMethod yX9_undo ∈ gw_ := gw_in (tk_4 _ (List.mem_of_getElem? (i := 89) (by decide +kernel))) rfl
theorem tw_926 : Cond.selects RX9 yX9_undo yX9_undo ∈ gw_ := gw_in (tk_4 _ (List.mem_of_getElem? (i := 90) (by decide +kernel))) rfl
theorem tw_932 : Cond.methodLink RLw 98 yX9_way ∈ gw_ := gw_in (tk_4 _ (List.mem_of_getElem? (i := 96) (by decide +kernel))) rfl
theorem tw_933 : Cond.instanceMethod yX9_way ∈ gw_ := gw_in (tk_4 _ (List.mem_of_getElem? (i := 97) (by decide +kernel))) rfl
theorem tw_934 : Cond.selects RX9 yX9_way yX9_way ∈ gw_ := gw_in (tk_4 _ (List.mem_of_getElem? (i := 98) (by decide +kernel))) rfl
theorem tw_940 : Cond.methodLink RLw 102 yX9_balance ∈ gw_ := gw_in (tk_4 _ (List.mem_of_getElem? (i := 104) (by decide +kernel))) rfl
theorem tw_941 : Cond.instanceMethod yX9_balance ∈ gw_ := gw_in (tk_4 _ (List.mem_of_getElem? (i := 105) (by decide +kernel))) rfl
theorem tw_942 : Cond.selects RX9 yX9_balance yX9_balance ∈ gw_ := gw_in (tk_4 _ (List.mem_of_getElem? (i := 106) (by decide +kernel))) rfl
theorem tw_948 : Cond.methodLink RLw 106 yX9_slips ∈ gw_ := gw_in (tk_4 _ (List.mem_of_getElem? (i := 112) (by decide +kernel))) rfl
theorem tw_949 : Cond.instanceMethod yX9_slips ∈ gw_ := gw_in (tk_4 _ (List.mem_of_getElem? (i := 113) (by decide +kernel))) rfl
theorem tw_950 : Cond.selects RX9 yX9_slips yX9_slips ∈ gw_ := gw_in (tk_4 _ (List.mem_of_getElem? (i := 114) (by decide +kernel))) rfl
theorem tw_977 : Cond.methodLink RLw 110 yX9_must ∈ gw_ := gw_in (tk_4 _ (List.mem_of_getElem? (i := 141) (by decide +kernel))) rfl
theorem tw_978 : Cond.instanceMethod yX9_must ∈ gw_ := gw_in (tk_4 _ (List.mem_of_getElem? (i := 142) (by decide +kernel))) rfl
theorem tw_979 : Cond.selects RX9 yX9_must yX9_must ∈ gw_ := gw_in (tk_4 _ (List.mem_of_getElem? (i := 143) (by decide +kernel))) rfl
theorem tw_985 : Cond.methodLink RLw 114 yX9_free ∈ gw_ := gw_in (tk_4 _ (List.mem_of_getElem? (i := 149) (by decide +kernel))) rfl
theorem tw_986 : Cond.instanceMethod yX9_free ∈ gw_ := gw_in (tk_4 _ (List.mem_of_getElem? (i := 150) (by decide +kernel))) rfl
theorem tw_987 : Cond.selects RX9 yX9_free yX9_free ∈ gw_ := gw_in (tk_4 _ (List.mem_of_getElem? (i := 151) (by decide +kernel))) rfl
theorem tw_989 : Cond.methodLink RLw 118 yX9_leaves ∈ gw_ := gw_in (tk_4 _ (List.mem_of_getElem? (i := 153) (by decide +kernel))) rfl
theorem tw_990 : Cond.instanceMethod yX9_leaves ∈ gw_ := gw_in (tk_4 _ (List.mem_of_getElem? (i := 154) (by decide +kernel))) rfl
theorem tw_991 : Cond.selects RX9 yX9_leaves yX9_leaves ∈ gw_ := gw_in (tk_4 _ (List.mem_of_getElem? (i := 155) (by decide +kernel))) rfl
theorem tw_993 : Cond.methodLink RLw 122 yX9_ahead ∈ gw_ := gw_in (tk_4 _ (List.mem_of_getElem? (i := 157) (by decide +kernel))) rfl
theorem tw_994 : Cond.instanceMethod yX9_ahead ∈ gw_ := gw_in (tk_4 _ (List.mem_of_getElem? (i := 158) (by decide +kernel))) rfl
theorem tw_995 : Cond.selects RX9 yX9_ahead yX9_ahead ∈ gw_ := gw_in (tk_4 _ (List.mem_of_getElem? (i := 159) (by decide +kernel))) rfl
theorem tw_1007 : Cond.methodLink RLw 126 yX9_dry ∈ gw_ := gw_in (tk_4 _ (List.mem_of_getElem? (i := 171) (by decide +kernel))) rfl
theorem tw_1008 : Cond.instanceMethod yX9_dry ∈ gw_ := gw_in (tk_4 _ (List.mem_of_getElem? (i := 172) (by decide +kernel))) rfl
theorem tw_1009 : Cond.selects RX9 yX9_dry yX9_dry ∈ gw_ := gw_in (tk_4 _ (List.mem_of_getElem? (i := 173) (by decide +kernel))) rfl
theorem tw_1012 : Cond.methodLink RLw 130 yX9_served ∈ gw_ := gw_in (tk_4 _ (List.mem_of_getElem? (i := 176) (by decide +kernel))) rfl
theorem tw_1013 : Cond.instanceMethod yX9_served ∈ gw_ := gw_in (tk_4 _ (List.mem_of_getElem? (i := 177) (by decide +kernel))) rfl
theorem tw_1014 : Cond.selects RX9 yX9_served yX9_served ∈ gw_ := gw_in (tk_4 _ (List.mem_of_getElem? (i := 178) (by decide +kernel))) rfl
theorem tw_1017 : Cond.methodLink RLw 134 yX9_more ∈ gw_ := gw_in (tk_4 _ (List.mem_of_getElem? (i := 181) (by decide +kernel))) rfl
theorem tw_1018 : Cond.instanceMethod yX9_more ∈ gw_ := gw_in (tk_4 _ (List.mem_of_getElem? (i := 182) (by decide +kernel))) rfl
theorem tw_1019 : Cond.selects RX9 yX9_more yX9_more ∈ gw_ := gw_in (tk_4 _ (List.mem_of_getElem? (i := 183) (by decide +kernel))) rfl
theorem tw_1034 : Cond.methodLink RLw 138 yX9_crowds ∈ gw_ := gw_in (tk_4 _ (List.mem_of_getElem? (i := 198) (by decide +kernel))) rfl
theorem tw_1035 : Cond.instanceMethod yX9_crowds ∈ gw_ := gw_in (tk_4 _ (List.mem_of_getElem? (i := 199) (by decide +kernel))) rfl
theorem tw_1036 : Cond.selects RX9 yX9_crowds yX9_crowds ∈ gw_ := gw_in (tk_4 _ (List.mem_of_getElem? (i := 200) (by decide +kernel))) rfl
theorem tw_1044 : Cond.methodLink RLw 142 yX9_rests ∈ gw_ := gw_in (tk_4 _ (List.mem_of_getElem? (i := 208) (by decide +kernel))) rfl
theorem tw_1045 : Cond.instanceMethod yX9_rests ∈ gw_ := gw_in (tk_4 _ (List.mem_of_getElem? (i := 209) (by decide +kernel))) rfl
theorem tw_1046 : Cond.selects RX9 yX9_rests yX9_rests ∈ gw_ := gw_in (tk_4 _ (List.mem_of_getElem? (i := 210) (by decide +kernel))) rfl
theorem tw_1057 : Cond.methodLink RLw 147 yX9_pence ∈ gw_ := gw_in (tk_4 _ (List.mem_of_getElem? (i := 221) (by decide +kernel))) rfl
theorem tw_1058 : Cond.instanceMethod yX9_pence ∈ gw_ := gw_in (tk_4 _ (List.mem_of_getElem? (i := 222) (by decide +kernel))) rfl
theorem tw_1059 : Cond.selects RX9 yX9_pence yX9_pence ∈ gw_ := gw_in (tk_4 _ (List.mem_of_getElem? (i := 223) (by decide +kernel))) rfl
theorem tw_1061 : Cond.methodLink RLw 151 yX9_note ∈ gw_ := gw_in (tk_4 _ (List.mem_of_getElem? (i := 225) (by decide +kernel))) rfl
theorem tw_1062 : Cond.instanceMethod yX9_note ∈ gw_ := gw_in (tk_4 _ (List.mem_of_getElem? (i := 226) (by decide +kernel))) rfl
theorem tw_1063 : Cond.selects RX9 yX9_note yX9_note ∈ gw_ := gw_in (tk_4 _ (List.mem_of_getElem? (i := 227) (by decide +kernel))) rfl
theorem tw_1069 : Cond.methodLink RLw 155 yX9_ruled ∈ gw_ := gw_in (tk_4 _ (List.mem_of_getElem? (i := 233) (by decide +kernel))) rfl
theorem tw_1070 : Cond.instanceMethod yX9_ruled ∈ gw_ := gw_in (tk_4 _ (List.mem_of_getElem? (i := 234) (by decide +kernel))) rfl
theorem tw_1071 : Cond.selects RX9 yX9_ruled yX9_ruled ∈ gw_ := gw_in (tk_4 _ (List.mem_of_getElem? (i := 235) (by decide +kernel))) rfl
theorem tw_1073 : Cond.methodLink RLw 159 yX9_look ∈ gw_ := gw_in (tk_4 _ (List.mem_of_getElem? (i := 237) (by decide +kernel))) rfl
theorem tw_1074 : Cond.instanceMethod yX9_look ∈ gw_ := gw_in (tk_4 _ (List.mem_of_getElem? (i := 238) (by decide +kernel))) rfl
theorem tw_1075 : Cond.selects RX9 yX9_look yX9_look ∈ gw_ := gw_in (tk_4 _ (List.mem_of_getElem? (i := 239) (by decide +kernel))) rfl
theorem tw_1087 : Cond.methodLink RLw 163 yX9_seed ∈ gw_ := gw_in (tk_5 _ (List.mem_of_getElem? (i := 11) (by decide +kernel))) rfl
theorem tw_1088 : Cond.instanceMethod yX9_seed ∈ gw_ := gw_in (tk_5 _ (List.mem_of_getElem? (i := 12) (by decide +kernel))) rfl
theorem tw_1089 : Cond.selects RX9 yX9_seed yX9_seed ∈ gw_ := gw_in (tk_5 _ (List.mem_of_getElem? (i := 13) (by decide +kernel))) rfl
theorem tw_1091 : Cond.methodLink RLw 167 yX9_crowded ∈ gw_ := gw_in (tk_5 _ (List.mem_of_getElem? (i := 15) (by decide +kernel))) rfl
theorem tw_1092 : Cond.instanceMethod yX9_crowded ∈ gw_ := gw_in (tk_5 _ (List.mem_of_getElem? (i := 16) (by decide +kernel))) rfl
theorem tw_1093 : Cond.selects RX9 yX9_crowded yX9_crowded ∈ gw_ := gw_in (tk_5 _ (List.mem_of_getElem? (i := 17) (by decide +kernel))) rfl
theorem tw_1104 : Cond.methodLink RLw 171 yX9_count ∈ gw_ := gw_in (tk_5 _ (List.mem_of_getElem? (i := 28) (by decide +kernel))) rfl
theorem tw_1105 : Cond.instanceMethod yX9_count ∈ gw_ := gw_in (tk_5 _ (List.mem_of_getElem? (i := 29) (by decide +kernel))) rfl
theorem tw_1106 : Cond.selects RX9 yX9_count yX9_count ∈ gw_ := gw_in (tk_5 _ (List.mem_of_getElem? (i := 30) (by decide +kernel))) rfl
theorem tw_1109 : Cond.methodLink RLw 175 yX9_image ∈ gw_ := gw_in (tk_5 _ (List.mem_of_getElem? (i := 33) (by decide +kernel))) rfl
theorem tw_1110 : Cond.instanceMethod yX9_image ∈ gw_ := gw_in (tk_5 _ (List.mem_of_getElem? (i := 34) (by decide +kernel))) rfl
theorem tw_1111 : Cond.selects RX9 yX9_image yX9_image ∈ gw_ := gw_in (tk_5 _ (List.mem_of_getElem? (i := 35) (by decide +kernel))) rfl
theorem tw_1120 : Cond.methodLink RLw 179 yX9_back ∈ gw_ := gw_in (tk_5 _ (List.mem_of_getElem? (i := 44) (by decide +kernel))) rfl
theorem tw_1121 : Cond.instanceMethod yX9_back ∈ gw_ := gw_in (tk_5 _ (List.mem_of_getElem? (i := 45) (by decide +kernel))) rfl
theorem tw_1122 : Cond.selects RX9 yX9_back yX9_back ∈ gw_ := gw_in (tk_5 _ (List.mem_of_getElem? (i := 46) (by decide +kernel))) rfl
theorem tw_1124 : Cond.classLink RLw 10 RX10 ∈ gw_ := gw_in (tk_5 _ (List.mem_of_getElem? (i := 48) (by decide +kernel))) rfl
theorem tw_1125 : Cond.instantiable RX10 42 ∈ gw_ := gw_in (tk_5 _ (List.mem_of_getElem? (i := 49) (by decide +kernel))) rfl
theorem tw_1126 : Cond.methodLink RLw 12 yX10_init ∈ gw_ := gw_in (tk_5 _ (List.mem_of_getElem? (i := 50) (by decide +kernel))) rfl
theorem tw_1127 : Cond.instanceMethod yX10_init ∈ gw_ := gw_in (tk_5 _ (List.mem_of_getElem? (i := 51) (by decide +kernel))) rfl
theorem tw_1258 : Cond.methodLink RLw 17 yX10_feed ∈ gw_ := gw_in (tk_5 _ (List.mem_of_getElem? (i := 182) (by decide +kernel))) rfl
theorem tw_1259 : Cond.instanceMethod yX10_feed ∈ gw_ := gw_in (tk_5 _ (List.mem_of_getElem? (i := 183) (by decide +kernel))) rfl
theorem tw_1260 : Cond.selects RX10 yX10_feed yX10_feed ∈ gw_ := gw_in (tk_5 _ (List.mem_of_getElem? (i := 184) (by decide +kernel))) rfl
theorem tw_1266 : Cond.methodLink RLw 22 yX10_end ∈ gw_ := gw_in (tk_5 _ (List.mem_of_getElem? (i := 190) (by decide +kernel))) rfl
theorem tw_1267 : Cond.instanceMethod yX10_end ∈ gw_ := gw_in (tk_5 _ (List.mem_of_getElem? (i := 191) (by decide +kernel))) rfl
theorem tw_1268 : Cond.selects RX10 yX10_end yX10_end ∈ gw_ := gw_in (tk_5 _ (List.mem_of_getElem? (i := 192) (by decide +kernel))) rfl
theorem tw_1270 : Cond.methodLink RLw 31 yX10_rule ∈ gw_ := gw_in (tk_5 _ (List.mem_of_getElem? (i := 194) (by decide +kernel))) rfl
theorem tw_1271 : Cond.instanceMethod yX10_rule ∈ gw_ := gw_in (tk_5 _ (List.mem_of_getElem? (i := 195) (by decide +kernel))) rfl
theorem tw_1272 : Cond.selects RX10 yX10_rule yX10_rule ∈ gw_ := gw_in (tk_5 _ (List.mem_of_getElem? (i := 196) (by decide +kernel))) rfl
theorem tw_1426 : Cond.methodLink RLw 27 yX10_election ∈ gw_ := gw_in (tk_6 _ (List.mem_of_getElem? (i := 110) (by decide +kernel))) rfl
theorem tw_1427 : Cond.instanceMethod yX10_election ∈ gw_ := gw_in (tk_6 _ (List.mem_of_getElem? (i := 111) (by decide +kernel))) rfl
theorem tw_1428 : Cond.selects RX10 yX10_election yX10_election ∈ gw_ := gw_in (tk_6 _ (List.mem_of_getElem? (i := 112) (by decide +kernel))) rfl
theorem tw_1438 : Cond.methodLink RLw 35 yX10_force ∈ gw_ := gw_in (tk_6 _ (List.mem_of_getElem? (i := 122) (by decide +kernel))) rfl
theorem tw_1439 : Cond.instanceMethod yX10_force ∈ gw_ := gw_in (tk_6 _ (List.mem_of_getElem? (i := 123) (by decide +kernel))) rfl
theorem tw_1440 : Cond.selects RX10 yX10_force yX10_force ∈ gw_ := gw_in (tk_6 _ (List.mem_of_getElem? (i := 124) (by decide +kernel))) rfl
theorem tw_1446 : Cond.methodLink RLw 40 yX10_station ∈ gw_ := gw_in (tk_6 _ (List.mem_of_getElem? (i := 130) (by decide +kernel))) rfl
theorem tw_1447 : Cond.instanceMethod yX10_station ∈ gw_ := gw_in (tk_6 _ (List.mem_of_getElem? (i := 131) (by decide +kernel))) rfl
theorem tw_1448 : Cond.selects RX10 yX10_station yX10_station ∈ gw_ := gw_in (tk_6 _ (List.mem_of_getElem? (i := 132) (by decide +kernel))) rfl
theorem tw_1470 : Cond.methodLink RLw 44 yX10_paper ∈ gw_ := gw_in (tk_6 _ (List.mem_of_getElem? (i := 154) (by decide +kernel))) rfl
theorem tw_1471 : Cond.instanceMethod yX10_paper ∈ gw_ := gw_in (tk_6 _ (List.mem_of_getElem? (i := 155) (by decide +kernel))) rfl
theorem tw_1472 : Cond.selects RX10 yX10_paper yX10_paper ∈ gw_ := gw_in (tk_6 _ (List.mem_of_getElem? (i := 156) (by decide +kernel))) rfl
theorem tw_1479 : Cond.methodLink RLw 49 yX10_row ∈ gw_ := gw_in (tk_6 _ (List.mem_of_getElem? (i := 163) (by decide +kernel))) rfl
theorem tw_1480 : Cond.instanceMethod yX10_row ∈ gw_ := gw_in (tk_6 _ (List.mem_of_getElem? (i := 164) (by decide +kernel))) rfl
theorem tw_1481 : Cond.selects RX10 yX10_row yX10_row ∈ gw_ := gw_in (tk_6 _ (List.mem_of_getElem? (i := 165) (by decide +kernel))) rfl
theorem tw_1487 : Cond.methodLink RLw 53 yX10_runs ∈ gw_ := gw_in (tk_6 _ (List.mem_of_getElem? (i := 171) (by decide +kernel))) rfl
theorem tw_1488 : Cond.instanceMethod yX10_runs ∈ gw_ := gw_in (tk_6 _ (List.mem_of_getElem? (i := 172) (by decide +kernel))) rfl
theorem tw_1489 : Cond.selects RX10 yX10_runs yX10_runs ∈ gw_ := gw_in (tk_6 _ (List.mem_of_getElem? (i := 173) (by decide +kernel))) rfl
theorem tw_1499 : Cond.methodLink RLw 57 yX10_moved ∈ gw_ := gw_in (tk_6 _ (List.mem_of_getElem? (i := 183) (by decide +kernel))) rfl
theorem tw_1500 : Cond.instanceMethod yX10_moved ∈ gw_ := gw_in (tk_6 _ (List.mem_of_getElem? (i := 184) (by decide +kernel))) rfl
theorem tw_1501 : Cond.selects RX10 yX10_moved yX10_moved ∈ gw_ := gw_in (tk_6 _ (List.mem_of_getElem? (i := 185) (by decide +kernel))) rfl
theorem tw_1503 : Cond.methodLink RLw 61 yX10_told ∈ gw_ := gw_in (tk_6 _ (List.mem_of_getElem? (i := 187) (by decide +kernel))) rfl
theorem tw_1504 : Cond.instanceMethod yX10_told ∈ gw_ := gw_in (tk_6 _ (List.mem_of_getElem? (i := 188) (by decide +kernel))) rfl
theorem tw_1505 : Cond.selects RX10 yX10_told yX10_told ∈ gw_ := gw_in (tk_6 _ (List.mem_of_getElem? (i := 189) (by decide +kernel))) rfl
theorem tw_1507 : Cond.methodLink RLw 97 yX10_undo ∈ gw_ := gw_in (tk_6 _ (List.mem_of_getElem? (i := 191) (by decide +kernel))) rfl
theorem tw_1508 : Cond.instanceMethod yX10_undo ∈ gw_ := gw_in (tk_6 _ (List.mem_of_getElem? (i := 192) (by decide +kernel))) rfl
theorem tw_1509 : Cond.selects RX10 yX10_undo yX10_undo ∈ gw_ := gw_in (tk_6 _ (List.mem_of_getElem? (i := 193) (by decide +kernel))) rfl
theorem tw_1511 : Cond.methodLink RLw 65 yX10_hour ∈ gw_ := gw_in (tk_6 _ (List.mem_of_getElem? (i := 195) (by decide +kernel))) rfl
theorem tw_1512 : Cond.instanceMethod yX10_hour ∈ gw_ := gw_in (tk_6 _ (List.mem_of_getElem? (i := 196) (by decide +kernel))) rfl
theorem tw_1513 : Cond.selects RX10 yX10_hour yX10_hour ∈ gw_ := gw_in (tk_6 _ (List.mem_of_getElem? (i := 197) (by decide +kernel))) rfl
theorem tw_1574 : Cond.methodLink RLw 69 yX10_move ∈ gw_ := gw_in (tk_7 _ (List.mem_of_getElem? (i := 18) (by decide +kernel))) rfl
theorem tw_1575 : Cond.instanceMethod yX10_move ∈ gw_ := gw_in (tk_7 _ (List.mem_of_getElem? (i := 19) (by decide +kernel))) rfl
theorem tw_1576 : Cond.selects RX10 yX10_move yX10_move ∈ gw_ := gw_in (tk_7 _ (List.mem_of_getElem? (i := 20) (by decide +kernel))) rfl
theorem tw_1587 : Cond.methodLink RLw 73 yX10_lend ∈ gw_ := gw_in (tk_7 _ (List.mem_of_getElem? (i := 31) (by decide +kernel))) rfl
theorem tw_1588 : Cond.instanceMethod yX10_lend ∈ gw_ := gw_in (tk_7 _ (List.mem_of_getElem? (i := 32) (by decide +kernel))) rfl
theorem tw_1589 : Cond.selects RX10 yX10_lend yX10_lend ∈ gw_ := gw_in (tk_7 _ (List.mem_of_getElem? (i := 33) (by decide +kernel))) rfl
theorem tw_1599 : Cond.methodLink RLw 77 yX10_spoil ∈ gw_ := gw_in (tk_7 _ (List.mem_of_getElem? (i := 43) (by decide +kernel))) rfl
theorem tw_1600 : Cond.instanceMethod yX10_spoil ∈ gw_ := gw_in (tk_7 _ (List.mem_of_getElem? (i := 44) (by decide +kernel))) rfl
theorem tw_1601 : Cond.selects RX10 yX10_spoil yX10_spoil ∈ gw_ := gw_in (tk_7 _ (List.mem_of_getElem? (i := 45) (by decide +kernel))) rfl
theorem tw_1603 : Cond.methodLink RLw 81 yX10_find ∈ gw_ := gw_in (tk_7 _ (List.mem_of_getElem? (i := 47) (by decide +kernel))) rfl
theorem tw_1604 : Cond.instanceMethod yX10_find ∈ gw_ := gw_in (tk_7 _ (List.mem_of_getElem? (i := 48) (by decide +kernel))) rfl
theorem tw_1605 : Cond.selects RX10 yX10_find yX10_find ∈ gw_ := gw_in (tk_7 _ (List.mem_of_getElem? (i := 49) (by decide +kernel))) rfl
theorem tw_1607 : Cond.methodLink RLw 85 yX10_send ∈ gw_ := gw_in (tk_7 _ (List.mem_of_getElem? (i := 51) (by decide +kernel))) rfl
theorem tw_1608 : Cond.instanceMethod yX10_send ∈ gw_ := gw_in (tk_7 _ (List.mem_of_getElem? (i := 52) (by decide +kernel))) rfl
theorem tw_1609 : Cond.selects RX10 yX10_send yX10_send ∈ gw_ := gw_in (tk_7 _ (List.mem_of_getElem? (i := 53) (by decide +kernel))) rfl
theorem tw_1611 : Cond.methodLink RLw 89 yX10_tell ∈ gw_ := gw_in (tk_7 _ (List.mem_of_getElem? (i := 55) (by decide +kernel))) rfl
theorem tw_1612 : Cond.instanceMethod yX10_tell ∈ gw_ := gw_in (tk_7 _ (List.mem_of_getElem? (i := 56) (by decide +kernel))) rfl
theorem tw_1613 : Cond.selects RX10 yX10_tell yX10_tell ∈ gw_ := gw_in (tk_7 _ (List.mem_of_getElem? (i := 57) (by decide +kernel))) rfl
theorem tw_1620 : Cond.methodLink RLw 93 yX10_recount ∈ gw_ := gw_in (tk_7 _ (List.mem_of_getElem? (i := 64) (by decide +kernel))) rfl
theorem tw_1621 : Cond.instanceMethod yX10_recount ∈ gw_ := gw_in (tk_7 _ (List.mem_of_getElem? (i := 65) (by decide +kernel))) rfl
theorem tw_1622 : Cond.selects RX10 yX10_recount yX10_recount ∈ gw_ := gw_in (tk_7 _ (List.mem_of_getElem? (i := 66) (by decide +kernel))) rfl
theorem tw_1628 : Cond.methodLink RLw 101 yX10_way ∈ gw_ := gw_in (tk_7 _ (List.mem_of_getElem? (i := 72) (by decide +kernel))) rfl
theorem tw_1629 : Cond.instanceMethod yX10_way ∈ gw_ := gw_in (tk_7 _ (List.mem_of_getElem? (i := 73) (by decide +kernel))) rfl
theorem tw_1630 : Cond.selects RX10 yX10_way yX10_way ∈ gw_ := gw_in (tk_7 _ (List.mem_of_getElem? (i := 74) (by decide +kernel))) rfl
theorem tw_1632 : Cond.methodLink RLw 105 yX10_balance ∈ gw_ := gw_in (tk_7 _ (List.mem_of_getElem? (i := 76) (by decide +kernel))) rfl
theorem tw_1633 : Cond.instanceMethod yX10_balance ∈ gw_ := gw_in (tk_7 _ (List.mem_of_getElem? (i := 77) (by decide +kernel))) rfl
theorem tw_1634 : Cond.selects RX10 yX10_balance yX10_balance ∈ gw_ := gw_in (tk_7 _ (List.mem_of_getElem? (i := 78) (by decide +kernel))) rfl
theorem tw_1640 : Cond.methodLink RLw 109 yX10_slips ∈ gw_ := gw_in (tk_7 _ (List.mem_of_getElem? (i := 84) (by decide +kernel))) rfl
theorem tw_1641 : Cond.instanceMethod yX10_slips ∈ gw_ := gw_in (tk_7 _ (List.mem_of_getElem? (i := 85) (by decide +kernel))) rfl
theorem tw_1642 : Cond.selects RX10 yX10_slips yX10_slips ∈ gw_ := gw_in (tk_7 _ (List.mem_of_getElem? (i := 86) (by decide +kernel))) rfl
theorem tw_1686 : Cond.methodLink RLw 113 yX10_must ∈ gw_ := gw_in (tk_7 _ (List.mem_of_getElem? (i := 130) (by decide +kernel))) rfl
theorem tw_1687 : Cond.instanceMethod yX10_must ∈ gw_ := gw_in (tk_7 _ (List.mem_of_getElem? (i := 131) (by decide +kernel))) rfl
theorem tw_1688 : Cond.selects RX10 yX10_must yX10_must ∈ gw_ := gw_in (tk_7 _ (List.mem_of_getElem? (i := 132) (by decide +kernel))) rfl
theorem tw_1694 : Cond.methodLink RLw 117 yX10_free ∈ gw_ := gw_in (tk_7 _ (List.mem_of_getElem? (i := 138) (by decide +kernel))) rfl
theorem tw_1695 : Cond.instanceMethod yX10_free ∈ gw_ := gw_in (tk_7 _ (List.mem_of_getElem? (i := 139) (by decide +kernel))) rfl
theorem tw_1696 : Cond.selects RX10 yX10_free yX10_free ∈ gw_ := gw_in (tk_7 _ (List.mem_of_getElem? (i := 140) (by decide +kernel))) rfl
theorem tw_1698 : Cond.methodLink RLw 121 yX10_leaves ∈ gw_ := gw_in (tk_7 _ (List.mem_of_getElem? (i := 142) (by decide +kernel))) rfl
theorem tw_1699 : Cond.instanceMethod yX10_leaves ∈ gw_ := gw_in (tk_7 _ (List.mem_of_getElem? (i := 143) (by decide +kernel))) rfl
theorem tw_1700 : Cond.selects RX10 yX10_leaves yX10_leaves ∈ gw_ := gw_in (tk_7 _ (List.mem_of_getElem? (i := 144) (by decide +kernel))) rfl
theorem tw_1710 : Cond.methodLink RLw 125 yX10_ahead ∈ gw_ := gw_in (tk_7 _ (List.mem_of_getElem? (i := 154) (by decide +kernel))) rfl
theorem tw_1711 : Cond.instanceMethod yX10_ahead ∈ gw_ := gw_in (tk_7 _ (List.mem_of_getElem? (i := 155) (by decide +kernel))) rfl
theorem tw_1712 : Cond.selects RX10 yX10_ahead yX10_ahead ∈ gw_ := gw_in (tk_7 _ (List.mem_of_getElem? (i := 156) (by decide +kernel))) rfl
theorem tw_1720 : Cond.methodLink RLw 129 yX10_dry ∈ gw_ := gw_in (tk_7 _ (List.mem_of_getElem? (i := 164) (by decide +kernel))) rfl
theorem tw_1721 : Cond.instanceMethod yX10_dry ∈ gw_ := gw_in (tk_7 _ (List.mem_of_getElem? (i := 165) (by decide +kernel))) rfl
theorem tw_1722 : Cond.selects RX10 yX10_dry yX10_dry ∈ gw_ := gw_in (tk_7 _ (List.mem_of_getElem? (i := 166) (by decide +kernel))) rfl
theorem tw_1724 : Cond.methodLink RLw 133 yX10_served ∈ gw_ := gw_in (tk_7 _ (List.mem_of_getElem? (i := 168) (by decide +kernel))) rfl
theorem tw_1725 : Cond.instanceMethod yX10_served ∈ gw_ := gw_in (tk_7 _ (List.mem_of_getElem? (i := 169) (by decide +kernel))) rfl
theorem tw_1726 : Cond.selects RX10 yX10_served yX10_served ∈ gw_ := gw_in (tk_7 _ (List.mem_of_getElem? (i := 170) (by decide +kernel))) rfl
theorem tw_1728 : Cond.methodLink RLw 137 yX10_more ∈ gw_ := gw_in (tk_7 _ (List.mem_of_getElem? (i := 172) (by decide +kernel))) rfl
theorem tw_1729 : Cond.instanceMethod yX10_more ∈ gw_ := gw_in (tk_7 _ (List.mem_of_getElem? (i := 173) (by decide +kernel))) rfl
theorem tw_1730 : Cond.selects RX10 yX10_more yX10_more ∈ gw_ := gw_in (tk_7 _ (List.mem_of_getElem? (i := 174) (by decide +kernel))) rfl
theorem tw_1736 : Cond.methodLink RLw 146 yX10_rests ∈ gw_ := gw_in (tk_7 _ (List.mem_of_getElem? (i := 180) (by decide +kernel))) rfl
theorem tw_1737 : Cond.instanceMethod yX10_rests ∈ gw_ := gw_in (tk_7 _ (List.mem_of_getElem? (i := 181) (by decide +kernel))) rfl
theorem tw_1738 : Cond.selects RX10 yX10_rests yX10_rests ∈ gw_ := gw_in (tk_7 _ (List.mem_of_getElem? (i := 182) (by decide +kernel))) rfl
theorem tw_1752 : Cond.methodLink RLw 150 yX10_pence ∈ gw_ := gw_in (tk_7 _ (List.mem_of_getElem? (i := 196) (by decide +kernel))) rfl
theorem tw_1753 : Cond.instanceMethod yX10_pence ∈ gw_ := gw_in (tk_7 _ (List.mem_of_getElem? (i := 197) (by decide +kernel))) rfl
theorem tw_1754 : Cond.selects RX10 yX10_pence yX10_pence ∈ gw_ := gw_in (tk_7 _ (List.mem_of_getElem? (i := 198) (by decide +kernel))) rfl
theorem tw_1757 : Cond.methodLink RLw 154 yX10_note ∈ gw_ := gw_in (tk_7 _ (List.mem_of_getElem? (i := 201) (by decide +kernel))) rfl
theorem tw_1758 : Cond.instanceMethod yX10_note ∈ gw_ := gw_in (tk_7 _ (List.mem_of_getElem? (i := 202) (by decide +kernel))) rfl
theorem tw_1759 : Cond.selects RX10 yX10_note yX10_note ∈ gw_ := gw_in (tk_7 _ (List.mem_of_getElem? (i := 203) (by decide +kernel))) rfl
theorem tw_1761 : Cond.methodLink RLw 158 yX10_ruled ∈ gw_ := gw_in (tk_7 _ (List.mem_of_getElem? (i := 205) (by decide +kernel))) rfl
theorem tw_1762 : Cond.instanceMethod yX10_ruled ∈ gw_ := gw_in (tk_7 _ (List.mem_of_getElem? (i := 206) (by decide +kernel))) rfl
theorem tw_1763 : Cond.selects RX10 yX10_ruled yX10_ruled ∈ gw_ := gw_in (tk_7 _ (List.mem_of_getElem? (i := 207) (by decide +kernel))) rfl
theorem tw_1777 : Cond.methodLink RLw 162 yX10_look ∈ gw_ := gw_in (tk_7 _ (List.mem_of_getElem? (i := 221) (by decide +kernel))) rfl
theorem tw_1778 : Cond.instanceMethod yX10_look ∈ gw_ := gw_in (tk_7 _ (List.mem_of_getElem? (i := 222) (by decide +kernel))) rfl
theorem tw_1779 : Cond.selects RX10 yX10_look yX10_look ∈ gw_ := gw_in (tk_7 _ (List.mem_of_getElem? (i := 223) (by decide +kernel))) rfl
theorem tw_1785 : Cond.methodLink RLw 141 yX10_crowds ∈ gw_ := gw_in (tk_7 _ (List.mem_of_getElem? (i := 229) (by decide +kernel))) rfl
theorem tw_1786 : Cond.instanceMethod yX10_crowds ∈ gw_ := gw_in (tk_7 _ (List.mem_of_getElem? (i := 230) (by decide +kernel))) rfl
theorem tw_1787 : Cond.selects RX10 yX10_crowds yX10_crowds ∈ gw_ := gw_in (tk_7 _ (List.mem_of_getElem? (i := 231) (by decide +kernel))) rfl
theorem tw_1789 : Cond.methodLink RLw 166 yX10_seed ∈ gw_ := gw_in (tk_7 _ (List.mem_of_getElem? (i := 233) (by decide +kernel))) rfl
theorem tw_1790 : Cond.instanceMethod yX10_seed ∈ gw_ := gw_in (tk_7 _ (List.mem_of_getElem? (i := 234) (by decide +kernel))) rfl
theorem tw_1791 : Cond.selects RX10 yX10_seed yX10_seed ∈ gw_ := gw_in (tk_7 _ (List.mem_of_getElem? (i := 235) (by decide +kernel))) rfl
theorem tw_1793 : Cond.methodLink RLw 170 yX10_crowded ∈ gw_ := gw_in (tk_7 _ (List.mem_of_getElem? (i := 237) (by decide +kernel))) rfl
theorem tw_1794 : Cond.instanceMethod yX10_crowded ∈ gw_ := gw_in (tk_7 _ (List.mem_of_getElem? (i := 238) (by decide +kernel))) rfl
theorem tw_1795 : Cond.selects RX10 yX10_crowded yX10_crowded ∈ gw_ := gw_in (tk_7 _ (List.mem_of_getElem? (i := 239) (by decide +kernel))) rfl
theorem tw_1810 : Cond.methodLink RLw 174 yX10_count ∈ gw_ := gw_in (tk_8 _ (List.mem_of_getElem? (i := 14) (by decide +kernel))) rfl
theorem tw_1811 : Cond.instanceMethod yX10_count ∈ gw_ := gw_in (tk_8 _ (List.mem_of_getElem? (i := 15) (by decide +kernel))) rfl
theorem tw_1812 : Cond.selects RX10 yX10_count yX10_count ∈ gw_ := gw_in (tk_8 _ (List.mem_of_getElem? (i := 16) (by decide +kernel))) rfl
theorem tw_1818 : Cond.methodLink RLw 178 yX10_image ∈ gw_ := gw_in (tk_8 _ (List.mem_of_getElem? (i := 22) (by decide +kernel))) rfl
theorem tw_1819 : Cond.instanceMethod yX10_image ∈ gw_ := gw_in (tk_8 _ (List.mem_of_getElem? (i := 23) (by decide +kernel))) rfl
theorem tw_1820 : Cond.selects RX10 yX10_image yX10_image ∈ gw_ := gw_in (tk_8 _ (List.mem_of_getElem? (i := 24) (by decide +kernel))) rfl
theorem tw_1822 : Cond.methodLink RLw 182 yX10_back ∈ gw_ := gw_in (tk_8 _ (List.mem_of_getElem? (i := 26) (by decide +kernel))) rfl
theorem tw_1823 : Cond.instanceMethod yX10_back ∈ gw_ := gw_in (tk_8 _ (List.mem_of_getElem? (i := 27) (by decide +kernel))) rfl
theorem tw_1824 : Cond.selects RX10 yX10_back yX10_back ∈ gw_ := gw_in (tk_8 _ (List.mem_of_getElem? (i := 28) (by decide +kernel))) rfl
