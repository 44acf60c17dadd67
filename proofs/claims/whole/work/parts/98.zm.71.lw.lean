theorem tw_139 : Cond.classLink RLw 7 RX9 ∈ gw_ := gw_in (tk_1 _ (List.mem_of_getElem? (i := 22) (by decide +kernel))) rfl
theorem tw_140 : Cond.instantiable RX9 13 ∈ gw_ := gw_in (tk_1 _ (List.mem_of_getElem? (i := 23) (by decide +kernel))) rfl
theorem tw_141 : Cond.methodLink RLw 9 yX9_init ∈ gw_ := gw_in (tk_1 _ (List.mem_of_getElem? (i := 24) (by decide +kernel))) rfl
theorem tw_142 : Cond.instanceMethod yX9_init ∈ gw_ := gw_in (tk_1 _ (List.mem_of_getElem? (i := 25) (by decide +kernel))) rfl
theorem tw_466 : Cond.methodLink RLw 13 yX9_feed ∈ gw_ := gw_in (tk_2 _ (List.mem_of_getElem? (i := 109) (by decide +kernel))) rfl
theorem tw_467 : Cond.instanceMethod yX9_feed ∈ gw_ := gw_in (tk_2 _ (List.mem_of_getElem? (i := 110) (by decide +kernel))) rfl
theorem tw_468 : Cond.selects RX9 yX9_feed yX9_feed ∈ gw_ := gw_in (tk_2 _ (List.mem_of_getElem? (i := 111) (by decide +kernel))) rfl
theorem tw_474 : Cond.methodLink RLw 18 yX9_end ∈ gw_ := gw_in (tk_2 _ (List.mem_of_getElem? (i := 117) (by decide +kernel))) rfl
theorem tw_475 : Cond.instanceMethod yX9_end ∈ gw_ := gw_in (tk_2 _ (List.mem_of_getElem? (i := 118) (by decide +kernel))) rfl
theorem tw_476 : Cond.selects RX9 yX9_end yX9_end ∈ gw_ := gw_in (tk_2 _ (List.mem_of_getElem? (i := 119) (by decide +kernel))) rfl
theorem tw_478 : Cond.methodLink RLw 23 yX9_election ∈ gw_ := gw_in (tk_2 _ (List.mem_of_getElem? (i := 121) (by decide +kernel))) rfl
theorem tw_479 : Cond.instanceMethod yX9_election ∈ gw_ := gw_in (tk_2 _ (List.mem_of_getElem? (i := 122) (by decide +kernel))) rfl
theorem tw_480 : Cond.selects RX9 yX9_election yX9_election ∈ gw_ := gw_in (tk_2 _ (List.mem_of_getElem? (i := 123) (by decide +kernel))) rfl
theorem tw_637 : Cond.methodLink RLw 28 yX9_rule ∈ gw_ := gw_in (tk_3 _ (List.mem_of_getElem? (i := 40) (by decide +kernel))) rfl
theorem tw_638 : Cond.instanceMethod yX9_rule ∈ gw_ := gw_in (tk_3 _ (List.mem_of_getElem? (i := 41) (by decide +kernel))) rfl
theorem tw_639 : Cond.selects RX9 yX9_rule yX9_rule ∈ gw_ := gw_in (tk_3 _ (List.mem_of_getElem? (i := 42) (by decide +kernel))) rfl
theorem tw_727 : Cond.methodLink RLw 32 yX9_force ∈ gw_ := gw_in (tk_3 _ (List.mem_of_getElem? (i := 130) (by decide +kernel))) rfl
theorem tw_728 : Cond.instanceMethod yX9_force ∈ gw_ := gw_in (tk_3 _ (List.mem_of_getElem? (i := 131) (by decide +kernel))) rfl
theorem tw_729 : Cond.selects RX9 yX9_force yX9_force ∈ gw_ := gw_in (tk_3 _ (List.mem_of_getElem? (i := 132) (by decide +kernel))) rfl
theorem tw_731 : Cond.methodLink RLw 36 yX9_station ∈ gw_ := gw_in (tk_3 _ (List.mem_of_getElem? (i := 134) (by decide +kernel))) rfl
theorem tw_732 : Cond.instanceMethod yX9_station ∈ gw_ := gw_in (tk_3 _ (List.mem_of_getElem? (i := 135) (by decide +kernel))) rfl
theorem tw_733 : Cond.selects RX9 yX9_station yX9_station ∈ gw_ := gw_in (tk_3 _ (List.mem_of_getElem? (i := 136) (by decide +kernel))) rfl
theorem tw_748 : Cond.methodLink RLw 41 yX9_paper ∈ gw_ := gw_in (tk_3 _ (List.mem_of_getElem? (i := 151) (by decide +kernel))) rfl
theorem tw_749 : Cond.instanceMethod yX9_paper ∈ gw_ := gw_in (tk_3 _ (List.mem_of_getElem? (i := 152) (by decide +kernel))) rfl
theorem tw_750 : Cond.selects RX9 yX9_paper yX9_paper ∈ gw_ := gw_in (tk_3 _ (List.mem_of_getElem? (i := 153) (by decide +kernel))) rfl
theorem tw_763 : Cond.methodLink RLw 45 yX9_row ∈ gw_ := gw_in (tk_3 _ (List.mem_of_getElem? (i := 166) (by decide +kernel))) rfl
theorem tw_764 : Cond.instanceMethod yX9_row ∈ gw_ := gw_in (tk_3 _ (List.mem_of_getElem? (i := 167) (by decide +kernel))) rfl
theorem tw_765 : Cond.selects RX9 yX9_row yX9_row ∈ gw_ := gw_in (tk_3 _ (List.mem_of_getElem? (i := 168) (by decide +kernel))) rfl
theorem tw_772 : Cond.methodLink RLw 50 yX9_runs ∈ gw_ := gw_in (tk_3 _ (List.mem_of_getElem? (i := 175) (by decide +kernel))) rfl
theorem tw_773 : Cond.instanceMethod yX9_runs ∈ gw_ := gw_in (tk_3 _ (List.mem_of_getElem? (i := 176) (by decide +kernel))) rfl
theorem tw_774 : Cond.selects RX9 yX9_runs yX9_runs ∈ gw_ := gw_in (tk_3 _ (List.mem_of_getElem? (i := 177) (by decide +kernel))) rfl
theorem tw_788 : Cond.methodLink RLw 54 yX9_moved ∈ gw_ := gw_in (tk_3 _ (List.mem_of_getElem? (i := 191) (by decide +kernel))) rfl
theorem tw_789 : Cond.instanceMethod yX9_moved ∈ gw_ := gw_in (tk_3 _ (List.mem_of_getElem? (i := 192) (by decide +kernel))) rfl
theorem tw_790 : Cond.selects RX9 yX9_moved yX9_moved ∈ gw_ := gw_in (tk_3 _ (List.mem_of_getElem? (i := 193) (by decide +kernel))) rfl
theorem tw_796 : Cond.methodLink RLw 58 yX9_told ∈ gw_ := gw_in (tk_3 _ (List.mem_of_getElem? (i := 199) (by decide +kernel))) rfl
theorem tw_797 : Cond.instanceMethod yX9_told ∈ gw_ := gw_in (tk_3 _ (List.mem_of_getElem? (i := 200) (by decide +kernel))) rfl
theorem tw_798 : Cond.selects RX9 yX9_told yX9_told ∈ gw_ := gw_in (tk_3 _ (List.mem_of_getElem? (i := 201) (by decide +kernel))) rfl
theorem tw_803 : Cond.methodLink RLw 62 yX9_hour ∈ gw_ := gw_in (tk_3 _ (List.mem_of_getElem? (i := 206) (by decide +kernel))) rfl
theorem tw_804 : Cond.instanceMethod yX9_hour ∈ gw_ := gw_in (tk_3 _ (List.mem_of_getElem? (i := 207) (by decide +kernel))) rfl
theorem tw_805 : Cond.selects RX9 yX9_hour yX9_hour ∈ gw_ := gw_in (tk_3 _ (List.mem_of_getElem? (i := 208) (by decide +kernel))) rfl
theorem tw_871 : Cond.methodLink RLw 66 yX9_move ∈ gw_ := gw_in (tk_4 _ (List.mem_of_getElem? (i := 34) (by decide +kernel))) rfl
theorem tw_872 : Cond.instanceMethod yX9_move ∈ gw_ := gw_in (tk_4 _ (List.mem_of_getElem? (i := 35) (by decide +kernel))) rfl
theorem tw_873 : Cond.selects RX9 yX9_move yX9_move ∈ gw_ := gw_in (tk_4 _ (List.mem_of_getElem? (i := 36) (by decide +kernel))) rfl
theorem tw_889 : Cond.methodLink RLw 70 yX9_lend ∈ gw_ := gw_in (tk_4 _ (List.mem_of_getElem? (i := 52) (by decide +kernel))) rfl
theorem tw_890 : Cond.instanceMethod yX9_lend ∈ gw_ := gw_in (tk_4 _ (List.mem_of_getElem? (i := 53) (by decide +kernel))) rfl
theorem tw_891 : Cond.selects RX9 yX9_lend yX9_lend ∈ gw_ := gw_in (tk_4 _ (List.mem_of_getElem? (i := 54) (by decide +kernel))) rfl
theorem tw_902 : Cond.methodLink RLw 74 yX9_spoil ∈ gw_ := gw_in (tk_4 _ (List.mem_of_getElem? (i := 65) (by decide +kernel))) rfl
theorem tw_903 : Cond.instanceMethod yX9_spoil ∈ gw_ := gw_in (tk_4 _ (List.mem_of_getElem? (i := 66) (by decide +kernel))) rfl
theorem tw_904 : Cond.selects RX9 yX9_spoil yX9_spoil ∈ gw_ := gw_in (tk_4 _ (List.mem_of_getElem? (i := 67) (by decide +kernel))) rfl
theorem tw_907 : Cond.methodLink RLw 78 yX9_find ∈ gw_ := gw_in (tk_4 _ (List.mem_of_getElem? (i := 70) (by decide +kernel))) rfl
theorem tw_908 : Cond.instanceMethod yX9_find ∈ gw_ := gw_in (tk_4 _ (List.mem_of_getElem? (i := 71) (by decide +kernel))) rfl
theorem tw_909 : Cond.selects RX9 yX9_find yX9_find ∈ gw_ := gw_in (tk_4 _ (List.mem_of_getElem? (i := 72) (by decide +kernel))) rfl
theorem tw_911 : Cond.methodLink RLw 82 yX9_send ∈ gw_ := gw_in (tk_4 _ (List.mem_of_getElem? (i := 74) (by decide +kernel))) rfl
theorem tw_912 : Cond.instanceMethod yX9_send ∈ gw_ := gw_in (tk_4 _ (List.mem_of_getElem? (i := 75) (by decide +kernel))) rfl
theorem tw_913 : Cond.selects RX9 yX9_send yX9_send ∈ gw_ := gw_in (tk_4 _ (List.mem_of_getElem? (i := 76) (by decide +kernel))) rfl
theorem tw_915 : Cond.methodLink RLw 86 yX9_tell ∈ gw_ := gw_in (tk_4 _ (List.mem_of_getElem? (i := 78) (by decide +kernel))) rfl
theorem tw_916 : Cond.instanceMethod yX9_tell ∈ gw_ := gw_in (tk_4 _ (List.mem_of_getElem? (i := 79) (by decide +kernel))) rfl
theorem tw_917 : Cond.selects RX9 yX9_tell yX9_tell ∈ gw_ := gw_in (tk_4 _ (List.mem_of_getElem? (i := 80) (by decide +kernel))) rfl
theorem tw_923 : Cond.methodLink RLw 90 yX9_recount ∈ gw_ := gw_in (tk_4 _ (List.mem_of_getElem? (i := 86) (by decide +kernel))) rfl
theorem tw_924 : Cond.instanceMethod yX9_recount ∈ gw_ := gw_in (tk_4 _ (List.mem_of_getElem? (i := 87) (by decide +kernel))) rfl
theorem tw_925 : Cond.selects RX9 yX9_recount yX9_recount ∈ gw_ := gw_in (tk_4 _ (List.mem_of_getElem? (i := 88) (by decide +kernel))) rfl
theorem tw_933 : Cond.methodLink RLw 94 yX9_undo ∈ gw_ := gw_in (tk_4 _ (List.mem_of_getElem? (i := 96) (by decide +kernel))) rfl
theorem tw_934 : Cond.instanceMethod yX9_undo ∈ gw_ := gw_in (tk_4 _ (List.mem_of_getElem? (i := 97) (by decide +kernel))) rfl
theorem tw_935 : Cond.selects RX9 yX9_undo yX9_undo ∈ gw_ := gw_in (tk_4 _ (List.mem_of_getElem? (i := 98) (by decide +kernel))) rfl
theorem tw_941 : Cond.methodLink RLw 98 yX9_way ∈ gw_ := gw_in (tk_4 _ (List.mem_of_getElem? (i := 104) (by decide +kernel))) rfl
theorem tw_942 : Cond.instanceMethod yX9_way ∈ gw_ := gw_in (tk_4 _ (List.mem_of_getElem? (i := 105) (by decide +kernel))) rfl
theorem tw_943 : Cond.selects RX9 yX9_way yX9_way ∈ gw_ := gw_in (tk_4 _ (List.mem_of_getElem? (i := 106) (by decide +kernel))) rfl
theorem tw_949 : Cond.methodLink RLw 102 yX9_balance ∈ gw_ := gw_in (tk_4 _ (List.mem_of_getElem? (i := 112) (by decide +kernel))) rfl
theorem tw_950 : Cond.instanceMethod yX9_balance ∈ gw_ := gw_in (tk_4 _ (List.mem_of_getElem? (i := 113) (by decide +kernel))) rfl
theorem tw_951 : Cond.selects RX9 yX9_balance yX9_balance ∈ gw_ := gw_in (tk_4 _ (List.mem_of_getElem? (i := 114) (by decide +kernel))) rfl
theorem tw_957 : Cond.methodLink RLw 106 yX9_slips ∈ gw_ := gw_in (tk_4 _ (List.mem_of_getElem? (i := 120) (by decide +kernel))) rfl
theorem tw_958 : Cond.instanceMethod yX9_slips ∈ gw_ := gw_in (tk_4 _ (List.mem_of_getElem? (i := 121) (by decide +kernel))) rfl
theorem tw_959 : Cond.selects RX9 yX9_slips yX9_slips ∈ gw_ := gw_in (tk_4 _ (List.mem_of_getElem? (i := 122) (by decide +kernel))) rfl
theorem tw_985 : Cond.methodLink RLw 110 yX9_must ∈ gw_ := gw_in (tk_4 _ (List.mem_of_getElem? (i := 148) (by decide +kernel))) rfl
theorem tw_986 : Cond.instanceMethod yX9_must ∈ gw_ := gw_in (tk_4 _ (List.mem_of_getElem? (i := 149) (by decide +kernel))) rfl
theorem tw_987 : Cond.selects RX9 yX9_must yX9_must ∈ gw_ := gw_in (tk_4 _ (List.mem_of_getElem? (i := 150) (by decide +kernel))) rfl
theorem tw_993 : Cond.methodLink RLw 114 yX9_free ∈ gw_ := gw_in (tk_4 _ (List.mem_of_getElem? (i := 156) (by decide +kernel))) rfl
theorem tw_994 : Cond.instanceMethod yX9_free ∈ gw_ := gw_in (tk_4 _ (List.mem_of_getElem? (i := 157) (by decide +kernel))) rfl
theorem tw_995 : Cond.selects RX9 yX9_free yX9_free ∈ gw_ := gw_in (tk_4 _ (List.mem_of_getElem? (i := 158) (by decide +kernel))) rfl
theorem tw_997 : Cond.methodLink RLw 118 yX9_leaves ∈ gw_ := gw_in (tk_4 _ (List.mem_of_getElem? (i := 160) (by decide +kernel))) rfl
theorem tw_998 : Cond.instanceMethod yX9_leaves ∈ gw_ := gw_in (tk_4 _ (List.mem_of_getElem? (i := 161) (by decide +kernel))) rfl
theorem tw_999 : Cond.selects RX9 yX9_leaves yX9_leaves ∈ gw_ := gw_in (tk_4 _ (List.mem_of_getElem? (i := 162) (by decide +kernel))) rfl
theorem tw_1001 : Cond.methodLink RLw 122 yX9_ahead ∈ gw_ := gw_in (tk_4 _ (List.mem_of_getElem? (i := 164) (by decide +kernel))) rfl
theorem tw_1002 : Cond.instanceMethod yX9_ahead ∈ gw_ := gw_in (tk_4 _ (List.mem_of_getElem? (i := 165) (by decide +kernel))) rfl
theorem tw_1003 : Cond.selects RX9 yX9_ahead yX9_ahead ∈ gw_ := gw_in (tk_4 _ (List.mem_of_getElem? (i := 166) (by decide +kernel))) rfl
theorem tw_1015 : Cond.methodLink RLw 126 yX9_dry ∈ gw_ := gw_in (tk_4 _ (List.mem_of_getElem? (i := 178) (by decide +kernel))) rfl
theorem tw_1016 : Cond.instanceMethod yX9_dry ∈ gw_ := gw_in (tk_4 _ (List.mem_of_getElem? (i := 179) (by decide +kernel))) rfl
theorem tw_1017 : Cond.selects RX9 yX9_dry yX9_dry ∈ gw_ := gw_in (tk_4 _ (List.mem_of_getElem? (i := 180) (by decide +kernel))) rfl
theorem tw_1020 : Cond.methodLink RLw 130 yX9_served ∈ gw_ := gw_in (tk_4 _ (List.mem_of_getElem? (i := 183) (by decide +kernel))) rfl
theorem tw_1021 : Cond.instanceMethod yX9_served ∈ gw_ := gw_in (tk_4 _ (List.mem_of_getElem? (i := 184) (by decide +kernel))) rfl
theorem tw_1022 : Cond.selects RX9 yX9_served yX9_served ∈ gw_ := gw_in (tk_4 _ (List.mem_of_getElem? (i := 185) (by decide +kernel))) rfl
theorem tw_1025 : Cond.methodLink RLw 134 yX9_more ∈ gw_ := gw_in (tk_4 _ (List.mem_of_getElem? (i := 188) (by decide +kernel))) rfl
theorem tw_1026 : Cond.instanceMethod yX9_more ∈ gw_ := gw_in (tk_4 _ (List.mem_of_getElem? (i := 189) (by decide +kernel))) rfl
theorem tw_1027 : Cond.selects RX9 yX9_more yX9_more ∈ gw_ := gw_in (tk_4 _ (List.mem_of_getElem? (i := 190) (by decide +kernel))) rfl
theorem tw_1042 : Cond.methodLink RLw 138 yX9_crowds ∈ gw_ := gw_in (tk_4 _ (List.mem_of_getElem? (i := 205) (by decide +kernel))) rfl
theorem tw_1043 : Cond.instanceMethod yX9_crowds ∈ gw_ := gw_in (tk_4 _ (List.mem_of_getElem? (i := 206) (by decide +kernel))) rfl
theorem tw_1044 : Cond.selects RX9 yX9_crowds yX9_crowds ∈ gw_ := gw_in (tk_4 _ (List.mem_of_getElem? (i := 207) (by decide +kernel))) rfl
theorem tw_1052 : Cond.methodLink RLw 142 yX9_rests ∈ gw_ := gw_in (tk_4 _ (List.mem_of_getElem? (i := 215) (by decide +kernel))) rfl
theorem tw_1053 : Cond.instanceMethod yX9_rests ∈ gw_ := gw_in (tk_4 _ (List.mem_of_getElem? (i := 216) (by decide +kernel))) rfl
theorem tw_1054 : Cond.selects RX9 yX9_rests yX9_rests ∈ gw_ := gw_in (tk_4 _ (List.mem_of_getElem? (i := 217) (by decide +kernel))) rfl
theorem tw_1065 : Cond.methodLink RLw 147 yX9_pence ∈ gw_ := gw_in (tk_4 _ (List.mem_of_getElem? (i := 228) (by decide +kernel))) rfl
theorem tw_1066 : Cond.instanceMethod yX9_pence ∈ gw_ := gw_in (tk_4 _ (List.mem_of_getElem? (i := 229) (by decide +kernel))) rfl
theorem tw_1067 : Cond.selects RX9 yX9_pence yX9_pence ∈ gw_ := gw_in (tk_4 _ (List.mem_of_getElem? (i := 230) (by decide +kernel))) rfl
theorem tw_1069 : Cond.methodLink RLw 151 yX9_note ∈ gw_ := gw_in (tk_4 _ (List.mem_of_getElem? (i := 232) (by decide +kernel))) rfl
theorem tw_1070 : Cond.instanceMethod yX9_note ∈ gw_ := gw_in (tk_4 _ (List.mem_of_getElem? (i := 233) (by decide +kernel))) rfl
theorem tw_1071 : Cond.selects RX9 yX9_note yX9_note ∈ gw_ := gw_in (tk_4 _ (List.mem_of_getElem? (i := 234) (by decide +kernel))) rfl
theorem tw_1077 : Cond.methodLink RLw 155 yX9_ruled ∈ gw_ := gw_in (tk_5 _ (List.mem_of_getElem? (i := 0) (by decide +kernel))) rfl
theorem tw_1078 : Cond.instanceMethod yX9_ruled ∈ gw_ := gw_in (tk_5 _ (List.mem_of_getElem? (i := 1) (by decide +kernel))) rfl
theorem tw_1079 : Cond.selects RX9 yX9_ruled yX9_ruled ∈ gw_ := gw_in (tk_5 _ (List.mem_of_getElem? (i := 2) (by decide +kernel))) rfl
theorem tw_1081 : Cond.methodLink RLw 159 yX9_look ∈ gw_ := gw_in (tk_5 _ (List.mem_of_getElem? (i := 4) (by decide +kernel))) rfl
theorem tw_1082 : Cond.instanceMethod yX9_look ∈ gw_ := gw_in (tk_5 _ (List.mem_of_getElem? (i := 5) (by decide +kernel))) rfl
theorem tw_1083 : Cond.selects RX9 yX9_look yX9_look ∈ gw_ := gw_in (tk_5 _ (List.mem_of_getElem? (i := 6) (by decide +kernel))) rfl
theorem tw_1095 : Cond.methodLink RLw 163 yX9_seed ∈ gw_ := gw_in (tk_5 _ (List.mem_of_getElem? (i := 18) (by decide +kernel))) rfl
theorem tw_1096 : Cond.instanceMethod yX9_seed ∈ gw_ := gw_in (tk_5 _ (List.mem_of_getElem? (i := 19) (by decide +kernel))) rfl
theorem tw_1097 : Cond.selects RX9 yX9_seed yX9_seed ∈ gw_ := gw_in (tk_5 _ (List.mem_of_getElem? (i := 20) (by decide +kernel))) rfl
theorem tw_1099 : Cond.methodLink RLw 167 yX9_crowded ∈ gw_ := gw_in (tk_5 _ (List.mem_of_getElem? (i := 22) (by decide +kernel))) rfl
theorem tw_1100 : Cond.instanceMethod yX9_crowded ∈ gw_ := gw_in (tk_5 _ (List.mem_of_getElem? (i := 23) (by decide +kernel))) rfl
theorem tw_1101 : Cond.selects RX9 yX9_crowded yX9_crowded ∈ gw_ := gw_in (tk_5 _ (List.mem_of_getElem? (i := 24) (by decide +kernel))) rfl
theorem tw_1112 : Cond.methodLink RLw 171 yX9_count ∈ gw_ := gw_in (tk_5 _ (List.mem_of_getElem? (i := 35) (by decide +kernel))) rfl
theorem tw_1113 : Cond.instanceMethod yX9_count ∈ gw_ := gw_in (tk_5 _ (List.mem_of_getElem? (i := 36) (by decide +kernel))) rfl
theorem tw_1114 : Cond.selects RX9 yX9_count yX9_count ∈ gw_ := gw_in (tk_5 _ (List.mem_of_getElem? (i := 37) (by decide +kernel))) rfl
theorem tw_1117 : Cond.methodLink RLw 175 yX9_image ∈ gw_ := gw_in (tk_5 _ (List.mem_of_getElem? (i := 40) (by decide +kernel))) rfl
theorem tw_1118 : Cond.instanceMethod yX9_image ∈ gw_ := gw_in (tk_5 _ (List.mem_of_getElem? (i := 41) (by decide +kernel))) rfl
theorem tw_1119 : Cond.selects RX9 yX9_image yX9_image ∈ gw_ := gw_in (tk_5 _ (List.mem_of_getElem? (i := 42) (by decide +kernel))) rfl
theorem tw_1128 : Cond.methodLink RLw 179 yX9_back ∈ gw_ := gw_in (tk_5 _ (List.mem_of_getElem? (i := 51) (by decide +kernel))) rfl
theorem tw_1129 : Cond.instanceMethod yX9_back ∈ gw_ := gw_in (tk_5 _ (List.mem_of_getElem? (i := 52) (by decide +kernel))) rfl
theorem tw_1130 : Cond.selects RX9 yX9_back yX9_back ∈ gw_ := gw_in (tk_5 _ (List.mem_of_getElem? (i := 53) (by decide +kernel))) rfl
theorem tw_1132 : Cond.classLink RLw 10 RX10 ∈ gw_ := gw_in (tk_5 _ (List.mem_of_getElem? (i := 55) (by decide +kernel))) rfl
theorem tw_1133 : Cond.instantiable RX10 42 ∈ gw_ := gw_in (tk_5 _ (List.mem_of_getElem? (i := 56) (by decide +kernel))) rfl
theorem tw_1134 : Cond.methodLink RLw 12 yX10_init ∈ gw_ := gw_in (tk_5 _ (List.mem_of_getElem? (i := 57) (by decide +kernel))) rfl
theorem tw_1135 : Cond.instanceMethod yX10_init ∈ gw_ := gw_in (tk_5 _ (List.mem_of_getElem? (i := 58) (by decide +kernel))) rfl
theorem tw_1266 : Cond.methodLink RLw 17 yX10_feed ∈ gw_ := gw_in (tk_5 _ (List.mem_of_getElem? (i := 189) (by decide +kernel))) rfl
theorem tw_1267 : Cond.instanceMethod yX10_feed ∈ gw_ := gw_in (tk_5 _ (List.mem_of_getElem? (i := 190) (by decide +kernel))) rfl
theorem tw_1268 : Cond.selects RX10 yX10_feed yX10_feed ∈ gw_ := gw_in (tk_5 _ (List.mem_of_getElem? (i := 191) (by decide +kernel))) rfl
theorem tw_1274 : Cond.methodLink RLw 22 yX10_end ∈ gw_ := gw_in (tk_5 _ (List.mem_of_getElem? (i := 197) (by decide +kernel))) rfl
theorem tw_1275 : Cond.instanceMethod yX10_end ∈ gw_ := gw_in (tk_5 _ (List.mem_of_getElem? (i := 198) (by decide +kernel))) rfl
theorem tw_1276 : Cond.selects RX10 yX10_end yX10_end ∈ gw_ := gw_in (tk_5 _ (List.mem_of_getElem? (i := 199) (by decide +kernel))) rfl
theorem tw_1278 : Cond.methodLink RLw 31 yX10_rule ∈ gw_ := gw_in (tk_5 _ (List.mem_of_getElem? (i := 201) (by decide +kernel))) rfl
theorem tw_1279 : Cond.instanceMethod yX10_rule ∈ gw_ := gw_in (tk_5 _ (List.mem_of_getElem? (i := 202) (by decide +kernel))) rfl
theorem tw_1280 : Cond.selects RX10 yX10_rule yX10_rule ∈ gw_ := gw_in (tk_5 _ (List.mem_of_getElem? (i := 203) (by decide +kernel))) rfl
theorem tw_1434 : Cond.methodLink RLw 27 yX10_election ∈ gw_ := gw_in (tk_6 _ (List.mem_of_getElem? (i := 117) (by decide +kernel))) rfl
theorem tw_1435 : Cond.instanceMethod yX10_election ∈ gw_ := gw_in (tk_6 _ (List.mem_of_getElem? (i := 118) (by decide +kernel))) rfl
theorem tw_1436 : Cond.selects RX10 yX10_election yX10_election ∈ gw_ := gw_in (tk_6 _ (List.mem_of_getElem? (i := 119) (by decide +kernel))) rfl
theorem tw_1446 : Cond.methodLink RLw 35 yX10_force ∈ gw_ := gw_in (tk_6 _ (List.mem_of_getElem? (i := 129) (by decide +kernel))) rfl
theorem tw_1447 : Cond.instanceMethod yX10_force ∈ gw_ := gw_in (tk_6 _ (List.mem_of_getElem? (i := 130) (by decide +kernel))) rfl
theorem tw_1448 : Cond.selects RX10 yX10_force yX10_force ∈ gw_ := gw_in (tk_6 _ (List.mem_of_getElem? (i := 131) (by decide +kernel))) rfl
theorem tw_1454 : Cond.methodLink RLw 40 yX10_station ∈ gw_ := gw_in (tk_6 _ (List.mem_of_getElem? (i := 137) (by decide +kernel))) rfl
theorem tw_1455 : Cond.instanceMethod yX10_station ∈ gw_ := gw_in (tk_6 _ (List.mem_of_getElem? (i := 138) (by decide +kernel))) rfl
theorem tw_1456 : Cond.selects RX10 yX10_station yX10_station ∈ gw_ := gw_in (tk_6 _ (List.mem_of_getElem? (i := 139) (by decide +kernel))) rfl
theorem tw_1478 : Cond.methodLink RLw 44 yX10_paper ∈ gw_ := gw_in (tk_6 _ (List.mem_of_getElem? (i := 161) (by decide +kernel))) rfl
theorem tw_1479 : Cond.instanceMethod yX10_paper ∈ gw_ := gw_in (tk_6 _ (List.mem_of_getElem? (i := 162) (by decide +kernel))) rfl
theorem tw_1480 : Cond.selects RX10 yX10_paper yX10_paper ∈ gw_ := gw_in (tk_6 _ (List.mem_of_getElem? (i := 163) (by decide +kernel))) rfl
theorem tw_1487 : Cond.methodLink RLw 49 yX10_row ∈ gw_ := gw_in (tk_6 _ (List.mem_of_getElem? (i := 170) (by decide +kernel))) rfl
theorem tw_1488 : Cond.instanceMethod yX10_row ∈ gw_ := gw_in (tk_6 _ (List.mem_of_getElem? (i := 171) (by decide +kernel))) rfl
theorem tw_1489 : Cond.selects RX10 yX10_row yX10_row ∈ gw_ := gw_in (tk_6 _ (List.mem_of_getElem? (i := 172) (by decide +kernel))) rfl
theorem tw_1495 : Cond.methodLink RLw 53 yX10_runs ∈ gw_ := gw_in (tk_6 _ (List.mem_of_getElem? (i := 178) (by decide +kernel))) rfl
theorem tw_1496 : Cond.instanceMethod yX10_runs ∈ gw_ := gw_in (tk_6 _ (List.mem_of_getElem? (i := 179) (by decide +kernel))) rfl
theorem tw_1497 : Cond.selects RX10 yX10_runs yX10_runs ∈ gw_ := gw_in (tk_6 _ (List.mem_of_getElem? (i := 180) (by decide +kernel))) rfl
theorem tw_1507 : Cond.methodLink RLw 57 yX10_moved ∈ gw_ := gw_in (tk_6 _ (List.mem_of_getElem? (i := 190) (by decide +kernel))) rfl
theorem tw_1508 : Cond.instanceMethod yX10_moved ∈ gw_ := gw_in (tk_6 _ (List.mem_of_getElem? (i := 191) (by decide +kernel))) rfl
theorem tw_1509 : Cond.selects RX10 yX10_moved yX10_moved ∈ gw_ := gw_in (tk_6 _ (List.mem_of_getElem? (i := 192) (by decide +kernel))) rfl
theorem tw_1511 : Cond.methodLink RLw 61 yX10_told ∈ gw_ := gw_in (tk_6 _ (List.mem_of_getElem? (i := 194) (by decide +kernel))) rfl
theorem tw_1512 : Cond.instanceMethod yX10_told ∈ gw_ := gw_in (tk_6 _ (List.mem_of_getElem? (i := 195) (by decide +kernel))) rfl
theorem tw_1513 : Cond.selects RX10 yX10_told yX10_told ∈ gw_ := gw_in (tk_6 _ (List.mem_of_getElem? (i := 196) (by decide +kernel))) rfl
theorem tw_1515 : Cond.methodLink RLw 97 yX10_undo ∈ gw_ := gw_in (tk_6 _ (List.mem_of_getElem? (i := 198) (by decide +kernel))) rfl
theorem tw_1516 : Cond.instanceMethod yX10_undo ∈ gw_ := gw_in (tk_6 _ (List.mem_of_getElem? (i := 199) (by decide +kernel))) rfl
theorem tw_1517 : Cond.selects RX10 yX10_undo yX10_undo ∈ gw_ := gw_in (tk_6 _ (List.mem_of_getElem? (i := 200) (by decide +kernel))) rfl
theorem tw_1519 : Cond.methodLink RLw 65 yX10_hour ∈ gw_ := gw_in (tk_6 _ (List.mem_of_getElem? (i := 202) (by decide +kernel))) rfl
theorem tw_1520 : Cond.instanceMethod yX10_hour ∈ gw_ := gw_in (tk_6 _ (List.mem_of_getElem? (i := 203) (by decide +kernel))) rfl
theorem tw_1521 : Cond.selects RX10 yX10_hour yX10_hour ∈ gw_ := gw_in (tk_6 _ (List.mem_of_getElem? (i := 204) (by decide +kernel))) rfl
theorem tw_1582 : Cond.methodLink RLw 69 yX10_move ∈ gw_ := gw_in (tk_7 _ (List.mem_of_getElem? (i := 25) (by decide +kernel))) rfl
theorem tw_1583 : Cond.instanceMethod yX10_move ∈ gw_ := gw_in (tk_7 _ (List.mem_of_getElem? (i := 26) (by decide +kernel))) rfl
theorem tw_1584 : Cond.selects RX10 yX10_move yX10_move ∈ gw_ := gw_in (tk_7 _ (List.mem_of_getElem? (i := 27) (by decide +kernel))) rfl
theorem tw_1595 : Cond.methodLink RLw 73 yX10_lend ∈ gw_ := gw_in (tk_7 _ (List.mem_of_getElem? (i := 38) (by decide +kernel))) rfl
theorem tw_1596 : Cond.instanceMethod yX10_lend ∈ gw_ := gw_in (tk_7 _ (List.mem_of_getElem? (i := 39) (by decide +kernel))) rfl
theorem tw_1597 : Cond.selects RX10 yX10_lend yX10_lend ∈ gw_ := gw_in (tk_7 _ (List.mem_of_getElem? (i := 40) (by decide +kernel))) rfl
theorem tw_1607 : Cond.methodLink RLw 77 yX10_spoil ∈ gw_ := gw_in (tk_7 _ (List.mem_of_getElem? (i := 50) (by decide +kernel))) rfl
theorem tw_1608 : Cond.instanceMethod yX10_spoil ∈ gw_ := gw_in (tk_7 _ (List.mem_of_getElem? (i := 51) (by decide +kernel))) rfl
theorem tw_1609 : Cond.selects RX10 yX10_spoil yX10_spoil ∈ gw_ := gw_in (tk_7 _ (List.mem_of_getElem? (i := 52) (by decide +kernel))) rfl
theorem tw_1611 : Cond.methodLink RLw 81 yX10_find ∈ gw_ := gw_in (tk_7 _ (List.mem_of_getElem? (i := 54) (by decide +kernel))) rfl
theorem tw_1612 : Cond.instanceMethod yX10_find ∈ gw_ := gw_in (tk_7 _ (List.mem_of_getElem? (i := 55) (by decide +kernel))) rfl
theorem tw_1613 : Cond.selects RX10 yX10_find yX10_find ∈ gw_ := gw_in (tk_7 _ (List.mem_of_getElem? (i := 56) (by decide +kernel))) rfl
theorem tw_1615 : Cond.methodLink RLw 85 yX10_send ∈ gw_ := gw_in (tk_7 _ (List.mem_of_getElem? (i := 58) (by decide +kernel))) rfl
theorem tw_1616 : Cond.instanceMethod yX10_send ∈ gw_ := gw_in (tk_7 _ (List.mem_of_getElem? (i := 59) (by decide +kernel))) rfl
theorem tw_1617 : Cond.selects RX10 yX10_send yX10_send ∈ gw_ := gw_in (tk_7 _ (List.mem_of_getElem? (i := 60) (by decide +kernel))) rfl
theorem tw_1619 : Cond.methodLink RLw 89 yX10_tell ∈ gw_ := gw_in (tk_7 _ (List.mem_of_getElem? (i := 62) (by decide +kernel))) rfl
theorem tw_1620 : Cond.instanceMethod yX10_tell ∈ gw_ := gw_in (tk_7 _ (List.mem_of_getElem? (i := 63) (by decide +kernel))) rfl
theorem tw_1621 : Cond.selects RX10 yX10_tell yX10_tell ∈ gw_ := gw_in (tk_7 _ (List.mem_of_getElem? (i := 64) (by decide +kernel))) rfl
theorem tw_1628 : Cond.methodLink RLw 93 yX10_recount ∈ gw_ := gw_in (tk_7 _ (List.mem_of_getElem? (i := 71) (by decide +kernel))) rfl
theorem tw_1629 : Cond.instanceMethod yX10_recount ∈ gw_ := gw_in (tk_7 _ (List.mem_of_getElem? (i := 72) (by decide +kernel))) rfl
theorem tw_1630 : Cond.selects RX10 yX10_recount yX10_recount ∈ gw_ := gw_in (tk_7 _ (List.mem_of_getElem? (i := 73) (by decide +kernel))) rfl
theorem tw_1636 : Cond.methodLink RLw 101 yX10_way ∈ gw_ := gw_in (tk_7 _ (List.mem_of_getElem? (i := 79) (by decide +kernel))) rfl
theorem tw_1637 : Cond.instanceMethod yX10_way ∈ gw_ := gw_in (tk_7 _ (List.mem_of_getElem? (i := 80) (by decide +kernel))) rfl
theorem tw_1638 : Cond.selects RX10 yX10_way yX10_way ∈ gw_ := gw_in (tk_7 _ (List.mem_of_getElem? (i := 81) (by decide +kernel))) rfl
theorem tw_1640 : Cond.methodLink RLw 105 yX10_balance ∈ gw_ := gw_in (tk_7 _ (List.mem_of_getElem? (i := 83) (by decide +kernel))) rfl
theorem tw_1641 : Cond.instanceMethod yX10_balance ∈ gw_ := gw_in (tk_7 _ (List.mem_of_getElem? (i := 84) (by decide +kernel))) rfl
theorem tw_1642 : Cond.selects RX10 yX10_balance yX10_balance ∈ gw_ := gw_in (tk_7 _ (List.mem_of_getElem? (i := 85) (by decide +kernel))) rfl
theorem tw_1648 : Cond.methodLink RLw 109 yX10_slips ∈ gw_ := gw_in (tk_7 _ (List.mem_of_getElem? (i := 91) (by decide +kernel))) rfl
theorem tw_1649 : Cond.instanceMethod yX10_slips ∈ gw_ := gw_in (tk_7 _ (List.mem_of_getElem? (i := 92) (by decide +kernel))) rfl
theorem tw_1650 : Cond.selects RX10 yX10_slips yX10_slips ∈ gw_ := gw_in (tk_7 _ (List.mem_of_getElem? (i := 93) (by decide +kernel))) rfl
theorem tw_1694 : Cond.methodLink RLw 113 yX10_must ∈ gw_ := gw_in (tk_7 _ (List.mem_of_getElem? (i := 137) (by decide +kernel))) rfl
theorem tw_1695 : Cond.instanceMethod yX10_must ∈ gw_ := gw_in (tk_7 _ (List.mem_of_getElem? (i := 138) (by decide +kernel))) rfl
theorem tw_1696 : Cond.selects RX10 yX10_must yX10_must ∈ gw_ := gw_in (tk_7 _ (List.mem_of_getElem? (i := 139) (by decide +kernel))) rfl
theorem tw_1702 : Cond.methodLink RLw 117 yX10_free ∈ gw_ := gw_in (tk_7 _ (List.mem_of_getElem? (i := 145) (by decide +kernel))) rfl
theorem tw_1703 : Cond.instanceMethod yX10_free ∈ gw_ := gw_in (tk_7 _ (List.mem_of_getElem? (i := 146) (by decide +kernel))) rfl
theorem tw_1704 : Cond.selects RX10 yX10_free yX10_free ∈ gw_ := gw_in (tk_7 _ (List.mem_of_getElem? (i := 147) (by decide +kernel))) rfl
theorem tw_1706 : Cond.methodLink RLw 121 yX10_leaves ∈ gw_ := gw_in (tk_7 _ (List.mem_of_getElem? (i := 149) (by decide +kernel))) rfl
theorem tw_1707 : Cond.instanceMethod yX10_leaves ∈ gw_ := gw_in (tk_7 _ (List.mem_of_getElem? (i := 150) (by decide +kernel))) rfl
theorem tw_1708 : Cond.selects RX10 yX10_leaves yX10_leaves ∈ gw_ := gw_in (tk_7 _ (List.mem_of_getElem? (i := 151) (by decide +kernel))) rfl
theorem tw_1718 : Cond.methodLink RLw 125 yX10_ahead ∈ gw_ := gw_in (tk_7 _ (List.mem_of_getElem? (i := 161) (by decide +kernel))) rfl
theorem tw_1719 : Cond.instanceMethod yX10_ahead ∈ gw_ := gw_in (tk_7 _ (List.mem_of_getElem? (i := 162) (by decide +kernel))) rfl
theorem tw_1720 : Cond.selects RX10 yX10_ahead yX10_ahead ∈ gw_ := gw_in (tk_7 _ (List.mem_of_getElem? (i := 163) (by decide +kernel))) rfl
theorem tw_1728 : Cond.methodLink RLw 129 yX10_dry ∈ gw_ := gw_in (tk_7 _ (List.mem_of_getElem? (i := 171) (by decide +kernel))) rfl
theorem tw_1729 : Cond.instanceMethod yX10_dry ∈ gw_ := gw_in (tk_7 _ (List.mem_of_getElem? (i := 172) (by decide +kernel))) rfl
theorem tw_1730 : Cond.selects RX10 yX10_dry yX10_dry ∈ gw_ := gw_in (tk_7 _ (List.mem_of_getElem? (i := 173) (by decide +kernel))) rfl
theorem tw_1732 : Cond.methodLink RLw 133 yX10_served ∈ gw_ := gw_in (tk_7 _ (List.mem_of_getElem? (i := 175) (by decide +kernel))) rfl
theorem tw_1733 : Cond.instanceMethod yX10_served ∈ gw_ := gw_in (tk_7 _ (List.mem_of_getElem? (i := 176) (by decide +kernel))) rfl
theorem tw_1734 : Cond.selects RX10 yX10_served yX10_served ∈ gw_ := gw_in (tk_7 _ (List.mem_of_getElem? (i := 177) (by decide +kernel))) rfl
theorem tw_1736 : Cond.methodLink RLw 137 yX10_more ∈ gw_ := gw_in (tk_7 _ (List.mem_of_getElem? (i := 179) (by decide +kernel))) rfl
theorem tw_1737 : Cond.instanceMethod yX10_more ∈ gw_ := gw_in (tk_7 _ (List.mem_of_getElem? (i := 180) (by decide +kernel))) rfl
theorem tw_1738 : Cond.selects RX10 yX10_more yX10_more ∈ gw_ := gw_in (tk_7 _ (List.mem_of_getElem? (i := 181) (by decide +kernel))) rfl
theorem tw_1744 : Cond.methodLink RLw 146 yX10_rests ∈ gw_ := gw_in (tk_7 _ (List.mem_of_getElem? (i := 187) (by decide +kernel))) rfl
theorem tw_1745 : Cond.instanceMethod yX10_rests ∈ gw_ := gw_in (tk_7 _ (List.mem_of_getElem? (i := 188) (by decide +kernel))) rfl
theorem tw_1746 : Cond.selects RX10 yX10_rests yX10_rests ∈ gw_ := gw_in (tk_7 _ (List.mem_of_getElem? (i := 189) (by decide +kernel))) rfl
theorem tw_1760 : Cond.methodLink RLw 150 yX10_pence ∈ gw_ := gw_in (tk_7 _ (List.mem_of_getElem? (i := 203) (by decide +kernel))) rfl
theorem tw_1761 : Cond.instanceMethod yX10_pence ∈ gw_ := gw_in (tk_7 _ (List.mem_of_getElem? (i := 204) (by decide +kernel))) rfl
theorem tw_1762 : Cond.selects RX10 yX10_pence yX10_pence ∈ gw_ := gw_in (tk_7 _ (List.mem_of_getElem? (i := 205) (by decide +kernel))) rfl
theorem tw_1765 : Cond.methodLink RLw 154 yX10_note ∈ gw_ := gw_in (tk_7 _ (List.mem_of_getElem? (i := 208) (by decide +kernel))) rfl
theorem tw_1766 : Cond.instanceMethod yX10_note ∈ gw_ := gw_in (tk_7 _ (List.mem_of_getElem? (i := 209) (by decide +kernel))) rfl
theorem tw_1767 : Cond.selects RX10 yX10_note yX10_note ∈ gw_ := gw_in (tk_7 _ (List.mem_of_getElem? (i := 210) (by decide +kernel))) rfl
theorem tw_1769 : Cond.methodLink RLw 158 yX10_ruled ∈ gw_ := gw_in (tk_7 _ (List.mem_of_getElem? (i := 212) (by decide +kernel))) rfl
theorem tw_1770 : Cond.instanceMethod yX10_ruled ∈ gw_ := gw_in (tk_7 _ (List.mem_of_getElem? (i := 213) (by decide +kernel))) rfl
theorem tw_1771 : Cond.selects RX10 yX10_ruled yX10_ruled ∈ gw_ := gw_in (tk_7 _ (List.mem_of_getElem? (i := 214) (by decide +kernel))) rfl
theorem tw_1785 : Cond.methodLink RLw 162 yX10_look ∈ gw_ := gw_in (tk_7 _ (List.mem_of_getElem? (i := 228) (by decide +kernel))) rfl
theorem tw_1786 : Cond.instanceMethod yX10_look ∈ gw_ := gw_in (tk_7 _ (List.mem_of_getElem? (i := 229) (by decide +kernel))) rfl
theorem tw_1787 : Cond.selects RX10 yX10_look yX10_look ∈ gw_ := gw_in (tk_7 _ (List.mem_of_getElem? (i := 230) (by decide +kernel))) rfl
theorem tw_1793 : Cond.methodLink RLw 141 yX10_crowds ∈ gw_ := gw_in (tk_7 _ (List.mem_of_getElem? (i := 236) (by decide +kernel))) rfl
theorem tw_1794 : Cond.instanceMethod yX10_crowds ∈ gw_ := gw_in (tk_7 _ (List.mem_of_getElem? (i := 237) (by decide +kernel))) rfl
theorem tw_1795 : Cond.selects RX10 yX10_crowds yX10_crowds ∈ gw_ := gw_in (tk_7 _ (List.mem_of_getElem? (i := 238) (by decide +kernel))) rfl
theorem tw_1797 : Cond.methodLink RLw 166 yX10_seed ∈ gw_ := gw_in (tk_8 _ (List.mem_of_getElem? (i := 0) (by decide +kernel))) rfl
theorem tw_1798 : Cond.instanceMethod yX10_seed ∈ gw_ := gw_in (tk_8 _ (List.mem_of_getElem? (i := 1) (by decide +kernel))) rfl
theorem tw_1799 : Cond.selects RX10 yX10_seed yX10_seed ∈ gw_ := gw_in (tk_8 _ (List.mem_of_getElem? (i := 2) (by decide +kernel))) rfl
theorem tw_1801 : Cond.methodLink RLw 170 yX10_crowded ∈ gw_ := gw_in (tk_8 _ (List.mem_of_getElem? (i := 4) (by decide +kernel))) rfl
theorem tw_1802 : Cond.instanceMethod yX10_crowded ∈ gw_ := gw_in (tk_8 _ (List.mem_of_getElem? (i := 5) (by decide +kernel))) rfl
theorem tw_1803 : Cond.selects RX10 yX10_crowded yX10_crowded ∈ gw_ := gw_in (tk_8 _ (List.mem_of_getElem? (i := 6) (by decide +kernel))) rfl
theorem tw_1818 : Cond.methodLink RLw 174 yX10_count ∈ gw_ := gw_in (tk_8 _ (List.mem_of_getElem? (i := 21) (by decide +kernel))) rfl
theorem tw_1819 : Cond.instanceMethod yX10_count ∈ gw_ := gw_in (tk_8 _ (List.mem_of_getElem? (i := 22) (by decide +kernel))) rfl
theorem tw_1820 : Cond.selects RX10 yX10_count yX10_count ∈ gw_ := gw_in (tk_8 _ (List.mem_of_getElem? (i := 23) (by decide +kernel))) rfl
theorem tw_1826 : Cond.methodLink RLw 178 yX10_image ∈ gw_ := gw_in (tk_8 _ (List.mem_of_getElem? (i := 29) (by decide +kernel))) rfl
theorem tw_1827 : Cond.instanceMethod yX10_image ∈ gw_ := gw_in (tk_8 _ (List.mem_of_getElem? (i := 30) (by decide +kernel))) rfl
theorem tw_1828 : Cond.selects RX10 yX10_image yX10_image ∈ gw_ := gw_in (tk_8 _ (List.mem_of_getElem? (i := 31) (by decide +kernel))) rfl
theorem tw_1830 : Cond.methodLink RLw 182 yX10_back ∈ gw_ := gw_in (tk_8 _ (List.mem_of_getElem? (i := 33) (by decide +kernel))) rfl
theorem tw_1831 : Cond.instanceMethod yX10_back ∈ gw_ := gw_in (tk_8 _ (List.mem_of_getElem? (i := 34) (by decide +kernel))) rfl
theorem tw_1832 : Cond.selects RX10 yX10_back yX10_back ∈ gw_ := gw_in (tk_8 _ (List.mem_of_getElem? (i := 35) (by decide +kernel))) rfl
