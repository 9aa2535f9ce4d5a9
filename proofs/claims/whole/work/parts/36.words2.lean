theorem wd1835 : Cond.constantLong RL 276 (4294967295) ∈ jbig := jbig_in (jtb_8 _ (List.mem_of_getElem? (i := 52) rfl)) rfl
theorem wd654 : Cond.methodLink RL 7 yX5_town ∈ jbig := jbig_in (jtb_3 _ (List.mem_of_getElem? (i := 71) rfl)) rfl
theorem wd657 : Cond.code yX5_town cX5_town 3 (some .int) ∈ jbig := jbig_in (jtb_3 _ (List.mem_of_getElem? (i := 74) rfl)) rfl
theorem wd655 : Cond.instanceMethod yX5_town ∈ jbig := jbig_in (jtb_3 _ (List.mem_of_getElem? (i := 72) rfl)) rfl
theorem wd656 : Cond.selects yX5_town.cls yX5_town yX5_town ∈ jbig := jbig_in (jtb_3 _ (List.mem_of_getElem? (i := 73) rfl)) rfl
theorem wd653 : Cond.classLink RL 13 "java/lang/IllegalArgumentException" ∈ jbig := jbig_in (jtb_3 _ (List.mem_of_getElem? (i := 70) rfl)) rfl
theorem wd862 : Cond.methodLink RL 15 yX5_person ∈ jbig := jbig_in (jtb_4 _ (List.mem_of_getElem? (i := 39) rfl)) rfl
theorem wd865 : Cond.code yX5_person cX5_person 3 (some .int) ∈ jbig := jbig_in (jtb_4 _ (List.mem_of_getElem? (i := 42) rfl)) rfl
theorem wd863 : Cond.instanceMethod yX5_person ∈ jbig := jbig_in (jtb_4 _ (List.mem_of_getElem? (i := 40) rfl)) rfl
theorem wd864 : Cond.selects yX5_person.cls yX5_person yX5_person ∈ jbig := jbig_in (jtb_4 _ (List.mem_of_getElem? (i := 41) rfl)) rfl
theorem wd861 : Cond.classLink RL 19 "java/util/NoSuchElementException" ∈ jbig := jbig_in (jtb_4 _ (List.mem_of_getElem? (i := 38) rfl)) rfl
theorem wd894 : Cond.methodLink RL 21 yX5_worth ∈ jbig := jbig_in (jtb_4 _ (List.mem_of_getElem? (i := 71) rfl)) rfl
theorem wd897 : Cond.code yX5_worth cX5_worth 3 (some .int) ∈ jbig := jbig_in (jtb_4 _ (List.mem_of_getElem? (i := 74) rfl)) rfl
theorem wd895 : Cond.instanceMethod yX5_worth ∈ jbig := jbig_in (jtb_4 _ (List.mem_of_getElem? (i := 72) rfl)) rfl
theorem wd896 : Cond.selects yX5_worth.cls yX5_worth yX5_worth ∈ jbig := jbig_in (jtb_4 _ (List.mem_of_getElem? (i := 73) rfl)) rfl
theorem wd906 : Cond.methodLink RL 24 yX5_holder ∈ jbig := jbig_in (jtb_4 _ (List.mem_of_getElem? (i := 83) rfl)) rfl
theorem wd909 : Cond.code yX5_holder cX5_holder 2 (some .int) ∈ jbig := jbig_in (jtb_4 _ (List.mem_of_getElem? (i := 86) rfl)) rfl
theorem wd907 : Cond.instanceMethod yX5_holder ∈ jbig := jbig_in (jtb_4 _ (List.mem_of_getElem? (i := 84) rfl)) rfl
theorem wd908 : Cond.selects yX5_holder.cls yX5_holder yX5_holder ∈ jbig := jbig_in (jtb_4 _ (List.mem_of_getElem? (i := 85) rfl)) rfl
theorem wd913 : Cond.methodLink RL 27 yX5_eat ∈ jbig := jbig_in (jtb_4 _ (List.mem_of_getElem? (i := 90) rfl)) rfl
theorem wd916 : Cond.code yX5_eat cX5_eat 3 (some .boolean) ∈ jbig := jbig_in (jtb_4 _ (List.mem_of_getElem? (i := 93) rfl)) rfl
theorem wd914 : Cond.instanceMethod yX5_eat ∈ jbig := jbig_in (jtb_4 _ (List.mem_of_getElem? (i := 91) rfl)) rfl
theorem wd915 : Cond.selects yX5_eat.cls yX5_eat yX5_eat ∈ jbig := jbig_in (jtb_4 _ (List.mem_of_getElem? (i := 92) rfl)) rfl
theorem wd921 : Cond.methodLink RL 31 yX5_pass ∈ jbig := jbig_in (jtb_4 _ (List.mem_of_getElem? (i := 98) rfl)) rfl
theorem wd924 : Cond.code yX5_pass cX5_pass 2 (some .int) ∈ jbig := jbig_in (jtb_4 _ (List.mem_of_getElem? (i := 101) rfl)) rfl
theorem wd922 : Cond.instanceMethod yX5_pass ∈ jbig := jbig_in (jtb_4 _ (List.mem_of_getElem? (i := 99) rfl)) rfl
theorem wd923 : Cond.selects yX5_pass.cls yX5_pass yX5_pass ∈ jbig := jbig_in (jtb_4 _ (List.mem_of_getElem? (i := 100) rfl)) rfl
theorem wd932 : Cond.methodLink RL 34 yX5_morning ∈ jbig := jbig_in (jtb_4 _ (List.mem_of_getElem? (i := 109) rfl)) rfl
theorem wd935 : Cond.code yX5_morning cX5_morning 2 (some .int) ∈ jbig := jbig_in (jtb_4 _ (List.mem_of_getElem? (i := 112) rfl)) rfl
theorem wd933 : Cond.instanceMethod yX5_morning ∈ jbig := jbig_in (jtb_4 _ (List.mem_of_getElem? (i := 110) rfl)) rfl
theorem wd934 : Cond.selects yX5_morning.cls yX5_morning yX5_morning ∈ jbig := jbig_in (jtb_4 _ (List.mem_of_getElem? (i := 111) rfl)) rfl
theorem wd931 : Cond.classLink RL 38 "java/lang/IllegalStateException" ∈ jbig := jbig_in (jtb_4 _ (List.mem_of_getElem? (i := 108) rfl)) rfl
theorem wd955 : Cond.methodLink RL 40 yX5_deed ∈ jbig := jbig_in (jtb_4 _ (List.mem_of_getElem? (i := 132) rfl)) rfl
theorem wd958 : Cond.code yX5_deed cX5_deed 3 (some .int) ∈ jbig := jbig_in (jtb_4 _ (List.mem_of_getElem? (i := 135) rfl)) rfl
theorem wd956 : Cond.instanceMethod yX5_deed ∈ jbig := jbig_in (jtb_4 _ (List.mem_of_getElem? (i := 133) rfl)) rfl
theorem wd957 : Cond.selects yX5_deed.cls yX5_deed yX5_deed ∈ jbig := jbig_in (jtb_4 _ (List.mem_of_getElem? (i := 134) rfl)) rfl
theorem wd970 : Cond.methodLink RL 43 yX5_may ∈ jbig := jbig_in (jtb_4 _ (List.mem_of_getElem? (i := 147) rfl)) rfl
theorem wd973 : Cond.code yX5_may cX5_may 3 (some .int) ∈ jbig := jbig_in (jtb_4 _ (List.mem_of_getElem? (i := 150) rfl)) rfl
theorem wd971 : Cond.instanceMethod yX5_may ∈ jbig := jbig_in (jtb_4 _ (List.mem_of_getElem? (i := 148) rfl)) rfl
theorem wd972 : Cond.selects yX5_may.cls yX5_may yX5_may ∈ jbig := jbig_in (jtb_4 _ (List.mem_of_getElem? (i := 149) rfl)) rfl
theorem wd978 : Cond.methodLink RL 46 yX5_undo ∈ jbig := jbig_in (jtb_4 _ (List.mem_of_getElem? (i := 155) rfl)) rfl
theorem wd981 : Cond.code yX5_undo cX5_undo 4 (some .int) ∈ jbig := jbig_in (jtb_4 _ (List.mem_of_getElem? (i := 158) rfl)) rfl
theorem wd979 : Cond.instanceMethod yX5_undo ∈ jbig := jbig_in (jtb_4 _ (List.mem_of_getElem? (i := 156) rfl)) rfl
theorem wd980 : Cond.selects yX5_undo.cls yX5_undo yX5_undo ∈ jbig := jbig_in (jtb_4 _ (List.mem_of_getElem? (i := 157) rfl)) rfl
theorem wd985 : Cond.methodLink RL 49 yX5_falls ∈ jbig := jbig_in (jtb_4 _ (List.mem_of_getElem? (i := 162) rfl)) rfl
theorem wd988 : Cond.code yX5_falls cX5_falls 2 (some .int) ∈ jbig := jbig_in (jtb_4 _ (List.mem_of_getElem? (i := 165) rfl)) rfl
theorem wd986 : Cond.instanceMethod yX5_falls ∈ jbig := jbig_in (jtb_4 _ (List.mem_of_getElem? (i := 163) rfl)) rfl
theorem wd987 : Cond.selects yX5_falls.cls yX5_falls yX5_falls ∈ jbig := jbig_in (jtb_4 _ (List.mem_of_getElem? (i := 164) rfl)) rfl
theorem wd993 : Cond.methodLink RL 52 yX5_owes ∈ jbig := jbig_in (jtb_4 _ (List.mem_of_getElem? (i := 170) rfl)) rfl
theorem wd996 : Cond.code yX5_owes cX5_owes 4 (some .int) ∈ jbig := jbig_in (jtb_4 _ (List.mem_of_getElem? (i := 173) rfl)) rfl
theorem wd994 : Cond.instanceMethod yX5_owes ∈ jbig := jbig_in (jtb_4 _ (List.mem_of_getElem? (i := 171) rfl)) rfl
theorem wd995 : Cond.selects yX5_owes.cls yX5_owes yX5_owes ∈ jbig := jbig_in (jtb_4 _ (List.mem_of_getElem? (i := 172) rfl)) rfl
theorem wd1002 : Cond.methodLink RL 56 yX5_chain ∈ jbig := jbig_in (jtb_4 _ (List.mem_of_getElem? (i := 179) rfl)) rfl
theorem wd1005 : Cond.code yX5_chain cX5_chain 5 (some .int) ∈ jbig := jbig_in (jtb_4 _ (List.mem_of_getElem? (i := 182) rfl)) rfl
theorem wd1003 : Cond.instanceMethod yX5_chain ∈ jbig := jbig_in (jtb_4 _ (List.mem_of_getElem? (i := 180) rfl)) rfl
theorem wd1004 : Cond.selects yX5_chain.cls yX5_chain yX5_chain ∈ jbig := jbig_in (jtb_4 _ (List.mem_of_getElem? (i := 181) rfl)) rfl
theorem wd1009 : Cond.methodLink RL 59 yX5_judge ∈ jbig := jbig_in (jtb_4 _ (List.mem_of_getElem? (i := 186) rfl)) rfl
theorem wd1012 : Cond.code yX5_judge cX5_judge 5 (some .int) ∈ jbig := jbig_in (jtb_4 _ (List.mem_of_getElem? (i := 189) rfl)) rfl
theorem wd1010 : Cond.instanceMethod yX5_judge ∈ jbig := jbig_in (jtb_4 _ (List.mem_of_getElem? (i := 187) rfl)) rfl
theorem wd1011 : Cond.selects yX5_judge.cls yX5_judge yX5_judge ∈ jbig := jbig_in (jtb_4 _ (List.mem_of_getElem? (i := 188) rfl)) rfl
theorem wd1026 : Cond.methodLink RL 62 yX5_perform ∈ jbig := jbig_in (jtb_4 _ (List.mem_of_getElem? (i := 203) rfl)) rfl
theorem wd1029 : Cond.code yX5_perform cX5_perform 2 (some .int) ∈ jbig := jbig_in (jtb_4 _ (List.mem_of_getElem? (i := 206) rfl)) rfl
theorem wd1027 : Cond.instanceMethod yX5_perform ∈ jbig := jbig_in (jtb_4 _ (List.mem_of_getElem? (i := 204) rfl)) rfl
theorem wd1028 : Cond.selects yX5_perform.cls yX5_perform yX5_perform ∈ jbig := jbig_in (jtb_4 _ (List.mem_of_getElem? (i := 205) rfl)) rfl
theorem wd1033 : Cond.methodLink RL 65 yX5_day ∈ jbig := jbig_in (jtb_4 _ (List.mem_of_getElem? (i := 210) rfl)) rfl
theorem wd1036 : Cond.code yX5_day cX5_day 3 (some .int) ∈ jbig := jbig_in (jtb_4 _ (List.mem_of_getElem? (i := 213) rfl)) rfl
theorem wd1034 : Cond.instanceMethod yX5_day ∈ jbig := jbig_in (jtb_4 _ (List.mem_of_getElem? (i := 211) rfl)) rfl
theorem wd1035 : Cond.selects yX5_day.cls yX5_day yX5_day ∈ jbig := jbig_in (jtb_4 _ (List.mem_of_getElem? (i := 212) rfl)) rfl
theorem wd1072 : Cond.methodLink RL 68 yX5_gain ∈ jbig := jbig_in (jtb_5 _ (List.mem_of_getElem? (i := 9) rfl)) rfl
theorem wd1075 : Cond.code yX5_gain cX5_gain 3 (some .int) ∈ jbig := jbig_in (jtb_5 _ (List.mem_of_getElem? (i := 12) rfl)) rfl
theorem wd1073 : Cond.instanceMethod yX5_gain ∈ jbig := jbig_in (jtb_5 _ (List.mem_of_getElem? (i := 10) rfl)) rfl
theorem wd1074 : Cond.selects yX5_gain.cls yX5_gain yX5_gain ∈ jbig := jbig_in (jtb_5 _ (List.mem_of_getElem? (i := 11) rfl)) rfl
theorem wd1079 : Cond.methodLink RL 71 yX5_pledge ∈ jbig := jbig_in (jtb_5 _ (List.mem_of_getElem? (i := 16) rfl)) rfl
theorem wd1082 : Cond.code yX5_pledge cX5_pledge 2 (some .int) ∈ jbig := jbig_in (jtb_5 _ (List.mem_of_getElem? (i := 19) rfl)) rfl
theorem wd1080 : Cond.instanceMethod yX5_pledge ∈ jbig := jbig_in (jtb_5 _ (List.mem_of_getElem? (i := 17) rfl)) rfl
theorem wd1081 : Cond.selects yX5_pledge.cls yX5_pledge yX5_pledge ∈ jbig := jbig_in (jtb_5 _ (List.mem_of_getElem? (i := 18) rfl)) rfl
theorem wd1087 : Cond.methodLink RL 74 yX5_debt ∈ jbig := jbig_in (jtb_5 _ (List.mem_of_getElem? (i := 24) rfl)) rfl
theorem wd1090 : Cond.code yX5_debt cX5_debt 7 (some .int) ∈ jbig := jbig_in (jtb_5 _ (List.mem_of_getElem? (i := 27) rfl)) rfl
theorem wd1088 : Cond.instanceMethod yX5_debt ∈ jbig := jbig_in (jtb_5 _ (List.mem_of_getElem? (i := 25) rfl)) rfl
theorem wd1089 : Cond.selects yX5_debt.cls yX5_debt yX5_debt ∈ jbig := jbig_in (jtb_5 _ (List.mem_of_getElem? (i := 26) rfl)) rfl
theorem wd1095 : Cond.methodLink RL 77 yX5_safePrice ∈ jbig := jbig_in (jtb_5 _ (List.mem_of_getElem? (i := 32) rfl)) rfl
theorem wd1098 : Cond.code yX5_safePrice cX5_safePrice 6 (some .int) ∈ jbig := jbig_in (jtb_5 _ (List.mem_of_getElem? (i := 35) rfl)) rfl
theorem wd1096 : Cond.instanceMethod yX5_safePrice ∈ jbig := jbig_in (jtb_5 _ (List.mem_of_getElem? (i := 33) rfl)) rfl
theorem wd1097 : Cond.selects yX5_safePrice.cls yX5_safePrice yX5_safePrice ∈ jbig := jbig_in (jtb_5 _ (List.mem_of_getElem? (i := 34) rfl)) rfl
theorem wd1106 : Cond.methodLink RL 80 yX5_bidder ∈ jbig := jbig_in (jtb_5 _ (List.mem_of_getElem? (i := 43) rfl)) rfl
theorem wd1109 : Cond.code yX5_bidder cX5_bidder 6 (some .int) ∈ jbig := jbig_in (jtb_5 _ (List.mem_of_getElem? (i := 46) rfl)) rfl
theorem wd1107 : Cond.instanceMethod yX5_bidder ∈ jbig := jbig_in (jtb_5 _ (List.mem_of_getElem? (i := 44) rfl)) rfl
theorem wd1108 : Cond.selects yX5_bidder.cls yX5_bidder yX5_bidder ∈ jbig := jbig_in (jtb_5 _ (List.mem_of_getElem? (i := 45) rfl)) rfl
theorem wd1113 : Cond.methodLink RL 83 yX5_keeper ∈ jbig := jbig_in (jtb_5 _ (List.mem_of_getElem? (i := 50) rfl)) rfl
theorem wd1116 : Cond.code yX5_keeper cX5_keeper 5 (some .int) ∈ jbig := jbig_in (jtb_5 _ (List.mem_of_getElem? (i := 53) rfl)) rfl
theorem wd1114 : Cond.instanceMethod yX5_keeper ∈ jbig := jbig_in (jtb_5 _ (List.mem_of_getElem? (i := 51) rfl)) rfl
theorem wd1115 : Cond.selects yX5_keeper.cls yX5_keeper yX5_keeper ∈ jbig := jbig_in (jtb_5 _ (List.mem_of_getElem? (i := 52) rfl)) rfl
theorem wd1123 : Cond.methodLink RL 86 yX5_endFrom ∈ jbig := jbig_in (jtb_5 _ (List.mem_of_getElem? (i := 60) rfl)) rfl
theorem wd1126 : Cond.code yX5_endFrom cX5_endFrom 2 (some .int) ∈ jbig := jbig_in (jtb_5 _ (List.mem_of_getElem? (i := 63) rfl)) rfl
theorem wd1124 : Cond.instanceMethod yX5_endFrom ∈ jbig := jbig_in (jtb_5 _ (List.mem_of_getElem? (i := 61) rfl)) rfl
theorem wd1125 : Cond.selects yX5_endFrom.cls yX5_endFrom yX5_endFrom ∈ jbig := jbig_in (jtb_5 _ (List.mem_of_getElem? (i := 62) rfl)) rfl
theorem wd1134 : Cond.methodLink RL 89 yX5_end ∈ jbig := jbig_in (jtb_5 _ (List.mem_of_getElem? (i := 71) rfl)) rfl
theorem wd1137 : Cond.code yX5_end cX5_end 5 (some .int) ∈ jbig := jbig_in (jtb_5 _ (List.mem_of_getElem? (i := 74) rfl)) rfl
theorem wd1135 : Cond.instanceMethod yX5_end ∈ jbig := jbig_in (jtb_5 _ (List.mem_of_getElem? (i := 72) rfl)) rfl
theorem wd1136 : Cond.selects yX5_end.cls yX5_end yX5_end ∈ jbig := jbig_in (jtb_5 _ (List.mem_of_getElem? (i := 73) rfl)) rfl
theorem wd1153 : Cond.methodLink RL 92 yX5_ringer ∈ jbig := jbig_in (jtb_5 _ (List.mem_of_getElem? (i := 90) rfl)) rfl
theorem wd1156 : Cond.code yX5_ringer cX5_ringer 2 (some .int) ∈ jbig := jbig_in (jtb_5 _ (List.mem_of_getElem? (i := 93) rfl)) rfl
theorem wd1154 : Cond.instanceMethod yX5_ringer ∈ jbig := jbig_in (jtb_5 _ (List.mem_of_getElem? (i := 91) rfl)) rfl
theorem wd1155 : Cond.selects yX5_ringer.cls yX5_ringer yX5_ringer ∈ jbig := jbig_in (jtb_5 _ (List.mem_of_getElem? (i := 92) rfl)) rfl
theorem wd1160 : Cond.methodLink RL 95 yX5_news ∈ jbig := jbig_in (jtb_5 _ (List.mem_of_getElem? (i := 97) rfl)) rfl
theorem wd1163 : Cond.code yX5_news cX5_news 4 (some .int) ∈ jbig := jbig_in (jtb_5 _ (List.mem_of_getElem? (i := 100) rfl)) rfl
theorem wd1161 : Cond.instanceMethod yX5_news ∈ jbig := jbig_in (jtb_5 _ (List.mem_of_getElem? (i := 98) rfl)) rfl
theorem wd1162 : Cond.selects yX5_news.cls yX5_news yX5_news ∈ jbig := jbig_in (jtb_5 _ (List.mem_of_getElem? (i := 99) rfl)) rfl
theorem wd1168 : Cond.methodLink RL 98 yX5_share ∈ jbig := jbig_in (jtb_5 _ (List.mem_of_getElem? (i := 105) rfl)) rfl
theorem wd1171 : Cond.code yX5_share cX5_share 3 (some .int) ∈ jbig := jbig_in (jtb_5 _ (List.mem_of_getElem? (i := 108) rfl)) rfl
theorem wd1169 : Cond.instanceMethod yX5_share ∈ jbig := jbig_in (jtb_5 _ (List.mem_of_getElem? (i := 106) rfl)) rfl
theorem wd1170 : Cond.selects yX5_share.cls yX5_share yX5_share ∈ jbig := jbig_in (jtb_5 _ (List.mem_of_getElem? (i := 107) rfl)) rfl
theorem wd1175 : Cond.methodLink RL 101 yX5_hope ∈ jbig := jbig_in (jtb_5 _ (List.mem_of_getElem? (i := 112) rfl)) rfl
theorem wd1178 : Cond.code yX5_hope cX5_hope 9 (some .int) ∈ jbig := jbig_in (jtb_5 _ (List.mem_of_getElem? (i := 115) rfl)) rfl
theorem wd1176 : Cond.instanceMethod yX5_hope ∈ jbig := jbig_in (jtb_5 _ (List.mem_of_getElem? (i := 113) rfl)) rfl
theorem wd1177 : Cond.selects yX5_hope.cls yX5_hope yX5_hope ∈ jbig := jbig_in (jtb_5 _ (List.mem_of_getElem? (i := 114) rfl)) rfl
theorem wd1202 : Cond.methodLink RL 105 yX5_tray ∈ jbig := jbig_in (jtb_5 _ (List.mem_of_getElem? (i := 139) rfl)) rfl
theorem wd1205 : Cond.code yX5_tray cX5_tray 4 none ∈ jbig := jbig_in (jtb_5 _ (List.mem_of_getElem? (i := 142) rfl)) rfl
theorem wd1203 : Cond.instanceMethod yX5_tray ∈ jbig := jbig_in (jtb_5 _ (List.mem_of_getElem? (i := 140) rfl)) rfl
theorem wd1204 : Cond.selects yX5_tray.cls yX5_tray yX5_tray ∈ jbig := jbig_in (jtb_5 _ (List.mem_of_getElem? (i := 141) rfl)) rfl
theorem wd1217 : Cond.methodLink RL 109 yX5_write ∈ jbig := jbig_in (jtb_5 _ (List.mem_of_getElem? (i := 154) rfl)) rfl
theorem wd1220 : Cond.code yX5_write cX5_write 6 (some .long) ∈ jbig := jbig_in (jtb_5 _ (List.mem_of_getElem? (i := 157) rfl)) rfl
theorem wd1218 : Cond.instanceMethod yX5_write ∈ jbig := jbig_in (jtb_5 _ (List.mem_of_getElem? (i := 155) rfl)) rfl
theorem wd1219 : Cond.selects yX5_write.cls yX5_write yX5_write ∈ jbig := jbig_in (jtb_5 _ (List.mem_of_getElem? (i := 156) rfl)) rfl
theorem wd1216 : Cond.classLink RL 113 "java/lang/IndexOutOfBoundsException" ∈ jbig := jbig_in (jtb_5 _ (List.mem_of_getElem? (i := 153) rfl)) rfl
theorem wd1247 : Cond.methodLink RL 115 yX5_pour ∈ jbig := jbig_in (jtb_5 _ (List.mem_of_getElem? (i := 184) rfl)) rfl
theorem wd1250 : Cond.code yX5_pour cX5_pour 5 (some .int) ∈ jbig := jbig_in (jtb_5 _ (List.mem_of_getElem? (i := 187) rfl)) rfl
theorem wd1248 : Cond.instanceMethod yX5_pour ∈ jbig := jbig_in (jtb_5 _ (List.mem_of_getElem? (i := 185) rfl)) rfl
theorem wd1249 : Cond.selects yX5_pour.cls yX5_pour yX5_pour ∈ jbig := jbig_in (jtb_5 _ (List.mem_of_getElem? (i := 186) rfl)) rfl
theorem wd1254 : Cond.methodLink RL 118 yX5_image ∈ jbig := jbig_in (jtb_5 _ (List.mem_of_getElem? (i := 191) rfl)) rfl
theorem wd1257 : Cond.code yX5_image cX5_image 2 none ∈ jbig := jbig_in (jtb_5 _ (List.mem_of_getElem? (i := 194) rfl)) rfl
theorem wd1255 : Cond.instanceMethod yX5_image ∈ jbig := jbig_in (jtb_5 _ (List.mem_of_getElem? (i := 192) rfl)) rfl
theorem wd1256 : Cond.selects yX5_image.cls yX5_image yX5_image ∈ jbig := jbig_in (jtb_5 _ (List.mem_of_getElem? (i := 193) rfl)) rfl
theorem wd1265 : Cond.methodLink RL 122 yX5_restore ∈ jbig := jbig_in (jtb_5 _ (List.mem_of_getElem? (i := 202) rfl)) rfl
theorem wd1268 : Cond.code yX5_restore cX5_restore 2 none ∈ jbig := jbig_in (jtb_5 _ (List.mem_of_getElem? (i := 205) rfl)) rfl
theorem wd1266 : Cond.instanceMethod yX5_restore ∈ jbig := jbig_in (jtb_5 _ (List.mem_of_getElem? (i := 203) rfl)) rfl
theorem wd1267 : Cond.selects yX5_restore.cls yX5_restore yX5_restore ∈ jbig := jbig_in (jtb_5 _ (List.mem_of_getElem? (i := 204) rfl)) rfl
theorem wd1042 : Cond.methodLink RX0 1 Lib.objectInit ∈ jbig := jbig_in (jtb_4 _ (List.mem_of_getElem? (i := 219) rfl)) rfl
theorem wd132 : Cond.instanceMethod Lib.objectInit ∈ jbig := jbig_in (jtb_1 _ (List.mem_of_getElem? (i := 29) rfl)) rfl
theorem wd133 : Cond.code Lib.objectInit ⟨#[0xb1]⟩ 1 none ∈ jbig := jbig_in (jtb_1 _ (List.mem_of_getElem? (i := 30) rfl)) rfl
theorem wd139 : Cond.methodLink RX3 3 Lib.objectInit ∈ jbig := jbig_in (jtb_1 _ (List.mem_of_getElem? (i := 36) rfl)) rfl
theorem wd329 : Cond.methodLink RX4 3 Lib.objectInit ∈ jbig := jbig_in (jtb_1 _ (List.mem_of_getElem? (i := 226) rfl)) rfl
theorem wd234 : Cond.methodLink RX2 3 Lib.objectInit ∈ jbig := jbig_in (jtb_1 _ (List.mem_of_getElem? (i := 131) rfl)) rfl
theorem wd276 : Cond.methodLink RX1 3 Lib.objectInit ∈ jbig := jbig_in (jtb_1 _ (List.mem_of_getElem? (i := 173) rfl)) rfl
theorem wd131 : Cond.methodLink RX5 1 Lib.objectInit ∈ jbig := jbig_in (jtb_1 _ (List.mem_of_getElem? (i := 28) rfl)) rfl
theorem wd1274 : Cond.methodLink RX6 1 Lib.objectInit ∈ jbig := jbig_in (jtb_5 _ (List.mem_of_getElem? (i := 211) rfl)) rfl
theorem wd1037 : Cond.classLink RX5 205 RX0 ∈ jbig := jbig_in (jtb_4 _ (List.mem_of_getElem? (i := 214) rfl)) rfl
theorem wd1038 : Cond.instantiable RX0 1 ∈ jbig := jbig_in (jtb_4 _ (List.mem_of_getElem? (i := 215) rfl)) rfl
theorem wd134 : Cond.classLink RX5 7 RX3 ∈ jbig := jbig_in (jtb_1 _ (List.mem_of_getElem? (i := 31) rfl)) rfl
theorem wd135 : Cond.instantiable RX3 17 ∈ jbig := jbig_in (jtb_1 _ (List.mem_of_getElem? (i := 32) rfl)) rfl
theorem wd227 : Cond.classLink RX5 27 RX4 ∈ jbig := jbig_in (jtb_1 _ (List.mem_of_getElem? (i := 124) rfl)) rfl
theorem wd325 : Cond.instantiable RX4 4 ∈ jbig := jbig_in (jtb_1 _ (List.mem_of_getElem? (i := 222) rfl)) rfl
theorem wd229 : Cond.classLink RX5 33 RX2 ∈ jbig := jbig_in (jtb_1 _ (List.mem_of_getElem? (i := 126) rfl)) rfl
theorem wd230 : Cond.instantiable RX2 10 ∈ jbig := jbig_in (jtb_1 _ (List.mem_of_getElem? (i := 127) rfl)) rfl
theorem wd271 : Cond.classLink RX5 40 RX1 ∈ jbig := jbig_in (jtb_1 _ (List.mem_of_getElem? (i := 168) rfl)) rfl
theorem wd272 : Cond.instantiable RX1 15 ∈ jbig := jbig_in (jtb_1 _ (List.mem_of_getElem? (i := 169) rfl)) rfl
theorem wd126 : Cond.classLink RL 8 RX5 ∈ jbig := jbig_in (jtb_1 _ (List.mem_of_getElem? (i := 23) rfl)) rfl
theorem wd127 : Cond.instantiable RX5 7 ∈ jbig := jbig_in (jtb_1 _ (List.mem_of_getElem? (i := 24) rfl)) rfl
theorem wd1269 : Cond.classLink RL 126 RX6 ∈ jbig := jbig_in (jtb_5 _ (List.mem_of_getElem? (i := 206) rfl)) rfl
theorem wd1270 : Cond.instantiable RX6 29 ∈ jbig := jbig_in (jtb_5 _ (List.mem_of_getElem? (i := 207) rfl)) rfl
theorem wd1039 : Cond.methodLink RX5 207 yX0_init ∈ jbig := jbig_in (jtb_4 _ (List.mem_of_getElem? (i := 216) rfl)) rfl
theorem wd1041 : Cond.code yX0_init cX0_init 2 none ∈ jbig := jbig_in (jtb_4 _ (List.mem_of_getElem? (i := 218) rfl)) rfl
theorem wd1040 : Cond.instanceMethod yX0_init ∈ jbig := jbig_in (jtb_4 _ (List.mem_of_getElem? (i := 217) rfl)) rfl
theorem wd128 : Cond.methodLink RL 125 yX5_init ∈ jbig := jbig_in (jtb_1 _ (List.mem_of_getElem? (i := 25) rfl)) rfl
theorem wd130 : Cond.code yX5_init cX5_init 2 none ∈ jbig := jbig_in (jtb_1 _ (List.mem_of_getElem? (i := 27) rfl)) rfl
theorem wd129 : Cond.instanceMethod yX5_init ∈ jbig := jbig_in (jtb_1 _ (List.mem_of_getElem? (i := 26) rfl)) rfl
theorem wd1271 : Cond.methodLink RL 128 yX6_init ∈ jbig := jbig_in (jtb_5 _ (List.mem_of_getElem? (i := 208) rfl)) rfl
theorem wd1273 : Cond.code yX6_init cX6_init 1 none ∈ jbig := jbig_in (jtb_5 _ (List.mem_of_getElem? (i := 210) rfl)) rfl
theorem wd1272 : Cond.instanceMethod yX6_init ∈ jbig := jbig_in (jtb_5 _ (List.mem_of_getElem? (i := 209) rfl)) rfl
theorem wd138 : Cond.code yX3_init cX3_init 1 none ∈ jbig := jbig_in (jtb_1 _ (List.mem_of_getElem? (i := 35) rfl)) rfl
theorem wd137 : Cond.instanceMethod yX3_init ∈ jbig := jbig_in (jtb_1 _ (List.mem_of_getElem? (i := 34) rfl)) rfl
theorem wd233 : Cond.code yX2_init cX2_init 1 none ∈ jbig := jbig_in (jtb_1 _ (List.mem_of_getElem? (i := 130) rfl)) rfl
theorem wd232 : Cond.instanceMethod yX2_init ∈ jbig := jbig_in (jtb_1 _ (List.mem_of_getElem? (i := 129) rfl)) rfl
theorem wd275 : Cond.code yX1_init cX1_init 1 none ∈ jbig := jbig_in (jtb_1 _ (List.mem_of_getElem? (i := 172) rfl)) rfl
theorem wd274 : Cond.instanceMethod yX1_init ∈ jbig := jbig_in (jtb_1 _ (List.mem_of_getElem? (i := 171) rfl)) rfl
theorem wd328 : Cond.code yX4_init cX4_init 1 none ∈ jbig := jbig_in (jtb_1 _ (List.mem_of_getElem? (i := 225) rfl)) rfl
theorem wd327 : Cond.instanceMethod yX4_init ∈ jbig := jbig_in (jtb_1 _ (List.mem_of_getElem? (i := 224) rfl)) rfl
theorem wd225 : Cond.arrayClass .int ∈ jbig := jbig_in (jtb_1 _ (List.mem_of_getElem? (i := 122) rfl)) rfl
theorem wd324 : Cond.arrayClass .long ∈ jbig := jbig_in (jtb_1 _ (List.mem_of_getElem? (i := 221) rfl)) rfl
theorem wd270 : Cond.arrayClass .byte ∈ jbig := jbig_in (jtb_1 _ (List.mem_of_getElem? (i := 167) rfl)) rfl
theorem wd269 : Cond.arrayClass .boolean ∈ jbig := jbig_in (jtb_1 _ (List.mem_of_getElem? (i := 166) rfl)) rfl
theorem wd1047 : Cond.methodLink RX5 209 yX0_spend ∈ jbig := jbig_in (jtb_4 _ (List.mem_of_getElem? (i := 224) rfl)) rfl
theorem wd1050 : Cond.code yX0_spend cX0_spend 5 (some .int) ∈ jbig := jbig_in (jtb_4 _ (List.mem_of_getElem? (i := 227) rfl)) rfl
theorem wd1048 : Cond.instanceMethod yX0_spend ∈ jbig := jbig_in (jtb_4 _ (List.mem_of_getElem? (i := 225) rfl)) rfl
theorem wd1049 : Cond.selects yX0_spend.cls yX0_spend yX0_spend ∈ jbig := jbig_in (jtb_4 _ (List.mem_of_getElem? (i := 226) rfl)) rfl
theorem kc_L_7 : jcy RL 7 yX5_town cX5_town 3 (some .int) 1 ∧ Cond.instanceMethod yX5_town ∈ jbig ∧ Cond.selects yX5_town.cls yX5_town yX5_town ∈ jbig := ⟨⟨wd654, wd657, wd104, by decide, by decide, by decide⟩, wd655, wd656⟩
theorem kc_L_15 : jcy RL 15 yX5_person cX5_person 3 (some .int) 2 ∧ Cond.instanceMethod yX5_person ∈ jbig ∧ Cond.selects yX5_person.cls yX5_person yX5_person ∈ jbig := ⟨⟨wd862, wd865, wd104, by decide, by decide, by decide⟩, wd863, wd864⟩
theorem kc_L_21 : jcy RL 21 yX5_worth cX5_worth 3 (some .int) 2 ∧ Cond.instanceMethod yX5_worth ∈ jbig ∧ Cond.selects yX5_worth.cls yX5_worth yX5_worth ∈ jbig := ⟨⟨wd894, wd897, wd104, by decide, by decide, by decide⟩, wd895, wd896⟩
theorem kc_L_24 : jcy RL 24 yX5_holder cX5_holder 2 (some .int) 1 ∧ Cond.instanceMethod yX5_holder ∈ jbig ∧ Cond.selects yX5_holder.cls yX5_holder yX5_holder ∈ jbig := ⟨⟨wd906, wd909, wd104, by decide, by decide, by decide⟩, wd907, wd908⟩
theorem kc_L_27 : jcy RL 27 yX5_eat cX5_eat 3 (some .boolean) 1 ∧ Cond.instanceMethod yX5_eat ∈ jbig ∧ Cond.selects yX5_eat.cls yX5_eat yX5_eat ∈ jbig := ⟨⟨wd913, wd916, wd104, by decide, by decide, by decide⟩, wd914, wd915⟩
theorem kc_L_31 : jcy RL 31 yX5_pass cX5_pass 2 (some .int) 1 ∧ Cond.instanceMethod yX5_pass ∈ jbig ∧ Cond.selects yX5_pass.cls yX5_pass yX5_pass ∈ jbig := ⟨⟨wd921, wd924, wd104, by decide, by decide, by decide⟩, wd922, wd923⟩
theorem kc_L_34 : jcy RL 34 yX5_morning cX5_morning 2 (some .int) 0 ∧ Cond.instanceMethod yX5_morning ∈ jbig ∧ Cond.selects yX5_morning.cls yX5_morning yX5_morning ∈ jbig := ⟨⟨wd932, wd935, wd104, by decide, by decide, by decide⟩, wd933, wd934⟩
theorem kc_L_40 : jcy RL 40 yX5_deed cX5_deed 3 (some .int) 2 ∧ Cond.instanceMethod yX5_deed ∈ jbig ∧ Cond.selects yX5_deed.cls yX5_deed yX5_deed ∈ jbig := ⟨⟨wd955, wd958, wd104, by decide, by decide, by decide⟩, wd956, wd957⟩
theorem kc_L_43 : jcy RL 43 yX5_may cX5_may 3 (some .int) 2 ∧ Cond.instanceMethod yX5_may ∈ jbig ∧ Cond.selects yX5_may.cls yX5_may yX5_may ∈ jbig := ⟨⟨wd970, wd973, wd104, by decide, by decide, by decide⟩, wd971, wd972⟩
theorem kc_L_46 : jcy RL 46 yX5_undo cX5_undo 4 (some .int) 2 ∧ Cond.instanceMethod yX5_undo ∈ jbig ∧ Cond.selects yX5_undo.cls yX5_undo yX5_undo ∈ jbig := ⟨⟨wd978, wd981, wd104, by decide, by decide, by decide⟩, wd979, wd980⟩
theorem kc_L_49 : jcy RL 49 yX5_falls cX5_falls 2 (some .int) 1 ∧ Cond.instanceMethod yX5_falls ∈ jbig ∧ Cond.selects yX5_falls.cls yX5_falls yX5_falls ∈ jbig := ⟨⟨wd985, wd988, wd104, by decide, by decide, by decide⟩, wd986, wd987⟩
theorem kc_L_52 : jcy RL 52 yX5_owes cX5_owes 4 (some .int) 3 ∧ Cond.instanceMethod yX5_owes ∈ jbig ∧ Cond.selects yX5_owes.cls yX5_owes yX5_owes ∈ jbig := ⟨⟨wd993, wd996, wd104, by decide, by decide, by decide⟩, wd994, wd995⟩
theorem kc_L_56 : jcy RL 56 yX5_chain cX5_chain 5 (some .int) 2 ∧ Cond.instanceMethod yX5_chain ∈ jbig ∧ Cond.selects yX5_chain.cls yX5_chain yX5_chain ∈ jbig := ⟨⟨wd1002, wd1005, wd104, by decide, by decide, by decide⟩, wd1003, wd1004⟩
theorem kc_L_59 : jcy RL 59 yX5_judge cX5_judge 5 (some .int) 2 ∧ Cond.instanceMethod yX5_judge ∈ jbig ∧ Cond.selects yX5_judge.cls yX5_judge yX5_judge ∈ jbig := ⟨⟨wd1009, wd1012, wd104, by decide, by decide, by decide⟩, wd1010, wd1011⟩
theorem kc_L_62 : jcy RL 62 yX5_perform cX5_perform 2 (some .int) 1 ∧ Cond.instanceMethod yX5_perform ∈ jbig ∧ Cond.selects yX5_perform.cls yX5_perform yX5_perform ∈ jbig := ⟨⟨wd1026, wd1029, wd104, by decide, by decide, by decide⟩, wd1027, wd1028⟩
theorem kc_L_65 : jcy RL 65 yX5_day cX5_day 3 (some .int) 2 ∧ Cond.instanceMethod yX5_day ∈ jbig ∧ Cond.selects yX5_day.cls yX5_day yX5_day ∈ jbig := ⟨⟨wd1033, wd1036, wd104, by decide, by decide, by decide⟩, wd1034, wd1035⟩
theorem kc_L_68 : jcy RL 68 yX5_gain cX5_gain 3 (some .int) 2 ∧ Cond.instanceMethod yX5_gain ∈ jbig ∧ Cond.selects yX5_gain.cls yX5_gain yX5_gain ∈ jbig := ⟨⟨wd1072, wd1075, wd104, by decide, by decide, by decide⟩, wd1073, wd1074⟩
theorem kc_L_71 : jcy RL 71 yX5_pledge cX5_pledge 2 (some .int) 1 ∧ Cond.instanceMethod yX5_pledge ∈ jbig ∧ Cond.selects yX5_pledge.cls yX5_pledge yX5_pledge ∈ jbig := ⟨⟨wd1079, wd1082, wd104, by decide, by decide, by decide⟩, wd1080, wd1081⟩
theorem kc_L_74 : jcy RL 74 yX5_debt cX5_debt 7 (some .int) 2 ∧ Cond.instanceMethod yX5_debt ∈ jbig ∧ Cond.selects yX5_debt.cls yX5_debt yX5_debt ∈ jbig := ⟨⟨wd1087, wd1090, wd104, by decide, by decide, by decide⟩, wd1088, wd1089⟩
theorem kc_L_77 : jcy RL 77 yX5_safePrice cX5_safePrice 6 (some .int) 3 ∧ Cond.instanceMethod yX5_safePrice ∈ jbig ∧ Cond.selects yX5_safePrice.cls yX5_safePrice yX5_safePrice ∈ jbig := ⟨⟨wd1095, wd1098, wd104, by decide, by decide, by decide⟩, wd1096, wd1097⟩
theorem kc_L_80 : jcy RL 80 yX5_bidder cX5_bidder 6 (some .int) 1 ∧ Cond.instanceMethod yX5_bidder ∈ jbig ∧ Cond.selects yX5_bidder.cls yX5_bidder yX5_bidder ∈ jbig := ⟨⟨wd1106, wd1109, wd104, by decide, by decide, by decide⟩, wd1107, wd1108⟩
theorem kc_L_83 : jcy RL 83 yX5_keeper cX5_keeper 5 (some .int) 2 ∧ Cond.instanceMethod yX5_keeper ∈ jbig ∧ Cond.selects yX5_keeper.cls yX5_keeper yX5_keeper ∈ jbig := ⟨⟨wd1113, wd1116, wd104, by decide, by decide, by decide⟩, wd1114, wd1115⟩
theorem kc_L_86 : jcy RL 86 yX5_endFrom cX5_endFrom 2 (some .int) 1 ∧ Cond.instanceMethod yX5_endFrom ∈ jbig ∧ Cond.selects yX5_endFrom.cls yX5_endFrom yX5_endFrom ∈ jbig := ⟨⟨wd1123, wd1126, wd104, by decide, by decide, by decide⟩, wd1124, wd1125⟩
theorem kc_L_89 : jcy RL 89 yX5_end cX5_end 5 (some .int) 2 ∧ Cond.instanceMethod yX5_end ∈ jbig ∧ Cond.selects yX5_end.cls yX5_end yX5_end ∈ jbig := ⟨⟨wd1134, wd1137, wd104, by decide, by decide, by decide⟩, wd1135, wd1136⟩
theorem kc_L_92 : jcy RL 92 yX5_ringer cX5_ringer 2 (some .int) 1 ∧ Cond.instanceMethod yX5_ringer ∈ jbig ∧ Cond.selects yX5_ringer.cls yX5_ringer yX5_ringer ∈ jbig := ⟨⟨wd1153, wd1156, wd104, by decide, by decide, by decide⟩, wd1154, wd1155⟩
theorem kc_L_95 : jcy RL 95 yX5_news cX5_news 4 (some .int) 3 ∧ Cond.instanceMethod yX5_news ∈ jbig ∧ Cond.selects yX5_news.cls yX5_news yX5_news ∈ jbig := ⟨⟨wd1160, wd1163, wd104, by decide, by decide, by decide⟩, wd1161, wd1162⟩
theorem kc_L_98 : jcy RL 98 yX5_share cX5_share 3 (some .int) 1 ∧ Cond.instanceMethod yX5_share ∈ jbig ∧ Cond.selects yX5_share.cls yX5_share yX5_share ∈ jbig := ⟨⟨wd1168, wd1171, wd104, by decide, by decide, by decide⟩, wd1169, wd1170⟩
theorem kc_L_101 : jcy RL 101 yX5_hope cX5_hope 9 (some .int) 4 ∧ Cond.instanceMethod yX5_hope ∈ jbig ∧ Cond.selects yX5_hope.cls yX5_hope yX5_hope ∈ jbig := ⟨⟨wd1175, wd1178, wd104, by decide, by decide, by decide⟩, wd1176, wd1177⟩
theorem kc_L_105 : jcy RL 105 yX5_tray cX5_tray 4 none 3 ∧ Cond.instanceMethod yX5_tray ∈ jbig ∧ Cond.selects yX5_tray.cls yX5_tray yX5_tray ∈ jbig := ⟨⟨wd1202, wd1205, wd104, by decide, by decide, by decide⟩, wd1203, wd1204⟩
theorem kc_L_109 : jcy RL 109 yX5_write cX5_write 6 (some .long) 3 ∧ Cond.instanceMethod yX5_write ∈ jbig ∧ Cond.selects yX5_write.cls yX5_write yX5_write ∈ jbig := ⟨⟨wd1217, wd1220, wd104, by decide, by decide, by decide⟩, wd1218, wd1219⟩
theorem kc_L_115 : jcy RL 115 yX5_pour cX5_pour 5 (some .int) 1 ∧ Cond.instanceMethod yX5_pour ∈ jbig ∧ Cond.selects yX5_pour.cls yX5_pour yX5_pour ∈ jbig := ⟨⟨wd1247, wd1250, wd104, by decide, by decide, by decide⟩, wd1248, wd1249⟩
theorem kc_L_118 : jcy RL 118 yX5_image cX5_image 2 none 1 ∧ Cond.instanceMethod yX5_image ∈ jbig ∧ Cond.selects yX5_image.cls yX5_image yX5_image ∈ jbig := ⟨⟨wd1254, wd1257, wd104, by decide, by decide, by decide⟩, wd1255, wd1256⟩
theorem kc_L_122 : jcy RL 122 yX5_restore cX5_restore 2 none 1 ∧ Cond.instanceMethod yX5_restore ∈ jbig ∧ Cond.selects yX5_restore.cls yX5_restore yX5_restore ∈ jbig := ⟨⟨wd1265, wd1268, wd104, by decide, by decide, by decide⟩, wd1266, wd1267⟩
theorem kc_X5_209 : jcy RX5 209 yX0_spend cX0_spend 5 (some .int) 2 ∧ Cond.instanceMethod yX0_spend ∈ jbig ∧ Cond.selects yX0_spend.cls yX0_spend yX0_spend ∈ jbig := ⟨⟨wd1047, wd1050, wd124, by decide, by decide, by decide⟩, wd1048, wd1049⟩
theorem oi_X0 : ∀ w ∈ [Cond.methodLink RX0 1 Lib.objectInit, Cond.instanceMethod Lib.objectInit, Cond.code Lib.objectInit ⟨#[0xb1]⟩ 1 none], w ∈ jbig := List.forall_mem_cons.mpr ⟨wd1042, List.forall_mem_cons.mpr ⟨wd132, List.forall_mem_cons.mpr ⟨wd133, fun _ h => absurd h List.not_mem_nil⟩⟩⟩
theorem oi_X3 : ∀ w ∈ [Cond.methodLink RX3 3 Lib.objectInit, Cond.instanceMethod Lib.objectInit, Cond.code Lib.objectInit ⟨#[0xb1]⟩ 1 none], w ∈ jbig := List.forall_mem_cons.mpr ⟨wd139, List.forall_mem_cons.mpr ⟨wd132, List.forall_mem_cons.mpr ⟨wd133, fun _ h => absurd h List.not_mem_nil⟩⟩⟩
theorem oi_X4 : ∀ w ∈ [Cond.methodLink RX4 3 Lib.objectInit, Cond.instanceMethod Lib.objectInit, Cond.code Lib.objectInit ⟨#[0xb1]⟩ 1 none], w ∈ jbig := List.forall_mem_cons.mpr ⟨wd329, List.forall_mem_cons.mpr ⟨wd132, List.forall_mem_cons.mpr ⟨wd133, fun _ h => absurd h List.not_mem_nil⟩⟩⟩
theorem oi_X2 : ∀ w ∈ [Cond.methodLink RX2 3 Lib.objectInit, Cond.instanceMethod Lib.objectInit, Cond.code Lib.objectInit ⟨#[0xb1]⟩ 1 none], w ∈ jbig := List.forall_mem_cons.mpr ⟨wd234, List.forall_mem_cons.mpr ⟨wd132, List.forall_mem_cons.mpr ⟨wd133, fun _ h => absurd h List.not_mem_nil⟩⟩⟩
theorem oi_X1 : ∀ w ∈ [Cond.methodLink RX1 3 Lib.objectInit, Cond.instanceMethod Lib.objectInit, Cond.code Lib.objectInit ⟨#[0xb1]⟩ 1 none], w ∈ jbig := List.forall_mem_cons.mpr ⟨wd276, List.forall_mem_cons.mpr ⟨wd132, List.forall_mem_cons.mpr ⟨wd133, fun _ h => absurd h List.not_mem_nil⟩⟩⟩
theorem oi_X5 : ∀ w ∈ [Cond.methodLink RX5 1 Lib.objectInit, Cond.instanceMethod Lib.objectInit, Cond.code Lib.objectInit ⟨#[0xb1]⟩ 1 none], w ∈ jbig := List.forall_mem_cons.mpr ⟨wd131, List.forall_mem_cons.mpr ⟨wd132, List.forall_mem_cons.mpr ⟨wd133, fun _ h => absurd h List.not_mem_nil⟩⟩⟩
theorem oi_X6 : ∀ w ∈ [Cond.methodLink RX6 1 Lib.objectInit, Cond.instanceMethod Lib.objectInit, Cond.code Lib.objectInit ⟨#[0xb1]⟩ 1 none], w ∈ jbig := List.forall_mem_cons.mpr ⟨wd1274, List.forall_mem_cons.mpr ⟨wd132, List.forall_mem_cons.mpr ⟨wd133, fun _ h => absurd h List.not_mem_nil⟩⟩⟩
theorem nw_X5_205 : Cond.classLink RX5 205 RX0 ∈ jbig ∧ Cond.instantiable RX0 1 ∈ jbig ∧ Cond.initialized RX0 ∈ jbig := ⟨wd1037, wd1038, wd124⟩
theorem nw_X5_7 : Cond.classLink RX5 7 RX3 ∈ jbig ∧ Cond.instantiable RX3 17 ∈ jbig ∧ Cond.initialized RX3 ∈ jbig := ⟨wd134, wd135, wd105⟩
theorem nw_X5_27 : Cond.classLink RX5 27 RX4 ∈ jbig ∧ Cond.instantiable RX4 4 ∈ jbig ∧ Cond.initialized RX4 ∈ jbig := ⟨wd227, wd325, wd108⟩
theorem nw_X5_33 : Cond.classLink RX5 33 RX2 ∈ jbig ∧ Cond.instantiable RX2 10 ∈ jbig ∧ Cond.initialized RX2 ∈ jbig := ⟨wd229, wd230, wd106⟩
theorem nw_X5_40 : Cond.classLink RX5 40 RX1 ∈ jbig ∧ Cond.instantiable RX1 15 ∈ jbig ∧ Cond.initialized RX1 ∈ jbig := ⟨wd271, wd272, wd107⟩
theorem nw_L_8 : Cond.classLink RL 8 RX5 ∈ jbig ∧ Cond.instantiable RX5 7 ∈ jbig ∧ Cond.initialized RX5 ∈ jbig := ⟨wd126, wd127, wd104⟩
theorem nw_L_126 : Cond.classLink RL 126 RX6 ∈ jbig ∧ Cond.instantiable RX6 29 ∈ jbig ∧ Cond.initialized RX6 ∈ jbig := ⟨wd1269, wd1270, wd109⟩
theorem ci_X5_207 : Cond.methodLink RX5 207 yX0_init ∈ jbig ∧ Cond.code yX0_init cX0_init 2 none ∈ jbig ∧ Cond.initialized yX0_init.cls ∈ jbig ∧ Cond.instanceMethod yX0_init ∈ jbig := ⟨wd1039, wd1041, wd124, wd1040⟩
theorem ci_L_125 : Cond.methodLink RL 125 yX5_init ∈ jbig ∧ Cond.code yX5_init cX5_init 2 none ∈ jbig ∧ Cond.initialized yX5_init.cls ∈ jbig ∧ Cond.instanceMethod yX5_init ∈ jbig := ⟨wd128, wd130, wd104, wd129⟩
theorem ci_L_128 : Cond.methodLink RL 128 yX6_init ∈ jbig ∧ Cond.code yX6_init cX6_init 1 none ∈ jbig ∧ Cond.initialized yX6_init.cls ∈ jbig ∧ Cond.instanceMethod yX6_init ∈ jbig := ⟨wd1271, wd1273, wd109, wd1272⟩
theorem cn_X3_init : Cond.code yX3_init cX3_init 1 none ∈ jbig ∧ Cond.initialized yX3_init.cls ∈ jbig ∧ Cond.instanceMethod yX3_init ∈ jbig := ⟨wd138, wd105, wd137⟩
theorem cn_X2_init : Cond.code yX2_init cX2_init 1 none ∈ jbig ∧ Cond.initialized yX2_init.cls ∈ jbig ∧ Cond.instanceMethod yX2_init ∈ jbig := ⟨wd233, wd106, wd232⟩
theorem cn_X1_init : Cond.code yX1_init cX1_init 1 none ∈ jbig ∧ Cond.initialized yX1_init.cls ∈ jbig ∧ Cond.instanceMethod yX1_init ∈ jbig := ⟨wd275, wd107, wd274⟩
theorem cn_X4_init : Cond.code yX4_init cX4_init 1 none ∈ jbig ∧ Cond.initialized yX4_init.cls ∈ jbig ∧ Cond.instanceMethod yX4_init ∈ jbig := ⟨wd328, wd108, wd327⟩
theorem ac_int : Cond.arrayClass .int ∈ jbig := wd225
theorem ac_long : Cond.arrayClass .long ∈ jbig := wd324
theorem ac_byte : Cond.arrayClass .byte ∈ jbig := wd270
theorem ac_boolean : Cond.arrayClass .boolean ∈ jbig := wd269
def tbL : jT := ([], [], [(276, 4294967295)], [], none)
theorem tbL_ok : jtOK RL tbL := ⟨fun _ h => absurd h List.not_mem_nil, fun _ h => absurd h List.not_mem_nil, List.forall_mem_cons.mpr ⟨wd1835, fun _ h => absurd h List.not_mem_nil⟩, fun _ h => absurd h List.not_mem_nil⟩
def kL_town : List (Nat × Instr × Nat) := [(0, .aload_n 2, 1), (1, .iconst 0, 1), (2, .aload_n 0, 1), (3, .iload_n 1, 1), (4, .invokevirtual 7, 3), (7, .i2l, 1), (8, .lastore, 1), (9, .goto 6, 3), (12, .astore_n 3, 1), (13, .iconst 1, 1), (14, .ireturn, 1), (15, .iconst 0, 1), (16, .ireturn, 1)]
theorem kL_town_ok : ∀ q ∈ kL_town, decode cL_town q.1 = .ok q.2 := by decide +kernel
def kL_person : List (Nat × Instr × Nat) := [(0, .aload_n 3, 1), (1, .iconst 0, 1), (2, .aload_n 0, 1), (3, .iload_n 1, 1), (4, .iload_n 2, 1), (5, .invokevirtual 15, 3), (8, .i2l, 1), (9, .lastore, 1), (10, .goto 11, 3), (13, .astore 4, 2), (15, .iconst 1, 1), (16, .ireturn, 1), (17, .astore 4, 2), (19, .iconst 2, 1), (20, .ireturn, 1), (21, .iconst 0, 1), (22, .ireturn, 1)]
theorem kL_person_ok : ∀ q ∈ kL_person, decode cL_person q.1 = .ok q.2 := by decide +kernel
def kL_worth : List (Nat × Instr × Nat) := [(0, .aload_n 3, 1), (1, .iconst 0, 1), (2, .aload_n 0, 1), (3, .iload_n 1, 1), (4, .iload_n 2, 1), (5, .invokevirtual 21, 3), (8, .i2l, 1), (9, .lastore, 1), (10, .goto 7, 3), (13, .astore 4, 2), (15, .iconst 1, 1), (16, .ireturn, 1), (17, .iconst 0, 1), (18, .ireturn, 1)]
theorem kL_worth_ok : ∀ q ∈ kL_worth, decode cL_worth q.1 = .ok q.2 := by decide +kernel
def kL_holder : List (Nat × Instr × Nat) := [(0, .aload_n 2, 1), (1, .iconst 0, 1), (2, .aload_n 0, 1), (3, .iload_n 1, 1), (4, .invokevirtual 24, 3), (7, .i2l, 1), (8, .lastore, 1), (9, .goto 6, 3), (12, .astore_n 3, 1), (13, .iconst 1, 1), (14, .ireturn, 1), (15, .iconst 0, 1), (16, .ireturn, 1)]
theorem kL_holder_ok : ∀ q ∈ kL_holder, decode cL_holder q.1 = .ok q.2 := by decide +kernel
def kL_eat : List (Nat × Instr × Nat) := [(0, .aload_n 2, 1), (1, .iconst 0, 1), (2, .aload_n 0, 1), (3, .iload_n 1, 1), (4, .invokevirtual 27, 3), (7, .ifCond .eq 7, 3), (10, .lconst 1, 1), (11, .goto 4, 3), (14, .lconst 0, 1), (15, .lastore, 1), (16, .goto 6, 3), (19, .astore_n 3, 1), (20, .iconst 1, 1), (21, .ireturn, 1), (22, .iconst 0, 1), (23, .ireturn, 1)]
theorem kL_eat_ok : ∀ q ∈ kL_eat, decode cL_eat q.1 = .ok q.2 := by decide +kernel
def kL_pass : List (Nat × Instr × Nat) := [(0, .aload_n 2, 1), (1, .iconst 0, 1), (2, .aload_n 0, 1), (3, .iload_n 1, 1), (4, .invokevirtual 31, 3), (7, .i2l, 1), (8, .lastore, 1), (9, .goto 6, 3), (12, .astore_n 3, 1), (13, .iconst 1, 1), (14, .ireturn, 1), (15, .iconst 0, 1), (16, .ireturn, 1)]
theorem kL_pass_ok : ∀ q ∈ kL_pass, decode cL_pass q.1 = .ok q.2 := by decide +kernel
def kL_morning : List (Nat × Instr × Nat) := [(0, .aload_n 1, 1), (1, .iconst 0, 1), (2, .aload_n 0, 1), (3, .invokevirtual 34, 3), (6, .i2l, 1), (7, .lastore, 1), (8, .goto 6, 3), (11, .astore_n 2, 1), (12, .iconst 1, 1), (13, .ireturn, 1), (14, .iconst 0, 1), (15, .ireturn, 1)]
theorem kL_morning_ok : ∀ q ∈ kL_morning, decode cL_morning q.1 = .ok q.2 := by decide +kernel
def kL_deed : List (Nat × Instr × Nat) := [(0, .aload_n 3, 1), (1, .iconst 0, 1), (2, .aload_n 0, 1), (3, .iload_n 1, 1), (4, .iload_n 2, 1), (5, .invokevirtual 40, 3), (8, .i2l, 1), (9, .lastore, 1), (10, .goto 11, 3), (13, .astore 4, 2), (15, .iconst 1, 1), (16, .ireturn, 1), (17, .astore 4, 2), (19, .iconst 2, 1), (20, .ireturn, 1), (21, .iconst 0, 1), (22, .ireturn, 1)]
theorem kL_deed_ok : ∀ q ∈ kL_deed, decode cL_deed q.1 = .ok q.2 := by decide +kernel
def kL_may : List (Nat × Instr × Nat) := [(0, .aload_n 3, 1), (1, .iconst 0, 1), (2, .aload_n 0, 1), (3, .iload_n 1, 1), (4, .iload_n 2, 1), (5, .invokevirtual 43, 3), (8, .i2l, 1), (9, .lastore, 1), (10, .goto 7, 3), (13, .astore 4, 2), (15, .iconst 1, 1), (16, .ireturn, 1), (17, .iconst 0, 1), (18, .ireturn, 1)]
theorem kL_may_ok : ∀ q ∈ kL_may, decode cL_may q.1 = .ok q.2 := by decide +kernel
def kL_undo : List (Nat × Instr × Nat) := [(0, .aload_n 3, 1), (1, .iconst 0, 1), (2, .aload_n 0, 1), (3, .iload_n 1, 1), (4, .iload_n 2, 1), (5, .invokevirtual 46, 3), (8, .i2l, 1), (9, .lastore, 1), (10, .goto 7, 3), (13, .astore 4, 2), (15, .iconst 1, 1), (16, .ireturn, 1), (17, .iconst 0, 1), (18, .ireturn, 1)]
theorem kL_undo_ok : ∀ q ∈ kL_undo, decode cL_undo q.1 = .ok q.2 := by decide +kernel
def kL_falls : List (Nat × Instr × Nat) := [(0, .aload_n 2, 1), (1, .iconst 0, 1), (2, .aload_n 0, 1), (3, .iload_n 1, 1), (4, .invokevirtual 49, 3), (7, .i2l, 1), (8, .lastore, 1), (9, .goto 6, 3), (12, .astore_n 3, 1), (13, .iconst 1, 1), (14, .ireturn, 1), (15, .iconst 0, 1), (16, .ireturn, 1)]
theorem kL_falls_ok : ∀ q ∈ kL_falls, decode cL_falls q.1 = .ok q.2 := by decide +kernel
def kL_owes : List (Nat × Instr × Nat) := [(0, .aload 4, 2), (2, .iconst 0, 1), (3, .aload_n 0, 1), (4, .iload_n 1, 1), (5, .iload_n 2, 1), (6, .iload_n 3, 1), (7, .invokevirtual 52, 3), (10, .i2l, 1), (11, .lastore, 1), (12, .goto 7, 3), (15, .astore 5, 2), (17, .iconst 1, 1), (18, .ireturn, 1), (19, .iconst 0, 1), (20, .ireturn, 1)]
theorem kL_owes_ok : ∀ q ∈ kL_owes, decode cL_owes q.1 = .ok q.2 := by decide +kernel
def kL_chain : List (Nat × Instr × Nat) := [(0, .aload_n 3, 1), (1, .iconst 0, 1), (2, .aload_n 0, 1), (3, .iload_n 1, 1), (4, .iload_n 2, 1), (5, .invokevirtual 56, 3), (8, .i2l, 1), (9, .lastore, 1), (10, .goto 7, 3), (13, .astore 4, 2), (15, .iconst 1, 1), (16, .ireturn, 1), (17, .iconst 0, 1), (18, .ireturn, 1)]
theorem kL_chain_ok : ∀ q ∈ kL_chain, decode cL_chain q.1 = .ok q.2 := by decide +kernel
def kL_judge : List (Nat × Instr × Nat) := [(0, .aload_n 3, 1), (1, .iconst 0, 1), (2, .aload_n 0, 1), (3, .iload_n 1, 1), (4, .iload_n 2, 1), (5, .invokevirtual 59, 3), (8, .i2l, 1), (9, .lastore, 1), (10, .goto 15, 3), (13, .astore 4, 2), (15, .iconst 1, 1), (16, .ireturn, 1), (17, .astore 4, 2), (19, .iconst 2, 1), (20, .ireturn, 1), (21, .astore 4, 2), (23, .iconst 3, 1), (24, .ireturn, 1), (25, .iconst 0, 1), (26, .ireturn, 1)]
theorem kL_judge_ok : ∀ q ∈ kL_judge, decode cL_judge q.1 = .ok q.2 := by decide +kernel
def kL_perform : List (Nat × Instr × Nat) := [(0, .aload_n 2, 1), (1, .iconst 0, 1), (2, .aload_n 0, 1), (3, .iload_n 1, 1), (4, .invokevirtual 62, 3), (7, .i2l, 1), (8, .lastore, 1), (9, .goto 9, 3), (12, .astore_n 3, 1), (13, .iconst 1, 1), (14, .ireturn, 1), (15, .astore_n 3, 1), (16, .iconst 2, 1), (17, .ireturn, 1), (18, .iconst 0, 1), (19, .ireturn, 1)]
theorem kL_perform_ok : ∀ q ∈ kL_perform, decode cL_perform q.1 = .ok q.2 := by decide +kernel
def kL_day : List (Nat × Instr × Nat) := [(0, .aload_n 3, 1), (1, .iconst 0, 1), (2, .aload_n 0, 1), (3, .iload_n 1, 1), (4, .iload_n 2, 1), (5, .invokevirtual 65, 3), (8, .i2l, 1), (9, .lastore, 1), (10, .goto 7, 3), (13, .astore 4, 2), (15, .iconst 1, 1), (16, .ireturn, 1), (17, .iconst 0, 1), (18, .ireturn, 1)]
theorem kL_day_ok : ∀ q ∈ kL_day, decode cL_day q.1 = .ok q.2 := by decide +kernel
def kL_gain : List (Nat × Instr × Nat) := [(0, .aload_n 3, 1), (1, .iconst 0, 1), (2, .aload_n 0, 1), (3, .iload_n 1, 1), (4, .iload_n 2, 1), (5, .invokevirtual 68, 3), (8, .i2l, 1), (9, .lastore, 1), (10, .goto 7, 3), (13, .astore 4, 2), (15, .iconst 1, 1), (16, .ireturn, 1), (17, .iconst 0, 1), (18, .ireturn, 1)]
theorem kL_gain_ok : ∀ q ∈ kL_gain, decode cL_gain q.1 = .ok q.2 := by decide +kernel
def kL_pledge : List (Nat × Instr × Nat) := [(0, .aload_n 2, 1), (1, .iconst 0, 1), (2, .aload_n 0, 1), (3, .iload_n 1, 1), (4, .invokevirtual 71, 3), (7, .i2l, 1), (8, .lastore, 1), (9, .goto 6, 3), (12, .astore_n 3, 1), (13, .iconst 1, 1), (14, .ireturn, 1), (15, .iconst 0, 1), (16, .ireturn, 1)]
theorem kL_pledge_ok : ∀ q ∈ kL_pledge, decode cL_pledge q.1 = .ok q.2 := by decide +kernel
def kL_debt : List (Nat × Instr × Nat) := [(0, .aload_n 3, 1), (1, .iconst 0, 1), (2, .aload_n 0, 1), (3, .iload_n 1, 1), (4, .iload_n 2, 1), (5, .invokevirtual 74, 3), (8, .i2l, 1), (9, .lastore, 1), (10, .goto 11, 3), (13, .astore 4, 2), (15, .iconst 1, 1), (16, .ireturn, 1), (17, .astore 4, 2), (19, .iconst 2, 1), (20, .ireturn, 1), (21, .iconst 0, 1), (22, .ireturn, 1)]
theorem kL_debt_ok : ∀ q ∈ kL_debt, decode cL_debt q.1 = .ok q.2 := by decide +kernel
def kL_safePrice : List (Nat × Instr × Nat) := [(0, .aload 4, 2), (2, .iconst 0, 1), (3, .aload_n 0, 1), (4, .iload_n 1, 1), (5, .iload_n 2, 1), (6, .iload_n 3, 1), (7, .invokevirtual 77, 3), (10, .i2l, 1), (11, .lastore, 1), (12, .goto 15, 3), (15, .astore 5, 2), (17, .iconst 1, 1), (18, .ireturn, 1), (19, .astore 5, 2), (21, .iconst 2, 1), (22, .ireturn, 1), (23, .astore 5, 2), (25, .iconst 3, 1), (26, .ireturn, 1), (27, .iconst 0, 1), (28, .ireturn, 1)]
theorem kL_safePrice_ok : ∀ q ∈ kL_safePrice, decode cL_safePrice q.1 = .ok q.2 := by decide +kernel
def kL_bidder : List (Nat × Instr × Nat) := [(0, .aload_n 2, 1), (1, .iconst 0, 1), (2, .aload_n 0, 1), (3, .iload_n 1, 1), (4, .invokevirtual 80, 3), (7, .i2l, 1), (8, .lastore, 1), (9, .goto 6, 3), (12, .astore_n 3, 1), (13, .iconst 1, 1), (14, .ireturn, 1), (15, .iconst 0, 1), (16, .ireturn, 1)]
theorem kL_bidder_ok : ∀ q ∈ kL_bidder, decode cL_bidder q.1 = .ok q.2 := by decide +kernel
def kL_keeper : List (Nat × Instr × Nat) := [(0, .aload_n 3, 1), (1, .iconst 0, 1), (2, .aload_n 0, 1), (3, .iload_n 1, 1), (4, .iload_n 2, 1), (5, .invokevirtual 83, 3), (8, .i2l, 1), (9, .lastore, 1), (10, .goto 11, 3), (13, .astore 4, 2), (15, .iconst 1, 1), (16, .ireturn, 1), (17, .astore 4, 2), (19, .iconst 2, 1), (20, .ireturn, 1), (21, .iconst 0, 1), (22, .ireturn, 1)]
theorem kL_keeper_ok : ∀ q ∈ kL_keeper, decode cL_keeper q.1 = .ok q.2 := by decide +kernel
def kL_endFrom : List (Nat × Instr × Nat) := [(0, .aload_n 2, 1), (1, .iconst 0, 1), (2, .aload_n 0, 1), (3, .iload_n 1, 1), (4, .invokevirtual 86, 3), (7, .i2l, 1), (8, .lastore, 1), (9, .goto 6, 3), (12, .astore_n 3, 1), (13, .iconst 1, 1), (14, .ireturn, 1), (15, .iconst 0, 1), (16, .ireturn, 1)]
theorem kL_endFrom_ok : ∀ q ∈ kL_endFrom, decode cL_endFrom q.1 = .ok q.2 := by decide +kernel
def kL_end : List (Nat × Instr × Nat) := [(0, .aload_n 3, 1), (1, .iconst 0, 1), (2, .aload_n 0, 1), (3, .iload_n 1, 1), (4, .iload_n 2, 1), (5, .invokevirtual 89, 3), (8, .i2l, 1), (9, .lastore, 1), (10, .goto 7, 3), (13, .astore 4, 2), (15, .iconst 1, 1), (16, .ireturn, 1), (17, .iconst 0, 1), (18, .ireturn, 1)]
theorem kL_end_ok : ∀ q ∈ kL_end, decode cL_end q.1 = .ok q.2 := by decide +kernel
def kL_ringer : List (Nat × Instr × Nat) := [(0, .aload_n 2, 1), (1, .iconst 0, 1), (2, .aload_n 0, 1), (3, .iload_n 1, 1), (4, .invokevirtual 92, 3), (7, .i2l, 1), (8, .lastore, 1), (9, .goto 6, 3), (12, .astore_n 3, 1), (13, .iconst 1, 1), (14, .ireturn, 1), (15, .iconst 0, 1), (16, .ireturn, 1)]
theorem kL_ringer_ok : ∀ q ∈ kL_ringer, decode cL_ringer q.1 = .ok q.2 := by decide +kernel
def kL_news : List (Nat × Instr × Nat) := [(0, .aload 4, 2), (2, .iconst 0, 1), (3, .aload_n 0, 1), (4, .iload_n 1, 1), (5, .iload_n 2, 1), (6, .iload_n 3, 1), (7, .invokevirtual 95, 3), (10, .i2l, 1), (11, .lastore, 1), (12, .goto 11, 3), (15, .astore 5, 2), (17, .iconst 1, 1), (18, .ireturn, 1), (19, .astore 5, 2), (21, .iconst 2, 1), (22, .ireturn, 1), (23, .iconst 0, 1), (24, .ireturn, 1)]
theorem kL_news_ok : ∀ q ∈ kL_news, decode cL_news q.1 = .ok q.2 := by decide +kernel
def kL_share : List (Nat × Instr × Nat) := [(0, .aload_n 2, 1), (1, .iconst 0, 1), (2, .aload_n 0, 1), (3, .iload_n 1, 1), (4, .invokevirtual 98, 3), (7, .i2l, 1), (8, .lastore, 1), (9, .goto 6, 3), (12, .astore_n 3, 1), (13, .iconst 1, 1), (14, .ireturn, 1), (15, .iconst 0, 1), (16, .ireturn, 1)]
theorem kL_share_ok : ∀ q ∈ kL_share, decode cL_share q.1 = .ok q.2 := by decide +kernel
def kL_hope : List (Nat × Instr × Nat) := [(0, .aload 5, 2), (2, .iconst 0, 1), (3, .aload_n 0, 1), (4, .iload_n 1, 1), (5, .iload_n 2, 1), (6, .iload_n 3, 1), (7, .iload 4, 2), (9, .invokevirtual 101, 3), (12, .i2l, 1), (13, .lastore, 1), (14, .goto 15, 3), (17, .astore 6, 2), (19, .iconst 1, 1), (20, .ireturn, 1), (21, .astore 6, 2), (23, .iconst 2, 1), (24, .ireturn, 1), (25, .astore 6, 2), (27, .iconst 3, 1), (28, .ireturn, 1), (29, .iconst 0, 1), (30, .ireturn, 1)]
theorem kL_hope_ok : ∀ q ∈ kL_hope, decode cL_hope q.1 = .ok q.2 := by decide +kernel
def kL_tray : List (Nat × Instr × Nat) := [(0, .aload_n 0, 1), (1, .iload_n 1, 1), (2, .iload_n 2, 1), (3, .iload_n 3, 1), (4, .invokevirtual 105, 3), (7, .goto 11, 3), (10, .astore 4, 2), (12, .iconst 1, 1), (13, .ireturn, 1), (14, .astore 4, 2), (16, .iconst 2, 1), (17, .ireturn, 1), (18, .iconst 0, 1), (19, .ireturn, 1)]
theorem kL_tray_ok : ∀ q ∈ kL_tray, decode cL_tray q.1 = .ok q.2 := by decide +kernel
def kL_write : List (Nat × Instr × Nat) := [(0, .aload 5, 2), (2, .iconst 0, 1), (3, .aload_n 0, 1), (4, .iload_n 1, 1), (5, .iload_n 2, 1), (6, .lload_n 3, 1), (7, .invokevirtual 109, 3), (10, .lastore, 1), (11, .goto 15, 3), (14, .astore 6, 2), (16, .iconst 1, 1), (17, .ireturn, 1), (18, .astore 6, 2), (20, .iconst 2, 1), (21, .ireturn, 1), (22, .astore 6, 2), (24, .iconst 3, 1), (25, .ireturn, 1), (26, .iconst 0, 1), (27, .ireturn, 1)]
theorem kL_write_ok : ∀ q ∈ kL_write, decode cL_write q.1 = .ok q.2 := by decide +kernel
def kL_pour : List (Nat × Instr × Nat) := [(0, .aload_n 2, 1), (1, .iconst 0, 1), (2, .aload_n 0, 1), (3, .iload_n 1, 1), (4, .invokevirtual 115, 3), (7, .i2l, 1), (8, .lastore, 1), (9, .goto 9, 3), (12, .astore_n 3, 1), (13, .iconst 1, 1), (14, .ireturn, 1), (15, .astore_n 3, 1), (16, .iconst 2, 1), (17, .ireturn, 1), (18, .iconst 0, 1), (19, .ireturn, 1)]
theorem kL_pour_ok : ∀ q ∈ kL_pour, decode cL_pour q.1 = .ok q.2 := by decide +kernel
def kL_image : List (Nat × Instr × Nat) := [(0, .aload_n 0, 1), (1, .iload_n 1, 1), (2, .invokevirtual 118, 3), (5, .goto 6, 3), (8, .astore_n 2, 1), (9, .iconst 1, 1), (10, .ireturn, 1), (11, .iconst 0, 1), (12, .ireturn, 1)]
theorem kL_image_ok : ∀ q ∈ kL_image, decode cL_image q.1 = .ok q.2 := by decide +kernel
def kL_restore : List (Nat × Instr × Nat) := [(0, .aload_n 0, 1), (1, .iload_n 1, 1), (2, .invokevirtual 122, 3), (5, .goto 9, 3), (8, .astore_n 2, 1), (9, .iconst 1, 1), (10, .ireturn, 1), (11, .astore_n 2, 1), (12, .iconst 2, 1), (13, .ireturn, 1), (14, .iconst 0, 1), (15, .ireturn, 1)]
theorem kL_restore_ok : ∀ q ∈ kL_restore, decode cL_restore q.1 = .ok q.2 := by decide +kernel
def kX0_init : List (Nat × Instr × Nat) := [(0, .aload_n 0, 1), (1, .invokespecial 1, 3), (4, .aload_n 0, 1), (5, .iload_n 1, 1), (6, .putfield 7, 3), (9, .return_, 1)]
theorem kX0_init_ok : ∀ q ∈ kX0_init, decode cX0_init q.1 = .ok q.2 := by decide +kernel
def kX1_init : List (Nat × Instr × Nat) := [(0, .aload_n 0, 1), (1, .invokespecial 3, 3), (4, .aload_n 0, 1), (5, .bipush 10, 2), (7, .newarray .int, 2), (9, .putfield 9, 3), (12, .aload_n 0, 1), (13, .bipush 10, 2), (15, .newarray .int, 2), (17, .putfield 15, 3), (20, .aload_n 0, 1), (21, .bipush 60, 2), (23, .newarray .int, 2), (25, .putfield 18, 3), (28, .aload_n 0, 1), (29, .bipush 6, 2), (31, .newarray .int, 2), (33, .putfield 21, 3), (36, .aload_n 0, 1), (37, .bipush 60, 2), (39, .newarray .int, 2), (41, .putfield 24, 3), (44, .aload_n 0, 1), (45, .bipush 60, 2), (47, .newarray .int, 2), (49, .putfield 27, 3), (52, .aload_n 0, 1), (53, .sipush 6144, 3), (56, .newarray .int, 2), (58, .putfield 30, 3), (61, .aload_n 0, 1), (62, .sipush 1024, 3), (65, .newarray .int, 2), (67, .putfield 33, 3), (70, .aload_n 0, 1), (71, .sipush 1024, 3), (74, .newarray .long, 2), (76, .putfield 36, 3), (79, .aload_n 0, 1), (80, .bipush 12, 2), (82, .newarray .int, 2), (84, .putfield 40, 3), (87, .return_, 1)]
theorem kX1_init_ok : ∀ q ∈ kX1_init, decode cX1_init q.1 = .ok q.2 := by decide +kernel
def kX2_init : List (Nat × Instr × Nat) := [(0, .aload_n 0, 1), (1, .invokespecial 3, 3), (4, .aload_n 0, 1), (5, .iconst (-1), 1), (6, .putfield 9, 3), (9, .aload_n 0, 1), (10, .sipush 900, 3), (13, .newarray .byte, 2), (15, .putfield 15, 3), (18, .return_, 1)]
theorem kX2_init_ok : ∀ q ∈ kX2_init, decode cX2_init q.1 = .ok q.2 := by decide +kernel
def kX3_init : List (Nat × Instr × Nat) := [(0, .aload_n 0, 1), (1, .invokespecial 3, 3), (4, .aload_n 0, 1), (5, .bipush 50, 2), (7, .putfield 9, 3), (10, .aload_n 0, 1), (11, .sipush 720, 3), (14, .putfield 15, 3), (17, .aload_n 0, 1), (18, .bipush 6, 2), (20, .newarray .int, 2), (22, .putfield 18, 3), (25, .aload_n 0, 1), (26, .bipush 10, 2), (28, .newarray .int, 2), (30, .putfield 22, 3), (33, .aload_n 0, 1), (34, .bipush 60, 2), (36, .newarray .int, 2), (38, .putfield 25, 3), (41, .aload_n 0, 1), (42, .bipush 30, 2), (44, .newarray .int, 2), (46, .putfield 28, 3), (49, .aload_n 0, 1), (50, .bipush 30, 2), (52, .newarray .int, 2), (54, .putfield 31, 3), (57, .aload_n 0, 1), (58, .bipush 30, 2), (60, .newarray .int, 2), (62, .putfield 34, 3), (65, .aload_n 0, 1), (66, .bipush 30, 2), (68, .newarray .int, 2), (70, .putfield 37, 3), (73, .aload_n 0, 1), (74, .bipush 30, 2), (76, .newarray .int, 2), (78, .putfield 40, 3), (81, .return_, 1)]
theorem kX3_init_ok : ∀ q ∈ kX3_init, decode cX3_init q.1 = .ok q.2 := by decide +kernel
def kX4_init : List (Nat × Instr × Nat) := [(0, .aload_n 0, 1), (1, .invokespecial 3, 3), (4, .aload_n 0, 1), (5, .iconst 1, 1), (6, .putfield 9, 3), (9, .aload_n 0, 1), (10, .bipush 40, 2), (12, .newarray .long, 2), (14, .putfield 15, 3), (17, .return_, 1)]
theorem kX4_init_ok : ∀ q ∈ kX4_init, decode cX4_init q.1 = .ok q.2 := by decide +kernel
def kX5_init : List (Nat × Instr × Nat) := [(0, .aload_n 0, 1), (1, .invokespecial 1, 3), (4, .aload_n 0, 1), (5, .new 7, 3), (8, .dup, 1), (9, .invokespecial 9, 3), (12, .putfield 10, 3), (15, .aload_n 0, 1), (16, .new 7, 3), (19, .dup, 1), (20, .invokespecial 9, 3), (23, .putfield 16, 3), (26, .aload_n 0, 1), (27, .iconst 3, 1), (28, .anewarray 7, 3), (31, .putfield 19, 3), (34, .aload_n 0, 1), (35, .iconst 3, 1), (36, .newarray .boolean, 2), (38, .putfield 23, 3), (41, .aload_n 0, 1), (42, .iconst 4, 1), (43, .anewarray 27, 3), (46, .putfield 29, 3), (49, .aload_n 0, 1), (50, .new 33, 3), (53, .dup, 1), (54, .invokespecial 35, 3), (57, .putfield 36, 3), (60, .aload_n 0, 1), (61, .new 40, 3), (64, .dup, 1), (65, .invokespecial 42, 3), (68, .putfield 43, 3), (71, .iconst 0, 1), (72, .istore_n 1, 1), (73, .iload_n 1, 1), (74, .iconst 3, 1), (75, .if_icmp .ge 22, 3), (78, .aload_n 0, 1), (79, .getfield 19, 3), (82, .iload_n 1, 1), (83, .new 7, 3), (86, .dup, 1), (87, .invokespecial 9, 3), (90, .aastore, 1), (91, .iinc 1 1, 3), (94, .goto (-21), 3), (97, .iconst 0, 1), (98, .istore_n 1, 1), (99, .iload_n 1, 1), (100, .iconst 4, 1), (101, .if_icmp .ge 22, 3), (104, .aload_n 0, 1), (105, .getfield 29, 3), (108, .iload_n 1, 1), (109, .new 27, 3), (112, .dup, 1), (113, .invokespecial 47, 3), (116, .aastore, 1), (117, .iinc 1 1, 3), (120, .goto (-21), 3), (123, .return_, 1)]
theorem kX5_init_ok : ∀ q ∈ kX5_init, decode cX5_init q.1 = .ok q.2 := by decide +kernel
def kX6_init : List (Nat × Instr × Nat) := [(0, .aload_n 0, 1), (1, .invokespecial 1, 3), (4, .aload_n 0, 1), (5, .sipush 264, 3), (8, .newarray .int, 2), (10, .putfield 9, 3), (13, .aload_n 0, 1), (14, .sipush 264, 3), (17, .newarray .int, 2), (19, .putfield 13, 3), (22, .aload_n 0, 1), (23, .sipush 264, 3), (26, .newarray .int, 2), (28, .putfield 16, 3), (31, .aload_n 0, 1), (32, .sipush 792, 3), (35, .newarray .int, 2), (37, .putfield 19, 3), (40, .aload_n 0, 1), (41, .iconst 3, 1), (42, .newarray .boolean, 2), (44, .putfield 22, 3), (47, .aload_n 0, 1), (48, .sipush 900, 3), (51, .newarray .int, 2), (53, .putfield 26, 3), (56, .aload_n 0, 1), (57, .iconst (-1), 1), (58, .putfield 29, 3), (61, .aload_n 0, 1), (62, .sipush 264, 3), (65, .newarray .int, 2), (67, .putfield 33, 3), (70, .aload_n 0, 1), (71, .bipush 10, 2), (73, .newarray .int, 2), (75, .putfield 36, 3), (78, .aload_n 0, 1), (79, .ldc 39, 2), (81, .newarray .int, 2), (83, .putfield 40, 3), (86, .aload_n 0, 1), (87, .sipush 12288, 3), (90, .newarray .int, 2), (92, .putfield 43, 3), (95, .aload_n 0, 1), (96, .bipush 6, 2), (98, .newarray .int, 2), (100, .putfield 46, 3), (103, .aload_n 0, 1), (104, .iconst 4, 1), (105, .newarray .int, 2), (107, .dup, 1), (108, .iconst 0, 1), (109, .iconst (-1), 1), (110, .iastore, 1), (111, .dup, 1), (112, .iconst 1, 1), (113, .iconst (-1), 1), (114, .iastore, 1), (115, .dup, 1), (116, .iconst 2, 1), (117, .iconst (-1), 1), (118, .iastore, 1), (119, .dup, 1), (120, .iconst 3, 1), (121, .iconst (-1), 1), (122, .iastore, 1), (123, .putfield 49, 3), (126, .aload_n 0, 1), (127, .iconst 4, 1), (128, .newarray .int, 2), (130, .putfield 52, 3), (133, .aload_n 0, 1), (134, .sipush 160, 3), (137, .newarray .long, 2), (139, .putfield 55, 3), (142, .aload_n 0, 1), (143, .getfield 9, 3), (146, .invokestatic 59, 3), (149, .return_, 1)]
theorem kX6_init_ok : ∀ q ∈ kX6_init, decode cX6_init q.1 = .ok q.2 := by decide +kernel
def kX5_day : List (Nat × Instr × Nat) := [(0, .iload_n 2, 1), (1, .iconst 1, 1), (2, .if_icmp .lt 9, 3), (5, .iload_n 2, 1), (6, .bipush 40, 2), (8, .if_icmp .le 11, 3), (11, .new 56, 3), (14, .dup, 1), (15, .invokespecial 58, 3), (18, .athrow, 1), (19, .aload_n 0, 1), (20, .getfield 10, 3), (23, .getfield 202, 3), (26, .ifCond .ne 7, 3), (29, .iconst 0, 1), (30, .goto 19, 3), (33, .new 205, 3), (36, .dup, 1), (37, .iload_n 1, 1), (38, .invokespecial 207, 3), (41, .aload_n 0, 1), (42, .getfield 10, 3), (45, .iload_n 2, 1), (46, .invokevirtual 209, 3), (49, .ireturn, 1)]
theorem kX5_day_ok : ∀ q ∈ kX5_day, decode cX5_day q.1 = .ok q.2 := by decide +kernel
