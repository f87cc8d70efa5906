/-! ===== the law's cases ===== -/
theorem KL_23 : CallOk RL 23 yX6_shape cX6_shape 4 (some .int) 2 ∧ Cond.instanceMethod yX6_shape ∈ UU ∧ Cond.selects (yX6_shape).cls yX6_shape yX6_shape ∈ UU := ⟨⟨⟨uu_t 182 (by decide +kernel) rfl, uu_t 1 (by decide +kernel) rfl, uu_t 185 (by decide +kernel) rfl⟩, by decide +kernel, by decide +kernel, by decide +kernel⟩, uu_t 183 (by decide +kernel) rfl, uu_t 184 (by decide +kernel) rfl⟩
theorem KL_27 : CallOk RL 27 yX7_shape cX7_shape 5 (some .int) 2 ∧ Cond.instanceMethod yX7_shape ∈ UU ∧ Cond.selects (yX7_shape).cls yX7_shape yX7_shape ∈ UU := ⟨⟨⟨uu_t 836 (by decide +kernel) rfl, uu_t 8 (by decide +kernel) rfl, uu_t 839 (by decide +kernel) rfl⟩, by decide +kernel, by decide +kernel, by decide +kernel⟩, uu_t 837 (by decide +kernel) rfl, uu_t 838 (by decide +kernel) rfl⟩
theorem KL_28 : CallOk RL 28 yX6_load cX6_load 3 (some .int) 1 ∧ Cond.instanceMethod yX6_load ∈ UU ∧ Cond.selects (yX6_load).cls yX6_load yX6_load ∈ UU := ⟨⟨⟨uu_t 190 (by decide +kernel) rfl, uu_t 1 (by decide +kernel) rfl, uu_t 193 (by decide +kernel) rfl⟩, by decide +kernel, by decide +kernel, by decide +kernel⟩, uu_t 191 (by decide +kernel) rfl, uu_t 192 (by decide +kernel) rfl⟩
theorem KL_32 : CallOk RL 32 yX7_load cX7_load 3 (some .int) 1 ∧ Cond.instanceMethod yX7_load ∈ UU ∧ Cond.selects (yX7_load).cls yX7_load yX7_load ∈ UU := ⟨⟨⟨uu_t 842 (by decide +kernel) rfl, uu_t 8 (by decide +kernel) rfl, uu_t 845 (by decide +kernel) rfl⟩, by decide +kernel, by decide +kernel, by decide +kernel⟩, uu_t 843 (by decide +kernel) rfl, uu_t 844 (by decide +kernel) rfl⟩
theorem KL_33 : CallOk RL 33 yX6_print cX6_print 6 (some .int) 2 ∧ Cond.instanceMethod yX6_print ∈ UU ∧ Cond.selects (yX6_print).cls yX6_print yX6_print ∈ UU := ⟨⟨⟨uu_t 194 (by decide +kernel) rfl, uu_t 1 (by decide +kernel) rfl, uu_t 197 (by decide +kernel) rfl⟩, by decide +kernel, by decide +kernel, by decide +kernel⟩, uu_t 195 (by decide +kernel) rfl, uu_t 196 (by decide +kernel) rfl⟩
theorem KL_36 : CallOk RL 36 yX7_print cX7_print 4 (some .int) 2 ∧ Cond.instanceMethod yX7_print ∈ UU ∧ Cond.selects (yX7_print).cls yX7_print yX7_print ∈ UU := ⟨⟨⟨uu_t 848 (by decide +kernel) rfl, uu_t 8 (by decide +kernel) rfl, uu_t 851 (by decide +kernel) rfl⟩, by decide +kernel, by decide +kernel, by decide +kernel⟩, uu_t 849 (by decide +kernel) rfl, uu_t 850 (by decide +kernel) rfl⟩
theorem KL_37 : CallOk RL 37 yX6_puts cX6_puts 5 (some .int) 2 ∧ Cond.instanceMethod yX6_puts ∈ UU ∧ Cond.selects (yX6_puts).cls yX6_puts yX6_puts ∈ UU := ⟨⟨⟨uu_t 226 (by decide +kernel) rfl, uu_t 1 (by decide +kernel) rfl, uu_t 229 (by decide +kernel) rfl⟩, by decide +kernel, by decide +kernel, by decide +kernel⟩, uu_t 227 (by decide +kernel) rfl, uu_t 228 (by decide +kernel) rfl⟩
theorem KL_40 : CallOk RL 40 yX7_puts cX7_puts 4 (some .int) 2 ∧ Cond.instanceMethod yX7_puts ∈ UU ∧ Cond.selects (yX7_puts).cls yX7_puts yX7_puts ∈ UU := ⟨⟨⟨uu_t 879 (by decide +kernel) rfl, uu_t 8 (by decide +kernel) rfl, uu_t 882 (by decide +kernel) rfl⟩, by decide +kernel, by decide +kernel, by decide +kernel⟩, uu_t 880 (by decide +kernel) rfl, uu_t 881 (by decide +kernel) rfl⟩
theorem KL_41 : CallOk RL 41 yX6_takes cX6_takes 5 (some .int) 2 ∧ Cond.instanceMethod yX6_takes ∈ UU ∧ Cond.selects (yX6_takes).cls yX6_takes yX6_takes ∈ UU := ⟨⟨⟨uu_t 288 (by decide +kernel) rfl, uu_t 1 (by decide +kernel) rfl, uu_t 291 (by decide +kernel) rfl⟩, by decide +kernel, by decide +kernel, by decide +kernel⟩, uu_t 289 (by decide +kernel) rfl, uu_t 290 (by decide +kernel) rfl⟩
theorem KL_44 : CallOk RL 44 yX7_takes cX7_takes 3 (some .int) 2 ∧ Cond.instanceMethod yX7_takes ∈ UU ∧ Cond.selects (yX7_takes).cls yX7_takes yX7_takes ∈ UU := ⟨⟨⟨uu_t 916 (by decide +kernel) rfl, uu_t 8 (by decide +kernel) rfl, uu_t 919 (by decide +kernel) rfl⟩, by decide +kernel, by decide +kernel, by decide +kernel⟩, uu_t 917 (by decide +kernel) rfl, uu_t 918 (by decide +kernel) rfl⟩
theorem KL_45 : CallOk RL 45 yX6_has cX6_has 5 (some .int) 2 ∧ Cond.instanceMethod yX6_has ∈ UU ∧ Cond.selects (yX6_has).cls yX6_has yX6_has ∈ UU := ⟨⟨⟨uu_t 306 (by decide +kernel) rfl, uu_t 1 (by decide +kernel) rfl, uu_t 309 (by decide +kernel) rfl⟩, by decide +kernel, by decide +kernel, by decide +kernel⟩, uu_t 307 (by decide +kernel) rfl, uu_t 308 (by decide +kernel) rfl⟩
theorem KL_48 : CallOk RL 48 yX7_has cX7_has 3 (some .int) 2 ∧ Cond.instanceMethod yX7_has ∈ UU ∧ Cond.selects (yX7_has).cls yX7_has yX7_has ∈ UU := ⟨⟨⟨uu_t 931 (by decide +kernel) rfl, uu_t 8 (by decide +kernel) rfl, uu_t 934 (by decide +kernel) rfl⟩, by decide +kernel, by decide +kernel, by decide +kernel⟩, uu_t 932 (by decide +kernel) rfl, uu_t 933 (by decide +kernel) rfl⟩
theorem KL_49 : CallOk RL 49 yX6_twin cX6_twin 4 (some .int) 1 ∧ Cond.instanceMethod yX6_twin ∈ UU ∧ Cond.selects (yX6_twin).cls yX6_twin yX6_twin ∈ UU := ⟨⟨⟨uu_t 315 (by decide +kernel) rfl, uu_t 1 (by decide +kernel) rfl, uu_t 318 (by decide +kernel) rfl⟩, by decide +kernel, by decide +kernel, by decide +kernel⟩, uu_t 316 (by decide +kernel) rfl, uu_t 317 (by decide +kernel) rfl⟩
theorem KL_52 : CallOk RL 52 yX7_twin cX7_twin 3 (some .int) 1 ∧ Cond.instanceMethod yX7_twin ∈ UU ∧ Cond.selects (yX7_twin).cls yX7_twin yX7_twin ∈ UU := ⟨⟨⟨uu_t 939 (by decide +kernel) rfl, uu_t 8 (by decide +kernel) rfl, uu_t 942 (by decide +kernel) rfl⟩, by decide +kernel, by decide +kernel, by decide +kernel⟩, uu_t 940 (by decide +kernel) rfl, uu_t 941 (by decide +kernel) rfl⟩
theorem KL_53 : CallOk RL 53 yX6_keys cX6_keys 5 (some .int) 1 ∧ Cond.instanceMethod yX6_keys ∈ UU ∧ Cond.selects (yX6_keys).cls yX6_keys yX6_keys ∈ UU := ⟨⟨⟨uu_t 319 (by decide +kernel) rfl, uu_t 1 (by decide +kernel) rfl, uu_t 322 (by decide +kernel) rfl⟩, by decide +kernel, by decide +kernel, by decide +kernel⟩, uu_t 320 (by decide +kernel) rfl, uu_t 321 (by decide +kernel) rfl⟩
theorem KL_56 : CallOk RL 56 yX7_keys cX7_keys 5 (some .int) 1 ∧ Cond.instanceMethod yX7_keys ∈ UU ∧ Cond.selects (yX7_keys).cls yX7_keys yX7_keys ∈ UU := ⟨⟨⟨uu_t 1024 (by decide +kernel) rfl, uu_t 8 (by decide +kernel) rfl, uu_t 1027 (by decide +kernel) rfl⟩, by decide +kernel, by decide +kernel, by decide +kernel⟩, uu_t 1025 (by decide +kernel) rfl, uu_t 1026 (by decide +kernel) rfl⟩
theorem KL_57 : CallOk RL 57 yX6_wrongs cX6_wrongs 7 (some .int) 1 ∧ Cond.instanceMethod yX6_wrongs ∈ UU ∧ Cond.selects (yX6_wrongs).cls yX6_wrongs yX6_wrongs ∈ UU := ⟨⟨⟨uu_t 351 (by decide +kernel) rfl, uu_t 1 (by decide +kernel) rfl, uu_t 354 (by decide +kernel) rfl⟩, by decide +kernel, by decide +kernel, by decide +kernel⟩, uu_t 352 (by decide +kernel) rfl, uu_t 353 (by decide +kernel) rfl⟩
theorem KL_60 : CallOk RL 60 yX7_wrongs cX7_wrongs 9 (some .int) 1 ∧ Cond.instanceMethod yX7_wrongs ∈ UU ∧ Cond.selects (yX7_wrongs).cls yX7_wrongs yX7_wrongs ∈ UU := ⟨⟨⟨uu_t 943 (by decide +kernel) rfl, uu_t 8 (by decide +kernel) rfl, uu_t 946 (by decide +kernel) rfl⟩, by decide +kernel, by decide +kernel, by decide +kernel⟩, uu_t 944 (by decide +kernel) rfl, uu_t 945 (by decide +kernel) rfl⟩
theorem KL_61 : CallOk RL 61 yX6_slot cX6_slot 5 (some .int) 2 ∧ Cond.instanceMethod yX6_slot ∈ UU ∧ Cond.selects (yX6_slot).cls yX6_slot yX6_slot ∈ UU := ⟨⟨⟨uu_t 365 (by decide +kernel) rfl, uu_t 1 (by decide +kernel) rfl, uu_t 368 (by decide +kernel) rfl⟩, by decide +kernel, by decide +kernel, by decide +kernel⟩, uu_t 366 (by decide +kernel) rfl, uu_t 367 (by decide +kernel) rfl⟩
theorem KL_64 : CallOk RL 64 yX7_slot cX7_slot 4 (some .int) 2 ∧ Cond.instanceMethod yX7_slot ∈ UU ∧ Cond.selects (yX7_slot).cls yX7_slot yX7_slot ∈ UU := ⟨⟨⟨uu_t 1028 (by decide +kernel) rfl, uu_t 8 (by decide +kernel) rfl, uu_t 1031 (by decide +kernel) rfl⟩, by decide +kernel, by decide +kernel, by decide +kernel⟩, uu_t 1029 (by decide +kernel) rfl, uu_t 1030 (by decide +kernel) rfl⟩
theorem KL_70 : CallOk RL 70 yX7_word cX7_word 3 (some .long) 2 ∧ Cond.instanceMethod yX7_word ∈ UU ∧ Cond.selects (yX7_word).cls yX7_word yX7_word ∈ UU := ⟨⟨⟨uu_t 1036 (by decide +kernel) rfl, uu_t 8 (by decide +kernel) rfl, uu_t 1039 (by decide +kernel) rfl⟩, by decide +kernel, by decide +kernel, by decide +kernel⟩, uu_t 1037 (by decide +kernel) rfl, uu_t 1038 (by decide +kernel) rfl⟩
theorem KL_71 : CallOk RL 71 yX7_thrown cX7_thrown 1 (some .int) 0 ∧ Cond.instanceMethod yX7_thrown ∈ UU ∧ Cond.selects (yX7_thrown).cls yX7_thrown yX7_thrown ∈ UU := ⟨⟨⟨uu_t 732 (by decide +kernel) rfl, uu_t 8 (by decide +kernel) rfl, uu_t 735 (by decide +kernel) rfl⟩, by decide +kernel, by decide +kernel, by decide +kernel⟩, uu_t 733 (by decide +kernel) rfl, uu_t 734 (by decide +kernel) rfl⟩
theorem KL_75 : CallOk RL 75 yX6_lays cX6_lays 4 (some .int) 1 ∧ Cond.instanceMethod yX6_lays ∈ UU ∧ Cond.selects (yX6_lays).cls yX6_lays yX6_lays ∈ UU := ⟨⟨⟨uu_t 385 (by decide +kernel) rfl, uu_t 1 (by decide +kernel) rfl, uu_t 388 (by decide +kernel) rfl⟩, by decide +kernel, by decide +kernel, by decide +kernel⟩, uu_t 386 (by decide +kernel) rfl, uu_t 387 (by decide +kernel) rfl⟩
theorem KL_78 : CallOk RL 78 yX7_lays cX7_lays 2 (some .int) 1 ∧ Cond.instanceMethod yX7_lays ∈ UU ∧ Cond.selects (yX7_lays).cls yX7_lays yX7_lays ∈ UU := ⟨⟨⟨uu_t 1081 (by decide +kernel) rfl, uu_t 8 (by decide +kernel) rfl, uu_t 1084 (by decide +kernel) rfl⟩, by decide +kernel, by decide +kernel, by decide +kernel⟩, uu_t 1082 (by decide +kernel) rfl, uu_t 1083 (by decide +kernel) rfl⟩
theorem KL_79 : CallOk RL 79 yX6_sets cX6_sets 8 (some .int) 4 ∧ Cond.instanceMethod yX6_sets ∈ UU ∧ Cond.selects (yX6_sets).cls yX6_sets yX6_sets ∈ UU := ⟨⟨⟨uu_t 439 (by decide +kernel) rfl, uu_t 1 (by decide +kernel) rfl, uu_t 442 (by decide +kernel) rfl⟩, by decide +kernel, by decide +kernel, by decide +kernel⟩, uu_t 440 (by decide +kernel) rfl, uu_t 441 (by decide +kernel) rfl⟩
theorem KL_83 : CallOk RL 83 yX7_sets cX7_sets 8 (some .int) 4 ∧ Cond.instanceMethod yX7_sets ∈ UU ∧ Cond.selects (yX7_sets).cls yX7_sets yX7_sets ∈ UU := ⟨⟨⟨uu_t 1052 (by decide +kernel) rfl, uu_t 8 (by decide +kernel) rfl, uu_t 1055 (by decide +kernel) rfl⟩, by decide +kernel, by decide +kernel, by decide +kernel⟩, uu_t 1053 (by decide +kernel) rfl, uu_t 1054 (by decide +kernel) rfl⟩
theorem KL_84 : CallOk RL 84 yX6_run cX6_run 8 (some .int) 2 ∧ Cond.instanceMethod yX6_run ∈ UU ∧ Cond.selects (yX6_run).cls yX6_run yX6_run ∈ UU := ⟨⟨⟨uu_t 464 (by decide +kernel) rfl, uu_t 1 (by decide +kernel) rfl, uu_t 467 (by decide +kernel) rfl⟩, by decide +kernel, by decide +kernel, by decide +kernel⟩, uu_t 465 (by decide +kernel) rfl, uu_t 466 (by decide +kernel) rfl⟩
theorem KL_87 : CallOk RL 87 yX7_run cX7_run 5 (some .int) 2 ∧ Cond.instanceMethod yX7_run ∈ UU ∧ Cond.selects (yX7_run).cls yX7_run yX7_run ∈ UU := ⟨⟨⟨uu_t 1096 (by decide +kernel) rfl, uu_t 8 (by decide +kernel) rfl, uu_t 1099 (by decide +kernel) rfl⟩, by decide +kernel, by decide +kernel, by decide +kernel⟩, uu_t 1097 (by decide +kernel) rfl, uu_t 1098 (by decide +kernel) rfl⟩
theorem KL_88 : CallOk RL 88 yX6_cluster cX6_cluster 6 (some .int) 2 ∧ Cond.instanceMethod yX6_cluster ∈ UU ∧ Cond.selects (yX6_cluster).cls yX6_cluster yX6_cluster ∈ UU := ⟨⟨⟨uu_t 468 (by decide +kernel) rfl, uu_t 1 (by decide +kernel) rfl, uu_t 471 (by decide +kernel) rfl⟩, by decide +kernel, by decide +kernel, by decide +kernel⟩, uu_t 469 (by decide +kernel) rfl, uu_t 470 (by decide +kernel) rfl⟩
theorem KL_91 : CallOk RL 91 yX7_cluster cX7_cluster 8 (some .int) 2 ∧ Cond.instanceMethod yX7_cluster ∈ UU ∧ Cond.selects (yX7_cluster).cls yX7_cluster yX7_cluster ∈ UU := ⟨⟨⟨uu_t 1100 (by decide +kernel) rfl, uu_t 8 (by decide +kernel) rfl, uu_t 1103 (by decide +kernel) rfl⟩, by decide +kernel, by decide +kernel, by decide +kernel⟩, uu_t 1101 (by decide +kernel) rfl, uu_t 1102 (by decide +kernel) rfl⟩
theorem KL_92 : CallOk RL 92 yX6_clusters cX6_clusters 8 (some .int) 1 ∧ Cond.instanceMethod yX6_clusters ∈ UU ∧ Cond.selects (yX6_clusters).cls yX6_clusters yX6_clusters ∈ UU := ⟨⟨⟨uu_t 489 (by decide +kernel) rfl, uu_t 1 (by decide +kernel) rfl, uu_t 492 (by decide +kernel) rfl⟩, by decide +kernel, by decide +kernel, by decide +kernel⟩, uu_t 490 (by decide +kernel) rfl, uu_t 491 (by decide +kernel) rfl⟩
theorem KL_95 : CallOk RL 95 yX7_clusters cX7_clusters 7 (some .int) 1 ∧ Cond.instanceMethod yX7_clusters ∈ UU ∧ Cond.selects (yX7_clusters).cls yX7_clusters yX7_clusters ∈ UU := ⟨⟨⟨uu_t 1116 (by decide +kernel) rfl, uu_t 8 (by decide +kernel) rfl, uu_t 1119 (by decide +kernel) rfl⟩, by decide +kernel, by decide +kernel, by decide +kernel⟩, uu_t 1117 (by decide +kernel) rfl, uu_t 1118 (by decide +kernel) rfl⟩
theorem KL_96 : CallOk RL 96 yX6_would cX6_would 8 (some .int) 2 ∧ Cond.instanceMethod yX6_would ∈ UU ∧ Cond.selects (yX6_would).cls yX6_would yX6_would ∈ UU := ⟨⟨⟨uu_t 499 (by decide +kernel) rfl, uu_t 1 (by decide +kernel) rfl, uu_t 502 (by decide +kernel) rfl⟩, by decide +kernel, by decide +kernel, by decide +kernel⟩, uu_t 500 (by decide +kernel) rfl, uu_t 501 (by decide +kernel) rfl⟩
theorem KL_99 : CallOk RL 99 yX7_would cX7_would 9 (some .int) 2 ∧ Cond.instanceMethod yX7_would ∈ UU ∧ Cond.selects (yX7_would).cls yX7_would yX7_would ∈ UU := ⟨⟨⟨uu_t 1120 (by decide +kernel) rfl, uu_t 8 (by decide +kernel) rfl, uu_t 1123 (by decide +kernel) rfl⟩, by decide +kernel, by decide +kernel, by decide +kernel⟩, uu_t 1121 (by decide +kernel) rfl, uu_t 1122 (by decide +kernel) rfl⟩
theorem KL_100 : CallOk RL 100 yX6_looks cX6_looks 7 (some .int) 1 ∧ Cond.instanceMethod yX6_looks ∈ UU ∧ Cond.selects (yX6_looks).cls yX6_looks yX6_looks ∈ UU := ⟨⟨⟨uu_t 503 (by decide +kernel) rfl, uu_t 1 (by decide +kernel) rfl, uu_t 506 (by decide +kernel) rfl⟩, by decide +kernel, by decide +kernel, by decide +kernel⟩, uu_t 504 (by decide +kernel) rfl, uu_t 505 (by decide +kernel) rfl⟩
theorem KL_103 : CallOk RL 103 yX7_looks cX7_looks 6 (some .int) 1 ∧ Cond.instanceMethod yX7_looks ∈ UU ∧ Cond.selects (yX7_looks).cls yX7_looks yX7_looks ∈ UU := ⟨⟨⟨uu_t 1124 (by decide +kernel) rfl, uu_t 8 (by decide +kernel) rfl, uu_t 1127 (by decide +kernel) rfl⟩, by decide +kernel, by decide +kernel, by decide +kernel⟩, uu_t 1125 (by decide +kernel) rfl, uu_t 1126 (by decide +kernel) rfl⟩
theorem KL_104 : CallOk RL 104 yX6_nth cX6_nth 4 (some .int) 2 ∧ Cond.instanceMethod yX6_nth ∈ UU ∧ Cond.selects (yX6_nth).cls yX6_nth yX6_nth ∈ UU := ⟨⟨⟨uu_t 524 (by decide +kernel) rfl, uu_t 1 (by decide +kernel) rfl, uu_t 527 (by decide +kernel) rfl⟩, by decide +kernel, by decide +kernel, by decide +kernel⟩, uu_t 525 (by decide +kernel) rfl, uu_t 526 (by decide +kernel) rfl⟩
theorem KL_107 : CallOk RL 107 yX7_nth cX7_nth 3 (some .int) 2 ∧ Cond.instanceMethod yX7_nth ∈ UU ∧ Cond.selects (yX7_nth).cls yX7_nth yX7_nth ∈ UU := ⟨⟨⟨uu_t 1152 (by decide +kernel) rfl, uu_t 8 (by decide +kernel) rfl, uu_t 1155 (by decide +kernel) rfl⟩, by decide +kernel, by decide +kernel, by decide +kernel⟩, uu_t 1153 (by decide +kernel) rfl, uu_t 1154 (by decide +kernel) rfl⟩
theorem KL_108 : CallOk RL 108 yX6_best cX6_best 8 (some .int) 1 ∧ Cond.instanceMethod yX6_best ∈ UU ∧ Cond.selects (yX6_best).cls yX6_best yX6_best ∈ UU := ⟨⟨⟨uu_t 528 (by decide +kernel) rfl, uu_t 1 (by decide +kernel) rfl, uu_t 531 (by decide +kernel) rfl⟩, by decide +kernel, by decide +kernel, by decide +kernel⟩, uu_t 529 (by decide +kernel) rfl, uu_t 530 (by decide +kernel) rfl⟩
theorem KL_111 : CallOk RL 111 yX7_best cX7_best 8 (some .int) 1 ∧ Cond.instanceMethod yX7_best ∈ UU ∧ Cond.selects (yX7_best).cls yX7_best yX7_best ∈ UU := ⟨⟨⟨uu_t 1136 (by decide +kernel) rfl, uu_t 8 (by decide +kernel) rfl, uu_t 1139 (by decide +kernel) rfl⟩, by decide +kernel, by decide +kernel, by decide +kernel⟩, uu_t 1137 (by decide +kernel) rfl, uu_t 1138 (by decide +kernel) rfl⟩
theorem KL_112 : CallOk RL 112 yX6_span cX6_span 12 (some .int) 3 ∧ Cond.instanceMethod yX6_span ∈ UU ∧ Cond.selects (yX6_span).cls yX6_span yX6_span ∈ UU := ⟨⟨⟨uu_t 532 (by decide +kernel) rfl, uu_t 1 (by decide +kernel) rfl, uu_t 535 (by decide +kernel) rfl⟩, by decide +kernel, by decide +kernel, by decide +kernel⟩, uu_t 533 (by decide +kernel) rfl, uu_t 534 (by decide +kernel) rfl⟩
theorem KL_116 : CallOk RL 116 yX7_span cX7_span 9 (some .int) 3 ∧ Cond.instanceMethod yX7_span ∈ UU ∧ Cond.selects (yX7_span).cls yX7_span yX7_span ∈ UU := ⟨⟨⟨uu_t 1140 (by decide +kernel) rfl, uu_t 8 (by decide +kernel) rfl, uu_t 1143 (by decide +kernel) rfl⟩, by decide +kernel, by decide +kernel, by decide +kernel⟩, uu_t 1141 (by decide +kernel) rfl, uu_t 1142 (by decide +kernel) rfl⟩
theorem KL_117 : CallOk RL 117 yX6_after cX6_after 6 (some .int) 2 ∧ Cond.instanceMethod yX6_after ∈ UU ∧ Cond.selects (yX6_after).cls yX6_after yX6_after ∈ UU := ⟨⟨⟨uu_t 540 (by decide +kernel) rfl, uu_t 1 (by decide +kernel) rfl, uu_t 543 (by decide +kernel) rfl⟩, by decide +kernel, by decide +kernel, by decide +kernel⟩, uu_t 541 (by decide +kernel) rfl, uu_t 542 (by decide +kernel) rfl⟩
theorem KL_120 : CallOk RL 120 yX7_after cX7_after 4 (some .int) 2 ∧ Cond.instanceMethod yX7_after ∈ UU ∧ Cond.selects (yX7_after).cls yX7_after yX7_after ∈ UU := ⟨⟨⟨uu_t 1144 (by decide +kernel) rfl, uu_t 8 (by decide +kernel) rfl, uu_t 1147 (by decide +kernel) rfl⟩, by decide +kernel, by decide +kernel, by decide +kernel⟩, uu_t 1145 (by decide +kernel) rfl, uu_t 1146 (by decide +kernel) rfl⟩
theorem KL_121 : CallOk RL 121 yX6_gaps cX6_gaps 7 (some .int) 1 ∧ Cond.instanceMethod yX6_gaps ∈ UU ∧ Cond.selects (yX6_gaps).cls yX6_gaps yX6_gaps ∈ UU := ⟨⟨⟨uu_t 544 (by decide +kernel) rfl, uu_t 1 (by decide +kernel) rfl, uu_t 547 (by decide +kernel) rfl⟩, by decide +kernel, by decide +kernel, by decide +kernel⟩, uu_t 545 (by decide +kernel) rfl, uu_t 546 (by decide +kernel) rfl⟩
theorem KL_124 : CallOk RL 124 yX7_gaps cX7_gaps 8 (some .int) 1 ∧ Cond.instanceMethod yX7_gaps ∈ UU ∧ Cond.selects (yX7_gaps).cls yX7_gaps yX7_gaps ∈ UU := ⟨⟨⟨uu_t 1148 (by decide +kernel) rfl, uu_t 8 (by decide +kernel) rfl, uu_t 1151 (by decide +kernel) rfl⟩, by decide +kernel, by decide +kernel, by decide +kernel⟩, uu_t 1149 (by decide +kernel) rfl, uu_t 1150 (by decide +kernel) rfl⟩
theorem KL_125 : CallOk RL 125 yX6_doubles cX6_doubles 3 (some .int) 1 ∧ Cond.instanceMethod yX6_doubles ∈ UU ∧ Cond.selects (yX6_doubles).cls yX6_doubles yX6_doubles ∈ UU := ⟨⟨⟨uu_t 552 (by decide +kernel) rfl, uu_t 1 (by decide +kernel) rfl, uu_t 555 (by decide +kernel) rfl⟩, by decide +kernel, by decide +kernel, by decide +kernel⟩, uu_t 553 (by decide +kernel) rfl, uu_t 554 (by decide +kernel) rfl⟩
theorem KL_128 : CallOk RL 128 yX7_doubles cX7_doubles 2 (some .int) 1 ∧ Cond.instanceMethod yX7_doubles ∈ UU ∧ Cond.selects (yX7_doubles).cls yX7_doubles yX7_doubles ∈ UU := ⟨⟨⟨uu_t 1156 (by decide +kernel) rfl, uu_t 8 (by decide +kernel) rfl, uu_t 1159 (by decide +kernel) rfl⟩, by decide +kernel, by decide +kernel, by decide +kernel⟩, uu_t 1157 (by decide +kernel) rfl, uu_t 1158 (by decide +kernel) rfl⟩
theorem KL_129 : CallOk RL 129 yX6_halves cX6_halves 3 (some .int) 1 ∧ Cond.instanceMethod yX6_halves ∈ UU ∧ Cond.selects (yX6_halves).cls yX6_halves yX6_halves ∈ UU := ⟨⟨⟨uu_t 556 (by decide +kernel) rfl, uu_t 1 (by decide +kernel) rfl, uu_t 559 (by decide +kernel) rfl⟩, by decide +kernel, by decide +kernel, by decide +kernel⟩, uu_t 557 (by decide +kernel) rfl, uu_t 558 (by decide +kernel) rfl⟩
theorem KL_132 : CallOk RL 132 yX7_halves cX7_halves 2 (some .int) 1 ∧ Cond.instanceMethod yX7_halves ∈ UU ∧ Cond.selects (yX7_halves).cls yX7_halves yX7_halves ∈ UU := ⟨⟨⟨uu_t 1160 (by decide +kernel) rfl, uu_t 8 (by decide +kernel) rfl, uu_t 1163 (by decide +kernel) rfl⟩, by decide +kernel, by decide +kernel, by decide +kernel⟩, uu_t 1161 (by decide +kernel) rfl, uu_t 1162 (by decide +kernel) rfl⟩
theorem KL_133 : CallOk RL 133 yX6_merges cX6_merges 2 (some .int) 0 ∧ Cond.instanceMethod yX6_merges ∈ UU ∧ Cond.selects (yX6_merges).cls yX6_merges yX6_merges ∈ UU := ⟨⟨⟨uu_t 560 (by decide +kernel) rfl, uu_t 1 (by decide +kernel) rfl, uu_t 563 (by decide +kernel) rfl⟩, by decide +kernel, by decide +kernel, by decide +kernel⟩, uu_t 561 (by decide +kernel) rfl, uu_t 562 (by decide +kernel) rfl⟩
theorem KL_136 : CallOk RL 136 yX7_merges cX7_merges 2 (some .int) 0 ∧ Cond.instanceMethod yX7_merges ∈ UU ∧ Cond.selects (yX7_merges).cls yX7_merges yX7_merges ∈ UU := ⟨⟨⟨uu_t 1164 (by decide +kernel) rfl, uu_t 8 (by decide +kernel) rfl, uu_t 1167 (by decide +kernel) rfl⟩, by decide +kernel, by decide +kernel, by decide +kernel⟩, uu_t 1165 (by decide +kernel) rfl, uu_t 1166 (by decide +kernel) rfl⟩
theorem KL_137 : CallOk RL 137 yX6_spills cX6_spills 3 (some .int) 1 ∧ Cond.instanceMethod yX6_spills ∈ UU ∧ Cond.selects (yX6_spills).cls yX6_spills yX6_spills ∈ UU := ⟨⟨⟨uu_t 580 (by decide +kernel) rfl, uu_t 1 (by decide +kernel) rfl, uu_t 583 (by decide +kernel) rfl⟩, by decide +kernel, by decide +kernel, by decide +kernel⟩, uu_t 581 (by decide +kernel) rfl, uu_t 582 (by decide +kernel) rfl⟩
theorem KL_140 : CallOk RL 140 yX7_spills cX7_spills 3 (some .int) 1 ∧ Cond.instanceMethod yX7_spills ∈ UU ∧ Cond.selects (yX7_spills).cls yX7_spills yX7_spills ∈ UU := ⟨⟨⟨uu_t 1177 (by decide +kernel) rfl, uu_t 8 (by decide +kernel) rfl, uu_t 1180 (by decide +kernel) rfl⟩, by decide +kernel, by decide +kernel, by decide +kernel⟩, uu_t 1178 (by decide +kernel) rfl, uu_t 1179 (by decide +kernel) rfl⟩
theorem KL_141 : CallOk RL 141 yX6_both cX6_both 5 (some .int) 1 ∧ Cond.instanceMethod yX6_both ∈ UU ∧ Cond.selects (yX6_both).cls yX6_both yX6_both ∈ UU := ⟨⟨⟨uu_t 584 (by decide +kernel) rfl, uu_t 1 (by decide +kernel) rfl, uu_t 587 (by decide +kernel) rfl⟩, by decide +kernel, by decide +kernel, by decide +kernel⟩, uu_t 585 (by decide +kernel) rfl, uu_t 586 (by decide +kernel) rfl⟩
theorem KL_144 : CallOk RL 144 yX7_both cX7_both 3 (some .int) 1 ∧ Cond.instanceMethod yX7_both ∈ UU ∧ Cond.selects (yX7_both).cls yX7_both yX7_both ∈ UU := ⟨⟨⟨uu_t 1181 (by decide +kernel) rfl, uu_t 8 (by decide +kernel) rfl, uu_t 1184 (by decide +kernel) rfl⟩, by decide +kernel, by decide +kernel, by decide +kernel⟩, uu_t 1182 (by decide +kernel) rfl, uu_t 1183 (by decide +kernel) rfl⟩
theorem KL_145 : CallOk RL 145 yX6_parts cX6_parts 5 (some .int) 1 ∧ Cond.instanceMethod yX6_parts ∈ UU ∧ Cond.selects (yX6_parts).cls yX6_parts yX6_parts ∈ UU := ⟨⟨⟨uu_t 588 (by decide +kernel) rfl, uu_t 1 (by decide +kernel) rfl, uu_t 591 (by decide +kernel) rfl⟩, by decide +kernel, by decide +kernel, by decide +kernel⟩, uu_t 589 (by decide +kernel) rfl, uu_t 590 (by decide +kernel) rfl⟩
theorem KL_148 : CallOk RL 148 yX7_parts cX7_parts 5 (some .int) 1 ∧ Cond.instanceMethod yX7_parts ∈ UU ∧ Cond.selects (yX7_parts).cls yX7_parts yX7_parts ∈ UU := ⟨⟨⟨uu_t 1193 (by decide +kernel) rfl, uu_t 8 (by decide +kernel) rfl, uu_t 1196 (by decide +kernel) rfl⟩, by decide +kernel, by decide +kernel, by decide +kernel⟩, uu_t 1194 (by decide +kernel) rfl, uu_t 1195 (by decide +kernel) rfl⟩
theorem KL_149 : CallOk RL 149 yX6_keeps cX6_keeps 3 (some .int) 1 ∧ Cond.instanceMethod yX6_keeps ∈ UU ∧ Cond.selects (yX6_keeps).cls yX6_keeps yX6_keeps ∈ UU := ⟨⟨⟨uu_t 592 (by decide +kernel) rfl, uu_t 1 (by decide +kernel) rfl, uu_t 595 (by decide +kernel) rfl⟩, by decide +kernel, by decide +kernel, by decide +kernel⟩, uu_t 593 (by decide +kernel) rfl, uu_t 594 (by decide +kernel) rfl⟩
theorem KL_153 : CallOk RL 153 yX7_keeps cX7_keeps 8 (some .int) 1 ∧ Cond.instanceMethod yX7_keeps ∈ UU ∧ Cond.selects (yX7_keeps).cls yX7_keeps yX7_keeps ∈ UU := ⟨⟨⟨uu_t 1185 (by decide +kernel) rfl, uu_t 8 (by decide +kernel) rfl, uu_t 1188 (by decide +kernel) rfl⟩, by decide +kernel, by decide +kernel, by decide +kernel⟩, uu_t 1186 (by decide +kernel) rfl, uu_t 1187 (by decide +kernel) rfl⟩
theorem KL_154 : CallOk RL 154 yX6_clears cX6_clears 4 (some .int) 1 ∧ Cond.instanceMethod yX6_clears ∈ UU ∧ Cond.selects (yX6_clears).cls yX6_clears yX6_clears ∈ UU := ⟨⟨⟨uu_t 601 (by decide +kernel) rfl, uu_t 1 (by decide +kernel) rfl, uu_t 604 (by decide +kernel) rfl⟩, by decide +kernel, by decide +kernel, by decide +kernel⟩, uu_t 602 (by decide +kernel) rfl, uu_t 603 (by decide +kernel) rfl⟩
theorem KL_157 : CallOk RL 157 yX7_clears cX7_clears 3 (some .int) 1 ∧ Cond.instanceMethod yX7_clears ∈ UU ∧ Cond.selects (yX7_clears).cls yX7_clears yX7_clears ∈ UU := ⟨⟨⟨uu_t 1197 (by decide +kernel) rfl, uu_t 8 (by decide +kernel) rfl, uu_t 1200 (by decide +kernel) rfl⟩, by decide +kernel, by decide +kernel, by decide +kernel⟩, uu_t 1198 (by decide +kernel) rfl, uu_t 1199 (by decide +kernel) rfl⟩
theorem KL_158 : CallOk RL 158 yX6_common cX6_common 4 (some .int) 0 ∧ Cond.instanceMethod yX6_common ∈ UU ∧ Cond.selects (yX6_common).cls yX6_common yX6_common ∈ UU := ⟨⟨⟨uu_t 605 (by decide +kernel) rfl, uu_t 1 (by decide +kernel) rfl, uu_t 608 (by decide +kernel) rfl⟩, by decide +kernel, by decide +kernel, by decide +kernel⟩, uu_t 606 (by decide +kernel) rfl, uu_t 607 (by decide +kernel) rfl⟩
theorem KL_161 : CallOk RL 161 yX7_common cX7_common 6 (some .int) 0 ∧ Cond.instanceMethod yX7_common ∈ UU ∧ Cond.selects (yX7_common).cls yX7_common yX7_common ∈ UU := ⟨⟨⟨uu_t 1201 (by decide +kernel) rfl, uu_t 8 (by decide +kernel) rfl, uu_t 1204 (by decide +kernel) rfl⟩, by decide +kernel, by decide +kernel, by decide +kernel⟩, uu_t 1202 (by decide +kernel) rfl, uu_t 1203 (by decide +kernel) rfl⟩
theorem KL_162 : CallOk RL 162 yX6_full cX6_full 5 (some .int) 1 ∧ Cond.instanceMethod yX6_full ∈ UU ∧ Cond.selects (yX6_full).cls yX6_full yX6_full ∈ UU := ⟨⟨⟨uu_t 609 (by decide +kernel) rfl, uu_t 1 (by decide +kernel) rfl, uu_t 612 (by decide +kernel) rfl⟩, by decide +kernel, by decide +kernel, by decide +kernel⟩, uu_t 610 (by decide +kernel) rfl, uu_t 611 (by decide +kernel) rfl⟩
theorem KL_165 : CallOk RL 165 yX7_full cX7_full 6 (some .int) 1 ∧ Cond.instanceMethod yX7_full ∈ UU ∧ Cond.selects (yX7_full).cls yX7_full yX7_full ∈ UU := ⟨⟨⟨uu_t 1205 (by decide +kernel) rfl, uu_t 8 (by decide +kernel) rfl, uu_t 1208 (by decide +kernel) rfl⟩, by decide +kernel, by decide +kernel, by decide +kernel⟩, uu_t 1206 (by decide +kernel) rfl, uu_t 1207 (by decide +kernel) rfl⟩
theorem KL_166 : CallOk RL 166 yX6_count cX6_count 4 (some .int) 2 ∧ Cond.instanceMethod yX6_count ∈ UU ∧ Cond.selects (yX6_count).cls yX6_count yX6_count ∈ UU := ⟨⟨⟨uu_t 622 (by decide +kernel) rfl, uu_t 1 (by decide +kernel) rfl, uu_t 625 (by decide +kernel) rfl⟩, by decide +kernel, by decide +kernel, by decide +kernel⟩, uu_t 623 (by decide +kernel) rfl, uu_t 624 (by decide +kernel) rfl⟩
theorem KL_169 : CallOk RL 169 yX7_count cX7_count 3 (some .int) 2 ∧ Cond.instanceMethod yX7_count ∈ UU ∧ Cond.selects (yX7_count).cls yX7_count yX7_count ∈ UU := ⟨⟨⟨uu_t 1229 (by decide +kernel) rfl, uu_t 8 (by decide +kernel) rfl, uu_t 1232 (by decide +kernel) rfl⟩, by decide +kernel, by decide +kernel, by decide +kernel⟩, uu_t 1230 (by decide +kernel) rfl, uu_t 1231 (by decide +kernel) rfl⟩
theorem KL_170 : CallOk RL 170 yX6_sign cX6_sign 2 (some .int) 1 ∧ Cond.instanceMethod yX6_sign ∈ UU ∧ Cond.selects (yX6_sign).cls yX6_sign yX6_sign ∈ UU := ⟨⟨⟨uu_t 634 (by decide +kernel) rfl, uu_t 1 (by decide +kernel) rfl, uu_t 637 (by decide +kernel) rfl⟩, by decide +kernel, by decide +kernel, by decide +kernel⟩, uu_t 635 (by decide +kernel) rfl, uu_t 636 (by decide +kernel) rfl⟩
theorem KL_173 : CallOk RL 173 yX7_sign cX7_sign 3 (some .int) 1 ∧ Cond.instanceMethod yX7_sign ∈ UU ∧ Cond.selects (yX7_sign).cls yX7_sign yX7_sign ∈ UU := ⟨⟨⟨uu_t 736 (by decide +kernel) rfl, uu_t 8 (by decide +kernel) rfl, uu_t 739 (by decide +kernel) rfl⟩, by decide +kernel, by decide +kernel, by decide +kernel⟩, uu_t 737 (by decide +kernel) rfl, uu_t 738 (by decide +kernel) rfl⟩
theorem KL_174 : CallOk RL 174 yX6_end cX6_end 2 (some .boolean) 1 ∧ Cond.instanceMethod yX6_end ∈ UU ∧ Cond.selects (yX6_end).cls yX6_end yX6_end ∈ UU := ⟨⟨⟨uu_t 642 (by decide +kernel) rfl, uu_t 1 (by decide +kernel) rfl, uu_t 645 (by decide +kernel) rfl⟩, by decide +kernel, by decide +kernel, by decide +kernel⟩, uu_t 643 (by decide +kernel) rfl, uu_t 644 (by decide +kernel) rfl⟩
theorem KL_178 : CallOk RL 178 yX7_end cX7_end 2 (some .boolean) 1 ∧ Cond.instanceMethod yX7_end ∈ UU ∧ Cond.selects (yX7_end).cls yX7_end yX7_end ∈ UU := ⟨⟨⟨uu_t 740 (by decide +kernel) rfl, uu_t 8 (by decide +kernel) rfl, uu_t 743 (by decide +kernel) rfl⟩, by decide +kernel, by decide +kernel, by decide +kernel⟩, uu_t 741 (by decide +kernel) rfl, uu_t 742 (by decide +kernel) rfl⟩
theorem KL_182 : CallOk RL 182 yX7_row cX7_row 2 (some .long) 1 ∧ Cond.instanceMethod yX7_row ∈ UU ∧ Cond.selects (yX7_row).cls yX7_row yX7_row ∈ UU := ⟨⟨⟨uu_t 1237 (by decide +kernel) rfl, uu_t 8 (by decide +kernel) rfl, uu_t 1240 (by decide +kernel) rfl⟩, by decide +kernel, by decide +kernel, by decide +kernel⟩, uu_t 1238 (by decide +kernel) rfl, uu_t 1239 (by decide +kernel) rfl⟩
set_option maxHeartbeats 4000000 in
set_option maxRecDepth 100000 in
theorem law_c0 {p : Program} {l : Launch} {e : Env} {s : State} {m : MethodId} {below : List Frame} {meth : Method} {c : Code} {b L : Nat} {xs : Nat → Int32} {D : va_G} {cy : Nat → ClassId} {aC aM : Nat → Nat} {o i cells slots : Nat} (hLX : LX p l s m meth c b L xs D cy aC aM) (hi : i + 5 ≤ L) (hroom : cells + 1 ≤ 1069 ∧ slots + 6 ≤ 10279) (K : KK p l e s m below meth c b D cy aC aM o i cells slots) {σ τ : St} {g : Nat → Int64} {H : Heap} {locs : List Loc} {ls : Array Slot} (hrel : Rel σ τ) (hP : va_P D vwCl (wL cy aC aM o σ τ g) H) (hD : va_D (AA s) (wL cy aC aM o σ τ g)) (hS : va_S (AA s) s.heap H locs) (hl : lv_has ls 8 (LV b aC aM o i)) : W p l e room_1 s m #[Value.ref b] below meth c H locs cells slots (lw_Z below #[Value.ref b] s) (F0 m 200 ls []) := by
  obtain ⟨⟨hx, hb, hr, hml, hown, hts, hX, hbl, hlocks, hgv⟩, hL, htr, hK, hXC, hXM, hE⟩ := id hLX
  have hbA : ¬ AA s b := Nat.not_le.mpr hbl
  obtain ⟨r, C', M', e1, e2, hrel'⟩ := m_shape hrel (xs (nI i + 1).toNatClampNeg) (xs (nI i + 2).toNatClampNeg)
  refine lv_aload_n hx hb dL_law_200 rfl (lv_at hl 1 rfl) ?_
  refine lv_aload_n hx hb dL_law_201 rfl (lv_at hl 0 rfl) ?_
  refine lv_iload hx hb dL_law_202 (lv_at hl 4 rfl) ?_
  refine lv_iconst (v := 1) hx hb dL_law_204 (by decide) ?_
  refine lv_iadd hx hb dL_law_205 ?_
  refine va_sld hx hb hX hbl hbA hS (in_k (k := 1) rfl (by omega) hL) dL_law_206 ?_
  refine lv_aload_n hx hb dL_law_207 rfl (lv_at hl 0 rfl) ?_
  refine lv_iload hx hb dL_law_208 (lv_at hl 4 rfl) ?_
  refine lv_iconst (v := 2) hx hb dL_law_210 (by decide) ?_
  refine lv_iadd hx hb dL_law_211 ?_
  refine va_sld hx hb hX hbl hbA hS (in_k (k := 2) rfl (by omega) hL) dL_law_212 ?_
  refine lw_callC (As := [.int (xs (nI i + 1).toNatClampNeg), .int (xs (nI i + 2).toNatClampNeg)]) (rest := []) hLX hP hD hS hl.1 (con_X6_shape l σ (xs (nI i + 1).toNatClampNeg) (xs (nI i + 2).toNatClampNeg) e1) KL_23 rfl rfl rfl rfl ⟨Nat.le_of_ble_eq_true rfl, Nat.le_of_ble_eq_true rfl⟩ (Nat.le_of_ble_eq_true rfl) dL_law_213 ⟨by omega, by omega⟩ (fun H locs hP hD hS => ?_)
  show W p l e room_1 s m _ below meth c H locs _ _ _ (F0 m 216 ls [.int r])
  refine lv_aload_n hx hb dL_law_216 rfl (lv_at hl 2 rfl) ?_
  refine lv_aload_n hx hb dL_law_217 rfl (lv_at hl 0 rfl) ?_
  refine lv_iload hx hb dL_law_218 (lv_at hl 4 rfl) ?_
  refine lv_iconst (v := 1) hx hb dL_law_220 (by decide) ?_
  refine lv_iadd hx hb dL_law_221 ?_
  refine va_sld hx hb hX hbl hbA hS (in_k (k := 1) rfl (by omega) hL) dL_law_222 ?_
  refine lv_aload_n hx hb dL_law_223 rfl (lv_at hl 0 rfl) ?_
  refine lv_iload hx hb dL_law_224 (lv_at hl 4 rfl) ?_
  refine lv_iconst (v := 2) hx hb dL_law_226 (by decide) ?_
  refine lv_iadd hx hb dL_law_227 ?_
  refine va_sld hx hb hX hbl hbA hS (in_k (k := 2) rfl (by omega) hL) dL_law_228 ?_
  refine lw_callM (As := [.int (xs (nI i + 1).toNatClampNeg), .int (xs (nI i + 2).toNatClampNeg)]) (rest := [.int r]) hLX hP hD hS hl.1 (con_X7_shape l τ (xs (nI i + 1).toNatClampNeg) (xs (nI i + 2).toNatClampNeg) e2) KL_27 rfl rfl rfl rfl ⟨Nat.le_of_ble_eq_true rfl, Nat.le_of_ble_eq_true rfl⟩ (Nat.le_of_ble_eq_true rfl) dL_law_229 ⟨by omega, by omega⟩ (fun H locs hP hD hS => ?_)
  show W p l e room_1 s m _ below meth c H locs _ _ _ (F0 m 232 ls [.int r, .int r])
  refine lv_icmp_eq (tgt := 1393) hx hb dL_law_232 (by decide) (fun _ => ?_) (fun q => absurd rfl q)
  exact W.widen (k := cells + 1) (n := slots + 6) (by omega) (by omega) (K _ _ _ _ _ _ hrel' hP hD hS hl)

set_option maxHeartbeats 4000000 in
set_option maxRecDepth 100000 in
theorem law_c1 {p : Program} {l : Launch} {e : Env} {s : State} {m : MethodId} {below : List Frame} {meth : Method} {c : Code} {b L : Nat} {xs : Nat → Int32} {D : va_G} {cy : Nat → ClassId} {aC aM : Nat → Nat} {o i cells slots : Nat} (hLX : LX p l s m meth c b L xs D cy aC aM) (hi : i + 5 ≤ L) (hroom : cells + 1 ≤ 1069 ∧ slots + 6 ≤ 10279) (K : KK p l e s m below meth c b D cy aC aM o i cells slots) {σ τ : St} {g : Nat → Int64} {H : Heap} {locs : List Loc} {ls : Array Slot} (hrel : Rel σ τ) (hP : va_P D vwCl (wL cy aC aM o σ τ g) H) (hD : va_D (AA s) (wL cy aC aM o σ τ g)) (hS : va_S (AA s) s.heap H locs) (hl : lv_has ls 8 (LV b aC aM o i)) : W p l e room_1 s m #[Value.ref b] below meth c H locs cells slots (lw_Z below #[Value.ref b] s) (F0 m 237 ls []) := by
  obtain ⟨⟨hx, hb, hr, hml, hown, hts, hX, hbl, hlocks, hgv⟩, hL, htr, hK, hXC, hXM, hE⟩ := id hLX
  have hbA : ¬ AA s b := Nat.not_le.mpr hbl
  obtain ⟨r, C', M', e1, e2, hrel'⟩ := m_load hrel (xs (nI i + 1).toNatClampNeg)
  refine lv_aload_n hx hb dL_law_237 rfl (lv_at hl 1 rfl) ?_
  refine lv_aload_n hx hb dL_law_238 rfl (lv_at hl 0 rfl) ?_
  refine lv_iload hx hb dL_law_239 (lv_at hl 4 rfl) ?_
  refine lv_iconst (v := 1) hx hb dL_law_241 (by decide) ?_
  refine lv_iadd hx hb dL_law_242 ?_
  refine va_sld hx hb hX hbl hbA hS (in_k (k := 1) rfl (by omega) hL) dL_law_243 ?_
  refine lw_callC (As := [.int (xs (nI i + 1).toNatClampNeg)]) (rest := []) hLX hP hD hS hl.1 (con_X6_load l σ (xs (nI i + 1).toNatClampNeg) e1) KL_28 rfl rfl rfl rfl ⟨Nat.le_of_ble_eq_true rfl, Nat.le_of_ble_eq_true rfl⟩ (Nat.le_of_ble_eq_true rfl) dL_law_244 ⟨by omega, by omega⟩ (fun H locs hP hD hS => ?_)
  show W p l e room_1 s m _ below meth c H locs _ _ _ (F0 m 247 ls [.int r])
  refine lv_aload_n hx hb dL_law_247 rfl (lv_at hl 2 rfl) ?_
  refine lv_aload_n hx hb dL_law_248 rfl (lv_at hl 0 rfl) ?_
  refine lv_iload hx hb dL_law_249 (lv_at hl 4 rfl) ?_
  refine lv_iconst (v := 1) hx hb dL_law_251 (by decide) ?_
  refine lv_iadd hx hb dL_law_252 ?_
  refine va_sld hx hb hX hbl hbA hS (in_k (k := 1) rfl (by omega) hL) dL_law_253 ?_
  refine lw_callM (As := [.int (xs (nI i + 1).toNatClampNeg)]) (rest := [.int r]) hLX hP hD hS hl.1 (con_X7_load l τ (xs (nI i + 1).toNatClampNeg) e2) KL_32 rfl rfl rfl rfl ⟨Nat.le_of_ble_eq_true rfl, Nat.le_of_ble_eq_true rfl⟩ (Nat.le_of_ble_eq_true rfl) dL_law_254 ⟨by omega, by omega⟩ (fun H locs hP hD hS => ?_)
  show W p l e room_1 s m _ below meth c H locs _ _ _ (F0 m 257 ls [.int r, .int r])
  refine lv_icmp_eq (tgt := 1393) hx hb dL_law_257 (by decide) (fun _ => ?_) (fun q => absurd rfl q)
  exact W.widen (k := cells + 1) (n := slots + 6) (by omega) (by omega) (K _ _ _ _ _ _ hrel' hP hD hS hl)

set_option maxHeartbeats 4000000 in
set_option maxRecDepth 100000 in
theorem law_c2 {p : Program} {l : Launch} {e : Env} {s : State} {m : MethodId} {below : List Frame} {meth : Method} {c : Code} {b L : Nat} {xs : Nat → Int32} {D : va_G} {cy : Nat → ClassId} {aC aM : Nat → Nat} {o i cells slots : Nat} (hLX : LX p l s m meth c b L xs D cy aC aM) (hi : i + 5 ≤ L) (hroom : cells + 1 ≤ 1069 ∧ slots + 6 ≤ 10279) (K : KK p l e s m below meth c b D cy aC aM o i cells slots) {σ τ : St} {g : Nat → Int64} {H : Heap} {locs : List Loc} {ls : Array Slot} (hrel : Rel σ τ) (hP : va_P D vwCl (wL cy aC aM o σ τ g) H) (hD : va_D (AA s) (wL cy aC aM o σ τ g)) (hS : va_S (AA s) s.heap H locs) (hl : lv_has ls 8 (LV b aC aM o i)) : W p l e room_1 s m #[Value.ref b] below meth c H locs cells slots (lw_Z below #[Value.ref b] s) (F0 m 262 ls []) := by
  obtain ⟨⟨hx, hb, hr, hml, hown, hts, hX, hbl, hlocks, hgv⟩, hL, htr, hK, hXC, hXM, hE⟩ := id hLX
  have hbA : ¬ AA s b := Nat.not_le.mpr hbl
  obtain ⟨r, C', M', e1, e2, hrel'⟩ := m_print hrel (xs (nI i + 1).toNatClampNeg) (xs (nI i + 2).toNatClampNeg)
  refine lv_aload_n hx hb dL_law_262 rfl (lv_at hl 1 rfl) ?_
  refine lv_aload_n hx hb dL_law_263 rfl (lv_at hl 0 rfl) ?_
  refine lv_iload hx hb dL_law_264 (lv_at hl 4 rfl) ?_
  refine lv_iconst (v := 1) hx hb dL_law_266 (by decide) ?_
  refine lv_iadd hx hb dL_law_267 ?_
  refine va_sld hx hb hX hbl hbA hS (in_k (k := 1) rfl (by omega) hL) dL_law_268 ?_
  refine lv_aload_n hx hb dL_law_269 rfl (lv_at hl 0 rfl) ?_
  refine lv_iload hx hb dL_law_270 (lv_at hl 4 rfl) ?_
  refine lv_iconst (v := 2) hx hb dL_law_272 (by decide) ?_
  refine lv_iadd hx hb dL_law_273 ?_
  refine va_sld hx hb hX hbl hbA hS (in_k (k := 2) rfl (by omega) hL) dL_law_274 ?_
  refine lw_callC (As := [.int (xs (nI i + 1).toNatClampNeg), .int (xs (nI i + 2).toNatClampNeg)]) (rest := []) hLX hP hD hS hl.1 (con_X6_print l σ (xs (nI i + 1).toNatClampNeg) (xs (nI i + 2).toNatClampNeg) e1) KL_33 rfl rfl rfl rfl ⟨Nat.le_of_ble_eq_true rfl, Nat.le_of_ble_eq_true rfl⟩ (Nat.le_of_ble_eq_true rfl) dL_law_275 ⟨by omega, by omega⟩ (fun H locs hP hD hS => ?_)
  show W p l e room_1 s m _ below meth c H locs _ _ _ (F0 m 278 ls [.int r])
  refine lv_aload_n hx hb dL_law_278 rfl (lv_at hl 2 rfl) ?_
  refine lv_aload_n hx hb dL_law_279 rfl (lv_at hl 0 rfl) ?_
  refine lv_iload hx hb dL_law_280 (lv_at hl 4 rfl) ?_
  refine lv_iconst (v := 1) hx hb dL_law_282 (by decide) ?_
  refine lv_iadd hx hb dL_law_283 ?_
  refine va_sld hx hb hX hbl hbA hS (in_k (k := 1) rfl (by omega) hL) dL_law_284 ?_
  refine lv_aload_n hx hb dL_law_285 rfl (lv_at hl 0 rfl) ?_
  refine lv_iload hx hb dL_law_286 (lv_at hl 4 rfl) ?_
  refine lv_iconst (v := 2) hx hb dL_law_288 (by decide) ?_
  refine lv_iadd hx hb dL_law_289 ?_
  refine va_sld hx hb hX hbl hbA hS (in_k (k := 2) rfl (by omega) hL) dL_law_290 ?_
  refine lw_callM (As := [.int (xs (nI i + 1).toNatClampNeg), .int (xs (nI i + 2).toNatClampNeg)]) (rest := [.int r]) hLX hP hD hS hl.1 (con_X7_print l τ (xs (nI i + 1).toNatClampNeg) (xs (nI i + 2).toNatClampNeg) e2) KL_36 rfl rfl rfl rfl ⟨Nat.le_of_ble_eq_true rfl, Nat.le_of_ble_eq_true rfl⟩ (Nat.le_of_ble_eq_true rfl) dL_law_291 ⟨by omega, by omega⟩ (fun H locs hP hD hS => ?_)
  show W p l e room_1 s m _ below meth c H locs _ _ _ (F0 m 294 ls [.int r, .int r])
  refine lv_icmp_eq (tgt := 1393) hx hb dL_law_294 (by decide) (fun _ => ?_) (fun q => absurd rfl q)
  exact W.widen (k := cells + 1) (n := slots + 6) (by omega) (by omega) (K _ _ _ _ _ _ hrel' hP hD hS hl)

set_option maxHeartbeats 4000000 in
set_option maxRecDepth 100000 in
theorem law_c3 {p : Program} {l : Launch} {e : Env} {s : State} {m : MethodId} {below : List Frame} {meth : Method} {c : Code} {b L : Nat} {xs : Nat → Int32} {D : va_G} {cy : Nat → ClassId} {aC aM : Nat → Nat} {o i cells slots : Nat} (hLX : LX p l s m meth c b L xs D cy aC aM) (hi : i + 5 ≤ L) (hroom : cells + 1 ≤ 1069 ∧ slots + 6 ≤ 10279) (K : KK p l e s m below meth c b D cy aC aM o i cells slots) {σ τ : St} {g : Nat → Int64} {H : Heap} {locs : List Loc} {ls : Array Slot} (hrel : Rel σ τ) (hP : va_P D vwCl (wL cy aC aM o σ τ g) H) (hD : va_D (AA s) (wL cy aC aM o σ τ g)) (hS : va_S (AA s) s.heap H locs) (hl : lv_has ls 8 (LV b aC aM o i)) : W p l e room_1 s m #[Value.ref b] below meth c H locs cells slots (lw_Z below #[Value.ref b] s) (F0 m 299 ls []) := by
  obtain ⟨⟨hx, hb, hr, hml, hown, hts, hX, hbl, hlocks, hgv⟩, hL, htr, hK, hXC, hXM, hE⟩ := id hLX
  have hbA : ¬ AA s b := Nat.not_le.mpr hbl
  obtain ⟨r, C', M', e1, e2, hrel'⟩ := m_puts hrel (xs (nI i + 1).toNatClampNeg) (xs (nI i + 2).toNatClampNeg)
  refine lv_aload_n hx hb dL_law_299 rfl (lv_at hl 1 rfl) ?_
  refine lv_aload_n hx hb dL_law_300 rfl (lv_at hl 0 rfl) ?_
  refine lv_iload hx hb dL_law_301 (lv_at hl 4 rfl) ?_
  refine lv_iconst (v := 1) hx hb dL_law_303 (by decide) ?_
  refine lv_iadd hx hb dL_law_304 ?_
  refine va_sld hx hb hX hbl hbA hS (in_k (k := 1) rfl (by omega) hL) dL_law_305 ?_
  refine lv_aload_n hx hb dL_law_306 rfl (lv_at hl 0 rfl) ?_
  refine lv_iload hx hb dL_law_307 (lv_at hl 4 rfl) ?_
  refine lv_iconst (v := 2) hx hb dL_law_309 (by decide) ?_
  refine lv_iadd hx hb dL_law_310 ?_
  refine va_sld hx hb hX hbl hbA hS (in_k (k := 2) rfl (by omega) hL) dL_law_311 ?_
  refine lw_callC (As := [.int (xs (nI i + 1).toNatClampNeg), .int (xs (nI i + 2).toNatClampNeg)]) (rest := []) hLX hP hD hS hl.1 (con_X6_puts l σ (xs (nI i + 1).toNatClampNeg) (xs (nI i + 2).toNatClampNeg) e1) KL_37 rfl rfl rfl rfl ⟨Nat.le_of_ble_eq_true rfl, Nat.le_of_ble_eq_true rfl⟩ (Nat.le_of_ble_eq_true rfl) dL_law_312 ⟨by omega, by omega⟩ (fun H locs hP hD hS => ?_)
  show W p l e room_1 s m _ below meth c H locs _ _ _ (F0 m 315 ls [.int r])
  refine lv_aload_n hx hb dL_law_315 rfl (lv_at hl 2 rfl) ?_
  refine lv_aload_n hx hb dL_law_316 rfl (lv_at hl 0 rfl) ?_
  refine lv_iload hx hb dL_law_317 (lv_at hl 4 rfl) ?_
  refine lv_iconst (v := 1) hx hb dL_law_319 (by decide) ?_
  refine lv_iadd hx hb dL_law_320 ?_
  refine va_sld hx hb hX hbl hbA hS (in_k (k := 1) rfl (by omega) hL) dL_law_321 ?_
  refine lv_aload_n hx hb dL_law_322 rfl (lv_at hl 0 rfl) ?_
  refine lv_iload hx hb dL_law_323 (lv_at hl 4 rfl) ?_
  refine lv_iconst (v := 2) hx hb dL_law_325 (by decide) ?_
  refine lv_iadd hx hb dL_law_326 ?_
  refine va_sld hx hb hX hbl hbA hS (in_k (k := 2) rfl (by omega) hL) dL_law_327 ?_
  refine lw_callM (As := [.int (xs (nI i + 1).toNatClampNeg), .int (xs (nI i + 2).toNatClampNeg)]) (rest := [.int r]) hLX hP hD hS hl.1 (con_X7_puts l τ (xs (nI i + 1).toNatClampNeg) (xs (nI i + 2).toNatClampNeg) e2) KL_40 rfl rfl rfl rfl ⟨Nat.le_of_ble_eq_true rfl, Nat.le_of_ble_eq_true rfl⟩ (Nat.le_of_ble_eq_true rfl) dL_law_328 ⟨by omega, by omega⟩ (fun H locs hP hD hS => ?_)
  show W p l e room_1 s m _ below meth c H locs _ _ _ (F0 m 331 ls [.int r, .int r])
  refine lv_icmp_eq (tgt := 1393) hx hb dL_law_331 (by decide) (fun _ => ?_) (fun q => absurd rfl q)
  exact W.widen (k := cells + 1) (n := slots + 6) (by omega) (by omega) (K _ _ _ _ _ _ hrel' hP hD hS hl)

set_option maxHeartbeats 4000000 in
set_option maxRecDepth 100000 in
theorem law_c4 {p : Program} {l : Launch} {e : Env} {s : State} {m : MethodId} {below : List Frame} {meth : Method} {c : Code} {b L : Nat} {xs : Nat → Int32} {D : va_G} {cy : Nat → ClassId} {aC aM : Nat → Nat} {o i cells slots : Nat} (hLX : LX p l s m meth c b L xs D cy aC aM) (hi : i + 5 ≤ L) (hroom : cells + 1 ≤ 1069 ∧ slots + 6 ≤ 10279) (K : KK p l e s m below meth c b D cy aC aM o i cells slots) {σ τ : St} {g : Nat → Int64} {H : Heap} {locs : List Loc} {ls : Array Slot} (hrel : Rel σ τ) (hP : va_P D vwCl (wL cy aC aM o σ τ g) H) (hD : va_D (AA s) (wL cy aC aM o σ τ g)) (hS : va_S (AA s) s.heap H locs) (hl : lv_has ls 8 (LV b aC aM o i)) : W p l e room_1 s m #[Value.ref b] below meth c H locs cells slots (lw_Z below #[Value.ref b] s) (F0 m 336 ls []) := by
  obtain ⟨⟨hx, hb, hr, hml, hown, hts, hX, hbl, hlocks, hgv⟩, hL, htr, hK, hXC, hXM, hE⟩ := id hLX
  have hbA : ¬ AA s b := Nat.not_le.mpr hbl
  obtain ⟨r, C', M', e1, e2, hrel'⟩ := m_takes hrel (xs (nI i + 1).toNatClampNeg) (xs (nI i + 2).toNatClampNeg)
  refine lv_aload_n hx hb dL_law_336 rfl (lv_at hl 1 rfl) ?_
  refine lv_aload_n hx hb dL_law_337 rfl (lv_at hl 0 rfl) ?_
  refine lv_iload hx hb dL_law_338 (lv_at hl 4 rfl) ?_
  refine lv_iconst (v := 1) hx hb dL_law_340 (by decide) ?_
  refine lv_iadd hx hb dL_law_341 ?_
  refine va_sld hx hb hX hbl hbA hS (in_k (k := 1) rfl (by omega) hL) dL_law_342 ?_
  refine lv_aload_n hx hb dL_law_343 rfl (lv_at hl 0 rfl) ?_
  refine lv_iload hx hb dL_law_344 (lv_at hl 4 rfl) ?_
  refine lv_iconst (v := 2) hx hb dL_law_346 (by decide) ?_
  refine lv_iadd hx hb dL_law_347 ?_
  refine va_sld hx hb hX hbl hbA hS (in_k (k := 2) rfl (by omega) hL) dL_law_348 ?_
  refine lw_callC (As := [.int (xs (nI i + 1).toNatClampNeg), .int (xs (nI i + 2).toNatClampNeg)]) (rest := []) hLX hP hD hS hl.1 (con_X6_takes l σ (xs (nI i + 1).toNatClampNeg) (xs (nI i + 2).toNatClampNeg) e1) KL_41 rfl rfl rfl rfl ⟨Nat.le_of_ble_eq_true rfl, Nat.le_of_ble_eq_true rfl⟩ (Nat.le_of_ble_eq_true rfl) dL_law_349 ⟨by omega, by omega⟩ (fun H locs hP hD hS => ?_)
  show W p l e room_1 s m _ below meth c H locs _ _ _ (F0 m 352 ls [.int r])
  refine lv_aload_n hx hb dL_law_352 rfl (lv_at hl 2 rfl) ?_
  refine lv_aload_n hx hb dL_law_353 rfl (lv_at hl 0 rfl) ?_
  refine lv_iload hx hb dL_law_354 (lv_at hl 4 rfl) ?_
  refine lv_iconst (v := 1) hx hb dL_law_356 (by decide) ?_
  refine lv_iadd hx hb dL_law_357 ?_
  refine va_sld hx hb hX hbl hbA hS (in_k (k := 1) rfl (by omega) hL) dL_law_358 ?_
  refine lv_aload_n hx hb dL_law_359 rfl (lv_at hl 0 rfl) ?_
  refine lv_iload hx hb dL_law_360 (lv_at hl 4 rfl) ?_
  refine lv_iconst (v := 2) hx hb dL_law_362 (by decide) ?_
  refine lv_iadd hx hb dL_law_363 ?_
  refine va_sld hx hb hX hbl hbA hS (in_k (k := 2) rfl (by omega) hL) dL_law_364 ?_
  refine lw_callM (As := [.int (xs (nI i + 1).toNatClampNeg), .int (xs (nI i + 2).toNatClampNeg)]) (rest := [.int r]) hLX hP hD hS hl.1 (con_X7_takes l τ (xs (nI i + 1).toNatClampNeg) (xs (nI i + 2).toNatClampNeg) e2) KL_44 rfl rfl rfl rfl ⟨Nat.le_of_ble_eq_true rfl, Nat.le_of_ble_eq_true rfl⟩ (Nat.le_of_ble_eq_true rfl) dL_law_365 ⟨by omega, by omega⟩ (fun H locs hP hD hS => ?_)
  show W p l e room_1 s m _ below meth c H locs _ _ _ (F0 m 368 ls [.int r, .int r])
  refine lv_icmp_eq (tgt := 1393) hx hb dL_law_368 (by decide) (fun _ => ?_) (fun q => absurd rfl q)
  exact W.widen (k := cells + 1) (n := slots + 6) (by omega) (by omega) (K _ _ _ _ _ _ hrel' hP hD hS hl)

set_option maxHeartbeats 4000000 in
set_option maxRecDepth 100000 in
theorem law_c5 {p : Program} {l : Launch} {e : Env} {s : State} {m : MethodId} {below : List Frame} {meth : Method} {c : Code} {b L : Nat} {xs : Nat → Int32} {D : va_G} {cy : Nat → ClassId} {aC aM : Nat → Nat} {o i cells slots : Nat} (hLX : LX p l s m meth c b L xs D cy aC aM) (hi : i + 5 ≤ L) (hroom : cells + 1 ≤ 1069 ∧ slots + 6 ≤ 10279) (K : KK p l e s m below meth c b D cy aC aM o i cells slots) {σ τ : St} {g : Nat → Int64} {H : Heap} {locs : List Loc} {ls : Array Slot} (hrel : Rel σ τ) (hP : va_P D vwCl (wL cy aC aM o σ τ g) H) (hD : va_D (AA s) (wL cy aC aM o σ τ g)) (hS : va_S (AA s) s.heap H locs) (hl : lv_has ls 8 (LV b aC aM o i)) : W p l e room_1 s m #[Value.ref b] below meth c H locs cells slots (lw_Z below #[Value.ref b] s) (F0 m 373 ls []) := by
  obtain ⟨⟨hx, hb, hr, hml, hown, hts, hX, hbl, hlocks, hgv⟩, hL, htr, hK, hXC, hXM, hE⟩ := id hLX
  have hbA : ¬ AA s b := Nat.not_le.mpr hbl
  obtain ⟨r, C', M', e1, e2, hrel'⟩ := m_has hrel (xs (nI i + 1).toNatClampNeg) (xs (nI i + 2).toNatClampNeg)
  refine lv_aload_n hx hb dL_law_373 rfl (lv_at hl 1 rfl) ?_
  refine lv_aload_n hx hb dL_law_374 rfl (lv_at hl 0 rfl) ?_
  refine lv_iload hx hb dL_law_375 (lv_at hl 4 rfl) ?_
  refine lv_iconst (v := 1) hx hb dL_law_377 (by decide) ?_
  refine lv_iadd hx hb dL_law_378 ?_
  refine va_sld hx hb hX hbl hbA hS (in_k (k := 1) rfl (by omega) hL) dL_law_379 ?_
  refine lv_aload_n hx hb dL_law_380 rfl (lv_at hl 0 rfl) ?_
  refine lv_iload hx hb dL_law_381 (lv_at hl 4 rfl) ?_
  refine lv_iconst (v := 2) hx hb dL_law_383 (by decide) ?_
  refine lv_iadd hx hb dL_law_384 ?_
  refine va_sld hx hb hX hbl hbA hS (in_k (k := 2) rfl (by omega) hL) dL_law_385 ?_
  refine lw_callC (As := [.int (xs (nI i + 1).toNatClampNeg), .int (xs (nI i + 2).toNatClampNeg)]) (rest := []) hLX hP hD hS hl.1 (con_X6_has l σ (xs (nI i + 1).toNatClampNeg) (xs (nI i + 2).toNatClampNeg) e1) KL_45 rfl rfl rfl rfl ⟨Nat.le_of_ble_eq_true rfl, Nat.le_of_ble_eq_true rfl⟩ (Nat.le_of_ble_eq_true rfl) dL_law_386 ⟨by omega, by omega⟩ (fun H locs hP hD hS => ?_)
  show W p l e room_1 s m _ below meth c H locs _ _ _ (F0 m 389 ls [.int r])
  refine lv_aload_n hx hb dL_law_389 rfl (lv_at hl 2 rfl) ?_
  refine lv_aload_n hx hb dL_law_390 rfl (lv_at hl 0 rfl) ?_
  refine lv_iload hx hb dL_law_391 (lv_at hl 4 rfl) ?_
  refine lv_iconst (v := 1) hx hb dL_law_393 (by decide) ?_
  refine lv_iadd hx hb dL_law_394 ?_
  refine va_sld hx hb hX hbl hbA hS (in_k (k := 1) rfl (by omega) hL) dL_law_395 ?_
  refine lv_aload_n hx hb dL_law_396 rfl (lv_at hl 0 rfl) ?_
  refine lv_iload hx hb dL_law_397 (lv_at hl 4 rfl) ?_
  refine lv_iconst (v := 2) hx hb dL_law_399 (by decide) ?_
  refine lv_iadd hx hb dL_law_400 ?_
  refine va_sld hx hb hX hbl hbA hS (in_k (k := 2) rfl (by omega) hL) dL_law_401 ?_
  refine lw_callM (As := [.int (xs (nI i + 1).toNatClampNeg), .int (xs (nI i + 2).toNatClampNeg)]) (rest := [.int r]) hLX hP hD hS hl.1 (con_X7_has l τ (xs (nI i + 1).toNatClampNeg) (xs (nI i + 2).toNatClampNeg) e2) KL_48 rfl rfl rfl rfl ⟨Nat.le_of_ble_eq_true rfl, Nat.le_of_ble_eq_true rfl⟩ (Nat.le_of_ble_eq_true rfl) dL_law_402 ⟨by omega, by omega⟩ (fun H locs hP hD hS => ?_)
  show W p l e room_1 s m _ below meth c H locs _ _ _ (F0 m 405 ls [.int r, .int r])
  refine lv_icmp_eq (tgt := 1393) hx hb dL_law_405 (by decide) (fun _ => ?_) (fun q => absurd rfl q)
  exact W.widen (k := cells + 1) (n := slots + 6) (by omega) (by omega) (K _ _ _ _ _ _ hrel' hP hD hS hl)

set_option maxHeartbeats 4000000 in
set_option maxRecDepth 100000 in
theorem law_c6 {p : Program} {l : Launch} {e : Env} {s : State} {m : MethodId} {below : List Frame} {meth : Method} {c : Code} {b L : Nat} {xs : Nat → Int32} {D : va_G} {cy : Nat → ClassId} {aC aM : Nat → Nat} {o i cells slots : Nat} (hLX : LX p l s m meth c b L xs D cy aC aM) (hi : i + 5 ≤ L) (hroom : cells + 1 ≤ 1069 ∧ slots + 6 ≤ 10279) (K : KK p l e s m below meth c b D cy aC aM o i cells slots) {σ τ : St} {g : Nat → Int64} {H : Heap} {locs : List Loc} {ls : Array Slot} (hrel : Rel σ τ) (hP : va_P D vwCl (wL cy aC aM o σ τ g) H) (hD : va_D (AA s) (wL cy aC aM o σ τ g)) (hS : va_S (AA s) s.heap H locs) (hl : lv_has ls 8 (LV b aC aM o i)) : W p l e room_1 s m #[Value.ref b] below meth c H locs cells slots (lw_Z below #[Value.ref b] s) (F0 m 410 ls []) := by
  obtain ⟨⟨hx, hb, hr, hml, hown, hts, hX, hbl, hlocks, hgv⟩, hL, htr, hK, hXC, hXM, hE⟩ := id hLX
  have hbA : ¬ AA s b := Nat.not_le.mpr hbl
  obtain ⟨r, M', e1, e2, hrel'⟩ := m_twin hrel (xs (nI i + 1).toNatClampNeg)
  refine lv_aload_n hx hb dL_law_410 rfl (lv_at hl 1 rfl) ?_
  refine lv_aload_n hx hb dL_law_411 rfl (lv_at hl 0 rfl) ?_
  refine lv_iload hx hb dL_law_412 (lv_at hl 4 rfl) ?_
  refine lv_iconst (v := 1) hx hb dL_law_414 (by decide) ?_
  refine lv_iadd hx hb dL_law_415 ?_
  refine va_sld hx hb hX hbl hbA hS (in_k (k := 1) rfl (by omega) hL) dL_law_416 ?_
  refine lw_callC (As := [.int (xs (nI i + 1).toNatClampNeg)]) (rest := []) hLX hP hD hS hl.1 (con_X6_twin l σ (xs (nI i + 1).toNatClampNeg) e1) KL_49 rfl rfl rfl rfl ⟨Nat.le_of_ble_eq_true rfl, Nat.le_of_ble_eq_true rfl⟩ (Nat.le_of_ble_eq_true rfl) dL_law_417 ⟨by omega, by omega⟩ (fun H locs hP hD hS => ?_)
  show W p l e room_1 s m _ below meth c H locs _ _ _ (F0 m 420 ls [.int r])
  refine lv_aload_n hx hb dL_law_420 rfl (lv_at hl 2 rfl) ?_
  refine lv_aload_n hx hb dL_law_421 rfl (lv_at hl 0 rfl) ?_
  refine lv_iload hx hb dL_law_422 (lv_at hl 4 rfl) ?_
  refine lv_iconst (v := 1) hx hb dL_law_424 (by decide) ?_
  refine lv_iadd hx hb dL_law_425 ?_
  refine va_sld hx hb hX hbl hbA hS (in_k (k := 1) rfl (by omega) hL) dL_law_426 ?_
  refine lw_callM (As := [.int (xs (nI i + 1).toNatClampNeg)]) (rest := [.int r]) hLX hP hD hS hl.1 (con_X7_twin l τ (xs (nI i + 1).toNatClampNeg) e2) KL_52 rfl rfl rfl rfl ⟨Nat.le_of_ble_eq_true rfl, Nat.le_of_ble_eq_true rfl⟩ (Nat.le_of_ble_eq_true rfl) dL_law_427 ⟨by omega, by omega⟩ (fun H locs hP hD hS => ?_)
  show W p l e room_1 s m _ below meth c H locs _ _ _ (F0 m 430 ls [.int r, .int r])
  refine lv_icmp_eq (tgt := 1393) hx hb dL_law_430 (by decide) (fun _ => ?_) (fun q => absurd rfl q)
  exact W.widen (k := cells + 1) (n := slots + 6) (by omega) (by omega) (K _ _ _ _ _ _ hrel' hP hD hS hl)

set_option maxHeartbeats 4000000 in
set_option maxRecDepth 100000 in
theorem law_c7 {p : Program} {l : Launch} {e : Env} {s : State} {m : MethodId} {below : List Frame} {meth : Method} {c : Code} {b L : Nat} {xs : Nat → Int32} {D : va_G} {cy : Nat → ClassId} {aC aM : Nat → Nat} {o i cells slots : Nat} (hLX : LX p l s m meth c b L xs D cy aC aM) (hi : i + 5 ≤ L) (hroom : cells + 1 ≤ 1069 ∧ slots + 6 ≤ 10279) (K : KK p l e s m below meth c b D cy aC aM o i cells slots) {σ τ : St} {g : Nat → Int64} {H : Heap} {locs : List Loc} {ls : Array Slot} (hrel : Rel σ τ) (hP : va_P D vwCl (wL cy aC aM o σ τ g) H) (hD : va_D (AA s) (wL cy aC aM o σ τ g)) (hS : va_S (AA s) s.heap H locs) (hl : lv_has ls 8 (LV b aC aM o i)) : W p l e room_1 s m #[Value.ref b] below meth c H locs cells slots (lw_Z below #[Value.ref b] s) (F0 m 435 ls []) := by
  obtain ⟨⟨hx, hb, hr, hml, hown, hts, hX, hbl, hlocks, hgv⟩, hL, htr, hK, hXC, hXM, hE⟩ := id hLX
  have hbA : ¬ AA s b := Nat.not_le.mpr hbl
  obtain ⟨r, C', M', e1, e2, hrel'⟩ := m_keys hrel (xs (nI i + 1).toNatClampNeg)
  refine lv_aload_n hx hb dL_law_435 rfl (lv_at hl 1 rfl) ?_
  refine lv_aload_n hx hb dL_law_436 rfl (lv_at hl 0 rfl) ?_
  refine lv_iload hx hb dL_law_437 (lv_at hl 4 rfl) ?_
  refine lv_iconst (v := 1) hx hb dL_law_439 (by decide) ?_
  refine lv_iadd hx hb dL_law_440 ?_
  refine va_sld hx hb hX hbl hbA hS (in_k (k := 1) rfl (by omega) hL) dL_law_441 ?_
  refine lw_callC (As := [.int (xs (nI i + 1).toNatClampNeg)]) (rest := []) hLX hP hD hS hl.1 (con_X6_keys l σ (xs (nI i + 1).toNatClampNeg) e1) KL_53 rfl rfl rfl rfl ⟨Nat.le_of_ble_eq_true rfl, Nat.le_of_ble_eq_true rfl⟩ (Nat.le_of_ble_eq_true rfl) dL_law_442 ⟨by omega, by omega⟩ (fun H locs hP hD hS => ?_)
  show W p l e room_1 s m _ below meth c H locs _ _ _ (F0 m 445 ls [.int r])
  refine lv_aload_n hx hb dL_law_445 rfl (lv_at hl 2 rfl) ?_
  refine lv_aload_n hx hb dL_law_446 rfl (lv_at hl 0 rfl) ?_
  refine lv_iload hx hb dL_law_447 (lv_at hl 4 rfl) ?_
  refine lv_iconst (v := 1) hx hb dL_law_449 (by decide) ?_
  refine lv_iadd hx hb dL_law_450 ?_
  refine va_sld hx hb hX hbl hbA hS (in_k (k := 1) rfl (by omega) hL) dL_law_451 ?_
  refine lw_callM (As := [.int (xs (nI i + 1).toNatClampNeg)]) (rest := [.int r]) hLX hP hD hS hl.1 (con_X7_keys l τ (xs (nI i + 1).toNatClampNeg) e2) KL_56 rfl rfl rfl rfl ⟨Nat.le_of_ble_eq_true rfl, Nat.le_of_ble_eq_true rfl⟩ (Nat.le_of_ble_eq_true rfl) dL_law_452 ⟨by omega, by omega⟩ (fun H locs hP hD hS => ?_)
  show W p l e room_1 s m _ below meth c H locs _ _ _ (F0 m 455 ls [.int r, .int r])
  refine lv_icmp_eq (tgt := 1393) hx hb dL_law_455 (by decide) (fun _ => ?_) (fun q => absurd rfl q)
  exact W.widen (k := cells + 1) (n := slots + 6) (by omega) (by omega) (K _ _ _ _ _ _ hrel' hP hD hS hl)

set_option maxHeartbeats 4000000 in
set_option maxRecDepth 100000 in
theorem law_c8 {p : Program} {l : Launch} {e : Env} {s : State} {m : MethodId} {below : List Frame} {meth : Method} {c : Code} {b L : Nat} {xs : Nat → Int32} {D : va_G} {cy : Nat → ClassId} {aC aM : Nat → Nat} {o i cells slots : Nat} (hLX : LX p l s m meth c b L xs D cy aC aM) (hi : i + 5 ≤ L) (hroom : cells + 1 ≤ 1069 ∧ slots + 6 ≤ 10279) (K : KK p l e s m below meth c b D cy aC aM o i cells slots) {σ τ : St} {g : Nat → Int64} {H : Heap} {locs : List Loc} {ls : Array Slot} (hrel : Rel σ τ) (hP : va_P D vwCl (wL cy aC aM o σ τ g) H) (hD : va_D (AA s) (wL cy aC aM o σ τ g)) (hS : va_S (AA s) s.heap H locs) (hl : lv_has ls 8 (LV b aC aM o i)) : W p l e room_1 s m #[Value.ref b] below meth c H locs cells slots (lw_Z below #[Value.ref b] s) (F0 m 460 ls []) := by
  obtain ⟨⟨hx, hb, hr, hml, hown, hts, hX, hbl, hlocks, hgv⟩, hL, htr, hK, hXC, hXM, hE⟩ := id hLX
  have hbA : ¬ AA s b := Nat.not_le.mpr hbl
  obtain ⟨r, C', M', e1, e2, hrel'⟩ := m_wrongs hrel (xs (nI i + 1).toNatClampNeg)
  refine lv_aload_n hx hb dL_law_460 rfl (lv_at hl 1 rfl) ?_
  refine lv_aload_n hx hb dL_law_461 rfl (lv_at hl 0 rfl) ?_
  refine lv_iload hx hb dL_law_462 (lv_at hl 4 rfl) ?_
  refine lv_iconst (v := 1) hx hb dL_law_464 (by decide) ?_
  refine lv_iadd hx hb dL_law_465 ?_
  refine va_sld hx hb hX hbl hbA hS (in_k (k := 1) rfl (by omega) hL) dL_law_466 ?_
  refine lw_callC (As := [.int (xs (nI i + 1).toNatClampNeg)]) (rest := []) hLX hP hD hS hl.1 (con_X6_wrongs l σ (xs (nI i + 1).toNatClampNeg) e1) KL_57 rfl rfl rfl rfl ⟨Nat.le_of_ble_eq_true rfl, Nat.le_of_ble_eq_true rfl⟩ (Nat.le_of_ble_eq_true rfl) dL_law_467 ⟨by omega, by omega⟩ (fun H locs hP hD hS => ?_)
  show W p l e room_1 s m _ below meth c H locs _ _ _ (F0 m 470 ls [.int r])
  refine lv_aload_n hx hb dL_law_470 rfl (lv_at hl 2 rfl) ?_
  refine lv_aload_n hx hb dL_law_471 rfl (lv_at hl 0 rfl) ?_
  refine lv_iload hx hb dL_law_472 (lv_at hl 4 rfl) ?_
  refine lv_iconst (v := 1) hx hb dL_law_474 (by decide) ?_
  refine lv_iadd hx hb dL_law_475 ?_
  refine va_sld hx hb hX hbl hbA hS (in_k (k := 1) rfl (by omega) hL) dL_law_476 ?_
  refine lw_callM (As := [.int (xs (nI i + 1).toNatClampNeg)]) (rest := [.int r]) hLX hP hD hS hl.1 (con_X7_wrongs l τ (xs (nI i + 1).toNatClampNeg) e2) KL_60 rfl rfl rfl rfl ⟨Nat.le_of_ble_eq_true rfl, Nat.le_of_ble_eq_true rfl⟩ (Nat.le_of_ble_eq_true rfl) dL_law_477 ⟨by omega, by omega⟩ (fun H locs hP hD hS => ?_)
  show W p l e room_1 s m _ below meth c H locs _ _ _ (F0 m 480 ls [.int r, .int r])
  refine lv_icmp_eq (tgt := 1393) hx hb dL_law_480 (by decide) (fun _ => ?_) (fun q => absurd rfl q)
  exact W.widen (k := cells + 1) (n := slots + 6) (by omega) (by omega) (K _ _ _ _ _ _ hrel' hP hD hS hl)

set_option maxHeartbeats 4000000 in
set_option maxRecDepth 100000 in
theorem law_c9 {p : Program} {l : Launch} {e : Env} {s : State} {m : MethodId} {below : List Frame} {meth : Method} {c : Code} {b L : Nat} {xs : Nat → Int32} {D : va_G} {cy : Nat → ClassId} {aC aM : Nat → Nat} {o i cells slots : Nat} (hLX : LX p l s m meth c b L xs D cy aC aM) (hi : i + 5 ≤ L) (hroom : cells + 1 ≤ 1069 ∧ slots + 6 ≤ 10279) (K : KK p l e s m below meth c b D cy aC aM o i cells slots) {σ τ : St} {g : Nat → Int64} {H : Heap} {locs : List Loc} {ls : Array Slot} (hrel : Rel σ τ) (hP : va_P D vwCl (wL cy aC aM o σ τ g) H) (hD : va_D (AA s) (wL cy aC aM o σ τ g)) (hS : va_S (AA s) s.heap H locs) (hl : lv_has ls 8 (LV b aC aM o i)) : W p l e room_1 s m #[Value.ref b] below meth c H locs cells slots (lw_Z below #[Value.ref b] s) (F0 m 485 ls []) := by
  obtain ⟨⟨hx, hb, hr, hml, hown, hts, hX, hbl, hlocks, hgv⟩, hL, htr, hK, hXC, hXM, hE⟩ := id hLX
  have hbA : ¬ AA s b := Nat.not_le.mpr hbl
  obtain ⟨r, C', M', e1, e2, hrel'⟩ := m_slot hrel (xs (nI i + 1).toNatClampNeg) (xs (nI i + 2).toNatClampNeg)
  refine lv_aload_n hx hb dL_law_485 rfl (lv_at hl 1 rfl) ?_
  refine lv_aload_n hx hb dL_law_486 rfl (lv_at hl 0 rfl) ?_
  refine lv_iload hx hb dL_law_487 (lv_at hl 4 rfl) ?_
  refine lv_iconst (v := 1) hx hb dL_law_489 (by decide) ?_
  refine lv_iadd hx hb dL_law_490 ?_
  refine va_sld hx hb hX hbl hbA hS (in_k (k := 1) rfl (by omega) hL) dL_law_491 ?_
  refine lv_aload_n hx hb dL_law_492 rfl (lv_at hl 0 rfl) ?_
  refine lv_iload hx hb dL_law_493 (lv_at hl 4 rfl) ?_
  refine lv_iconst (v := 2) hx hb dL_law_495 (by decide) ?_
  refine lv_iadd hx hb dL_law_496 ?_
  refine va_sld hx hb hX hbl hbA hS (in_k (k := 2) rfl (by omega) hL) dL_law_497 ?_
  refine lw_callC (As := [.int (xs (nI i + 1).toNatClampNeg), .int (xs (nI i + 2).toNatClampNeg)]) (rest := []) hLX hP hD hS hl.1 (con_X6_slot l σ (xs (nI i + 1).toNatClampNeg) (xs (nI i + 2).toNatClampNeg) e1) KL_61 rfl rfl rfl rfl ⟨Nat.le_of_ble_eq_true rfl, Nat.le_of_ble_eq_true rfl⟩ (Nat.le_of_ble_eq_true rfl) dL_law_498 ⟨by omega, by omega⟩ (fun H locs hP hD hS => ?_)
  show W p l e room_1 s m _ below meth c H locs _ _ _ (F0 m 501 ls [.int r])
  refine lv_aload_n hx hb dL_law_501 rfl (lv_at hl 2 rfl) ?_
  refine lv_aload_n hx hb dL_law_502 rfl (lv_at hl 0 rfl) ?_
  refine lv_iload hx hb dL_law_503 (lv_at hl 4 rfl) ?_
  refine lv_iconst (v := 1) hx hb dL_law_505 (by decide) ?_
  refine lv_iadd hx hb dL_law_506 ?_
  refine va_sld hx hb hX hbl hbA hS (in_k (k := 1) rfl (by omega) hL) dL_law_507 ?_
  refine lv_aload_n hx hb dL_law_508 rfl (lv_at hl 0 rfl) ?_
  refine lv_iload hx hb dL_law_509 (lv_at hl 4 rfl) ?_
  refine lv_iconst (v := 2) hx hb dL_law_511 (by decide) ?_
  refine lv_iadd hx hb dL_law_512 ?_
  refine va_sld hx hb hX hbl hbA hS (in_k (k := 2) rfl (by omega) hL) dL_law_513 ?_
  refine lw_callM (As := [.int (xs (nI i + 1).toNatClampNeg), .int (xs (nI i + 2).toNatClampNeg)]) (rest := [.int r]) hLX hP hD hS hl.1 (con_X7_slot l τ (xs (nI i + 1).toNatClampNeg) (xs (nI i + 2).toNatClampNeg) e2) KL_64 rfl rfl rfl rfl ⟨Nat.le_of_ble_eq_true rfl, Nat.le_of_ble_eq_true rfl⟩ (Nat.le_of_ble_eq_true rfl) dL_law_514 ⟨by omega, by omega⟩ (fun H locs hP hD hS => ?_)
  show W p l e room_1 s m _ below meth c H locs _ _ _ (F0 m 517 ls [.int r, .int r])
  refine lv_icmp_eq (tgt := 1393) hx hb dL_law_517 (by decide) (fun _ => ?_) (fun q => absurd rfl q)
  exact W.widen (k := cells + 1) (n := slots + 6) (by omega) (by omega) (K _ _ _ _ _ _ hrel' hP hD hS hl)

theorem KW_word : (Cond.methodLink RL 65 yL_word ∈ UU ∧ Cond.initialized yL_word.cls ∈ UU ∧ Cond.codeWith yL_word cL_word 5 (some .int) [(0, 9, 12, 13)] ∈ UU ∧ Cond.static yL_word ∈ UU) ∧ (yL_word.cls ≠ "java/lang/invoke/MethodHandle" ∧ yL_word.cls ≠ "java/lang/invoke/VarHandle") ∧ (parseMethodDescriptor yL_word.desc).map (fun d => d.parameters.length) = some 4 := ⟨⟨uu_t 646 (by decide +kernel) rfl, uu_t 0 (by decide +kernel) rfl, uu_t 648 (by decide +kernel) rfl, uu_t 647 (by decide +kernel) rfl⟩, ⟨by decide +kernel, by decide +kernel⟩, by decide +kernel⟩
set_option maxHeartbeats 4000000 in
set_option maxRecDepth 100000 in
theorem law_c10 {p : Program} {l : Launch} {e : Env} {s : State} {m : MethodId} {below : List Frame} {meth : Method} {c : Code} {b L : Nat} {xs : Nat → Int32} {D : va_G} {cy : Nat → ClassId} {aC aM : Nat → Nat} {o i cells slots : Nat} (hLX : LX p l s m meth c b L xs D cy aC aM) (hi : i + 5 ≤ L) (hroom : cells + 1 ≤ 1069 ∧ slots + 6 ≤ 10279) (K : KK p l e s m below meth c b D cy aC aM o i cells slots) {σ τ : St} {g : Nat → Int64} {H : Heap} {locs : List Loc} {ls : Array Slot} (hrel : Rel σ τ) (hP : va_P D vwCl (wL cy aC aM o σ τ g) H) (hD : va_D (AA s) (wL cy aC aM o σ τ g)) (hS : va_S (AA s) s.heap H locs) (hl : lv_has ls 8 (LV b aC aM o i)) : W p l e room_1 s m #[Value.ref b] below meth c H locs cells slots (lw_Z below #[Value.ref b] s) (F0 m 522 ls []) := by
  obtain ⟨⟨hx, hb, hr, hml, hown, hts, hX, hbl, hlocks, hgv⟩, hL, htr, hK, hXC, hXM, hE⟩ := id hLX
  have hbA : ¬ AA s b := Nat.not_le.mpr hbl
  rcases m_word hrel (xs (nI i + 1).toNatClampNeg) (xs (nI i + 2).toNatClampNeg) with ⟨hw, r, M', e2, e3, hrel'⟩ | ⟨r, C', M', e1, e2, e3, hrel'⟩
  · refine lv_aload_n hx hb dL_law_522 rfl (lv_at hl 1 rfl) ?_
    refine lv_aload_n hx hb dL_law_523 rfl (lv_at hl 0 rfl) ?_
    refine lv_iload hx hb dL_law_524 (lv_at hl 4 rfl) ?_
    refine lv_iconst (v := 1) hx hb dL_law_526 (by decide) ?_
    refine lv_iadd hx hb dL_law_527 ?_
    refine va_sld hx hb hX hbl hbA hS (in_k (k := 1) rfl (by omega) hL) dL_law_528 ?_
    refine lv_aload_n hx hb dL_law_529 rfl (lv_at hl 0 rfl) ?_
    refine lv_iload hx hb dL_law_530 (lv_at hl 4 rfl) ?_
    refine lv_iconst (v := 2) hx hb dL_law_532 (by decide) ?_
    refine lv_iadd hx hb dL_law_533 ?_
    refine va_sld hx hb hX hbl hbA hS (in_k (k := 2) rfl (by omega) hL) dL_law_534 ?_
    refine lv_aload_n hx hb dL_law_535 rfl (lv_at hl 3 rfl) ?_
    refine lw_wrap (As := [.ref (aC 0), .int (xs (nI i + 1).toNatClampNeg), .int (xs (nI i + 2).toNatClampNeg), .ref o]) (rest := []) hLX hP hD hS hl.1 (fun sz => thr_Lword l htr σ (xs (nI i + 1).toNatClampNeg) (xs (nI i + 2).toNatClampNeg) o g hw D cy aC sz) KW_word rfl rfl (Nat.le_of_ble_eq_true rfl) (Nat.le_of_ble_eq_true rfl) dL_law_536 hroom (fun H locs hP hD hS => ?_)
    refine lv_istore (lv' := (5, .int 1) :: LV b aC aM o i) hx hb dL_law_539 hl (by decide) rfl (fun ls hl => ?_)
    refine lv_aload_n hx hb dL_law_541 rfl (lv_at hl 3 rfl) ?_
    refine lv_aload_n hx hb dL_law_542 rfl (lv_at hl 1 rfl) ?_
    refine lv_iload hx hb dL_law_543 (lv_at hl 5 rfl) ?_
    refine lv_iconst (v := 1) hx hb dL_law_545 (by decide) ?_
    refine lv_iadd hx hb dL_law_546 ?_
    refine va_sld hx hb hX hbl hbA hS (in_k (k := 1) rfl (by omega) hL) dL_law_547 ?_
    refine lv_aload_n hx hb dL_law_548 rfl (lv_at hl 1 rfl) ?_
    refine lv_iload hx hb dL_law_549 (lv_at hl 5 rfl) ?_
    refine lv_iconst (v := 2) hx hb dL_law_551 (by decide) ?_
    refine lv_iadd hx hb dL_law_552 ?_
    refine va_sld hx hb hX hbl hbA hS (in_k (k := 2) rfl (by omega) hL) dL_law_553 ?_
    refine lw_callM (As := [.int (xs (nI i + 1).toNatClampNeg), .int (xs (nI i + 2).toNatClampNeg)]) (rest := []) hLX hP hD hS hl.1 (con_X7_word l τ (xs (nI i + 1).toNatClampNeg) (xs (nI i + 2).toNatClampNeg) e2) KL_70 rfl rfl rfl rfl ⟨Nat.le_of_ble_eq_true rfl, Nat.le_of_ble_eq_true rfl⟩ (Nat.le_of_ble_eq_true rfl) dL_law_554 hroom (fun H locs hP hD hS => ?_)
    show W p l e room_1 s m _ below meth c H locs _ _ _ (F0 m 557 ls [.long r])
    refine lv_lstore (lv' := (6, .long r) :: (5, .int 1) :: LV b aC aM o i) hx hb dL_law_557 hl (by decide) rfl (fun ls hl => ?_)
    refine lv_aload_n hx hb dL_law_559 rfl (lv_at hl 4 rfl) ?_
    refine lw_callM (As := []) (rest := []) hLX hP hD hS hl.1 (con_X7_thrown l M' (r := 1) e3) KL_71 rfl rfl rfl rfl ⟨Nat.le_of_ble_eq_true rfl, Nat.le_of_ble_eq_true rfl⟩ (Nat.le_of_ble_eq_true rfl) dL_law_560 hroom (fun H locs hP hD hS => ?_)
    show W p l e room_1 s m _ below meth c H locs _ _ _ (F0 m 563 ls [.int 1])
    refine lv_iload hx hb dL_law_563 (lv_at hl 1 rfl) ?_
    refine lv_icmp_eq (tgt := 570) hx hb dL_law_565 (by decide) (fun _ => ?_) (fun q => absurd rfl q)
    refine lv_iload hx hb dL_law_570 (lv_at hl 1 rfl) ?_
    refine lv_if_ne (tgt := 586) hx hb dL_law_572 (by decide) (fun _ => ?_) (fun q => absurd q (by decide))
    refine lv_goto (tgt := 1393) hx hb dL_law_586 (by decide) ?_
    exact K _ _ _ _ _ _ hrel' hP hD hS (lv_sub hl [2, 3, 4, 5, 6] rfl)
  · refine lv_aload_n hx hb dL_law_522 rfl (lv_at hl 1 rfl) ?_
    refine lv_aload_n hx hb dL_law_523 rfl (lv_at hl 0 rfl) ?_
    refine lv_iload hx hb dL_law_524 (lv_at hl 4 rfl) ?_
    refine lv_iconst (v := 1) hx hb dL_law_526 (by decide) ?_
    refine lv_iadd hx hb dL_law_527 ?_
    refine va_sld hx hb hX hbl hbA hS (in_k (k := 1) rfl (by omega) hL) dL_law_528 ?_
    refine lv_aload_n hx hb dL_law_529 rfl (lv_at hl 0 rfl) ?_
    refine lv_iload hx hb dL_law_530 (lv_at hl 4 rfl) ?_
    refine lv_iconst (v := 2) hx hb dL_law_532 (by decide) ?_
    refine lv_iadd hx hb dL_law_533 ?_
    refine va_sld hx hb hX hbl hbA hS (in_k (k := 2) rfl (by omega) hL) dL_law_534 ?_
    refine lv_aload_n hx hb dL_law_535 rfl (lv_at hl 3 rfl) ?_
    refine lw_wrap (As := [.ref (aC 0), .int (xs (nI i + 1).toNatClampNeg), .int (xs (nI i + 2).toNatClampNeg), .ref o]) (rest := []) hLX hP hD hS hl.1 (fun sz => ret_Lword l σ (xs (nI i + 1).toNatClampNeg) (xs (nI i + 2).toNatClampNeg) o g e1 D cy aC sz) KW_word rfl rfl (Nat.le_of_ble_eq_true rfl) (Nat.le_of_ble_eq_true rfl) dL_law_536 hroom (fun H locs hP hD hS => ?_)
    refine lv_istore (lv' := (5, .int 0) :: LV b aC aM o i) hx hb dL_law_539 hl (by decide) rfl (fun ls hl => ?_)
    refine lv_aload_n hx hb dL_law_541 rfl (lv_at hl 3 rfl) ?_
    refine lv_aload_n hx hb dL_law_542 rfl (lv_at hl 1 rfl) ?_
    refine lv_iload hx hb dL_law_543 (lv_at hl 5 rfl) ?_
    refine lv_iconst (v := 1) hx hb dL_law_545 (by decide) ?_
    refine lv_iadd hx hb dL_law_546 ?_
    refine va_sld hx hb hX hbl hbA hS (in_k (k := 1) rfl (by omega) hL) dL_law_547 ?_
    refine lv_aload_n hx hb dL_law_548 rfl (lv_at hl 1 rfl) ?_
    refine lv_iload hx hb dL_law_549 (lv_at hl 5 rfl) ?_
    refine lv_iconst (v := 2) hx hb dL_law_551 (by decide) ?_
    refine lv_iadd hx hb dL_law_552 ?_
    refine va_sld hx hb hX hbl hbA hS (in_k (k := 2) rfl (by omega) hL) dL_law_553 ?_
    refine lw_callM (As := [.int (xs (nI i + 1).toNatClampNeg), .int (xs (nI i + 2).toNatClampNeg)]) (rest := []) hLX hP hD hS hl.1 (con_X7_word l τ (xs (nI i + 1).toNatClampNeg) (xs (nI i + 2).toNatClampNeg) e2) KL_70 rfl rfl rfl rfl ⟨Nat.le_of_ble_eq_true rfl, Nat.le_of_ble_eq_true rfl⟩ (Nat.le_of_ble_eq_true rfl) dL_law_554 hroom (fun H locs hP hD hS => ?_)
    show W p l e room_1 s m _ below meth c H locs _ _ _ (F0 m 557 ls [.long r])
    refine lv_lstore (lv' := (6, .long r) :: (5, .int 0) :: LV b aC aM o i) hx hb dL_law_557 hl (by decide) rfl (fun ls hl => ?_)
    refine lv_aload_n hx hb dL_law_559 rfl (lv_at hl 4 rfl) ?_
    refine lw_callM (As := []) (rest := []) hLX hP hD hS hl.1 (con_X7_thrown l M' (r := 0) e3) KL_71 rfl rfl rfl rfl ⟨Nat.le_of_ble_eq_true rfl, Nat.le_of_ble_eq_true rfl⟩ (Nat.le_of_ble_eq_true rfl) dL_law_560 hroom (fun H locs hP hD hS => ?_)
    show W p l e room_1 s m _ below meth c H locs _ _ _ (F0 m 563 ls [.int 0])
    refine lv_iload hx hb dL_law_563 (lv_at hl 1 rfl) ?_
    refine lv_icmp_eq (tgt := 570) hx hb dL_law_565 (by decide) (fun _ => ?_) (fun q => absurd rfl q)
    refine lv_iload hx hb dL_law_570 (lv_at hl 1 rfl) ?_
    refine lv_if_ne (tgt := 586) hx hb dL_law_572 (by decide) (fun q => absurd rfl q) (fun _ => ?_)
    refine lv_aload_n hx hb dL_law_575 rfl (lv_at hl 5 rfl) ?_
    refine lv_iconst (v := 0) hx hb dL_law_576 (by decide) ?_
    refine va_lald hx hb hK hP 42 1 rfl rfl (in_b_vp (by decide)) dL_law_577 ?_
    refine lv_lload hx hb dL_law_578 (lv_at hl 0 rfl) ?_
    refine W.lcmp hx hb dL_law_580 ?_
    refine lv_if_eq (tgt := 586) hx hb dL_law_581 (by decide) (fun _ => ?_) (fun q => absurd (lg_0.2 rfl) q)
    refine lv_goto (tgt := 1393) hx hb dL_law_586 (by decide) ?_
    exact K _ _ _ _ _ _ hrel' hP hD hS (lv_sub hl [2, 3, 4, 5, 6] rfl)

set_option maxHeartbeats 4000000 in
set_option maxRecDepth 100000 in
theorem law_c11 {p : Program} {l : Launch} {e : Env} {s : State} {m : MethodId} {below : List Frame} {meth : Method} {c : Code} {b L : Nat} {xs : Nat → Int32} {D : va_G} {cy : Nat → ClassId} {aC aM : Nat → Nat} {o i cells slots : Nat} (hLX : LX p l s m meth c b L xs D cy aC aM) (hi : i + 5 ≤ L) (hroom : cells + 1 ≤ 1069 ∧ slots + 6 ≤ 10279) (K : KK p l e s m below meth c b D cy aC aM o i cells slots) {σ τ : St} {g : Nat → Int64} {H : Heap} {locs : List Loc} {ls : Array Slot} (hrel : Rel σ τ) (hP : va_P D vwCl (wL cy aC aM o σ τ g) H) (hD : va_D (AA s) (wL cy aC aM o σ τ g)) (hS : va_S (AA s) s.heap H locs) (hl : lv_has ls 8 (LV b aC aM o i)) : W p l e room_1 s m #[Value.ref b] below meth c H locs cells slots (lw_Z below #[Value.ref b] s) (F0 m 589 ls []) := by
  obtain ⟨⟨hx, hb, hr, hml, hown, hts, hX, hbl, hlocks, hgv⟩, hL, htr, hK, hXC, hXM, hE⟩ := id hLX
  have hbA : ¬ AA s b := Nat.not_le.mpr hbl
  obtain ⟨r, C', M', e1, e2, hrel'⟩ := m_lays hrel (xs (nI i + 1).toNatClampNeg)
  refine lv_aload_n hx hb dL_law_589 rfl (lv_at hl 1 rfl) ?_
  refine lv_aload_n hx hb dL_law_590 rfl (lv_at hl 0 rfl) ?_
  refine lv_iload hx hb dL_law_591 (lv_at hl 4 rfl) ?_
  refine lv_iconst (v := 1) hx hb dL_law_593 (by decide) ?_
  refine lv_iadd hx hb dL_law_594 ?_
  refine va_sld hx hb hX hbl hbA hS (in_k (k := 1) rfl (by omega) hL) dL_law_595 ?_
  refine lw_callC (As := [.int (xs (nI i + 1).toNatClampNeg)]) (rest := []) hLX hP hD hS hl.1 (con_X6_lays l σ (xs (nI i + 1).toNatClampNeg) e1) KL_75 rfl rfl rfl rfl ⟨Nat.le_of_ble_eq_true rfl, Nat.le_of_ble_eq_true rfl⟩ (Nat.le_of_ble_eq_true rfl) dL_law_596 ⟨by omega, by omega⟩ (fun H locs hP hD hS => ?_)
  show W p l e room_1 s m _ below meth c H locs _ _ _ (F0 m 599 ls [.int r])
  refine lv_aload_n hx hb dL_law_599 rfl (lv_at hl 2 rfl) ?_
  refine lv_aload_n hx hb dL_law_600 rfl (lv_at hl 0 rfl) ?_
  refine lv_iload hx hb dL_law_601 (lv_at hl 4 rfl) ?_
  refine lv_iconst (v := 1) hx hb dL_law_603 (by decide) ?_
  refine lv_iadd hx hb dL_law_604 ?_
  refine va_sld hx hb hX hbl hbA hS (in_k (k := 1) rfl (by omega) hL) dL_law_605 ?_
  refine lw_callM (As := [.int (xs (nI i + 1).toNatClampNeg)]) (rest := [.int r]) hLX hP hD hS hl.1 (con_X7_lays l τ (xs (nI i + 1).toNatClampNeg) e2) KL_78 rfl rfl rfl rfl ⟨Nat.le_of_ble_eq_true rfl, Nat.le_of_ble_eq_true rfl⟩ (Nat.le_of_ble_eq_true rfl) dL_law_606 ⟨by omega, by omega⟩ (fun H locs hP hD hS => ?_)
  show W p l e room_1 s m _ below meth c H locs _ _ _ (F0 m 609 ls [.int r, .int r])
  refine lv_icmp_eq (tgt := 1393) hx hb dL_law_609 (by decide) (fun _ => ?_) (fun q => absurd rfl q)
  exact W.widen (k := cells + 1) (n := slots + 6) (by omega) (by omega) (K _ _ _ _ _ _ hrel' hP hD hS hl)

set_option maxHeartbeats 4000000 in
set_option maxRecDepth 100000 in
theorem law_c12 {p : Program} {l : Launch} {e : Env} {s : State} {m : MethodId} {below : List Frame} {meth : Method} {c : Code} {b L : Nat} {xs : Nat → Int32} {D : va_G} {cy : Nat → ClassId} {aC aM : Nat → Nat} {o i cells slots : Nat} (hLX : LX p l s m meth c b L xs D cy aC aM) (hi : i + 5 ≤ L) (hroom : cells + 1 ≤ 1069 ∧ slots + 6 ≤ 10279) (K : KK p l e s m below meth c b D cy aC aM o i cells slots) {σ τ : St} {g : Nat → Int64} {H : Heap} {locs : List Loc} {ls : Array Slot} (hrel : Rel σ τ) (hP : va_P D vwCl (wL cy aC aM o σ τ g) H) (hD : va_D (AA s) (wL cy aC aM o σ τ g)) (hS : va_S (AA s) s.heap H locs) (hl : lv_has ls 8 (LV b aC aM o i)) : W p l e room_1 s m #[Value.ref b] below meth c H locs cells slots (lw_Z below #[Value.ref b] s) (F0 m 614 ls []) := by
  obtain ⟨⟨hx, hb, hr, hml, hown, hts, hX, hbl, hlocks, hgv⟩, hL, htr, hK, hXC, hXM, hE⟩ := id hLX
  have hbA : ¬ AA s b := Nat.not_le.mpr hbl
  obtain ⟨r, C', M', e1, e2, hrel'⟩ := m_sets hrel (xs (nI i + 1).toNatClampNeg) (xs (nI i + 2).toNatClampNeg) (xs (nI i + 3).toNatClampNeg) (xs (nI i + 4).toNatClampNeg)
  refine lv_aload_n hx hb dL_law_614 rfl (lv_at hl 1 rfl) ?_
  refine lv_aload_n hx hb dL_law_615 rfl (lv_at hl 0 rfl) ?_
  refine lv_iload hx hb dL_law_616 (lv_at hl 4 rfl) ?_
  refine lv_iconst (v := 1) hx hb dL_law_618 (by decide) ?_
  refine lv_iadd hx hb dL_law_619 ?_
  refine va_sld hx hb hX hbl hbA hS (in_k (k := 1) rfl (by omega) hL) dL_law_620 ?_
  refine lv_aload_n hx hb dL_law_621 rfl (lv_at hl 0 rfl) ?_
  refine lv_iload hx hb dL_law_622 (lv_at hl 4 rfl) ?_
  refine lv_iconst (v := 2) hx hb dL_law_624 (by decide) ?_
  refine lv_iadd hx hb dL_law_625 ?_
  refine va_sld hx hb hX hbl hbA hS (in_k (k := 2) rfl (by omega) hL) dL_law_626 ?_
  refine lv_aload_n hx hb dL_law_627 rfl (lv_at hl 0 rfl) ?_
  refine lv_iload hx hb dL_law_628 (lv_at hl 4 rfl) ?_
  refine lv_iconst (v := 3) hx hb dL_law_630 (by decide) ?_
  refine lv_iadd hx hb dL_law_631 ?_
  refine va_sld hx hb hX hbl hbA hS (in_k (k := 3) rfl (by omega) hL) dL_law_632 ?_
  refine lv_aload_n hx hb dL_law_633 rfl (lv_at hl 0 rfl) ?_
  refine lv_iload hx hb dL_law_634 (lv_at hl 4 rfl) ?_
  refine lv_iconst (v := 4) hx hb dL_law_636 (by decide) ?_
  refine lv_iadd hx hb dL_law_637 ?_
  refine va_sld hx hb hX hbl hbA hS (in_k (k := 4) rfl (by omega) hL) dL_law_638 ?_
  refine lw_callC (As := [.int (xs (nI i + 1).toNatClampNeg), .int (xs (nI i + 2).toNatClampNeg), .int (xs (nI i + 3).toNatClampNeg), .int (xs (nI i + 4).toNatClampNeg)]) (rest := []) hLX hP hD hS hl.1 (con_X6_sets l σ (xs (nI i + 1).toNatClampNeg) (xs (nI i + 2).toNatClampNeg) (xs (nI i + 3).toNatClampNeg) (xs (nI i + 4).toNatClampNeg) e1) KL_79 rfl rfl rfl rfl ⟨Nat.le_of_ble_eq_true rfl, Nat.le_of_ble_eq_true rfl⟩ (Nat.le_of_ble_eq_true rfl) dL_law_639 ⟨by omega, by omega⟩ (fun H locs hP hD hS => ?_)
  show W p l e room_1 s m _ below meth c H locs _ _ _ (F0 m 642 ls [.int r])
  refine lv_aload_n hx hb dL_law_642 rfl (lv_at hl 2 rfl) ?_
  refine lv_aload_n hx hb dL_law_643 rfl (lv_at hl 0 rfl) ?_
  refine lv_iload hx hb dL_law_644 (lv_at hl 4 rfl) ?_
  refine lv_iconst (v := 1) hx hb dL_law_646 (by decide) ?_
  refine lv_iadd hx hb dL_law_647 ?_
  refine va_sld hx hb hX hbl hbA hS (in_k (k := 1) rfl (by omega) hL) dL_law_648 ?_
  refine lv_aload_n hx hb dL_law_649 rfl (lv_at hl 0 rfl) ?_
  refine lv_iload hx hb dL_law_650 (lv_at hl 4 rfl) ?_
  refine lv_iconst (v := 2) hx hb dL_law_652 (by decide) ?_
  refine lv_iadd hx hb dL_law_653 ?_
  refine va_sld hx hb hX hbl hbA hS (in_k (k := 2) rfl (by omega) hL) dL_law_654 ?_
  refine lv_aload_n hx hb dL_law_655 rfl (lv_at hl 0 rfl) ?_
  refine lv_iload hx hb dL_law_656 (lv_at hl 4 rfl) ?_
  refine lv_iconst (v := 3) hx hb dL_law_658 (by decide) ?_
  refine lv_iadd hx hb dL_law_659 ?_
  refine va_sld hx hb hX hbl hbA hS (in_k (k := 3) rfl (by omega) hL) dL_law_660 ?_
  refine lv_aload_n hx hb dL_law_661 rfl (lv_at hl 0 rfl) ?_
  refine lv_iload hx hb dL_law_662 (lv_at hl 4 rfl) ?_
  refine lv_iconst (v := 4) hx hb dL_law_664 (by decide) ?_
  refine lv_iadd hx hb dL_law_665 ?_
  refine va_sld hx hb hX hbl hbA hS (in_k (k := 4) rfl (by omega) hL) dL_law_666 ?_
  refine lw_callM (As := [.int (xs (nI i + 1).toNatClampNeg), .int (xs (nI i + 2).toNatClampNeg), .int (xs (nI i + 3).toNatClampNeg), .int (xs (nI i + 4).toNatClampNeg)]) (rest := [.int r]) hLX hP hD hS hl.1 (con_X7_sets l τ (xs (nI i + 1).toNatClampNeg) (xs (nI i + 2).toNatClampNeg) (xs (nI i + 3).toNatClampNeg) (xs (nI i + 4).toNatClampNeg) e2) KL_83 rfl rfl rfl rfl ⟨Nat.le_of_ble_eq_true rfl, Nat.le_of_ble_eq_true rfl⟩ (Nat.le_of_ble_eq_true rfl) dL_law_667 ⟨by omega, by omega⟩ (fun H locs hP hD hS => ?_)
  show W p l e room_1 s m _ below meth c H locs _ _ _ (F0 m 670 ls [.int r, .int r])
  refine lv_icmp_eq (tgt := 1393) hx hb dL_law_670 (by decide) (fun _ => ?_) (fun q => absurd rfl q)
  exact W.widen (k := cells + 1) (n := slots + 6) (by omega) (by omega) (K _ _ _ _ _ _ hrel' hP hD hS hl)

set_option maxHeartbeats 4000000 in
set_option maxRecDepth 100000 in
theorem law_c13 {p : Program} {l : Launch} {e : Env} {s : State} {m : MethodId} {below : List Frame} {meth : Method} {c : Code} {b L : Nat} {xs : Nat → Int32} {D : va_G} {cy : Nat → ClassId} {aC aM : Nat → Nat} {o i cells slots : Nat} (hLX : LX p l s m meth c b L xs D cy aC aM) (hi : i + 5 ≤ L) (hroom : cells + 1 ≤ 1069 ∧ slots + 6 ≤ 10279) (K : KK p l e s m below meth c b D cy aC aM o i cells slots) {σ τ : St} {g : Nat → Int64} {H : Heap} {locs : List Loc} {ls : Array Slot} (hrel : Rel σ τ) (hP : va_P D vwCl (wL cy aC aM o σ τ g) H) (hD : va_D (AA s) (wL cy aC aM o σ τ g)) (hS : va_S (AA s) s.heap H locs) (hl : lv_has ls 8 (LV b aC aM o i)) : W p l e room_1 s m #[Value.ref b] below meth c H locs cells slots (lw_Z below #[Value.ref b] s) (F0 m 675 ls []) := by
  obtain ⟨⟨hx, hb, hr, hml, hown, hts, hX, hbl, hlocks, hgv⟩, hL, htr, hK, hXC, hXM, hE⟩ := id hLX
  have hbA : ¬ AA s b := Nat.not_le.mpr hbl
  obtain ⟨r, C', M', e1, e2, hrel'⟩ := m_run hrel (xs (nI i + 1).toNatClampNeg) (xs (nI i + 2).toNatClampNeg)
  refine lv_aload_n hx hb dL_law_675 rfl (lv_at hl 1 rfl) ?_
  refine lv_aload_n hx hb dL_law_676 rfl (lv_at hl 0 rfl) ?_
  refine lv_iload hx hb dL_law_677 (lv_at hl 4 rfl) ?_
  refine lv_iconst (v := 1) hx hb dL_law_679 (by decide) ?_
  refine lv_iadd hx hb dL_law_680 ?_
  refine va_sld hx hb hX hbl hbA hS (in_k (k := 1) rfl (by omega) hL) dL_law_681 ?_
  refine lv_aload_n hx hb dL_law_682 rfl (lv_at hl 0 rfl) ?_
  refine lv_iload hx hb dL_law_683 (lv_at hl 4 rfl) ?_
  refine lv_iconst (v := 2) hx hb dL_law_685 (by decide) ?_
  refine lv_iadd hx hb dL_law_686 ?_
  refine va_sld hx hb hX hbl hbA hS (in_k (k := 2) rfl (by omega) hL) dL_law_687 ?_
  refine lw_callC (As := [.int (xs (nI i + 1).toNatClampNeg), .int (xs (nI i + 2).toNatClampNeg)]) (rest := []) hLX hP hD hS hl.1 (con_X6_run l σ (xs (nI i + 1).toNatClampNeg) (xs (nI i + 2).toNatClampNeg) e1) KL_84 rfl rfl rfl rfl ⟨Nat.le_of_ble_eq_true rfl, Nat.le_of_ble_eq_true rfl⟩ (Nat.le_of_ble_eq_true rfl) dL_law_688 ⟨by omega, by omega⟩ (fun H locs hP hD hS => ?_)
  show W p l e room_1 s m _ below meth c H locs _ _ _ (F0 m 691 ls [.int r])
  refine lv_aload_n hx hb dL_law_691 rfl (lv_at hl 2 rfl) ?_
  refine lv_aload_n hx hb dL_law_692 rfl (lv_at hl 0 rfl) ?_
  refine lv_iload hx hb dL_law_693 (lv_at hl 4 rfl) ?_
  refine lv_iconst (v := 1) hx hb dL_law_695 (by decide) ?_
  refine lv_iadd hx hb dL_law_696 ?_
  refine va_sld hx hb hX hbl hbA hS (in_k (k := 1) rfl (by omega) hL) dL_law_697 ?_
  refine lv_aload_n hx hb dL_law_698 rfl (lv_at hl 0 rfl) ?_
  refine lv_iload hx hb dL_law_699 (lv_at hl 4 rfl) ?_
  refine lv_iconst (v := 2) hx hb dL_law_701 (by decide) ?_
  refine lv_iadd hx hb dL_law_702 ?_
  refine va_sld hx hb hX hbl hbA hS (in_k (k := 2) rfl (by omega) hL) dL_law_703 ?_
  refine lw_callM (As := [.int (xs (nI i + 1).toNatClampNeg), .int (xs (nI i + 2).toNatClampNeg)]) (rest := [.int r]) hLX hP hD hS hl.1 (con_X7_run l τ (xs (nI i + 1).toNatClampNeg) (xs (nI i + 2).toNatClampNeg) e2) KL_87 rfl rfl rfl rfl ⟨Nat.le_of_ble_eq_true rfl, Nat.le_of_ble_eq_true rfl⟩ (Nat.le_of_ble_eq_true rfl) dL_law_704 ⟨by omega, by omega⟩ (fun H locs hP hD hS => ?_)
  show W p l e room_1 s m _ below meth c H locs _ _ _ (F0 m 707 ls [.int r, .int r])
  refine lv_icmp_eq (tgt := 1393) hx hb dL_law_707 (by decide) (fun _ => ?_) (fun q => absurd rfl q)
  exact W.widen (k := cells + 1) (n := slots + 6) (by omega) (by omega) (K _ _ _ _ _ _ hrel' hP hD hS hl)

set_option maxHeartbeats 4000000 in
set_option maxRecDepth 100000 in
theorem law_c14 {p : Program} {l : Launch} {e : Env} {s : State} {m : MethodId} {below : List Frame} {meth : Method} {c : Code} {b L : Nat} {xs : Nat → Int32} {D : va_G} {cy : Nat → ClassId} {aC aM : Nat → Nat} {o i cells slots : Nat} (hLX : LX p l s m meth c b L xs D cy aC aM) (hi : i + 5 ≤ L) (hroom : cells + 1 ≤ 1069 ∧ slots + 6 ≤ 10279) (K : KK p l e s m below meth c b D cy aC aM o i cells slots) {σ τ : St} {g : Nat → Int64} {H : Heap} {locs : List Loc} {ls : Array Slot} (hrel : Rel σ τ) (hP : va_P D vwCl (wL cy aC aM o σ τ g) H) (hD : va_D (AA s) (wL cy aC aM o σ τ g)) (hS : va_S (AA s) s.heap H locs) (hl : lv_has ls 8 (LV b aC aM o i)) : W p l e room_1 s m #[Value.ref b] below meth c H locs cells slots (lw_Z below #[Value.ref b] s) (F0 m 712 ls []) := by
  obtain ⟨⟨hx, hb, hr, hml, hown, hts, hX, hbl, hlocks, hgv⟩, hL, htr, hK, hXC, hXM, hE⟩ := id hLX
  have hbA : ¬ AA s b := Nat.not_le.mpr hbl
  obtain ⟨r, C', M', e1, e2, hrel'⟩ := m_cluster hrel (xs (nI i + 1).toNatClampNeg) (xs (nI i + 2).toNatClampNeg)
  refine lv_aload_n hx hb dL_law_712 rfl (lv_at hl 1 rfl) ?_
  refine lv_aload_n hx hb dL_law_713 rfl (lv_at hl 0 rfl) ?_
  refine lv_iload hx hb dL_law_714 (lv_at hl 4 rfl) ?_
  refine lv_iconst (v := 1) hx hb dL_law_716 (by decide) ?_
  refine lv_iadd hx hb dL_law_717 ?_
  refine va_sld hx hb hX hbl hbA hS (in_k (k := 1) rfl (by omega) hL) dL_law_718 ?_
  refine lv_aload_n hx hb dL_law_719 rfl (lv_at hl 0 rfl) ?_
  refine lv_iload hx hb dL_law_720 (lv_at hl 4 rfl) ?_
  refine lv_iconst (v := 2) hx hb dL_law_722 (by decide) ?_
  refine lv_iadd hx hb dL_law_723 ?_
  refine va_sld hx hb hX hbl hbA hS (in_k (k := 2) rfl (by omega) hL) dL_law_724 ?_
  refine lw_callC (As := [.int (xs (nI i + 1).toNatClampNeg), .int (xs (nI i + 2).toNatClampNeg)]) (rest := []) hLX hP hD hS hl.1 (con_X6_cluster l σ (xs (nI i + 1).toNatClampNeg) (xs (nI i + 2).toNatClampNeg) e1) KL_88 rfl rfl rfl rfl ⟨Nat.le_of_ble_eq_true rfl, Nat.le_of_ble_eq_true rfl⟩ (Nat.le_of_ble_eq_true rfl) dL_law_725 ⟨by omega, by omega⟩ (fun H locs hP hD hS => ?_)
  show W p l e room_1 s m _ below meth c H locs _ _ _ (F0 m 728 ls [.int r])
  refine lv_aload_n hx hb dL_law_728 rfl (lv_at hl 2 rfl) ?_
  refine lv_aload_n hx hb dL_law_729 rfl (lv_at hl 0 rfl) ?_
  refine lv_iload hx hb dL_law_730 (lv_at hl 4 rfl) ?_
  refine lv_iconst (v := 1) hx hb dL_law_732 (by decide) ?_
  refine lv_iadd hx hb dL_law_733 ?_
  refine va_sld hx hb hX hbl hbA hS (in_k (k := 1) rfl (by omega) hL) dL_law_734 ?_
  refine lv_aload_n hx hb dL_law_735 rfl (lv_at hl 0 rfl) ?_
  refine lv_iload hx hb dL_law_736 (lv_at hl 4 rfl) ?_
  refine lv_iconst (v := 2) hx hb dL_law_738 (by decide) ?_
  refine lv_iadd hx hb dL_law_739 ?_
  refine va_sld hx hb hX hbl hbA hS (in_k (k := 2) rfl (by omega) hL) dL_law_740 ?_
  refine lw_callM (As := [.int (xs (nI i + 1).toNatClampNeg), .int (xs (nI i + 2).toNatClampNeg)]) (rest := [.int r]) hLX hP hD hS hl.1 (con_X7_cluster l τ (xs (nI i + 1).toNatClampNeg) (xs (nI i + 2).toNatClampNeg) e2) KL_91 rfl rfl rfl rfl ⟨Nat.le_of_ble_eq_true rfl, Nat.le_of_ble_eq_true rfl⟩ (Nat.le_of_ble_eq_true rfl) dL_law_741 ⟨by omega, by omega⟩ (fun H locs hP hD hS => ?_)
  show W p l e room_1 s m _ below meth c H locs _ _ _ (F0 m 744 ls [.int r, .int r])
  refine lv_icmp_eq (tgt := 1393) hx hb dL_law_744 (by decide) (fun _ => ?_) (fun q => absurd rfl q)
  exact W.widen (k := cells + 1) (n := slots + 6) (by omega) (by omega) (K _ _ _ _ _ _ hrel' hP hD hS hl)

set_option maxHeartbeats 4000000 in
set_option maxRecDepth 100000 in
theorem law_c15 {p : Program} {l : Launch} {e : Env} {s : State} {m : MethodId} {below : List Frame} {meth : Method} {c : Code} {b L : Nat} {xs : Nat → Int32} {D : va_G} {cy : Nat → ClassId} {aC aM : Nat → Nat} {o i cells slots : Nat} (hLX : LX p l s m meth c b L xs D cy aC aM) (hi : i + 5 ≤ L) (hroom : cells + 1 ≤ 1069 ∧ slots + 6 ≤ 10279) (K : KK p l e s m below meth c b D cy aC aM o i cells slots) {σ τ : St} {g : Nat → Int64} {H : Heap} {locs : List Loc} {ls : Array Slot} (hrel : Rel σ τ) (hP : va_P D vwCl (wL cy aC aM o σ τ g) H) (hD : va_D (AA s) (wL cy aC aM o σ τ g)) (hS : va_S (AA s) s.heap H locs) (hl : lv_has ls 8 (LV b aC aM o i)) : W p l e room_1 s m #[Value.ref b] below meth c H locs cells slots (lw_Z below #[Value.ref b] s) (F0 m 749 ls []) := by
  obtain ⟨⟨hx, hb, hr, hml, hown, hts, hX, hbl, hlocks, hgv⟩, hL, htr, hK, hXC, hXM, hE⟩ := id hLX
  have hbA : ¬ AA s b := Nat.not_le.mpr hbl
  obtain ⟨r, C', M', e1, e2, hrel'⟩ := m_clusters hrel (xs (nI i + 1).toNatClampNeg)
  refine lv_aload_n hx hb dL_law_749 rfl (lv_at hl 1 rfl) ?_
  refine lv_aload_n hx hb dL_law_750 rfl (lv_at hl 0 rfl) ?_
  refine lv_iload hx hb dL_law_751 (lv_at hl 4 rfl) ?_
  refine lv_iconst (v := 1) hx hb dL_law_753 (by decide) ?_
  refine lv_iadd hx hb dL_law_754 ?_
  refine va_sld hx hb hX hbl hbA hS (in_k (k := 1) rfl (by omega) hL) dL_law_755 ?_
  refine lw_callC (As := [.int (xs (nI i + 1).toNatClampNeg)]) (rest := []) hLX hP hD hS hl.1 (con_X6_clusters l σ (xs (nI i + 1).toNatClampNeg) e1) KL_92 rfl rfl rfl rfl ⟨Nat.le_of_ble_eq_true rfl, Nat.le_of_ble_eq_true rfl⟩ (Nat.le_of_ble_eq_true rfl) dL_law_756 ⟨by omega, by omega⟩ (fun H locs hP hD hS => ?_)
  show W p l e room_1 s m _ below meth c H locs _ _ _ (F0 m 759 ls [.int r])
  refine lv_aload_n hx hb dL_law_759 rfl (lv_at hl 2 rfl) ?_
  refine lv_aload_n hx hb dL_law_760 rfl (lv_at hl 0 rfl) ?_
  refine lv_iload hx hb dL_law_761 (lv_at hl 4 rfl) ?_
  refine lv_iconst (v := 1) hx hb dL_law_763 (by decide) ?_
  refine lv_iadd hx hb dL_law_764 ?_
  refine va_sld hx hb hX hbl hbA hS (in_k (k := 1) rfl (by omega) hL) dL_law_765 ?_
  refine lw_callM (As := [.int (xs (nI i + 1).toNatClampNeg)]) (rest := [.int r]) hLX hP hD hS hl.1 (con_X7_clusters l τ (xs (nI i + 1).toNatClampNeg) e2) KL_95 rfl rfl rfl rfl ⟨Nat.le_of_ble_eq_true rfl, Nat.le_of_ble_eq_true rfl⟩ (Nat.le_of_ble_eq_true rfl) dL_law_766 ⟨by omega, by omega⟩ (fun H locs hP hD hS => ?_)
  show W p l e room_1 s m _ below meth c H locs _ _ _ (F0 m 769 ls [.int r, .int r])
  refine lv_icmp_eq (tgt := 1393) hx hb dL_law_769 (by decide) (fun _ => ?_) (fun q => absurd rfl q)
  exact W.widen (k := cells + 1) (n := slots + 6) (by omega) (by omega) (K _ _ _ _ _ _ hrel' hP hD hS hl)

set_option maxHeartbeats 4000000 in
set_option maxRecDepth 100000 in
theorem law_c16 {p : Program} {l : Launch} {e : Env} {s : State} {m : MethodId} {below : List Frame} {meth : Method} {c : Code} {b L : Nat} {xs : Nat → Int32} {D : va_G} {cy : Nat → ClassId} {aC aM : Nat → Nat} {o i cells slots : Nat} (hLX : LX p l s m meth c b L xs D cy aC aM) (hi : i + 5 ≤ L) (hroom : cells + 1 ≤ 1069 ∧ slots + 6 ≤ 10279) (K : KK p l e s m below meth c b D cy aC aM o i cells slots) {σ τ : St} {g : Nat → Int64} {H : Heap} {locs : List Loc} {ls : Array Slot} (hrel : Rel σ τ) (hP : va_P D vwCl (wL cy aC aM o σ τ g) H) (hD : va_D (AA s) (wL cy aC aM o σ τ g)) (hS : va_S (AA s) s.heap H locs) (hl : lv_has ls 8 (LV b aC aM o i)) : W p l e room_1 s m #[Value.ref b] below meth c H locs cells slots (lw_Z below #[Value.ref b] s) (F0 m 774 ls []) := by
  obtain ⟨⟨hx, hb, hr, hml, hown, hts, hX, hbl, hlocks, hgv⟩, hL, htr, hK, hXC, hXM, hE⟩ := id hLX
  have hbA : ¬ AA s b := Nat.not_le.mpr hbl
  obtain ⟨r, C', M', e1, e2, hrel'⟩ := m_would hrel (xs (nI i + 1).toNatClampNeg) (xs (nI i + 2).toNatClampNeg)
  refine lv_aload_n hx hb dL_law_774 rfl (lv_at hl 1 rfl) ?_
  refine lv_aload_n hx hb dL_law_775 rfl (lv_at hl 0 rfl) ?_
  refine lv_iload hx hb dL_law_776 (lv_at hl 4 rfl) ?_
  refine lv_iconst (v := 1) hx hb dL_law_778 (by decide) ?_
  refine lv_iadd hx hb dL_law_779 ?_
  refine va_sld hx hb hX hbl hbA hS (in_k (k := 1) rfl (by omega) hL) dL_law_780 ?_
  refine lv_aload_n hx hb dL_law_781 rfl (lv_at hl 0 rfl) ?_
  refine lv_iload hx hb dL_law_782 (lv_at hl 4 rfl) ?_
  refine lv_iconst (v := 2) hx hb dL_law_784 (by decide) ?_
  refine lv_iadd hx hb dL_law_785 ?_
  refine va_sld hx hb hX hbl hbA hS (in_k (k := 2) rfl (by omega) hL) dL_law_786 ?_
  refine lw_callC (As := [.int (xs (nI i + 1).toNatClampNeg), .int (xs (nI i + 2).toNatClampNeg)]) (rest := []) hLX hP hD hS hl.1 (con_X6_would l σ (xs (nI i + 1).toNatClampNeg) (xs (nI i + 2).toNatClampNeg) e1) KL_96 rfl rfl rfl rfl ⟨Nat.le_of_ble_eq_true rfl, Nat.le_of_ble_eq_true rfl⟩ (Nat.le_of_ble_eq_true rfl) dL_law_787 ⟨by omega, by omega⟩ (fun H locs hP hD hS => ?_)
  show W p l e room_1 s m _ below meth c H locs _ _ _ (F0 m 790 ls [.int r])
  refine lv_aload_n hx hb dL_law_790 rfl (lv_at hl 2 rfl) ?_
  refine lv_aload_n hx hb dL_law_791 rfl (lv_at hl 0 rfl) ?_
  refine lv_iload hx hb dL_law_792 (lv_at hl 4 rfl) ?_
  refine lv_iconst (v := 1) hx hb dL_law_794 (by decide) ?_
  refine lv_iadd hx hb dL_law_795 ?_
  refine va_sld hx hb hX hbl hbA hS (in_k (k := 1) rfl (by omega) hL) dL_law_796 ?_
  refine lv_aload_n hx hb dL_law_797 rfl (lv_at hl 0 rfl) ?_
  refine lv_iload hx hb dL_law_798 (lv_at hl 4 rfl) ?_
  refine lv_iconst (v := 2) hx hb dL_law_800 (by decide) ?_
  refine lv_iadd hx hb dL_law_801 ?_
  refine va_sld hx hb hX hbl hbA hS (in_k (k := 2) rfl (by omega) hL) dL_law_802 ?_
  refine lw_callM (As := [.int (xs (nI i + 1).toNatClampNeg), .int (xs (nI i + 2).toNatClampNeg)]) (rest := [.int r]) hLX hP hD hS hl.1 (con_X7_would l τ (xs (nI i + 1).toNatClampNeg) (xs (nI i + 2).toNatClampNeg) e2) KL_99 rfl rfl rfl rfl ⟨Nat.le_of_ble_eq_true rfl, Nat.le_of_ble_eq_true rfl⟩ (Nat.le_of_ble_eq_true rfl) dL_law_803 ⟨by omega, by omega⟩ (fun H locs hP hD hS => ?_)
  show W p l e room_1 s m _ below meth c H locs _ _ _ (F0 m 806 ls [.int r, .int r])
  refine lv_icmp_eq (tgt := 1393) hx hb dL_law_806 (by decide) (fun _ => ?_) (fun q => absurd rfl q)
  exact W.widen (k := cells + 1) (n := slots + 6) (by omega) (by omega) (K _ _ _ _ _ _ hrel' hP hD hS hl)

set_option maxHeartbeats 4000000 in
set_option maxRecDepth 100000 in
theorem law_c17 {p : Program} {l : Launch} {e : Env} {s : State} {m : MethodId} {below : List Frame} {meth : Method} {c : Code} {b L : Nat} {xs : Nat → Int32} {D : va_G} {cy : Nat → ClassId} {aC aM : Nat → Nat} {o i cells slots : Nat} (hLX : LX p l s m meth c b L xs D cy aC aM) (hi : i + 5 ≤ L) (hroom : cells + 1 ≤ 1069 ∧ slots + 6 ≤ 10279) (K : KK p l e s m below meth c b D cy aC aM o i cells slots) {σ τ : St} {g : Nat → Int64} {H : Heap} {locs : List Loc} {ls : Array Slot} (hrel : Rel σ τ) (hP : va_P D vwCl (wL cy aC aM o σ τ g) H) (hD : va_D (AA s) (wL cy aC aM o σ τ g)) (hS : va_S (AA s) s.heap H locs) (hl : lv_has ls 8 (LV b aC aM o i)) : W p l e room_1 s m #[Value.ref b] below meth c H locs cells slots (lw_Z below #[Value.ref b] s) (F0 m 811 ls []) := by
  obtain ⟨⟨hx, hb, hr, hml, hown, hts, hX, hbl, hlocks, hgv⟩, hL, htr, hK, hXC, hXM, hE⟩ := id hLX
  have hbA : ¬ AA s b := Nat.not_le.mpr hbl
  obtain ⟨r, C', M', e1, e2, hrel'⟩ := m_looks hrel (xs (nI i + 1).toNatClampNeg)
  refine lv_aload_n hx hb dL_law_811 rfl (lv_at hl 1 rfl) ?_
  refine lv_aload_n hx hb dL_law_812 rfl (lv_at hl 0 rfl) ?_
  refine lv_iload hx hb dL_law_813 (lv_at hl 4 rfl) ?_
  refine lv_iconst (v := 1) hx hb dL_law_815 (by decide) ?_
  refine lv_iadd hx hb dL_law_816 ?_
  refine va_sld hx hb hX hbl hbA hS (in_k (k := 1) rfl (by omega) hL) dL_law_817 ?_
  refine lw_callC (As := [.int (xs (nI i + 1).toNatClampNeg)]) (rest := []) hLX hP hD hS hl.1 (con_X6_looks l σ (xs (nI i + 1).toNatClampNeg) e1) KL_100 rfl rfl rfl rfl ⟨Nat.le_of_ble_eq_true rfl, Nat.le_of_ble_eq_true rfl⟩ (Nat.le_of_ble_eq_true rfl) dL_law_818 ⟨by omega, by omega⟩ (fun H locs hP hD hS => ?_)
  show W p l e room_1 s m _ below meth c H locs _ _ _ (F0 m 821 ls [.int r])
  refine lv_aload_n hx hb dL_law_821 rfl (lv_at hl 2 rfl) ?_
  refine lv_aload_n hx hb dL_law_822 rfl (lv_at hl 0 rfl) ?_
  refine lv_iload hx hb dL_law_823 (lv_at hl 4 rfl) ?_
  refine lv_iconst (v := 1) hx hb dL_law_825 (by decide) ?_
  refine lv_iadd hx hb dL_law_826 ?_
  refine va_sld hx hb hX hbl hbA hS (in_k (k := 1) rfl (by omega) hL) dL_law_827 ?_
  refine lw_callM (As := [.int (xs (nI i + 1).toNatClampNeg)]) (rest := [.int r]) hLX hP hD hS hl.1 (con_X7_looks l τ (xs (nI i + 1).toNatClampNeg) e2) KL_103 rfl rfl rfl rfl ⟨Nat.le_of_ble_eq_true rfl, Nat.le_of_ble_eq_true rfl⟩ (Nat.le_of_ble_eq_true rfl) dL_law_828 ⟨by omega, by omega⟩ (fun H locs hP hD hS => ?_)
  show W p l e room_1 s m _ below meth c H locs _ _ _ (F0 m 831 ls [.int r, .int r])
  refine lv_icmp_eq (tgt := 1393) hx hb dL_law_831 (by decide) (fun _ => ?_) (fun q => absurd rfl q)
  exact W.widen (k := cells + 1) (n := slots + 6) (by omega) (by omega) (K _ _ _ _ _ _ hrel' hP hD hS hl)

set_option maxHeartbeats 4000000 in
set_option maxRecDepth 100000 in
theorem law_c18 {p : Program} {l : Launch} {e : Env} {s : State} {m : MethodId} {below : List Frame} {meth : Method} {c : Code} {b L : Nat} {xs : Nat → Int32} {D : va_G} {cy : Nat → ClassId} {aC aM : Nat → Nat} {o i cells slots : Nat} (hLX : LX p l s m meth c b L xs D cy aC aM) (hi : i + 5 ≤ L) (hroom : cells + 1 ≤ 1069 ∧ slots + 6 ≤ 10279) (K : KK p l e s m below meth c b D cy aC aM o i cells slots) {σ τ : St} {g : Nat → Int64} {H : Heap} {locs : List Loc} {ls : Array Slot} (hrel : Rel σ τ) (hP : va_P D vwCl (wL cy aC aM o σ τ g) H) (hD : va_D (AA s) (wL cy aC aM o σ τ g)) (hS : va_S (AA s) s.heap H locs) (hl : lv_has ls 8 (LV b aC aM o i)) : W p l e room_1 s m #[Value.ref b] below meth c H locs cells slots (lw_Z below #[Value.ref b] s) (F0 m 836 ls []) := by
  obtain ⟨⟨hx, hb, hr, hml, hown, hts, hX, hbl, hlocks, hgv⟩, hL, htr, hK, hXC, hXM, hE⟩ := id hLX
  have hbA : ¬ AA s b := Nat.not_le.mpr hbl
  obtain ⟨r, C', M', e1, e2, hrel'⟩ := m_nth hrel (xs (nI i + 1).toNatClampNeg) (xs (nI i + 2).toNatClampNeg)
  refine lv_aload_n hx hb dL_law_836 rfl (lv_at hl 1 rfl) ?_
  refine lv_aload_n hx hb dL_law_837 rfl (lv_at hl 0 rfl) ?_
  refine lv_iload hx hb dL_law_838 (lv_at hl 4 rfl) ?_
  refine lv_iconst (v := 1) hx hb dL_law_840 (by decide) ?_
  refine lv_iadd hx hb dL_law_841 ?_
  refine va_sld hx hb hX hbl hbA hS (in_k (k := 1) rfl (by omega) hL) dL_law_842 ?_
  refine lv_aload_n hx hb dL_law_843 rfl (lv_at hl 0 rfl) ?_
  refine lv_iload hx hb dL_law_844 (lv_at hl 4 rfl) ?_
  refine lv_iconst (v := 2) hx hb dL_law_846 (by decide) ?_
  refine lv_iadd hx hb dL_law_847 ?_
  refine va_sld hx hb hX hbl hbA hS (in_k (k := 2) rfl (by omega) hL) dL_law_848 ?_
  refine lw_callC (As := [.int (xs (nI i + 1).toNatClampNeg), .int (xs (nI i + 2).toNatClampNeg)]) (rest := []) hLX hP hD hS hl.1 (con_X6_nth l σ (xs (nI i + 1).toNatClampNeg) (xs (nI i + 2).toNatClampNeg) e1) KL_104 rfl rfl rfl rfl ⟨Nat.le_of_ble_eq_true rfl, Nat.le_of_ble_eq_true rfl⟩ (Nat.le_of_ble_eq_true rfl) dL_law_849 ⟨by omega, by omega⟩ (fun H locs hP hD hS => ?_)
  show W p l e room_1 s m _ below meth c H locs _ _ _ (F0 m 852 ls [.int r])
  refine lv_aload_n hx hb dL_law_852 rfl (lv_at hl 2 rfl) ?_
  refine lv_aload_n hx hb dL_law_853 rfl (lv_at hl 0 rfl) ?_
  refine lv_iload hx hb dL_law_854 (lv_at hl 4 rfl) ?_
  refine lv_iconst (v := 1) hx hb dL_law_856 (by decide) ?_
  refine lv_iadd hx hb dL_law_857 ?_
  refine va_sld hx hb hX hbl hbA hS (in_k (k := 1) rfl (by omega) hL) dL_law_858 ?_
  refine lv_aload_n hx hb dL_law_859 rfl (lv_at hl 0 rfl) ?_
  refine lv_iload hx hb dL_law_860 (lv_at hl 4 rfl) ?_
  refine lv_iconst (v := 2) hx hb dL_law_862 (by decide) ?_
  refine lv_iadd hx hb dL_law_863 ?_
  refine va_sld hx hb hX hbl hbA hS (in_k (k := 2) rfl (by omega) hL) dL_law_864 ?_
  refine lw_callM (As := [.int (xs (nI i + 1).toNatClampNeg), .int (xs (nI i + 2).toNatClampNeg)]) (rest := [.int r]) hLX hP hD hS hl.1 (con_X7_nth l τ (xs (nI i + 1).toNatClampNeg) (xs (nI i + 2).toNatClampNeg) e2) KL_107 rfl rfl rfl rfl ⟨Nat.le_of_ble_eq_true rfl, Nat.le_of_ble_eq_true rfl⟩ (Nat.le_of_ble_eq_true rfl) dL_law_865 ⟨by omega, by omega⟩ (fun H locs hP hD hS => ?_)
  show W p l e room_1 s m _ below meth c H locs _ _ _ (F0 m 868 ls [.int r, .int r])
  refine lv_icmp_eq (tgt := 1393) hx hb dL_law_868 (by decide) (fun _ => ?_) (fun q => absurd rfl q)
  exact W.widen (k := cells + 1) (n := slots + 6) (by omega) (by omega) (K _ _ _ _ _ _ hrel' hP hD hS hl)

set_option maxHeartbeats 4000000 in
set_option maxRecDepth 100000 in
theorem law_c19 {p : Program} {l : Launch} {e : Env} {s : State} {m : MethodId} {below : List Frame} {meth : Method} {c : Code} {b L : Nat} {xs : Nat → Int32} {D : va_G} {cy : Nat → ClassId} {aC aM : Nat → Nat} {o i cells slots : Nat} (hLX : LX p l s m meth c b L xs D cy aC aM) (hi : i + 5 ≤ L) (hroom : cells + 1 ≤ 1069 ∧ slots + 6 ≤ 10279) (K : KK p l e s m below meth c b D cy aC aM o i cells slots) {σ τ : St} {g : Nat → Int64} {H : Heap} {locs : List Loc} {ls : Array Slot} (hrel : Rel σ τ) (hP : va_P D vwCl (wL cy aC aM o σ τ g) H) (hD : va_D (AA s) (wL cy aC aM o σ τ g)) (hS : va_S (AA s) s.heap H locs) (hl : lv_has ls 8 (LV b aC aM o i)) : W p l e room_1 s m #[Value.ref b] below meth c H locs cells slots (lw_Z below #[Value.ref b] s) (F0 m 873 ls []) := by
  obtain ⟨⟨hx, hb, hr, hml, hown, hts, hX, hbl, hlocks, hgv⟩, hL, htr, hK, hXC, hXM, hE⟩ := id hLX
  have hbA : ¬ AA s b := Nat.not_le.mpr hbl
  obtain ⟨r, C', M', e1, e2, hrel'⟩ := m_best hrel (xs (nI i + 1).toNatClampNeg)
  refine lv_aload_n hx hb dL_law_873 rfl (lv_at hl 1 rfl) ?_
  refine lv_aload_n hx hb dL_law_874 rfl (lv_at hl 0 rfl) ?_
  refine lv_iload hx hb dL_law_875 (lv_at hl 4 rfl) ?_
  refine lv_iconst (v := 1) hx hb dL_law_877 (by decide) ?_
  refine lv_iadd hx hb dL_law_878 ?_
  refine va_sld hx hb hX hbl hbA hS (in_k (k := 1) rfl (by omega) hL) dL_law_879 ?_
  refine lw_callC (As := [.int (xs (nI i + 1).toNatClampNeg)]) (rest := []) hLX hP hD hS hl.1 (con_X6_best l σ (xs (nI i + 1).toNatClampNeg) e1) KL_108 rfl rfl rfl rfl ⟨Nat.le_of_ble_eq_true rfl, Nat.le_of_ble_eq_true rfl⟩ (Nat.le_of_ble_eq_true rfl) dL_law_880 ⟨by omega, by omega⟩ (fun H locs hP hD hS => ?_)
  show W p l e room_1 s m _ below meth c H locs _ _ _ (F0 m 883 ls [.int r])
  refine lv_aload_n hx hb dL_law_883 rfl (lv_at hl 2 rfl) ?_
  refine lv_aload_n hx hb dL_law_884 rfl (lv_at hl 0 rfl) ?_
  refine lv_iload hx hb dL_law_885 (lv_at hl 4 rfl) ?_
  refine lv_iconst (v := 1) hx hb dL_law_887 (by decide) ?_
  refine lv_iadd hx hb dL_law_888 ?_
  refine va_sld hx hb hX hbl hbA hS (in_k (k := 1) rfl (by omega) hL) dL_law_889 ?_
  refine lw_callM (As := [.int (xs (nI i + 1).toNatClampNeg)]) (rest := [.int r]) hLX hP hD hS hl.1 (con_X7_best l τ (xs (nI i + 1).toNatClampNeg) e2) KL_111 rfl rfl rfl rfl ⟨Nat.le_of_ble_eq_true rfl, Nat.le_of_ble_eq_true rfl⟩ (Nat.le_of_ble_eq_true rfl) dL_law_890 ⟨by omega, by omega⟩ (fun H locs hP hD hS => ?_)
  show W p l e room_1 s m _ below meth c H locs _ _ _ (F0 m 893 ls [.int r, .int r])
  refine lv_icmp_eq (tgt := 1393) hx hb dL_law_893 (by decide) (fun _ => ?_) (fun q => absurd rfl q)
  exact W.widen (k := cells + 1) (n := slots + 6) (by omega) (by omega) (K _ _ _ _ _ _ hrel' hP hD hS hl)

set_option maxHeartbeats 4000000 in
set_option maxRecDepth 100000 in
theorem law_c20 {p : Program} {l : Launch} {e : Env} {s : State} {m : MethodId} {below : List Frame} {meth : Method} {c : Code} {b L : Nat} {xs : Nat → Int32} {D : va_G} {cy : Nat → ClassId} {aC aM : Nat → Nat} {o i cells slots : Nat} (hLX : LX p l s m meth c b L xs D cy aC aM) (hi : i + 5 ≤ L) (hroom : cells + 1 ≤ 1069 ∧ slots + 6 ≤ 10279) (K : KK p l e s m below meth c b D cy aC aM o i cells slots) {σ τ : St} {g : Nat → Int64} {H : Heap} {locs : List Loc} {ls : Array Slot} (hrel : Rel σ τ) (hP : va_P D vwCl (wL cy aC aM o σ τ g) H) (hD : va_D (AA s) (wL cy aC aM o σ τ g)) (hS : va_S (AA s) s.heap H locs) (hl : lv_has ls 8 (LV b aC aM o i)) : W p l e room_1 s m #[Value.ref b] below meth c H locs cells slots (lw_Z below #[Value.ref b] s) (F0 m 898 ls []) := by
  obtain ⟨⟨hx, hb, hr, hml, hown, hts, hX, hbl, hlocks, hgv⟩, hL, htr, hK, hXC, hXM, hE⟩ := id hLX
  have hbA : ¬ AA s b := Nat.not_le.mpr hbl
  obtain ⟨r, C', M', e1, e2, hrel'⟩ := m_span hrel (xs (nI i + 1).toNatClampNeg) (xs (nI i + 2).toNatClampNeg) (xs (nI i + 3).toNatClampNeg)
  refine lv_aload_n hx hb dL_law_898 rfl (lv_at hl 1 rfl) ?_
  refine lv_aload_n hx hb dL_law_899 rfl (lv_at hl 0 rfl) ?_
  refine lv_iload hx hb dL_law_900 (lv_at hl 4 rfl) ?_
  refine lv_iconst (v := 1) hx hb dL_law_902 (by decide) ?_
  refine lv_iadd hx hb dL_law_903 ?_
  refine va_sld hx hb hX hbl hbA hS (in_k (k := 1) rfl (by omega) hL) dL_law_904 ?_
  refine lv_aload_n hx hb dL_law_905 rfl (lv_at hl 0 rfl) ?_
  refine lv_iload hx hb dL_law_906 (lv_at hl 4 rfl) ?_
  refine lv_iconst (v := 2) hx hb dL_law_908 (by decide) ?_
  refine lv_iadd hx hb dL_law_909 ?_
  refine va_sld hx hb hX hbl hbA hS (in_k (k := 2) rfl (by omega) hL) dL_law_910 ?_
  refine lv_aload_n hx hb dL_law_911 rfl (lv_at hl 0 rfl) ?_
  refine lv_iload hx hb dL_law_912 (lv_at hl 4 rfl) ?_
  refine lv_iconst (v := 3) hx hb dL_law_914 (by decide) ?_
  refine lv_iadd hx hb dL_law_915 ?_
  refine va_sld hx hb hX hbl hbA hS (in_k (k := 3) rfl (by omega) hL) dL_law_916 ?_
  refine lw_callC (As := [.int (xs (nI i + 1).toNatClampNeg), .int (xs (nI i + 2).toNatClampNeg), .int (xs (nI i + 3).toNatClampNeg)]) (rest := []) hLX hP hD hS hl.1 (con_X6_span l σ (xs (nI i + 1).toNatClampNeg) (xs (nI i + 2).toNatClampNeg) (xs (nI i + 3).toNatClampNeg) e1) KL_112 rfl rfl rfl rfl ⟨Nat.le_of_ble_eq_true rfl, Nat.le_of_ble_eq_true rfl⟩ (Nat.le_of_ble_eq_true rfl) dL_law_917 ⟨by omega, by omega⟩ (fun H locs hP hD hS => ?_)
  show W p l e room_1 s m _ below meth c H locs _ _ _ (F0 m 920 ls [.int r])
  refine lv_aload_n hx hb dL_law_920 rfl (lv_at hl 2 rfl) ?_
  refine lv_aload_n hx hb dL_law_921 rfl (lv_at hl 0 rfl) ?_
  refine lv_iload hx hb dL_law_922 (lv_at hl 4 rfl) ?_
  refine lv_iconst (v := 1) hx hb dL_law_924 (by decide) ?_
  refine lv_iadd hx hb dL_law_925 ?_
  refine va_sld hx hb hX hbl hbA hS (in_k (k := 1) rfl (by omega) hL) dL_law_926 ?_
  refine lv_aload_n hx hb dL_law_927 rfl (lv_at hl 0 rfl) ?_
  refine lv_iload hx hb dL_law_928 (lv_at hl 4 rfl) ?_
  refine lv_iconst (v := 2) hx hb dL_law_930 (by decide) ?_
  refine lv_iadd hx hb dL_law_931 ?_
  refine va_sld hx hb hX hbl hbA hS (in_k (k := 2) rfl (by omega) hL) dL_law_932 ?_
  refine lv_aload_n hx hb dL_law_933 rfl (lv_at hl 0 rfl) ?_
  refine lv_iload hx hb dL_law_934 (lv_at hl 4 rfl) ?_
  refine lv_iconst (v := 3) hx hb dL_law_936 (by decide) ?_
  refine lv_iadd hx hb dL_law_937 ?_
  refine va_sld hx hb hX hbl hbA hS (in_k (k := 3) rfl (by omega) hL) dL_law_938 ?_
  refine lw_callM (As := [.int (xs (nI i + 1).toNatClampNeg), .int (xs (nI i + 2).toNatClampNeg), .int (xs (nI i + 3).toNatClampNeg)]) (rest := [.int r]) hLX hP hD hS hl.1 (con_X7_span l τ (xs (nI i + 1).toNatClampNeg) (xs (nI i + 2).toNatClampNeg) (xs (nI i + 3).toNatClampNeg) e2) KL_116 rfl rfl rfl rfl ⟨Nat.le_of_ble_eq_true rfl, Nat.le_of_ble_eq_true rfl⟩ (Nat.le_of_ble_eq_true rfl) dL_law_939 ⟨by omega, by omega⟩ (fun H locs hP hD hS => ?_)
  show W p l e room_1 s m _ below meth c H locs _ _ _ (F0 m 942 ls [.int r, .int r])
  refine lv_icmp_eq (tgt := 1393) hx hb dL_law_942 (by decide) (fun _ => ?_) (fun q => absurd rfl q)
  exact W.widen (k := cells + 1) (n := slots + 6) (by omega) (by omega) (K _ _ _ _ _ _ hrel' hP hD hS hl)

set_option maxHeartbeats 4000000 in
set_option maxRecDepth 100000 in
theorem law_c21 {p : Program} {l : Launch} {e : Env} {s : State} {m : MethodId} {below : List Frame} {meth : Method} {c : Code} {b L : Nat} {xs : Nat → Int32} {D : va_G} {cy : Nat → ClassId} {aC aM : Nat → Nat} {o i cells slots : Nat} (hLX : LX p l s m meth c b L xs D cy aC aM) (hi : i + 5 ≤ L) (hroom : cells + 1 ≤ 1069 ∧ slots + 6 ≤ 10279) (K : KK p l e s m below meth c b D cy aC aM o i cells slots) {σ τ : St} {g : Nat → Int64} {H : Heap} {locs : List Loc} {ls : Array Slot} (hrel : Rel σ τ) (hP : va_P D vwCl (wL cy aC aM o σ τ g) H) (hD : va_D (AA s) (wL cy aC aM o σ τ g)) (hS : va_S (AA s) s.heap H locs) (hl : lv_has ls 8 (LV b aC aM o i)) : W p l e room_1 s m #[Value.ref b] below meth c H locs cells slots (lw_Z below #[Value.ref b] s) (F0 m 947 ls []) := by
  obtain ⟨⟨hx, hb, hr, hml, hown, hts, hX, hbl, hlocks, hgv⟩, hL, htr, hK, hXC, hXM, hE⟩ := id hLX
  have hbA : ¬ AA s b := Nat.not_le.mpr hbl
  obtain ⟨r, C', M', e1, e2, hrel'⟩ := m_after hrel (xs (nI i + 1).toNatClampNeg) (xs (nI i + 2).toNatClampNeg)
  refine lv_aload_n hx hb dL_law_947 rfl (lv_at hl 1 rfl) ?_
  refine lv_aload_n hx hb dL_law_948 rfl (lv_at hl 0 rfl) ?_
  refine lv_iload hx hb dL_law_949 (lv_at hl 4 rfl) ?_
  refine lv_iconst (v := 1) hx hb dL_law_951 (by decide) ?_
  refine lv_iadd hx hb dL_law_952 ?_
  refine va_sld hx hb hX hbl hbA hS (in_k (k := 1) rfl (by omega) hL) dL_law_953 ?_
  refine lv_aload_n hx hb dL_law_954 rfl (lv_at hl 0 rfl) ?_
  refine lv_iload hx hb dL_law_955 (lv_at hl 4 rfl) ?_
  refine lv_iconst (v := 2) hx hb dL_law_957 (by decide) ?_
  refine lv_iadd hx hb dL_law_958 ?_
  refine va_sld hx hb hX hbl hbA hS (in_k (k := 2) rfl (by omega) hL) dL_law_959 ?_
  refine lw_callC (As := [.int (xs (nI i + 1).toNatClampNeg), .int (xs (nI i + 2).toNatClampNeg)]) (rest := []) hLX hP hD hS hl.1 (con_X6_after l σ (xs (nI i + 1).toNatClampNeg) (xs (nI i + 2).toNatClampNeg) e1) KL_117 rfl rfl rfl rfl ⟨Nat.le_of_ble_eq_true rfl, Nat.le_of_ble_eq_true rfl⟩ (Nat.le_of_ble_eq_true rfl) dL_law_960 ⟨by omega, by omega⟩ (fun H locs hP hD hS => ?_)
  show W p l e room_1 s m _ below meth c H locs _ _ _ (F0 m 963 ls [.int r])
  refine lv_aload_n hx hb dL_law_963 rfl (lv_at hl 2 rfl) ?_
  refine lv_aload_n hx hb dL_law_964 rfl (lv_at hl 0 rfl) ?_
  refine lv_iload hx hb dL_law_965 (lv_at hl 4 rfl) ?_
  refine lv_iconst (v := 1) hx hb dL_law_967 (by decide) ?_
  refine lv_iadd hx hb dL_law_968 ?_
  refine va_sld hx hb hX hbl hbA hS (in_k (k := 1) rfl (by omega) hL) dL_law_969 ?_
  refine lv_aload_n hx hb dL_law_970 rfl (lv_at hl 0 rfl) ?_
  refine lv_iload hx hb dL_law_971 (lv_at hl 4 rfl) ?_
  refine lv_iconst (v := 2) hx hb dL_law_973 (by decide) ?_
  refine lv_iadd hx hb dL_law_974 ?_
  refine va_sld hx hb hX hbl hbA hS (in_k (k := 2) rfl (by omega) hL) dL_law_975 ?_
  refine lw_callM (As := [.int (xs (nI i + 1).toNatClampNeg), .int (xs (nI i + 2).toNatClampNeg)]) (rest := [.int r]) hLX hP hD hS hl.1 (con_X7_after l τ (xs (nI i + 1).toNatClampNeg) (xs (nI i + 2).toNatClampNeg) e2) KL_120 rfl rfl rfl rfl ⟨Nat.le_of_ble_eq_true rfl, Nat.le_of_ble_eq_true rfl⟩ (Nat.le_of_ble_eq_true rfl) dL_law_976 ⟨by omega, by omega⟩ (fun H locs hP hD hS => ?_)
  show W p l e room_1 s m _ below meth c H locs _ _ _ (F0 m 979 ls [.int r, .int r])
  refine lv_icmp_eq (tgt := 1393) hx hb dL_law_979 (by decide) (fun _ => ?_) (fun q => absurd rfl q)
  exact W.widen (k := cells + 1) (n := slots + 6) (by omega) (by omega) (K _ _ _ _ _ _ hrel' hP hD hS hl)

set_option maxHeartbeats 4000000 in
set_option maxRecDepth 100000 in
theorem law_c22 {p : Program} {l : Launch} {e : Env} {s : State} {m : MethodId} {below : List Frame} {meth : Method} {c : Code} {b L : Nat} {xs : Nat → Int32} {D : va_G} {cy : Nat → ClassId} {aC aM : Nat → Nat} {o i cells slots : Nat} (hLX : LX p l s m meth c b L xs D cy aC aM) (hi : i + 5 ≤ L) (hroom : cells + 1 ≤ 1069 ∧ slots + 6 ≤ 10279) (K : KK p l e s m below meth c b D cy aC aM o i cells slots) {σ τ : St} {g : Nat → Int64} {H : Heap} {locs : List Loc} {ls : Array Slot} (hrel : Rel σ τ) (hP : va_P D vwCl (wL cy aC aM o σ τ g) H) (hD : va_D (AA s) (wL cy aC aM o σ τ g)) (hS : va_S (AA s) s.heap H locs) (hl : lv_has ls 8 (LV b aC aM o i)) : W p l e room_1 s m #[Value.ref b] below meth c H locs cells slots (lw_Z below #[Value.ref b] s) (F0 m 984 ls []) := by
  obtain ⟨⟨hx, hb, hr, hml, hown, hts, hX, hbl, hlocks, hgv⟩, hL, htr, hK, hXC, hXM, hE⟩ := id hLX
  have hbA : ¬ AA s b := Nat.not_le.mpr hbl
  obtain ⟨r, C', M', e1, e2, hrel'⟩ := m_gaps hrel (xs (nI i + 1).toNatClampNeg)
  refine lv_aload_n hx hb dL_law_984 rfl (lv_at hl 1 rfl) ?_
  refine lv_aload_n hx hb dL_law_985 rfl (lv_at hl 0 rfl) ?_
  refine lv_iload hx hb dL_law_986 (lv_at hl 4 rfl) ?_
  refine lv_iconst (v := 1) hx hb dL_law_988 (by decide) ?_
  refine lv_iadd hx hb dL_law_989 ?_
  refine va_sld hx hb hX hbl hbA hS (in_k (k := 1) rfl (by omega) hL) dL_law_990 ?_
  refine lw_callC (As := [.int (xs (nI i + 1).toNatClampNeg)]) (rest := []) hLX hP hD hS hl.1 (con_X6_gaps l σ (xs (nI i + 1).toNatClampNeg) e1) KL_121 rfl rfl rfl rfl ⟨Nat.le_of_ble_eq_true rfl, Nat.le_of_ble_eq_true rfl⟩ (Nat.le_of_ble_eq_true rfl) dL_law_991 ⟨by omega, by omega⟩ (fun H locs hP hD hS => ?_)
  show W p l e room_1 s m _ below meth c H locs _ _ _ (F0 m 994 ls [.int r])
  refine lv_aload_n hx hb dL_law_994 rfl (lv_at hl 2 rfl) ?_
  refine lv_aload_n hx hb dL_law_995 rfl (lv_at hl 0 rfl) ?_
  refine lv_iload hx hb dL_law_996 (lv_at hl 4 rfl) ?_
  refine lv_iconst (v := 1) hx hb dL_law_998 (by decide) ?_
  refine lv_iadd hx hb dL_law_999 ?_
  refine va_sld hx hb hX hbl hbA hS (in_k (k := 1) rfl (by omega) hL) dL_law_1000 ?_
  refine lw_callM (As := [.int (xs (nI i + 1).toNatClampNeg)]) (rest := [.int r]) hLX hP hD hS hl.1 (con_X7_gaps l τ (xs (nI i + 1).toNatClampNeg) e2) KL_124 rfl rfl rfl rfl ⟨Nat.le_of_ble_eq_true rfl, Nat.le_of_ble_eq_true rfl⟩ (Nat.le_of_ble_eq_true rfl) dL_law_1001 ⟨by omega, by omega⟩ (fun H locs hP hD hS => ?_)
  show W p l e room_1 s m _ below meth c H locs _ _ _ (F0 m 1004 ls [.int r, .int r])
  refine lv_icmp_eq (tgt := 1393) hx hb dL_law_1004 (by decide) (fun _ => ?_) (fun q => absurd rfl q)
  exact W.widen (k := cells + 1) (n := slots + 6) (by omega) (by omega) (K _ _ _ _ _ _ hrel' hP hD hS hl)

set_option maxHeartbeats 4000000 in
set_option maxRecDepth 100000 in
theorem law_c23 {p : Program} {l : Launch} {e : Env} {s : State} {m : MethodId} {below : List Frame} {meth : Method} {c : Code} {b L : Nat} {xs : Nat → Int32} {D : va_G} {cy : Nat → ClassId} {aC aM : Nat → Nat} {o i cells slots : Nat} (hLX : LX p l s m meth c b L xs D cy aC aM) (hi : i + 5 ≤ L) (hroom : cells + 1 ≤ 1069 ∧ slots + 6 ≤ 10279) (K : KK p l e s m below meth c b D cy aC aM o i cells slots) {σ τ : St} {g : Nat → Int64} {H : Heap} {locs : List Loc} {ls : Array Slot} (hrel : Rel σ τ) (hP : va_P D vwCl (wL cy aC aM o σ τ g) H) (hD : va_D (AA s) (wL cy aC aM o σ τ g)) (hS : va_S (AA s) s.heap H locs) (hl : lv_has ls 8 (LV b aC aM o i)) : W p l e room_1 s m #[Value.ref b] below meth c H locs cells slots (lw_Z below #[Value.ref b] s) (F0 m 1009 ls []) := by
  obtain ⟨⟨hx, hb, hr, hml, hown, hts, hX, hbl, hlocks, hgv⟩, hL, htr, hK, hXC, hXM, hE⟩ := id hLX
  have hbA : ¬ AA s b := Nat.not_le.mpr hbl
  obtain ⟨r, C', M', e1, e2, hrel'⟩ := m_doubles hrel (xs (nI i + 1).toNatClampNeg)
  refine lv_aload_n hx hb dL_law_1009 rfl (lv_at hl 1 rfl) ?_
  refine lv_aload_n hx hb dL_law_1010 rfl (lv_at hl 0 rfl) ?_
  refine lv_iload hx hb dL_law_1011 (lv_at hl 4 rfl) ?_
  refine lv_iconst (v := 1) hx hb dL_law_1013 (by decide) ?_
  refine lv_iadd hx hb dL_law_1014 ?_
  refine va_sld hx hb hX hbl hbA hS (in_k (k := 1) rfl (by omega) hL) dL_law_1015 ?_
  refine lw_callC (As := [.int (xs (nI i + 1).toNatClampNeg)]) (rest := []) hLX hP hD hS hl.1 (con_X6_doubles l σ (xs (nI i + 1).toNatClampNeg) e1) KL_125 rfl rfl rfl rfl ⟨Nat.le_of_ble_eq_true rfl, Nat.le_of_ble_eq_true rfl⟩ (Nat.le_of_ble_eq_true rfl) dL_law_1016 ⟨by omega, by omega⟩ (fun H locs hP hD hS => ?_)
  show W p l e room_1 s m _ below meth c H locs _ _ _ (F0 m 1019 ls [.int r])
  refine lv_aload_n hx hb dL_law_1019 rfl (lv_at hl 2 rfl) ?_
  refine lv_aload_n hx hb dL_law_1020 rfl (lv_at hl 0 rfl) ?_
  refine lv_iload hx hb dL_law_1021 (lv_at hl 4 rfl) ?_
  refine lv_iconst (v := 1) hx hb dL_law_1023 (by decide) ?_
  refine lv_iadd hx hb dL_law_1024 ?_
  refine va_sld hx hb hX hbl hbA hS (in_k (k := 1) rfl (by omega) hL) dL_law_1025 ?_
  refine lw_callM (As := [.int (xs (nI i + 1).toNatClampNeg)]) (rest := [.int r]) hLX hP hD hS hl.1 (con_X7_doubles l τ (xs (nI i + 1).toNatClampNeg) e2) KL_128 rfl rfl rfl rfl ⟨Nat.le_of_ble_eq_true rfl, Nat.le_of_ble_eq_true rfl⟩ (Nat.le_of_ble_eq_true rfl) dL_law_1026 ⟨by omega, by omega⟩ (fun H locs hP hD hS => ?_)
  show W p l e room_1 s m _ below meth c H locs _ _ _ (F0 m 1029 ls [.int r, .int r])
  refine lv_icmp_eq (tgt := 1393) hx hb dL_law_1029 (by decide) (fun _ => ?_) (fun q => absurd rfl q)
  exact W.widen (k := cells + 1) (n := slots + 6) (by omega) (by omega) (K _ _ _ _ _ _ hrel' hP hD hS hl)

set_option maxHeartbeats 4000000 in
set_option maxRecDepth 100000 in
theorem law_c24 {p : Program} {l : Launch} {e : Env} {s : State} {m : MethodId} {below : List Frame} {meth : Method} {c : Code} {b L : Nat} {xs : Nat → Int32} {D : va_G} {cy : Nat → ClassId} {aC aM : Nat → Nat} {o i cells slots : Nat} (hLX : LX p l s m meth c b L xs D cy aC aM) (hi : i + 5 ≤ L) (hroom : cells + 1 ≤ 1069 ∧ slots + 6 ≤ 10279) (K : KK p l e s m below meth c b D cy aC aM o i cells slots) {σ τ : St} {g : Nat → Int64} {H : Heap} {locs : List Loc} {ls : Array Slot} (hrel : Rel σ τ) (hP : va_P D vwCl (wL cy aC aM o σ τ g) H) (hD : va_D (AA s) (wL cy aC aM o σ τ g)) (hS : va_S (AA s) s.heap H locs) (hl : lv_has ls 8 (LV b aC aM o i)) : W p l e room_1 s m #[Value.ref b] below meth c H locs cells slots (lw_Z below #[Value.ref b] s) (F0 m 1034 ls []) := by
  obtain ⟨⟨hx, hb, hr, hml, hown, hts, hX, hbl, hlocks, hgv⟩, hL, htr, hK, hXC, hXM, hE⟩ := id hLX
  have hbA : ¬ AA s b := Nat.not_le.mpr hbl
  obtain ⟨r, C', M', e1, e2, hrel'⟩ := m_halves hrel (xs (nI i + 1).toNatClampNeg)
  refine lv_aload_n hx hb dL_law_1034 rfl (lv_at hl 1 rfl) ?_
  refine lv_aload_n hx hb dL_law_1035 rfl (lv_at hl 0 rfl) ?_
  refine lv_iload hx hb dL_law_1036 (lv_at hl 4 rfl) ?_
  refine lv_iconst (v := 1) hx hb dL_law_1038 (by decide) ?_
  refine lv_iadd hx hb dL_law_1039 ?_
  refine va_sld hx hb hX hbl hbA hS (in_k (k := 1) rfl (by omega) hL) dL_law_1040 ?_
  refine lw_callC (As := [.int (xs (nI i + 1).toNatClampNeg)]) (rest := []) hLX hP hD hS hl.1 (con_X6_halves l σ (xs (nI i + 1).toNatClampNeg) e1) KL_129 rfl rfl rfl rfl ⟨Nat.le_of_ble_eq_true rfl, Nat.le_of_ble_eq_true rfl⟩ (Nat.le_of_ble_eq_true rfl) dL_law_1041 ⟨by omega, by omega⟩ (fun H locs hP hD hS => ?_)
  show W p l e room_1 s m _ below meth c H locs _ _ _ (F0 m 1044 ls [.int r])
  refine lv_aload_n hx hb dL_law_1044 rfl (lv_at hl 2 rfl) ?_
  refine lv_aload_n hx hb dL_law_1045 rfl (lv_at hl 0 rfl) ?_
  refine lv_iload hx hb dL_law_1046 (lv_at hl 4 rfl) ?_
  refine lv_iconst (v := 1) hx hb dL_law_1048 (by decide) ?_
  refine lv_iadd hx hb dL_law_1049 ?_
  refine va_sld hx hb hX hbl hbA hS (in_k (k := 1) rfl (by omega) hL) dL_law_1050 ?_
  refine lw_callM (As := [.int (xs (nI i + 1).toNatClampNeg)]) (rest := [.int r]) hLX hP hD hS hl.1 (con_X7_halves l τ (xs (nI i + 1).toNatClampNeg) e2) KL_132 rfl rfl rfl rfl ⟨Nat.le_of_ble_eq_true rfl, Nat.le_of_ble_eq_true rfl⟩ (Nat.le_of_ble_eq_true rfl) dL_law_1051 ⟨by omega, by omega⟩ (fun H locs hP hD hS => ?_)
  show W p l e room_1 s m _ below meth c H locs _ _ _ (F0 m 1054 ls [.int r, .int r])
  refine lv_icmp_eq (tgt := 1393) hx hb dL_law_1054 (by decide) (fun _ => ?_) (fun q => absurd rfl q)
  exact W.widen (k := cells + 1) (n := slots + 6) (by omega) (by omega) (K _ _ _ _ _ _ hrel' hP hD hS hl)

set_option maxHeartbeats 4000000 in
set_option maxRecDepth 100000 in
theorem law_c25 {p : Program} {l : Launch} {e : Env} {s : State} {m : MethodId} {below : List Frame} {meth : Method} {c : Code} {b L : Nat} {xs : Nat → Int32} {D : va_G} {cy : Nat → ClassId} {aC aM : Nat → Nat} {o i cells slots : Nat} (hLX : LX p l s m meth c b L xs D cy aC aM) (hi : i + 5 ≤ L) (hroom : cells + 1 ≤ 1069 ∧ slots + 6 ≤ 10279) (K : KK p l e s m below meth c b D cy aC aM o i cells slots) {σ τ : St} {g : Nat → Int64} {H : Heap} {locs : List Loc} {ls : Array Slot} (hrel : Rel σ τ) (hP : va_P D vwCl (wL cy aC aM o σ τ g) H) (hD : va_D (AA s) (wL cy aC aM o σ τ g)) (hS : va_S (AA s) s.heap H locs) (hl : lv_has ls 8 (LV b aC aM o i)) : W p l e room_1 s m #[Value.ref b] below meth c H locs cells slots (lw_Z below #[Value.ref b] s) (F0 m 1059 ls []) := by
  obtain ⟨⟨hx, hb, hr, hml, hown, hts, hX, hbl, hlocks, hgv⟩, hL, htr, hK, hXC, hXM, hE⟩ := id hLX
  have hbA : ¬ AA s b := Nat.not_le.mpr hbl
  obtain ⟨r, C', M', e1, e2, hrel'⟩ := m_merges hrel
  refine lv_aload_n hx hb dL_law_1059 rfl (lv_at hl 1 rfl) ?_
  refine lw_callC (As := []) (rest := []) hLX hP hD hS hl.1 (con_X6_merges l σ e1) KL_133 rfl rfl rfl rfl ⟨Nat.le_of_ble_eq_true rfl, Nat.le_of_ble_eq_true rfl⟩ (Nat.le_of_ble_eq_true rfl) dL_law_1060 ⟨by omega, by omega⟩ (fun H locs hP hD hS => ?_)
  show W p l e room_1 s m _ below meth c H locs _ _ _ (F0 m 1063 ls [.int r])
  refine lv_aload_n hx hb dL_law_1063 rfl (lv_at hl 2 rfl) ?_
  refine lw_callM (As := []) (rest := [.int r]) hLX hP hD hS hl.1 (con_X7_merges l τ e2) KL_136 rfl rfl rfl rfl ⟨Nat.le_of_ble_eq_true rfl, Nat.le_of_ble_eq_true rfl⟩ (Nat.le_of_ble_eq_true rfl) dL_law_1064 ⟨by omega, by omega⟩ (fun H locs hP hD hS => ?_)
  show W p l e room_1 s m _ below meth c H locs _ _ _ (F0 m 1067 ls [.int r, .int r])
  refine lv_icmp_eq (tgt := 1393) hx hb dL_law_1067 (by decide) (fun _ => ?_) (fun q => absurd rfl q)
  exact W.widen (k := cells + 1) (n := slots + 6) (by omega) (by omega) (K _ _ _ _ _ _ hrel' hP hD hS hl)

set_option maxHeartbeats 4000000 in
set_option maxRecDepth 100000 in
theorem law_c26 {p : Program} {l : Launch} {e : Env} {s : State} {m : MethodId} {below : List Frame} {meth : Method} {c : Code} {b L : Nat} {xs : Nat → Int32} {D : va_G} {cy : Nat → ClassId} {aC aM : Nat → Nat} {o i cells slots : Nat} (hLX : LX p l s m meth c b L xs D cy aC aM) (hi : i + 5 ≤ L) (hroom : cells + 1 ≤ 1069 ∧ slots + 6 ≤ 10279) (K : KK p l e s m below meth c b D cy aC aM o i cells slots) {σ τ : St} {g : Nat → Int64} {H : Heap} {locs : List Loc} {ls : Array Slot} (hrel : Rel σ τ) (hP : va_P D vwCl (wL cy aC aM o σ τ g) H) (hD : va_D (AA s) (wL cy aC aM o σ τ g)) (hS : va_S (AA s) s.heap H locs) (hl : lv_has ls 8 (LV b aC aM o i)) : W p l e room_1 s m #[Value.ref b] below meth c H locs cells slots (lw_Z below #[Value.ref b] s) (F0 m 1072 ls []) := by
  obtain ⟨⟨hx, hb, hr, hml, hown, hts, hX, hbl, hlocks, hgv⟩, hL, htr, hK, hXC, hXM, hE⟩ := id hLX
  have hbA : ¬ AA s b := Nat.not_le.mpr hbl
  obtain ⟨r, C', M', e1, e2, hrel'⟩ := m_spills hrel (xs (nI i + 1).toNatClampNeg)
  refine lv_aload_n hx hb dL_law_1072 rfl (lv_at hl 1 rfl) ?_
  refine lv_aload_n hx hb dL_law_1073 rfl (lv_at hl 0 rfl) ?_
  refine lv_iload hx hb dL_law_1074 (lv_at hl 4 rfl) ?_
  refine lv_iconst (v := 1) hx hb dL_law_1076 (by decide) ?_
  refine lv_iadd hx hb dL_law_1077 ?_
  refine va_sld hx hb hX hbl hbA hS (in_k (k := 1) rfl (by omega) hL) dL_law_1078 ?_
  refine lw_callC (As := [.int (xs (nI i + 1).toNatClampNeg)]) (rest := []) hLX hP hD hS hl.1 (con_X6_spills l σ (xs (nI i + 1).toNatClampNeg) e1) KL_137 rfl rfl rfl rfl ⟨Nat.le_of_ble_eq_true rfl, Nat.le_of_ble_eq_true rfl⟩ (Nat.le_of_ble_eq_true rfl) dL_law_1079 ⟨by omega, by omega⟩ (fun H locs hP hD hS => ?_)
  show W p l e room_1 s m _ below meth c H locs _ _ _ (F0 m 1082 ls [.int r])
  refine lv_aload_n hx hb dL_law_1082 rfl (lv_at hl 2 rfl) ?_
  refine lv_aload_n hx hb dL_law_1083 rfl (lv_at hl 0 rfl) ?_
  refine lv_iload hx hb dL_law_1084 (lv_at hl 4 rfl) ?_
  refine lv_iconst (v := 1) hx hb dL_law_1086 (by decide) ?_
  refine lv_iadd hx hb dL_law_1087 ?_
  refine va_sld hx hb hX hbl hbA hS (in_k (k := 1) rfl (by omega) hL) dL_law_1088 ?_
  refine lw_callM (As := [.int (xs (nI i + 1).toNatClampNeg)]) (rest := [.int r]) hLX hP hD hS hl.1 (con_X7_spills l τ (xs (nI i + 1).toNatClampNeg) e2) KL_140 rfl rfl rfl rfl ⟨Nat.le_of_ble_eq_true rfl, Nat.le_of_ble_eq_true rfl⟩ (Nat.le_of_ble_eq_true rfl) dL_law_1089 ⟨by omega, by omega⟩ (fun H locs hP hD hS => ?_)
  show W p l e room_1 s m _ below meth c H locs _ _ _ (F0 m 1092 ls [.int r, .int r])
  refine lv_icmp_eq (tgt := 1393) hx hb dL_law_1092 (by decide) (fun _ => ?_) (fun q => absurd rfl q)
  exact W.widen (k := cells + 1) (n := slots + 6) (by omega) (by omega) (K _ _ _ _ _ _ hrel' hP hD hS hl)

set_option maxHeartbeats 4000000 in
set_option maxRecDepth 100000 in
theorem law_c27 {p : Program} {l : Launch} {e : Env} {s : State} {m : MethodId} {below : List Frame} {meth : Method} {c : Code} {b L : Nat} {xs : Nat → Int32} {D : va_G} {cy : Nat → ClassId} {aC aM : Nat → Nat} {o i cells slots : Nat} (hLX : LX p l s m meth c b L xs D cy aC aM) (hi : i + 5 ≤ L) (hroom : cells + 1 ≤ 1069 ∧ slots + 6 ≤ 10279) (K : KK p l e s m below meth c b D cy aC aM o i cells slots) {σ τ : St} {g : Nat → Int64} {H : Heap} {locs : List Loc} {ls : Array Slot} (hrel : Rel σ τ) (hP : va_P D vwCl (wL cy aC aM o σ τ g) H) (hD : va_D (AA s) (wL cy aC aM o σ τ g)) (hS : va_S (AA s) s.heap H locs) (hl : lv_has ls 8 (LV b aC aM o i)) : W p l e room_1 s m #[Value.ref b] below meth c H locs cells slots (lw_Z below #[Value.ref b] s) (F0 m 1097 ls []) := by
  obtain ⟨⟨hx, hb, hr, hml, hown, hts, hX, hbl, hlocks, hgv⟩, hL, htr, hK, hXC, hXM, hE⟩ := id hLX
  have hbA : ¬ AA s b := Nat.not_le.mpr hbl
  obtain ⟨r, C', M', e1, e2, hrel'⟩ := m_both hrel (xs (nI i + 1).toNatClampNeg)
  refine lv_aload_n hx hb dL_law_1097 rfl (lv_at hl 1 rfl) ?_
  refine lv_aload_n hx hb dL_law_1098 rfl (lv_at hl 0 rfl) ?_
  refine lv_iload hx hb dL_law_1099 (lv_at hl 4 rfl) ?_
  refine lv_iconst (v := 1) hx hb dL_law_1101 (by decide) ?_
  refine lv_iadd hx hb dL_law_1102 ?_
  refine va_sld hx hb hX hbl hbA hS (in_k (k := 1) rfl (by omega) hL) dL_law_1103 ?_
  refine lw_callC (As := [.int (xs (nI i + 1).toNatClampNeg)]) (rest := []) hLX hP hD hS hl.1 (con_X6_both l σ (xs (nI i + 1).toNatClampNeg) e1) KL_141 rfl rfl rfl rfl ⟨Nat.le_of_ble_eq_true rfl, Nat.le_of_ble_eq_true rfl⟩ (Nat.le_of_ble_eq_true rfl) dL_law_1104 ⟨by omega, by omega⟩ (fun H locs hP hD hS => ?_)
  show W p l e room_1 s m _ below meth c H locs _ _ _ (F0 m 1107 ls [.int r])
  refine lv_aload_n hx hb dL_law_1107 rfl (lv_at hl 2 rfl) ?_
  refine lv_aload_n hx hb dL_law_1108 rfl (lv_at hl 0 rfl) ?_
  refine lv_iload hx hb dL_law_1109 (lv_at hl 4 rfl) ?_
  refine lv_iconst (v := 1) hx hb dL_law_1111 (by decide) ?_
  refine lv_iadd hx hb dL_law_1112 ?_
  refine va_sld hx hb hX hbl hbA hS (in_k (k := 1) rfl (by omega) hL) dL_law_1113 ?_
  refine lw_callM (As := [.int (xs (nI i + 1).toNatClampNeg)]) (rest := [.int r]) hLX hP hD hS hl.1 (con_X7_both l τ (xs (nI i + 1).toNatClampNeg) e2) KL_144 rfl rfl rfl rfl ⟨Nat.le_of_ble_eq_true rfl, Nat.le_of_ble_eq_true rfl⟩ (Nat.le_of_ble_eq_true rfl) dL_law_1114 ⟨by omega, by omega⟩ (fun H locs hP hD hS => ?_)
  show W p l e room_1 s m _ below meth c H locs _ _ _ (F0 m 1117 ls [.int r, .int r])
  refine lv_icmp_eq (tgt := 1393) hx hb dL_law_1117 (by decide) (fun _ => ?_) (fun q => absurd rfl q)
  exact W.widen (k := cells + 1) (n := slots + 6) (by omega) (by omega) (K _ _ _ _ _ _ hrel' hP hD hS hl)

set_option maxHeartbeats 4000000 in
set_option maxRecDepth 100000 in
theorem law_c28 {p : Program} {l : Launch} {e : Env} {s : State} {m : MethodId} {below : List Frame} {meth : Method} {c : Code} {b L : Nat} {xs : Nat → Int32} {D : va_G} {cy : Nat → ClassId} {aC aM : Nat → Nat} {o i cells slots : Nat} (hLX : LX p l s m meth c b L xs D cy aC aM) (hi : i + 5 ≤ L) (hroom : cells + 1 ≤ 1069 ∧ slots + 6 ≤ 10279) (K : KK p l e s m below meth c b D cy aC aM o i cells slots) {σ τ : St} {g : Nat → Int64} {H : Heap} {locs : List Loc} {ls : Array Slot} (hrel : Rel σ τ) (hP : va_P D vwCl (wL cy aC aM o σ τ g) H) (hD : va_D (AA s) (wL cy aC aM o σ τ g)) (hS : va_S (AA s) s.heap H locs) (hl : lv_has ls 8 (LV b aC aM o i)) : W p l e room_1 s m #[Value.ref b] below meth c H locs cells slots (lw_Z below #[Value.ref b] s) (F0 m 1122 ls []) := by
  obtain ⟨⟨hx, hb, hr, hml, hown, hts, hX, hbl, hlocks, hgv⟩, hL, htr, hK, hXC, hXM, hE⟩ := id hLX
  have hbA : ¬ AA s b := Nat.not_le.mpr hbl
  obtain ⟨r, C', M', e1, e2, hrel'⟩ := m_parts hrel (xs (nI i + 1).toNatClampNeg)
  refine lv_aload_n hx hb dL_law_1122 rfl (lv_at hl 1 rfl) ?_
  refine lv_aload_n hx hb dL_law_1123 rfl (lv_at hl 0 rfl) ?_
  refine lv_iload hx hb dL_law_1124 (lv_at hl 4 rfl) ?_
  refine lv_iconst (v := 1) hx hb dL_law_1126 (by decide) ?_
  refine lv_iadd hx hb dL_law_1127 ?_
  refine va_sld hx hb hX hbl hbA hS (in_k (k := 1) rfl (by omega) hL) dL_law_1128 ?_
  refine lw_callC (As := [.int (xs (nI i + 1).toNatClampNeg)]) (rest := []) hLX hP hD hS hl.1 (con_X6_parts l σ (xs (nI i + 1).toNatClampNeg) e1) KL_145 rfl rfl rfl rfl ⟨Nat.le_of_ble_eq_true rfl, Nat.le_of_ble_eq_true rfl⟩ (Nat.le_of_ble_eq_true rfl) dL_law_1129 ⟨by omega, by omega⟩ (fun H locs hP hD hS => ?_)
  show W p l e room_1 s m _ below meth c H locs _ _ _ (F0 m 1132 ls [.int r])
  refine lv_aload_n hx hb dL_law_1132 rfl (lv_at hl 2 rfl) ?_
  refine lv_aload_n hx hb dL_law_1133 rfl (lv_at hl 0 rfl) ?_
  refine lv_iload hx hb dL_law_1134 (lv_at hl 4 rfl) ?_
  refine lv_iconst (v := 1) hx hb dL_law_1136 (by decide) ?_
  refine lv_iadd hx hb dL_law_1137 ?_
  refine va_sld hx hb hX hbl hbA hS (in_k (k := 1) rfl (by omega) hL) dL_law_1138 ?_
  refine lw_callM (As := [.int (xs (nI i + 1).toNatClampNeg)]) (rest := [.int r]) hLX hP hD hS hl.1 (con_X7_parts l τ (xs (nI i + 1).toNatClampNeg) e2) KL_148 rfl rfl rfl rfl ⟨Nat.le_of_ble_eq_true rfl, Nat.le_of_ble_eq_true rfl⟩ (Nat.le_of_ble_eq_true rfl) dL_law_1139 ⟨by omega, by omega⟩ (fun H locs hP hD hS => ?_)
  show W p l e room_1 s m _ below meth c H locs _ _ _ (F0 m 1142 ls [.int r, .int r])
  refine lv_icmp_eq (tgt := 1393) hx hb dL_law_1142 (by decide) (fun _ => ?_) (fun q => absurd rfl q)
  exact W.widen (k := cells + 1) (n := slots + 6) (by omega) (by omega) (K _ _ _ _ _ _ hrel' hP hD hS hl)

set_option maxHeartbeats 4000000 in
set_option maxRecDepth 100000 in
theorem law_c29 {p : Program} {l : Launch} {e : Env} {s : State} {m : MethodId} {below : List Frame} {meth : Method} {c : Code} {b L : Nat} {xs : Nat → Int32} {D : va_G} {cy : Nat → ClassId} {aC aM : Nat → Nat} {o i cells slots : Nat} (hLX : LX p l s m meth c b L xs D cy aC aM) (hi : i + 5 ≤ L) (hroom : cells + 1 ≤ 1069 ∧ slots + 6 ≤ 10279) (K : KK p l e s m below meth c b D cy aC aM o i cells slots) {σ τ : St} {g : Nat → Int64} {H : Heap} {locs : List Loc} {ls : Array Slot} (hrel : Rel σ τ) (hP : va_P D vwCl (wL cy aC aM o σ τ g) H) (hD : va_D (AA s) (wL cy aC aM o σ τ g)) (hS : va_S (AA s) s.heap H locs) (hl : lv_has ls 8 (LV b aC aM o i)) : W p l e room_1 s m #[Value.ref b] below meth c H locs cells slots (lw_Z below #[Value.ref b] s) (F0 m 1147 ls []) := by
  obtain ⟨⟨hx, hb, hr, hml, hown, hts, hX, hbl, hlocks, hgv⟩, hL, htr, hK, hXC, hXM, hE⟩ := id hLX
  have hbA : ¬ AA s b := Nat.not_le.mpr hbl
  by_cases hz : (xs (nI i + 1).toNatClampNeg) = 0
  · obtain ⟨r, C', M', e1, e2, hrel'⟩ := m_keeps hrel (x := 0) (by omega)
    have e1 : f_X6_keeps σ 0 = some (r, C') := e1
    have e2 : f_X7_keeps τ 0 = some (r, M') := e2
    refine lv_aload_n hx hb dL_law_1147 rfl (lv_at hl 1 rfl) ?_
    refine lv_aload_n hx hb dL_law_1148 rfl (lv_at hl 0 rfl) ?_
    refine lv_iload hx hb dL_law_1149 (lv_at hl 4 rfl) ?_
    refine lv_iconst (v := 1) hx hb dL_law_1151 (by decide) ?_
    refine lv_iadd hx hb dL_law_1152 ?_
    refine va_sld hx hb hX hbl hbA hS (in_k (k := 1) rfl (by omega) hL) dL_law_1153 ?_
    refine lv_if_eq (tgt := 1161) hx hb dL_law_1154 (by decide) (fun _ => ?_) (fun q => absurd hz q)
    refine lv_iconst (v := 0) hx hb dL_law_1161 (by decide) ?_
    refine lw_callC (As := [.int 0]) (rest := []) hLX hP hD hS hl.1 (con_X6_keeps l σ 0 e1) KL_149 rfl rfl rfl rfl ⟨Nat.le_of_ble_eq_true rfl, Nat.le_of_ble_eq_true rfl⟩ (Nat.le_of_ble_eq_true rfl) dL_law_1162 ⟨by omega, by omega⟩ (fun H locs hP hD hS => ?_)
    show W p l e room_1 s m _ below meth c H locs _ _ _ (F0 m 1165 ls [.int r])
    refine lv_aload_n hx hb dL_law_1165 rfl (lv_at hl 2 rfl) ?_
    refine lv_aload_n hx hb dL_law_1166 rfl (lv_at hl 0 rfl) ?_
    refine lv_iload hx hb dL_law_1167 (lv_at hl 4 rfl) ?_
    refine lv_iconst (v := 1) hx hb dL_law_1169 (by decide) ?_
    refine lv_iadd hx hb dL_law_1170 ?_
    refine va_sld hx hb hX hbl hbA hS (in_k (k := 1) rfl (by omega) hL) dL_law_1171 ?_
    refine lv_if_eq (tgt := 1179) hx hb dL_law_1172 (by decide) (fun _ => ?_) (fun q => absurd hz q)
    refine lv_iconst (v := 0) hx hb dL_law_1179 (by decide) ?_
    refine lw_callM (As := [.int 0]) (rest := [.int r]) hLX hP hD hS hl.1 (con_X7_keeps l τ 0 e2) KL_153 rfl rfl rfl rfl ⟨Nat.le_of_ble_eq_true rfl, Nat.le_of_ble_eq_true rfl⟩ (Nat.le_of_ble_eq_true rfl) dL_law_1180 ⟨by omega, by omega⟩ (fun H locs hP hD hS => ?_)
    show W p l e room_1 s m _ below meth c H locs _ _ _ (F0 m 1183 ls [.int r, .int r])
    refine lv_icmp_eq (tgt := 1393) hx hb dL_law_1183 (by decide) (fun _ => ?_) (fun q => absurd rfl q)
    exact W.widen (k := cells + 1) (n := slots + 6) (by omega) (by omega) (K _ _ _ _ _ _ hrel' hP hD hS hl)
  · obtain ⟨r, C', M', e1, e2, hrel'⟩ := m_keeps hrel (x := 1) (by omega)
    have e1 : f_X6_keeps σ 1 = some (r, C') := e1
    have e2 : f_X7_keeps τ 1 = some (r, M') := e2
    refine lv_aload_n hx hb dL_law_1147 rfl (lv_at hl 1 rfl) ?_
    refine lv_aload_n hx hb dL_law_1148 rfl (lv_at hl 0 rfl) ?_
    refine lv_iload hx hb dL_law_1149 (lv_at hl 4 rfl) ?_
    refine lv_iconst (v := 1) hx hb dL_law_1151 (by decide) ?_
    refine lv_iadd hx hb dL_law_1152 ?_
    refine va_sld hx hb hX hbl hbA hS (in_k (k := 1) rfl (by omega) hL) dL_law_1153 ?_
    refine lv_if_eq (tgt := 1161) hx hb dL_law_1154 (by decide) (fun q => absurd q hz) (fun _ => ?_)
    refine lv_iconst (v := 1) hx hb dL_law_1157 (by decide) ?_
    refine lv_goto (tgt := 1162) hx hb dL_law_1158 (by decide) ?_
    refine lw_callC (As := [.int 1]) (rest := []) hLX hP hD hS hl.1 (con_X6_keeps l σ 1 e1) KL_149 rfl rfl rfl rfl ⟨Nat.le_of_ble_eq_true rfl, Nat.le_of_ble_eq_true rfl⟩ (Nat.le_of_ble_eq_true rfl) dL_law_1162 ⟨by omega, by omega⟩ (fun H locs hP hD hS => ?_)
    show W p l e room_1 s m _ below meth c H locs _ _ _ (F0 m 1165 ls [.int r])
    refine lv_aload_n hx hb dL_law_1165 rfl (lv_at hl 2 rfl) ?_
    refine lv_aload_n hx hb dL_law_1166 rfl (lv_at hl 0 rfl) ?_
    refine lv_iload hx hb dL_law_1167 (lv_at hl 4 rfl) ?_
    refine lv_iconst (v := 1) hx hb dL_law_1169 (by decide) ?_
    refine lv_iadd hx hb dL_law_1170 ?_
    refine va_sld hx hb hX hbl hbA hS (in_k (k := 1) rfl (by omega) hL) dL_law_1171 ?_
    refine lv_if_eq (tgt := 1179) hx hb dL_law_1172 (by decide) (fun q => absurd q hz) (fun _ => ?_)
    refine lv_iconst (v := 1) hx hb dL_law_1175 (by decide) ?_
    refine lv_goto (tgt := 1180) hx hb dL_law_1176 (by decide) ?_
    refine lw_callM (As := [.int 1]) (rest := [.int r]) hLX hP hD hS hl.1 (con_X7_keeps l τ 1 e2) KL_153 rfl rfl rfl rfl ⟨Nat.le_of_ble_eq_true rfl, Nat.le_of_ble_eq_true rfl⟩ (Nat.le_of_ble_eq_true rfl) dL_law_1180 ⟨by omega, by omega⟩ (fun H locs hP hD hS => ?_)
    show W p l e room_1 s m _ below meth c H locs _ _ _ (F0 m 1183 ls [.int r, .int r])
    refine lv_icmp_eq (tgt := 1393) hx hb dL_law_1183 (by decide) (fun _ => ?_) (fun q => absurd rfl q)
    exact W.widen (k := cells + 1) (n := slots + 6) (by omega) (by omega) (K _ _ _ _ _ _ hrel' hP hD hS hl)

set_option maxHeartbeats 4000000 in
set_option maxRecDepth 100000 in
theorem law_c30 {p : Program} {l : Launch} {e : Env} {s : State} {m : MethodId} {below : List Frame} {meth : Method} {c : Code} {b L : Nat} {xs : Nat → Int32} {D : va_G} {cy : Nat → ClassId} {aC aM : Nat → Nat} {o i cells slots : Nat} (hLX : LX p l s m meth c b L xs D cy aC aM) (hi : i + 5 ≤ L) (hroom : cells + 1 ≤ 1069 ∧ slots + 6 ≤ 10279) (K : KK p l e s m below meth c b D cy aC aM o i cells slots) {σ τ : St} {g : Nat → Int64} {H : Heap} {locs : List Loc} {ls : Array Slot} (hrel : Rel σ τ) (hP : va_P D vwCl (wL cy aC aM o σ τ g) H) (hD : va_D (AA s) (wL cy aC aM o σ τ g)) (hS : va_S (AA s) s.heap H locs) (hl : lv_has ls 8 (LV b aC aM o i)) : W p l e room_1 s m #[Value.ref b] below meth c H locs cells slots (lw_Z below #[Value.ref b] s) (F0 m 1188 ls []) := by
  obtain ⟨⟨hx, hb, hr, hml, hown, hts, hX, hbl, hlocks, hgv⟩, hL, htr, hK, hXC, hXM, hE⟩ := id hLX
  have hbA : ¬ AA s b := Nat.not_le.mpr hbl
  obtain ⟨r, C', M', e1, e2, hrel'⟩ := m_clears hrel (xs (nI i + 1).toNatClampNeg)
  refine lv_aload_n hx hb dL_law_1188 rfl (lv_at hl 1 rfl) ?_
  refine lv_aload_n hx hb dL_law_1189 rfl (lv_at hl 0 rfl) ?_
  refine lv_iload hx hb dL_law_1190 (lv_at hl 4 rfl) ?_
  refine lv_iconst (v := 1) hx hb dL_law_1192 (by decide) ?_
  refine lv_iadd hx hb dL_law_1193 ?_
  refine va_sld hx hb hX hbl hbA hS (in_k (k := 1) rfl (by omega) hL) dL_law_1194 ?_
  refine lw_callC (As := [.int (xs (nI i + 1).toNatClampNeg)]) (rest := []) hLX hP hD hS hl.1 (con_X6_clears l σ (xs (nI i + 1).toNatClampNeg) e1) KL_154 rfl rfl rfl rfl ⟨Nat.le_of_ble_eq_true rfl, Nat.le_of_ble_eq_true rfl⟩ (Nat.le_of_ble_eq_true rfl) dL_law_1195 ⟨by omega, by omega⟩ (fun H locs hP hD hS => ?_)
  show W p l e room_1 s m _ below meth c H locs _ _ _ (F0 m 1198 ls [.int r])
  refine lv_aload_n hx hb dL_law_1198 rfl (lv_at hl 2 rfl) ?_
  refine lv_aload_n hx hb dL_law_1199 rfl (lv_at hl 0 rfl) ?_
  refine lv_iload hx hb dL_law_1200 (lv_at hl 4 rfl) ?_
  refine lv_iconst (v := 1) hx hb dL_law_1202 (by decide) ?_
  refine lv_iadd hx hb dL_law_1203 ?_
  refine va_sld hx hb hX hbl hbA hS (in_k (k := 1) rfl (by omega) hL) dL_law_1204 ?_
  refine lw_callM (As := [.int (xs (nI i + 1).toNatClampNeg)]) (rest := [.int r]) hLX hP hD hS hl.1 (con_X7_clears l τ (xs (nI i + 1).toNatClampNeg) e2) KL_157 rfl rfl rfl rfl ⟨Nat.le_of_ble_eq_true rfl, Nat.le_of_ble_eq_true rfl⟩ (Nat.le_of_ble_eq_true rfl) dL_law_1205 ⟨by omega, by omega⟩ (fun H locs hP hD hS => ?_)
  show W p l e room_1 s m _ below meth c H locs _ _ _ (F0 m 1208 ls [.int r, .int r])
  refine lv_icmp_eq (tgt := 1393) hx hb dL_law_1208 (by decide) (fun _ => ?_) (fun q => absurd rfl q)
  exact W.widen (k := cells + 1) (n := slots + 6) (by omega) (by omega) (K _ _ _ _ _ _ hrel' hP hD hS hl)

set_option maxHeartbeats 4000000 in
set_option maxRecDepth 100000 in
theorem law_c31 {p : Program} {l : Launch} {e : Env} {s : State} {m : MethodId} {below : List Frame} {meth : Method} {c : Code} {b L : Nat} {xs : Nat → Int32} {D : va_G} {cy : Nat → ClassId} {aC aM : Nat → Nat} {o i cells slots : Nat} (hLX : LX p l s m meth c b L xs D cy aC aM) (hi : i + 5 ≤ L) (hroom : cells + 1 ≤ 1069 ∧ slots + 6 ≤ 10279) (K : KK p l e s m below meth c b D cy aC aM o i cells slots) {σ τ : St} {g : Nat → Int64} {H : Heap} {locs : List Loc} {ls : Array Slot} (hrel : Rel σ τ) (hP : va_P D vwCl (wL cy aC aM o σ τ g) H) (hD : va_D (AA s) (wL cy aC aM o σ τ g)) (hS : va_S (AA s) s.heap H locs) (hl : lv_has ls 8 (LV b aC aM o i)) : W p l e room_1 s m #[Value.ref b] below meth c H locs cells slots (lw_Z below #[Value.ref b] s) (F0 m 1213 ls []) := by
  obtain ⟨⟨hx, hb, hr, hml, hown, hts, hX, hbl, hlocks, hgv⟩, hL, htr, hK, hXC, hXM, hE⟩ := id hLX
  have hbA : ¬ AA s b := Nat.not_le.mpr hbl
  obtain ⟨r, C', M', e1, e2, hrel'⟩ := m_common hrel
  refine lv_aload_n hx hb dL_law_1213 rfl (lv_at hl 1 rfl) ?_
  refine lw_callC (As := []) (rest := []) hLX hP hD hS hl.1 (con_X6_common l σ e1) KL_158 rfl rfl rfl rfl ⟨Nat.le_of_ble_eq_true rfl, Nat.le_of_ble_eq_true rfl⟩ (Nat.le_of_ble_eq_true rfl) dL_law_1214 ⟨by omega, by omega⟩ (fun H locs hP hD hS => ?_)
  show W p l e room_1 s m _ below meth c H locs _ _ _ (F0 m 1217 ls [.int r])
  refine lv_aload_n hx hb dL_law_1217 rfl (lv_at hl 2 rfl) ?_
  refine lw_callM (As := []) (rest := [.int r]) hLX hP hD hS hl.1 (con_X7_common l τ e2) KL_161 rfl rfl rfl rfl ⟨Nat.le_of_ble_eq_true rfl, Nat.le_of_ble_eq_true rfl⟩ (Nat.le_of_ble_eq_true rfl) dL_law_1218 ⟨by omega, by omega⟩ (fun H locs hP hD hS => ?_)
  show W p l e room_1 s m _ below meth c H locs _ _ _ (F0 m 1221 ls [.int r, .int r])
  refine lv_icmp_eq (tgt := 1393) hx hb dL_law_1221 (by decide) (fun _ => ?_) (fun q => absurd rfl q)
  exact W.widen (k := cells + 1) (n := slots + 6) (by omega) (by omega) (K _ _ _ _ _ _ hrel' hP hD hS hl)

set_option maxHeartbeats 4000000 in
set_option maxRecDepth 100000 in
theorem law_c32 {p : Program} {l : Launch} {e : Env} {s : State} {m : MethodId} {below : List Frame} {meth : Method} {c : Code} {b L : Nat} {xs : Nat → Int32} {D : va_G} {cy : Nat → ClassId} {aC aM : Nat → Nat} {o i cells slots : Nat} (hLX : LX p l s m meth c b L xs D cy aC aM) (hi : i + 5 ≤ L) (hroom : cells + 1 ≤ 1069 ∧ slots + 6 ≤ 10279) (K : KK p l e s m below meth c b D cy aC aM o i cells slots) {σ τ : St} {g : Nat → Int64} {H : Heap} {locs : List Loc} {ls : Array Slot} (hrel : Rel σ τ) (hP : va_P D vwCl (wL cy aC aM o σ τ g) H) (hD : va_D (AA s) (wL cy aC aM o σ τ g)) (hS : va_S (AA s) s.heap H locs) (hl : lv_has ls 8 (LV b aC aM o i)) : W p l e room_1 s m #[Value.ref b] below meth c H locs cells slots (lw_Z below #[Value.ref b] s) (F0 m 1226 ls []) := by
  obtain ⟨⟨hx, hb, hr, hml, hown, hts, hX, hbl, hlocks, hgv⟩, hL, htr, hK, hXC, hXM, hE⟩ := id hLX
  have hbA : ¬ AA s b := Nat.not_le.mpr hbl
  obtain ⟨r, C', M', e1, e2, hrel'⟩ := m_full hrel (xs (nI i + 1).toNatClampNeg)
  refine lv_aload_n hx hb dL_law_1226 rfl (lv_at hl 1 rfl) ?_
  refine lv_aload_n hx hb dL_law_1227 rfl (lv_at hl 0 rfl) ?_
  refine lv_iload hx hb dL_law_1228 (lv_at hl 4 rfl) ?_
  refine lv_iconst (v := 1) hx hb dL_law_1230 (by decide) ?_
  refine lv_iadd hx hb dL_law_1231 ?_
  refine va_sld hx hb hX hbl hbA hS (in_k (k := 1) rfl (by omega) hL) dL_law_1232 ?_
  refine lw_callC (As := [.int (xs (nI i + 1).toNatClampNeg)]) (rest := []) hLX hP hD hS hl.1 (con_X6_full l σ (xs (nI i + 1).toNatClampNeg) e1) KL_162 rfl rfl rfl rfl ⟨Nat.le_of_ble_eq_true rfl, Nat.le_of_ble_eq_true rfl⟩ (Nat.le_of_ble_eq_true rfl) dL_law_1233 ⟨by omega, by omega⟩ (fun H locs hP hD hS => ?_)
  show W p l e room_1 s m _ below meth c H locs _ _ _ (F0 m 1236 ls [.int r])
  refine lv_aload_n hx hb dL_law_1236 rfl (lv_at hl 2 rfl) ?_
  refine lv_aload_n hx hb dL_law_1237 rfl (lv_at hl 0 rfl) ?_
  refine lv_iload hx hb dL_law_1238 (lv_at hl 4 rfl) ?_
  refine lv_iconst (v := 1) hx hb dL_law_1240 (by decide) ?_
  refine lv_iadd hx hb dL_law_1241 ?_
  refine va_sld hx hb hX hbl hbA hS (in_k (k := 1) rfl (by omega) hL) dL_law_1242 ?_
  refine lw_callM (As := [.int (xs (nI i + 1).toNatClampNeg)]) (rest := [.int r]) hLX hP hD hS hl.1 (con_X7_full l τ (xs (nI i + 1).toNatClampNeg) e2) KL_165 rfl rfl rfl rfl ⟨Nat.le_of_ble_eq_true rfl, Nat.le_of_ble_eq_true rfl⟩ (Nat.le_of_ble_eq_true rfl) dL_law_1243 ⟨by omega, by omega⟩ (fun H locs hP hD hS => ?_)
  show W p l e room_1 s m _ below meth c H locs _ _ _ (F0 m 1246 ls [.int r, .int r])
  refine lv_icmp_eq (tgt := 1393) hx hb dL_law_1246 (by decide) (fun _ => ?_) (fun q => absurd rfl q)
  exact W.widen (k := cells + 1) (n := slots + 6) (by omega) (by omega) (K _ _ _ _ _ _ hrel' hP hD hS hl)

set_option maxHeartbeats 4000000 in
set_option maxRecDepth 100000 in
theorem law_c33 {p : Program} {l : Launch} {e : Env} {s : State} {m : MethodId} {below : List Frame} {meth : Method} {c : Code} {b L : Nat} {xs : Nat → Int32} {D : va_G} {cy : Nat → ClassId} {aC aM : Nat → Nat} {o i cells slots : Nat} (hLX : LX p l s m meth c b L xs D cy aC aM) (hi : i + 5 ≤ L) (hroom : cells + 1 ≤ 1069 ∧ slots + 6 ≤ 10279) (K : KK p l e s m below meth c b D cy aC aM o i cells slots) {σ τ : St} {g : Nat → Int64} {H : Heap} {locs : List Loc} {ls : Array Slot} (hrel : Rel σ τ) (hP : va_P D vwCl (wL cy aC aM o σ τ g) H) (hD : va_D (AA s) (wL cy aC aM o σ τ g)) (hS : va_S (AA s) s.heap H locs) (hl : lv_has ls 8 (LV b aC aM o i)) : W p l e room_1 s m #[Value.ref b] below meth c H locs cells slots (lw_Z below #[Value.ref b] s) (F0 m 1251 ls []) := by
  obtain ⟨⟨hx, hb, hr, hml, hown, hts, hX, hbl, hlocks, hgv⟩, hL, htr, hK, hXC, hXM, hE⟩ := id hLX
  have hbA : ¬ AA s b := Nat.not_le.mpr hbl
  obtain ⟨r, C', M', e1, e2, hrel'⟩ := m_count hrel (xs (nI i + 1).toNatClampNeg) (xs (nI i + 2).toNatClampNeg)
  refine lv_aload_n hx hb dL_law_1251 rfl (lv_at hl 1 rfl) ?_
  refine lv_aload_n hx hb dL_law_1252 rfl (lv_at hl 0 rfl) ?_
  refine lv_iload hx hb dL_law_1253 (lv_at hl 4 rfl) ?_
  refine lv_iconst (v := 1) hx hb dL_law_1255 (by decide) ?_
  refine lv_iadd hx hb dL_law_1256 ?_
  refine va_sld hx hb hX hbl hbA hS (in_k (k := 1) rfl (by omega) hL) dL_law_1257 ?_
  refine lv_aload_n hx hb dL_law_1258 rfl (lv_at hl 0 rfl) ?_
  refine lv_iload hx hb dL_law_1259 (lv_at hl 4 rfl) ?_
  refine lv_iconst (v := 2) hx hb dL_law_1261 (by decide) ?_
  refine lv_iadd hx hb dL_law_1262 ?_
  refine va_sld hx hb hX hbl hbA hS (in_k (k := 2) rfl (by omega) hL) dL_law_1263 ?_
  refine lw_callC (As := [.int (xs (nI i + 1).toNatClampNeg), .int (xs (nI i + 2).toNatClampNeg)]) (rest := []) hLX hP hD hS hl.1 (con_X6_count l σ (xs (nI i + 1).toNatClampNeg) (xs (nI i + 2).toNatClampNeg) e1) KL_166 rfl rfl rfl rfl ⟨Nat.le_of_ble_eq_true rfl, Nat.le_of_ble_eq_true rfl⟩ (Nat.le_of_ble_eq_true rfl) dL_law_1264 ⟨by omega, by omega⟩ (fun H locs hP hD hS => ?_)
  show W p l e room_1 s m _ below meth c H locs _ _ _ (F0 m 1267 ls [.int r])
  refine lv_aload_n hx hb dL_law_1267 rfl (lv_at hl 2 rfl) ?_
  refine lv_aload_n hx hb dL_law_1268 rfl (lv_at hl 0 rfl) ?_
  refine lv_iload hx hb dL_law_1269 (lv_at hl 4 rfl) ?_
  refine lv_iconst (v := 1) hx hb dL_law_1271 (by decide) ?_
  refine lv_iadd hx hb dL_law_1272 ?_
  refine va_sld hx hb hX hbl hbA hS (in_k (k := 1) rfl (by omega) hL) dL_law_1273 ?_
  refine lv_aload_n hx hb dL_law_1274 rfl (lv_at hl 0 rfl) ?_
  refine lv_iload hx hb dL_law_1275 (lv_at hl 4 rfl) ?_
  refine lv_iconst (v := 2) hx hb dL_law_1277 (by decide) ?_
  refine lv_iadd hx hb dL_law_1278 ?_
  refine va_sld hx hb hX hbl hbA hS (in_k (k := 2) rfl (by omega) hL) dL_law_1279 ?_
  refine lw_callM (As := [.int (xs (nI i + 1).toNatClampNeg), .int (xs (nI i + 2).toNatClampNeg)]) (rest := [.int r]) hLX hP hD hS hl.1 (con_X7_count l τ (xs (nI i + 1).toNatClampNeg) (xs (nI i + 2).toNatClampNeg) e2) KL_169 rfl rfl rfl rfl ⟨Nat.le_of_ble_eq_true rfl, Nat.le_of_ble_eq_true rfl⟩ (Nat.le_of_ble_eq_true rfl) dL_law_1280 ⟨by omega, by omega⟩ (fun H locs hP hD hS => ?_)
  show W p l e room_1 s m _ below meth c H locs _ _ _ (F0 m 1283 ls [.int r, .int r])
  refine lv_icmp_eq (tgt := 1393) hx hb dL_law_1283 (by decide) (fun _ => ?_) (fun q => absurd rfl q)
  exact W.widen (k := cells + 1) (n := slots + 6) (by omega) (by omega) (K _ _ _ _ _ _ hrel' hP hD hS hl)

set_option maxHeartbeats 4000000 in
set_option maxRecDepth 100000 in
theorem law_c34 {p : Program} {l : Launch} {e : Env} {s : State} {m : MethodId} {below : List Frame} {meth : Method} {c : Code} {b L : Nat} {xs : Nat → Int32} {D : va_G} {cy : Nat → ClassId} {aC aM : Nat → Nat} {o i cells slots : Nat} (hLX : LX p l s m meth c b L xs D cy aC aM) (hi : i + 5 ≤ L) (hroom : cells + 1 ≤ 1069 ∧ slots + 6 ≤ 10279) (K : KK p l e s m below meth c b D cy aC aM o i cells slots) {σ τ : St} {g : Nat → Int64} {H : Heap} {locs : List Loc} {ls : Array Slot} (hrel : Rel σ τ) (hP : va_P D vwCl (wL cy aC aM o σ τ g) H) (hD : va_D (AA s) (wL cy aC aM o σ τ g)) (hS : va_S (AA s) s.heap H locs) (hl : lv_has ls 8 (LV b aC aM o i)) : W p l e room_1 s m #[Value.ref b] below meth c H locs cells slots (lw_Z below #[Value.ref b] s) (F0 m 1288 ls []) := by
  obtain ⟨⟨hx, hb, hr, hml, hown, hts, hX, hbl, hlocks, hgv⟩, hL, htr, hK, hXC, hXM, hE⟩ := id hLX
  have hbA : ¬ AA s b := Nat.not_le.mpr hbl
  obtain ⟨r, C', M', e1, e2, hrel'⟩ := m_sign hrel (xs (nI i + 1).toNatClampNeg)
  refine lv_aload_n hx hb dL_law_1288 rfl (lv_at hl 1 rfl) ?_
  refine lv_aload_n hx hb dL_law_1289 rfl (lv_at hl 0 rfl) ?_
  refine lv_iload hx hb dL_law_1290 (lv_at hl 4 rfl) ?_
  refine lv_iconst (v := 1) hx hb dL_law_1292 (by decide) ?_
  refine lv_iadd hx hb dL_law_1293 ?_
  refine va_sld hx hb hX hbl hbA hS (in_k (k := 1) rfl (by omega) hL) dL_law_1294 ?_
  refine lw_callC (As := [.int (xs (nI i + 1).toNatClampNeg)]) (rest := []) hLX hP hD hS hl.1 (con_X6_sign l σ (xs (nI i + 1).toNatClampNeg) e1) KL_170 rfl rfl rfl rfl ⟨Nat.le_of_ble_eq_true rfl, Nat.le_of_ble_eq_true rfl⟩ (Nat.le_of_ble_eq_true rfl) dL_law_1295 ⟨by omega, by omega⟩ (fun H locs hP hD hS => ?_)
  show W p l e room_1 s m _ below meth c H locs _ _ _ (F0 m 1298 ls [.int r])
  refine lv_aload_n hx hb dL_law_1298 rfl (lv_at hl 2 rfl) ?_
  refine lv_aload_n hx hb dL_law_1299 rfl (lv_at hl 0 rfl) ?_
  refine lv_iload hx hb dL_law_1300 (lv_at hl 4 rfl) ?_
  refine lv_iconst (v := 1) hx hb dL_law_1302 (by decide) ?_
  refine lv_iadd hx hb dL_law_1303 ?_
  refine va_sld hx hb hX hbl hbA hS (in_k (k := 1) rfl (by omega) hL) dL_law_1304 ?_
  refine lw_callM (As := [.int (xs (nI i + 1).toNatClampNeg)]) (rest := [.int r]) hLX hP hD hS hl.1 (con_X7_sign l τ (xs (nI i + 1).toNatClampNeg) e2) KL_173 rfl rfl rfl rfl ⟨Nat.le_of_ble_eq_true rfl, Nat.le_of_ble_eq_true rfl⟩ (Nat.le_of_ble_eq_true rfl) dL_law_1305 ⟨by omega, by omega⟩ (fun H locs hP hD hS => ?_)
  show W p l e room_1 s m _ below meth c H locs _ _ _ (F0 m 1308 ls [.int r, .int r])
  refine lv_icmp_eq (tgt := 1393) hx hb dL_law_1308 (by decide) (fun _ => ?_) (fun q => absurd rfl q)
  exact W.widen (k := cells + 1) (n := slots + 6) (by omega) (by omega) (K _ _ _ _ _ _ hrel' hP hD hS hl)

set_option maxHeartbeats 4000000 in
set_option maxRecDepth 100000 in
theorem law_c35 {p : Program} {l : Launch} {e : Env} {s : State} {m : MethodId} {below : List Frame} {meth : Method} {c : Code} {b L : Nat} {xs : Nat → Int32} {D : va_G} {cy : Nat → ClassId} {aC aM : Nat → Nat} {o i cells slots : Nat} (hLX : LX p l s m meth c b L xs D cy aC aM) (hi : i + 5 ≤ L) (hroom : cells + 1 ≤ 1069 ∧ slots + 6 ≤ 10279) (K : KK p l e s m below meth c b D cy aC aM o i cells slots) {σ τ : St} {g : Nat → Int64} {H : Heap} {locs : List Loc} {ls : Array Slot} (hrel : Rel σ τ) (hP : va_P D vwCl (wL cy aC aM o σ τ g) H) (hD : va_D (AA s) (wL cy aC aM o σ τ g)) (hS : va_S (AA s) s.heap H locs) (hl : lv_has ls 8 (LV b aC aM o i)) : W p l e room_1 s m #[Value.ref b] below meth c H locs cells slots (lw_Z below #[Value.ref b] s) (F0 m 1313 ls []) := by
  obtain ⟨⟨hx, hb, hr, hml, hown, hts, hX, hbl, hlocks, hgv⟩, hL, htr, hK, hXC, hXM, hE⟩ := id hLX
  have hbA : ¬ AA s b := Nat.not_le.mpr hbl
  obtain ⟨r, C', M', e1, e2, hrel'⟩ := m_end hrel (xs (nI i + 1).toNatClampNeg)
  refine lv_aload_n hx hb dL_law_1313 rfl (lv_at hl 1 rfl) ?_
  refine lv_aload_n hx hb dL_law_1314 rfl (lv_at hl 0 rfl) ?_
  refine lv_iload hx hb dL_law_1315 (lv_at hl 4 rfl) ?_
  refine lv_iconst (v := 1) hx hb dL_law_1317 (by decide) ?_
  refine lv_iadd hx hb dL_law_1318 ?_
  refine va_sld hx hb hX hbl hbA hS (in_k (k := 1) rfl (by omega) hL) dL_law_1319 ?_
  refine lw_callC (As := [.int (xs (nI i + 1).toNatClampNeg)]) (rest := []) hLX hP hD hS hl.1 (con_X6_end l σ (xs (nI i + 1).toNatClampNeg) e1) KL_174 rfl rfl rfl rfl ⟨Nat.le_of_ble_eq_true rfl, Nat.le_of_ble_eq_true rfl⟩ (Nat.le_of_ble_eq_true rfl) dL_law_1320 ⟨by omega, by omega⟩ (fun H locs hP hD hS => ?_)
  show W p l e room_1 s m _ below meth c H locs _ _ _ (F0 m 1323 ls [.int r])
  refine lv_aload_n hx hb dL_law_1323 rfl (lv_at hl 2 rfl) ?_
  refine lv_aload_n hx hb dL_law_1324 rfl (lv_at hl 0 rfl) ?_
  refine lv_iload hx hb dL_law_1325 (lv_at hl 4 rfl) ?_
  refine lv_iconst (v := 1) hx hb dL_law_1327 (by decide) ?_
  refine lv_iadd hx hb dL_law_1328 ?_
  refine va_sld hx hb hX hbl hbA hS (in_k (k := 1) rfl (by omega) hL) dL_law_1329 ?_
  refine lw_callM (As := [.int (xs (nI i + 1).toNatClampNeg)]) (rest := [.int r]) hLX hP hD hS hl.1 (con_X7_end l τ (xs (nI i + 1).toNatClampNeg) e2) KL_178 rfl rfl rfl rfl ⟨Nat.le_of_ble_eq_true rfl, Nat.le_of_ble_eq_true rfl⟩ (Nat.le_of_ble_eq_true rfl) dL_law_1330 ⟨by omega, by omega⟩ (fun H locs hP hD hS => ?_)
  show W p l e room_1 s m _ below meth c H locs _ _ _ (F0 m 1333 ls [.int r, .int r])
  refine lv_icmp_eq (tgt := 1393) hx hb dL_law_1333 (by decide) (fun _ => ?_) (fun q => absurd rfl q)
  exact W.widen (k := cells + 1) (n := slots + 6) (by omega) (by omega) (K _ _ _ _ _ _ hrel' hP hD hS hl)

theorem KW_row : (Cond.methodLink RL 179 yL_row ∈ UU ∧ Cond.initialized yL_row.cls ∈ UU ∧ Cond.codeWith yL_row cL_row 4 (some .int) [(0, 8, 11, 13)] ∈ UU ∧ Cond.static yL_row ∈ UU) ∧ (yL_row.cls ≠ "java/lang/invoke/MethodHandle" ∧ yL_row.cls ≠ "java/lang/invoke/VarHandle") ∧ (parseMethodDescriptor yL_row.desc).map (fun d => d.parameters.length) = some 3 := ⟨⟨uu_t 720 (by decide +kernel) rfl, uu_t 0 (by decide +kernel) rfl, uu_t 722 (by decide +kernel) rfl, uu_t 721 (by decide +kernel) rfl⟩, ⟨by decide +kernel, by decide +kernel⟩, by decide +kernel⟩
set_option maxHeartbeats 4000000 in
set_option maxRecDepth 100000 in
theorem law_c36 {p : Program} {l : Launch} {e : Env} {s : State} {m : MethodId} {below : List Frame} {meth : Method} {c : Code} {b L : Nat} {xs : Nat → Int32} {D : va_G} {cy : Nat → ClassId} {aC aM : Nat → Nat} {o i cells slots : Nat} (hLX : LX p l s m meth c b L xs D cy aC aM) (hi : i + 5 ≤ L) (hroom : cells + 1 ≤ 1069 ∧ slots + 6 ≤ 10279) (K : KK p l e s m below meth c b D cy aC aM o i cells slots) {σ τ : St} {g : Nat → Int64} {H : Heap} {locs : List Loc} {ls : Array Slot} (hrel : Rel σ τ) (hP : va_P D vwCl (wL cy aC aM o σ τ g) H) (hD : va_D (AA s) (wL cy aC aM o σ τ g)) (hS : va_S (AA s) s.heap H locs) (hl : lv_has ls 8 (LV b aC aM o i)) : W p l e room_1 s m #[Value.ref b] below meth c H locs cells slots (lw_Z below #[Value.ref b] s) (F0 m 1338 ls []) := by
  obtain ⟨⟨hx, hb, hr, hml, hown, hts, hX, hbl, hlocks, hgv⟩, hL, htr, hK, hXC, hXM, hE⟩ := id hLX
  have hbA : ¬ AA s b := Nat.not_le.mpr hbl
  rcases m_row hrel (xs (nI i + 1).toNatClampNeg) with ⟨hw, r, M', e2, e3, hrel'⟩ | ⟨r, M', e1, e2, e3, hrel'⟩
  · refine lv_aload_n hx hb dL_law_1338 rfl (lv_at hl 1 rfl) ?_
    refine lv_aload_n hx hb dL_law_1339 rfl (lv_at hl 0 rfl) ?_
    refine lv_iload hx hb dL_law_1340 (lv_at hl 4 rfl) ?_
    refine lv_iconst (v := 1) hx hb dL_law_1342 (by decide) ?_
    refine lv_iadd hx hb dL_law_1343 ?_
    refine va_sld hx hb hX hbl hbA hS (in_k (k := 1) rfl (by omega) hL) dL_law_1344 ?_
    refine lv_aload_n hx hb dL_law_1345 rfl (lv_at hl 3 rfl) ?_
    refine lw_wrap (As := [.ref (aC 0), .int (xs (nI i + 1).toNatClampNeg), .ref o]) (rest := []) hLX hP hD hS hl.1 (fun sz => thr_Lrow l htr σ (xs (nI i + 1).toNatClampNeg) o g hw D cy aC sz) KW_row rfl rfl (Nat.le_of_ble_eq_true rfl) (Nat.le_of_ble_eq_true rfl) dL_law_1346 hroom (fun H locs hP hD hS => ?_)
    refine lv_istore (lv' := (5, .int 1) :: LV b aC aM o i) hx hb dL_law_1349 hl (by decide) rfl (fun ls hl => ?_)
    refine lv_aload_n hx hb dL_law_1351 rfl (lv_at hl 3 rfl) ?_
    refine lv_aload_n hx hb dL_law_1352 rfl (lv_at hl 1 rfl) ?_
    refine lv_iload hx hb dL_law_1353 (lv_at hl 5 rfl) ?_
    refine lv_iconst (v := 1) hx hb dL_law_1355 (by decide) ?_
    refine lv_iadd hx hb dL_law_1356 ?_
    refine va_sld hx hb hX hbl hbA hS (in_k (k := 1) rfl (by omega) hL) dL_law_1357 ?_
    refine lw_callM (As := [.int (xs (nI i + 1).toNatClampNeg)]) (rest := []) hLX hP hD hS hl.1 (con_X7_row l τ (xs (nI i + 1).toNatClampNeg) e2) KL_182 rfl rfl rfl rfl ⟨Nat.le_of_ble_eq_true rfl, Nat.le_of_ble_eq_true rfl⟩ (Nat.le_of_ble_eq_true rfl) dL_law_1358 hroom (fun H locs hP hD hS => ?_)
    show W p l e room_1 s m _ below meth c H locs _ _ _ (F0 m 1361 ls [.long r])
    refine lv_lstore (lv' := (6, .long r) :: (5, .int 1) :: LV b aC aM o i) hx hb dL_law_1361 hl (by decide) rfl (fun ls hl => ?_)
    refine lv_aload_n hx hb dL_law_1363 rfl (lv_at hl 4 rfl) ?_
    refine lw_callM (As := []) (rest := []) hLX hP hD hS hl.1 (con_X7_thrown l M' (r := 1) e3) KL_71 rfl rfl rfl rfl ⟨Nat.le_of_ble_eq_true rfl, Nat.le_of_ble_eq_true rfl⟩ (Nat.le_of_ble_eq_true rfl) dL_law_1364 hroom (fun H locs hP hD hS => ?_)
    show W p l e room_1 s m _ below meth c H locs _ _ _ (F0 m 1367 ls [.int 1])
    refine lv_iload hx hb dL_law_1367 (lv_at hl 1 rfl) ?_
    refine lv_icmp_eq (tgt := 1374) hx hb dL_law_1369 (by decide) (fun _ => ?_) (fun q => absurd rfl q)
    refine lv_iload hx hb dL_law_1374 (lv_at hl 1 rfl) ?_
    refine lv_if_ne (tgt := 1390) hx hb dL_law_1376 (by decide) (fun _ => ?_) (fun q => absurd q (by decide))
    refine lv_goto (tgt := 1393) hx hb dL_law_1390 (by decide) ?_
    exact K _ _ _ _ _ _ hrel' hP hD hS (lv_sub hl [2, 3, 4, 5, 6] rfl)
  · refine lv_aload_n hx hb dL_law_1338 rfl (lv_at hl 1 rfl) ?_
    refine lv_aload_n hx hb dL_law_1339 rfl (lv_at hl 0 rfl) ?_
    refine lv_iload hx hb dL_law_1340 (lv_at hl 4 rfl) ?_
    refine lv_iconst (v := 1) hx hb dL_law_1342 (by decide) ?_
    refine lv_iadd hx hb dL_law_1343 ?_
    refine va_sld hx hb hX hbl hbA hS (in_k (k := 1) rfl (by omega) hL) dL_law_1344 ?_
    refine lv_aload_n hx hb dL_law_1345 rfl (lv_at hl 3 rfl) ?_
    refine lw_wrap (As := [.ref (aC 0), .int (xs (nI i + 1).toNatClampNeg), .ref o]) (rest := []) hLX hP hD hS hl.1 (fun sz => ret_Lrow l σ (xs (nI i + 1).toNatClampNeg) o g e1 D cy aC sz) KW_row rfl rfl (Nat.le_of_ble_eq_true rfl) (Nat.le_of_ble_eq_true rfl) dL_law_1346 hroom (fun H locs hP hD hS => ?_)
    refine lv_istore (lv' := (5, .int 0) :: LV b aC aM o i) hx hb dL_law_1349 hl (by decide) rfl (fun ls hl => ?_)
    refine lv_aload_n hx hb dL_law_1351 rfl (lv_at hl 3 rfl) ?_
    refine lv_aload_n hx hb dL_law_1352 rfl (lv_at hl 1 rfl) ?_
    refine lv_iload hx hb dL_law_1353 (lv_at hl 5 rfl) ?_
    refine lv_iconst (v := 1) hx hb dL_law_1355 (by decide) ?_
    refine lv_iadd hx hb dL_law_1356 ?_
    refine va_sld hx hb hX hbl hbA hS (in_k (k := 1) rfl (by omega) hL) dL_law_1357 ?_
    refine lw_callM (As := [.int (xs (nI i + 1).toNatClampNeg)]) (rest := []) hLX hP hD hS hl.1 (con_X7_row l τ (xs (nI i + 1).toNatClampNeg) e2) KL_182 rfl rfl rfl rfl ⟨Nat.le_of_ble_eq_true rfl, Nat.le_of_ble_eq_true rfl⟩ (Nat.le_of_ble_eq_true rfl) dL_law_1358 hroom (fun H locs hP hD hS => ?_)
    show W p l e room_1 s m _ below meth c H locs _ _ _ (F0 m 1361 ls [.long r])
    refine lv_lstore (lv' := (6, .long r) :: (5, .int 0) :: LV b aC aM o i) hx hb dL_law_1361 hl (by decide) rfl (fun ls hl => ?_)
    refine lv_aload_n hx hb dL_law_1363 rfl (lv_at hl 4 rfl) ?_
    refine lw_callM (As := []) (rest := []) hLX hP hD hS hl.1 (con_X7_thrown l M' (r := 0) e3) KL_71 rfl rfl rfl rfl ⟨Nat.le_of_ble_eq_true rfl, Nat.le_of_ble_eq_true rfl⟩ (Nat.le_of_ble_eq_true rfl) dL_law_1364 hroom (fun H locs hP hD hS => ?_)
    show W p l e room_1 s m _ below meth c H locs _ _ _ (F0 m 1367 ls [.int 0])
    refine lv_iload hx hb dL_law_1367 (lv_at hl 1 rfl) ?_
    refine lv_icmp_eq (tgt := 1374) hx hb dL_law_1369 (by decide) (fun _ => ?_) (fun q => absurd rfl q)
    refine lv_iload hx hb dL_law_1374 (lv_at hl 1 rfl) ?_
    refine lv_if_ne (tgt := 1390) hx hb dL_law_1376 (by decide) (fun q => absurd rfl q) (fun _ => ?_)
    refine lv_aload_n hx hb dL_law_1379 rfl (lv_at hl 5 rfl) ?_
    refine lv_iconst (v := 0) hx hb dL_law_1380 (by decide) ?_
    refine va_lald hx hb hK hP 42 1 rfl rfl (in_b_vp (by decide)) dL_law_1381 ?_
    refine lv_lload hx hb dL_law_1382 (lv_at hl 0 rfl) ?_
    refine W.lcmp hx hb dL_law_1384 ?_
    refine lv_if_eq (tgt := 1390) hx hb dL_law_1385 (by decide) (fun _ => ?_) (fun q => absurd (lg_0.2 rfl) q)
    refine lv_goto (tgt := 1393) hx hb dL_law_1390 (by decide) ?_
    exact K _ _ _ _ _ _ hrel' hP hD hS (lv_sub hl [2, 3, 4, 5, 6] rfl)

