-- constants and the topology of single cells, each by a row
theorem ic_m1 : Int32.ofInt (-1) = (-1 : Int32) := by decide
theorem ic_0 : Int32.ofInt (0) = (0 : Int32) := by decide
theorem ic_1 : Int32.ofInt (1) = (1 : Int32) := by decide
theorem ic_2 : Int32.ofInt (2) = (2 : Int32) := by decide
theorem ic_3 : Int32.ofInt (3) = (3 : Int32) := by decide
theorem ic_4 : Int32.ofInt (4) = (4 : Int32) := by decide
theorem ic_5 : Int32.ofInt (5) = (5 : Int32) := by decide
theorem bp_m99 : (Int8.ofInt (-99)).toInt32 = (-99 : Int32) := by decide
theorem bp_m6 : (Int8.ofInt (-6)).toInt32 = (-6 : Int32) := by decide
theorem bp_m5 : (Int8.ofInt (-5)).toInt32 = (-5 : Int32) := by decide
theorem bp_m4 : (Int8.ofInt (-4)).toInt32 = (-4 : Int32) := by decide
theorem bp_m3 : (Int8.ofInt (-3)).toInt32 = (-3 : Int32) := by decide
theorem bp_m2 : (Int8.ofInt (-2)).toInt32 = (-2 : Int32) := by decide
theorem bp_6 : (Int8.ofInt (6)).toInt32 = (6 : Int32) := by decide
theorem bp_7 : (Int8.ofInt (7)).toInt32 = (7 : Int32) := by decide
theorem bp_8 : (Int8.ofInt (8)).toInt32 = (8 : Int32) := by decide
theorem bp_9 : (Int8.ofInt (9)).toInt32 = (9 : Int32) := by decide
theorem bp_12 : (Int8.ofInt (12)).toInt32 = (12 : Int32) := by decide
theorem bp_13 : (Int8.ofInt (13)).toInt32 = (13 : Int32) := by decide
theorem bp_14 : (Int8.ofInt (14)).toInt32 = (14 : Int32) := by decide
theorem bp_15 : (Int8.ofInt (15)).toInt32 = (15 : Int32) := by decide
theorem bp_16 : (Int8.ofInt (16)).toInt32 = (16 : Int32) := by decide
theorem bp_21 : (Int8.ofInt (21)).toInt32 = (21 : Int32) := by decide
theorem bp_22 : (Int8.ofInt (22)).toInt32 = (22 : Int32) := by decide
theorem bp_23 : (Int8.ofInt (23)).toInt32 = (23 : Int32) := by decide
theorem bp_32 : (Int8.ofInt (32)).toInt32 = (32 : Int32) := by decide
theorem bp_39 : (Int8.ofInt (39)).toInt32 = (39 : Int32) := by decide
theorem bp_42 : (Int8.ofInt (42)).toInt32 = (42 : Int32) := by decide
theorem bp_78 : (Int8.ofInt (78)).toInt32 = (78 : Int32) := by decide
theorem bp_81 : (Int8.ofInt (81)).toInt32 = (81 : Int32) := by decide
theorem bp_82 : (Int8.ofInt (82)).toInt32 = (82 : Int32) := by decide
theorem bp_83 : (Int8.ofInt (83)).toInt32 = (83 : Int32) := by decide
theorem bp_99 : (Int8.ofInt (99)).toInt32 = (99 : Int32) := by decide
theorem bp_100 : (Int8.ofInt (100)).toInt32 = (100 : Int32) := by decide
theorem bp_126 : (Int8.ofInt (126)).toInt32 = (126 : Int32) := by decide
theorem bp_127 : (Int8.ofInt (127)).toInt32 = (127 : Int32) := by decide
theorem sp_180 : (Int16.ofInt (180)).toInt32 = (180 : Int32) := by decide
theorem sp_200 : (Int16.ofInt (200)).toInt32 = (200 : Int32) := by decide
theorem sp_252 : (Int16.ofInt (252)).toInt32 = (252 : Int32) := by decide
theorem sp_256 : (Int16.ofInt (256)).toInt32 = (256 : Int32) := by decide
theorem sp_924 : (Int16.ofInt (924)).toInt32 = (924 : Int32) := by decide
theorem sp_4096 : (Int16.ofInt (4096)).toInt32 = (4096 : Int32) := by decide
theorem sp_20000 : (Int16.ofInt (20000)).toInt32 = (20000 : Int32) := by decide
theorem lc_0 : Int64.ofNat ((0 : Fin 2) : Nat) = (0 : Int64) := by decide
theorem lc_1 : Int64.ofNat ((1 : Fin 2) : Nat) = (1 : Int64) := by decide
theorem tg_0 : tg 0 = 0 := by decide
theorem ln_0 : ln 0 = 5 := by decide
theorem tg_1 : tg 1 = 4 := by decide
theorem ln_1 : ln 1 = 2 := by decide
theorem tg_2 : tg 2 = 0 := by decide
theorem ln_2 : ln 2 = 2 := by decide
theorem tg_5 : tg 5 = 0 := by decide
theorem ln_5 : ln 5 = 4 := by decide
theorem tg_6 : tg 6 = 0 := by decide
theorem ln_6 : ln 6 = 3 := by decide
theorem tg_7 : tg 7 = 0 := by decide
theorem ln_7 : ln 7 = 0 := by decide
theorem tg_8 : tg 8 = 0 := by decide
theorem ln_8 : ln 8 = 1 := by decide
theorem tg_9 : tg 9 = 0 := by decide
theorem ln_9 : ln 9 = 1 := by decide
theorem tg_10 : tg 10 = 0 := by decide
theorem ln_10 : ln 10 = 1 := by decide
theorem tg_11 : tg 11 = 0 := by decide
theorem ln_11 : ln 11 = 1 := by decide
theorem tg_12 : tg 12 = 0 := by decide
theorem ln_12 : ln 12 = 1 := by decide
theorem tg_13 : tg 13 = 5 := by decide
theorem ln_13 : ln 13 = 6 := by decide
theorem tg_16 : tg 16 = 6 := by decide
theorem ln_16 : ln 16 = 78 := by decide
theorem tg_17 : tg 17 = 5 := by decide
theorem ln_17 : ln 17 = 2 := by decide
theorem tg_18 : tg 18 = 6 := by decide
theorem ln_18 : ln 18 = 924 := by decide
theorem tg_19 : tg 19 = 6 := by decide
theorem ln_19 : ln 19 = 3 := by decide
theorem tg_20 : tg 20 = 1 := by decide
theorem ln_20 : ln 20 = 7 := by decide
theorem tg_21 : tg 21 = 1 := by decide
theorem ln_21 : ln 21 = 7 := by decide
theorem tg_22 : tg 22 = 1 := by decide
theorem ln_22 : ln 22 = 7 := by decide
theorem tg_23 : tg 23 = 1 := by decide
theorem ln_23 : ln 23 = 6 := by decide
theorem tg_24 : tg 24 = 1 := by decide
theorem ln_24 : ln 24 = 6 := by decide
theorem tg_25 : tg 25 = 1 := by decide
theorem ln_25 : ln 25 = 6 := by decide
theorem tg_56 : tg 56 = 1 := by decide
theorem ln_56 : ln 56 = 7 := by decide
theorem tg_59 : tg 59 = 1 := by decide
theorem ln_59 : ln 59 = 924 := by decide
theorem tg_60 : tg 60 = 1 := by decide
theorem ln_60 : ln 60 = 6 := by decide
theorem tg_61 : tg 61 = 2 := by decide
theorem ln_61 : ln 61 = 924 := by decide
theorem tg_1067 : tg 1067 = 0 := by decide
theorem ln_1067 : ln 1067 = 6 := by decide
theorem tg_1068 : tg 1068 = 1 := by decide
theorem ln_1068 : ln 1068 = 7 := by decide
theorem tg_1069 : tg 1069 = 1 := by decide
theorem ln_1069 : ln 1069 = 7 := by decide
theorem tg_1070 : tg 1070 = 1 := by decide
theorem ln_1070 : ln 1070 = 7 := by decide
theorem tg_1071 : tg 1071 = 1 := by decide
theorem ln_1071 : ln 1071 = 6 := by decide
theorem tg_1072 : tg 1072 = 1 := by decide
theorem ln_1072 : ln 1072 = 6 := by decide
theorem tg_1073 : tg 1073 = 1 := by decide
theorem ln_1073 : ln 1073 = 6 := by decide
theorem tg_1074 : tg 1074 = 1 := by decide
theorem ln_1074 : ln 1074 = 42 := by decide
theorem tg_1075 : tg 1075 = 1 := by decide
theorem ln_1075 : ln 1075 = 14 := by decide
theorem tg_1076 : tg 1076 = 1 := by decide
theorem ln_1076 : ln 1076 = 21 := by decide
theorem tg_1077 : tg 1077 = 2 := by decide
theorem ln_1077 : ln 1077 = 252 := by decide
theorem tg_1078 : tg 1078 = 2 := by decide
theorem ln_1078 : ln 1078 = 252 := by decide
theorem tg_1079 : tg 1079 = 1 := by decide
theorem ln_1079 : ln 1079 = 12 := by decide
theorem tg_1080 : tg 1080 = 1 := by decide
theorem ln_1080 : ln 1080 = 924 := by decide
theorem tg_1081 : tg 1081 = 2 := by decide
theorem ln_1081 : ln 1081 = 11088 := by decide
theorem tg_1082 : tg 1082 = 3 := by decide
theorem ln_1082 : ln 1082 = 4096 := by decide
theorem tg_1083 : tg 1083 = 1 := by decide
theorem ln_1083 : ln 1083 = 13 := by decide
theorem tg_1084 : tg 1084 = 2 := by decide
theorem ln_1084 : ln 1084 = 21 := by decide
theorem tg_1085 : tg 1085 = 2 := by decide
theorem ln_1085 : ln 1085 = 12 := by decide
theorem tg_1086 : tg 1086 = 2 := by decide
theorem ln_1086 : ln 1086 = 3 := by decide
theorem tg_1087 : tg 1087 = 2 := by decide
theorem ln_1087 : ln 1087 = 180 := by decide
theorem tg_1088 : tg 1088 = 2 := by decide
theorem ln_1088 : ln 1088 = 180 := by decide
theorem tg_1089 : tg 1089 = 1 := by decide
theorem ln_1089 : ln 1089 = 15 := by decide
theorem tg_1090 : tg 1090 = 2 := by decide
theorem ln_1090 : ln 1090 = 3 := by decide
theorem tg_1091 : tg 1091 = 1 := by decide
theorem ln_1091 : ln 1091 = 12 := by decide
theorem tg_1092 : tg 1092 = 2 := by decide
theorem ln_1092 : ln 1092 = 180 := by decide
theorem tg_1093 : tg 1093 = 2 := by decide
theorem ln_1093 : ln 1093 = 15 := by decide
theorem tg_1094 : tg 1094 = 2 := by decide
theorem ln_1094 : ln 1094 = 2 := by decide
theorem tg_1095 : tg 1095 = 2 := by decide
theorem ln_1095 : ln 1095 = 2 := by decide
theorem tg_1096 : tg 1096 = 3 := by decide
theorem ln_1096 : ln 1096 = 3 := by decide
theorem tg_1097 : tg 1097 = 1 := by decide
theorem ln_1097 : ln 1097 = 3 := by decide
theorem tg_1098 : tg 1098 = 2 := by decide
theorem ln_1098 : ln 1098 = 6 := by decide
theorem tg_1099 : tg 1099 = 2 := by decide
theorem ln_1099 : ln 1099 = 6 := by decide
theorem tg_1100 : tg 1100 = 2 := by decide
theorem ln_1100 : ln 1100 = 12 := by decide
theorem tg_1101 : tg 1101 = 2 := by decide
theorem ln_1101 : ln 1101 = 12 := by decide
theorem tg_1102 : tg 1102 = 2 := by decide
theorem ln_1102 : ln 1102 = 12 := by decide
theorem tg_1103 : tg 1103 = 2 := by decide
theorem ln_1103 : ln 1103 = 12 := by decide
theorem tg_1104 : tg 1104 = 1 := by decide
theorem ln_1104 : ln 1104 = 166 := by decide
theorem tg_1105 : tg 1105 = 3 := by decide
theorem ln_1105 : ln 1105 = 2 := by decide
theorem rf_0_0 : rf 0 0 = 2 := by decide +kernel
theorem rf_0_1 : rf 0 1 = 1 := by decide +kernel
theorem rf_0_2 : rf 0 2 = 5 := by decide +kernel
theorem rf_0_3 : rf 0 3 = 6 := by decide +kernel
theorem rf_0_4 : rf 0 4 = 7 := by decide +kernel
theorem rf_0_5 : rf 0 5 = 8 := by decide +kernel
theorem rf_2_2 : rf 2 2 = 20 := by decide +kernel
theorem rf_2_3 : rf 2 3 = 21 := by decide +kernel
theorem rf_2_4 : rf 2 4 = 22 := by decide +kernel
theorem rf_2_5 : rf 2 5 = 23 := by decide +kernel
theorem rf_2_6 : rf 2 6 = 24 := by decide +kernel
theorem rf_2_7 : rf 2 7 = 25 := by decide +kernel
theorem rf_2_8 : rf 2 8 = 13 := by decide +kernel
theorem rf_5_0 : rf 5 0 = 16 := by decide +kernel
theorem rf_5_1 : rf 5 1 = 56 := by decide +kernel
theorem rf_5_2 : rf 5 2 = 17 := by decide +kernel
theorem rf_6_0 : rf 6 0 = 5 := by decide +kernel
theorem rf_6_1 : rf 6 1 = 59 := by decide +kernel
theorem rf_6_2 : rf 6 2 = 18 := by decide +kernel
theorem rf_7_0 : rf 7 0 = 6 := by decide +kernel
theorem rf_7_1 : rf 7 1 = 60 := by decide +kernel
theorem rf_7_3 : rf 7 3 = 19 := by decide +kernel
theorem rf_7_4 : rf 7 4 = 61 := by decide +kernel
theorem rf_7_5 : rf 7 5 = 9 := by decide +kernel
theorem rf_7_6 : rf 7 6 = 10 := by decide +kernel
theorem rf_7_7 : rf 7 7 = 11 := by decide +kernel
theorem rf_7_8 : rf 7 8 = 12 := by decide +kernel
theorem rf_1067_1 : rf 1067 1 = 1068 := by decide +kernel
theorem rf_1067_2 : rf 1067 2 = 1069 := by decide +kernel
theorem rf_1067_3 : rf 1067 3 = 1070 := by decide +kernel
theorem rf_1067_5 : rf 1067 5 = 1071 := by decide +kernel
theorem rf_1067_6 : rf 1067 6 = 1072 := by decide +kernel
theorem rf_1067_7 : rf 1067 7 = 1073 := by decide +kernel
theorem rf_1067_8 : rf 1067 8 = 1074 := by decide +kernel
theorem rf_1067_12 : rf 1067 12 = 1075 := by decide +kernel
theorem rf_1067_13 : rf 1067 13 = 1076 := by decide +kernel
theorem rf_1067_14 : rf 1067 14 = 1077 := by decide +kernel
theorem rf_1067_15 : rf 1067 15 = 1078 := by decide +kernel
theorem rf_1067_16 : rf 1067 16 = 1079 := by decide +kernel
theorem rf_1067_18 : rf 1067 18 = 1080 := by decide +kernel
theorem rf_1067_19 : rf 1067 19 = 1081 := by decide +kernel
theorem rf_1067_20 : rf 1067 20 = 1082 := by decide +kernel
theorem rf_1067_21 : rf 1067 21 = 1083 := by decide +kernel
theorem rf_1067_22 : rf 1067 22 = 1084 := by decide +kernel
theorem rf_1067_23 : rf 1067 23 = 1085 := by decide +kernel
theorem rf_1067_24 : rf 1067 24 = 1086 := by decide +kernel
theorem rf_1067_26 : rf 1067 26 = 1087 := by decide +kernel
theorem rf_1067_27 : rf 1067 27 = 1088 := by decide +kernel
theorem rf_1067_28 : rf 1067 28 = 1089 := by decide +kernel
theorem rf_1067_32 : rf 1067 32 = 1090 := by decide +kernel
theorem rf_1067_35 : rf 1067 35 = 1091 := by decide +kernel
theorem rf_1067_37 : rf 1067 37 = 1092 := by decide +kernel
theorem rf_1067_38 : rf 1067 38 = 1093 := by decide +kernel
theorem rf_1067_41 : rf 1067 41 = 1094 := by decide +kernel
theorem rf_1067_42 : rf 1067 42 = 1095 := by decide +kernel
theorem rf_1067_43 : rf 1067 43 = 1096 := by decide +kernel
theorem rf_1067_44 : rf 1067 44 = 1097 := by decide +kernel
theorem rf_1067_45 : rf 1067 45 = 1098 := by decide +kernel
theorem rf_1067_46 : rf 1067 46 = 1099 := by decide +kernel
theorem rf_1067_47 : rf 1067 47 = 1100 := by decide +kernel
theorem rf_1067_48 : rf 1067 48 = 1101 := by decide +kernel
theorem rf_1067_49 : rf 1067 49 = 1102 := by decide +kernel
theorem rf_1067_50 : rf 1067 50 = 1103 := by decide +kernel
theorem rf_1067_51 : rf 1067 51 = 1104 := by decide +kernel
theorem rf_1067_52 : rf 1067 52 = 1105 := by decide +kernel
theorem ft_0_0 : ft 0 0 = 2 := by decide +kernel
theorem ft_0_1 : ft 0 1 = 2 := by decide +kernel
theorem ft_0_2 : ft 0 2 = 0 := by decide +kernel
theorem ft_0_3 : ft 0 3 = 2 := by decide +kernel
theorem ft_0_4 : ft 0 4 = 2 := by decide +kernel
theorem ft_0_5 : ft 0 5 = 2 := by decide +kernel
theorem ft_0_6 : ft 0 6 = 2 := by decide +kernel
theorem ft_0_7 : ft 0 7 = 2 := by decide +kernel
theorem ft_0_8 : ft 0 8 = 2 := by decide +kernel
theorem ft_0_9 : ft 0 9 = 0 := by decide +kernel
theorem ft_0_10 : ft 0 10 = 1 := by decide +kernel
theorem ft_0_11 : ft 0 11 = 1 := by decide +kernel
theorem ft_1_0 : ft 1 0 = 1 := by decide +kernel
theorem ft_1_1 : ft 1 1 = 1 := by decide +kernel
theorem ft_2_0 : ft 2 0 = 0 := by decide +kernel
theorem ft_2_1 : ft 2 1 = 0 := by decide +kernel
theorem ft_2_2 : ft 2 2 = 2 := by decide +kernel
theorem ft_2_3 : ft 2 3 = 2 := by decide +kernel
theorem ft_2_4 : ft 2 4 = 2 := by decide +kernel
theorem ft_2_5 : ft 2 5 = 2 := by decide +kernel
theorem ft_2_6 : ft 2 6 = 2 := by decide +kernel
theorem ft_2_7 : ft 2 7 = 2 := by decide +kernel
theorem ft_2_8 : ft 2 8 = 2 := by decide +kernel
theorem ft_3_0 : ft 3 0 = 2 := by decide +kernel
theorem ft_3_1 : ft 3 1 = 2 := by decide +kernel
theorem ft_3_2 : ft 3 2 = 2 := by decide +kernel
theorem ft_3_3 : ft 3 3 = 0 := by decide +kernel
theorem ft_4_0 : ft 4 0 = 2 := by decide +kernel
theorem ft_4_1 : ft 4 1 = 2 := by decide +kernel
theorem ft_4_2 : ft 4 2 = 2 := by decide +kernel
theorem ft_4_3 : ft 4 3 = 0 := by decide +kernel
theorem ft_4_4 : ft 4 4 = 0 := by decide +kernel
theorem ft_4_5 : ft 4 5 = 0 := by decide +kernel
theorem ft_4_6 : ft 4 6 = 0 := by decide +kernel
theorem ft_5_0 : ft 5 0 = 2 := by decide +kernel
theorem ft_5_1 : ft 5 1 = 2 := by decide +kernel
theorem ft_5_2 : ft 5 2 = 2 := by decide +kernel
theorem ft_5_3 : ft 5 3 = 2 := by decide +kernel
theorem ft_5_4 : ft 5 4 = 2 := by decide +kernel
theorem ft_5_5 : ft 5 5 = 2 := by decide +kernel
theorem ft_5_6 : ft 5 6 = 0 := by decide +kernel
theorem ft_5_7 : ft 5 7 = 0 := by decide +kernel
theorem ft_5_8 : ft 5 8 = 0 := by decide +kernel
theorem ft_6_0 : ft 6 0 = 0 := by decide +kernel
theorem ft_6_1 : ft 6 1 = 2 := by decide +kernel
theorem ft_6_2 : ft 6 2 = 2 := by decide +kernel
theorem ft_6_3 : ft 6 3 = 2 := by decide +kernel
theorem ft_6_4 : ft 6 4 = 0 := by decide +kernel
theorem ft_6_5 : ft 6 5 = 2 := by decide +kernel
theorem ft_6_6 : ft 6 6 = 2 := by decide +kernel
theorem ft_6_7 : ft 6 7 = 2 := by decide +kernel
theorem ft_6_8 : ft 6 8 = 2 := by decide +kernel
theorem ft_6_9 : ft 6 9 = 0 := by decide +kernel
theorem ft_6_10 : ft 6 10 = 0 := by decide +kernel
theorem ft_6_11 : ft 6 11 = 0 := by decide +kernel
theorem ft_6_12 : ft 6 12 = 2 := by decide +kernel
theorem ft_6_13 : ft 6 13 = 2 := by decide +kernel
theorem ft_6_14 : ft 6 14 = 2 := by decide +kernel
theorem ft_6_15 : ft 6 15 = 2 := by decide +kernel
theorem ft_6_16 : ft 6 16 = 2 := by decide +kernel
theorem ft_6_17 : ft 6 17 = 0 := by decide +kernel
theorem ft_6_18 : ft 6 18 = 2 := by decide +kernel
theorem ft_6_19 : ft 6 19 = 2 := by decide +kernel
theorem ft_6_20 : ft 6 20 = 2 := by decide +kernel
theorem ft_6_21 : ft 6 21 = 2 := by decide +kernel
theorem ft_6_22 : ft 6 22 = 2 := by decide +kernel
theorem ft_6_23 : ft 6 23 = 2 := by decide +kernel
theorem ft_6_24 : ft 6 24 = 2 := by decide +kernel
theorem ft_6_25 : ft 6 25 = 1 := by decide +kernel
theorem ft_6_26 : ft 6 26 = 2 := by decide +kernel
theorem ft_6_27 : ft 6 27 = 2 := by decide +kernel
theorem ft_6_28 : ft 6 28 = 2 := by decide +kernel
theorem ft_6_29 : ft 6 29 = 1 := by decide +kernel
theorem ft_6_30 : ft 6 30 = 0 := by decide +kernel
theorem ft_6_31 : ft 6 31 = 0 := by decide +kernel
theorem ft_6_32 : ft 6 32 = 2 := by decide +kernel
theorem ft_6_33 : ft 6 33 = 1 := by decide +kernel
theorem ft_6_34 : ft 6 34 = 0 := by decide +kernel
theorem ft_6_35 : ft 6 35 = 2 := by decide +kernel
theorem ft_6_36 : ft 6 36 = 0 := by decide +kernel
theorem ft_6_37 : ft 6 37 = 2 := by decide +kernel
theorem ft_6_38 : ft 6 38 = 2 := by decide +kernel
theorem ft_6_39 : ft 6 39 = 0 := by decide +kernel
theorem ft_6_40 : ft 6 40 = 0 := by decide +kernel
theorem ft_6_41 : ft 6 41 = 2 := by decide +kernel
theorem ft_6_42 : ft 6 42 = 2 := by decide +kernel
theorem ft_6_43 : ft 6 43 = 2 := by decide +kernel
theorem ft_6_44 : ft 6 44 = 2 := by decide +kernel
theorem ft_6_45 : ft 6 45 = 2 := by decide +kernel
theorem ft_6_46 : ft 6 46 = 2 := by decide +kernel
theorem ft_6_47 : ft 6 47 = 2 := by decide +kernel
theorem ft_6_48 : ft 6 48 = 2 := by decide +kernel
theorem ft_6_49 : ft 6 49 = 2 := by decide +kernel
theorem ft_6_50 : ft 6 50 = 2 := by decide +kernel
theorem ft_6_51 : ft 6 51 = 2 := by decide +kernel
theorem ft_6_52 : ft 6 52 = 2 := by decide +kernel
