section
set_option maxRecDepth 100000 in
theorem kc_0 : sm_cw 0 ∈ lw_tbl := List.mem_of_getElem? (i := 296) rfl
set_option maxRecDepth 100000 in
theorem kc_1 : sm_cw 1 ∈ lw_tbl := List.mem_of_getElem? (i := 684) rfl
set_option maxRecDepth 100000 in
theorem kc_2 : sm_cw 2 ∈ lw_tbl := List.mem_of_getElem? (i := 708) rfl
set_option maxRecDepth 100000 in
theorem kc_3 : sm_cw 3 ∈ lw_tbl := List.mem_of_getElem? (i := 742) rfl
set_option maxRecDepth 100000 in
theorem kc_4 : sm_cw 4 ∈ lw_tbl := List.mem_of_getElem? (i := 771) rfl
set_option maxRecDepth 100000 in
theorem kc_5 : sm_cw 5 ∈ lw_tbl := List.mem_of_getElem? (i := 718) rfl
set_option maxRecDepth 100000 in
theorem kc_6 : sm_cw 6 ∈ lw_tbl := List.mem_of_getElem? (i := 767) rfl
set_option maxRecDepth 100000 in
theorem kc_7 : sm_cw 7 ∈ lw_tbl := List.mem_of_getElem? (i := 775) rfl
set_option maxRecDepth 100000 in
theorem kc_8 : sm_cw 8 ∈ lw_tbl := List.mem_of_getElem? (i := 738) rfl
set_option maxRecDepth 100000 in
theorem kc_9 : sm_cw 9 ∈ lw_tbl := List.mem_of_getElem? (i := 835) rfl
set_option maxRecDepth 100000 in
theorem kc_10 : sm_cw 10 ∈ lw_tbl := List.mem_of_getElem? (i := 855) rfl
set_option maxRecDepth 100000 in
theorem kc_11 : sm_cw 11 ∈ lw_tbl := List.mem_of_getElem? (i := 994) rfl
set_option maxRecDepth 100000 in
theorem kc_12 : sm_cw 12 ∈ lw_tbl := List.mem_of_getElem? (i := 972) rfl
set_option maxRecDepth 100000 in
theorem kc_13 : sm_cw 13 ∈ lw_tbl := List.mem_of_getElem? (i := 819) rfl
set_option maxRecDepth 100000 in
theorem kc_14 : sm_cw 14 ∈ lw_tbl := List.mem_of_getElem? (i := 956) rfl
set_option maxRecDepth 100000 in
theorem kc_15 : sm_cw 15 ∈ lw_tbl := List.mem_of_getElem? (i := 910) rfl
set_option maxRecDepth 100000 in
theorem kc_16 : sm_cw 16 ∈ lw_tbl := List.mem_of_getElem? (i := 926) rfl
set_option maxRecDepth 100000 in
theorem kc_17 : sm_cw 17 ∈ lw_tbl := List.mem_of_getElem? (i := 930) rfl
set_option maxRecDepth 100000 in
theorem kc_18 : sm_cw 18 ∈ lw_tbl := List.mem_of_getElem? (i := 914) rfl
set_option maxRecDepth 100000 in
theorem kc_19 : sm_cw 19 ∈ lw_tbl := List.mem_of_getElem? (i := 999) rfl
set_option maxRecDepth 100000 in
theorem kc_20 : sm_cw 20 ∈ lw_tbl := List.mem_of_getElem? (i := 1003) rfl
set_option maxRecDepth 100000 in
theorem kc_21 : sm_cw 21 ∈ lw_tbl := List.mem_of_getElem? (i := 1301) rfl
set_option maxRecDepth 100000 in
theorem kc_22 : sm_cw 22 ∈ lw_tbl := List.mem_of_getElem? (i := 1061) rfl
set_option maxRecDepth 100000 in
theorem kc_23 : sm_cw 23 ∈ lw_tbl := List.mem_of_getElem? (i := 870) rfl
set_option maxRecDepth 100000 in
theorem kc_24 : sm_cw 24 ∈ lw_tbl := List.mem_of_getElem? (i := 1324) rfl
set_option maxRecDepth 100000 in
theorem kc_25 : sm_cw 25 ∈ lw_tbl := List.mem_of_getElem? (i := 877) rfl
set_option maxRecDepth 100000 in
theorem kc_26 : sm_cw 26 ∈ lw_tbl := List.mem_of_getElem? (i := 842) rfl
set_option maxRecDepth 100000 in
theorem kc_27 : sm_cw 27 ∈ lw_tbl := List.mem_of_getElem? (i := 845) rfl
set_option maxRecDepth 100000 in
theorem kc_28 : sm_cw 28 ∈ lw_tbl := List.mem_of_getElem? (i := 839) rfl
set_option maxRecDepth 100000 in
theorem kc_29 : sm_cw 29 ∈ lw_tbl := List.mem_of_getElem? (i := 891) rfl
set_option maxRecDepth 100000 in
theorem kc_30 : sm_cw 30 ∈ lw_tbl := List.mem_of_getElem? (i := 268) rfl
set_option maxRecDepth 100000 in
theorem kc_31 : sm_cw 31 ∈ lw_tbl := List.mem_of_getElem? (i := 1228) rfl
set_option maxRecDepth 100000 in
theorem kc_32 : sm_cw 32 ∈ lw_tbl := List.mem_of_getElem? (i := 1321) rfl
set_option maxRecDepth 100000 in
theorem kc_33 : sm_cw 33 ∈ lw_tbl := List.mem_of_getElem? (i := 1225) rfl
set_option maxRecDepth 100000 in
theorem kc_34 : sm_cw 34 ∈ lw_tbl := List.mem_of_getElem? (i := 1239) rfl
set_option maxRecDepth 100000 in
theorem kc_35 : sm_cw 35 ∈ lw_tbl := List.mem_of_getElem? (i := 1262) rfl
set_option maxRecDepth 100000 in
theorem kc_36 : sm_cw 36 ∈ lw_tbl := List.mem_of_getElem? (i := 1332) rfl
set_option maxRecDepth 100000 in
theorem kc_37 : sm_cw 37 ∈ lw_tbl := List.mem_of_getElem? (i := 1336) rfl
set_option maxRecDepth 100000 in
theorem kc_38 : sm_cw 38 ∈ lw_tbl := List.mem_of_getElem? (i := 1377) rfl
set_option maxRecDepth 100000 in
theorem kc_39 : sm_cw 39 ∈ lw_tbl := List.mem_of_getElem? (i := 1381) rfl
set_option maxRecDepth 100000 in
theorem kc_40 : sm_cw 40 ∈ lw_tbl := List.mem_of_getElem? (i := 1395) rfl
set_option maxRecDepth 100000 in
theorem kc_41 : sm_cw 41 ∈ lw_tbl := List.mem_of_getElem? (i := 423) rfl
set_option maxRecDepth 100000 in
theorem kc_42 : sm_cw 42 ∈ lw_tbl := List.mem_of_getElem? (i := 977) rfl
set_option maxRecDepth 100000 in
theorem kc_43 : sm_cw 43 ∈ lw_tbl := List.mem_of_getElem? (i := 1296) rfl
set_option maxRecDepth 100000 in
theorem kc_44 : sm_cw 44 ∈ lw_tbl := List.mem_of_getElem? (i := 1309) rfl
set_option maxRecDepth 100000 in
theorem kc_45 : sm_cw 45 ∈ lw_tbl := List.mem_of_getElem? (i := 982) rfl
set_option maxRecDepth 100000 in
theorem kc_46 : sm_cw 46 ∈ lw_tbl := List.mem_of_getElem? (i := 1011) rfl
set_option maxRecDepth 100000 in
theorem kc_47 : sm_cw 47 ∈ lw_tbl := List.mem_of_getElem? (i := 1019) rfl
set_option maxRecDepth 100000 in
theorem kc_48 : sm_cw 48 ∈ lw_tbl := List.mem_of_getElem? (i := 1031) rfl
set_option maxRecDepth 100000 in
theorem kc_49 : sm_cw 49 ∈ lw_tbl := List.mem_of_getElem? (i := 1015) rfl
set_option maxRecDepth 100000 in
theorem kc_50 : sm_cw 50 ∈ lw_tbl := List.mem_of_getElem? (i := 986) rfl
set_option maxRecDepth 100000 in
theorem kc_51 : sm_cw 51 ∈ lw_tbl := List.mem_of_getElem? (i := 1023) rfl
set_option maxRecDepth 100000 in
theorem kc_52 : sm_cw 52 ∈ lw_tbl := List.mem_of_getElem? (i := 990) rfl
set_option maxRecDepth 100000 in
theorem kc_53 : sm_cw 53 ∈ lw_tbl := List.mem_of_getElem? (i := 1052) rfl
set_option maxRecDepth 100000 in
theorem kc_54 : sm_cw 54 ∈ lw_tbl := List.mem_of_getElem? (i := 1056) rfl
set_option maxRecDepth 100000 in
theorem kc_55 : sm_cw 55 ∈ lw_tbl := List.mem_of_getElem? (i := 1007) rfl
set_option maxRecDepth 100000 in
theorem kc_56 : sm_cw 56 ∈ lw_tbl := List.mem_of_getElem? (i := 1027) rfl
set_option maxRecDepth 100000 in
theorem kc_57 : sm_cw 57 ∈ lw_tbl := List.mem_of_getElem? (i := 1291) rfl
set_option maxRecDepth 100000 in
theorem kc_58 : sm_cw 58 ∈ lw_tbl := List.mem_of_getElem? (i := 1035) rfl
set_option maxRecDepth 100000 in
theorem kc_59 : sm_cw 59 ∈ lw_tbl := List.mem_of_getElem? (i := 1065) rfl
set_option maxRecDepth 100000 in
theorem kc_60 : sm_cw 60 ∈ lw_tbl := List.mem_of_getElem? (i := 1069) rfl
set_option maxRecDepth 100000 in
theorem kc_61 : sm_cw 61 ∈ lw_tbl := List.mem_of_getElem? (i := 1086) rfl
set_option maxRecDepth 100000 in
theorem kc_62 : sm_cw 62 ∈ lw_tbl := List.mem_of_getElem? (i := 1100) rfl
set_option maxRecDepth 100000 in
theorem kc_63 : sm_cw 63 ∈ lw_tbl := List.mem_of_getElem? (i := 1121) rfl
set_option maxRecDepth 100000 in
theorem kc_64 : sm_cw 64 ∈ lw_tbl := List.mem_of_getElem? (i := 1129) rfl
set_option maxRecDepth 100000 in
theorem kc_65 : sm_cw 65 ∈ lw_tbl := List.mem_of_getElem? (i := 1133) rfl
set_option maxRecDepth 100000 in
theorem kc_66 : sm_cw 66 ∈ lw_tbl := List.mem_of_getElem? (i := 1179) rfl
set_option maxRecDepth 100000 in
theorem kc_67 : sm_cw 67 ∈ lw_tbl := List.mem_of_getElem? (i := 1217) rfl
set_option maxRecDepth 100000 in
theorem kc_68 : sm_cw 68 ∈ lw_tbl := List.mem_of_getElem? (i := 1221) rfl
set_option maxRecDepth 100000 in
theorem kc_69 : sm_cw 69 ∈ lw_tbl := List.mem_of_getElem? (i := 1235) rfl
set_option maxRecDepth 100000 in
theorem kc_70 : sm_cw 70 ∈ lw_tbl := List.mem_of_getElem? (i := 1244) rfl
set_option maxRecDepth 100000 in
theorem kc_71 : sm_cw 71 ∈ lw_tbl := List.mem_of_getElem? (i := 1258) rfl
set_option maxRecDepth 100000 in
theorem kc_72 : sm_cw 72 ∈ lw_tbl := List.mem_of_getElem? (i := 359) rfl
set_option maxRecDepth 100000 in
theorem kc_73 : sm_cw 73 ∈ lw_tbl := List.mem_of_getElem? (i := 722) rfl
set_option maxRecDepth 100000 in
theorem kc_74 : sm_cw 74 ∈ lw_tbl := List.mem_of_getElem? (i := 754) rfl
set_option maxRecDepth 100000 in
theorem kc_75 : sm_cw 75 ∈ lw_tbl := List.mem_of_getElem? (i := 758) rfl
set_option maxRecDepth 100000 in
theorem kc_76 : sm_cw 76 ∈ lw_tbl := List.mem_of_getElem? (i := 763) rfl
set_option maxRecDepth 100000 in
theorem kc_77 : sm_cw 77 ∈ lw_tbl := List.mem_of_getElem? (i := 783) rfl
set_option maxRecDepth 100000 in
theorem kc_78 : sm_cw 78 ∈ lw_tbl := List.mem_of_getElem? (i := 934) rfl
set_option maxRecDepth 100000 in
theorem kc_79 : sm_cw 79 ∈ lw_tbl := List.mem_of_getElem? (i := 750) rfl
set_option maxRecDepth 100000 in
theorem kc_80 : sm_cw 80 ∈ lw_tbl := List.mem_of_getElem? (i := 863) rfl
set_option maxRecDepth 100000 in
theorem kc_81 : sm_cw 81 ∈ lw_tbl := List.mem_of_getElem? (i := 353) rfl
set_option maxRecDepth 100000 in
theorem kc_82 : sm_cw 82 ∈ lw_tbl := List.mem_of_getElem? (i := 680) rfl
set_option maxRecDepth 100000 in
theorem kc_83 : sm_cw 83 ∈ lw_tbl := List.mem_of_getElem? (i := 700) rfl
set_option maxRecDepth 100000 in
theorem kc_84 : sm_cw 84 ∈ lw_tbl := List.mem_of_getElem? (i := 688) rfl
set_option maxRecDepth 100000 in
theorem kc_85 : sm_cw 85 ∈ lw_tbl := List.mem_of_getElem? (i := 851) rfl
set_option maxRecDepth 100000 in
theorem kc_86 : sm_cw 86 ∈ lw_tbl := List.mem_of_getElem? (i := 696) rfl
set_option maxRecDepth 100000 in
theorem kc_87 : sm_cw 87 ∈ lw_tbl := List.mem_of_getElem? (i := 827) rfl
set_option maxRecDepth 100000 in
theorem kc_88 : sm_cw 88 ∈ lw_tbl := List.mem_of_getElem? (i := 692) rfl
set_option maxRecDepth 100000 in
theorem kc_89 : sm_cw 89 ∈ lw_tbl := List.mem_of_getElem? (i := 704) rfl
set_option maxRecDepth 100000 in
theorem kc_90 : sm_cw 90 ∈ lw_tbl := List.mem_of_getElem? (i := 712) rfl
set_option maxRecDepth 100000 in
theorem kc_91 : sm_cw 91 ∈ lw_tbl := List.mem_of_getElem? (i := 726) rfl
set_option maxRecDepth 100000 in
theorem kc_92 : sm_cw 92 ∈ lw_tbl := List.mem_of_getElem? (i := 746) rfl
set_option maxRecDepth 100000 in
theorem kc_93 : sm_cw 93 ∈ lw_tbl := List.mem_of_getElem? (i := 730) rfl
set_option maxRecDepth 100000 in
theorem kc_94 : sm_cw 94 ∈ lw_tbl := List.mem_of_getElem? (i := 734) rfl
set_option maxRecDepth 100000 in
theorem kc_95 : sm_cw 95 ∈ lw_tbl := List.mem_of_getElem? (i := 779) rfl
set_option maxRecDepth 100000 in
theorem kc_96 : sm_cw 96 ∈ lw_tbl := List.mem_of_getElem? (i := 787) rfl
set_option maxRecDepth 100000 in
theorem kc_97 : sm_cw 97 ∈ lw_tbl := List.mem_of_getElem? (i := 791) rfl
set_option maxRecDepth 100000 in
theorem kc_98 : sm_cw 98 ∈ lw_tbl := List.mem_of_getElem? (i := 952) rfl
set_option maxRecDepth 100000 in
theorem kc_99 : sm_cw 99 ∈ lw_tbl := List.mem_of_getElem? (i := 906) rfl
set_option maxRecDepth 100000 in
theorem kc_100 : sm_cw 100 ∈ lw_tbl := List.mem_of_getElem? (i := 902) rfl
set_option maxRecDepth 100000 in
theorem kc_101 : sm_cw 101 ∈ lw_tbl := List.mem_of_getElem? (i := 918) rfl
set_option maxRecDepth 100000 in
theorem kc_102 : sm_cw 102 ∈ lw_tbl := List.mem_of_getElem? (i := 922) rfl
set_option maxRecDepth 100000 in
theorem kc_103 : sm_cw 103 ∈ lw_tbl := List.mem_of_getElem? (i := 940) rfl
set_option maxRecDepth 100000 in
theorem kc_104 : sm_cw 104 ∈ lw_tbl := List.mem_of_getElem? (i := 944) rfl
set_option maxRecDepth 100000 in
theorem kc_105 : sm_cw 105 ∈ lw_tbl := List.mem_of_getElem? (i := 948) rfl
set_option maxRecDepth 100000 in
theorem kc_106 : sm_cw 106 ∈ lw_tbl := List.mem_of_getElem? (i := 795) rfl
set_option maxRecDepth 100000 in
theorem kc_107 : sm_cw 107 ∈ lw_tbl := List.mem_of_getElem? (i := 799) rfl
set_option maxRecDepth 100000 in
theorem kc_108 : sm_cw 108 ∈ lw_tbl := List.mem_of_getElem? (i := 803) rfl
set_option maxRecDepth 100000 in
theorem kc_109 : sm_cw 109 ∈ lw_tbl := List.mem_of_getElem? (i := 897) rfl
set_option maxRecDepth 100000 in
theorem kc_110 : sm_cw 110 ∈ lw_tbl := List.mem_of_getElem? (i := 807) rfl
set_option maxRecDepth 100000 in
theorem kc_111 : sm_cw 111 ∈ lw_tbl := List.mem_of_getElem? (i := 811) rfl
set_option maxRecDepth 100000 in
theorem kc_112 : sm_cw 112 ∈ lw_tbl := List.mem_of_getElem? (i := 815) rfl
set_option maxRecDepth 100000 in
theorem kc_113 : sm_cw 113 ∈ lw_tbl := List.mem_of_getElem? (i := 859) rfl
set_option maxRecDepth 100000 in
theorem kc_114 : sm_cw 114 ∈ lw_tbl := List.mem_of_getElem? (i := 823) rfl
set_option maxRecDepth 100000 in
theorem kc_115 : sm_cw 115 ∈ lw_tbl := List.mem_of_getElem? (i := 831) rfl
set_option maxRecDepth 100000 in
theorem kc_116 : sm_cw 116 ∈ lw_tbl := List.mem_of_getElem? (i := 867) rfl
set_option maxRecDepth 100000 in
theorem kc_117 : sm_cw 117 ∈ lw_tbl := List.mem_of_getElem? (i := 874) rfl
set_option maxRecDepth 100000 in
theorem kc_118 : sm_cw 118 ∈ lw_tbl := List.mem_of_getElem? (i := 881) rfl
set_option maxRecDepth 100000 in
theorem kc_119 : sm_cw 119 ∈ lw_tbl := List.mem_of_getElem? (i := 888) rfl
set_option maxRecDepth 100000 in
theorem kc_120 : sm_cw 120 ∈ lw_tbl := List.mem_of_getElem? (i := 1192) rfl
set_option maxRecDepth 100000 in
theorem kc_121 : sm_cw 121 ∈ lw_tbl := List.mem_of_getElem? (i := 1074) rfl
set_option maxRecDepth 100000 in
theorem kc_122 : sm_cw 122 ∈ lw_tbl := List.mem_of_getElem? (i := 1078) rfl
set_option maxRecDepth 100000 in
theorem kc_123 : sm_cw 123 ∈ lw_tbl := List.mem_of_getElem? (i := 1096) rfl
set_option maxRecDepth 100000 in
theorem kc_124 : sm_cw 124 ∈ lw_tbl := List.mem_of_getElem? (i := 1091) rfl
set_option maxRecDepth 100000 in
theorem kc_125 : sm_cw 125 ∈ lw_tbl := List.mem_of_getElem? (i := 1248) rfl
set_option maxRecDepth 100000 in
theorem kc_126 : sm_cw 126 ∈ lw_tbl := List.mem_of_getElem? (i := 1253) rfl
set_option maxRecDepth 100000 in
theorem kc_127 : sm_cw 127 ∈ lw_tbl := List.mem_of_getElem? (i := 1348) rfl
set_option maxRecDepth 100000 in
theorem kc_128 : sm_cw 128 ∈ lw_tbl := List.mem_of_getElem? (i := 1355) rfl
set_option maxRecDepth 100000 in
theorem kc_129 : sm_cw 129 ∈ lw_tbl := List.mem_of_getElem? (i := 199) rfl
set_option maxRecDepth 100000 in
theorem kc_130 : sm_cw 130 ∈ lw_tbl := List.mem_of_getElem? (i := 512) rfl
set_option maxRecDepth 100000 in
theorem kc_131 : sm_cw 131 ∈ lw_tbl := List.mem_of_getElem? (i := 516) rfl
set_option maxRecDepth 100000 in
theorem kc_132 : sm_cw 132 ∈ lw_tbl := List.mem_of_getElem? (i := 524) rfl
set_option maxRecDepth 100000 in
theorem kc_133 : sm_cw 133 ∈ lw_tbl := List.mem_of_getElem? (i := 552) rfl
set_option maxRecDepth 100000 in
theorem kc_134 : sm_cw 134 ∈ lw_tbl := List.mem_of_getElem? (i := 548) rfl
set_option maxRecDepth 100000 in
theorem kc_135 : sm_cw 135 ∈ lw_tbl := List.mem_of_getElem? (i := 538) rfl
set_option maxRecDepth 100000 in
theorem kc_136 : sm_cw 136 ∈ lw_tbl := List.mem_of_getElem? (i := 603) rfl
set_option maxRecDepth 100000 in
theorem kc_137 : sm_cw 137 ∈ lw_tbl := List.mem_of_getElem? (i := 545) rfl
set_option maxRecDepth 100000 in
theorem kc_138 : sm_cw 138 ∈ lw_tbl := List.mem_of_getElem? (i := 535) rfl
set_option maxRecDepth 100000 in
theorem kc_139 : sm_cw 139 ∈ lw_tbl := List.mem_of_getElem? (i := 531) rfl
set_option maxRecDepth 100000 in
theorem kc_140 : sm_cw 140 ∈ lw_tbl := List.mem_of_getElem? (i := 542) rfl
set_option maxRecDepth 100000 in
theorem kc_141 : sm_cw 141 ∈ lw_tbl := List.mem_of_getElem? (i := 607) rfl
set_option maxRecDepth 100000 in
theorem kc_142 : sm_cw 142 ∈ lw_tbl := List.mem_of_getElem? (i := 613) rfl
set_option maxRecDepth 100000 in
theorem kc_143 : sm_cw 143 ∈ lw_tbl := List.mem_of_getElem? (i := 618) rfl
set_option maxRecDepth 100000 in
theorem kc_144 : sm_cw 144 ∈ lw_tbl := List.mem_of_getElem? (i := 1266) rfl
set_option maxRecDepth 100000 in
theorem kc_145 : sm_cw 145 ∈ lw_tbl := List.mem_of_getElem? (i := 1340) rfl
set_option maxRecDepth 100000 in
theorem kc_146 : sm_cw 146 ∈ lw_tbl := List.mem_of_getElem? (i := 1344) rfl
set_option maxRecDepth 100000 in
theorem kc_147 : sm_cw 147 ∈ lw_tbl := List.mem_of_getElem? (i := 1145) rfl
set_option maxRecDepth 100000 in
theorem kc_148 : sm_cw 148 ∈ lw_tbl := List.mem_of_getElem? (i := 959) rfl
set_option maxRecDepth 100000 in
theorem kc_149 : sm_cw 149 ∈ lw_tbl := List.mem_of_getElem? (i := 1104) rfl
set_option maxRecDepth 100000 in
theorem kc_150 : sm_cw 150 ∈ lw_tbl := List.mem_of_getElem? (i := 1125) rfl
set_option maxRecDepth 100000 in
theorem kc_151 : sm_cw 151 ∈ lw_tbl := List.mem_of_getElem? (i := 1368) rfl
set_option maxRecDepth 100000 in
theorem kc_152 : sm_cw 152 ∈ lw_tbl := List.mem_of_getElem? (i := 1359) rfl
set_option maxRecDepth 100000 in
theorem kc_153 : sm_cw 153 ∈ lw_tbl := List.mem_of_getElem? (i := 1109) rfl
set_option maxRecDepth 100000 in
theorem kc_154 : sm_cw 154 ∈ lw_tbl := List.mem_of_getElem? (i := 1113) rfl
set_option maxRecDepth 100000 in
theorem kc_155 : sm_cw 155 ∈ lw_tbl := List.mem_of_getElem? (i := 1117) rfl
set_option maxRecDepth 100000 in
theorem kc_156 : sm_cw 156 ∈ lw_tbl := List.mem_of_getElem? (i := 238) rfl
set_option maxRecDepth 100000 in
theorem kc_157 : sm_cw 157 ∈ lw_tbl := List.mem_of_getElem? (i := 1137) rfl
set_option maxRecDepth 100000 in
theorem kc_158 : sm_cw 158 ∈ lw_tbl := List.mem_of_getElem? (i := 1183) rfl
set_option maxRecDepth 100000 in
theorem kc_159 : sm_cw 159 ∈ lw_tbl := List.mem_of_getElem? (i := 1141) rfl
set_option maxRecDepth 100000 in
theorem kc_160 : sm_cw 160 ∈ lw_tbl := List.mem_of_getElem? (i := 1187) rfl
set_option maxRecDepth 100000 in
theorem kc_161 : sm_cw 161 ∈ lw_tbl := List.mem_of_getElem? (i := 1047) rfl
set_option maxRecDepth 100000 in
theorem kc_162 : sm_cw 162 ∈ lw_tbl := List.mem_of_getElem? (i := 1043) rfl
set_option maxRecDepth 100000 in
theorem kc_163 : sm_cw 163 ∈ lw_tbl := List.mem_of_getElem? (i := 1082) rfl
set_option maxRecDepth 100000 in
theorem kc_164 : sm_cw 164 ∈ lw_tbl := List.mem_of_getElem? (i := 1231) rfl
set_option maxRecDepth 100000 in
theorem kc_165 : sm_cw 165 ∈ lw_tbl := List.mem_of_getElem? (i := 1039) rfl
set_option maxRecDepth 100000 in
theorem kc_166 : sm_cw 166 ∈ lw_tbl := List.mem_of_getElem? (i := 191) rfl
set_option maxRecDepth 100000 in
theorem kc_167 : sm_cw 167 ∈ lw_tbl := List.mem_of_getElem? (i := 508) rfl
set_option maxRecDepth 100000 in
theorem kc_168 : sm_cw 168 ∈ lw_tbl := List.mem_of_getElem? (i := 520) rfl
set_option maxRecDepth 100000 in
theorem kc_169 : sm_cw 169 ∈ lw_tbl := List.mem_of_getElem? (i := 964) rfl
set_option maxRecDepth 100000 in
theorem kc_170 : sm_cw 170 ∈ lw_tbl := List.mem_of_getElem? (i := 968) rfl
set_option maxRecDepth 100000 in
theorem kc_171 : sm_cw 171 ∈ lw_tbl := List.mem_of_getElem? (i := 1305) rfl
set_option maxRecDepth 100000 in
theorem kc_172 : sm_cw 172 ∈ lw_tbl := List.mem_of_getElem? (i := 1313) rfl
set_option maxRecDepth 100000 in
theorem kc_173 : sm_cw 173 ∈ lw_tbl := List.mem_of_getElem? (i := 1317) rfl
set_option maxRecDepth 100000 in
theorem kc_174 : sm_cw 174 ∈ lw_tbl := List.mem_of_getElem? (i := 1328) rfl
set_option maxRecDepth 100000 in
theorem kc_175 : sm_cw 175 ∈ lw_tbl := List.mem_of_getElem? (i := 1364) rfl
set_option maxRecDepth 100000 in
theorem kc_176 : sm_cw 176 ∈ lw_tbl := List.mem_of_getElem? (i := 1373) rfl
set_option maxRecDepth 100000 in
theorem kc_177 : sm_cw 177 ∈ lw_tbl := List.mem_of_getElem? (i := 1385) rfl
set_option maxRecDepth 100000 in
theorem kc_178 : sm_cw 178 ∈ lw_tbl := List.mem_of_getElem? (i := 1391) rfl
set_option maxRecDepth 100000 in
theorem kc_179 : sm_cw 179 ∈ lw_tbl := List.mem_of_getElem? (i := 1400) rfl
set_option maxRecDepth 100000 in
theorem kc_180 : sm_cw 180 ∈ lw_tbl := List.mem_of_getElem? (i := 1411) rfl
set_option maxRecDepth 100000 in
theorem kc_181 : sm_cw 181 ∈ lw_tbl := List.mem_of_getElem? (i := 1967) rfl
set_option maxRecDepth 100000 in
theorem kc_182 : sm_cw 182 ∈ lw_tbl := List.mem_of_getElem? (i := 1964) rfl
set_option maxRecDepth 100000 in
theorem kc_183 : sm_cw 183 ∈ lw_tbl := List.mem_of_getElem? (i := 1943) rfl
set_option maxRecDepth 100000 in
theorem kc_184 : sm_cw 184 ∈ lw_tbl := List.mem_of_getElem? (i := 1961) rfl
set_option maxRecDepth 100000 in
theorem kc_185 : sm_cw 185 ∈ lw_tbl := List.mem_of_getElem? (i := 1958) rfl
set_option maxRecDepth 100000 in
theorem kc_186 : sm_cw 186 ∈ lw_tbl := List.mem_of_getElem? (i := 2004) rfl
set_option maxRecDepth 100000 in
theorem kc_187 : sm_cw 187 ∈ lw_tbl := List.mem_of_getElem? (i := 1749) rfl
set_option maxRecDepth 100000 in
theorem kc_188 : sm_cw 188 ∈ lw_tbl := List.mem_of_getElem? (i := 1785) rfl
set_option maxRecDepth 100000 in
theorem kc_189 : sm_cw 189 ∈ lw_tbl := List.mem_of_getElem? (i := 1756) rfl
set_option maxRecDepth 100000 in
theorem kc_190 : sm_cw 190 ∈ lw_tbl := List.mem_of_getElem? (i := 1742) rfl
set_option maxRecDepth 100000 in
theorem kc_191 : sm_cw 191 ∈ lw_tbl := List.mem_of_getElem? (i := 1780) rfl
set_option maxRecDepth 100000 in
theorem kc_192 : sm_cw 192 ∈ lw_tbl := List.mem_of_getElem? (i := 1759) rfl
set_option maxRecDepth 100000 in
theorem kc_193 : sm_cw 193 ∈ lw_tbl := List.mem_of_getElem? (i := 1762) rfl
set_option maxRecDepth 100000 in
theorem kc_194 : sm_cw 194 ∈ lw_tbl := List.mem_of_getElem? (i := 1792) rfl
set_option maxRecDepth 100000 in
theorem kc_195 : sm_cw 195 ∈ lw_tbl := List.mem_of_getElem? (i := 1789) rfl
set_option maxRecDepth 100000 in
theorem kc_196 : sm_cw 196 ∈ lw_tbl := List.mem_of_getElem? (i := 1738) rfl
set_option maxRecDepth 100000 in
theorem kc_197 : sm_cw 197 ∈ lw_tbl := List.mem_of_getElem? (i := 1746) rfl
set_option maxRecDepth 100000 in
theorem kc_198 : sm_cw 198 ∈ lw_tbl := List.mem_of_getElem? (i := 1819) rfl
set_option maxRecDepth 100000 in
theorem kc_199 : sm_cw 199 ∈ lw_tbl := List.mem_of_getElem? (i := 1753) rfl
set_option maxRecDepth 100000 in
theorem kc_200 : sm_cw 200 ∈ lw_tbl := List.mem_of_getElem? (i := 1839) rfl
set_option maxRecDepth 100000 in
theorem kc_201 : sm_cw 201 ∈ lw_tbl := List.mem_of_getElem? (i := 1835) rfl
set_option maxRecDepth 100000 in
theorem kc_202 : sm_cw 202 ∈ lw_tbl := List.mem_of_getElem? (i := 1940) rfl
set_option maxRecDepth 100000 in
theorem kc_203 : sm_cw 203 ∈ lw_tbl := List.mem_of_getElem? (i := 1843) rfl
set_option maxRecDepth 100000 in
theorem kc_204 : sm_cw 204 ∈ lw_tbl := List.mem_of_getElem? (i := 1863) rfl
set_option maxRecDepth 100000 in
theorem kc_205 : sm_cw 205 ∈ lw_tbl := List.mem_of_getElem? (i := 1831) rfl
set_option maxRecDepth 100000 in
theorem kc_206 : sm_cw 206 ∈ lw_tbl := List.mem_of_getElem? (i := 1859) rfl
set_option maxRecDepth 100000 in
theorem kc_207 : sm_cw 207 ∈ lw_tbl := List.mem_of_getElem? (i := 1907) rfl
set_option maxRecDepth 100000 in
theorem kc_208 : sm_cw 208 ∈ lw_tbl := List.mem_of_getElem? (i := 1823) rfl
set_option maxRecDepth 100000 in
theorem kc_209 : sm_cw 209 ∈ lw_tbl := List.mem_of_getElem? (i := 1850) rfl
set_option maxRecDepth 100000 in
theorem kc_210 : sm_cw 210 ∈ lw_tbl := List.mem_of_getElem? (i := 1847) rfl
set_option maxRecDepth 100000 in
theorem kc_211 : sm_cw 211 ∈ lw_tbl := List.mem_of_getElem? (i := 1827) rfl
set_option maxRecDepth 100000 in
theorem kc_212 : sm_cw 212 ∈ lw_tbl := List.mem_of_getElem? (i := 1867) rfl
set_option maxRecDepth 100000 in
theorem kc_213 : sm_cw 213 ∈ lw_tbl := List.mem_of_getElem? (i := 1875) rfl
set_option maxRecDepth 100000 in
theorem kc_214 : sm_cw 214 ∈ lw_tbl := List.mem_of_getElem? (i := 1879) rfl
set_option maxRecDepth 100000 in
theorem kc_215 : sm_cw 215 ∈ lw_tbl := List.mem_of_getElem? (i := 2012) rfl
set_option maxRecDepth 100000 in
theorem kc_216 : sm_cw 216 ∈ lw_tbl := List.mem_of_getElem? (i := 1871) rfl
set_option maxRecDepth 100000 in
theorem kc_217 : sm_cw 217 ∈ lw_tbl := List.mem_of_getElem? (i := 1883) rfl
set_option maxRecDepth 100000 in
theorem kc_218 : sm_cw 218 ∈ lw_tbl := List.mem_of_getElem? (i := 1887) rfl
set_option maxRecDepth 100000 in
theorem kc_219 : sm_cw 219 ∈ lw_tbl := List.mem_of_getElem? (i := 2008) rfl
set_option maxRecDepth 100000 in
theorem kc_220 : sm_cw 220 ∈ lw_tbl := List.mem_of_getElem? (i := 2020) rfl
set_option maxRecDepth 100000 in
theorem kc_221 : sm_cw 221 ∈ lw_tbl := List.mem_of_getElem? (i := 2016) rfl
set_option maxRecDepth 100000 in
theorem kc_222 : sm_cw 222 ∈ lw_tbl := List.mem_of_getElem? (i := 2024) rfl
set_option maxRecDepth 100000 in
theorem kc_223 : sm_cw 223 ∈ lw_tbl := List.mem_of_getElem? (i := 2028) rfl
set_option maxRecDepth 100000 in
theorem kc_224 : sm_cw 224 ∈ lw_tbl := List.mem_of_getElem? (i := 2032) rfl
set_option maxRecDepth 100000 in
theorem kc_225 : sm_cw 225 ∈ lw_tbl := List.mem_of_getElem? (i := 2036) rfl
set_option maxRecDepth 100000 in
theorem kc_226 : sm_cw 226 ∈ lw_tbl := List.mem_of_getElem? (i := 1973) rfl
set_option maxRecDepth 100000 in
theorem kc_227 : sm_cw 227 ∈ lw_tbl := List.mem_of_getElem? (i := 1936) rfl
set_option maxRecDepth 100000 in
theorem kc_228 : sm_cw 228 ∈ lw_tbl := List.mem_of_getElem? (i := 1891) rfl
set_option maxRecDepth 100000 in
theorem kc_229 : sm_cw 229 ∈ lw_tbl := List.mem_of_getElem? (i := 1916) rfl
set_option maxRecDepth 100000 in
theorem kc_230 : sm_cw 230 ∈ lw_tbl := List.mem_of_getElem? (i := 1920) rfl
set_option maxRecDepth 100000 in
theorem kc_231 : sm_cw 231 ∈ lw_tbl := List.mem_of_getElem? (i := 1924) rfl
set_option maxRecDepth 100000 in
theorem kc_232 : sm_cw 232 ∈ lw_tbl := List.mem_of_getElem? (i := 1928) rfl
set_option maxRecDepth 100000 in
theorem kc_233 : sm_cw 233 ∈ lw_tbl := List.mem_of_getElem? (i := 1932) rfl
set_option maxRecDepth 100000 in
theorem kc_234 : sm_cw 234 ∈ lw_tbl := List.mem_of_getElem? (i := 1895) rfl
set_option maxRecDepth 100000 in
theorem kc_235 : sm_cw 235 ∈ lw_tbl := List.mem_of_getElem? (i := 1903) rfl
set_option maxRecDepth 100000 in
theorem kc_236 : sm_cw 236 ∈ lw_tbl := List.mem_of_getElem? (i := 1899) rfl
set_option maxRecDepth 100000 in
theorem kc_237 : sm_cw 237 ∈ lw_tbl := List.mem_of_getElem? (i := 1911) rfl
set_option maxRecDepth 100000 in
theorem kc_238 : sm_cw 238 ∈ lw_tbl := List.mem_of_getElem? (i := 1951) rfl
set_option maxRecDepth 100000 in
theorem kc_239 : sm_cw 239 ∈ lw_tbl := List.mem_of_getElem? (i := 1955) rfl
set_option maxRecDepth 100000 in
theorem kc_240 : sm_cw 240 ∈ lw_tbl := List.mem_of_getElem? (i := 1948) rfl
set_option maxRecDepth 100000 in
theorem kc_241 : sm_cw 241 ∈ lw_tbl := List.mem_of_getElem? (i := 1977) rfl
set_option maxRecDepth 100000 in
theorem kc_242 : sm_cw 242 ∈ lw_tbl := List.mem_of_getElem? (i := 1984) rfl
set_option maxRecDepth 100000 in
theorem kc_243 : sm_cw 243 ∈ lw_tbl := List.mem_of_getElem? (i := 1996) rfl
set_option maxRecDepth 100000 in
theorem kc_244 : sm_cw 244 ∈ lw_tbl := List.mem_of_getElem? (i := 1981) rfl
set_option maxRecDepth 100000 in
theorem kc_245 : sm_cw 245 ∈ lw_tbl := List.mem_of_getElem? (i := 2000) rfl
set_option maxRecDepth 100000 in
theorem kc_246 : sm_cw 246 ∈ lw_tbl := List.mem_of_getElem? (i := 2092) rfl
set_option maxRecDepth 100000 in
theorem kc_247 : sm_cw 247 ∈ lw_tbl := List.mem_of_getElem? (i := 2095) rfl
set_option maxRecDepth 100000 in
theorem kc_248 : sm_cw 248 ∈ lw_tbl := List.mem_of_getElem? (i := 2088) rfl
set_option maxRecDepth 100000 in
theorem kc_249 : sm_cw 249 ∈ lw_tbl := List.mem_of_getElem? (i := 2103) rfl
set_option maxRecDepth 100000 in
theorem kc_250 : sm_cw 250 ∈ lw_tbl := List.mem_of_getElem? (i := 2107) rfl
set_option maxRecDepth 100000 in
theorem kc_251 : sm_cw 251 ∈ lw_tbl := List.mem_of_getElem? (i := 2111) rfl
set_option maxRecDepth 100000 in
theorem kc_252 : sm_cw 252 ∈ lw_tbl := List.mem_of_getElem? (i := 2099) rfl
set_option maxRecDepth 100000 in
theorem kc_253 : sm_cw 253 ∈ lw_tbl := List.mem_of_getElem? (i := 2068) rfl
set_option maxRecDepth 100000 in
theorem kc_254 : sm_cw 254 ∈ lw_tbl := List.mem_of_getElem? (i := 2072) rfl
set_option maxRecDepth 100000 in
theorem kc_255 : sm_cw 255 ∈ lw_tbl := List.mem_of_getElem? (i := 2060) rfl
set_option maxRecDepth 100000 in
theorem kc_256 : sm_cw 256 ∈ lw_tbl := List.mem_of_getElem? (i := 2080) rfl
set_option maxRecDepth 100000 in
theorem kc_257 : sm_cw 257 ∈ lw_tbl := List.mem_of_getElem? (i := 2150) rfl
set_option maxRecDepth 100000 in
theorem kc_258 : sm_cw 258 ∈ lw_tbl := List.mem_of_getElem? (i := 2052) rfl
set_option maxRecDepth 100000 in
theorem kc_259 : sm_cw 259 ∈ lw_tbl := List.mem_of_getElem? (i := 2123) rfl
set_option maxRecDepth 100000 in
theorem kc_260 : sm_cw 260 ∈ lw_tbl := List.mem_of_getElem? (i := 2056) rfl
set_option maxRecDepth 100000 in
theorem kc_261 : sm_cw 261 ∈ lw_tbl := List.mem_of_getElem? (i := 2064) rfl
set_option maxRecDepth 100000 in
theorem kc_262 : sm_cw 262 ∈ lw_tbl := List.mem_of_getElem? (i := 2154) rfl
set_option maxRecDepth 100000 in
theorem kc_263 : sm_cw 263 ∈ lw_tbl := List.mem_of_getElem? (i := 2146) rfl
set_option maxRecDepth 100000 in
theorem kc_264 : sm_cw 264 ∈ lw_tbl := List.mem_of_getElem? (i := 2076) rfl
set_option maxRecDepth 100000 in
theorem kc_265 : sm_cw 265 ∈ lw_tbl := List.mem_of_getElem? (i := 2084) rfl
set_option maxRecDepth 100000 in
theorem kc_266 : sm_cw 266 ∈ lw_tbl := List.mem_of_getElem? (i := 2115) rfl
set_option maxRecDepth 100000 in
theorem kc_267 : sm_cw 267 ∈ lw_tbl := List.mem_of_getElem? (i := 2119) rfl
set_option maxRecDepth 100000 in
theorem kc_268 : sm_cw 268 ∈ lw_tbl := List.mem_of_getElem? (i := 2130) rfl
set_option maxRecDepth 100000 in
theorem kc_269 : sm_cw 269 ∈ lw_tbl := List.mem_of_getElem? (i := 2134) rfl
set_option maxRecDepth 100000 in
theorem kc_270 : sm_cw 270 ∈ lw_tbl := List.mem_of_getElem? (i := 2127) rfl
set_option maxRecDepth 100000 in
theorem kc_271 : sm_cw 271 ∈ lw_tbl := List.mem_of_getElem? (i := 2138) rfl
set_option maxRecDepth 100000 in
theorem kc_272 : sm_cw 272 ∈ lw_tbl := List.mem_of_getElem? (i := 2142) rfl
set_option maxRecDepth 100000 in
theorem kc_273 : sm_cw 273 ∈ lw_tbl := List.mem_of_getElem? (i := 2182) rfl
set_option maxRecDepth 100000 in
theorem kc_274 : sm_cw 274 ∈ lw_tbl := List.mem_of_getElem? (i := 2178) rfl
set_option maxRecDepth 100000 in
theorem kc_275 : sm_cw 275 ∈ lw_tbl := List.mem_of_getElem? (i := 2186) rfl
set_option maxRecDepth 100000 in
theorem kc_276 : sm_cw 276 ∈ lw_tbl := List.mem_of_getElem? (i := 2174) rfl
set_option maxRecDepth 100000 in
theorem kc_277 : sm_cw 277 ∈ lw_tbl := List.mem_of_getElem? (i := 1405) rfl
set_option maxRecDepth 100000 in
theorem kc_278 : sm_cw 278 ∈ lw_tbl := List.mem_of_getElem? (i := 1730) rfl
set_option maxRecDepth 100000 in
theorem kc_279 : sm_cw 279 ∈ lw_tbl := List.mem_of_getElem? (i := 1726) rfl
set_option maxRecDepth 100000 in
theorem kc_280 : sm_cw 280 ∈ lw_tbl := List.mem_of_getElem? (i := 1734) rfl
set_option maxRecDepth 100000 in
theorem kc_281 : sm_cw 281 ∈ lw_tbl := List.mem_of_getElem? (i := 2040) rfl
set_option maxRecDepth 100000 in
theorem kc_282 : sm_cw 282 ∈ lw_tbl := List.mem_of_getElem? (i := 2048) rfl
set_option maxRecDepth 100000 in
theorem kc_283 : sm_cw 283 ∈ lw_tbl := List.mem_of_getElem? (i := 2044) rfl
set_option maxRecDepth 100000 in
theorem kc_284 : sm_cw 284 ∈ lw_tbl := List.mem_of_getElem? (i := 2158) rfl
set_option maxRecDepth 100000 in
theorem kc_285 : sm_cw 285 ∈ lw_tbl := List.mem_of_getElem? (i := 2162) rfl
set_option maxRecDepth 100000 in
theorem kc_286 : sm_cw 286 ∈ lw_tbl := List.mem_of_getElem? (i := 2166) rfl
set_option maxRecDepth 100000 in
theorem kc_287 : sm_cw 287 ∈ lw_tbl := List.mem_of_getElem? (i := 2170) rfl
set_option maxRecDepth 100000 in
theorem kc_288 : sm_cw 288 ∈ lw_tbl := List.mem_of_getElem? (i := 2190) rfl
set_option maxRecDepth 100000 in
theorem kc_289 : sm_cw 289 ∈ lw_tbl := List.mem_of_getElem? (i := 2198) rfl
set_option maxRecDepth 100000 in
theorem kc_290 : sm_cw 290 ∈ lw_tbl := List.mem_of_getElem? (i := 2194) rfl
set_option maxRecDepth 100000 in
theorem kc_291 : sm_cw 291 ∈ lw_tbl := List.mem_of_getElem? (i := 2202) rfl
set_option maxRecDepth 100000 in
theorem kc_292 : sm_cw 292 ∈ lw_tbl := List.mem_of_getElem? (i := 2206) rfl
set_option maxRecDepth 100000 in
theorem kc_293 : sm_cw 293 ∈ lw_tbl := List.mem_of_getElem? (i := 2210) rfl
set_option maxRecDepth 100000 in
theorem kc_294 : sm_cw 294 ∈ lw_tbl := List.mem_of_getElem? (i := 556) rfl
set_option maxRecDepth 100000 in
theorem kc_295 : sm_cw 295 ∈ lw_tbl := List.mem_of_getElem? (i := 566) rfl
set_option maxRecDepth 100000 in
theorem kc_296 : sm_cw 296 ∈ lw_tbl := List.mem_of_getElem? (i := 623) rfl
set_option maxRecDepth 100000 in
theorem kc_297 : sm_cw 297 ∈ lw_tbl := List.mem_of_getElem? (i := 627) rfl
set_option maxRecDepth 100000 in
theorem kc_298 : sm_cw 298 ∈ lw_tbl := List.mem_of_getElem? (i := 560) rfl
set_option maxRecDepth 100000 in
theorem kc_299 : sm_cw 299 ∈ lw_tbl := List.mem_of_getElem? (i := 570) rfl
set_option maxRecDepth 100000 in
theorem kc_300 : sm_cw 300 ∈ lw_tbl := List.mem_of_getElem? (i := 576) rfl
set_option maxRecDepth 100000 in
theorem kc_301 : sm_cw 301 ∈ lw_tbl := List.mem_of_getElem? (i := 573) rfl
set_option maxRecDepth 100000 in
theorem kc_302 : sm_cw 302 ∈ lw_tbl := List.mem_of_getElem? (i := 634) rfl
set_option maxRecDepth 100000 in
theorem kc_303 : sm_cw 303 ∈ lw_tbl := List.mem_of_getElem? (i := 631) rfl
set_option maxRecDepth 100000 in
theorem kc_304 : sm_cw 304 ∈ lw_tbl := List.mem_of_getElem? (i := 641) rfl
set_option maxRecDepth 100000 in
theorem kc_305 : sm_cw 305 ∈ lw_tbl := List.mem_of_getElem? (i := 581) rfl
set_option maxRecDepth 100000 in
theorem kc_306 : sm_cw 306 ∈ lw_tbl := List.mem_of_getElem? (i := 637) rfl
set_option maxRecDepth 100000 in
theorem kc_307 : sm_cw 307 ∈ lw_tbl := List.mem_of_getElem? (i := 527) rfl
theorem sm_cw_in : ∀ n, n < 308 → sm_cw n ∈ lw_tbl := by
  intro n h
  match n, h with
  | 0, _ => exact kc_0
  | 1, _ => exact kc_1
  | 2, _ => exact kc_2
  | 3, _ => exact kc_3
  | 4, _ => exact kc_4
  | 5, _ => exact kc_5
  | 6, _ => exact kc_6
  | 7, _ => exact kc_7
  | 8, _ => exact kc_8
  | 9, _ => exact kc_9
  | 10, _ => exact kc_10
  | 11, _ => exact kc_11
  | 12, _ => exact kc_12
  | 13, _ => exact kc_13
  | 14, _ => exact kc_14
  | 15, _ => exact kc_15
  | 16, _ => exact kc_16
  | 17, _ => exact kc_17
  | 18, _ => exact kc_18
  | 19, _ => exact kc_19
  | 20, _ => exact kc_20
  | 21, _ => exact kc_21
  | 22, _ => exact kc_22
  | 23, _ => exact kc_23
  | 24, _ => exact kc_24
  | 25, _ => exact kc_25
  | 26, _ => exact kc_26
  | 27, _ => exact kc_27
  | 28, _ => exact kc_28
  | 29, _ => exact kc_29
  | 30, _ => exact kc_30
  | 31, _ => exact kc_31
  | 32, _ => exact kc_32
  | 33, _ => exact kc_33
  | 34, _ => exact kc_34
  | 35, _ => exact kc_35
  | 36, _ => exact kc_36
  | 37, _ => exact kc_37
  | 38, _ => exact kc_38
  | 39, _ => exact kc_39
  | 40, _ => exact kc_40
  | 41, _ => exact kc_41
  | 42, _ => exact kc_42
  | 43, _ => exact kc_43
  | 44, _ => exact kc_44
  | 45, _ => exact kc_45
  | 46, _ => exact kc_46
  | 47, _ => exact kc_47
  | 48, _ => exact kc_48
  | 49, _ => exact kc_49
  | 50, _ => exact kc_50
  | 51, _ => exact kc_51
  | 52, _ => exact kc_52
  | 53, _ => exact kc_53
  | 54, _ => exact kc_54
  | 55, _ => exact kc_55
  | 56, _ => exact kc_56
  | 57, _ => exact kc_57
  | 58, _ => exact kc_58
  | 59, _ => exact kc_59
  | 60, _ => exact kc_60
  | 61, _ => exact kc_61
  | 62, _ => exact kc_62
  | 63, _ => exact kc_63
  | 64, _ => exact kc_64
  | 65, _ => exact kc_65
  | 66, _ => exact kc_66
  | 67, _ => exact kc_67
  | 68, _ => exact kc_68
  | 69, _ => exact kc_69
  | 70, _ => exact kc_70
  | 71, _ => exact kc_71
  | 72, _ => exact kc_72
  | 73, _ => exact kc_73
  | 74, _ => exact kc_74
  | 75, _ => exact kc_75
  | 76, _ => exact kc_76
  | 77, _ => exact kc_77
  | 78, _ => exact kc_78
  | 79, _ => exact kc_79
  | 80, _ => exact kc_80
  | 81, _ => exact kc_81
  | 82, _ => exact kc_82
  | 83, _ => exact kc_83
  | 84, _ => exact kc_84
  | 85, _ => exact kc_85
  | 86, _ => exact kc_86
  | 87, _ => exact kc_87
  | 88, _ => exact kc_88
  | 89, _ => exact kc_89
  | 90, _ => exact kc_90
  | 91, _ => exact kc_91
  | 92, _ => exact kc_92
  | 93, _ => exact kc_93
  | 94, _ => exact kc_94
  | 95, _ => exact kc_95
  | 96, _ => exact kc_96
  | 97, _ => exact kc_97
  | 98, _ => exact kc_98
  | 99, _ => exact kc_99
  | 100, _ => exact kc_100
  | 101, _ => exact kc_101
  | 102, _ => exact kc_102
  | 103, _ => exact kc_103
  | 104, _ => exact kc_104
  | 105, _ => exact kc_105
  | 106, _ => exact kc_106
  | 107, _ => exact kc_107
  | 108, _ => exact kc_108
  | 109, _ => exact kc_109
  | 110, _ => exact kc_110
  | 111, _ => exact kc_111
  | 112, _ => exact kc_112
  | 113, _ => exact kc_113
  | 114, _ => exact kc_114
  | 115, _ => exact kc_115
  | 116, _ => exact kc_116
  | 117, _ => exact kc_117
  | 118, _ => exact kc_118
  | 119, _ => exact kc_119
  | 120, _ => exact kc_120
  | 121, _ => exact kc_121
  | 122, _ => exact kc_122
  | 123, _ => exact kc_123
  | 124, _ => exact kc_124
  | 125, _ => exact kc_125
  | 126, _ => exact kc_126
  | 127, _ => exact kc_127
  | 128, _ => exact kc_128
  | 129, _ => exact kc_129
  | 130, _ => exact kc_130
  | 131, _ => exact kc_131
  | 132, _ => exact kc_132
  | 133, _ => exact kc_133
  | 134, _ => exact kc_134
  | 135, _ => exact kc_135
  | 136, _ => exact kc_136
  | 137, _ => exact kc_137
  | 138, _ => exact kc_138
  | 139, _ => exact kc_139
  | 140, _ => exact kc_140
  | 141, _ => exact kc_141
  | 142, _ => exact kc_142
  | 143, _ => exact kc_143
  | 144, _ => exact kc_144
  | 145, _ => exact kc_145
  | 146, _ => exact kc_146
  | 147, _ => exact kc_147
  | 148, _ => exact kc_148
  | 149, _ => exact kc_149
  | 150, _ => exact kc_150
  | 151, _ => exact kc_151
  | 152, _ => exact kc_152
  | 153, _ => exact kc_153
  | 154, _ => exact kc_154
  | 155, _ => exact kc_155
  | 156, _ => exact kc_156
  | 157, _ => exact kc_157
  | 158, _ => exact kc_158
  | 159, _ => exact kc_159
  | 160, _ => exact kc_160
  | 161, _ => exact kc_161
  | 162, _ => exact kc_162
  | 163, _ => exact kc_163
  | 164, _ => exact kc_164
  | 165, _ => exact kc_165
  | 166, _ => exact kc_166
  | 167, _ => exact kc_167
  | 168, _ => exact kc_168
  | 169, _ => exact kc_169
  | 170, _ => exact kc_170
  | 171, _ => exact kc_171
  | 172, _ => exact kc_172
  | 173, _ => exact kc_173
  | 174, _ => exact kc_174
  | 175, _ => exact kc_175
  | 176, _ => exact kc_176
  | 177, _ => exact kc_177
  | 178, _ => exact kc_178
  | 179, _ => exact kc_179
  | 180, _ => exact kc_180
  | 181, _ => exact kc_181
  | 182, _ => exact kc_182
  | 183, _ => exact kc_183
  | 184, _ => exact kc_184
  | 185, _ => exact kc_185
  | 186, _ => exact kc_186
  | 187, _ => exact kc_187
  | 188, _ => exact kc_188
  | 189, _ => exact kc_189
  | 190, _ => exact kc_190
  | 191, _ => exact kc_191
  | 192, _ => exact kc_192
  | 193, _ => exact kc_193
  | 194, _ => exact kc_194
  | 195, _ => exact kc_195
  | 196, _ => exact kc_196
  | 197, _ => exact kc_197
  | 198, _ => exact kc_198
  | 199, _ => exact kc_199
  | 200, _ => exact kc_200
  | 201, _ => exact kc_201
  | 202, _ => exact kc_202
  | 203, _ => exact kc_203
  | 204, _ => exact kc_204
  | 205, _ => exact kc_205
  | 206, _ => exact kc_206
  | 207, _ => exact kc_207
  | 208, _ => exact kc_208
  | 209, _ => exact kc_209
  | 210, _ => exact kc_210
  | 211, _ => exact kc_211
  | 212, _ => exact kc_212
  | 213, _ => exact kc_213
  | 214, _ => exact kc_214
  | 215, _ => exact kc_215
  | 216, _ => exact kc_216
  | 217, _ => exact kc_217
  | 218, _ => exact kc_218
  | 219, _ => exact kc_219
  | 220, _ => exact kc_220
  | 221, _ => exact kc_221
  | 222, _ => exact kc_222
  | 223, _ => exact kc_223
  | 224, _ => exact kc_224
  | 225, _ => exact kc_225
  | 226, _ => exact kc_226
  | 227, _ => exact kc_227
  | 228, _ => exact kc_228
  | 229, _ => exact kc_229
  | 230, _ => exact kc_230
  | 231, _ => exact kc_231
  | 232, _ => exact kc_232
  | 233, _ => exact kc_233
  | 234, _ => exact kc_234
  | 235, _ => exact kc_235
  | 236, _ => exact kc_236
  | 237, _ => exact kc_237
  | 238, _ => exact kc_238
  | 239, _ => exact kc_239
  | 240, _ => exact kc_240
  | 241, _ => exact kc_241
  | 242, _ => exact kc_242
  | 243, _ => exact kc_243
  | 244, _ => exact kc_244
  | 245, _ => exact kc_245
  | 246, _ => exact kc_246
  | 247, _ => exact kc_247
  | 248, _ => exact kc_248
  | 249, _ => exact kc_249
  | 250, _ => exact kc_250
  | 251, _ => exact kc_251
  | 252, _ => exact kc_252
  | 253, _ => exact kc_253
  | 254, _ => exact kc_254
  | 255, _ => exact kc_255
  | 256, _ => exact kc_256
  | 257, _ => exact kc_257
  | 258, _ => exact kc_258
  | 259, _ => exact kc_259
  | 260, _ => exact kc_260
  | 261, _ => exact kc_261
  | 262, _ => exact kc_262
  | 263, _ => exact kc_263
  | 264, _ => exact kc_264
  | 265, _ => exact kc_265
  | 266, _ => exact kc_266
  | 267, _ => exact kc_267
  | 268, _ => exact kc_268
  | 269, _ => exact kc_269
  | 270, _ => exact kc_270
  | 271, _ => exact kc_271
  | 272, _ => exact kc_272
  | 273, _ => exact kc_273
  | 274, _ => exact kc_274
  | 275, _ => exact kc_275
  | 276, _ => exact kc_276
  | 277, _ => exact kc_277
  | 278, _ => exact kc_278
  | 279, _ => exact kc_279
  | 280, _ => exact kc_280
  | 281, _ => exact kc_281
  | 282, _ => exact kc_282
  | 283, _ => exact kc_283
  | 284, _ => exact kc_284
  | 285, _ => exact kc_285
  | 286, _ => exact kc_286
  | 287, _ => exact kc_287
  | 288, _ => exact kc_288
  | 289, _ => exact kc_289
  | 290, _ => exact kc_290
  | 291, _ => exact kc_291
  | 292, _ => exact kc_292
  | 293, _ => exact kc_293
  | 294, _ => exact kc_294
  | 295, _ => exact kc_295
  | 296, _ => exact kc_296
  | 297, _ => exact kc_297
  | 298, _ => exact kc_298
  | 299, _ => exact kc_299
  | 300, _ => exact kc_300
  | 301, _ => exact kc_301
  | 302, _ => exact kc_302
  | 303, _ => exact kc_303
  | 304, _ => exact kc_304
  | 305, _ => exact kc_305
  | 306, _ => exact kc_306
  | 307, _ => exact kc_307
  | n + 308, h => omega
end
