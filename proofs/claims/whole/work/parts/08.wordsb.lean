/-! the code words of the methods, by their places (written by program) -/
set_option maxRecDepth 100000 in
theorem zk_0 : zcw 0 ∈ tables_1 := List.mem_of_getElem? (i := 22) rfl
set_option maxRecDepth 100000 in
theorem zk_1 : zcw 1 ∈ tables_1 := List.mem_of_getElem? (i := 254) rfl
set_option maxRecDepth 100000 in
theorem zk_2 : zcw 2 ∈ tables_1 := List.mem_of_getElem? (i := 343) rfl
set_option maxRecDepth 100000 in
theorem zk_3 : zcw 3 ∈ tables_1 := List.mem_of_getElem? (i := 367) rfl
set_option maxRecDepth 100000 in
theorem zk_4 : zcw 4 ∈ tables_1 := List.mem_of_getElem? (i := 375) rfl
set_option maxRecDepth 100000 in
theorem zk_5 : zcw 5 ∈ tables_1 := List.mem_of_getElem? (i := 401) rfl
set_option maxRecDepth 100000 in
theorem zk_6 : zcw 6 ∈ tables_1 := List.mem_of_getElem? (i := 481) rfl
set_option maxRecDepth 100000 in
theorem zk_7 : zcw 7 ∈ tables_1 := List.mem_of_getElem? (i := 234) rfl
set_option maxRecDepth 100000 in
theorem zk_8 : zcw 8 ∈ tables_1 := List.mem_of_getElem? (i := 493) rfl
set_option maxRecDepth 100000 in
theorem zk_9 : zcw 9 ∈ tables_1 := List.mem_of_getElem? (i := 517) rfl
set_option maxRecDepth 100000 in
theorem zk_10 : zcw 10 ∈ tables_1 := List.mem_of_getElem? (i := 562) rfl
set_option maxRecDepth 100000 in
theorem zk_11 : zcw 11 ∈ tables_1 := List.mem_of_getElem? (i := 593) rfl
set_option maxRecDepth 100000 in
theorem zk_12 : zcw 12 ∈ tables_1 := List.mem_of_getElem? (i := 605) rfl
set_option maxRecDepth 100000 in
theorem zk_13 : zcw 13 ∈ tables_1 := List.mem_of_getElem? (i := 613) rfl
set_option maxRecDepth 100000 in
theorem zk_14 : zcw 14 ∈ tables_1 := List.mem_of_getElem? (i := 645) rfl
set_option maxRecDepth 100000 in
theorem zk_15 : zcw 15 ∈ tables_1 := List.mem_of_getElem? (i := 663) rfl
set_option maxRecDepth 100000 in
theorem zk_16 : zcw 16 ∈ tables_1 := List.mem_of_getElem? (i := 698) rfl
set_option maxRecDepth 100000 in
theorem zk_17 : zcw 17 ∈ tables_1 := List.mem_of_getElem? (i := 714) rfl
set_option maxRecDepth 100000 in
theorem zk_18 : zcw 18 ∈ tables_1 := List.mem_of_getElem? (i := 726) rfl
set_option maxRecDepth 100000 in
theorem zk_19 : zcw 19 ∈ tables_1 := List.mem_of_getElem? (i := 733) rfl
set_option maxRecDepth 100000 in
theorem zk_20 : zcw 20 ∈ tables_1 := List.mem_of_getElem? (i := 792) rfl
set_option maxRecDepth 100000 in
theorem zk_21 : zcw 21 ∈ tables_1 := List.mem_of_getElem? (i := 819) rfl
set_option maxRecDepth 100000 in
theorem zk_22 : zcw 22 ∈ tables_1 := List.mem_of_getElem? (i := 840) rfl
set_option maxRecDepth 100000 in
theorem zk_23 : zcw 23 ∈ tables_1 := List.mem_of_getElem? (i := 242) rfl
set_option maxRecDepth 100000 in
theorem zk_24 : zcw 24 ∈ tables_1 := List.mem_of_getElem? (i := 327) rfl
set_option maxRecDepth 100000 in
theorem zk_25 : zcw 25 ∈ tables_1 := List.mem_of_getElem? (i := 378) rfl
set_option maxRecDepth 100000 in
theorem zk_26 : zcw 26 ∈ tables_1 := List.mem_of_getElem? (i := 521) rfl
set_option maxRecDepth 100000 in
theorem zk_27 : zcw 27 ∈ tables_1 := List.mem_of_getElem? (i := 596) rfl
set_option maxRecDepth 100000 in
theorem zk_28 : zcw 28 ∈ tables_1 := List.mem_of_getElem? (i := 617) rfl
set_option maxRecDepth 100000 in
theorem zk_29 : zcw 29 ∈ tables_1 := List.mem_of_getElem? (i := 823) rfl
set_option maxRecDepth 100000 in
theorem zk_30 : zcw 30 ∈ tables_1 := List.mem_of_getElem? (i := 649) rfl
set_option maxRecDepth 100000 in
theorem zk_31 : zcw 31 ∈ tables_1 := List.mem_of_getElem? (i := 653) rfl
set_option maxRecDepth 100000 in
theorem zk_32 : zcw 32 ∈ tables_1 := List.mem_of_getElem? (i := 702) rfl
set_option maxRecDepth 100000 in
theorem zk_33 : zcw 33 ∈ tables_1 := List.mem_of_getElem? (i := 58) rfl
set_option maxRecDepth 100000 in
theorem zk_34 : zcw 34 ∈ tables_1 := List.mem_of_getElem? (i := 574) rfl
set_option maxRecDepth 100000 in
theorem zk_35 : zcw 35 ∈ tables_1 := List.mem_of_getElem? (i := 586) rfl
set_option maxRecDepth 100000 in
theorem zk_36 : zcw 36 ∈ tables_1 := List.mem_of_getElem? (i := 750) rfl
set_option maxRecDepth 100000 in
theorem zk_37 : zcw 37 ∈ tables_1 := List.mem_of_getElem? (i := 153) rfl
set_option maxRecDepth 100000 in
theorem zk_38 : zcw 38 ∈ tables_1 := List.mem_of_getElem? (i := 335) rfl
set_option maxRecDepth 100000 in
theorem zk_39 : zcw 39 ∈ tables_1 := List.mem_of_getElem? (i := 757) rfl
set_option maxRecDepth 100000 in
theorem zk_40 : zcw 40 ∈ tables_1 := List.mem_of_getElem? (i := 761) rfl
set_option maxRecDepth 100000 in
theorem zk_41 : zcw 41 ∈ tables_1 := List.mem_of_getElem? (i := 742) rfl
set_option maxRecDepth 100000 in
theorem zk_42 : zcw 42 ∈ tables_1 := List.mem_of_getElem? (i := 765) rfl
set_option maxRecDepth 100000 in
theorem zk_43 : zcw 43 ∈ tables_1 := List.mem_of_getElem? (i := 769) rfl
set_option maxRecDepth 100000 in
theorem zk_44 : zcw 44 ∈ tables_1 := List.mem_of_getElem? (i := 777) rfl
set_option maxRecDepth 100000 in
theorem zk_45 : zcw 45 ∈ tables_1 := List.mem_of_getElem? (i := 781) rfl
set_option maxRecDepth 100000 in
theorem zk_46 : zcw 46 ∈ tables_1 := List.mem_of_getElem? (i := 785) rfl
set_option maxRecDepth 100000 in
theorem zk_47 : zcw 47 ∈ tables_1 := List.mem_of_getElem? (i := 773) rfl
set_option maxRecDepth 100000 in
theorem zk_48 : zcw 48 ∈ tables_1 := List.mem_of_getElem? (i := 84) rfl
set_option maxRecDepth 100000 in
theorem zk_49 : zcw 49 ∈ tables_1 := List.mem_of_getElem? (i := 331) rfl
set_option maxRecDepth 100000 in
theorem zk_50 : zcw 50 ∈ tables_1 := List.mem_of_getElem? (i := 485) rfl
set_option maxRecDepth 100000 in
theorem zk_51 : zcw 51 ∈ tables_1 := List.mem_of_getElem? (i := 707) rfl
set_option maxRecDepth 100000 in
theorem zk_52 : zcw 52 ∈ tables_1 := List.mem_of_getElem? (i := 238) rfl
set_option maxRecDepth 100000 in
theorem zk_53 : zcw 53 ∈ tables_1 := List.mem_of_getElem? (i := 418) rfl
set_option maxRecDepth 100000 in
theorem zk_54 : zcw 54 ∈ tables_1 := List.mem_of_getElem? (i := 474) rfl
set_option maxRecDepth 100000 in
theorem zk_55 : zcw 55 ∈ tables_1 := List.mem_of_getElem? (i := 427) rfl
set_option maxRecDepth 100000 in
theorem zk_56 : zcw 56 ∈ tables_1 := List.mem_of_getElem? (i := 431) rfl
set_option maxRecDepth 100000 in
theorem zk_57 : zcw 57 ∈ tables_1 := List.mem_of_getElem? (i := 445) rfl
set_option maxRecDepth 100000 in
theorem zk_58 : zcw 58 ∈ tables_1 := List.mem_of_getElem? (i := 453) rfl
set_option maxRecDepth 100000 in
theorem zk_59 : zcw 59 ∈ tables_1 := List.mem_of_getElem? (i := 457) rfl
set_option maxRecDepth 100000 in
theorem zk_60 : zcw 60 ∈ tables_1 := List.mem_of_getElem? (i := 449) rfl
set_option maxRecDepth 100000 in
theorem zk_61 : zcw 61 ∈ tables_1 := List.mem_of_getElem? (i := 469) rfl
set_option maxRecDepth 100000 in
theorem zk_62 : zcw 62 ∈ tables_1 := List.mem_of_getElem? (i := 437) rfl
set_option maxRecDepth 100000 in
theorem zk_63 : zcw 63 ∈ tables_1 := List.mem_of_getElem? (i := 465) rfl
set_option maxRecDepth 100000 in
theorem zk_64 : zcw 64 ∈ tables_1 := List.mem_of_getElem? (i := 441) rfl
set_option maxRecDepth 100000 in
theorem zk_65 : zcw 65 ∈ tables_1 := List.mem_of_getElem? (i := 434) rfl
set_option maxRecDepth 100000 in
theorem zk_66 : zcw 66 ∈ tables_1 := List.mem_of_getElem? (i := 462) rfl
set_option maxRecDepth 100000 in
theorem zk_67 : zcw 67 ∈ tables_1 := List.mem_of_getElem? (i := 498) rfl
set_option maxRecDepth 100000 in
theorem zk_68 : zcw 68 ∈ tables_1 := List.mem_of_getElem? (i := 510) rfl
set_option maxRecDepth 100000 in
theorem zk_69 : zcw 69 ∈ tables_1 := List.mem_of_getElem? (i := 183) rfl
set_option maxRecDepth 100000 in
theorem zk_70 : zcw 70 ∈ tables_1 := List.mem_of_getElem? (i := 797) rfl
set_option maxRecDepth 100000 in
theorem zk_71 : zcw 71 ∈ tables_1 := List.mem_of_getElem? (i := 845) rfl
set_option maxRecDepth 100000 in
theorem zk_72 : zcw 72 ∈ tables_1 := List.mem_of_getElem? (i := 849) rfl
set_option maxRecDepth 100000 in
theorem zk_73 : zcw 73 ∈ tables_1 := List.mem_of_getElem? (i := 828) rfl
set_option maxRecDepth 100000 in
theorem zk_74 : zcw 74 ∈ tables_1 := List.mem_of_getElem? (i := 832) rfl
set_option maxRecDepth 100000 in
theorem zk_75 : zcw 75 ∈ tables_1 := List.mem_of_getElem? (i := 801) rfl
set_option maxRecDepth 100000 in
theorem zk_76 : zcw 76 ∈ tables_1 := List.mem_of_getElem? (i := 805) rfl
set_option maxRecDepth 100000 in
theorem zk_77 : zcw 77 ∈ tables_1 := List.mem_of_getElem? (i := 812) rfl
set_option maxRecDepth 100000 in
theorem zk_78 : zcw 78 ∈ tables_1 := List.mem_of_getElem? (i := 30) rfl
set_option maxRecDepth 100000 in
theorem zk_79 : zcw 79 ∈ tables_1 := List.mem_of_getElem? (i := 389) rfl
set_option maxRecDepth 100000 in
theorem zk_80 : zcw 80 ∈ tables_1 := List.mem_of_getElem? (i := 393) rfl
set_option maxRecDepth 100000 in
theorem zk_81 : zcw 81 ∈ tables_1 := List.mem_of_getElem? (i := 413) rfl
set_option maxRecDepth 100000 in
theorem zk_82 : zcw 82 ∈ tables_1 := List.mem_of_getElem? (i := 502) rfl
set_option maxRecDepth 100000 in
theorem zk_83 : zcw 83 ∈ tables_1 := List.mem_of_getElem? (i := 506) rfl
set_option maxRecDepth 100000 in
theorem zk_84 : zcw 84 ∈ tables_1 := List.mem_of_getElem? (i := 409) rfl
set_option maxRecDepth 100000 in
theorem zk_85 : zcw 85 ∈ tables_1 := List.mem_of_getElem? (i := 405) rfl
set_option maxRecDepth 100000 in
theorem zk_86 : zcw 86 ∈ tables_1 := List.mem_of_getElem? (i := 525) rfl
set_option maxRecDepth 100000 in
theorem zk_87 : zcw 87 ∈ tables_1 := List.mem_of_getElem? (i := 530) rfl
set_option maxRecDepth 100000 in
theorem zk_88 : zcw 88 ∈ tables_1 := List.mem_of_getElem? (i := 566) rfl
set_option maxRecDepth 100000 in
theorem zk_89 : zcw 89 ∈ tables_1 := List.mem_of_getElem? (i := 746) rfl
set_option maxRecDepth 100000 in
theorem zk_90 : zcw 90 ∈ tables_1 := List.mem_of_getElem? (i := 534) rfl
set_option maxRecDepth 100000 in
theorem zk_91 : zcw 91 ∈ tables_1 := List.mem_of_getElem? (i := 539) rfl
set_option maxRecDepth 100000 in
theorem zk_92 : zcw 92 ∈ tables_1 := List.mem_of_getElem? (i := 543) rfl
set_option maxRecDepth 100000 in
theorem zk_93 : zcw 93 ∈ tables_1 := List.mem_of_getElem? (i := 550) rfl
set_option maxRecDepth 100000 in
theorem zk_94 : zcw 94 ∈ tables_1 := List.mem_of_getElem? (i := 554) rfl
set_option maxRecDepth 100000 in
theorem zk_95 : zcw 95 ∈ tables_1 := List.mem_of_getElem? (i := 546) rfl
set_option maxRecDepth 100000 in
theorem zk_96 : zcw 96 ∈ tables_1 := List.mem_of_getElem? (i := 570) rfl
set_option maxRecDepth 100000 in
theorem zk_97 : zcw 97 ∈ tables_1 := List.mem_of_getElem? (i := 578) rfl
set_option maxRecDepth 100000 in
theorem zk_98 : zcw 98 ∈ tables_1 := List.mem_of_getElem? (i := 581) rfl
set_option maxRecDepth 100000 in
theorem zk_99 : zcw 99 ∈ tables_1 := List.mem_of_getElem? (i := 126) rfl
set_option maxRecDepth 100000 in
theorem zk_100 : zcw 100 ∈ tables_1 := List.mem_of_getElem? (i := 246) rfl
set_option maxRecDepth 100000 in
theorem zk_101 : zcw 101 ∈ tables_1 := List.mem_of_getElem? (i := 737) rfl
set_option maxRecDepth 100000 in
theorem zk_102 : zcw 102 ∈ tables_1 := List.mem_of_getElem? (i := 621) rfl
set_option maxRecDepth 100000 in
theorem zk_103 : zcw 103 ∈ tables_1 := List.mem_of_getElem? (i := 667) rfl
set_option maxRecDepth 100000 in
theorem zk_104 : zcw 104 ∈ tables_1 := List.mem_of_getElem? (i := 719) rfl
set_option maxRecDepth 100000 in
theorem zk_105 : zcw 105 ∈ tables_1 := List.mem_of_getElem? (i := 671) rfl
set_option maxRecDepth 100000 in
theorem zk_106 : zcw 106 ∈ tables_1 := List.mem_of_getElem? (i := 675) rfl
set_option maxRecDepth 100000 in
theorem zk_107 : zcw 107 ∈ tables_1 := List.mem_of_getElem? (i := 854) rfl
set_option maxRecDepth 100000 in
theorem zk_108 : zcw 108 ∈ tables_1 := List.mem_of_getElem? (i := 962) rfl
set_option maxRecDepth 100000 in
theorem zk_109 : zcw 109 ∈ tables_1 := List.mem_of_getElem? (i := 973) rfl
set_option maxRecDepth 100000 in
theorem zk_110 : zcw 110 ∈ tables_1 := List.mem_of_getElem? (i := 969) rfl
set_option maxRecDepth 100000 in
theorem zk_111 : zcw 111 ∈ tables_1 := List.mem_of_getElem? (i := 861) rfl
set_option maxRecDepth 100000 in
theorem zk_112 : zcw 112 ∈ tables_1 := List.mem_of_getElem? (i := 966) rfl
set_option maxRecDepth 100000 in
theorem zk_113 : zcw 113 ∈ tables_1 := List.mem_of_getElem? (i := 977) rfl
set_option maxRecDepth 100000 in
theorem zk_114 : zcw 114 ∈ tables_1 := List.mem_of_getElem? (i := 981) rfl
set_option maxRecDepth 100000 in
theorem zk_115 : zcw 115 ∈ tables_1 := List.mem_of_getElem? (i := 988) rfl
set_option maxRecDepth 100000 in
theorem zk_116 : zcw 116 ∈ tables_1 := List.mem_of_getElem? (i := 985) rfl
set_option maxRecDepth 100000 in
theorem zk_117 : zcw 117 ∈ tables_1 := List.mem_of_getElem? (i := 1000) rfl
set_option maxRecDepth 100000 in
theorem zk_118 : zcw 118 ∈ tables_1 := List.mem_of_getElem? (i := 1024) rfl
set_option maxRecDepth 100000 in
theorem zk_119 : zcw 119 ∈ tables_1 := List.mem_of_getElem? (i := 1028) rfl
set_option maxRecDepth 100000 in
theorem zk_120 : zcw 120 ∈ tables_1 := List.mem_of_getElem? (i := 1008) rfl
set_option maxRecDepth 100000 in
theorem zk_121 : zcw 121 ∈ tables_1 := List.mem_of_getElem? (i := 1012) rfl
set_option maxRecDepth 100000 in
theorem zk_122 : zcw 122 ∈ tables_1 := List.mem_of_getElem? (i := 1016) rfl
set_option maxRecDepth 100000 in
theorem zk_123 : zcw 123 ∈ tables_1 := List.mem_of_getElem? (i := 1020) rfl
set_option maxRecDepth 100000 in
theorem zk_124 : zcw 124 ∈ tables_1 := List.mem_of_getElem? (i := 1032) rfl
set_option maxRecDepth 100000 in
theorem zk_125 : zcw 125 ∈ tables_1 := List.mem_of_getElem? (i := 996) rfl
set_option maxRecDepth 100000 in
theorem zk_126 : zcw 126 ∈ tables_1 := List.mem_of_getElem? (i := 1004) rfl
set_option maxRecDepth 100000 in
theorem zk_127 : zcw 127 ∈ tables_1 := List.mem_of_getElem? (i := 1040) rfl
set_option maxRecDepth 100000 in
theorem zk_128 : zcw 128 ∈ tables_1 := List.mem_of_getElem? (i := 992) rfl
set_option maxRecDepth 100000 in
theorem zk_129 : zcw 129 ∈ tables_1 := List.mem_of_getElem? (i := 1044) rfl
set_option maxRecDepth 100000 in
theorem zk_130 : zcw 130 ∈ tables_1 := List.mem_of_getElem? (i := 1036) rfl
set_option maxRecDepth 100000 in
theorem zk_131 : zcw 131 ∈ tables_1 := List.mem_of_getElem? (i := 1048) rfl
set_option maxRecDepth 100000 in
theorem zk_132 : zcw 132 ∈ tables_1 := List.mem_of_getElem? (i := 1052) rfl
set_option maxRecDepth 100000 in
theorem zk_133 : zcw 133 ∈ tables_1 := List.mem_of_getElem? (i := 1056) rfl
set_option maxRecDepth 100000 in
theorem zk_134 : zcw 134 ∈ tables_1 := List.mem_of_getElem? (i := 1060) rfl
set_option maxRecDepth 100000 in
theorem zk_135 : zcw 135 ∈ tables_1 := List.mem_of_getElem? (i := 1068) rfl
set_option maxRecDepth 100000 in
theorem zk_136 : zcw 136 ∈ tables_1 := List.mem_of_getElem? (i := 1072) rfl
set_option maxRecDepth 100000 in
theorem zk_137 : zcw 137 ∈ tables_1 := List.mem_of_getElem? (i := 1064) rfl
set_option maxRecDepth 100000 in
theorem zk_138 : zcw 138 ∈ tables_1 := List.mem_of_getElem? (i := 1076) rfl
set_option maxRecDepth 100000 in
theorem zk_139 : zcw 139 ∈ tables_1 := List.mem_of_getElem? (i := 1080) rfl
set_option maxRecDepth 100000 in
theorem zk_140 : zcw 140 ∈ tables_1 := List.mem_of_getElem? (i := 1088) rfl
set_option maxRecDepth 100000 in
theorem zk_141 : zcw 141 ∈ tables_1 := List.mem_of_getElem? (i := 1084) rfl
set_option maxRecDepth 100000 in
theorem zk_142 : zcw 142 ∈ tables_1 := List.mem_of_getElem? (i := 1096) rfl
set_option maxRecDepth 100000 in
theorem zk_143 : zcw 143 ∈ tables_1 := List.mem_of_getElem? (i := 1092) rfl
set_option maxRecDepth 100000 in
theorem zk_144 : zcw 144 ∈ tables_1 := List.mem_of_getElem? (i := 1100) rfl
set_option maxRecDepth 100000 in
theorem zk_145 : zcw 145 ∈ tables_1 := List.mem_of_getElem? (i := 1104) rfl
set_option maxRecDepth 100000 in
theorem zk_146 : zcw 146 ∈ tables_1 := List.mem_of_getElem? (i := 1108) rfl
set_option maxRecDepth 100000 in
theorem zk_147 : zcw 147 ∈ tables_1 := List.mem_of_getElem? (i := 1112) rfl
set_option maxRecDepth 100000 in
theorem zk_148 : zcw 148 ∈ tables_1 := List.mem_of_getElem? (i := 1132) rfl
set_option maxRecDepth 100000 in
theorem zk_149 : zcw 149 ∈ tables_1 := List.mem_of_getElem? (i := 1128) rfl
set_option maxRecDepth 100000 in
theorem zk_150 : zcw 150 ∈ tables_1 := List.mem_of_getElem? (i := 1138) rfl
set_option maxRecDepth 100000 in
theorem zk_151 : zcw 151 ∈ tables_1 := List.mem_of_getElem? (i := 1146) rfl
set_option maxRecDepth 100000 in
theorem zk_152 : zcw 152 ∈ tables_1 := List.mem_of_getElem? (i := 1124) rfl
set_option maxRecDepth 100000 in
theorem zk_153 : zcw 153 ∈ tables_1 := List.mem_of_getElem? (i := 1142) rfl
set_option maxRecDepth 100000 in
theorem zk_154 : zcw 154 ∈ tables_1 := List.mem_of_getElem? (i := 1120) rfl
set_option maxRecDepth 100000 in
theorem zk_155 : zcw 155 ∈ tables_1 := List.mem_of_getElem? (i := 1150) rfl
set_option maxRecDepth 100000 in
theorem zk_156 : zcw 156 ∈ tables_1 := List.mem_of_getElem? (i := 1116) rfl
set_option maxRecDepth 100000 in
theorem zk_157 : zcw 157 ∈ tables_1 := List.mem_of_getElem? (i := 1158) rfl
set_option maxRecDepth 100000 in
theorem zk_158 : zcw 158 ∈ tables_1 := List.mem_of_getElem? (i := 1161) rfl
set_option maxRecDepth 100000 in
theorem zk_159 : zcw 159 ∈ tables_1 := List.mem_of_getElem? (i := 1165) rfl
set_option maxRecDepth 100000 in
theorem zk_160 : zcw 160 ∈ tables_1 := List.mem_of_getElem? (i := 1154) rfl
set_option maxRecDepth 100000 in
theorem zk_161 : zcw 161 ∈ tables_1 := List.mem_of_getElem? (i := 1173) rfl
set_option maxRecDepth 100000 in
theorem zk_162 : zcw 162 ∈ tables_1 := List.mem_of_getElem? (i := 1169) rfl
set_option maxRecDepth 100000 in
theorem zk_163 : zcw 163 ∈ tables_1 := List.mem_of_getElem? (i := 1177) rfl
set_option maxRecDepth 100000 in
theorem zk_164 : zcw 164 ∈ tables_1 := List.mem_of_getElem? (i := 1181) rfl
set_option maxRecDepth 100000 in
theorem zk_165 : zcw 165 ∈ tables_1 := List.mem_of_getElem? (i := 385) rfl
set_option maxRecDepth 100000 in
theorem zk_166 : zcw 166 ∈ tables_1 := List.mem_of_getElem? (i := 382) rfl
set_option maxRecDepth 100000 in
theorem zk_167 : zcw 167 ∈ tables_1 := List.mem_of_getElem? (i := 423) rfl
set_option maxRecDepth 100000 in
theorem zk_168 : zcw 168 ∈ tables_1 := List.mem_of_getElem? (i := 753) rfl
set_option maxRecDepth 100000 in
theorem zk_169 : zcw 169 ∈ tables_1 := List.mem_of_getElem? (i := 249) rfl
set_option maxRecDepth 100000 in
theorem zk_170 : zcw 170 ∈ tables_1 := List.mem_of_getElem? (i := 338) rfl
set_option maxRecDepth 100000 in
theorem zk_171 : zcw 171 ∈ tables_1 := List.mem_of_getElem? (i := 363) rfl
set_option maxRecDepth 100000 in
theorem zk_172 : zcw 172 ∈ tables_1 := List.mem_of_getElem? (i := 371) rfl
set_option maxRecDepth 100000 in
theorem zk_173 : zcw 173 ∈ tables_1 := List.mem_of_getElem? (i := 397) rfl
set_option maxRecDepth 100000 in
theorem zk_174 : zcw 174 ∈ tables_1 := List.mem_of_getElem? (i := 477) rfl
set_option maxRecDepth 100000 in
theorem zk_175 : zcw 175 ∈ tables_1 := List.mem_of_getElem? (i := 489) rfl
set_option maxRecDepth 100000 in
theorem zk_176 : zcw 176 ∈ tables_1 := List.mem_of_getElem? (i := 513) rfl
set_option maxRecDepth 100000 in
theorem zk_177 : zcw 177 ∈ tables_1 := List.mem_of_getElem? (i := 558) rfl
set_option maxRecDepth 100000 in
theorem zk_178 : zcw 178 ∈ tables_1 := List.mem_of_getElem? (i := 589) rfl
set_option maxRecDepth 100000 in
theorem zk_179 : zcw 179 ∈ tables_1 := List.mem_of_getElem? (i := 601) rfl
set_option maxRecDepth 100000 in
theorem zk_180 : zcw 180 ∈ tables_1 := List.mem_of_getElem? (i := 608) rfl
set_option maxRecDepth 100000 in
theorem zk_181 : zcw 181 ∈ tables_1 := List.mem_of_getElem? (i := 641) rfl
set_option maxRecDepth 100000 in
theorem zk_182 : zcw 182 ∈ tables_1 := List.mem_of_getElem? (i := 658) rfl
set_option maxRecDepth 100000 in
theorem zk_183 : zcw 183 ∈ tables_1 := List.mem_of_getElem? (i := 694) rfl
set_option maxRecDepth 100000 in
theorem zk_184 : zcw 184 ∈ tables_1 := List.mem_of_getElem? (i := 710) rfl
set_option maxRecDepth 100000 in
theorem zk_185 : zcw 185 ∈ tables_1 := List.mem_of_getElem? (i := 722) rfl
set_option maxRecDepth 100000 in
theorem zk_186 : zcw 186 ∈ tables_1 := List.mem_of_getElem? (i := 729) rfl
set_option maxRecDepth 100000 in
theorem zk_187 : zcw 187 ∈ tables_1 := List.mem_of_getElem? (i := 788) rfl
set_option maxRecDepth 100000 in
theorem zk_188 : zcw 188 ∈ tables_1 := List.mem_of_getElem? (i := 815) rfl
set_option maxRecDepth 100000 in
theorem zk_189 : zcw 189 ∈ tables_1 := List.mem_of_getElem? (i := 836) rfl
theorem zkc_10 : ∀ i, i < 10 → zcw i ∈ tables_1 := lt_s (lt_s (lt_s (lt_s (lt_s (lt_s (lt_s (lt_s (lt_s (lt_s (lt_0) zk_0) zk_1) zk_2) zk_3) zk_4) zk_5) zk_6) zk_7) zk_8) zk_9
theorem zkc_20 : ∀ i, i < 20 → zcw i ∈ tables_1 := lt_s (lt_s (lt_s (lt_s (lt_s (lt_s (lt_s (lt_s (lt_s (lt_s (zkc_10) zk_10) zk_11) zk_12) zk_13) zk_14) zk_15) zk_16) zk_17) zk_18) zk_19
theorem zkc_30 : ∀ i, i < 30 → zcw i ∈ tables_1 := lt_s (lt_s (lt_s (lt_s (lt_s (lt_s (lt_s (lt_s (lt_s (lt_s (zkc_20) zk_20) zk_21) zk_22) zk_23) zk_24) zk_25) zk_26) zk_27) zk_28) zk_29
theorem zkc_40 : ∀ i, i < 40 → zcw i ∈ tables_1 := lt_s (lt_s (lt_s (lt_s (lt_s (lt_s (lt_s (lt_s (lt_s (lt_s (zkc_30) zk_30) zk_31) zk_32) zk_33) zk_34) zk_35) zk_36) zk_37) zk_38) zk_39
theorem zkc_50 : ∀ i, i < 50 → zcw i ∈ tables_1 := lt_s (lt_s (lt_s (lt_s (lt_s (lt_s (lt_s (lt_s (lt_s (lt_s (zkc_40) zk_40) zk_41) zk_42) zk_43) zk_44) zk_45) zk_46) zk_47) zk_48) zk_49
theorem zkc_60 : ∀ i, i < 60 → zcw i ∈ tables_1 := lt_s (lt_s (lt_s (lt_s (lt_s (lt_s (lt_s (lt_s (lt_s (lt_s (zkc_50) zk_50) zk_51) zk_52) zk_53) zk_54) zk_55) zk_56) zk_57) zk_58) zk_59
theorem zkc_70 : ∀ i, i < 70 → zcw i ∈ tables_1 := lt_s (lt_s (lt_s (lt_s (lt_s (lt_s (lt_s (lt_s (lt_s (lt_s (zkc_60) zk_60) zk_61) zk_62) zk_63) zk_64) zk_65) zk_66) zk_67) zk_68) zk_69
theorem zkc_80 : ∀ i, i < 80 → zcw i ∈ tables_1 := lt_s (lt_s (lt_s (lt_s (lt_s (lt_s (lt_s (lt_s (lt_s (lt_s (zkc_70) zk_70) zk_71) zk_72) zk_73) zk_74) zk_75) zk_76) zk_77) zk_78) zk_79
theorem zkc_90 : ∀ i, i < 90 → zcw i ∈ tables_1 := lt_s (lt_s (lt_s (lt_s (lt_s (lt_s (lt_s (lt_s (lt_s (lt_s (zkc_80) zk_80) zk_81) zk_82) zk_83) zk_84) zk_85) zk_86) zk_87) zk_88) zk_89
theorem zkc_100 : ∀ i, i < 100 → zcw i ∈ tables_1 := lt_s (lt_s (lt_s (lt_s (lt_s (lt_s (lt_s (lt_s (lt_s (lt_s (zkc_90) zk_90) zk_91) zk_92) zk_93) zk_94) zk_95) zk_96) zk_97) zk_98) zk_99
theorem zkc_110 : ∀ i, i < 110 → zcw i ∈ tables_1 := lt_s (lt_s (lt_s (lt_s (lt_s (lt_s (lt_s (lt_s (lt_s (lt_s (zkc_100) zk_100) zk_101) zk_102) zk_103) zk_104) zk_105) zk_106) zk_107) zk_108) zk_109
theorem zkc_120 : ∀ i, i < 120 → zcw i ∈ tables_1 := lt_s (lt_s (lt_s (lt_s (lt_s (lt_s (lt_s (lt_s (lt_s (lt_s (zkc_110) zk_110) zk_111) zk_112) zk_113) zk_114) zk_115) zk_116) zk_117) zk_118) zk_119
theorem zkc_130 : ∀ i, i < 130 → zcw i ∈ tables_1 := lt_s (lt_s (lt_s (lt_s (lt_s (lt_s (lt_s (lt_s (lt_s (lt_s (zkc_120) zk_120) zk_121) zk_122) zk_123) zk_124) zk_125) zk_126) zk_127) zk_128) zk_129
theorem zkc_140 : ∀ i, i < 140 → zcw i ∈ tables_1 := lt_s (lt_s (lt_s (lt_s (lt_s (lt_s (lt_s (lt_s (lt_s (lt_s (zkc_130) zk_130) zk_131) zk_132) zk_133) zk_134) zk_135) zk_136) zk_137) zk_138) zk_139
theorem zkc_150 : ∀ i, i < 150 → zcw i ∈ tables_1 := lt_s (lt_s (lt_s (lt_s (lt_s (lt_s (lt_s (lt_s (lt_s (lt_s (zkc_140) zk_140) zk_141) zk_142) zk_143) zk_144) zk_145) zk_146) zk_147) zk_148) zk_149
theorem zkc_160 : ∀ i, i < 160 → zcw i ∈ tables_1 := lt_s (lt_s (lt_s (lt_s (lt_s (lt_s (lt_s (lt_s (lt_s (lt_s (zkc_150) zk_150) zk_151) zk_152) zk_153) zk_154) zk_155) zk_156) zk_157) zk_158) zk_159
theorem zkc_170 : ∀ i, i < 170 → zcw i ∈ tables_1 := lt_s (lt_s (lt_s (lt_s (lt_s (lt_s (lt_s (lt_s (lt_s (lt_s (zkc_160) zk_160) zk_161) zk_162) zk_163) zk_164) zk_165) zk_166) zk_167) zk_168) zk_169
theorem zkc_180 : ∀ i, i < 180 → zcw i ∈ tables_1 := lt_s (lt_s (lt_s (lt_s (lt_s (lt_s (lt_s (lt_s (lt_s (lt_s (zkc_170) zk_170) zk_171) zk_172) zk_173) zk_174) zk_175) zk_176) zk_177) zk_178) zk_179
theorem zkc_190 : ∀ i, i < 190 → zcw i ∈ tables_1 := lt_s (lt_s (lt_s (lt_s (lt_s (lt_s (lt_s (lt_s (lt_s (lt_s (zkc_180) zk_180) zk_181) zk_182) zk_183) zk_184) zk_185) zk_186) zk_187) zk_188) zk_189
