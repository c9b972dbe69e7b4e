/-! ===== the layout at its numbers; literals (written by stategen.py) ===== -/
theorem lk_0_0 : lk 0 0 = 1 := rfl
theorem lk_0_4 : lk 0 4 = 2 := rfl
theorem lk_0_5 : lk 0 5 = 14 := rfl
theorem lk_0_6 : lk 0 6 = 24 := rfl
theorem lk_0_7 : lk 0 7 = 28 := rfl
theorem lk_0_8 : lk 0 8 = 32 := rfl
theorem lk_0_9 : lk 0 9 = 36 := rfl
theorem lk_0_10 : lk 0 10 = 41 := rfl
theorem lk_0_11 : lk 0 11 = 42 := rfl
theorem lk_0_12 : lk 0 12 = 74 := rfl
theorem lk_0_13 : lk 0 13 = 76 := rfl
theorem lk_0_14 : lk 0 14 = 92 := rfl
theorem lk_0_15 : lk 0 15 = 93 := rfl
theorem lk_0_16 : lk 0 16 = 94 := rfl
theorem lk_0_17 : lk 0 17 = 95 := rfl
theorem lk_2_0 : lk 2 0 = 3 := rfl
theorem lk_3_8 : lk 3 8 = 4 := rfl
theorem lk_3_9 : lk 3 9 = 5 := rfl
theorem lk_3_10 : lk 3 10 = 6 := rfl
theorem lk_3_11 : lk 3 11 = 7 := rfl
theorem lk_3_12 : lk 3 12 = 8 := rfl
theorem lk_3_13 : lk 3 13 = 9 := rfl
theorem lk_3_14 : lk 3 14 = 10 := rfl
theorem lk_3_15 : lk 3 15 = 11 := rfl
theorem lk_3_16 : lk 3 16 = 12 := rfl
theorem lk_14_8 : lk 14 8 = 15 := rfl
theorem lk_14_9 : lk 14 9 = 16 := rfl
theorem lk_14_10 : lk 14 10 = 17 := rfl
theorem lk_14_11 : lk 14 11 = 18 := rfl
theorem lk_14_12 : lk 14 12 = 19 := rfl
theorem lk_14_13 : lk 14 13 = 20 := rfl
theorem lk_14_14 : lk 14 14 = 21 := rfl
theorem lk_14_15 : lk 14 15 = 22 := rfl
theorem lk_14_16 : lk 14 16 = 23 := rfl
theorem lk_24_0 : lk 24 0 = 14 := rfl
theorem lk_24_2 : lk 24 2 = 25 := rfl
theorem lk_24_3 : lk 24 3 = 26 := rfl
theorem lk_24_4 : lk 24 4 = 27 := rfl
theorem lk_28_0 : lk 28 0 = 14 := rfl
theorem lk_28_2 : lk 28 2 = 29 := rfl
theorem lk_28_3 : lk 28 3 = 30 := rfl
theorem lk_28_4 : lk 28 4 = 31 := rfl
theorem lk_32_0 : lk 32 0 = 33 := rfl
theorem lk_32_1 : lk 32 1 = 34 := rfl
theorem lk_32_2 : lk 32 2 = 35 := rfl
theorem lk_36_0 : lk 36 0 = 37 := rfl
theorem lk_36_2 : lk 36 2 = 32 := rfl
theorem lk_36_3 : lk 36 3 = 38 := rfl
theorem lk_36_4 : lk 36 4 = 39 := rfl
theorem lk_36_5 : lk 36 5 = 40 := rfl
theorem lk_41_0 : lk 41 0 = 36 := rfl
theorem lk_42_2 : lk 42 2 = 14 := rfl
theorem lk_42_3 : lk 42 3 = 41 := rfl
theorem lk_42_4 : lk 42 4 = 43 := rfl
theorem lk_42_5 : lk 42 5 = 44 := rfl
theorem lk_42_6 : lk 42 6 = 45 := rfl
theorem lk_43_0 : lk 43 0 = 46 := rfl
theorem lk_43_1 : lk 43 1 = 50 := rfl
theorem lk_43_2 : lk 43 2 = 54 := rfl
theorem lk_43_3 : lk 43 3 = 58 := rfl
theorem lk_43_4 : lk 43 4 = 62 := rfl
theorem lk_43_5 : lk 43 5 = 66 := rfl
theorem lk_43_6 : lk 43 6 = 70 := rfl
theorem lk_46_0 : lk 46 0 = 14 := rfl
theorem lk_46_2 : lk 46 2 = 47 := rfl
theorem lk_46_3 : lk 46 3 = 48 := rfl
theorem lk_46_4 : lk 46 4 = 49 := rfl
theorem lk_50_0 : lk 50 0 = 14 := rfl
theorem lk_50_2 : lk 50 2 = 51 := rfl
theorem lk_50_3 : lk 50 3 = 52 := rfl
theorem lk_50_4 : lk 50 4 = 53 := rfl
theorem lk_54_0 : lk 54 0 = 14 := rfl
theorem lk_54_2 : lk 54 2 = 55 := rfl
theorem lk_54_3 : lk 54 3 = 56 := rfl
theorem lk_54_4 : lk 54 4 = 57 := rfl
theorem lk_58_0 : lk 58 0 = 14 := rfl
theorem lk_58_2 : lk 58 2 = 59 := rfl
theorem lk_58_3 : lk 58 3 = 60 := rfl
theorem lk_58_4 : lk 58 4 = 61 := rfl
theorem lk_62_0 : lk 62 0 = 14 := rfl
theorem lk_62_2 : lk 62 2 = 63 := rfl
theorem lk_62_3 : lk 62 3 = 64 := rfl
theorem lk_62_4 : lk 62 4 = 65 := rfl
theorem lk_66_0 : lk 66 0 = 14 := rfl
theorem lk_66_2 : lk 66 2 = 67 := rfl
theorem lk_66_3 : lk 66 3 = 68 := rfl
theorem lk_66_4 : lk 66 4 = 69 := rfl
theorem lk_70_0 : lk 70 0 = 14 := rfl
theorem lk_70_2 : lk 70 2 = 71 := rfl
theorem lk_70_3 : lk 70 3 = 72 := rfl
theorem lk_70_4 : lk 70 4 = 73 := rfl
theorem lk_74_0 : lk 74 0 = 32 := rfl
theorem lk_74_1 : lk 74 1 = 75 := rfl
theorem lk_76_0 : lk 76 0 = 32 := rfl
theorem lk_76_1 : lk 76 1 = 77 := rfl
theorem lk_76_2 : lk 76 2 = 83 := rfl
theorem lk_76_3 : lk 76 3 = 89 := rfl
theorem lk_76_4 : lk 76 4 = 90 := rfl
theorem lk_76_5 : lk 76 5 = 91 := rfl
theorem lk_77_5 : lk 77 5 = 78 := rfl
theorem lk_77_6 : lk 77 6 = 79 := rfl
theorem lk_77_7 : lk 77 7 = 80 := rfl
theorem lk_77_8 : lk 77 8 = 81 := rfl
theorem lk_77_9 : lk 77 9 = 82 := rfl
theorem lk_83_5 : lk 83 5 = 84 := rfl
theorem lk_83_6 : lk 83 6 = 85 := rfl
theorem lk_83_7 : lk 83 7 = 86 := rfl
theorem lk_83_8 : lk 83 8 = 87 := rfl
theorem lk_83_9 : lk 83 9 = 88 := rfl
theorem lk_92_0 : lk 92 0 = 96 := rfl
theorem lk_92_1 : lk 92 1 = 98 := rfl
theorem lk_92_2 : lk 92 2 = 100 := rfl
theorem lk_92_3 : lk 92 3 = 102 := rfl
theorem lk_93_0 : lk 93 0 = 104 := rfl
theorem lk_93_1 : lk 93 1 = 118 := rfl
theorem lk_93_2 : lk 93 2 = 132 := rfl
theorem lk_94_0 : lk 94 0 = 114 := rfl
theorem lk_94_1 : lk 94 1 = 128 := rfl
theorem lk_94_2 : lk 94 2 = 142 := rfl
theorem lk_96_3 : lk 96 3 = 97 := rfl
theorem lk_98_3 : lk 98 3 = 99 := rfl
theorem lk_100_3 : lk 100 3 = 101 := rfl
theorem lk_102_3 : lk 102 3 = 103 := rfl
theorem lk_104_8 : lk 104 8 = 105 := rfl
theorem lk_104_9 : lk 104 9 = 106 := rfl
theorem lk_104_10 : lk 104 10 = 107 := rfl
theorem lk_104_11 : lk 104 11 = 108 := rfl
theorem lk_104_12 : lk 104 12 = 109 := rfl
theorem lk_104_13 : lk 104 13 = 110 := rfl
theorem lk_104_14 : lk 104 14 = 111 := rfl
theorem lk_104_15 : lk 104 15 = 112 := rfl
theorem lk_104_16 : lk 104 16 = 113 := rfl
theorem lk_114_0 : lk 114 0 = 104 := rfl
theorem lk_114_2 : lk 114 2 = 115 := rfl
theorem lk_114_3 : lk 114 3 = 116 := rfl
theorem lk_114_4 : lk 114 4 = 117 := rfl
theorem lk_118_8 : lk 118 8 = 119 := rfl
theorem lk_118_9 : lk 118 9 = 120 := rfl
theorem lk_118_10 : lk 118 10 = 121 := rfl
theorem lk_118_11 : lk 118 11 = 122 := rfl
theorem lk_118_12 : lk 118 12 = 123 := rfl
theorem lk_118_13 : lk 118 13 = 124 := rfl
theorem lk_118_14 : lk 118 14 = 125 := rfl
theorem lk_118_15 : lk 118 15 = 126 := rfl
theorem lk_118_16 : lk 118 16 = 127 := rfl
theorem lk_128_0 : lk 128 0 = 118 := rfl
theorem lk_128_2 : lk 128 2 = 129 := rfl
theorem lk_128_3 : lk 128 3 = 130 := rfl
theorem lk_128_4 : lk 128 4 = 131 := rfl
theorem lk_132_8 : lk 132 8 = 133 := rfl
theorem lk_132_9 : lk 132 9 = 134 := rfl
theorem lk_132_10 : lk 132 10 = 135 := rfl
theorem lk_132_11 : lk 132 11 = 136 := rfl
theorem lk_132_12 : lk 132 12 = 137 := rfl
theorem lk_132_13 : lk 132 13 = 138 := rfl
theorem lk_132_14 : lk 132 14 = 139 := rfl
theorem lk_132_15 : lk 132 15 = 140 := rfl
theorem lk_132_16 : lk 132 16 = 141 := rfl
theorem lk_142_0 : lk 142 0 = 132 := rfl
theorem lk_142_2 : lk 142 2 = 143 := rfl
theorem lk_142_3 : lk 142 3 = 144 := rfl
theorem lk_142_4 : lk 142 4 = 145 := rfl
theorem lk_146_1 : lk 146 1 = 147 := rfl
theorem lk_146_2 : lk 146 2 = 148 := rfl
theorem lk_146_3 : lk 146 3 = 149 := rfl
theorem lk_146_4 : lk 146 4 = 150 := rfl
theorem lk_146_6 : lk 146 6 = 151 := rfl
theorem lk_146_14 : lk 146 14 = 152 := rfl
theorem lk_146_15 : lk 146 15 = 153 := rfl
theorem lk_146_16 : lk 146 16 = 154 := rfl
theorem lk_146_17 : lk 146 17 = 155 := rfl
theorem lk_146_18 : lk 146 18 = 156 := rfl
theorem lk_146_20 : lk 146 20 = 157 := rfl
theorem lk_146_26 : lk 146 26 = 158 := rfl
theorem lk_146_28 : lk 146 28 = 159 := rfl
theorem lk_146_29 : lk 146 29 = 160 := rfl
theorem lk_146_32 : lk 146 32 = 161 := rfl
theorem lk_146_33 : lk 146 33 = 162 := rfl
theorem lk_146_34 : lk 146 34 = 163 := rfl
theorem lk_146_36 : lk 146 36 = 164 := rfl
theorem lk_146_37 : lk 146 37 = 165 := rfl
theorem lk_146_38 : lk 146 38 = 166 := rfl
theorem lk_146_41 : lk 146 41 = 167 := rfl
theorem lk_146_43 : lk 146 43 = 168 := rfl
theorem lk_146_44 : lk 146 44 = 169 := rfl
theorem lk_146_45 : lk 146 45 = 170 := rfl
theorem lk_146_46 : lk 146 46 = 171 := rfl
theorem ln_1 : ln 1 = 1600 := rfl
theorem ln_4 : ln 4 = 24 := rfl
theorem ln_5 : ln 5 = 24 := rfl
theorem ln_6 : ln 6 = 24 := rfl
theorem ln_7 : ln 7 = 24 := rfl
theorem ln_8 : ln 8 = 24 := rfl
theorem ln_9 : ln 9 = 8 := rfl
theorem ln_10 : ln 10 = 8 := rfl
theorem ln_11 : ln 11 = 8 := rfl
theorem ln_12 : ln 12 = 8 := rfl
theorem ln_13 : ln 13 = 0 := rfl
theorem ln_15 : ln 15 = 24 := rfl
theorem ln_16 : ln 16 = 24 := rfl
theorem ln_17 : ln 17 = 24 := rfl
theorem ln_18 : ln 18 = 24 := rfl
theorem ln_19 : ln 19 = 24 := rfl
theorem ln_20 : ln 20 = 8 := rfl
theorem ln_21 : ln 21 = 8 := rfl
theorem ln_22 : ln 22 = 8 := rfl
theorem ln_23 : ln 23 = 8 := rfl
theorem ln_25 : ln 25 = 24 := rfl
theorem ln_26 : ln 26 = 24 := rfl
theorem ln_27 : ln 27 = 8 := rfl
theorem ln_29 : ln 29 = 24 := rfl
theorem ln_30 : ln 30 = 24 := rfl
theorem ln_31 : ln 31 = 8 := rfl
theorem ln_33 : ln 33 = 10 := rfl
theorem ln_34 : ln 34 = 10 := rfl
theorem ln_35 : ln 35 = 240 := rfl
theorem ln_37 : ln 37 = 24 := rfl
theorem ln_38 : ln 38 = 24 := rfl
theorem ln_39 : ln 39 = 24 := rfl
theorem ln_40 : ln 40 = 10 := rfl
theorem ln_43 : ln 43 = 7 := rfl
theorem ln_44 : ln 44 = 6 := rfl
theorem ln_45 : ln 45 = 6 := rfl
theorem ln_47 : ln 47 = 24 := rfl
theorem ln_48 : ln 48 = 24 := rfl
theorem ln_49 : ln 49 = 8 := rfl
theorem ln_51 : ln 51 = 24 := rfl
theorem ln_52 : ln 52 = 24 := rfl
theorem ln_53 : ln 53 = 8 := rfl
theorem ln_55 : ln 55 = 24 := rfl
theorem ln_56 : ln 56 = 24 := rfl
theorem ln_57 : ln 57 = 8 := rfl
theorem ln_59 : ln 59 = 24 := rfl
theorem ln_60 : ln 60 = 24 := rfl
theorem ln_61 : ln 61 = 8 := rfl
theorem ln_63 : ln 63 = 24 := rfl
theorem ln_64 : ln 64 = 24 := rfl
theorem ln_65 : ln 65 = 8 := rfl
theorem ln_67 : ln 67 = 24 := rfl
theorem ln_68 : ln 68 = 24 := rfl
theorem ln_69 : ln 69 = 8 := rfl
theorem ln_71 : ln 71 = 24 := rfl
theorem ln_72 : ln 72 = 24 := rfl
theorem ln_73 : ln 73 = 8 := rfl
theorem ln_75 : ln 75 = 4 := rfl
theorem ln_78 : ln 78 = 25 := rfl
theorem ln_79 : ln 79 = 25 := rfl
theorem ln_80 : ln 80 = 25 := rfl
theorem ln_81 : ln 81 = 625 := rfl
theorem ln_82 : ln 82 = 25 := rfl
theorem ln_84 : ln 84 = 25 := rfl
theorem ln_85 : ln 85 = 25 := rfl
theorem ln_86 : ln 86 = 25 := rfl
theorem ln_87 : ln 87 = 625 := rfl
theorem ln_88 : ln 88 = 25 := rfl
theorem ln_89 : ln 89 = 25 := rfl
theorem ln_90 : ln 90 = 25 := rfl
theorem ln_91 : ln 91 = 50 := rfl
theorem ln_92 : ln 92 = 4 := rfl
theorem ln_93 : ln 93 = 3 := rfl
theorem ln_94 : ln 94 = 3 := rfl
theorem ln_95 : ln 95 = 3 := rfl
theorem ln_97 : ln 97 = 60 := rfl
theorem ln_99 : ln 99 = 60 := rfl
theorem ln_101 : ln 101 = 60 := rfl
theorem ln_103 : ln 103 = 60 := rfl
theorem ln_105 : ln 105 = 24 := rfl
theorem ln_106 : ln 106 = 24 := rfl
theorem ln_107 : ln 107 = 24 := rfl
theorem ln_108 : ln 108 = 24 := rfl
theorem ln_109 : ln 109 = 24 := rfl
theorem ln_110 : ln 110 = 8 := rfl
theorem ln_111 : ln 111 = 8 := rfl
theorem ln_112 : ln 112 = 8 := rfl
theorem ln_113 : ln 113 = 8 := rfl
theorem ln_115 : ln 115 = 24 := rfl
theorem ln_116 : ln 116 = 24 := rfl
theorem ln_117 : ln 117 = 8 := rfl
theorem ln_119 : ln 119 = 24 := rfl
theorem ln_120 : ln 120 = 24 := rfl
theorem ln_121 : ln 121 = 24 := rfl
theorem ln_122 : ln 122 = 24 := rfl
theorem ln_123 : ln 123 = 24 := rfl
theorem ln_124 : ln 124 = 8 := rfl
theorem ln_125 : ln 125 = 8 := rfl
theorem ln_126 : ln 126 = 8 := rfl
theorem ln_127 : ln 127 = 8 := rfl
theorem ln_129 : ln 129 = 24 := rfl
theorem ln_130 : ln 130 = 24 := rfl
theorem ln_131 : ln 131 = 8 := rfl
theorem ln_133 : ln 133 = 24 := rfl
theorem ln_134 : ln 134 = 24 := rfl
theorem ln_135 : ln 135 = 24 := rfl
theorem ln_136 : ln 136 = 24 := rfl
theorem ln_137 : ln 137 = 24 := rfl
theorem ln_138 : ln 138 = 8 := rfl
theorem ln_139 : ln 139 = 8 := rfl
theorem ln_140 : ln 140 = 8 := rfl
theorem ln_141 : ln 141 = 8 := rfl
theorem ln_143 : ln 143 = 24 := rfl
theorem ln_144 : ln 144 = 24 := rfl
theorem ln_145 : ln 145 = 8 := rfl
theorem ln_147 : ln 147 = 241 := rfl
theorem ln_148 : ln 148 = 723 := rfl
theorem ln_149 : ln 149 = 3 := rfl
theorem ln_150 : ln 150 = 1600 := rfl
theorem ln_151 : ln 151 = 5 := rfl
theorem ln_152 : ln 152 = 241 := rfl
theorem ln_153 : ln 153 = 25 := rfl
theorem ln_154 : ln 154 = 25 := rfl
theorem ln_155 : ln 155 = 25 := rfl
theorem ln_156 : ln 156 = 25 := rfl
theorem ln_157 : ln 157 = 964 := rfl
theorem ln_158 : ln 158 = 8 := rfl
theorem ln_159 : ln 159 = 8 := rfl
theorem ln_160 : ln 160 = 8 := rfl
theorem ln_161 : ln 161 = 27 := rfl
theorem ln_162 : ln 162 = 27 := rfl
theorem ln_163 : ln 163 = 27 := rfl
theorem ln_164 : ln 164 = 2916 := rfl
theorem ln_165 : ln 165 = 54 := rfl
theorem ln_166 : ln 166 = 54 := rfl
theorem ln_167 : ln 167 = 25 := rfl
theorem ln_168 : ln 168 = 4 := rfl
theorem ln_169 : ln 169 = 4 := rfl
theorem ln_170 : ln 170 = 240 := rfl
theorem ln_171 : ln 171 = 60 := rfl
theorem li_0 : (0 : Int32) = nI 0 := id rfl
theorem li_1 : (1 : Int32) = nI 1 := id rfl
theorem li_2 : (2 : Int32) = nI 2 := id rfl
theorem li_3 : (3 : Int32) = nI 3 := id rfl
theorem li_4 : (4 : Int32) = nI 4 := id rfl
theorem li_5 : (5 : Int32) = nI 5 := id rfl
theorem li_6 : (6 : Int32) = nI 6 := id rfl
theorem li_7 : (7 : Int32) = nI 7 := id rfl
theorem li_8 : (8 : Int32) = nI 8 := id rfl
theorem li_9 : (9 : Int32) = nI 9 := id rfl
theorem li_10 : (10 : Int32) = nI 10 := id rfl
theorem li_11 : (11 : Int32) = nI 11 := id rfl
theorem li_12 : (12 : Int32) = nI 12 := id rfl
theorem li_20 : (20 : Int32) = nI 20 := id rfl
theorem li_23 : (23 : Int32) = nI 23 := id rfl
theorem li_24 : (24 : Int32) = nI 24 := id rfl
theorem li_25 : (25 : Int32) = nI 25 := id rfl
theorem li_31 : (31 : Int32) = nI 31 := id rfl
theorem li_32 : (32 : Int32) = nI 32 := id rfl
theorem li_48 : (48 : Int32) = nI 48 := id rfl
theorem li_52 : (52 : Int32) = nI 52 := id rfl
theorem li_54 : (54 : Int32) = nI 54 := id rfl
theorem li_57 : (57 : Int32) = nI 57 := id rfl
theorem li_59 : (59 : Int32) = nI 59 := id rfl
theorem li_60 : (60 : Int32) = nI 60 := id rfl
theorem li_64 : (64 : Int32) = nI 64 := id rfl
theorem li_97 : (97 : Int32) = nI 97 := id rfl
theorem li_98 : (98 : Int32) = nI 98 := id rfl
theorem li_99 : (99 : Int32) = nI 99 := id rfl
theorem li_100 : (100 : Int32) = nI 100 := id rfl
theorem li_108 : (108 : Int32) = nI 108 := id rfl
theorem li_122 : (122 : Int32) = nI 122 := id rfl
theorem li_185 : (185 : Int32) = nI 185 := id rfl
theorem li_241 : (241 : Int32) = nI 241 := id rfl
theorem li_255 : (255 : Int32) = nI 255 := id rfl
theorem li_625 : (625 : Int32) = nI 625 := id rfl
theorem li_999 : (999 : Int32) = nI 999 := id rfl
theorem li_1000 : (1000 : Int32) = nI 1000 := id rfl
theorem li_1600 : (1600 : Int32) = nI 1600 := id rfl
theorem li_99999 : (99999 : Int32) = nI 99999 := id rfl
theorem li_1000000 : (1000000 : Int32) = nI 1000000 := id rfl
theorem li_1048576 : (1048576 : Int32) = nI 1048576 := id rfl
theorem li_2000000000 : (2000000000 : Int32) = nI 2000000000 := id rfl
def mI (n : Nat) : Int32 := -nI n
theorem lm_1000000 : (-1000000 : Int32) = mI 1000000 := id rfl
theorem lm_8 : (-8 : Int32) = mI 8 := id rfl
theorem lm_7 : (-7 : Int32) = mI 7 := id rfl
theorem lm_6 : (-6 : Int32) = mI 6 := id rfl
theorem lm_5 : (-5 : Int32) = mI 5 := id rfl
theorem lm_4 : (-4 : Int32) = mI 4 := id rfl
theorem lm_3 : (-3 : Int32) = mI 3 := id rfl
theorem lm_2 : (-2 : Int32) = mI 2 := id rfl
theorem lm_1 : (-1 : Int32) = mI 1 := id rfl
