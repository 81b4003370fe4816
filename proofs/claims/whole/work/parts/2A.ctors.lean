def w_0 : List PE := [.inr (8, dvl 8)]
def w_1 : List PE := w_0 ++ [.inr (3, dvl 3)]
def w_2 : List PE := w_1 ++ [.inl (0, 3)]
def w_3 : List PE := w_2.set 1 (.inr (3, [.ref 2, .null, .null, .null, .null, .int 0, .int 0, .int 0]))
def w_4 : List PE := w_3 ++ [.inl (0, 3)]
def w_5 : List PE := w_4.set 1 (.inr (3, [.ref 2, .ref 3, .null, .null, .null, .int 0, .int 0, .int 0]))
def w_6 : List PE := w_5 ++ [.inl (0, 8)]
def w_7 : List PE := w_6.set 1 (.inr (3, [.ref 2, .ref 3, .ref 4, .null, .null, .int 0, .int 0, .int 0]))
def w_8 : List PE := w_7 ++ [.inl (0, 8)]
def w_9 : List PE := w_8.set 1 (.inr (3, [.ref 2, .ref 3, .ref 4, .ref 5, .null, .int 0, .int 0, .int 0]))
def w_10 : List PE := w_9 ++ [.inl (0, 5)]
def w_11 : List PE := w_10.set 1 (.inr (3, [.ref 2, .ref 3, .ref 4, .ref 5, .ref 6, .int 0, .int 0, .int 0]))
def w_12 : List PE := w_11.set 0 (.inr (8, [.ref 1, .null, .null, .null, .null, .null, .null, .null, .null, .null, .long 0]))
def w_13 : List PE := w_12 ++ [.inr (4, dvl 4)]
def w_14 : List PE := w_13 ++ [.inl (0, 8)]
def w_15 : List PE := w_14.set 7 (.inr (4, [.null, .ref 8, .null, .null, .null, .null, .int 0]))
def w_16 : List PE := w_15 ++ [.inl (0, 8)]
def w_17 : List PE := w_16.set 7 (.inr (4, [.null, .ref 8, .ref 9, .null, .null, .null, .int 0]))
def w_18 : List PE := w_17 ++ [.inl (0, 8)]
def w_19 : List PE := w_18.set 7 (.inr (4, [.null, .ref 8, .ref 9, .ref 10, .null, .null, .int 0]))
def w_20 : List PE := w_19 ++ [.inl (0, 5)]
def w_21 : List PE := w_20.set 7 (.inr (4, [.null, .ref 8, .ref 9, .ref 10, .ref 11, .null, .int 0]))
def w_22 : List PE := w_21 ++ [.inl (0, 5)]
def w_23 : List PE := w_22.set 7 (.inr (4, [.null, .ref 8, .ref 9, .ref 10, .ref 11, .ref 12, .int 0]))
def w_24 : List PE := w_23.set 7 (.inr (4, [.ref 1, .ref 8, .ref 9, .ref 10, .ref 11, .ref 12, .int 0]))
def w_25 : List PE := w_24.set 0 (.inr (8, [.ref 1, .ref 7, .null, .null, .null, .null, .null, .null, .null, .null, .long 0]))
def w_26 : List PE := w_25 ++ [.inr (4, dvl 4)]
def w_27 : List PE := w_26 ++ [.inl (0, 8)]
def w_28 : List PE := w_27.set 13 (.inr (4, [.null, .ref 14, .null, .null, .null, .null, .int 0]))
def w_29 : List PE := w_28 ++ [.inl (0, 8)]
def w_30 : List PE := w_29.set 13 (.inr (4, [.null, .ref 14, .ref 15, .null, .null, .null, .int 0]))
def w_31 : List PE := w_30 ++ [.inl (0, 8)]
def w_32 : List PE := w_31.set 13 (.inr (4, [.null, .ref 14, .ref 15, .ref 16, .null, .null, .int 0]))
def w_33 : List PE := w_32 ++ [.inl (0, 5)]
def w_34 : List PE := w_33.set 13 (.inr (4, [.null, .ref 14, .ref 15, .ref 16, .ref 17, .null, .int 0]))
def w_35 : List PE := w_34 ++ [.inl (0, 5)]
def w_36 : List PE := w_35.set 13 (.inr (4, [.null, .ref 14, .ref 15, .ref 16, .ref 17, .ref 18, .int 0]))
def w_37 : List PE := w_36.set 13 (.inr (4, [.ref 1, .ref 14, .ref 15, .ref 16, .ref 17, .ref 18, .int 0]))
def w_38 : List PE := w_37.set 0 (.inr (8, [.ref 1, .ref 7, .ref 13, .null, .null, .null, .null, .null, .null, .null, .long 0]))
def w_39 : List PE := w_38 ++ [.inr (4, dvl 4)]
def w_40 : List PE := w_39 ++ [.inl (0, 8)]
def w_41 : List PE := w_40.set 19 (.inr (4, [.null, .ref 20, .null, .null, .null, .null, .int 0]))
def w_42 : List PE := w_41 ++ [.inl (0, 8)]
def w_43 : List PE := w_42.set 19 (.inr (4, [.null, .ref 20, .ref 21, .null, .null, .null, .int 0]))
def w_44 : List PE := w_43 ++ [.inl (0, 8)]
def w_45 : List PE := w_44.set 19 (.inr (4, [.null, .ref 20, .ref 21, .ref 22, .null, .null, .int 0]))
def w_46 : List PE := w_45 ++ [.inl (0, 5)]
def w_47 : List PE := w_46.set 19 (.inr (4, [.null, .ref 20, .ref 21, .ref 22, .ref 23, .null, .int 0]))
def w_48 : List PE := w_47 ++ [.inl (0, 5)]
def w_49 : List PE := w_48.set 19 (.inr (4, [.null, .ref 20, .ref 21, .ref 22, .ref 23, .ref 24, .int 0]))
def w_50 : List PE := w_49.set 19 (.inr (4, [.ref 1, .ref 20, .ref 21, .ref 22, .ref 23, .ref 24, .int 0]))
def w_51 : List PE := w_50.set 0 (.inr (8, [.ref 1, .ref 7, .ref 13, .ref 19, .null, .null, .null, .null, .null, .null, .long 0]))
def w_52 : List PE := w_51 ++ [.inr (6, dvl 6)]
def w_53 : List PE := w_52 ++ [.inr (3, dvl 3)]
def w_54 : List PE := w_53 ++ [.inl (0, 3)]
def w_55 : List PE := w_54.set 26 (.inr (3, [.ref 27, .null, .null, .null, .null, .int 0, .int 0, .int 0]))
def w_56 : List PE := w_55 ++ [.inl (0, 3)]
def w_57 : List PE := w_56.set 26 (.inr (3, [.ref 27, .ref 28, .null, .null, .null, .int 0, .int 0, .int 0]))
def w_58 : List PE := w_57 ++ [.inl (0, 8)]
def w_59 : List PE := w_58.set 26 (.inr (3, [.ref 27, .ref 28, .ref 29, .null, .null, .int 0, .int 0, .int 0]))
def w_60 : List PE := w_59 ++ [.inl (0, 8)]
def w_61 : List PE := w_60.set 26 (.inr (3, [.ref 27, .ref 28, .ref 29, .ref 30, .null, .int 0, .int 0, .int 0]))
def w_62 : List PE := w_61 ++ [.inl (0, 5)]
def w_63 : List PE := w_62.set 26 (.inr (3, [.ref 27, .ref 28, .ref 29, .ref 30, .ref 31, .int 0, .int 0, .int 0]))
def w_64 : List PE := w_63.set 25 (.inr (6, [.ref 26, .null, .int 0, .int 0, .int 0, .int 0, .int 0]))
def w_65 : List PE := w_64 ++ [.inl (0, 300)]
def w_66 : List PE := w_65.set 25 (.inr (6, [.ref 26, .ref 32, .int 0, .int 0, .int 0, .int 0, .int 0]))
def w_67 : List PE := w_66.set 0 (.inr (8, [.ref 1, .ref 7, .ref 13, .ref 19, .ref 25, .null, .null, .null, .null, .null, .long 0]))
def w_68 : List PE := w_67 ++ [.inr (5, dvl 5)]
def w_69 : List PE := w_68 ++ [.inl (0, 8)]
def w_70 : List PE := w_69.set 33 (.inr (5, [.ref 34, .null, .null, .null, .null, .int 0, .int 0, .int 0, .int 0, .int 0]))
def w_71 : List PE := w_70 ++ [.inl (0, 8)]
def w_72 : List PE := w_71.set 33 (.inr (5, [.ref 34, .ref 35, .null, .null, .null, .int 0, .int 0, .int 0, .int 0, .int 0]))
def w_73 : List PE := w_72 ++ [.inl (0, 8)]
def w_74 : List PE := w_73.set 33 (.inr (5, [.ref 34, .ref 35, .ref 36, .null, .null, .int 0, .int 0, .int 0, .int 0, .int 0]))
def w_75 : List PE := w_74 ++ [.inl (0, 8)]
def w_76 : List PE := w_75.set 33 (.inr (5, [.ref 34, .ref 35, .ref 36, .ref 37, .null, .int 0, .int 0, .int 0, .int 0, .int 0]))
def w_77 : List PE := w_76 ++ [.inl (0, 9)]
def w_78 : List PE := w_77.set 33 (.inr (5, [.ref 34, .ref 35, .ref 36, .ref 37, .ref 38, .int 0, .int 0, .int 0, .int 0, .int 0]))
def w_79 : List PE := w_78.set 0 (.inr (8, [.ref 1, .ref 7, .ref 13, .ref 19, .ref 25, .ref 33, .null, .null, .null, .null, .long 0]))
def w_80 : List PE := w_79 ++ [.inr (1, dvl 1)]
def w_81 : List PE := w_80 ++ [.inl (2, 4864)]
def w_82 : List PE := w_81.set 39 (.inr (1, [.ref 40]))
def w_83 : List PE := w_82.set 0 (.inr (8, [.ref 1, .ref 7, .ref 13, .ref 19, .ref 25, .ref 33, .ref 39, .null, .null, .null, .long 0]))
def w_84 : List PE := w_83 ++ [.inr (0, dvl 0)]
def w_85 : List PE := w_84 ++ [.inl (0, 8)]
def w_86 : List PE := w_85.set 41 (.inr (0, [.ref 42, .null, .int 0, .int 0, .int 0]))
def w_87 : List PE := w_86 ++ [.inl (0, 8)]
def w_88 : List PE := w_87.set 41 (.inr (0, [.ref 42, .ref 43, .int 0, .int 0, .int 0]))
def w_89 : List PE := w_88.set 0 (.inr (8, [.ref 1, .ref 7, .ref 13, .ref 19, .ref 25, .ref 33, .ref 39, .ref 41, .null, .null, .long 0]))
def w_90 : List PE := w_89 ++ [.inr (7, dvl 7)]
def w_91 : List PE := w_90 ++ [.inl (0, 12)]
def w_92 : List PE := w_91.set 44 (.inr (7, [.ref 45, .null, .null, .null, .null, .null, .int 0, .int 0, .int 0, .int 0]))
def w_93 : List PE := w_92 ++ [.inl (0, 12)]
def w_94 : List PE := w_93.set 44 (.inr (7, [.ref 45, .ref 46, .null, .null, .null, .null, .int 0, .int 0, .int 0, .int 0]))
def w_95 : List PE := w_94 ++ [.inl (0, 12)]
def w_96 : List PE := w_95.set 44 (.inr (7, [.ref 45, .ref 46, .ref 47, .null, .null, .null, .int 0, .int 0, .int 0, .int 0]))
def w_97 : List PE := w_96 ++ [.inl (0, 5)]
def w_98 : List PE := w_97.set 44 (.inr (7, [.ref 45, .ref 46, .ref 47, .ref 48, .null, .null, .int 0, .int 0, .int 0, .int 0]))
def w_99 : List PE := w_98 ++ [.inl (0, 35)]
def w_100 : List PE := w_99.set 44 (.inr (7, [.ref 45, .ref 46, .ref 47, .ref 48, .ref 49, .null, .int 0, .int 0, .int 0, .int 0]))
def w_101 : List PE := w_100 ++ [.inl (0, 75)]
def w_102 : List PE := w_101.set 44 (.inr (7, [.ref 45, .ref 46, .ref 47, .ref 48, .ref 49, .ref 50, .int 0, .int 0, .int 0, .int 0]))
def w_103 : List PE := w_102.set 44 (.inr (7, [.ref 45, .ref 46, .ref 47, .ref 48, .ref 49, .ref 50, .int (nI 2), .int 0, .int 0, .int 0]))
def w_104 : List PE := w_103.set 0 (.inr (8, [.ref 1, .ref 7, .ref 13, .ref 19, .ref 25, .ref 33, .ref 39, .ref 41, .ref 44, .null, .long 0]))
def w_105 : List PE := w_104 ++ [.inr (2, dvl 2)]
def w_106 : List PE := w_105 ++ [.inl (0, 8)]
def w_107 : List PE := w_106.set 51 (.inr (2, [.null, .ref 52, .null, .null, .null, .int 0]))
def w_108 : List PE := w_107 ++ [.inl (0, 8)]
def w_109 : List PE := w_108.set 51 (.inr (2, [.null, .ref 52, .ref 53, .null, .null, .int 0]))
def w_110 : List PE := w_109 ++ [.inl (0, 3)]
def w_111 : List PE := w_110.set 51 (.inr (2, [.null, .ref 52, .ref 53, .ref 54, .null, .int 0]))
def w_112 : List PE := w_111 ++ [.inl (0, 3)]
def w_113 : List PE := w_112.set 51 (.inr (2, [.null, .ref 52, .ref 53, .ref 54, .ref 55, .int 0]))
def w_114 : List PE := w_113.set 51 (.inr (2, [.ref 1, .ref 52, .ref 53, .ref 54, .ref 55, .int 0]))
def w_115 : List PE := w_114.set 0 (.inr (8, [.ref 1, .ref 7, .ref 13, .ref 19, .ref 25, .ref 33, .ref 39, .ref 41, .ref 44, .ref 51, .long 0]))
def w_116 : List PE := w_115.set 0 (.inr (8, [.ref 1, .ref 7, .ref 13, .ref 19, .ref 25, .ref 33, .ref 39, .ref 41, .ref 44, .ref 51, .long (Int64.ofNat 0)]))
def w_117 : List PE := w_116 ++ [.inr (9, dvl 9)]
def w_118 : List PE := w_117 ++ [.inl (0, 300)]
def w_119 : List PE := w_118.set 56 (.inr (9, [.int 0, .long 0, .ref 57, .int 0, .int 0, .int 0, .int 0, .int 0, .int 0, .null, .null, .null, .null, .null, .int 0, .int 0, .int 0, .int 0, .int 0, .int 0, .null, .null, .null, .null, .int 0, .null, .null, .int 0, .null, .int 0, .null, .null, .int 0, .null, .null, .null]))
def w_120 : List PE := w_119 ++ [.inl (0, 6)]
def w_121 : List PE := w_120.set 56 (.inr (9, [.int 0, .long 0, .ref 57, .int 0, .int 0, .int 0, .int 0, .int 0, .int 0, .ref 58, .null, .null, .null, .null, .int 0, .int 0, .int 0, .int 0, .int 0, .int 0, .null, .null, .null, .null, .int 0, .null, .null, .int 0, .null, .int 0, .null, .null, .int 0, .null, .null, .null]))
def w_122 : List PE := w_121 ++ [.inl (0, 6)]
def w_123 : List PE := w_122.set 56 (.inr (9, [.int 0, .long 0, .ref 57, .int 0, .int 0, .int 0, .int 0, .int 0, .int 0, .ref 58, .ref 59, .null, .null, .null, .int 0, .int 0, .int 0, .int 0, .int 0, .int 0, .null, .null, .null, .null, .int 0, .null, .null, .int 0, .null, .int 0, .null, .null, .int 0, .null, .null, .null]))
def w_124 : List PE := w_123 ++ [.inl (0, 16)]
def w_125 : List PE := w_124.set 56 (.inr (9, [.int 0, .long 0, .ref 57, .int 0, .int 0, .int 0, .int 0, .int 0, .int 0, .ref 58, .ref 59, .ref 60, .null, .null, .int 0, .int 0, .int 0, .int 0, .int 0, .int 0, .null, .null, .null, .null, .int 0, .null, .null, .int 0, .null, .int 0, .null, .null, .int 0, .null, .null, .null]))
def w_126 : List PE := w_125 ++ [.inl (0, 16)]
def w_127 : List PE := w_126.set 56 (.inr (9, [.int 0, .long 0, .ref 57, .int 0, .int 0, .int 0, .int 0, .int 0, .int 0, .ref 58, .ref 59, .ref 60, .ref 61, .null, .int 0, .int 0, .int 0, .int 0, .int 0, .int 0, .null, .null, .null, .null, .int 0, .null, .null, .int 0, .null, .int 0, .null, .null, .int 0, .null, .null, .null]))
def w_128 : List PE := w_127 ++ [.inl (0, 10)]
def w_129 : List PE := w_128.set 56 (.inr (9, [.int 0, .long 0, .ref 57, .int 0, .int 0, .int 0, .int 0, .int 0, .int 0, .ref 58, .ref 59, .ref 60, .ref 61, .ref 62, .int 0, .int 0, .int 0, .int 0, .int 0, .int 0, .null, .null, .null, .null, .int 0, .null, .null, .int 0, .null, .int 0, .null, .null, .int 0, .null, .null, .null]))
def w_130 : List PE := w_129 ++ [.inl (0, 34)]
def w_131 : List PE := w_130.set 56 (.inr (9, [.int 0, .long 0, .ref 57, .int 0, .int 0, .int 0, .int 0, .int 0, .int 0, .ref 58, .ref 59, .ref 60, .ref 61, .ref 62, .int 0, .int 0, .int 0, .int 0, .int 0, .int 0, .ref 63, .null, .null, .null, .int 0, .null, .null, .int 0, .null, .int 0, .null, .null, .int 0, .null, .null, .null]))
def w_132 : List PE := w_131 ++ [.inl (0, 68)]
def w_133 : List PE := w_132.set 56 (.inr (9, [.int 0, .long 0, .ref 57, .int 0, .int 0, .int 0, .int 0, .int 0, .int 0, .ref 58, .ref 59, .ref 60, .ref 61, .ref 62, .int 0, .int 0, .int 0, .int 0, .int 0, .int 0, .ref 63, .ref 64, .null, .null, .int 0, .null, .null, .int 0, .null, .int 0, .null, .null, .int 0, .null, .null, .null]))
def w_134 : List PE := w_133 ++ [.inl (1, 2)]
def w_135 : List PE := w_134.set 56 (.inr (9, [.int 0, .long 0, .ref 57, .int 0, .int 0, .int 0, .int 0, .int 0, .int 0, .ref 58, .ref 59, .ref 60, .ref 61, .ref 62, .int 0, .int 0, .int 0, .int 0, .int 0, .int 0, .ref 63, .ref 64, .ref 65, .null, .int 0, .null, .null, .int 0, .null, .int 0, .null, .null, .int 0, .null, .null, .null]))
def w_136 : List PE := w_135 ++ [.inl (0, 8)]
def w_137 : List PE := w_136.set 56 (.inr (9, [.int 0, .long 0, .ref 57, .int 0, .int 0, .int 0, .int 0, .int 0, .int 0, .ref 58, .ref 59, .ref 60, .ref 61, .ref 62, .int 0, .int 0, .int 0, .int 0, .int 0, .int 0, .ref 63, .ref 64, .ref 65, .ref 66, .int 0, .null, .null, .int 0, .null, .int 0, .null, .null, .int 0, .null, .null, .null]))
def w_138 : List PE := w_137 ++ [.inl (0, 8)]
def w_139 : List PE := w_138.set 56 (.inr (9, [.int 0, .long 0, .ref 57, .int 0, .int 0, .int 0, .int 0, .int 0, .int 0, .ref 58, .ref 59, .ref 60, .ref 61, .ref 62, .int 0, .int 0, .int 0, .int 0, .int 0, .int 0, .ref 63, .ref 64, .ref 65, .ref 66, .int 0, .ref 67, .null, .int 0, .null, .int 0, .null, .null, .int 0, .null, .null, .null]))
def w_140 : List PE := w_139 ++ [.inl (0, 8)]
def w_141 : List PE := w_140.set 56 (.inr (9, [.int 0, .long 0, .ref 57, .int 0, .int 0, .int 0, .int 0, .int 0, .int 0, .ref 58, .ref 59, .ref 60, .ref 61, .ref 62, .int 0, .int 0, .int 0, .int 0, .int 0, .int 0, .ref 63, .ref 64, .ref 65, .ref 66, .int 0, .ref 67, .ref 68, .int 0, .null, .int 0, .null, .null, .int 0, .null, .null, .null]))
def w_142 : List PE := w_141 ++ [.inl (0, 36)]
def w_143 : List PE := w_142.set 56 (.inr (9, [.int 0, .long 0, .ref 57, .int 0, .int 0, .int 0, .int 0, .int 0, .int 0, .ref 58, .ref 59, .ref 60, .ref 61, .ref 62, .int 0, .int 0, .int 0, .int 0, .int 0, .int 0, .ref 63, .ref 64, .ref 65, .ref 66, .int 0, .ref 67, .ref 68, .int 0, .ref 69, .int 0, .null, .null, .int 0, .null, .null, .null]))
def w_144 : List PE := w_143 ++ [.inl (0, 8)]
def w_145 : List PE := w_144.set 56 (.inr (9, [.int 0, .long 0, .ref 57, .int 0, .int 0, .int 0, .int 0, .int 0, .int 0, .ref 58, .ref 59, .ref 60, .ref 61, .ref 62, .int 0, .int 0, .int 0, .int 0, .int 0, .int 0, .ref 63, .ref 64, .ref 65, .ref 66, .int 0, .ref 67, .ref 68, .int 0, .ref 69, .int 0, .ref 70, .null, .int 0, .null, .null, .null]))
def w_146 : List PE := w_145 ++ [.inl (0, 8)]
def w_147 : List PE := w_146.set 56 (.inr (9, [.int 0, .long 0, .ref 57, .int 0, .int 0, .int 0, .int 0, .int 0, .int 0, .ref 58, .ref 59, .ref 60, .ref 61, .ref 62, .int 0, .int 0, .int 0, .int 0, .int 0, .int 0, .ref 63, .ref 64, .ref 65, .ref 66, .int 0, .ref 67, .ref 68, .int 0, .ref 69, .int 0, .ref 70, .ref 71, .int 0, .null, .null, .null]))
def w_148 : List PE := w_147 ++ [.inl (0, 3)]
def w_149 : List PE := w_148.set 56 (.inr (9, [.int 0, .long 0, .ref 57, .int 0, .int 0, .int 0, .int 0, .int 0, .int 0, .ref 58, .ref 59, .ref 60, .ref 61, .ref 62, .int 0, .int 0, .int 0, .int 0, .int 0, .int 0, .ref 63, .ref 64, .ref 65, .ref 66, .int 0, .ref 67, .ref 68, .int 0, .ref 69, .int 0, .ref 70, .ref 71, .int 0, .ref 72, .null, .null]))
def w_150 : List PE := w_149 ++ [.inl (0, 3)]
def w_151 : List PE := w_150.set 56 (.inr (9, [.int 0, .long 0, .ref 57, .int 0, .int 0, .int 0, .int 0, .int 0, .int 0, .ref 58, .ref 59, .ref 60, .ref 61, .ref 62, .int 0, .int 0, .int 0, .int 0, .int 0, .int 0, .ref 63, .ref 64, .ref 65, .ref 66, .int 0, .ref 67, .ref 68, .int 0, .ref 69, .int 0, .ref 70, .ref 71, .int 0, .ref 72, .ref 73, .null]))
def w_152 : List PE := w_151 ++ [.inl (0, 3)]
def w_153 : List PE := w_152.set 56 (.inr (9, [.int 0, .long 0, .ref 57, .int 0, .int 0, .int 0, .int 0, .int 0, .int 0, .ref 58, .ref 59, .ref 60, .ref 61, .ref 62, .int 0, .int 0, .int 0, .int 0, .int 0, .int 0, .ref 63, .ref 64, .ref 65, .ref 66, .int 0, .ref 67, .ref 68, .int 0, .ref 69, .int 0, .ref 70, .ref 71, .int 0, .ref 72, .ref 73, .ref 74]))
def w_154 : List PE := w_153.set 56 (.inr (9, [.int 0, .long 0, .ref 57, .int 0, .int 0, .int 0, .int 0, .int 0, .int 0, .ref 58, .ref 59, .ref 60, .ref 61, .ref 62, .int 0, .int 0, .int 0, .int 0, .int 0, .int 0, .ref 63, .ref 64, .ref 65, .ref 66, .int 0, .ref 67, .ref 68, .int (nI 2), .ref 69, .int 0, .ref 70, .ref 71, .int 0, .ref 72, .ref 73, .ref 74]))
theorem mi_X0_init : mokI m_X0_init := ⟨ic_X0_init, ini_0, rfl, ⟨by decide +kernel, by decide +kernel, by decide +kernel⟩, by decide, by decide +kernel, ii_X0_init, rfl, rfl⟩
theorem mi_X1_init : mokI m_X1_init := ⟨ic_X1_init, ini_1, rfl, ⟨by decide +kernel, by decide +kernel, by decide +kernel⟩, by decide, by decide +kernel, ii_X1_init, rfl, rfl⟩
theorem mi_X2_init : mokI m_X2_init := ⟨ic_X2_init, ini_2, rfl, ⟨by decide +kernel, by decide +kernel, by decide +kernel⟩, by decide, by decide +kernel, ii_X2_init, rfl, rfl⟩
theorem mi_X3_init : mokI m_X3_init := ⟨ic_X3_init, ini_3, rfl, ⟨by decide +kernel, by decide +kernel, by decide +kernel⟩, by decide, by decide +kernel, ii_X3_init, rfl, rfl⟩
theorem mi_X4_init : mokI m_X4_init := ⟨ic_X4_init, ini_4, rfl, ⟨by decide +kernel, by decide +kernel, by decide +kernel⟩, by decide, by decide +kernel, ii_X4_init, rfl, rfl⟩
theorem mi_X5_init : mokI m_X5_init := ⟨ic_X5_init, ini_5, rfl, ⟨by decide +kernel, by decide +kernel, by decide +kernel⟩, by decide, by decide +kernel, ii_X5_init, rfl, rfl⟩
theorem mi_X6_init : mokI m_X6_init := ⟨ic_X6_init, ini_6, rfl, ⟨by decide +kernel, by decide +kernel, by decide +kernel⟩, by decide, by decide +kernel, ii_X6_init, rfl, rfl⟩
theorem mi_X7_init : mokI m_X7_init := ⟨ic_X7_init, ini_7, rfl, ⟨by decide +kernel, by decide +kernel, by decide +kernel⟩, by decide, by decide +kernel, ii_X7_init, rfl, rfl⟩
theorem mi_X8_init : mokI m_X8_init := ⟨ic_X8_init, ini_8, rfl, ⟨by decide +kernel, by decide +kernel, by decide +kernel⟩, by decide, by decide +kernel, ii_X8_init, rfl, rfl⟩
theorem mi_X9_init : mokI m_X9_init := ⟨ic_X9_init, ini_9, rfl, ⟨by decide +kernel, by decide +kernel, by decide +kernel⟩, by decide, by decide +kernel, ii_X9_init, rfl, rfl⟩
set_option maxRecDepth 100000 in
theorem ct_1_X3_init {G : GG} {h0 d : Nat} {Q : Heap → Prop} (hQ : ∀ H, CW G h0 w_11 H → Q H) : PCc G h0 (d + 1) m_X3_init 5 27 [.ref 1] w_1 Q := by
  refine PCc.of mi_X3_init (Nat.le_of_ble_eq_true rfl) ?_
  show PY G h0 d m_X3_init 5 27 Q 0 [some (.ref 1)] [] (w_1, 0, 0)
  refine z_aload_n (fun _ _ _ _ h => h) (k := 0) (by decide +kernel) ?_
  show PY G h0 d m_X3_init 5 27 Q 1 [some (.ref 1)] [.ref 1] (w_1, 0, 0)
  refine z_objinit (fun _ _ _ _ h => h) (idx := 3) ol_3 (by decide +kernel) (by decide) ?_
  show PY G h0 d m_X3_init 5 27 Q 4 [some (.ref 1)] [] (w_1, 0, 0)
  refine z_aload_n (fun _ _ _ _ h => h) (k := 0) (by decide +kernel) ?_
  show PY G h0 d m_X3_init 5 27 Q 5 [some (.ref 1)] [.ref 1] (w_1, 0, 0)
  refine z_iconst (fun _ _ _ _ h => h) (n := 3) (kv := nI 3) (by decide) (by decide +kernel) ?_
  show PY G h0 d m_X3_init 5 27 Q 6 [some (.ref 1)] [.int (nI 3), .ref 1] (w_1, 0, 0)
  refine z_newarray (fun _ _ _ _ h => h) (t := 0) (n := 3) (by decide) (by decide) (by decide +kernel) (by decide +kernel) (by decide) (by decide) ?_
  show PY G h0 d m_X3_init 5 27 Q 8 [some (.ref 1)] [.ref 2, .ref 1] (w_2, 1, 3)
  refine z_putfield (fun _ _ _ _ h => h) (idx := 9) (a := 1) (ci := 3) (k := 0) (fs := [.null, .null, .null, .null, .null, .int 0, .int 0, .int 0]) (by decide +kernel) rfl rfl rfl rfl (by decide) ?_
  show PY G h0 d m_X3_init 5 27 Q 11 [some (.ref 1)] [] (w_3, 1, 3)
  refine z_aload_n (fun _ _ _ _ h => h) (k := 0) (by decide +kernel) ?_
  show PY G h0 d m_X3_init 5 27 Q 12 [some (.ref 1)] [.ref 1] (w_3, 1, 3)
  refine z_iconst (fun _ _ _ _ h => h) (n := 3) (kv := nI 3) (by decide) (by decide +kernel) ?_
  show PY G h0 d m_X3_init 5 27 Q 13 [some (.ref 1)] [.int (nI 3), .ref 1] (w_3, 1, 3)
  refine z_newarray (fun _ _ _ _ h => h) (t := 0) (n := 3) (by decide) (by decide) (by decide +kernel) (by decide +kernel) (by decide) (by decide) ?_
  show PY G h0 d m_X3_init 5 27 Q 15 [some (.ref 1)] [.ref 3, .ref 1] (w_4, 2, 6)
  refine z_putfield (fun _ _ _ _ h => h) (idx := 15) (a := 1) (ci := 3) (k := 1) (fs := [.ref 2, .null, .null, .null, .null, .int 0, .int 0, .int 0]) (by decide +kernel) rfl rfl rfl rfl (by decide) ?_
  show PY G h0 d m_X3_init 5 27 Q 18 [some (.ref 1)] [] (w_5, 2, 6)
  refine z_aload_n (fun _ _ _ _ h => h) (k := 0) (by decide +kernel) ?_
  show PY G h0 d m_X3_init 5 27 Q 19 [some (.ref 1)] [.ref 1] (w_5, 2, 6)
  refine z_bipush (fun _ _ _ _ h => h) (n := 8) (kv := nI 8) (by decide) (by decide +kernel) ?_
  show PY G h0 d m_X3_init 5 27 Q 21 [some (.ref 1)] [.int (nI 8), .ref 1] (w_5, 2, 6)
  refine z_newarray (fun _ _ _ _ h => h) (t := 0) (n := 8) (by decide) (by decide) (by decide +kernel) (by decide +kernel) (by decide) (by decide) ?_
  show PY G h0 d m_X3_init 5 27 Q 23 [some (.ref 1)] [.ref 4, .ref 1] (w_6, 3, 14)
  refine z_putfield (fun _ _ _ _ h => h) (idx := 18) (a := 1) (ci := 3) (k := 2) (fs := [.ref 2, .ref 3, .null, .null, .null, .int 0, .int 0, .int 0]) (by decide +kernel) rfl rfl rfl rfl (by decide) ?_
  show PY G h0 d m_X3_init 5 27 Q 26 [some (.ref 1)] [] (w_7, 3, 14)
  refine z_aload_n (fun _ _ _ _ h => h) (k := 0) (by decide +kernel) ?_
  show PY G h0 d m_X3_init 5 27 Q 27 [some (.ref 1)] [.ref 1] (w_7, 3, 14)
  refine z_bipush (fun _ _ _ _ h => h) (n := 8) (kv := nI 8) (by decide) (by decide +kernel) ?_
  show PY G h0 d m_X3_init 5 27 Q 29 [some (.ref 1)] [.int (nI 8), .ref 1] (w_7, 3, 14)
  refine z_newarray (fun _ _ _ _ h => h) (t := 0) (n := 8) (by decide) (by decide) (by decide +kernel) (by decide +kernel) (by decide) (by decide) ?_
  show PY G h0 d m_X3_init 5 27 Q 31 [some (.ref 1)] [.ref 5, .ref 1] (w_8, 4, 22)
  refine z_putfield (fun _ _ _ _ h => h) (idx := 21) (a := 1) (ci := 3) (k := 3) (fs := [.ref 2, .ref 3, .ref 4, .null, .null, .int 0, .int 0, .int 0]) (by decide +kernel) rfl rfl rfl rfl (by decide) ?_
  show PY G h0 d m_X3_init 5 27 Q 34 [some (.ref 1)] [] (w_9, 4, 22)
  refine z_aload_n (fun _ _ _ _ h => h) (k := 0) (by decide +kernel) ?_
  show PY G h0 d m_X3_init 5 27 Q 35 [some (.ref 1)] [.ref 1] (w_9, 4, 22)
  refine z_iconst (fun _ _ _ _ h => h) (n := 5) (kv := nI 5) (by decide) (by decide +kernel) ?_
  show PY G h0 d m_X3_init 5 27 Q 36 [some (.ref 1)] [.int (nI 5), .ref 1] (w_9, 4, 22)
  refine z_newarray (fun _ _ _ _ h => h) (t := 0) (n := 5) (by decide) (by decide) (by decide +kernel) (by decide +kernel) (by decide) (by decide) ?_
  show PY G h0 d m_X3_init 5 27 Q 38 [some (.ref 1)] [.ref 6, .ref 1] (w_10, 5, 27)
  refine z_putfield (fun _ _ _ _ h => h) (idx := 24) (a := 1) (ci := 3) (k := 4) (fs := [.ref 2, .ref 3, .ref 4, .ref 5, .null, .int 0, .int 0, .int 0]) (by decide +kernel) rfl rfl rfl rfl (by decide) ?_
  show PY G h0 d m_X3_init 5 27 Q 41 [some (.ref 1)] [] (w_11, 5, 27)
  exact z_return (by decide +kernel) rfl ⟨hQ, by decide, by decide⟩ rfl
set_option maxRecDepth 100000 in
theorem ct_2_X4_init {G : GG} {h0 d : Nat} {Q : Heap → Prop} (hQ : ∀ H, CW G h0 w_24 H → Q H) : PCc G h0 (d + 1) m_X4_init 5 34 [.ref 7, .ref 1] w_13 Q := by
  refine PCc.of mi_X4_init (Nat.le_of_ble_eq_true rfl) ?_
  show PY G h0 d m_X4_init 5 34 Q 0 [some (.ref 7), some (.ref 1)] [] (w_13, 0, 0)
  refine z_aload_n (fun _ _ _ _ h => h) (k := 0) (by decide +kernel) ?_
  show PY G h0 d m_X4_init 5 34 Q 1 [some (.ref 7), some (.ref 1)] [.ref 7] (w_13, 0, 0)
  refine z_objinit (fun _ _ _ _ h => h) (idx := 3) ol_4 (by decide +kernel) (by decide) ?_
  show PY G h0 d m_X4_init 5 34 Q 4 [some (.ref 7), some (.ref 1)] [] (w_13, 0, 0)
  refine z_aload_n (fun _ _ _ _ h => h) (k := 0) (by decide +kernel) ?_
  show PY G h0 d m_X4_init 5 34 Q 5 [some (.ref 7), some (.ref 1)] [.ref 7] (w_13, 0, 0)
  refine z_bipush (fun _ _ _ _ h => h) (n := 8) (kv := nI 8) (by decide) (by decide +kernel) ?_
  show PY G h0 d m_X4_init 5 34 Q 7 [some (.ref 7), some (.ref 1)] [.int (nI 8), .ref 7] (w_13, 0, 0)
  refine z_newarray (fun _ _ _ _ h => h) (t := 0) (n := 8) (by decide) (by decide) (by decide +kernel) (by decide +kernel) (by decide) (by decide) ?_
  show PY G h0 d m_X4_init 5 34 Q 9 [some (.ref 7), some (.ref 1)] [.ref 8, .ref 7] (w_14, 1, 8)
  refine z_putfield (fun _ _ _ _ h => h) (idx := 9) (a := 7) (ci := 4) (k := 1) (fs := [.null, .null, .null, .null, .null, .null, .int 0]) (by decide +kernel) rfl rfl rfl rfl (by decide) ?_
  show PY G h0 d m_X4_init 5 34 Q 12 [some (.ref 7), some (.ref 1)] [] (w_15, 1, 8)
  refine z_aload_n (fun _ _ _ _ h => h) (k := 0) (by decide +kernel) ?_
  show PY G h0 d m_X4_init 5 34 Q 13 [some (.ref 7), some (.ref 1)] [.ref 7] (w_15, 1, 8)
  refine z_bipush (fun _ _ _ _ h => h) (n := 8) (kv := nI 8) (by decide) (by decide +kernel) ?_
  show PY G h0 d m_X4_init 5 34 Q 15 [some (.ref 7), some (.ref 1)] [.int (nI 8), .ref 7] (w_15, 1, 8)
  refine z_newarray (fun _ _ _ _ h => h) (t := 0) (n := 8) (by decide) (by decide) (by decide +kernel) (by decide +kernel) (by decide) (by decide) ?_
  show PY G h0 d m_X4_init 5 34 Q 17 [some (.ref 7), some (.ref 1)] [.ref 9, .ref 7] (w_16, 2, 16)
  refine z_putfield (fun _ _ _ _ h => h) (idx := 15) (a := 7) (ci := 4) (k := 2) (fs := [.null, .ref 8, .null, .null, .null, .null, .int 0]) (by decide +kernel) rfl rfl rfl rfl (by decide) ?_
  show PY G h0 d m_X4_init 5 34 Q 20 [some (.ref 7), some (.ref 1)] [] (w_17, 2, 16)
  refine z_aload_n (fun _ _ _ _ h => h) (k := 0) (by decide +kernel) ?_
  show PY G h0 d m_X4_init 5 34 Q 21 [some (.ref 7), some (.ref 1)] [.ref 7] (w_17, 2, 16)
  refine z_bipush (fun _ _ _ _ h => h) (n := 8) (kv := nI 8) (by decide) (by decide +kernel) ?_
  show PY G h0 d m_X4_init 5 34 Q 23 [some (.ref 7), some (.ref 1)] [.int (nI 8), .ref 7] (w_17, 2, 16)
  refine z_newarray (fun _ _ _ _ h => h) (t := 0) (n := 8) (by decide) (by decide) (by decide +kernel) (by decide +kernel) (by decide) (by decide) ?_
  show PY G h0 d m_X4_init 5 34 Q 25 [some (.ref 7), some (.ref 1)] [.ref 10, .ref 7] (w_18, 3, 24)
  refine z_putfield (fun _ _ _ _ h => h) (idx := 18) (a := 7) (ci := 4) (k := 3) (fs := [.null, .ref 8, .ref 9, .null, .null, .null, .int 0]) (by decide +kernel) rfl rfl rfl rfl (by decide) ?_
  show PY G h0 d m_X4_init 5 34 Q 28 [some (.ref 7), some (.ref 1)] [] (w_19, 3, 24)
  refine z_aload_n (fun _ _ _ _ h => h) (k := 0) (by decide +kernel) ?_
  show PY G h0 d m_X4_init 5 34 Q 29 [some (.ref 7), some (.ref 1)] [.ref 7] (w_19, 3, 24)
  refine z_iconst (fun _ _ _ _ h => h) (n := 5) (kv := nI 5) (by decide) (by decide +kernel) ?_
  show PY G h0 d m_X4_init 5 34 Q 30 [some (.ref 7), some (.ref 1)] [.int (nI 5), .ref 7] (w_19, 3, 24)
  refine z_newarray (fun _ _ _ _ h => h) (t := 0) (n := 5) (by decide) (by decide) (by decide +kernel) (by decide +kernel) (by decide) (by decide) ?_
  show PY G h0 d m_X4_init 5 34 Q 32 [some (.ref 7), some (.ref 1)] [.ref 11, .ref 7] (w_20, 4, 29)
  refine z_putfield (fun _ _ _ _ h => h) (idx := 21) (a := 7) (ci := 4) (k := 4) (fs := [.null, .ref 8, .ref 9, .ref 10, .null, .null, .int 0]) (by decide +kernel) rfl rfl rfl rfl (by decide) ?_
  show PY G h0 d m_X4_init 5 34 Q 35 [some (.ref 7), some (.ref 1)] [] (w_21, 4, 29)
  refine z_aload_n (fun _ _ _ _ h => h) (k := 0) (by decide +kernel) ?_
  show PY G h0 d m_X4_init 5 34 Q 36 [some (.ref 7), some (.ref 1)] [.ref 7] (w_21, 4, 29)
  refine z_iconst (fun _ _ _ _ h => h) (n := 5) (kv := nI 5) (by decide) (by decide +kernel) ?_
  show PY G h0 d m_X4_init 5 34 Q 37 [some (.ref 7), some (.ref 1)] [.int (nI 5), .ref 7] (w_21, 4, 29)
  refine z_newarray (fun _ _ _ _ h => h) (t := 0) (n := 5) (by decide) (by decide) (by decide +kernel) (by decide +kernel) (by decide) (by decide) ?_
  show PY G h0 d m_X4_init 5 34 Q 39 [some (.ref 7), some (.ref 1)] [.ref 12, .ref 7] (w_22, 5, 34)
  refine z_putfield (fun _ _ _ _ h => h) (idx := 24) (a := 7) (ci := 4) (k := 5) (fs := [.null, .ref 8, .ref 9, .ref 10, .ref 11, .null, .int 0]) (by decide +kernel) rfl rfl rfl rfl (by decide) ?_
  show PY G h0 d m_X4_init 5 34 Q 42 [some (.ref 7), some (.ref 1)] [] (w_23, 5, 34)
  refine z_aload_n (fun _ _ _ _ h => h) (k := 0) (by decide +kernel) ?_
  show PY G h0 d m_X4_init 5 34 Q 43 [some (.ref 7), some (.ref 1)] [.ref 7] (w_23, 5, 34)
  refine z_aload_n (fun _ _ _ _ h => h) (k := 1) (by decide +kernel) ?_
  show PY G h0 d m_X4_init 5 34 Q 44 [some (.ref 7), some (.ref 1)] [.ref 1, .ref 7] (w_23, 5, 34)
  refine z_putfield (fun _ _ _ _ h => h) (idx := 27) (a := 7) (ci := 4) (k := 0) (fs := [.null, .ref 8, .ref 9, .ref 10, .ref 11, .ref 12, .int 0]) (by decide +kernel) rfl rfl rfl rfl (by decide) ?_
  show PY G h0 d m_X4_init 5 34 Q 47 [some (.ref 7), some (.ref 1)] [] (w_24, 5, 34)
  exact z_return (by decide +kernel) rfl ⟨hQ, by decide, by decide⟩ rfl
set_option maxRecDepth 100000 in
theorem ct_3_X4_init {G : GG} {h0 d : Nat} {Q : Heap → Prop} (hQ : ∀ H, CW G h0 w_37 H → Q H) : PCc G h0 (d + 1) m_X4_init 5 34 [.ref 13, .ref 1] w_26 Q := by
  refine PCc.of mi_X4_init (Nat.le_of_ble_eq_true rfl) ?_
  show PY G h0 d m_X4_init 5 34 Q 0 [some (.ref 13), some (.ref 1)] [] (w_26, 0, 0)
  refine z_aload_n (fun _ _ _ _ h => h) (k := 0) (by decide +kernel) ?_
  show PY G h0 d m_X4_init 5 34 Q 1 [some (.ref 13), some (.ref 1)] [.ref 13] (w_26, 0, 0)
  refine z_objinit (fun _ _ _ _ h => h) (idx := 3) ol_4 (by decide +kernel) (by decide) ?_
  show PY G h0 d m_X4_init 5 34 Q 4 [some (.ref 13), some (.ref 1)] [] (w_26, 0, 0)
  refine z_aload_n (fun _ _ _ _ h => h) (k := 0) (by decide +kernel) ?_
  show PY G h0 d m_X4_init 5 34 Q 5 [some (.ref 13), some (.ref 1)] [.ref 13] (w_26, 0, 0)
  refine z_bipush (fun _ _ _ _ h => h) (n := 8) (kv := nI 8) (by decide) (by decide +kernel) ?_
  show PY G h0 d m_X4_init 5 34 Q 7 [some (.ref 13), some (.ref 1)] [.int (nI 8), .ref 13] (w_26, 0, 0)
  refine z_newarray (fun _ _ _ _ h => h) (t := 0) (n := 8) (by decide) (by decide) (by decide +kernel) (by decide +kernel) (by decide) (by decide) ?_
  show PY G h0 d m_X4_init 5 34 Q 9 [some (.ref 13), some (.ref 1)] [.ref 14, .ref 13] (w_27, 1, 8)
  refine z_putfield (fun _ _ _ _ h => h) (idx := 9) (a := 13) (ci := 4) (k := 1) (fs := [.null, .null, .null, .null, .null, .null, .int 0]) (by decide +kernel) rfl rfl rfl rfl (by decide) ?_
  show PY G h0 d m_X4_init 5 34 Q 12 [some (.ref 13), some (.ref 1)] [] (w_28, 1, 8)
  refine z_aload_n (fun _ _ _ _ h => h) (k := 0) (by decide +kernel) ?_
  show PY G h0 d m_X4_init 5 34 Q 13 [some (.ref 13), some (.ref 1)] [.ref 13] (w_28, 1, 8)
  refine z_bipush (fun _ _ _ _ h => h) (n := 8) (kv := nI 8) (by decide) (by decide +kernel) ?_
  show PY G h0 d m_X4_init 5 34 Q 15 [some (.ref 13), some (.ref 1)] [.int (nI 8), .ref 13] (w_28, 1, 8)
  refine z_newarray (fun _ _ _ _ h => h) (t := 0) (n := 8) (by decide) (by decide) (by decide +kernel) (by decide +kernel) (by decide) (by decide) ?_
  show PY G h0 d m_X4_init 5 34 Q 17 [some (.ref 13), some (.ref 1)] [.ref 15, .ref 13] (w_29, 2, 16)
  refine z_putfield (fun _ _ _ _ h => h) (idx := 15) (a := 13) (ci := 4) (k := 2) (fs := [.null, .ref 14, .null, .null, .null, .null, .int 0]) (by decide +kernel) rfl rfl rfl rfl (by decide) ?_
  show PY G h0 d m_X4_init 5 34 Q 20 [some (.ref 13), some (.ref 1)] [] (w_30, 2, 16)
  refine z_aload_n (fun _ _ _ _ h => h) (k := 0) (by decide +kernel) ?_
  show PY G h0 d m_X4_init 5 34 Q 21 [some (.ref 13), some (.ref 1)] [.ref 13] (w_30, 2, 16)
  refine z_bipush (fun _ _ _ _ h => h) (n := 8) (kv := nI 8) (by decide) (by decide +kernel) ?_
  show PY G h0 d m_X4_init 5 34 Q 23 [some (.ref 13), some (.ref 1)] [.int (nI 8), .ref 13] (w_30, 2, 16)
  refine z_newarray (fun _ _ _ _ h => h) (t := 0) (n := 8) (by decide) (by decide) (by decide +kernel) (by decide +kernel) (by decide) (by decide) ?_
  show PY G h0 d m_X4_init 5 34 Q 25 [some (.ref 13), some (.ref 1)] [.ref 16, .ref 13] (w_31, 3, 24)
  refine z_putfield (fun _ _ _ _ h => h) (idx := 18) (a := 13) (ci := 4) (k := 3) (fs := [.null, .ref 14, .ref 15, .null, .null, .null, .int 0]) (by decide +kernel) rfl rfl rfl rfl (by decide) ?_
  show PY G h0 d m_X4_init 5 34 Q 28 [some (.ref 13), some (.ref 1)] [] (w_32, 3, 24)
  refine z_aload_n (fun _ _ _ _ h => h) (k := 0) (by decide +kernel) ?_
  show PY G h0 d m_X4_init 5 34 Q 29 [some (.ref 13), some (.ref 1)] [.ref 13] (w_32, 3, 24)
  refine z_iconst (fun _ _ _ _ h => h) (n := 5) (kv := nI 5) (by decide) (by decide +kernel) ?_
  show PY G h0 d m_X4_init 5 34 Q 30 [some (.ref 13), some (.ref 1)] [.int (nI 5), .ref 13] (w_32, 3, 24)
  refine z_newarray (fun _ _ _ _ h => h) (t := 0) (n := 5) (by decide) (by decide) (by decide +kernel) (by decide +kernel) (by decide) (by decide) ?_
  show PY G h0 d m_X4_init 5 34 Q 32 [some (.ref 13), some (.ref 1)] [.ref 17, .ref 13] (w_33, 4, 29)
  refine z_putfield (fun _ _ _ _ h => h) (idx := 21) (a := 13) (ci := 4) (k := 4) (fs := [.null, .ref 14, .ref 15, .ref 16, .null, .null, .int 0]) (by decide +kernel) rfl rfl rfl rfl (by decide) ?_
  show PY G h0 d m_X4_init 5 34 Q 35 [some (.ref 13), some (.ref 1)] [] (w_34, 4, 29)
  refine z_aload_n (fun _ _ _ _ h => h) (k := 0) (by decide +kernel) ?_
  show PY G h0 d m_X4_init 5 34 Q 36 [some (.ref 13), some (.ref 1)] [.ref 13] (w_34, 4, 29)
  refine z_iconst (fun _ _ _ _ h => h) (n := 5) (kv := nI 5) (by decide) (by decide +kernel) ?_
  show PY G h0 d m_X4_init 5 34 Q 37 [some (.ref 13), some (.ref 1)] [.int (nI 5), .ref 13] (w_34, 4, 29)
  refine z_newarray (fun _ _ _ _ h => h) (t := 0) (n := 5) (by decide) (by decide) (by decide +kernel) (by decide +kernel) (by decide) (by decide) ?_
  show PY G h0 d m_X4_init 5 34 Q 39 [some (.ref 13), some (.ref 1)] [.ref 18, .ref 13] (w_35, 5, 34)
  refine z_putfield (fun _ _ _ _ h => h) (idx := 24) (a := 13) (ci := 4) (k := 5) (fs := [.null, .ref 14, .ref 15, .ref 16, .ref 17, .null, .int 0]) (by decide +kernel) rfl rfl rfl rfl (by decide) ?_
  show PY G h0 d m_X4_init 5 34 Q 42 [some (.ref 13), some (.ref 1)] [] (w_36, 5, 34)
  refine z_aload_n (fun _ _ _ _ h => h) (k := 0) (by decide +kernel) ?_
  show PY G h0 d m_X4_init 5 34 Q 43 [some (.ref 13), some (.ref 1)] [.ref 13] (w_36, 5, 34)
  refine z_aload_n (fun _ _ _ _ h => h) (k := 1) (by decide +kernel) ?_
  show PY G h0 d m_X4_init 5 34 Q 44 [some (.ref 13), some (.ref 1)] [.ref 1, .ref 13] (w_36, 5, 34)
  refine z_putfield (fun _ _ _ _ h => h) (idx := 27) (a := 13) (ci := 4) (k := 0) (fs := [.null, .ref 14, .ref 15, .ref 16, .ref 17, .ref 18, .int 0]) (by decide +kernel) rfl rfl rfl rfl (by decide) ?_
  show PY G h0 d m_X4_init 5 34 Q 47 [some (.ref 13), some (.ref 1)] [] (w_37, 5, 34)
  exact z_return (by decide +kernel) rfl ⟨hQ, by decide, by decide⟩ rfl
set_option maxRecDepth 100000 in
theorem ct_4_X4_init {G : GG} {h0 d : Nat} {Q : Heap → Prop} (hQ : ∀ H, CW G h0 w_50 H → Q H) : PCc G h0 (d + 1) m_X4_init 5 34 [.ref 19, .ref 1] w_39 Q := by
  refine PCc.of mi_X4_init (Nat.le_of_ble_eq_true rfl) ?_
  show PY G h0 d m_X4_init 5 34 Q 0 [some (.ref 19), some (.ref 1)] [] (w_39, 0, 0)
  refine z_aload_n (fun _ _ _ _ h => h) (k := 0) (by decide +kernel) ?_
  show PY G h0 d m_X4_init 5 34 Q 1 [some (.ref 19), some (.ref 1)] [.ref 19] (w_39, 0, 0)
  refine z_objinit (fun _ _ _ _ h => h) (idx := 3) ol_4 (by decide +kernel) (by decide) ?_
  show PY G h0 d m_X4_init 5 34 Q 4 [some (.ref 19), some (.ref 1)] [] (w_39, 0, 0)
  refine z_aload_n (fun _ _ _ _ h => h) (k := 0) (by decide +kernel) ?_
  show PY G h0 d m_X4_init 5 34 Q 5 [some (.ref 19), some (.ref 1)] [.ref 19] (w_39, 0, 0)
  refine z_bipush (fun _ _ _ _ h => h) (n := 8) (kv := nI 8) (by decide) (by decide +kernel) ?_
  show PY G h0 d m_X4_init 5 34 Q 7 [some (.ref 19), some (.ref 1)] [.int (nI 8), .ref 19] (w_39, 0, 0)
  refine z_newarray (fun _ _ _ _ h => h) (t := 0) (n := 8) (by decide) (by decide) (by decide +kernel) (by decide +kernel) (by decide) (by decide) ?_
  show PY G h0 d m_X4_init 5 34 Q 9 [some (.ref 19), some (.ref 1)] [.ref 20, .ref 19] (w_40, 1, 8)
  refine z_putfield (fun _ _ _ _ h => h) (idx := 9) (a := 19) (ci := 4) (k := 1) (fs := [.null, .null, .null, .null, .null, .null, .int 0]) (by decide +kernel) rfl rfl rfl rfl (by decide) ?_
  show PY G h0 d m_X4_init 5 34 Q 12 [some (.ref 19), some (.ref 1)] [] (w_41, 1, 8)
  refine z_aload_n (fun _ _ _ _ h => h) (k := 0) (by decide +kernel) ?_
  show PY G h0 d m_X4_init 5 34 Q 13 [some (.ref 19), some (.ref 1)] [.ref 19] (w_41, 1, 8)
  refine z_bipush (fun _ _ _ _ h => h) (n := 8) (kv := nI 8) (by decide) (by decide +kernel) ?_
  show PY G h0 d m_X4_init 5 34 Q 15 [some (.ref 19), some (.ref 1)] [.int (nI 8), .ref 19] (w_41, 1, 8)
  refine z_newarray (fun _ _ _ _ h => h) (t := 0) (n := 8) (by decide) (by decide) (by decide +kernel) (by decide +kernel) (by decide) (by decide) ?_
  show PY G h0 d m_X4_init 5 34 Q 17 [some (.ref 19), some (.ref 1)] [.ref 21, .ref 19] (w_42, 2, 16)
  refine z_putfield (fun _ _ _ _ h => h) (idx := 15) (a := 19) (ci := 4) (k := 2) (fs := [.null, .ref 20, .null, .null, .null, .null, .int 0]) (by decide +kernel) rfl rfl rfl rfl (by decide) ?_
  show PY G h0 d m_X4_init 5 34 Q 20 [some (.ref 19), some (.ref 1)] [] (w_43, 2, 16)
  refine z_aload_n (fun _ _ _ _ h => h) (k := 0) (by decide +kernel) ?_
  show PY G h0 d m_X4_init 5 34 Q 21 [some (.ref 19), some (.ref 1)] [.ref 19] (w_43, 2, 16)
  refine z_bipush (fun _ _ _ _ h => h) (n := 8) (kv := nI 8) (by decide) (by decide +kernel) ?_
  show PY G h0 d m_X4_init 5 34 Q 23 [some (.ref 19), some (.ref 1)] [.int (nI 8), .ref 19] (w_43, 2, 16)
  refine z_newarray (fun _ _ _ _ h => h) (t := 0) (n := 8) (by decide) (by decide) (by decide +kernel) (by decide +kernel) (by decide) (by decide) ?_
  show PY G h0 d m_X4_init 5 34 Q 25 [some (.ref 19), some (.ref 1)] [.ref 22, .ref 19] (w_44, 3, 24)
  refine z_putfield (fun _ _ _ _ h => h) (idx := 18) (a := 19) (ci := 4) (k := 3) (fs := [.null, .ref 20, .ref 21, .null, .null, .null, .int 0]) (by decide +kernel) rfl rfl rfl rfl (by decide) ?_
  show PY G h0 d m_X4_init 5 34 Q 28 [some (.ref 19), some (.ref 1)] [] (w_45, 3, 24)
  refine z_aload_n (fun _ _ _ _ h => h) (k := 0) (by decide +kernel) ?_
  show PY G h0 d m_X4_init 5 34 Q 29 [some (.ref 19), some (.ref 1)] [.ref 19] (w_45, 3, 24)
  refine z_iconst (fun _ _ _ _ h => h) (n := 5) (kv := nI 5) (by decide) (by decide +kernel) ?_
  show PY G h0 d m_X4_init 5 34 Q 30 [some (.ref 19), some (.ref 1)] [.int (nI 5), .ref 19] (w_45, 3, 24)
  refine z_newarray (fun _ _ _ _ h => h) (t := 0) (n := 5) (by decide) (by decide) (by decide +kernel) (by decide +kernel) (by decide) (by decide) ?_
  show PY G h0 d m_X4_init 5 34 Q 32 [some (.ref 19), some (.ref 1)] [.ref 23, .ref 19] (w_46, 4, 29)
  refine z_putfield (fun _ _ _ _ h => h) (idx := 21) (a := 19) (ci := 4) (k := 4) (fs := [.null, .ref 20, .ref 21, .ref 22, .null, .null, .int 0]) (by decide +kernel) rfl rfl rfl rfl (by decide) ?_
  show PY G h0 d m_X4_init 5 34 Q 35 [some (.ref 19), some (.ref 1)] [] (w_47, 4, 29)
  refine z_aload_n (fun _ _ _ _ h => h) (k := 0) (by decide +kernel) ?_
  show PY G h0 d m_X4_init 5 34 Q 36 [some (.ref 19), some (.ref 1)] [.ref 19] (w_47, 4, 29)
  refine z_iconst (fun _ _ _ _ h => h) (n := 5) (kv := nI 5) (by decide) (by decide +kernel) ?_
  show PY G h0 d m_X4_init 5 34 Q 37 [some (.ref 19), some (.ref 1)] [.int (nI 5), .ref 19] (w_47, 4, 29)
  refine z_newarray (fun _ _ _ _ h => h) (t := 0) (n := 5) (by decide) (by decide) (by decide +kernel) (by decide +kernel) (by decide) (by decide) ?_
  show PY G h0 d m_X4_init 5 34 Q 39 [some (.ref 19), some (.ref 1)] [.ref 24, .ref 19] (w_48, 5, 34)
  refine z_putfield (fun _ _ _ _ h => h) (idx := 24) (a := 19) (ci := 4) (k := 5) (fs := [.null, .ref 20, .ref 21, .ref 22, .ref 23, .null, .int 0]) (by decide +kernel) rfl rfl rfl rfl (by decide) ?_
  show PY G h0 d m_X4_init 5 34 Q 42 [some (.ref 19), some (.ref 1)] [] (w_49, 5, 34)
  refine z_aload_n (fun _ _ _ _ h => h) (k := 0) (by decide +kernel) ?_
  show PY G h0 d m_X4_init 5 34 Q 43 [some (.ref 19), some (.ref 1)] [.ref 19] (w_49, 5, 34)
  refine z_aload_n (fun _ _ _ _ h => h) (k := 1) (by decide +kernel) ?_
  show PY G h0 d m_X4_init 5 34 Q 44 [some (.ref 19), some (.ref 1)] [.ref 1, .ref 19] (w_49, 5, 34)
  refine z_putfield (fun _ _ _ _ h => h) (idx := 27) (a := 19) (ci := 4) (k := 0) (fs := [.null, .ref 20, .ref 21, .ref 22, .ref 23, .ref 24, .int 0]) (by decide +kernel) rfl rfl rfl rfl (by decide) ?_
  show PY G h0 d m_X4_init 5 34 Q 47 [some (.ref 19), some (.ref 1)] [] (w_50, 5, 34)
  exact z_return (by decide +kernel) rfl ⟨hQ, by decide, by decide⟩ rfl
set_option maxRecDepth 100000 in
theorem ct_6_X3_init {G : GG} {h0 d : Nat} {Q : Heap → Prop} (hQ : ∀ H, CW G h0 w_63 H → Q H) : PCc G h0 (d + 1) m_X3_init 5 27 [.ref 26] w_53 Q := by
  refine PCc.of mi_X3_init (Nat.le_of_ble_eq_true rfl) ?_
  show PY G h0 d m_X3_init 5 27 Q 0 [some (.ref 26)] [] (w_53, 0, 0)
  refine z_aload_n (fun _ _ _ _ h => h) (k := 0) (by decide +kernel) ?_
  show PY G h0 d m_X3_init 5 27 Q 1 [some (.ref 26)] [.ref 26] (w_53, 0, 0)
  refine z_objinit (fun _ _ _ _ h => h) (idx := 3) ol_3 (by decide +kernel) (by decide) ?_
  show PY G h0 d m_X3_init 5 27 Q 4 [some (.ref 26)] [] (w_53, 0, 0)
  refine z_aload_n (fun _ _ _ _ h => h) (k := 0) (by decide +kernel) ?_
  show PY G h0 d m_X3_init 5 27 Q 5 [some (.ref 26)] [.ref 26] (w_53, 0, 0)
  refine z_iconst (fun _ _ _ _ h => h) (n := 3) (kv := nI 3) (by decide) (by decide +kernel) ?_
  show PY G h0 d m_X3_init 5 27 Q 6 [some (.ref 26)] [.int (nI 3), .ref 26] (w_53, 0, 0)
  refine z_newarray (fun _ _ _ _ h => h) (t := 0) (n := 3) (by decide) (by decide) (by decide +kernel) (by decide +kernel) (by decide) (by decide) ?_
  show PY G h0 d m_X3_init 5 27 Q 8 [some (.ref 26)] [.ref 27, .ref 26] (w_54, 1, 3)
  refine z_putfield (fun _ _ _ _ h => h) (idx := 9) (a := 26) (ci := 3) (k := 0) (fs := [.null, .null, .null, .null, .null, .int 0, .int 0, .int 0]) (by decide +kernel) rfl rfl rfl rfl (by decide) ?_
  show PY G h0 d m_X3_init 5 27 Q 11 [some (.ref 26)] [] (w_55, 1, 3)
  refine z_aload_n (fun _ _ _ _ h => h) (k := 0) (by decide +kernel) ?_
  show PY G h0 d m_X3_init 5 27 Q 12 [some (.ref 26)] [.ref 26] (w_55, 1, 3)
  refine z_iconst (fun _ _ _ _ h => h) (n := 3) (kv := nI 3) (by decide) (by decide +kernel) ?_
  show PY G h0 d m_X3_init 5 27 Q 13 [some (.ref 26)] [.int (nI 3), .ref 26] (w_55, 1, 3)
  refine z_newarray (fun _ _ _ _ h => h) (t := 0) (n := 3) (by decide) (by decide) (by decide +kernel) (by decide +kernel) (by decide) (by decide) ?_
  show PY G h0 d m_X3_init 5 27 Q 15 [some (.ref 26)] [.ref 28, .ref 26] (w_56, 2, 6)
  refine z_putfield (fun _ _ _ _ h => h) (idx := 15) (a := 26) (ci := 3) (k := 1) (fs := [.ref 27, .null, .null, .null, .null, .int 0, .int 0, .int 0]) (by decide +kernel) rfl rfl rfl rfl (by decide) ?_
  show PY G h0 d m_X3_init 5 27 Q 18 [some (.ref 26)] [] (w_57, 2, 6)
  refine z_aload_n (fun _ _ _ _ h => h) (k := 0) (by decide +kernel) ?_
  show PY G h0 d m_X3_init 5 27 Q 19 [some (.ref 26)] [.ref 26] (w_57, 2, 6)
  refine z_bipush (fun _ _ _ _ h => h) (n := 8) (kv := nI 8) (by decide) (by decide +kernel) ?_
  show PY G h0 d m_X3_init 5 27 Q 21 [some (.ref 26)] [.int (nI 8), .ref 26] (w_57, 2, 6)
  refine z_newarray (fun _ _ _ _ h => h) (t := 0) (n := 8) (by decide) (by decide) (by decide +kernel) (by decide +kernel) (by decide) (by decide) ?_
  show PY G h0 d m_X3_init 5 27 Q 23 [some (.ref 26)] [.ref 29, .ref 26] (w_58, 3, 14)
  refine z_putfield (fun _ _ _ _ h => h) (idx := 18) (a := 26) (ci := 3) (k := 2) (fs := [.ref 27, .ref 28, .null, .null, .null, .int 0, .int 0, .int 0]) (by decide +kernel) rfl rfl rfl rfl (by decide) ?_
  show PY G h0 d m_X3_init 5 27 Q 26 [some (.ref 26)] [] (w_59, 3, 14)
  refine z_aload_n (fun _ _ _ _ h => h) (k := 0) (by decide +kernel) ?_
  show PY G h0 d m_X3_init 5 27 Q 27 [some (.ref 26)] [.ref 26] (w_59, 3, 14)
  refine z_bipush (fun _ _ _ _ h => h) (n := 8) (kv := nI 8) (by decide) (by decide +kernel) ?_
  show PY G h0 d m_X3_init 5 27 Q 29 [some (.ref 26)] [.int (nI 8), .ref 26] (w_59, 3, 14)
  refine z_newarray (fun _ _ _ _ h => h) (t := 0) (n := 8) (by decide) (by decide) (by decide +kernel) (by decide +kernel) (by decide) (by decide) ?_
  show PY G h0 d m_X3_init 5 27 Q 31 [some (.ref 26)] [.ref 30, .ref 26] (w_60, 4, 22)
  refine z_putfield (fun _ _ _ _ h => h) (idx := 21) (a := 26) (ci := 3) (k := 3) (fs := [.ref 27, .ref 28, .ref 29, .null, .null, .int 0, .int 0, .int 0]) (by decide +kernel) rfl rfl rfl rfl (by decide) ?_
  show PY G h0 d m_X3_init 5 27 Q 34 [some (.ref 26)] [] (w_61, 4, 22)
  refine z_aload_n (fun _ _ _ _ h => h) (k := 0) (by decide +kernel) ?_
  show PY G h0 d m_X3_init 5 27 Q 35 [some (.ref 26)] [.ref 26] (w_61, 4, 22)
  refine z_iconst (fun _ _ _ _ h => h) (n := 5) (kv := nI 5) (by decide) (by decide +kernel) ?_
  show PY G h0 d m_X3_init 5 27 Q 36 [some (.ref 26)] [.int (nI 5), .ref 26] (w_61, 4, 22)
  refine z_newarray (fun _ _ _ _ h => h) (t := 0) (n := 5) (by decide) (by decide) (by decide +kernel) (by decide +kernel) (by decide) (by decide) ?_
  show PY G h0 d m_X3_init 5 27 Q 38 [some (.ref 26)] [.ref 31, .ref 26] (w_62, 5, 27)
  refine z_putfield (fun _ _ _ _ h => h) (idx := 24) (a := 26) (ci := 3) (k := 4) (fs := [.ref 27, .ref 28, .ref 29, .ref 30, .null, .int 0, .int 0, .int 0]) (by decide +kernel) rfl rfl rfl rfl (by decide) ?_
  show PY G h0 d m_X3_init 5 27 Q 41 [some (.ref 26)] [] (w_63, 5, 27)
  exact z_return (by decide +kernel) rfl ⟨hQ, by decide, by decide⟩ rfl
set_option maxRecDepth 100000 in
theorem ct_5_X6_init {G : GG} {h0 d : Nat} {Q : Heap → Prop} (hQ : ∀ H, CW G h0 w_66 H → Q H) : PCc G h0 (d + 2) m_X6_init 7 335 [.ref 25] w_52 Q := by
  refine PCc.of mi_X6_init (Nat.le_of_ble_eq_true rfl) ?_
  show PY G h0 (d + 1) m_X6_init 7 335 Q 0 [some (.ref 25)] [] (w_52, 0, 0)
  refine z_aload_n (fun _ _ _ _ h => h) (k := 0) (by decide +kernel) ?_
  show PY G h0 (d + 1) m_X6_init 7 335 Q 1 [some (.ref 25)] [.ref 25] (w_52, 0, 0)
  refine z_objinit (fun _ _ _ _ h => h) (idx := 3) ol_6 (by decide +kernel) (by decide) ?_
  show PY G h0 (d + 1) m_X6_init 7 335 Q 4 [some (.ref 25)] [] (w_52, 0, 0)
  refine z_aload_n (fun _ _ _ _ h => h) (k := 0) (by decide +kernel) ?_
  show PY G h0 (d + 1) m_X6_init 7 335 Q 5 [some (.ref 25)] [.ref 25] (w_52, 0, 0)
  refine z_new (fun _ _ _ _ h => h) (idx := 9) (ci := 3) (by decide) cl_6_9 in_3 ini_3 (by decide +kernel) (by decide +kernel) (by decide) (by decide) ?_
  show PY G h0 (d + 1) m_X6_init 7 335 Q 8 [some (.ref 25)] [.ref 26, .ref 25] (w_53, 1, 8)
  refine z_dup (fun _ _ _ _ h => h) (by decide +kernel) ?_
  show PY G h0 (d + 1) m_X6_init 7 335 Q 9 [some (.ref 25)] [.ref 26, .ref 26, .ref 25] (w_53, 1, 8)
  refine z_init (fun _ _ _ _ h => h) (idx := 11) (a := 26) (av := []) (mc2 := 5) (ms2 := 27) (ws1 := w_63) (Or.inr (List.mem_of_getElem? (i := 2) rfl)) (by decide +kernel) rfl (by decide) (by decide) (by decide) (ct_6_X3_init (fun _ h => h)) ?_
  show PY G h0 (d + 1) m_X6_init 7 335 Q 12 [some (.ref 25)] [.ref 26, .ref 25] (w_63, 6, 35)
  refine z_putfield (fun _ _ _ _ h => h) (idx := 12) (a := 25) (ci := 6) (k := 0) (fs := [.null, .null, .int 0, .int 0, .int 0, .int 0, .int 0]) (by decide +kernel) rfl rfl rfl rfl (by decide) ?_
  show PY G h0 (d + 1) m_X6_init 7 335 Q 15 [some (.ref 25)] [] (w_64, 6, 35)
  refine z_aload_n (fun _ _ _ _ h => h) (k := 0) (by decide +kernel) ?_
  show PY G h0 (d + 1) m_X6_init 7 335 Q 16 [some (.ref 25)] [.ref 25] (w_64, 6, 35)
  refine z_sipush (fun _ _ _ _ h => h) (n := 300) (kv := nI 300) (by decide) (by decide +kernel) ?_
  show PY G h0 (d + 1) m_X6_init 7 335 Q 19 [some (.ref 25)] [.int (nI 300), .ref 25] (w_64, 6, 35)
  refine z_newarray (fun _ _ _ _ h => h) (t := 0) (n := 300) (by decide) (by decide) (by decide +kernel) (by decide +kernel) (by decide) (by decide) ?_
  show PY G h0 (d + 1) m_X6_init 7 335 Q 21 [some (.ref 25)] [.ref 32, .ref 25] (w_65, 7, 335)
  refine z_putfield (fun _ _ _ _ h => h) (idx := 18) (a := 25) (ci := 6) (k := 1) (fs := [.ref 26, .null, .int 0, .int 0, .int 0, .int 0, .int 0]) (by decide +kernel) rfl rfl rfl rfl (by decide) ?_
  show PY G h0 (d + 1) m_X6_init 7 335 Q 24 [some (.ref 25)] [] (w_66, 7, 335)
  exact z_return (by decide +kernel) rfl ⟨hQ, by decide, by decide⟩ rfl
set_option maxRecDepth 100000 in
theorem ct_7_X5_init {G : GG} {h0 d : Nat} {Q : Heap → Prop} (hQ : ∀ H, CW G h0 w_78 H → Q H) : PCc G h0 (d + 1) m_X5_init 5 41 [.ref 33] w_68 Q := by
  refine PCc.of mi_X5_init (Nat.le_of_ble_eq_true rfl) ?_
  show PY G h0 d m_X5_init 5 41 Q 0 [some (.ref 33)] [] (w_68, 0, 0)
  refine z_aload_n (fun _ _ _ _ h => h) (k := 0) (by decide +kernel) ?_
  show PY G h0 d m_X5_init 5 41 Q 1 [some (.ref 33)] [.ref 33] (w_68, 0, 0)
  refine z_objinit (fun _ _ _ _ h => h) (idx := 3) ol_5 (by decide +kernel) (by decide) ?_
  show PY G h0 d m_X5_init 5 41 Q 4 [some (.ref 33)] [] (w_68, 0, 0)
  refine z_aload_n (fun _ _ _ _ h => h) (k := 0) (by decide +kernel) ?_
  show PY G h0 d m_X5_init 5 41 Q 5 [some (.ref 33)] [.ref 33] (w_68, 0, 0)
  refine z_bipush (fun _ _ _ _ h => h) (n := 8) (kv := nI 8) (by decide) (by decide +kernel) ?_
  show PY G h0 d m_X5_init 5 41 Q 7 [some (.ref 33)] [.int (nI 8), .ref 33] (w_68, 0, 0)
  refine z_newarray (fun _ _ _ _ h => h) (t := 0) (n := 8) (by decide) (by decide) (by decide +kernel) (by decide +kernel) (by decide) (by decide) ?_
  show PY G h0 d m_X5_init 5 41 Q 9 [some (.ref 33)] [.ref 34, .ref 33] (w_69, 1, 8)
  refine z_putfield (fun _ _ _ _ h => h) (idx := 9) (a := 33) (ci := 5) (k := 0) (fs := [.null, .null, .null, .null, .null, .int 0, .int 0, .int 0, .int 0, .int 0]) (by decide +kernel) rfl rfl rfl rfl (by decide) ?_
  show PY G h0 d m_X5_init 5 41 Q 12 [some (.ref 33)] [] (w_70, 1, 8)
  refine z_aload_n (fun _ _ _ _ h => h) (k := 0) (by decide +kernel) ?_
  show PY G h0 d m_X5_init 5 41 Q 13 [some (.ref 33)] [.ref 33] (w_70, 1, 8)
  refine z_bipush (fun _ _ _ _ h => h) (n := 8) (kv := nI 8) (by decide) (by decide +kernel) ?_
  show PY G h0 d m_X5_init 5 41 Q 15 [some (.ref 33)] [.int (nI 8), .ref 33] (w_70, 1, 8)
  refine z_newarray (fun _ _ _ _ h => h) (t := 0) (n := 8) (by decide) (by decide) (by decide +kernel) (by decide +kernel) (by decide) (by decide) ?_
  show PY G h0 d m_X5_init 5 41 Q 17 [some (.ref 33)] [.ref 35, .ref 33] (w_71, 2, 16)
  refine z_putfield (fun _ _ _ _ h => h) (idx := 15) (a := 33) (ci := 5) (k := 1) (fs := [.ref 34, .null, .null, .null, .null, .int 0, .int 0, .int 0, .int 0, .int 0]) (by decide +kernel) rfl rfl rfl rfl (by decide) ?_
  show PY G h0 d m_X5_init 5 41 Q 20 [some (.ref 33)] [] (w_72, 2, 16)
  refine z_aload_n (fun _ _ _ _ h => h) (k := 0) (by decide +kernel) ?_
  show PY G h0 d m_X5_init 5 41 Q 21 [some (.ref 33)] [.ref 33] (w_72, 2, 16)
  refine z_bipush (fun _ _ _ _ h => h) (n := 8) (kv := nI 8) (by decide) (by decide +kernel) ?_
  show PY G h0 d m_X5_init 5 41 Q 23 [some (.ref 33)] [.int (nI 8), .ref 33] (w_72, 2, 16)
  refine z_newarray (fun _ _ _ _ h => h) (t := 0) (n := 8) (by decide) (by decide) (by decide +kernel) (by decide +kernel) (by decide) (by decide) ?_
  show PY G h0 d m_X5_init 5 41 Q 25 [some (.ref 33)] [.ref 36, .ref 33] (w_73, 3, 24)
  refine z_putfield (fun _ _ _ _ h => h) (idx := 18) (a := 33) (ci := 5) (k := 2) (fs := [.ref 34, .ref 35, .null, .null, .null, .int 0, .int 0, .int 0, .int 0, .int 0]) (by decide +kernel) rfl rfl rfl rfl (by decide) ?_
  show PY G h0 d m_X5_init 5 41 Q 28 [some (.ref 33)] [] (w_74, 3, 24)
  refine z_aload_n (fun _ _ _ _ h => h) (k := 0) (by decide +kernel) ?_
  show PY G h0 d m_X5_init 5 41 Q 29 [some (.ref 33)] [.ref 33] (w_74, 3, 24)
  refine z_bipush (fun _ _ _ _ h => h) (n := 8) (kv := nI 8) (by decide) (by decide +kernel) ?_
  show PY G h0 d m_X5_init 5 41 Q 31 [some (.ref 33)] [.int (nI 8), .ref 33] (w_74, 3, 24)
  refine z_newarray (fun _ _ _ _ h => h) (t := 0) (n := 8) (by decide) (by decide) (by decide +kernel) (by decide +kernel) (by decide) (by decide) ?_
  show PY G h0 d m_X5_init 5 41 Q 33 [some (.ref 33)] [.ref 37, .ref 33] (w_75, 4, 32)
  refine z_putfield (fun _ _ _ _ h => h) (idx := 21) (a := 33) (ci := 5) (k := 3) (fs := [.ref 34, .ref 35, .ref 36, .null, .null, .int 0, .int 0, .int 0, .int 0, .int 0]) (by decide +kernel) rfl rfl rfl rfl (by decide) ?_
  show PY G h0 d m_X5_init 5 41 Q 36 [some (.ref 33)] [] (w_76, 4, 32)
  refine z_aload_n (fun _ _ _ _ h => h) (k := 0) (by decide +kernel) ?_
  show PY G h0 d m_X5_init 5 41 Q 37 [some (.ref 33)] [.ref 33] (w_76, 4, 32)
  refine z_bipush (fun _ _ _ _ h => h) (n := 9) (kv := nI 9) (by decide) (by decide +kernel) ?_
  show PY G h0 d m_X5_init 5 41 Q 39 [some (.ref 33)] [.int (nI 9), .ref 33] (w_76, 4, 32)
  refine z_newarray (fun _ _ _ _ h => h) (t := 0) (n := 9) (by decide) (by decide) (by decide +kernel) (by decide +kernel) (by decide) (by decide) ?_
  show PY G h0 d m_X5_init 5 41 Q 41 [some (.ref 33)] [.ref 38, .ref 33] (w_77, 5, 41)
  refine z_putfield (fun _ _ _ _ h => h) (idx := 24) (a := 33) (ci := 5) (k := 4) (fs := [.ref 34, .ref 35, .ref 36, .ref 37, .null, .int 0, .int 0, .int 0, .int 0, .int 0]) (by decide +kernel) rfl rfl rfl rfl (by decide) ?_
  show PY G h0 d m_X5_init 5 41 Q 44 [some (.ref 33)] [] (w_78, 5, 41)
  exact z_return (by decide +kernel) rfl ⟨hQ, by decide, by decide⟩ rfl
set_option maxRecDepth 100000 in
theorem ct_8_X1_init {G : GG} {h0 d : Nat} {Q : Heap → Prop} (hQ : ∀ H, CW G h0 w_82 H → Q H) : PCc G h0 (d + 1) m_X1_init 1 4864 [.ref 39] w_80 Q := by
  refine PCc.of mi_X1_init (Nat.le_of_ble_eq_true rfl) ?_
  show PY G h0 d m_X1_init 1 4864 Q 0 [some (.ref 39)] [] (w_80, 0, 0)
  refine z_aload_n (fun _ _ _ _ h => h) (k := 0) (by decide +kernel) ?_
  show PY G h0 d m_X1_init 1 4864 Q 1 [some (.ref 39)] [.ref 39] (w_80, 0, 0)
  refine z_objinit (fun _ _ _ _ h => h) (idx := 5) ol_1 (by decide +kernel) (by decide) ?_
  show PY G h0 d m_X1_init 1 4864 Q 4 [some (.ref 39)] [] (w_80, 0, 0)
  refine z_aload_n (fun _ _ _ _ h => h) (k := 0) (by decide +kernel) ?_
  show PY G h0 d m_X1_init 1 4864 Q 5 [some (.ref 39)] [.ref 39] (w_80, 0, 0)
  refine z_sipush (fun _ _ _ _ h => h) (n := 4864) (kv := nI 4864) (by decide) (by decide +kernel) ?_
  show PY G h0 d m_X1_init 1 4864 Q 8 [some (.ref 39)] [.int (nI 4864), .ref 39] (w_80, 0, 0)
  refine z_newarray (fun _ _ _ _ h => h) (t := 2) (n := 4864) (by decide) (by decide) (by decide +kernel) (by decide +kernel) (by decide) (by decide) ?_
  show PY G h0 d m_X1_init 1 4864 Q 10 [some (.ref 39)] [.ref 40, .ref 39] (w_81, 1, 4864)
  refine z_putfield (fun _ _ _ _ h => h) (idx := 11) (a := 39) (ci := 1) (k := 0) (fs := [.null]) (by decide +kernel) rfl rfl rfl rfl (by decide) ?_
  show PY G h0 d m_X1_init 1 4864 Q 13 [some (.ref 39)] [] (w_82, 1, 4864)
  exact z_return (by decide +kernel) rfl ⟨hQ, by decide, by decide⟩ rfl
set_option maxRecDepth 100000 in
theorem ct_9_X0_init {G : GG} {h0 d : Nat} {Q : Heap → Prop} (hQ : ∀ H, CW G h0 w_88 H → Q H) : PCc G h0 (d + 1) m_X0_init 2 16 [.ref 41] w_84 Q := by
  refine PCc.of mi_X0_init (Nat.le_of_ble_eq_true rfl) ?_
  show PY G h0 d m_X0_init 2 16 Q 0 [some (.ref 41)] [] (w_84, 0, 0)
  refine z_aload_n (fun _ _ _ _ h => h) (k := 0) (by decide +kernel) ?_
  show PY G h0 d m_X0_init 2 16 Q 1 [some (.ref 41)] [.ref 41] (w_84, 0, 0)
  refine z_objinit (fun _ _ _ _ h => h) (idx := 3) ol_0 (by decide +kernel) (by decide) ?_
  show PY G h0 d m_X0_init 2 16 Q 4 [some (.ref 41)] [] (w_84, 0, 0)
  refine z_aload_n (fun _ _ _ _ h => h) (k := 0) (by decide +kernel) ?_
  show PY G h0 d m_X0_init 2 16 Q 5 [some (.ref 41)] [.ref 41] (w_84, 0, 0)
  refine z_bipush (fun _ _ _ _ h => h) (n := 8) (kv := nI 8) (by decide) (by decide +kernel) ?_
  show PY G h0 d m_X0_init 2 16 Q 7 [some (.ref 41)] [.int (nI 8), .ref 41] (w_84, 0, 0)
  refine z_newarray (fun _ _ _ _ h => h) (t := 0) (n := 8) (by decide) (by decide) (by decide +kernel) (by decide +kernel) (by decide) (by decide) ?_
  show PY G h0 d m_X0_init 2 16 Q 9 [some (.ref 41)] [.ref 42, .ref 41] (w_85, 1, 8)
  refine z_putfield (fun _ _ _ _ h => h) (idx := 9) (a := 41) (ci := 0) (k := 0) (fs := [.null, .null, .int 0, .int 0, .int 0]) (by decide +kernel) rfl rfl rfl rfl (by decide) ?_
  show PY G h0 d m_X0_init 2 16 Q 12 [some (.ref 41)] [] (w_86, 1, 8)
  refine z_aload_n (fun _ _ _ _ h => h) (k := 0) (by decide +kernel) ?_
  show PY G h0 d m_X0_init 2 16 Q 13 [some (.ref 41)] [.ref 41] (w_86, 1, 8)
  refine z_bipush (fun _ _ _ _ h => h) (n := 8) (kv := nI 8) (by decide) (by decide +kernel) ?_
  show PY G h0 d m_X0_init 2 16 Q 15 [some (.ref 41)] [.int (nI 8), .ref 41] (w_86, 1, 8)
  refine z_newarray (fun _ _ _ _ h => h) (t := 0) (n := 8) (by decide) (by decide) (by decide +kernel) (by decide +kernel) (by decide) (by decide) ?_
  show PY G h0 d m_X0_init 2 16 Q 17 [some (.ref 41)] [.ref 43, .ref 41] (w_87, 2, 16)
  refine z_putfield (fun _ _ _ _ h => h) (idx := 15) (a := 41) (ci := 0) (k := 1) (fs := [.ref 42, .null, .int 0, .int 0, .int 0]) (by decide +kernel) rfl rfl rfl rfl (by decide) ?_
  show PY G h0 d m_X0_init 2 16 Q 20 [some (.ref 41)] [] (w_88, 2, 16)
  exact z_return (by decide +kernel) rfl ⟨hQ, by decide, by decide⟩ rfl
set_option maxRecDepth 100000 in
theorem ct_10_X7_init {G : GG} {h0 d : Nat} {Q : Heap → Prop} (hQ : ∀ H, CW G h0 w_103 H → Q H) : PCc G h0 (d + 1) m_X7_init 6 151 [.ref 44] w_90 Q := by
  refine PCc.of mi_X7_init (Nat.le_of_ble_eq_true rfl) ?_
  show PY G h0 d m_X7_init 6 151 Q 0 [some (.ref 44)] [] (w_90, 0, 0)
  refine z_aload_n (fun _ _ _ _ h => h) (k := 0) (by decide +kernel) ?_
  show PY G h0 d m_X7_init 6 151 Q 1 [some (.ref 44)] [.ref 44] (w_90, 0, 0)
  refine z_objinit (fun _ _ _ _ h => h) (idx := 1) ol_7 (by decide +kernel) (by decide) ?_
  show PY G h0 d m_X7_init 6 151 Q 4 [some (.ref 44)] [] (w_90, 0, 0)
  refine z_aload_n (fun _ _ _ _ h => h) (k := 0) (by decide +kernel) ?_
  show PY G h0 d m_X7_init 6 151 Q 5 [some (.ref 44)] [.ref 44] (w_90, 0, 0)
  refine z_bipush (fun _ _ _ _ h => h) (n := 12) (kv := nI 12) (by decide) (by decide +kernel) ?_
  show PY G h0 d m_X7_init 6 151 Q 7 [some (.ref 44)] [.int (nI 12), .ref 44] (w_90, 0, 0)
  refine z_newarray (fun _ _ _ _ h => h) (t := 0) (n := 12) (by decide) (by decide) (by decide +kernel) (by decide +kernel) (by decide) (by decide) ?_
  show PY G h0 d m_X7_init 6 151 Q 9 [some (.ref 44)] [.ref 45, .ref 44] (w_91, 1, 12)
  refine z_putfield (fun _ _ _ _ h => h) (idx := 9) (a := 44) (ci := 7) (k := 0) (fs := [.null, .null, .null, .null, .null, .null, .int 0, .int 0, .int 0, .int 0]) (by decide +kernel) rfl rfl rfl rfl (by decide) ?_
  show PY G h0 d m_X7_init 6 151 Q 12 [some (.ref 44)] [] (w_92, 1, 12)
  refine z_aload_n (fun _ _ _ _ h => h) (k := 0) (by decide +kernel) ?_
  show PY G h0 d m_X7_init 6 151 Q 13 [some (.ref 44)] [.ref 44] (w_92, 1, 12)
  refine z_bipush (fun _ _ _ _ h => h) (n := 12) (kv := nI 12) (by decide) (by decide +kernel) ?_
  show PY G h0 d m_X7_init 6 151 Q 15 [some (.ref 44)] [.int (nI 12), .ref 44] (w_92, 1, 12)
  refine z_newarray (fun _ _ _ _ h => h) (t := 0) (n := 12) (by decide) (by decide) (by decide +kernel) (by decide +kernel) (by decide) (by decide) ?_
  show PY G h0 d m_X7_init 6 151 Q 17 [some (.ref 44)] [.ref 46, .ref 44] (w_93, 2, 24)
  refine z_putfield (fun _ _ _ _ h => h) (idx := 13) (a := 44) (ci := 7) (k := 1) (fs := [.ref 45, .null, .null, .null, .null, .null, .int 0, .int 0, .int 0, .int 0]) (by decide +kernel) rfl rfl rfl rfl (by decide) ?_
  show PY G h0 d m_X7_init 6 151 Q 20 [some (.ref 44)] [] (w_94, 2, 24)
  refine z_aload_n (fun _ _ _ _ h => h) (k := 0) (by decide +kernel) ?_
  show PY G h0 d m_X7_init 6 151 Q 21 [some (.ref 44)] [.ref 44] (w_94, 2, 24)
  refine z_bipush (fun _ _ _ _ h => h) (n := 12) (kv := nI 12) (by decide) (by decide +kernel) ?_
  show PY G h0 d m_X7_init 6 151 Q 23 [some (.ref 44)] [.int (nI 12), .ref 44] (w_94, 2, 24)
  refine z_newarray (fun _ _ _ _ h => h) (t := 0) (n := 12) (by decide) (by decide) (by decide +kernel) (by decide +kernel) (by decide) (by decide) ?_
  show PY G h0 d m_X7_init 6 151 Q 25 [some (.ref 44)] [.ref 47, .ref 44] (w_95, 3, 36)
  refine z_putfield (fun _ _ _ _ h => h) (idx := 16) (a := 44) (ci := 7) (k := 2) (fs := [.ref 45, .ref 46, .null, .null, .null, .null, .int 0, .int 0, .int 0, .int 0]) (by decide +kernel) rfl rfl rfl rfl (by decide) ?_
  show PY G h0 d m_X7_init 6 151 Q 28 [some (.ref 44)] [] (w_96, 3, 36)
  refine z_aload_n (fun _ _ _ _ h => h) (k := 0) (by decide +kernel) ?_
  show PY G h0 d m_X7_init 6 151 Q 29 [some (.ref 44)] [.ref 44] (w_96, 3, 36)
  refine z_iconst (fun _ _ _ _ h => h) (n := 5) (kv := nI 5) (by decide) (by decide +kernel) ?_
  show PY G h0 d m_X7_init 6 151 Q 30 [some (.ref 44)] [.int (nI 5), .ref 44] (w_96, 3, 36)
  refine z_newarray (fun _ _ _ _ h => h) (t := 0) (n := 5) (by decide) (by decide) (by decide +kernel) (by decide +kernel) (by decide) (by decide) ?_
  show PY G h0 d m_X7_init 6 151 Q 32 [some (.ref 44)] [.ref 48, .ref 44] (w_97, 4, 41)
  refine z_putfield (fun _ _ _ _ h => h) (idx := 19) (a := 44) (ci := 7) (k := 3) (fs := [.ref 45, .ref 46, .ref 47, .null, .null, .null, .int 0, .int 0, .int 0, .int 0]) (by decide +kernel) rfl rfl rfl rfl (by decide) ?_
  show PY G h0 d m_X7_init 6 151 Q 35 [some (.ref 44)] [] (w_98, 4, 41)
  refine z_aload_n (fun _ _ _ _ h => h) (k := 0) (by decide +kernel) ?_
  show PY G h0 d m_X7_init 6 151 Q 36 [some (.ref 44)] [.ref 44] (w_98, 4, 41)
  refine z_bipush (fun _ _ _ _ h => h) (n := 35) (kv := nI 35) (by decide) (by decide +kernel) ?_
  show PY G h0 d m_X7_init 6 151 Q 38 [some (.ref 44)] [.int (nI 35), .ref 44] (w_98, 4, 41)
  refine z_newarray (fun _ _ _ _ h => h) (t := 0) (n := 35) (by decide) (by decide) (by decide +kernel) (by decide +kernel) (by decide) (by decide) ?_
  show PY G h0 d m_X7_init 6 151 Q 40 [some (.ref 44)] [.ref 49, .ref 44] (w_99, 5, 76)
  refine z_putfield (fun _ _ _ _ h => h) (idx := 22) (a := 44) (ci := 7) (k := 4) (fs := [.ref 45, .ref 46, .ref 47, .ref 48, .null, .null, .int 0, .int 0, .int 0, .int 0]) (by decide +kernel) rfl rfl rfl rfl (by decide) ?_
  show PY G h0 d m_X7_init 6 151 Q 43 [some (.ref 44)] [] (w_100, 5, 76)
  refine z_aload_n (fun _ _ _ _ h => h) (k := 0) (by decide +kernel) ?_
  show PY G h0 d m_X7_init 6 151 Q 44 [some (.ref 44)] [.ref 44] (w_100, 5, 76)
  refine z_bipush (fun _ _ _ _ h => h) (n := 75) (kv := nI 75) (by decide) (by decide +kernel) ?_
  show PY G h0 d m_X7_init 6 151 Q 46 [some (.ref 44)] [.int (nI 75), .ref 44] (w_100, 5, 76)
  refine z_newarray (fun _ _ _ _ h => h) (t := 0) (n := 75) (by decide) (by decide) (by decide +kernel) (by decide +kernel) (by decide) (by decide) ?_
  show PY G h0 d m_X7_init 6 151 Q 48 [some (.ref 44)] [.ref 50, .ref 44] (w_101, 6, 151)
  refine z_putfield (fun _ _ _ _ h => h) (idx := 25) (a := 44) (ci := 7) (k := 5) (fs := [.ref 45, .ref 46, .ref 47, .ref 48, .ref 49, .null, .int 0, .int 0, .int 0, .int 0]) (by decide +kernel) rfl rfl rfl rfl (by decide) ?_
  show PY G h0 d m_X7_init 6 151 Q 51 [some (.ref 44)] [] (w_102, 6, 151)
  refine z_aload_n (fun _ _ _ _ h => h) (k := 0) (by decide +kernel) ?_
  show PY G h0 d m_X7_init 6 151 Q 52 [some (.ref 44)] [.ref 44] (w_102, 6, 151)
  refine z_iconst (fun _ _ _ _ h => h) (n := 2) (kv := nI 2) (by decide) (by decide +kernel) ?_
  show PY G h0 d m_X7_init 6 151 Q 53 [some (.ref 44)] [.int (nI 2), .ref 44] (w_102, 6, 151)
  refine z_putfield (fun _ _ _ _ h => h) (idx := 28) (a := 44) (ci := 7) (k := 6) (fs := [.ref 45, .ref 46, .ref 47, .ref 48, .ref 49, .ref 50, .int 0, .int 0, .int 0, .int 0]) (by decide +kernel) rfl rfl rfl rfl (by decide) ?_
  show PY G h0 d m_X7_init 6 151 Q 56 [some (.ref 44)] [] (w_103, 6, 151)
  exact z_return (by decide +kernel) rfl ⟨hQ, by decide, by decide⟩ rfl
set_option maxRecDepth 100000 in
theorem ct_11_X2_init {G : GG} {h0 d : Nat} {Q : Heap → Prop} (hQ : ∀ H, CW G h0 w_114 H → Q H) : PCc G h0 (d + 1) m_X2_init 4 22 [.ref 51, .ref 1] w_105 Q := by
  refine PCc.of mi_X2_init (Nat.le_of_ble_eq_true rfl) ?_
  show PY G h0 d m_X2_init 4 22 Q 0 [some (.ref 51), some (.ref 1)] [] (w_105, 0, 0)
  refine z_aload_n (fun _ _ _ _ h => h) (k := 0) (by decide +kernel) ?_
  show PY G h0 d m_X2_init 4 22 Q 1 [some (.ref 51), some (.ref 1)] [.ref 51] (w_105, 0, 0)
  refine z_objinit (fun _ _ _ _ h => h) (idx := 3) ol_2 (by decide +kernel) (by decide) ?_
  show PY G h0 d m_X2_init 4 22 Q 4 [some (.ref 51), some (.ref 1)] [] (w_105, 0, 0)
  refine z_aload_n (fun _ _ _ _ h => h) (k := 0) (by decide +kernel) ?_
  show PY G h0 d m_X2_init 4 22 Q 5 [some (.ref 51), some (.ref 1)] [.ref 51] (w_105, 0, 0)
  refine z_bipush (fun _ _ _ _ h => h) (n := 8) (kv := nI 8) (by decide) (by decide +kernel) ?_
  show PY G h0 d m_X2_init 4 22 Q 7 [some (.ref 51), some (.ref 1)] [.int (nI 8), .ref 51] (w_105, 0, 0)
  refine z_newarray (fun _ _ _ _ h => h) (t := 0) (n := 8) (by decide) (by decide) (by decide +kernel) (by decide +kernel) (by decide) (by decide) ?_
  show PY G h0 d m_X2_init 4 22 Q 9 [some (.ref 51), some (.ref 1)] [.ref 52, .ref 51] (w_106, 1, 8)
  refine z_putfield (fun _ _ _ _ h => h) (idx := 9) (a := 51) (ci := 2) (k := 1) (fs := [.null, .null, .null, .null, .null, .int 0]) (by decide +kernel) rfl rfl rfl rfl (by decide) ?_
  show PY G h0 d m_X2_init 4 22 Q 12 [some (.ref 51), some (.ref 1)] [] (w_107, 1, 8)
  refine z_aload_n (fun _ _ _ _ h => h) (k := 0) (by decide +kernel) ?_
  show PY G h0 d m_X2_init 4 22 Q 13 [some (.ref 51), some (.ref 1)] [.ref 51] (w_107, 1, 8)
  refine z_bipush (fun _ _ _ _ h => h) (n := 8) (kv := nI 8) (by decide) (by decide +kernel) ?_
  show PY G h0 d m_X2_init 4 22 Q 15 [some (.ref 51), some (.ref 1)] [.int (nI 8), .ref 51] (w_107, 1, 8)
  refine z_newarray (fun _ _ _ _ h => h) (t := 0) (n := 8) (by decide) (by decide) (by decide +kernel) (by decide +kernel) (by decide) (by decide) ?_
  show PY G h0 d m_X2_init 4 22 Q 17 [some (.ref 51), some (.ref 1)] [.ref 53, .ref 51] (w_108, 2, 16)
  refine z_putfield (fun _ _ _ _ h => h) (idx := 15) (a := 51) (ci := 2) (k := 2) (fs := [.null, .ref 52, .null, .null, .null, .int 0]) (by decide +kernel) rfl rfl rfl rfl (by decide) ?_
  show PY G h0 d m_X2_init 4 22 Q 20 [some (.ref 51), some (.ref 1)] [] (w_109, 2, 16)
  refine z_aload_n (fun _ _ _ _ h => h) (k := 0) (by decide +kernel) ?_
  show PY G h0 d m_X2_init 4 22 Q 21 [some (.ref 51), some (.ref 1)] [.ref 51] (w_109, 2, 16)
  refine z_iconst (fun _ _ _ _ h => h) (n := 3) (kv := nI 3) (by decide) (by decide +kernel) ?_
  show PY G h0 d m_X2_init 4 22 Q 22 [some (.ref 51), some (.ref 1)] [.int (nI 3), .ref 51] (w_109, 2, 16)
  refine z_newarray (fun _ _ _ _ h => h) (t := 0) (n := 3) (by decide) (by decide) (by decide +kernel) (by decide +kernel) (by decide) (by decide) ?_
  show PY G h0 d m_X2_init 4 22 Q 24 [some (.ref 51), some (.ref 1)] [.ref 54, .ref 51] (w_110, 3, 19)
  refine z_putfield (fun _ _ _ _ h => h) (idx := 18) (a := 51) (ci := 2) (k := 3) (fs := [.null, .ref 52, .ref 53, .null, .null, .int 0]) (by decide +kernel) rfl rfl rfl rfl (by decide) ?_
  show PY G h0 d m_X2_init 4 22 Q 27 [some (.ref 51), some (.ref 1)] [] (w_111, 3, 19)
  refine z_aload_n (fun _ _ _ _ h => h) (k := 0) (by decide +kernel) ?_
  show PY G h0 d m_X2_init 4 22 Q 28 [some (.ref 51), some (.ref 1)] [.ref 51] (w_111, 3, 19)
  refine z_iconst (fun _ _ _ _ h => h) (n := 3) (kv := nI 3) (by decide) (by decide +kernel) ?_
  show PY G h0 d m_X2_init 4 22 Q 29 [some (.ref 51), some (.ref 1)] [.int (nI 3), .ref 51] (w_111, 3, 19)
  refine z_newarray (fun _ _ _ _ h => h) (t := 0) (n := 3) (by decide) (by decide) (by decide +kernel) (by decide +kernel) (by decide) (by decide) ?_
  show PY G h0 d m_X2_init 4 22 Q 31 [some (.ref 51), some (.ref 1)] [.ref 55, .ref 51] (w_112, 4, 22)
  refine z_putfield (fun _ _ _ _ h => h) (idx := 21) (a := 51) (ci := 2) (k := 4) (fs := [.null, .ref 52, .ref 53, .ref 54, .null, .int 0]) (by decide +kernel) rfl rfl rfl rfl (by decide) ?_
  show PY G h0 d m_X2_init 4 22 Q 34 [some (.ref 51), some (.ref 1)] [] (w_113, 4, 22)
  refine z_aload_n (fun _ _ _ _ h => h) (k := 0) (by decide +kernel) ?_
  show PY G h0 d m_X2_init 4 22 Q 35 [some (.ref 51), some (.ref 1)] [.ref 51] (w_113, 4, 22)
  refine z_aload_n (fun _ _ _ _ h => h) (k := 1) (by decide +kernel) ?_
  show PY G h0 d m_X2_init 4 22 Q 36 [some (.ref 51), some (.ref 1)] [.ref 1, .ref 51] (w_113, 4, 22)
  refine z_putfield (fun _ _ _ _ h => h) (idx := 24) (a := 51) (ci := 2) (k := 0) (fs := [.null, .ref 52, .ref 53, .ref 54, .ref 55, .int 0]) (by decide +kernel) rfl rfl rfl rfl (by decide) ?_
  show PY G h0 d m_X2_init 4 22 Q 39 [some (.ref 51), some (.ref 1)] [] (w_114, 4, 22)
  exact z_return (by decide +kernel) rfl ⟨hQ, by decide, by decide⟩ rfl
set_option maxRecDepth 100000 in
theorem ct_0_X8_init {G : GG} {h0 d : Nat} {Q : Heap → Prop} (hQ : ∀ H, CW G h0 w_116 H → Q H) : PCc G h0 (d + 3) m_X8_init 55 5626 [.ref 0] w_0 Q := by
  refine PCc.of mi_X8_init (Nat.le_of_ble_eq_true rfl) ?_
  show PY G h0 (d + 2) m_X8_init 55 5626 Q 0 [some (.ref 0)] [] (w_0, 0, 0)
  refine z_aload_n (fun _ _ _ _ h => h) (k := 0) (by decide +kernel) ?_
  show PY G h0 (d + 2) m_X8_init 55 5626 Q 1 [some (.ref 0)] [.ref 0] (w_0, 0, 0)
  refine z_objinit (fun _ _ _ _ h => h) (idx := 3) ol_8 (by decide +kernel) (by decide) ?_
  show PY G h0 (d + 2) m_X8_init 55 5626 Q 4 [some (.ref 0)] [] (w_0, 0, 0)
  refine z_aload_n (fun _ _ _ _ h => h) (k := 0) (by decide +kernel) ?_
  show PY G h0 (d + 2) m_X8_init 55 5626 Q 5 [some (.ref 0)] [.ref 0] (w_0, 0, 0)
  refine z_new (fun _ _ _ _ h => h) (idx := 9) (ci := 3) (by decide) cl_8_9 in_3 ini_3 (by decide +kernel) (by decide +kernel) (by decide) (by decide) ?_
  show PY G h0 (d + 2) m_X8_init 55 5626 Q 8 [some (.ref 0)] [.ref 1, .ref 0] (w_1, 1, 8)
  refine z_dup (fun _ _ _ _ h => h) (by decide +kernel) ?_
  show PY G h0 (d + 2) m_X8_init 55 5626 Q 9 [some (.ref 0)] [.ref 1, .ref 1, .ref 0] (w_1, 1, 8)
  refine z_init (fun _ _ _ _ h => h) (idx := 11) (a := 1) (av := []) (mc2 := 5) (ms2 := 27) (ws1 := w_11) (Or.inr (List.mem_of_getElem? (i := 0) rfl)) (by decide +kernel) rfl (by decide) (by decide) (by decide) (ct_1_X3_init (fun _ h => h)) ?_
  show PY G h0 (d + 2) m_X8_init 55 5626 Q 12 [some (.ref 0)] [.ref 1, .ref 0] (w_11, 6, 35)
  refine z_putfield (fun _ _ _ _ h => h) (idx := 12) (a := 0) (ci := 8) (k := 0) (fs := [.null, .null, .null, .null, .null, .null, .null, .null, .null, .null, .long 0]) (by decide +kernel) rfl rfl rfl rfl (by decide) ?_
  show PY G h0 (d + 2) m_X8_init 55 5626 Q 15 [some (.ref 0)] [] (w_12, 6, 35)
  refine z_aload_n (fun _ _ _ _ h => h) (k := 0) (by decide +kernel) ?_
  show PY G h0 (d + 2) m_X8_init 55 5626 Q 16 [some (.ref 0)] [.ref 0] (w_12, 6, 35)
  refine z_new (fun _ _ _ _ h => h) (idx := 16) (ci := 4) (by decide) cl_8_16 in_4 ini_4 (by decide +kernel) (by decide +kernel) (by decide) (by decide) ?_
  show PY G h0 (d + 2) m_X8_init 55 5626 Q 19 [some (.ref 0)] [.ref 7, .ref 0] (w_13, 7, 42)
  refine z_dup (fun _ _ _ _ h => h) (by decide +kernel) ?_
  show PY G h0 (d + 2) m_X8_init 55 5626 Q 20 [some (.ref 0)] [.ref 7, .ref 7, .ref 0] (w_13, 7, 42)
  refine z_aload_n (fun _ _ _ _ h => h) (k := 0) (by decide +kernel) ?_
  show PY G h0 (d + 2) m_X8_init 55 5626 Q 21 [some (.ref 0)] [.ref 0, .ref 7, .ref 7, .ref 0] (w_13, 7, 42)
  refine z_getfield (fun _ _ _ _ h => h) (idx := 12) (a := 0) (ci := 8) (k := 0) (fs := [.ref 1, .null, .null, .null, .null, .null, .null, .null, .null, .null, .long 0]) (by decide +kernel) rfl rfl rfl ?_
  show PY G h0 (d + 2) m_X8_init 55 5626 Q 24 [some (.ref 0)] [.ref 1, .ref 7, .ref 7, .ref 0] (w_13, 7, 42)
  refine z_init (fun _ _ _ _ h => h) (idx := 18) (a := 7) (av := [.ref 1]) (mc2 := 5) (ms2 := 34) (ws1 := w_24) (Or.inl pl_8_18) (by decide +kernel) rfl (by decide) (by decide) (by decide) (ct_2_X4_init (fun _ h => h)) ?_
  show PY G h0 (d + 2) m_X8_init 55 5626 Q 27 [some (.ref 0)] [.ref 7, .ref 0] (w_24, 12, 76)
  refine z_putfield (fun _ _ _ _ h => h) (idx := 21) (a := 0) (ci := 8) (k := 1) (fs := [.ref 1, .null, .null, .null, .null, .null, .null, .null, .null, .null, .long 0]) (by decide +kernel) rfl rfl rfl rfl (by decide) ?_
  show PY G h0 (d + 2) m_X8_init 55 5626 Q 30 [some (.ref 0)] [] (w_25, 12, 76)
  refine z_aload_n (fun _ _ _ _ h => h) (k := 0) (by decide +kernel) ?_
  show PY G h0 (d + 2) m_X8_init 55 5626 Q 31 [some (.ref 0)] [.ref 0] (w_25, 12, 76)
  refine z_new (fun _ _ _ _ h => h) (idx := 16) (ci := 4) (by decide) cl_8_16 in_4 ini_4 (by decide +kernel) (by decide +kernel) (by decide) (by decide) ?_
  show PY G h0 (d + 2) m_X8_init 55 5626 Q 34 [some (.ref 0)] [.ref 13, .ref 0] (w_26, 13, 83)
  refine z_dup (fun _ _ _ _ h => h) (by decide +kernel) ?_
  show PY G h0 (d + 2) m_X8_init 55 5626 Q 35 [some (.ref 0)] [.ref 13, .ref 13, .ref 0] (w_26, 13, 83)
  refine z_aload_n (fun _ _ _ _ h => h) (k := 0) (by decide +kernel) ?_
  show PY G h0 (d + 2) m_X8_init 55 5626 Q 36 [some (.ref 0)] [.ref 0, .ref 13, .ref 13, .ref 0] (w_26, 13, 83)
  refine z_getfield (fun _ _ _ _ h => h) (idx := 12) (a := 0) (ci := 8) (k := 0) (fs := [.ref 1, .ref 7, .null, .null, .null, .null, .null, .null, .null, .null, .long 0]) (by decide +kernel) rfl rfl rfl ?_
  show PY G h0 (d + 2) m_X8_init 55 5626 Q 39 [some (.ref 0)] [.ref 1, .ref 13, .ref 13, .ref 0] (w_26, 13, 83)
  refine z_init (fun _ _ _ _ h => h) (idx := 18) (a := 13) (av := [.ref 1]) (mc2 := 5) (ms2 := 34) (ws1 := w_37) (Or.inl pl_8_18) (by decide +kernel) rfl (by decide) (by decide) (by decide) (ct_3_X4_init (fun _ h => h)) ?_
  show PY G h0 (d + 2) m_X8_init 55 5626 Q 42 [some (.ref 0)] [.ref 13, .ref 0] (w_37, 18, 117)
  refine z_putfield (fun _ _ _ _ h => h) (idx := 25) (a := 0) (ci := 8) (k := 2) (fs := [.ref 1, .ref 7, .null, .null, .null, .null, .null, .null, .null, .null, .long 0]) (by decide +kernel) rfl rfl rfl rfl (by decide) ?_
  show PY G h0 (d + 2) m_X8_init 55 5626 Q 45 [some (.ref 0)] [] (w_38, 18, 117)
  refine z_aload_n (fun _ _ _ _ h => h) (k := 0) (by decide +kernel) ?_
  show PY G h0 (d + 2) m_X8_init 55 5626 Q 46 [some (.ref 0)] [.ref 0] (w_38, 18, 117)
  refine z_new (fun _ _ _ _ h => h) (idx := 16) (ci := 4) (by decide) cl_8_16 in_4 ini_4 (by decide +kernel) (by decide +kernel) (by decide) (by decide) ?_
  show PY G h0 (d + 2) m_X8_init 55 5626 Q 49 [some (.ref 0)] [.ref 19, .ref 0] (w_39, 19, 124)
  refine z_dup (fun _ _ _ _ h => h) (by decide +kernel) ?_
  show PY G h0 (d + 2) m_X8_init 55 5626 Q 50 [some (.ref 0)] [.ref 19, .ref 19, .ref 0] (w_39, 19, 124)
  refine z_aload_n (fun _ _ _ _ h => h) (k := 0) (by decide +kernel) ?_
  show PY G h0 (d + 2) m_X8_init 55 5626 Q 51 [some (.ref 0)] [.ref 0, .ref 19, .ref 19, .ref 0] (w_39, 19, 124)
  refine z_getfield (fun _ _ _ _ h => h) (idx := 12) (a := 0) (ci := 8) (k := 0) (fs := [.ref 1, .ref 7, .ref 13, .null, .null, .null, .null, .null, .null, .null, .long 0]) (by decide +kernel) rfl rfl rfl ?_
  show PY G h0 (d + 2) m_X8_init 55 5626 Q 54 [some (.ref 0)] [.ref 1, .ref 19, .ref 19, .ref 0] (w_39, 19, 124)
  refine z_init (fun _ _ _ _ h => h) (idx := 18) (a := 19) (av := [.ref 1]) (mc2 := 5) (ms2 := 34) (ws1 := w_50) (Or.inl pl_8_18) (by decide +kernel) rfl (by decide) (by decide) (by decide) (ct_4_X4_init (fun _ h => h)) ?_
  show PY G h0 (d + 2) m_X8_init 55 5626 Q 57 [some (.ref 0)] [.ref 19, .ref 0] (w_50, 24, 158)
  refine z_putfield (fun _ _ _ _ h => h) (idx := 28) (a := 0) (ci := 8) (k := 3) (fs := [.ref 1, .ref 7, .ref 13, .null, .null, .null, .null, .null, .null, .null, .long 0]) (by decide +kernel) rfl rfl rfl rfl (by decide) ?_
  show PY G h0 (d + 2) m_X8_init 55 5626 Q 60 [some (.ref 0)] [] (w_51, 24, 158)
  refine z_aload_n (fun _ _ _ _ h => h) (k := 0) (by decide +kernel) ?_
  show PY G h0 (d + 2) m_X8_init 55 5626 Q 61 [some (.ref 0)] [.ref 0] (w_51, 24, 158)
  refine z_new (fun _ _ _ _ h => h) (idx := 31) (ci := 6) (by decide) cl_8_31 in_6 ini_6 (by decide +kernel) (by decide +kernel) (by decide) (by decide) ?_
  show PY G h0 (d + 2) m_X8_init 55 5626 Q 64 [some (.ref 0)] [.ref 25, .ref 0] (w_52, 25, 165)
  refine z_dup (fun _ _ _ _ h => h) (by decide +kernel) ?_
  show PY G h0 (d + 2) m_X8_init 55 5626 Q 65 [some (.ref 0)] [.ref 25, .ref 25, .ref 0] (w_52, 25, 165)
  refine z_init (fun _ _ _ _ h => h) (idx := 33) (a := 25) (av := []) (mc2 := 7) (ms2 := 335) (ws1 := w_66) (Or.inr (List.mem_of_getElem? (i := 1) rfl)) (by decide +kernel) rfl (by decide) (by decide) (by decide) (ct_5_X6_init (fun _ h => h)) ?_
  show PY G h0 (d + 2) m_X8_init 55 5626 Q 68 [some (.ref 0)] [.ref 25, .ref 0] (w_66, 32, 500)
  refine z_putfield (fun _ _ _ _ h => h) (idx := 34) (a := 0) (ci := 8) (k := 4) (fs := [.ref 1, .ref 7, .ref 13, .ref 19, .null, .null, .null, .null, .null, .null, .long 0]) (by decide +kernel) rfl rfl rfl rfl (by decide) ?_
  show PY G h0 (d + 2) m_X8_init 55 5626 Q 71 [some (.ref 0)] [] (w_67, 32, 500)
  refine z_aload_n (fun _ _ _ _ h => h) (k := 0) (by decide +kernel) ?_
  show PY G h0 (d + 2) m_X8_init 55 5626 Q 72 [some (.ref 0)] [.ref 0] (w_67, 32, 500)
  refine z_new (fun _ _ _ _ h => h) (idx := 38) (ci := 5) (by decide) cl_8_38 in_5 ini_5 (by decide +kernel) (by decide +kernel) (by decide) (by decide) ?_
  show PY G h0 (d + 2) m_X8_init 55 5626 Q 75 [some (.ref 0)] [.ref 33, .ref 0] (w_68, 33, 510)
  refine z_dup (fun _ _ _ _ h => h) (by decide +kernel) ?_
  show PY G h0 (d + 2) m_X8_init 55 5626 Q 76 [some (.ref 0)] [.ref 33, .ref 33, .ref 0] (w_68, 33, 510)
  refine z_init (fun _ _ _ _ h => h) (idx := 40) (a := 33) (av := []) (mc2 := 5) (ms2 := 41) (ws1 := w_78) (Or.inr (List.mem_of_getElem? (i := 3) rfl)) (by decide +kernel) rfl (by decide) (by decide) (by decide) (ct_7_X5_init (fun _ h => h)) ?_
  show PY G h0 (d + 2) m_X8_init 55 5626 Q 79 [some (.ref 0)] [.ref 33, .ref 0] (w_78, 38, 551)
  refine z_putfield (fun _ _ _ _ h => h) (idx := 41) (a := 0) (ci := 8) (k := 5) (fs := [.ref 1, .ref 7, .ref 13, .ref 19, .ref 25, .null, .null, .null, .null, .null, .long 0]) (by decide +kernel) rfl rfl rfl rfl (by decide) ?_
  show PY G h0 (d + 2) m_X8_init 55 5626 Q 82 [some (.ref 0)] [] (w_79, 38, 551)
  refine z_aload_n (fun _ _ _ _ h => h) (k := 0) (by decide +kernel) ?_
  show PY G h0 (d + 2) m_X8_init 55 5626 Q 83 [some (.ref 0)] [.ref 0] (w_79, 38, 551)
  refine z_new (fun _ _ _ _ h => h) (idx := 45) (ci := 1) (by decide) cl_8_45 in_1 ini_1 (by decide +kernel) (by decide +kernel) (by decide) (by decide) ?_
  show PY G h0 (d + 2) m_X8_init 55 5626 Q 86 [some (.ref 0)] [.ref 39, .ref 0] (w_80, 39, 552)
  refine z_dup (fun _ _ _ _ h => h) (by decide +kernel) ?_
  show PY G h0 (d + 2) m_X8_init 55 5626 Q 87 [some (.ref 0)] [.ref 39, .ref 39, .ref 0] (w_80, 39, 552)
  refine z_init (fun _ _ _ _ h => h) (idx := 47) (a := 39) (av := []) (mc2 := 1) (ms2 := 4864) (ws1 := w_82) (Or.inr (List.mem_of_getElem? (i := 4) rfl)) (by decide +kernel) rfl (by decide) (by decide) (by decide) (ct_8_X1_init (fun _ h => h)) ?_
  show PY G h0 (d + 2) m_X8_init 55 5626 Q 90 [some (.ref 0)] [.ref 39, .ref 0] (w_82, 40, 5416)
  refine z_putfield (fun _ _ _ _ h => h) (idx := 48) (a := 0) (ci := 8) (k := 6) (fs := [.ref 1, .ref 7, .ref 13, .ref 19, .ref 25, .ref 33, .null, .null, .null, .null, .long 0]) (by decide +kernel) rfl rfl rfl rfl (by decide) ?_
  show PY G h0 (d + 2) m_X8_init 55 5626 Q 93 [some (.ref 0)] [] (w_83, 40, 5416)
  refine z_aload_n (fun _ _ _ _ h => h) (k := 0) (by decide +kernel) ?_
  show PY G h0 (d + 2) m_X8_init 55 5626 Q 94 [some (.ref 0)] [.ref 0] (w_83, 40, 5416)
  refine z_new (fun _ _ _ _ h => h) (idx := 52) (ci := 0) (by decide) cl_8_52 in_0 ini_0 (by decide +kernel) (by decide +kernel) (by decide) (by decide) ?_
  show PY G h0 (d + 2) m_X8_init 55 5626 Q 97 [some (.ref 0)] [.ref 41, .ref 0] (w_84, 41, 5421)
  refine z_dup (fun _ _ _ _ h => h) (by decide +kernel) ?_
  show PY G h0 (d + 2) m_X8_init 55 5626 Q 98 [some (.ref 0)] [.ref 41, .ref 41, .ref 0] (w_84, 41, 5421)
  refine z_init (fun _ _ _ _ h => h) (idx := 54) (a := 41) (av := []) (mc2 := 2) (ms2 := 16) (ws1 := w_88) (Or.inr (List.mem_of_getElem? (i := 5) rfl)) (by decide +kernel) rfl (by decide) (by decide) (by decide) (ct_9_X0_init (fun _ h => h)) ?_
  show PY G h0 (d + 2) m_X8_init 55 5626 Q 101 [some (.ref 0)] [.ref 41, .ref 0] (w_88, 43, 5437)
  refine z_putfield (fun _ _ _ _ h => h) (idx := 55) (a := 0) (ci := 8) (k := 7) (fs := [.ref 1, .ref 7, .ref 13, .ref 19, .ref 25, .ref 33, .ref 39, .null, .null, .null, .long 0]) (by decide +kernel) rfl rfl rfl rfl (by decide) ?_
  show PY G h0 (d + 2) m_X8_init 55 5626 Q 104 [some (.ref 0)] [] (w_89, 43, 5437)
  refine z_aload_n (fun _ _ _ _ h => h) (k := 0) (by decide +kernel) ?_
  show PY G h0 (d + 2) m_X8_init 55 5626 Q 105 [some (.ref 0)] [.ref 0] (w_89, 43, 5437)
  refine z_new (fun _ _ _ _ h => h) (idx := 59) (ci := 7) (by decide) cl_8_59 in_7 ini_7 (by decide +kernel) (by decide +kernel) (by decide) (by decide) ?_
  show PY G h0 (d + 2) m_X8_init 55 5626 Q 108 [some (.ref 0)] [.ref 44, .ref 0] (w_90, 44, 5447)
  refine z_dup (fun _ _ _ _ h => h) (by decide +kernel) ?_
  show PY G h0 (d + 2) m_X8_init 55 5626 Q 109 [some (.ref 0)] [.ref 44, .ref 44, .ref 0] (w_90, 44, 5447)
  refine z_init (fun _ _ _ _ h => h) (idx := 61) (a := 44) (av := []) (mc2 := 6) (ms2 := 151) (ws1 := w_103) (Or.inl pl_8_61) (by decide +kernel) rfl (by decide) (by decide) (by decide) (ct_10_X7_init (fun _ h => h)) ?_
  show PY G h0 (d + 2) m_X8_init 55 5626 Q 112 [some (.ref 0)] [.ref 44, .ref 0] (w_103, 50, 5598)
  refine z_putfield (fun _ _ _ _ h => h) (idx := 62) (a := 0) (ci := 8) (k := 8) (fs := [.ref 1, .ref 7, .ref 13, .ref 19, .ref 25, .ref 33, .ref 39, .ref 41, .null, .null, .long 0]) (by decide +kernel) rfl rfl rfl rfl (by decide) ?_
  show PY G h0 (d + 2) m_X8_init 55 5626 Q 115 [some (.ref 0)] [] (w_104, 50, 5598)
  refine z_aload_n (fun _ _ _ _ h => h) (k := 0) (by decide +kernel) ?_
  show PY G h0 (d + 2) m_X8_init 55 5626 Q 116 [some (.ref 0)] [.ref 0] (w_104, 50, 5598)
  refine z_new (fun _ _ _ _ h => h) (idx := 66) (ci := 2) (by decide) cl_8_66 in_2 ini_2 (by decide +kernel) (by decide +kernel) (by decide) (by decide) ?_
  show PY G h0 (d + 2) m_X8_init 55 5626 Q 119 [some (.ref 0)] [.ref 51, .ref 0] (w_105, 51, 5604)
  refine z_dup (fun _ _ _ _ h => h) (by decide +kernel) ?_
  show PY G h0 (d + 2) m_X8_init 55 5626 Q 120 [some (.ref 0)] [.ref 51, .ref 51, .ref 0] (w_105, 51, 5604)
  refine z_aload_n (fun _ _ _ _ h => h) (k := 0) (by decide +kernel) ?_
  show PY G h0 (d + 2) m_X8_init 55 5626 Q 121 [some (.ref 0)] [.ref 0, .ref 51, .ref 51, .ref 0] (w_105, 51, 5604)
  refine z_getfield (fun _ _ _ _ h => h) (idx := 12) (a := 0) (ci := 8) (k := 0) (fs := [.ref 1, .ref 7, .ref 13, .ref 19, .ref 25, .ref 33, .ref 39, .ref 41, .ref 44, .null, .long 0]) (by decide +kernel) rfl rfl rfl ?_
  show PY G h0 (d + 2) m_X8_init 55 5626 Q 124 [some (.ref 0)] [.ref 1, .ref 51, .ref 51, .ref 0] (w_105, 51, 5604)
  refine z_init (fun _ _ _ _ h => h) (idx := 68) (a := 51) (av := [.ref 1]) (mc2 := 4) (ms2 := 22) (ws1 := w_114) (Or.inl pl_8_68) (by decide +kernel) rfl (by decide) (by decide) (by decide) (ct_11_X2_init (fun _ h => h)) ?_
  show PY G h0 (d + 2) m_X8_init 55 5626 Q 127 [some (.ref 0)] [.ref 51, .ref 0] (w_114, 55, 5626)
  refine z_putfield (fun _ _ _ _ h => h) (idx := 69) (a := 0) (ci := 8) (k := 9) (fs := [.ref 1, .ref 7, .ref 13, .ref 19, .ref 25, .ref 33, .ref 39, .ref 41, .ref 44, .null, .long 0]) (by decide +kernel) rfl rfl rfl rfl (by decide) ?_
  show PY G h0 (d + 2) m_X8_init 55 5626 Q 130 [some (.ref 0)] [] (w_115, 55, 5626)
  refine z_aload_n (fun _ _ _ _ h => h) (k := 0) (by decide +kernel) ?_
  show PY G h0 (d + 2) m_X8_init 55 5626 Q 131 [some (.ref 0)] [.ref 0] (w_115, 55, 5626)
  refine z_lconst (fun _ _ _ _ h => h) (k := 0) (by decide +kernel) ?_
  show PY G h0 (d + 2) m_X8_init 55 5626 Q 132 [some (.ref 0)] [.long (Int64.ofNat 0), .ref 0] (w_115, 55, 5626)
  refine z_putfield (fun _ _ _ _ h => h) (idx := 73) (a := 0) (ci := 8) (k := 10) (fs := [.ref 1, .ref 7, .ref 13, .ref 19, .ref 25, .ref 33, .ref 39, .ref 41, .ref 44, .ref 51, .long 0]) (by decide +kernel) rfl rfl rfl rfl (by decide) ?_
  show PY G h0 (d + 2) m_X8_init 55 5626 Q 135 [some (.ref 0)] [] (w_116, 55, 5626)
  exact z_return (by decide +kernel) rfl ⟨hQ, by decide, by decide⟩ rfl
set_option maxRecDepth 100000 in
theorem ct_12_X9_init {G : GG} {h0 d : Nat} {Q : Heap → Prop} (hQ : PY G h0 (d + 2) m_X9_init 18 543 Q 151 [some (.ref 56)] [.ref 56] (w_154, 18, 543)) : PCc G h0 (d + 3) m_X9_init 18 543 [.ref 56] w_117 Q := by
  refine PCc.of mi_X9_init (Nat.le_of_ble_eq_true rfl) ?_
  show PY G h0 (d + 2) m_X9_init 18 543 Q 0 [some (.ref 56)] [] (w_117, 0, 0)
  refine z_aload_n (fun _ _ _ _ h => h) (k := 0) (by decide +kernel) ?_
  show PY G h0 (d + 2) m_X9_init 18 543 Q 1 [some (.ref 56)] [.ref 56] (w_117, 0, 0)
  refine z_objinit (fun _ _ _ _ h => h) (idx := 1) ol_9 (by decide +kernel) (by decide) ?_
  show PY G h0 (d + 2) m_X9_init 18 543 Q 4 [some (.ref 56)] [] (w_117, 0, 0)
  refine z_aload_n (fun _ _ _ _ h => h) (k := 0) (by decide +kernel) ?_
  show PY G h0 (d + 2) m_X9_init 18 543 Q 5 [some (.ref 56)] [.ref 56] (w_117, 0, 0)
  refine z_sipush (fun _ _ _ _ h => h) (n := 300) (kv := nI 300) (by decide) (by decide +kernel) ?_
  show PY G h0 (d + 2) m_X9_init 18 543 Q 8 [some (.ref 56)] [.int (nI 300), .ref 56] (w_117, 0, 0)
  refine z_newarray (fun _ _ _ _ h => h) (t := 0) (n := 300) (by decide) (by decide) (by decide +kernel) (by decide +kernel) (by decide) (by decide) ?_
  show PY G h0 (d + 2) m_X9_init 18 543 Q 10 [some (.ref 56)] [.ref 57, .ref 56] (w_118, 1, 300)
  refine z_putfield (fun _ _ _ _ h => h) (idx := 7) (a := 56) (ci := 9) (k := 2) (fs := [.int 0, .long 0, .null, .int 0, .int 0, .int 0, .int 0, .int 0, .int 0, .null, .null, .null, .null, .null, .int 0, .int 0, .int 0, .int 0, .int 0, .int 0, .null, .null, .null, .null, .int 0, .null, .null, .int 0, .null, .int 0, .null, .null, .int 0, .null, .null, .null]) (by decide +kernel) rfl rfl rfl rfl (by decide) ?_
  show PY G h0 (d + 2) m_X9_init 18 543 Q 13 [some (.ref 56)] [] (w_119, 1, 300)
  refine z_aload_n (fun _ _ _ _ h => h) (k := 0) (by decide +kernel) ?_
  show PY G h0 (d + 2) m_X9_init 18 543 Q 14 [some (.ref 56)] [.ref 56] (w_119, 1, 300)
  refine z_bipush (fun _ _ _ _ h => h) (n := 6) (kv := nI 6) (by decide) (by decide +kernel) ?_
  show PY G h0 (d + 2) m_X9_init 18 543 Q 16 [some (.ref 56)] [.int (nI 6), .ref 56] (w_119, 1, 300)
  refine z_newarray (fun _ _ _ _ h => h) (t := 0) (n := 6) (by decide) (by decide) (by decide +kernel) (by decide +kernel) (by decide) (by decide) ?_
  show PY G h0 (d + 2) m_X9_init 18 543 Q 18 [some (.ref 56)] [.ref 58, .ref 56] (w_120, 2, 306)
  refine z_putfield (fun _ _ _ _ h => h) (idx := 13) (a := 56) (ci := 9) (k := 9) (fs := [.int 0, .long 0, .ref 57, .int 0, .int 0, .int 0, .int 0, .int 0, .int 0, .null, .null, .null, .null, .null, .int 0, .int 0, .int 0, .int 0, .int 0, .int 0, .null, .null, .null, .null, .int 0, .null, .null, .int 0, .null, .int 0, .null, .null, .int 0, .null, .null, .null]) (by decide +kernel) rfl rfl rfl rfl (by decide) ?_
  show PY G h0 (d + 2) m_X9_init 18 543 Q 21 [some (.ref 56)] [] (w_121, 2, 306)
  refine z_aload_n (fun _ _ _ _ h => h) (k := 0) (by decide +kernel) ?_
  show PY G h0 (d + 2) m_X9_init 18 543 Q 22 [some (.ref 56)] [.ref 56] (w_121, 2, 306)
  refine z_bipush (fun _ _ _ _ h => h) (n := 6) (kv := nI 6) (by decide) (by decide +kernel) ?_
  show PY G h0 (d + 2) m_X9_init 18 543 Q 24 [some (.ref 56)] [.int (nI 6), .ref 56] (w_121, 2, 306)
  refine z_newarray (fun _ _ _ _ h => h) (t := 0) (n := 6) (by decide) (by decide) (by decide +kernel) (by decide +kernel) (by decide) (by decide) ?_
  show PY G h0 (d + 2) m_X9_init 18 543 Q 26 [some (.ref 56)] [.ref 59, .ref 56] (w_122, 3, 312)
  refine z_putfield (fun _ _ _ _ h => h) (idx := 16) (a := 56) (ci := 9) (k := 10) (fs := [.int 0, .long 0, .ref 57, .int 0, .int 0, .int 0, .int 0, .int 0, .int 0, .ref 58, .null, .null, .null, .null, .int 0, .int 0, .int 0, .int 0, .int 0, .int 0, .null, .null, .null, .null, .int 0, .null, .null, .int 0, .null, .int 0, .null, .null, .int 0, .null, .null, .null]) (by decide +kernel) rfl rfl rfl rfl (by decide) ?_
  show PY G h0 (d + 2) m_X9_init 18 543 Q 29 [some (.ref 56)] [] (w_123, 3, 312)
  refine z_aload_n (fun _ _ _ _ h => h) (k := 0) (by decide +kernel) ?_
  show PY G h0 (d + 2) m_X9_init 18 543 Q 30 [some (.ref 56)] [.ref 56] (w_123, 3, 312)
  refine z_bipush (fun _ _ _ _ h => h) (n := 16) (kv := nI 16) (by decide) (by decide +kernel) ?_
  show PY G h0 (d + 2) m_X9_init 18 543 Q 32 [some (.ref 56)] [.int (nI 16), .ref 56] (w_123, 3, 312)
  refine z_newarray (fun _ _ _ _ h => h) (t := 0) (n := 16) (by decide) (by decide) (by decide +kernel) (by decide +kernel) (by decide) (by decide) ?_
  show PY G h0 (d + 2) m_X9_init 18 543 Q 34 [some (.ref 56)] [.ref 60, .ref 56] (w_124, 4, 328)
  refine z_putfield (fun _ _ _ _ h => h) (idx := 19) (a := 56) (ci := 9) (k := 11) (fs := [.int 0, .long 0, .ref 57, .int 0, .int 0, .int 0, .int 0, .int 0, .int 0, .ref 58, .ref 59, .null, .null, .null, .int 0, .int 0, .int 0, .int 0, .int 0, .int 0, .null, .null, .null, .null, .int 0, .null, .null, .int 0, .null, .int 0, .null, .null, .int 0, .null, .null, .null]) (by decide +kernel) rfl rfl rfl rfl (by decide) ?_
  show PY G h0 (d + 2) m_X9_init 18 543 Q 37 [some (.ref 56)] [] (w_125, 4, 328)
  refine z_aload_n (fun _ _ _ _ h => h) (k := 0) (by decide +kernel) ?_
  show PY G h0 (d + 2) m_X9_init 18 543 Q 38 [some (.ref 56)] [.ref 56] (w_125, 4, 328)
  refine z_bipush (fun _ _ _ _ h => h) (n := 16) (kv := nI 16) (by decide) (by decide +kernel) ?_
  show PY G h0 (d + 2) m_X9_init 18 543 Q 40 [some (.ref 56)] [.int (nI 16), .ref 56] (w_125, 4, 328)
  refine z_newarray (fun _ _ _ _ h => h) (t := 0) (n := 16) (by decide) (by decide) (by decide +kernel) (by decide +kernel) (by decide) (by decide) ?_
  show PY G h0 (d + 2) m_X9_init 18 543 Q 42 [some (.ref 56)] [.ref 61, .ref 56] (w_126, 5, 344)
  refine z_putfield (fun _ _ _ _ h => h) (idx := 22) (a := 56) (ci := 9) (k := 12) (fs := [.int 0, .long 0, .ref 57, .int 0, .int 0, .int 0, .int 0, .int 0, .int 0, .ref 58, .ref 59, .ref 60, .null, .null, .int 0, .int 0, .int 0, .int 0, .int 0, .int 0, .null, .null, .null, .null, .int 0, .null, .null, .int 0, .null, .int 0, .null, .null, .int 0, .null, .null, .null]) (by decide +kernel) rfl rfl rfl rfl (by decide) ?_
  show PY G h0 (d + 2) m_X9_init 18 543 Q 45 [some (.ref 56)] [] (w_127, 5, 344)
  refine z_aload_n (fun _ _ _ _ h => h) (k := 0) (by decide +kernel) ?_
  show PY G h0 (d + 2) m_X9_init 18 543 Q 46 [some (.ref 56)] [.ref 56] (w_127, 5, 344)
  refine z_bipush (fun _ _ _ _ h => h) (n := 10) (kv := nI 10) (by decide) (by decide +kernel) ?_
  show PY G h0 (d + 2) m_X9_init 18 543 Q 48 [some (.ref 56)] [.int (nI 10), .ref 56] (w_127, 5, 344)
  refine z_newarray (fun _ _ _ _ h => h) (t := 0) (n := 10) (by decide) (by decide) (by decide +kernel) (by decide +kernel) (by decide) (by decide) ?_
  show PY G h0 (d + 2) m_X9_init 18 543 Q 50 [some (.ref 56)] [.ref 62, .ref 56] (w_128, 6, 354)
  refine z_putfield (fun _ _ _ _ h => h) (idx := 25) (a := 56) (ci := 9) (k := 13) (fs := [.int 0, .long 0, .ref 57, .int 0, .int 0, .int 0, .int 0, .int 0, .int 0, .ref 58, .ref 59, .ref 60, .ref 61, .null, .int 0, .int 0, .int 0, .int 0, .int 0, .int 0, .null, .null, .null, .null, .int 0, .null, .null, .int 0, .null, .int 0, .null, .null, .int 0, .null, .null, .null]) (by decide +kernel) rfl rfl rfl rfl (by decide) ?_
  show PY G h0 (d + 2) m_X9_init 18 543 Q 53 [some (.ref 56)] [] (w_129, 6, 354)
  refine z_aload_n (fun _ _ _ _ h => h) (k := 0) (by decide +kernel) ?_
  show PY G h0 (d + 2) m_X9_init 18 543 Q 54 [some (.ref 56)] [.ref 56] (w_129, 6, 354)
  refine z_bipush (fun _ _ _ _ h => h) (n := 34) (kv := nI 34) (by decide) (by decide +kernel) ?_
  show PY G h0 (d + 2) m_X9_init 18 543 Q 56 [some (.ref 56)] [.int (nI 34), .ref 56] (w_129, 6, 354)
  refine z_newarray (fun _ _ _ _ h => h) (t := 0) (n := 34) (by decide) (by decide) (by decide +kernel) (by decide +kernel) (by decide) (by decide) ?_
  show PY G h0 (d + 2) m_X9_init 18 543 Q 58 [some (.ref 56)] [.ref 63, .ref 56] (w_130, 7, 388)
  refine z_putfield (fun _ _ _ _ h => h) (idx := 28) (a := 56) (ci := 9) (k := 20) (fs := [.int 0, .long 0, .ref 57, .int 0, .int 0, .int 0, .int 0, .int 0, .int 0, .ref 58, .ref 59, .ref 60, .ref 61, .ref 62, .int 0, .int 0, .int 0, .int 0, .int 0, .int 0, .null, .null, .null, .null, .int 0, .null, .null, .int 0, .null, .int 0, .null, .null, .int 0, .null, .null, .null]) (by decide +kernel) rfl rfl rfl rfl (by decide) ?_
  show PY G h0 (d + 2) m_X9_init 18 543 Q 61 [some (.ref 56)] [] (w_131, 7, 388)
  refine z_aload_n (fun _ _ _ _ h => h) (k := 0) (by decide +kernel) ?_
  show PY G h0 (d + 2) m_X9_init 18 543 Q 62 [some (.ref 56)] [.ref 56] (w_131, 7, 388)
  refine z_bipush (fun _ _ _ _ h => h) (n := 68) (kv := nI 68) (by decide) (by decide +kernel) ?_
  show PY G h0 (d + 2) m_X9_init 18 543 Q 64 [some (.ref 56)] [.int (nI 68), .ref 56] (w_131, 7, 388)
  refine z_newarray (fun _ _ _ _ h => h) (t := 0) (n := 68) (by decide) (by decide) (by decide +kernel) (by decide +kernel) (by decide) (by decide) ?_
  show PY G h0 (d + 2) m_X9_init 18 543 Q 66 [some (.ref 56)] [.ref 64, .ref 56] (w_132, 8, 456)
  refine z_putfield (fun _ _ _ _ h => h) (idx := 31) (a := 56) (ci := 9) (k := 21) (fs := [.int 0, .long 0, .ref 57, .int 0, .int 0, .int 0, .int 0, .int 0, .int 0, .ref 58, .ref 59, .ref 60, .ref 61, .ref 62, .int 0, .int 0, .int 0, .int 0, .int 0, .int 0, .ref 63, .null, .null, .null, .int 0, .null, .null, .int 0, .null, .int 0, .null, .null, .int 0, .null, .null, .null]) (by decide +kernel) rfl rfl rfl rfl (by decide) ?_
  show PY G h0 (d + 2) m_X9_init 18 543 Q 69 [some (.ref 56)] [] (w_133, 8, 456)
  refine z_aload_n (fun _ _ _ _ h => h) (k := 0) (by decide +kernel) ?_
  show PY G h0 (d + 2) m_X9_init 18 543 Q 70 [some (.ref 56)] [.ref 56] (w_133, 8, 456)
  refine z_iconst (fun _ _ _ _ h => h) (n := 2) (kv := nI 2) (by decide) (by decide +kernel) ?_
  show PY G h0 (d + 2) m_X9_init 18 543 Q 71 [some (.ref 56)] [.int (nI 2), .ref 56] (w_133, 8, 456)
  refine z_newarray (fun _ _ _ _ h => h) (t := 1) (n := 2) (by decide) (by decide) (by decide +kernel) (by decide +kernel) (by decide) (by decide) ?_
  show PY G h0 (d + 2) m_X9_init 18 543 Q 73 [some (.ref 56)] [.ref 65, .ref 56] (w_134, 9, 458)
  refine z_putfield (fun _ _ _ _ h => h) (idx := 34) (a := 56) (ci := 9) (k := 22) (fs := [.int 0, .long 0, .ref 57, .int 0, .int 0, .int 0, .int 0, .int 0, .int 0, .ref 58, .ref 59, .ref 60, .ref 61, .ref 62, .int 0, .int 0, .int 0, .int 0, .int 0, .int 0, .ref 63, .ref 64, .null, .null, .int 0, .null, .null, .int 0, .null, .int 0, .null, .null, .int 0, .null, .null, .null]) (by decide +kernel) rfl rfl rfl rfl (by decide) ?_
  show PY G h0 (d + 2) m_X9_init 18 543 Q 76 [some (.ref 56)] [] (w_135, 9, 458)
  refine z_aload_n (fun _ _ _ _ h => h) (k := 0) (by decide +kernel) ?_
  show PY G h0 (d + 2) m_X9_init 18 543 Q 77 [some (.ref 56)] [.ref 56] (w_135, 9, 458)
  refine z_bipush (fun _ _ _ _ h => h) (n := 8) (kv := nI 8) (by decide) (by decide +kernel) ?_
  show PY G h0 (d + 2) m_X9_init 18 543 Q 79 [some (.ref 56)] [.int (nI 8), .ref 56] (w_135, 9, 458)
  refine z_newarray (fun _ _ _ _ h => h) (t := 0) (n := 8) (by decide) (by decide) (by decide +kernel) (by decide +kernel) (by decide) (by decide) ?_
  show PY G h0 (d + 2) m_X9_init 18 543 Q 81 [some (.ref 56)] [.ref 66, .ref 56] (w_136, 10, 466)
  refine z_putfield (fun _ _ _ _ h => h) (idx := 38) (a := 56) (ci := 9) (k := 23) (fs := [.int 0, .long 0, .ref 57, .int 0, .int 0, .int 0, .int 0, .int 0, .int 0, .ref 58, .ref 59, .ref 60, .ref 61, .ref 62, .int 0, .int 0, .int 0, .int 0, .int 0, .int 0, .ref 63, .ref 64, .ref 65, .null, .int 0, .null, .null, .int 0, .null, .int 0, .null, .null, .int 0, .null, .null, .null]) (by decide +kernel) rfl rfl rfl rfl (by decide) ?_
  show PY G h0 (d + 2) m_X9_init 18 543 Q 84 [some (.ref 56)] [] (w_137, 10, 466)
  refine z_aload_n (fun _ _ _ _ h => h) (k := 0) (by decide +kernel) ?_
  show PY G h0 (d + 2) m_X9_init 18 543 Q 85 [some (.ref 56)] [.ref 56] (w_137, 10, 466)
  refine z_bipush (fun _ _ _ _ h => h) (n := 8) (kv := nI 8) (by decide) (by decide +kernel) ?_
  show PY G h0 (d + 2) m_X9_init 18 543 Q 87 [some (.ref 56)] [.int (nI 8), .ref 56] (w_137, 10, 466)
  refine z_newarray (fun _ _ _ _ h => h) (t := 0) (n := 8) (by decide) (by decide) (by decide +kernel) (by decide +kernel) (by decide) (by decide) ?_
  show PY G h0 (d + 2) m_X9_init 18 543 Q 89 [some (.ref 56)] [.ref 67, .ref 56] (w_138, 11, 474)
  refine z_putfield (fun _ _ _ _ h => h) (idx := 41) (a := 56) (ci := 9) (k := 25) (fs := [.int 0, .long 0, .ref 57, .int 0, .int 0, .int 0, .int 0, .int 0, .int 0, .ref 58, .ref 59, .ref 60, .ref 61, .ref 62, .int 0, .int 0, .int 0, .int 0, .int 0, .int 0, .ref 63, .ref 64, .ref 65, .ref 66, .int 0, .null, .null, .int 0, .null, .int 0, .null, .null, .int 0, .null, .null, .null]) (by decide +kernel) rfl rfl rfl rfl (by decide) ?_
  show PY G h0 (d + 2) m_X9_init 18 543 Q 92 [some (.ref 56)] [] (w_139, 11, 474)
  refine z_aload_n (fun _ _ _ _ h => h) (k := 0) (by decide +kernel) ?_
  show PY G h0 (d + 2) m_X9_init 18 543 Q 93 [some (.ref 56)] [.ref 56] (w_139, 11, 474)
  refine z_bipush (fun _ _ _ _ h => h) (n := 8) (kv := nI 8) (by decide) (by decide +kernel) ?_
  show PY G h0 (d + 2) m_X9_init 18 543 Q 95 [some (.ref 56)] [.int (nI 8), .ref 56] (w_139, 11, 474)
  refine z_newarray (fun _ _ _ _ h => h) (t := 0) (n := 8) (by decide) (by decide) (by decide +kernel) (by decide +kernel) (by decide) (by decide) ?_
  show PY G h0 (d + 2) m_X9_init 18 543 Q 97 [some (.ref 56)] [.ref 68, .ref 56] (w_140, 12, 482)
  refine z_putfield (fun _ _ _ _ h => h) (idx := 44) (a := 56) (ci := 9) (k := 26) (fs := [.int 0, .long 0, .ref 57, .int 0, .int 0, .int 0, .int 0, .int 0, .int 0, .ref 58, .ref 59, .ref 60, .ref 61, .ref 62, .int 0, .int 0, .int 0, .int 0, .int 0, .int 0, .ref 63, .ref 64, .ref 65, .ref 66, .int 0, .ref 67, .null, .int 0, .null, .int 0, .null, .null, .int 0, .null, .null, .null]) (by decide +kernel) rfl rfl rfl rfl (by decide) ?_
  show PY G h0 (d + 2) m_X9_init 18 543 Q 100 [some (.ref 56)] [] (w_141, 12, 482)
  refine z_aload_n (fun _ _ _ _ h => h) (k := 0) (by decide +kernel) ?_
  show PY G h0 (d + 2) m_X9_init 18 543 Q 101 [some (.ref 56)] [.ref 56] (w_141, 12, 482)
  refine z_bipush (fun _ _ _ _ h => h) (n := 36) (kv := nI 36) (by decide) (by decide +kernel) ?_
  show PY G h0 (d + 2) m_X9_init 18 543 Q 103 [some (.ref 56)] [.int (nI 36), .ref 56] (w_141, 12, 482)
  refine z_newarray (fun _ _ _ _ h => h) (t := 0) (n := 36) (by decide) (by decide) (by decide +kernel) (by decide +kernel) (by decide) (by decide) ?_
  show PY G h0 (d + 2) m_X9_init 18 543 Q 105 [some (.ref 56)] [.ref 69, .ref 56] (w_142, 13, 518)
  refine z_putfield (fun _ _ _ _ h => h) (idx := 47) (a := 56) (ci := 9) (k := 28) (fs := [.int 0, .long 0, .ref 57, .int 0, .int 0, .int 0, .int 0, .int 0, .int 0, .ref 58, .ref 59, .ref 60, .ref 61, .ref 62, .int 0, .int 0, .int 0, .int 0, .int 0, .int 0, .ref 63, .ref 64, .ref 65, .ref 66, .int 0, .ref 67, .ref 68, .int 0, .null, .int 0, .null, .null, .int 0, .null, .null, .null]) (by decide +kernel) rfl rfl rfl rfl (by decide) ?_
  show PY G h0 (d + 2) m_X9_init 18 543 Q 108 [some (.ref 56)] [] (w_143, 13, 518)
  refine z_aload_n (fun _ _ _ _ h => h) (k := 0) (by decide +kernel) ?_
  show PY G h0 (d + 2) m_X9_init 18 543 Q 109 [some (.ref 56)] [.ref 56] (w_143, 13, 518)
  refine z_bipush (fun _ _ _ _ h => h) (n := 8) (kv := nI 8) (by decide) (by decide +kernel) ?_
  show PY G h0 (d + 2) m_X9_init 18 543 Q 111 [some (.ref 56)] [.int (nI 8), .ref 56] (w_143, 13, 518)
  refine z_newarray (fun _ _ _ _ h => h) (t := 0) (n := 8) (by decide) (by decide) (by decide +kernel) (by decide +kernel) (by decide) (by decide) ?_
  show PY G h0 (d + 2) m_X9_init 18 543 Q 113 [some (.ref 56)] [.ref 70, .ref 56] (w_144, 14, 526)
  refine z_putfield (fun _ _ _ _ h => h) (idx := 50) (a := 56) (ci := 9) (k := 30) (fs := [.int 0, .long 0, .ref 57, .int 0, .int 0, .int 0, .int 0, .int 0, .int 0, .ref 58, .ref 59, .ref 60, .ref 61, .ref 62, .int 0, .int 0, .int 0, .int 0, .int 0, .int 0, .ref 63, .ref 64, .ref 65, .ref 66, .int 0, .ref 67, .ref 68, .int 0, .ref 69, .int 0, .null, .null, .int 0, .null, .null, .null]) (by decide +kernel) rfl rfl rfl rfl (by decide) ?_
  show PY G h0 (d + 2) m_X9_init 18 543 Q 116 [some (.ref 56)] [] (w_145, 14, 526)
  refine z_aload_n (fun _ _ _ _ h => h) (k := 0) (by decide +kernel) ?_
  show PY G h0 (d + 2) m_X9_init 18 543 Q 117 [some (.ref 56)] [.ref 56] (w_145, 14, 526)
  refine z_bipush (fun _ _ _ _ h => h) (n := 8) (kv := nI 8) (by decide) (by decide +kernel) ?_
  show PY G h0 (d + 2) m_X9_init 18 543 Q 119 [some (.ref 56)] [.int (nI 8), .ref 56] (w_145, 14, 526)
  refine z_newarray (fun _ _ _ _ h => h) (t := 0) (n := 8) (by decide) (by decide) (by decide +kernel) (by decide +kernel) (by decide) (by decide) ?_
  show PY G h0 (d + 2) m_X9_init 18 543 Q 121 [some (.ref 56)] [.ref 71, .ref 56] (w_146, 15, 534)
  refine z_putfield (fun _ _ _ _ h => h) (idx := 53) (a := 56) (ci := 9) (k := 31) (fs := [.int 0, .long 0, .ref 57, .int 0, .int 0, .int 0, .int 0, .int 0, .int 0, .ref 58, .ref 59, .ref 60, .ref 61, .ref 62, .int 0, .int 0, .int 0, .int 0, .int 0, .int 0, .ref 63, .ref 64, .ref 65, .ref 66, .int 0, .ref 67, .ref 68, .int 0, .ref 69, .int 0, .ref 70, .null, .int 0, .null, .null, .null]) (by decide +kernel) rfl rfl rfl rfl (by decide) ?_
  show PY G h0 (d + 2) m_X9_init 18 543 Q 124 [some (.ref 56)] [] (w_147, 15, 534)
  refine z_aload_n (fun _ _ _ _ h => h) (k := 0) (by decide +kernel) ?_
  show PY G h0 (d + 2) m_X9_init 18 543 Q 125 [some (.ref 56)] [.ref 56] (w_147, 15, 534)
  refine z_iconst (fun _ _ _ _ h => h) (n := 3) (kv := nI 3) (by decide) (by decide +kernel) ?_
  show PY G h0 (d + 2) m_X9_init 18 543 Q 126 [some (.ref 56)] [.int (nI 3), .ref 56] (w_147, 15, 534)
  refine z_newarray (fun _ _ _ _ h => h) (t := 0) (n := 3) (by decide) (by decide) (by decide +kernel) (by decide +kernel) (by decide) (by decide) ?_
  show PY G h0 (d + 2) m_X9_init 18 543 Q 128 [some (.ref 56)] [.ref 72, .ref 56] (w_148, 16, 537)
  refine z_putfield (fun _ _ _ _ h => h) (idx := 56) (a := 56) (ci := 9) (k := 33) (fs := [.int 0, .long 0, .ref 57, .int 0, .int 0, .int 0, .int 0, .int 0, .int 0, .ref 58, .ref 59, .ref 60, .ref 61, .ref 62, .int 0, .int 0, .int 0, .int 0, .int 0, .int 0, .ref 63, .ref 64, .ref 65, .ref 66, .int 0, .ref 67, .ref 68, .int 0, .ref 69, .int 0, .ref 70, .ref 71, .int 0, .null, .null, .null]) (by decide +kernel) rfl rfl rfl rfl (by decide) ?_
  show PY G h0 (d + 2) m_X9_init 18 543 Q 131 [some (.ref 56)] [] (w_149, 16, 537)
  refine z_aload_n (fun _ _ _ _ h => h) (k := 0) (by decide +kernel) ?_
  show PY G h0 (d + 2) m_X9_init 18 543 Q 132 [some (.ref 56)] [.ref 56] (w_149, 16, 537)
  refine z_iconst (fun _ _ _ _ h => h) (n := 3) (kv := nI 3) (by decide) (by decide +kernel) ?_
  show PY G h0 (d + 2) m_X9_init 18 543 Q 133 [some (.ref 56)] [.int (nI 3), .ref 56] (w_149, 16, 537)
  refine z_newarray (fun _ _ _ _ h => h) (t := 0) (n := 3) (by decide) (by decide) (by decide +kernel) (by decide +kernel) (by decide) (by decide) ?_
  show PY G h0 (d + 2) m_X9_init 18 543 Q 135 [some (.ref 56)] [.ref 73, .ref 56] (w_150, 17, 540)
  refine z_putfield (fun _ _ _ _ h => h) (idx := 59) (a := 56) (ci := 9) (k := 34) (fs := [.int 0, .long 0, .ref 57, .int 0, .int 0, .int 0, .int 0, .int 0, .int 0, .ref 58, .ref 59, .ref 60, .ref 61, .ref 62, .int 0, .int 0, .int 0, .int 0, .int 0, .int 0, .ref 63, .ref 64, .ref 65, .ref 66, .int 0, .ref 67, .ref 68, .int 0, .ref 69, .int 0, .ref 70, .ref 71, .int 0, .ref 72, .null, .null]) (by decide +kernel) rfl rfl rfl rfl (by decide) ?_
  show PY G h0 (d + 2) m_X9_init 18 543 Q 138 [some (.ref 56)] [] (w_151, 17, 540)
  refine z_aload_n (fun _ _ _ _ h => h) (k := 0) (by decide +kernel) ?_
  show PY G h0 (d + 2) m_X9_init 18 543 Q 139 [some (.ref 56)] [.ref 56] (w_151, 17, 540)
  refine z_iconst (fun _ _ _ _ h => h) (n := 3) (kv := nI 3) (by decide) (by decide +kernel) ?_
  show PY G h0 (d + 2) m_X9_init 18 543 Q 140 [some (.ref 56)] [.int (nI 3), .ref 56] (w_151, 17, 540)
  refine z_newarray (fun _ _ _ _ h => h) (t := 0) (n := 3) (by decide) (by decide) (by decide +kernel) (by decide +kernel) (by decide) (by decide) ?_
  show PY G h0 (d + 2) m_X9_init 18 543 Q 142 [some (.ref 56)] [.ref 74, .ref 56] (w_152, 18, 543)
  refine z_putfield (fun _ _ _ _ h => h) (idx := 62) (a := 56) (ci := 9) (k := 35) (fs := [.int 0, .long 0, .ref 57, .int 0, .int 0, .int 0, .int 0, .int 0, .int 0, .ref 58, .ref 59, .ref 60, .ref 61, .ref 62, .int 0, .int 0, .int 0, .int 0, .int 0, .int 0, .ref 63, .ref 64, .ref 65, .ref 66, .int 0, .ref 67, .ref 68, .int 0, .ref 69, .int 0, .ref 70, .ref 71, .int 0, .ref 72, .ref 73, .null]) (by decide +kernel) rfl rfl rfl rfl (by decide) ?_
  show PY G h0 (d + 2) m_X9_init 18 543 Q 145 [some (.ref 56)] [] (w_153, 18, 543)
  refine z_aload_n (fun _ _ _ _ h => h) (k := 0) (by decide +kernel) ?_
  show PY G h0 (d + 2) m_X9_init 18 543 Q 146 [some (.ref 56)] [.ref 56] (w_153, 18, 543)
  refine z_iconst (fun _ _ _ _ h => h) (n := 2) (kv := nI 2) (by decide) (by decide +kernel) ?_
  show PY G h0 (d + 2) m_X9_init 18 543 Q 147 [some (.ref 56)] [.int (nI 2), .ref 56] (w_153, 18, 543)
  refine z_putfield (fun _ _ _ _ h => h) (idx := 65) (a := 56) (ci := 9) (k := 27) (fs := [.int 0, .long 0, .ref 57, .int 0, .int 0, .int 0, .int 0, .int 0, .int 0, .ref 58, .ref 59, .ref 60, .ref 61, .ref 62, .int 0, .int 0, .int 0, .int 0, .int 0, .int 0, .ref 63, .ref 64, .ref 65, .ref 66, .int 0, .ref 67, .ref 68, .int 0, .ref 69, .int 0, .ref 70, .ref 71, .int 0, .ref 72, .ref 73, .ref 74]) (by decide +kernel) rfl rfl rfl rfl (by decide) ?_
  show PY G h0 (d + 2) m_X9_init 18 543 Q 150 [some (.ref 56)] [] (w_154, 18, 543)
  refine z_aload_n (fun _ _ _ _ h => h) (k := 0) (by decide +kernel) ?_
  show PY G h0 (d + 2) m_X9_init 18 543 Q 151 [some (.ref 56)] [.ref 56] (w_154, 18, 543)
  exact hQ
