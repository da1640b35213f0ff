theorem zuw_X0 : ∀ w ∈ u_ws RX0 TX0 5, w ∈ zTw := by decide +kernel
theorem zdf_X0 : ∀ j, j < 5 → defaultValue (tyX0 j) = zdv (zft 0 j) := by decide +kernel
theorem zuw_X1 : ∀ w ∈ u_ws RX1 TX1 3, w ∈ zTw := by decide +kernel
theorem zdf_X1 : ∀ j, j < 3 → defaultValue (tyX1 j) = zdv (zft 1 j) := by decide +kernel
theorem zuw_X2 : ∀ w ∈ u_ws RX2 TX2 1, w ∈ zTw := by decide +kernel
theorem zdf_X2 : ∀ j, j < 1 → defaultValue (tyX2 j) = zdv (zft 2 j) := by decide +kernel
theorem zuw_X3 : ∀ w ∈ u_ws RX3 TX3 3, w ∈ zTw := by decide +kernel
theorem zdf_X3 : ∀ j, j < 3 → defaultValue (tyX3 j) = zdv (zft 3 j) := by decide +kernel
theorem zuw_X4 : ∀ w ∈ u_ws RX4 TX4 9, w ∈ zTw := by decide +kernel
theorem zdf_X4 : ∀ j, j < 9 → defaultValue (tyX4 j) = zdv (zft 4 j) := by decide +kernel
theorem zuw_X5 : ∀ w ∈ u_ws RX5 TX5 3, w ∈ zTw := by decide +kernel
theorem zdf_X5 : ∀ j, j < 3 → defaultValue (tyX5 j) = zdv (zft 5 j) := by decide +kernel
theorem zuw_X6 : ∀ w ∈ u_ws RX6 TX6 2, w ∈ zTw := by decide +kernel
theorem zdf_X6 : ∀ j, j < 2 → defaultValue (tyX6 j) = zdv (zft 6 j) := by decide +kernel
theorem zuw_X7 : ∀ w ∈ u_ws RX7 TX7 9, w ∈ zTw := by decide +kernel
theorem zdf_X7 : ∀ j, j < 9 → defaultValue (tyX7 j) = zdv (zft 7 j) := by decide +kernel
theorem zuw_X8 : ∀ w ∈ u_ws RX8 TX8 6, w ∈ zTw := by decide +kernel
theorem zdf_X8 : ∀ j, j < 6 → defaultValue (tyX8 j) = zdv (zft 8 j) := by decide +kernel
theorem zuw_X9 : ∀ w ∈ u_ws RX9 TX9 2, w ∈ zTw := by decide +kernel
theorem zdf_X9 : ∀ j, j < 2 → defaultValue (tyX9 j) = zdv (zft 9 j) := by decide +kernel
theorem zuw_X10 : ∀ w ∈ u_ws RX10 TX10 15, w ∈ zTw := by decide +kernel
theorem zdf_X10 : ∀ j, j < 15 → defaultValue (tyX10 j) = zdv (zft 10 j) := by decide +kernel
theorem zuw_X11 : ∀ w ∈ u_ws RX11 TX11 45, w ∈ zTw := by decide +kernel
theorem zdf_X11 : ∀ j, j < 45 → defaultValue (tyX11 j) = zdv (zft 11 j) := by decide +kernel
theorem zk_0 (μ : zM) : zok true μ 0 (30, 15) := zk_of (by decide) (by decide +kernel)
theorem zk_1 (μ : zM) : zok true μ 1 (29, 2) := zk_of (by decide) (by decide +kernel)
theorem zk_2 (μ : zM) : zok true μ 2 (40, 80) := zk_of (by decide) (by decide +kernel)
theorem zk_3 (μ : zM) : zok true μ 3 (26, 2) := zk_of (by decide) (by decide +kernel)
theorem zk_4 (μ : zM) : zok true μ 4 (41, 9) := zk_of (by decide) (by decide +kernel)
theorem zk_5 (μ : zM) : zok true μ 5 (27, 9) := zk_of (by decide) (by decide +kernel)
theorem zk_6 (μ : zM) : zok true μ 6 (40, 243) := zk_of (by decide) (by decide +kernel)
theorem zk_7 (μ : zM) : zok true μ 7 (42, 81) := zk_of (by decide) (by decide +kernel)
theorem zk_8 (μ : zM) : zok true μ 8 (40, 7) := zk_of (by decide) (by decide +kernel)
theorem zk_9 (μ : zM) : zok true μ 9 (40, 36) := zk_of (by decide) (by decide +kernel)
theorem zk_10 (μ : zM) : zok true μ 10 (40, 24) := zk_of (by decide) (by decide +kernel)
theorem zk_11 (μ : zM) : zok true μ 11 (40, 64) := zk_of (by decide) (by decide +kernel)
theorem zk_12 (μ : zM) : zok true μ 12 (3, 3) := zk_of (by decide) (by decide +kernel)
theorem zk_13 (μ : zM) : zok true μ 13 (21, 3) := zk_of (by decide) (by decide +kernel)
theorem zk_14 (μ : zM) : zok true μ 14 (46, 11) := zk_of (by decide) (by decide +kernel)
theorem zk_15 (μ : zM) : zok true μ 15 (27, 9) := zk_of (by decide) (by decide +kernel)
theorem zk_16 (μ : zM) : zok true μ 16 (40, 243) := zk_of (by decide) (by decide +kernel)
theorem zk_17 (μ : zM) : zok true μ 17 (42, 81) := zk_of (by decide) (by decide +kernel)
theorem zk_18 (μ : zM) : zok true μ 18 (40, 7) := zk_of (by decide) (by decide +kernel)
theorem zk_19 (μ : zM) : zok true μ 19 (40, 36) := zk_of (by decide) (by decide +kernel)
theorem zk_20 (μ : zM) : zok true μ 20 (40, 24) := zk_of (by decide) (by decide +kernel)
theorem zk_21 (μ : zM) : zok true μ 21 (40, 64) := zk_of (by decide) (by decide +kernel)
theorem zk_22 (μ : zM) : zok true μ 22 (3, 3) := zk_of (by decide) (by decide +kernel)
theorem zk_23 (μ : zM) : zok true μ 23 (27, 9) := zk_of (by decide) (by decide +kernel)
theorem zk_24 (μ : zM) : zok true μ 24 (40, 243) := zk_of (by decide) (by decide +kernel)
theorem zk_25 (μ : zM) : zok true μ 25 (42, 81) := zk_of (by decide) (by decide +kernel)
theorem zk_26 (μ : zM) : zok true μ 26 (40, 7) := zk_of (by decide) (by decide +kernel)
theorem zk_27 (μ : zM) : zok true μ 27 (40, 36) := zk_of (by decide) (by decide +kernel)
theorem zk_28 (μ : zM) : zok true μ 28 (40, 24) := zk_of (by decide) (by decide +kernel)
theorem zk_29 (μ : zM) : zok true μ 29 (40, 64) := zk_of (by decide) (by decide +kernel)
theorem zk_30 (μ : zM) : zok true μ 30 (3, 3) := zk_of (by decide) (by decide +kernel)
theorem zk_31 (μ : zM) : zok true μ 31 (27, 9) := zk_of (by decide) (by decide +kernel)
theorem zk_32 (μ : zM) : zok true μ 32 (40, 243) := zk_of (by decide) (by decide +kernel)
theorem zk_33 (μ : zM) : zok true μ 33 (42, 81) := zk_of (by decide) (by decide +kernel)
theorem zk_34 (μ : zM) : zok true μ 34 (40, 7) := zk_of (by decide) (by decide +kernel)
theorem zk_35 (μ : zM) : zok true μ 35 (40, 36) := zk_of (by decide) (by decide +kernel)
theorem zk_36 (μ : zM) : zok true μ 36 (40, 24) := zk_of (by decide) (by decide +kernel)
theorem zk_37 (μ : zM) : zok true μ 37 (40, 64) := zk_of (by decide) (by decide +kernel)
theorem zk_38 (μ : zM) : zok true μ 38 (3, 3) := zk_of (by decide) (by decide +kernel)
theorem zk_39 (μ : zM) : zok true μ 39 (27, 9) := zk_of (by decide) (by decide +kernel)
theorem zk_40 (μ : zM) : zok true μ 40 (40, 243) := zk_of (by decide) (by decide +kernel)
theorem zk_41 (μ : zM) : zok true μ 41 (42, 81) := zk_of (by decide) (by decide +kernel)
theorem zk_42 (μ : zM) : zok true μ 42 (40, 7) := zk_of (by decide) (by decide +kernel)
theorem zk_43 (μ : zM) : zok true μ 43 (40, 36) := zk_of (by decide) (by decide +kernel)
theorem zk_44 (μ : zM) : zok true μ 44 (40, 24) := zk_of (by decide) (by decide +kernel)
theorem zk_45 (μ : zM) : zok true μ 45 (40, 64) := zk_of (by decide) (by decide +kernel)
theorem zk_46 (μ : zM) : zok true μ 46 (3, 3) := zk_of (by decide) (by decide +kernel)
theorem zk_47 (μ : zM) : zok true μ 47 (27, 9) := zk_of (by decide) (by decide +kernel)
theorem zk_48 (μ : zM) : zok true μ 48 (40, 243) := zk_of (by decide) (by decide +kernel)
theorem zk_49 (μ : zM) : zok true μ 49 (42, 81) := zk_of (by decide) (by decide +kernel)
theorem zk_50 (μ : zM) : zok true μ 50 (40, 7) := zk_of (by decide) (by decide +kernel)
theorem zk_51 (μ : zM) : zok true μ 51 (40, 36) := zk_of (by decide) (by decide +kernel)
theorem zk_52 (μ : zM) : zok true μ 52 (40, 24) := zk_of (by decide) (by decide +kernel)
theorem zk_53 (μ : zM) : zok true μ 53 (40, 64) := zk_of (by decide) (by decide +kernel)
theorem zk_54 (μ : zM) : zok true μ 54 (3, 3) := zk_of (by decide) (by decide +kernel)
theorem zk_55 (μ : zM) : zok true μ 55 (27, 9) := zk_of (by decide) (by decide +kernel)
theorem zk_56 (μ : zM) : zok true μ 56 (40, 243) := zk_of (by decide) (by decide +kernel)
theorem zk_57 (μ : zM) : zok true μ 57 (42, 81) := zk_of (by decide) (by decide +kernel)
theorem zk_58 (μ : zM) : zok true μ 58 (40, 7) := zk_of (by decide) (by decide +kernel)
theorem zk_59 (μ : zM) : zok true μ 59 (40, 36) := zk_of (by decide) (by decide +kernel)
theorem zk_60 (μ : zM) : zok true μ 60 (40, 24) := zk_of (by decide) (by decide +kernel)
theorem zk_61 (μ : zM) : zok true μ 61 (40, 64) := zk_of (by decide) (by decide +kernel)
theorem zk_62 (μ : zM) : zok true μ 62 (3, 3) := zk_of (by decide) (by decide +kernel)
theorem zk_63 (μ : zM) : zok true μ 63 (27, 9) := zk_of (by decide) (by decide +kernel)
theorem zk_64 (μ : zM) : zok true μ 64 (40, 243) := zk_of (by decide) (by decide +kernel)
theorem zk_65 (μ : zM) : zok true μ 65 (42, 81) := zk_of (by decide) (by decide +kernel)
theorem zk_66 (μ : zM) : zok true μ 66 (40, 7) := zk_of (by decide) (by decide +kernel)
theorem zk_67 (μ : zM) : zok true μ 67 (40, 36) := zk_of (by decide) (by decide +kernel)
theorem zk_68 (μ : zM) : zok true μ 68 (40, 24) := zk_of (by decide) (by decide +kernel)
theorem zk_69 (μ : zM) : zok true μ 69 (40, 64) := zk_of (by decide) (by decide +kernel)
theorem zk_70 (μ : zM) : zok true μ 70 (3, 3) := zk_of (by decide) (by decide +kernel)
theorem zk_71 (μ : zM) : zok true μ 71 (27, 9) := zk_of (by decide) (by decide +kernel)
theorem zk_72 (μ : zM) : zok true μ 72 (40, 243) := zk_of (by decide) (by decide +kernel)
theorem zk_73 (μ : zM) : zok true μ 73 (42, 81) := zk_of (by decide) (by decide +kernel)
theorem zk_74 (μ : zM) : zok true μ 74 (40, 7) := zk_of (by decide) (by decide +kernel)
theorem zk_75 (μ : zM) : zok true μ 75 (40, 36) := zk_of (by decide) (by decide +kernel)
theorem zk_76 (μ : zM) : zok true μ 76 (40, 24) := zk_of (by decide) (by decide +kernel)
theorem zk_77 (μ : zM) : zok true μ 77 (40, 64) := zk_of (by decide) (by decide +kernel)
theorem zk_78 (μ : zM) : zok true μ 78 (3, 3) := zk_of (by decide) (by decide +kernel)
theorem zk_79 (μ : zM) : zok true μ 79 (27, 9) := zk_of (by decide) (by decide +kernel)
theorem zk_80 (μ : zM) : zok true μ 80 (40, 243) := zk_of (by decide) (by decide +kernel)
theorem zk_81 (μ : zM) : zok true μ 81 (42, 81) := zk_of (by decide) (by decide +kernel)
theorem zk_82 (μ : zM) : zok true μ 82 (40, 7) := zk_of (by decide) (by decide +kernel)
theorem zk_83 (μ : zM) : zok true μ 83 (40, 36) := zk_of (by decide) (by decide +kernel)
theorem zk_84 (μ : zM) : zok true μ 84 (40, 24) := zk_of (by decide) (by decide +kernel)
theorem zk_85 (μ : zM) : zok true μ 85 (40, 64) := zk_of (by decide) (by decide +kernel)
theorem zk_86 (μ : zM) : zok true μ 86 (3, 3) := zk_of (by decide) (by decide +kernel)
theorem zk_87 (μ : zM) : zok true μ 87 (27, 9) := zk_of (by decide) (by decide +kernel)
theorem zk_88 (μ : zM) : zok true μ 88 (40, 243) := zk_of (by decide) (by decide +kernel)
theorem zk_89 (μ : zM) : zok true μ 89 (42, 81) := zk_of (by decide) (by decide +kernel)
theorem zk_90 (μ : zM) : zok true μ 90 (40, 7) := zk_of (by decide) (by decide +kernel)
theorem zk_91 (μ : zM) : zok true μ 91 (40, 36) := zk_of (by decide) (by decide +kernel)
theorem zk_92 (μ : zM) : zok true μ 92 (40, 24) := zk_of (by decide) (by decide +kernel)
theorem zk_93 (μ : zM) : zok true μ 93 (40, 64) := zk_of (by decide) (by decide +kernel)
theorem zk_94 (μ : zM) : zok true μ 94 (3, 3) := zk_of (by decide) (by decide +kernel)
theorem zk_95 (μ : zM) : zok true μ 95 (27, 9) := zk_of (by decide) (by decide +kernel)
theorem zk_96 (μ : zM) : zok true μ 96 (40, 243) := zk_of (by decide) (by decide +kernel)
theorem zk_97 (μ : zM) : zok true μ 97 (42, 81) := zk_of (by decide) (by decide +kernel)
theorem zk_98 (μ : zM) : zok true μ 98 (40, 7) := zk_of (by decide) (by decide +kernel)
theorem zk_99 (μ : zM) : zok true μ 99 (40, 36) := zk_of (by decide) (by decide +kernel)
theorem zk_100 (μ : zM) : zok true μ 100 (40, 24) := zk_of (by decide) (by decide +kernel)
theorem zk_101 (μ : zM) : zok true μ 101 (40, 64) := zk_of (by decide) (by decide +kernel)
theorem zk_102 (μ : zM) : zok true μ 102 (3, 3) := zk_of (by decide) (by decide +kernel)
theorem zk_103 (μ : zM) : zok true μ 103 (47, 2) := zk_of (by decide) (by decide +kernel)
theorem zk_104 (μ : zM) : zok true μ 104 (42, 2) := zk_of (by decide) (by decide +kernel)
theorem zk_105 (μ : zM) : zok true μ 105 (20, 5) := zk_of (by decide) (by decide +kernel)
theorem zk_106 (μ : zM) : zok true μ 106 (40, 243) := zk_of (by decide) (by decide +kernel)
theorem zk_107 (μ : zM) : zok true μ 107 (40, 19683) := zk_of (by decide) (by decide +kernel)
theorem zk_108 (μ : zM) : zok true μ 108 (40, 5) := zk_of (by decide) (by decide +kernel)
theorem zk_109 (μ : zM) : zok true μ 109 (40, 5) := zk_of (by decide) (by decide +kernel)
theorem zk_110 (μ : zM) : zok true μ 110 (40, 4) := zk_of (by decide) (by decide +kernel)
theorem zk_111 (μ : zM) : zok true μ 111 (27, 9) := zk_of (by decide) (by decide +kernel)
theorem zk_112 (μ : zM) : zok true μ 112 (40, 243) := zk_of (by decide) (by decide +kernel)
theorem zk_113 (μ : zM) : zok true μ 113 (42, 81) := zk_of (by decide) (by decide +kernel)
theorem zk_114 (μ : zM) : zok true μ 114 (40, 7) := zk_of (by decide) (by decide +kernel)
theorem zk_115 (μ : zM) : zok true μ 115 (40, 36) := zk_of (by decide) (by decide +kernel)
theorem zk_116 (μ : zM) : zok true μ 116 (40, 24) := zk_of (by decide) (by decide +kernel)
theorem zk_117 (μ : zM) : zok true μ 117 (40, 64) := zk_of (by decide) (by decide +kernel)
theorem zk_118 (μ : zM) : zok true μ 118 (3, 3) := zk_of (by decide) (by decide +kernel)
theorem zk_119 (μ : zM) : zok true μ 119 (20, 5) := zk_of (by decide) (by decide +kernel)
theorem zk_120 (μ : zM) : zok true μ 120 (40, 243) := zk_of (by decide) (by decide +kernel)
theorem zk_121 (μ : zM) : zok true μ 121 (40, 19683) := zk_of (by decide) (by decide +kernel)
theorem zk_122 (μ : zM) : zok true μ 122 (40, 5) := zk_of (by decide) (by decide +kernel)
theorem zk_123 (μ : zM) : zok true μ 123 (40, 5) := zk_of (by decide) (by decide +kernel)
theorem zk_124 (μ : zM) : zok true μ 124 (40, 4) := zk_of (by decide) (by decide +kernel)
theorem zk_125 (μ : zM) : zok true μ 125 (24, 9) := zk_of (by decide) (by decide +kernel)
theorem zk_126 (μ : zM) : zok true μ 126 (40, 6561) := zk_of (by decide) (by decide +kernel)
theorem zk_127 (μ : zM) : zok true μ 127 (40, 6561) := zk_of (by decide) (by decide +kernel)
theorem zk_128 (μ : zM) : zok true μ 128 (22, 1) := zk_of (by decide) (by decide +kernel)
theorem zk_129 (μ : zM) : zok true μ 129 (40, 4) := zk_of (by decide) (by decide +kernel)
theorem zk_130 (μ : zM) : zok true μ 130 (25, 3) := zk_of (by decide) (by decide +kernel)
theorem zk_131 (μ : zM) : zok true μ 131 (40, 64) := zk_of (by decide) (by decide +kernel)
theorem zk_132 (μ : zM) : zok true μ 132 (40, 192) := zk_of (by decide) (by decide +kernel)
theorem zk_133 (μ : zM) : zok true μ 133 (40, 3) := zk_of (by decide) (by decide +kernel)
theorem zk_134 (μ : zM) : zok true μ 134 (40, 6561) := zk_of (by decide) (by decide +kernel)
theorem zk_135 (μ : zM) : zok true μ 135 (40, 6561) := zk_of (by decide) (by decide +kernel)
theorem zk_136 (μ : zM) : zok true μ 136 (40, 6561) := zk_of (by decide) (by decide +kernel)
theorem zk_137 (μ : zM) : zok true μ 137 (27, 9) := zk_of (by decide) (by decide +kernel)
theorem zk_138 (μ : zM) : zok true μ 138 (40, 243) := zk_of (by decide) (by decide +kernel)
theorem zk_139 (μ : zM) : zok true μ 139 (42, 81) := zk_of (by decide) (by decide +kernel)
theorem zk_140 (μ : zM) : zok true μ 140 (40, 7) := zk_of (by decide) (by decide +kernel)
theorem zk_141 (μ : zM) : zok true μ 141 (40, 36) := zk_of (by decide) (by decide +kernel)
theorem zk_142 (μ : zM) : zok true μ 142 (40, 24) := zk_of (by decide) (by decide +kernel)
theorem zk_143 (μ : zM) : zok true μ 143 (40, 64) := zk_of (by decide) (by decide +kernel)
theorem zk_144 (μ : zM) : zok true μ 144 (3, 3) := zk_of (by decide) (by decide +kernel)
theorem zk_145 (μ : zM) : zok true μ 145 (27, 9) := zk_of (by decide) (by decide +kernel)
theorem zk_146 (μ : zM) : zok true μ 146 (40, 243) := zk_of (by decide) (by decide +kernel)
theorem zk_147 (μ : zM) : zok true μ 147 (42, 81) := zk_of (by decide) (by decide +kernel)
theorem zk_148 (μ : zM) : zok true μ 148 (40, 7) := zk_of (by decide) (by decide +kernel)
theorem zk_149 (μ : zM) : zok true μ 149 (40, 36) := zk_of (by decide) (by decide +kernel)
theorem zk_150 (μ : zM) : zok true μ 150 (40, 24) := zk_of (by decide) (by decide +kernel)
theorem zk_151 (μ : zM) : zok true μ 151 (40, 64) := zk_of (by decide) (by decide +kernel)
theorem zk_152 (μ : zM) : zok true μ 152 (3, 3) := zk_of (by decide) (by decide +kernel)
theorem zk_153 (μ : zM) : zok true μ 153 (31, 45) := zk_of (by decide) (by decide +kernel)
theorem zk_154 (μ : zM) : zok true μ 154 (40, 711) := zk_of (by decide) (by decide +kernel)
theorem zk_155 (μ : zM) : zok true μ 155 (43, 80) := zk_of (by decide) (by decide +kernel)
theorem zk_156 (μ : zM) : zok true μ 156 (41, 16) := zk_of (by decide) (by decide +kernel)
theorem zk_157 (μ : zM) : zok true μ 157 (40, 320) := zk_of (by decide) (by decide +kernel)
theorem zk_158 (μ : zM) : zok true μ 158 (40, 243) := zk_of (by decide) (by decide +kernel)
theorem zk_159 (μ : zM) : zok true μ 159 (40, 19683) := zk_of (by decide) (by decide +kernel)
theorem zk_160 (μ : zM) : zok true μ 160 (40, 5) := zk_of (by decide) (by decide +kernel)
theorem zk_161 (μ : zM) : zok true μ 161 (40, 5) := zk_of (by decide) (by decide +kernel)
theorem zk_162 (μ : zM) : zok true μ 162 (40, 6561) := zk_of (by decide) (by decide +kernel)
theorem zk_163 (μ : zM) : zok true μ 163 (40, 6561) := zk_of (by decide) (by decide +kernel)
theorem zk_164 (μ : zM) : zok true μ 164 (40, 4) := zk_of (by decide) (by decide +kernel)
theorem zk_165 (μ : zM) : zok true μ 165 (40, 6561) := zk_of (by decide) (by decide +kernel)
theorem zk_166 (μ : zM) : zok true μ 166 (40, 3) := zk_of (by decide) (by decide +kernel)
theorem zk_167 (μ : zM) : zok true μ 167 (40, 6561) := zk_of (by decide) (by decide +kernel)
theorem zk_168 (μ : zM) : zok true μ 168 (40, 6561) := zk_of (by decide) (by decide +kernel)
theorem zk_169 (μ : zM) : zok true μ 169 (41, 6561) := zk_of (by decide) (by decide +kernel)
theorem zk_170 (μ : zM) : zok true μ 170 (41, 6561) := zk_of (by decide) (by decide +kernel)
theorem zk_171 (μ : zM) : zok true μ 171 (40, 64) := zk_of (by decide) (by decide +kernel)
theorem zk_172 (μ : zM) : zok true μ 172 (40, 192) := zk_of (by decide) (by decide +kernel)
theorem zk_173 (μ : zM) : zok true μ 173 (40, 81) := zk_of (by decide) (by decide +kernel)
theorem zk_174 (μ : zM) : zok true μ 174 (40, 19683) := zk_of (by decide) (by decide +kernel)
theorem zk_175 (μ : zM) : zok true μ 175 (40, 7110) := zk_of (by decide) (by decide +kernel)
theorem zk_176 (μ : zM) : zok true μ 176 (40, 711) := zk_of (by decide) (by decide +kernel)
theorem zk_177 (μ : zM) : zok true μ 177 (40, 711) := zk_of (by decide) (by decide +kernel)
theorem zk_178 (μ : zM) : zok true μ 178 (40, 400) := zk_of (by decide) (by decide +kernel)
theorem zk_179 (μ : zM) : zok true μ 179 (40, 1422) := zk_of (by decide) (by decide +kernel)
theorem zk_180 (μ : zM) : zok true μ 180 (42, 2) := zk_of (by decide) (by decide +kernel)
theorem zk_181 (μ : zM) : zok true μ 181 (41, 1) := zk_of (by decide) (by decide +kernel)
def mX0_init : zMeth := (yX0_init, cX0_init, 1, none)
theorem zcd_X0_init : zcode mX0_init ∈ zTw := zTw_mem (List.mem_of_getElem? (i := 248) (by decide +kernel)) rfl
theorem zhn_X0_init : mX0_init.1.cls ≠ "java/lang/invoke/MethodHandle" ∧ mX0_init.1.cls ≠ "java/lang/invoke/VarHandle" ∧ (parseMethodDescriptor mX0_init.1.desc).map (fun d => d.parameters.length) = some 0 := ⟨by decide +kernel, by decide +kernel, by decide +kernel⟩
def mX0_follow : zMeth := (yX0_follow, cX0_follow, 6, none)
theorem zcd_X0_follow : zcode mX0_follow ∈ zTw := zTw_mem (List.mem_of_getElem? (i := 820) (by decide +kernel)) rfl
theorem zhn_X0_follow : mX0_follow.1.cls ≠ "java/lang/invoke/MethodHandle" ∧ mX0_follow.1.cls ≠ "java/lang/invoke/VarHandle" ∧ (parseMethodDescriptor mX0_follow.1.desc).map (fun d => d.parameters.length) = some 1 := ⟨by decide +kernel, by decide +kernel, by decide +kernel⟩
def mX0_reckon : zMeth := (yX0_reckon, cX0_reckon, 5, none)
theorem zcd_X0_reckon : zcode mX0_reckon ∈ zTw := zTw_mem (List.mem_of_getElem? (i := 834) (by decide +kernel)) rfl
theorem zhn_X0_reckon : mX0_reckon.1.cls ≠ "java/lang/invoke/MethodHandle" ∧ mX0_reckon.1.cls ≠ "java/lang/invoke/VarHandle" ∧ (parseMethodDescriptor mX0_reckon.1.desc).map (fun d => d.parameters.length) = some 1 := ⟨by decide +kernel, by decide +kernel, by decide +kernel⟩
def mX0_goTo : zMeth := (yX0_goTo, cX0_goTo, 6, none)
theorem zcd_X0_goTo : zcode mX0_goTo ∈ zTw := zTw_mem (List.mem_of_getElem? (i := 838) (by decide +kernel)) rfl
theorem zhn_X0_goTo : mX0_goTo.1.cls ≠ "java/lang/invoke/MethodHandle" ∧ mX0_goTo.1.cls ≠ "java/lang/invoke/VarHandle" ∧ (parseMethodDescriptor mX0_goTo.1.desc).map (fun d => d.parameters.length) = some 1 := ⟨by decide +kernel, by decide +kernel, by decide +kernel⟩
def mX0_greatestRest : zMeth := (yX0_greatestRest, cX0_greatestRest, 3, some .int)
theorem zcd_X0_greatestRest : zcode mX0_greatestRest ∈ zTw := zTw_mem (List.mem_of_getElem? (i := 846) (by decide +kernel)) rfl
theorem zhn_X0_greatestRest : mX0_greatestRest.1.cls ≠ "java/lang/invoke/MethodHandle" ∧ mX0_greatestRest.1.cls ≠ "java/lang/invoke/VarHandle" ∧ (parseMethodDescriptor mX0_greatestRest.1.desc).map (fun d => d.parameters.length) = some 0 := ⟨by decide +kernel, by decide +kernel, by decide +kernel⟩
def mX0_number : zMeth := (yX0_number, cX0_number, 3, some .int)
theorem zcd_X0_number : zcode mX0_number ∈ zTw := zTw_mem (List.mem_of_getElem? (i := 866) (by decide +kernel)) rfl
theorem zhn_X0_number : mX0_number.1.cls ≠ "java/lang/invoke/MethodHandle" ∧ mX0_number.1.cls ≠ "java/lang/invoke/VarHandle" ∧ (parseMethodDescriptor mX0_number.1.desc).map (fun d => d.parameters.length) = some 2 := ⟨by decide +kernel, by decide +kernel, by decide +kernel⟩
def mX0_sum : zMeth := (yX0_sum, cX0_sum, 2, some .int)
theorem zcd_X0_sum : zcode mX0_sum ∈ zTw := zTw_mem (List.mem_of_getElem? (i := 1150) (by decide +kernel)) rfl
theorem zhn_X0_sum : mX0_sum.1.cls ≠ "java/lang/invoke/MethodHandle" ∧ mX0_sum.1.cls ≠ "java/lang/invoke/VarHandle" ∧ (parseMethodDescriptor mX0_sum.1.desc).map (fun d => d.parameters.length) = some 1 := ⟨by decide +kernel, by decide +kernel, by decide +kernel⟩
def mX0_widest : zMeth := (yX0_widest, cX0_widest, 4, some .int)
theorem zcd_X0_widest : zcode mX0_widest ∈ zTw := zTw_mem (List.mem_of_getElem? (i := 1144) (by decide +kernel)) rfl
theorem zhn_X0_widest : mX0_widest.1.cls ≠ "java/lang/invoke/MethodHandle" ∧ mX0_widest.1.cls ≠ "java/lang/invoke/VarHandle" ∧ (parseMethodDescriptor mX0_widest.1.desc).map (fun d => d.parameters.length) = some 1 := ⟨by decide +kernel, by decide +kernel, by decide +kernel⟩
def mX0_packed : zMeth := (yX0_packed, cX0_packed, 2, some .int)
theorem zcd_X0_packed : zcode mX0_packed ∈ zTw := zTw_mem (List.mem_of_getElem? (i := 1062) (by decide +kernel)) rfl
theorem zhn_X0_packed : mX0_packed.1.cls ≠ "java/lang/invoke/MethodHandle" ∧ mX0_packed.1.cls ≠ "java/lang/invoke/VarHandle" ∧ (parseMethodDescriptor mX0_packed.1.desc).map (fun d => d.parameters.length) = some 1 := ⟨by decide +kernel, by decide +kernel, by decide +kernel⟩
def mX0_onTheWay : zMeth := (yX0_onTheWay, cX0_onTheWay, 5, some .int)
theorem zcd_X0_onTheWay : zcode mX0_onTheWay ∈ zTw := zTw_mem (List.mem_of_getElem? (i := 1000) (by decide +kernel)) rfl
theorem zhn_X0_onTheWay : mX0_onTheWay.1.cls ≠ "java/lang/invoke/MethodHandle" ∧ mX0_onTheWay.1.cls ≠ "java/lang/invoke/VarHandle" ∧ (parseMethodDescriptor mX0_onTheWay.1.desc).map (fun d => d.parameters.length) = some 4 := ⟨by decide +kernel, by decide +kernel, by decide +kernel⟩
def mX0_distanceTo : zMeth := (yX0_distanceTo, cX0_distanceTo, 6, some .int)
theorem zcd_X0_distanceTo : zcode mX0_distanceTo ∈ zTw := zTw_mem (List.mem_of_getElem? (i := 914) (by decide +kernel)) rfl
theorem zhn_X0_distanceTo : mX0_distanceTo.1.cls ≠ "java/lang/invoke/MethodHandle" ∧ mX0_distanceTo.1.cls ≠ "java/lang/invoke/VarHandle" ∧ (parseMethodDescriptor mX0_distanceTo.1.desc).map (fun d => d.parameters.length) = some 5 := ⟨by decide +kernel, by decide +kernel, by decide +kernel⟩
def mX0_distanceOf : zMeth := (yX0_distanceOf, cX0_distanceOf, 4, some .int)
theorem zcd_X0_distanceOf : zcode mX0_distanceOf ∈ zTw := zTw_mem (List.mem_of_getElem? (i := 1021) (by decide +kernel)) rfl
theorem zhn_X0_distanceOf : mX0_distanceOf.1.cls ≠ "java/lang/invoke/MethodHandle" ∧ mX0_distanceOf.1.cls ≠ "java/lang/invoke/VarHandle" ∧ (parseMethodDescriptor mX0_distanceOf.1.desc).map (fun d => d.parameters.length) = some 3 := ⟨by decide +kernel, by decide +kernel, by decide +kernel⟩
def mX0_risesAt : zMeth := (yX0_risesAt, cX0_risesAt, 4, some .boolean)
theorem zcd_X0_risesAt : zcode mX0_risesAt ∈ zTw := zTw_mem (List.mem_of_getElem? (i := 1038) (by decide +kernel)) rfl
theorem zhn_X0_risesAt : mX0_risesAt.1.cls ≠ "java/lang/invoke/MethodHandle" ∧ mX0_risesAt.1.cls ≠ "java/lang/invoke/VarHandle" ∧ (parseMethodDescriptor mX0_risesAt.1.desc).map (fun d => d.parameters.length) = some 3 := ⟨by decide +kernel, by decide +kernel, by decide +kernel⟩
def mX0_countRises : zMeth := (yX0_countRises, cX0_countRises, 4, some .int)
theorem zcd_X0_countRises : zcode mX0_countRises ∈ zTw := zTw_mem (List.mem_of_getElem? (i := 1034) (by decide +kernel)) rfl
theorem zhn_X0_countRises : mX0_countRises.1.cls ≠ "java/lang/invoke/MethodHandle" ∧ mX0_countRises.1.cls ≠ "java/lang/invoke/VarHandle" ∧ (parseMethodDescriptor mX0_countRises.1.desc).map (fun d => d.parameters.length) = some 1 := ⟨by decide +kernel, by decide +kernel, by decide +kernel⟩
def mX0_firstRise : zMeth := (yX0_firstRise, cX0_firstRise, 3, some .int)
theorem zcd_X0_firstRise : zcode mX0_firstRise ∈ zTw := zTw_mem (List.mem_of_getElem? (i := 1043) (by decide +kernel)) rfl
theorem zhn_X0_firstRise : mX0_firstRise.1.cls ≠ "java/lang/invoke/MethodHandle" ∧ mX0_firstRise.1.cls ≠ "java/lang/invoke/VarHandle" ∧ (parseMethodDescriptor mX0_firstRise.1.desc).map (fun d => d.parameters.length) = some 1 := ⟨by decide +kernel, by decide +kernel, by decide +kernel⟩
def mX1_init : zMeth := (yX1_init, cX1_init, 2, none)
theorem zcd_X1_init : zcode mX1_init ∈ zTw := zTw_mem (List.mem_of_getElem? (i := 228) (by decide +kernel)) rfl
theorem zhn_X1_init : mX1_init.1.cls ≠ "java/lang/invoke/MethodHandle" ∧ mX1_init.1.cls ≠ "java/lang/invoke/VarHandle" ∧ (parseMethodDescriptor mX1_init.1.desc).map (fun d => d.parameters.length) = some 0 := ⟨by decide +kernel, by decide +kernel, by decide +kernel⟩
def mX1_draftSlot : zMeth := (yX1_draftSlot, cX1_draftSlot, 1, some .int)
theorem zcd_X1_draftSlot : zcode mX1_draftSlot ∈ zTw := zTw_mem (List.mem_of_getElem? (i := 560) (by decide +kernel)) rfl
theorem zhn_X1_draftSlot : mX1_draftSlot.1.cls ≠ "java/lang/invoke/MethodHandle" ∧ mX1_draftSlot.1.cls ≠ "java/lang/invoke/VarHandle" ∧ (parseMethodDescriptor mX1_draftSlot.1.desc).map (fun d => d.parameters.length) = some 0 := ⟨by decide +kernel, by decide +kernel, by decide +kernel⟩
def mX1_draft : zMeth := (yX1_draft, cX1_draft, 2, none)
theorem zcd_X1_draft : zcode mX1_draft ∈ zTw := zTw_mem (List.mem_of_getElem? (i := 556) (by decide +kernel)) rfl
theorem zhn_X1_draft : mX1_draft.1.cls ≠ "java/lang/invoke/MethodHandle" ∧ mX1_draft.1.cls ≠ "java/lang/invoke/VarHandle" ∧ (parseMethodDescriptor mX1_draft.1.desc).map (fun d => d.parameters.length) = some 1 := ⟨by decide +kernel, by decide +kernel, by decide +kernel⟩
def mX1_settle : zMeth := (yX1_settle, cX1_settle, 1, none)
theorem zcd_X1_settle : zcode mX1_settle ∈ zTw := zTw_mem (List.mem_of_getElem? (i := 619) (by decide +kernel)) rfl
theorem zhn_X1_settle : mX1_settle.1.cls ≠ "java/lang/invoke/MethodHandle" ∧ mX1_settle.1.cls ≠ "java/lang/invoke/VarHandle" ∧ (parseMethodDescriptor mX1_settle.1.desc).map (fun d => d.parameters.length) = some 0 := ⟨by decide +kernel, by decide +kernel, by decide +kernel⟩
def mX1_bringBack : zMeth := (yX1_bringBack, cX1_bringBack, 2, none)
theorem zcd_X1_bringBack : zcode mX1_bringBack ∈ zTw := zTw_mem (List.mem_of_getElem? (i := 801) (by decide +kernel)) rfl
theorem zhn_X1_bringBack : mX1_bringBack.1.cls ≠ "java/lang/invoke/MethodHandle" ∧ mX1_bringBack.1.cls ≠ "java/lang/invoke/VarHandle" ∧ (parseMethodDescriptor mX1_bringBack.1.desc).map (fun d => d.parameters.length) = some 1 := ⟨by decide +kernel, by decide +kernel, by decide +kernel⟩
def mX2_init : zMeth := (yX2_init, cX2_init, 1, none)
theorem zcd_X2_init : zcode mX2_init ∈ zTw := zTw_mem (List.mem_of_getElem? (i := 315) (by decide +kernel)) rfl
theorem zhn_X2_init : mX2_init.1.cls ≠ "java/lang/invoke/MethodHandle" ∧ mX2_init.1.cls ≠ "java/lang/invoke/VarHandle" ∧ (parseMethodDescriptor mX2_init.1.desc).map (fun d => d.parameters.length) = some 0 := ⟨by decide +kernel, by decide +kernel, by decide +kernel⟩
def mX2_load : zMeth := (yX2_load, cX2_load, 3, none)
theorem zcd_X2_load : zcode mX2_load ∈ zTw := zTw_mem (List.mem_of_getElem? (i := 877) (by decide +kernel)) rfl
theorem zhn_X2_load : mX2_load.1.cls ≠ "java/lang/invoke/MethodHandle" ∧ mX2_load.1.cls ≠ "java/lang/invoke/VarHandle" ∧ (parseMethodDescriptor mX2_load.1.desc).map (fun d => d.parameters.length) = some 1 := ⟨by decide +kernel, by decide +kernel, by decide +kernel⟩
def mX2_place : zMeth := (yX2_place, cX2_place, 3, some .int)
theorem zcd_X2_place : zcode mX2_place ∈ zTw := zTw_mem (List.mem_of_getElem? (i := 891) (by decide +kernel)) rfl
theorem zhn_X2_place : mX2_place.1.cls ≠ "java/lang/invoke/MethodHandle" ∧ mX2_place.1.cls ≠ "java/lang/invoke/VarHandle" ∧ (parseMethodDescriptor mX2_place.1.desc).map (fun d => d.parameters.length) = some 0 := ⟨by decide +kernel, by decide +kernel, by decide +kernel⟩
def mX2_limitTo : zMeth := (yX2_limitTo, cX2_limitTo, 4, none)
theorem zcd_X2_limitTo : zcode mX2_limitTo ∈ zTw := zTw_mem (List.mem_of_getElem? (i := 882) (by decide +kernel)) rfl
theorem zhn_X2_limitTo : mX2_limitTo.1.cls ≠ "java/lang/invoke/MethodHandle" ∧ mX2_limitTo.1.cls ≠ "java/lang/invoke/VarHandle" ∧ (parseMethodDescriptor mX2_limitTo.1.desc).map (fun d => d.parameters.length) = some 1 := ⟨by decide +kernel, by decide +kernel, by decide +kernel⟩
def mX2_totalWith : zMeth := (yX2_totalWith, cX2_totalWith, 2, some .int)
theorem zcd_X2_totalWith : zcode mX2_totalWith ∈ zTw := zTw_mem (List.mem_of_getElem? (i := 886) (by decide +kernel)) rfl
theorem zhn_X2_totalWith : mX2_totalWith.1.cls ≠ "java/lang/invoke/MethodHandle" ∧ mX2_totalWith.1.cls ≠ "java/lang/invoke/VarHandle" ∧ (parseMethodDescriptor mX2_totalWith.1.desc).map (fun d => d.parameters.length) = some 1 := ⟨by decide +kernel, by decide +kernel, by decide +kernel⟩
def mX2_doSteps : zMeth := (yX2_doSteps, cX2_doSteps, 7, none)
theorem zcd_X2_doSteps : zcode mX2_doSteps ∈ zTw := zTw_mem (List.mem_of_getElem? (i := 960) (by decide +kernel)) rfl
theorem zhn_X2_doSteps : mX2_doSteps.1.cls ≠ "java/lang/invoke/MethodHandle" ∧ mX2_doSteps.1.cls ≠ "java/lang/invoke/VarHandle" ∧ (parseMethodDescriptor mX2_doSteps.1.desc).map (fun d => d.parameters.length) = some 4 := ⟨by decide +kernel, by decide +kernel, by decide +kernel⟩
def mX2_timesOf : zMeth := (yX2_timesOf, cX2_timesOf, 2, some .int)
theorem zcd_X2_timesOf : zcode mX2_timesOf ∈ zTw := zTw_mem (List.mem_of_getElem? (i := 964) (by decide +kernel)) rfl
theorem zhn_X2_timesOf : mX2_timesOf.1.cls ≠ "java/lang/invoke/MethodHandle" ∧ mX2_timesOf.1.cls ≠ "java/lang/invoke/VarHandle" ∧ (parseMethodDescriptor mX2_timesOf.1.desc).map (fun d => d.parameters.length) = some 1 := ⟨by decide +kernel, by decide +kernel, by decide +kernel⟩
def mX2_doOne : zMeth := (yX2_doOne, cX2_doOne, 3, none)
theorem zcd_X2_doOne : zcode mX2_doOne ∈ zTw := zTw_mem (List.mem_of_getElem? (i := 969) (by decide +kernel)) rfl
theorem zhn_X2_doOne : mX2_doOne.1.cls ≠ "java/lang/invoke/MethodHandle" ∧ mX2_doOne.1.cls ≠ "java/lang/invoke/VarHandle" ∧ (parseMethodDescriptor mX2_doOne.1.desc).map (fun d => d.parameters.length) = some 2 := ⟨by decide +kernel, by decide +kernel, by decide +kernel⟩
def mX2_exchange : zMeth := (yX2_exchange, cX2_exchange, 4, none)
theorem zcd_X2_exchange : zcode mX2_exchange ∈ zTw := zTw_mem (List.mem_of_getElem? (i := 991) (by decide +kernel)) rfl
theorem zhn_X2_exchange : mX2_exchange.1.cls ≠ "java/lang/invoke/MethodHandle" ∧ mX2_exchange.1.cls ≠ "java/lang/invoke/VarHandle" ∧ (parseMethodDescriptor mX2_exchange.1.desc).map (fun d => d.parameters.length) = some 2 := ⟨by decide +kernel, by decide +kernel, by decide +kernel⟩
def mX2_bend : zMeth := (yX2_bend, cX2_bend, 3, none)
theorem zcd_X2_bend : zcode mX2_bend ∈ zTw := zTw_mem (List.mem_of_getElem? (i := 974) (by decide +kernel)) rfl
theorem zhn_X2_bend : mX2_bend.1.cls ≠ "java/lang/invoke/MethodHandle" ∧ mX2_bend.1.cls ≠ "java/lang/invoke/VarHandle" ∧ (parseMethodDescriptor mX2_bend.1.desc).map (fun d => d.parameters.length) = some 1 := ⟨by decide +kernel, by decide +kernel, by decide +kernel⟩
def mX2_greyToBlack : zMeth := (yX2_greyToBlack, cX2_greyToBlack, 3, none)
theorem zcd_X2_greyToBlack : zcode mX2_greyToBlack ∈ zTw := zTw_mem (List.mem_of_getElem? (i := 978) (by decide +kernel)) rfl
theorem zhn_X2_greyToBlack : mX2_greyToBlack.1.cls ≠ "java/lang/invoke/MethodHandle" ∧ mX2_greyToBlack.1.cls ≠ "java/lang/invoke/VarHandle" ∧ (parseMethodDescriptor mX2_greyToBlack.1.desc).map (fun d => d.parameters.length) = some 1 := ⟨by decide +kernel, by decide +kernel, by decide +kernel⟩
def mX2_blackToGrey : zMeth := (yX2_blackToGrey, cX2_blackToGrey, 3, none)
theorem zcd_X2_blackToGrey : zcode mX2_blackToGrey ∈ zTw := zTw_mem (List.mem_of_getElem? (i := 986) (by decide +kernel)) rfl
theorem zhn_X2_blackToGrey : mX2_blackToGrey.1.cls ≠ "java/lang/invoke/MethodHandle" ∧ mX2_blackToGrey.1.cls ≠ "java/lang/invoke/VarHandle" ∧ (parseMethodDescriptor mX2_blackToGrey.1.desc).map (fun d => d.parameters.length) = some 1 := ⟨by decide +kernel, by decide +kernel, by decide +kernel⟩
def mX2_move : zMeth := (yX2_move, cX2_move, 3, none)
theorem zcd_X2_move : zcode mX2_move ∈ zTw := zTw_mem (List.mem_of_getElem? (i := 982) (by decide +kernel)) rfl
theorem zhn_X2_move : mX2_move.1.cls ≠ "java/lang/invoke/MethodHandle" ∧ mX2_move.1.cls ≠ "java/lang/invoke/VarHandle" ∧ (parseMethodDescriptor mX2_move.1.desc).map (fun d => d.parameters.length) = some 1 := ⟨by decide +kernel, by decide +kernel, by decide +kernel⟩
def mX3_init : zMeth := (yX3_init, cX3_init, 4, none)
theorem zcd_X3_init : zcode mX3_init ∈ zTw := zTw_mem (List.mem_of_getElem? (i := 168) (by decide +kernel)) rfl
theorem zhn_X3_init : mX3_init.1.cls ≠ "java/lang/invoke/MethodHandle" ∧ mX3_init.1.cls ≠ "java/lang/invoke/VarHandle" ∧ (parseMethodDescriptor mX3_init.1.desc).map (fun d => d.parameters.length) = some 3 := ⟨by decide +kernel, by decide +kernel, by decide +kernel⟩
def mX3_read : zMeth := (yX3_read, cX3_read, 9, some (.object "InkFolds$Link"))
theorem zcd_X3_read : zcode mX3_read ∈ zTw := zTw_mem (List.mem_of_getElem? (i := 646) (by decide +kernel)) rfl
theorem zhn_X3_read : mX3_read.1.cls ≠ "java/lang/invoke/MethodHandle" ∧ mX3_read.1.cls ≠ "java/lang/invoke/VarHandle" ∧ (parseMethodDescriptor mX3_read.1.desc).map (fun d => d.parameters.length) = some 3 := ⟨by decide +kernel, by decide +kernel, by decide +kernel⟩
def mX3_readStep : zMeth := (yX3_readStep, cX3_readStep, 6, some (.object "InkFolds$Step"))
theorem zcd_X3_readStep : zcode mX3_readStep ∈ zTw := zTw_mem (List.mem_of_getElem? (i := 685) (by decide +kernel)) rfl
theorem zhn_X3_readStep : mX3_readStep.1.cls ≠ "java/lang/invoke/MethodHandle" ∧ mX3_readStep.1.cls ≠ "java/lang/invoke/VarHandle" ∧ (parseMethodDescriptor mX3_readStep.1.desc).map (fun d => d.parameters.length) = some 4 := ⟨by decide +kernel, by decide +kernel, by decide +kernel⟩
def mX4_init : zMeth := (yX4_init, cX4_init, 1, none)
theorem zcd_X4_init : zcode mX4_init ∈ zTw := zTw_mem (List.mem_of_getElem? (i := 275) (by decide +kernel)) rfl
theorem zhn_X4_init : mX4_init.1.cls ≠ "java/lang/invoke/MethodHandle" ∧ mX4_init.1.cls ≠ "java/lang/invoke/VarHandle" ∧ (parseMethodDescriptor mX4_init.1.desc).map (fun d => d.parameters.length) = some 0 := ⟨by decide +kernel, by decide +kernel, by decide +kernel⟩
def mX4_follow : zMeth := (yX4_follow, cX4_follow, 3, none)
theorem zcd_X4_follow : zcode mX4_follow ∈ zTw := zTw_mem (List.mem_of_getElem? (i := 850) (by decide +kernel)) rfl
theorem zhn_X4_follow : mX4_follow.1.cls ≠ "java/lang/invoke/MethodHandle" ∧ mX4_follow.1.cls ≠ "java/lang/invoke/VarHandle" ∧ (parseMethodDescriptor mX4_follow.1.desc).map (fun d => d.parameters.length) = some 1 := ⟨by decide +kernel, by decide +kernel, by decide +kernel⟩
def mX4_leastDistance : zMeth := (yX4_leastDistance, cX4_leastDistance, 8, some .int)
theorem zcd_X4_leastDistance : zcode mX4_leastDistance ∈ zTw := zTw_mem (List.mem_of_getElem? (i := 909) (by decide +kernel)) rfl
theorem zhn_X4_leastDistance : mX4_leastDistance.1.cls ≠ "java/lang/invoke/MethodHandle" ∧ mX4_leastDistance.1.cls ≠ "java/lang/invoke/VarHandle" ∧ (parseMethodDescriptor mX4_leastDistance.1.desc).map (fun d => d.parameters.length) = some 5 := ⟨by decide +kernel, by decide +kernel, by decide +kernel⟩
def mX4_find : zMeth := (yX4_find, cX4_find, 12, some .int)
theorem zcd_X4_find : zcode mX4_find ∈ zTw := zTw_mem (List.mem_of_getElem? (i := 905) (by decide +kernel)) rfl
theorem zhn_X4_find : mX4_find.1.cls ≠ "java/lang/invoke/MethodHandle" ∧ mX4_find.1.cls ≠ "java/lang/invoke/VarHandle" ∧ (parseMethodDescriptor mX4_find.1.desc).map (fun d => d.parameters.length) = some 5 := ⟨by decide +kernel, by decide +kernel, by decide +kernel⟩
def mX4_countFits : zMeth := (yX4_countFits, cX4_countFits, 3, none)
theorem zcd_X4_countFits : zcode mX4_countFits ∈ zTw := zTw_mem (List.mem_of_getElem? (i := 921) (by decide +kernel)) rfl
theorem zhn_X4_countFits : mX4_countFits.1.cls ≠ "java/lang/invoke/MethodHandle" ∧ mX4_countFits.1.cls ≠ "java/lang/invoke/VarHandle" ∧ (parseMethodDescriptor mX4_countFits.1.desc).map (fun d => d.parameters.length) = some 1 := ⟨by decide +kernel, by decide +kernel, by decide +kernel⟩
def mX4_rankOf : zMeth := (yX4_rankOf, cX4_rankOf, 6, some .long)
theorem zcd_X4_rankOf : zcode mX4_rankOf ∈ zTw := zTw_mem (List.mem_of_getElem? (i := 928) (by decide +kernel)) rfl
theorem zhn_X4_rankOf : mX4_rankOf.1.cls ≠ "java/lang/invoke/MethodHandle" ∧ mX4_rankOf.1.cls ≠ "java/lang/invoke/VarHandle" ∧ (parseMethodDescriptor mX4_rankOf.1.desc).map (fun d => d.parameters.length) = some 2 := ⟨by decide +kernel, by decide +kernel, by decide +kernel⟩
def mX5_init : zMeth := (yX5_init, cX5_init, 1, none)
theorem zcd_X5_init : zcode mX5_init ∈ zTw := zTw_mem (List.mem_of_getElem? (i := 325) (by decide +kernel)) rfl
theorem zhn_X5_init : mX5_init.1.cls ≠ "java/lang/invoke/MethodHandle" ∧ mX5_init.1.cls ≠ "java/lang/invoke/VarHandle" ∧ (parseMethodDescriptor mX5_init.1.desc).map (fun d => d.parameters.length) = some 0 := ⟨by decide +kernel, by decide +kernel, by decide +kernel⟩
def mX5_print : zMeth := (yX5_print, cX5_print, 10, none)
theorem zcd_X5_print : zcode mX5_print ∈ zTw := zTw_mem (List.mem_of_getElem? (i := 1096) (by decide +kernel)) rfl
theorem zhn_X5_print : mX5_print.1.cls ≠ "java/lang/invoke/MethodHandle" ∧ mX5_print.1.cls ≠ "java/lang/invoke/VarHandle" ∧ (parseMethodDescriptor mX5_print.1.desc).map (fun d => d.parameters.length) = some 5 := ⟨by decide +kernel, by decide +kernel, by decide +kernel⟩
def mX5_firstOfLetter : zMeth := (yX5_firstOfLetter, cX5_firstOfLetter, 3, some .int)
theorem zcd_X5_firstOfLetter : zcode mX5_firstOfLetter ∈ zTw := zTw_mem (List.mem_of_getElem? (i := 1100) (by decide +kernel)) rfl
theorem zhn_X5_firstOfLetter : mX5_firstOfLetter.1.cls ≠ "java/lang/invoke/MethodHandle" ∧ mX5_firstOfLetter.1.cls ≠ "java/lang/invoke/VarHandle" ∧ (parseMethodDescriptor mX5_firstOfLetter.1.desc).map (fun d => d.parameters.length) = some 2 := ⟨by decide +kernel, by decide +kernel, by decide +kernel⟩
def mX5_handOn : zMeth := (yX5_handOn, cX5_handOn, 6, none)
theorem zcd_X5_handOn : zcode mX5_handOn ∈ zTw := zTw_mem (List.mem_of_getElem? (i := 1106) (by decide +kernel)) rfl
theorem zhn_X5_handOn : mX5_handOn.1.cls ≠ "java/lang/invoke/MethodHandle" ∧ mX5_handOn.1.cls ≠ "java/lang/invoke/VarHandle" ∧ (parseMethodDescriptor mX5_handOn.1.desc).map (fun d => d.parameters.length) = some 3 := ⟨by decide +kernel, by decide +kernel, by decide +kernel⟩
def mX5_inkUsed : zMeth := (yX5_inkUsed, cX5_inkUsed, 5, some .int)
theorem zcd_X5_inkUsed : zcode mX5_inkUsed ∈ zTw := zTw_mem (List.mem_of_getElem? (i := 1112) (by decide +kernel)) rfl
theorem zhn_X5_inkUsed : mX5_inkUsed.1.cls ≠ "java/lang/invoke/MethodHandle" ∧ mX5_inkUsed.1.cls ≠ "java/lang/invoke/VarHandle" ∧ (parseMethodDescriptor mX5_inkUsed.1.desc).map (fun d => d.parameters.length) = some 2 := ⟨by decide +kernel, by decide +kernel, by decide +kernel⟩
def mX5_farFromLetters : zMeth := (yX5_farFromLetters, cX5_farFromLetters, 7, some .long)
theorem zcd_X5_farFromLetters : zcode mX5_farFromLetters ∈ zTw := zTw_mem (List.mem_of_getElem? (i := 1117) (by decide +kernel)) rfl
theorem zhn_X5_farFromLetters : mX5_farFromLetters.1.cls ≠ "java/lang/invoke/MethodHandle" ∧ mX5_farFromLetters.1.cls ≠ "java/lang/invoke/VarHandle" ∧ (parseMethodDescriptor mX5_farFromLetters.1.desc).map (fun d => d.parameters.length) = some 2 := ⟨by decide +kernel, by decide +kernel, by decide +kernel⟩
def mX5_countDifferent : zMeth := (yX5_countDifferent, cX5_countDifferent, 6, some .int)
theorem zcd_X5_countDifferent : zcode mX5_countDifferent ∈ zTw := zTw_mem (List.mem_of_getElem? (i := 1122) (by decide +kernel)) rfl
theorem zhn_X5_countDifferent : mX5_countDifferent.1.cls ≠ "java/lang/invoke/MethodHandle" ∧ mX5_countDifferent.1.cls ≠ "java/lang/invoke/VarHandle" ∧ (parseMethodDescriptor mX5_countDifferent.1.desc).map (fun d => d.parameters.length) = some 1 := ⟨by decide +kernel, by decide +kernel, by decide +kernel⟩
def mX5_slipped : zMeth := (yX5_slipped, cX5_slipped, 9, some .int)
theorem zcd_X5_slipped : zcode mX5_slipped ∈ zTw := zTw_mem (List.mem_of_getElem? (i := 1134) (by decide +kernel)) rfl
theorem zhn_X5_slipped : mX5_slipped.1.cls ≠ "java/lang/invoke/MethodHandle" ∧ mX5_slipped.1.cls ≠ "java/lang/invoke/VarHandle" ∧ (parseMethodDescriptor mX5_slipped.1.desc).map (fun d => d.parameters.length) = some 5 := ⟨by decide +kernel, by decide +kernel, by decide +kernel⟩
def mX6_init : zMeth := (yX6_init, cX6_init, 1, none)
theorem zcd_X6_init : zcode mX6_init ∈ zTw := zTw_mem (List.mem_of_getElem? (i := 142) (by decide +kernel)) rfl
theorem zhn_X6_init : mX6_init.1.cls ≠ "java/lang/invoke/MethodHandle" ∧ mX6_init.1.cls ≠ "java/lang/invoke/VarHandle" ∧ (parseMethodDescriptor mX6_init.1.desc).map (fun d => d.parameters.length) = some 0 := ⟨by decide +kernel, by decide +kernel, by decide +kernel⟩
def mX6_clear : zMeth := (yX6_clear, cX6_clear, 1, none)
theorem zcd_X6_clear : zcode mX6_clear ∈ zTw := zTw_mem (List.mem_of_getElem? (i := 789) (by decide +kernel)) rfl
theorem zhn_X6_clear : mX6_clear.1.cls ≠ "java/lang/invoke/MethodHandle" ∧ mX6_clear.1.cls ≠ "java/lang/invoke/VarHandle" ∧ (parseMethodDescriptor mX6_clear.1.desc).map (fun d => d.parameters.length) = some 0 := ⟨by decide +kernel, by decide +kernel, by decide +kernel⟩
def mX6_append : zMeth := (yX6_append, cX6_append, 3, none)
theorem zcd_X6_append : zcode mX6_append ∈ zTw := zTw_mem (List.mem_of_getElem? (i := 793) (by decide +kernel)) rfl
theorem zhn_X6_append : mX6_append.1.cls ≠ "java/lang/invoke/MethodHandle" ∧ mX6_append.1.cls ≠ "java/lang/invoke/VarHandle" ∧ (parseMethodDescriptor mX6_append.1.desc).map (fun d => d.parameters.length) = some 1 := ⟨by decide +kernel, by decide +kernel, by decide +kernel⟩
def mX7_init : zMeth := (yX7_init, cX7_init, 4, none)
theorem zcd_X7_init : zcode mX7_init ∈ zTw := zTw_mem (List.mem_of_getElem? (i := 158) (by decide +kernel)) rfl
theorem zhn_X7_init : mX7_init.1.cls ≠ "java/lang/invoke/MethodHandle" ∧ mX7_init.1.cls ≠ "java/lang/invoke/VarHandle" ∧ (parseMethodDescriptor mX7_init.1.desc).map (fun d => d.parameters.length) = some 0 := ⟨by decide +kernel, by decide +kernel, by decide +kernel⟩
def mX7_copyFrom : zMeth := (yX7_copyFrom, cX7_copyFrom, 3, none)
theorem zcd_X7_copyFrom : zcode mX7_copyFrom ∈ zTw := zTw_mem (List.mem_of_getElem? (i := 564) (by decide +kernel)) rfl
theorem zhn_X7_copyFrom : mX7_copyFrom.1.cls ≠ "java/lang/invoke/MethodHandle" ∧ mX7_copyFrom.1.cls ≠ "java/lang/invoke/VarHandle" ∧ (parseMethodDescriptor mX7_copyFrom.1.desc).map (fun d => d.parameters.length) = some 1 := ⟨by decide +kernel, by decide +kernel, by decide +kernel⟩
def mX7_lightOf : zMeth := (yX7_lightOf, cX7_lightOf, 3, some .int)
theorem zcd_X7_lightOf : zcode mX7_lightOf ∈ zTw := zTw_mem (List.mem_of_getElem? (i := 824) (by decide +kernel)) rfl
theorem zhn_X7_lightOf : mX7_lightOf.1.cls ≠ "java/lang/invoke/MethodHandle" ∧ mX7_lightOf.1.cls ≠ "java/lang/invoke/VarHandle" ∧ (parseMethodDescriptor mX7_lightOf.1.desc).map (fun d => d.parameters.length) = some 2 := ⟨by decide +kernel, by decide +kernel, by decide +kernel⟩
def mX7_reckoned : zMeth := (yX7_reckoned, cX7_reckoned, 8, some .int)
theorem zcd_X7_reckoned : zcode mX7_reckoned ∈ zTw := zTw_mem (List.mem_of_getElem? (i := 828) (by decide +kernel)) rfl
theorem zhn_X7_reckoned : mX7_reckoned.1.cls ≠ "java/lang/invoke/MethodHandle" ∧ mX7_reckoned.1.cls ≠ "java/lang/invoke/VarHandle" ∧ (parseMethodDescriptor mX7_reckoned.1.desc).map (fun d => d.parameters.length) = some 2 := ⟨by decide +kernel, by decide +kernel, by decide +kernel⟩
def mX7_countMeasured : zMeth := (yX7_countMeasured, cX7_countMeasured, 3, some .int)
theorem zcd_X7_countMeasured : zcode mX7_countMeasured ∈ zTw := zTw_mem (List.mem_of_getElem? (i := 611) (by decide +kernel)) rfl
theorem zhn_X7_countMeasured : mX7_countMeasured.1.cls ≠ "java/lang/invoke/MethodHandle" ∧ mX7_countMeasured.1.cls ≠ "java/lang/invoke/VarHandle" ∧ (parseMethodDescriptor mX7_countMeasured.1.desc).map (fun d => d.parameters.length) = some 0 := ⟨by decide +kernel, by decide +kernel, by decide +kernel⟩
def mX7_tellPatch : zMeth := (yX7_tellPatch, cX7_tellPatch, 5, some .int)
theorem zcd_X7_tellPatch : zcode mX7_tellPatch ∈ zTw := zTw_mem (List.mem_of_getElem? (i := 593) (by decide +kernel)) rfl
theorem zhn_X7_tellPatch : mX7_tellPatch.1.cls ≠ "java/lang/invoke/MethodHandle" ∧ mX7_tellPatch.1.cls ≠ "java/lang/invoke/VarHandle" ∧ (parseMethodDescriptor mX7_tellPatch.1.desc).map (fun d => d.parameters.length) = some 4 := ⟨by decide +kernel, by decide +kernel, by decide +kernel⟩
def mX7_dropPatch : zMeth := (yX7_dropPatch, cX7_dropPatch, 2, some .int)
theorem zcd_X7_dropPatch : zcode mX7_dropPatch ∈ zTw := zTw_mem (List.mem_of_getElem? (i := 748) (by decide +kernel)) rfl
theorem zhn_X7_dropPatch : mX7_dropPatch.1.cls ≠ "java/lang/invoke/MethodHandle" ∧ mX7_dropPatch.1.cls ≠ "java/lang/invoke/VarHandle" ∧ (parseMethodDescriptor mX7_dropPatch.1.desc).map (fun d => d.parameters.length) = some 1 := ⟨by decide +kernel, by decide +kernel, by decide +kernel⟩
def mX7_change : zMeth := (yX7_change, cX7_change, 4, some .int)
theorem zcd_X7_change : zcode mX7_change ∈ zTw := zTw_mem (List.mem_of_getElem? (i := 756) (by decide +kernel)) rfl
theorem zhn_X7_change : mX7_change.1.cls ≠ "java/lang/invoke/MethodHandle" ∧ mX7_change.1.cls ≠ "java/lang/invoke/VarHandle" ∧ (parseMethodDescriptor mX7_change.1.desc).map (fun d => d.parameters.length) = some 2 := ⟨by decide +kernel, by decide +kernel, by decide +kernel⟩
def mX7_paintLetter : zMeth := (yX7_paintLetter, cX7_paintLetter, 7, some .int)
theorem zcd_X7_paintLetter : zcode mX7_paintLetter ∈ zTw := zTw_mem (List.mem_of_getElem? (i := 768) (by decide +kernel)) rfl
theorem zhn_X7_paintLetter : mX7_paintLetter.1.cls ≠ "java/lang/invoke/MethodHandle" ∧ mX7_paintLetter.1.cls ≠ "java/lang/invoke/VarHandle" ∧ (parseMethodDescriptor mX7_paintLetter.1.desc).map (fun d => d.parameters.length) = some 4 := ⟨by decide +kernel, by decide +kernel, by decide +kernel⟩
def mX7_hang : zMeth := (yX7_hang, cX7_hang, 4, none)
theorem zcd_X7_hang : zcode mX7_hang ∈ zTw := zTw_mem (List.mem_of_getElem? (i := 717) (by decide +kernel)) rfl
theorem zhn_X7_hang : mX7_hang.1.cls ≠ "java/lang/invoke/MethodHandle" ∧ mX7_hang.1.cls ≠ "java/lang/invoke/VarHandle" ∧ (parseMethodDescriptor mX7_hang.1.desc).map (fun d => d.parameters.length) = some 1 := ⟨by decide +kernel, by decide +kernel, by decide +kernel⟩
def mX7_cellCount : zMeth := (yX7_cellCount, cX7_cellCount, 1, some .int)
theorem zcd_X7_cellCount : zcode mX7_cellCount ∈ zTw := zTw_mem (List.mem_of_getElem? (i := 722) (by decide +kernel)) rfl
theorem zhn_X7_cellCount : mX7_cellCount.1.cls ≠ "java/lang/invoke/MethodHandle" ∧ mX7_cellCount.1.cls ≠ "java/lang/invoke/VarHandle" ∧ (parseMethodDescriptor mX7_cellCount.1.desc).map (fun d => d.parameters.length) = some 0 := ⟨by decide +kernel, by decide +kernel, by decide +kernel⟩
def mX7_bentFromStraight : zMeth := (yX7_bentFromStraight, cX7_bentFromStraight, 4, some .int)
theorem zcd_X7_bentFromStraight : zcode mX7_bentFromStraight ∈ zTw := zTw_mem (List.mem_of_getElem? (i := 636) (by decide +kernel)) rfl
theorem zhn_X7_bentFromStraight : mX7_bentFromStraight.1.cls ≠ "java/lang/invoke/MethodHandle" ∧ mX7_bentFromStraight.1.cls ≠ "java/lang/invoke/VarHandle" ∧ (parseMethodDescriptor mX7_bentFromStraight.1.desc).map (fun d => d.parameters.length) = some 1 := ⟨by decide +kernel, by decide +kernel, by decide +kernel⟩
def mX7_weighed : zMeth := (yX7_weighed, cX7_weighed, 4, some .int)
theorem zcd_X7_weighed : zcode mX7_weighed ∈ zTw := zTw_mem (List.mem_of_getElem? (i := 775) (by decide +kernel)) rfl
theorem zhn_X7_weighed : mX7_weighed.1.cls ≠ "java/lang/invoke/MethodHandle" ∧ mX7_weighed.1.cls ≠ "java/lang/invoke/VarHandle" ∧ (parseMethodDescriptor mX7_weighed.1.desc).map (fun d => d.parameters.length) = some 3 := ⟨by decide +kernel, by decide +kernel, by decide +kernel⟩
def mX7_unlike : zMeth := (yX7_unlike, cX7_unlike, 2, some .int)
theorem zcd_X7_unlike : zcode mX7_unlike ∈ zTw := zTw_mem (List.mem_of_getElem? (i := 1165) (by decide +kernel)) rfl
theorem zhn_X7_unlike : mX7_unlike.1.cls ≠ "java/lang/invoke/MethodHandle" ∧ mX7_unlike.1.cls ≠ "java/lang/invoke/VarHandle" ∧ (parseMethodDescriptor mX7_unlike.1.desc).map (fun d => d.parameters.length) = some 1 := ⟨by decide +kernel, by decide +kernel, by decide +kernel⟩
def mX7_isOpen : zMeth := (yX7_isOpen, cX7_isOpen, 2, some .boolean)
theorem zcd_X7_isOpen : zcode mX7_isOpen ∈ zTw := zTw_mem (List.mem_of_getElem? (i := 854) (by decide +kernel)) rfl
theorem zhn_X7_isOpen : mX7_isOpen.1.cls ≠ "java/lang/invoke/MethodHandle" ∧ mX7_isOpen.1.cls ≠ "java/lang/invoke/VarHandle" ∧ (parseMethodDescriptor mX7_isOpen.1.desc).map (fun d => d.parameters.length) = some 1 := ⟨by decide +kernel, by decide +kernel, by decide +kernel⟩
def mX8_init : zMeth := (yX8_init, cX8_init, 4, none)
theorem zcd_X8_init : zcode mX8_init ∈ zTw := zTw_mem (List.mem_of_getElem? (i := 651) (by decide +kernel)) rfl
theorem zhn_X8_init : mX8_init.1.cls ≠ "java/lang/invoke/MethodHandle" ∧ mX8_init.1.cls ≠ "java/lang/invoke/VarHandle" ∧ (parseMethodDescriptor mX8_init.1.desc).map (fun d => d.parameters.length) = some 3 := ⟨by decide +kernel, by decide +kernel, by decide +kernel⟩
def mX8_append : zMeth := (yX8_append, cX8_append, 2, none)
theorem zcd_X8_append : zcode mX8_append ∈ zTw := zTw_mem (List.mem_of_getElem? (i := 693) (by decide +kernel)) rfl
theorem zhn_X8_append : mX8_append.1.cls ≠ "java/lang/invoke/MethodHandle" ∧ mX8_append.1.cls ≠ "java/lang/invoke/VarHandle" ∧ (parseMethodDescriptor mX8_append.1.desc).map (fun d => d.parameters.length) = some 1 := ⟨by decide +kernel, by decide +kernel, by decide +kernel⟩
def mX8_longOf : zMeth := (yX8_longOf, cX8_longOf, 4, some .int)
theorem zcd_X8_longOf : zcode mX8_longOf ∈ zTw := zTw_mem (List.mem_of_getElem? (i := 703) (by decide +kernel)) rfl
theorem zhn_X8_longOf : mX8_longOf.1.cls ≠ "java/lang/invoke/MethodHandle" ∧ mX8_longOf.1.cls ≠ "java/lang/invoke/VarHandle" ∧ (parseMethodDescriptor mX8_longOf.1.desc).map (fun d => d.parameters.length) = some 2 := ⟨by decide +kernel, by decide +kernel, by decide +kernel⟩
def mX9_init : zMeth := (yX9_init, cX9_init, 1, none)
theorem zcd_X9_init : zcode mX9_init ∈ zTw := zTw_mem (List.mem_of_getElem? (i := 125) (by decide +kernel)) rfl
theorem zhn_X9_init : mX9_init.1.cls ≠ "java/lang/invoke/MethodHandle" ∧ mX9_init.1.cls ≠ "java/lang/invoke/VarHandle" ∧ (parseMethodDescriptor mX9_init.1.desc).map (fun d => d.parameters.length) = some 0 := ⟨by decide +kernel, by decide +kernel, by decide +kernel⟩
def mX9_append : zMeth := (yX9_append, cX9_append, 2, none)
theorem zcd_X9_append : zcode mX9_append ∈ zTw := zTw_mem (List.mem_of_getElem? (i := 391) (by decide +kernel)) rfl
theorem zhn_X9_append : mX9_append.1.cls ≠ "java/lang/invoke/MethodHandle" ∧ mX9_append.1.cls ≠ "java/lang/invoke/VarHandle" ∧ (parseMethodDescriptor mX9_append.1.desc).map (fun d => d.parameters.length) = some 1 := ⟨by decide +kernel, by decide +kernel, by decide +kernel⟩
def mX9_at : zMeth := (yX9_at, cX9_at, 2, some .int)
theorem zcd_X9_at : zcode mX9_at ∈ zTw := zTw_mem (List.mem_of_getElem? (i := 585) (by decide +kernel)) rfl
theorem zhn_X9_at : mX9_at.1.cls ≠ "java/lang/invoke/MethodHandle" ∧ mX9_at.1.cls ≠ "java/lang/invoke/VarHandle" ∧ (parseMethodDescriptor mX9_at.1.desc).map (fun d => d.parameters.length) = some 1 := ⟨by decide +kernel, by decide +kernel, by decide +kernel⟩
def mX9_digit : zMeth := (yX9_digit, cX9_digit, 2, some .int)
theorem zcd_X9_digit : zcode mX9_digit ∈ zTw := zTw_mem (List.mem_of_getElem? (i := 581) (by decide +kernel)) rfl
theorem zhn_X9_digit : mX9_digit.1.cls ≠ "java/lang/invoke/MethodHandle" ∧ mX9_digit.1.cls ≠ "java/lang/invoke/VarHandle" ∧ (parseMethodDescriptor mX9_digit.1.desc).map (fun d => d.parameters.length) = some 1 := ⟨by decide +kernel, by decide +kernel, by decide +kernel⟩
def mX9_two : zMeth := (yX9_two, cX9_two, 2, some .int)
theorem zcd_X9_two : zcode mX9_two ∈ zTw := zTw_mem (List.mem_of_getElem? (i := 589) (by decide +kernel)) rfl
theorem zhn_X9_two : mX9_two.1.cls ≠ "java/lang/invoke/MethodHandle" ∧ mX9_two.1.cls ≠ "java/lang/invoke/VarHandle" ∧ (parseMethodDescriptor mX9_two.1.desc).map (fun d => d.parameters.length) = some 1 := ⟨by decide +kernel, by decide +kernel, by decide +kernel⟩
def mX9_patch : zMeth := (yX9_patch, cX9_patch, 2, some .int)
theorem zcd_X9_patch : zcode mX9_patch ∈ zTw := zTw_mem (List.mem_of_getElem? (i := 577) (by decide +kernel)) rfl
theorem zhn_X9_patch : mX9_patch.1.cls ≠ "java/lang/invoke/MethodHandle" ∧ mX9_patch.1.cls ≠ "java/lang/invoke/VarHandle" ∧ (parseMethodDescriptor mX9_patch.1.desc).map (fun d => d.parameters.length) = some 1 := ⟨by decide +kernel, by decide +kernel, by decide +kernel⟩
def mX9_has : zMeth := (yX9_has, cX9_has, 3, some .boolean)
theorem zcd_X9_has : zcode mX9_has ∈ zTw := zTw_mem (List.mem_of_getElem? (i := 698) (by decide +kernel)) rfl
theorem zhn_X9_has : mX9_has.1.cls ≠ "java/lang/invoke/MethodHandle" ∧ mX9_has.1.cls ≠ "java/lang/invoke/VarHandle" ∧ (parseMethodDescriptor mX9_has.1.desc).map (fun d => d.parameters.length) = some 1 := ⟨by decide +kernel, by decide +kernel, by decide +kernel⟩
def mX9_operand : zMeth := (yX9_operand, cX9_operand, 3, some .int)
theorem zcd_X9_operand : zcode mX9_operand ∈ zTw := zTw_mem (List.mem_of_getElem? (i := 689) (by decide +kernel)) rfl
theorem zhn_X9_operand : mX9_operand.1.cls ≠ "java/lang/invoke/MethodHandle" ∧ mX9_operand.1.cls ≠ "java/lang/invoke/VarHandle" ∧ (parseMethodDescriptor mX9_operand.1.desc).map (fun d => d.parameters.length) = some 1 := ⟨by decide +kernel, by decide +kernel, by decide +kernel⟩
def mX9_inkOf : zMeth := (yX9_inkOf, cX9_inkOf, 1, some .int)
theorem zcd_X9_inkOf : zcode mX9_inkOf ∈ zTw := zTw_mem (List.mem_of_getElem? (i := 488) (by decide +kernel)) rfl
theorem zhn_X9_inkOf : mX9_inkOf.1.cls ≠ "java/lang/invoke/MethodHandle" ∧ mX9_inkOf.1.cls ≠ "java/lang/invoke/VarHandle" ∧ (parseMethodDescriptor mX9_inkOf.1.desc).map (fun d => d.parameters.length) = some 1 := ⟨by decide +kernel, by decide +kernel, by decide +kernel⟩
def mX9_stepForm : zMeth := (yX9_stepForm, cX9_stepForm, 1, some (.object "java/lang/String"))
theorem zcd_X9_stepForm : zcode mX9_stepForm ∈ zTw := zTw_mem (List.mem_of_getElem? (i := 421) (by decide +kernel)) rfl
theorem zhn_X9_stepForm : mX9_stepForm.1.cls ≠ "java/lang/invoke/MethodHandle" ∧ mX9_stepForm.1.cls ≠ "java/lang/invoke/VarHandle" ∧ (parseMethodDescriptor mX9_stepForm.1.desc).map (fun d => d.parameters.length) = some 1 := ⟨by decide +kernel, by decide +kernel, by decide +kernel⟩
def mX9_actForm : zMeth := (yX9_actForm, cX9_actForm, 1, some (.object "java/lang/String"))
theorem zcd_X9_actForm : zcode mX9_actForm ∈ zTw := zTw_mem (List.mem_of_getElem? (i := 434) (by decide +kernel)) rfl
theorem zhn_X9_actForm : mX9_actForm.1.cls ≠ "java/lang/invoke/MethodHandle" ∧ mX9_actForm.1.cls ≠ "java/lang/invoke/VarHandle" ∧ (parseMethodDescriptor mX9_actForm.1.desc).map (fun d => d.parameters.length) = some 1 := ⟨by decide +kernel, by decide +kernel, by decide +kernel⟩
def mX9_formOf : zMeth := (yX9_formOf, cX9_formOf, 2, some (.object "java/lang/String"))
theorem zcd_X9_formOf : zcode mX9_formOf ∈ zTw := zTw_mem (List.mem_of_getElem? (i := 417) (by decide +kernel)) rfl
theorem zhn_X9_formOf : mX9_formOf.1.cls ≠ "java/lang/invoke/MethodHandle" ∧ mX9_formOf.1.cls ≠ "java/lang/invoke/VarHandle" ∧ (parseMethodDescriptor mX9_formOf.1.desc).map (fun d => d.parameters.length) = some 2 := ⟨by decide +kernel, by decide +kernel, by decide +kernel⟩
def mX9_canStand : zMeth := (yX9_canStand, cX9_canStand, 3, some .boolean)
theorem zcd_X9_canStand : zcode mX9_canStand ∈ zTw := zTw_mem (List.mem_of_getElem? (i := 485) (by decide +kernel)) rfl
theorem zhn_X9_canStand : mX9_canStand.1.cls ≠ "java/lang/invoke/MethodHandle" ∧ mX9_canStand.1.cls ≠ "java/lang/invoke/VarHandle" ∧ (parseMethodDescriptor mX9_canStand.1.desc).map (fun d => d.parameters.length) = some 3 := ⟨by decide +kernel, by decide +kernel, by decide +kernel⟩
def mX9_wrongAt : zMeth := (yX9_wrongAt, cX9_wrongAt, 8, some .int)
theorem zcd_X9_wrongAt : zcode mX9_wrongAt ∈ zTw := zTw_mem (List.mem_of_getElem? (i := 403) (by decide +kernel)) rfl
theorem zhn_X9_wrongAt : mX9_wrongAt.1.cls ≠ "java/lang/invoke/MethodHandle" ∧ mX9_wrongAt.1.cls ≠ "java/lang/invoke/VarHandle" ∧ (parseMethodDescriptor mX9_wrongAt.1.desc).map (fun d => d.parameters.length) = some 2 := ⟨by decide +kernel, by decide +kernel, by decide +kernel⟩
def mX9_curveWrongAt : zMeth := (yX9_curveWrongAt, cX9_curveWrongAt, 3, some .int)
theorem zcd_X9_curveWrongAt : zcode mX9_curveWrongAt ∈ zTw := zTw_mem (List.mem_of_getElem? (i := 628) (by decide +kernel)) rfl
theorem zhn_X9_curveWrongAt : mX9_curveWrongAt.1.cls ≠ "java/lang/invoke/MethodHandle" ∧ mX9_curveWrongAt.1.cls ≠ "java/lang/invoke/VarHandle" ∧ (parseMethodDescriptor mX9_curveWrongAt.1.desc).map (fun d => d.parameters.length) = some 0 := ⟨by decide +kernel, by decide +kernel, by decide +kernel⟩
def mX9_pictureWrongAt : zMeth := (yX9_pictureWrongAt, cX9_pictureWrongAt, 6, some .int)
theorem zcd_X9_pictureWrongAt : zcode mX9_pictureWrongAt ∈ zTw := zTw_mem (List.mem_of_getElem? (i := 713) (by decide +kernel)) rfl
theorem zhn_X9_pictureWrongAt : mX9_pictureWrongAt.1.cls ≠ "java/lang/invoke/MethodHandle" ∧ mX9_pictureWrongAt.1.cls ≠ "java/lang/invoke/VarHandle" ∧ (parseMethodDescriptor mX9_pictureWrongAt.1.desc).map (fun d => d.parameters.length) = some 0 := ⟨by decide +kernel, by decide +kernel, by decide +kernel⟩
def mX10_init : zMeth := (yX10_init, cX10_init, 2, none)
theorem zcd_X10_init : zcode mX10_init ∈ zTw := zTw_mem (List.mem_of_getElem? (i := 117) (by decide +kernel)) rfl
theorem zhn_X10_init : mX10_init.1.cls ≠ "java/lang/invoke/MethodHandle" ∧ mX10_init.1.cls ≠ "java/lang/invoke/VarHandle" ∧ (parseMethodDescriptor mX10_init.1.desc).map (fun d => d.parameters.length) = some 0 := ⟨by decide +kernel, by decide +kernel, by decide +kernel⟩
def mX10_sign : zMeth := (yX10_sign, cX10_sign, 3, some .int)
theorem zcd_X10_sign : zcode mX10_sign ∈ zTw := zTw_mem (List.mem_of_getElem? (i := 387) (by decide +kernel)) rfl
theorem zhn_X10_sign : mX10_sign.1.cls ≠ "java/lang/invoke/MethodHandle" ∧ mX10_sign.1.cls ≠ "java/lang/invoke/VarHandle" ∧ (parseMethodDescriptor mX10_sign.1.desc).map (fun d => d.parameters.length) = some 1 := ⟨by decide +kernel, by decide +kernel, by decide +kernel⟩
def mX10_end : zMeth := (yX10_end, cX10_end, 2, some .boolean)
theorem zcd_X10_end : zcode mX10_end ∈ zTw := zTw_mem (List.mem_of_getElem? (i := 395) (by decide +kernel)) rfl
theorem zhn_X10_end : mX10_end.1.cls ≠ "java/lang/invoke/MethodHandle" ∧ mX10_end.1.cls ≠ "java/lang/invoke/VarHandle" ∧ (parseMethodDescriptor mX10_end.1.desc).map (fun d => d.parameters.length) = some 1 := ⟨by decide +kernel, by decide +kernel, by decide +kernel⟩
def mX10_patches : zMeth := (yX10_patches, cX10_patches, 4, some .int)
theorem zcd_X10_patches : zcode mX10_patches ∈ zTw := zTw_mem (List.mem_of_getElem? (i := 399) (by decide +kernel)) rfl
theorem zhn_X10_patches : mX10_patches.1.cls ≠ "java/lang/invoke/MethodHandle" ∧ mX10_patches.1.cls ≠ "java/lang/invoke/VarHandle" ∧ (parseMethodDescriptor mX10_patches.1.desc).map (fun d => d.parameters.length) = some 0 := ⟨by decide +kernel, by decide +kernel, by decide +kernel⟩
def mX10_curve : zMeth := (yX10_curve, cX10_curve, 4, some .int)
theorem zcd_X10_curve : zcode mX10_curve ∈ zTw := zTw_mem (List.mem_of_getElem? (i := 624) (by decide +kernel)) rfl
theorem zhn_X10_curve : mX10_curve.1.cls ≠ "java/lang/invoke/MethodHandle" ∧ mX10_curve.1.cls ≠ "java/lang/invoke/VarHandle" ∧ (parseMethodDescriptor mX10_curve.1.desc).map (fun d => d.parameters.length) = some 1 := ⟨by decide +kernel, by decide +kernel, by decide +kernel⟩
def mX10_link : zMeth := (yX10_link, cX10_link, 3, some .int)
theorem zcd_X10_link : zcode mX10_link ∈ zTw := zTw_mem (List.mem_of_getElem? (i := 643) (by decide +kernel)) rfl
theorem zhn_X10_link : mX10_link.1.cls ≠ "java/lang/invoke/MethodHandle" ∧ mX10_link.1.cls ≠ "java/lang/invoke/VarHandle" ∧ (parseMethodDescriptor mX10_link.1.desc).map (fun d => d.parameters.length) = some 0 := ⟨by decide +kernel, by decide +kernel, by decide +kernel⟩
def mX10_picture : zMeth := (yX10_picture, cX10_picture, 2, some .int)
theorem zcd_X10_picture : zcode mX10_picture ∈ zTw := zTw_mem (List.mem_of_getElem? (i := 709) (by decide +kernel)) rfl
theorem zhn_X10_picture : mX10_picture.1.cls ≠ "java/lang/invoke/MethodHandle" ∧ mX10_picture.1.cls ≠ "java/lang/invoke/VarHandle" ∧ (parseMethodDescriptor mX10_picture.1.desc).map (fun d => d.parameters.length) = some 0 := ⟨by decide +kernel, by decide +kernel, by decide +kernel⟩
def mX10_light : zMeth := (yX10_light, cX10_light, 3, some .int)
theorem zcd_X10_light : zcode mX10_light ∈ zTw := zTw_mem (List.mem_of_getElem? (i := 1213) (by decide +kernel)) rfl
theorem zhn_X10_light : mX10_light.1.cls ≠ "java/lang/invoke/MethodHandle" ∧ mX10_light.1.cls ≠ "java/lang/invoke/VarHandle" ∧ (parseMethodDescriptor mX10_light.1.desc).map (fun d => d.parameters.length) = some 2 := ⟨by decide +kernel, by decide +kernel, by decide +kernel⟩
def mX10_bent : zMeth := (yX10_bent, cX10_bent, 3, some .int)
theorem zcd_X10_bent : zcode mX10_bent ∈ zTw := zTw_mem (List.mem_of_getElem? (i := 1283) (by decide +kernel)) rfl
theorem zhn_X10_bent : mX10_bent.1.cls ≠ "java/lang/invoke/MethodHandle" ∧ mX10_bent.1.cls ≠ "java/lang/invoke/VarHandle" ∧ (parseMethodDescriptor mX10_bent.1.desc).map (fun d => d.parameters.length) = some 2 := ⟨by decide +kernel, by decide +kernel, by decide +kernel⟩
def mX10_sheet : zMeth := (yX10_sheet, cX10_sheet, 8, some .int)
theorem zcd_X10_sheet : zcode mX10_sheet ∈ zTw := zTw_mem (List.mem_of_getElem? (i := 726) (by decide +kernel)) rfl
theorem zhn_X10_sheet : mX10_sheet.1.cls ≠ "java/lang/invoke/MethodHandle" ∧ mX10_sheet.1.cls ≠ "java/lang/invoke/VarHandle" ∧ (parseMethodDescriptor mX10_sheet.1.desc).map (fun d => d.parameters.length) = some 4 := ⟨by decide +kernel, by decide +kernel, by decide +kernel⟩
def mX10_entryOf : zMeth := (yX10_entryOf, cX10_entryOf, 2, some .int)
theorem zcd_X10_entryOf : zcode mX10_entryOf ∈ zTw := zTw_mem (List.mem_of_getElem? (i := 731) (by decide +kernel)) rfl
theorem zhn_X10_entryOf : mX10_entryOf.1.cls ≠ "java/lang/invoke/MethodHandle" ∧ mX10_entryOf.1.cls ≠ "java/lang/invoke/VarHandle" ∧ (parseMethodDescriptor mX10_entryOf.1.desc).map (fun d => d.parameters.length) = some 2 := ⟨by decide +kernel, by decide +kernel, by decide +kernel⟩
def mX10_refusedText : zMeth := (yX10_refusedText, cX10_refusedText, 2, some .int)
theorem zcd_X10_refusedText : zcode mX10_refusedText ∈ zTw := zTw_mem (List.mem_of_getElem? (i := 552) (by decide +kernel)) rfl
theorem zhn_X10_refusedText : mX10_refusedText.1.cls ≠ "java/lang/invoke/MethodHandle" ∧ mX10_refusedText.1.cls ≠ "java/lang/invoke/VarHandle" ∧ (parseMethodDescriptor mX10_refusedText.1.desc).map (fun d => d.parameters.length) = some 1 := ⟨by decide +kernel, by decide +kernel, by decide +kernel⟩
def mX10_tellPatchAt : zMeth := (yX10_tellPatchAt, cX10_tellPatchAt, 2, some .int)
theorem zcd_X10_tellPatchAt : zcode mX10_tellPatchAt ∈ zTw := zTw_mem (List.mem_of_getElem? (i := 573) (by decide +kernel)) rfl
theorem zhn_X10_tellPatchAt : mX10_tellPatchAt.1.cls ≠ "java/lang/invoke/MethodHandle" ∧ mX10_tellPatchAt.1.cls ≠ "java/lang/invoke/VarHandle" ∧ (parseMethodDescriptor mX10_tellPatchAt.1.desc).map (fun d => d.parameters.length) = some 1 := ⟨by decide +kernel, by decide +kernel, by decide +kernel⟩
def mX10_measure : zMeth := (yX10_measure, cX10_measure, 5, some .int)
theorem zcd_X10_measure : zcode mX10_measure ∈ zTw := zTw_mem (List.mem_of_getElem? (i := 740) (by decide +kernel)) rfl
theorem zhn_X10_measure : mX10_measure.1.cls ≠ "java/lang/invoke/MethodHandle" ∧ mX10_measure.1.cls ≠ "java/lang/invoke/VarHandle" ∧ (parseMethodDescriptor mX10_measure.1.desc).map (fun d => d.parameters.length) = some 4 := ⟨by decide +kernel, by decide +kernel, by decide +kernel⟩
def mX10_forgets : zMeth := (yX10_forgets, cX10_forgets, 2, some .int)
theorem zcd_X10_forgets : zcode mX10_forgets ∈ zTw := zTw_mem (List.mem_of_getElem? (i := 744) (by decide +kernel)) rfl
theorem zhn_X10_forgets : mX10_forgets.1.cls ≠ "java/lang/invoke/MethodHandle" ∧ mX10_forgets.1.cls ≠ "java/lang/invoke/VarHandle" ∧ (parseMethodDescriptor mX10_forgets.1.desc).map (fun d => d.parameters.length) = some 1 := ⟨by decide +kernel, by decide +kernel, by decide +kernel⟩
def mX10_sets : zMeth := (yX10_sets, cX10_sets, 3, some .int)
theorem zcd_X10_sets : zcode mX10_sets ∈ zTw := zTw_mem (List.mem_of_getElem? (i := 752) (by decide +kernel)) rfl
theorem zhn_X10_sets : mX10_sets.1.cls ≠ "java/lang/invoke/MethodHandle" ∧ mX10_sets.1.cls ≠ "java/lang/invoke/VarHandle" ∧ (parseMethodDescriptor mX10_sets.1.desc).map (fun d => d.parameters.length) = some 2 := ⟨by decide +kernel, by decide +kernel, by decide +kernel⟩
def mX10_paints : zMeth := (yX10_paints, cX10_paints, 5, some .int)
theorem zcd_X10_paints : zcode mX10_paints ∈ zTw := zTw_mem (List.mem_of_getElem? (i := 764) (by decide +kernel)) rfl
theorem zhn_X10_paints : mX10_paints.1.cls ≠ "java/lang/invoke/MethodHandle" ∧ mX10_paints.1.cls ≠ "java/lang/invoke/VarHandle" ∧ (parseMethodDescriptor mX10_paints.1.desc).map (fun d => d.parameters.length) = some 4 := ⟨by decide +kernel, by decide +kernel, by decide +kernel⟩
def mX10_day : zMeth := (yX10_day, cX10_day, 5, some .int)
theorem zcd_X10_day : zcode mX10_day ∈ zTw := zTw_mem (List.mem_of_getElem? (i := 779) (by decide +kernel)) rfl
theorem zhn_X10_day : mX10_day.1.cls ≠ "java/lang/invoke/MethodHandle" ∧ mX10_day.1.cls ≠ "java/lang/invoke/VarHandle" ∧ (parseMethodDescriptor mX10_day.1.desc).map (fun d => d.parameters.length) = some 0 := ⟨by decide +kernel, by decide +kernel, by decide +kernel⟩
def mX10_undo : zMeth := (yX10_undo, cX10_undo, 1, some .int)
theorem zcd_X10_undo : zcode mX10_undo ∈ zTw := zTw_mem (List.mem_of_getElem? (i := 797) (by decide +kernel)) rfl
theorem zhn_X10_undo : mX10_undo.1.cls ≠ "java/lang/invoke/MethodHandle" ∧ mX10_undo.1.cls ≠ "java/lang/invoke/VarHandle" ∧ (parseMethodDescriptor mX10_undo.1.desc).map (fun d => d.parameters.length) = some 0 := ⟨by decide +kernel, by decide +kernel, by decide +kernel⟩
def mX10_doAct : zMeth := (yX10_doAct, cX10_doAct, 2, some .int)
theorem zcd_X10_doAct : zcode mX10_doAct ∈ zTw := zTw_mem (List.mem_of_getElem? (i := 783) (by decide +kernel)) rfl
theorem zhn_X10_doAct : mX10_doAct.1.cls ≠ "java/lang/invoke/MethodHandle" ∧ mX10_doAct.1.cls ≠ "java/lang/invoke/VarHandle" ∧ (parseMethodDescriptor mX10_doAct.1.desc).map (fun d => d.parameters.length) = some 1 := ⟨by decide +kernel, by decide +kernel, by decide +kernel⟩
def mX10_settled : zMeth := (yX10_settled, cX10_settled, 2, some .int)
theorem zcd_X10_settled : zcode mX10_settled ∈ zTw := zTw_mem (List.mem_of_getElem? (i := 615) (by decide +kernel)) rfl
theorem zhn_X10_settled : mX10_settled.1.cls ≠ "java/lang/invoke/MethodHandle" ∧ mX10_settled.1.cls ≠ "java/lang/invoke/VarHandle" ∧ (parseMethodDescriptor mX10_settled.1.desc).map (fun d => d.parameters.length) = some 1 := ⟨by decide +kernel, by decide +kernel, by decide +kernel⟩
def mX10_colour : zMeth := (yX10_colour, cX10_colour, 3, some .int)
theorem zcd_X10_colour : zcode mX10_colour ∈ zTw := zTw_mem (List.mem_of_getElem? (i := 805) (by decide +kernel)) rfl
theorem zhn_X10_colour : mX10_colour.1.cls ≠ "java/lang/invoke/MethodHandle" ∧ mX10_colour.1.cls ≠ "java/lang/invoke/VarHandle" ∧ (parseMethodDescriptor mX10_colour.1.desc).map (fun d => d.parameters.length) = some 1 := ⟨by decide +kernel, by decide +kernel, by decide +kernel⟩
def mX10_limited : zMeth := (yX10_limited, cX10_limited, 4, some .int)
theorem zcd_X10_limited : zcode mX10_limited ∈ zTw := zTw_mem (List.mem_of_getElem? (i := 871) (by decide +kernel)) rfl
theorem zhn_X10_limited : mX10_limited.1.cls ≠ "java/lang/invoke/MethodHandle" ∧ mX10_limited.1.cls ≠ "java/lang/invoke/VarHandle" ∧ (parseMethodDescriptor mX10_limited.1.desc).map (fun d => d.parameters.length) = some 2 := ⟨by decide +kernel, by decide +kernel, by decide +kernel⟩
def mX10_match : zMeth := (yX10_match, cX10_match, 5, some .int)
theorem zcd_X10_match : zcode mX10_match ∈ zTw := zTw_mem (List.mem_of_getElem? (i := 900) (by decide +kernel)) rfl
theorem zhn_X10_match : mX10_match.1.cls ≠ "java/lang/invoke/MethodHandle" ∧ mX10_match.1.cls ≠ "java/lang/invoke/VarHandle" ∧ (parseMethodDescriptor mX10_match.1.desc).map (fun d => d.parameters.length) = some 3 := ⟨by decide +kernel, by decide +kernel, by decide +kernel⟩
def mX10_fold : zMeth := (yX10_fold, cX10_fold, 6, some .int)
theorem zcd_X10_fold : zcode mX10_fold ∈ zTw := zTw_mem (List.mem_of_getElem? (i := 936) (by decide +kernel)) rfl
theorem zhn_X10_fold : mX10_fold.1.cls ≠ "java/lang/invoke/MethodHandle" ∧ mX10_fold.1.cls ≠ "java/lang/invoke/VarHandle" ∧ (parseMethodDescriptor mX10_fold.1.desc).map (fun d => d.parameters.length) = some 3 := ⟨by decide +kernel, by decide +kernel, by decide +kernel⟩
def mX10_prints : zMeth := (yX10_prints, cX10_prints, 8, some .int)
theorem zcd_X10_prints : zcode mX10_prints ∈ zTw := zTw_mem (List.mem_of_getElem? (i := 953) (by decide +kernel)) rfl
theorem zhn_X10_prints : mX10_prints.1.cls ≠ "java/lang/invoke/MethodHandle" ∧ mX10_prints.1.cls ≠ "java/lang/invoke/VarHandle" ∧ (parseMethodDescriptor mX10_prints.1.desc).map (fun d => d.parameters.length) = some 3 := ⟨by decide +kernel, by decide +kernel, by decide +kernel⟩
def mX10_ramp : zMeth := (yX10_ramp, cX10_ramp, 9, some .int)
theorem zcd_X10_ramp : zcode mX10_ramp ∈ zTw := zTw_mem (List.mem_of_getElem? (i := 996) (by decide +kernel)) rfl
theorem zhn_X10_ramp : mX10_ramp.1.cls ≠ "java/lang/invoke/MethodHandle" ∧ mX10_ramp.1.cls ≠ "java/lang/invoke/VarHandle" ∧ (parseMethodDescriptor mX10_ramp.1.desc).map (fun d => d.parameters.length) = some 2 := ⟨by decide +kernel, by decide +kernel, by decide +kernel⟩
def mX10_way : zMeth := (yX10_way, cX10_way, 6, some .int)
theorem zcd_X10_way : zcode mX10_way ∈ zTw := zTw_mem (List.mem_of_getElem? (i := 1008) (by decide +kernel)) rfl
theorem zhn_X10_way : mX10_way.1.cls ≠ "java/lang/invoke/MethodHandle" ∧ mX10_way.1.cls ≠ "java/lang/invoke/VarHandle" ∧ (parseMethodDescriptor mX10_way.1.desc).map (fun d => d.parameters.length) = some 3 := ⟨by decide +kernel, by decide +kernel, by decide +kernel⟩
def mX10_rises : zMeth := (yX10_rises, cX10_rises, 4, some .int)
theorem zcd_X10_rises : zcode mX10_rises ∈ zTw := zTw_mem (List.mem_of_getElem? (i := 1030) (by decide +kernel)) rfl
theorem zhn_X10_rises : mX10_rises.1.cls ≠ "java/lang/invoke/MethodHandle" ∧ mX10_rises.1.cls ≠ "java/lang/invoke/VarHandle" ∧ (parseMethodDescriptor mX10_rises.1.desc).map (fun d => d.parameters.length) = some 1 := ⟨by decide +kernel, by decide +kernel, by decide +kernel⟩
def mX10_reach : zMeth := (yX10_reach, cX10_reach, 6, some .int)
theorem zcd_X10_reach : zcode mX10_reach ∈ zTw := zTw_mem (List.mem_of_getElem? (i := 1047) (by decide +kernel)) rfl
theorem zhn_X10_reach : mX10_reach.1.cls ≠ "java/lang/invoke/MethodHandle" ∧ mX10_reach.1.cls ≠ "java/lang/invoke/VarHandle" ∧ (parseMethodDescriptor mX10_reach.1.desc).map (fun d => d.parameters.length) = some 1 := ⟨by decide +kernel, by decide +kernel, by decide +kernel⟩
def mX10_spread : zMeth := (yX10_spread, cX10_spread, 5, some .int)
theorem zcd_X10_spread : zcode mX10_spread ∈ zTw := zTw_mem (List.mem_of_getElem? (i := 1054) (by decide +kernel)) rfl
theorem zhn_X10_spread : mX10_spread.1.cls ≠ "java/lang/invoke/MethodHandle" ∧ mX10_spread.1.cls ≠ "java/lang/invoke/VarHandle" ∧ (parseMethodDescriptor mX10_spread.1.desc).map (fun d => d.parameters.length) = some 0 := ⟨by decide +kernel, by decide +kernel, by decide +kernel⟩
def mX10_odds : zMeth := (yX10_odds, cX10_odds, 7, some .int)
theorem zcd_X10_odds : zcode mX10_odds ∈ zTw := zTw_mem (List.mem_of_getElem? (i := 1066) (by decide +kernel)) rfl
theorem zhn_X10_odds : mX10_odds.1.cls ≠ "java/lang/invoke/MethodHandle" ∧ mX10_odds.1.cls ≠ "java/lang/invoke/VarHandle" ∧ (parseMethodDescriptor mX10_odds.1.desc).map (fun d => d.parameters.length) = some 4 := ⟨by decide +kernel, by decide +kernel, by decide +kernel⟩
def mX10_refresh : zMeth := (yX10_refresh, cX10_refresh, 1, none)
theorem zcd_X10_refresh : zcode mX10_refresh ∈ zTw := zTw_mem (List.mem_of_getElem? (i := 816) (by decide +kernel)) rfl
theorem zhn_X10_refresh : mX10_refresh.1.cls ≠ "java/lang/invoke/MethodHandle" ∧ mX10_refresh.1.cls ≠ "java/lang/invoke/VarHandle" ∧ (parseMethodDescriptor mX10_refresh.1.desc).map (fun d => d.parameters.length) = some 0 := ⟨by decide +kernel, by decide +kernel, by decide +kernel⟩
def mX10_tellColour : zMeth := (yX10_tellColour, cX10_tellColour, 3, none)
theorem zcd_X10_tellColour : zcode mX10_tellColour ∈ zTw := zTw_mem (List.mem_of_getElem? (i := 862) (by decide +kernel)) rfl
theorem zhn_X10_tellColour : mX10_tellColour.1.cls ≠ "java/lang/invoke/MethodHandle" ∧ mX10_tellColour.1.cls ≠ "java/lang/invoke/VarHandle" ∧ (parseMethodDescriptor mX10_tellColour.1.desc).map (fun d => d.parameters.length) = some 1 := ⟨by decide +kernel, by decide +kernel, by decide +kernel⟩
def mX10_tellFraction : zMeth := (yX10_tellFraction, cX10_tellFraction, 4, none)
theorem zcd_X10_tellFraction : zcode mX10_tellFraction ∈ zTw := zTw_mem (List.mem_of_getElem? (i := 1070) (by decide +kernel)) rfl
theorem zhn_X10_tellFraction : mX10_tellFraction.1.cls ≠ "java/lang/invoke/MethodHandle" ∧ mX10_tellFraction.1.cls ≠ "java/lang/invoke/VarHandle" ∧ (parseMethodDescriptor mX10_tellFraction.1.desc).map (fun d => d.parameters.length) = some 2 := ⟨by decide +kernel, by decide +kernel, by decide +kernel⟩
def mX10_greatestDivisor : zMeth := (yX10_greatestDivisor, cX10_greatestDivisor, 6, some .int)
theorem zcd_X10_greatestDivisor : zcode mX10_greatestDivisor ∈ zTw := zTw_mem (List.mem_of_getElem? (i := 1073) (by decide +kernel)) rfl
theorem zhn_X10_greatestDivisor : mX10_greatestDivisor.1.cls ≠ "java/lang/invoke/MethodHandle" ∧ mX10_greatestDivisor.1.cls ≠ "java/lang/invoke/VarHandle" ∧ (parseMethodDescriptor mX10_greatestDivisor.1.desc).map (fun d => d.parameters.length) = some 2 := ⟨by decide +kernel, by decide +kernel, by decide +kernel⟩
def mX10_folded : zMeth := (yX10_folded, cX10_folded, 3, some .int)
theorem zcd_X10_folded : zcode mX10_folded ∈ zTw := zTw_mem (List.mem_of_getElem? (i := 948) (by decide +kernel)) rfl
theorem zhn_X10_folded : mX10_folded.1.cls ≠ "java/lang/invoke/MethodHandle" ∧ mX10_folded.1.cls ≠ "java/lang/invoke/VarHandle" ∧ (parseMethodDescriptor mX10_folded.1.desc).map (fun d => d.parameters.length) = some 3 := ⟨by decide +kernel, by decide +kernel, by decide +kernel⟩
def mX10_leastFolded : zMeth := (yX10_leastFolded, cX10_leastFolded, 6, some .int)
theorem zcd_X10_leastFolded : zcode mX10_leastFolded ∈ zTw := zTw_mem (List.mem_of_getElem? (i := 945) (by decide +kernel)) rfl
theorem zhn_X10_leastFolded : mX10_leastFolded.1.cls ≠ "java/lang/invoke/MethodHandle" ∧ mX10_leastFolded.1.cls ≠ "java/lang/invoke/VarHandle" ∧ (parseMethodDescriptor mX10_leastFolded.1.desc).map (fun d => d.parameters.length) = some 4 := ⟨by decide +kernel, by decide +kernel, by decide +kernel⟩
def mX10_foldOf : zMeth := (yX10_foldOf, cX10_foldOf, 8, some .int)
theorem zcd_X10_foldOf : zcode mX10_foldOf ∈ zTw := zTw_mem (List.mem_of_getElem? (i := 940) (by decide +kernel)) rfl
theorem zhn_X10_foldOf : mX10_foldOf.1.cls ≠ "java/lang/invoke/MethodHandle" ∧ mX10_foldOf.1.cls ≠ "java/lang/invoke/VarHandle" ∧ (parseMethodDescriptor mX10_foldOf.1.desc).map (fun d => d.parameters.length) = some 3 := ⟨by decide +kernel, by decide +kernel, by decide +kernel⟩
def mX10_greatestChange : zMeth := (yX10_greatestChange, cX10_greatestChange, 4, some .int)
theorem zcd_X10_greatestChange : zcode mX10_greatestChange ∈ zTw := zTw_mem (List.mem_of_getElem? (i := 1003) (by decide +kernel)) rfl
theorem zhn_X10_greatestChange : mX10_greatestChange.1.cls ≠ "java/lang/invoke/MethodHandle" ∧ mX10_greatestChange.1.cls ≠ "java/lang/invoke/VarHandle" ∧ (parseMethodDescriptor mX10_greatestChange.1.desc).map (fun d => d.parameters.length) = some 2 := ⟨by decide +kernel, by decide +kernel, by decide +kernel⟩
def mX10_markChangesTo : zMeth := (yX10_markChangesTo, cX10_markChangesTo, 8, none)
theorem zcd_X10_markChangesTo : zcode mX10_markChangesTo ∈ zTw := zTw_mem (List.mem_of_getElem? (i := 1013) (by decide +kernel)) rfl
theorem zhn_X10_markChangesTo : mX10_markChangesTo.1.cls ≠ "java/lang/invoke/MethodHandle" ∧ mX10_markChangesTo.1.cls ≠ "java/lang/invoke/VarHandle" ∧ (parseMethodDescriptor mX10_markChangesTo.1.desc).map (fun d => d.parameters.length) = some 2 := ⟨by decide +kernel, by decide +kernel, by decide +kernel⟩
def mX10_firstOfTheWay : zMeth := (yX10_firstOfTheWay, cX10_firstOfTheWay, 6, some .int)
theorem zcd_X10_firstOfTheWay : zcode mX10_firstOfTheWay ∈ zTw := zTw_mem (List.mem_of_getElem? (i := 1026) (by decide +kernel)) rfl
theorem zhn_X10_firstOfTheWay : mX10_firstOfTheWay.1.cls ≠ "java/lang/invoke/MethodHandle" ∧ mX10_firstOfTheWay.1.cls ≠ "java/lang/invoke/VarHandle" ∧ (parseMethodDescriptor mX10_firstOfTheWay.1.desc).map (fun d => d.parameters.length) = some 2 := ⟨by decide +kernel, by decide +kernel, by decide +kernel⟩
def mX10_changed : zMeth := (yX10_changed, cX10_changed, 4, some .int)
theorem zcd_X10_changed : zcode mX10_changed ∈ zTw := zTw_mem (List.mem_of_getElem? (i := 1017) (by decide +kernel)) rfl
theorem zhn_X10_changed : mX10_changed.1.cls ≠ "java/lang/invoke/MethodHandle" ∧ mX10_changed.1.cls ≠ "java/lang/invoke/VarHandle" ∧ (parseMethodDescriptor mX10_changed.1.desc).map (fun d => d.parameters.length) = some 2 := ⟨by decide +kernel, by decide +kernel, by decide +kernel⟩
def mX10_firstAlike : zMeth := (yX10_firstAlike, cX10_firstAlike, 5, some .int)
theorem zcd_X10_firstAlike : zcode mX10_firstAlike ∈ zTw := zTw_mem (List.mem_of_getElem? (i := 1058) (by decide +kernel)) rfl
theorem zhn_X10_firstAlike : mX10_firstAlike.1.cls ≠ "java/lang/invoke/MethodHandle" ∧ mX10_firstAlike.1.cls ≠ "java/lang/invoke/VarHandle" ∧ (parseMethodDescriptor mX10_firstAlike.1.desc).map (fun d => d.parameters.length) = some 1 := ⟨by decide +kernel, by decide +kernel, by decide +kernel⟩
def mX10_through : zMeth := (yX10_through, cX10_through, 3, some .int)
theorem zcd_X10_through : zcode mX10_through ∈ zTw := zTw_mem (List.mem_of_getElem? (i := 1077) (by decide +kernel)) rfl
theorem zhn_X10_through : mX10_through.1.cls ≠ "java/lang/invoke/MethodHandle" ∧ mX10_through.1.cls ≠ "java/lang/invoke/VarHandle" ∧ (parseMethodDescriptor mX10_through.1.desc).map (fun d => d.parameters.length) = some 1 := ⟨by decide +kernel, by decide +kernel, by decide +kernel⟩
def mX10_sources : zMeth := (yX10_sources, cX10_sources, 7, some .int)
theorem zcd_X10_sources : zcode mX10_sources ∈ zTw := zTw_mem (List.mem_of_getElem? (i := 1081) (by decide +kernel)) rfl
theorem zhn_X10_sources : mX10_sources.1.cls ≠ "java/lang/invoke/MethodHandle" ∧ mX10_sources.1.cls ≠ "java/lang/invoke/VarHandle" ∧ (parseMethodDescriptor mX10_sources.1.desc).map (fun d => d.parameters.length) = some 1 := ⟨by decide +kernel, by decide +kernel, by decide +kernel⟩
def mX10_rounds : zMeth := (yX10_rounds, cX10_rounds, 7, some .int)
theorem zcd_X10_rounds : zcode mX10_rounds ∈ zTw := zTw_mem (List.mem_of_getElem? (i := 1085) (by decide +kernel)) rfl
theorem zhn_X10_rounds : mX10_rounds.1.cls ≠ "java/lang/invoke/MethodHandle" ∧ mX10_rounds.1.cls ≠ "java/lang/invoke/VarHandle" ∧ (parseMethodDescriptor mX10_rounds.1.desc).map (fun d => d.parameters.length) = some 1 := ⟨by decide +kernel, by decide +kernel, by decide +kernel⟩
def mX10_linked : zMeth := (yX10_linked, cX10_linked, 2, some .int)
theorem zcd_X10_linked : zcode mX10_linked ∈ zTw := zTw_mem (List.mem_of_getElem? (i := 957) (by decide +kernel)) rfl
theorem zhn_X10_linked : mX10_linked.1.cls ≠ "java/lang/invoke/MethodHandle" ∧ mX10_linked.1.cls ≠ "java/lang/invoke/VarHandle" ∧ (parseMethodDescriptor mX10_linked.1.desc).map (fun d => d.parameters.length) = some 1 := ⟨by decide +kernel, by decide +kernel, by decide +kernel⟩
def mX10_press : zMeth := (yX10_press, cX10_press, 3, some .int)
theorem zcd_X10_press : zcode mX10_press ∈ zTw := zTw_mem (List.mem_of_getElem? (i := 1089) (by decide +kernel)) rfl
theorem zhn_X10_press : mX10_press.1.cls ≠ "java/lang/invoke/MethodHandle" ∧ mX10_press.1.cls ≠ "java/lang/invoke/VarHandle" ∧ (parseMethodDescriptor mX10_press.1.desc).map (fun d => d.parameters.length) = some 1 := ⟨by decide +kernel, by decide +kernel, by decide +kernel⟩
def mX10_cell : zMeth := (yX10_cell, cX10_cell, 3, some .int)
theorem zcd_X10_cell : zcode mX10_cell ∈ zTw := zTw_mem (List.mem_of_getElem? (i := 1126) (by decide +kernel)) rfl
theorem zhn_X10_cell : mX10_cell.1.cls ≠ "java/lang/invoke/MethodHandle" ∧ mX10_cell.1.cls ≠ "java/lang/invoke/VarHandle" ∧ (parseMethodDescriptor mX10_cell.1.desc).map (fun d => d.parameters.length) = some 2 := ⟨by decide +kernel, by decide +kernel, by decide +kernel⟩
def mX10_slips : zMeth := (yX10_slips, cX10_slips, 9, some .int)
theorem zcd_X10_slips : zcode mX10_slips ∈ zTw := zTw_mem (List.mem_of_getElem? (i := 1130) (by decide +kernel)) rfl
theorem zhn_X10_slips : mX10_slips.1.cls ≠ "java/lang/invoke/MethodHandle" ∧ mX10_slips.1.cls ≠ "java/lang/invoke/VarHandle" ∧ (parseMethodDescriptor mX10_slips.1.desc).map (fun d => d.parameters.length) = some 3 := ⟨by decide +kernel, by decide +kernel, by decide +kernel⟩
def mX10_greys : zMeth := (yX10_greys, cX10_greys, 8, some .int)
theorem zcd_X10_greys : zcode mX10_greys ∈ zTw := zTw_mem (List.mem_of_getElem? (i := 1140) (by decide +kernel)) rfl
theorem zhn_X10_greys : mX10_greys.1.cls ≠ "java/lang/invoke/MethodHandle" ∧ mX10_greys.1.cls ≠ "java/lang/invoke/VarHandle" ∧ (parseMethodDescriptor mX10_greys.1.desc).map (fun d => d.parameters.length) = some 2 := ⟨by decide +kernel, by decide +kernel, by decide +kernel⟩
def mX10_replaces : zMeth := (yX10_replaces, cX10_replaces, 9, some .int)
theorem zcd_X10_replaces : zcode mX10_replaces ∈ zTw := zTw_mem (List.mem_of_getElem? (i := 1154) (by decide +kernel)) rfl
theorem zhn_X10_replaces : mX10_replaces.1.cls ≠ "java/lang/invoke/MethodHandle" ∧ mX10_replaces.1.cls ≠ "java/lang/invoke/VarHandle" ∧ (parseMethodDescriptor mX10_replaces.1.desc).map (fun d => d.parameters.length) = some 3 := ⟨by decide +kernel, by decide +kernel, by decide +kernel⟩
def mX10_doubt : zMeth := (yX10_doubt, cX10_doubt, 4, some .int)
theorem zcd_X10_doubt : zcode mX10_doubt ∈ zTw := zTw_mem (List.mem_of_getElem? (i := 1161) (by decide +kernel)) rfl
theorem zhn_X10_doubt : mX10_doubt.1.cls ≠ "java/lang/invoke/MethodHandle" ∧ mX10_doubt.1.cls ≠ "java/lang/invoke/VarHandle" ∧ (parseMethodDescriptor mX10_doubt.1.desc).map (fun d => d.parameters.length) = some 0 := ⟨by decide +kernel, by decide +kernel, by decide +kernel⟩
def mX10_asks : zMeth := (yX10_asks, cX10_asks, 3, some .int)
theorem zcd_X10_asks : zcode mX10_asks ∈ zTw := zTw_mem (List.mem_of_getElem? (i := 1170) (by decide +kernel)) rfl
theorem zhn_X10_asks : mX10_asks.1.cls ≠ "java/lang/invoke/MethodHandle" ∧ mX10_asks.1.cls ≠ "java/lang/invoke/VarHandle" ∧ (parseMethodDescriptor mX10_asks.1.desc).map (fun d => d.parameters.length) = some 0 := ⟨by decide +kernel, by decide +kernel, by decide +kernel⟩
def mX10_other : zMeth := (yX10_other, cX10_other, 8, some .int)
theorem zcd_X10_other : zcode mX10_other ∈ zTw := zTw_mem (List.mem_of_getElem? (i := 1176) (by decide +kernel)) rfl
theorem zhn_X10_other : mX10_other.1.cls ≠ "java/lang/invoke/MethodHandle" ∧ mX10_other.1.cls ≠ "java/lang/invoke/VarHandle" ∧ (parseMethodDescriptor mX10_other.1.desc).map (fun d => d.parameters.length) = some 1 := ⟨by decide +kernel, by decide +kernel, by decide +kernel⟩
def mX10_carry : zMeth := (yX10_carry, cX10_carry, 5, some .int)
theorem zcd_X10_carry : zcode mX10_carry ∈ zTw := zTw_mem (List.mem_of_getElem? (i := 1180) (by decide +kernel)) rfl
theorem zhn_X10_carry : mX10_carry.1.cls ≠ "java/lang/invoke/MethodHandle" ∧ mX10_carry.1.cls ≠ "java/lang/invoke/VarHandle" ∧ (parseMethodDescriptor mX10_carry.1.desc).map (fun d => d.parameters.length) = some 2 := ⟨by decide +kernel, by decide +kernel, by decide +kernel⟩
def mX10_drifts : zMeth := (yX10_drifts, cX10_drifts, 9, some .int)
theorem zcd_X10_drifts : zcode mX10_drifts ∈ zTw := zTw_mem (List.mem_of_getElem? (i := 1184) (by decide +kernel)) rfl
theorem zhn_X10_drifts : mX10_drifts.1.cls ≠ "java/lang/invoke/MethodHandle" ∧ mX10_drifts.1.cls ≠ "java/lang/invoke/VarHandle" ∧ (parseMethodDescriptor mX10_drifts.1.desc).map (fun d => d.parameters.length) = some 2 := ⟨by decide +kernel, by decide +kernel, by decide +kernel⟩
def mX10_nextDrawn : zMeth := (yX10_nextDrawn, cX10_nextDrawn, 1, some .int)
theorem zcd_X10_nextDrawn : zcode mX10_nextDrawn ∈ zTw := zTw_mem (List.mem_of_getElem? (i := 1188) (by decide +kernel)) rfl
theorem zhn_X10_nextDrawn : mX10_nextDrawn.1.cls ≠ "java/lang/invoke/MethodHandle" ∧ mX10_nextDrawn.1.cls ≠ "java/lang/invoke/VarHandle" ∧ (parseMethodDescriptor mX10_nextDrawn.1.desc).map (fun d => d.parameters.length) = some 1 := ⟨by decide +kernel, by decide +kernel, by decide +kernel⟩
def mX10_draw : zMeth := (yX10_draw, cX10_draw, 2, some .int)
theorem zcd_X10_draw : zcode mX10_draw ∈ zTw := zTw_mem (List.mem_of_getElem? (i := 1192) (by decide +kernel)) rfl
theorem zhn_X10_draw : mX10_draw.1.cls ≠ "java/lang/invoke/MethodHandle" ∧ mX10_draw.1.cls ≠ "java/lang/invoke/VarHandle" ∧ (parseMethodDescriptor mX10_draw.1.desc).map (fun d => d.parameters.length) = some 2 := ⟨by decide +kernel, by decide +kernel, by decide +kernel⟩
def mX10_rank : zMeth := (yX10_rank, cX10_rank, 4, some .int)
theorem zcd_X10_rank : zcode mX10_rank ∈ zTw := zTw_mem (List.mem_of_getElem? (i := 1157) (by decide +kernel)) rfl
theorem zhn_X10_rank : mX10_rank.1.cls ≠ "java/lang/invoke/MethodHandle" ∧ mX10_rank.1.cls ≠ "java/lang/invoke/VarHandle" ∧ (parseMethodDescriptor mX10_rank.1.desc).map (fun d => d.parameters.length) = some 2 := ⟨by decide +kernel, by decide +kernel, by decide +kernel⟩
def mX10_keep : zMeth := (yX10_keep, cX10_keep, 2, some .boolean)
theorem zcd_X10_keep : zcode mX10_keep ∈ zTw := zTw_mem (List.mem_of_getElem? (i := 1196) (by decide +kernel)) rfl
theorem zhn_X10_keep : mX10_keep.1.cls ≠ "java/lang/invoke/MethodHandle" ∧ mX10_keep.1.cls ≠ "java/lang/invoke/VarHandle" ∧ (parseMethodDescriptor mX10_keep.1.desc).map (fun d => d.parameters.length) = some 1 := ⟨by decide +kernel, by decide +kernel, by decide +kernel⟩
def mX10_again : zMeth := (yX10_again, cX10_again, 2, some .boolean)
theorem zcd_X10_again : zcode mX10_again ∈ zTw := zTw_mem (List.mem_of_getElem? (i := 1200) (by decide +kernel)) rfl
theorem zhn_X10_again : mX10_again.1.cls ≠ "java/lang/invoke/MethodHandle" ∧ mX10_again.1.cls ≠ "java/lang/invoke/VarHandle" ∧ (parseMethodDescriptor mX10_again.1.desc).map (fun d => d.parameters.length) = some 1 := ⟨by decide +kernel, by decide +kernel, by decide +kernel⟩
def mX10_count : zMeth := (yX10_count, cX10_count, 2, some .int)
theorem zcd_X10_count : zcode mX10_count ∈ zTw := zTw_mem (List.mem_of_getElem? (i := 1204) (by decide +kernel)) rfl
theorem zhn_X10_count : mX10_count.1.cls ≠ "java/lang/invoke/MethodHandle" ∧ mX10_count.1.cls ≠ "java/lang/invoke/VarHandle" ∧ (parseMethodDescriptor mX10_count.1.desc).map (fun d => d.parameters.length) = some 1 := ⟨by decide +kernel, by decide +kernel, by decide +kernel⟩
def mX10_row : zMeth := (yX10_row, cX10_row, 2, some .long)
theorem zcd_X10_row : zcode mX10_row ∈ zTw := zTw_mem (List.mem_of_getElem? (i := 1290) (by decide +kernel)) rfl
theorem zhn_X10_row : mX10_row.1.cls ≠ "java/lang/invoke/MethodHandle" ∧ mX10_row.1.cls ≠ "java/lang/invoke/VarHandle" ∧ (parseMethodDescriptor mX10_row.1.desc).map (fun d => d.parameters.length) = some 1 := ⟨by decide +kernel, by decide +kernel, by decide +kernel⟩
def mX10_isIn : zMeth := (yX10_isIn, cX10_isIn, 3, some .boolean)
theorem zcd_X10_isIn : zcode mX10_isIn ∈ zTw := zTw_mem (List.mem_of_getElem? (i := 599) (by decide +kernel)) rfl
theorem zhn_X10_isIn : mX10_isIn.1.cls ≠ "java/lang/invoke/MethodHandle" ∧ mX10_isIn.1.cls ≠ "java/lang/invoke/VarHandle" ∧ (parseMethodDescriptor mX10_isIn.1.desc).map (fun d => d.parameters.length) = some 3 := ⟨by decide +kernel, by decide +kernel, by decide +kernel⟩
def mX10_isInk : zMeth := (yX10_isInk, cX10_isInk, 1, some .boolean)
theorem zcd_X10_isInk : zcode mX10_isInk ∈ zTw := zTw_mem (List.mem_of_getElem? (i := 631) (by decide +kernel)) rfl
theorem zhn_X10_isInk : mX10_isInk.1.cls ≠ "java/lang/invoke/MethodHandle" ∧ mX10_isInk.1.cls ≠ "java/lang/invoke/VarHandle" ∧ (parseMethodDescriptor mX10_isInk.1.desc).map (fun d => d.parameters.length) = some 1 := ⟨by decide +kernel, by decide +kernel, by decide +kernel⟩
def mX10_isBand : zMeth := (yX10_isBand, cX10_isBand, 1, some .boolean)
theorem zcd_X10_isBand : zcode mX10_isBand ∈ zTw := zTw_mem (List.mem_of_getElem? (i := 1050) (by decide +kernel)) rfl
theorem zhn_X10_isBand : mX10_isBand.1.cls ≠ "java/lang/invoke/MethodHandle" ∧ mX10_isBand.1.cls ≠ "java/lang/invoke/VarHandle" ∧ (parseMethodDescriptor mX10_isBand.1.desc).map (fun d => d.parameters.length) = some 1 := ⟨by decide +kernel, by decide +kernel, by decide +kernel⟩
def mX10_isPatch : zMeth := (yX10_isPatch, cX10_isPatch, 1, some .boolean)
theorem zcd_X10_isPatch : zcode mX10_isPatch ∈ zTw := zTw_mem (List.mem_of_getElem? (i := 596) (by decide +kernel)) rfl
theorem zhn_X10_isPatch : mX10_isPatch.1.cls ≠ "java/lang/invoke/MethodHandle" ∧ mX10_isPatch.1.cls ≠ "java/lang/invoke/VarHandle" ∧ (parseMethodDescriptor mX10_isPatch.1.desc).map (fun d => d.parameters.length) = some 1 := ⟨by decide +kernel, by decide +kernel, by decide +kernel⟩
def mX10_isHow : zMeth := (yX10_isHow, cX10_isHow, 1, some .boolean)
theorem zcd_X10_isHow : zcode mX10_isHow ∈ zTw := zTw_mem (List.mem_of_getElem? (i := 1092) (by decide +kernel)) rfl
theorem zhn_X10_isHow : mX10_isHow.1.cls ≠ "java/lang/invoke/MethodHandle" ∧ mX10_isHow.1.cls ≠ "java/lang/invoke/VarHandle" ∧ (parseMethodDescriptor mX10_isHow.1.desc).map (fun d => d.parameters.length) = some 1 := ⟨by decide +kernel, by decide +kernel, by decide +kernel⟩
def mX10_isColour : zMeth := (yX10_isColour, cX10_isColour, 3, some .boolean)
theorem zcd_X10_isColour : zcode mX10_isColour ∈ zTw := zTw_mem (List.mem_of_getElem? (i := 771) (by decide +kernel)) rfl
theorem zhn_X10_isColour : mX10_isColour.1.cls ≠ "java/lang/invoke/MethodHandle" ∧ mX10_isColour.1.cls ≠ "java/lang/invoke/VarHandle" ∧ (parseMethodDescriptor mX10_isColour.1.desc).map (fun d => d.parameters.length) = some 3 := ⟨by decide +kernel, by decide +kernel, by decide +kernel⟩
def mX10_put : zMeth := (yX10_put, cX10_put, 2, some .int)
theorem zcd_X10_put : zcode mX10_put ∈ zTw := zTw_mem (List.mem_of_getElem? (i := 734) (by decide +kernel)) rfl
theorem zhn_X10_put : mX10_put.1.cls ≠ "java/lang/invoke/MethodHandle" ∧ mX10_put.1.cls ≠ "java/lang/invoke/VarHandle" ∧ (parseMethodDescriptor mX10_put.1.desc).map (fun d => d.parameters.length) = some 2 := ⟨by decide +kernel, by decide +kernel, by decide +kernel⟩
def mX10_placeOf : zMeth := (yX10_placeOf, cX10_placeOf, 4, some .int)
theorem zcd_X10_placeOf : zcode mX10_placeOf ∈ zTw := zTw_mem (List.mem_of_getElem? (i := 808) (by decide +kernel)) rfl
theorem zhn_X10_placeOf : mX10_placeOf.1.cls ≠ "java/lang/invoke/MethodHandle" ∧ mX10_placeOf.1.cls ≠ "java/lang/invoke/VarHandle" ∧ (parseMethodDescriptor mX10_placeOf.1.desc).map (fun d => d.parameters.length) = some 1 := ⟨by decide +kernel, by decide +kernel, by decide +kernel⟩
def mX10_codeOf : zMeth := (yX10_codeOf, cX10_codeOf, 3, some .int)
theorem zcd_X10_codeOf : zcode mX10_codeOf ∈ zTw := zTw_mem (List.mem_of_getElem? (i := 895) (by decide +kernel)) rfl
theorem zhn_X10_codeOf : mX10_codeOf.1.cls ≠ "java/lang/invoke/MethodHandle" ∧ mX10_codeOf.1.cls ≠ "java/lang/invoke/VarHandle" ∧ (parseMethodDescriptor mX10_codeOf.1.desc).map (fun d => d.parameters.length) = some 1 := ⟨by decide +kernel, by decide +kernel, by decide +kernel⟩
def mX10_amountOf : zMeth := (yX10_amountOf, cX10_amountOf, 2, some .int)
theorem zcd_X10_amountOf : zcode mX10_amountOf ∈ zTw := zTw_mem (List.mem_of_getElem? (i := 841) (by decide +kernel)) rfl
theorem zhn_X10_amountOf : mX10_amountOf.1.cls ≠ "java/lang/invoke/MethodHandle" ∧ mX10_amountOf.1.cls ≠ "java/lang/invoke/VarHandle" ∧ (parseMethodDescriptor mX10_amountOf.1.desc).map (fun d => d.parameters.length) = some 2 := ⟨by decide +kernel, by decide +kernel, by decide +kernel⟩
def mX10_totalOf : zMeth := (yX10_totalOf, cX10_totalOf, 1, some .int)
theorem zcd_X10_totalOf : zcode mX10_totalOf ∈ zTw := zTw_mem (List.mem_of_getElem? (i := 857) (by decide +kernel)) rfl
theorem zhn_X10_totalOf : mX10_totalOf.1.cls ≠ "java/lang/invoke/MethodHandle" ∧ mX10_totalOf.1.cls ≠ "java/lang/invoke/VarHandle" ∧ (parseMethodDescriptor mX10_totalOf.1.desc).map (fun d => d.parameters.length) = some 1 := ⟨by decide +kernel, by decide +kernel, by decide +kernel⟩
def mX10_levelOf : zMeth := (yX10_levelOf, cX10_levelOf, 2, some .int)
theorem zcd_X10_levelOf : zcode mX10_levelOf ∈ zTw := zTw_mem (List.mem_of_getElem? (i := 606) (by decide +kernel)) rfl
theorem zhn_X10_levelOf : mX10_levelOf.1.cls ≠ "java/lang/invoke/MethodHandle" ∧ mX10_levelOf.1.cls ≠ "java/lang/invoke/VarHandle" ∧ (parseMethodDescriptor mX10_levelOf.1.desc).map (fun d => d.parameters.length) = some 2 := ⟨by decide +kernel, by decide +kernel, by decide +kernel⟩
def mX10_isPlain : zMeth := (yX10_isPlain, cX10_isPlain, 3, some .boolean)
theorem zcd_X10_isPlain : zcode mX10_isPlain ∈ zTw := zTw_mem (List.mem_of_getElem? (i := 603) (by decide +kernel)) rfl
theorem zhn_X10_isPlain : mX10_isPlain.1.cls ≠ "java/lang/invoke/MethodHandle" ∧ mX10_isPlain.1.cls ≠ "java/lang/invoke/VarHandle" ∧ (parseMethodDescriptor mX10_isPlain.1.desc).map (fun d => d.parameters.length) = some 1 := ⟨by decide +kernel, by decide +kernel, by decide +kernel⟩
def mX11_init : zMeth := (yX11_init, cX11_init, 4, none)
theorem zcd_X11_init : zcode mX11_init ∈ zTw := zTw_mem (List.mem_of_getElem? (i := 1295) (by decide +kernel)) rfl
theorem zhn_X11_init : mX11_init.1.cls ≠ "java/lang/invoke/MethodHandle" ∧ mX11_init.1.cls ≠ "java/lang/invoke/VarHandle" ∧ (parseMethodDescriptor mX11_init.1.desc).map (fun d => d.parameters.length) = some 0 := ⟨by decide +kernel, by decide +kernel, by decide +kernel⟩
def mX11_straighten : zMeth := (yX11_straighten, cX11_straighten, 3, none)
theorem zcd_X11_straighten : zcode mX11_straighten ∈ zTw := zTw_mem (List.mem_of_getElem? (i := 1302) (by decide +kernel)) rfl
theorem zhn_X11_straighten : mX11_straighten.1.cls ≠ "java/lang/invoke/MethodHandle" ∧ mX11_straighten.1.cls ≠ "java/lang/invoke/VarHandle" ∧ (parseMethodDescriptor mX11_straighten.1.desc).map (fun d => d.parameters.length) = some 1 := ⟨by decide +kernel, by decide +kernel, by decide +kernel⟩
def mX11_thrown : zMeth := (yX11_thrown, cX11_thrown, 1, some .int)
theorem zcd_X11_thrown : zcode mX11_thrown ∈ zTw := zTw_mem (List.mem_of_getElem? (i := 1447) (by decide +kernel)) rfl
theorem zhn_X11_thrown : mX11_thrown.1.cls ≠ "java/lang/invoke/MethodHandle" ∧ mX11_thrown.1.cls ≠ "java/lang/invoke/VarHandle" ∧ (parseMethodDescriptor mX11_thrown.1.desc).map (fun d => d.parameters.length) = some 0 := ⟨by decide +kernel, by decide +kernel, by decide +kernel⟩
def mX11_in : zMeth := (yX11_in, cX11_in, 3, some .boolean)
theorem zcd_X11_in : zcode mX11_in ∈ zTw := zTw_mem (List.mem_of_getElem? (i := 1458) (by decide +kernel)) rfl
theorem zhn_X11_in : mX11_in.1.cls ≠ "java/lang/invoke/MethodHandle" ∧ mX11_in.1.cls ≠ "java/lang/invoke/VarHandle" ∧ (parseMethodDescriptor mX11_in.1.desc).map (fun d => d.parameters.length) = some 3 := ⟨by decide +kernel, by decide +kernel, by decide +kernel⟩
def mX11_lost : zMeth := (yX11_lost, cX11_lost, 1, some .int)
theorem zcd_X11_lost : zcode mX11_lost ∈ zTw := zTw_mem (List.mem_of_getElem? (i := 1579) (by decide +kernel)) rfl
theorem zhn_X11_lost : mX11_lost.1.cls ≠ "java/lang/invoke/MethodHandle" ∧ mX11_lost.1.cls ≠ "java/lang/invoke/VarHandle" ∧ (parseMethodDescriptor mX11_lost.1.desc).map (fun d => d.parameters.length) = some 0 := ⟨by decide +kernel, by decide +kernel, by decide +kernel⟩
def mX11_tell : zMeth := (yX11_tell, cX11_tell, 3, none)
theorem zcd_X11_tell : zcode mX11_tell ∈ zTw := zTw_mem (List.mem_of_getElem? (i := 1616) (by decide +kernel)) rfl
theorem zhn_X11_tell : mX11_tell.1.cls ≠ "java/lang/invoke/MethodHandle" ∧ mX11_tell.1.cls ≠ "java/lang/invoke/VarHandle" ∧ (parseMethodDescriptor mX11_tell.1.desc).map (fun d => d.parameters.length) = some 1 := ⟨by decide +kernel, by decide +kernel, by decide +kernel⟩
def mX11_isInk : zMeth := (yX11_isInk, cX11_isInk, 1, some .boolean)
theorem zcd_X11_isInk : zcode mX11_isInk ∈ zTw := zTw_mem (List.mem_of_getElem? (i := 1523) (by decide +kernel)) rfl
theorem zhn_X11_isInk : mX11_isInk.1.cls ≠ "java/lang/invoke/MethodHandle" ∧ mX11_isInk.1.cls ≠ "java/lang/invoke/VarHandle" ∧ (parseMethodDescriptor mX11_isInk.1.desc).map (fun d => d.parameters.length) = some 1 := ⟨by decide +kernel, by decide +kernel, by decide +kernel⟩
def mX11_isCode : zMeth := (yX11_isCode, cX11_isCode, 2, some .boolean)
theorem zcd_X11_isCode : zcode mX11_isCode ∈ zTw := zTw_mem (List.mem_of_getElem? (i := 1597) (by decide +kernel)) rfl
theorem zhn_X11_isCode : mX11_isCode.1.cls ≠ "java/lang/invoke/MethodHandle" ∧ mX11_isCode.1.cls ≠ "java/lang/invoke/VarHandle" ∧ (parseMethodDescriptor mX11_isCode.1.desc).map (fun d => d.parameters.length) = some 1 := ⟨by decide +kernel, by decide +kernel, by decide +kernel⟩
def mX11_amountOf : zMeth := (yX11_amountOf, cX11_amountOf, 2, some .int)
theorem zcd_X11_amountOf : zcode mX11_amountOf ∈ zTw := zTw_mem (List.mem_of_getElem? (i := 1612) (by decide +kernel)) rfl
theorem zhn_X11_amountOf : mX11_amountOf.1.cls ≠ "java/lang/invoke/MethodHandle" ∧ mX11_amountOf.1.cls ≠ "java/lang/invoke/VarHandle" ∧ (parseMethodDescriptor mX11_amountOf.1.desc).map (fun d => d.parameters.length) = some 2 := ⟨by decide +kernel, by decide +kernel, by decide +kernel⟩
def mX11_totalOf : zMeth := (yX11_totalOf, cX11_totalOf, 1, some .int)
theorem zcd_X11_totalOf : zcode mX11_totalOf ∈ zTw := zTw_mem (List.mem_of_getElem? (i := 1619) (by decide +kernel)) rfl
theorem zhn_X11_totalOf : mX11_totalOf.1.cls ≠ "java/lang/invoke/MethodHandle" ∧ mX11_totalOf.1.cls ≠ "java/lang/invoke/VarHandle" ∧ (parseMethodDescriptor mX11_totalOf.1.desc).map (fun d => d.parameters.length) = some 1 := ⟨by decide +kernel, by decide +kernel, by decide +kernel⟩
def mX11_numberOf : zMeth := (yX11_numberOf, cX11_numberOf, 3, some .int)
theorem zcd_X11_numberOf : zcode mX11_numberOf ∈ zTw := zTw_mem (List.mem_of_getElem? (i := 1673) (by decide +kernel)) rfl
theorem zhn_X11_numberOf : mX11_numberOf.1.cls ≠ "java/lang/invoke/MethodHandle" ∧ mX11_numberOf.1.cls ≠ "java/lang/invoke/VarHandle" ∧ (parseMethodDescriptor mX11_numberOf.1.desc).map (fun d => d.parameters.length) = some 1 := ⟨by decide +kernel, by decide +kernel, by decide +kernel⟩
def mX11_codeOf : zMeth := (yX11_codeOf, cX11_codeOf, 4, some .int)
theorem zcd_X11_codeOf : zcode mX11_codeOf ∈ zTw := zTw_mem (List.mem_of_getElem? (i := 1305) (by decide +kernel)) rfl
theorem zhn_X11_codeOf : mX11_codeOf.1.cls ≠ "java/lang/invoke/MethodHandle" ∧ mX11_codeOf.1.cls ≠ "java/lang/invoke/VarHandle" ∧ (parseMethodDescriptor mX11_codeOf.1.desc).map (fun d => d.parameters.length) = some 1 := ⟨by decide +kernel, by decide +kernel, by decide +kernel⟩
def mX11_levelOf : zMeth := (yX11_levelOf, cX11_levelOf, 2, some .int)
theorem zcd_X11_levelOf : zcode mX11_levelOf ∈ zTw := zTw_mem (List.mem_of_getElem? (i := 1516) (by decide +kernel)) rfl
theorem zhn_X11_levelOf : mX11_levelOf.1.cls ≠ "java/lang/invoke/MethodHandle" ∧ mX11_levelOf.1.cls ≠ "java/lang/invoke/VarHandle" ∧ (parseMethodDescriptor mX11_levelOf.1.desc).map (fun d => d.parameters.length) = some 2 := ⟨by decide +kernel, by decide +kernel, by decide +kernel⟩
def mX11_isPlain : zMeth := (yX11_isPlain, cX11_isPlain, 3, some .boolean)
theorem zcd_X11_isPlain : zcode mX11_isPlain ∈ zTw := zTw_mem (List.mem_of_getElem? (i := 1513) (by decide +kernel)) rfl
theorem zhn_X11_isPlain : mX11_isPlain.1.cls ≠ "java/lang/invoke/MethodHandle" ∧ mX11_isPlain.1.cls ≠ "java/lang/invoke/VarHandle" ∧ (parseMethodDescriptor mX11_isPlain.1.desc).map (fun d => d.parameters.length) = some 1 := ⟨by decide +kernel, by decide +kernel, by decide +kernel⟩
def mX11_sign : zMeth := (yX11_sign, cX11_sign, 3, some .int)
theorem zcd_X11_sign : zcode mX11_sign ∈ zTw := zTw_mem (List.mem_of_getElem? (i := 1451) (by decide +kernel)) rfl
theorem zhn_X11_sign : mX11_sign.1.cls ≠ "java/lang/invoke/MethodHandle" ∧ mX11_sign.1.cls ≠ "java/lang/invoke/VarHandle" ∧ (parseMethodDescriptor mX11_sign.1.desc).map (fun d => d.parameters.length) = some 1 := ⟨by decide +kernel, by decide +kernel, by decide +kernel⟩
def mX11_end : zMeth := (yX11_end, cX11_end, 2, some .boolean)
theorem zcd_X11_end : zcode mX11_end ∈ zTw := zTw_mem (List.mem_of_getElem? (i := 1455) (by decide +kernel)) rfl
theorem zhn_X11_end : mX11_end.1.cls ≠ "java/lang/invoke/MethodHandle" ∧ mX11_end.1.cls ≠ "java/lang/invoke/VarHandle" ∧ (parseMethodDescriptor mX11_end.1.desc).map (fun d => d.parameters.length) = some 1 := ⟨by decide +kernel, by decide +kernel, by decide +kernel⟩
def mX11_begin : zMeth := (yX11_begin, cX11_begin, 2, none)
theorem zcd_X11_begin : zcode mX11_begin ∈ zTw := zTw_mem (List.mem_of_getElem? (i := 1466) (by decide +kernel)) rfl
theorem zhn_X11_begin : mX11_begin.1.cls ≠ "java/lang/invoke/MethodHandle" ∧ mX11_begin.1.cls ≠ "java/lang/invoke/VarHandle" ∧ (parseMethodDescriptor mX11_begin.1.desc).map (fun d => d.parameters.length) = some 1 := ⟨by decide +kernel, by decide +kernel, by decide +kernel⟩
def mX11_here : zMeth := (yX11_here, cX11_here, 1, some .int)
theorem zcd_X11_here : zcode mX11_here ∈ zTw := zTw_mem (List.mem_of_getElem? (i := 1486) (by decide +kernel)) rfl
theorem zhn_X11_here : mX11_here.1.cls ≠ "java/lang/invoke/MethodHandle" ∧ mX11_here.1.cls ≠ "java/lang/invoke/VarHandle" ∧ (parseMethodDescriptor mX11_here.1.desc).map (fun d => d.parameters.length) = some 0 := ⟨by decide +kernel, by decide +kernel, by decide +kernel⟩
def mX11_fine : zMeth := (yX11_fine, cX11_fine, 1, some .boolean)
theorem zcd_X11_fine : zcode mX11_fine ∈ zTw := zTw_mem (List.mem_of_getElem? (i := 1470) (by decide +kernel)) rfl
theorem zhn_X11_fine : mX11_fine.1.cls ≠ "java/lang/invoke/MethodHandle" ∧ mX11_fine.1.cls ≠ "java/lang/invoke/VarHandle" ∧ (parseMethodDescriptor mX11_fine.1.desc).map (fun d => d.parameters.length) = some 0 := ⟨by decide +kernel, by decide +kernel, by decide +kernel⟩
def mX11_fault : zMeth := (yX11_fault, cX11_fault, 2, none)
theorem zcd_X11_fault : zcode mX11_fault ∈ zTw := zTw_mem (List.mem_of_getElem? (i := 1490) (by decide +kernel)) rfl
theorem zhn_X11_fault : mX11_fault.1.cls ≠ "java/lang/invoke/MethodHandle" ∧ mX11_fault.1.cls ≠ "java/lang/invoke/VarHandle" ∧ (parseMethodDescriptor mX11_fault.1.desc).map (fun d => d.parameters.length) = some 1 := ⟨by decide +kernel, by decide +kernel, by decide +kernel⟩
def mX11_oneOf : zMeth := (yX11_oneOf, cX11_oneOf, 3, some .int)
theorem zcd_X11_oneOf : zcode mX11_oneOf ∈ zTw := zTw_mem (List.mem_of_getElem? (i := 1482) (by decide +kernel)) rfl
theorem zhn_X11_oneOf : mX11_oneOf.1.cls ≠ "java/lang/invoke/MethodHandle" ∧ mX11_oneOf.1.cls ≠ "java/lang/invoke/VarHandle" ∧ (parseMethodDescriptor mX11_oneOf.1.desc).map (fun d => d.parameters.length) = some 2 := ⟨by decide +kernel, by decide +kernel, by decide +kernel⟩
def mX11_need : zMeth := (yX11_need, cX11_need, 2, none)
theorem zcd_X11_need : zcode mX11_need ∈ zTw := zTw_mem (List.mem_of_getElem? (i := 1557) (by decide +kernel)) rfl
theorem zhn_X11_need : mX11_need.1.cls ≠ "java/lang/invoke/MethodHandle" ∧ mX11_need.1.cls ≠ "java/lang/invoke/VarHandle" ∧ (parseMethodDescriptor mX11_need.1.desc).map (fun d => d.parameters.length) = some 1 := ⟨by decide +kernel, by decide +kernel, by decide +kernel⟩
def mX11_twoDigits : zMeth := (yX11_twoDigits, cX11_twoDigits, 2, some .int)
theorem zcd_X11_twoDigits : zcode mX11_twoDigits ∈ zTw := zTw_mem (List.mem_of_getElem? (i := 1494) (by decide +kernel)) rfl
theorem zhn_X11_twoDigits : mX11_twoDigits.1.cls ≠ "java/lang/invoke/MethodHandle" ∧ mX11_twoDigits.1.cls ≠ "java/lang/invoke/VarHandle" ∧ (parseMethodDescriptor mX11_twoDigits.1.desc).map (fun d => d.parameters.length) = some 0 := ⟨by decide +kernel, by decide +kernel, by decide +kernel⟩
def mX11_wasRight : zMeth := (yX11_wasRight, cX11_wasRight, 1, some .boolean)
theorem zcd_X11_wasRight : zcode mX11_wasRight ∈ zTw := zTw_mem (List.mem_of_getElem? (i := 1498) (by decide +kernel)) rfl
theorem zhn_X11_wasRight : mX11_wasRight.1.cls ≠ "java/lang/invoke/MethodHandle" ∧ mX11_wasRight.1.cls ≠ "java/lang/invoke/VarHandle" ∧ (parseMethodDescriptor mX11_wasRight.1.desc).map (fun d => d.parameters.length) = some 0 := ⟨by decide +kernel, by decide +kernel, by decide +kernel⟩
def mX11_inkBy : zMeth := (yX11_inkBy, cX11_inkBy, 1, some .int)
theorem zcd_X11_inkBy : zcode mX11_inkBy ∈ zTw := zTw_mem (List.mem_of_getElem? (i := 1549) (by decide +kernel)) rfl
theorem zhn_X11_inkBy : mX11_inkBy.1.cls ≠ "java/lang/invoke/MethodHandle" ∧ mX11_inkBy.1.cls ≠ "java/lang/invoke/VarHandle" ∧ (parseMethodDescriptor mX11_inkBy.1.desc).map (fun d => d.parameters.length) = some 1 := ⟨by decide +kernel, by decide +kernel, by decide +kernel⟩
def mX11_readInk : zMeth := (yX11_readInk, cX11_readInk, 2, some .int)
theorem zcd_X11_readInk : zcode mX11_readInk ∈ zTw := zTw_mem (List.mem_of_getElem? (i := 1546) (by decide +kernel)) rfl
theorem zhn_X11_readInk : mX11_readInk.1.cls ≠ "java/lang/invoke/MethodHandle" ∧ mX11_readInk.1.cls ≠ "java/lang/invoke/VarHandle" ∧ (parseMethodDescriptor mX11_readInk.1.desc).map (fun d => d.parameters.length) = some 0 := ⟨by decide +kernel, by decide +kernel, by decide +kernel⟩
def mX11_readPatch : zMeth := (yX11_readPatch, cX11_readPatch, 3, some .int)
theorem zcd_X11_readPatch : zcode mX11_readPatch ∈ zTw := zTw_mem (List.mem_of_getElem? (i := 1478) (by decide +kernel)) rfl
theorem zhn_X11_readPatch : mX11_readPatch.1.cls ≠ "java/lang/invoke/MethodHandle" ∧ mX11_readPatch.1.cls ≠ "java/lang/invoke/VarHandle" ∧ (parseMethodDescriptor mX11_readPatch.1.desc).map (fun d => d.parameters.length) = some 0 := ⟨by decide +kernel, by decide +kernel, by decide +kernel⟩
def mX11_readMeasure : zMeth := (yX11_readMeasure, cX11_readMeasure, 3, none)
theorem zcd_X11_readMeasure : zcode mX11_readMeasure ∈ zTw := zTw_mem (List.mem_of_getElem? (i := 1474) (by decide +kernel)) rfl
theorem zhn_X11_readMeasure : mX11_readMeasure.1.cls ≠ "java/lang/invoke/MethodHandle" ∧ mX11_readMeasure.1.cls ≠ "java/lang/invoke/VarHandle" ∧ (parseMethodDescriptor mX11_readMeasure.1.desc).map (fun d => d.parameters.length) = some 1 := ⟨by decide +kernel, by decide +kernel, by decide +kernel⟩
def mX11_putLight : zMeth := (yX11_putLight, cX11_putLight, 5, none)
theorem zcd_X11_putLight : zcode mX11_putLight ∈ zTw := zTw_mem (List.mem_of_getElem? (i := 1510) (by decide +kernel)) rfl
theorem zhn_X11_putLight : mX11_putLight.1.cls ≠ "java/lang/invoke/MethodHandle" ∧ mX11_putLight.1.cls ≠ "java/lang/invoke/VarHandle" ∧ (parseMethodDescriptor mX11_putLight.1.desc).map (fun d => d.parameters.length) = some 4 := ⟨by decide +kernel, by decide +kernel, by decide +kernel⟩
def mX11_patches : zMeth := (yX11_patches, cX11_patches, 3, some .int)
theorem zcd_X11_patches : zcode mX11_patches ∈ zTw := zTw_mem (List.mem_of_getElem? (i := 1462) (by decide +kernel)) rfl
theorem zhn_X11_patches : mX11_patches.1.cls ≠ "java/lang/invoke/MethodHandle" ∧ mX11_patches.1.cls ≠ "java/lang/invoke/VarHandle" ∧ (parseMethodDescriptor mX11_patches.1.desc).map (fun d => d.parameters.length) = some 0 := ⟨by decide +kernel, by decide +kernel, by decide +kernel⟩
def mX11_curve : zMeth := (yX11_curve, cX11_curve, 6, some .int)
theorem zcd_X11_curve : zcode mX11_curve ∈ zTw := zTw_mem (List.mem_of_getElem? (i := 1520) (by decide +kernel)) rfl
theorem zhn_X11_curve : mX11_curve.1.cls ≠ "java/lang/invoke/MethodHandle" ∧ mX11_curve.1.cls ≠ "java/lang/invoke/VarHandle" ∧ (parseMethodDescriptor mX11_curve.1.desc).map (fun d => d.parameters.length) = some 1 := ⟨by decide +kernel, by decide +kernel, by decide +kernel⟩
def mX11_readSteps : zMeth := (yX11_readSteps, cX11_readSteps, 4, some .int)
theorem zcd_X11_readSteps : zcode mX11_readSteps ∈ zTw := zTw_mem (List.mem_of_getElem? (i := 1532) (by decide +kernel)) rfl
theorem zhn_X11_readSteps : mX11_readSteps.1.cls ≠ "java/lang/invoke/MethodHandle" ∧ mX11_readSteps.1.cls ≠ "java/lang/invoke/VarHandle" ∧ (parseMethodDescriptor mX11_readSteps.1.desc).map (fun d => d.parameters.length) = some 1 := ⟨by decide +kernel, by decide +kernel, by decide +kernel⟩
def mX11_isStep : zMeth := (yX11_isStep, cX11_isStep, 1, some .boolean)
theorem zcd_X11_isStep : zcode mX11_isStep ∈ zTw := zTw_mem (List.mem_of_getElem? (i := 1535) (by decide +kernel)) rfl
theorem zhn_X11_isStep : mX11_isStep.1.cls ≠ "java/lang/invoke/MethodHandle" ∧ mX11_isStep.1.cls ≠ "java/lang/invoke/VarHandle" ∧ (parseMethodDescriptor mX11_isStep.1.desc).map (fun d => d.parameters.length) = some 1 := ⟨by decide +kernel, by decide +kernel, by decide +kernel⟩
def mX11_isAround : zMeth := (yX11_isAround, cX11_isAround, 1, some .boolean)
theorem zcd_X11_isAround : zcode mX11_isAround ∈ zTw := zTw_mem (List.mem_of_getElem? (i := 1538) (by decide +kernel)) rfl
theorem zhn_X11_isAround : mX11_isAround.1.cls ≠ "java/lang/invoke/MethodHandle" ∧ mX11_isAround.1.cls ≠ "java/lang/invoke/VarHandle" ∧ (parseMethodDescriptor mX11_isAround.1.desc).map (fun d => d.parameters.length) = some 1 := ⟨by decide +kernel, by decide +kernel, by decide +kernel⟩
def mX11_readStep : zMeth := (yX11_readStep, cX11_readStep, 4, some .int)
theorem zcd_X11_readStep : zcode mX11_readStep ∈ zTw := zTw_mem (List.mem_of_getElem? (i := 1542) (by decide +kernel)) rfl
theorem zhn_X11_readStep : mX11_readStep.1.cls ≠ "java/lang/invoke/MethodHandle" ∧ mX11_readStep.1.cls ≠ "java/lang/invoke/VarHandle" ∧ (parseMethodDescriptor mX11_readStep.1.desc).map (fun d => d.parameters.length) = some 2 := ⟨by decide +kernel, by decide +kernel, by decide +kernel⟩
def mX11_readWithin : zMeth := (yX11_readWithin, cX11_readWithin, 3, some .int)
theorem zcd_X11_readWithin : zcode mX11_readWithin ∈ zTw := zTw_mem (List.mem_of_getElem? (i := 1553) (by decide +kernel)) rfl
theorem zhn_X11_readWithin : mX11_readWithin.1.cls ≠ "java/lang/invoke/MethodHandle" ∧ mX11_readWithin.1.cls ≠ "java/lang/invoke/VarHandle" ∧ (parseMethodDescriptor mX11_readWithin.1.desc).map (fun d => d.parameters.length) = some 1 := ⟨by decide +kernel, by decide +kernel, by decide +kernel⟩
def mX11_link : zMeth := (yX11_link, cX11_link, 4, some .int)
theorem zcd_X11_link : zcode mX11_link ∈ zTw := zTw_mem (List.mem_of_getElem? (i := 1528) (by decide +kernel)) rfl
theorem zhn_X11_link : mX11_link.1.cls ≠ "java/lang/invoke/MethodHandle" ∧ mX11_link.1.cls ≠ "java/lang/invoke/VarHandle" ∧ (parseMethodDescriptor mX11_link.1.desc).map (fun d => d.parameters.length) = some 0 := ⟨by decide +kernel, by decide +kernel, by decide +kernel⟩
def mX11_picture : zMeth := (yX11_picture, cX11_picture, 7, some .int)
theorem zcd_X11_picture : zcode mX11_picture ∈ zTw := zTw_mem (List.mem_of_getElem? (i := 1561) (by decide +kernel)) rfl
theorem zhn_X11_picture : mX11_picture.1.cls ≠ "java/lang/invoke/MethodHandle" ∧ mX11_picture.1.cls ≠ "java/lang/invoke/VarHandle" ∧ (parseMethodDescriptor mX11_picture.1.desc).map (fun d => d.parameters.length) = some 0 := ⟨by decide +kernel, by decide +kernel, by decide +kernel⟩
def mX11_plainLight : zMeth := (yX11_plainLight, cX11_plainLight, 4, some .int)
theorem zcd_X11_plainLight : zcode mX11_plainLight ∈ zTw := zTw_mem (List.mem_of_getElem? (i := 1574) (by decide +kernel)) rfl
theorem zhn_X11_plainLight : mX11_plainLight.1.cls ≠ "java/lang/invoke/MethodHandle" ∧ mX11_plainLight.1.cls ≠ "java/lang/invoke/VarHandle" ∧ (parseMethodDescriptor mX11_plainLight.1.desc).map (fun d => d.parameters.length) = some 4 := ⟨by decide +kernel, by decide +kernel, by decide +kernel⟩
def mX11_reckoned : zMeth := (yX11_reckoned, cX11_reckoned, 7, some .int)
theorem zcd_X11_reckoned : zcode mX11_reckoned ∈ zTw := zTw_mem (List.mem_of_getElem? (i := 1571) (by decide +kernel)) rfl
theorem zhn_X11_reckoned : mX11_reckoned.1.cls ≠ "java/lang/invoke/MethodHandle" ∧ mX11_reckoned.1.cls ≠ "java/lang/invoke/VarHandle" ∧ (parseMethodDescriptor mX11_reckoned.1.desc).map (fun d => d.parameters.length) = some 3 := ⟨by decide +kernel, by decide +kernel, by decide +kernel⟩
def mX11_lightOf : zMeth := (yX11_lightOf, cX11_lightOf, 3, some .int)
theorem zcd_X11_lightOf : zcode mX11_lightOf ∈ zTw := zTw_mem (List.mem_of_getElem? (i := 1568) (by decide +kernel)) rfl
theorem zhn_X11_lightOf : mX11_lightOf.1.cls ≠ "java/lang/invoke/MethodHandle" ∧ mX11_lightOf.1.cls ≠ "java/lang/invoke/VarHandle" ∧ (parseMethodDescriptor mX11_lightOf.1.desc).map (fun d => d.parameters.length) = some 3 := ⟨by decide +kernel, by decide +kernel, by decide +kernel⟩
def mX11_light : zMeth := (yX11_light, cX11_light, 3, some .int)
theorem zcd_X11_light : zcode mX11_light ∈ zTw := zTw_mem (List.mem_of_getElem? (i := 1565) (by decide +kernel)) rfl
theorem zhn_X11_light : mX11_light.1.cls ≠ "java/lang/invoke/MethodHandle" ∧ mX11_light.1.cls ≠ "java/lang/invoke/VarHandle" ∧ (parseMethodDescriptor mX11_light.1.desc).map (fun d => d.parameters.length) = some 2 := ⟨by decide +kernel, by decide +kernel, by decide +kernel⟩
def mX11_bent : zMeth := (yX11_bent, cX11_bent, 3, some .int)
theorem zcd_X11_bent : zcode mX11_bent ∈ zTw := zTw_mem (List.mem_of_getElem? (i := 1583) (by decide +kernel)) rfl
theorem zhn_X11_bent : mX11_bent.1.cls ≠ "java/lang/invoke/MethodHandle" ∧ mX11_bent.1.cls ≠ "java/lang/invoke/VarHandle" ∧ (parseMethodDescriptor mX11_bent.1.desc).map (fun d => d.parameters.length) = some 2 := ⟨by decide +kernel, by decide +kernel, by decide +kernel⟩
def mX11_sheet : zMeth := (yX11_sheet, cX11_sheet, 10, some .int)
theorem zcd_X11_sheet : zcode mX11_sheet ∈ zTw := zTw_mem (List.mem_of_getElem? (i := 1587) (by decide +kernel)) rfl
theorem zhn_X11_sheet : mX11_sheet.1.cls ≠ "java/lang/invoke/MethodHandle" ∧ mX11_sheet.1.cls ≠ "java/lang/invoke/VarHandle" ∧ (parseMethodDescriptor mX11_sheet.1.desc).map (fun d => d.parameters.length) = some 4 := ⟨by decide +kernel, by decide +kernel, by decide +kernel⟩
def mX11_layWay : zMeth := (yX11_layWay, cX11_layWay, 10, none)
theorem zcd_X11_layWay : zcode mX11_layWay ∈ zTw := zTw_mem (List.mem_of_getElem? (i := 1609) (by decide +kernel)) rfl
theorem zhn_X11_layWay : mX11_layWay.1.cls ≠ "java/lang/invoke/MethodHandle" ∧ mX11_layWay.1.cls ≠ "java/lang/invoke/VarHandle" ∧ (parseMethodDescriptor mX11_layWay.1.desc).map (fun d => d.parameters.length) = some 1 := ⟨by decide +kernel, by decide +kernel, by decide +kernel⟩
def mX11_layColour : zMeth := (yX11_layColour, cX11_layColour, 7, none)
theorem zcd_X11_layColour : zcode mX11_layColour ∈ zTw := zTw_mem (List.mem_of_getElem? (i := 1605) (by decide +kernel)) rfl
theorem zhn_X11_layColour : mX11_layColour.1.cls ≠ "java/lang/invoke/MethodHandle" ∧ mX11_layColour.1.cls ≠ "java/lang/invoke/VarHandle" ∧ (parseMethodDescriptor mX11_layColour.1.desc).map (fun d => d.parameters.length) = some 3 := ⟨by decide +kernel, by decide +kernel, by decide +kernel⟩
def mX11_layLights : zMeth := (yX11_layLights, cX11_layLights, 4, none)
theorem zcd_X11_layLights : zcode mX11_layLights ∈ zTw := zTw_mem (List.mem_of_getElem? (i := 1601) (by decide +kernel)) rfl
theorem zhn_X11_layLights : mX11_layLights.1.cls ≠ "java/lang/invoke/MethodHandle" ∧ mX11_layLights.1.cls ≠ "java/lang/invoke/VarHandle" ∧ (parseMethodDescriptor mX11_layLights.1.desc).map (fun d => d.parameters.length) = some 1 := ⟨by decide +kernel, by decide +kernel, by decide +kernel⟩
def mX11_layColours : zMeth := (yX11_layColours, cX11_layColours, 3, none)
theorem zcd_X11_layColours : zcode mX11_layColours ∈ zTw := zTw_mem (List.mem_of_getElem? (i := 1646) (by decide +kernel)) rfl
theorem zhn_X11_layColours : mX11_layColours.1.cls ≠ "java/lang/invoke/MethodHandle" ∧ mX11_layColours.1.cls ≠ "java/lang/invoke/VarHandle" ∧ (parseMethodDescriptor mX11_layColours.1.desc).map (fun d => d.parameters.length) = some 1 := ⟨by decide +kernel, by decide +kernel, by decide +kernel⟩
def mX11_open : zMeth := (yX11_open, cX11_open, 2, some .boolean)
theorem zcd_X11_open : zcode mX11_open ∈ zTw := zTw_mem (List.mem_of_getElem? (i := 1650) (by decide +kernel)) rfl
theorem zhn_X11_open : mX11_open.1.cls ≠ "java/lang/invoke/MethodHandle" ∧ mX11_open.1.cls ≠ "java/lang/invoke/VarHandle" ∧ (parseMethodDescriptor mX11_open.1.desc).map (fun d => d.parameters.length) = some 1 := ⟨by decide +kernel, by decide +kernel, by decide +kernel⟩
def mX11_apart : zMeth := (yX11_apart, cX11_apart, 9, some .int)
theorem zcd_X11_apart : zcode mX11_apart ∈ zTw := zTw_mem (List.mem_of_getElem? (i := 1666) (by decide +kernel)) rfl
theorem zhn_X11_apart : mX11_apart.1.cls ≠ "java/lang/invoke/MethodHandle" ∧ mX11_apart.1.cls ≠ "java/lang/invoke/VarHandle" ∧ (parseMethodDescriptor mX11_apart.1.desc).map (fun d => d.parameters.length) = some 5 := ⟨by decide +kernel, by decide +kernel, by decide +kernel⟩
def mX11_apartOf : zMeth := (yX11_apartOf, cX11_apartOf, 5, some .int)
theorem zcd_X11_apartOf : zcode mX11_apartOf ∈ zTw := zTw_mem (List.mem_of_getElem? (i := 1662) (by decide +kernel)) rfl
theorem zhn_X11_apartOf : mX11_apartOf.1.cls ≠ "java/lang/invoke/MethodHandle" ∧ mX11_apartOf.1.cls ≠ "java/lang/invoke/VarHandle" ∧ (parseMethodDescriptor mX11_apartOf.1.desc).map (fun d => d.parameters.length) = some 4 := ⟨by decide +kernel, by decide +kernel, by decide +kernel⟩
def mX11_between : zMeth := (yX11_between, cX11_between, 3, some .int)
theorem zcd_X11_between : zcode mX11_between ∈ zTw := zTw_mem (List.mem_of_getElem? (i := 1751) (by decide +kernel)) rfl
theorem zhn_X11_between : mX11_between.1.cls ≠ "java/lang/invoke/MethodHandle" ∧ mX11_between.1.cls ≠ "java/lang/invoke/VarHandle" ∧ (parseMethodDescriptor mX11_between.1.desc).map (fun d => d.parameters.length) = some 2 := ⟨by decide +kernel, by decide +kernel, by decide +kernel⟩
def mX11_isWanted : zMeth := (yX11_isWanted, cX11_isWanted, 3, some .boolean)
theorem zcd_X11_isWanted : zcode mX11_isWanted ∈ zTw := zTw_mem (List.mem_of_getElem? (i := 1642) (by decide +kernel)) rfl
theorem zhn_X11_isWanted : mX11_isWanted.1.cls ≠ "java/lang/invoke/MethodHandle" ∧ mX11_isWanted.1.cls ≠ "java/lang/invoke/VarHandle" ∧ (parseMethodDescriptor mX11_isWanted.1.desc).map (fun d => d.parameters.length) = some 3 := ⟨by decide +kernel, by decide +kernel, by decide +kernel⟩
def mX11_colour : zMeth := (yX11_colour, cX11_colour, 3, some .int)
theorem zcd_X11_colour : zcode mX11_colour ∈ zTw := zTw_mem (List.mem_of_getElem? (i := 1594) (by decide +kernel)) rfl
theorem zhn_X11_colour : mX11_colour.1.cls ≠ "java/lang/invoke/MethodHandle" ∧ mX11_colour.1.cls ≠ "java/lang/invoke/VarHandle" ∧ (parseMethodDescriptor mX11_colour.1.desc).map (fun d => d.parameters.length) = some 1 := ⟨by decide +kernel, by decide +kernel, by decide +kernel⟩
def mX11_take : zMeth := (yX11_take, cX11_take, 3, none)
theorem zcd_X11_take : zcode mX11_take ∈ zTw := zTw_mem (List.mem_of_getElem? (i := 1627) (by decide +kernel)) rfl
theorem zhn_X11_take : mX11_take.1.cls ≠ "java/lang/invoke/MethodHandle" ∧ mX11_take.1.cls ≠ "java/lang/invoke/VarHandle" ∧ (parseMethodDescriptor mX11_take.1.desc).map (fun d => d.parameters.length) = some 1 := ⟨by decide +kernel, by decide +kernel, by decide +kernel⟩
def mX11_codeNow : zMeth := (yX11_codeNow, cX11_codeNow, 1, some .int)
theorem zcd_X11_codeNow : zcode mX11_codeNow ∈ zTw := zTw_mem (List.mem_of_getElem? (i := 1635) (by decide +kernel)) rfl
theorem zhn_X11_codeNow : mX11_codeNow.1.cls ≠ "java/lang/invoke/MethodHandle" ∧ mX11_codeNow.1.cls ≠ "java/lang/invoke/VarHandle" ∧ (parseMethodDescriptor mX11_codeNow.1.desc).map (fun d => d.parameters.length) = some 0 := ⟨by decide +kernel, by decide +kernel, by decide +kernel⟩
def mX11_limit : zMeth := (yX11_limit, cX11_limit, 4, none)
theorem zcd_X11_limit : zcode mX11_limit ∈ zTw := zTw_mem (List.mem_of_getElem? (i := 1631) (by decide +kernel)) rfl
theorem zhn_X11_limit : mX11_limit.1.cls ≠ "java/lang/invoke/MethodHandle" ∧ mX11_limit.1.cls ≠ "java/lang/invoke/VarHandle" ∧ (parseMethodDescriptor mX11_limit.1.desc).map (fun d => d.parameters.length) = some 1 := ⟨by decide +kernel, by decide +kernel, by decide +kernel⟩
def mX11_limited : zMeth := (yX11_limited, cX11_limited, 3, some .int)
theorem zcd_X11_limited : zcode mX11_limited ∈ zTw := zTw_mem (List.mem_of_getElem? (i := 1623) (by decide +kernel)) rfl
theorem zhn_X11_limited : mX11_limited.1.cls ≠ "java/lang/invoke/MethodHandle" ∧ mX11_limited.1.cls ≠ "java/lang/invoke/VarHandle" ∧ (parseMethodDescriptor mX11_limited.1.desc).map (fun d => d.parameters.length) = some 2 := ⟨by decide +kernel, by decide +kernel, by decide +kernel⟩
def mX11_leastOf : zMeth := (yX11_leastOf, cX11_leastOf, 6, some .int)
theorem zcd_X11_leastOf : zcode mX11_leastOf ∈ zTw := zTw_mem (List.mem_of_getElem? (i := 1658) (by decide +kernel)) rfl
theorem zhn_X11_leastOf : mX11_leastOf.1.cls ≠ "java/lang/invoke/MethodHandle" ∧ mX11_leastOf.1.cls ≠ "java/lang/invoke/VarHandle" ∧ (parseMethodDescriptor mX11_leastOf.1.desc).map (fun d => d.parameters.length) = some 3 := ⟨by decide +kernel, by decide +kernel, by decide +kernel⟩
def mX11_matchOf : zMeth := (yX11_matchOf, cX11_matchOf, 7, some .int)
theorem zcd_X11_matchOf : zcode mX11_matchOf ∈ zTw := zTw_mem (List.mem_of_getElem? (i := 1654) (by decide +kernel)) rfl
theorem zhn_X11_matchOf : mX11_matchOf.1.cls ≠ "java/lang/invoke/MethodHandle" ∧ mX11_matchOf.1.cls ≠ "java/lang/invoke/VarHandle" ∧ (parseMethodDescriptor mX11_matchOf.1.desc).map (fun d => d.parameters.length) = some 3 := ⟨by decide +kernel, by decide +kernel, by decide +kernel⟩
def mX11_isBetter : zMeth := (yX11_isBetter, cX11_isBetter, 7, some .boolean)
theorem zcd_X11_isBetter : zcode mX11_isBetter ∈ zTw := zTw_mem (List.mem_of_getElem? (i := 1670) (by decide +kernel)) rfl
theorem zhn_X11_isBetter : mX11_isBetter.1.cls ≠ "java/lang/invoke/MethodHandle" ∧ mX11_isBetter.1.cls ≠ "java/lang/invoke/VarHandle" ∧ (parseMethodDescriptor mX11_isBetter.1.desc).map (fun d => d.parameters.length) = some 3 := ⟨by decide +kernel, by decide +kernel, by decide +kernel⟩
def mX11_match : zMeth := (yX11_match, cX11_match, 5, some .int)
theorem zcd_X11_match : zcode mX11_match ∈ zTw := zTw_mem (List.mem_of_getElem? (i := 1639) (by decide +kernel)) rfl
theorem zhn_X11_match : mX11_match.1.cls ≠ "java/lang/invoke/MethodHandle" ∧ mX11_match.1.cls ≠ "java/lang/invoke/VarHandle" ∧ (parseMethodDescriptor mX11_match.1.desc).map (fun d => d.parameters.length) = some 3 := ⟨by decide +kernel, by decide +kernel, by decide +kernel⟩
def mX11_layFold : zMeth := (yX11_layFold, cX11_layFold, 6, none)
theorem zcd_X11_layFold : zcode mX11_layFold ∈ zTw := zTw_mem (List.mem_of_getElem? (i := 1685) (by decide +kernel)) rfl
theorem zhn_X11_layFold : mX11_layFold.1.cls ≠ "java/lang/invoke/MethodHandle" ∧ mX11_layFold.1.cls ≠ "java/lang/invoke/VarHandle" ∧ (parseMethodDescriptor mX11_layFold.1.desc).map (fun d => d.parameters.length) = some 4 := ⟨by decide +kernel, by decide +kernel, by decide +kernel⟩
def mX11_foldOf : zMeth := (yX11_foldOf, cX11_foldOf, 9, some .int)
theorem zcd_X11_foldOf : zcode mX11_foldOf ∈ zTw := zTw_mem (List.mem_of_getElem? (i := 1681) (by decide +kernel)) rfl
theorem zhn_X11_foldOf : mX11_foldOf.1.cls ≠ "java/lang/invoke/MethodHandle" ∧ mX11_foldOf.1.cls ≠ "java/lang/invoke/VarHandle" ∧ (parseMethodDescriptor mX11_foldOf.1.desc).map (fun d => d.parameters.length) = some 3 := ⟨by decide +kernel, by decide +kernel, by decide +kernel⟩
def mX11_fold : zMeth := (yX11_fold, cX11_fold, 6, some .int)
theorem zcd_X11_fold : zcode mX11_fold ∈ zTw := zTw_mem (List.mem_of_getElem? (i := 1677) (by decide +kernel)) rfl
theorem zhn_X11_fold : mX11_fold.1.cls ≠ "java/lang/invoke/MethodHandle" ∧ mX11_fold.1.cls ≠ "java/lang/invoke/VarHandle" ∧ (parseMethodDescriptor mX11_fold.1.desc).map (fun d => d.parameters.length) = some 3 := ⟨by decide +kernel, by decide +kernel, by decide +kernel⟩
def mX11_closing : zMeth := (yX11_closing, cX11_closing, 5, some .int)
theorem zcd_X11_closing : zcode mX11_closing ∈ zTw := zTw_mem (List.mem_of_getElem? (i := 1700) (by decide +kernel)) rfl
theorem zhn_X11_closing : mX11_closing.1.cls ≠ "java/lang/invoke/MethodHandle" ∧ mX11_closing.1.cls ≠ "java/lang/invoke/VarHandle" ∧ (parseMethodDescriptor mX11_closing.1.desc).map (fun d => d.parameters.length) = some 3 := ⟨by decide +kernel, by decide +kernel, by decide +kernel⟩
def mX11_more : zMeth := (yX11_more, cX11_more, 3, none)
theorem zcd_X11_more : zcode mX11_more ∈ zTw := zTw_mem (List.mem_of_getElem? (i := 1720) (by decide +kernel)) rfl
theorem zhn_X11_more : mX11_more.1.cls ≠ "java/lang/invoke/MethodHandle" ∧ mX11_more.1.cls ≠ "java/lang/invoke/VarHandle" ∧ (parseMethodDescriptor mX11_more.1.desc).map (fun d => d.parameters.length) = some 2 := ⟨by decide +kernel, by decide +kernel, by decide +kernel⟩
def mX11_goes : zMeth := (yX11_goes, cX11_goes, 11, none)
theorem zcd_X11_goes : zcode mX11_goes ∈ zTw := zTw_mem (List.mem_of_getElem? (i := 1697) (by decide +kernel)) rfl
theorem zhn_X11_goes : mX11_goes.1.cls ≠ "java/lang/invoke/MethodHandle" ∧ mX11_goes.1.cls ≠ "java/lang/invoke/VarHandle" ∧ (parseMethodDescriptor mX11_goes.1.desc).map (fun d => d.parameters.length) = some 3 := ⟨by decide +kernel, by decide +kernel, by decide +kernel⟩
def mX11_timesOf : zMeth := (yX11_timesOf, cX11_timesOf, 5, some .int)
theorem zcd_X11_timesOf : zcode mX11_timesOf ∈ zTw := zTw_mem (List.mem_of_getElem? (i := 1704) (by decide +kernel)) rfl
theorem zhn_X11_timesOf : mX11_timesOf.1.cls ≠ "java/lang/invoke/MethodHandle" ∧ mX11_timesOf.1.cls ≠ "java/lang/invoke/VarHandle" ∧ (parseMethodDescriptor mX11_timesOf.1.desc).map (fun d => d.parameters.length) = some 2 := ⟨by decide +kernel, by decide +kernel, by decide +kernel⟩
def mX11_does : zMeth := (yX11_does, cX11_does, 5, none)
theorem zcd_X11_does : zcode mX11_does ∈ zTw := zTw_mem (List.mem_of_getElem? (i := 1708) (by decide +kernel)) rfl
theorem zhn_X11_does : mX11_does.1.cls ≠ "java/lang/invoke/MethodHandle" ∧ mX11_does.1.cls ≠ "java/lang/invoke/VarHandle" ∧ (parseMethodDescriptor mX11_does.1.desc).map (fun d => d.parameters.length) = some 3 := ⟨by decide +kernel, by decide +kernel, by decide +kernel⟩
def mX11_trade : zMeth := (yX11_trade, cX11_trade, 3, none)
theorem zcd_X11_trade : zcode mX11_trade ∈ zTw := zTw_mem (List.mem_of_getElem? (i := 1712) (by decide +kernel)) rfl
theorem zhn_X11_trade : mX11_trade.1.cls ≠ "java/lang/invoke/MethodHandle" ∧ mX11_trade.1.cls ≠ "java/lang/invoke/VarHandle" ∧ (parseMethodDescriptor mX11_trade.1.desc).map (fun d => d.parameters.length) = some 1 := ⟨by decide +kernel, by decide +kernel, by decide +kernel⟩
def mX11_doesOne : zMeth := (yX11_doesOne, cX11_doesOne, 6, none)
theorem zcd_X11_doesOne : zcode mX11_doesOne ∈ zTw := zTw_mem (List.mem_of_getElem? (i := 1716) (by decide +kernel)) rfl
theorem zhn_X11_doesOne : mX11_doesOne.1.cls ≠ "java/lang/invoke/MethodHandle" ∧ mX11_doesOne.1.cls ≠ "java/lang/invoke/VarHandle" ∧ (parseMethodDescriptor mX11_doesOne.1.desc).map (fun d => d.parameters.length) = some 3 := ⟨by decide +kernel, by decide +kernel, by decide +kernel⟩
def mX11_linked : zMeth := (yX11_linked, cX11_linked, 2, some .int)
theorem zcd_X11_linked : zcode mX11_linked ∈ zTw := zTw_mem (List.mem_of_getElem? (i := 1693) (by decide +kernel)) rfl
theorem zhn_X11_linked : mX11_linked.1.cls ≠ "java/lang/invoke/MethodHandle" ∧ mX11_linked.1.cls ≠ "java/lang/invoke/VarHandle" ∧ (parseMethodDescriptor mX11_linked.1.desc).map (fun d => d.parameters.length) = some 1 := ⟨by decide +kernel, by decide +kernel, by decide +kernel⟩
def mX11_prints : zMeth := (yX11_prints, cX11_prints, 7, some .int)
theorem zcd_X11_prints : zcode mX11_prints ∈ zTw := zTw_mem (List.mem_of_getElem? (i := 1689) (by decide +kernel)) rfl
theorem zhn_X11_prints : mX11_prints.1.cls ≠ "java/lang/invoke/MethodHandle" ∧ mX11_prints.1.cls ≠ "java/lang/invoke/VarHandle" ∧ (parseMethodDescriptor mX11_prints.1.desc).map (fun d => d.parameters.length) = some 3 := ⟨by decide +kernel, by decide +kernel, by decide +kernel⟩
def mX11_through : zMeth := (yX11_through, cX11_through, 2, some .int)
theorem zcd_X11_through : zcode mX11_through ∈ zTw := zTw_mem (List.mem_of_getElem? (i := 1724) (by decide +kernel)) rfl
theorem zhn_X11_through : mX11_through.1.cls ≠ "java/lang/invoke/MethodHandle" ∧ mX11_through.1.cls ≠ "java/lang/invoke/VarHandle" ∧ (parseMethodDescriptor mX11_through.1.desc).map (fun d => d.parameters.length) = some 1 := ⟨by decide +kernel, by decide +kernel, by decide +kernel⟩
def mX11_sources : zMeth := (yX11_sources, cX11_sources, 6, some .int)
theorem zcd_X11_sources : zcode mX11_sources ∈ zTw := zTw_mem (List.mem_of_getElem? (i := 1728) (by decide +kernel)) rfl
theorem zhn_X11_sources : mX11_sources.1.cls ≠ "java/lang/invoke/MethodHandle" ∧ mX11_sources.1.cls ≠ "java/lang/invoke/VarHandle" ∧ (parseMethodDescriptor mX11_sources.1.desc).map (fun d => d.parameters.length) = some 1 := ⟨by decide +kernel, by decide +kernel, by decide +kernel⟩
def mX11_rounds : zMeth := (yX11_rounds, cX11_rounds, 8, some .int)
theorem zcd_X11_rounds : zcode mX11_rounds ∈ zTw := zTw_mem (List.mem_of_getElem? (i := 1732) (by decide +kernel)) rfl
theorem zhn_X11_rounds : mX11_rounds.1.cls ≠ "java/lang/invoke/MethodHandle" ∧ mX11_rounds.1.cls ≠ "java/lang/invoke/VarHandle" ∧ (parseMethodDescriptor mX11_rounds.1.desc).map (fun d => d.parameters.length) = some 1 := ⟨by decide +kernel, by decide +kernel, by decide +kernel⟩
def mX11_ramp : zMeth := (yX11_ramp, cX11_ramp, 8, some .int)
theorem zcd_X11_ramp : zcode mX11_ramp ∈ zTw := zTw_mem (List.mem_of_getElem? (i := 1736) (by decide +kernel)) rfl
theorem zhn_X11_ramp : mX11_ramp.1.cls ≠ "java/lang/invoke/MethodHandle" ∧ mX11_ramp.1.cls ≠ "java/lang/invoke/VarHandle" ∧ (parseMethodDescriptor mX11_ramp.1.desc).map (fun d => d.parameters.length) = some 2 := ⟨by decide +kernel, by decide +kernel, by decide +kernel⟩
def mX11_layWays : zMeth := (yX11_layWays, cX11_layWays, 7, none)
theorem zcd_X11_layWays : zcode mX11_layWays ∈ zTw := zTw_mem (List.mem_of_getElem? (i := 1744) (by decide +kernel)) rfl
theorem zhn_X11_layWays : mX11_layWays.1.cls ≠ "java/lang/invoke/MethodHandle" ∧ mX11_layWays.1.cls ≠ "java/lang/invoke/VarHandle" ∧ (parseMethodDescriptor mX11_layWays.1.desc).map (fun d => d.parameters.length) = some 2 := ⟨by decide +kernel, by decide +kernel, by decide +kernel⟩
def mX11_neighbour : zMeth := (yX11_neighbour, cX11_neighbour, 4, some .int)
theorem zcd_X11_neighbour : zcode mX11_neighbour ∈ zTw := zTw_mem (List.mem_of_getElem? (i := 1747) (by decide +kernel)) rfl
theorem zhn_X11_neighbour : mX11_neighbour.1.cls ≠ "java/lang/invoke/MethodHandle" ∧ mX11_neighbour.1.cls ≠ "java/lang/invoke/VarHandle" ∧ (parseMethodDescriptor mX11_neighbour.1.desc).map (fun d => d.parameters.length) = some 2 := ⟨by decide +kernel, by decide +kernel, by decide +kernel⟩
def mX11_way : zMeth := (yX11_way, cX11_way, 7, some .int)
theorem zcd_X11_way : zcode mX11_way ∈ zTw := zTw_mem (List.mem_of_getElem? (i := 1740) (by decide +kernel)) rfl
theorem zhn_X11_way : mX11_way.1.cls ≠ "java/lang/invoke/MethodHandle" ∧ mX11_way.1.cls ≠ "java/lang/invoke/VarHandle" ∧ (parseMethodDescriptor mX11_way.1.desc).map (fun d => d.parameters.length) = some 3 := ⟨by decide +kernel, by decide +kernel, by decide +kernel⟩
def mX11_risesOf : zMeth := (yX11_risesOf, cX11_risesOf, 6, some .int)
theorem zcd_X11_risesOf : zcode mX11_risesOf ∈ zTw := zTw_mem (List.mem_of_getElem? (i := 1759) (by decide +kernel)) rfl
theorem zhn_X11_risesOf : mX11_risesOf.1.cls ≠ "java/lang/invoke/MethodHandle" ∧ mX11_risesOf.1.cls ≠ "java/lang/invoke/VarHandle" ∧ (parseMethodDescriptor mX11_risesOf.1.desc).map (fun d => d.parameters.length) = some 2 := ⟨by decide +kernel, by decide +kernel, by decide +kernel⟩
def mX11_rises : zMeth := (yX11_rises, cX11_rises, 3, some .int)
theorem zcd_X11_rises : zcode mX11_rises ∈ zTw := zTw_mem (List.mem_of_getElem? (i := 1755) (by decide +kernel)) rfl
theorem zhn_X11_rises : mX11_rises.1.cls ≠ "java/lang/invoke/MethodHandle" ∧ mX11_rises.1.cls ≠ "java/lang/invoke/VarHandle" ∧ (parseMethodDescriptor mX11_rises.1.desc).map (fun d => d.parameters.length) = some 1 := ⟨by decide +kernel, by decide +kernel, by decide +kernel⟩
def mX11_reach : zMeth := (yX11_reach, cX11_reach, 6, some .int)
theorem zcd_X11_reach : zcode mX11_reach ∈ zTw := zTw_mem (List.mem_of_getElem? (i := 1763) (by decide +kernel)) rfl
theorem zhn_X11_reach : mX11_reach.1.cls ≠ "java/lang/invoke/MethodHandle" ∧ mX11_reach.1.cls ≠ "java/lang/invoke/VarHandle" ∧ (parseMethodDescriptor mX11_reach.1.desc).map (fun d => d.parameters.length) = some 1 := ⟨by decide +kernel, by decide +kernel, by decide +kernel⟩
def mX11_sort : zMeth := (yX11_sort, cX11_sort, 10, none)
theorem zcd_X11_sort : zcode mX11_sort ∈ zTw := zTw_mem (List.mem_of_getElem? (i := 1773) (by decide +kernel)) rfl
theorem zhn_X11_sort : mX11_sort.1.cls ≠ "java/lang/invoke/MethodHandle" ∧ mX11_sort.1.cls ≠ "java/lang/invoke/VarHandle" ∧ (parseMethodDescriptor mX11_sort.1.desc).map (fun d => d.parameters.length) = some 1 := ⟨by decide +kernel, by decide +kernel, by decide +kernel⟩
def mX11_spread : zMeth := (yX11_spread, cX11_spread, 10, some .int)
theorem zcd_X11_spread : zcode mX11_spread ∈ zTw := zTw_mem (List.mem_of_getElem? (i := 1767) (by decide +kernel)) rfl
theorem zhn_X11_spread : mX11_spread.1.cls ≠ "java/lang/invoke/MethodHandle" ∧ mX11_spread.1.cls ≠ "java/lang/invoke/VarHandle" ∧ (parseMethodDescriptor mX11_spread.1.desc).map (fun d => d.parameters.length) = some 0 := ⟨by decide +kernel, by decide +kernel, by decide +kernel⟩
def mX11_common : zMeth := (yX11_common, cX11_common, 4, some .long)
theorem zcd_X11_common : zcode mX11_common ∈ zTw := zTw_mem (List.mem_of_getElem? (i := 1780) (by decide +kernel)) rfl
theorem zhn_X11_common : mX11_common.1.cls ≠ "java/lang/invoke/MethodHandle" ∧ mX11_common.1.cls ≠ "java/lang/invoke/VarHandle" ∧ (parseMethodDescriptor mX11_common.1.desc).map (fun d => d.parameters.length) = some 2 := ⟨by decide +kernel, by decide +kernel, by decide +kernel⟩
def mX11_odds : zMeth := (yX11_odds, cX11_odds, 11, some .int)
theorem zcd_X11_odds : zcode mX11_odds ∈ zTw := zTw_mem (List.mem_of_getElem? (i := 1777) (by decide +kernel)) rfl
theorem zhn_X11_odds : mX11_odds.1.cls ≠ "java/lang/invoke/MethodHandle" ∧ mX11_odds.1.cls ≠ "java/lang/invoke/VarHandle" ∧ (parseMethodDescriptor mX11_odds.1.desc).map (fun d => d.parameters.length) = some 4 := ⟨by decide +kernel, by decide +kernel, by decide +kernel⟩
def mX11_cells : zMeth := (yX11_cells, cX11_cells, 1, some .int)
theorem zcd_X11_cells : zcode mX11_cells ∈ zTw := zTw_mem (List.mem_of_getElem? (i := 1788) (by decide +kernel)) rfl
theorem zhn_X11_cells : mX11_cells.1.cls ≠ "java/lang/invoke/MethodHandle" ∧ mX11_cells.1.cls ≠ "java/lang/invoke/VarHandle" ∧ (parseMethodDescriptor mX11_cells.1.desc).map (fun d => d.parameters.length) = some 0 := ⟨by decide +kernel, by decide +kernel, by decide +kernel⟩
def mX11_within : zMeth := (yX11_within, cX11_within, 1, some .int)
theorem zcd_X11_within : zcode mX11_within ∈ zTw := zTw_mem (List.mem_of_getElem? (i := 1795) (by decide +kernel)) rfl
theorem zhn_X11_within : mX11_within.1.cls ≠ "java/lang/invoke/MethodHandle" ∧ mX11_within.1.cls ≠ "java/lang/invoke/VarHandle" ∧ (parseMethodDescriptor mX11_within.1.desc).map (fun d => d.parameters.length) = some 1 := ⟨by decide +kernel, by decide +kernel, by decide +kernel⟩
def mX11_sameAhead : zMeth := (yX11_sameAhead, cX11_sameAhead, 3, some .int)
theorem zcd_X11_sameAhead : zcode mX11_sameAhead ∈ zTw := zTw_mem (List.mem_of_getElem? (i := 1799) (by decide +kernel)) rfl
theorem zhn_X11_sameAhead : mX11_sameAhead.1.cls ≠ "java/lang/invoke/MethodHandle" ∧ mX11_sameAhead.1.cls ≠ "java/lang/invoke/VarHandle" ∧ (parseMethodDescriptor mX11_sameAhead.1.desc).map (fun d => d.parameters.length) = some 1 := ⟨by decide +kernel, by decide +kernel, by decide +kernel⟩
def mX11_layPress : zMeth := (yX11_layPress, cX11_layPress, 8, none)
theorem zcd_X11_layPress : zcode mX11_layPress ∈ zTw := zTw_mem (List.mem_of_getElem? (i := 1792) (by decide +kernel)) rfl
theorem zhn_X11_layPress : mX11_layPress.1.cls ≠ "java/lang/invoke/MethodHandle" ∧ mX11_layPress.1.cls ≠ "java/lang/invoke/VarHandle" ∧ (parseMethodDescriptor mX11_layPress.1.desc).map (fun d => d.parameters.length) = some 1 := ⟨by decide +kernel, by decide +kernel, by decide +kernel⟩
def mX11_press : zMeth := (yX11_press, cX11_press, 8, some .int)
theorem zcd_X11_press : zcode mX11_press ∈ zTw := zTw_mem (List.mem_of_getElem? (i := 1784) (by decide +kernel)) rfl
theorem zhn_X11_press : mX11_press.1.cls ≠ "java/lang/invoke/MethodHandle" ∧ mX11_press.1.cls ≠ "java/lang/invoke/VarHandle" ∧ (parseMethodDescriptor mX11_press.1.desc).map (fun d => d.parameters.length) = some 1 := ⟨by decide +kernel, by decide +kernel, by decide +kernel⟩
def mX11_cell : zMeth := (yX11_cell, cX11_cell, 3, some .int)
theorem zcd_X11_cell : zcode mX11_cell ∈ zTw := zTw_mem (List.mem_of_getElem? (i := 1803) (by decide +kernel)) rfl
theorem zhn_X11_cell : mX11_cell.1.cls ≠ "java/lang/invoke/MethodHandle" ∧ mX11_cell.1.cls ≠ "java/lang/invoke/VarHandle" ∧ (parseMethodDescriptor mX11_cell.1.desc).map (fun d => d.parameters.length) = some 2 := ⟨by decide +kernel, by decide +kernel, by decide +kernel⟩
def mX11_slips : zMeth := (yX11_slips, cX11_slips, 13, some .int)
theorem zcd_X11_slips : zcode mX11_slips ∈ zTw := zTw_mem (List.mem_of_getElem? (i := 1807) (by decide +kernel)) rfl
theorem zhn_X11_slips : mX11_slips.1.cls ≠ "java/lang/invoke/MethodHandle" ∧ mX11_slips.1.cls ≠ "java/lang/invoke/VarHandle" ∧ (parseMethodDescriptor mX11_slips.1.desc).map (fun d => d.parameters.length) = some 3 := ⟨by decide +kernel, by decide +kernel, by decide +kernel⟩
def mX11_greys : zMeth := (yX11_greys, cX11_greys, 8, some .int)
theorem zcd_X11_greys : zcode mX11_greys ∈ zTw := zTw_mem (List.mem_of_getElem? (i := 1811) (by decide +kernel)) rfl
theorem zhn_X11_greys : mX11_greys.1.cls ≠ "java/lang/invoke/MethodHandle" ∧ mX11_greys.1.cls ≠ "java/lang/invoke/VarHandle" ∧ (parseMethodDescriptor mX11_greys.1.desc).map (fun d => d.parameters.length) = some 2 := ⟨by decide +kernel, by decide +kernel, by decide +kernel⟩
def mX11_spanOf : zMeth := (yX11_spanOf, cX11_spanOf, 5, some .int)
theorem zcd_X11_spanOf : zcode mX11_spanOf ∈ zTw := zTw_mem (List.mem_of_getElem? (i := 1815) (by decide +kernel)) rfl
theorem zhn_X11_spanOf : mX11_spanOf.1.cls ≠ "java/lang/invoke/MethodHandle" ∧ mX11_spanOf.1.cls ≠ "java/lang/invoke/VarHandle" ∧ (parseMethodDescriptor mX11_spanOf.1.desc).map (fun d => d.parameters.length) = some 1 := ⟨by decide +kernel, by decide +kernel, by decide +kernel⟩
def mX11_sumOf : zMeth := (yX11_sumOf, cX11_sumOf, 2, some .int)
theorem zcd_X11_sumOf : zcode mX11_sumOf ∈ zTw := zTw_mem (List.mem_of_getElem? (i := 1819) (by decide +kernel)) rfl
theorem zhn_X11_sumOf : mX11_sumOf.1.cls ≠ "java/lang/invoke/MethodHandle" ∧ mX11_sumOf.1.cls ≠ "java/lang/invoke/VarHandle" ∧ (parseMethodDescriptor mX11_sumOf.1.desc).map (fun d => d.parameters.length) = some 1 := ⟨by decide +kernel, by decide +kernel, by decide +kernel⟩
def mX11_rankOf : zMeth := (yX11_rankOf, cX11_rankOf, 4, some .int)
theorem zcd_X11_rankOf : zcode mX11_rankOf ∈ zTw := zTw_mem (List.mem_of_getElem? (i := 1826) (by decide +kernel)) rfl
theorem zhn_X11_rankOf : mX11_rankOf.1.cls ≠ "java/lang/invoke/MethodHandle" ∧ mX11_rankOf.1.cls ≠ "java/lang/invoke/VarHandle" ∧ (parseMethodDescriptor mX11_rankOf.1.desc).map (fun d => d.parameters.length) = some 2 := ⟨by decide +kernel, by decide +kernel, by decide +kernel⟩
def mX11_replaces : zMeth := (yX11_replaces, cX11_replaces, 7, some .int)
theorem zcd_X11_replaces : zcode mX11_replaces ∈ zTw := zTw_mem (List.mem_of_getElem? (i := 1823) (by decide +kernel)) rfl
theorem zhn_X11_replaces : mX11_replaces.1.cls ≠ "java/lang/invoke/MethodHandle" ∧ mX11_replaces.1.cls ≠ "java/lang/invoke/VarHandle" ∧ (parseMethodDescriptor mX11_replaces.1.desc).map (fun d => d.parameters.length) = some 3 := ⟨by decide +kernel, by decide +kernel, by decide +kernel⟩
def mX11_doubt : zMeth := (yX11_doubt, cX11_doubt, 7, some .int)
theorem zcd_X11_doubt : zcode mX11_doubt ∈ zTw := zTw_mem (List.mem_of_getElem? (i := 1830) (by decide +kernel)) rfl
theorem zhn_X11_doubt : mX11_doubt.1.cls ≠ "java/lang/invoke/MethodHandle" ∧ mX11_doubt.1.cls ≠ "java/lang/invoke/VarHandle" ∧ (parseMethodDescriptor mX11_doubt.1.desc).map (fun d => d.parameters.length) = some 0 := ⟨by decide +kernel, by decide +kernel, by decide +kernel⟩
def mX11_asks : zMeth := (yX11_asks, cX11_asks, 3, some .int)
theorem zcd_X11_asks : zcode mX11_asks ∈ zTw := zTw_mem (List.mem_of_getElem? (i := 1834) (by decide +kernel)) rfl
theorem zhn_X11_asks : mX11_asks.1.cls ≠ "java/lang/invoke/MethodHandle" ∧ mX11_asks.1.cls ≠ "java/lang/invoke/VarHandle" ∧ (parseMethodDescriptor mX11_asks.1.desc).map (fun d => d.parameters.length) = some 0 := ⟨by decide +kernel, by decide +kernel, by decide +kernel⟩
def mX11_layTheirs : zMeth := (yX11_layTheirs, cX11_layTheirs, 3, none)
theorem zcd_X11_layTheirs : zcode mX11_layTheirs ∈ zTw := zTw_mem (List.mem_of_getElem? (i := 1842) (by decide +kernel)) rfl
theorem zhn_X11_layTheirs : mX11_layTheirs.1.cls ≠ "java/lang/invoke/MethodHandle" ∧ mX11_layTheirs.1.cls ≠ "java/lang/invoke/VarHandle" ∧ (parseMethodDescriptor mX11_layTheirs.1.desc).map (fun d => d.parameters.length) = some 1 := ⟨by decide +kernel, by decide +kernel, by decide +kernel⟩
def mX11_other : zMeth := (yX11_other, cX11_other, 7, some .int)
theorem zcd_X11_other : zcode mX11_other ∈ zTw := zTw_mem (List.mem_of_getElem? (i := 1838) (by decide +kernel)) rfl
theorem zhn_X11_other : mX11_other.1.cls ≠ "java/lang/invoke/MethodHandle" ∧ mX11_other.1.cls ≠ "java/lang/invoke/VarHandle" ∧ (parseMethodDescriptor mX11_other.1.desc).map (fun d => d.parameters.length) = some 1 := ⟨by decide +kernel, by decide +kernel, by decide +kernel⟩
def mX11_carry : zMeth := (yX11_carry, cX11_carry, 5, some .int)
theorem zcd_X11_carry : zcode mX11_carry ∈ zTw := zTw_mem (List.mem_of_getElem? (i := 1846) (by decide +kernel)) rfl
theorem zhn_X11_carry : mX11_carry.1.cls ≠ "java/lang/invoke/MethodHandle" ∧ mX11_carry.1.cls ≠ "java/lang/invoke/VarHandle" ∧ (parseMethodDescriptor mX11_carry.1.desc).map (fun d => d.parameters.length) = some 2 := ⟨by decide +kernel, by decide +kernel, by decide +kernel⟩
def mX11_draw : zMeth := (yX11_draw, cX11_draw, 2, some .int)
theorem zcd_X11_draw : zcode mX11_draw ∈ zTw := zTw_mem (List.mem_of_getElem? (i := 1854) (by decide +kernel)) rfl
theorem zhn_X11_draw : mX11_draw.1.cls ≠ "java/lang/invoke/MethodHandle" ∧ mX11_draw.1.cls ≠ "java/lang/invoke/VarHandle" ∧ (parseMethodDescriptor mX11_draw.1.desc).map (fun d => d.parameters.length) = some 1 := ⟨by decide +kernel, by decide +kernel, by decide +kernel⟩
def mX11_drifts : zMeth := (yX11_drifts, cX11_drifts, 8, some .int)
theorem zcd_X11_drifts : zcode mX11_drifts ∈ zTw := zTw_mem (List.mem_of_getElem? (i := 1850) (by decide +kernel)) rfl
theorem zhn_X11_drifts : mX11_drifts.1.cls ≠ "java/lang/invoke/MethodHandle" ∧ mX11_drifts.1.cls ≠ "java/lang/invoke/VarHandle" ∧ (parseMethodDescriptor mX11_drifts.1.desc).map (fun d => d.parameters.length) = some 2 := ⟨by decide +kernel, by decide +kernel, by decide +kernel⟩
def mX11_change : zMeth := (yX11_change, cX11_change, 2, none)
theorem zcd_X11_change : zcode mX11_change ∈ zTw := zTw_mem (List.mem_of_getElem? (i := 1502) (by decide +kernel)) rfl
theorem zhn_X11_change : mX11_change.1.cls ≠ "java/lang/invoke/MethodHandle" ∧ mX11_change.1.cls ≠ "java/lang/invoke/VarHandle" ∧ (parseMethodDescriptor mX11_change.1.desc).map (fun d => d.parameters.length) = some 0 := ⟨by decide +kernel, by decide +kernel, by decide +kernel⟩
def mX11_note : zMeth := (yX11_note, cX11_note, 2, none)
theorem zcd_X11_note : zcode mX11_note ∈ zTw := zTw_mem (List.mem_of_getElem? (i := 1506) (by decide +kernel)) rfl
theorem zhn_X11_note : mX11_note.1.cls ≠ "java/lang/invoke/MethodHandle" ∧ mX11_note.1.cls ≠ "java/lang/invoke/VarHandle" ∧ (parseMethodDescriptor mX11_note.1.desc).map (fun d => d.parameters.length) = some 0 := ⟨by decide +kernel, by decide +kernel, by decide +kernel⟩
def mX11_measured : zMeth := (yX11_measured, cX11_measured, 3, some .int)
theorem zcd_X11_measured : zcode mX11_measured ∈ zTw := zTw_mem (List.mem_of_getElem? (i := 1863) (by decide +kernel)) rfl
theorem zhn_X11_measured : mX11_measured.1.cls ≠ "java/lang/invoke/MethodHandle" ∧ mX11_measured.1.cls ≠ "java/lang/invoke/VarHandle" ∧ (parseMethodDescriptor mX11_measured.1.desc).map (fun d => d.parameters.length) = some 0 := ⟨by decide +kernel, by decide +kernel, by decide +kernel⟩
def mX11_measure : zMeth := (yX11_measure, cX11_measure, 5, some .int)
theorem zcd_X11_measure : zcode mX11_measure ∈ zTw := zTw_mem (List.mem_of_getElem? (i := 1859) (by decide +kernel)) rfl
theorem zhn_X11_measure : mX11_measure.1.cls ≠ "java/lang/invoke/MethodHandle" ∧ mX11_measure.1.cls ≠ "java/lang/invoke/VarHandle" ∧ (parseMethodDescriptor mX11_measure.1.desc).map (fun d => d.parameters.length) = some 4 := ⟨by decide +kernel, by decide +kernel, by decide +kernel⟩
def mX11_forgets : zMeth := (yX11_forgets, cX11_forgets, 2, some .int)
theorem zcd_X11_forgets : zcode mX11_forgets ∈ zTw := zTw_mem (List.mem_of_getElem? (i := 1867) (by decide +kernel)) rfl
theorem zhn_X11_forgets : mX11_forgets.1.cls ≠ "java/lang/invoke/MethodHandle" ∧ mX11_forgets.1.cls ≠ "java/lang/invoke/VarHandle" ∧ (parseMethodDescriptor mX11_forgets.1.desc).map (fun d => d.parameters.length) = some 1 := ⟨by decide +kernel, by decide +kernel, by decide +kernel⟩
def mX11_refusesSet : zMeth := (yX11_refusesSet, cX11_refusesSet, 3, some .int)
theorem zcd_X11_refusesSet : zcode mX11_refusesSet ∈ zTw := zTw_mem (List.mem_of_getElem? (i := 1875) (by decide +kernel)) rfl
theorem zhn_X11_refusesSet : mX11_refusesSet.1.cls ≠ "java/lang/invoke/MethodHandle" ∧ mX11_refusesSet.1.cls ≠ "java/lang/invoke/VarHandle" ∧ (parseMethodDescriptor mX11_refusesSet.1.desc).map (fun d => d.parameters.length) = some 2 := ⟨by decide +kernel, by decide +kernel, by decide +kernel⟩
def mX11_sets : zMeth := (yX11_sets, cX11_sets, 5, some .int)
theorem zcd_X11_sets : zcode mX11_sets ∈ zTw := zTw_mem (List.mem_of_getElem? (i := 1871) (by decide +kernel)) rfl
theorem zhn_X11_sets : mX11_sets.1.cls ≠ "java/lang/invoke/MethodHandle" ∧ mX11_sets.1.cls ≠ "java/lang/invoke/VarHandle" ∧ (parseMethodDescriptor mX11_sets.1.desc).map (fun d => d.parameters.length) = some 2 := ⟨by decide +kernel, by decide +kernel, by decide +kernel⟩
def mX11_paint : zMeth := (yX11_paint, cX11_paint, 5, none)
theorem zcd_X11_paint : zcode mX11_paint ∈ zTw := zTw_mem (List.mem_of_getElem? (i := 1887) (by decide +kernel)) rfl
theorem zhn_X11_paint : mX11_paint.1.cls ≠ "java/lang/invoke/MethodHandle" ∧ mX11_paint.1.cls ≠ "java/lang/invoke/VarHandle" ∧ (parseMethodDescriptor mX11_paint.1.desc).map (fun d => d.parameters.length) = some 4 := ⟨by decide +kernel, by decide +kernel, by decide +kernel⟩
def mX11_paints : zMeth := (yX11_paints, cX11_paints, 6, some .int)
theorem zcd_X11_paints : zcode mX11_paints ∈ zTw := zTw_mem (List.mem_of_getElem? (i := 1883) (by decide +kernel)) rfl
theorem zhn_X11_paints : mX11_paints.1.cls ≠ "java/lang/invoke/MethodHandle" ∧ mX11_paints.1.cls ≠ "java/lang/invoke/VarHandle" ∧ (parseMethodDescriptor mX11_paints.1.desc).map (fun d => d.parameters.length) = some 4 := ⟨by decide +kernel, by decide +kernel, by decide +kernel⟩
def mX11_readAct : zMeth := (yX11_readAct, cX11_readAct, 4, none)
theorem zcd_X11_readAct : zcode mX11_readAct ∈ zTw := zTw_mem (List.mem_of_getElem? (i := 1895) (by decide +kernel)) rfl
theorem zhn_X11_readAct : mX11_readAct.1.cls ≠ "java/lang/invoke/MethodHandle" ∧ mX11_readAct.1.cls ≠ "java/lang/invoke/VarHandle" ∧ (parseMethodDescriptor mX11_readAct.1.desc).map (fun d => d.parameters.length) = some 1 := ⟨by decide +kernel, by decide +kernel, by decide +kernel⟩
def mX11_set : zMeth := (yX11_set, cX11_set, 3, some .boolean)
theorem zcd_X11_set : zcode mX11_set ∈ zTw := zTw_mem (List.mem_of_getElem? (i := 1903) (by decide +kernel)) rfl
theorem zhn_X11_set : mX11_set.1.cls ≠ "java/lang/invoke/MethodHandle" ∧ mX11_set.1.cls ≠ "java/lang/invoke/VarHandle" ∧ (parseMethodDescriptor mX11_set.1.desc).map (fun d => d.parameters.length) = some 2 := ⟨by decide +kernel, by decide +kernel, by decide +kernel⟩
def mX11_act : zMeth := (yX11_act, cX11_act, 4, some .boolean)
theorem zcd_X11_act : zcode mX11_act ∈ zTw := zTw_mem (List.mem_of_getElem? (i := 1899) (by decide +kernel)) rfl
theorem zhn_X11_act : mX11_act.1.cls ≠ "java/lang/invoke/MethodHandle" ∧ mX11_act.1.cls ≠ "java/lang/invoke/VarHandle" ∧ (parseMethodDescriptor mX11_act.1.desc).map (fun d => d.parameters.length) = some 1 := ⟨by decide +kernel, by decide +kernel, by decide +kernel⟩
def mX11_day : zMeth := (yX11_day, cX11_day, 3, some .int)
theorem zcd_X11_day : zcode mX11_day ∈ zTw := zTw_mem (List.mem_of_getElem? (i := 1891) (by decide +kernel)) rfl
theorem zhn_X11_day : mX11_day.1.cls ≠ "java/lang/invoke/MethodHandle" ∧ mX11_day.1.cls ≠ "java/lang/invoke/VarHandle" ∧ (parseMethodDescriptor mX11_day.1.desc).map (fun d => d.parameters.length) = some 0 := ⟨by decide +kernel, by decide +kernel, by decide +kernel⟩
def mX11_undo : zMeth := (yX11_undo, cX11_undo, 2, some .int)
theorem zcd_X11_undo : zcode mX11_undo ∈ zTw := zTw_mem (List.mem_of_getElem? (i := 1907) (by decide +kernel)) rfl
theorem zhn_X11_undo : mX11_undo.1.cls ≠ "java/lang/invoke/MethodHandle" ∧ mX11_undo.1.cls ≠ "java/lang/invoke/VarHandle" ∧ (parseMethodDescriptor mX11_undo.1.desc).map (fun d => d.parameters.length) = some 0 := ⟨by decide +kernel, by decide +kernel, by decide +kernel⟩
def mX11_keep : zMeth := (yX11_keep, cX11_keep, 3, some .boolean)
theorem zcd_X11_keep : zcode mX11_keep ∈ zTw := zTw_mem (List.mem_of_getElem? (i := 1911) (by decide +kernel)) rfl
theorem zhn_X11_keep : mX11_keep.1.cls ≠ "java/lang/invoke/MethodHandle" ∧ mX11_keep.1.cls ≠ "java/lang/invoke/VarHandle" ∧ (parseMethodDescriptor mX11_keep.1.desc).map (fun d => d.parameters.length) = some 1 := ⟨by decide +kernel, by decide +kernel, by decide +kernel⟩
def mX11_again : zMeth := (yX11_again, cX11_again, 3, some .boolean)
theorem zcd_X11_again : zcode mX11_again ∈ zTw := zTw_mem (List.mem_of_getElem? (i := 1915) (by decide +kernel)) rfl
theorem zhn_X11_again : mX11_again.1.cls ≠ "java/lang/invoke/MethodHandle" ∧ mX11_again.1.cls ≠ "java/lang/invoke/VarHandle" ∧ (parseMethodDescriptor mX11_again.1.desc).map (fun d => d.parameters.length) = some 1 := ⟨by decide +kernel, by decide +kernel, by decide +kernel⟩
def mX11_count : zMeth := (yX11_count, cX11_count, 2, some .int)
theorem zcd_X11_count : zcode mX11_count ∈ zTw := zTw_mem (List.mem_of_getElem? (i := 1919) (by decide +kernel)) rfl
theorem zhn_X11_count : mX11_count.1.cls ≠ "java/lang/invoke/MethodHandle" ∧ mX11_count.1.cls ≠ "java/lang/invoke/VarHandle" ∧ (parseMethodDescriptor mX11_count.1.desc).map (fun d => d.parameters.length) = some 1 := ⟨by decide +kernel, by decide +kernel, by decide +kernel⟩
def mX11_row : zMeth := (yX11_row, cX11_row, 2, some .long)
theorem zcd_X11_row : zcode mX11_row ∈ zTw := zTw_mem (List.mem_of_getElem? (i := 1923) (by decide +kernel)) rfl
theorem zhn_X11_row : mX11_row.1.cls ≠ "java/lang/invoke/MethodHandle" ∧ mX11_row.1.cls ≠ "java/lang/invoke/VarHandle" ∧ (parseMethodDescriptor mX11_row.1.desc).map (fun d => d.parameters.length) = some 1 := ⟨by decide +kernel, by decide +kernel, by decide +kernel⟩
def mJ7_fill_53178 : zMeth := (yJ7_fill_53178, cJ7_fill_53178, 4, none)
theorem zcd_J7_fill_53178 : zcode mJ7_fill_53178 ∈ zTw := zTw_mem (List.mem_of_getElem? (i := 252) (by decide +kernel)) rfl
theorem zhn_J7_fill_53178 : mJ7_fill_53178.1.cls ≠ "java/lang/invoke/MethodHandle" ∧ mJ7_fill_53178.1.cls ≠ "java/lang/invoke/VarHandle" ∧ (parseMethodDescriptor mJ7_fill_53178.1.desc).map (fun d => d.parameters.length) = some 2 := ⟨by decide +kernel, by decide +kernel, by decide +kernel⟩
