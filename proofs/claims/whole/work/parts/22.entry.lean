/-! ===== ranks and entries (printed by wip/whole/gen/pre.py) ===== -/
section
variable {L : Nat} {xs : Nat → Int32} {H : zH}
theorem rk_0 (as : List Value) : (zPr L xs).2.1 0 as = 0 := rfl
theorem rk_1 (as : List Value) : (zPr L xs).2.1 1 as = 3 := rfl
theorem rk_2 (as : List Value) : (zPr L xs).2.1 2 as = 2 := rfl
theorem rk_3 (as : List Value) : (zPr L xs).2.1 3 as = 1 := rfl
theorem rk_4 (as : List Value) : (zPr L xs).2.1 4 as = 3 := rfl
theorem rk_5 (as : List Value) : (zPr L xs).2.1 5 as = 3 := rfl
theorem rk_6 (as : List Value) : (zPr L xs).2.1 6 as = 2 := rfl
theorem rk_7 (as : List Value) : (zPr L xs).2.1 7 as = 0 := rfl
theorem rk_8 (as : List Value) : (zPr L xs).2.1 8 as = 0 := rfl
theorem rk_9 (as : List Value) : (zPr L xs).2.1 9 as = 1 := rfl
theorem rk_10 (as : List Value) : (zPr L xs).2.1 10 as = 2 := rfl
theorem rk_11 (as : List Value) : (zPr L xs).2.1 11 as = 0 := rfl
theorem rk_12 (as : List Value) : (zPr L xs).2.1 12 as = 1 := rfl
theorem rk_13 (as : List Value) : (zPr L xs).2.1 13 as = 0 := rfl
theorem rk_14 (as : List Value) : (zPr L xs).2.1 14 as = 1 := rfl
theorem rk_15 (as : List Value) : (zPr L xs).2.1 15 as = 0 := rfl
theorem rk_16 (as : List Value) : (zPr L xs).2.1 16 as = 0 := rfl
theorem rk_17 (as : List Value) : (zPr L xs).2.1 17 as = 0 := rfl
theorem rk_18 (as : List Value) : (zPr L xs).2.1 18 as = 0 := rfl
theorem rk_19 (as : List Value) : (zPr L xs).2.1 19 as = 0 := rfl
theorem rk_20 (as : List Value) : (zPr L xs).2.1 20 as = 0 := rfl
theorem rk_21 (as : List Value) : (zPr L xs).2.1 21 as = 1 := rfl
theorem rk_22 (as : List Value) : (zPr L xs).2.1 22 as = 0 := rfl
theorem rk_23 (as : List Value) : (zPr L xs).2.1 23 as = 0 := rfl
theorem rk_24 (as : List Value) : (zPr L xs).2.1 24 as = 0 := rfl
theorem rk_25 (as : List Value) : (zPr L xs).2.1 25 as = 33 := rfl
theorem rk_26 (as : List Value) : (zPr L xs).2.1 26 as = 5 := rfl
theorem rk_27 (as : List Value) : (zPr L xs).2.1 27 as = 32 := rfl
theorem rk_28 (as : List Value) : (zPr L xs).2.1 28 as = 1 := rfl
theorem rk_29 (as : List Value) : (zPr L xs).2.1 29 as = 1 := rfl
theorem rk_30 (as : List Value) : (zPr L xs).2.1 30 as = 5 := rfl
theorem rk_31 (as : List Value) : (zPr L xs).2.1 31 as = 5 := rfl
theorem rk_32 (as : List Value) : (zPr L xs).2.1 32 as = 4 := rfl
theorem rk_33 (as : List Value) : (zPr L xs).2.1 33 as = 4 := rfl
theorem rk_34 (as : List Value) : (zPr L xs).2.1 34 as = 0 := rfl
theorem rk_37 (as : List Value) : (zPr L xs).2.1 37 as = 2 := rfl
theorem rk_38 (as : List Value) : (zPr L xs).2.1 38 as = 1 := rfl
theorem rk_39 (as : List Value) : (zPr L xs).2.1 39 as = 0 := rfl
theorem rk_40 (as : List Value) : (zPr L xs).2.1 40 as = 0 := rfl
theorem rk_41 (as : List Value) : (zPr L xs).2.1 41 as = 1 := rfl
theorem rk_42 (as : List Value) : (zPr L xs).2.1 42 as = 4 := rfl
theorem rk_43 (as : List Value) : (zPr L xs).2.1 43 as = 0 := rfl
theorem rk_44 (as : List Value) : (zPr L xs).2.1 44 as = 0 := rfl
theorem rk_45 (as : List Value) : (zPr L xs).2.1 45 as = 4 := rfl
theorem rk_46 (as : List Value) : (zPr L xs).2.1 46 as = 1 := rfl
theorem rk_47 (as : List Value) : (zPr L xs).2.1 47 as = 5 := rfl
theorem rk_48 (as : List Value) : (zPr L xs).2.1 48 as = 6 := rfl
theorem rk_49 (as : List Value) : (zPr L xs).2.1 49 as = 4 := rfl
theorem rk_50 (as : List Value) : (zPr L xs).2.1 50 as = 1 := rfl
theorem rk_51 (as : List Value) : (zPr L xs).2.1 51 as = 7 := rfl
theorem rk_52 (as : List Value) : (zPr L xs).2.1 52 as = 1 := rfl
theorem rk_53 (as : List Value) : (zPr L xs).2.1 53 as = 1 := rfl
theorem rk_54 (as : List Value) : (zPr L xs).2.1 54 as = 7 := rfl
theorem rk_55 (as : List Value) : (zPr L xs).2.1 55 as = 7 := rfl
theorem rk_56 (as : List Value) : (zPr L xs).2.1 56 as = 2 := rfl
theorem rk_57 (as : List Value) : (zPr L xs).2.1 57 as = 5 := rfl
theorem rk_58 (as : List Value) : (zPr L xs).2.1 58 as = 8 := rfl
theorem rk_59 (as : List Value) : (zPr L xs).2.1 59 as = 7 := rfl
theorem rk_60 (as : List Value) : (zPr L xs).2.1 60 as = 6 := rfl
theorem rk_61 (as : List Value) : (zPr L xs).2.1 61 as = 0 := rfl
theorem rk_62 (as : List Value) : (zPr L xs).2.1 62 as = 0 := rfl
theorem rk_63 (as : List Value) : (zPr L xs).2.1 63 as = 0 := rfl
theorem rk_64 (as : List Value) : (zPr L xs).2.1 64 as = 0 := rfl
theorem rk_65 (as : List Value) : (zPr L xs).2.1 65 as = 1 := rfl
theorem rk_66 (as : List Value) : (zPr L xs).2.1 66 as = 0 := rfl
theorem rk_67 (as : List Value) : (zPr L xs).2.1 67 as = 0 := rfl
theorem rk_68 (as : List Value) : (zPr L xs).2.1 68 as = 5 := rfl
theorem rk_69 (as : List Value) : (zPr L xs).2.1 69 as = 4 := rfl
theorem rk_70 (as : List Value) : (zPr L xs).2.1 70 as = 2 := rfl
theorem rk_71 (as : List Value) : (zPr L xs).2.1 71 as = 2 := rfl
theorem rk_72 (as : List Value) : (zPr L xs).2.1 72 as = 34 := rfl
theorem rk_73 (as : List Value) : (zPr L xs).2.1 73 as = 1 := rfl
theorem rk_74 (as : List Value) : (zPr L xs).2.1 74 as = 1 := rfl
theorem rk_75 (as : List Value) : (zPr L xs).2.1 75 as = 1 := rfl
theorem rk_76 (as : List Value) : (zPr L xs).2.1 76 as = 0 := rfl
theorem rk_77 (as : List Value) : (zPr L xs).2.1 77 as = 1 := rfl
theorem rk_78 (as : List Value) : (zPr L xs).2.1 78 as = 2 := rfl
theorem rk_79 (as : List Value) : (zPr L xs).2.1 79 as = 0 := rfl
theorem rk_80 (as : List Value) : (zPr L xs).2.1 80 as = 1 := rfl
theorem rk_81 (as : List Value) : (zPr L xs).2.1 81 as = 0 := rfl
theorem rk_82 (as : List Value) : (zPr L xs).2.1 82 as = 0 := rfl
theorem rk_83 (as : List Value) : (zPr L xs).2.1 83 as = 1 := rfl
theorem rk_84 (as : List Value) : (zPr L xs).2.1 84 as = 0 := rfl
theorem rk_85 (as : List Value) : (zPr L xs).2.1 85 as = 8 := rfl
theorem rk_86 (as : List Value) : (zPr L xs).2.1 86 as = 0 := rfl
theorem rk_87 (as : List Value) : (zPr L xs).2.1 87 as = 0 := rfl
theorem rk_88 (as : List Value) : (zPr L xs).2.1 88 as = 0 := rfl
theorem rk_89 (as : List Value) : (zPr L xs).2.1 89 as = 0 := rfl
theorem rk_90 (as : List Value) : (zPr L xs).2.1 90 as = 1 := rfl
theorem rk_91 (as : List Value) : (zPr L xs).2.1 91 as = 0 := rfl
theorem rk_92 (as : List Value) : (zPr L xs).2.1 92 as = 0 := rfl
theorem rk_93 (as : List Value) : (zPr L xs).2.1 93 as = 0 := rfl
theorem rk_94 (as : List Value) : (zPr L xs).2.1 94 as = 0 := rfl
theorem rk_95 (as : List Value) : (zPr L xs).2.1 95 as = 1 := rfl
theorem rk_96 (as : List Value) : (zPr L xs).2.1 96 as = 1 := rfl
theorem rk_97 (as : List Value) : (zPr L xs).2.1 97 as = 1 := rfl
theorem rk_98 (as : List Value) : (zPr L xs).2.1 98 as = 0 := rfl
theorem rk_99 (as : List Value) : (zPr L xs).2.1 99 as = 2 := rfl
theorem rk_100 (as : List Value) : (zPr L xs).2.1 100 as = 1 := rfl
theorem rk_101 (as : List Value) : (zPr L xs).2.1 101 as = 1 := rfl
theorem rk_102 (as : List Value) : (zPr L xs).2.1 102 as = 2 := rfl
theorem rk_103 (as : List Value) : (zPr L xs).2.1 103 as = 1 := rfl
theorem rk_104 (as : List Value) : (zPr L xs).2.1 104 as = 1 := rfl
theorem rk_105 (as : List Value) : (zPr L xs).2.1 105 as = 2 := rfl
theorem rk_106 (as : List Value) : (zPr L xs).2.1 106 as = 2 := rfl
theorem rk_107 (as : List Value) : (zPr L xs).2.1 107 as = 0 := rfl
theorem rk_108 (as : List Value) : (zPr L xs).2.1 108 as = 3 := rfl
theorem rk_109 (as : List Value) : (zPr L xs).2.1 109 as = 0 := rfl
theorem rk_110 (as : List Value) : (zPr L xs).2.1 110 as = 1 := rfl
theorem rk_111 (as : List Value) : (zPr L xs).2.1 111 as = 4 := rfl
theorem rk_112 (as : List Value) : (zPr L xs).2.1 112 as = 0 := rfl
theorem rk_113 (as : List Value) : (zPr L xs).2.1 113 as = 2 := rfl
theorem rk_114 (as : List Value) : (zPr L xs).2.1 114 as = 2 := rfl
theorem rk_115 (as : List Value) : (zPr L xs).2.1 115 as = 5 := rfl
theorem rk_116 (as : List Value) : (zPr L xs).2.1 116 as = 2 := rfl
theorem rk_117 (as : List Value) : (zPr L xs).2.1 117 as = 6 := rfl
theorem rk_118 (as : List Value) : (zPr L xs).2.1 118 as = 7 := rfl
theorem rk_119 (as : List Value) : (zPr L xs).2.1 119 as = 0 := rfl
theorem rk_120 (as : List Value) : (zPr L xs).2.1 120 as = 1 := rfl
theorem rk_121 (as : List Value) : (zPr L xs).2.1 121 as = 1 := rfl
theorem rk_122 (as : List Value) : (zPr L xs).2.1 122 as = 1 := rfl
theorem rk_123 (as : List Value) : (zPr L xs).2.1 123 as = 2 := rfl
theorem rk_124 (as : List Value) : (zPr L xs).2.1 124 as = 3 := rfl
theorem rk_125 (as : List Value) : (zPr L xs).2.1 125 as = 1 := rfl
theorem rk_126 (as : List Value) : (zPr L xs).2.1 126 as = 0 := rfl
theorem rk_127 (as : List Value) : (zPr L xs).2.1 127 as = 4 := rfl
theorem rk_128 (as : List Value) : (zPr L xs).2.1 128 as = 5 := rfl
theorem rk_129 (as : List Value) : (zPr L xs).2.1 129 as = 6 := rfl
theorem rk_130 (as : List Value) : (zPr L xs).2.1 130 as = 0 := rfl
theorem rk_131 (as : List Value) : (zPr L xs).2.1 131 as = 0 := rfl
theorem rk_132 (as : List Value) : (zPr L xs).2.1 132 as = 3 := rfl
theorem rk_133 (as : List Value) : (zPr L xs).2.1 133 as = 4 := rfl
theorem rk_134 (as : List Value) : (zPr L xs).2.1 134 as = 4 := rfl
theorem rk_135 (as : List Value) : (zPr L xs).2.1 135 as = 1 := rfl
theorem rk_136 (as : List Value) : (zPr L xs).2.1 136 as = 1 := rfl
theorem rk_137 (as : List Value) : (zPr L xs).2.1 137 as = 6 := rfl
theorem rk_138 (as : List Value) : (zPr L xs).2.1 138 as = 5 := rfl
theorem rk_139 (as : List Value) : (zPr L xs).2.1 139 as = 0 := rfl
theorem rk_140 (as : List Value) : (zPr L xs).2.1 140 as = 0 := rfl
theorem rk_141 (as : List Value) : (zPr L xs).2.1 141 as = 7 := rfl
theorem rk_142 (as : List Value) : (zPr L xs).2.1 142 as = 3 := rfl
theorem rk_143 (as : List Value) : (zPr L xs).2.1 143 as = 0 := rfl
theorem rk_144 (as : List Value) : (zPr L xs).2.1 144 as = 4 := rfl
theorem rk_145 (as : List Value) : (zPr L xs).2.1 145 as = 1 := rfl
theorem rk_146 (as : List Value) : (zPr L xs).2.1 146 as = 8 := rfl
theorem rk_147 (as : List Value) : (zPr L xs).2.1 147 as = 1 := rfl
theorem rk_148 (as : List Value) : (zPr L xs).2.1 148 as = 1 := rfl
theorem rk_149 (as : List Value) : (zPr L xs).2.1 149 as = 1 := rfl
theorem rk_150 (as : List Value) : (zPr L xs).2.1 150 as = 1 := rfl
theorem rk_151 (as : List Value) : (zPr L xs).2.1 151 as = 0 := rfl
theorem rk_152 (as : List Value) : (zPr L xs).2.1 152 as = 1 := rfl
theorem rk_153 (as : List Value) : (zPr L xs).2.1 153 as = 1 := rfl
theorem rk_154 (as : List Value) : (zPr L xs).2.1 154 as = 3 := rfl
theorem rk_155 (as : List Value) : (zPr L xs).2.1 155 as = 35 := rfl
theorem rk_156 (as : List Value) : (zPr L xs).2.1 156 as = 2 := rfl
theorem rk_157 (as : List Value) : (zPr L xs).2.1 157 as = 2 := rfl
theorem rk_158 (as : List Value) : (zPr L xs).2.1 158 as = 2 := rfl
theorem rk_159 (as : List Value) : (zPr L xs).2.1 159 as = 3 := rfl
theorem rk_160 (as : List Value) : (zPr L xs).2.1 160 as = 36 := rfl
theorem en_0 {a0 : Int64} : zCl (zPr L xs) 0 [.long a0] H = zEv (zPr L xs) 0 0 0 [.val (.long a0), .second] [] H := rfl
theorem en_1 {a0 : Nat} {a1 : Nat} : zCl (zPr L xs) 1 [.ref a0, .ref a1] H = zEv (zPr L xs) 3 1 0 [.val (.ref a0), .val (.ref a1)] [] H := rfl
theorem en_2 {a0 : Nat} {a1 : Nat} {a2 : Int32} {a3 : Int32} {a4 : Nat} : zCl (zPr L xs) 2 [.ref a0, .ref a1, .int a2, .int a3, .ref a4] H = zEv (zPr L xs) 2 2 0 [.val (.ref a0), .val (.ref a1), .val (.int a2), .val (.int a3), .val (.ref a4), .unset] [] H := rfl
theorem en_3 {a0 : Nat} : zCl (zPr L xs) 3 [.ref a0] H = zEv (zPr L xs) 1 3 0 [.val (.ref a0)] [] H := rfl
theorem en_4 {a0 : Nat} {a1 : Int32} : zCl (zPr L xs) 4 [.ref a0, .int a1] H = zEv (zPr L xs) 3 4 0 [.val (.ref a0), .val (.int a1)] [] H := rfl
theorem en_5 {a0 : Nat} {a1 : Int32} : zCl (zPr L xs) 5 [.ref a0, .int a1] H = zEv (zPr L xs) 3 5 0 [.val (.ref a0), .val (.int a1)] [] H := rfl
theorem en_6 {a0 : Nat} {a1 : Int32} {a2 : Int32} : zCl (zPr L xs) 6 [.ref a0, .int a1, .int a2] H = zEv (zPr L xs) 2 6 0 [.val (.ref a0), .val (.int a1), .val (.int a2)] [] H := rfl
theorem en_7 {a0 : Nat} : zCl (zPr L xs) 7 [.ref a0] H = zEv (zPr L xs) 0 7 0 [.val (.ref a0)] [] H := rfl
theorem en_8 {a0 : Nat} : zCl (zPr L xs) 8 [.ref a0] H = zEv (zPr L xs) 0 8 0 [.val (.ref a0)] [] H := rfl
theorem en_9 {a0 : Nat} {a1 : Int32} {a2 : Int32} : zCl (zPr L xs) 9 [.ref a0, .int a1, .int a2] H = zEv (zPr L xs) 1 9 0 [.val (.ref a0), .val (.int a1), .val (.int a2)] [] H := rfl
theorem en_10 {a0 : Nat} {a1 : Int32} : zCl (zPr L xs) 10 [.ref a0, .int a1] H = zEv (zPr L xs) 2 10 0 [.val (.ref a0), .val (.int a1)] [] H := rfl
theorem en_11 {a0 : Int32} : zCl (zPr L xs) 11 [.int a0] H = zEv (zPr L xs) 0 11 0 [.val (.int a0)] [] H := rfl
theorem en_12 {a0 : Nat} {a1 : Int32} {a2 : Int32} {a3 : Int32} : zCl (zPr L xs) 12 [.ref a0, .int a1, .int a2, .int a3] H = zEv (zPr L xs) 1 12 0 [.val (.ref a0), .val (.int a1), .val (.int a2), .val (.int a3)] [] H := rfl
theorem en_13 {a0 : Nat} {a1 : Int32} {a2 : Int32} {a3 : Int32} : zCl (zPr L xs) 13 [.ref a0, .int a1, .int a2, .int a3] H = zEv (zPr L xs) 0 13 0 [.val (.ref a0), .val (.int a1), .val (.int a2), .val (.int a3), .unset, .unset] [] H := rfl
theorem en_14 {a0 : Nat} {a1 : Int32} {a2 : Int32} : zCl (zPr L xs) 14 [.ref a0, .int a1, .int a2] H = zEv (zPr L xs) 1 14 0 [.val (.ref a0), .val (.int a1), .val (.int a2), .unset, .unset, .unset] [] H := rfl
theorem en_15 {a0 : Nat} {a1 : Int32} {a2 : Nat} {a3 : Int32} {a4 : Int32} : zCl (zPr L xs) 15 [.ref a0, .int a1, .ref a2, .int a3, .int a4] H = zEv (zPr L xs) 0 15 0 [.val (.ref a0), .val (.int a1), .val (.ref a2), .val (.int a3), .val (.int a4), .unset, .unset] [] H := rfl
theorem en_16 {a0 : Nat} {a1 : Int32} : zCl (zPr L xs) 16 [.ref a0, .int a1] H = zEv (zPr L xs) 0 16 0 [.val (.ref a0), .val (.int a1)] [] H := rfl
theorem en_17 {a0 : Int32} {a1 : Int32} : zCl (zPr L xs) 17 [.int a0, .int a1, .float 0] H = zEv (zPr L xs) 0 17 0 [.val (.int a0), .val (.int a1), .val (.float 0)] [] H := rfl
theorem en_18 {a0 : Nat} : zCl (zPr L xs) 18 [.ref a0] H = zEv (zPr L xs) 0 18 0 [.val (.ref a0)] [] H := rfl
theorem en_19 {a0 : Nat} : zCl (zPr L xs) 19 [.ref a0] H = zEv (zPr L xs) 0 19 0 [.val (.ref a0)] [] H := rfl
theorem en_20 {a0 : Nat} {a1 : Int32} : zCl (zPr L xs) 20 [.ref a0, .int a1] H = zEv (zPr L xs) 0 20 0 [.val (.ref a0), .val (.int a1)] [] H := rfl
theorem en_21 {a0 : Nat} {a1 : Int32} {a2 : Nat} : zCl (zPr L xs) 21 [.ref a0, .int a1, .ref a2] H = zEv (zPr L xs) 1 21 0 [.val (.ref a0), .val (.int a1), .val (.ref a2)] [] H := rfl
theorem en_22 {a0 : Nat} : zCl (zPr L xs) 22 [.ref a0] H = zEv (zPr L xs) 0 22 0 [.val (.ref a0), .unset, .unset, .unset] [] H := rfl
theorem en_23 {a0 : Nat} {a1 : Int32} {a2 : Int32} {a3 : Nat} : zCl (zPr L xs) 23 [.ref a0, .int a1, .int a2, .ref a3] H = zEv (zPr L xs) 0 23 0 [.val (.ref a0), .val (.int a1), .val (.int a2), .val (.ref a3)] [] H := rfl
theorem en_24 {a0 : Nat} {a1 : Nat} {a2 : Int32} {a3 : Nat} : zCl (zPr L xs) 24 [.ref a0, .ref a1, .int a2, .ref a3] H = zEv (zPr L xs) 0 24 0 [.val (.ref a0), .val (.ref a1), .val (.int a2), .val (.ref a3)] [] H := rfl
theorem en_25 {a0 : Nat} : zCl (zPr L xs) 25 [.ref a0] H = zEv (zPr L xs) 33 25 0 [.val (.ref a0), .unset] [] H := rfl
theorem en_26 {a0 : Nat} : zCl (zPr L xs) 26 [.ref a0] H = zEv (zPr L xs) 5 26 0 [.val (.ref a0), .unset] [] H := rfl
theorem en_27 {a0 : Nat} {a1 : Nat} : zCl (zPr L xs) 27 [.ref a0, .ref a1] H = zEv (zPr L xs) 32 27 0 [.val (.ref a0), .val (.ref a1)] [] H := rfl
theorem en_28 {a0 : Nat} : zCl (zPr L xs) 28 [.ref a0] H = zEv (zPr L xs) 1 28 0 [.val (.ref a0), .unset] [] H := rfl
theorem en_29 {a0 : Nat} : zCl (zPr L xs) 29 [.ref a0] H = zEv (zPr L xs) 1 29 0 [.val (.ref a0)] [] H := rfl
theorem en_30 {a0 : Nat} : zCl (zPr L xs) 30 [.ref a0] H = zEv (zPr L xs) 5 30 0 [.val (.ref a0)] [] H := rfl
theorem en_31 {a0 : Nat} : zCl (zPr L xs) 31 [.ref a0] H = zEv (zPr L xs) 5 31 0 [.val (.ref a0), .unset, .unset] [] H := rfl
theorem en_32 {a0 : Nat} : zCl (zPr L xs) 32 [.ref a0] H = zEv (zPr L xs) 4 32 0 [.val (.ref a0), .unset] [] H := rfl
theorem en_33 {a0 : Nat} {a1 : Int32} {a2 : Int32} : zCl (zPr L xs) 33 [.ref a0, .int a1, .int a2] H = zEv (zPr L xs) 4 33 0 [.val (.ref a0), .val (.int a1), .val (.int a2), .unset, .unset, .unset] [] H := rfl
theorem en_34 {a0 : Nat} {a1 : Int32} {a2 : Int32} : zCl (zPr L xs) 34 [.ref a0, .int a1, .int a2] H = zEv (zPr L xs) 0 34 0 [.val (.ref a0), .val (.int a1), .val (.int a2), .unset] [] H := rfl
theorem en_35 {a0 : Nat} {a1 : Int32} : zCl (zPr L xs) 35 [.ref a0, .int a1] H = zEv (zPr L xs) (6 + 2 * (10 - a1.toNatClampNeg) + 1) 35 0 [.val (.ref a0), .val (.int a1), .unset, .unset, .unset] [] H := rfl
theorem en_36 {a0 : Nat} {a1 : Int32} : zCl (zPr L xs) 36 [.ref a0, .int a1] H = zEv (zPr L xs) (6 + 2 * (10 - a1.toNatClampNeg)) 36 0 [.val (.ref a0), .val (.int a1), .unset, .unset] [] H := rfl
theorem en_37 {a0 : Nat} {a1 : Int32} : zCl (zPr L xs) 37 [.ref a0, .int a1] H = zEv (zPr L xs) 2 37 0 [.val (.ref a0), .val (.int a1), .unset, .unset, .unset, .unset, .unset, .unset] [] H := rfl
theorem en_38 {a0 : Nat} {a1 : Int32} : zCl (zPr L xs) 38 [.ref a0, .int a1] H = zEv (zPr L xs) 1 38 0 [.val (.ref a0), .val (.int a1), .unset, .unset, .unset] [] H := rfl
theorem en_39 {a0 : Nat} : zCl (zPr L xs) 39 [.ref a0] H = zEv (zPr L xs) 0 39 0 [.val (.ref a0)] [] H := rfl
theorem en_40 {a0 : Nat} {a1 : Int32} : zCl (zPr L xs) 40 [.ref a0, .int a1] H = zEv (zPr L xs) 0 40 0 [.val (.ref a0), .val (.int a1)] [] H := rfl
theorem en_41 {a0 : Nat} {a1 : Int32} : zCl (zPr L xs) 41 [.ref a0, .int a1] H = zEv (zPr L xs) 1 41 0 [.val (.ref a0), .val (.int a1)] [] H := rfl
theorem en_42 {a0 : Nat} {a1 : Nat} : zCl (zPr L xs) 42 [.ref a0, .ref a1] H = zEv (zPr L xs) 4 42 0 [.val (.ref a0), .val (.ref a1), .unset] [] H := rfl
theorem en_43 {a0 : Nat} : zCl (zPr L xs) 43 [.ref a0] H = zEv (zPr L xs) 0 43 0 [.val (.ref a0)] [] H := rfl
theorem en_44 {a0 : Nat} {a1 : Int32} : zCl (zPr L xs) 44 [.ref a0, .int a1] H = zEv (zPr L xs) 0 44 0 [.val (.ref a0), .val (.int a1)] [] H := rfl
theorem en_45 {a0 : Nat} {a1 : Nat} : zCl (zPr L xs) 45 [.ref a0, .ref a1] H = zEv (zPr L xs) 4 45 0 [.val (.ref a0), .val (.ref a1), .unset] [] H := rfl
theorem en_46 {a0 : Nat} {a1 : Int32} : zCl (zPr L xs) 46 [.ref a0, .int a1] H = zEv (zPr L xs) 1 46 0 [.val (.ref a0), .val (.int a1), .unset] [] H := rfl
theorem en_47 {a0 : Nat} {a1 : Int32} {a2 : Nat} : zCl (zPr L xs) 47 [.ref a0, .int a1, .ref a2] H = zEv (zPr L xs) 5 47 0 [.val (.ref a0), .val (.int a1), .val (.ref a2)] [] H := rfl
theorem en_48 {a0 : Nat} {a1 : Int32} {a2 : Nat} : zCl (zPr L xs) 48 [.ref a0, .int a1, .ref a2] H = zEv (zPr L xs) 6 48 0 [.val (.ref a0), .val (.int a1), .val (.ref a2)] [] H := rfl
theorem en_49 {a0 : Nat} {a1 : Int32} : zCl (zPr L xs) 49 [.ref a0, .int a1] H = zEv (zPr L xs) 4 49 0 [.val (.ref a0), .val (.int a1), .unset] [] H := rfl
theorem en_50 {a0 : Nat} : zCl (zPr L xs) 50 [.ref a0] H = zEv (zPr L xs) 1 50 0 [.val (.ref a0)] [] H := rfl
theorem en_51 {a0 : Nat} {a1 : Nat} {a2 : Int32} : zCl (zPr L xs) 51 [.ref a0, .ref a1, .int a2] H = zEv (zPr L xs) 7 51 0 [.val (.ref a0), .val (.ref a1), .val (.int a2)] [] H := rfl
theorem en_52 {a0 : Nat} : zCl (zPr L xs) 52 [.ref a0] H = zEv (zPr L xs) 1 52 0 [.val (.ref a0)] [] H := rfl
theorem en_53 {a0 : Nat} : zCl (zPr L xs) 53 [.ref a0] H = zEv (zPr L xs) 1 53 0 [.val (.ref a0)] [] H := rfl
theorem en_54 {a0 : Nat} {a1 : Nat} : zCl (zPr L xs) 54 [.ref a0, .ref a1] H = zEv (zPr L xs) 7 54 0 [.val (.ref a0), .val (.ref a1), .unset, .unset] [] H := rfl
theorem en_55 {a0 : Nat} {a1 : Nat} : zCl (zPr L xs) 55 [.ref a0, .ref a1] H = zEv (zPr L xs) 7 55 0 [.val (.ref a0), .val (.ref a1), .unset, .unset] [] H := rfl
theorem en_56 {a0 : Nat} {a1 : Int64} {a2 : Nat} : zCl (zPr L xs) 56 [.ref a0, .long a1, .ref a2] H = zEv (zPr L xs) 2 56 0 [.val (.ref a0), .val (.long a1), .second, .val (.ref a2), .unset] [] H := rfl
theorem en_57 {a0 : Nat} {a1 : Nat} : zCl (zPr L xs) 57 [.ref a0, .ref a1] H = zEv (zPr L xs) 5 57 0 [.val (.ref a0), .val (.ref a1), .unset] [] H := rfl
theorem en_58 {a0 : Nat} {a1 : Int32} : zCl (zPr L xs) 58 [.ref a0, .int a1] H = zEv (zPr L xs) 8 58 0 [.val (.ref a0), .val (.int a1), .unset] [] H := rfl
theorem en_59 {a0 : Nat} : zCl (zPr L xs) 59 [.ref a0] H = zEv (zPr L xs) 7 59 0 [.val (.ref a0), .unset, .unset] [] H := rfl
theorem en_60 {a0 : Nat} {a1 : Int32} : zCl (zPr L xs) 60 [.ref a0, .int a1] H = zEv (zPr L xs) 6 60 0 [.val (.ref a0), .val (.int a1)] [] H := rfl
theorem en_61 {a0 : Nat} : zCl (zPr L xs) 61 [.ref a0] H = zEv (zPr L xs) 0 61 0 [.val (.ref a0)] [] H := rfl
theorem en_62 {a0 : Nat} : zCl (zPr L xs) 62 [.ref a0] H = zEv (zPr L xs) 0 62 0 [.val (.ref a0)] [] H := rfl
theorem en_63 {a0 : Nat} {a1 : Nat} : zCl (zPr L xs) 63 [.ref a0, .ref a1] H = zEv (zPr L xs) 0 63 0 [.val (.ref a0), .val (.ref a1), .unset, .unset, .unset] [] H := rfl
theorem en_64 {a0 : Nat} {a1 : Int32} : zCl (zPr L xs) 64 [.ref a0, .int a1] H = zEv (zPr L xs) 0 64 0 [.val (.ref a0), .val (.int a1)] [] H := rfl
theorem en_65 {a0 : Nat} : zCl (zPr L xs) 65 [.ref a0] H = zEv (zPr L xs) 1 65 0 [.val (.ref a0)] [] H := rfl
theorem en_66 {a0 : Nat} {a1 : Int32} {a2 : Int32} {a3 : Int32} : zCl (zPr L xs) 66 [.ref a0, .int a1, .int a2, .int a3] H = zEv (zPr L xs) 0 66 0 [.val (.ref a0), .val (.int a1), .val (.int a2), .val (.int a3), .unset, .unset, .unset, .unset] [] H := rfl
theorem en_67 {a0 : Nat} {a1 : Int32} : zCl (zPr L xs) 67 [.ref a0, .int a1] H = zEv (zPr L xs) 0 67 0 [.val (.ref a0), .val (.int a1), .unset, .unset, .unset] [] H := rfl
theorem en_68 {a0 : Nat} {a1 : Nat} : zCl (zPr L xs) 68 [.ref a0, .ref a1] H = zEv (zPr L xs) 5 68 0 [.val (.ref a0), .val (.ref a1), .unset, .unset, .unset] [] H := rfl
theorem en_69 {a0 : Nat} {a1 : Nat} : zCl (zPr L xs) 69 [.ref a0, .ref a1] H = zEv (zPr L xs) 4 69 0 [.val (.ref a0), .val (.ref a1), .unset, .unset] [] H := rfl
theorem en_70 {a0 : Nat} : zCl (zPr L xs) 70 [.ref a0] H = zEv (zPr L xs) 2 70 0 [.val (.ref a0), .unset] [] H := rfl
theorem en_71 {a0 : Nat} {a1 : Int32} {a2 : Int32} : zCl (zPr L xs) 71 [.ref a0, .int a1, .int a2] H = zEv (zPr L xs) 2 71 0 [.val (.ref a0), .val (.int a1), .val (.int a2), .unset, .unset, .unset] [] H := rfl
theorem en_72 {a0 : Nat} {a1 : Int32} : zCl (zPr L xs) 72 [.ref a0, .int a1] H = zEv (zPr L xs) 34 72 0 [.val (.ref a0), .val (.int a1), .unset, .unset, .unset, .unset] [] H := rfl
theorem en_73 {a0 : Nat} {a1 : Int32} : zCl (zPr L xs) 73 [.ref a0, .int a1] H = zEv (zPr L xs) 1 73 0 [.val (.ref a0), .val (.int a1), .unset] [] H := rfl
theorem en_74 {a0 : Nat} {a1 : Int32} : zCl (zPr L xs) 74 [.ref a0, .int a1] H = zEv (zPr L xs) 1 74 0 [.val (.ref a0), .val (.int a1)] [] H := rfl
theorem en_75 {a0 : Nat} {a1 : Int32} {a2 : Int32} : zCl (zPr L xs) 75 [.ref a0, .int a1, .int a2] H = zEv (zPr L xs) 1 75 0 [.val (.ref a0), .val (.int a1), .val (.int a2), .unset] [] H := rfl
theorem en_76 {a0 : Nat} {a1 : Int32} : zCl (zPr L xs) 76 [.ref a0, .int a1] H = zEv (zPr L xs) 0 76 0 [.val (.ref a0), .val (.int a1)] [] H := rfl
theorem en_77 {a0 : Nat} {a1 : Int32} : zCl (zPr L xs) 77 [.ref a0, .int a1] H = zEv (zPr L xs) 1 77 0 [.val (.ref a0), .val (.int a1)] [] H := rfl
theorem en_78 {a0 : Nat} {a1 : Int32} {a2 : Int32} {a3 : Int32} : zCl (zPr L xs) 78 [.ref a0, .int a1, .int a2, .int a3] H = zEv (zPr L xs) 2 78 0 [.val (.ref a0), .val (.int a1), .val (.int a2), .val (.int a3), .unset] [] H := rfl
theorem en_79 {a0 : Nat} {a1 : Int32} : zCl (zPr L xs) 79 [.ref a0, .int a1] H = zEv (zPr L xs) 0 79 0 [.val (.ref a0), .val (.int a1)] [] H := rfl
theorem en_80 {a0 : Nat} {a1 : Int32} : zCl (zPr L xs) 80 [.ref a0, .int a1] H = zEv (zPr L xs) 1 80 0 [.val (.ref a0), .val (.int a1), .unset] [] H := rfl
theorem en_81 {a0 : Nat} {a1 : Int32} : zCl (zPr L xs) 81 [.ref a0, .int a1] H = zEv (zPr L xs) 0 81 0 [.val (.ref a0), .val (.int a1)] [] H := rfl
theorem en_82 {a0 : Int32} {a1 : Int32} : zCl (zPr L xs) 82 [.int a0, .int a1] H = zEv (zPr L xs) 0 82 0 [.val (.int a0), .val (.int a1)] [] H := rfl
theorem en_83 {a0 : Nat} {a1 : Nat} {a2 : Nat} : zCl (zPr L xs) 83 [.ref a0, .ref a1, .ref a2] H = zEv (zPr L xs) 1 83 0 [.val (.ref a0), .val (.ref a1), .val (.ref a2), .unset, .unset] [] H := rfl
theorem en_84 {a0 : Nat} {a1 : Nat} : zCl (zPr L xs) 84 [.ref a0, .ref a1] H = zEv (zPr L xs) 0 84 0 [.val (.ref a0), .val (.ref a1), .unset] [] H := rfl
theorem en_85 {a0 : Nat} {a1 : Nat} {a2 : Nat} : zCl (zPr L xs) 85 [.ref a0, .ref a1, .ref a2] H = zEv (zPr L xs) 8 85 0 [.val (.ref a0), .val (.ref a1), .val (.ref a2), .unset] [] H := rfl
theorem en_86 {a0 : Nat} : zCl (zPr L xs) 86 [.ref a0] H = zEv (zPr L xs) 0 86 0 [.val (.ref a0), .unset] [] H := rfl
theorem en_87 {a0 : Nat} : zCl (zPr L xs) 87 [.ref a0] H = zEv (zPr L xs) 0 87 0 [.val (.ref a0)] [] H := rfl
theorem en_88 {a0 : Int32} : zCl (zPr L xs) 88 [.int a0] H = zEv (zPr L xs) 0 88 0 [.val (.int a0)] [] H := rfl
theorem en_89 {a0 : Int32} : zCl (zPr L xs) 89 [.int a0] H = zEv (zPr L xs) 0 89 0 [.val (.int a0)] [] H := rfl
theorem en_90 {a0 : Int32} {a1 : Int32} {a2 : Int32} {a3 : Int32} {a4 : Int32} {a5 : Int32} {a6 : Int32} : zCl (zPr L xs) 90 [.int a0, .int a1, .int a2, .int a3, .int a4, .int a5, .int a6] H = zEv (zPr L xs) 1 90 0 [.val (.int a0), .val (.int a1), .val (.int a2), .val (.int a3), .val (.int a4), .val (.int a5), .val (.int a6), .unset, .unset] [] H := rfl
theorem en_91 {a0 : Nat} {a1 : Int32} : zCl (zPr L xs) 91 [.ref a0, .int a1] H = zEv (zPr L xs) 0 91 0 [.val (.ref a0), .val (.int a1)] [] H := rfl
theorem en_92 {a0 : Int32} : zCl (zPr L xs) 92 [.int a0] H = zEv (zPr L xs) 0 92 0 [.val (.int a0)] [] H := rfl
theorem en_93 {a0 : Int32} : zCl (zPr L xs) 93 [.int a0] H = zEv (zPr L xs) 0 93 0 [.val (.int a0)] [] H := rfl
theorem en_94 {a0 : Int32} : zCl (zPr L xs) 94 [.int a0] H = zEv (zPr L xs) 0 94 0 [.val (.int a0)] [] H := rfl
theorem en_95 {a0 : Nat} : zCl (zPr L xs) 95 [.ref a0] H = zEv (zPr L xs) 1 95 0 [.val (.ref a0), .unset, .unset, .unset, .unset] [] H := rfl
theorem en_96 {a0 : Nat} {a1 : Int32} : zCl (zPr L xs) 96 [.ref a0, .int a1] H = zEv (zPr L xs) 1 96 0 [.val (.ref a0), .val (.int a1)] [] H := rfl
theorem en_97 {a0 : Nat} : zCl (zPr L xs) 97 [.ref a0] H = zEv (zPr L xs) 1 97 0 [.val (.ref a0), .unset] [] H := rfl
theorem en_98 {a0 : Int32} : zCl (zPr L xs) 98 [.int a0] H = zEv (zPr L xs) 0 98 0 [.val (.int a0)] [] H := rfl
theorem en_99 {a0 : Nat} : zCl (zPr L xs) 99 [.ref a0] H = zEv (zPr L xs) 2 99 0 [.val (.ref a0)] [] H := rfl
theorem en_100 {a0 : Nat} : zCl (zPr L xs) 100 [.ref a0] H = zEv (zPr L xs) 1 100 0 [.val (.ref a0)] [] H := rfl
theorem en_101 {a0 : Nat} : zCl (zPr L xs) 101 [.ref a0] H = zEv (zPr L xs) 1 101 0 [.val (.ref a0), .unset] [] H := rfl
theorem en_102 {a0 : Nat} : zCl (zPr L xs) 102 [.ref a0] H = zEv (zPr L xs) 2 102 0 [.val (.ref a0), .unset] [] H := rfl
theorem en_103 {a0 : Nat} {a1 : Int32} {a2 : Int32} : zCl (zPr L xs) 103 [.ref a0, .int a1, .int a2] H = zEv (zPr L xs) 1 103 0 [.val (.ref a0), .val (.int a1), .val (.int a2), .unset, .unset] [] H := rfl
theorem en_104 {a0 : Nat} {a1 : Int32} : zCl (zPr L xs) 104 [.ref a0, .int a1] H = zEv (zPr L xs) 1 104 0 [.val (.ref a0), .val (.int a1), .unset] [] H := rfl
theorem en_105 {a0 : Nat} {a1 : Int32} {a2 : Int32} {a3 : Int32} {a4 : Int32} : zCl (zPr L xs) 105 [.ref a0, .int a1, .int a2, .int a3, .int a4] H = zEv (zPr L xs) 2 105 0 [.val (.ref a0), .val (.int a1), .val (.int a2), .val (.int a3), .val (.int a4), .unset, .unset, .unset, .unset] [] H := rfl
theorem en_106 {a0 : Nat} {a1 : Int32} {a2 : Int32} : zCl (zPr L xs) 106 [.ref a0, .int a1, .int a2] H = zEv (zPr L xs) 2 106 0 [.val (.ref a0), .val (.int a1), .val (.int a2), .unset, .unset, .unset] [] H := rfl
theorem en_107 {a0 : Nat} : zCl (zPr L xs) 107 [.ref a0] H = zEv (zPr L xs) 0 107 0 [.val (.ref a0)] [] H := rfl
theorem en_108 {a0 : Nat} {a1 : Int32} {a2 : Int32} : zCl (zPr L xs) 108 [.ref a0, .int a1, .int a2] H = zEv (zPr L xs) 3 108 0 [.val (.ref a0), .val (.int a1), .val (.int a2), .unset, .unset] [] H := rfl
theorem en_109 {a0 : Nat} {a1 : Int32} : zCl (zPr L xs) 109 [.ref a0, .int a1] H = zEv (zPr L xs) 0 109 0 [.val (.ref a0), .val (.int a1), .unset, .unset] [] H := rfl
theorem en_110 {a0 : Nat} {a1 : Int32} : zCl (zPr L xs) 110 [.ref a0, .int a1] H = zEv (zPr L xs) 1 110 0 [.val (.ref a0), .val (.int a1), .unset, .unset, .unset, .unset] [] H := rfl
theorem en_111 {a0 : Nat} {a1 : Int32} : zCl (zPr L xs) 111 [.ref a0, .int a1] H = zEv (zPr L xs) 4 111 0 [.val (.ref a0), .val (.int a1), .unset, .unset, .unset] [] H := rfl
theorem en_112 {a0 : Nat} {a1 : Int32} : zCl (zPr L xs) 112 [.ref a0, .int a1] H = zEv (zPr L xs) 0 112 0 [.val (.ref a0), .val (.int a1)] [] H := rfl
theorem en_113 {a0 : Nat} : zCl (zPr L xs) 113 [.ref a0] H = zEv (zPr L xs) 2 113 0 [.val (.ref a0), .unset, .unset, .unset, .unset] [] H := rfl
theorem en_114 {a0 : Nat} {a1 : Int32} : zCl (zPr L xs) 114 [.ref a0, .int a1] H = zEv (zPr L xs) 2 114 0 [.val (.ref a0), .val (.int a1), .unset, .unset] [] H := rfl
theorem en_115 {a0 : Nat} {a1 : Int32} : zCl (zPr L xs) 115 [.ref a0, .int a1] H = zEv (zPr L xs) 5 115 0 [.val (.ref a0), .val (.int a1), .unset, .unset] [] H := rfl
theorem en_116 {a0 : Nat} {a1 : Int64} : zCl (zPr L xs) 116 [.ref a0, .long a1] H = zEv (zPr L xs) 2 116 0 [.val (.ref a0), .val (.long a1), .second] [] H := rfl
theorem en_117 {a0 : Nat} {a1 : Int32} : zCl (zPr L xs) 117 [.ref a0, .int a1] H = zEv (zPr L xs) 6 117 0 [.val (.ref a0), .val (.int a1)] [] H := rfl
theorem en_118 {a0 : Nat} : zCl (zPr L xs) 118 [.ref a0] H = zEv (zPr L xs) 7 118 0 [.val (.ref a0), .unset, .unset, .unset] [] H := rfl
theorem en_119 {a0 : Nat} {a1 : Int32} : zCl (zPr L xs) 119 [.ref a0, .int a1] H = zEv (zPr L xs) 0 119 0 [.val (.ref a0), .val (.int a1)] [] H := rfl
theorem en_120 {a0 : Nat} {a1 : Int32} : zCl (zPr L xs) 120 [.ref a0, .int a1] H = zEv (zPr L xs) 1 120 0 [.val (.ref a0), .val (.int a1)] [] H := rfl
theorem en_121 {a0 : Nat} {a1 : Int64} : zCl (zPr L xs) 121 [.ref a0, .long a1] H = zEv (zPr L xs) 1 121 0 [.val (.ref a0), .val (.long a1), .second, .unset, .unset] [] H := rfl
theorem en_122 {a0 : Nat} {a1 : Int32} : zCl (zPr L xs) 122 [.ref a0, .int a1] H = zEv (zPr L xs) 1 122 0 [.val (.ref a0), .val (.int a1)] [] H := rfl
theorem en_123 {a0 : Nat} {a1 : Int32} {a2 : Int64} : zCl (zPr L xs) 123 [.ref a0, .int a1, .long a2] H = zEv (zPr L xs) 2 123 0 [.val (.ref a0), .val (.int a1), .val (.long a2), .second] [] H := rfl
theorem en_124 {a0 : Nat} {a1 : Int32} {a2 : Int32} : zCl (zPr L xs) 124 [.ref a0, .int a1, .int a2] H = zEv (zPr L xs) 3 124 0 [.val (.ref a0), .val (.int a1), .val (.int a2)] [] H := rfl
theorem en_125 {a0 : Nat} {a1 : Int32} : zCl (zPr L xs) 125 [.ref a0, .int a1] H = zEv (zPr L xs) 1 125 0 [.val (.ref a0), .val (.int a1), .unset, .unset] [] H := rfl
theorem en_126 {a0 : Nat} {a1 : Int32} : zCl (zPr L xs) 126 [.ref a0, .int a1] H = zEv (zPr L xs) 0 126 0 [.val (.ref a0), .val (.int a1), .unset, .unset] [] H := rfl
theorem en_127 {a0 : Nat} {a1 : Int32} : zCl (zPr L xs) 127 [.ref a0, .int a1] H = zEv (zPr L xs) 4 127 0 [.val (.ref a0), .val (.int a1)] [] H := rfl
theorem en_128 {a0 : Nat} : zCl (zPr L xs) 128 [.ref a0] H = zEv (zPr L xs) 5 128 0 [.val (.ref a0), .unset, .unset] [] H := rfl
theorem en_129 {a0 : Nat} {a1 : Int32} : zCl (zPr L xs) 129 [.ref a0, .int a1] H = zEv (zPr L xs) 6 129 0 [.val (.ref a0), .val (.int a1), .unset, .unset] [] H := rfl
theorem en_130 {a0 : Nat} {a1 : Int32} {a2 : Int32} : zCl (zPr L xs) 130 [.ref a0, .int a1, .int a2] H = zEv (zPr L xs) 0 130 0 [.val (.ref a0), .val (.int a1), .val (.int a2), .unset] [] H := rfl
theorem en_131 {a0 : Nat} : zCl (zPr L xs) 131 [.ref a0] H = zEv (zPr L xs) 0 131 0 [.val (.ref a0), .unset, .unset, .unset, .unset, .unset, .unset] [] H := rfl
theorem en_132 {a0 : Nat} {a1 : Int32} : zCl (zPr L xs) 132 [.ref a0, .int a1] H = zEv (zPr L xs) 3 132 0 [.val (.ref a0), .val (.int a1), .unset] [] H := rfl
theorem en_133 {a0 : Nat} {a1 : Int32} : zCl (zPr L xs) 133 [.ref a0, .int a1] H = zEv (zPr L xs) 4 133 0 [.val (.ref a0), .val (.int a1), .unset] [] H := rfl
theorem en_134 {a0 : Nat} {a1 : Int32} : zCl (zPr L xs) 134 [.ref a0, .int a1] H = zEv (zPr L xs) 4 134 0 [.val (.ref a0), .val (.int a1), .unset, .unset] [] H := rfl
theorem en_135 {a0 : Nat} {a1 : Int32} : zCl (zPr L xs) 135 [.ref a0, .int a1] H = zEv (zPr L xs) 1 135 0 [.val (.ref a0), .val (.int a1), .unset, .unset, .unset] [] H := rfl
theorem en_136 {a0 : Nat} : zCl (zPr L xs) 136 [.ref a0] H = zEv (zPr L xs) 1 136 0 [.val (.ref a0), .unset, .unset] [] H := rfl
theorem en_137 {a0 : Nat} : zCl (zPr L xs) 137 [.ref a0] H = zEv (zPr L xs) 6 137 0 [.val (.ref a0), .unset] [] H := rfl
theorem en_138 {a0 : Nat} {a1 : Int32} : zCl (zPr L xs) 138 [.ref a0, .int a1] H = zEv (zPr L xs) 5 138 0 [.val (.ref a0), .val (.int a1), .unset, .unset] [] H := rfl
theorem en_139 {a0 : Nat} : zCl (zPr L xs) 139 [.ref a0] H = zEv (zPr L xs) 0 139 0 [.val (.ref a0)] [] H := rfl
theorem en_140 {a0 : Nat} : zCl (zPr L xs) 140 [.ref a0] H = zEv (zPr L xs) 0 140 0 [.val (.ref a0)] [] H := rfl
theorem en_141 {a0 : Nat} {a1 : Int32} : zCl (zPr L xs) 141 [.ref a0, .int a1] H = zEv (zPr L xs) 7 141 0 [.val (.ref a0), .val (.int a1)] [] H := rfl
theorem en_142 {a0 : Nat} : zCl (zPr L xs) 142 [.ref a0] H = zEv (zPr L xs) 3 142 0 [.val (.ref a0), .unset, .unset] [] H := rfl
theorem en_143 {a0 : Nat} {a1 : Int32} : zCl (zPr L xs) 143 [.ref a0, .int a1] H = zEv (zPr L xs) 0 143 0 [.val (.ref a0), .val (.int a1), .unset, .unset] [] H := rfl
theorem en_144 {a0 : Nat} {a1 : Int32} : zCl (zPr L xs) 144 [.ref a0, .int a1] H = zEv (zPr L xs) 4 144 0 [.val (.ref a0), .val (.int a1), .unset, .unset, .unset, .unset, .unset] [] H := rfl
theorem en_145 {a0 : Nat} {a1 : Int32} {a2 : Int32} : zCl (zPr L xs) 145 [.ref a0, .int a1, .int a2] H = zEv (zPr L xs) 1 145 0 [.val (.ref a0), .val (.int a1), .val (.int a2), .unset, .unset, .unset, .unset] [] H := rfl
theorem en_146 {a0 : Nat} {a1 : Int32} : zCl (zPr L xs) 146 [.ref a0, .int a1] H = zEv (zPr L xs) 8 146 0 [.val (.ref a0), .val (.int a1), .unset, .unset, .unset] [] H := rfl
theorem en_147 {a0 : Nat} {a1 : Int32} : zCl (zPr L xs) 147 [.ref a0, .int a1] H = zEv (zPr L xs) 1 147 0 [.val (.ref a0), .val (.int a1)] [] H := rfl
theorem en_148 {a0 : Nat} {a1 : Int32} : zCl (zPr L xs) 148 [.ref a0, .int a1] H = zEv (zPr L xs) 1 148 0 [.val (.ref a0), .val (.int a1)] [] H := rfl
theorem en_149 {a0 : Nat} {a1 : Int32} {a2 : Int32} : zCl (zPr L xs) 149 [.ref a0, .int a1, .int a2] H = zEv (zPr L xs) 1 149 0 [.val (.ref a0), .val (.int a1), .val (.int a2)] [] H := rfl
theorem en_150 {a0 : Nat} {a1 : Int32} : zCl (zPr L xs) 150 [.ref a0, .int a1] H = zEv (zPr L xs) 1 150 0 [.val (.ref a0), .val (.int a1)] [] H := rfl
theorem en_151 {a0 : Nat} {a1 : Int32} : zCl (zPr L xs) 151 [.ref a0, .int a1] H = zEv (zPr L xs) 0 151 0 [.val (.ref a0), .val (.int a1)] [] H := rfl
theorem en_152 {a0 : Nat} {a1 : Int32} : zCl (zPr L xs) 152 [.ref a0, .int a1] H = zEv (zPr L xs) 1 152 0 [.val (.ref a0), .val (.int a1)] [] H := rfl
theorem en_153 {a0 : Nat} {a1 : Int32} {a2 : Int32} {a3 : Int32} : zCl (zPr L xs) 153 [.ref a0, .int a1, .int a2, .int a3] H = zEv (zPr L xs) 1 153 0 [.val (.ref a0), .val (.int a1), .val (.int a2), .val (.int a3), .unset] [] H := rfl
theorem en_154 {a0 : Nat} {a1 : Int32} {a2 : Int32} {a3 : Nat} : zCl (zPr L xs) 154 [.ref a0, .int a1, .int a2, .ref a3] H = zEv (zPr L xs) 3 154 0 [.val (.ref a0), .val (.int a1), .val (.int a2), .val (.ref a3), .unset] [] H := rfl
theorem en_155 {a0 : Nat} {a1 : Int32} {a2 : Nat} : zCl (zPr L xs) 155 [.ref a0, .int a1, .ref a2] H = zEv (zPr L xs) 35 155 0 [.val (.ref a0), .val (.int a1), .val (.ref a2), .unset] [] H := rfl
theorem en_156 {a0 : Nat} {a1 : Int32} : zCl (zPr L xs) 156 [.ref a0, .int a1] H = zEv (zPr L xs) 2 156 0 [.val (.ref a0), .val (.int a1), .unset] [] H := rfl
theorem en_157 {a0 : Nat} {a1 : Int32} {a2 : Nat} : zCl (zPr L xs) 157 [.ref a0, .int a1, .ref a2] H = zEv (zPr L xs) 2 157 0 [.val (.ref a0), .val (.int a1), .val (.ref a2), .unset] [] H := rfl
theorem en_158 {a0 : Nat} {a1 : Int32} {a2 : Int32} {a3 : Nat} : zCl (zPr L xs) 158 [.ref a0, .int a1, .int a2, .ref a3] H = zEv (zPr L xs) 2 158 0 [.val (.ref a0), .val (.int a1), .val (.int a2), .val (.ref a3), .unset] [] H := rfl
theorem en_159 {a0 : Nat} {a1 : Int32} {a2 : Int32} {a3 : Int32} {a4 : Nat} : zCl (zPr L xs) 159 [.ref a0, .int a1, .int a2, .int a3, .ref a4] H = zEv (zPr L xs) 3 159 0 [.val (.ref a0), .val (.int a1), .val (.int a2), .val (.int a3), .val (.ref a4), .unset] [] H := rfl
theorem en_160 {a0 : Nat} : zCl (zPr L xs) 160 [.ref a0] H = zEv (zPr L xs) 36 160 0 [.val (.ref a0), .unset, .unset, .unset, .unset, .unset, .unset] [] H := rfl
end
