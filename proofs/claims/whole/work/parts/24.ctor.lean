/-! ===== the constructors' rows ===== -/
def k_X0_init : List IE := [i1 0 1 4 (.aload_n 0) 0,
  i1 1 3 64 (.invokespecial 3) 0,
  i1 4 1 4 (.aload_n 0) 0,
  i1 5 1 4 (.aload_n 1) 1,
  (6, 3, 23, (.putfield 9), 0, 0, 3, 0, 0, 0, [], []),
  i1 9 1 4 (.aload_n 0) 0,
  i1 10 1 4 (.aload_n 2) 2,
  (11, 3, 23, (.putfield 15), 0, 1, 3, 1, 0, 0, [], []),
  i1 14 1 53 .return_ 0]
def k_X1_init : List IE := [i1 0 1 4 (.aload_n 0) 0,
  i4 1 3 64 (.invokespecial 3) 0 0 1,
  i1 4 1 4 (.aload_n 0) 0,
  i2 5 2 0 (.bipush 10) 10,
  i1 7 2 61 (.newarray .int) 0,
  (9, 3, 23, (.putfield 9), 1, 2, 3, 2, 0, 0, [], []),
  i1 12 1 4 (.aload_n 0) 0,
  i1 13 1 4 (.aload_n 1) 1,
  (14, 3, 23, (.putfield 15), 1, 0, 3, 3, 0, 0, [], []),
  i1 17 1 4 (.aload_n 0) 0,
  i1 18 1 4 (.aload_n 2) 2,
  (19, 3, 23, (.putfield 19), 1, 1, 3, 4, 0, 0, [], []),
  i1 22 1 53 .return_ 0]
def k_X2_init : List IE := [i1 0 1 4 (.aload_n 0) 0,
  i4 1 3 64 (.invokespecial 3) 0 0 2,
  i1 4 1 4 (.aload_n 0) 0,
  i2 5 2 0 (.bipush 10) 10,
  i1 7 2 61 (.newarray .long) 3,
  (9, 3, 23, (.putfield 9), 2, 3, 3, 5, 0, 0, [], []),
  i1 12 1 4 (.aload_n 0) 0,
  i2 13 2 0 (.bipush 10) 10,
  i1 15 2 61 (.newarray .long) 3,
  (17, 3, 23, (.putfield 15), 2, 4, 3, 6, 0, 0, [], []),
  i1 20 1 4 (.aload_n 0) 0,
  i2 21 2 0 (.bipush 100) 100,
  i1 23 2 61 (.newarray .int) 0,
  (25, 3, 23, (.putfield 18), 2, 5, 3, 7, 0, 0, [], []),
  i1 28 1 4 (.aload_n 0) 0,
  i1 29 1 4 (.aload_n 1) 1,
  (30, 3, 23, (.putfield 22), 2, 0, 3, 8, 0, 0, [], []),
  i1 33 1 4 (.aload_n 0) 0,
  i1 34 1 4 (.aload_n 2) 2,
  (35, 3, 23, (.putfield 26), 2, 1, 3, 9, 0, 0, [], []),
  i1 38 1 4 (.aload_n 0) 0,
  i1 39 1 4 (.aload_n 3) 3,
  (40, 3, 23, (.putfield 30), 2, 2, 3, 10, 0, 0, [], []),
  i1 43 1 53 .return_ 0]
def k_X3_init : List IE := [i1 0 1 4 (.aload_n 0) 0,
  i4 1 3 64 (.invokespecial 3) 0 0 3,
  i1 4 1 4 (.aload_n 0) 0,
  i2 5 2 0 (.bipush 32) 32,
  i1 7 2 61 (.newarray .int) 0,
  (9, 3, 23, (.putfield 9), 3, 3, 3, 11, 0, 0, [], []),
  i1 12 1 4 (.aload_n 0) 0,
  i1 13 1 4 (.aload_n 1) 1,
  (14, 3, 23, (.putfield 15), 3, 0, 3, 12, 0, 0, [], []),
  i1 17 1 4 (.aload_n 0) 0,
  i1 18 1 4 (.aload_n 2) 2,
  (19, 3, 23, (.putfield 19), 3, 1, 3, 13, 0, 0, [], []),
  i1 22 1 4 (.aload_n 0) 0,
  i1 23 1 4 (.aload_n 3) 3,
  (24, 3, 23, (.putfield 23), 3, 2, 3, 14, 0, 0, [], []),
  i1 27 1 53 .return_ 0]
def k_X4_init : List IE := [i1 0 1 4 (.aload_n 0) 0,
  i4 1 3 64 (.invokespecial 3) 0 0 4,
  i1 4 1 4 (.aload_n 0) 0,
  i3 5 3 60 (.new 9) 6 7,
  i1 8 1 32 .dup 0,
  (9, 3, 65, (.invokespecial 11), 6, 1, 1, 5, 0, 0, [], []),
  (12, 3, 23, (.putfield 12), 4, 0, 3, 15, 0, 0, [], []),
  i1 15 1 53 .return_ 0]
def k_X5_init : List IE := [i1 0 1 4 (.aload_n 0) 0,
  i4 1 3 64 (.invokespecial 3) 0 0 6,
  i1 4 1 4 (.aload_n 0) 0,
  i2 5 2 0 (.bipush 40) 40,
  i1 7 2 61 (.newarray .int) 0,
  (9, 3, 23, (.putfield 9), 5, 0, 3, 16, 0, 0, [], []),
  i1 12 1 4 (.aload_n 0) 0,
  i2 13 1 0 (.iconst (-1)) (-1),
  i4 14 3 23 (.putfield 15) 5 1 17,
  i1 17 1 53 .return_ 0]
def k_X6_init : List IE := [i1 0 1 4 (.aload_n 0) 0,
  i4 1 3 64 (.invokespecial 3) 0 0 7,
  i1 4 1 4 (.aload_n 0) 0,
  i2 5 2 0 (.bipush 10) 10,
  i1 7 2 61 (.newarray .int) 0,
  (9, 3, 23, (.putfield 9), 6, 0, 3, 18, 0, 0, [], []),
  i1 12 1 4 (.aload_n 0) 0,
  i2 13 2 0 (.bipush 6) 6,
  i1 15 2 61 (.newarray .int) 0,
  (17, 3, 23, (.putfield 15), 6, 1, 3, 19, 0, 0, [], []),
  i1 20 1 4 (.aload_n 0) 0,
  i2 21 2 0 (.bipush 14) 14,
  i1 23 2 61 (.newarray .int) 0,
  (25, 3, 23, (.putfield 18), 6, 2, 3, 20, 0, 0, [], []),
  i1 28 1 4 (.aload_n 0) 0,
  i2 29 2 0 (.bipush 14) 14,
  i1 31 2 61 (.newarray .int) 0,
  (33, 3, 23, (.putfield 21), 6, 3, 3, 21, 0, 0, [], []),
  i1 36 1 4 (.aload_n 0) 0,
  i2 37 2 0 (.bipush 14) 14,
  i1 39 2 61 (.newarray .int) 0,
  (41, 3, 23, (.putfield 24), 6, 4, 3, 22, 0, 0, [], []),
  i1 44 1 53 .return_ 0]
def k_X7_init : List IE := [i1 0 1 4 (.aload_n 0) 0,
  i4 1 3 64 (.invokespecial 3) 0 0 8,
  i1 4 1 4 (.aload_n 0) 0,
  i2 5 2 0 (.bipush 14) 14,
  i1 7 2 61 (.newarray .int) 0,
  (9, 3, 23, (.putfield 9), 7, 0, 3, 23, 0, 0, [], []),
  i1 12 1 4 (.aload_n 0) 0,
  i2 13 2 0 (.bipush 40) 40,
  i1 15 2 61 (.newarray .int) 0,
  (17, 3, 23, (.putfield 15), 7, 1, 3, 24, 0, 0, [], []),
  i1 20 1 53 .return_ 0]
def k_X8_init : List IE := [i1 0 1 4 (.aload_n 0) 0,
  i4 1 3 64 (.invokespecial 3) 0 0 9,
  i1 4 1 4 (.aload_n 0) 0,
  i1 5 1 4 (.aload_n 1) 1,
  (6, 3, 23, (.putfield 9), 8, 0, 3, 25, 0, 0, [], []),
  i1 9 1 4 (.aload_n 0) 0,
  i1 10 1 4 (.aload_n 2) 2,
  (11, 3, 23, (.putfield 15), 8, 1, 3, 26, 0, 0, [], []),
  i1 14 1 4 (.aload_n 0) 0,
  i1 15 1 4 (.aload_n 3) 3,
  (16, 3, 23, (.putfield 19), 8, 2, 3, 27, 0, 0, [], []),
  i1 19 1 53 .return_ 0]
def k_X9_init : List IE := [i1 0 1 4 (.aload_n 0) 0,
  i4 1 3 64 (.invokespecial 3) 0 0 10,
  i1 4 1 4 (.aload_n 0) 0,
  i2 5 2 0 (.bipush 80) 80,
  i1 7 2 61 (.newarray .byte) 1,
  (9, 3, 23, (.putfield 9), 9, 0, 3, 28, 0, 0, [], []),
  i1 12 1 4 (.aload_n 0) 0,
  i2 13 1 0 (.iconst (-1)) (-1),
  i4 14 3 23 (.putfield 15) 9 1 29,
  i1 17 1 53 .return_ 0]
def k_X10_init : List IE := [i1 0 1 4 (.aload_n 0) 0,
  i4 1 3 64 (.invokespecial 3) 0 0 11,
  i1 4 1 4 (.aload_n 0) 0,
  i2 5 2 0 (.bipush 10) 10,
  i1 7 2 61 (.newarray .int) 0,
  (9, 3, 23, (.putfield 9), 10, 0, 3, 30, 0, 0, [], []),
  i1 12 1 4 (.aload_n 0) 0,
  i2 13 2 0 (.bipush 10) 10,
  i1 15 2 61 (.newarray .int) 0,
  (17, 3, 23, (.putfield 15), 10, 4, 3, 31, 0, 0, [], []),
  i1 20 1 4 (.aload_n 0) 0,
  i2 21 2 0 (.bipush 10) 10,
  i1 23 2 61 (.newarray .int) 0,
  (25, 3, 23, (.putfield 18), 10, 5, 3, 32, 0, 0, [], []),
  i1 28 1 4 (.aload_n 0) 0,
  i2 29 2 0 (.bipush 10) 10,
  i1 31 2 61 (.newarray .int) 0,
  (33, 3, 23, (.putfield 21), 10, 6, 3, 33, 0, 0, [], []),
  i1 36 1 4 (.aload_n 0) 0,
  i1 37 1 4 (.aload_n 1) 1,
  (38, 3, 23, (.putfield 24), 10, 1, 3, 34, 0, 0, [], []),
  i1 41 1 4 (.aload_n 0) 0,
  i1 42 1 4 (.aload_n 2) 2,
  (43, 3, 23, (.putfield 28), 10, 2, 3, 35, 0, 0, [], []),
  i1 46 1 4 (.aload_n 0) 0,
  i1 47 1 4 (.aload_n 3) 3,
  (48, 3, 23, (.putfield 32), 10, 3, 3, 36, 0, 0, [], []),
  i1 51 1 53 .return_ 0]
def k_X11_init : List IE := [i1 0 1 4 (.aload_n 0) 0,
  i4 1 3 64 (.invokespecial 1) 0 0 12,
  i1 4 1 4 (.aload_n 0) 0,
  i2 5 2 0 (.bipush 6) 6,
  i4 7 3 62 (.anewarray 9) 4 5 1,
  (10, 3, 23, (.putfield 11), 11, 0, 3, 37, 0, 0, [], []),
  i1 13 1 0 (.iconst 0) 0,
  i1 14 1 5 (.istore_n 1) 1,
  i1 15 1 2 (.iload_n 1) 1,
  i2 16 2 0 (.bipush 6) 6,
  i3 18 3 19 (.if_icmp .ge 22) 3 20,
  i1 21 1 4 (.aload_n 0) 0,
  (22, 3, 22, (.getfield 11), 11, 0, 3, 37, 0, 0, [], []),
  i1 25 1 2 (.iload_n 1) 1,
  i4 26 3 60 (.new 9) 5 2 1,
  i1 29 1 32 .dup 0,
  (30, 3, 65, (.invokespecial 15), 5, 1, 1, 13, 0, 0, [], []),
  i3 33 1 63 .aastore 4 5,
  (34, 3, 8, (.iinc 1 1), 1, 0, 0, 0, 1, 0, [], []),
  i3 37 3 21 (.goto (-22)) 0 8,
  i1 40 1 4 (.aload_n 0) 0,
  i2 41 1 0 (.iconst 4) 4,
  i4 42 3 62 (.anewarray 16) 5 9 2,
  (45, 3, 23, (.putfield 18), 11, 1, 3, 38, 0, 0, [], []),
  i1 48 1 0 (.iconst 0) 0,
  i1 49 1 5 (.istore_n 1) 1,
  i1 50 1 2 (.iload_n 1) 1,
  i2 51 1 0 (.iconst 4) 4,
  i3 52 3 19 (.if_icmp .ge 22) 3 38,
  i1 55 1 4 (.aload_n 0) 0,
  (56, 3, 22, (.getfield 18), 11, 1, 3, 38, 0, 0, [], []),
  i1 59 1 2 (.iload_n 1) 1,
  i4 60 3 60 (.new 16) 9 2 2,
  i1 63 1 32 .dup 0,
  (64, 3, 65, (.invokespecial 22), 9, 1, 1, 14, 0, 0, [], []),
  i3 67 1 63 .aastore 5 9,
  (68, 3, 8, (.iinc 1 1), 1, 0, 0, 0, 1, 0, [], []),
  i3 71 3 21 (.goto (-21)) 0 26,
  i1 74 1 4 (.aload_n 0) 0,
  i2 75 1 0 (.iconst 3) 3,
  i4 76 3 62 (.anewarray 23) 6 7 3,
  (79, 3, 23, (.putfield 25), 11, 2, 3, 39, 0, 0, [], []),
  i1 82 1 0 (.iconst 0) 0,
  i1 83 1 5 (.istore_n 1) 1,
  i1 84 1 2 (.iload_n 1) 1,
  i2 85 1 0 (.iconst 3) 3,
  i3 86 3 19 (.if_icmp .ge 22) 3 56,
  i1 89 1 4 (.aload_n 0) 0,
  (90, 3, 22, (.getfield 25), 11, 2, 3, 39, 0, 0, [], []),
  i1 93 1 2 (.iload_n 1) 1,
  i4 94 3 60 (.new 23) 7 7 3,
  i1 97 1 32 .dup 0,
  (98, 3, 65, (.invokespecial 29), 7, 1, 1, 15, 0, 0, [], []),
  i3 101 1 63 .aastore 6 7,
  (102, 3, 8, (.iinc 1 1), 1, 0, 0, 0, 1, 0, [], []),
  i3 105 3 21 (.goto (-21)) 0 44,
  i1 108 1 4 (.aload_n 0) 0,
  i4 109 3 60 (.new 30) 4 2 4,
  i1 112 1 32 .dup 0,
  (113, 3, 65, (.invokespecial 32), 4, 1, 1, 16, 0, 0, [], []),
  (116, 3, 23, (.putfield 33), 11, 3, 3, 40, 0, 0, [], []),
  i1 119 1 4 (.aload_n 0) 0,
  i4 120 3 60 (.new 37) 6 7 5,
  i1 123 1 32 .dup 0,
  (124, 3, 65, (.invokespecial 39), 6, 1, 1, 17, 0, 0, [], []),
  (127, 3, 23, (.putfield 40), 11, 4, 3, 41, 0, 0, [], []),
  i1 130 1 4 (.aload_n 0) 0,
  i4 131 3 60 (.new 23) 7 7 3,
  i1 134 1 32 .dup 0,
  (135, 3, 65, (.invokespecial 29), 7, 1, 1, 15, 0, 0, [], []),
  (138, 3, 23, (.putfield 44), 11, 5, 3, 42, 0, 0, [], []),
  i1 141 1 4 (.aload_n 0) 0,
  i4 142 3 60 (.new 48) 0 2 6,
  i1 145 1 32 .dup 0,
  i1 146 1 4 (.aload_n 0) 0,
  (147, 3, 22, (.getfield 40), 11, 4, 3, 41, 0, 0, [], []),
  i1 150 1 4 (.aload_n 0) 0,
  (151, 3, 22, (.getfield 44), 11, 5, 3, 42, 0, 0, [], []),
  (154, 3, 65, (.invokespecial 50), 0, 3, 3, 18, 0, 0, [], []),
  (157, 3, 23, (.putfield 53), 11, 6, 3, 43, 0, 0, [], []),
  i1 160 1 4 (.aload_n 0) 0,
  i4 161 3 60 (.new 57) 10 8 7,
  i1 164 1 32 .dup 0,
  i1 165 1 4 (.aload_n 0) 0,
  (166, 3, 22, (.getfield 40), 11, 4, 3, 41, 0, 0, [], []),
  i1 169 1 4 (.aload_n 0) 0,
  (170, 3, 22, (.getfield 44), 11, 5, 3, 42, 0, 0, [], []),
  i1 173 1 4 (.aload_n 0) 0,
  (174, 3, 22, (.getfield 53), 11, 6, 3, 43, 0, 0, [], []),
  (177, 3, 65, (.invokespecial 59), 10, 4, 4, 19, 0, 0, [], []),
  (180, 3, 23, (.putfield 62), 11, 7, 3, 44, 0, 0, [], []),
  i1 183 1 4 (.aload_n 0) 0,
  i4 184 3 60 (.new 66) 1 3 8,
  i1 187 1 32 .dup 0,
  i1 188 1 4 (.aload_n 0) 0,
  (189, 3, 22, (.getfield 40), 11, 4, 3, 41, 0, 0, [], []),
  i1 192 1 4 (.aload_n 0) 0,
  (193, 3, 22, (.getfield 53), 11, 6, 3, 43, 0, 0, [], []),
  (196, 3, 65, (.invokespecial 68), 1, 3, 3, 20, 0, 0, [], []),
  (199, 3, 23, (.putfield 71), 11, 8, 3, 45, 0, 0, [], []),
  i1 202 1 4 (.aload_n 0) 0,
  i4 203 3 60 (.new 75) 3 4 9,
  i1 206 1 32 .dup 0,
  i1 207 1 4 (.aload_n 0) 0,
  (208, 3, 22, (.getfield 40), 11, 4, 3, 41, 0, 0, [], []),
  i1 211 1 4 (.aload_n 0) 0,
  (212, 3, 22, (.getfield 44), 11, 5, 3, 42, 0, 0, [], []),
  i1 215 1 4 (.aload_n 0) 0,
  (216, 3, 22, (.getfield 53), 11, 6, 3, 43, 0, 0, [], []),
  (219, 3, 65, (.invokespecial 77), 3, 4, 4, 21, 0, 0, [], []),
  (222, 3, 23, (.putfield 78), 11, 9, 3, 46, 0, 0, [], []),
  i1 225 1 4 (.aload_n 0) 0,
  i4 226 3 60 (.new 82) 8 5 10,
  i1 229 1 32 .dup 0,
  i1 230 1 4 (.aload_n 0) 0,
  (231, 3, 22, (.getfield 40), 11, 4, 3, 41, 0, 0, [], []),
  i1 234 1 4 (.aload_n 0) 0,
  (235, 3, 22, (.getfield 44), 11, 5, 3, 42, 0, 0, [], []),
  i1 238 1 4 (.aload_n 0) 0,
  (239, 3, 22, (.getfield 53), 11, 6, 3, 43, 0, 0, [], []),
  (242, 3, 65, (.invokespecial 84), 8, 4, 4, 22, 0, 0, [], []),
  (245, 3, 23, (.putfield 85), 11, 10, 3, 47, 0, 0, [], []),
  i1 248 1 4 (.aload_n 0) 0,
  i4 249 3 60 (.new 89) 2 6 11,
  i1 252 1 32 .dup 0,
  i1 253 1 4 (.aload_n 0) 0,
  (254, 3, 22, (.getfield 40), 11, 4, 3, 41, 0, 0, [], []),
  i1 257 1 4 (.aload_n 0) 0,
  (258, 3, 22, (.getfield 44), 11, 5, 3, 42, 0, 0, [], []),
  i1 261 1 4 (.aload_n 0) 0,
  (262, 3, 22, (.getfield 53), 11, 6, 3, 43, 0, 0, [], []),
  (265, 3, 65, (.invokespecial 91), 2, 4, 4, 23, 0, 0, [], []),
  (268, 3, 23, (.putfield 92), 11, 11, 3, 48, 0, 0, [], []),
  i1 271 1 4 (.aload_n 0) 0,
  i2 272 2 0 (.bipush 6) 6,
  i1 274 2 61 (.newarray .int) 0,
  (276, 3, 23, (.putfield 96), 11, 12, 3, 49, 0, 0, [], []),
  i1 279 1 4 (.aload_n 0) 0,
  (280, 1, 1, (.lconst 1), 0, 0, 0, 0, 0, 1, [], []),
  (281, 3, 23, (.putfield 100), 11, 16, 1, 50, 0, 0, [], []),
  i1 284 1 53 .return_ 0]
def k_X12_init : List IE := [i1 0 1 4 (.aload_n 0) 0,
  i4 1 3 64 (.invokespecial 1) 0 0 24,
  i1 4 1 4 (.aload_n 0) 0,
  i2 5 2 0 (.bipush 6) 6,
  i1 7 2 61 (.newarray .int) 0,
  (9, 3, 23, (.putfield 7), 12, 1, 3, 51, 0, 0, [], []),
  i1 12 1 4 (.aload_n 0) 0,
  (13, 1, 1, (.lconst 1), 0, 0, 0, 0, 0, 1, [], []),
  (14, 3, 23, (.putfield 13), 12, 4, 1, 52, 0, 0, [], []),
  i1 17 1 4 (.aload_n 0) 0,
  i2 18 2 0 (.bipush 6) 6,
  i1 20 2 61 (.newarray .int) 0,
  (22, 3, 23, (.putfield 17), 12, 5, 3, 53, 0, 0, [], []),
  i1 25 1 4 (.aload_n 0) 0,
  i2 26 3 0 (.sipush 240) 240,
  i1 29 2 61 (.newarray .int) 0,
  (31, 3, 23, (.putfield 20), 12, 6, 3, 54, 0, 0, [], []),
  i1 34 1 4 (.aload_n 0) 0,
  i2 35 2 0 (.bipush 40) 40,
  i1 37 2 61 (.newarray .int) 0,
  (39, 3, 23, (.putfield 23), 12, 7, 3, 55, 0, 0, [], []),
  i1 42 1 4 (.aload_n 0) 0,
  i2 43 1 0 (.iconst 4) 4,
  i1 44 2 61 (.newarray .int) 0,
  (46, 3, 23, (.putfield 26), 12, 8, 3, 56, 0, 0, [], []),
  i1 49 1 4 (.aload_n 0) 0,
  i2 50 3 0 (.sipush 320) 320,
  i1 53 2 61 (.newarray .byte) 1,
  (55, 3, 23, (.putfield 29), 12, 9, 3, 57, 0, 0, [], []),
  i1 58 1 4 (.aload_n 0) 0,
  i2 59 2 0 (.bipush 10) 10,
  i1 61 2 61 (.newarray .int) 0,
  (63, 3, 23, (.putfield 33), 12, 12, 3, 58, 0, 0, [], []),
  i1 66 1 4 (.aload_n 0) 0,
  i2 67 2 0 (.bipush 14) 14,
  i1 69 2 61 (.newarray .int) 0,
  (71, 3, 23, (.putfield 36), 12, 13, 3, 59, 0, 0, [], []),
  i1 74 1 4 (.aload_n 0) 0,
  i2 75 2 0 (.bipush 14) 14,
  i1 77 2 61 (.newarray .int) 0,
  (79, 3, 23, (.putfield 39), 12, 14, 3, 60, 0, 0, [], []),
  i1 82 1 4 (.aload_n 0) 0,
  i2 83 2 0 (.bipush 14) 14,
  i1 85 2 61 (.newarray .int) 0,
  (87, 3, 23, (.putfield 42), 12, 15, 3, 61, 0, 0, [], []),
  i1 90 1 4 (.aload_n 0) 0,
  i2 91 2 0 (.bipush 10) 10,
  i1 93 2 61 (.newarray .int) 0,
  (95, 3, 23, (.putfield 45), 12, 23, 3, 62, 0, 0, [], []),
  i1 98 1 4 (.aload_n 0) 0,
  i2 99 2 0 (.bipush 14) 14,
  i1 101 2 61 (.newarray .int) 0,
  (103, 3, 23, (.putfield 48), 12, 24, 3, 63, 0, 0, [], []),
  i1 106 1 4 (.aload_n 0) 0,
  i2 107 2 0 (.bipush 14) 14,
  i1 109 2 61 (.newarray .int) 0,
  (111, 3, 23, (.putfield 51), 12, 25, 3, 64, 0, 0, [], []),
  i1 114 1 4 (.aload_n 0) 0,
  i2 115 2 0 (.bipush 14) 14,
  i1 117 2 61 (.newarray .int) 0,
  (119, 3, 23, (.putfield 54), 12, 26, 3, 65, 0, 0, [], []),
  i1 122 1 4 (.aload_n 0) 0,
  i2 123 2 0 (.bipush 41) 41,
  i1 125 2 61 (.newarray .int) 0,
  (127, 3, 23, (.putfield 57), 12, 28, 3, 66, 0, 0, [], []),
  i1 130 1 4 (.aload_n 0) 0,
  i2 131 1 0 (.iconst 3) 3,
  i1 132 2 61 (.newarray .boolean) 2,
  (134, 3, 23, (.putfield 60), 12, 29, 3, 67, 0, 0, [], []),
  i1 137 1 4 (.aload_n 0) 0,
  i2 138 1 0 (.iconst 3) 3,
  i1 139 2 61 (.newarray .int) 0,
  (141, 3, 23, (.putfield 64), 12, 30, 3, 68, 0, 0, [], []),
  i1 144 1 4 (.aload_n 0) 0,
  i2 145 2 0 (.bipush 123) 123,
  i1 147 2 61 (.newarray .int) 0,
  (149, 3, 23, (.putfield 67), 12, 31, 3, 69, 0, 0, [], []),
  i1 152 1 4 (.aload_n 0) 0,
  i2 153 2 0 (.bipush 9) 9,
  i1 155 2 61 (.newarray .int) 0,
  (157, 3, 23, (.putfield 70), 12, 32, 3, 70, 0, 0, [], []),
  i1 160 1 4 (.aload_n 0) 0,
  i2 161 2 0 (.bipush 42) 42,
  i1 163 2 61 (.newarray .int) 0,
  (165, 3, 23, (.putfield 73), 12, 33, 3, 71, 0, 0, [], []),
  i1 168 1 4 (.aload_n 0) 0,
  i2 169 2 0 (.bipush 10) 10,
  i1 171 2 61 (.newarray .int) 0,
  (173, 3, 23, (.putfield 76), 12, 34, 3, 72, 0, 0, [], []),
  i1 176 1 4 (.aload_n 0) 0,
  i2 177 2 0 (.bipush 10) 10,
  i1 179 2 61 (.newarray .int) 0,
  (181, 3, 23, (.putfield 79), 12, 35, 3, 73, 0, 0, [], []),
  i1 184 1 4 (.aload_n 0) 0,
  i2 185 2 0 (.bipush 32) 32,
  i1 187 2 61 (.newarray .int) 0,
  (189, 3, 23, (.putfield 82), 12, 36, 3, 74, 0, 0, [], []),
  i1 192 1 4 (.aload_n 0) 0,
  i2 193 2 0 (.bipush 10) 10,
  i1 195 2 61 (.newarray .int) 0,
  (197, 3, 23, (.putfield 85), 12, 37, 3, 75, 0, 0, [], []),
  i1 200 1 0 (.iconst 0) 0,
  i1 201 1 5 (.istore_n 1) 1,
  i1 202 1 2 (.iload_n 1) 1,
  i2 203 2 0 (.bipush 6) 6,
  i3 205 3 19 (.if_icmp .ge 16) 3 113,
  i1 208 1 4 (.aload_n 0) 0,
  (209, 3, 22, (.getfield 17), 12, 5, 3, 53, 0, 0, [], []),
  i1 212 1 2 (.iload_n 1) 1,
  i2 213 1 0 (.iconst (-1)) (-1),
  i1 214 1 28 .iastore 0,
  (215, 3, 8, (.iinc 1 1), 1, 0, 0, 0, 1, 0, [], []),
  i3 218 3 21 (.goto (-16)) 0 103,
  i1 221 1 0 (.iconst 0) 0,
  i1 222 1 5 (.istore_n 1) 1,
  i1 223 1 2 (.iload_n 1) 1,
  i2 224 1 0 (.iconst 4) 4,
  i3 225 3 19 (.if_icmp .ge 16) 3 125,
  i1 228 1 4 (.aload_n 0) 0,
  (229, 3, 22, (.getfield 26), 12, 8, 3, 56, 0, 0, [], []),
  i1 232 1 2 (.iload_n 1) 1,
  i2 233 1 0 (.iconst (-1)) (-1),
  i1 234 1 28 .iastore 0,
  (235, 3, 8, (.iinc 1 1), 1, 0, 0, 0, 1, 0, [], []),
  i3 238 3 21 (.goto (-15)) 0 115,
  i1 241 1 53 .return_ 0]
def CT : List MD := [("WhyRoom$Ground", ⟨"WhyRoom$Ground", "<init>", "(LWhyRoom$Scheme;LWhyRoom$State;)V"⟩, prog_2_method_1_code, 3, none, k_X0_init),
  ("WhyRoom$Losses", ⟨"WhyRoom$Losses", "<init>", "(LWhyRoom$Scheme;LWhyRoom$Ground;)V"⟩, prog_3_method_1_code, 3, none, k_X1_init),
  ("WhyRoom$Lots", ⟨"WhyRoom$Lots", "<init>", "(LWhyRoom$Scheme;LWhyRoom$State;LWhyRoom$Ground;)V"⟩, prog_4_method_1_code, 4, none, k_X2_init),
  ("WhyRoom$Needs", ⟨"WhyRoom$Needs", "<init>", "(LWhyRoom$Scheme;LWhyRoom$State;LWhyRoom$Ground;)V"⟩, prog_5_method_1_code, 4, none, k_X3_init),
  ("WhyRoom$Reader", ⟨"WhyRoom$Reader", "<init>", "()V"⟩, prog_6_method_1_code, 1, none, k_X4_init),
  ("WhyRoom$Row", ⟨"WhyRoom$Row", "<init>", "()V"⟩, prog_7_method_1_code, 1, none, k_X5_init),
  ("WhyRoom$Scheme", ⟨"WhyRoom$Scheme", "<init>", "()V"⟩, prog_8_method_1_code, 1, none, k_X6_init),
  ("WhyRoom$State", ⟨"WhyRoom$State", "<init>", "()V"⟩, prog_9_method_1_code, 1, none, k_X7_init),
  ("WhyRoom$Tale", ⟨"WhyRoom$Tale", "<init>", "(LWhyRoom$Scheme;LWhyRoom$State;LWhyRoom$Ground;)V"⟩, prog_10_method_1_code, 4, none, k_X8_init),
  ("WhyRoom$Text", ⟨"WhyRoom$Text", "<init>", "()V"⟩, prog_11_method_1_code, 1, none, k_X9_init),
  ("WhyRoom$Ways", ⟨"WhyRoom$Ways", "<init>", "(LWhyRoom$Scheme;LWhyRoom$State;LWhyRoom$Ground;)V"⟩, prog_12_method_1_code, 4, none, k_X10_init),
  ("WhyRoom", ⟨"WhyRoom", "<init>", "()V"⟩, prog_1_method_1_code, 2, none, k_X11_init),
  ("WhyRoomModel", ⟨"WhyRoomModel", "<init>", "()V"⟩, prog_14_method_1_code, 2, none, k_X12_init)]
def FLc : FLT := [("WhyRoom$Ground", 9, 0, 0), ("WhyRoom$Ground", 15, 0, 1), ("WhyRoom$Losses", 9, 1, 2), ("WhyRoom$Losses", 15, 1, 0), ("WhyRoom$Losses", 19, 1, 1), ("WhyRoom$Lots", 9, 2, 3), ("WhyRoom$Lots", 15, 2, 4), ("WhyRoom$Lots", 18, 2, 5), ("WhyRoom$Lots", 22, 2, 0), ("WhyRoom$Lots", 26, 2, 1), ("WhyRoom$Lots", 30, 2, 2), ("WhyRoom$Needs", 9, 3, 3), ("WhyRoom$Needs", 15, 3, 0), ("WhyRoom$Needs", 19, 3, 1), ("WhyRoom$Needs", 23, 3, 2), ("WhyRoom$Reader", 12, 4, 0), ("WhyRoom$Row", 9, 5, 0), ("WhyRoom$Row", 15, 5, 1), ("WhyRoom$Scheme", 9, 6, 0), ("WhyRoom$Scheme", 15, 6, 1), ("WhyRoom$Scheme", 18, 6, 2), ("WhyRoom$Scheme", 21, 6, 3), ("WhyRoom$Scheme", 24, 6, 4), ("WhyRoom$State", 9, 7, 0), ("WhyRoom$State", 15, 7, 1), ("WhyRoom$Tale", 9, 8, 0), ("WhyRoom$Tale", 15, 8, 1), ("WhyRoom$Tale", 19, 8, 2), ("WhyRoom$Text", 9, 9, 0), ("WhyRoom$Text", 15, 9, 1), ("WhyRoom$Ways", 9, 10, 0), ("WhyRoom$Ways", 15, 10, 4), ("WhyRoom$Ways", 18, 10, 5), ("WhyRoom$Ways", 21, 10, 6), ("WhyRoom$Ways", 24, 10, 1), ("WhyRoom$Ways", 28, 10, 2), ("WhyRoom$Ways", 32, 10, 3), ("WhyRoom", 11, 11, 0), ("WhyRoom", 18, 11, 1), ("WhyRoom", 25, 11, 2), ("WhyRoom", 33, 11, 3), ("WhyRoom", 40, 11, 4), ("WhyRoom", 44, 11, 5), ("WhyRoom", 53, 11, 6), ("WhyRoom", 62, 11, 7), ("WhyRoom", 71, 11, 8), ("WhyRoom", 78, 11, 9), ("WhyRoom", 85, 11, 10), ("WhyRoom", 92, 11, 11), ("WhyRoom", 96, 11, 12), ("WhyRoom", 100, 11, 16), ("WhyRoomModel", 7, 12, 1), ("WhyRoomModel", 13, 12, 4), ("WhyRoomModel", 17, 12, 5), ("WhyRoomModel", 20, 12, 6), ("WhyRoomModel", 23, 12, 7), ("WhyRoomModel", 26, 12, 8), ("WhyRoomModel", 29, 12, 9), ("WhyRoomModel", 33, 12, 12), ("WhyRoomModel", 36, 12, 13), ("WhyRoomModel", 39, 12, 14), ("WhyRoomModel", 42, 12, 15), ("WhyRoomModel", 45, 12, 23), ("WhyRoomModel", 48, 12, 24), ("WhyRoomModel", 51, 12, 25), ("WhyRoomModel", 54, 12, 26), ("WhyRoomModel", 57, 12, 28), ("WhyRoomModel", 60, 12, 29), ("WhyRoomModel", 64, 12, 30), ("WhyRoomModel", 67, 12, 31), ("WhyRoomModel", 70, 12, 32), ("WhyRoomModel", 73, 12, 33), ("WhyRoomModel", 76, 12, 34), ("WhyRoomModel", 79, 12, 35), ("WhyRoomModel", 82, 12, 36), ("WhyRoomModel", 85, 12, 37)]
def MLc : FLT := [("WhyRoom$Ground", 3, 8, 0), ("WhyRoom$Losses", 3, 8, 0), ("WhyRoom$Lots", 3, 8, 0), ("WhyRoom$Needs", 3, 8, 0), ("WhyRoom$Reader", 3, 8, 0), ("WhyRoom$Reader", 11, 2, 6), ("WhyRoom$Row", 3, 8, 0), ("WhyRoom$Scheme", 3, 8, 0), ("WhyRoom$State", 3, 8, 0), ("WhyRoom$Tale", 3, 8, 0), ("WhyRoom$Text", 3, 8, 0), ("WhyRoom$Ways", 3, 8, 0), ("WhyRoom", 1, 8, 0), ("WhyRoom", 15, 2, 5), ("WhyRoom", 22, 2, 9), ("WhyRoom", 29, 2, 7), ("WhyRoom", 32, 2, 4), ("WhyRoom", 39, 2, 6), ("WhyRoom", 50, 0, 0), ("WhyRoom", 59, 0, 10), ("WhyRoom", 68, 0, 1), ("WhyRoom", 77, 0, 3), ("WhyRoom", 84, 0, 8), ("WhyRoom", 91, 0, 2), ("WhyRoomModel", 1, 8, 0)]
def CLc : List (String × Nat × Nat) := [("WhyRoom$Reader", 9, 6), ("WhyRoom", 9, 5), ("WhyRoom", 16, 9), ("WhyRoom", 23, 7), ("WhyRoom", 30, 4), ("WhyRoom", 37, 6), ("WhyRoom", 48, 0), ("WhyRoom", 57, 10), ("WhyRoom", 66, 1), ("WhyRoom", 75, 3), ("WhyRoom", 82, 8), ("WhyRoom", 89, 2)]
def FLcx : List Nat := [264, 265, 311, 309, 310, 371, 372, 373, 368, 369, 370, 328, 325, 326, 327, 248, 116, 119, 199, 201, 202, 209, 216, 153, 156, 344, 345, 346, 135, 137, 277, 282, 283, 284, 279, 280, 281, 388, 389, 390, 391, 392, 393, 394, 395, 396, 397, 398, 399, 400, 404, 1136, 1139, 1140, 1141, 1142, 1143, 1144, 1147, 1148, 1149, 1150, 1158, 1159, 1160, 1161, 1163, 1164, 1165, 1166, 1167, 1168, 1169, 1170, 1171, 1172]
theorem flc_ok : ∀ t ∈ FLc, FLok t := by
  have h : ((FLc.zip FLcx).all fun x => match vwCl[x.1.2.2.1]? with
    | some r => decide (x.1.2.2.2 < r.2.2) && decide (lw_tbl[x.2]? = some (Cond.fieldLink x.1.1 x.1.2.1 r.1 (r.2.1 x.1.2.2.2).2.1 (r.2.1 x.1.2.2.2).2.2.1))
    | none => false) = true := by decide +kernel
  have hl : FLc.length = FLcx.length := by decide +kernel
  intro t ht
  obtain ⟨i, hi⟩ := List.getElem?_of_mem ht
  have hli := (List.getElem?_eq_some_iff.mp hi).1
  have hz : (FLc.zip FLcx)[i]? = some (t, FLcx[i]'(by omega)) := by
    rw [List.getElem?_zip_eq_some]
    exact ⟨hi, List.getElem?_eq_getElem (by omega)⟩
  have h1 := List.all_eq_true.mp h _ (List.mem_of_getElem? hz)
  simp only at h1
  split at h1
  · rename_i r hr
    simp only [Bool.and_eq_true, decide_eq_true_eq] at h1
    exact ⟨r, hr, h1.1, lw_gi (List.mem_of_getElem? h1.2) rfl⟩
  · cases h1
def CLcx : List (Nat × Nat × Nat) := [(193, 194, 89), (109, 111, 85), (128, 130, 86), (146, 148, 87), (187, 188, 88), (256, 194, 89), (258, 259, 90), (271, 272, 91), (303, 304, 92), (319, 320, 93), (338, 339, 94), (362, 363, 95)]
theorem clc_ok : ∀ t ∈ CLc, CLok t := by
  have h : ((CLc.zip CLcx).all fun x => match vwCl[x.1.2.2]? with
    | some r => decide (lw_tbl[x.2.1]? = some (Cond.classLink x.1.1 x.1.2.1 r.1)) && decide (lw_tbl[x.2.2.1]? = some (Cond.instantiable r.1 r.2.2)) && decide (lw_tbl[x.2.2.2]? = some (Cond.initialized r.1))
    | none => false) = true := by decide +kernel
  have hl : CLc.length = CLcx.length := by decide +kernel
  intro t ht
  obtain ⟨i, hi⟩ := List.getElem?_of_mem ht
  have hli := (List.getElem?_eq_some_iff.mp hi).1
  have hz : (CLc.zip CLcx)[i]? = some (t, CLcx[i]'(by omega)) := by
    rw [List.getElem?_zip_eq_some]
    exact ⟨hi, List.getElem?_eq_getElem (by omega)⟩
  have h1 := List.all_eq_true.mp h _ (List.mem_of_getElem? hz)
  simp only at h1
  split at h1
  · rename_i r hr
    simp only [Bool.and_eq_true, decide_eq_true_eq] at h1
    exact ⟨r, hr, lw_gi (List.mem_of_getElem? h1.1.1) rfl, lw_gi (List.mem_of_getElem? h1.1.2) rfl, lw_gi (List.mem_of_getElem? h1.2) rfl⟩
  · cases h1
set_option maxRecDepth 1000000 in
theorem cc_c : ∀ md ∈ CT, Cond.code md.2.1 md.2.2.1 md.2.2.2.1 md.2.2.2.2.1 ∈ lw_tbl := pl_ok CT [262, 307, 366, 323, 191, 114, 197, 151, 342, 133, 275, 105, 1133] (fun md => Cond.code md.2.1 md.2.2.1 md.2.2.2.1 md.2.2.2.2.1) rfl
theorem cc_i : ∀ md ∈ CT, Cond.initialized md.2.1.cls ∈ lw_tbl := pl_ok CT [90, 92, 95, 93, 88, 85, 89, 87, 94, 86, 91, 84, 96] (fun md => Cond.initialized md.2.1.cls) (by decide +kernel)
theorem cc_b : (CT.all fun md => plainFor md.2.1 && decide (md.2.1.cls ≠ "java/lang/invoke/MethodHandle") && decide (md.2.1.cls ≠ "java/lang/invoke/VarHandle") && decide (md.1 = md.2.1.cls) && decide (md.2.2.2.1 ≤ 21) && decide (pcA md.2.2.2.2.2 0 = 0)) = true := by decide +kernel
theorem ct_ok : ∀ md ∈ CT, mdB md ∧ pcA md.2.2.2.2.2 0 = 0 := md_mk cc_c cc_i cc_b
def MLcx : List (Nat × Nat) := [(263, 0), (308, 0), (367, 0), (324, 0), (192, 0), (4, 196), (115, 0), (198, 0), (152, 0), (343, 0), (134, 0), (276, 0), (106, 0), (0, 113), (1, 132), (2, 150), (3, 190), (5, 196), (260, 261), (273, 274), (305, 306), (321, 322), (340, 341), (364, 365), (1134, 0)]
def mlcB (t : String × Nat × Nat × Nat) (x : Nat × Nat) : Bool := match t.2.2.1 with
  | 8 => decide (lw_tbl[x.1]? = some (Cond.methodLink t.1 t.2.1 Lib.objectInit))
  | 0 => match CT[t.2.2.2]? with
    | some md => decide (lw_tbl[x.1]? = some (Cond.methodLink t.1 t.2.1 md.2.1)) && decide (lw_tbl[x.2]? = some (Cond.instanceMethod md.2.1))
    | none => false
  | _ => match CT[t.2.2.2]? with
    | some md => decide ((NW[x.1]?).map (fun z => (z.1, z.2.1, z.2.2.1)) = some (t.1, t.2.1, md.2.1)) && decide (lw_tbl[x.2]? = some (Cond.instanceMethod md.2.1))
    | none => false
theorem mlc_all : ((MLc.zip MLcx).all fun z => mlcB z.1 z.2) = true := by decide +kernel
theorem mlc_ok : ∀ t ∈ MLc, MLokC CT t := by
  have hl : MLc.length = MLcx.length := by decide +kernel
  intro t ht
  obtain ⟨i, hi⟩ := List.getElem?_of_mem ht
  have hli := (List.getElem?_eq_some_iff.mp hi).1
  have hz : (MLc.zip MLcx)[i]? = some (t, MLcx[i]'(by omega)) := by
    rw [List.getElem?_zip_eq_some]
    exact ⟨hi, List.getElem?_eq_getElem (by omega)⟩
  have h1 := List.all_eq_true.mp mlc_all _ (List.mem_of_getElem? hz)
  generalize MLcx[i]'(by omega) = x at h1
  obtain ⟨own, idx, kind, cal⟩ := t
  unfold mlcB at h1
  unfold MLokC
  simp only at h1 ⊢
  split at h1
  · simp only [decide_eq_true_eq] at h1
    exact lw_gi (List.mem_of_getElem? h1) rfl
  · split at h1
    · rename_i md hmd
      simp only [Bool.and_eq_true, decide_eq_true_eq] at h1
      exact ⟨md, hmd, (ct_ok md (List.mem_of_getElem? hmd)).1, lw_gi (List.mem_of_getElem? h1.1) rfl, lw_gi (List.mem_of_getElem? h1.2) rfl⟩
    · cases h1
  · rename_i n8 n0
    split at h1
    · rename_i md hmd
      simp only [Bool.and_eq_true, decide_eq_true_eq] at h1
      split
      · exact absurd rfl n8
      · exact absurd rfl n0
      refine ⟨md, hmd, (ct_ok md (List.mem_of_getElem? hmd)).1, ?_, lw_gi (List.mem_of_getElem? h1.2) rfl⟩
      cases hN : NW[x.1]? with
      | none => rw [hN] at h1; cases h1.1
      | some z =>
        rw [hN] at h1
        have e := Option.some.inj h1.1
        simp only [Prod.mk.injEq] at e
        obtain ⟨z1, z2, z3, z4⟩ := z
        simp only at e
        obtain ⟨rfl, rfl, rfl⟩ := e
        exact ⟨z4, List.mem_of_getElem? hN⟩
    · cases h1
theorem okc_all : (CT.all (okN CT FLc MLc CLc)) = true := by decide +kernel
theorem pokc : POKC CT FLc MLc CLc := ⟨flc_ok, mlc_ok, clc_ok, List.all_eq_true.mp okc_all, fun md h => (ct_ok md h).2⟩
def WLX : List (Nat × Nat) := [(0, 0), (1, 0), (2, 0), (3, 0), (2, 1), (3, 1), (2, 2), (3, 2), (2, 3), (3, 3), (2, 4), (3, 4), (2, 5), (3, 5), (4, 0), (5, 0), (6, 0), (5, 1), (6, 1), (5, 2), (6, 2), (5, 3), (6, 3), (7, 0), (8, 0), (9, 0), (10, 0), (8, 1), (9, 1), (10, 1), (8, 2), (9, 2), (10, 2), (11, 0), (12, 1), (13, 1), (14, 1), (15, 1), (16, 1), (17, 1), (12, 0), (13, 0), (14, 0), (15, 0), (16, 0), (17, 0), (8, 3), (9, 3), (10, 3), (18, 0), (19, 0), (20, 0), (21, 0), (22, 0), (23, 0), (24, 0), (25, 0), (26, 0), (27, 0), (28, 0), (29, 0), (30, 0), (31, 0), (32, 0), (33, 0)]
theorem wokX : WOK WLX := ⟨by decide +kernel, List.all_eq_true.mp (by decide +kernel)⟩
def cmX : Option (List CE × Nat × Nat) := cmR (prg CT) 3000 3 k_X11_init (0, mkL 2 [.inr (0, 0)], [], [.inl (11, dfl 11)], 0, 0)
def hpX : List CE := match cmX with
  | some r => r.1
  | none => []
theorem cmX_c : cmX.map (fun r => r.2) = some (64, 1205) := by decide +kernel
theorem cmX_eq : cmX = some (hpX, 64, 1205) := by
  have h := cmX_c
  unfold hpX
  cases hc : cmX with
  | none => rw [hc] at h; cases h
  | some r =>
    rw [hc] at h
    have e := Option.some.inj h
    show some r = some (r.1, _)
    rw [← e]
def WLM : List (Nat × Nat) := [(34, 0), (35, 0), (36, 0), (37, 0), (38, 0), (39, 0), (40, 0), (41, 0), (42, 0), (43, 0), (44, 0), (45, 0), (46, 0), (47, 0), (48, 0), (49, 0), (50, 0), (51, 0), (52, 0), (53, 0), (54, 0), (55, 0), (56, 0), (57, 0), (58, 0)]
theorem wokM : WOK WLM := ⟨by decide +kernel, List.all_eq_true.mp (by decide +kernel)⟩
def cmM : Option (List CE × Nat × Nat) := cmR (prg CT) 3000 3 k_X12_init (0, mkL 2 [.inr (0, 0)], [], [.inl (12, dfl 12)], 0, 0)
def hpM : List CE := match cmM with
  | some r => r.1
  | none => []
theorem cmM_c : cmM.map (fun r => r.2) = some (24, 1003) := by decide +kernel
theorem cmM_eq : cmM = some (hpM, 24, 1003) := by
  have h := cmM_c
  unfold hpM
  cases hc : cmM with
  | none => rw [hc] at h; cases h
  | some r =>
    rw [hc] at h
    have e := Option.some.inj h
    show some r = some (r.1, _)
    rw [← e]
