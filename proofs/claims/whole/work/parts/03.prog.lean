/-! The methods, by program: rows (pc, length, instruction, link data), suffixes at every target of a jump. A name: c<method>_<place>. -/
-- 0 Worms_init <init>()V
def c0_0 : List RI := (0, 1, .aload_n 0, []) :: (1, 3, .invokespecial 3, [101]) :: (4, 1, .aload_n 0, []) :: (5, 1, .iconst 4, []) :: (6, 2, .newarray .int, [0, 117]) :: (8, 3, .putfield 11, [4, 1, 105, 3, 1]) :: (11, 1, .aload_n 0, []) :: (12, 1, .iconst 4, []) :: (13, 2, .newarray .int, [0, 117]) :: (15, 3, .putfield 15, [4, 2, 108, 3, 1]) :: (18, 1, .return_, []) :: []
-- 1 Arr_fill fill([II)V
def c1_14 : List RI := (20, 1, .return_, []) :: []
def c1_5 : List RI := (5, 1, .iload_n 2, []) :: (6, 1, .iload_n 3, []) :: (7, 3, .if_icmp .ge 13, [14]) :: (10, 1, .aload_n 0, []) :: (11, 1, .iload_n 2, []) :: (12, 1, .iload_n 1, []) :: (13, 1, .iastore, []) :: (14, 3, .iinc 2 1, []) :: (17, 3, .goto (-12), [5]) :: c1_14
def c1_0 : List RI := (0, 1, .iconst 0, []) :: (1, 1, .istore_n 2, []) :: (2, 1, .aload_n 0, []) :: (3, 1, .arraylength, []) :: (4, 1, .istore_n 3, []) :: c1_5
-- 2 Board_beginRecord beginRecord()V
def c2_0 : List RI := (0, 1, .aload_n 0, []) :: (1, 1, .aload_n 0, []) :: (2, 3, .getfield 44, [0, 4, 138]) :: (5, 3, .putfield 56, [0, 5, 139, 0, 0]) :: (8, 1, .aload_n 0, []) :: (9, 3, .getfield 15, [0, 8, 144]) :: (12, 1, .iconst 0, []) :: (13, 3, .invokestatic 59, [1, 2, 4, 0, 0, 1, 0, 126]) :: (16, 1, .return_, []) :: []
-- 3 Board_changeSize changeSize(II)V
def c3_30 : List RI := (47, 1, .aload_n 0, []) :: (48, 1, .iconst 0, []) :: (49, 3, .putfield 44, [0, 4, 138, 0, 0]) :: (52, 1, .aload_n 0, []) :: (53, 1, .iconst 0, []) :: (54, 3, .putfield 47, [0, 6, 140, 0, 0]) :: (57, 1, .aload_n 0, []) :: (58, 3, .getfield 22, [0, 9, 146]) :: (61, 1, .iconst 0, []) :: (62, 3, .putfield 50, [4, 0, 103, 0, 0]) :: (65, 1, .aload_n 0, []) :: (66, 3, .invokevirtual 53, [2, 1, 1, 0, 0, 0, 0, 122]) :: (69, 1, .return_, []) :: []
def c3_11 : List RI := (17, 1, .iload_n 3, []) :: (18, 1, .iload_n 1, []) :: (19, 3, .if_icmp .ge 28, [30]) :: (22, 1, .aload_n 0, []) :: (23, 1, .dup, []) :: (24, 3, .getfield 37, [0, 2, 134]) :: (27, 1, .iconst 1, []) :: (28, 1, .iload_n 2, []) :: (29, 1, .ishl, []) :: (30, 1, .iconst 1, []) :: (31, 1, .isub, []) :: (32, 1, .iload_n 3, []) :: (33, 2, .bipush 6, []) :: (35, 1, .imul, []) :: (36, 1, .ishl, []) :: (37, 1, .ior, []) :: (38, 3, .putfield 37, [0, 2, 134, 0, 0]) :: (41, 3, .iinc 3 1, []) :: (44, 3, .goto (-27), [11]) :: c3_30
def c3_0 : List RI := (0, 1, .aload_n 0, []) :: (1, 1, .iload_n 1, []) :: (2, 3, .putfield 30, [0, 0, 129, 0, 0]) :: (5, 1, .aload_n 0, []) :: (6, 1, .iload_n 2, []) :: (7, 3, .putfield 34, [0, 1, 131, 0, 0]) :: (10, 1, .aload_n 0, []) :: (11, 1, .iconst 0, []) :: (12, 3, .putfield 37, [0, 2, 134, 0, 0]) :: (15, 1, .iconst 0, []) :: (16, 1, .istore_n 3, []) :: c3_11
-- 4 Board_init <init>()V
def c4_0 : List RI := (0, 1, .aload_n 0, []) :: (1, 3, .invokespecial 3, [95]) :: (4, 1, .aload_n 0, []) :: (5, 2, .bipush 43, []) :: (7, 3, .putfield 9, [0, 3, 135, 1, 0]) :: (10, 1, .aload_n 0, []) :: (11, 2, .bipush 30, []) :: (13, 2, .newarray .int, [0, 117]) :: (15, 3, .putfield 15, [0, 8, 144, 3, 1]) :: (18, 1, .aload_n 0, []) :: (19, 3, .new 19, [4, 3, 96, 97, 59]) :: (22, 1, .dup, []) :: (23, 3, .invokespecial 21, [0, 1, 1, 2, 8, 4, 4, 98]) :: (26, 3, .putfield 22, [0, 9, 146, 3, 1]) :: (29, 1, .aload_n 0, []) :: (30, 1, .iconst 3, []) :: (31, 1, .iconst 3, []) :: (32, 3, .invokevirtual 26, [3, 3, 4, 0, 0, 0, 0, 118]) :: (35, 1, .return_, []) :: []
-- 5 Hist_init <init>()V
def c5_20 : List RI := (40, 1, .return_, []) :: []
def c5_8 : List RI := (15, 1, .iload_n 1, []) :: (16, 2, .bipush 8, []) :: (18, 3, .if_icmp .ge 22, [20]) :: (21, 1, .aload_n 0, []) :: (22, 3, .getfield 11, [2, 0, 178]) :: (25, 1, .iload_n 1, []) :: (26, 3, .new 9, [0, 10, 175, 91, 58]) :: (29, 1, .dup, []) :: (30, 3, .invokespecial 15, [4, 1, 1, 4, 41, 3, 0, 177]) :: (33, 1, .aastore, []) :: (34, 3, .iinc 1 1, []) :: (37, 3, .goto (-22), [8]) :: c5_20
def c5_0 : List RI := (0, 1, .aload_n 0, []) :: (1, 3, .invokespecial 1, [174]) :: (4, 1, .aload_n 0, []) :: (5, 2, .bipush 8, []) :: (7, 3, .anewarray 9, [3, 175, 176]) :: (10, 3, .putfield 11, [2, 0, 178, 3, 1]) :: (13, 1, .iconst 0, []) :: (14, 1, .istore_n 1, []) :: c5_8
-- 6 Solv_init <init>()V
def c6_0 : List RI := (0, 1, .aload_n 0, []) :: (1, 3, .invokespecial 3, [194]) :: (4, 1, .aload_n 0, []) :: (5, 2, .bipush 30, []) :: (7, 2, .newarray .int, [0, 117]) :: (9, 3, .putfield 9, [3, 0, 195, 3, 1]) :: (12, 1, .aload_n 0, []) :: (13, 2, .bipush 30, []) :: (15, 2, .newarray .int, [0, 117]) :: (17, 3, .putfield 15, [3, 1, 196, 3, 1]) :: (20, 1, .aload_n 0, []) :: (21, 2, .bipush 30, []) :: (23, 2, .newarray .int, [0, 117]) :: (25, 3, .putfield 18, [3, 3, 198, 3, 1]) :: (28, 1, .return_, []) :: []
-- 7 Text_init <init>()V
def c7_0 : List RI := (0, 1, .aload_n 0, []) :: (1, 3, .invokespecial 3, [217]) :: (4, 1, .aload_n 0, []) :: (5, 2, .bipush 60, []) :: (7, 2, .newarray .char, [1, 226]) :: (9, 3, .putfield 11, [1, 0, 218, 3, 1]) :: (12, 1, .return_, []) :: []
-- 8 Grid_init <init>()V
def c8_0 : List RI := (0, 1, .aload_n 0, []) :: (1, 3, .invokespecial 1, [87]) :: (4, 1, .aload_n 0, []) :: (5, 3, .new 7, [0, 10, 90, 91, 58]) :: (8, 1, .dup, []) :: (9, 3, .invokespecial 9, [4, 1, 1, 4, 41, 3, 0, 92]) :: (12, 3, .putfield 10, [5, 0, 227, 3, 1]) :: (15, 1, .aload_n 0, []) :: (16, 3, .new 7, [0, 10, 90, 91, 58]) :: (19, 1, .dup, []) :: (20, 3, .invokespecial 9, [4, 1, 1, 4, 41, 3, 0, 92]) :: (23, 3, .putfield 16, [5, 1, 228, 3, 1]) :: (26, 1, .aload_n 0, []) :: (27, 3, .new 7, [0, 10, 90, 91, 58]) :: (30, 1, .dup, []) :: (31, 3, .invokespecial 9, [4, 1, 1, 4, 41, 3, 0, 92]) :: (34, 3, .putfield 19, [5, 2, 229, 3, 1]) :: (37, 1, .aload_n 0, []) :: (38, 3, .new 22, [2, 3, 169, 170, 61]) :: (41, 1, .dup, []) :: (42, 3, .invokespecial 24, [5, 1, 2, 41, 416, 3, 2, 171]) :: (45, 3, .putfield 25, [5, 4, 231, 3, 1]) :: (48, 1, .aload_n 0, []) :: (49, 3, .new 29, [3, 5, 189, 190, 62]) :: (52, 1, .dup, []) :: (53, 3, .invokespecial 31, [6, 1, 1, 3, 90, 4, 3, 191]) :: (56, 3, .putfield 32, [5, 5, 232, 3, 1]) :: (59, 1, .aload_n 0, []) :: (60, 3, .new 36, [1, 2, 212, 213, 63]) :: (63, 1, .dup, []) :: (64, 3, .invokespecial 38, [7, 1, 1, 1, 60, 4, 1, 214]) :: (67, 3, .putfield 39, [5, 6, 233, 3, 1]) :: (70, 1, .aload_n 0, []) :: (71, 1, .iconst (-1), []) :: (72, 3, .putfield 43, [5, 7, 234, 0, 0]) :: (75, 1, .aload_n 0, []) :: (76, 1, .iconst (-1), []) :: (77, 3, .putfield 47, [5, 8, 235, 0, 0]) :: (80, 1, .aload_n 0, []) :: (81, 2, .bipush 10, []) :: (83, 2, .newarray .char, [1, 226]) :: (85, 3, .putfield 50, [5, 9, 236, 3, 1]) :: (88, 1, .return_, []) :: []
-- 9 Model_init <init>()V
def c9_0 : List RI := (0, 1, .aload_n 0, []) :: (1, 3, .invokespecial 1, [1106]) :: (4, 1, .aload_n 0, []) :: (5, 2, .bipush 41, []) :: (7, 2, .newarray .int, [0, 117]) :: (9, 3, .putfield 7, [6, 0, 1107, 3, 1]) :: (12, 1, .aload_n 0, []) :: (13, 3, .sipush 328, []) :: (16, 2, .newarray .int, [0, 117]) :: (18, 3, .putfield 13, [6, 1, 1108, 3, 1]) :: (21, 1, .aload_n 0, []) :: (22, 2, .bipush 41, []) :: (24, 2, .newarray .int, [0, 117]) :: (26, 3, .putfield 16, [6, 2, 1109, 3, 1]) :: (29, 1, .aload_n 0, []) :: (30, 2, .bipush 41, []) :: (32, 2, .newarray .int, [0, 117]) :: (34, 3, .putfield 19, [6, 3, 1110, 3, 1]) :: (37, 1, .aload_n 0, []) :: (38, 2, .bipush 60, []) :: (40, 2, .newarray .int, [0, 117]) :: (42, 3, .putfield 22, [6, 8, 1115, 3, 1]) :: (45, 1, .aload_n 0, []) :: (46, 1, .iconst (-1), []) :: (47, 3, .putfield 25, [6, 10, 1117, 0, 0]) :: (50, 1, .aload_n 0, []) :: (51, 1, .iconst (-1), []) :: (52, 3, .putfield 29, [6, 11, 1118, 0, 0]) :: (55, 1, .aload_n 0, []) :: (56, 2, .bipush 20, []) :: (58, 2, .newarray .char, [1, 226]) :: (60, 3, .putfield 32, [6, 12, 1119, 3, 1]) :: (63, 1, .aload_n 0, []) :: (64, 2, .bipush 25, []) :: (66, 2, .newarray .int, [0, 117]) :: (68, 3, .putfield 36, [6, 14, 1121, 3, 1]) :: (71, 1, .aload_n 0, []) :: (72, 2, .bipush 25, []) :: (74, 2, .newarray .int, [0, 117]) :: (76, 3, .putfield 39, [6, 15, 1122, 3, 1]) :: (79, 1, .aload_n 0, []) :: (80, 2, .bipush 25, []) :: (82, 2, .newarray .int, [0, 117]) :: (84, 3, .putfield 42, [6, 16, 1123, 3, 1]) :: (87, 1, .aload_n 0, []) :: (88, 2, .bipush 124, []) :: (90, 2, .newarray .int, [0, 117]) :: (92, 3, .putfield 45, [6, 21, 1128, 3, 1]) :: (95, 1, .aload_n 0, []) :: (96, 3, .getfield 7, [6, 0, 1107]) :: (99, 1, .iconst 0, []) :: (100, 1, .iconst 3, []) :: (101, 1, .iastore, []) :: (102, 1, .aload_n 0, []) :: (103, 3, .getfield 7, [6, 0, 1107]) :: (106, 1, .iconst 1, []) :: (107, 1, .iconst 3, []) :: (108, 1, .iastore, []) :: (109, 1, .aload_n 0, []) :: (110, 3, .getfield 7, [6, 0, 1107]) :: (113, 1, .iconst 2, []) :: (114, 2, .bipush 43, []) :: (116, 1, .iastore, []) :: (117, 1, .return_, []) :: []
-- 10 Board_isSize isSize(II)Z
def c10_15 : List RI := (25, 1, .ireturn, []) :: []
def c10_14 : List RI := (24, 1, .iconst 0, []) :: c10_15
def c10_0 : List RI := (0, 1, .iload_n 0, []) :: (1, 1, .iconst 1, []) :: (2, 3, .if_icmp .lt 22, [14]) :: (5, 1, .iload_n 0, []) :: (6, 1, .iconst 5, []) :: (7, 3, .if_icmp .gt 17, [14]) :: (10, 1, .iload_n 1, []) :: (11, 1, .iconst 1, []) :: (12, 3, .if_icmp .lt 12, [14]) :: (15, 1, .iload_n 1, []) :: (16, 1, .iconst 5, []) :: (17, 3, .if_icmp .gt 7, [14]) :: (20, 1, .iconst 1, []) :: (21, 3, .goto 4, [15]) :: c10_14
-- 11 Worms_copyFrom copyFrom(LGlowwormGrid$Worms;)V
def c11_0 : List RI := (0, 1, .aload_n 0, []) :: (1, 1, .aload_n 1, []) :: (2, 3, .getfield 18, [4, 0, 102]) :: (5, 3, .putfield 18, [4, 0, 102, 0, 0]) :: (8, 1, .aload_n 1, []) :: (9, 3, .getfield 11, [4, 1, 105]) :: (12, 1, .iconst 0, []) :: (13, 1, .aload_n 0, []) :: (14, 3, .getfield 11, [4, 1, 105]) :: (17, 1, .iconst 0, []) :: (18, 1, .iconst 4, []) :: (19, 3, .invokestatic 38, [385]) :: (22, 1, .aload_n 1, []) :: (23, 3, .getfield 15, [4, 2, 108]) :: (26, 1, .iconst 0, []) :: (27, 1, .aload_n 0, []) :: (28, 3, .getfield 15, [4, 2, 108]) :: (31, 1, .iconst 0, []) :: (32, 1, .iconst 4, []) :: (33, 3, .invokestatic 38, [385]) :: (36, 1, .return_, []) :: []
-- 12 Board_copyFrom copyFrom(LGlowwormGrid$Board;)V
def c12_0 : List RI := (0, 1, .aload_n 0, []) :: (1, 1, .aload_n 1, []) :: (2, 3, .getfield 30, [0, 0, 129]) :: (5, 3, .putfield 30, [0, 0, 129, 0, 0]) :: (8, 1, .aload_n 0, []) :: (9, 1, .aload_n 1, []) :: (10, 3, .getfield 34, [0, 1, 131]) :: (13, 3, .putfield 34, [0, 1, 131, 0, 0]) :: (16, 1, .aload_n 0, []) :: (17, 1, .aload_n 1, []) :: (18, 3, .getfield 37, [0, 2, 134]) :: (21, 3, .putfield 37, [0, 2, 134, 0, 0]) :: (24, 1, .aload_n 0, []) :: (25, 1, .aload_n 1, []) :: (26, 3, .getfield 9, [0, 3, 135]) :: (29, 3, .putfield 9, [0, 3, 135, 1, 0]) :: (32, 1, .aload_n 0, []) :: (33, 1, .aload_n 1, []) :: (34, 3, .getfield 44, [0, 4, 138]) :: (37, 3, .putfield 44, [0, 4, 138, 0, 0]) :: (40, 1, .aload_n 0, []) :: (41, 1, .aload_n 1, []) :: (42, 3, .getfield 56, [0, 5, 139]) :: (45, 3, .putfield 56, [0, 5, 139, 0, 0]) :: (48, 1, .aload_n 0, []) :: (49, 1, .aload_n 1, []) :: (50, 3, .getfield 47, [0, 6, 140]) :: (53, 3, .putfield 47, [0, 6, 140, 0, 0]) :: (56, 1, .aload_n 0, []) :: (57, 1, .aload_n 1, []) :: (58, 3, .getfield 101, [0, 7, 142]) :: (61, 3, .putfield 101, [0, 7, 142, 0, 0]) :: (64, 1, .aload_n 1, []) :: (65, 3, .getfield 15, [0, 8, 144]) :: (68, 1, .iconst 0, []) :: (69, 1, .aload_n 0, []) :: (70, 3, .getfield 15, [0, 8, 144]) :: (73, 1, .iconst 0, []) :: (74, 2, .bipush 30, []) :: (76, 3, .invokestatic 104, [378]) :: (79, 1, .aload_n 0, []) :: (80, 3, .getfield 22, [0, 9, 146]) :: (83, 1, .aload_n 1, []) :: (84, 3, .getfield 22, [0, 9, 146]) :: (87, 3, .invokevirtual 110, [11, 2, 2, 0, 0, 0, 4, 381]) :: (90, 1, .return_, []) :: []
-- 13 Math_min min(II)I
def c13_6 : List RI := (10, 1, .ireturn, []) :: []
def c13_5 : List RI := (9, 1, .iload_n 1, []) :: c13_6
def c13_0 : List RI := (0, 1, .iload_n 0, []) :: (1, 1, .iload_n 1, []) :: (2, 3, .if_icmp .gt 7, [5]) :: (5, 1, .iload_n 0, []) :: (6, 3, .goto 4, [6]) :: c13_5
-- 14 Hist_remember remember(LGlowwormGrid$Board;)V
def c14_0 : List RI := (0, 1, .aload_n 0, []) :: (1, 3, .getfield 11, [2, 0, 178]) :: (4, 1, .aload_n 0, []) :: (5, 3, .getfield 16, [2, 1, 179]) :: (8, 1, .aaload, []) :: (9, 1, .aload_n 1, []) :: (10, 3, .invokevirtual 20, [12, 2, 2, 0, 0, 0, 0, 374]) :: (13, 1, .aload_n 0, []) :: (14, 1, .aload_n 0, []) :: (15, 3, .getfield 16, [2, 1, 179]) :: (18, 1, .iconst 1, []) :: (19, 1, .iadd, []) :: (20, 2, .bipush 8, []) :: (22, 1, .irem, []) :: (23, 3, .putfield 16, [2, 1, 179, 0, 0]) :: (26, 1, .aload_n 0, []) :: (27, 1, .aload_n 0, []) :: (28, 3, .getfield 24, [2, 2, 180]) :: (31, 1, .iconst 1, []) :: (32, 1, .iadd, []) :: (33, 2, .bipush 8, []) :: (35, 3, .invokestatic 27, [13, 2, 2, 0, 0, 1, 0, 386]) :: (38, 3, .putfield 24, [2, 2, 180, 0, 0]) :: (41, 1, .return_, []) :: []
-- 15 Board_cellCount cellCount()I
def c15_0 : List RI := (0, 1, .aload_n 0, []) :: (1, 3, .getfield 30, [0, 0, 129]) :: (4, 1, .aload_n 0, []) :: (5, 3, .getfield 34, [0, 1, 131]) :: (8, 1, .imul, []) :: (9, 1, .ireturn, []) :: []
-- 16 Grid_resize resize(II)I
def c16_5 : List RI := (18, 1, .aload_n 0, []) :: (19, 3, .getfield 25, [5, 4, 231]) :: (22, 1, .aload_n 0, []) :: (23, 3, .getfield 10, [5, 0, 227]) :: (26, 3, .invokevirtual 65, [14, 2, 2, 0, 0, 0, 2, 370]) :: (29, 1, .aload_n 0, []) :: (30, 3, .getfield 10, [5, 0, 227]) :: (33, 1, .iload_n 1, []) :: (34, 1, .iload_n 2, []) :: (35, 3, .invokevirtual 69, [3, 3, 4, 0, 0, 0, 0, 583]) :: (38, 1, .aload_n 0, []) :: (39, 3, .getfield 10, [5, 0, 227]) :: (42, 3, .invokevirtual 73, [15, 1, 1, 0, 0, 0, 0, 477]) :: (45, 1, .ireturn, []) :: []
def c16_0 : List RI := (0, 1, .iload_n 1, []) :: (1, 1, .iload_n 2, []) :: (2, 3, .invokestatic 54, [10, 2, 2, 0, 0, 1, 0, 511]) :: (5, 3, .ifCond .ne 13, [5]) :: (8, 10, .athrow, [0, 58, 60, 62, 0, 514, 68]) :: c16_5
-- 17 Law_resize resize(LGlowwormGrid;II[J)I
def c17_12 : List RI := (17, 1, .iconst 0, []) :: (18, 1, .ireturn, []) :: []
def c17_10 : List RI := (15, 1, .iconst 1, []) :: (16, 1, .ireturn, []) :: c17_12
def c17_0 : List RI := (0, 1, .aload_n 3, []) :: (1, 1, .iconst 0, []) :: (2, 1, .aload_n 0, []) :: (3, 1, .iload_n 1, []) :: (4, 1, .iload_n 2, []) :: (5, 3, .invokevirtual 7, [16, 3, 3, 1, 6, 0, 5, 507]) :: (8, 1, .i2l, []) :: (9, 1, .lastore, []) :: (10, 3, .goto 7, [12]) :: (13, 2, .astore 4, []) :: c17_10
-- 18 Model_in in(III)Z
def c18_9 : List RI := (15, 1, .ireturn, []) :: []
def c18_8 : List RI := (14, 1, .iconst 0, []) :: c18_9
def c18_0 : List RI := (0, 1, .iload_n 0, []) :: (1, 1, .iload_n 1, []) :: (2, 3, .if_icmp .lt 12, [8]) :: (5, 1, .iload_n 0, []) :: (6, 1, .iload_n 2, []) :: (7, 3, .if_icmp .gt 7, [8]) :: (10, 1, .iconst 1, []) :: (11, 3, .goto 4, [9]) :: c18_8
-- 19 Model_fails fails(I)Z
def c19_8 : List RI := (14, 1, .ireturn, []) :: []
def c19_7 : List RI := (13, 1, .iconst 0, []) :: c19_8
def c19_0 : List RI := (0, 1, .aload_n 0, []) :: (1, 1, .iload_n 1, []) :: (2, 3, .putfield 48, [6, 7, 1114, 0, 0]) :: (5, 1, .iload_n 1, []) :: (6, 3, .ifCond .le 7, [7]) :: (9, 1, .iconst 1, []) :: (10, 3, .goto 4, [8]) :: c19_7
-- 20 Model_copies copies([II[II)V
def c20_17 : List RI := (28, 1, .return_, []) :: []
def c20_2 : List RI := (3, 2, .iload 4, []) :: (5, 2, .bipush 41, []) :: (7, 3, .if_icmp .ge 21, [17]) :: (10, 1, .aload_n 2, []) :: (11, 1, .iload_n 3, []) :: (12, 2, .iload 4, []) :: (14, 1, .iadd, []) :: (15, 1, .aload_n 0, []) :: (16, 1, .iload_n 1, []) :: (17, 2, .iload 4, []) :: (19, 1, .iadd, []) :: (20, 1, .iaload, []) :: (21, 1, .iastore, []) :: (22, 3, .iinc 4 1, []) :: (25, 3, .goto (-22), [2]) :: c20_17
def c20_0 : List RI := (0, 1, .iconst 0, []) :: (1, 2, .istore 4, []) :: c20_2
-- 21 Model_keeps keeps([I)V
def c21_34 : List RI := (62, 1, .aload_n 1, []) :: (63, 1, .iconst 0, []) :: (64, 1, .aload_n 0, []) :: (65, 3, .getfield 13, [6, 1, 1108]) :: (68, 2, .bipush 41, []) :: (70, 1, .aload_n 0, []) :: (71, 3, .getfield 55, [6, 5, 1112]) :: (74, 1, .imul, []) :: (75, 3, .invokestatic 58, [20, 4, 5, 0, 0, 1, 6, 1196]) :: (78, 1, .aload_n 0, []) :: (79, 1, .dup, []) :: (80, 3, .getfield 55, [6, 5, 1112]) :: (83, 1, .iconst 1, []) :: (84, 1, .iadd, []) :: (85, 3, .putfield 55, [6, 5, 1112, 0, 0]) :: (88, 1, .return_, []) :: []
def c21_28 : List RI := (52, 1, .aload_n 0, []) :: (53, 1, .dup, []) :: (54, 3, .getfield 55, [6, 5, 1112]) :: (57, 1, .iconst 1, []) :: (58, 1, .isub, []) :: (59, 3, .putfield 55, [6, 5, 1112, 0, 0]) :: c21_34
def c21_13 : List RI := (24, 1, .iload_n 2, []) :: (25, 3, .sipush 287, []) :: (28, 3, .if_icmp .ge 24, [28]) :: (31, 1, .aload_n 0, []) :: (32, 3, .getfield 13, [6, 1, 1108]) :: (35, 1, .iload_n 2, []) :: (36, 1, .aload_n 0, []) :: (37, 3, .getfield 13, [6, 1, 1108]) :: (40, 1, .iload_n 2, []) :: (41, 2, .bipush 41, []) :: (43, 1, .iadd, []) :: (44, 1, .iaload, []) :: (45, 1, .iastore, []) :: (46, 3, .iinc 2 1, []) :: (49, 3, .goto (-25), [13]) :: c21_28
def c21_7 : List RI := (13, 1, .aload_n 0, []) :: (14, 3, .getfield 55, [6, 5, 1112]) :: (17, 2, .bipush 8, []) :: (19, 3, .if_icmp .ne 43, [34]) :: (22, 1, .iconst 0, []) :: (23, 1, .istore_n 2, []) :: c21_13
def c21_0 : List RI := (0, 1, .aload_n 0, []) :: (1, 1, .iconst 0, []) :: (2, 3, .putfield 48, [6, 7, 1114, 0, 0]) :: (5, 1, .aload_n 0, []) :: (6, 3, .getfield 51, [6, 6, 1113]) :: (9, 3, .ifCond .eq 4, [7]) :: (12, 1, .return_, []) :: c21_7
-- 22 Model_begins begins()V
def c22_22 : List RI := (37, 1, .return_, []) :: []
def c22_10 : List RI := (15, 1, .iload_n 1, []) :: (16, 2, .bipush 25, []) :: (18, 3, .if_icmp .ge 19, [22]) :: (21, 1, .aload_n 0, []) :: (22, 3, .getfield 7, [6, 0, 1107]) :: (25, 2, .bipush 8, []) :: (27, 1, .iload_n 1, []) :: (28, 1, .iadd, []) :: (29, 1, .iconst 0, []) :: (30, 1, .iastore, []) :: (31, 3, .iinc 1 1, []) :: (34, 3, .goto (-19), [10]) :: c22_22
def c22_0 : List RI := (0, 1, .aload_n 0, []) :: (1, 3, .getfield 7, [6, 0, 1107]) :: (4, 2, .bipush 6, []) :: (6, 1, .aload_n 0, []) :: (7, 3, .getfield 7, [6, 0, 1107]) :: (10, 1, .iconst 5, []) :: (11, 1, .iaload, []) :: (12, 1, .iastore, []) :: (13, 1, .iconst 0, []) :: (14, 1, .istore_n 1, []) :: c22_10
-- 23 Model_cells cells()I
def c23_0 : List RI := (0, 1, .aload_n 0, []) :: (1, 3, .getfield 7, [6, 0, 1107]) :: (4, 1, .iconst 0, []) :: (5, 1, .iaload, []) :: (6, 1, .aload_n 0, []) :: (7, 3, .getfield 7, [6, 0, 1107]) :: (10, 1, .iconst 1, []) :: (11, 1, .iaload, []) :: (12, 1, .imul, []) :: (13, 1, .ireturn, []) :: []
-- 24 Model_resize resize(II)I
def c24_61 : List RI := (100, 1, .aload_n 0, []) :: (101, 3, .invokevirtual 89, [22, 1, 2, 0, 0, 0, 6, 1199]) :: (104, 1, .aload_n 0, []) :: (105, 3, .invokevirtual 74, [23, 1, 1, 0, 0, 0, 6, 1203]) :: (108, 1, .ireturn, []) :: []
def c24_49 : List RI := (78, 1, .iload_n 3, []) :: (79, 2, .bipush 8, []) :: (81, 3, .if_icmp .ge 19, [61]) :: (84, 1, .aload_n 0, []) :: (85, 3, .getfield 7, [6, 0, 1107]) :: (88, 2, .bipush 33, []) :: (90, 1, .iload_n 3, []) :: (91, 1, .iadd, []) :: (92, 1, .iconst 0, []) :: (93, 1, .iastore, []) :: (94, 3, .iinc 3 1, []) :: (97, 3, .goto (-19), [49]) :: c24_61
def c24_18 : List RI := (32, 1, .aload_n 0, []) :: (33, 1, .aload_n 0, []) :: (34, 3, .getfield 7, [6, 0, 1107]) :: (37, 3, .invokevirtual 85, [21, 2, 3, 0, 0, 0, 6, 1192]) :: (40, 1, .aload_n 0, []) :: (41, 3, .getfield 7, [6, 0, 1107]) :: (44, 1, .iconst 0, []) :: (45, 1, .iload_n 1, []) :: (46, 1, .iastore, []) :: (47, 1, .aload_n 0, []) :: (48, 3, .getfield 7, [6, 0, 1107]) :: (51, 1, .iconst 1, []) :: (52, 1, .iload_n 2, []) :: (53, 1, .iastore, []) :: (54, 1, .aload_n 0, []) :: (55, 3, .getfield 7, [6, 0, 1107]) :: (58, 1, .iconst 5, []) :: (59, 1, .iconst 0, []) :: (60, 1, .iastore, []) :: (61, 1, .aload_n 0, []) :: (62, 3, .getfield 7, [6, 0, 1107]) :: (65, 2, .bipush 7, []) :: (67, 1, .iconst 0, []) :: (68, 1, .iastore, []) :: (69, 1, .aload_n 0, []) :: (70, 3, .getfield 7, [6, 0, 1107]) :: (73, 1, .iconst 4, []) :: (74, 1, .iconst 0, []) :: (75, 1, .iastore, []) :: (76, 1, .iconst 0, []) :: (77, 1, .istore_n 3, []) :: c24_49
def c24_14 : List RI := (24, 3, .invokevirtual 70, [19, 2, 2, 0, 0, 0, 6, 1188]) :: (27, 3, .ifCond .eq 5, [18]) :: (30, 1, .iconst 0, []) :: (31, 1, .ireturn, []) :: c24_18
def c24_13 : List RI := (23, 1, .iconst 1, []) :: c24_14
def c24_0 : List RI := (0, 1, .aload_n 0, []) :: (1, 1, .iload_n 1, []) :: (2, 1, .iconst 1, []) :: (3, 1, .iconst 5, []) :: (4, 3, .invokestatic 62, [18, 3, 3, 0, 0, 1, 6, 1185]) :: (7, 3, .ifCond .eq 16, [13]) :: (10, 1, .iload_n 2, []) :: (11, 1, .iconst 1, []) :: (12, 1, .iconst 5, []) :: (13, 3, .invokestatic 62, [18, 3, 3, 0, 0, 1, 6, 1185]) :: (16, 3, .ifCond .eq 7, [13]) :: (19, 1, .iconst 0, []) :: (20, 3, .goto 4, [14]) :: c24_13
-- 25 Model_thrown thrown()I
def c25_0 : List RI := (0, 1, .aload_n 0, []) :: (1, 3, .getfield 48, [6, 7, 1114]) :: (4, 1, .ireturn, []) :: []
-- 26 Str_isLatin1 isLatin1()Z
def c26_8 : List RI := (18, 1, .ireturn, []) :: []
def c26_7 : List RI := (17, 1, .iconst 0, []) :: c26_8
def c26_0 : List RI := (0, 3, .getstatic 38, [2, 406]) :: (3, 3, .ifCond .eq 14, [7]) :: (6, 1, .aload_n 0, []) :: (7, 3, .getfield 15, [100, 1, 1557]) :: (10, 3, .ifCond .ne 7, [7]) :: (13, 1, .iconst 1, []) :: (14, 3, .goto 4, [8]) :: c26_7
-- 27 Str_coder coder()B
def c27_6 : List RI := (14, 1, .ireturn, []) :: []
def c27_5 : List RI := (13, 1, .iconst 1, []) :: c27_6
def c27_0 : List RI := (0, 3, .getstatic 38, [2, 406]) :: (3, 3, .ifCond .eq 10, [5]) :: (6, 1, .aload_n 0, []) :: (7, 3, .getfield 15, [100, 1, 1557]) :: (10, 3, .goto 4, [6]) :: c27_5
-- 28 Str_length length()I
def c28_0 : List RI := (0, 1, .aload_n 0, []) :: (1, 3, .getfield 9, [100, 0, 1558]) :: (4, 1, .arraylength, []) :: (5, 1, .aload_n 0, []) :: (6, 3, .invokevirtual 335, [27, 1, 1, 0, 0, 0, 100, 460]) :: (9, 1, .ishr, []) :: (10, 1, .ireturn, []) :: []
-- 29 Lat_canEncode canEncode(I)Z
def c29_8 : List RI := (16, 1, .ireturn, []) :: []
def c29_7 : List RI := (15, 1, .iconst 0, []) :: c29_8
def c29_0 : List RI := (0, 1, .iload_n 0, []) :: (1, 3, .ifCond .lt 14, [7]) :: (4, 1, .iload_n 0, []) :: (5, 3, .sipush 255, []) :: (8, 3, .if_icmp .gt 7, [7]) :: (11, 1, .iconst 1, []) :: (12, 3, .goto 4, [8]) :: c29_7
-- 30 Math_max max(II)I
def c30_6 : List RI := (10, 1, .ireturn, []) :: []
def c30_5 : List RI := (9, 1, .iload_n 1, []) :: c30_6
def c30_0 : List RI := (0, 1, .iload_n 0, []) :: (1, 1, .iload_n 1, []) :: (2, 3, .if_icmp .lt 7, [5]) :: (5, 1, .iload_n 0, []) :: (6, 3, .goto 4, [6]) :: c30_5
-- 31 Lat_indexOfChar indexOfChar([BIII)I
def c31_17 : List RI := (31, 1, .iconst (-1), []) :: (32, 1, .ireturn, []) :: []
def c31_15 : List RI := (25, 3, .iinc 5 1, []) :: (28, 3, .goto (-21), [5]) :: c31_17
def c31_5 : List RI := (7, 2, .iload 5, []) :: (9, 1, .iload_n 3, []) :: (10, 3, .if_icmp .ge 21, [17]) :: (13, 1, .aload_n 0, []) :: (14, 2, .iload 5, []) :: (16, 1, .baload, []) :: (17, 2, .iload 4, []) :: (19, 3, .if_icmp .ne 6, [15]) :: (22, 2, .iload 5, []) :: (24, 1, .ireturn, []) :: c31_15
def c31_0 : List RI := (0, 1, .iload_n 1, []) :: (1, 1, .i2b, []) :: (2, 2, .istore 4, []) :: (4, 1, .iload_n 2, []) :: (5, 2, .istore 5, []) :: c31_5
-- 32 Lat_indexOf indexOf([BIII)I
def c32_19 : List RI := (29, 1, .aload_n 0, []) :: (30, 1, .iload_n 1, []) :: (31, 1, .iload_n 2, []) :: (32, 1, .iload_n 3, []) :: (33, 3, .invokestatic 95, [31, 4, 6, 0, 0, 1, 0, 611]) :: (36, 1, .ireturn, []) :: []
def c32_5 : List RI := (9, 1, .iload_n 2, []) :: (10, 1, .iconst 0, []) :: (11, 3, .invokestatic 92, [30, 2, 2, 0, 0, 1, 0, 607]) :: (14, 1, .istore_n 2, []) :: (15, 1, .iload_n 3, []) :: (16, 1, .aload_n 0, []) :: (17, 1, .arraylength, []) :: (18, 3, .invokestatic 38, [13, 2, 2, 0, 0, 1, 0, 610]) :: (21, 1, .istore_n 3, []) :: (22, 1, .iload_n 2, []) :: (23, 1, .iload_n 3, []) :: (24, 3, .if_icmp .lt 5, [19]) :: (27, 1, .iconst (-1), []) :: (28, 1, .ireturn, []) :: c32_19
def c32_0 : List RI := (0, 1, .iload_n 1, []) :: (1, 3, .invokestatic 88, [29, 1, 1, 0, 0, 1, 0, 604]) :: (4, 3, .ifCond .ne 5, [5]) :: (7, 1, .iconst (-1), []) :: (8, 1, .ireturn, []) :: c32_5
-- 33 Str_indexOf_IIRI indexOf(II)I
def c33_18 : List RI := (36, 1, .ireturn, []) :: []
def c33_11 : List RI := (23, 1, .aload_n 0, []) :: (24, 3, .getfield 9, [100, 0, 1558]) :: (27, 1, .iload_n 1, []) :: (28, 1, .iload_n 2, []) :: (29, 1, .aload_n 0, []) :: (30, 3, .invokevirtual 505, [28, 1, 1, 0, 0, 0, 100, 600]) :: (33, 3, .invokestatic 640, []) :: c33_18
def c33_0 : List RI := (0, 1, .aload_n 0, []) :: (1, 3, .invokevirtual 492, [26, 1, 1, 0, 0, 0, 100, 402]) :: (4, 3, .ifCond .eq 19, [11]) :: (7, 1, .aload_n 0, []) :: (8, 3, .getfield 9, [100, 0, 1558]) :: (11, 1, .iload_n 1, []) :: (12, 1, .iload_n 2, []) :: (13, 1, .aload_n 0, []) :: (14, 3, .invokevirtual 505, [28, 1, 1, 0, 0, 0, 100, 600]) :: (17, 3, .invokestatic 637, [32, 4, 4, 0, 0, 1, 0, 601]) :: (20, 3, .goto 16, [18]) :: c33_11
-- 34 Str_indexOf_IRI indexOf(I)I
def c34_0 : List RI := (0, 1, .aload_n 0, []) :: (1, 1, .iload_n 1, []) :: (2, 1, .iconst 0, []) :: (3, 3, .invokevirtual 633, [33, 3, 3, 0, 0, 0, 100, 596]) :: (6, 1, .ireturn, []) :: []
-- 35 Board_changePattern changePattern(C)V
def c35_0 : List RI := (0, 1, .aload_n 0, []) :: (1, 1, .iload_n 1, []) :: (2, 3, .putfield 9, [0, 3, 135, 1, 0]) :: (5, 1, .aload_n 0, []) :: (6, 3, .invokevirtual 53, [2, 1, 1, 0, 0, 0, 0, 122]) :: (9, 1, .return_, []) :: []
-- 36 Grid_setPattern setPattern(C)C
def c36_5 : List RI := (19, 1, .aload_n 0, []) :: (20, 3, .getfield 25, [5, 4, 231]) :: (23, 1, .aload_n 0, []) :: (24, 3, .getfield 10, [5, 0, 227]) :: (27, 3, .invokevirtual 65, [14, 2, 2, 0, 0, 0, 2, 370]) :: (30, 1, .aload_n 0, []) :: (31, 3, .getfield 10, [5, 0, 227]) :: (34, 3, .getfield 87, [0, 3, 136]) :: (37, 1, .istore_n 2, []) :: (38, 1, .aload_n 0, []) :: (39, 3, .getfield 10, [5, 0, 227]) :: (42, 1, .iload_n 1, []) :: (43, 3, .invokevirtual 91, [35, 2, 2, 0, 0, 0, 0, 650]) :: (46, 1, .iload_n 2, []) :: (47, 1, .ireturn, []) :: []
def c36_0 : List RI := (0, 2, .ldc 77, [1, 14, 591]) :: (2, 1, .iload_n 1, []) :: (3, 3, .invokevirtual 79, [34, 2, 2, 0, 0, 0, 100, 592]) :: (6, 3, .ifCond .ge 13, [5]) :: (9, 10, .athrow, [0, 58, 85, 62, 0, 514, 68]) :: c36_5
-- 37 Law_setPattern setPattern(LGlowwormGrid;C[J)I
def c37_11 : List RI := (15, 1, .iconst 0, []) :: (16, 1, .ireturn, []) :: []
def c37_9 : List RI := (13, 1, .iconst 1, []) :: (14, 1, .ireturn, []) :: c37_11
def c37_0 : List RI := (0, 1, .aload_n 2, []) :: (1, 1, .iconst 0, []) :: (2, 1, .aload_n 0, []) :: (3, 1, .iload_n 1, []) :: (4, 3, .invokevirtual 15, [36, 2, 3, 1, 6, 0, 5, 587]) :: (7, 1, .i2l, []) :: (8, 1, .lastore, []) :: (9, 3, .goto 6, [11]) :: (12, 1, .astore_n 3, []) :: c37_9
-- 38 Model_setPattern setPattern(C)C
def c38_20 : List RI := (39, 1, .aload_n 0, []) :: (40, 3, .getfield 7, [6, 0, 1107]) :: (43, 1, .iconst 2, []) :: (44, 1, .iaload, []) :: (45, 1, .istore_n 2, []) :: (46, 1, .aload_n 0, []) :: (47, 1, .aload_n 0, []) :: (48, 3, .getfield 7, [6, 0, 1107]) :: (51, 3, .invokevirtual 85, [21, 2, 3, 0, 0, 0, 6, 1192]) :: (54, 1, .aload_n 0, []) :: (55, 3, .getfield 7, [6, 0, 1107]) :: (58, 1, .iconst 2, []) :: (59, 1, .iload_n 1, []) :: (60, 1, .iastore, []) :: (61, 1, .aload_n 0, []) :: (62, 3, .invokevirtual 89, [22, 1, 2, 0, 0, 0, 6, 1199]) :: (65, 1, .iload_n 2, []) :: (66, 1, .i2c, []) :: (67, 1, .ireturn, []) :: []
def c38_16 : List RI := (30, 3, .invokevirtual 70, [19, 2, 2, 0, 0, 0, 6, 1188]) :: (33, 3, .ifCond .eq 6, [20]) :: (36, 2, .bipush 32, []) :: (38, 1, .ireturn, []) :: c38_20
def c38_15 : List RI := (29, 1, .iconst 1, []) :: c38_16
def c38_13 : List RI := (25, 1, .iconst 0, []) :: (26, 3, .goto 4, [16]) :: c38_15
def c38_0 : List RI := (0, 1, .aload_n 0, []) :: (1, 1, .iload_n 1, []) :: (2, 2, .bipush 43, []) :: (4, 3, .if_icmp .eq 21, [13]) :: (7, 1, .iload_n 1, []) :: (8, 2, .bipush 120, []) :: (10, 3, .if_icmp .eq 15, [13]) :: (13, 1, .iload_n 1, []) :: (14, 2, .bipush 111, []) :: (16, 3, .if_icmp .eq 9, [13]) :: (19, 1, .iload_n 1, []) :: (20, 2, .bipush 115, []) :: (22, 3, .if_icmp .ne 7, [15]) :: c38_13
-- 39 Board_hasCell hasCell(II)Z
def c39_15 : List RI := (29, 1, .ireturn, []) :: []
def c39_14 : List RI := (28, 1, .iconst 0, []) :: c39_15
def c39_0 : List RI := (0, 1, .iload_n 1, []) :: (1, 3, .ifCond .lt 27, [14]) :: (4, 1, .iload_n 1, []) :: (5, 1, .aload_n 0, []) :: (6, 3, .getfield 30, [0, 0, 129]) :: (9, 3, .if_icmp .ge 19, [14]) :: (12, 1, .iload_n 2, []) :: (13, 3, .ifCond .lt 15, [14]) :: (16, 1, .iload_n 2, []) :: (17, 1, .aload_n 0, []) :: (18, 3, .getfield 34, [0, 1, 131]) :: (21, 3, .if_icmp .ge 7, [14]) :: (24, 1, .iconst 1, []) :: (25, 3, .goto 4, [15]) :: c39_14
-- 40 Grid_requireCell requireCell(II)V
def c40_7 : List RI := (23, 1, .return_, []) :: []
def c40_0 : List RI := (0, 1, .aload_n 0, []) :: (1, 3, .getfield 10, [5, 0, 227]) :: (4, 1, .iload_n 1, []) :: (5, 1, .iload_n 2, []) :: (6, 3, .invokevirtual 292, [39, 3, 3, 0, 0, 0, 0, 666]) :: (9, 3, .ifCond .ne 14, [7]) :: (12, 11, .athrow, [1, 133, 295, 137, 1, 670, 76]) :: c40_7
-- 41 Board_numberOf numberOf(II)I
def c41_0 : List RI := (0, 1, .iload_n 0, []) :: (1, 2, .bipush 6, []) :: (3, 1, .imul, []) :: (4, 1, .iload_n 1, []) :: (5, 1, .iadd, []) :: (6, 1, .ireturn, []) :: []
-- 42 Board_contains contains(II)Z
def c42_9 : List RI := (13, 1, .ireturn, []) :: []
def c42_8 : List RI := (12, 1, .iconst 0, []) :: c42_9
def c42_0 : List RI := (0, 1, .iload_n 0, []) :: (1, 1, .iconst 1, []) :: (2, 1, .iload_n 1, []) :: (3, 1, .ishl, []) :: (4, 1, .iand, []) :: (5, 3, .ifCond .eq 7, [8]) :: (8, 1, .iconst 1, []) :: (9, 3, .goto 4, [9]) :: c42_8
-- 43 Board_changeLight changeLight(IZ)V
def c43_22 : List RI := (36, 1, .return_, []) :: []
def c43_0 : List RI := (0, 1, .aload_n 0, []) :: (1, 3, .getfield 44, [0, 4, 138]) :: (4, 1, .iload_n 1, []) :: (5, 3, .invokestatic 40, [42, 2, 2, 0, 0, 1, 0, 442]) :: (8, 1, .iload_n 2, []) :: (9, 3, .if_icmp .eq 27, [22]) :: (12, 1, .aload_n 0, []) :: (13, 1, .dup, []) :: (14, 3, .getfield 44, [0, 4, 138]) :: (17, 1, .iconst 1, []) :: (18, 1, .iload_n 1, []) :: (19, 1, .ishl, []) :: (20, 1, .ixor, []) :: (21, 3, .putfield 44, [0, 4, 138, 0, 0]) :: (24, 1, .aload_n 0, []) :: (25, 1, .dup, []) :: (26, 3, .getfield 56, [0, 5, 139]) :: (29, 1, .iconst 1, []) :: (30, 1, .iload_n 1, []) :: (31, 1, .ishl, []) :: (32, 1, .ixor, []) :: (33, 3, .putfield 56, [0, 5, 139, 0, 0]) :: c43_22
-- 44 Grid_setLight setLight(IIZ)Z
def c44_0 : List RI := (0, 1, .aload_n 0, []) :: (1, 1, .iload_n 1, []) :: (2, 1, .iload_n 2, []) :: (3, 3, .invokevirtual 95, [40, 3, 3, 1, 6, 0, 5, 662]) :: (6, 1, .aload_n 0, []) :: (7, 3, .getfield 25, [5, 4, 231]) :: (10, 1, .aload_n 0, []) :: (11, 3, .getfield 10, [5, 0, 227]) :: (14, 3, .invokevirtual 65, [14, 2, 2, 0, 0, 0, 2, 370]) :: (17, 1, .iload_n 1, []) :: (18, 1, .iload_n 2, []) :: (19, 3, .invokestatic 98, [41, 2, 2, 0, 0, 1, 0, 686]) :: (22, 2, .istore 4, []) :: (24, 1, .aload_n 0, []) :: (25, 3, .getfield 10, [5, 0, 227]) :: (28, 3, .getfield 102, [0, 4, 137]) :: (31, 2, .iload 4, []) :: (33, 3, .invokestatic 105, [42, 2, 2, 0, 0, 1, 0, 689]) :: (36, 2, .istore 5, []) :: (38, 1, .aload_n 0, []) :: (39, 3, .getfield 10, [5, 0, 227]) :: (42, 2, .iload 4, []) :: (44, 1, .iload_n 3, []) :: (45, 3, .invokevirtual 108, [43, 3, 3, 0, 0, 0, 0, 690]) :: (48, 2, .iload 5, []) :: (50, 1, .ireturn, []) :: []
-- 45 Law_setLight setLight(LGlowwormGrid;IIZ[J)I
def c45_16 : List RI := (26, 1, .iconst 0, []) :: (27, 1, .ireturn, []) :: []
def c45_14 : List RI := (24, 1, .iconst 1, []) :: (25, 1, .ireturn, []) :: c45_16
def c45_11 : List RI := (18, 1, .lastore, []) :: (19, 3, .goto 7, [16]) :: (22, 2, .astore 5, []) :: c45_14
def c45_10 : List RI := (17, 1, .lconst 0, []) :: c45_11
def c45_0 : List RI := (0, 2, .aload 4, []) :: (2, 1, .iconst 0, []) :: (3, 1, .aload_n 0, []) :: (4, 1, .iload_n 1, []) :: (5, 1, .iload_n 2, []) :: (6, 1, .iload_n 3, []) :: (7, 3, .invokevirtual 19, [44, 4, 6, 1, 6, 0, 5, 658]) :: (10, 3, .ifCond .eq 7, [10]) :: (13, 1, .lconst 1, []) :: (14, 3, .goto 4, [11]) :: c45_10
-- 46 Model_isCell isCell(II)Z
def c46_23 : List RI := (37, 1, .ireturn, []) :: []
def c46_22 : List RI := (36, 1, .iconst 0, []) :: c46_23
def c46_0 : List RI := (0, 1, .iload_n 1, []) :: (1, 1, .iconst 0, []) :: (2, 1, .aload_n 0, []) :: (3, 3, .getfield 7, [6, 0, 1107]) :: (6, 1, .iconst 0, []) :: (7, 1, .iaload, []) :: (8, 1, .iconst 1, []) :: (9, 1, .isub, []) :: (10, 3, .invokestatic 62, [18, 3, 3, 0, 0, 1, 6, 1185]) :: (13, 3, .ifCond .eq 23, [22]) :: (16, 1, .iload_n 2, []) :: (17, 1, .iconst 0, []) :: (18, 1, .aload_n 0, []) :: (19, 3, .getfield 7, [6, 0, 1107]) :: (22, 1, .iconst 1, []) :: (23, 1, .iaload, []) :: (24, 1, .iconst 1, []) :: (25, 1, .isub, []) :: (26, 3, .invokestatic 62, [18, 3, 3, 0, 0, 1, 6, 1185]) :: (29, 3, .ifCond .eq 7, [22]) :: (32, 1, .iconst 1, []) :: (33, 3, .goto 4, [23]) :: c46_22
-- 47 Model_isNone isNone(II)Z
def c47_9 : List RI := (15, 3, .invokevirtual 70, [19, 2, 2, 0, 0, 0, 6, 1188]) :: (18, 1, .ireturn, []) :: []
def c47_8 : List RI := (14, 1, .iconst 1, []) :: c47_9
def c47_0 : List RI := (0, 1, .aload_n 0, []) :: (1, 1, .aload_n 0, []) :: (2, 1, .iload_n 1, []) :: (3, 1, .iload_n 2, []) :: (4, 3, .invokevirtual 66, [46, 3, 3, 0, 0, 0, 6, 1219]) :: (7, 3, .ifCond .eq 7, [8]) :: (10, 1, .iconst 0, []) :: (11, 3, .goto 4, [9]) :: c47_8
-- 48 Model_cell cell(II)I
def c48_0 : List RI := (0, 1, .iload_n 1, []) :: (1, 1, .aload_n 0, []) :: (2, 3, .getfield 7, [6, 0, 1107]) :: (5, 1, .iconst 1, []) :: (6, 1, .iaload, []) :: (7, 1, .imul, []) :: (8, 1, .iload_n 2, []) :: (9, 1, .iadd, []) :: (10, 1, .ireturn, []) :: []
-- 49 Model_has has(II)Z
def c49_10 : List RI := (14, 1, .ireturn, []) :: []
def c49_9 : List RI := (13, 1, .iconst 0, []) :: c49_10
def c49_0 : List RI := (0, 1, .iload_n 0, []) :: (1, 1, .iload_n 1, []) :: (2, 1, .ishr, []) :: (3, 1, .iconst 1, []) :: (4, 1, .iand, []) :: (5, 1, .iconst 1, []) :: (6, 3, .if_icmp .ne 7, [9]) :: (9, 1, .iconst 1, []) :: (10, 3, .goto 4, [10]) :: c49_9
-- 50 Model_setLight setLight(IIZ)Z
def c50_46 : List RI := (73, 2, .iload 5, []) :: (75, 1, .ireturn, []) :: []
def c50_7 : List RI := (11, 1, .aload_n 0, []) :: (12, 1, .iload_n 1, []) :: (13, 1, .iload_n 2, []) :: (14, 3, .invokevirtual 95, [48, 3, 3, 0, 0, 0, 6, 1223]) :: (17, 2, .istore 4, []) :: (19, 1, .aload_n 0, []) :: (20, 3, .getfield 7, [6, 0, 1107]) :: (23, 1, .iconst 5, []) :: (24, 1, .iaload, []) :: (25, 2, .iload 4, []) :: (27, 3, .invokestatic 99, [49, 2, 2, 0, 0, 1, 6, 1227]) :: (30, 2, .istore 5, []) :: (32, 1, .aload_n 0, []) :: (33, 1, .aload_n 0, []) :: (34, 3, .getfield 7, [6, 0, 1107]) :: (37, 3, .invokevirtual 85, [21, 2, 3, 0, 0, 0, 6, 1192]) :: (40, 2, .iload 5, []) :: (42, 1, .iload_n 3, []) :: (43, 3, .if_icmp .eq 30, [46]) :: (46, 1, .aload_n 0, []) :: (47, 3, .getfield 7, [6, 0, 1107]) :: (50, 1, .iconst 5, []) :: (51, 1, .dup2, []) :: (52, 1, .iaload, []) :: (53, 1, .iconst 1, []) :: (54, 2, .iload 4, []) :: (56, 1, .ishl, []) :: (57, 1, .ixor, []) :: (58, 1, .iastore, []) :: (59, 1, .aload_n 0, []) :: (60, 3, .getfield 7, [6, 0, 1107]) :: (63, 2, .bipush 6, []) :: (65, 1, .dup2, []) :: (66, 1, .iaload, []) :: (67, 1, .iconst 1, []) :: (68, 2, .iload 4, []) :: (70, 1, .ishl, []) :: (71, 1, .ixor, []) :: (72, 1, .iastore, []) :: c50_46
def c50_0 : List RI := (0, 1, .aload_n 0, []) :: (1, 1, .iload_n 1, []) :: (2, 1, .iload_n 2, []) :: (3, 3, .invokevirtual 92, [47, 3, 3, 0, 0, 0, 6, 1215]) :: (6, 3, .ifCond .eq 5, [7]) :: (9, 1, .iconst 0, []) :: (10, 1, .ireturn, []) :: c50_7
-- 51 Board_hasNumber hasNumber(I)Z
def c51_13 : List RI := (26, 1, .ireturn, []) :: []
def c51_12 : List RI := (25, 1, .iconst 0, []) :: c51_13
def c51_0 : List RI := (0, 1, .iload_n 1, []) :: (1, 3, .ifCond .lt 24, [12]) :: (4, 1, .iload_n 1, []) :: (5, 2, .bipush 30, []) :: (7, 3, .if_icmp .ge 18, [12]) :: (10, 1, .aload_n 0, []) :: (11, 3, .getfield 37, [0, 2, 134]) :: (14, 1, .iload_n 1, []) :: (15, 3, .invokestatic 40, [42, 2, 2, 0, 0, 1, 0, 442]) :: (18, 3, .ifCond .eq 7, [12]) :: (21, 1, .iconst 1, []) :: (22, 3, .goto 4, [13]) :: c51_12
-- 52 Board_reachedFrom reachedFrom(I)I
def c52_58 : List RI := (109, 1, .iload_n 2, []) :: (110, 1, .ireturn, []) :: []
def c52_47 : List RI := (94, 1, .aload_n 0, []) :: (95, 3, .getfield 37, [0, 2, 134]) :: (98, 1, .iload_n 2, []) :: (99, 1, .iload_n 3, []) :: (100, 1, .ior, []) :: (101, 2, .iload 4, []) :: (103, 1, .ior, []) :: (104, 2, .iload 5, []) :: (106, 1, .ior, []) :: (107, 1, .iand, []) :: (108, 1, .ireturn, []) :: c52_58
def c52_40 : List RI := (84, 1, .aload_n 0, []) :: (85, 3, .getfield 37, [0, 2, 134]) :: (88, 1, .iload_n 2, []) :: (89, 2, .iload 5, []) :: (91, 1, .ior, []) :: (92, 1, .iand, []) :: (93, 1, .ireturn, []) :: c52_47
def c52_31 : List RI := (72, 1, .aload_n 0, []) :: (73, 3, .getfield 37, [0, 2, 134]) :: (76, 1, .iload_n 2, []) :: (77, 1, .iload_n 3, []) :: (78, 1, .ior, []) :: (79, 2, .iload 4, []) :: (81, 1, .ior, []) :: (82, 1, .iand, []) :: (83, 1, .ireturn, []) :: c52_40
def c52_0 : List RI := (0, 1, .iconst 1, []) :: (1, 1, .iload_n 1, []) :: (2, 1, .ishl, []) :: (3, 1, .istore_n 2, []) :: (4, 1, .iload_n 2, []) :: (5, 1, .iconst 1, []) :: (6, 1, .ishl, []) :: (7, 1, .iload_n 2, []) :: (8, 1, .iconst 1, []) :: (9, 1, .iushr, []) :: (10, 1, .ior, []) :: (11, 1, .istore_n 3, []) :: (12, 1, .iload_n 2, []) :: (13, 2, .bipush 6, []) :: (15, 1, .ishl, []) :: (16, 1, .iload_n 2, []) :: (17, 2, .bipush 6, []) :: (19, 1, .iushr, []) :: (20, 1, .ior, []) :: (21, 2, .istore 4, []) :: (23, 1, .iload_n 3, []) :: (24, 2, .bipush 6, []) :: (26, 1, .ishl, []) :: (27, 1, .iload_n 3, []) :: (28, 2, .bipush 6, []) :: (30, 1, .iushr, []) :: (31, 1, .ior, []) :: (32, 2, .istore 5, []) :: (34, 1, .aload_n 0, []) :: (35, 3, .getfield 9, [0, 3, 135]) :: (38, 34, .lookupswitch 71 #[(43, 34), (111, 56), (120, 46)], [58, 43, 31, 111, 47, 120, 40]) :: c52_31
-- 53 Board_pressCell pressCell(I)V
def c53_20 : List RI := (32, 1, .return_, []) :: []
def c53_0 : List RI := (0, 1, .aload_n 0, []) :: (1, 1, .iload_n 1, []) :: (2, 3, .invokevirtual 65, [51, 2, 2, 0, 0, 0, 0, 438]) :: (5, 3, .ifCond .eq 27, [20]) :: (8, 1, .aload_n 0, []) :: (9, 1, .dup, []) :: (10, 3, .getfield 44, [0, 4, 138]) :: (13, 1, .aload_n 0, []) :: (14, 1, .iload_n 1, []) :: (15, 3, .invokevirtual 69, [52, 2, 6, 0, 0, 0, 0, 451]) :: (18, 1, .ixor, []) :: (19, 3, .putfield 44, [0, 4, 138, 0, 0]) :: (22, 1, .aload_n 0, []) :: (23, 3, .getfield 15, [0, 8, 144]) :: (26, 1, .iload_n 1, []) :: (27, 1, .dup2, []) :: (28, 1, .iaload, []) :: (29, 1, .iconst 1, []) :: (30, 1, .iadd, []) :: (31, 1, .iastore, []) :: c53_20
-- 54 Int_bitCount bitCount(I)I
def c54_0 : List RI := (0, 1, .iload_n 0, []) :: (1, 1, .iload_n 0, []) :: (2, 1, .iconst 1, []) :: (3, 1, .iushr, []) :: (4, 3, .ldc_w 265, [0, 1431655765, 280]) :: (7, 1, .iand, []) :: (8, 1, .isub, []) :: (9, 1, .istore_n 0, []) :: (10, 1, .iload_n 0, []) :: (11, 3, .ldc_w 266, [0, 858993459, 281]) :: (14, 1, .iand, []) :: (15, 1, .iload_n 0, []) :: (16, 1, .iconst 2, []) :: (17, 1, .iushr, []) :: (18, 3, .ldc_w 266, [0, 858993459, 281]) :: (21, 1, .iand, []) :: (22, 1, .iadd, []) :: (23, 1, .istore_n 0, []) :: (24, 1, .iload_n 0, []) :: (25, 1, .iload_n 0, []) :: (26, 1, .iconst 4, []) :: (27, 1, .iushr, []) :: (28, 1, .iadd, []) :: (29, 3, .ldc_w 267, [0, 252645135, 282]) :: (32, 1, .iand, []) :: (33, 1, .istore_n 0, []) :: (34, 1, .iload_n 0, []) :: (35, 1, .iload_n 0, []) :: (36, 2, .bipush 8, []) :: (38, 1, .iushr, []) :: (39, 1, .iadd, []) :: (40, 1, .istore_n 0, []) :: (41, 1, .iload_n 0, []) :: (42, 1, .iload_n 0, []) :: (43, 2, .bipush 16, []) :: (45, 1, .iushr, []) :: (46, 1, .iadd, []) :: (47, 1, .istore_n 0, []) :: (48, 1, .iload_n 0, []) :: (49, 2, .bipush 63, []) :: (51, 1, .iand, []) :: (52, 1, .ireturn, []) :: []
-- 55 Grid_press press(II)I
def c55_0 : List RI := (0, 1, .aload_n 0, []) :: (1, 1, .iload_n 1, []) :: (2, 1, .iload_n 2, []) :: (3, 3, .invokevirtual 95, [40, 3, 3, 1, 6, 0, 5, 662]) :: (6, 1, .aload_n 0, []) :: (7, 3, .getfield 25, [5, 4, 231]) :: (10, 1, .aload_n 0, []) :: (11, 3, .getfield 10, [5, 0, 227]) :: (14, 3, .invokevirtual 65, [14, 2, 2, 0, 0, 0, 2, 370]) :: (17, 1, .aload_n 0, []) :: (18, 3, .getfield 10, [5, 0, 227]) :: (21, 1, .iload_n 1, []) :: (22, 1, .iload_n 2, []) :: (23, 3, .invokestatic 98, [41, 2, 2, 0, 0, 1, 0, 686]) :: (26, 3, .invokevirtual 112, [53, 2, 2, 0, 0, 0, 0, 701]) :: (29, 1, .aload_n 0, []) :: (30, 3, .getfield 10, [5, 0, 227]) :: (33, 3, .getfield 102, [0, 4, 137]) :: (36, 3, .invokestatic 116, [54, 1, 1, 0, 0, 1, 0, 277]) :: (39, 1, .ireturn, []) :: []
-- 56 Law_press press(LGlowwormGrid;II[J)I
def c56_12 : List RI := (17, 1, .iconst 0, []) :: (18, 1, .ireturn, []) :: []
def c56_10 : List RI := (15, 1, .iconst 1, []) :: (16, 1, .ireturn, []) :: c56_12
def c56_0 : List RI := (0, 1, .aload_n 3, []) :: (1, 1, .iconst 0, []) :: (2, 1, .aload_n 0, []) :: (3, 1, .iload_n 1, []) :: (4, 1, .iload_n 2, []) :: (5, 3, .invokevirtual 25, [55, 3, 3, 1, 6, 0, 5, 697]) :: (8, 1, .i2l, []) :: (9, 1, .lastore, []) :: (10, 3, .goto 7, [12]) :: (13, 2, .astore 4, []) :: c56_10
-- 57 Model_reaches reaches(II)Z
def c57_43 : List RI := (71, 1, .ireturn, []) :: []
def c57_42 : List RI := (70, 1, .iconst 0, []) :: c57_43
def c57_40 : List RI := (66, 1, .iconst 1, []) :: (67, 3, .goto 4, [43]) :: c57_42
def c57_25 : List RI := (39, 1, .iload_n 3, []) :: (40, 1, .iconst 2, []) :: (41, 3, .if_icmp .ne 29, [42]) :: (44, 1, .aload_n 0, []) :: (45, 3, .getfield 7, [6, 0, 1107]) :: (48, 1, .iconst 2, []) :: (49, 1, .iaload, []) :: (50, 2, .bipush 120, []) :: (52, 3, .if_icmp .eq 14, [40]) :: (55, 1, .aload_n 0, []) :: (56, 3, .getfield 7, [6, 0, 1107]) :: (59, 1, .iconst 2, []) :: (60, 1, .iaload, []) :: (61, 2, .bipush 111, []) :: (63, 3, .if_icmp .ne 7, [42]) :: c57_40
def c57_0 : List RI := (0, 1, .iload_n 1, []) :: (1, 1, .iload_n 1, []) :: (2, 1, .imul, []) :: (3, 1, .iload_n 2, []) :: (4, 1, .iload_n 2, []) :: (5, 1, .imul, []) :: (6, 1, .iadd, []) :: (7, 1, .istore_n 3, []) :: (8, 1, .iload_n 3, []) :: (9, 3, .ifCond .eq 57, [40]) :: (12, 1, .iload_n 3, []) :: (13, 1, .iconst 1, []) :: (14, 3, .if_icmp .ne 25, [25]) :: (17, 1, .aload_n 0, []) :: (18, 3, .getfield 7, [6, 0, 1107]) :: (21, 1, .iconst 2, []) :: (22, 1, .iaload, []) :: (23, 2, .bipush 43, []) :: (25, 3, .if_icmp .eq 41, [40]) :: (28, 1, .aload_n 0, []) :: (29, 3, .getfield 7, [6, 0, 1107]) :: (32, 1, .iconst 2, []) :: (33, 1, .iaload, []) :: (34, 2, .bipush 111, []) :: (36, 3, .if_icmp .eq 30, [40]) :: c57_25
-- 58 Model_around around(I)I
def c58_49 : List RI := (76, 1, .iload_n 2, []) :: (77, 1, .ireturn, []) :: []
def c58_47 : List RI := (70, 3, .iinc 5 1, []) :: (73, 3, .goto (-49), [18]) :: c58_49
def c58_18 : List RI := (24, 2, .iload 5, []) :: (26, 1, .aload_n 0, []) :: (27, 3, .invokevirtual 74, [23, 1, 1, 0, 0, 0, 6, 1203]) :: (30, 3, .if_icmp .ge 46, [49]) :: (33, 1, .aload_n 0, []) :: (34, 2, .iload 5, []) :: (36, 1, .aload_n 0, []) :: (37, 3, .getfield 7, [6, 0, 1107]) :: (40, 1, .iconst 1, []) :: (41, 1, .iaload, []) :: (42, 1, .idiv, []) :: (43, 1, .iload_n 3, []) :: (44, 1, .isub, []) :: (45, 2, .iload 5, []) :: (47, 1, .aload_n 0, []) :: (48, 3, .getfield 7, [6, 0, 1107]) :: (51, 1, .iconst 1, []) :: (52, 1, .iaload, []) :: (53, 1, .irem, []) :: (54, 2, .iload 4, []) :: (56, 1, .isub, []) :: (57, 3, .invokevirtual 78, [57, 3, 4, 0, 0, 0, 6, 1242]) :: (60, 3, .ifCond .eq 10, [47]) :: (63, 1, .iload_n 2, []) :: (64, 1, .iconst 1, []) :: (65, 2, .iload 5, []) :: (67, 1, .ishl, []) :: (68, 1, .ior, []) :: (69, 1, .istore_n 2, []) :: c58_47
def c58_0 : List RI := (0, 1, .iconst 0, []) :: (1, 1, .istore_n 2, []) :: (2, 1, .iload_n 1, []) :: (3, 1, .aload_n 0, []) :: (4, 3, .getfield 7, [6, 0, 1107]) :: (7, 1, .iconst 1, []) :: (8, 1, .iaload, []) :: (9, 1, .idiv, []) :: (10, 1, .istore_n 3, []) :: (11, 1, .iload_n 1, []) :: (12, 1, .aload_n 0, []) :: (13, 3, .getfield 7, [6, 0, 1107]) :: (16, 1, .iconst 1, []) :: (17, 1, .iaload, []) :: (18, 1, .irem, []) :: (19, 2, .istore 4, []) :: (21, 1, .iconst 0, []) :: (22, 2, .istore 5, []) :: c58_18
-- 59 Model_pushes pushes(I)V
def c59_0 : List RI := (0, 1, .aload_n 0, []) :: (1, 3, .getfield 7, [6, 0, 1107]) :: (4, 1, .iconst 5, []) :: (5, 1, .dup2, []) :: (6, 1, .iaload, []) :: (7, 1, .aload_n 0, []) :: (8, 1, .iload_n 1, []) :: (9, 3, .invokevirtual 81, [58, 2, 6, 0, 0, 0, 6, 1238]) :: (12, 1, .ixor, []) :: (13, 1, .iastore, []) :: (14, 1, .aload_n 0, []) :: (15, 3, .getfield 7, [6, 0, 1107]) :: (18, 2, .bipush 8, []) :: (20, 1, .iload_n 1, []) :: (21, 1, .iadd, []) :: (22, 1, .dup2, []) :: (23, 1, .iaload, []) :: (24, 1, .iconst 1, []) :: (25, 1, .iadd, []) :: (26, 1, .iastore, []) :: (27, 1, .return_, []) :: []
-- 60 Model_bits bits(I)I
def c60_17 : List RI := (24, 1, .iload_n 1, []) :: (25, 1, .ireturn, []) :: []
def c60_4 : List RI := (4, 1, .iload_n 2, []) :: (5, 2, .bipush 25, []) :: (7, 3, .if_icmp .ge 17, [17]) :: (10, 1, .iload_n 1, []) :: (11, 1, .iload_n 0, []) :: (12, 1, .iload_n 2, []) :: (13, 1, .ishr, []) :: (14, 1, .iconst 1, []) :: (15, 1, .iand, []) :: (16, 1, .iadd, []) :: (17, 1, .istore_n 1, []) :: (18, 3, .iinc 2 1, []) :: (21, 3, .goto (-17), [4]) :: c60_17
def c60_0 : List RI := (0, 1, .iconst 0, []) :: (1, 1, .istore_n 1, []) :: (2, 1, .iconst 0, []) :: (3, 1, .istore_n 2, []) :: c60_4
-- 61 Model_press press(II)I
def c61_7 : List RI := (11, 1, .aload_n 0, []) :: (12, 1, .aload_n 0, []) :: (13, 3, .getfield 7, [6, 0, 1107]) :: (16, 3, .invokevirtual 85, [21, 2, 3, 0, 0, 0, 6, 1192]) :: (19, 1, .aload_n 0, []) :: (20, 1, .aload_n 0, []) :: (21, 1, .iload_n 1, []) :: (22, 1, .iload_n 2, []) :: (23, 3, .invokevirtual 95, [48, 3, 3, 0, 0, 0, 6, 1223]) :: (26, 3, .invokevirtual 102, [59, 2, 2, 0, 0, 0, 6, 1234]) :: (29, 1, .aload_n 0, []) :: (30, 3, .getfield 7, [6, 0, 1107]) :: (33, 1, .iconst 5, []) :: (34, 1, .iaload, []) :: (35, 3, .invokestatic 106, [60, 1, 3, 0, 0, 1, 6, 1246]) :: (38, 1, .ireturn, []) :: []
def c61_0 : List RI := (0, 1, .aload_n 0, []) :: (1, 1, .iload_n 1, []) :: (2, 1, .iload_n 2, []) :: (3, 3, .invokevirtual 92, [47, 3, 3, 0, 0, 0, 6, 1215]) :: (6, 3, .ifCond .eq 5, [7]) :: (9, 1, .iconst 0, []) :: (10, 1, .ireturn, []) :: c61_7
-- 62 Grid_rowCount rowCount()I
def c62_0 : List RI := (0, 1, .aload_n 0, []) :: (1, 3, .getfield 10, [5, 0, 227]) :: (4, 3, .getfield 121, [0, 0, 130]) :: (7, 1, .ireturn, []) :: []
-- 63 Model_rowCount rowCount()I
def c63_0 : List RI := (0, 1, .aload_n 0, []) :: (1, 1, .iconst 0, []) :: (2, 3, .putfield 48, [6, 7, 1114, 0, 0]) :: (5, 1, .aload_n 0, []) :: (6, 3, .getfield 7, [6, 0, 1107]) :: (9, 1, .iconst 0, []) :: (10, 1, .iaload, []) :: (11, 1, .ireturn, []) :: []
-- 64 Grid_columnCount columnCount()I
def c64_0 : List RI := (0, 1, .aload_n 0, []) :: (1, 3, .getfield 10, [5, 0, 227]) :: (4, 3, .getfield 124, [0, 1, 132]) :: (7, 1, .ireturn, []) :: []
-- 65 Model_columnCount columnCount()I
def c65_0 : List RI := (0, 1, .aload_n 0, []) :: (1, 1, .iconst 0, []) :: (2, 3, .putfield 48, [6, 7, 1114, 0, 0]) :: (5, 1, .aload_n 0, []) :: (6, 3, .getfield 7, [6, 0, 1107]) :: (9, 1, .iconst 1, []) :: (10, 1, .iaload, []) :: (11, 1, .ireturn, []) :: []
-- 66 Grid_pattern pattern()C
def c66_0 : List RI := (0, 1, .aload_n 0, []) :: (1, 3, .getfield 10, [5, 0, 227]) :: (4, 3, .getfield 87, [0, 3, 136]) :: (7, 1, .ireturn, []) :: []
-- 67 Model_pattern pattern()C
def c67_0 : List RI := (0, 1, .aload_n 0, []) :: (1, 1, .iconst 0, []) :: (2, 3, .putfield 48, [6, 7, 1114, 0, 0]) :: (5, 1, .aload_n 0, []) :: (6, 3, .getfield 7, [6, 0, 1107]) :: (9, 1, .iconst 2, []) :: (10, 1, .iaload, []) :: (11, 1, .i2c, []) :: (12, 1, .ireturn, []) :: []
-- 68 Grid_isLit isLit(II)Z
def c68_0 : List RI := (0, 1, .aload_n 0, []) :: (1, 1, .iload_n 1, []) :: (2, 1, .iload_n 2, []) :: (3, 3, .invokevirtual 95, [40, 3, 3, 1, 6, 0, 5, 662]) :: (6, 1, .aload_n 0, []) :: (7, 3, .getfield 10, [5, 0, 227]) :: (10, 3, .getfield 102, [0, 4, 137]) :: (13, 1, .iload_n 1, []) :: (14, 1, .iload_n 2, []) :: (15, 3, .invokestatic 98, [41, 2, 2, 0, 0, 1, 0, 686]) :: (18, 3, .invokestatic 105, [42, 2, 2, 0, 0, 1, 0, 689]) :: (21, 1, .ireturn, []) :: []
-- 69 Law_isLit isLit(LGlowwormGrid;II[J)I
def c69_15 : List RI := (24, 1, .iconst 0, []) :: (25, 1, .ireturn, []) :: []
def c69_13 : List RI := (22, 1, .iconst 1, []) :: (23, 1, .ireturn, []) :: c69_15
def c69_10 : List RI := (16, 1, .lastore, []) :: (17, 3, .goto 7, [15]) :: (20, 2, .astore 4, []) :: c69_13
def c69_9 : List RI := (15, 1, .lconst 0, []) :: c69_10
def c69_0 : List RI := (0, 1, .aload_n 3, []) :: (1, 1, .iconst 0, []) :: (2, 1, .aload_n 0, []) :: (3, 1, .iload_n 1, []) :: (4, 1, .iload_n 2, []) :: (5, 3, .invokevirtual 28, [68, 3, 3, 1, 6, 0, 5, 705]) :: (8, 3, .ifCond .eq 7, [9]) :: (11, 1, .lconst 1, []) :: (12, 3, .goto 4, [10]) :: c69_9
-- 70 Model_isLit isLit(II)Z
def c70_18 : List RI := (32, 1, .ireturn, []) :: []
def c70_17 : List RI := (31, 1, .iconst 0, []) :: c70_18
def c70_0 : List RI := (0, 1, .aload_n 0, []) :: (1, 1, .iload_n 1, []) :: (2, 1, .iload_n 2, []) :: (3, 3, .invokevirtual 92, [47, 3, 3, 0, 0, 0, 6, 1215]) :: (6, 3, .ifCond .ne 25, [17]) :: (9, 1, .aload_n 0, []) :: (10, 3, .getfield 7, [6, 0, 1107]) :: (13, 1, .iconst 5, []) :: (14, 1, .iaload, []) :: (15, 1, .aload_n 0, []) :: (16, 1, .iload_n 1, []) :: (17, 1, .iload_n 2, []) :: (18, 3, .invokevirtual 95, [48, 3, 3, 0, 0, 0, 6, 1223]) :: (21, 3, .invokestatic 99, [49, 2, 2, 0, 0, 1, 6, 1227]) :: (24, 3, .ifCond .eq 7, [17]) :: (27, 1, .iconst 1, []) :: (28, 3, .goto 4, [18]) :: c70_17
-- 71 Board_litByRecord litByRecord()I
def c71_23 : List RI := (38, 1, .iload_n 1, []) :: (39, 1, .ireturn, []) :: []
def c71_21 : List RI := (32, 3, .iinc 2 1, []) :: (35, 3, .goto (-28), [5]) :: c71_23
def c71_5 : List RI := (7, 1, .iload_n 2, []) :: (8, 2, .bipush 30, []) :: (10, 3, .if_icmp .ge 28, [23]) :: (13, 1, .aload_n 0, []) :: (14, 3, .getfield 15, [0, 8, 144]) :: (17, 1, .iload_n 2, []) :: (18, 1, .iaload, []) :: (19, 1, .iconst 2, []) :: (20, 1, .irem, []) :: (21, 3, .ifCond .eq 11, [21]) :: (24, 1, .iload_n 1, []) :: (25, 1, .aload_n 0, []) :: (26, 1, .iload_n 2, []) :: (27, 3, .invokevirtual 69, [52, 2, 6, 0, 0, 0, 0, 451]) :: (30, 1, .ixor, []) :: (31, 1, .istore_n 1, []) :: c71_21
def c71_0 : List RI := (0, 1, .aload_n 0, []) :: (1, 3, .getfield 56, [0, 5, 139]) :: (4, 1, .istore_n 1, []) :: (5, 1, .iconst 0, []) :: (6, 1, .istore_n 2, []) :: c71_5
-- 72 Grid_isLitByPresses isLitByPresses(II)Z
def c72_0 : List RI := (0, 1, .aload_n 0, []) :: (1, 1, .iload_n 1, []) :: (2, 1, .iload_n 2, []) :: (3, 3, .invokevirtual 95, [40, 3, 3, 1, 6, 0, 5, 662]) :: (6, 1, .aload_n 0, []) :: (7, 3, .getfield 10, [5, 0, 227]) :: (10, 3, .invokevirtual 127, [71, 1, 3, 0, 0, 0, 0, 489]) :: (13, 1, .iload_n 1, []) :: (14, 1, .iload_n 2, []) :: (15, 3, .invokestatic 98, [41, 2, 2, 0, 0, 1, 0, 686]) :: (18, 3, .invokestatic 105, [42, 2, 2, 0, 0, 1, 0, 689]) :: (21, 1, .ireturn, []) :: []
-- 73 Law_isLitByPresses isLitByPresses(LGlowwormGrid;II[J)I
def c73_15 : List RI := (24, 1, .iconst 0, []) :: (25, 1, .ireturn, []) :: []
def c73_13 : List RI := (22, 1, .iconst 1, []) :: (23, 1, .ireturn, []) :: c73_15
def c73_10 : List RI := (16, 1, .lastore, []) :: (17, 3, .goto 7, [15]) :: (20, 2, .astore 4, []) :: c73_13
def c73_9 : List RI := (15, 1, .lconst 0, []) :: c73_10
def c73_0 : List RI := (0, 1, .aload_n 3, []) :: (1, 1, .iconst 0, []) :: (2, 1, .aload_n 0, []) :: (3, 1, .iload_n 1, []) :: (4, 1, .iload_n 2, []) :: (5, 3, .invokevirtual 32, [72, 3, 3, 1, 6, 0, 5, 712]) :: (8, 3, .ifCond .eq 7, [9]) :: (11, 1, .lconst 1, []) :: (12, 3, .goto 4, [10]) :: c73_9
-- 74 Model_isLitByPresses isLitByPresses(II)Z
def c74_36 : List RI := (62, 1, .iload_n 3, []) :: (63, 1, .aload_n 0, []) :: (64, 1, .iload_n 1, []) :: (65, 1, .iload_n 2, []) :: (66, 3, .invokevirtual 95, [48, 3, 3, 0, 0, 0, 6, 1223]) :: (69, 3, .invokestatic 99, [49, 2, 2, 0, 0, 1, 6, 1227]) :: (72, 1, .ireturn, []) :: []
def c74_34 : List RI := (56, 3, .iinc 4 1, []) :: (59, 3, .goto (-37), [14]) :: c74_36
def c74_14 : List RI := (22, 2, .iload 4, []) :: (24, 1, .aload_n 0, []) :: (25, 3, .invokevirtual 74, [23, 1, 1, 0, 0, 0, 6, 1203]) :: (28, 3, .if_icmp .ge 34, [36]) :: (31, 1, .aload_n 0, []) :: (32, 3, .getfield 7, [6, 0, 1107]) :: (35, 2, .bipush 8, []) :: (37, 2, .iload 4, []) :: (39, 1, .iadd, []) :: (40, 1, .iaload, []) :: (41, 1, .iconst 2, []) :: (42, 1, .irem, []) :: (43, 1, .iconst 1, []) :: (44, 3, .if_icmp .ne 12, [34]) :: (47, 1, .iload_n 3, []) :: (48, 1, .aload_n 0, []) :: (49, 2, .iload 4, []) :: (51, 3, .invokevirtual 81, [58, 2, 6, 0, 0, 0, 6, 1238]) :: (54, 1, .ixor, []) :: (55, 1, .istore_n 3, []) :: c74_34
def c74_7 : List RI := (11, 1, .aload_n 0, []) :: (12, 3, .getfield 7, [6, 0, 1107]) :: (15, 2, .bipush 6, []) :: (17, 1, .iaload, []) :: (18, 1, .istore_n 3, []) :: (19, 1, .iconst 0, []) :: (20, 2, .istore 4, []) :: c74_14
def c74_0 : List RI := (0, 1, .aload_n 0, []) :: (1, 1, .iload_n 1, []) :: (2, 1, .iload_n 2, []) :: (3, 3, .invokevirtual 92, [47, 3, 3, 0, 0, 0, 6, 1215]) :: (6, 3, .ifCond .eq 5, [7]) :: (9, 1, .iconst 0, []) :: (10, 1, .ireturn, []) :: c74_7
-- 75 Grid_litCount litCount()I
def c75_0 : List RI := (0, 1, .aload_n 0, []) :: (1, 3, .getfield 10, [5, 0, 227]) :: (4, 3, .getfield 102, [0, 4, 137]) :: (7, 3, .invokestatic 116, [54, 1, 1, 0, 0, 1, 0, 277]) :: (10, 1, .ireturn, []) :: []
-- 76 Model_litCount litCount()I
def c76_0 : List RI := (0, 1, .aload_n 0, []) :: (1, 1, .iconst 0, []) :: (2, 3, .putfield 48, [6, 7, 1114, 0, 0]) :: (5, 1, .aload_n 0, []) :: (6, 3, .getfield 7, [6, 0, 1107]) :: (9, 1, .iconst 5, []) :: (10, 1, .iaload, []) :: (11, 3, .invokestatic 106, [60, 1, 3, 0, 0, 1, 6, 1246]) :: (14, 1, .ireturn, []) :: []
-- 77 Grid_requireRow requireRow(I)V
def c77_8 : List RI := (26, 1, .return_, []) :: []
def c77_7 : List RI := (15, 11, .athrow, [1, 133, 297, 137, 1, 670, 76]) :: c77_8
def c77_0 : List RI := (0, 1, .iload_n 1, []) :: (1, 3, .ifCond .lt 14, [7]) :: (4, 1, .iload_n 1, []) :: (5, 1, .aload_n 0, []) :: (6, 3, .getfield 10, [5, 0, 227]) :: (9, 3, .getfield 121, [0, 0, 130]) :: (12, 3, .if_icmp .lt 14, [8]) :: c77_7
-- 78 Grid_litInRow litInRow(I)I
def c78_0 : List RI := (0, 1, .aload_n 0, []) :: (1, 1, .iload_n 1, []) :: (2, 3, .invokevirtual 130, [77, 2, 2, 1, 6, 0, 5, 723]) :: (5, 2, .bipush 31, []) :: (7, 1, .istore_n 2, []) :: (8, 1, .aload_n 0, []) :: (9, 3, .getfield 10, [5, 0, 227]) :: (12, 3, .getfield 102, [0, 4, 137]) :: (15, 1, .iload_n 2, []) :: (16, 1, .iload_n 1, []) :: (17, 2, .bipush 6, []) :: (19, 1, .imul, []) :: (20, 1, .ishl, []) :: (21, 1, .iand, []) :: (22, 3, .invokestatic 116, [54, 1, 1, 0, 0, 1, 0, 277]) :: (25, 1, .ireturn, []) :: []
-- 79 Law_litInRow litInRow(LGlowwormGrid;I[J)I
def c79_11 : List RI := (15, 1, .iconst 0, []) :: (16, 1, .ireturn, []) :: []
def c79_9 : List RI := (13, 1, .iconst 1, []) :: (14, 1, .ireturn, []) :: c79_11
def c79_0 : List RI := (0, 1, .aload_n 2, []) :: (1, 1, .iconst 0, []) :: (2, 1, .aload_n 0, []) :: (3, 1, .iload_n 1, []) :: (4, 3, .invokevirtual 35, [78, 2, 3, 1, 6, 0, 5, 719]) :: (7, 1, .i2l, []) :: (8, 1, .lastore, []) :: (9, 3, .goto 6, [11]) :: (12, 1, .astore_n 3, []) :: c79_9
-- 80 Model_litInRow litInRow(I)I
def c80_44 : List RI := (68, 1, .iload_n 2, []) :: (69, 1, .ireturn, []) :: []
def c80_22 : List RI := (34, 1, .iload_n 3, []) :: (35, 1, .aload_n 0, []) :: (36, 3, .getfield 7, [6, 0, 1107]) :: (39, 1, .iconst 1, []) :: (40, 1, .iaload, []) :: (41, 3, .if_icmp .ge 27, [44]) :: (44, 1, .iload_n 2, []) :: (45, 1, .aload_n 0, []) :: (46, 3, .getfield 7, [6, 0, 1107]) :: (49, 1, .iconst 5, []) :: (50, 1, .iaload, []) :: (51, 1, .aload_n 0, []) :: (52, 1, .iload_n 1, []) :: (53, 1, .iload_n 3, []) :: (54, 3, .invokevirtual 95, [48, 3, 3, 0, 0, 0, 6, 1223]) :: (57, 1, .ishr, []) :: (58, 1, .iconst 1, []) :: (59, 1, .iand, []) :: (60, 1, .iadd, []) :: (61, 1, .istore_n 2, []) :: (62, 3, .iinc 3 1, []) :: (65, 3, .goto (-31), [22]) :: c80_44
def c80_18 : List RI := (30, 1, .iconst 0, []) :: (31, 1, .istore_n 2, []) :: (32, 1, .iconst 0, []) :: (33, 1, .istore_n 3, []) :: c80_22
def c80_14 : List RI := (22, 3, .invokevirtual 70, [19, 2, 2, 0, 0, 0, 6, 1188]) :: (25, 3, .ifCond .eq 5, [18]) :: (28, 1, .iconst 0, []) :: (29, 1, .ireturn, []) :: c80_18
def c80_13 : List RI := (21, 1, .iconst 1, []) :: c80_14
def c80_0 : List RI := (0, 1, .aload_n 0, []) :: (1, 1, .iload_n 1, []) :: (2, 1, .iconst 0, []) :: (3, 1, .aload_n 0, []) :: (4, 3, .getfield 7, [6, 0, 1107]) :: (7, 1, .iconst 0, []) :: (8, 1, .iaload, []) :: (9, 1, .iconst 1, []) :: (10, 1, .isub, []) :: (11, 3, .invokestatic 62, [18, 3, 3, 0, 0, 1, 6, 1185]) :: (14, 3, .ifCond .eq 7, [13]) :: (17, 1, .iconst 0, []) :: (18, 3, .goto 4, [14]) :: c80_13
-- 81 Grid_litInColumn litInColumn(I)I
def c81_8 : List RI := (25, 1, .aload_n 0, []) :: (26, 3, .getfield 10, [5, 0, 227]) :: (29, 3, .getfield 102, [0, 4, 137]) :: (32, 2, .ldc 138, [0, 17043521, 736]) :: (34, 1, .iload_n 1, []) :: (35, 1, .ishl, []) :: (36, 1, .iand, []) :: (37, 3, .invokestatic 116, [54, 1, 1, 0, 0, 1, 0, 277]) :: (40, 1, .ireturn, []) :: []
def c81_7 : List RI := (15, 10, .athrow, [1, 133, 135, 137, 0, 670, 76]) :: c81_8
def c81_0 : List RI := (0, 1, .iload_n 1, []) :: (1, 3, .ifCond .lt 14, [7]) :: (4, 1, .iload_n 1, []) :: (5, 1, .aload_n 0, []) :: (6, 3, .getfield 10, [5, 0, 227]) :: (9, 3, .getfield 124, [0, 1, 132]) :: (12, 3, .if_icmp .lt 13, [8]) :: c81_7
-- 82 Law_litInColumn litInColumn(LGlowwormGrid;I[J)I
def c82_11 : List RI := (15, 1, .iconst 0, []) :: (16, 1, .ireturn, []) :: []
def c82_9 : List RI := (13, 1, .iconst 1, []) :: (14, 1, .ireturn, []) :: c82_11
def c82_0 : List RI := (0, 1, .aload_n 2, []) :: (1, 1, .iconst 0, []) :: (2, 1, .aload_n 0, []) :: (3, 1, .iload_n 1, []) :: (4, 3, .invokevirtual 39, [81, 2, 2, 1, 6, 0, 5, 731]) :: (7, 1, .i2l, []) :: (8, 1, .lastore, []) :: (9, 3, .goto 6, [11]) :: (12, 1, .astore_n 3, []) :: c82_9
-- 83 Model_litInColumn litInColumn(I)I
def c83_44 : List RI := (68, 1, .iload_n 2, []) :: (69, 1, .ireturn, []) :: []
def c83_22 : List RI := (34, 1, .iload_n 3, []) :: (35, 1, .aload_n 0, []) :: (36, 3, .getfield 7, [6, 0, 1107]) :: (39, 1, .iconst 0, []) :: (40, 1, .iaload, []) :: (41, 3, .if_icmp .ge 27, [44]) :: (44, 1, .iload_n 2, []) :: (45, 1, .aload_n 0, []) :: (46, 3, .getfield 7, [6, 0, 1107]) :: (49, 1, .iconst 5, []) :: (50, 1, .iaload, []) :: (51, 1, .aload_n 0, []) :: (52, 1, .iload_n 3, []) :: (53, 1, .iload_n 1, []) :: (54, 3, .invokevirtual 95, [48, 3, 3, 0, 0, 0, 6, 1223]) :: (57, 1, .ishr, []) :: (58, 1, .iconst 1, []) :: (59, 1, .iand, []) :: (60, 1, .iadd, []) :: (61, 1, .istore_n 2, []) :: (62, 3, .iinc 3 1, []) :: (65, 3, .goto (-31), [22]) :: c83_44
def c83_18 : List RI := (30, 1, .iconst 0, []) :: (31, 1, .istore_n 2, []) :: (32, 1, .iconst 0, []) :: (33, 1, .istore_n 3, []) :: c83_22
def c83_14 : List RI := (22, 3, .invokevirtual 70, [19, 2, 2, 0, 0, 0, 6, 1188]) :: (25, 3, .ifCond .eq 5, [18]) :: (28, 1, .iconst 0, []) :: (29, 1, .ireturn, []) :: c83_18
def c83_13 : List RI := (21, 1, .iconst 1, []) :: c83_14
def c83_0 : List RI := (0, 1, .aload_n 0, []) :: (1, 1, .iload_n 1, []) :: (2, 1, .iconst 0, []) :: (3, 1, .aload_n 0, []) :: (4, 3, .getfield 7, [6, 0, 1107]) :: (7, 1, .iconst 1, []) :: (8, 1, .iaload, []) :: (9, 1, .iconst 1, []) :: (10, 1, .isub, []) :: (11, 3, .invokestatic 62, [18, 3, 3, 0, 0, 1, 6, 1185]) :: (14, 3, .ifCond .eq 7, [13]) :: (17, 1, .iconst 0, []) :: (18, 3, .goto 4, [14]) :: c83_13
-- 84 Grid_pressesOf pressesOf(II)I
def c84_0 : List RI := (0, 1, .aload_n 0, []) :: (1, 1, .iload_n 1, []) :: (2, 1, .iload_n 2, []) :: (3, 3, .invokevirtual 95, [40, 3, 3, 1, 6, 0, 5, 662]) :: (6, 1, .aload_n 0, []) :: (7, 3, .getfield 10, [5, 0, 227]) :: (10, 3, .getfield 139, [0, 8, 145]) :: (13, 1, .iload_n 1, []) :: (14, 1, .iload_n 2, []) :: (15, 3, .invokestatic 98, [41, 2, 2, 0, 0, 1, 0, 686]) :: (18, 1, .iaload, []) :: (19, 1, .ireturn, []) :: []
-- 85 Law_pressesOf pressesOf(LGlowwormGrid;II[J)I
def c85_12 : List RI := (17, 1, .iconst 0, []) :: (18, 1, .ireturn, []) :: []
def c85_10 : List RI := (15, 1, .iconst 1, []) :: (16, 1, .ireturn, []) :: c85_12
def c85_0 : List RI := (0, 1, .aload_n 3, []) :: (1, 1, .iconst 0, []) :: (2, 1, .aload_n 0, []) :: (3, 1, .iload_n 1, []) :: (4, 1, .iload_n 2, []) :: (5, 3, .invokevirtual 42, [84, 3, 3, 1, 6, 0, 5, 740]) :: (8, 1, .i2l, []) :: (9, 1, .lastore, []) :: (10, 3, .goto 7, [12]) :: (13, 2, .astore 4, []) :: c85_10
-- 86 Model_pressesOf pressesOf(II)I
def c86_16 : List RI := (27, 1, .ireturn, []) :: []
def c86_7 : List RI := (13, 1, .aload_n 0, []) :: (14, 3, .getfield 7, [6, 0, 1107]) :: (17, 2, .bipush 8, []) :: (19, 1, .aload_n 0, []) :: (20, 1, .iload_n 1, []) :: (21, 1, .iload_n 2, []) :: (22, 3, .invokevirtual 95, [48, 3, 3, 0, 0, 0, 6, 1223]) :: (25, 1, .iadd, []) :: (26, 1, .iaload, []) :: c86_16
def c86_0 : List RI := (0, 1, .aload_n 0, []) :: (1, 1, .iload_n 1, []) :: (2, 1, .iload_n 2, []) :: (3, 3, .invokevirtual 92, [47, 3, 3, 0, 0, 0, 6, 1215]) :: (6, 3, .ifCond .eq 7, [7]) :: (9, 1, .iconst 0, []) :: (10, 3, .goto 17, [16]) :: c86_7
-- 87 Grid_reachOf reachOf(II)I
def c87_0 : List RI := (0, 1, .aload_n 0, []) :: (1, 1, .iload_n 1, []) :: (2, 1, .iload_n 2, []) :: (3, 3, .invokevirtual 95, [40, 3, 3, 1, 6, 0, 5, 662]) :: (6, 1, .aload_n 0, []) :: (7, 3, .getfield 10, [5, 0, 227]) :: (10, 1, .iload_n 1, []) :: (11, 1, .iload_n 2, []) :: (12, 3, .invokestatic 98, [41, 2, 2, 0, 0, 1, 0, 686]) :: (15, 3, .invokevirtual 143, [52, 2, 6, 0, 0, 0, 0, 751]) :: (18, 3, .invokestatic 116, [54, 1, 1, 0, 0, 1, 0, 277]) :: (21, 1, .ireturn, []) :: []
-- 88 Law_reachOf reachOf(LGlowwormGrid;II[J)I
def c88_12 : List RI := (17, 1, .iconst 0, []) :: (18, 1, .ireturn, []) :: []
def c88_10 : List RI := (15, 1, .iconst 1, []) :: (16, 1, .ireturn, []) :: c88_12
def c88_0 : List RI := (0, 1, .aload_n 3, []) :: (1, 1, .iconst 0, []) :: (2, 1, .aload_n 0, []) :: (3, 1, .iload_n 1, []) :: (4, 1, .iload_n 2, []) :: (5, 3, .invokevirtual 45, [87, 3, 3, 1, 6, 0, 5, 747]) :: (8, 1, .i2l, []) :: (9, 1, .lastore, []) :: (10, 3, .goto 7, [12]) :: (13, 2, .astore 4, []) :: c88_10
-- 89 Model_reachOf reachOf(II)I
def c89_14 : List RI := (26, 1, .ireturn, []) :: []
def c89_7 : List RI := (13, 1, .aload_n 0, []) :: (14, 1, .aload_n 0, []) :: (15, 1, .iload_n 1, []) :: (16, 1, .iload_n 2, []) :: (17, 3, .invokevirtual 95, [48, 3, 3, 0, 0, 0, 6, 1223]) :: (20, 3, .invokevirtual 81, [58, 2, 6, 0, 0, 0, 6, 1238]) :: (23, 3, .invokestatic 106, [60, 1, 3, 0, 0, 1, 6, 1246]) :: c89_14
def c89_0 : List RI := (0, 1, .aload_n 0, []) :: (1, 1, .iload_n 1, []) :: (2, 1, .iload_n 2, []) :: (3, 3, .invokevirtual 92, [47, 3, 3, 0, 0, 0, 6, 1215]) :: (6, 3, .ifCond .eq 7, [7]) :: (9, 1, .iconst 0, []) :: (10, 3, .goto 16, [14]) :: c89_7
-- 90 Grid_toggleGoal toggleGoal(II)Z
def c90_0 : List RI := (0, 1, .aload_n 0, []) :: (1, 1, .iload_n 1, []) :: (2, 1, .iload_n 2, []) :: (3, 3, .invokevirtual 95, [40, 3, 3, 1, 6, 0, 5, 662]) :: (6, 1, .aload_n 0, []) :: (7, 3, .getfield 25, [5, 4, 231]) :: (10, 1, .aload_n 0, []) :: (11, 3, .getfield 10, [5, 0, 227]) :: (14, 3, .invokevirtual 65, [14, 2, 2, 0, 0, 0, 2, 370]) :: (17, 1, .iload_n 1, []) :: (18, 1, .iload_n 2, []) :: (19, 3, .invokestatic 98, [41, 2, 2, 0, 0, 1, 0, 686]) :: (22, 1, .istore_n 3, []) :: (23, 1, .aload_n 0, []) :: (24, 3, .getfield 10, [5, 0, 227]) :: (27, 1, .dup, []) :: (28, 3, .getfield 146, [0, 6, 141]) :: (31, 1, .iconst 1, []) :: (32, 1, .iload_n 3, []) :: (33, 1, .ishl, []) :: (34, 1, .ixor, []) :: (35, 3, .putfield 146, [0, 6, 141, 0, 0]) :: (38, 1, .aload_n 0, []) :: (39, 3, .getfield 10, [5, 0, 227]) :: (42, 3, .getfield 146, [0, 6, 141]) :: (45, 1, .iload_n 3, []) :: (46, 3, .invokestatic 105, [42, 2, 2, 0, 0, 1, 0, 689]) :: (49, 1, .ireturn, []) :: []
-- 91 Law_toggleGoal toggleGoal(LGlowwormGrid;II[J)I
def c91_15 : List RI := (24, 1, .iconst 0, []) :: (25, 1, .ireturn, []) :: []
def c91_13 : List RI := (22, 1, .iconst 1, []) :: (23, 1, .ireturn, []) :: c91_15
def c91_10 : List RI := (16, 1, .lastore, []) :: (17, 3, .goto 7, [15]) :: (20, 2, .astore 4, []) :: c91_13
def c91_9 : List RI := (15, 1, .lconst 0, []) :: c91_10
def c91_0 : List RI := (0, 1, .aload_n 3, []) :: (1, 1, .iconst 0, []) :: (2, 1, .aload_n 0, []) :: (3, 1, .iload_n 1, []) :: (4, 1, .iload_n 2, []) :: (5, 3, .invokevirtual 48, [90, 3, 4, 1, 6, 0, 5, 755]) :: (8, 3, .ifCond .eq 7, [9]) :: (11, 1, .lconst 1, []) :: (12, 3, .goto 4, [10]) :: c91_9
-- 92 Model_toggleGoal toggleGoal(II)Z
def c92_7 : List RI := (11, 1, .aload_n 0, []) :: (12, 1, .aload_n 0, []) :: (13, 3, .getfield 7, [6, 0, 1107]) :: (16, 3, .invokevirtual 85, [21, 2, 3, 0, 0, 0, 6, 1192]) :: (19, 1, .aload_n 0, []) :: (20, 3, .getfield 7, [6, 0, 1107]) :: (23, 2, .bipush 7, []) :: (25, 1, .dup2, []) :: (26, 1, .iaload, []) :: (27, 1, .iconst 1, []) :: (28, 1, .aload_n 0, []) :: (29, 1, .iload_n 1, []) :: (30, 1, .iload_n 2, []) :: (31, 3, .invokevirtual 95, [48, 3, 3, 0, 0, 0, 6, 1223]) :: (34, 1, .ishl, []) :: (35, 1, .ixor, []) :: (36, 1, .iastore, []) :: (37, 1, .aload_n 0, []) :: (38, 3, .getfield 7, [6, 0, 1107]) :: (41, 2, .bipush 7, []) :: (43, 1, .iaload, []) :: (44, 1, .aload_n 0, []) :: (45, 1, .iload_n 1, []) :: (46, 1, .iload_n 2, []) :: (47, 3, .invokevirtual 95, [48, 3, 3, 0, 0, 0, 6, 1223]) :: (50, 3, .invokestatic 99, [49, 2, 2, 0, 0, 1, 6, 1227]) :: (53, 1, .ireturn, []) :: []
def c92_0 : List RI := (0, 1, .aload_n 0, []) :: (1, 1, .iload_n 1, []) :: (2, 1, .iload_n 2, []) :: (3, 3, .invokevirtual 92, [47, 3, 3, 0, 0, 0, 6, 1215]) :: (6, 3, .ifCond .eq 5, [7]) :: (9, 1, .iconst 0, []) :: (10, 1, .ireturn, []) :: c92_7
-- 93 Grid_isGoalLit isGoalLit(II)Z
def c93_0 : List RI := (0, 1, .aload_n 0, []) :: (1, 1, .iload_n 1, []) :: (2, 1, .iload_n 2, []) :: (3, 3, .invokevirtual 95, [40, 3, 3, 1, 6, 0, 5, 662]) :: (6, 1, .aload_n 0, []) :: (7, 3, .getfield 10, [5, 0, 227]) :: (10, 3, .getfield 146, [0, 6, 141]) :: (13, 1, .iload_n 1, []) :: (14, 1, .iload_n 2, []) :: (15, 3, .invokestatic 98, [41, 2, 2, 0, 0, 1, 0, 686]) :: (18, 3, .invokestatic 105, [42, 2, 2, 0, 0, 1, 0, 689]) :: (21, 1, .ireturn, []) :: []
-- 94 Law_isGoalLit isGoalLit(LGlowwormGrid;II[J)I
def c94_15 : List RI := (24, 1, .iconst 0, []) :: (25, 1, .ireturn, []) :: []
def c94_13 : List RI := (22, 1, .iconst 1, []) :: (23, 1, .ireturn, []) :: c94_15
def c94_10 : List RI := (16, 1, .lastore, []) :: (17, 3, .goto 7, [15]) :: (20, 2, .astore 4, []) :: c94_13
def c94_9 : List RI := (15, 1, .lconst 0, []) :: c94_10
def c94_0 : List RI := (0, 1, .aload_n 3, []) :: (1, 1, .iconst 0, []) :: (2, 1, .aload_n 0, []) :: (3, 1, .iload_n 1, []) :: (4, 1, .iload_n 2, []) :: (5, 3, .invokevirtual 51, [93, 3, 3, 1, 6, 0, 5, 762]) :: (8, 3, .ifCond .eq 7, [9]) :: (11, 1, .lconst 1, []) :: (12, 3, .goto 4, [10]) :: c94_9
-- 95 Model_isGoalLit isGoalLit(II)Z
def c95_18 : List RI := (33, 1, .ireturn, []) :: []
def c95_17 : List RI := (32, 1, .iconst 0, []) :: c95_18
def c95_0 : List RI := (0, 1, .aload_n 0, []) :: (1, 1, .iload_n 1, []) :: (2, 1, .iload_n 2, []) :: (3, 3, .invokevirtual 92, [47, 3, 3, 0, 0, 0, 6, 1215]) :: (6, 3, .ifCond .ne 26, [17]) :: (9, 1, .aload_n 0, []) :: (10, 3, .getfield 7, [6, 0, 1107]) :: (13, 2, .bipush 7, []) :: (15, 1, .iaload, []) :: (16, 1, .aload_n 0, []) :: (17, 1, .iload_n 1, []) :: (18, 1, .iload_n 2, []) :: (19, 3, .invokevirtual 95, [48, 3, 3, 0, 0, 0, 6, 1223]) :: (22, 3, .invokestatic 99, [49, 2, 2, 0, 0, 1, 6, 1227]) :: (25, 3, .ifCond .eq 7, [17]) :: (28, 1, .iconst 1, []) :: (29, 3, .goto 4, [18]) :: c95_17
-- 96 Board_differences differences()I
def c96_0 : List RI := (0, 1, .aload_n 0, []) :: (1, 3, .getfield 44, [0, 4, 138]) :: (4, 1, .aload_n 0, []) :: (5, 3, .getfield 47, [0, 6, 140]) :: (8, 1, .ixor, []) :: (9, 1, .ireturn, []) :: []
-- 97 Grid_isReached isReached()Z
def c97_7 : List RI := (15, 1, .ireturn, []) :: []
def c97_6 : List RI := (14, 1, .iconst 0, []) :: c97_7
def c97_0 : List RI := (0, 1, .aload_n 0, []) :: (1, 3, .getfield 10, [5, 0, 227]) :: (4, 3, .invokevirtual 149, [96, 1, 1, 0, 0, 0, 0, 287]) :: (7, 3, .ifCond .ne 7, [6]) :: (10, 1, .iconst 1, []) :: (11, 3, .goto 4, [7]) :: c97_6
-- 98 Model_isReached isReached()Z
def c98_15 : List RI := (26, 1, .ireturn, []) :: []
def c98_14 : List RI := (25, 1, .iconst 0, []) :: c98_15
def c98_0 : List RI := (0, 1, .aload_n 0, []) :: (1, 1, .iconst 0, []) :: (2, 3, .putfield 48, [6, 7, 1114, 0, 0]) :: (5, 1, .aload_n 0, []) :: (6, 3, .getfield 7, [6, 0, 1107]) :: (9, 1, .iconst 5, []) :: (10, 1, .iaload, []) :: (11, 1, .aload_n 0, []) :: (12, 3, .getfield 7, [6, 0, 1107]) :: (15, 2, .bipush 7, []) :: (17, 1, .iaload, []) :: (18, 3, .if_icmp .ne 7, [14]) :: (21, 1, .iconst 1, []) :: (22, 3, .goto 4, [15]) :: c98_14
-- 99 Grid_differenceCount differenceCount()I
def c99_0 : List RI := (0, 1, .aload_n 0, []) :: (1, 3, .getfield 10, [5, 0, 227]) :: (4, 3, .invokevirtual 149, [96, 1, 1, 0, 0, 0, 0, 287]) :: (7, 3, .invokestatic 116, [54, 1, 1, 0, 0, 1, 0, 277]) :: (10, 1, .ireturn, []) :: []
-- 100 Model_differenceCount differenceCount()I
def c100_0 : List RI := (0, 1, .aload_n 0, []) :: (1, 1, .iconst 0, []) :: (2, 3, .putfield 48, [6, 7, 1114, 0, 0]) :: (5, 1, .aload_n 0, []) :: (6, 3, .getfield 7, [6, 0, 1107]) :: (9, 1, .iconst 5, []) :: (10, 1, .iaload, []) :: (11, 1, .aload_n 0, []) :: (12, 3, .getfield 7, [6, 0, 1107]) :: (15, 2, .bipush 7, []) :: (17, 1, .iaload, []) :: (18, 1, .ixor, []) :: (19, 3, .invokestatic 106, [60, 1, 3, 0, 0, 1, 6, 1246]) :: (22, 1, .ireturn, []) :: []
-- 101 Solv_writeEquations writeEquations(LGlowwormGrid$Board;)V
def c101_36 : List RI := (64, 1, .return_, []) :: []
def c101_34 : List RI := (58, 3, .iinc 3 1, []) :: (61, 3, .goto (-54), [5]) :: c101_36
def c101_21 : List RI := (38, 1, .iastore, []) :: (39, 1, .iload_n 2, []) :: (40, 1, .iload_n 3, []) :: (41, 3, .invokestatic 34, [42, 2, 2, 0, 0, 1, 0, 312]) :: (44, 3, .ifCond .eq 14, [34]) :: (47, 1, .aload_n 0, []) :: (48, 3, .getfield 9, [3, 0, 195]) :: (51, 1, .iload_n 3, []) :: (52, 1, .dup2, []) :: (53, 1, .iaload, []) :: (54, 2, .ldc 54, [0, 1073741824, 319]) :: (56, 1, .ior, []) :: (57, 1, .iastore, []) :: c101_34
def c101_20 : List RI := (37, 1, .iconst 0, []) :: c101_21
def c101_5 : List RI := (7, 1, .iload_n 3, []) :: (8, 2, .bipush 30, []) :: (10, 3, .if_icmp .ge 54, [36]) :: (13, 1, .aload_n 0, []) :: (14, 3, .getfield 9, [3, 0, 195]) :: (17, 1, .iload_n 3, []) :: (18, 1, .aload_n 1, []) :: (19, 3, .getfield 29, [0, 2, 133]) :: (22, 1, .iload_n 3, []) :: (23, 3, .invokestatic 34, [42, 2, 2, 0, 0, 1, 0, 312]) :: (26, 3, .ifCond .eq 11, [20]) :: (29, 1, .aload_n 1, []) :: (30, 1, .iload_n 3, []) :: (31, 3, .invokevirtual 50, [52, 2, 6, 0, 0, 0, 0, 315]) :: (34, 3, .goto 4, [21]) :: c101_20
def c101_0 : List RI := (0, 1, .aload_n 1, []) :: (1, 3, .invokevirtual 46, [96, 1, 1, 0, 0, 0, 0, 311]) :: (4, 1, .istore_n 2, []) :: (5, 1, .iconst 0, []) :: (6, 1, .istore_n 3, []) :: c101_5
-- 102 Solv_unsolvedWith unsolvedWith(I)I
def c102_17 : List RI := (30, 1, .iconst (-1), []) :: (31, 1, .ireturn, []) :: []
def c102_15 : List RI := (24, 3, .iinc 2 1, []) :: (27, 3, .goto (-22), [3]) :: c102_17
def c102_3 : List RI := (5, 1, .iload_n 2, []) :: (6, 2, .bipush 30, []) :: (8, 3, .if_icmp .ge 22, [17]) :: (11, 1, .aload_n 0, []) :: (12, 3, .getfield 9, [3, 0, 195]) :: (15, 1, .iload_n 2, []) :: (16, 1, .iaload, []) :: (17, 1, .iload_n 1, []) :: (18, 1, .iand, []) :: (19, 3, .ifCond .eq 5, [15]) :: (22, 1, .iload_n 2, []) :: (23, 1, .ireturn, []) :: c102_15
def c102_0 : List RI := (0, 1, .aload_n 0, []) :: (1, 3, .getfield 25, [3, 2, 197]) :: (4, 1, .istore_n 2, []) :: c102_3
-- 103 Solv_solveFor solveFor(I)Z
def c103_55 : List RI := (93, 1, .aload_n 0, []) :: (94, 3, .getfield 15, [3, 1, 196]) :: (97, 1, .aload_n 0, []) :: (98, 3, .getfield 25, [3, 2, 197]) :: (101, 1, .iload_n 1, []) :: (102, 1, .iastore, []) :: (103, 1, .aload_n 0, []) :: (104, 1, .dup, []) :: (105, 3, .getfield 25, [3, 2, 197]) :: (108, 1, .iconst 1, []) :: (109, 1, .iadd, []) :: (110, 3, .putfield 25, [3, 2, 197, 0, 0]) :: (113, 1, .iconst 1, []) :: (114, 1, .ireturn, []) :: []
def c103_53 : List RI := (87, 3, .iinc 4 1, []) :: (90, 3, .goto (-42), [31]) :: c103_55
def c103_31 : List RI := (48, 2, .iload 4, []) :: (50, 2, .bipush 30, []) :: (52, 3, .if_icmp .ge 41, [55]) :: (55, 2, .iload 4, []) :: (57, 1, .aload_n 0, []) :: (58, 3, .getfield 25, [3, 2, 197]) :: (61, 3, .if_icmp .eq 26, [53]) :: (64, 1, .aload_n 0, []) :: (65, 3, .getfield 9, [3, 0, 195]) :: (68, 2, .iload 4, []) :: (70, 1, .iaload, []) :: (71, 1, .iload_n 1, []) :: (72, 1, .iand, []) :: (73, 3, .ifCond .eq 14, [53]) :: (76, 1, .aload_n 0, []) :: (77, 3, .getfield 9, [3, 0, 195]) :: (80, 2, .iload 4, []) :: (82, 1, .dup2, []) :: (83, 1, .iaload, []) :: (84, 1, .iload_n 3, []) :: (85, 1, .ixor, []) :: (86, 1, .iastore, []) :: c103_53
def c103_9 : List RI := (13, 1, .aload_n 0, []) :: (14, 3, .getfield 9, [3, 0, 195]) :: (17, 1, .iload_n 2, []) :: (18, 1, .iaload, []) :: (19, 1, .istore_n 3, []) :: (20, 1, .aload_n 0, []) :: (21, 3, .getfield 9, [3, 0, 195]) :: (24, 1, .iload_n 2, []) :: (25, 1, .aload_n 0, []) :: (26, 3, .getfield 9, [3, 0, 195]) :: (29, 1, .aload_n 0, []) :: (30, 3, .getfield 25, [3, 2, 197]) :: (33, 1, .iaload, []) :: (34, 1, .iastore, []) :: (35, 1, .aload_n 0, []) :: (36, 3, .getfield 9, [3, 0, 195]) :: (39, 1, .aload_n 0, []) :: (40, 3, .getfield 25, [3, 2, 197]) :: (43, 1, .iload_n 3, []) :: (44, 1, .iastore, []) :: (45, 1, .iconst 0, []) :: (46, 2, .istore 4, []) :: c103_31
def c103_0 : List RI := (0, 1, .aload_n 0, []) :: (1, 1, .iload_n 1, []) :: (2, 3, .invokevirtual 55, [102, 2, 3, 0, 0, 0, 3, 324]) :: (5, 1, .istore_n 2, []) :: (6, 1, .iload_n 2, []) :: (7, 1, .iconst (-1), []) :: (8, 3, .if_icmp .ne 5, [9]) :: (11, 1, .iconst 0, []) :: (12, 1, .ireturn, []) :: c103_9
-- 104 Solv_solvedWith solvedWith(I)I
def c104_24 : List RI := (38, 1, .iload_n 2, []) :: (39, 1, .ireturn, []) :: []
def c104_22 : List RI := (32, 3, .iinc 3 1, []) :: (35, 3, .goto (-31), [4]) :: c104_24
def c104_4 : List RI := (4, 1, .iload_n 3, []) :: (5, 1, .aload_n 0, []) :: (6, 3, .getfield 25, [3, 2, 197]) :: (9, 3, .if_icmp .ge 29, [24]) :: (12, 1, .aload_n 0, []) :: (13, 3, .getfield 9, [3, 0, 195]) :: (16, 1, .iload_n 3, []) :: (17, 1, .iaload, []) :: (18, 1, .iload_n 1, []) :: (19, 1, .iand, []) :: (20, 3, .ifCond .eq 12, [22]) :: (23, 1, .iload_n 2, []) :: (24, 1, .aload_n 0, []) :: (25, 3, .getfield 15, [3, 1, 196]) :: (28, 1, .iload_n 3, []) :: (29, 1, .iaload, []) :: (30, 1, .ior, []) :: (31, 1, .istore_n 2, []) :: c104_22
def c104_0 : List RI := (0, 1, .iconst 0, []) :: (1, 1, .istore_n 2, []) :: (2, 1, .iconst 0, []) :: (3, 1, .istore_n 3, []) :: c104_4
-- 105 Solv_collectQuietSets collectQuietSets(I)V
def c105_34 : List RI := (57, 1, .return_, []) :: []
def c105_32 : List RI := (51, 3, .iinc 2 1, []) :: (54, 3, .goto (-47), [5]) :: c105_34
def c105_5 : List RI := (7, 1, .iload_n 2, []) :: (8, 2, .bipush 30, []) :: (10, 3, .if_icmp .ge 47, [34]) :: (13, 1, .iload_n 1, []) :: (14, 1, .iload_n 2, []) :: (15, 3, .invokestatic 34, [42, 2, 2, 0, 0, 1, 0, 312]) :: (18, 3, .ifCond .eq 33, [32]) :: (21, 1, .aload_n 0, []) :: (22, 3, .getfield 18, [3, 3, 198]) :: (25, 1, .aload_n 0, []) :: (26, 3, .getfield 58, [3, 4, 199]) :: (29, 1, .iconst 1, []) :: (30, 1, .iload_n 2, []) :: (31, 1, .ishl, []) :: (32, 1, .aload_n 0, []) :: (33, 1, .iconst 1, []) :: (34, 1, .iload_n 2, []) :: (35, 1, .ishl, []) :: (36, 3, .invokevirtual 61, [104, 2, 4, 0, 0, 0, 3, 332]) :: (39, 1, .ior, []) :: (40, 1, .iastore, []) :: (41, 1, .aload_n 0, []) :: (42, 1, .dup, []) :: (43, 3, .getfield 58, [3, 4, 199]) :: (46, 1, .iconst 1, []) :: (47, 1, .iadd, []) :: (48, 3, .putfield 58, [3, 4, 199, 0, 0]) :: c105_32
def c105_0 : List RI := (0, 1, .aload_n 0, []) :: (1, 1, .iconst 0, []) :: (2, 3, .putfield 58, [3, 4, 199, 0, 0]) :: (5, 1, .iconst 0, []) :: (6, 1, .istore_n 2, []) :: c105_5
-- 106 Solv_eliminate eliminate(LGlowwormGrid$Board;)V
def c106_32 : List RI := (53, 1, .aload_n 0, []) :: (54, 1, .iload_n 2, []) :: (55, 3, .invokevirtual 42, [105, 2, 3, 0, 0, 0, 3, 328]) :: (58, 1, .return_, []) :: []
def c106_30 : List RI := (47, 3, .iinc 3 1, []) :: (50, 3, .goto (-36), [10]) :: c106_32
def c106_10 : List RI := (14, 1, .iload_n 3, []) :: (15, 2, .bipush 30, []) :: (17, 3, .if_icmp .ge 36, [32]) :: (20, 1, .aload_n 1, []) :: (21, 3, .getfield 29, [0, 2, 133]) :: (24, 1, .iload_n 3, []) :: (25, 3, .invokestatic 34, [42, 2, 2, 0, 0, 1, 0, 312]) :: (28, 3, .ifCond .eq 19, [30]) :: (31, 1, .aload_n 0, []) :: (32, 1, .iconst 1, []) :: (33, 1, .iload_n 3, []) :: (34, 1, .ishl, []) :: (35, 3, .invokevirtual 38, [103, 2, 5, 0, 0, 0, 3, 320]) :: (38, 3, .ifCond .ne 9, [30]) :: (41, 1, .iload_n 2, []) :: (42, 1, .iconst 1, []) :: (43, 1, .iload_n 3, []) :: (44, 1, .ishl, []) :: (45, 1, .ior, []) :: (46, 1, .istore_n 2, []) :: c106_30
def c106_0 : List RI := (0, 1, .aload_n 0, []) :: (1, 1, .aload_n 1, []) :: (2, 3, .invokevirtual 21, [101, 2, 4, 0, 0, 0, 3, 307]) :: (5, 1, .aload_n 0, []) :: (6, 1, .iconst 0, []) :: (7, 3, .putfield 25, [3, 2, 197, 0, 0]) :: (10, 1, .iconst 0, []) :: (11, 1, .istore_n 2, []) :: (12, 1, .iconst 0, []) :: (13, 1, .istore_n 3, []) :: c106_10
-- 107 Solv_isFreeOfContradiction isFreeOfContradiction()Z
def c107_15 : List RI := (28, 1, .iconst 1, []) :: (29, 1, .ireturn, []) :: []
def c107_13 : List RI := (22, 3, .iinc 1 1, []) :: (25, 3, .goto (-20), [3]) :: c107_15
def c107_3 : List RI := (5, 1, .iload_n 1, []) :: (6, 2, .bipush 30, []) :: (8, 3, .if_icmp .ge 20, [15]) :: (11, 1, .aload_n 0, []) :: (12, 3, .getfield 9, [3, 0, 195]) :: (15, 1, .iload_n 1, []) :: (16, 1, .iaload, []) :: (17, 3, .ifCond .eq 5, [13]) :: (20, 1, .iconst 0, []) :: (21, 1, .ireturn, []) :: c107_13
def c107_0 : List RI := (0, 1, .aload_n 0, []) :: (1, 3, .getfield 25, [3, 2, 197]) :: (4, 1, .istore_n 1, []) :: c107_3
-- 108 Solv_canSolve canSolve(LGlowwormGrid$Board;)Z
def c108_0 : List RI := (0, 1, .aload_n 0, []) :: (1, 1, .aload_n 1, []) :: (2, 3, .invokevirtual 64, [106, 2, 4, 0, 0, 0, 3, 303]) :: (5, 1, .aload_n 0, []) :: (6, 3, .invokevirtual 67, [107, 1, 2, 0, 0, 0, 3, 336]) :: (9, 1, .ireturn, []) :: []
-- 109 Grid_isSolvable isSolvable()Z
def c109_0 : List RI := (0, 1, .aload_n 0, []) :: (1, 3, .getfield 32, [5, 5, 232]) :: (4, 1, .aload_n 0, []) :: (5, 3, .getfield 10, [5, 0, 227]) :: (8, 3, .invokevirtual 152, [108, 2, 2, 0, 0, 0, 3, 299]) :: (11, 1, .ireturn, []) :: []
-- 110 Model_swaps swaps(II)V
def c110_0 : List RI := (0, 1, .aload_n 0, []) :: (1, 3, .getfield 36, [6, 14, 1121]) :: (4, 1, .iload_n 1, []) :: (5, 1, .iaload, []) :: (6, 1, .istore_n 3, []) :: (7, 1, .aload_n 0, []) :: (8, 3, .getfield 36, [6, 14, 1121]) :: (11, 1, .iload_n 1, []) :: (12, 1, .aload_n 0, []) :: (13, 3, .getfield 36, [6, 14, 1121]) :: (16, 1, .iload_n 2, []) :: (17, 1, .iaload, []) :: (18, 1, .iastore, []) :: (19, 1, .aload_n 0, []) :: (20, 3, .getfield 36, [6, 14, 1121]) :: (23, 1, .iload_n 2, []) :: (24, 1, .iload_n 3, []) :: (25, 1, .iastore, []) :: (26, 1, .return_, []) :: []
-- 111 Model_laysQuiet laysQuiet(I)V
def c111_28 : List RI := (44, 1, .aload_n 0, []) :: (45, 3, .getfield 42, [6, 16, 1123]) :: (48, 1, .aload_n 0, []) :: (49, 3, .getfield 112, [6, 18, 1125]) :: (52, 1, .iload_n 2, []) :: (53, 1, .iastore, []) :: (54, 1, .aload_n 0, []) :: (55, 1, .dup, []) :: (56, 3, .getfield 112, [6, 18, 1125]) :: (59, 1, .iconst 1, []) :: (60, 1, .iadd, []) :: (61, 3, .putfield 112, [6, 18, 1125, 0, 0]) :: (64, 1, .return_, []) :: []
def c111_26 : List RI := (38, 3, .iinc 3 1, []) :: (41, 3, .goto (-35), [6]) :: c111_28
def c111_6 : List RI := (6, 1, .iload_n 3, []) :: (7, 1, .aload_n 0, []) :: (8, 3, .getfield 109, [6, 17, 1124]) :: (11, 3, .if_icmp .ge 33, [28]) :: (14, 1, .aload_n 0, []) :: (15, 3, .getfield 36, [6, 14, 1121]) :: (18, 1, .iload_n 3, []) :: (19, 1, .iaload, []) :: (20, 1, .iload_n 1, []) :: (21, 3, .invokestatic 99, [49, 2, 2, 0, 0, 1, 6, 1227]) :: (24, 3, .ifCond .eq 14, [26]) :: (27, 1, .iload_n 2, []) :: (28, 1, .iconst 1, []) :: (29, 1, .aload_n 0, []) :: (30, 3, .getfield 39, [6, 15, 1122]) :: (33, 1, .iload_n 3, []) :: (34, 1, .iaload, []) :: (35, 1, .ishl, []) :: (36, 1, .ior, []) :: (37, 1, .istore_n 2, []) :: c111_26
def c111_0 : List RI := (0, 1, .iconst 1, []) :: (1, 1, .iload_n 1, []) :: (2, 1, .ishl, []) :: (3, 1, .istore_n 2, []) :: (4, 1, .iconst 0, []) :: (5, 1, .istore_n 3, []) :: c111_6
-- 112 Model_eliminates eliminates()V
def c112_176 : List RI := (328, 1, .return_, []) :: []
def c112_174 : List RI := (322, 3, .iinc 4 1, []) :: (325, 3, .goto (-69), [141]) :: c112_176
def c112_160 : List RI := (297, 1, .aload_n 0, []) :: (298, 3, .getfield 122, [6, 19, 1126]) :: (301, 3, .ifCond .lt 21, [174]) :: (304, 1, .aload_n 0, []) :: (305, 1, .dup, []) :: (306, 3, .getfield 122, [6, 19, 1126]) :: (309, 1, .iconst 1, []) :: (310, 1, .aload_n 0, []) :: (311, 3, .getfield 39, [6, 15, 1122]) :: (314, 2, .iload 4, []) :: (316, 1, .iaload, []) :: (317, 1, .ishl, []) :: (318, 1, .ior, []) :: (319, 3, .putfield 122, [6, 19, 1126, 0, 0]) :: c112_174
def c112_152 : List RI := (280, 2, .iload 4, []) :: (282, 1, .aload_n 0, []) :: (283, 3, .getfield 109, [6, 17, 1124]) :: (286, 3, .if_icmp .lt 11, [160]) :: (289, 1, .aload_n 0, []) :: (290, 1, .iconst (-1), []) :: (291, 3, .putfield 122, [6, 19, 1126, 0, 0]) :: (294, 3, .goto 28, [174]) :: c112_160
def c112_141 : List RI := (256, 2, .iload 4, []) :: (258, 1, .iload_n 1, []) :: (259, 3, .if_icmp .ge 69, [176]) :: (262, 1, .aload_n 0, []) :: (263, 3, .getfield 36, [6, 14, 1121]) :: (266, 2, .iload 4, []) :: (268, 1, .iaload, []) :: (269, 2, .bipush 25, []) :: (271, 3, .invokestatic 99, [49, 2, 2, 0, 0, 1, 6, 1227]) :: (274, 3, .ifCond .ne 6, [152]) :: (277, 3, .goto 45, [174]) :: c112_152
def c112_136 : List RI := (248, 1, .aload_n 0, []) :: (249, 1, .iconst 0, []) :: (250, 3, .putfield 122, [6, 19, 1126, 0, 0]) :: (253, 1, .iconst 0, []) :: (254, 2, .istore 4, []) :: c112_141
def c112_134 : List RI := (242, 3, .iinc 4 1, []) :: (245, 3, .goto (-24), [124]) :: c112_136
def c112_124 : List RI := (221, 2, .iload 4, []) :: (223, 1, .iload_n 1, []) :: (224, 3, .if_icmp .ge 24, [136]) :: (227, 1, .iload_n 3, []) :: (228, 2, .iload 4, []) :: (230, 3, .invokestatic 99, [49, 2, 2, 0, 0, 1, 6, 1227]) :: (233, 3, .ifCond .eq 9, [134]) :: (236, 1, .aload_n 0, []) :: (237, 2, .iload 4, []) :: (239, 3, .invokevirtual 119, [111, 2, 4, 0, 0, 0, 6, 1321]) :: c112_134
def c112_122 : List RI := (218, 1, .iconst 0, []) :: (219, 2, .istore 4, []) :: c112_124
def c112_120 : List RI := (212, 3, .iinc 4 1, []) :: (215, 3, .goto (-147), [45]) :: c112_122
def c112_108 : List RI := (191, 1, .aload_n 0, []) :: (192, 3, .getfield 39, [6, 15, 1122]) :: (195, 1, .aload_n 0, []) :: (196, 3, .getfield 109, [6, 17, 1124]) :: (199, 2, .iload 4, []) :: (201, 1, .iastore, []) :: (202, 1, .aload_n 0, []) :: (203, 1, .dup, []) :: (204, 3, .getfield 109, [6, 17, 1124]) :: (207, 1, .iconst 1, []) :: (208, 1, .iadd, []) :: (209, 3, .putfield 109, [6, 17, 1124, 0, 0]) :: c112_120
def c112_106 : List RI := (185, 3, .iinc 6 1, []) :: (188, 3, .goto (-52), [80]) :: c112_108
def c112_80 : List RI := (136, 2, .iload 6, []) :: (138, 1, .iload_n 1, []) :: (139, 3, .if_icmp .ge 52, [108]) :: (142, 2, .iload 6, []) :: (144, 1, .aload_n 0, []) :: (145, 3, .getfield 109, [6, 17, 1124]) :: (148, 3, .if_icmp .eq 37, [106]) :: (151, 1, .aload_n 0, []) :: (152, 3, .getfield 36, [6, 14, 1121]) :: (155, 2, .iload 6, []) :: (157, 1, .iaload, []) :: (158, 2, .iload 4, []) :: (160, 3, .invokestatic 99, [49, 2, 2, 0, 0, 1, 6, 1227]) :: (163, 3, .ifCond .eq 22, [106]) :: (166, 1, .aload_n 0, []) :: (167, 3, .getfield 36, [6, 14, 1121]) :: (170, 2, .iload 6, []) :: (172, 1, .dup2, []) :: (173, 1, .iaload, []) :: (174, 1, .aload_n 0, []) :: (175, 3, .getfield 36, [6, 14, 1121]) :: (178, 1, .aload_n 0, []) :: (179, 3, .getfield 109, [6, 17, 1124]) :: (182, 1, .iaload, []) :: (183, 1, .ixor, []) :: (184, 1, .iastore, []) :: c112_106
def c112_73 : List RI := (123, 1, .aload_n 0, []) :: (124, 2, .iload 5, []) :: (126, 1, .aload_n 0, []) :: (127, 3, .getfield 109, [6, 17, 1124]) :: (130, 3, .invokevirtual 115, [110, 3, 4, 0, 0, 0, 6, 1317]) :: (133, 1, .iconst 0, []) :: (134, 2, .istore 6, []) :: c112_80
def c112_63 : List RI := (107, 2, .iload 5, []) :: (109, 1, .iload_n 1, []) :: (110, 3, .if_icmp .ne 13, [73]) :: (113, 1, .iload_n 3, []) :: (114, 1, .iconst 1, []) :: (115, 2, .iload 4, []) :: (117, 1, .ishl, []) :: (118, 1, .ior, []) :: (119, 1, .istore_n 3, []) :: (120, 3, .goto 92, [120]) :: c112_73
def c112_51 : List RI := (80, 2, .iload 5, []) :: (82, 1, .iload_n 1, []) :: (83, 3, .if_icmp .ge 24, [63]) :: (86, 1, .aload_n 0, []) :: (87, 3, .getfield 36, [6, 14, 1121]) :: (90, 2, .iload 5, []) :: (92, 1, .iaload, []) :: (93, 2, .iload 4, []) :: (95, 3, .invokestatic 99, [49, 2, 2, 0, 0, 1, 6, 1227]) :: (98, 3, .ifCond .ne 9, [63]) :: (101, 3, .iinc 5 1, []) :: (104, 3, .goto (-24), [51]) :: c112_63
def c112_45 : List RI := (68, 2, .iload 4, []) :: (70, 1, .iload_n 1, []) :: (71, 3, .if_icmp .ge 147, [122]) :: (74, 1, .aload_n 0, []) :: (75, 3, .getfield 109, [6, 17, 1124]) :: (78, 2, .istore 5, []) :: c112_51
def c112_35 : List RI := (53, 1, .aload_n 0, []) :: (54, 1, .iconst 0, []) :: (55, 3, .putfield 109, [6, 17, 1124, 0, 0]) :: (58, 1, .aload_n 0, []) :: (59, 1, .iconst 0, []) :: (60, 3, .putfield 112, [6, 18, 1125, 0, 0]) :: (63, 1, .iconst 0, []) :: (64, 1, .istore_n 3, []) :: (65, 1, .iconst 0, []) :: (66, 2, .istore 4, []) :: c112_45
def c112_15 : List RI := (22, 1, .iload_n 3, []) :: (23, 1, .iload_n 1, []) :: (24, 3, .if_icmp .ge 29, [35]) :: (27, 1, .aload_n 0, []) :: (28, 3, .getfield 36, [6, 14, 1121]) :: (31, 1, .iload_n 3, []) :: (32, 1, .aload_n 0, []) :: (33, 1, .iload_n 3, []) :: (34, 3, .invokevirtual 81, [58, 2, 6, 0, 0, 0, 6, 1238]) :: (37, 1, .iload_n 2, []) :: (38, 1, .iload_n 3, []) :: (39, 1, .ishr, []) :: (40, 1, .iconst 1, []) :: (41, 1, .iand, []) :: (42, 2, .bipush 25, []) :: (44, 1, .ishl, []) :: (45, 1, .ior, []) :: (46, 1, .iastore, []) :: (47, 3, .iinc 3 1, []) :: (50, 3, .goto (-28), [15]) :: c112_35
def c112_0 : List RI := (0, 1, .aload_n 0, []) :: (1, 3, .invokevirtual 74, [23, 1, 1, 0, 0, 0, 6, 1203]) :: (4, 1, .istore_n 1, []) :: (5, 1, .aload_n 0, []) :: (6, 3, .getfield 7, [6, 0, 1107]) :: (9, 1, .iconst 5, []) :: (10, 1, .iaload, []) :: (11, 1, .aload_n 0, []) :: (12, 3, .getfield 7, [6, 0, 1107]) :: (15, 2, .bipush 7, []) :: (17, 1, .iaload, []) :: (18, 1, .ixor, []) :: (19, 1, .istore_n 2, []) :: (20, 1, .iconst 0, []) :: (21, 1, .istore_n 3, []) :: c112_15
-- 113 Model_isSolved isSolved()Z
def c113_11 : List RI := (21, 1, .ireturn, []) :: []
def c113_10 : List RI := (20, 1, .iconst 0, []) :: c113_11
def c113_0 : List RI := (0, 1, .aload_n 0, []) :: (1, 1, .iconst 0, []) :: (2, 3, .putfield 48, [6, 7, 1114, 0, 0]) :: (5, 1, .aload_n 0, []) :: (6, 3, .invokevirtual 125, [112, 1, 7, 0, 0, 0, 6, 1313]) :: (9, 1, .aload_n 0, []) :: (10, 3, .getfield 122, [6, 19, 1126]) :: (13, 3, .ifCond .lt 7, [10]) :: (16, 1, .iconst 1, []) :: (17, 3, .goto 4, [11]) :: c113_10
-- 114 Model_isSolvable isSolvable()Z
def c114_0 : List RI := (0, 1, .aload_n 0, []) :: (1, 3, .invokevirtual 128, [113, 1, 1, 0, 0, 0, 6, 1309]) :: (4, 1, .ireturn, []) :: []
-- 115 Solv_changeAt changeAt(I)I
def c115_18 : List RI := (28, 1, .ireturn, []) :: []
def c115_17 : List RI := (27, 1, .iconst 0, []) :: c115_18
def c115_0 : List RI := (0, 1, .iload_n 1, []) :: (1, 1, .iload_n 1, []) :: (2, 1, .ineg, []) :: (3, 1, .iand, []) :: (4, 1, .iconst 1, []) :: (5, 1, .isub, []) :: (6, 3, .invokestatic 74, [54, 1, 1, 0, 0, 1, 0, 352]) :: (9, 1, .istore_n 2, []) :: (10, 1, .iload_n 2, []) :: (11, 1, .aload_n 0, []) :: (12, 3, .getfield 58, [3, 4, 199]) :: (15, 3, .if_icmp .ge 12, [17]) :: (18, 1, .aload_n 0, []) :: (19, 3, .getfield 18, [3, 3, 198]) :: (22, 1, .iload_n 2, []) :: (23, 1, .iaload, []) :: (24, 3, .goto 4, [18]) :: c115_17
-- 116 Solv_hasEvenParities hasEvenParities(LGlowwormGrid$Board;)Z
def c116_31 : List RI := (49, 1, .iconst 1, []) :: (50, 1, .ireturn, []) :: []
def c116_29 : List RI := (43, 3, .iinc 3 1, []) :: (46, 3, .goto (-37), [7]) :: c116_31
def c116_7 : List RI := (9, 1, .iload_n 3, []) :: (10, 1, .iconst 1, []) :: (11, 1, .aload_n 0, []) :: (12, 3, .getfield 58, [3, 4, 199]) :: (15, 1, .ishl, []) :: (16, 3, .if_icmp .ge 33, [31]) :: (19, 1, .iload_n 2, []) :: (20, 1, .aload_n 0, []) :: (21, 1, .iload_n 3, []) :: (22, 3, .invokevirtual 71, [115, 2, 3, 0, 0, 0, 3, 348]) :: (25, 1, .ixor, []) :: (26, 1, .istore_n 2, []) :: (27, 1, .iload_n 2, []) :: (28, 1, .aload_n 1, []) :: (29, 3, .invokevirtual 46, [96, 1, 1, 0, 0, 0, 0, 311]) :: (32, 1, .iand, []) :: (33, 3, .invokestatic 74, [54, 1, 1, 0, 0, 1, 0, 352]) :: (36, 1, .iconst 2, []) :: (37, 1, .irem, []) :: (38, 3, .ifCond .eq 5, [29]) :: (41, 1, .iconst 0, []) :: (42, 1, .ireturn, []) :: c116_29
def c116_0 : List RI := (0, 1, .aload_n 0, []) :: (1, 1, .aload_n 1, []) :: (2, 3, .invokevirtual 64, [106, 2, 4, 0, 0, 0, 3, 303]) :: (5, 1, .iconst 0, []) :: (6, 1, .istore_n 2, []) :: (7, 1, .iconst 1, []) :: (8, 1, .istore_n 3, []) :: c116_7
-- 117 Grid_isSolvableByParity isSolvableByParity()Z
def c117_0 : List RI := (0, 1, .aload_n 0, []) :: (1, 3, .getfield 32, [5, 5, 232]) :: (4, 1, .aload_n 0, []) :: (5, 3, .getfield 10, [5, 0, 227]) :: (8, 3, .invokevirtual 156, [116, 2, 4, 0, 0, 0, 3, 344]) :: (11, 1, .ireturn, []) :: []
-- 118 Model_isSolvableByParity isSolvableByParity()Z
def c118_0 : List RI := (0, 1, .aload_n 0, []) :: (1, 3, .invokevirtual 128, [113, 1, 1, 0, 0, 0, 6, 1309]) :: (4, 1, .ireturn, []) :: []
-- 119 Grid_quietNumber quietNumber()I
def c119_0 : List RI := (0, 1, .aload_n 0, []) :: (1, 3, .getfield 32, [5, 5, 232]) :: (4, 1, .aload_n 0, []) :: (5, 3, .getfield 10, [5, 0, 227]) :: (8, 3, .invokevirtual 159, [106, 2, 4, 0, 0, 0, 3, 357]) :: (11, 1, .aload_n 0, []) :: (12, 3, .getfield 32, [5, 5, 232]) :: (15, 3, .getfield 162, [3, 4, 200]) :: (18, 1, .ireturn, []) :: []
-- 120 Model_quietNumber quietNumber()I
def c120_0 : List RI := (0, 1, .aload_n 0, []) :: (1, 1, .iconst 0, []) :: (2, 3, .putfield 48, [6, 7, 1114, 0, 0]) :: (5, 1, .aload_n 0, []) :: (6, 3, .invokevirtual 125, [112, 1, 7, 0, 0, 0, 6, 1313]) :: (9, 1, .aload_n 0, []) :: (10, 3, .getfield 112, [6, 18, 1125]) :: (13, 1, .ireturn, []) :: []
-- 121 Solv_quietCells quietCells(LGlowwormGrid$Board;)I
def c121_20 : List RI := (32, 1, .iload_n 2, []) :: (33, 1, .ireturn, []) :: []
def c121_7 : List RI := (9, 1, .iload_n 3, []) :: (10, 1, .aload_n 0, []) :: (11, 3, .getfield 58, [3, 4, 199]) :: (14, 3, .if_icmp .ge 18, [20]) :: (17, 1, .iload_n 2, []) :: (18, 1, .aload_n 0, []) :: (19, 3, .getfield 18, [3, 3, 198]) :: (22, 1, .iload_n 3, []) :: (23, 1, .iaload, []) :: (24, 1, .ior, []) :: (25, 1, .istore_n 2, []) :: (26, 3, .iinc 3 1, []) :: (29, 3, .goto (-20), [7]) :: c121_20
def c121_0 : List RI := (0, 1, .aload_n 0, []) :: (1, 1, .aload_n 1, []) :: (2, 3, .invokevirtual 64, [106, 2, 4, 0, 0, 0, 3, 303]) :: (5, 1, .iconst 0, []) :: (6, 1, .istore_n 2, []) :: (7, 1, .iconst 0, []) :: (8, 1, .istore_n 3, []) :: c121_7
-- 122 Grid_isQuietCell isQuietCell(II)Z
def c122_0 : List RI := (0, 1, .aload_n 0, []) :: (1, 1, .iload_n 1, []) :: (2, 1, .iload_n 2, []) :: (3, 3, .invokevirtual 95, [40, 3, 3, 1, 6, 0, 5, 662]) :: (6, 1, .aload_n 0, []) :: (7, 3, .getfield 32, [5, 5, 232]) :: (10, 1, .aload_n 0, []) :: (11, 3, .getfield 10, [5, 0, 227]) :: (14, 3, .invokevirtual 165, [121, 2, 4, 0, 0, 0, 3, 362]) :: (17, 1, .iload_n 1, []) :: (18, 1, .iload_n 2, []) :: (19, 3, .invokestatic 98, [41, 2, 2, 0, 0, 1, 0, 686]) :: (22, 3, .invokestatic 105, [42, 2, 2, 0, 0, 1, 0, 689]) :: (25, 1, .ireturn, []) :: []
-- 123 Law_isQuietCell isQuietCell(LGlowwormGrid;II[J)I
def c123_15 : List RI := (24, 1, .iconst 0, []) :: (25, 1, .ireturn, []) :: []
def c123_13 : List RI := (22, 1, .iconst 1, []) :: (23, 1, .ireturn, []) :: c123_15
def c123_10 : List RI := (16, 1, .lastore, []) :: (17, 3, .goto 7, [15]) :: (20, 2, .astore 4, []) :: c123_13
def c123_9 : List RI := (15, 1, .lconst 0, []) :: c123_10
def c123_0 : List RI := (0, 1, .aload_n 3, []) :: (1, 1, .iconst 0, []) :: (2, 1, .aload_n 0, []) :: (3, 1, .iload_n 1, []) :: (4, 1, .iload_n 2, []) :: (5, 3, .invokevirtual 54, [122, 3, 3, 1, 6, 0, 5, 769]) :: (8, 3, .ifCond .eq 7, [9]) :: (11, 1, .lconst 1, []) :: (12, 3, .goto 4, [10]) :: c123_9
-- 124 Model_allQuiet allQuiet()I
def c124_19 : List RI := (31, 1, .iload_n 1, []) :: (32, 1, .ireturn, []) :: []
def c124_6 : List RI := (8, 1, .iload_n 2, []) :: (9, 1, .aload_n 0, []) :: (10, 3, .getfield 112, [6, 18, 1125]) :: (13, 3, .if_icmp .ge 18, [19]) :: (16, 1, .iload_n 1, []) :: (17, 1, .aload_n 0, []) :: (18, 3, .getfield 42, [6, 16, 1123]) :: (21, 1, .iload_n 2, []) :: (22, 1, .iaload, []) :: (23, 1, .ior, []) :: (24, 1, .istore_n 1, []) :: (25, 3, .iinc 2 1, []) :: (28, 3, .goto (-20), [6]) :: c124_19
def c124_0 : List RI := (0, 1, .aload_n 0, []) :: (1, 3, .invokevirtual 125, [112, 1, 7, 0, 0, 0, 6, 1313]) :: (4, 1, .iconst 0, []) :: (5, 1, .istore_n 1, []) :: (6, 1, .iconst 0, []) :: (7, 1, .istore_n 2, []) :: c124_6
-- 125 Model_isQuietCell isQuietCell(II)Z
def c125_16 : List RI := (30, 1, .ireturn, []) :: []
def c125_15 : List RI := (29, 1, .iconst 0, []) :: c125_16
def c125_0 : List RI := (0, 1, .aload_n 0, []) :: (1, 1, .iload_n 1, []) :: (2, 1, .iload_n 2, []) :: (3, 3, .invokevirtual 92, [47, 3, 3, 0, 0, 0, 6, 1215]) :: (6, 3, .ifCond .ne 23, [15]) :: (9, 1, .aload_n 0, []) :: (10, 3, .invokevirtual 132, [124, 1, 3, 0, 0, 0, 6, 1337]) :: (13, 1, .aload_n 0, []) :: (14, 1, .iload_n 1, []) :: (15, 1, .iload_n 2, []) :: (16, 3, .invokevirtual 95, [48, 3, 3, 0, 0, 0, 6, 1223]) :: (19, 3, .invokestatic 99, [49, 2, 2, 0, 0, 1, 6, 1227]) :: (22, 3, .ifCond .eq 7, [15]) :: (25, 1, .iconst 1, []) :: (26, 3, .goto 4, [16]) :: c125_15
-- 126 Grid_quietCellCount quietCellCount()I
def c126_0 : List RI := (0, 1, .aload_n 0, []) :: (1, 3, .getfield 32, [5, 5, 232]) :: (4, 1, .aload_n 0, []) :: (5, 3, .getfield 10, [5, 0, 227]) :: (8, 3, .invokevirtual 165, [121, 2, 4, 0, 0, 0, 3, 362]) :: (11, 3, .invokestatic 116, [54, 1, 1, 0, 0, 1, 0, 277]) :: (14, 1, .ireturn, []) :: []
-- 127 Model_quietCellCount quietCellCount()I
def c127_0 : List RI := (0, 1, .aload_n 0, []) :: (1, 1, .iconst 0, []) :: (2, 3, .putfield 48, [6, 7, 1114, 0, 0]) :: (5, 1, .aload_n 0, []) :: (6, 3, .invokevirtual 132, [124, 1, 3, 0, 0, 0, 6, 1337]) :: (9, 3, .invokestatic 106, [60, 1, 3, 0, 0, 1, 6, 1246]) :: (12, 1, .ireturn, []) :: []
-- 128 Solv_isBetter isBetter(II)Z
def c128_30 : List RI := (46, 1, .ireturn, []) :: []
def c128_29 : List RI := (45, 1, .iconst 0, []) :: c128_30
def c128_14 : List RI := (24, 1, .iload_n 0, []) :: (25, 1, .iload_n 1, []) :: (26, 1, .ixor, []) :: (27, 1, .istore_n 3, []) :: (28, 1, .iload_n 3, []) :: (29, 1, .iload_n 3, []) :: (30, 1, .ineg, []) :: (31, 1, .iand, []) :: (32, 2, .istore 4, []) :: (34, 1, .iload_n 0, []) :: (35, 2, .iload 4, []) :: (37, 1, .iand, []) :: (38, 3, .ifCond .ne 7, [29]) :: (41, 1, .iconst 1, []) :: (42, 3, .goto 4, [30]) :: c128_29
def c128_13 : List RI := (23, 1, .ireturn, []) :: c128_14
def c128_12 : List RI := (22, 1, .iconst 0, []) :: c128_13
def c128_0 : List RI := (0, 1, .iload_n 0, []) :: (1, 3, .invokestatic 74, [54, 1, 1, 0, 0, 1, 0, 352]) :: (4, 1, .iload_n 1, []) :: (5, 3, .invokestatic 74, [54, 1, 1, 0, 0, 1, 0, 352]) :: (8, 1, .isub, []) :: (9, 1, .istore_n 2, []) :: (10, 1, .iload_n 2, []) :: (11, 3, .ifCond .eq 13, [14]) :: (14, 1, .iload_n 2, []) :: (15, 3, .ifCond .ge 7, [12]) :: (18, 1, .iconst 1, []) :: (19, 3, .goto 4, [13]) :: c128_12
-- 129 Solv_bestSolution bestSolution(LGlowwormGrid$Board;)I
def c129_36 : List RI := (62, 1, .iload_n 3, []) :: (63, 1, .ireturn, []) :: []
def c129_34 : List RI := (56, 3, .iinc 4 1, []) :: (59, 3, .goto (-33), [16]) :: c129_36
def c129_16 : List RI := (26, 2, .iload 4, []) :: (28, 1, .iconst 1, []) :: (29, 1, .aload_n 0, []) :: (30, 3, .getfield 58, [3, 4, 199]) :: (33, 1, .ishl, []) :: (34, 3, .if_icmp .ge 28, [36]) :: (37, 1, .iload_n 2, []) :: (38, 1, .aload_n 0, []) :: (39, 2, .iload 4, []) :: (41, 3, .invokevirtual 71, [115, 2, 3, 0, 0, 0, 3, 348]) :: (44, 1, .ixor, []) :: (45, 1, .istore_n 2, []) :: (46, 1, .iload_n 2, []) :: (47, 1, .iload_n 3, []) :: (48, 3, .invokestatic 79, [128, 2, 5, 0, 0, 1, 3, 789]) :: (51, 3, .ifCond .eq 5, [34]) :: (54, 1, .iload_n 2, []) :: (55, 1, .istore_n 3, []) :: c129_34
def c129_8 : List RI := (14, 1, .aload_n 0, []) :: (15, 2, .ldc 54, [0, 1073741824, 319]) :: (17, 3, .invokevirtual 61, [104, 2, 4, 0, 0, 0, 3, 332]) :: (20, 1, .istore_n 2, []) :: (21, 1, .iload_n 2, []) :: (22, 1, .istore_n 3, []) :: (23, 1, .iconst 1, []) :: (24, 2, .istore 4, []) :: c129_16
def c129_0 : List RI := (0, 1, .aload_n 0, []) :: (1, 1, .aload_n 1, []) :: (2, 3, .invokevirtual 64, [106, 2, 4, 0, 0, 0, 3, 303]) :: (5, 1, .aload_n 0, []) :: (6, 3, .invokevirtual 67, [107, 1, 2, 0, 0, 0, 3, 336]) :: (9, 3, .ifCond .ne 5, [8]) :: (12, 1, .iconst (-1), []) :: (13, 1, .ireturn, []) :: c129_8
-- 130 Grid_requiredSolution requiredSolution()I
def c130_10 : List RI := (28, 1, .iload_n 1, []) :: (29, 1, .ireturn, []) :: []
def c130_0 : List RI := (0, 1, .aload_n 0, []) :: (1, 3, .getfield 32, [5, 5, 232]) :: (4, 1, .aload_n 0, []) :: (5, 3, .getfield 10, [5, 0, 227]) :: (8, 3, .invokevirtual 301, [129, 2, 5, 0, 0, 0, 3, 785]) :: (11, 1, .istore_n 1, []) :: (12, 1, .iload_n 1, []) :: (13, 1, .iconst (-1), []) :: (14, 3, .if_icmp .ne 14, [10]) :: (17, 11, .athrow, [3, 230, 304, 234, 1, 792, 78]) :: c130_10
-- 131 Grid_fewestPresses fewestPresses()I
def c131_0 : List RI := (0, 1, .aload_n 0, []) :: (1, 3, .invokevirtual 169, [130, 1, 2, 1, 6, 0, 5, 781]) :: (4, 3, .invokestatic 116, [54, 1, 1, 0, 0, 1, 0, 277]) :: (7, 1, .ireturn, []) :: []
-- 132 Law_fewestPresses fewestPresses(LGlowwormGrid;[J)I
def c132_10 : List RI := (14, 1, .iconst 0, []) :: (15, 1, .ireturn, []) :: []
def c132_8 : List RI := (12, 1, .iconst 1, []) :: (13, 1, .ireturn, []) :: c132_10
def c132_0 : List RI := (0, 1, .aload_n 1, []) :: (1, 1, .iconst 0, []) :: (2, 1, .aload_n 0, []) :: (3, 3, .invokevirtual 57, [131, 1, 1, 1, 6, 0, 5, 777]) :: (6, 1, .i2l, []) :: (7, 1, .lastore, []) :: (8, 3, .goto 6, [10]) :: (11, 1, .astore_n 2, []) :: c132_8
-- 133 Model_isBetter isBetter(II)Z
def c133_26 : List RI := (40, 1, .ireturn, []) :: []
def c133_25 : List RI := (39, 1, .iconst 0, []) :: c133_26
def c133_23 : List RI := (35, 1, .iconst 1, []) :: (36, 3, .goto 4, [26]) :: c133_25
def c133_0 : List RI := (0, 1, .iload_n 0, []) :: (1, 3, .invokestatic 106, [60, 1, 3, 0, 0, 1, 6, 1246]) :: (4, 1, .iload_n 1, []) :: (5, 3, .invokestatic 106, [60, 1, 3, 0, 0, 1, 6, 1246]) :: (8, 1, .isub, []) :: (9, 1, .istore_n 2, []) :: (10, 1, .iload_n 0, []) :: (11, 1, .iload_n 1, []) :: (12, 1, .ixor, []) :: (13, 1, .istore_n 3, []) :: (14, 1, .iload_n 2, []) :: (15, 3, .ifCond .lt 20, [23]) :: (18, 1, .iload_n 2, []) :: (19, 3, .ifCond .ne 20, [25]) :: (22, 1, .iload_n 3, []) :: (23, 3, .ifCond .eq 16, [25]) :: (26, 1, .iload_n 0, []) :: (27, 1, .iload_n 3, []) :: (28, 1, .iand, []) :: (29, 1, .iload_n 3, []) :: (30, 1, .ineg, []) :: (31, 1, .iand, []) :: (32, 3, .ifCond .ne 7, [25]) :: c133_23
-- 134 Model_best best()I
def c134_46 : List RI := (79, 1, .iload_n 1, []) :: (80, 1, .ireturn, []) :: []
def c134_44 : List RI := (73, 3, .iinc 3 1, []) :: (76, 3, .goto (-51), [15]) :: c134_46
def c134_31 : List RI := (53, 1, .iload_n 2, []) :: (54, 1, .aload_n 0, []) :: (55, 3, .getfield 42, [6, 16, 1123]) :: (58, 2, .iload 4, []) :: (60, 1, .iaload, []) :: (61, 1, .ixor, []) :: (62, 1, .istore_n 2, []) :: (63, 1, .iload_n 2, []) :: (64, 1, .iload_n 1, []) :: (65, 3, .invokestatic 135, [133, 2, 4, 0, 0, 1, 6, 1353]) :: (68, 3, .ifCond .eq 5, [44]) :: (71, 1, .iload_n 2, []) :: (72, 1, .istore_n 1, []) :: c134_44
def c134_23 : List RI := (38, 1, .iload_n 3, []) :: (39, 2, .iload 4, []) :: (41, 1, .ishr, []) :: (42, 1, .iconst 1, []) :: (43, 1, .iand, []) :: (44, 3, .ifCond .ne 9, [31]) :: (47, 3, .iinc 4 1, []) :: (50, 3, .goto (-12), [23]) :: c134_31
def c134_15 : List RI := (25, 1, .iload_n 3, []) :: (26, 1, .iconst 1, []) :: (27, 1, .aload_n 0, []) :: (28, 3, .getfield 112, [6, 18, 1125]) :: (31, 1, .ishl, []) :: (32, 3, .if_icmp .ge 47, [46]) :: (35, 1, .iconst 0, []) :: (36, 2, .istore 4, []) :: c134_23
def c134_7 : List RI := (13, 1, .aload_n 0, []) :: (14, 3, .getfield 122, [6, 19, 1126]) :: (17, 1, .istore_n 1, []) :: (18, 1, .aload_n 0, []) :: (19, 3, .getfield 122, [6, 19, 1126]) :: (22, 1, .istore_n 2, []) :: (23, 1, .iconst 1, []) :: (24, 1, .istore_n 3, []) :: c134_15
def c134_0 : List RI := (0, 1, .aload_n 0, []) :: (1, 3, .invokevirtual 125, [112, 1, 7, 0, 0, 0, 6, 1313]) :: (4, 1, .aload_n 0, []) :: (5, 3, .getfield 122, [6, 19, 1126]) :: (8, 3, .ifCond .ge 5, [7]) :: (11, 1, .iconst (-1), []) :: (12, 1, .ireturn, []) :: c134_7
-- 135 Model_fewestPresses fewestPresses()I
def c135_15 : List RI := (29, 1, .ireturn, []) :: []
def c135_13 : List RI := (25, 1, .iload_n 1, []) :: (26, 3, .invokestatic 106, [60, 1, 3, 0, 0, 1, 6, 1246]) :: c135_15
def c135_9 : List RI := (15, 3, .invokevirtual 70, [19, 2, 2, 0, 0, 0, 6, 1188]) :: (18, 3, .ifCond .eq 7, [13]) :: (21, 1, .iconst 0, []) :: (22, 3, .goto 7, [15]) :: c135_13
def c135_8 : List RI := (14, 1, .iconst 0, []) :: c135_9
def c135_0 : List RI := (0, 1, .aload_n 0, []) :: (1, 3, .invokevirtual 138, [134, 1, 5, 0, 0, 0, 6, 1349]) :: (4, 1, .istore_n 1, []) :: (5, 1, .aload_n 0, []) :: (6, 1, .iload_n 1, []) :: (7, 3, .ifCond .ge 7, [8]) :: (10, 1, .iconst 1, []) :: (11, 3, .goto 4, [9]) :: c135_8
-- 136 Grid_isInSolution isInSolution(II)Z
def c136_0 : List RI := (0, 1, .aload_n 0, []) :: (1, 1, .iload_n 1, []) :: (2, 1, .iload_n 2, []) :: (3, 3, .invokevirtual 95, [40, 3, 3, 1, 6, 0, 5, 662]) :: (6, 1, .aload_n 0, []) :: (7, 3, .invokevirtual 169, [130, 1, 2, 1, 6, 0, 5, 781]) :: (10, 1, .iload_n 1, []) :: (11, 1, .iload_n 2, []) :: (12, 3, .invokestatic 98, [41, 2, 2, 0, 0, 1, 0, 686]) :: (15, 3, .invokestatic 105, [42, 2, 2, 0, 0, 1, 0, 689]) :: (18, 1, .ireturn, []) :: []
-- 137 Law_isInSolution isInSolution(LGlowwormGrid;II[J)I
def c137_18 : List RI := (28, 1, .iconst 0, []) :: (29, 1, .ireturn, []) :: []
def c137_16 : List RI := (26, 1, .iconst 2, []) :: (27, 1, .ireturn, []) :: c137_18
def c137_13 : List RI := (22, 1, .iconst 1, []) :: (23, 1, .ireturn, []) :: (24, 2, .astore 4, []) :: c137_16
def c137_10 : List RI := (16, 1, .lastore, []) :: (17, 3, .goto 11, [18]) :: (20, 2, .astore 4, []) :: c137_13
def c137_9 : List RI := (15, 1, .lconst 0, []) :: c137_10
def c137_0 : List RI := (0, 1, .aload_n 3, []) :: (1, 1, .iconst 0, []) :: (2, 1, .aload_n 0, []) :: (3, 1, .iload_n 1, []) :: (4, 1, .iload_n 2, []) :: (5, 3, .invokevirtual 63, [136, 3, 3, 2, 12, 0, 5, 811]) :: (8, 3, .ifCond .eq 7, [9]) :: (11, 1, .lconst 1, []) :: (12, 3, .goto 4, [10]) :: c137_9
-- 138 Model_isInSolution isInSolution(II)Z
def c138_28 : List RI := (50, 1, .ireturn, []) :: []
def c138_27 : List RI := (49, 1, .iconst 0, []) :: c138_28
def c138_16 : List RI := (26, 3, .invokevirtual 70, [19, 2, 2, 0, 0, 0, 6, 1188]) :: (29, 3, .ifCond .ne 20, [27]) :: (32, 1, .iload_n 3, []) :: (33, 1, .aload_n 0, []) :: (34, 1, .iload_n 1, []) :: (35, 1, .iload_n 2, []) :: (36, 3, .invokevirtual 95, [48, 3, 3, 0, 0, 0, 6, 1223]) :: (39, 3, .invokestatic 99, [49, 2, 2, 0, 0, 1, 6, 1227]) :: (42, 3, .ifCond .eq 7, [27]) :: (45, 1, .iconst 1, []) :: (46, 3, .goto 4, [28]) :: c138_27
def c138_15 : List RI := (25, 1, .iconst 0, []) :: c138_16
def c138_7 : List RI := (11, 1, .aload_n 0, []) :: (12, 3, .invokevirtual 138, [134, 1, 5, 0, 0, 0, 6, 1349]) :: (15, 1, .istore_n 3, []) :: (16, 1, .aload_n 0, []) :: (17, 1, .iload_n 3, []) :: (18, 3, .ifCond .ge 7, [15]) :: (21, 1, .iconst 2, []) :: (22, 3, .goto 4, [16]) :: c138_15
def c138_0 : List RI := (0, 1, .aload_n 0, []) :: (1, 1, .iload_n 1, []) :: (2, 1, .iload_n 2, []) :: (3, 3, .invokevirtual 92, [47, 3, 3, 0, 0, 0, 6, 1215]) :: (6, 3, .ifCond .eq 5, [7]) :: (9, 1, .iconst 0, []) :: (10, 1, .ireturn, []) :: c138_7
-- 139 Board_pressAll pressAll(I)I
def c139_14 : List RI := (27, 1, .iload_n 1, []) :: (28, 3, .invokestatic 77, [54, 1, 1, 0, 0, 1, 0, 826]) :: (31, 1, .ireturn, []) :: []
def c139_12 : List RI := (21, 3, .iinc 2 1, []) :: (24, 3, .goto (-22), [2]) :: c139_14
def c139_2 : List RI := (2, 1, .iload_n 2, []) :: (3, 2, .bipush 30, []) :: (5, 3, .if_icmp .ge 22, [14]) :: (8, 1, .iload_n 1, []) :: (9, 1, .iload_n 2, []) :: (10, 3, .invokestatic 40, [42, 2, 2, 0, 0, 1, 0, 442]) :: (13, 3, .ifCond .eq 8, [12]) :: (16, 1, .aload_n 0, []) :: (17, 1, .iload_n 2, []) :: (18, 3, .invokevirtual 73, [53, 2, 2, 0, 0, 0, 0, 447]) :: c139_12
def c139_0 : List RI := (0, 1, .iconst 0, []) :: (1, 1, .istore_n 2, []) :: c139_2
-- 140 Grid_solve solve()I
def c140_0 : List RI := (0, 1, .aload_n 0, []) :: (1, 3, .invokevirtual 169, [130, 1, 2, 1, 6, 0, 5, 781]) :: (4, 1, .istore_n 1, []) :: (5, 1, .aload_n 0, []) :: (6, 3, .getfield 25, [5, 4, 231]) :: (9, 1, .aload_n 0, []) :: (10, 3, .getfield 10, [5, 0, 227]) :: (13, 3, .invokevirtual 65, [14, 2, 2, 0, 0, 0, 2, 370]) :: (16, 1, .aload_n 0, []) :: (17, 3, .getfield 10, [5, 0, 227]) :: (20, 1, .iload_n 1, []) :: (21, 3, .invokevirtual 172, [139, 2, 3, 0, 0, 0, 0, 822]) :: (24, 1, .ireturn, []) :: []
-- 141 Law_solve solve(LGlowwormGrid;[J)I
def c141_10 : List RI := (14, 1, .iconst 0, []) :: (15, 1, .ireturn, []) :: []
def c141_8 : List RI := (12, 1, .iconst 1, []) :: (13, 1, .ireturn, []) :: c141_10
def c141_0 : List RI := (0, 1, .aload_n 1, []) :: (1, 1, .iconst 0, []) :: (2, 1, .aload_n 0, []) :: (3, 3, .invokevirtual 66, [140, 1, 2, 1, 6, 0, 5, 818]) :: (6, 1, .i2l, []) :: (7, 1, .lastore, []) :: (8, 3, .goto 6, [10]) :: (11, 1, .astore_n 2, []) :: c141_8
-- 142 Model_solve solve()I
def c142_32 : List RI := (60, 1, .iload_n 1, []) :: (61, 3, .invokestatic 106, [60, 1, 3, 0, 0, 1, 6, 1246]) :: (64, 1, .ireturn, []) :: []
def c142_30 : List RI := (54, 3, .iinc 2 1, []) :: (57, 3, .goto (-24), [19]) :: c142_32
def c142_19 : List RI := (33, 1, .iload_n 2, []) :: (34, 1, .aload_n 0, []) :: (35, 3, .invokevirtual 74, [23, 1, 1, 0, 0, 0, 6, 1203]) :: (38, 3, .if_icmp .ge 22, [32]) :: (41, 1, .iload_n 1, []) :: (42, 1, .iload_n 2, []) :: (43, 3, .invokestatic 99, [49, 2, 2, 0, 0, 1, 6, 1227]) :: (46, 3, .ifCond .eq 8, [30]) :: (49, 1, .aload_n 0, []) :: (50, 1, .iload_n 2, []) :: (51, 3, .invokevirtual 102, [59, 2, 2, 0, 0, 0, 6, 1234]) :: c142_30
def c142_13 : List RI := (23, 1, .aload_n 0, []) :: (24, 1, .aload_n 0, []) :: (25, 3, .getfield 7, [6, 0, 1107]) :: (28, 3, .invokevirtual 85, [21, 2, 3, 0, 0, 0, 6, 1192]) :: (31, 1, .iconst 0, []) :: (32, 1, .istore_n 2, []) :: c142_19
def c142_9 : List RI := (15, 3, .invokevirtual 70, [19, 2, 2, 0, 0, 0, 6, 1188]) :: (18, 3, .ifCond .eq 5, [13]) :: (21, 1, .iconst 0, []) :: (22, 1, .ireturn, []) :: c142_13
def c142_8 : List RI := (14, 1, .iconst 0, []) :: c142_9
def c142_0 : List RI := (0, 1, .aload_n 0, []) :: (1, 3, .invokevirtual 138, [134, 1, 5, 0, 0, 0, 6, 1349]) :: (4, 1, .istore_n 1, []) :: (5, 1, .aload_n 0, []) :: (6, 1, .iload_n 1, []) :: (7, 3, .ifCond .ge 7, [8]) :: (10, 1, .iconst 1, []) :: (11, 3, .goto 4, [9]) :: c142_8
-- 143 Board_chaseLights chaseLights()I
def c143_33 : List RI := (63, 1, .iload_n 1, []) :: (64, 1, .ireturn, []) :: []
def c143_31 : List RI := (57, 3, .iinc 2 1, []) :: (60, 3, .goto (-56), [4]) :: c143_33
def c143_29 : List RI := (51, 3, .iinc 3 1, []) :: (54, 3, .goto (-40), [10]) :: c143_31
def c143_10 : List RI := (14, 1, .iload_n 3, []) :: (15, 1, .aload_n 0, []) :: (16, 3, .getfield 34, [0, 1, 131]) :: (19, 3, .if_icmp .ge 38, [31]) :: (22, 1, .aload_n 0, []) :: (23, 3, .invokevirtual 82, [96, 1, 1, 0, 0, 0, 0, 855]) :: (26, 1, .iload_n 2, []) :: (27, 1, .iconst 1, []) :: (28, 1, .isub, []) :: (29, 1, .iload_n 3, []) :: (30, 3, .invokestatic 86, [41, 2, 2, 0, 0, 1, 0, 856]) :: (33, 3, .invokestatic 40, [42, 2, 2, 0, 0, 1, 0, 442]) :: (36, 3, .ifCond .eq 15, [29]) :: (39, 1, .aload_n 0, []) :: (40, 1, .iload_n 2, []) :: (41, 1, .iload_n 3, []) :: (42, 3, .invokestatic 86, [41, 2, 2, 0, 0, 1, 0, 856]) :: (45, 3, .invokevirtual 73, [53, 2, 2, 0, 0, 0, 0, 447]) :: (48, 3, .iinc 1 1, []) :: c143_29
def c143_4 : List RI := (4, 1, .iload_n 2, []) :: (5, 1, .aload_n 0, []) :: (6, 3, .getfield 30, [0, 0, 129]) :: (9, 3, .if_icmp .ge 54, [33]) :: (12, 1, .iconst 0, []) :: (13, 1, .istore_n 3, []) :: c143_10
def c143_0 : List RI := (0, 1, .iconst 0, []) :: (1, 1, .istore_n 1, []) :: (2, 1, .iconst 1, []) :: (3, 1, .istore_n 2, []) :: c143_4
-- 144 Grid_chase chase()I
def c144_6 : List RI := (22, 1, .aload_n 0, []) :: (23, 3, .getfield 25, [5, 4, 231]) :: (26, 1, .aload_n 0, []) :: (27, 3, .getfield 10, [5, 0, 227]) :: (30, 3, .invokevirtual 65, [14, 2, 2, 0, 0, 0, 2, 370]) :: (33, 1, .aload_n 0, []) :: (34, 3, .getfield 10, [5, 0, 227]) :: (37, 3, .invokevirtual 180, [143, 1, 4, 0, 0, 0, 0, 851]) :: (40, 1, .ireturn, []) :: []
def c144_0 : List RI := (0, 1, .aload_n 0, []) :: (1, 3, .getfield 10, [5, 0, 227]) :: (4, 3, .getfield 87, [0, 3, 136]) :: (7, 2, .bipush 43, []) :: (9, 3, .if_icmp .eq 13, [6]) :: (12, 10, .athrow, [4, 175, 177, 179, 0, 835, 79]) :: c144_6
-- 145 Law_chase chase(LGlowwormGrid;[J)I
def c145_10 : List RI := (14, 1, .iconst 0, []) :: (15, 1, .ireturn, []) :: []
def c145_8 : List RI := (12, 1, .iconst 1, []) :: (13, 1, .ireturn, []) :: c145_10
def c145_0 : List RI := (0, 1, .aload_n 1, []) :: (1, 1, .iconst 0, []) :: (2, 1, .aload_n 0, []) :: (3, 3, .invokevirtual 69, [144, 1, 1, 1, 6, 0, 5, 831]) :: (6, 1, .i2l, []) :: (7, 1, .lastore, []) :: (8, 3, .goto 6, [10]) :: (11, 1, .astore_n 2, []) :: c145_8
-- 146 Model_chase chase()I
def c146_53 : List RI := (95, 1, .iload_n 1, []) :: (96, 1, .ireturn, []) :: []
def c146_51 : List RI := (89, 3, .iinc 2 1, []) :: (92, 3, .goto (-50), [25]) :: c146_53
def c146_47 : List RI := (81, 1, .aload_n 0, []) :: (82, 1, .iload_n 2, []) :: (83, 3, .invokevirtual 102, [59, 2, 2, 0, 0, 0, 6, 1234]) :: (86, 3, .iinc 1 1, []) :: c146_51
def c146_25 : List RI := (42, 1, .iload_n 2, []) :: (43, 1, .aload_n 0, []) :: (44, 3, .invokevirtual 74, [23, 1, 1, 0, 0, 0, 6, 1203]) :: (47, 3, .if_icmp .ge 48, [53]) :: (50, 1, .aload_n 0, []) :: (51, 3, .getfield 7, [6, 0, 1107]) :: (54, 1, .iconst 5, []) :: (55, 1, .iaload, []) :: (56, 1, .aload_n 0, []) :: (57, 3, .getfield 7, [6, 0, 1107]) :: (60, 2, .bipush 7, []) :: (62, 1, .iaload, []) :: (63, 1, .ixor, []) :: (64, 1, .iload_n 2, []) :: (65, 1, .aload_n 0, []) :: (66, 3, .getfield 7, [6, 0, 1107]) :: (69, 1, .iconst 1, []) :: (70, 1, .iaload, []) :: (71, 1, .isub, []) :: (72, 3, .invokestatic 99, [49, 2, 2, 0, 0, 1, 6, 1227]) :: (75, 3, .ifCond .ne 6, [47]) :: (78, 3, .goto 11, [51]) :: c146_47
def c146_14 : List RI := (25, 1, .aload_n 0, []) :: (26, 1, .aload_n 0, []) :: (27, 3, .getfield 7, [6, 0, 1107]) :: (30, 3, .invokevirtual 85, [21, 2, 3, 0, 0, 0, 6, 1192]) :: (33, 1, .iconst 0, []) :: (34, 1, .istore_n 1, []) :: (35, 1, .aload_n 0, []) :: (36, 3, .getfield 7, [6, 0, 1107]) :: (39, 1, .iconst 1, []) :: (40, 1, .iaload, []) :: (41, 1, .istore_n 2, []) :: c146_25
def c146_10 : List RI := (17, 3, .invokevirtual 70, [19, 2, 2, 0, 0, 0, 6, 1188]) :: (20, 3, .ifCond .eq 5, [14]) :: (23, 1, .iconst 0, []) :: (24, 1, .ireturn, []) :: c146_14
def c146_9 : List RI := (16, 1, .iconst 1, []) :: c146_10
def c146_0 : List RI := (0, 1, .aload_n 0, []) :: (1, 1, .aload_n 0, []) :: (2, 3, .getfield 7, [6, 0, 1107]) :: (5, 1, .iconst 2, []) :: (6, 1, .iaload, []) :: (7, 2, .bipush 43, []) :: (9, 3, .if_icmp .ne 7, [9]) :: (12, 1, .iconst 0, []) :: (13, 3, .goto 4, [10]) :: c146_9
-- 147 Worms_numberIn numberIn(I)I
def c147_16 : List RI := (28, 1, .iconst (-1), []) :: (29, 1, .ireturn, []) :: []
def c147_14 : List RI := (22, 3, .iinc 2 1, []) :: (25, 3, .goto (-23), [2]) :: c147_16
def c147_2 : List RI := (2, 1, .iload_n 2, []) :: (3, 1, .aload_n 0, []) :: (4, 3, .getfield 18, [4, 0, 102]) :: (7, 3, .if_icmp .ge 21, [16]) :: (10, 1, .aload_n 0, []) :: (11, 3, .getfield 11, [4, 1, 105]) :: (14, 1, .iload_n 2, []) :: (15, 1, .iaload, []) :: (16, 1, .iload_n 1, []) :: (17, 3, .if_icmp .ne 5, [14]) :: (20, 1, .iload_n 2, []) :: (21, 1, .ireturn, []) :: c147_14
def c147_0 : List RI := (0, 1, .iconst 0, []) :: (1, 1, .istore_n 2, []) :: c147_2
-- 148 Worms_hasRoomIn hasRoomIn(I)Z
def c148_12 : List RI := (22, 1, .ireturn, []) :: []
def c148_11 : List RI := (21, 1, .iconst 0, []) :: c148_12
def c148_0 : List RI := (0, 1, .aload_n 0, []) :: (1, 3, .getfield 18, [4, 0, 102]) :: (4, 1, .iconst 4, []) :: (5, 3, .if_icmp .ge 16, [11]) :: (8, 1, .aload_n 0, []) :: (9, 1, .iload_n 1, []) :: (10, 3, .invokevirtual 22, [147, 2, 3, 0, 0, 0, 4, 497]) :: (13, 1, .iconst (-1), []) :: (14, 3, .if_icmp .ne 7, [11]) :: (17, 1, .iconst 1, []) :: (18, 3, .goto 4, [12]) :: c148_11
-- 149 Worms_put put(II)V
def c149_22 : List RI := (38, 1, .return_, []) :: []
def c149_0 : List RI := (0, 1, .aload_n 0, []) :: (1, 3, .getfield 18, [4, 0, 102]) :: (4, 1, .iconst 4, []) :: (5, 3, .if_icmp .ge 33, [22]) :: (8, 1, .aload_n 0, []) :: (9, 3, .getfield 11, [4, 1, 105]) :: (12, 1, .aload_n 0, []) :: (13, 3, .getfield 18, [4, 0, 102]) :: (16, 1, .iload_n 1, []) :: (17, 1, .iastore, []) :: (18, 1, .aload_n 0, []) :: (19, 3, .getfield 15, [4, 2, 108]) :: (22, 1, .aload_n 0, []) :: (23, 3, .getfield 18, [4, 0, 102]) :: (26, 1, .iload_n 2, []) :: (27, 1, .iastore, []) :: (28, 1, .aload_n 0, []) :: (29, 1, .dup, []) :: (30, 3, .getfield 18, [4, 0, 102]) :: (33, 1, .iconst 1, []) :: (34, 1, .iadd, []) :: (35, 3, .putfield 18, [4, 0, 102, 0, 0]) :: c149_22
-- 150 Grid_addWorm addWorm(IIC)I
def c150_20 : List RI := (57, 1, .aload_n 0, []) :: (58, 3, .getfield 25, [5, 4, 231]) :: (61, 1, .aload_n 0, []) :: (62, 3, .getfield 10, [5, 0, 227]) :: (65, 3, .invokevirtual 65, [14, 2, 2, 0, 0, 0, 2, 370]) :: (68, 1, .aload_n 0, []) :: (69, 3, .getfield 10, [5, 0, 227]) :: (72, 3, .getfield 187, [0, 9, 147]) :: (75, 2, .iload 4, []) :: (77, 2, .ldc 183, [1, 15, 865]) :: (79, 1, .iload_n 3, []) :: (80, 3, .invokevirtual 79, [34, 2, 2, 0, 0, 0, 100, 592]) :: (83, 3, .invokevirtual 202, [149, 3, 3, 0, 0, 0, 4, 887]) :: (86, 1, .aload_n 0, []) :: (87, 3, .getfield 10, [5, 0, 227]) :: (90, 3, .getfield 187, [0, 9, 147]) :: (93, 3, .getfield 205, [4, 0, 104]) :: (96, 1, .iconst 1, []) :: (97, 1, .isub, []) :: (98, 1, .ireturn, []) :: []
def c150_9 : List RI := (25, 1, .iload_n 1, []) :: (26, 1, .iload_n 2, []) :: (27, 3, .invokestatic 98, [41, 2, 2, 0, 0, 1, 0, 686]) :: (30, 2, .istore 4, []) :: (32, 1, .aload_n 0, []) :: (33, 3, .getfield 10, [5, 0, 227]) :: (36, 3, .getfield 187, [0, 9, 147]) :: (39, 2, .iload 4, []) :: (41, 3, .invokevirtual 191, [148, 2, 2, 0, 0, 0, 4, 867]) :: (44, 3, .ifCond .ne 13, [20]) :: (47, 10, .athrow, [2, 197, 199, 201, 0, 871, 80]) :: c150_20
def c150_0 : List RI := (0, 1, .aload_n 0, []) :: (1, 1, .iload_n 1, []) :: (2, 1, .iload_n 2, []) :: (3, 3, .invokevirtual 95, [40, 3, 3, 1, 6, 0, 5, 662]) :: (6, 2, .ldc 183, [1, 15, 865]) :: (8, 1, .iload_n 3, []) :: (9, 3, .invokevirtual 79, [34, 2, 2, 0, 0, 0, 100, 592]) :: (12, 3, .ifCond .ge 13, [9]) :: (15, 10, .athrow, [0, 58, 185, 62, 0, 514, 68]) :: c150_9
-- 151 Law_addWorm addWorm(LGlowwormGrid;IIC[J)I
def c151_19 : List RI := (27, 1, .iconst 0, []) :: (28, 1, .ireturn, []) :: []
def c151_17 : List RI := (25, 1, .iconst 3, []) :: (26, 1, .ireturn, []) :: c151_19
def c151_14 : List RI := (21, 1, .iconst 2, []) :: (22, 1, .ireturn, []) :: (23, 2, .astore 5, []) :: c151_17
def c151_11 : List RI := (17, 1, .iconst 1, []) :: (18, 1, .ireturn, []) :: (19, 2, .astore 5, []) :: c151_14
def c151_0 : List RI := (0, 2, .aload 4, []) :: (2, 1, .iconst 0, []) :: (3, 1, .aload_n 0, []) :: (4, 1, .iload_n 1, []) :: (5, 1, .iload_n 2, []) :: (6, 1, .iload_n 3, []) :: (7, 3, .invokevirtual 74, [150, 4, 5, 2, 12, 0, 5, 861]) :: (10, 1, .i2l, []) :: (11, 1, .lastore, []) :: (12, 3, .goto 15, [19]) :: (15, 2, .astore 5, []) :: c151_11
-- 152 Model_ways ways(I)I
def c152_21 : List RI := (41, 1, .ireturn, []) :: []
def c152_20 : List RI := (40, 1, .iconst (-1), []) :: c152_21
def c152_15 : List RI := (30, 1, .iload_n 0, []) :: (31, 2, .bipush 119, []) :: (33, 3, .if_icmp .ne 7, [20]) :: (36, 1, .iconst 3, []) :: (37, 3, .goto 4, [21]) :: c152_20
def c152_10 : List RI := (20, 1, .iload_n 0, []) :: (21, 2, .bipush 115, []) :: (23, 3, .if_icmp .ne 7, [15]) :: (26, 1, .iconst 2, []) :: (27, 3, .goto 14, [21]) :: c152_15
def c152_5 : List RI := (10, 1, .iload_n 0, []) :: (11, 2, .bipush 101, []) :: (13, 3, .if_icmp .ne 7, [10]) :: (16, 1, .iconst 1, []) :: (17, 3, .goto 24, [21]) :: c152_10
def c152_0 : List RI := (0, 1, .iload_n 0, []) :: (1, 2, .bipush 110, []) :: (3, 3, .if_icmp .ne 7, [5]) :: (6, 1, .iconst 0, []) :: (7, 3, .goto 34, [21]) :: c152_5
-- 153 Model_inside inside(I)I
def c153_22 : List RI := (35, 1, .iconst (-1), []) :: (36, 1, .ireturn, []) :: []
def c153_20 : List RI := (29, 3, .iinc 2 1, []) :: (32, 3, .goto (-30), [2]) :: c153_22
def c153_2 : List RI := (2, 1, .iload_n 2, []) :: (3, 1, .aload_n 0, []) :: (4, 3, .getfield 7, [6, 0, 1107]) :: (7, 1, .iconst 4, []) :: (8, 1, .iaload, []) :: (9, 3, .if_icmp .ge 26, [22]) :: (12, 1, .aload_n 0, []) :: (13, 3, .getfield 7, [6, 0, 1107]) :: (16, 2, .bipush 33, []) :: (18, 1, .iconst 2, []) :: (19, 1, .iload_n 2, []) :: (20, 1, .imul, []) :: (21, 1, .iadd, []) :: (22, 1, .iaload, []) :: (23, 1, .iload_n 1, []) :: (24, 3, .if_icmp .ne 5, [20]) :: (27, 1, .iload_n 2, []) :: (28, 1, .ireturn, []) :: c153_20
def c153_0 : List RI := (0, 1, .iconst 0, []) :: (1, 1, .istore_n 2, []) :: c153_2
-- 154 Model_addWorm addWorm(IIC)I
def c154_33 : List RI := (61, 1, .aload_n 0, []) :: (62, 1, .aload_n 0, []) :: (63, 3, .getfield 7, [6, 0, 1107]) :: (66, 3, .invokevirtual 85, [21, 2, 3, 0, 0, 0, 6, 1192]) :: (69, 2, .bipush 33, []) :: (71, 1, .iconst 2, []) :: (72, 1, .aload_n 0, []) :: (73, 3, .getfield 7, [6, 0, 1107]) :: (76, 1, .iconst 4, []) :: (77, 1, .iaload, []) :: (78, 1, .imul, []) :: (79, 1, .iadd, []) :: (80, 2, .istore 4, []) :: (82, 1, .aload_n 0, []) :: (83, 3, .getfield 7, [6, 0, 1107]) :: (86, 2, .iload 4, []) :: (88, 1, .aload_n 0, []) :: (89, 1, .iload_n 1, []) :: (90, 1, .iload_n 2, []) :: (91, 3, .invokevirtual 95, [48, 3, 3, 0, 0, 0, 6, 1223]) :: (94, 1, .iastore, []) :: (95, 1, .aload_n 0, []) :: (96, 3, .getfield 7, [6, 0, 1107]) :: (99, 2, .iload 4, []) :: (101, 1, .iconst 1, []) :: (102, 1, .iadd, []) :: (103, 1, .iload_n 3, []) :: (104, 3, .invokestatic 141, [152, 1, 1, 0, 0, 1, 6, 1372]) :: (107, 1, .iastore, []) :: (108, 1, .aload_n 0, []) :: (109, 3, .getfield 7, [6, 0, 1107]) :: (112, 1, .iconst 4, []) :: (113, 1, .dup2, []) :: (114, 1, .iaload, []) :: (115, 1, .iconst 1, []) :: (116, 1, .iadd, []) :: (117, 1, .iastore, []) :: (118, 1, .aload_n 0, []) :: (119, 3, .getfield 7, [6, 0, 1107]) :: (122, 1, .iconst 4, []) :: (123, 1, .iaload, []) :: (124, 1, .iconst 1, []) :: (125, 1, .isub, []) :: (126, 1, .ireturn, []) :: []
def c154_29 : List RI := (53, 3, .invokevirtual 70, [19, 2, 2, 0, 0, 0, 6, 1188]) :: (56, 3, .ifCond .eq 5, [33]) :: (59, 1, .iconst 0, []) :: (60, 1, .ireturn, []) :: c154_33
def c154_28 : List RI := (52, 1, .iconst 0, []) :: c154_29
def c154_26 : List RI := (48, 1, .iconst 3, []) :: (49, 3, .goto 4, [29]) :: c154_28
def c154_13 : List RI := (25, 1, .aload_n 0, []) :: (26, 3, .getfield 7, [6, 0, 1107]) :: (29, 1, .iconst 4, []) :: (30, 1, .iaload, []) :: (31, 1, .iconst 4, []) :: (32, 3, .if_icmp .eq 16, [26]) :: (35, 1, .aload_n 0, []) :: (36, 1, .aload_n 0, []) :: (37, 1, .iload_n 1, []) :: (38, 1, .iload_n 2, []) :: (39, 3, .invokevirtual 95, [48, 3, 3, 0, 0, 0, 6, 1223]) :: (42, 3, .invokevirtual 144, [153, 2, 3, 0, 0, 0, 6, 1375]) :: (45, 3, .ifCond .lt 7, [28]) :: c154_26
def c154_8 : List RI := (14, 1, .iload_n 3, []) :: (15, 3, .invokestatic 141, [152, 1, 1, 0, 0, 1, 6, 1372]) :: (18, 3, .ifCond .ge 7, [13]) :: (21, 1, .iconst 2, []) :: (22, 3, .goto 31, [29]) :: c154_13
def c154_0 : List RI := (0, 1, .aload_n 0, []) :: (1, 1, .aload_n 0, []) :: (2, 1, .iload_n 1, []) :: (3, 1, .iload_n 2, []) :: (4, 3, .invokevirtual 66, [46, 3, 3, 0, 0, 0, 6, 1219]) :: (7, 3, .ifCond .ne 7, [8]) :: (10, 1, .iconst 1, []) :: (11, 3, .goto 42, [29]) :: c154_8
-- 155 Grid_requireWorm requireWorm(I)V
def c155_9 : List RI := (29, 1, .return_, []) :: []
def c155_8 : List RI := (18, 11, .athrow, [1, 133, 299, 137, 1, 670, 76]) :: c155_9
def c155_0 : List RI := (0, 1, .iload_n 1, []) :: (1, 3, .ifCond .lt 17, [8]) :: (4, 1, .iload_n 1, []) :: (5, 1, .aload_n 0, []) :: (6, 3, .getfield 10, [5, 0, 227]) :: (9, 3, .getfield 187, [0, 9, 147]) :: (12, 3, .getfield 205, [4, 0, 104]) :: (15, 3, .if_icmp .lt 14, [9]) :: c155_8
-- 156 Worms_takeOut takeOut(I)V
def c156_30 : List RI := (46, 1, .aload_n 0, []) :: (47, 1, .dup, []) :: (48, 3, .getfield 18, [4, 0, 102]) :: (51, 1, .iconst 1, []) :: (52, 1, .isub, []) :: (53, 3, .putfield 18, [4, 0, 102, 0, 0]) :: (56, 1, .return_, []) :: []
def c156_4 : List RI := (4, 1, .iload_n 2, []) :: (5, 1, .aload_n 0, []) :: (6, 3, .getfield 18, [4, 0, 102]) :: (9, 3, .if_icmp .ge 37, [30]) :: (12, 1, .aload_n 0, []) :: (13, 3, .getfield 11, [4, 1, 105]) :: (16, 1, .iload_n 2, []) :: (17, 1, .iconst 1, []) :: (18, 1, .isub, []) :: (19, 1, .aload_n 0, []) :: (20, 3, .getfield 11, [4, 1, 105]) :: (23, 1, .iload_n 2, []) :: (24, 1, .iaload, []) :: (25, 1, .iastore, []) :: (26, 1, .aload_n 0, []) :: (27, 3, .getfield 15, [4, 2, 108]) :: (30, 1, .iload_n 2, []) :: (31, 1, .iconst 1, []) :: (32, 1, .isub, []) :: (33, 1, .aload_n 0, []) :: (34, 3, .getfield 15, [4, 2, 108]) :: (37, 1, .iload_n 2, []) :: (38, 1, .iaload, []) :: (39, 1, .iastore, []) :: (40, 3, .iinc 2 1, []) :: (43, 3, .goto (-39), [4]) :: c156_30
def c156_0 : List RI := (0, 1, .iload_n 1, []) :: (1, 1, .iconst 1, []) :: (2, 1, .iadd, []) :: (3, 1, .istore_n 2, []) :: c156_4
-- 157 Grid_removeWorm removeWorm(I)I
def c157_0 : List RI := (0, 1, .aload_n 0, []) :: (1, 1, .iload_n 1, []) :: (2, 3, .invokevirtual 208, [155, 2, 2, 1, 6, 0, 5, 898]) :: (5, 1, .aload_n 0, []) :: (6, 3, .getfield 25, [5, 4, 231]) :: (9, 1, .aload_n 0, []) :: (10, 3, .getfield 10, [5, 0, 227]) :: (13, 3, .invokevirtual 65, [14, 2, 2, 0, 0, 0, 2, 370]) :: (16, 1, .aload_n 0, []) :: (17, 3, .getfield 10, [5, 0, 227]) :: (20, 3, .getfield 187, [0, 9, 147]) :: (23, 1, .iload_n 1, []) :: (24, 3, .invokevirtual 211, [156, 2, 3, 0, 0, 0, 4, 903]) :: (27, 1, .aload_n 0, []) :: (28, 3, .getfield 10, [5, 0, 227]) :: (31, 3, .getfield 187, [0, 9, 147]) :: (34, 3, .getfield 205, [4, 0, 104]) :: (37, 1, .ireturn, []) :: []
-- 158 Law_removeWorm removeWorm(LGlowwormGrid;I[J)I
def c158_11 : List RI := (15, 1, .iconst 0, []) :: (16, 1, .ireturn, []) :: []
def c158_9 : List RI := (13, 1, .iconst 1, []) :: (14, 1, .ireturn, []) :: c158_11
def c158_0 : List RI := (0, 1, .aload_n 2, []) :: (1, 1, .iconst 0, []) :: (2, 1, .aload_n 0, []) :: (3, 1, .iload_n 1, []) :: (4, 3, .invokevirtual 80, [157, 2, 2, 1, 6, 0, 5, 894]) :: (7, 1, .i2l, []) :: (8, 1, .lastore, []) :: (9, 3, .goto 6, [11]) :: (12, 1, .astore_n 3, []) :: c158_9
-- 159 Model_isWorm isWorm(I)Z
def c159_0 : List RI := (0, 1, .iload_n 1, []) :: (1, 1, .iconst 0, []) :: (2, 1, .aload_n 0, []) :: (3, 3, .getfield 7, [6, 0, 1107]) :: (6, 1, .iconst 4, []) :: (7, 1, .iaload, []) :: (8, 1, .iconst 1, []) :: (9, 1, .isub, []) :: (10, 3, .invokestatic 62, [18, 3, 3, 0, 0, 1, 6, 1185]) :: (13, 1, .ireturn, []) :: []
-- 160 Model_isLost isLost(I)Z
def c160_8 : List RI := (14, 3, .invokevirtual 70, [19, 2, 2, 0, 0, 0, 6, 1188]) :: (17, 1, .ireturn, []) :: []
def c160_7 : List RI := (13, 1, .iconst 1, []) :: c160_8
def c160_0 : List RI := (0, 1, .aload_n 0, []) :: (1, 1, .aload_n 0, []) :: (2, 1, .iload_n 1, []) :: (3, 3, .invokevirtual 147, [159, 2, 2, 0, 0, 0, 6, 1387]) :: (6, 3, .ifCond .eq 7, [7]) :: (9, 1, .iconst 0, []) :: (10, 3, .goto 4, [8]) :: c160_7
-- 161 Model_removeWorm removeWorm(I)I
def c161_46 : List RI := (70, 1, .aload_n 0, []) :: (71, 3, .getfield 7, [6, 0, 1107]) :: (74, 2, .bipush 33, []) :: (76, 1, .iconst 2, []) :: (77, 1, .aload_n 0, []) :: (78, 3, .getfield 7, [6, 0, 1107]) :: (81, 1, .iconst 4, []) :: (82, 1, .iaload, []) :: (83, 1, .imul, []) :: (84, 1, .iadd, []) :: (85, 1, .iconst 0, []) :: (86, 1, .iastore, []) :: (87, 1, .aload_n 0, []) :: (88, 3, .getfield 7, [6, 0, 1107]) :: (91, 2, .bipush 33, []) :: (93, 1, .iconst 2, []) :: (94, 1, .aload_n 0, []) :: (95, 3, .getfield 7, [6, 0, 1107]) :: (98, 1, .iconst 4, []) :: (99, 1, .iaload, []) :: (100, 1, .imul, []) :: (101, 1, .iadd, []) :: (102, 1, .iconst 1, []) :: (103, 1, .iadd, []) :: (104, 1, .iconst 0, []) :: (105, 1, .iastore, []) :: (106, 1, .aload_n 0, []) :: (107, 3, .getfield 7, [6, 0, 1107]) :: (110, 1, .iconst 4, []) :: (111, 1, .iaload, []) :: (112, 1, .ireturn, []) :: []
def c161_24 : List RI := (35, 1, .iload_n 2, []) :: (36, 2, .bipush 33, []) :: (38, 1, .iconst 2, []) :: (39, 1, .aload_n 0, []) :: (40, 3, .getfield 7, [6, 0, 1107]) :: (43, 1, .iconst 4, []) :: (44, 1, .iaload, []) :: (45, 1, .imul, []) :: (46, 1, .iadd, []) :: (47, 3, .if_icmp .ge 23, [46]) :: (50, 1, .aload_n 0, []) :: (51, 3, .getfield 7, [6, 0, 1107]) :: (54, 1, .iload_n 2, []) :: (55, 1, .aload_n 0, []) :: (56, 3, .getfield 7, [6, 0, 1107]) :: (59, 1, .iload_n 2, []) :: (60, 1, .iconst 2, []) :: (61, 1, .iadd, []) :: (62, 1, .iaload, []) :: (63, 1, .iastore, []) :: (64, 3, .iinc 2 1, []) :: (67, 3, .goto (-32), [24]) :: c161_46
def c161_6 : List RI := (10, 1, .aload_n 0, []) :: (11, 1, .aload_n 0, []) :: (12, 3, .getfield 7, [6, 0, 1107]) :: (15, 3, .invokevirtual 85, [21, 2, 3, 0, 0, 0, 6, 1192]) :: (18, 1, .aload_n 0, []) :: (19, 3, .getfield 7, [6, 0, 1107]) :: (22, 1, .iconst 4, []) :: (23, 1, .dup2, []) :: (24, 1, .iaload, []) :: (25, 1, .iconst 1, []) :: (26, 1, .isub, []) :: (27, 1, .iastore, []) :: (28, 2, .bipush 33, []) :: (30, 1, .iconst 2, []) :: (31, 1, .iload_n 1, []) :: (32, 1, .imul, []) :: (33, 1, .iadd, []) :: (34, 1, .istore_n 2, []) :: c161_24
def c161_0 : List RI := (0, 1, .aload_n 0, []) :: (1, 1, .iload_n 1, []) :: (2, 3, .invokevirtual 150, [160, 2, 2, 0, 0, 0, 6, 1383]) :: (5, 3, .ifCond .eq 5, [6]) :: (8, 1, .iconst 0, []) :: (9, 1, .ireturn, []) :: c161_6
-- 162 Pre_checkIndex checkIndex(IILjava/util/function/BiFunction;)I
def c162_10 : List RI := (16, 1, .iload_n 0, []) :: (17, 1, .ireturn, []) :: []
def c162_5 : List RI := (9, 1, .aload_n 2, []) :: (10, 1, .iload_n 0, []) :: (11, 1, .iload_n 1, []) :: (12, 3, .invokestatic 95, []) :: (15, 1, .athrow, []) :: c162_10
def c162_0 : List RI := (0, 1, .iload_n 0, []) :: (1, 3, .ifCond .lt 8, [5]) :: (4, 1, .iload_n 0, []) :: (5, 1, .iload_n 1, []) :: (6, 3, .if_icmp .lt 10, [10]) :: c162_5
-- 163 Str_checkIndex checkIndex(II)V
def c163_0 : List RI := (0, 1, .iload_n 0, []) :: (1, 1, .iload_n 1, []) :: (2, 3, .getstatic 1053, [3, 414]) :: (5, 3, .invokestatic 1059, [162, 3, 3, 0, 0, 1, 0, 416]) :: (8, 1, .pop, []) :: (9, 1, .return_, []) :: []
-- 164 Lat_charAt charAt([BI)C
def c164_0 : List RI := (0, 1, .iload_n 1, []) :: (1, 1, .aload_n 0, []) :: (2, 1, .arraylength, []) :: (3, 3, .invokestatic 9, [163, 2, 2, 0, 0, 1, 100, 411]) :: (6, 1, .aload_n 0, []) :: (7, 1, .iload_n 1, []) :: (8, 1, .baload, []) :: (9, 3, .sipush 255, []) :: (12, 1, .iand, []) :: (13, 1, .i2c, []) :: (14, 1, .ireturn, []) :: []
-- 165 Str_charAt charAt(I)C
def c165_8 : List RI := (16, 1, .aload_n 0, []) :: (17, 3, .getfield 9, [100, 0, 1558]) :: (20, 1, .iload_n 1, []) :: (21, 3, .invokestatic 498, []) :: (24, 1, .ireturn, []) :: []
def c165_0 : List RI := (0, 1, .aload_n 0, []) :: (1, 3, .invokevirtual 492, [26, 1, 1, 0, 0, 0, 100, 402]) :: (4, 3, .ifCond .eq 12, [8]) :: (7, 1, .aload_n 0, []) :: (8, 3, .getfield 9, [100, 0, 1558]) :: (11, 1, .iload_n 1, []) :: (12, 3, .invokestatic 495, [164, 2, 2, 0, 0, 1, 0, 408]) :: (15, 1, .ireturn, []) :: c165_8
-- 166 Worms_wayOf wayOf(I)I
def c166_13 : List RI := (52, 1, .iconst (-1), []) :: (53, 1, .ireturn, []) :: []
def c166_11 : List RI := (49, 2, .bipush 6, []) :: (51, 1, .ireturn, []) :: c166_13
def c166_9 : List RI := (47, 1, .iconst 1, []) :: (48, 1, .ireturn, []) :: c166_11
def c166_7 : List RI := (44, 2, .bipush (-6), []) :: (46, 1, .ireturn, []) :: c166_9
def c166_0 : List RI := (0, 2, .ldc 26, [1, 15, 397]) :: (2, 1, .aload_n 0, []) :: (3, 3, .getfield 15, [4, 2, 108]) :: (6, 1, .iload_n 1, []) :: (7, 1, .iaload, []) :: (8, 3, .invokevirtual 28, [165, 2, 2, 0, 0, 0, 100, 398]) :: (11, 33, .lookupswitch 41 #[(101, 36), (110, 33), (115, 38)], [13, 101, 9, 110, 7, 115, 11]) :: c166_7
-- 167 Worms_turnRight turnRight(I)V
def c167_0 : List RI := (0, 1, .aload_n 0, []) :: (1, 3, .getfield 15, [4, 2, 108]) :: (4, 1, .iload_n 1, []) :: (5, 1, .aload_n 0, []) :: (6, 3, .getfield 15, [4, 2, 108]) :: (9, 1, .iload_n 1, []) :: (10, 1, .iaload, []) :: (11, 1, .iconst 1, []) :: (12, 1, .iadd, []) :: (13, 2, .ldc 26, [1, 15, 397]) :: (15, 3, .invokevirtual 34, [28, 1, 1, 0, 0, 0, 100, 456]) :: (18, 1, .irem, []) :: (19, 1, .iastore, []) :: (20, 1, .return_, []) :: []
-- 168 Board_letWormsAct letWormsAct()I
def c168_47 : List RI := (89, 1, .aload_n 0, []) :: (90, 1, .dup, []) :: (91, 3, .getfield 101, [0, 7, 142]) :: (94, 1, .iconst 1, []) :: (95, 1, .iadd, []) :: (96, 3, .putfield 101, [0, 7, 142, 0, 0]) :: (99, 1, .iload_n 1, []) :: (100, 1, .ireturn, []) :: []
def c168_45 : List RI := (83, 3, .iinc 2 1, []) :: (86, 3, .goto (-82), [4]) :: c168_47
def c168_41 : List RI := (75, 1, .aload_n 0, []) :: (76, 3, .getfield 22, [0, 9, 146]) :: (79, 1, .iload_n 2, []) :: (80, 3, .invokevirtual 98, [167, 2, 2, 0, 0, 0, 4, 452]) :: c168_45
def c168_4 : List RI := (4, 1, .iload_n 2, []) :: (5, 1, .aload_n 0, []) :: (6, 3, .getfield 22, [0, 9, 146]) :: (9, 3, .getfield 50, [4, 0, 103]) :: (12, 3, .if_icmp .ge 77, [47]) :: (15, 1, .aload_n 0, []) :: (16, 3, .getfield 22, [0, 9, 146]) :: (19, 3, .getfield 90, [4, 1, 106]) :: (22, 1, .iload_n 2, []) :: (23, 1, .iaload, []) :: (24, 1, .aload_n 0, []) :: (25, 3, .getfield 22, [0, 9, 146]) :: (28, 1, .iload_n 2, []) :: (29, 3, .invokevirtual 92, [166, 2, 2, 0, 0, 0, 4, 393]) :: (32, 1, .iadd, []) :: (33, 1, .istore_n 3, []) :: (34, 1, .aload_n 0, []) :: (35, 1, .iload_n 3, []) :: (36, 3, .invokevirtual 65, [51, 2, 2, 0, 0, 0, 0, 438]) :: (39, 3, .ifCond .eq 36, [41]) :: (42, 1, .aload_n 0, []) :: (43, 3, .getfield 22, [0, 9, 146]) :: (46, 1, .iload_n 3, []) :: (47, 3, .invokevirtual 95, [147, 2, 3, 0, 0, 0, 4, 443]) :: (50, 1, .iconst (-1), []) :: (51, 3, .if_icmp .ne 24, [41]) :: (54, 1, .aload_n 0, []) :: (55, 3, .getfield 22, [0, 9, 146]) :: (58, 3, .getfield 90, [4, 1, 106]) :: (61, 1, .iload_n 2, []) :: (62, 1, .iload_n 3, []) :: (63, 1, .iastore, []) :: (64, 1, .aload_n 0, []) :: (65, 1, .iload_n 3, []) :: (66, 3, .invokevirtual 73, [53, 2, 2, 0, 0, 0, 0, 447]) :: (69, 3, .iinc 1 1, []) :: (72, 3, .goto 11, [45]) :: c168_41
def c168_0 : List RI := (0, 1, .iconst 0, []) :: (1, 1, .istore_n 1, []) :: (2, 1, .iconst 0, []) :: (3, 1, .istore_n 2, []) :: c168_4
-- 169 Grid_step step()I
def c169_0 : List RI := (0, 1, .aload_n 0, []) :: (1, 3, .getfield 25, [5, 4, 231]) :: (4, 1, .aload_n 0, []) :: (5, 3, .getfield 10, [5, 0, 227]) :: (8, 3, .invokevirtual 65, [14, 2, 2, 0, 0, 0, 2, 370]) :: (11, 1, .aload_n 0, []) :: (12, 3, .getfield 10, [5, 0, 227]) :: (15, 3, .invokevirtual 214, [168, 1, 4, 0, 0, 0, 0, 389]) :: (18, 1, .ireturn, []) :: []
-- 170 Model_ahead ahead(I)I
def c170_80 : List RI := (127, 1, .ireturn, []) :: []
def c170_79 : List RI := (126, 1, .iconst (-1), []) :: c170_80
def c170_60 : List RI := (89, 1, .iadd, []) :: (90, 2, .istore 4, []) :: (92, 1, .aload_n 0, []) :: (93, 1, .iload_n 3, []) :: (94, 2, .iload 4, []) :: (96, 3, .invokevirtual 66, [46, 3, 3, 0, 0, 0, 6, 1219]) :: (99, 3, .ifCond .eq 27, [79]) :: (102, 1, .aload_n 0, []) :: (103, 1, .aload_n 0, []) :: (104, 1, .iload_n 3, []) :: (105, 2, .iload 4, []) :: (107, 3, .invokevirtual 95, [48, 3, 3, 0, 0, 0, 6, 1223]) :: (110, 3, .invokevirtual 144, [153, 2, 3, 0, 0, 0, 6, 1375]) :: (113, 3, .ifCond .ge 13, [79]) :: (116, 1, .aload_n 0, []) :: (117, 1, .iload_n 3, []) :: (118, 2, .iload 4, []) :: (120, 3, .invokevirtual 95, [48, 3, 3, 0, 0, 0, 6, 1223]) :: (123, 3, .goto 4, [80]) :: c170_79
def c170_59 : List RI := (88, 1, .iconst 0, []) :: c170_60
def c170_54 : List RI := (79, 1, .iload_n 2, []) :: (80, 1, .iconst 3, []) :: (81, 3, .if_icmp .ne 7, [59]) :: (84, 1, .iconst (-1), []) :: (85, 3, .goto 4, [60]) :: c170_59
def c170_34 : List RI := (50, 1, .iadd, []) :: (51, 1, .istore_n 3, []) :: (52, 1, .aload_n 0, []) :: (53, 3, .getfield 7, [6, 0, 1107]) :: (56, 2, .bipush 33, []) :: (58, 1, .iconst 2, []) :: (59, 1, .iload_n 1, []) :: (60, 1, .imul, []) :: (61, 1, .iadd, []) :: (62, 1, .iaload, []) :: (63, 1, .aload_n 0, []) :: (64, 3, .getfield 7, [6, 0, 1107]) :: (67, 1, .iconst 1, []) :: (68, 1, .iaload, []) :: (69, 1, .irem, []) :: (70, 1, .iload_n 2, []) :: (71, 1, .iconst 1, []) :: (72, 3, .if_icmp .ne 7, [54]) :: (75, 1, .iconst 1, []) :: (76, 3, .goto 13, [60]) :: c170_54
def c170_33 : List RI := (49, 1, .iconst 0, []) :: c170_34
def c170_28 : List RI := (40, 1, .iload_n 2, []) :: (41, 1, .iconst 2, []) :: (42, 3, .if_icmp .ne 7, [33]) :: (45, 1, .iconst 1, []) :: (46, 3, .goto 4, [34]) :: c170_33
def c170_0 : List RI := (0, 1, .aload_n 0, []) :: (1, 3, .getfield 7, [6, 0, 1107]) :: (4, 2, .bipush 33, []) :: (6, 1, .iconst 2, []) :: (7, 1, .iload_n 1, []) :: (8, 1, .imul, []) :: (9, 1, .iadd, []) :: (10, 1, .iconst 1, []) :: (11, 1, .iadd, []) :: (12, 1, .iaload, []) :: (13, 1, .istore_n 2, []) :: (14, 1, .aload_n 0, []) :: (15, 3, .getfield 7, [6, 0, 1107]) :: (18, 2, .bipush 33, []) :: (20, 1, .iconst 2, []) :: (21, 1, .iload_n 1, []) :: (22, 1, .imul, []) :: (23, 1, .iadd, []) :: (24, 1, .iaload, []) :: (25, 1, .aload_n 0, []) :: (26, 3, .getfield 7, [6, 0, 1107]) :: (29, 1, .iconst 1, []) :: (30, 1, .iaload, []) :: (31, 1, .idiv, []) :: (32, 1, .iload_n 2, []) :: (33, 3, .ifCond .ne 7, [28]) :: (36, 1, .iconst (-1), []) :: (37, 3, .goto 13, [34]) :: c170_28
-- 171 Model_step step()I
def c171_68 : List RI := (101, 1, .iload_n 1, []) :: (102, 1, .ireturn, []) :: []
def c171_66 : List RI := (95, 3, .iinc 2 1, []) :: (98, 3, .goto (-76), [16]) :: c171_68
def c171_53 : List RI := (75, 1, .aload_n 0, []) :: (76, 3, .getfield 7, [6, 0, 1107]) :: (79, 2, .bipush 33, []) :: (81, 1, .iconst 2, []) :: (82, 1, .iload_n 2, []) :: (83, 1, .imul, []) :: (84, 1, .iadd, []) :: (85, 1, .iload_n 3, []) :: (86, 1, .iastore, []) :: (87, 1, .aload_n 0, []) :: (88, 1, .iload_n 3, []) :: (89, 3, .invokevirtual 102, [59, 2, 2, 0, 0, 0, 6, 1234]) :: (92, 3, .iinc 1 1, []) :: c171_66
def c171_16 : List RI := (22, 1, .iload_n 2, []) :: (23, 1, .aload_n 0, []) :: (24, 3, .getfield 7, [6, 0, 1107]) :: (27, 1, .iconst 4, []) :: (28, 1, .iaload, []) :: (29, 3, .if_icmp .ge 72, [68]) :: (32, 1, .aload_n 0, []) :: (33, 1, .iload_n 2, []) :: (34, 3, .invokevirtual 153, [170, 2, 5, 0, 0, 0, 6, 1395]) :: (37, 1, .istore_n 3, []) :: (38, 1, .iload_n 3, []) :: (39, 3, .ifCond .ge 36, [53]) :: (42, 1, .aload_n 0, []) :: (43, 3, .getfield 7, [6, 0, 1107]) :: (46, 2, .bipush 33, []) :: (48, 1, .iconst 2, []) :: (49, 1, .iload_n 2, []) :: (50, 1, .imul, []) :: (51, 1, .iadd, []) :: (52, 1, .iconst 1, []) :: (53, 1, .iadd, []) :: (54, 1, .aload_n 0, []) :: (55, 3, .getfield 7, [6, 0, 1107]) :: (58, 2, .bipush 33, []) :: (60, 1, .iconst 2, []) :: (61, 1, .iload_n 2, []) :: (62, 1, .imul, []) :: (63, 1, .iadd, []) :: (64, 1, .iconst 1, []) :: (65, 1, .iadd, []) :: (66, 1, .iaload, []) :: (67, 1, .iconst 1, []) :: (68, 1, .iadd, []) :: (69, 1, .iconst 4, []) :: (70, 1, .irem, []) :: (71, 1, .iastore, []) :: (72, 3, .goto 23, [66]) :: c171_53
def c171_0 : List RI := (0, 1, .aload_n 0, []) :: (1, 1, .aload_n 0, []) :: (2, 3, .getfield 7, [6, 0, 1107]) :: (5, 3, .invokevirtual 85, [21, 2, 3, 0, 0, 0, 6, 1192]) :: (8, 1, .aload_n 0, []) :: (9, 3, .getfield 7, [6, 0, 1107]) :: (12, 1, .iconst 3, []) :: (13, 1, .dup2, []) :: (14, 1, .iaload, []) :: (15, 1, .iconst 1, []) :: (16, 1, .iadd, []) :: (17, 1, .iastore, []) :: (18, 1, .iconst 0, []) :: (19, 1, .istore_n 1, []) :: (20, 1, .iconst 0, []) :: (21, 1, .istore_n 2, []) :: c171_16
-- 172 Grid_wormCount wormCount()I
def c172_0 : List RI := (0, 1, .aload_n 0, []) :: (1, 3, .getfield 10, [5, 0, 227]) :: (4, 3, .getfield 187, [0, 9, 147]) :: (7, 3, .getfield 205, [4, 0, 104]) :: (10, 1, .ireturn, []) :: []
-- 173 Model_wormCount wormCount()I
def c173_0 : List RI := (0, 1, .aload_n 0, []) :: (1, 1, .iconst 0, []) :: (2, 3, .putfield 48, [6, 7, 1114, 0, 0]) :: (5, 1, .aload_n 0, []) :: (6, 3, .getfield 7, [6, 0, 1107]) :: (9, 1, .iconst 4, []) :: (10, 1, .iaload, []) :: (11, 1, .ireturn, []) :: []
-- 174 Grid_rowOfWorm rowOfWorm(I)I
def c174_0 : List RI := (0, 1, .aload_n 0, []) :: (1, 1, .iload_n 1, []) :: (2, 3, .invokevirtual 208, [155, 2, 2, 1, 6, 0, 5, 898]) :: (5, 1, .aload_n 0, []) :: (6, 3, .getfield 10, [5, 0, 227]) :: (9, 3, .getfield 187, [0, 9, 147]) :: (12, 3, .getfield 217, [4, 1, 107]) :: (15, 1, .iload_n 1, []) :: (16, 1, .iaload, []) :: (17, 2, .bipush 6, []) :: (19, 1, .idiv, []) :: (20, 1, .ireturn, []) :: []
-- 175 Law_rowOfWorm rowOfWorm(LGlowwormGrid;I[J)I
def c175_11 : List RI := (15, 1, .iconst 0, []) :: (16, 1, .ireturn, []) :: []
def c175_9 : List RI := (13, 1, .iconst 1, []) :: (14, 1, .ireturn, []) :: c175_11
def c175_0 : List RI := (0, 1, .aload_n 2, []) :: (1, 1, .iconst 0, []) :: (2, 1, .aload_n 0, []) :: (3, 1, .iload_n 1, []) :: (4, 3, .invokevirtual 83, [174, 2, 2, 1, 6, 0, 5, 910]) :: (7, 1, .i2l, []) :: (8, 1, .lastore, []) :: (9, 3, .goto 6, [11]) :: (12, 1, .astore_n 3, []) :: c175_9
-- 176 Model_rowOfWorm rowOfWorm(I)I
def c176_19 : List RI := (30, 1, .ireturn, []) :: []
def c176_6 : List RI := (12, 1, .aload_n 0, []) :: (13, 3, .getfield 7, [6, 0, 1107]) :: (16, 2, .bipush 33, []) :: (18, 1, .iconst 2, []) :: (19, 1, .iload_n 1, []) :: (20, 1, .imul, []) :: (21, 1, .iadd, []) :: (22, 1, .iaload, []) :: (23, 1, .aload_n 0, []) :: (24, 3, .getfield 7, [6, 0, 1107]) :: (27, 1, .iconst 1, []) :: (28, 1, .iaload, []) :: (29, 1, .idiv, []) :: c176_19
def c176_0 : List RI := (0, 1, .aload_n 0, []) :: (1, 1, .iload_n 1, []) :: (2, 3, .invokevirtual 150, [160, 2, 2, 0, 0, 0, 6, 1383]) :: (5, 3, .ifCond .eq 7, [6]) :: (8, 1, .iconst 0, []) :: (9, 3, .goto 21, [19]) :: c176_6
-- 177 Grid_columnOfWorm columnOfWorm(I)I
def c177_0 : List RI := (0, 1, .aload_n 0, []) :: (1, 1, .iload_n 1, []) :: (2, 3, .invokevirtual 208, [155, 2, 2, 1, 6, 0, 5, 898]) :: (5, 1, .aload_n 0, []) :: (6, 3, .getfield 10, [5, 0, 227]) :: (9, 3, .getfield 187, [0, 9, 147]) :: (12, 3, .getfield 217, [4, 1, 107]) :: (15, 1, .iload_n 1, []) :: (16, 1, .iaload, []) :: (17, 2, .bipush 6, []) :: (19, 1, .irem, []) :: (20, 1, .ireturn, []) :: []
-- 178 Law_columnOfWorm columnOfWorm(LGlowwormGrid;I[J)I
def c178_11 : List RI := (15, 1, .iconst 0, []) :: (16, 1, .ireturn, []) :: []
def c178_9 : List RI := (13, 1, .iconst 1, []) :: (14, 1, .ireturn, []) :: c178_11
def c178_0 : List RI := (0, 1, .aload_n 2, []) :: (1, 1, .iconst 0, []) :: (2, 1, .aload_n 0, []) :: (3, 1, .iload_n 1, []) :: (4, 3, .invokevirtual 86, [177, 2, 2, 1, 6, 0, 5, 917]) :: (7, 1, .i2l, []) :: (8, 1, .lastore, []) :: (9, 3, .goto 6, [11]) :: (12, 1, .astore_n 3, []) :: c178_9
-- 179 Model_columnOfWorm columnOfWorm(I)I
def c179_19 : List RI := (30, 1, .ireturn, []) :: []
def c179_6 : List RI := (12, 1, .aload_n 0, []) :: (13, 3, .getfield 7, [6, 0, 1107]) :: (16, 2, .bipush 33, []) :: (18, 1, .iconst 2, []) :: (19, 1, .iload_n 1, []) :: (20, 1, .imul, []) :: (21, 1, .iadd, []) :: (22, 1, .iaload, []) :: (23, 1, .aload_n 0, []) :: (24, 3, .getfield 7, [6, 0, 1107]) :: (27, 1, .iconst 1, []) :: (28, 1, .iaload, []) :: (29, 1, .irem, []) :: c179_19
def c179_0 : List RI := (0, 1, .aload_n 0, []) :: (1, 1, .iload_n 1, []) :: (2, 3, .invokevirtual 150, [160, 2, 2, 0, 0, 0, 6, 1383]) :: (5, 3, .ifCond .eq 7, [6]) :: (8, 1, .iconst 0, []) :: (9, 3, .goto 21, [19]) :: c179_6
-- 180 Grid_directionOf directionOf(I)C
def c180_0 : List RI := (0, 1, .aload_n 0, []) :: (1, 1, .iload_n 1, []) :: (2, 3, .invokevirtual 208, [155, 2, 2, 1, 6, 0, 5, 898]) :: (5, 2, .ldc 183, [1, 15, 865]) :: (7, 1, .aload_n 0, []) :: (8, 3, .getfield 10, [5, 0, 227]) :: (11, 3, .getfield 187, [0, 9, 147]) :: (14, 3, .getfield 220, [4, 2, 109]) :: (17, 1, .iload_n 1, []) :: (18, 1, .iaload, []) :: (19, 3, .invokevirtual 223, [165, 2, 2, 0, 0, 0, 100, 928]) :: (22, 1, .ireturn, []) :: []
-- 181 Law_directionOf directionOf(LGlowwormGrid;I[J)I
def c181_11 : List RI := (15, 1, .iconst 0, []) :: (16, 1, .ireturn, []) :: []
def c181_9 : List RI := (13, 1, .iconst 1, []) :: (14, 1, .ireturn, []) :: c181_11
def c181_0 : List RI := (0, 1, .aload_n 2, []) :: (1, 1, .iconst 0, []) :: (2, 1, .aload_n 0, []) :: (3, 1, .iload_n 1, []) :: (4, 3, .invokevirtual 89, [180, 2, 2, 1, 6, 0, 5, 924]) :: (7, 1, .i2l, []) :: (8, 1, .lastore, []) :: (9, 3, .goto 6, [11]) :: (12, 1, .astore_n 3, []) :: c181_9
-- 182 Model_directionOf directionOf(I)C
def c182_32 : List RI := (56, 1, .ireturn, []) :: []
def c182_31 : List RI := (54, 2, .bipush 119, []) :: c182_32
def c182_26 : List RI := (44, 1, .iload_n 2, []) :: (45, 1, .iconst 2, []) :: (46, 3, .if_icmp .ne 8, [31]) :: (49, 2, .bipush 115, []) :: (51, 3, .goto 5, [32]) :: c182_31
def c182_21 : List RI := (34, 1, .iload_n 2, []) :: (35, 1, .iconst 1, []) :: (36, 3, .if_icmp .ne 8, [26]) :: (39, 2, .bipush 101, []) :: (41, 3, .goto 15, [32]) :: c182_26
def c182_6 : List RI := (11, 1, .aload_n 0, []) :: (12, 3, .getfield 7, [6, 0, 1107]) :: (15, 2, .bipush 33, []) :: (17, 1, .iconst 2, []) :: (18, 1, .iload_n 1, []) :: (19, 1, .imul, []) :: (20, 1, .iadd, []) :: (21, 1, .iconst 1, []) :: (22, 1, .iadd, []) :: (23, 1, .iaload, []) :: (24, 1, .istore_n 2, []) :: (25, 1, .iload_n 2, []) :: (26, 3, .ifCond .ne 8, [21]) :: (29, 2, .bipush 110, []) :: (31, 3, .goto 25, [32]) :: c182_21
def c182_0 : List RI := (0, 1, .aload_n 0, []) :: (1, 1, .iload_n 1, []) :: (2, 3, .invokevirtual 150, [160, 2, 2, 0, 0, 0, 6, 1383]) :: (5, 3, .ifCond .eq 6, [6]) :: (8, 2, .bipush 32, []) :: (10, 1, .ireturn, []) :: c182_6
-- 183 Grid_wormIn wormIn(II)I
def c183_16 : List RI := (37, 1, .iload_n 3, []) :: (38, 1, .ireturn, []) :: []
def c183_0 : List RI := (0, 1, .aload_n 0, []) :: (1, 1, .iload_n 1, []) :: (2, 1, .iload_n 2, []) :: (3, 3, .invokevirtual 95, [40, 3, 3, 1, 6, 0, 5, 662]) :: (6, 1, .aload_n 0, []) :: (7, 3, .getfield 10, [5, 0, 227]) :: (10, 3, .getfield 187, [0, 9, 147]) :: (13, 1, .iload_n 1, []) :: (14, 1, .iload_n 2, []) :: (15, 3, .invokestatic 98, [41, 2, 2, 0, 0, 1, 0, 686]) :: (18, 3, .invokevirtual 227, [147, 2, 3, 0, 0, 0, 4, 936]) :: (21, 1, .istore_n 3, []) :: (22, 1, .iload_n 3, []) :: (23, 1, .iconst (-1), []) :: (24, 3, .if_icmp .ne 13, [16]) :: (27, 10, .athrow, [3, 230, 232, 234, 0, 792, 78]) :: c183_16
-- 184 Law_wormIn wormIn(LGlowwormGrid;II[J)I
def c184_15 : List RI := (21, 1, .iconst 0, []) :: (22, 1, .ireturn, []) :: []
def c184_13 : List RI := (19, 1, .iconst 2, []) :: (20, 1, .ireturn, []) :: c184_15
def c184_10 : List RI := (15, 1, .iconst 1, []) :: (16, 1, .ireturn, []) :: (17, 2, .astore 4, []) :: c184_13
def c184_0 : List RI := (0, 1, .aload_n 3, []) :: (1, 1, .iconst 0, []) :: (2, 1, .aload_n 0, []) :: (3, 1, .iload_n 1, []) :: (4, 1, .iload_n 2, []) :: (5, 3, .invokevirtual 93, [183, 3, 4, 2, 12, 0, 5, 932]) :: (8, 1, .i2l, []) :: (9, 1, .lastore, []) :: (10, 3, .goto 11, [15]) :: (13, 2, .astore 4, []) :: c184_10
-- 185 Model_wormIn wormIn(II)I
def c185_28 : List RI := (52, 1, .ireturn, []) :: []
def c185_22 : List RI := (42, 1, .aload_n 0, []) :: (43, 1, .aload_n 0, []) :: (44, 1, .iload_n 1, []) :: (45, 1, .iload_n 2, []) :: (46, 3, .invokevirtual 95, [48, 3, 3, 0, 0, 0, 6, 1223]) :: (49, 3, .invokevirtual 144, [153, 2, 3, 0, 0, 0, 6, 1375]) :: c185_28
def c185_18 : List RI := (32, 3, .invokevirtual 70, [19, 2, 2, 0, 0, 0, 6, 1188]) :: (35, 3, .ifCond .eq 7, [22]) :: (38, 1, .iconst 0, []) :: (39, 3, .goto 13, [28]) :: c185_22
def c185_17 : List RI := (31, 1, .iconst 0, []) :: c185_18
def c185_8 : List RI := (14, 1, .aload_n 0, []) :: (15, 1, .aload_n 0, []) :: (16, 1, .iload_n 1, []) :: (17, 1, .iload_n 2, []) :: (18, 3, .invokevirtual 95, [48, 3, 3, 0, 0, 0, 6, 1223]) :: (21, 3, .invokevirtual 144, [153, 2, 3, 0, 0, 0, 6, 1375]) :: (24, 3, .ifCond .ge 7, [17]) :: (27, 1, .iconst 2, []) :: (28, 3, .goto 4, [18]) :: c185_17
def c185_0 : List RI := (0, 1, .aload_n 0, []) :: (1, 1, .aload_n 0, []) :: (2, 1, .iload_n 1, []) :: (3, 1, .iload_n 2, []) :: (4, 3, .invokevirtual 66, [46, 3, 3, 0, 0, 0, 6, 1219]) :: (7, 3, .ifCond .ne 7, [8]) :: (10, 1, .iconst 1, []) :: (11, 3, .goto 21, [18]) :: c185_8
-- 186 Grid_stepCount stepCount()I
def c186_0 : List RI := (0, 1, .aload_n 0, []) :: (1, 3, .getfield 10, [5, 0, 227]) :: (4, 3, .getfield 235, [0, 7, 143]) :: (7, 1, .ireturn, []) :: []
-- 187 Model_stepCount stepCount()I
def c187_0 : List RI := (0, 1, .aload_n 0, []) :: (1, 1, .iconst 0, []) :: (2, 3, .putfield 48, [6, 7, 1114, 0, 0]) :: (5, 1, .aload_n 0, []) :: (6, 3, .getfield 7, [6, 0, 1107]) :: (9, 1, .iconst 3, []) :: (10, 1, .iaload, []) :: (11, 1, .ireturn, []) :: []
-- 188 Grid_appendToLine appendToLine(C)V
def c188_18 : List RI := (32, 1, .return_, []) :: []
def c188_0 : List RI := (0, 1, .aload_n 0, []) :: (1, 3, .getfield 238, [5, 10, 237]) :: (4, 1, .aload_n 0, []) :: (5, 3, .getfield 50, [5, 9, 236]) :: (8, 1, .arraylength, []) :: (9, 3, .if_icmp .ge 23, [18]) :: (12, 1, .aload_n 0, []) :: (13, 3, .getfield 50, [5, 9, 236]) :: (16, 1, .aload_n 0, []) :: (17, 3, .getfield 238, [5, 10, 237]) :: (20, 1, .iload_n 1, []) :: (21, 1, .castore, []) :: (22, 1, .aload_n 0, []) :: (23, 1, .dup, []) :: (24, 3, .getfield 238, [5, 10, 237]) :: (27, 1, .iconst 1, []) :: (28, 1, .iadd, []) :: (29, 3, .putfield 238, [5, 10, 237, 0, 0]) :: c188_18
-- 189 Grid_writeRow writeRow(I)I
def c189_39 : List RI := (80, 1, .aload_n 0, []) :: (81, 3, .getfield 238, [5, 10, 237]) :: (84, 1, .ireturn, []) :: []
def c189_37 : List RI := (74, 3, .iinc 2 1, []) :: (77, 3, .goto (-65), [8]) :: c189_39
def c189_27 : List RI := (51, 3, .invokevirtual 241, [188, 2, 2, 0, 0, 0, 5, 945]) :: (54, 1, .aload_n 0, []) :: (55, 3, .getfield 10, [5, 0, 227]) :: (58, 3, .invokevirtual 149, [96, 1, 1, 0, 0, 0, 0, 287]) :: (61, 1, .iload_n 3, []) :: (62, 3, .invokestatic 105, [42, 2, 2, 0, 0, 1, 0, 689]) :: (65, 3, .ifCond .eq 9, [37]) :: (68, 1, .aload_n 0, []) :: (69, 2, .bipush 33, []) :: (71, 3, .invokevirtual 241, [188, 2, 2, 0, 0, 0, 5, 945]) :: c189_37
def c189_26 : List RI := (49, 2, .bipush 46, []) :: c189_27
def c189_8 : List RI := (12, 1, .iload_n 2, []) :: (13, 1, .aload_n 0, []) :: (14, 3, .getfield 10, [5, 0, 227]) :: (17, 3, .getfield 124, [0, 1, 132]) :: (20, 3, .if_icmp .ge 60, [39]) :: (23, 1, .iload_n 1, []) :: (24, 1, .iload_n 2, []) :: (25, 3, .invokestatic 98, [41, 2, 2, 0, 0, 1, 0, 686]) :: (28, 1, .istore_n 3, []) :: (29, 1, .aload_n 0, []) :: (30, 1, .aload_n 0, []) :: (31, 3, .getfield 10, [5, 0, 227]) :: (34, 3, .getfield 102, [0, 4, 137]) :: (37, 1, .iload_n 3, []) :: (38, 3, .invokestatic 105, [42, 2, 2, 0, 0, 1, 0, 689]) :: (41, 3, .ifCond .eq 8, [26]) :: (44, 2, .bipush 42, []) :: (46, 3, .goto 5, [27]) :: c189_26
def c189_0 : List RI := (0, 1, .aload_n 0, []) :: (1, 1, .iload_n 1, []) :: (2, 3, .invokevirtual 130, [77, 2, 2, 1, 6, 0, 5, 723]) :: (5, 1, .aload_n 0, []) :: (6, 1, .iconst 0, []) :: (7, 3, .putfield 238, [5, 10, 237, 0, 0]) :: (10, 1, .iconst 0, []) :: (11, 1, .istore_n 2, []) :: c189_8
-- 190 Law_writeRow writeRow(LGlowwormGrid;I[J)I
def c190_11 : List RI := (15, 1, .iconst 0, []) :: (16, 1, .ireturn, []) :: []
def c190_9 : List RI := (13, 1, .iconst 1, []) :: (14, 1, .ireturn, []) :: c190_11
def c190_0 : List RI := (0, 1, .aload_n 2, []) :: (1, 1, .iconst 0, []) :: (2, 1, .aload_n 0, []) :: (3, 1, .iload_n 1, []) :: (4, 3, .invokevirtual 96, [189, 2, 4, 1, 6, 0, 5, 941]) :: (7, 1, .i2l, []) :: (8, 1, .lastore, []) :: (9, 3, .goto 6, [11]) :: (12, 1, .astore_n 3, []) :: c190_9
-- 191 Model_writes writes(I)V
def c191_0 : List RI := (0, 1, .aload_n 0, []) :: (1, 3, .getfield 32, [6, 12, 1119]) :: (4, 1, .aload_n 0, []) :: (5, 3, .getfield 156, [6, 13, 1120]) :: (8, 1, .iload_n 1, []) :: (9, 1, .i2c, []) :: (10, 1, .castore, []) :: (11, 1, .aload_n 0, []) :: (12, 1, .dup, []) :: (13, 3, .getfield 156, [6, 13, 1120]) :: (16, 1, .iconst 1, []) :: (17, 1, .iadd, []) :: (18, 3, .putfield 156, [6, 13, 1120, 0, 0]) :: (21, 1, .return_, []) :: []
-- 192 Model_writeRow writeRow(I)I
def c192_63 : List RI := (111, 1, .aload_n 0, []) :: (112, 3, .getfield 156, [6, 13, 1120]) :: (115, 1, .ireturn, []) :: []
def c192_61 : List RI := (105, 3, .iinc 2 1, []) :: (108, 3, .goto (-66), [26]) :: c192_63
def c192_45 : List RI := (75, 3, .invokevirtual 159, [191, 2, 2, 0, 0, 0, 6, 1427]) :: (78, 1, .aload_n 0, []) :: (79, 3, .getfield 7, [6, 0, 1107]) :: (82, 1, .iconst 5, []) :: (83, 1, .iaload, []) :: (84, 1, .aload_n 0, []) :: (85, 3, .getfield 7, [6, 0, 1107]) :: (88, 2, .bipush 7, []) :: (90, 1, .iaload, []) :: (91, 1, .ixor, []) :: (92, 1, .iload_n 2, []) :: (93, 3, .invokestatic 99, [49, 2, 2, 0, 0, 1, 6, 1227]) :: (96, 3, .ifCond .eq 9, [61]) :: (99, 1, .aload_n 0, []) :: (100, 2, .bipush 33, []) :: (102, 3, .invokevirtual 159, [191, 2, 2, 0, 0, 0, 6, 1427]) :: c192_61
def c192_44 : List RI := (73, 2, .bipush 46, []) :: c192_45
def c192_26 : List RI := (42, 1, .iload_n 2, []) :: (43, 1, .aload_n 0, []) :: (44, 1, .iload_n 1, []) :: (45, 1, .iconst 1, []) :: (46, 1, .iadd, []) :: (47, 1, .iconst 0, []) :: (48, 3, .invokevirtual 95, [48, 3, 3, 0, 0, 0, 6, 1223]) :: (51, 3, .if_icmp .ge 60, [63]) :: (54, 1, .aload_n 0, []) :: (55, 1, .aload_n 0, []) :: (56, 3, .getfield 7, [6, 0, 1107]) :: (59, 1, .iconst 5, []) :: (60, 1, .iaload, []) :: (61, 1, .iload_n 2, []) :: (62, 3, .invokestatic 99, [49, 2, 2, 0, 0, 1, 6, 1227]) :: (65, 3, .ifCond .eq 8, [44]) :: (68, 2, .bipush 42, []) :: (70, 3, .goto 5, [45]) :: c192_44
def c192_18 : List RI := (30, 1, .aload_n 0, []) :: (31, 1, .iconst 0, []) :: (32, 3, .putfield 156, [6, 13, 1120, 0, 0]) :: (35, 1, .aload_n 0, []) :: (36, 1, .iload_n 1, []) :: (37, 1, .iconst 0, []) :: (38, 3, .invokevirtual 95, [48, 3, 3, 0, 0, 0, 6, 1223]) :: (41, 1, .istore_n 2, []) :: c192_26
def c192_14 : List RI := (22, 3, .invokevirtual 70, [19, 2, 2, 0, 0, 0, 6, 1188]) :: (25, 3, .ifCond .eq 5, [18]) :: (28, 1, .iconst 0, []) :: (29, 1, .ireturn, []) :: c192_18
def c192_13 : List RI := (21, 1, .iconst 1, []) :: c192_14
def c192_0 : List RI := (0, 1, .aload_n 0, []) :: (1, 1, .iload_n 1, []) :: (2, 1, .iconst 0, []) :: (3, 1, .aload_n 0, []) :: (4, 3, .getfield 7, [6, 0, 1107]) :: (7, 1, .iconst 0, []) :: (8, 1, .iaload, []) :: (9, 1, .iconst 1, []) :: (10, 1, .isub, []) :: (11, 3, .invokestatic 62, [18, 3, 3, 0, 0, 1, 6, 1185]) :: (14, 3, .ifCond .eq 7, [13]) :: (17, 1, .iconst 0, []) :: (18, 3, .goto 4, [14]) :: c192_13
-- 193 Grid_lineAt lineAt(I)C
def c193_7 : List RI := (22, 1, .aload_n 0, []) :: (23, 3, .getfield 50, [5, 9, 236]) :: (26, 1, .iload_n 1, []) :: (27, 1, .caload, []) :: (28, 1, .ireturn, []) :: []
def c193_6 : List RI := (12, 10, .athrow, [1, 133, 244, 137, 0, 670, 76]) :: c193_7
def c193_0 : List RI := (0, 1, .iload_n 1, []) :: (1, 3, .ifCond .lt 11, [6]) :: (4, 1, .iload_n 1, []) :: (5, 1, .aload_n 0, []) :: (6, 3, .getfield 238, [5, 10, 237]) :: (9, 3, .if_icmp .lt 13, [7]) :: c193_6
-- 194 Law_lineAt lineAt(LGlowwormGrid;I[J)I
def c194_11 : List RI := (15, 1, .iconst 0, []) :: (16, 1, .ireturn, []) :: []
def c194_9 : List RI := (13, 1, .iconst 1, []) :: (14, 1, .ireturn, []) :: c194_11
def c194_0 : List RI := (0, 1, .aload_n 2, []) :: (1, 1, .iconst 0, []) :: (2, 1, .aload_n 0, []) :: (3, 1, .iload_n 1, []) :: (4, 3, .invokevirtual 99, [193, 2, 2, 1, 6, 0, 5, 952]) :: (7, 1, .i2l, []) :: (8, 1, .lastore, []) :: (9, 3, .goto 6, [11]) :: (12, 1, .astore_n 3, []) :: c194_9
-- 195 Model_lineAt lineAt(I)C
def c195_20 : List RI := (37, 1, .ireturn, []) :: []
def c195_16 : List RI := (31, 1, .aload_n 0, []) :: (32, 3, .getfield 32, [6, 12, 1119]) :: (35, 1, .iload_n 1, []) :: (36, 1, .caload, []) :: c195_20
def c195_12 : List RI := (20, 3, .invokevirtual 70, [19, 2, 2, 0, 0, 0, 6, 1188]) :: (23, 3, .ifCond .eq 8, [16]) :: (26, 2, .bipush 32, []) :: (28, 3, .goto 9, [20]) :: c195_16
def c195_11 : List RI := (19, 1, .iconst 1, []) :: c195_12
def c195_0 : List RI := (0, 1, .aload_n 0, []) :: (1, 1, .iload_n 1, []) :: (2, 1, .iconst 0, []) :: (3, 1, .aload_n 0, []) :: (4, 3, .getfield 156, [6, 13, 1120]) :: (7, 1, .iconst 1, []) :: (8, 1, .isub, []) :: (9, 3, .invokestatic 62, [18, 3, 3, 0, 0, 1, 6, 1185]) :: (12, 3, .ifCond .eq 7, [11]) :: (15, 1, .iconst 0, []) :: (16, 3, .goto 4, [12]) :: c195_11
-- 196 Grid_meanPresses meanPresses()D
def c196_17 : List RI := (28, 1, .iload_n 1, []) :: (29, 1, .i2d, []) :: (30, 1, .aload_n 0, []) :: (31, 3, .getfield 10, [5, 0, 227]) :: (34, 3, .invokevirtual 73, [15, 1, 1, 0, 0, 0, 0, 477]) :: (37, 1, .i2d, []) :: (38, 1, .ddiv, []) :: (39, 1, .dreturn, []) :: []
def c196_4 : List RI := (4, 1, .iload_n 2, []) :: (5, 2, .bipush 30, []) :: (7, 3, .if_icmp .ge 21, [17]) :: (10, 1, .iload_n 1, []) :: (11, 1, .aload_n 0, []) :: (12, 3, .getfield 10, [5, 0, 227]) :: (15, 3, .getfield 139, [0, 8, 145]) :: (18, 1, .iload_n 2, []) :: (19, 1, .iaload, []) :: (20, 1, .iadd, []) :: (21, 1, .istore_n 1, []) :: (22, 3, .iinc 2 1, []) :: (25, 3, .goto (-21), [4]) :: c196_17
def c196_0 : List RI := (0, 1, .iconst 0, []) :: (1, 1, .istore_n 1, []) :: (2, 1, .iconst 0, []) :: (3, 1, .istore_n 2, []) :: c196_4
-- 197 Model_meanPresses meanPresses()D
def c197_22 : List RI := (35, 1, .iload_n 1, []) :: (36, 1, .i2d, []) :: (37, 1, .aload_n 0, []) :: (38, 3, .invokevirtual 74, [23, 1, 1, 0, 0, 0, 6, 1203]) :: (41, 1, .i2d, []) :: (42, 1, .ddiv, []) :: (43, 1, .dreturn, []) :: []
def c197_7 : List RI := (9, 1, .iload_n 2, []) :: (10, 1, .aload_n 0, []) :: (11, 3, .invokevirtual 74, [23, 1, 1, 0, 0, 0, 6, 1203]) :: (14, 3, .if_icmp .ge 21, [22]) :: (17, 1, .iload_n 1, []) :: (18, 1, .aload_n 0, []) :: (19, 3, .getfield 7, [6, 0, 1107]) :: (22, 2, .bipush 8, []) :: (24, 1, .iload_n 2, []) :: (25, 1, .iadd, []) :: (26, 1, .iaload, []) :: (27, 1, .iadd, []) :: (28, 1, .istore_n 1, []) :: (29, 3, .iinc 2 1, []) :: (32, 3, .goto (-23), [7]) :: c197_22
def c197_0 : List RI := (0, 1, .aload_n 0, []) :: (1, 1, .iconst 0, []) :: (2, 3, .putfield 48, [6, 7, 1114, 0, 0]) :: (5, 1, .iconst 0, []) :: (6, 1, .istore_n 1, []) :: (7, 1, .iconst 0, []) :: (8, 1, .istore_n 2, []) :: c197_7
-- 198 Grid_litShare litShare()F
def c198_0 : List RI := (0, 1, .aload_n 0, []) :: (1, 3, .getfield 10, [5, 0, 227]) :: (4, 3, .getfield 102, [0, 4, 137]) :: (7, 3, .invokestatic 116, [54, 1, 1, 0, 0, 1, 0, 277]) :: (10, 1, .i2f, []) :: (11, 1, .aload_n 0, []) :: (12, 3, .getfield 10, [5, 0, 227]) :: (15, 3, .invokevirtual 73, [15, 1, 1, 0, 0, 0, 0, 477]) :: (18, 1, .i2f, []) :: (19, 1, .fdiv, []) :: (20, 1, .freturn, []) :: []
-- 199 Model_litShare litShare()F
def c199_0 : List RI := (0, 1, .aload_n 0, []) :: (1, 1, .iconst 0, []) :: (2, 3, .putfield 48, [6, 7, 1114, 0, 0]) :: (5, 1, .aload_n 0, []) :: (6, 3, .getfield 7, [6, 0, 1107]) :: (9, 1, .iconst 5, []) :: (10, 1, .iaload, []) :: (11, 3, .invokestatic 106, [60, 1, 3, 0, 0, 1, 6, 1246]) :: (14, 1, .i2f, []) :: (15, 1, .aload_n 0, []) :: (16, 3, .invokevirtual 74, [23, 1, 1, 0, 0, 0, 6, 1203]) :: (19, 1, .i2f, []) :: (20, 1, .fdiv, []) :: (21, 1, .freturn, []) :: []
-- 200 Worms_areApart areApart()Z
def c200_18 : List RI := (32, 1, .iconst 1, []) :: (33, 1, .ireturn, []) :: []
def c200_16 : List RI := (26, 3, .iinc 1 1, []) :: (29, 3, .goto (-27), [2]) :: c200_18
def c200_2 : List RI := (2, 1, .iload_n 1, []) :: (3, 1, .aload_n 0, []) :: (4, 3, .getfield 18, [4, 0, 102]) :: (7, 3, .if_icmp .ge 25, [18]) :: (10, 1, .aload_n 0, []) :: (11, 1, .aload_n 0, []) :: (12, 3, .getfield 11, [4, 1, 105]) :: (15, 1, .iload_n 1, []) :: (16, 1, .iaload, []) :: (17, 3, .invokevirtual 22, [147, 2, 3, 0, 0, 0, 4, 497]) :: (20, 1, .iload_n 1, []) :: (21, 3, .if_icmp .eq 5, [16]) :: (24, 1, .iconst 0, []) :: (25, 1, .ireturn, []) :: c200_16
def c200_0 : List RI := (0, 1, .iconst 0, []) :: (1, 1, .istore_n 1, []) :: c200_2
-- 201 Grid_isConsistent isConsistent()Z
def c201_26 : List RI := (60, 1, .ireturn, []) :: []
def c201_25 : List RI := (59, 1, .iconst 0, []) :: c201_26
def c201_0 : List RI := (0, 1, .aload_n 0, []) :: (1, 3, .getfield 10, [5, 0, 227]) :: (4, 3, .getfield 102, [0, 4, 137]) :: (7, 1, .aload_n 0, []) :: (8, 3, .getfield 10, [5, 0, 227]) :: (11, 3, .invokevirtual 127, [71, 1, 3, 0, 0, 0, 0, 489]) :: (14, 3, .if_icmp .ne 45, [25]) :: (17, 1, .aload_n 0, []) :: (18, 3, .getfield 32, [5, 5, 232]) :: (21, 1, .aload_n 0, []) :: (22, 3, .getfield 10, [5, 0, 227]) :: (25, 3, .invokevirtual 152, [108, 2, 2, 0, 0, 0, 3, 299]) :: (28, 1, .aload_n 0, []) :: (29, 3, .getfield 32, [5, 5, 232]) :: (32, 1, .aload_n 0, []) :: (33, 3, .getfield 10, [5, 0, 227]) :: (36, 3, .invokevirtual 156, [116, 2, 4, 0, 0, 0, 3, 344]) :: (39, 3, .if_icmp .ne 20, [25]) :: (42, 1, .aload_n 0, []) :: (43, 3, .getfield 10, [5, 0, 227]) :: (46, 3, .getfield 187, [0, 9, 147]) :: (49, 3, .invokevirtual 246, [200, 1, 2, 0, 0, 0, 4, 493]) :: (52, 3, .ifCond .eq 7, [25]) :: (55, 1, .iconst 1, []) :: (56, 3, .goto 4, [26]) :: c201_25
-- 202 Model_isConsistent isConsistent()Z
def c202_0 : List RI := (0, 1, .aload_n 0, []) :: (1, 1, .iconst 0, []) :: (2, 3, .putfield 48, [6, 7, 1114, 0, 0]) :: (5, 1, .iconst 1, []) :: (6, 1, .ireturn, []) :: []
-- 203 Text_append append(C)V
def c203_16 : List RI := (29, 1, .return_, []) :: []
def c203_0 : List RI := (0, 1, .aload_n 0, []) :: (1, 3, .getfield 15, [1, 1, 219]) :: (4, 2, .bipush 60, []) :: (6, 3, .if_icmp .ge 23, [16]) :: (9, 1, .aload_n 0, []) :: (10, 3, .getfield 11, [1, 0, 218]) :: (13, 1, .aload_n 0, []) :: (14, 3, .getfield 15, [1, 1, 219]) :: (17, 1, .iload_n 1, []) :: (18, 1, .castore, []) :: (19, 1, .aload_n 0, []) :: (20, 1, .dup, []) :: (21, 3, .getfield 15, [1, 1, 219]) :: (24, 1, .iconst 1, []) :: (25, 1, .iadd, []) :: (26, 3, .putfield 15, [1, 1, 219, 0, 0]) :: c203_16
-- 204 Grid_type type(C)I
def c204_13 : List RI := (44, 1, .aload_n 0, []) :: (45, 3, .getfield 39, [5, 6, 233]) :: (48, 1, .iload_n 1, []) :: (49, 3, .invokevirtual 257, [203, 2, 2, 0, 0, 0, 1, 966]) :: (52, 1, .aload_n 0, []) :: (53, 3, .getfield 39, [5, 6, 233]) :: (56, 3, .getfield 252, [1, 1, 220]) :: (59, 1, .ireturn, []) :: []
def c204_7 : List RI := (22, 1, .aload_n 0, []) :: (23, 3, .getfield 39, [5, 6, 233]) :: (26, 3, .getfield 252, [1, 1, 220]) :: (29, 2, .bipush 60, []) :: (31, 3, .if_icmp .lt 13, [13]) :: (34, 10, .athrow, [2, 197, 255, 201, 0, 871, 80]) :: c204_13
def c204_6 : List RI := (12, 10, .athrow, [0, 58, 250, 62, 0, 514, 68]) :: c204_7
def c204_0 : List RI := (0, 1, .iload_n 1, []) :: (1, 2, .bipush 32, []) :: (3, 3, .if_icmp .lt 9, [6]) :: (6, 1, .iload_n 1, []) :: (7, 2, .bipush 126, []) :: (9, 3, .if_icmp .le 13, [7]) :: c204_6
-- 205 Law_type type(LGlowwormGrid;C[J)I
def c205_14 : List RI := (18, 1, .iconst 0, []) :: (19, 1, .ireturn, []) :: []
def c205_12 : List RI := (16, 1, .iconst 2, []) :: (17, 1, .ireturn, []) :: c205_14
def c205_9 : List RI := (13, 1, .iconst 1, []) :: (14, 1, .ireturn, []) :: (15, 1, .astore_n 3, []) :: c205_12
def c205_0 : List RI := (0, 1, .aload_n 2, []) :: (1, 1, .iconst 0, []) :: (2, 1, .aload_n 0, []) :: (3, 1, .iload_n 1, []) :: (4, 3, .invokevirtual 102, [204, 2, 2, 1, 6, 0, 5, 960]) :: (7, 1, .i2l, []) :: (8, 1, .lastore, []) :: (9, 3, .goto 9, [14]) :: (12, 1, .astore_n 3, []) :: c205_9
-- 206 Model_type type(C)I
def c206_19 : List RI := (38, 1, .aload_n 0, []) :: (39, 3, .getfield 22, [6, 8, 1115]) :: (42, 1, .aload_n 0, []) :: (43, 3, .getfield 162, [6, 9, 1116]) :: (46, 1, .iload_n 1, []) :: (47, 1, .iastore, []) :: (48, 1, .aload_n 0, []) :: (49, 1, .dup, []) :: (50, 3, .getfield 162, [6, 9, 1116]) :: (53, 1, .iconst 1, []) :: (54, 1, .iadd, []) :: (55, 3, .putfield 162, [6, 9, 1116, 0, 0]) :: (58, 1, .aload_n 0, []) :: (59, 3, .getfield 162, [6, 9, 1116]) :: (62, 1, .ireturn, []) :: []
def c206_15 : List RI := (30, 3, .invokevirtual 70, [19, 2, 2, 0, 0, 0, 6, 1188]) :: (33, 3, .ifCond .eq 5, [19]) :: (36, 1, .iconst 0, []) :: (37, 1, .ireturn, []) :: c206_19
def c206_14 : List RI := (29, 1, .iconst 0, []) :: c206_15
def c206_8 : List RI := (16, 1, .aload_n 0, []) :: (17, 3, .getfield 162, [6, 9, 1116]) :: (20, 2, .bipush 60, []) :: (22, 3, .if_icmp .ne 7, [14]) :: (25, 1, .iconst 2, []) :: (26, 3, .goto 4, [15]) :: c206_14
def c206_0 : List RI := (0, 1, .aload_n 0, []) :: (1, 1, .iload_n 1, []) :: (2, 2, .bipush 32, []) :: (4, 2, .bipush 126, []) :: (6, 3, .invokestatic 62, [18, 3, 3, 0, 0, 1, 6, 1185]) :: (9, 3, .ifCond .ne 7, [8]) :: (12, 1, .iconst 1, []) :: (13, 3, .goto 17, [15]) :: c206_8
-- 207 Text_characterAt characterAt(I)C
def c207_12 : List RI := (23, 1, .ireturn, []) :: []
def c207_11 : List RI := (21, 2, .bipush 32, []) :: c207_12
def c207_0 : List RI := (0, 1, .iload_n 1, []) :: (1, 3, .ifCond .lt 20, [11]) :: (4, 1, .iload_n 1, []) :: (5, 1, .aload_n 0, []) :: (6, 3, .getfield 15, [1, 1, 219]) :: (9, 3, .if_icmp .ge 12, [11]) :: (12, 1, .aload_n 0, []) :: (13, 3, .getfield 11, [1, 0, 218]) :: (16, 1, .iload_n 1, []) :: (17, 1, .caload, []) :: (18, 3, .goto 5, [12]) :: c207_11
-- 208 Text_fits fits(CC)Z
def c208_34 : List RI := (94, 1, .ireturn, []) :: []
def c208_33 : List RI := (93, 1, .iconst 0, []) :: c208_34
def c208_28 : List RI := (84, 1, .iload_n 1, []) :: (85, 1, .iload_n 0, []) :: (86, 3, .if_icmp .ne 7, [33]) :: (89, 1, .iconst 1, []) :: (90, 3, .goto 4, [34]) :: c208_33
def c208_27 : List RI := (83, 1, .ireturn, []) :: c208_28
def c208_26 : List RI := (82, 1, .iconst 0, []) :: c208_27
def c208_20 : List RI := (69, 2, .ldc 71, [1, 15, 1003]) :: (71, 1, .iload_n 1, []) :: (72, 3, .invokevirtual 68, [34, 2, 2, 0, 0, 0, 100, 1002]) :: (75, 3, .ifCond .lt 7, [26]) :: (78, 1, .iconst 1, []) :: (79, 3, .goto 4, [27]) :: c208_26
def c208_19 : List RI := (68, 1, .ireturn, []) :: c208_20
def c208_18 : List RI := (67, 1, .iconst 0, []) :: c208_19
def c208_12 : List RI := (54, 2, .ldc 66, [1, 14, 1001]) :: (56, 1, .iload_n 1, []) :: (57, 3, .invokevirtual 68, [34, 2, 2, 0, 0, 0, 100, 1002]) :: (60, 3, .ifCond .lt 7, [18]) :: (63, 1, .iconst 1, []) :: (64, 3, .goto 4, [19]) :: c208_18
def c208_11 : List RI := (53, 1, .ireturn, []) :: c208_12
def c208_10 : List RI := (52, 1, .iconst 0, []) :: c208_11
def c208_2 : List RI := (36, 1, .iload_n 1, []) :: (37, 2, .bipush 48, []) :: (39, 3, .if_icmp .lt 13, [10]) :: (42, 1, .iload_n 1, []) :: (43, 2, .bipush 57, []) :: (45, 3, .if_icmp .gt 7, [10]) :: (48, 1, .iconst 1, []) :: (49, 3, .goto 4, [11]) :: c208_10
def c208_0 : List RI := (0, 1, .iload_n 0, []) :: (1, 35, .lookupswitch 83 #[(35, 35), (64, 53), (94, 68)], [28, 35, 2, 64, 12, 94, 20]) :: c208_2
-- 209 Text_matchOf matchOf(Ljava/lang/String;I)I
def c209_27 : List RI := (52, 1, .iload_n 3, []) :: (53, 1, .iconst 0, []) :: (54, 3, .invokestatic 50, [30, 2, 2, 0, 0, 1, 0, 1004]) :: (57, 1, .ireturn, []) :: []
def c209_25 : List RI := (46, 3, .iinc 4 1, []) :: (49, 3, .goto (-32), [10]) :: c209_27
def c209_10 : List RI := (17, 2, .iload 4, []) :: (19, 1, .iload_n 3, []) :: (20, 3, .if_icmp .ge 32, [27]) :: (23, 1, .aload_n 1, []) :: (24, 2, .iload 4, []) :: (26, 3, .invokevirtual 59, [165, 2, 2, 0, 0, 0, 100, 993]) :: (29, 1, .aload_n 0, []) :: (30, 1, .iload_n 2, []) :: (31, 2, .iload 4, []) :: (33, 1, .iadd, []) :: (34, 3, .invokevirtual 38, [207, 2, 2, 0, 0, 0, 1, 994]) :: (37, 3, .invokestatic 62, [208, 2, 2, 0, 0, 1, 1, 998]) :: (40, 3, .ifCond .ne 6, [25]) :: (43, 2, .iload 4, []) :: (45, 1, .ireturn, []) :: c209_25
def c209_0 : List RI := (0, 1, .aload_n 1, []) :: (1, 3, .invokevirtual 33, [28, 1, 1, 0, 0, 0, 100, 991]) :: (4, 1, .aload_n 0, []) :: (5, 3, .getfield 15, [1, 1, 219]) :: (8, 1, .iload_n 2, []) :: (9, 1, .isub, []) :: (10, 3, .invokestatic 56, [13, 2, 2, 0, 0, 1, 0, 992]) :: (13, 1, .istore_n 3, []) :: (14, 1, .iconst 0, []) :: (15, 2, .istore 4, []) :: c209_10
-- 210 Text_kindAt kindAt(I)LGlowwormGrid$CommandKind;
def c210_25 : List RI := (49, 1, .aconst_null, []) :: (50, 1, .areturn, []) :: []
def c210_23 : List RI := (43, 3, .iinc 2 1, []) :: (46, 3, .goto (-44), [2]) :: c210_25
def c210_2 : List RI := (2, 1, .iload_n 2, []) :: (3, 3, .getstatic 42, [1, 985]) :: (6, 1, .arraylength, []) :: (7, 3, .if_icmp .ge 42, [25]) :: (10, 1, .aload_n 0, []) :: (11, 3, .getstatic 42, [1, 985]) :: (14, 1, .iload_n 2, []) :: (15, 1, .aaload, []) :: (16, 3, .getfield 27, [101, 1, 1559]) :: (19, 1, .iload_n 1, []) :: (20, 3, .invokevirtual 46, [209, 3, 5, 0, 0, 0, 1, 987]) :: (23, 3, .getstatic 42, [1, 985]) :: (26, 1, .iload_n 2, []) :: (27, 1, .aaload, []) :: (28, 3, .getfield 27, [101, 1, 1559]) :: (31, 3, .invokevirtual 33, [28, 1, 1, 0, 0, 0, 100, 991]) :: (34, 3, .if_icmp .ne 9, [23]) :: (37, 3, .getstatic 42, [1, 985]) :: (40, 1, .iload_n 2, []) :: (41, 1, .aaload, []) :: (42, 1, .areturn, []) :: c210_23
def c210_0 : List RI := (0, 1, .iconst 0, []) :: (1, 1, .istore_n 2, []) :: c210_2
-- 211 Text_longestMatch longestMatch(I)I
def c211_20 : List RI := (36, 1, .iload_n 2, []) :: (37, 1, .ireturn, []) :: []
def c211_4 : List RI := (4, 1, .iload_n 3, []) :: (5, 3, .getstatic 42, [1, 985]) :: (8, 1, .arraylength, []) :: (9, 3, .if_icmp .ge 27, [20]) :: (12, 1, .iload_n 2, []) :: (13, 1, .aload_n 0, []) :: (14, 3, .getstatic 42, [1, 985]) :: (17, 1, .iload_n 3, []) :: (18, 1, .aaload, []) :: (19, 3, .getfield 27, [101, 1, 1559]) :: (22, 1, .iload_n 1, []) :: (23, 3, .invokevirtual 46, [209, 3, 5, 0, 0, 0, 1, 987]) :: (26, 3, .invokestatic 50, [30, 2, 2, 0, 0, 1, 0, 1004]) :: (29, 1, .istore_n 2, []) :: (30, 3, .iinc 3 1, []) :: (33, 3, .goto (-29), [4]) :: c211_20
def c211_0 : List RI := (0, 1, .iconst 0, []) :: (1, 1, .istore_n 2, []) :: (2, 1, .iconst 0, []) :: (3, 1, .istore_n 3, []) :: c211_4
-- 212 Text_faultPosition faultPosition()I
def c212_42 : List RI := (67, 1, .iconst (-1), []) :: (68, 1, .ireturn, []) :: []
def c212_37 : List RI := (60, 1, .iload_n 3, []) :: (61, 1, .iconst 1, []) :: (62, 1, .iadd, []) :: (63, 1, .istore_n 1, []) :: (64, 3, .goto (-62), [2]) :: c212_42
def c212_30 : List RI := (48, 1, .aload_n 0, []) :: (49, 1, .iload_n 3, []) :: (50, 3, .invokevirtual 38, [207, 2, 2, 0, 0, 0, 1, 994]) :: (53, 2, .bipush 59, []) :: (55, 3, .if_icmp .eq 5, [37]) :: (58, 1, .iload_n 3, []) :: (59, 1, .ireturn, []) :: c212_37
def c212_18 : List RI := (28, 1, .iload_n 1, []) :: (29, 1, .aload_n 2, []) :: (30, 3, .getfield 27, [101, 1, 1559]) :: (33, 3, .invokevirtual 33, [28, 1, 1, 0, 0, 0, 100, 991]) :: (36, 1, .iadd, []) :: (37, 1, .istore_n 3, []) :: (38, 1, .iload_n 3, []) :: (39, 1, .aload_n 0, []) :: (40, 3, .getfield 15, [1, 1, 219]) :: (43, 3, .if_icmp .lt 5, [30]) :: (46, 1, .iconst (-1), []) :: (47, 1, .ireturn, []) :: c212_30
def c212_2 : List RI := (2, 1, .iload_n 1, []) :: (3, 1, .aload_n 0, []) :: (4, 3, .getfield 15, [1, 1, 219]) :: (7, 3, .if_icmp .gt 60, [42]) :: (10, 1, .aload_n 0, []) :: (11, 1, .iload_n 1, []) :: (12, 3, .invokevirtual 19, [210, 2, 3, 0, 0, 0, 1, 981]) :: (15, 1, .astore_n 2, []) :: (16, 1, .aload_n 2, []) :: (17, 3, .ifnonnull 11, [18]) :: (20, 1, .iload_n 1, []) :: (21, 1, .aload_n 0, []) :: (22, 1, .iload_n 1, []) :: (23, 3, .invokevirtual 23, [211, 2, 4, 0, 0, 0, 1, 1005]) :: (26, 1, .iadd, []) :: (27, 1, .ireturn, []) :: c212_18
def c212_0 : List RI := (0, 1, .iconst 0, []) :: (1, 1, .istore_n 1, []) :: c212_2
-- 213 Text_commandCount commandCount()I
def c213_16 : List RI := (31, 1, .iload_n 1, []) :: (32, 1, .ireturn, []) :: []
def c213_14 : List RI := (25, 3, .iinc 2 1, []) :: (28, 3, .goto (-24), [4]) :: c213_16
def c213_4 : List RI := (4, 1, .iload_n 2, []) :: (5, 1, .aload_n 0, []) :: (6, 3, .getfield 15, [1, 1, 219]) :: (9, 3, .if_icmp .ge 22, [16]) :: (12, 1, .aload_n 0, []) :: (13, 1, .iload_n 2, []) :: (14, 3, .invokevirtual 38, [207, 2, 2, 0, 0, 0, 1, 994]) :: (17, 2, .bipush 59, []) :: (19, 3, .if_icmp .ne 6, [14]) :: (22, 3, .iinc 1 1, []) :: c213_14
def c213_0 : List RI := (0, 1, .iconst 1, []) :: (1, 1, .istore_n 1, []) :: (2, 1, .iconst 0, []) :: (3, 1, .istore_n 2, []) :: c213_4
-- 214 Text_signOf signOf(LGlowwormGrid$CommandKind;I)C
def c214_0 : List RI := (0, 1, .aload_n 0, []) :: (1, 1, .iload_n 2, []) :: (2, 1, .aload_n 1, []) :: (3, 3, .getfield 27, [101, 1, 1559]) :: (6, 3, .invokevirtual 33, [28, 1, 1, 0, 0, 0, 100, 991]) :: (9, 1, .iadd, []) :: (10, 1, .iconst 1, []) :: (11, 1, .isub, []) :: (12, 3, .invokevirtual 38, [207, 2, 2, 0, 0, 0, 1, 994]) :: (15, 1, .ireturn, []) :: []
-- 215 Grid_runSolution runSolution(I)Z
def c215_5 : List RI := (7, 1, .aload_n 0, []) :: (8, 3, .getfield 10, [5, 0, 227]) :: (11, 1, .iload_n 1, []) :: (12, 3, .invokevirtual 172, [139, 2, 3, 0, 0, 0, 0, 822]) :: (15, 1, .pop, []) :: (16, 1, .iconst 1, []) :: (17, 1, .ireturn, []) :: []
def c215_0 : List RI := (0, 1, .iload_n 1, []) :: (1, 1, .iconst (-1), []) :: (2, 3, .if_icmp .ne 5, [5]) :: (5, 1, .iconst 0, []) :: (6, 1, .ireturn, []) :: c215_5
-- 216 Grid_runChase runChase()Z
def c216_7 : List RI := (14, 1, .aload_n 0, []) :: (15, 3, .getfield 10, [5, 0, 227]) :: (18, 3, .invokevirtual 180, [143, 1, 4, 0, 0, 0, 0, 851]) :: (21, 1, .pop, []) :: (22, 1, .iconst 1, []) :: (23, 1, .ireturn, []) :: []
def c216_0 : List RI := (0, 1, .aload_n 0, []) :: (1, 3, .getfield 10, [5, 0, 227]) :: (4, 3, .getfield 87, [0, 3, 136]) :: (7, 2, .bipush 43, []) :: (9, 3, .if_icmp .eq 5, [7]) :: (12, 1, .iconst 0, []) :: (13, 1, .ireturn, []) :: c216_7
-- 217 Text_firstDigitOf firstDigitOf(LGlowwormGrid$CommandKind;I)I
def c217_0 : List RI := (0, 1, .aload_n 0, []) :: (1, 1, .iload_n 2, []) :: (2, 1, .aload_n 1, []) :: (3, 3, .getfield 27, [101, 1, 1559]) :: (6, 2, .bipush 35, []) :: (8, 3, .invokevirtual 68, [34, 2, 2, 0, 0, 0, 100, 1002]) :: (11, 1, .iadd, []) :: (12, 3, .invokevirtual 38, [207, 2, 2, 0, 0, 0, 1, 994]) :: (15, 2, .bipush 48, []) :: (17, 1, .isub, []) :: (18, 1, .ireturn, []) :: []
-- 218 Text_secondDigitOf secondDigitOf(LGlowwormGrid$CommandKind;I)I
def c218_0 : List RI := (0, 1, .aload_n 0, []) :: (1, 1, .iload_n 2, []) :: (2, 1, .aload_n 1, []) :: (3, 3, .getfield 27, [101, 1, 1559]) :: (6, 2, .bipush 35, []) :: (8, 3, .invokevirtual 68, [34, 2, 2, 0, 0, 0, 100, 1002]) :: (11, 1, .iadd, []) :: (12, 1, .iconst 2, []) :: (13, 1, .iadd, []) :: (14, 3, .invokevirtual 38, [207, 2, 2, 0, 0, 0, 1, 994]) :: (17, 2, .bipush 48, []) :: (19, 1, .isub, []) :: (20, 1, .ireturn, []) :: []
-- 219 Grid_runSize runSize(II)Z
def c219_6 : List RI := (10, 1, .aload_n 0, []) :: (11, 3, .getfield 10, [5, 0, 227]) :: (14, 1, .iload_n 1, []) :: (15, 1, .iload_n 2, []) :: (16, 3, .invokevirtual 69, [3, 3, 4, 0, 0, 0, 0, 583]) :: (19, 1, .iconst 1, []) :: (20, 1, .ireturn, []) :: []
def c219_0 : List RI := (0, 1, .iload_n 1, []) :: (1, 1, .iload_n 2, []) :: (2, 3, .invokestatic 54, [10, 2, 2, 0, 0, 1, 0, 511]) :: (5, 3, .ifCond .ne 5, [6]) :: (8, 1, .iconst 0, []) :: (9, 1, .ireturn, []) :: c219_6
-- 220 Grid_runWorm runWorm(II)Z
def c220_10 : List RI := (20, 1, .aload_n 0, []) :: (21, 3, .getfield 10, [5, 0, 227]) :: (24, 3, .getfield 187, [0, 9, 147]) :: (27, 1, .iload_n 1, []) :: (28, 1, .iload_n 2, []) :: (29, 3, .invokevirtual 202, [149, 3, 3, 0, 0, 0, 4, 887]) :: (32, 1, .iconst 1, []) :: (33, 1, .ireturn, []) :: []
def c220_8 : List RI := (18, 1, .iconst 0, []) :: (19, 1, .ireturn, []) :: c220_10
def c220_0 : List RI := (0, 1, .iload_n 2, []) :: (1, 3, .ifCond .lt 17, [8]) :: (4, 1, .aload_n 0, []) :: (5, 3, .getfield 10, [5, 0, 227]) :: (8, 3, .getfield 187, [0, 9, 147]) :: (11, 1, .iload_n 1, []) :: (12, 3, .invokevirtual 191, [148, 2, 2, 0, 0, 0, 4, 867]) :: (15, 3, .ifCond .ne 5, [10]) :: c220_8
-- 221 Grid_runInCell runInCell(LGlowwormGrid$CommandKind;I)Z
def c221_60 : List RI := (137, 1, .aload_n 0, []) :: (138, 2, .iload 5, []) :: (140, 2, .ldc 183, [1, 15, 865]) :: (142, 1, .aload_n 0, []) :: (143, 3, .getfield 39, [5, 6, 233]) :: (146, 1, .aload_n 1, []) :: (147, 1, .iload_n 2, []) :: (148, 3, .invokevirtual 330, [214, 3, 3, 0, 0, 0, 1, 1031]) :: (151, 3, .invokevirtual 79, [34, 2, 2, 0, 0, 0, 100, 592]) :: (154, 3, .invokevirtual 353, [220, 3, 3, 0, 0, 0, 5, 1059]) :: (157, 1, .ireturn, []) :: []
def c221_49 : List RI := (119, 1, .aload_n 0, []) :: (120, 3, .getfield 10, [5, 0, 227]) :: (123, 1, .dup, []) :: (124, 3, .getfield 146, [0, 6, 141]) :: (127, 1, .iconst 1, []) :: (128, 2, .iload 5, []) :: (130, 1, .ishl, []) :: (131, 1, .ixor, []) :: (132, 3, .putfield 146, [0, 6, 141, 0, 0]) :: (135, 1, .iconst 1, []) :: (136, 1, .ireturn, []) :: c221_60
def c221_42 : List RI := (107, 1, .aload_n 0, []) :: (108, 3, .getfield 10, [5, 0, 227]) :: (111, 2, .iload 5, []) :: (113, 1, .iconst 0, []) :: (114, 3, .invokevirtual 108, [43, 3, 3, 0, 0, 0, 0, 690]) :: (117, 1, .iconst 1, []) :: (118, 1, .ireturn, []) :: c221_49
def c221_35 : List RI := (95, 1, .aload_n 0, []) :: (96, 3, .getfield 10, [5, 0, 227]) :: (99, 2, .iload 5, []) :: (101, 1, .iconst 1, []) :: (102, 3, .invokevirtual 108, [43, 3, 3, 0, 0, 0, 0, 690]) :: (105, 1, .iconst 1, []) :: (106, 1, .ireturn, []) :: c221_42
def c221_29 : List RI := (84, 1, .aload_n 0, []) :: (85, 3, .getfield 10, [5, 0, 227]) :: (88, 2, .iload 5, []) :: (90, 3, .invokevirtual 112, [53, 2, 2, 0, 0, 0, 0, 701]) :: (93, 1, .iconst 1, []) :: (94, 1, .ireturn, []) :: c221_35
def c221_20 : List RI := (36, 1, .iload_n 3, []) :: (37, 2, .iload 4, []) :: (39, 3, .invokestatic 98, [41, 2, 2, 0, 0, 1, 0, 686]) :: (42, 2, .istore 5, []) :: (44, 3, .getstatic 322, [0, 1023]) :: (47, 1, .aload_n 1, []) :: (48, 3, .invokevirtual 327, [1025, 1026, 1028]) :: (51, 1, .iaload, []) :: (52, 32, .tableswitch 85 6 9 #[32, 43, 55, 67], [60, 6, 29, 7, 35, 8, 42, 9, 49]) :: c221_29
def c221_0 : List RI := (0, 1, .aload_n 0, []) :: (1, 3, .getfield 39, [5, 6, 233]) :: (4, 1, .aload_n 1, []) :: (5, 1, .iload_n 2, []) :: (6, 3, .invokevirtual 340, [217, 3, 3, 0, 0, 0, 1, 1043]) :: (9, 1, .istore_n 3, []) :: (10, 1, .aload_n 0, []) :: (11, 3, .getfield 39, [5, 6, 233]) :: (14, 1, .aload_n 1, []) :: (15, 1, .iload_n 2, []) :: (16, 3, .invokevirtual 344, [218, 3, 3, 0, 0, 0, 1, 1047]) :: (19, 2, .istore 4, []) :: (21, 1, .aload_n 0, []) :: (22, 3, .getfield 10, [5, 0, 227]) :: (25, 1, .iload_n 3, []) :: (26, 2, .iload 4, []) :: (28, 3, .invokevirtual 292, [39, 3, 3, 0, 0, 0, 0, 666]) :: (31, 3, .ifCond .ne 5, [20]) :: (34, 1, .iconst 0, []) :: (35, 1, .ireturn, []) :: c221_20
-- 222 Grid_runCommand runCommand(LGlowwormGrid$CommandKind;I)Z
def c222_45 : List RI := (116, 1, .aload_n 0, []) :: (117, 1, .aload_n 1, []) :: (118, 1, .iload_n 2, []) :: (119, 3, .invokevirtual 350, [221, 3, 6, 0, 0, 0, 5, 1055]) :: (122, 1, .ireturn, []) :: []
def c222_32 : List RI := (93, 1, .aload_n 0, []) :: (94, 1, .aload_n 0, []) :: (95, 3, .getfield 39, [5, 6, 233]) :: (98, 1, .aload_n 1, []) :: (99, 1, .iload_n 2, []) :: (100, 3, .invokevirtual 340, [217, 3, 3, 0, 0, 0, 1, 1043]) :: (103, 1, .aload_n 0, []) :: (104, 3, .getfield 39, [5, 6, 233]) :: (107, 1, .aload_n 1, []) :: (108, 1, .iload_n 2, []) :: (109, 3, .invokevirtual 344, [218, 3, 3, 0, 0, 0, 1, 1047]) :: (112, 3, .invokevirtual 347, [219, 3, 3, 0, 0, 0, 5, 1051]) :: (115, 1, .ireturn, []) :: c222_45
def c222_29 : List RI := (88, 1, .aload_n 0, []) :: (89, 3, .invokevirtual 337, [216, 1, 1, 0, 0, 0, 5, 1039]) :: (92, 1, .ireturn, []) :: c222_32
def c222_21 : List RI := (72, 1, .aload_n 0, []) :: (73, 1, .aload_n 0, []) :: (74, 3, .getfield 32, [5, 5, 232]) :: (77, 1, .aload_n 0, []) :: (78, 3, .getfield 10, [5, 0, 227]) :: (81, 3, .invokevirtual 301, [129, 2, 5, 0, 0, 0, 3, 785]) :: (84, 3, .invokevirtual 334, [215, 2, 2, 0, 0, 0, 5, 1035]) :: (87, 1, .ireturn, []) :: c222_29
def c222_15 : List RI := (62, 1, .aload_n 0, []) :: (63, 3, .getfield 10, [5, 0, 227]) :: (66, 3, .invokevirtual 214, [168, 1, 4, 0, 0, 0, 0, 389]) :: (69, 1, .pop, []) :: (70, 1, .iconst 1, []) :: (71, 1, .ireturn, []) :: c222_21
def c222_5 : List RI := (44, 1, .aload_n 0, []) :: (45, 3, .getfield 10, [5, 0, 227]) :: (48, 1, .aload_n 0, []) :: (49, 3, .getfield 39, [5, 6, 233]) :: (52, 1, .aload_n 1, []) :: (53, 1, .iload_n 2, []) :: (54, 3, .invokevirtual 330, [214, 3, 3, 0, 0, 0, 1, 1031]) :: (57, 3, .invokevirtual 91, [35, 2, 2, 0, 0, 0, 0, 650]) :: (60, 1, .iconst 1, []) :: (61, 1, .ireturn, []) :: c222_15
def c222_0 : List RI := (0, 3, .getstatic 322, [0, 1023]) :: (3, 1, .aload_n 1, []) :: (4, 3, .invokevirtual 327, [1025, 1026, 1028]) :: (7, 1, .iaload, []) :: (8, 36, .tableswitch 108 1 5 #[36, 54, 64, 80, 85], [45, 1, 5, 2, 15, 3, 21, 4, 29, 5, 32]) :: c222_5
-- 223 Grid_runUntilFailure runUntilFailure(I)I
def c223_31 : List RI := (55, 1, .iload_n 1, []) :: (56, 1, .ireturn, []) :: []
def c223_21 : List RI := (36, 1, .iload_n 2, []) :: (37, 2, .aload 4, []) :: (39, 3, .getfield 314, [101, 1, 1561]) :: (42, 3, .invokevirtual 320, [28, 1, 1, 0, 0, 0, 100, 1063]) :: (45, 1, .iconst 1, []) :: (46, 1, .iadd, []) :: (47, 1, .iadd, []) :: (48, 1, .istore_n 2, []) :: (49, 3, .iinc 3 1, []) :: (52, 3, .goto (-48), [4]) :: c223_31
def c223_19 : List RI := (34, 1, .iload_n 3, []) :: (35, 1, .ireturn, []) :: c223_21
def c223_4 : List RI := (4, 1, .iload_n 3, []) :: (5, 1, .iload_n 1, []) :: (6, 3, .if_icmp .ge 49, [31]) :: (9, 1, .aload_n 0, []) :: (10, 3, .getfield 39, [5, 6, 233]) :: (13, 1, .iload_n 2, []) :: (14, 3, .invokevirtual 306, [210, 2, 3, 0, 0, 0, 1, 1018]) :: (17, 2, .astore 4, []) :: (19, 2, .aload 4, []) :: (21, 3, .ifnull 13, [19]) :: (24, 1, .aload_n 0, []) :: (25, 2, .aload 4, []) :: (27, 1, .iload_n 2, []) :: (28, 3, .invokevirtual 310, [222, 3, 3, 0, 0, 0, 5, 1019]) :: (31, 3, .ifCond .ne 5, [21]) :: c223_19
def c223_0 : List RI := (0, 1, .iconst 0, []) :: (1, 1, .istore_n 2, []) :: (2, 1, .iconst 0, []) :: (3, 1, .istore_n 3, []) :: c223_4
-- 224 Grid_execute execute()I
def c224_44 : List RI := (102, 1, .aload_n 0, []) :: (103, 3, .getfield 25, [5, 4, 231]) :: (106, 1, .aload_n 0, []) :: (107, 3, .getfield 16, [5, 1, 228]) :: (110, 3, .invokevirtual 65, [14, 2, 2, 0, 0, 0, 2, 370]) :: (113, 1, .iload_n 2, []) :: (114, 1, .ireturn, []) :: []
def c224_15 : List RI := (37, 1, .aload_n 0, []) :: (38, 3, .getfield 39, [5, 6, 233]) :: (41, 3, .invokevirtual 265, [213, 1, 3, 0, 0, 0, 1, 1010]) :: (44, 1, .istore_n 2, []) :: (45, 1, .aload_n 0, []) :: (46, 3, .getfield 16, [5, 1, 228]) :: (49, 1, .aload_n 0, []) :: (50, 3, .getfield 10, [5, 0, 227]) :: (53, 3, .invokevirtual 268, [12, 2, 2, 0, 0, 0, 0, 502]) :: (56, 1, .aload_n 0, []) :: (57, 1, .iload_n 2, []) :: (58, 3, .invokevirtual 271, [223, 2, 5, 0, 0, 0, 5, 1014]) :: (61, 1, .istore_n 3, []) :: (62, 1, .aload_n 0, []) :: (63, 3, .getfield 39, [5, 6, 233]) :: (66, 1, .iconst 0, []) :: (67, 3, .putfield 252, [1, 1, 220, 0, 0]) :: (70, 1, .iload_n 3, []) :: (71, 1, .iload_n 2, []) :: (72, 3, .if_icmp .ge 30, [44]) :: (75, 1, .aload_n 0, []) :: (76, 3, .getfield 10, [5, 0, 227]) :: (79, 1, .aload_n 0, []) :: (80, 3, .getfield 16, [5, 1, 228]) :: (83, 3, .invokevirtual 268, [12, 2, 2, 0, 0, 0, 0, 502]) :: (86, 1, .aload_n 0, []) :: (87, 1, .iload_n 3, []) :: (88, 3, .putfield 47, [5, 8, 235, 0, 0]) :: (91, 11, .athrow, [2, 197, 274, 201, 1, 871, 80]) :: c224_44
def c224_0 : List RI := (0, 1, .aload_n 0, []) :: (1, 3, .getfield 39, [5, 6, 233]) :: (4, 3, .invokevirtual 260, [212, 1, 4, 0, 0, 0, 1, 977]) :: (7, 1, .istore_n 1, []) :: (8, 1, .iload_n 1, []) :: (9, 1, .iconst (-1), []) :: (10, 3, .if_icmp .eq 27, [15]) :: (13, 1, .aload_n 0, []) :: (14, 3, .getfield 39, [5, 6, 233]) :: (17, 1, .iconst 0, []) :: (18, 3, .putfield 252, [1, 1, 220, 0, 0]) :: (21, 1, .aload_n 0, []) :: (22, 1, .iload_n 1, []) :: (23, 3, .putfield 43, [5, 7, 234, 0, 0]) :: (26, 11, .athrow, [0, 58, 263, 62, 1, 514, 68]) :: c224_15
-- 225 Law_execute execute(LGlowwormGrid;[J)I
def c225_13 : List RI := (17, 1, .iconst 0, []) :: (18, 1, .ireturn, []) :: []
def c225_11 : List RI := (15, 1, .iconst 2, []) :: (16, 1, .ireturn, []) :: c225_13
def c225_8 : List RI := (12, 1, .iconst 1, []) :: (13, 1, .ireturn, []) :: (14, 1, .astore_n 2, []) :: c225_11
def c225_0 : List RI := (0, 1, .aload_n 1, []) :: (1, 1, .iconst 0, []) :: (2, 1, .aload_n 0, []) :: (3, 3, .invokevirtual 106, [224, 1, 4, 1, 6, 0, 5, 973]) :: (6, 1, .i2l, []) :: (7, 1, .lastore, []) :: (8, 3, .goto 9, [13]) :: (11, 1, .astore_n 2, []) :: c225_8
-- 226 Model_here here()I
def c226_12 : List RI := (24, 1, .ireturn, []) :: []
def c226_11 : List RI := (23, 1, .iconst (-1), []) :: c226_12
def c226_0 : List RI := (0, 1, .aload_n 0, []) :: (1, 3, .getfield 165, [6, 20, 1127]) :: (4, 1, .aload_n 0, []) :: (5, 3, .getfield 162, [6, 9, 1116]) :: (8, 3, .if_icmp .ge 15, [11]) :: (11, 1, .aload_n 0, []) :: (12, 3, .getfield 22, [6, 8, 1115]) :: (15, 1, .aload_n 0, []) :: (16, 3, .getfield 165, [6, 20, 1127]) :: (19, 1, .iaload, []) :: (20, 3, .goto 4, [12]) :: c226_11
-- 227 Model_skips skips(I)Z
def c227_6 : List RI := (10, 1, .aload_n 0, []) :: (11, 1, .dup, []) :: (12, 3, .getfield 165, [6, 20, 1127]) :: (15, 1, .iconst 1, []) :: (16, 1, .iadd, []) :: (17, 3, .putfield 165, [6, 20, 1127, 0, 0]) :: (20, 1, .iconst 1, []) :: (21, 1, .ireturn, []) :: []
def c227_0 : List RI := (0, 1, .aload_n 0, []) :: (1, 3, .invokevirtual 168, [226, 1, 1, 0, 0, 0, 6, 1467]) :: (4, 1, .iload_n 1, []) :: (5, 3, .if_icmp .eq 5, [6]) :: (8, 1, .iconst 0, []) :: (9, 1, .ireturn, []) :: c227_6
-- 228 Model_isWord isWord(ILjava/lang/String;)Z
def c228_24 : List RI := (42, 1, .iconst 1, []) :: (43, 1, .ireturn, []) :: []
def c228_22 : List RI := (36, 3, .iinc 3 1, []) :: (39, 3, .goto (-25), [10]) :: c228_24
def c228_10 : List RI := (14, 1, .iload_n 3, []) :: (15, 1, .aload_n 2, []) :: (16, 3, .invokevirtual 174, [28, 1, 1, 0, 0, 0, 100, 1480]) :: (19, 3, .if_icmp .ge 23, [24]) :: (22, 1, .aload_n 0, []) :: (23, 1, .aload_n 2, []) :: (24, 1, .iload_n 3, []) :: (25, 3, .invokevirtual 178, [165, 2, 2, 0, 0, 0, 100, 1481]) :: (28, 3, .invokevirtual 182, [227, 2, 2, 0, 0, 0, 6, 1463]) :: (31, 3, .ifCond .ne 5, [22]) :: (34, 1, .iconst 0, []) :: (35, 1, .ireturn, []) :: c228_22
def c228_0 : List RI := (0, 1, .aload_n 0, []) :: (1, 3, .getfield 45, [6, 21, 1128]) :: (4, 1, .iconst 4, []) :: (5, 1, .aload_n 0, []) :: (6, 3, .getfield 171, [6, 22, 1129]) :: (9, 1, .imul, []) :: (10, 1, .iload_n 1, []) :: (11, 1, .iastore, []) :: (12, 1, .iconst 0, []) :: (13, 1, .istore_n 3, []) :: c228_10
-- 229 Model_figure figure(I)Z
def c229_12 : List RI := (25, 1, .aload_n 0, []) :: (26, 3, .getfield 45, [6, 21, 1128]) :: (29, 1, .iload_n 1, []) :: (30, 1, .aload_n 0, []) :: (31, 3, .invokevirtual 168, [226, 1, 1, 0, 0, 0, 6, 1467]) :: (34, 2, .bipush 48, []) :: (36, 1, .isub, []) :: (37, 1, .iastore, []) :: (38, 1, .aload_n 0, []) :: (39, 1, .dup, []) :: (40, 3, .getfield 165, [6, 20, 1127]) :: (43, 1, .iconst 1, []) :: (44, 1, .iadd, []) :: (45, 3, .putfield 165, [6, 20, 1127, 0, 0]) :: (48, 1, .iconst 1, []) :: (49, 1, .ireturn, []) :: []
def c229_10 : List RI := (23, 1, .iconst 0, []) :: (24, 1, .ireturn, []) :: c229_12
def c229_0 : List RI := (0, 1, .aload_n 0, []) :: (1, 2, .bipush 32, []) :: (3, 3, .invokevirtual 182, [227, 2, 2, 0, 0, 0, 6, 1463]) :: (6, 3, .ifCond .eq 17, [10]) :: (9, 1, .aload_n 0, []) :: (10, 3, .invokevirtual 168, [226, 1, 1, 0, 0, 0, 6, 1467]) :: (13, 2, .bipush 48, []) :: (15, 2, .bipush 57, []) :: (17, 3, .invokestatic 62, [18, 3, 3, 0, 0, 1, 6, 1185]) :: (20, 3, .ifCond .ne 5, [12]) :: c229_10
-- 230 Model_both both(I)Z
def c230_13 : List RI := (23, 1, .ireturn, []) :: []
def c230_12 : List RI := (22, 1, .iconst 0, []) :: c230_13
def c230_0 : List RI := (0, 1, .aload_n 0, []) :: (1, 1, .iload_n 1, []) :: (2, 3, .invokevirtual 185, [229, 2, 2, 0, 0, 0, 6, 1486]) :: (5, 3, .ifCond .eq 17, [12]) :: (8, 1, .aload_n 0, []) :: (9, 1, .iload_n 1, []) :: (10, 1, .iconst 1, []) :: (11, 1, .iadd, []) :: (12, 3, .invokevirtual 185, [229, 2, 2, 0, 0, 0, 6, 1486]) :: (15, 3, .ifCond .eq 7, [12]) :: (18, 1, .iconst 1, []) :: (19, 3, .goto 4, [13]) :: c230_12
-- 231 Model_withS withS(I)Z
def c231_38 : List RI := (76, 1, .ireturn, []) :: []
def c231_37 : List RI := (75, 1, .iconst 0, []) :: c231_38
def c231_26 : List RI := (51, 1, .aload_n 0, []) :: (52, 2, .bipush 111, []) :: (54, 3, .invokevirtual 182, [227, 2, 2, 0, 0, 0, 6, 1463]) :: (57, 3, .ifCond .eq 18, [37]) :: (60, 1, .aload_n 0, []) :: (61, 2, .bipush 8, []) :: (63, 2, .ldc 199, [1, 28, 1491]) :: (65, 3, .invokevirtual 190, [228, 3, 4, 0, 0, 0, 6, 1476]) :: (68, 3, .ifCond .eq 7, [37]) :: (71, 1, .iconst 1, []) :: (72, 3, .goto 4, [38]) :: c231_37
def c231_17 : List RI := (33, 1, .aload_n 0, []) :: (34, 2, .bipush 116, []) :: (36, 3, .invokevirtual 182, [227, 2, 2, 0, 0, 0, 6, 1463]) :: (39, 3, .ifCond .eq 12, [26]) :: (42, 1, .aload_n 0, []) :: (43, 2, .bipush 7, []) :: (45, 2, .ldc 197, [1, 27, 1490]) :: (47, 3, .invokevirtual 190, [228, 3, 4, 0, 0, 0, 6, 1476]) :: (50, 1, .ireturn, []) :: c231_26
def c231_16 : List RI := (32, 1, .ireturn, []) :: c231_17
def c231_15 : List RI := (31, 1, .iconst 0, []) :: c231_16
def c231_0 : List RI := (0, 1, .aload_n 0, []) :: (1, 2, .bipush 105, []) :: (3, 3, .invokevirtual 182, [227, 2, 2, 0, 0, 0, 6, 1463]) :: (6, 3, .ifCond .eq 27, [17]) :: (9, 1, .aload_n 0, []) :: (10, 1, .iconst 4, []) :: (11, 2, .ldc 188, [1, 26, 1475]) :: (13, 3, .invokevirtual 190, [228, 3, 4, 0, 0, 0, 6, 1476]) :: (16, 3, .ifCond .eq 15, [15]) :: (19, 1, .aload_n 0, []) :: (20, 1, .iload_n 1, []) :: (21, 3, .invokevirtual 194, [230, 2, 2, 0, 0, 0, 6, 1482]) :: (24, 3, .ifCond .eq 7, [15]) :: (27, 1, .iconst 1, []) :: (28, 3, .goto 4, [16]) :: c231_15
-- 232 Model_wayHere wayHere(I)Z
def c232_31 : List RI := (62, 1, .ireturn, []) :: []
def c232_30 : List RI := (61, 1, .iconst 0, []) :: c232_31
def c232_28 : List RI := (57, 1, .iconst 1, []) :: (58, 3, .goto 4, [31]) :: c232_30
def c232_6 : List RI := (11, 1, .aload_n 0, []) :: (12, 3, .getfield 45, [6, 21, 1128]) :: (15, 1, .iload_n 1, []) :: (16, 1, .aload_n 0, []) :: (17, 3, .invokevirtual 168, [226, 1, 1, 0, 0, 0, 6, 1467]) :: (20, 1, .iastore, []) :: (21, 1, .aload_n 0, []) :: (22, 2, .bipush 110, []) :: (24, 3, .invokevirtual 182, [227, 2, 2, 0, 0, 0, 6, 1463]) :: (27, 3, .ifCond .ne 30, [28]) :: (30, 1, .aload_n 0, []) :: (31, 2, .bipush 101, []) :: (33, 3, .invokevirtual 182, [227, 2, 2, 0, 0, 0, 6, 1463]) :: (36, 3, .ifCond .ne 21, [28]) :: (39, 1, .aload_n 0, []) :: (40, 2, .bipush 115, []) :: (42, 3, .invokevirtual 182, [227, 2, 2, 0, 0, 0, 6, 1463]) :: (45, 3, .ifCond .ne 12, [28]) :: (48, 1, .aload_n 0, []) :: (49, 2, .bipush 119, []) :: (51, 3, .invokevirtual 182, [227, 2, 2, 0, 0, 0, 6, 1463]) :: (54, 3, .ifCond .eq 7, [30]) :: c232_28
def c232_0 : List RI := (0, 1, .aload_n 0, []) :: (1, 2, .bipush 32, []) :: (3, 3, .invokevirtual 182, [227, 2, 2, 0, 0, 0, 6, 1463]) :: (6, 3, .ifCond .ne 5, [6]) :: (9, 1, .iconst 0, []) :: (10, 1, .ireturn, []) :: c232_6
-- 233 Model_patternHere patternHere(I)Z
def c233_25 : List RI := (51, 1, .ireturn, []) :: []
def c233_24 : List RI := (50, 1, .iconst 0, []) :: c233_25
def c233_22 : List RI := (46, 1, .iconst 1, []) :: (47, 3, .goto 4, [25]) :: c233_24
def c233_0 : List RI := (0, 1, .aload_n 0, []) :: (1, 3, .getfield 45, [6, 21, 1128]) :: (4, 1, .iload_n 1, []) :: (5, 1, .aload_n 0, []) :: (6, 3, .invokevirtual 168, [226, 1, 1, 0, 0, 0, 6, 1467]) :: (9, 1, .iastore, []) :: (10, 1, .aload_n 0, []) :: (11, 2, .bipush 43, []) :: (13, 3, .invokevirtual 182, [227, 2, 2, 0, 0, 0, 6, 1463]) :: (16, 3, .ifCond .ne 30, [22]) :: (19, 1, .aload_n 0, []) :: (20, 2, .bipush 120, []) :: (22, 3, .invokevirtual 182, [227, 2, 2, 0, 0, 0, 6, 1463]) :: (25, 3, .ifCond .ne 21, [22]) :: (28, 1, .aload_n 0, []) :: (29, 2, .bipush 111, []) :: (31, 3, .invokevirtual 182, [227, 2, 2, 0, 0, 0, 6, 1463]) :: (34, 3, .ifCond .ne 12, [22]) :: (37, 1, .aload_n 0, []) :: (38, 2, .bipush 115, []) :: (40, 3, .invokevirtual 182, [227, 2, 2, 0, 0, 0, 6, 1463]) :: (43, 3, .ifCond .eq 7, [24]) :: c233_22
-- 234 Model_commandHere commandHere()Z
def c234_133 : List RI := (254, 1, .ireturn, []) :: []
def c234_132 : List RI := (253, 1, .iconst 0, []) :: c234_133
def c234_121 : List RI := (231, 1, .aload_n 0, []) :: (232, 1, .iconst 5, []) :: (233, 2, .ldc 219, [1, 35, 1502]) :: (235, 3, .invokevirtual 190, [228, 3, 4, 0, 0, 0, 6, 1476]) :: (238, 3, .ifCond .eq 15, [132]) :: (241, 1, .aload_n 0, []) :: (242, 1, .iload_n 1, []) :: (243, 3, .invokevirtual 221, [233, 2, 2, 0, 0, 0, 6, 1503]) :: (246, 3, .ifCond .eq 7, [132]) :: (249, 1, .iconst 1, []) :: (250, 3, .goto 4, [133]) :: c234_132
def c234_119 : List RI := (227, 1, .iconst 0, []) :: (228, 3, .goto 26, [133]) :: c234_121
def c234_104 : List RI := (196, 1, .aload_n 0, []) :: (197, 2, .bipush 114, []) :: (199, 3, .invokevirtual 182, [227, 2, 2, 0, 0, 0, 6, 1463]) :: (202, 3, .ifCond .eq 29, [121]) :: (205, 1, .aload_n 0, []) :: (206, 1, .iconst 0, []) :: (207, 2, .ldc 217, [1, 34, 1501]) :: (209, 3, .invokevirtual 190, [228, 3, 4, 0, 0, 0, 6, 1476]) :: (212, 3, .ifCond .eq 15, [119]) :: (215, 1, .aload_n 0, []) :: (216, 1, .iload_n 1, []) :: (217, 3, .invokevirtual 194, [230, 2, 2, 0, 0, 0, 6, 1482]) :: (220, 3, .ifCond .eq 7, [119]) :: (223, 1, .iconst 1, []) :: (224, 3, .goto 30, [133]) :: c234_119
def c234_98 : List RI := (185, 1, .aload_n 0, []) :: (186, 2, .bipush 112, []) :: (188, 3, .invokevirtual 182, [227, 2, 2, 0, 0, 0, 6, 1463]) :: (191, 3, .ifCond .ne 5, [104]) :: (194, 1, .iconst 0, []) :: (195, 1, .ireturn, []) :: c234_104
def c234_89 : List RI := (167, 1, .aload_n 0, []) :: (168, 2, .bipush 99, []) :: (170, 3, .invokevirtual 182, [227, 2, 2, 0, 0, 0, 6, 1463]) :: (173, 3, .ifCond .eq 12, [98]) :: (176, 1, .aload_n 0, []) :: (177, 2, .bipush 9, []) :: (179, 2, .ldc 215, [1, 33, 1500]) :: (181, 3, .invokevirtual 190, [228, 3, 4, 0, 0, 0, 6, 1476]) :: (184, 1, .ireturn, []) :: c234_98
def c234_88 : List RI := (166, 1, .ireturn, []) :: c234_89
def c234_87 : List RI := (165, 1, .iconst 0, []) :: c234_88
def c234_66 : List RI := (123, 1, .aload_n 0, []) :: (124, 2, .bipush 119, []) :: (126, 3, .invokevirtual 182, [227, 2, 2, 0, 0, 0, 6, 1463]) :: (129, 3, .ifCond .eq 38, [89]) :: (132, 1, .aload_n 0, []) :: (133, 2, .bipush 6, []) :: (135, 2, .ldc 210, [1, 32, 1495]) :: (137, 3, .invokevirtual 190, [228, 3, 4, 0, 0, 0, 6, 1476]) :: (140, 3, .ifCond .eq 25, [87]) :: (143, 1, .aload_n 0, []) :: (144, 1, .iload_n 1, []) :: (145, 3, .invokevirtual 194, [230, 2, 2, 0, 0, 0, 6, 1482]) :: (148, 3, .ifCond .eq 17, [87]) :: (151, 1, .aload_n 0, []) :: (152, 1, .iload_n 1, []) :: (153, 1, .iconst 2, []) :: (154, 1, .iadd, []) :: (155, 3, .invokevirtual 212, [232, 2, 2, 0, 0, 0, 6, 1496]) :: (158, 3, .ifCond .eq 7, [87]) :: (161, 1, .iconst 1, []) :: (162, 3, .goto 4, [88]) :: c234_87
def c234_65 : List RI := (122, 1, .ireturn, []) :: c234_66
def c234_64 : List RI := (121, 1, .iconst 0, []) :: c234_65
def c234_49 : List RI := (90, 1, .aload_n 0, []) :: (91, 2, .bipush 103, []) :: (93, 3, .invokevirtual 182, [227, 2, 2, 0, 0, 0, 6, 1463]) :: (96, 3, .ifCond .eq 27, [66]) :: (99, 1, .aload_n 0, []) :: (100, 1, .iconst 3, []) :: (101, 2, .ldc 208, [1, 31, 1494]) :: (103, 3, .invokevirtual 190, [228, 3, 4, 0, 0, 0, 6, 1476]) :: (106, 3, .ifCond .eq 15, [64]) :: (109, 1, .aload_n 0, []) :: (110, 1, .iload_n 1, []) :: (111, 3, .invokevirtual 194, [230, 2, 2, 0, 0, 0, 6, 1482]) :: (114, 3, .ifCond .eq 7, [64]) :: (117, 1, .iconst 1, []) :: (118, 3, .goto 4, [65]) :: c234_64
def c234_48 : List RI := (89, 1, .ireturn, []) :: c234_49
def c234_47 : List RI := (88, 1, .iconst 0, []) :: c234_48
def c234_32 : List RI := (57, 1, .aload_n 0, []) :: (58, 2, .bipush 100, []) :: (60, 3, .invokevirtual 182, [227, 2, 2, 0, 0, 0, 6, 1463]) :: (63, 3, .ifCond .eq 27, [49]) :: (66, 1, .aload_n 0, []) :: (67, 1, .iconst 2, []) :: (68, 2, .ldc 206, [1, 30, 1493]) :: (70, 3, .invokevirtual 190, [228, 3, 4, 0, 0, 0, 6, 1476]) :: (73, 3, .ifCond .eq 15, [47]) :: (76, 1, .aload_n 0, []) :: (77, 1, .iload_n 1, []) :: (78, 3, .invokevirtual 194, [230, 2, 2, 0, 0, 0, 6, 1482]) :: (81, 3, .ifCond .eq 7, [47]) :: (84, 1, .iconst 1, []) :: (85, 3, .goto 4, [48]) :: c234_47
def c234_31 : List RI := (56, 1, .ireturn, []) :: c234_32
def c234_30 : List RI := (55, 1, .iconst 0, []) :: c234_31
def c234_15 : List RI := (24, 1, .aload_n 0, []) :: (25, 2, .bipush 108, []) :: (27, 3, .invokevirtual 182, [227, 2, 2, 0, 0, 0, 6, 1463]) :: (30, 3, .ifCond .eq 27, [32]) :: (33, 1, .aload_n 0, []) :: (34, 1, .iconst 1, []) :: (35, 2, .ldc 204, [1, 29, 1492]) :: (37, 3, .invokevirtual 190, [228, 3, 4, 0, 0, 0, 6, 1476]) :: (40, 3, .ifCond .eq 15, [30]) :: (43, 1, .aload_n 0, []) :: (44, 1, .iload_n 1, []) :: (45, 3, .invokevirtual 194, [230, 2, 2, 0, 0, 0, 6, 1482]) :: (48, 3, .ifCond .eq 7, [30]) :: (51, 1, .iconst 1, []) :: (52, 3, .goto 4, [31]) :: c234_30
def c234_0 : List RI := (0, 1, .iconst 4, []) :: (1, 1, .aload_n 0, []) :: (2, 3, .getfield 171, [6, 22, 1129]) :: (5, 1, .imul, []) :: (6, 1, .iconst 1, []) :: (7, 1, .iadd, []) :: (8, 1, .istore_n 1, []) :: (9, 1, .aload_n 0, []) :: (10, 2, .bipush 115, []) :: (12, 3, .invokevirtual 182, [227, 2, 2, 0, 0, 0, 6, 1463]) :: (15, 3, .ifCond .eq 9, [15]) :: (18, 1, .aload_n 0, []) :: (19, 1, .iload_n 1, []) :: (20, 3, .invokevirtual 201, [231, 2, 2, 0, 0, 0, 6, 1471]) :: (23, 1, .ireturn, []) :: c234_15
-- 235 Model_isText isText()Z
def c235_29 : List RI := (54, 1, .ireturn, []) :: []
def c235_28 : List RI := (53, 1, .iconst 0, []) :: c235_29
def c235_11 : List RI := (19, 1, .aload_n 0, []) :: (20, 1, .dup, []) :: (21, 3, .getfield 171, [6, 22, 1129]) :: (24, 1, .iconst 1, []) :: (25, 1, .iadd, []) :: (26, 3, .putfield 171, [6, 22, 1129, 0, 0]) :: (29, 1, .aload_n 0, []) :: (30, 2, .bipush 59, []) :: (32, 3, .invokevirtual 182, [227, 2, 2, 0, 0, 0, 6, 1463]) :: (35, 3, .ifCond .ne (-25), [6]) :: (38, 1, .aload_n 0, []) :: (39, 3, .getfield 165, [6, 20, 1127]) :: (42, 1, .aload_n 0, []) :: (43, 3, .getfield 162, [6, 9, 1116]) :: (46, 3, .if_icmp .ne 7, [28]) :: (49, 1, .iconst 1, []) :: (50, 3, .goto 4, [29]) :: c235_28
def c235_6 : List RI := (10, 1, .aload_n 0, []) :: (11, 3, .invokevirtual 224, [234, 1, 2, 0, 0, 0, 6, 1459]) :: (14, 3, .ifCond .ne 5, [11]) :: (17, 1, .iconst 0, []) :: (18, 1, .ireturn, []) :: c235_11
def c235_0 : List RI := (0, 1, .aload_n 0, []) :: (1, 1, .iconst 0, []) :: (2, 3, .putfield 165, [6, 20, 1127, 0, 0]) :: (5, 1, .aload_n 0, []) :: (6, 1, .iconst 0, []) :: (7, 3, .putfield 171, [6, 22, 1129, 0, 0]) :: c235_6
-- 236 Model_carries carries(I)I
def c236_81 : List RI := (170, 1, .aload_n 0, []) :: (171, 3, .invokevirtual 254, [146, 1, 3, 0, 0, 0, 6, 1519]) :: (174, 1, .ireturn, []) :: []
def c236_78 : List RI := (165, 1, .aload_n 0, []) :: (166, 3, .invokevirtual 251, [142, 1, 3, 0, 0, 0, 6, 1518]) :: (169, 1, .ireturn, []) :: c236_81
def c236_75 : List RI := (160, 1, .aload_n 0, []) :: (161, 3, .invokevirtual 248, [171, 1, 4, 0, 0, 0, 6, 1517]) :: (164, 1, .ireturn, []) :: c236_78
def c236_63 : List RI := (144, 1, .aload_n 0, []) :: (145, 1, .iload_n 2, []) :: (146, 1, .iload_n 3, []) :: (147, 1, .aload_n 0, []) :: (148, 3, .getfield 45, [6, 21, 1128]) :: (151, 1, .iload_n 1, []) :: (152, 1, .iconst 3, []) :: (153, 1, .iadd, []) :: (154, 1, .iaload, []) :: (155, 1, .i2c, []) :: (156, 3, .invokevirtual 244, [154, 4, 5, 0, 0, 0, 6, 1516]) :: (159, 1, .ireturn, []) :: c236_75
def c236_58 : List RI := (137, 1, .aload_n 0, []) :: (138, 1, .iload_n 2, []) :: (139, 1, .i2c, []) :: (140, 3, .invokevirtual 240, [38, 2, 3, 0, 0, 0, 6, 1515]) :: (143, 1, .ireturn, []) :: c236_63
def c236_53 : List RI := (130, 1, .aload_n 0, []) :: (131, 1, .iload_n 2, []) :: (132, 1, .iload_n 3, []) :: (133, 3, .invokevirtual 237, [24, 3, 4, 0, 0, 0, 6, 1514]) :: (136, 1, .ireturn, []) :: c236_58
def c236_52 : List RI := (129, 1, .ireturn, []) :: c236_53
def c236_51 : List RI := (128, 1, .iconst 0, []) :: c236_52
def c236_44 : List RI := (115, 1, .aload_n 0, []) :: (116, 1, .iload_n 2, []) :: (117, 1, .iload_n 3, []) :: (118, 3, .invokevirtual 234, [92, 3, 3, 0, 0, 0, 6, 1513]) :: (121, 3, .ifCond .eq 7, [51]) :: (124, 1, .iconst 1, []) :: (125, 3, .goto 4, [52]) :: c236_51
def c236_43 : List RI := (114, 1, .ireturn, []) :: c236_44
def c236_42 : List RI := (113, 1, .iconst 0, []) :: c236_43
def c236_34 : List RI := (99, 1, .aload_n 0, []) :: (100, 1, .iload_n 2, []) :: (101, 1, .iload_n 3, []) :: (102, 1, .iconst 0, []) :: (103, 3, .invokevirtual 230, [50, 4, 6, 0, 0, 0, 6, 1512]) :: (106, 3, .ifCond .eq 7, [42]) :: (109, 1, .iconst 1, []) :: (110, 3, .goto 4, [43]) :: c236_42
def c236_33 : List RI := (98, 1, .ireturn, []) :: c236_34
def c236_32 : List RI := (97, 1, .iconst 0, []) :: c236_33
def c236_24 : List RI := (83, 1, .aload_n 0, []) :: (84, 1, .iload_n 2, []) :: (85, 1, .iload_n 3, []) :: (86, 1, .iconst 1, []) :: (87, 3, .invokevirtual 230, [50, 4, 6, 0, 0, 0, 6, 1512]) :: (90, 3, .ifCond .eq 7, [32]) :: (93, 1, .iconst 1, []) :: (94, 3, .goto 4, [33]) :: c236_32
def c236_19 : List RI := (76, 1, .aload_n 0, []) :: (77, 1, .iload_n 2, []) :: (78, 1, .iload_n 3, []) :: (79, 3, .invokevirtual 227, [61, 3, 3, 0, 0, 0, 6, 1511]) :: (82, 1, .ireturn, []) :: c236_24
def c236_0 : List RI := (0, 1, .aload_n 0, []) :: (1, 3, .getfield 45, [6, 21, 1128]) :: (4, 1, .iload_n 1, []) :: (5, 1, .iconst 1, []) :: (6, 1, .iadd, []) :: (7, 1, .iaload, []) :: (8, 1, .istore_n 2, []) :: (9, 1, .aload_n 0, []) :: (10, 3, .getfield 45, [6, 21, 1128]) :: (13, 1, .iload_n 1, []) :: (14, 1, .iconst 2, []) :: (15, 1, .iadd, []) :: (16, 1, .iaload, []) :: (17, 1, .istore_n 3, []) :: (18, 1, .aload_n 0, []) :: (19, 3, .getfield 45, [6, 21, 1128]) :: (22, 1, .iload_n 1, []) :: (23, 1, .iaload, []) :: (24, 52, .tableswitch 146 0 8 #[52, 59, 75, 91, 106, 113, 120, 136, 141], [81, 0, 19, 1, 24, 2, 34, 3, 44, 4, 53, 5, 58, 6, 63, 7, 75, 8, 78]) :: c236_19
-- 237 Model_execute execute()I
def c237_79 : List RI := (143, 1, .aload_n 0, []) :: (144, 1, .aload_n 0, []) :: (145, 3, .getfield 19, [6, 3, 1110]) :: (148, 3, .invokevirtual 85, [21, 2, 3, 0, 0, 0, 6, 1192]) :: (151, 1, .aload_n 0, []) :: (152, 3, .getfield 171, [6, 22, 1129]) :: (155, 1, .ireturn, []) :: []
def c237_78 : List RI := (142, 1, .ireturn, []) :: c237_79
def c237_77 : List RI := (141, 1, .iload_n 3, []) :: c237_78
def c237_54 : List RI := (98, 1, .aload_n 0, []) :: (99, 1, .iconst 0, []) :: (100, 3, .putfield 51, [6, 6, 1113, 2, 0]) :: (103, 1, .aload_n 0, []) :: (104, 3, .getfield 48, [6, 7, 1114]) :: (107, 3, .ifCond .le 36, [79]) :: (110, 1, .aload_n 0, []) :: (111, 3, .getfield 19, [6, 3, 1110]) :: (114, 1, .iconst 0, []) :: (115, 1, .aload_n 0, []) :: (116, 3, .getfield 7, [6, 0, 1107]) :: (119, 1, .iconst 0, []) :: (120, 3, .invokestatic 58, [20, 4, 5, 0, 0, 1, 6, 1196]) :: (123, 1, .aload_n 0, []) :: (124, 1, .iload_n 2, []) :: (125, 3, .putfield 29, [6, 11, 1118, 0, 0]) :: (128, 1, .aload_n 0, []) :: (129, 1, .iconst 2, []) :: (130, 3, .putfield 48, [6, 7, 1114, 0, 0]) :: (133, 1, .iload_n 3, []) :: (134, 3, .ifCond .le 7, [77]) :: (137, 1, .iconst 0, []) :: (138, 3, .goto 4, [78]) :: c237_77
def c237_36 : List RI := (62, 1, .iload_n 2, []) :: (63, 1, .aload_n 0, []) :: (64, 3, .getfield 171, [6, 22, 1129]) :: (67, 3, .if_icmp .ge 31, [54]) :: (70, 1, .aload_n 0, []) :: (71, 3, .getfield 48, [6, 7, 1114]) :: (74, 3, .ifCond .ne 24, [54]) :: (77, 1, .aload_n 0, []) :: (78, 1, .iconst 4, []) :: (79, 1, .iload_n 2, []) :: (80, 1, .imul, []) :: (81, 3, .invokevirtual 260, [236, 2, 4, 0, 0, 0, 6, 1507]) :: (84, 1, .istore_n 3, []) :: (85, 1, .aload_n 0, []) :: (86, 3, .getfield 48, [6, 7, 1114]) :: (89, 3, .ifCond .ne (-27), [36]) :: (92, 3, .iinc 2 1, []) :: (95, 3, .goto (-33), [36]) :: c237_54
def c237_22 : List RI := (40, 1, .aload_n 0, []) :: (41, 3, .getfield 7, [6, 0, 1107]) :: (44, 1, .iconst 0, []) :: (45, 1, .aload_n 0, []) :: (46, 3, .getfield 19, [6, 3, 1110]) :: (49, 1, .iconst 0, []) :: (50, 3, .invokestatic 58, [20, 4, 5, 0, 0, 1, 6, 1196]) :: (53, 1, .aload_n 0, []) :: (54, 1, .iconst 1, []) :: (55, 3, .putfield 51, [6, 6, 1113, 2, 0]) :: (58, 1, .iconst 0, []) :: (59, 1, .istore_n 2, []) :: (60, 1, .iconst 0, []) :: (61, 1, .istore_n 3, []) :: c237_36
def c237_18 : List RI := (32, 3, .invokevirtual 70, [19, 2, 2, 0, 0, 0, 6, 1188]) :: (35, 3, .ifCond .eq 5, [22]) :: (38, 1, .iconst 0, []) :: (39, 1, .ireturn, []) :: c237_22
def c237_17 : List RI := (31, 1, .iconst 1, []) :: c237_18
def c237_9 : List RI := (17, 1, .aload_n 0, []) :: (18, 1, .iconst 0, []) :: (19, 3, .putfield 162, [6, 9, 1116, 0, 0]) :: (22, 1, .aload_n 0, []) :: (23, 1, .iload_n 1, []) :: (24, 3, .ifCond .eq 7, [17]) :: (27, 1, .iconst 0, []) :: (28, 3, .goto 4, [18]) :: c237_17
def c237_0 : List RI := (0, 1, .aload_n 0, []) :: (1, 3, .invokevirtual 257, [235, 1, 1, 0, 0, 0, 6, 1455]) :: (4, 1, .istore_n 1, []) :: (5, 1, .iload_n 1, []) :: (6, 3, .ifCond .ne 11, [9]) :: (9, 1, .aload_n 0, []) :: (10, 1, .aload_n 0, []) :: (11, 3, .getfield 165, [6, 20, 1127]) :: (14, 3, .putfield 25, [6, 10, 1117, 0, 0]) :: c237_9
-- 238 Grid_errorPosition errorPosition()I
def c238_5 : List RI := (19, 1, .aload_n 0, []) :: (20, 3, .getfield 43, [5, 7, 234]) :: (23, 1, .ireturn, []) :: []
def c238_0 : List RI := (0, 1, .aload_n 0, []) :: (1, 3, .getfield 43, [5, 7, 234]) :: (4, 1, .iconst (-1), []) :: (5, 3, .if_icmp .ne 14, [5]) :: (8, 11, .athrow, [3, 230, 276, 234, 1, 792, 78]) :: c238_5
-- 239 Law_errorPosition errorPosition(LGlowwormGrid;[J)I
def c239_10 : List RI := (14, 1, .iconst 0, []) :: (15, 1, .ireturn, []) :: []
def c239_8 : List RI := (12, 1, .iconst 1, []) :: (13, 1, .ireturn, []) :: c239_10
def c239_0 : List RI := (0, 1, .aload_n 1, []) :: (1, 1, .iconst 0, []) :: (2, 1, .aload_n 0, []) :: (3, 3, .invokevirtual 109, [238, 1, 1, 1, 6, 0, 5, 1068]) :: (6, 1, .i2l, []) :: (7, 1, .lastore, []) :: (8, 3, .goto 6, [10]) :: (11, 1, .astore_n 2, []) :: c239_8
-- 240 Model_errorPosition errorPosition()I
def c240_13 : List RI := (27, 1, .ireturn, []) :: []
def c240_11 : List RI := (23, 1, .aload_n 0, []) :: (24, 3, .getfield 25, [6, 10, 1117]) :: c240_13
def c240_7 : List RI := (13, 3, .invokevirtual 70, [19, 2, 2, 0, 0, 0, 6, 1188]) :: (16, 3, .ifCond .eq 7, [11]) :: (19, 1, .iconst 0, []) :: (20, 3, .goto 7, [13]) :: c240_11
def c240_6 : List RI := (12, 1, .iconst 0, []) :: c240_7
def c240_0 : List RI := (0, 1, .aload_n 0, []) :: (1, 1, .aload_n 0, []) :: (2, 3, .getfield 25, [6, 10, 1117]) :: (5, 3, .ifCond .ge 7, [6]) :: (8, 1, .iconst 1, []) :: (9, 3, .goto 4, [7]) :: c240_6
-- 241 Grid_failedCommand failedCommand()I
def c241_5 : List RI := (19, 1, .aload_n 0, []) :: (20, 3, .getfield 47, [5, 8, 235]) :: (23, 1, .ireturn, []) :: []
def c241_0 : List RI := (0, 1, .aload_n 0, []) :: (1, 3, .getfield 47, [5, 8, 235]) :: (4, 1, .iconst (-1), []) :: (5, 3, .if_icmp .ne 14, [5]) :: (8, 11, .athrow, [3, 230, 278, 234, 1, 792, 78]) :: c241_5
-- 242 Law_failedCommand failedCommand(LGlowwormGrid;[J)I
def c242_10 : List RI := (14, 1, .iconst 0, []) :: (15, 1, .ireturn, []) :: []
def c242_8 : List RI := (12, 1, .iconst 1, []) :: (13, 1, .ireturn, []) :: c242_10
def c242_0 : List RI := (0, 1, .aload_n 1, []) :: (1, 1, .iconst 0, []) :: (2, 1, .aload_n 0, []) :: (3, 3, .invokevirtual 112, [241, 1, 1, 1, 6, 0, 5, 1076]) :: (6, 1, .i2l, []) :: (7, 1, .lastore, []) :: (8, 3, .goto 6, [10]) :: (11, 1, .astore_n 2, []) :: c242_8
-- 243 Model_failedCommand failedCommand()I
def c243_13 : List RI := (27, 1, .ireturn, []) :: []
def c243_11 : List RI := (23, 1, .aload_n 0, []) :: (24, 3, .getfield 29, [6, 11, 1118]) :: c243_13
def c243_7 : List RI := (13, 3, .invokevirtual 70, [19, 2, 2, 0, 0, 0, 6, 1188]) :: (16, 3, .ifCond .eq 7, [11]) :: (19, 1, .iconst 0, []) :: (20, 3, .goto 7, [13]) :: c243_11
def c243_6 : List RI := (12, 1, .iconst 0, []) :: c243_7
def c243_0 : List RI := (0, 1, .aload_n 0, []) :: (1, 1, .aload_n 0, []) :: (2, 3, .getfield 29, [6, 11, 1118]) :: (5, 3, .ifCond .ge 7, [6]) :: (8, 1, .iconst 1, []) :: (9, 3, .goto 4, [7]) :: c243_6
-- 244 Hist_takeBack takeBack(LGlowwormGrid$Board;)V
def c244_0 : List RI := (0, 1, .aload_n 0, []) :: (1, 1, .aload_n 0, []) :: (2, 3, .getfield 16, [2, 1, 179]) :: (5, 2, .bipush 8, []) :: (7, 1, .iadd, []) :: (8, 1, .iconst 1, []) :: (9, 1, .isub, []) :: (10, 2, .bipush 8, []) :: (12, 1, .irem, []) :: (13, 3, .putfield 16, [2, 1, 179, 0, 0]) :: (16, 1, .aload_n 0, []) :: (17, 1, .dup, []) :: (18, 3, .getfield 24, [2, 2, 180]) :: (21, 1, .iconst 1, []) :: (22, 1, .isub, []) :: (23, 3, .putfield 24, [2, 2, 180, 0, 0]) :: (26, 1, .aload_n 1, []) :: (27, 1, .aload_n 0, []) :: (28, 3, .getfield 11, [2, 0, 178]) :: (31, 1, .aload_n 0, []) :: (32, 3, .getfield 16, [2, 1, 179]) :: (35, 1, .aaload, []) :: (36, 3, .invokevirtual 20, [12, 2, 2, 0, 0, 0, 0, 374]) :: (39, 1, .return_, []) :: []
-- 245 Grid_undo undo()I
def c245_5 : List RI := (21, 1, .aload_n 0, []) :: (22, 3, .getfield 25, [5, 4, 231]) :: (25, 1, .aload_n 0, []) :: (26, 3, .getfield 10, [5, 0, 227]) :: (29, 3, .invokevirtual 283, [244, 2, 2, 0, 0, 0, 2, 1089]) :: (32, 1, .aload_n 0, []) :: (33, 3, .getfield 25, [5, 4, 231]) :: (36, 3, .getfield 280, [2, 2, 181]) :: (39, 1, .ireturn, []) :: []
def c245_0 : List RI := (0, 1, .aload_n 0, []) :: (1, 3, .getfield 25, [5, 4, 231]) :: (4, 3, .getfield 280, [2, 2, 181]) :: (7, 3, .ifCond .ne 14, [5]) :: (10, 11, .athrow, [2, 197, 281, 201, 1, 871, 80]) :: c245_5
-- 246 Law_undo undo(LGlowwormGrid;[J)I
def c246_10 : List RI := (14, 1, .iconst 0, []) :: (15, 1, .ireturn, []) :: []
def c246_8 : List RI := (12, 1, .iconst 1, []) :: (13, 1, .ireturn, []) :: c246_10
def c246_0 : List RI := (0, 1, .aload_n 1, []) :: (1, 1, .iconst 0, []) :: (2, 1, .aload_n 0, []) :: (3, 3, .invokevirtual 115, [245, 1, 1, 1, 6, 0, 5, 1084]) :: (6, 1, .i2l, []) :: (7, 1, .lastore, []) :: (8, 3, .goto 6, [10]) :: (11, 1, .astore_n 2, []) :: c246_8
-- 247 Model_undo undo()I
def c247_11 : List RI := (21, 1, .aload_n 0, []) :: (22, 1, .dup, []) :: (23, 3, .getfield 55, [6, 5, 1112]) :: (26, 1, .iconst 1, []) :: (27, 1, .isub, []) :: (28, 3, .putfield 55, [6, 5, 1112, 0, 0]) :: (31, 1, .aload_n 0, []) :: (32, 3, .getfield 13, [6, 1, 1108]) :: (35, 2, .bipush 41, []) :: (37, 1, .aload_n 0, []) :: (38, 3, .getfield 55, [6, 5, 1112]) :: (41, 1, .imul, []) :: (42, 1, .aload_n 0, []) :: (43, 3, .getfield 7, [6, 0, 1107]) :: (46, 1, .iconst 0, []) :: (47, 3, .invokestatic 58, [20, 4, 5, 0, 0, 1, 6, 1196]) :: (50, 1, .aload_n 0, []) :: (51, 3, .getfield 55, [6, 5, 1112]) :: (54, 1, .ireturn, []) :: []
def c247_7 : List RI := (13, 3, .invokevirtual 70, [19, 2, 2, 0, 0, 0, 6, 1188]) :: (16, 3, .ifCond .eq 5, [11]) :: (19, 1, .iconst 0, []) :: (20, 1, .ireturn, []) :: c247_11
def c247_6 : List RI := (12, 1, .iconst 0, []) :: c247_7
def c247_0 : List RI := (0, 1, .aload_n 0, []) :: (1, 1, .aload_n 0, []) :: (2, 3, .getfield 55, [6, 5, 1112]) :: (5, 3, .ifCond .ne 7, [6]) :: (8, 1, .iconst 1, []) :: (9, 3, .goto 4, [7]) :: c247_6
-- 248 Grid_save save()I
def c248_0 : List RI := (0, 1, .aload_n 0, []) :: (1, 3, .getfield 19, [5, 2, 229]) :: (4, 1, .aload_n 0, []) :: (5, 3, .getfield 10, [5, 0, 227]) :: (8, 3, .invokevirtual 268, [12, 2, 2, 0, 0, 0, 0, 502]) :: (11, 1, .aload_n 0, []) :: (12, 1, .iconst 1, []) :: (13, 3, .putfield 286, [5, 3, 230, 2, 0]) :: (16, 1, .aload_n 0, []) :: (17, 3, .getfield 10, [5, 0, 227]) :: (20, 3, .invokevirtual 73, [15, 1, 1, 0, 0, 0, 0, 477]) :: (23, 1, .ireturn, []) :: []
-- 249 Model_save save()I
def c249_0 : List RI := (0, 1, .aload_n 0, []) :: (1, 1, .iconst 0, []) :: (2, 3, .putfield 48, [6, 7, 1114, 0, 0]) :: (5, 1, .aload_n 0, []) :: (6, 1, .iconst 1, []) :: (7, 3, .putfield 263, [6, 4, 1111, 2, 0]) :: (10, 1, .aload_n 0, []) :: (11, 3, .getfield 7, [6, 0, 1107]) :: (14, 1, .iconst 0, []) :: (15, 1, .aload_n 0, []) :: (16, 3, .getfield 16, [6, 2, 1109]) :: (19, 1, .iconst 0, []) :: (20, 3, .invokestatic 58, [20, 4, 5, 0, 0, 1, 6, 1196]) :: (23, 1, .aload_n 0, []) :: (24, 3, .invokevirtual 74, [23, 1, 1, 0, 0, 0, 6, 1203]) :: (27, 1, .ireturn, []) :: []
-- 250 Grid_restore restore()I
def c250_4 : List RI := (18, 1, .aload_n 0, []) :: (19, 3, .getfield 10, [5, 0, 227]) :: (22, 1, .aload_n 0, []) :: (23, 3, .getfield 19, [5, 2, 229]) :: (26, 3, .invokevirtual 268, [12, 2, 2, 0, 0, 0, 0, 502]) :: (29, 1, .aload_n 0, []) :: (30, 3, .getfield 25, [5, 4, 231]) :: (33, 1, .iconst 0, []) :: (34, 3, .putfield 280, [2, 2, 181, 0, 0]) :: (37, 1, .aload_n 0, []) :: (38, 3, .getfield 10, [5, 0, 227]) :: (41, 3, .invokevirtual 73, [15, 1, 1, 0, 0, 0, 0, 477]) :: (44, 1, .ireturn, []) :: []
def c250_0 : List RI := (0, 1, .aload_n 0, []) :: (1, 3, .getfield 286, [5, 3, 230]) :: (4, 3, .ifCond .ne 14, [4]) :: (7, 11, .athrow, [2, 197, 290, 201, 1, 871, 80]) :: c250_4
-- 251 Law_restore restore(LGlowwormGrid;[J)I
def c251_10 : List RI := (14, 1, .iconst 0, []) :: (15, 1, .ireturn, []) :: []
def c251_8 : List RI := (12, 1, .iconst 1, []) :: (13, 1, .ireturn, []) :: c251_10
def c251_0 : List RI := (0, 1, .aload_n 1, []) :: (1, 1, .iconst 0, []) :: (2, 1, .aload_n 0, []) :: (3, 3, .invokevirtual 118, [250, 1, 1, 1, 6, 0, 5, 1096]) :: (6, 1, .i2l, []) :: (7, 1, .lastore, []) :: (8, 3, .goto 6, [10]) :: (11, 1, .astore_n 2, []) :: c251_8
-- 252 Model_restore restore()I
def c252_11 : List RI := (21, 1, .aload_n 0, []) :: (22, 3, .getfield 16, [6, 2, 1109]) :: (25, 1, .iconst 0, []) :: (26, 1, .aload_n 0, []) :: (27, 3, .getfield 7, [6, 0, 1107]) :: (30, 1, .iconst 0, []) :: (31, 3, .invokestatic 58, [20, 4, 5, 0, 0, 1, 6, 1196]) :: (34, 1, .aload_n 0, []) :: (35, 1, .iconst 0, []) :: (36, 3, .putfield 55, [6, 5, 1112, 0, 0]) :: (39, 1, .aload_n 0, []) :: (40, 3, .invokevirtual 74, [23, 1, 1, 0, 0, 0, 6, 1203]) :: (43, 1, .ireturn, []) :: []
def c252_7 : List RI := (13, 3, .invokevirtual 70, [19, 2, 2, 0, 0, 0, 6, 1188]) :: (16, 3, .ifCond .eq 5, [11]) :: (19, 1, .iconst 0, []) :: (20, 1, .ireturn, []) :: c252_11
def c252_6 : List RI := (12, 1, .iconst 1, []) :: c252_7
def c252_0 : List RI := (0, 1, .aload_n 0, []) :: (1, 1, .aload_n 0, []) :: (2, 3, .getfield 263, [6, 4, 1111]) :: (5, 3, .ifCond .eq 7, [6]) :: (8, 1, .iconst 0, []) :: (9, 3, .goto 4, [7]) :: c252_6
-- 253 Law_law law([I)Z
def c253_1366 : List RI := (2420, 1, .iconst 1, []) :: (2421, 1, .ireturn, []) :: []
def c253_1364 : List RI := (2414, 3, .iinc 4 4, []) :: (2417, 3, .goto (-2394), [13]) :: c253_1366
def c253_1363 : List RI := (2411, 3, .goto 3, [1364]) :: c253_1364
def c253_1352 : List RI := (2394, 2, .iload 5, []) :: (2396, 3, .ifCond .ne 15, [1363]) :: (2399, 1, .aload_n 3, []) :: (2400, 1, .iconst 0, []) :: (2401, 1, .laload, []) :: (2402, 2, .iload 6, []) :: (2404, 1, .i2l, []) :: (2405, 1, .lcmp, []) :: (2406, 3, .ifCond .eq 5, [1363]) :: (2409, 1, .iconst 0, []) :: (2410, 1, .ireturn, []) :: c253_1363
def c253_1339 : List RI := (2370, 1, .aload_n 1, []) :: (2371, 1, .aload_n 3, []) :: (2372, 3, .invokestatic 298, [251, 2, 3, 1, 6, 2, 0, 1093]) :: (2375, 2, .istore 5, []) :: (2377, 1, .aload_n 2, []) :: (2378, 3, .invokevirtual 300, [252, 1, 1, 0, 0, 0, 6, 1536]) :: (2381, 2, .istore 6, []) :: (2383, 1, .aload_n 2, []) :: (2384, 3, .invokevirtual 131, [25, 1, 1, 0, 0, 0, 6, 1177]) :: (2387, 2, .iload 5, []) :: (2389, 3, .if_icmp .eq 5, [1352]) :: (2392, 1, .iconst 0, []) :: (2393, 1, .ireturn, []) :: c253_1352
def c253_1332 : List RI := (2357, 1, .aload_n 1, []) :: (2358, 3, .invokevirtual 294, [248, 1, 1, 0, 0, 0, 5, 498]) :: (2361, 1, .aload_n 2, []) :: (2362, 3, .invokevirtual 297, [249, 1, 1, 0, 0, 0, 6, 1532]) :: (2365, 3, .if_icmp .eq 49, [1364]) :: (2368, 1, .iconst 0, []) :: (2369, 1, .ireturn, []) :: c253_1339
def c253_1331 : List RI := (2354, 3, .goto 60, [1364]) :: c253_1332
def c253_1320 : List RI := (2337, 2, .iload 5, []) :: (2339, 3, .ifCond .ne 15, [1331]) :: (2342, 1, .aload_n 3, []) :: (2343, 1, .iconst 0, []) :: (2344, 1, .laload, []) :: (2345, 2, .iload 6, []) :: (2347, 1, .i2l, []) :: (2348, 1, .lcmp, []) :: (2349, 3, .ifCond .eq 5, [1331]) :: (2352, 1, .iconst 0, []) :: (2353, 1, .ireturn, []) :: c253_1331
def c253_1307 : List RI := (2313, 1, .aload_n 1, []) :: (2314, 1, .aload_n 3, []) :: (2315, 3, .invokestatic 291, [246, 2, 3, 1, 6, 2, 0, 1081]) :: (2318, 2, .istore 5, []) :: (2320, 1, .aload_n 2, []) :: (2321, 3, .invokevirtual 293, [247, 1, 1, 0, 0, 0, 6, 1528]) :: (2324, 2, .istore 6, []) :: (2326, 1, .aload_n 2, []) :: (2327, 3, .invokevirtual 131, [25, 1, 1, 0, 0, 0, 6, 1177]) :: (2330, 2, .iload 5, []) :: (2332, 3, .if_icmp .eq 5, [1320]) :: (2335, 1, .iconst 0, []) :: (2336, 1, .ireturn, []) :: c253_1320
def c253_1306 : List RI := (2310, 3, .goto 104, [1364]) :: c253_1307
def c253_1295 : List RI := (2293, 2, .iload 5, []) :: (2295, 3, .ifCond .ne 15, [1306]) :: (2298, 1, .aload_n 3, []) :: (2299, 1, .iconst 0, []) :: (2300, 1, .laload, []) :: (2301, 2, .iload 6, []) :: (2303, 1, .i2l, []) :: (2304, 1, .lcmp, []) :: (2305, 3, .ifCond .eq 5, [1306]) :: (2308, 1, .iconst 0, []) :: (2309, 1, .ireturn, []) :: c253_1306
def c253_1282 : List RI := (2269, 1, .aload_n 1, []) :: (2270, 1, .aload_n 3, []) :: (2271, 3, .invokestatic 288, [242, 2, 3, 1, 6, 2, 0, 1073]) :: (2274, 2, .istore 5, []) :: (2276, 1, .aload_n 2, []) :: (2277, 3, .invokevirtual 290, [243, 1, 1, 0, 0, 0, 6, 1524]) :: (2280, 2, .istore 6, []) :: (2282, 1, .aload_n 2, []) :: (2283, 3, .invokevirtual 131, [25, 1, 1, 0, 0, 0, 6, 1177]) :: (2286, 2, .iload 5, []) :: (2288, 3, .if_icmp .eq 5, [1295]) :: (2291, 1, .iconst 0, []) :: (2292, 1, .ireturn, []) :: c253_1295
def c253_1281 : List RI := (2266, 3, .goto 148, [1364]) :: c253_1282
def c253_1270 : List RI := (2249, 2, .iload 5, []) :: (2251, 3, .ifCond .ne 15, [1281]) :: (2254, 1, .aload_n 3, []) :: (2255, 1, .iconst 0, []) :: (2256, 1, .laload, []) :: (2257, 2, .iload 6, []) :: (2259, 1, .i2l, []) :: (2260, 1, .lcmp, []) :: (2261, 3, .ifCond .eq 5, [1281]) :: (2264, 1, .iconst 0, []) :: (2265, 1, .ireturn, []) :: c253_1281
def c253_1257 : List RI := (2225, 1, .aload_n 1, []) :: (2226, 1, .aload_n 3, []) :: (2227, 3, .invokestatic 285, [239, 2, 3, 1, 6, 2, 0, 1065]) :: (2230, 2, .istore 5, []) :: (2232, 1, .aload_n 2, []) :: (2233, 3, .invokevirtual 287, [240, 1, 1, 0, 0, 0, 6, 1520]) :: (2236, 2, .istore 6, []) :: (2238, 1, .aload_n 2, []) :: (2239, 3, .invokevirtual 131, [25, 1, 1, 0, 0, 0, 6, 1177]) :: (2242, 2, .iload 5, []) :: (2244, 3, .if_icmp .eq 5, [1270]) :: (2247, 1, .iconst 0, []) :: (2248, 1, .ireturn, []) :: c253_1270
def c253_1256 : List RI := (2222, 3, .goto 192, [1364]) :: c253_1257
def c253_1245 : List RI := (2205, 2, .iload 5, []) :: (2207, 3, .ifCond .ne 15, [1256]) :: (2210, 1, .aload_n 3, []) :: (2211, 1, .iconst 0, []) :: (2212, 1, .laload, []) :: (2213, 2, .iload 6, []) :: (2215, 1, .i2l, []) :: (2216, 1, .lcmp, []) :: (2217, 3, .ifCond .eq 5, [1256]) :: (2220, 1, .iconst 0, []) :: (2221, 1, .ireturn, []) :: c253_1256
def c253_1232 : List RI := (2181, 1, .aload_n 1, []) :: (2182, 1, .aload_n 3, []) :: (2183, 3, .invokestatic 282, [225, 2, 3, 1, 6, 2, 0, 970]) :: (2186, 2, .istore 5, []) :: (2188, 1, .aload_n 2, []) :: (2189, 3, .invokevirtual 284, [237, 1, 4, 0, 0, 0, 6, 1451]) :: (2192, 2, .istore 6, []) :: (2194, 1, .aload_n 2, []) :: (2195, 3, .invokevirtual 131, [25, 1, 1, 0, 0, 0, 6, 1177]) :: (2198, 2, .iload 5, []) :: (2200, 3, .if_icmp .eq 5, [1245]) :: (2203, 1, .iconst 0, []) :: (2204, 1, .ireturn, []) :: c253_1245
def c253_1231 : List RI := (2178, 3, .goto 236, [1364]) :: c253_1232
def c253_1220 : List RI := (2161, 2, .iload 5, []) :: (2163, 3, .ifCond .ne 15, [1231]) :: (2166, 1, .aload_n 3, []) :: (2167, 1, .iconst 0, []) :: (2168, 1, .laload, []) :: (2169, 2, .iload 6, []) :: (2171, 1, .i2l, []) :: (2172, 1, .lcmp, []) :: (2173, 3, .ifCond .eq 5, [1231]) :: (2176, 1, .iconst 0, []) :: (2177, 1, .ireturn, []) :: c253_1231
def c253_1195 : List RI := (2123, 1, .aload_n 1, []) :: (2124, 1, .aload_n 0, []) :: (2125, 2, .iload 4, []) :: (2127, 1, .iconst 1, []) :: (2128, 1, .iadd, []) :: (2129, 1, .iaload, []) :: (2130, 1, .i2c, []) :: (2131, 1, .aload_n 3, []) :: (2132, 3, .invokestatic 279, [205, 3, 4, 1, 6, 2, 0, 957]) :: (2135, 2, .istore 5, []) :: (2137, 1, .aload_n 2, []) :: (2138, 1, .aload_n 0, []) :: (2139, 2, .iload 4, []) :: (2141, 1, .iconst 1, []) :: (2142, 1, .iadd, []) :: (2143, 1, .iaload, []) :: (2144, 1, .i2c, []) :: (2145, 3, .invokevirtual 281, [206, 2, 2, 0, 0, 0, 6, 1447]) :: (2148, 2, .istore 6, []) :: (2150, 1, .aload_n 2, []) :: (2151, 3, .invokevirtual 131, [25, 1, 1, 0, 0, 0, 6, 1177]) :: (2154, 2, .iload 5, []) :: (2156, 3, .if_icmp .eq 5, [1220]) :: (2159, 1, .iconst 0, []) :: (2160, 1, .ireturn, []) :: c253_1220
def c253_1188 : List RI := (2110, 1, .aload_n 1, []) :: (2111, 3, .invokevirtual 275, [201, 1, 1, 0, 0, 0, 5, 485]) :: (2114, 1, .aload_n 2, []) :: (2115, 3, .invokevirtual 278, [202, 1, 1, 0, 0, 0, 6, 1443]) :: (2118, 3, .if_icmp .eq 296, [1364]) :: (2121, 1, .iconst 0, []) :: (2122, 1, .ireturn, []) :: c253_1195
def c253_1187 : List RI := (2107, 3, .goto 307, [1364]) :: c253_1188
def c253_1185 : List RI := (2105, 1, .iconst 0, []) :: (2106, 1, .ireturn, []) :: c253_1187
def c253_1165 : List RI := (2067, 1, .aload_n 1, []) :: (2068, 3, .invokevirtual 270, [198, 1, 1, 0, 0, 0, 5, 481]) :: (2071, 1, .f2d, []) :: (2072, 2, .dstore 5, []) :: (2074, 1, .aload_n 2, []) :: (2075, 3, .invokevirtual 274, [199, 1, 1, 0, 0, 0, 6, 1439]) :: (2078, 1, .f2d, []) :: (2079, 2, .dstore 7, []) :: (2081, 2, .dload 5, []) :: (2083, 2, .dload 7, []) :: (2085, 1, .dcmp .l, []) :: (2086, 3, .ifCond .eq 21, [1187]) :: (2089, 2, .dload 5, []) :: (2091, 2, .dload 5, []) :: (2093, 1, .dcmp .l, []) :: (2094, 3, .ifCond .eq 11, [1185]) :: (2097, 2, .dload 7, []) :: (2099, 2, .dload 7, []) :: (2101, 1, .dcmp .l, []) :: (2102, 3, .ifCond .ne 5, [1187]) :: c253_1185
def c253_1164 : List RI := (2064, 3, .goto 350, [1364]) :: c253_1165
def c253_1162 : List RI := (2062, 1, .iconst 0, []) :: (2063, 1, .ireturn, []) :: c253_1164
def c253_1144 : List RI := (2026, 1, .aload_n 1, []) :: (2027, 3, .invokevirtual 265, [196, 1, 3, 0, 0, 0, 5, 473]) :: (2030, 2, .dstore 5, []) :: (2032, 1, .aload_n 2, []) :: (2033, 3, .invokevirtual 269, [197, 1, 3, 0, 0, 0, 6, 1435]) :: (2036, 2, .dstore 7, []) :: (2038, 2, .dload 5, []) :: (2040, 2, .dload 7, []) :: (2042, 1, .dcmp .l, []) :: (2043, 3, .ifCond .eq 21, [1164]) :: (2046, 2, .dload 5, []) :: (2048, 2, .dload 5, []) :: (2050, 1, .dcmp .l, []) :: (2051, 3, .ifCond .eq 11, [1162]) :: (2054, 2, .dload 7, []) :: (2056, 2, .dload 7, []) :: (2058, 1, .dcmp .l, []) :: (2059, 3, .ifCond .ne 5, [1164]) :: c253_1162
def c253_1143 : List RI := (2023, 3, .goto 391, [1364]) :: c253_1144
def c253_1132 : List RI := (2006, 2, .iload 5, []) :: (2008, 3, .ifCond .ne 15, [1143]) :: (2011, 1, .aload_n 3, []) :: (2012, 1, .iconst 0, []) :: (2013, 1, .laload, []) :: (2014, 2, .iload 6, []) :: (2016, 1, .i2l, []) :: (2017, 1, .lcmp, []) :: (2018, 3, .ifCond .eq 5, [1143]) :: (2021, 1, .iconst 0, []) :: (2022, 1, .ireturn, []) :: c253_1143
def c253_1109 : List RI := (1970, 1, .aload_n 1, []) :: (1971, 1, .aload_n 0, []) :: (1972, 2, .iload 4, []) :: (1974, 1, .iconst 1, []) :: (1975, 1, .iadd, []) :: (1976, 1, .iaload, []) :: (1977, 1, .aload_n 3, []) :: (1978, 3, .invokestatic 262, [194, 3, 4, 1, 6, 2, 0, 949]) :: (1981, 2, .istore 5, []) :: (1983, 1, .aload_n 2, []) :: (1984, 1, .aload_n 0, []) :: (1985, 2, .iload 4, []) :: (1987, 1, .iconst 1, []) :: (1988, 1, .iadd, []) :: (1989, 1, .iaload, []) :: (1990, 3, .invokevirtual 264, [195, 2, 2, 0, 0, 0, 6, 1431]) :: (1993, 2, .istore 6, []) :: (1995, 1, .aload_n 2, []) :: (1996, 3, .invokevirtual 131, [25, 1, 1, 0, 0, 0, 6, 1177]) :: (1999, 2, .iload 5, []) :: (2001, 3, .if_icmp .eq 5, [1132]) :: (2004, 1, .iconst 0, []) :: (2005, 1, .ireturn, []) :: c253_1132
def c253_1108 : List RI := (1967, 3, .goto 447, [1364]) :: c253_1109
def c253_1097 : List RI := (1950, 2, .iload 5, []) :: (1952, 3, .ifCond .ne 15, [1108]) :: (1955, 1, .aload_n 3, []) :: (1956, 1, .iconst 0, []) :: (1957, 1, .laload, []) :: (1958, 2, .iload 6, []) :: (1960, 1, .i2l, []) :: (1961, 1, .lcmp, []) :: (1962, 3, .ifCond .eq 5, [1108]) :: (1965, 1, .iconst 0, []) :: (1966, 1, .ireturn, []) :: c253_1108
def c253_1074 : List RI := (1914, 1, .aload_n 1, []) :: (1915, 1, .aload_n 0, []) :: (1916, 2, .iload 4, []) :: (1918, 1, .iconst 1, []) :: (1919, 1, .iadd, []) :: (1920, 1, .iaload, []) :: (1921, 1, .aload_n 3, []) :: (1922, 3, .invokestatic 259, [190, 3, 4, 1, 6, 2, 0, 938]) :: (1925, 2, .istore 5, []) :: (1927, 1, .aload_n 2, []) :: (1928, 1, .aload_n 0, []) :: (1929, 2, .iload 4, []) :: (1931, 1, .iconst 1, []) :: (1932, 1, .iadd, []) :: (1933, 1, .iaload, []) :: (1934, 3, .invokevirtual 261, [192, 2, 3, 0, 0, 0, 6, 1423]) :: (1937, 2, .istore 6, []) :: (1939, 1, .aload_n 2, []) :: (1940, 3, .invokevirtual 131, [25, 1, 1, 0, 0, 0, 6, 1177]) :: (1943, 2, .iload 5, []) :: (1945, 3, .if_icmp .eq 5, [1097]) :: (1948, 1, .iconst 0, []) :: (1949, 1, .ireturn, []) :: c253_1097
def c253_1067 : List RI := (1901, 1, .aload_n 1, []) :: (1902, 3, .invokevirtual 255, [186, 1, 1, 0, 0, 0, 5, 469]) :: (1905, 1, .aload_n 2, []) :: (1906, 3, .invokevirtual 258, [187, 1, 1, 0, 0, 0, 6, 1419]) :: (1909, 3, .if_icmp .eq 505, [1364]) :: (1912, 1, .iconst 0, []) :: (1913, 1, .ireturn, []) :: c253_1074
def c253_1066 : List RI := (1898, 3, .goto 516, [1364]) :: c253_1067
def c253_1055 : List RI := (1881, 2, .iload 5, []) :: (1883, 3, .ifCond .ne 15, [1066]) :: (1886, 1, .aload_n 3, []) :: (1887, 1, .iconst 0, []) :: (1888, 1, .laload, []) :: (1889, 2, .iload 6, []) :: (1891, 1, .i2l, []) :: (1892, 1, .lcmp, []) :: (1893, 3, .ifCond .eq 5, [1066]) :: (1896, 1, .iconst 0, []) :: (1897, 1, .ireturn, []) :: c253_1066
def c253_1022 : List RI := (1833, 1, .aload_n 1, []) :: (1834, 1, .aload_n 0, []) :: (1835, 2, .iload 4, []) :: (1837, 1, .iconst 1, []) :: (1838, 1, .iadd, []) :: (1839, 1, .iaload, []) :: (1840, 1, .aload_n 0, []) :: (1841, 2, .iload 4, []) :: (1843, 1, .iconst 2, []) :: (1844, 1, .iadd, []) :: (1845, 1, .iaload, []) :: (1846, 1, .aload_n 3, []) :: (1847, 3, .invokestatic 252, [184, 4, 5, 2, 12, 2, 0, 929]) :: (1850, 2, .istore 5, []) :: (1852, 1, .aload_n 2, []) :: (1853, 1, .aload_n 0, []) :: (1854, 2, .iload 4, []) :: (1856, 1, .iconst 1, []) :: (1857, 1, .iadd, []) :: (1858, 1, .iaload, []) :: (1859, 1, .aload_n 0, []) :: (1860, 2, .iload 4, []) :: (1862, 1, .iconst 2, []) :: (1863, 1, .iadd, []) :: (1864, 1, .iaload, []) :: (1865, 3, .invokevirtual 254, [185, 3, 3, 0, 0, 0, 6, 1415]) :: (1868, 2, .istore 6, []) :: (1870, 1, .aload_n 2, []) :: (1871, 3, .invokevirtual 131, [25, 1, 1, 0, 0, 0, 6, 1177]) :: (1874, 2, .iload 5, []) :: (1876, 3, .if_icmp .eq 5, [1055]) :: (1879, 1, .iconst 0, []) :: (1880, 1, .ireturn, []) :: c253_1055
def c253_1021 : List RI := (1830, 3, .goto 584, [1364]) :: c253_1022
def c253_1010 : List RI := (1813, 2, .iload 5, []) :: (1815, 3, .ifCond .ne 15, [1021]) :: (1818, 1, .aload_n 3, []) :: (1819, 1, .iconst 0, []) :: (1820, 1, .laload, []) :: (1821, 2, .iload 6, []) :: (1823, 1, .i2l, []) :: (1824, 1, .lcmp, []) :: (1825, 3, .ifCond .eq 5, [1021]) :: (1828, 1, .iconst 0, []) :: (1829, 1, .ireturn, []) :: c253_1021
def c253_987 : List RI := (1777, 1, .aload_n 1, []) :: (1778, 1, .aload_n 0, []) :: (1779, 2, .iload 4, []) :: (1781, 1, .iconst 1, []) :: (1782, 1, .iadd, []) :: (1783, 1, .iaload, []) :: (1784, 1, .aload_n 3, []) :: (1785, 3, .invokestatic 249, [181, 3, 4, 1, 6, 2, 0, 921]) :: (1788, 2, .istore 5, []) :: (1790, 1, .aload_n 2, []) :: (1791, 1, .aload_n 0, []) :: (1792, 2, .iload 4, []) :: (1794, 1, .iconst 1, []) :: (1795, 1, .iadd, []) :: (1796, 1, .iaload, []) :: (1797, 3, .invokevirtual 251, [182, 2, 3, 0, 0, 0, 6, 1411]) :: (1800, 2, .istore 6, []) :: (1802, 1, .aload_n 2, []) :: (1803, 3, .invokevirtual 131, [25, 1, 1, 0, 0, 0, 6, 1177]) :: (1806, 2, .iload 5, []) :: (1808, 3, .if_icmp .eq 5, [1010]) :: (1811, 1, .iconst 0, []) :: (1812, 1, .ireturn, []) :: c253_1010
def c253_986 : List RI := (1774, 3, .goto 640, [1364]) :: c253_987
def c253_975 : List RI := (1757, 2, .iload 5, []) :: (1759, 3, .ifCond .ne 15, [986]) :: (1762, 1, .aload_n 3, []) :: (1763, 1, .iconst 0, []) :: (1764, 1, .laload, []) :: (1765, 2, .iload 6, []) :: (1767, 1, .i2l, []) :: (1768, 1, .lcmp, []) :: (1769, 3, .ifCond .eq 5, [986]) :: (1772, 1, .iconst 0, []) :: (1773, 1, .ireturn, []) :: c253_986
def c253_952 : List RI := (1721, 1, .aload_n 1, []) :: (1722, 1, .aload_n 0, []) :: (1723, 2, .iload 4, []) :: (1725, 1, .iconst 1, []) :: (1726, 1, .iadd, []) :: (1727, 1, .iaload, []) :: (1728, 1, .aload_n 3, []) :: (1729, 3, .invokestatic 246, [178, 3, 4, 1, 6, 2, 0, 914]) :: (1732, 2, .istore 5, []) :: (1734, 1, .aload_n 2, []) :: (1735, 1, .aload_n 0, []) :: (1736, 2, .iload 4, []) :: (1738, 1, .iconst 1, []) :: (1739, 1, .iadd, []) :: (1740, 1, .iaload, []) :: (1741, 3, .invokevirtual 248, [179, 2, 2, 0, 0, 0, 6, 1407]) :: (1744, 2, .istore 6, []) :: (1746, 1, .aload_n 2, []) :: (1747, 3, .invokevirtual 131, [25, 1, 1, 0, 0, 0, 6, 1177]) :: (1750, 2, .iload 5, []) :: (1752, 3, .if_icmp .eq 5, [975]) :: (1755, 1, .iconst 0, []) :: (1756, 1, .ireturn, []) :: c253_975
def c253_951 : List RI := (1718, 3, .goto 696, [1364]) :: c253_952
def c253_940 : List RI := (1701, 2, .iload 5, []) :: (1703, 3, .ifCond .ne 15, [951]) :: (1706, 1, .aload_n 3, []) :: (1707, 1, .iconst 0, []) :: (1708, 1, .laload, []) :: (1709, 2, .iload 6, []) :: (1711, 1, .i2l, []) :: (1712, 1, .lcmp, []) :: (1713, 3, .ifCond .eq 5, [951]) :: (1716, 1, .iconst 0, []) :: (1717, 1, .ireturn, []) :: c253_951
def c253_917 : List RI := (1665, 1, .aload_n 1, []) :: (1666, 1, .aload_n 0, []) :: (1667, 2, .iload 4, []) :: (1669, 1, .iconst 1, []) :: (1670, 1, .iadd, []) :: (1671, 1, .iaload, []) :: (1672, 1, .aload_n 3, []) :: (1673, 3, .invokestatic 243, [175, 3, 4, 1, 6, 2, 0, 907]) :: (1676, 2, .istore 5, []) :: (1678, 1, .aload_n 2, []) :: (1679, 1, .aload_n 0, []) :: (1680, 2, .iload 4, []) :: (1682, 1, .iconst 1, []) :: (1683, 1, .iadd, []) :: (1684, 1, .iaload, []) :: (1685, 3, .invokevirtual 245, [176, 2, 2, 0, 0, 0, 6, 1403]) :: (1688, 2, .istore 6, []) :: (1690, 1, .aload_n 2, []) :: (1691, 3, .invokevirtual 131, [25, 1, 1, 0, 0, 0, 6, 1177]) :: (1694, 2, .iload 5, []) :: (1696, 3, .if_icmp .eq 5, [940]) :: (1699, 1, .iconst 0, []) :: (1700, 1, .ireturn, []) :: c253_940
def c253_910 : List RI := (1652, 1, .aload_n 1, []) :: (1653, 3, .invokevirtual 239, [172, 1, 1, 0, 0, 0, 5, 465]) :: (1656, 1, .aload_n 2, []) :: (1657, 3, .invokevirtual 242, [173, 1, 1, 0, 0, 0, 6, 1399]) :: (1660, 3, .if_icmp .eq 754, [1364]) :: (1663, 1, .iconst 0, []) :: (1664, 1, .ireturn, []) :: c253_917
def c253_903 : List RI := (1639, 1, .aload_n 1, []) :: (1640, 3, .invokevirtual 235, [169, 1, 1, 0, 0, 0, 5, 366]) :: (1643, 1, .aload_n 2, []) :: (1644, 3, .invokevirtual 238, [171, 1, 4, 0, 0, 0, 6, 1391]) :: (1647, 3, .if_icmp .eq 767, [1364]) :: (1650, 1, .iconst 0, []) :: (1651, 1, .ireturn, []) :: c253_910
def c253_902 : List RI := (1636, 3, .goto 778, [1364]) :: c253_903
def c253_891 : List RI := (1619, 2, .iload 5, []) :: (1621, 3, .ifCond .ne 15, [902]) :: (1624, 1, .aload_n 3, []) :: (1625, 1, .iconst 0, []) :: (1626, 1, .laload, []) :: (1627, 2, .iload 6, []) :: (1629, 1, .i2l, []) :: (1630, 1, .lcmp, []) :: (1631, 3, .ifCond .eq 5, [902]) :: (1634, 1, .iconst 0, []) :: (1635, 1, .ireturn, []) :: c253_902
def c253_868 : List RI := (1583, 1, .aload_n 1, []) :: (1584, 1, .aload_n 0, []) :: (1585, 2, .iload 4, []) :: (1587, 1, .iconst 1, []) :: (1588, 1, .iadd, []) :: (1589, 1, .iaload, []) :: (1590, 1, .aload_n 3, []) :: (1591, 3, .invokestatic 232, [158, 3, 4, 1, 6, 2, 0, 891]) :: (1594, 2, .istore 5, []) :: (1596, 1, .aload_n 2, []) :: (1597, 1, .aload_n 0, []) :: (1598, 2, .iload 4, []) :: (1600, 1, .iconst 1, []) :: (1601, 1, .iadd, []) :: (1602, 1, .iaload, []) :: (1603, 3, .invokevirtual 234, [161, 2, 3, 0, 0, 0, 6, 1379]) :: (1606, 2, .istore 6, []) :: (1608, 1, .aload_n 2, []) :: (1609, 3, .invokevirtual 131, [25, 1, 1, 0, 0, 0, 6, 1177]) :: (1612, 2, .iload 5, []) :: (1614, 3, .if_icmp .eq 5, [891]) :: (1617, 1, .iconst 0, []) :: (1618, 1, .ireturn, []) :: c253_891
def c253_867 : List RI := (1580, 3, .goto 834, [1364]) :: c253_868
def c253_856 : List RI := (1563, 2, .iload 5, []) :: (1565, 3, .ifCond .ne 15, [867]) :: (1568, 1, .aload_n 3, []) :: (1569, 1, .iconst 0, []) :: (1570, 1, .laload, []) :: (1571, 2, .iload 6, []) :: (1573, 1, .i2l, []) :: (1574, 1, .lcmp, []) :: (1575, 3, .ifCond .eq 5, [867]) :: (1578, 1, .iconst 0, []) :: (1579, 1, .ireturn, []) :: c253_867
def c253_811 : List RI := (1501, 1, .aload_n 1, []) :: (1502, 1, .aload_n 0, []) :: (1503, 2, .iload 4, []) :: (1505, 1, .iconst 1, []) :: (1506, 1, .iadd, []) :: (1507, 1, .iaload, []) :: (1508, 1, .aload_n 0, []) :: (1509, 2, .iload 4, []) :: (1511, 1, .iconst 2, []) :: (1512, 1, .iadd, []) :: (1513, 1, .iaload, []) :: (1514, 1, .aload_n 0, []) :: (1515, 2, .iload 4, []) :: (1517, 1, .iconst 3, []) :: (1518, 1, .iadd, []) :: (1519, 1, .iaload, []) :: (1520, 1, .i2c, []) :: (1521, 1, .aload_n 3, []) :: (1522, 3, .invokestatic 228, [151, 5, 6, 2, 12, 2, 0, 857]) :: (1525, 2, .istore 5, []) :: (1527, 1, .aload_n 2, []) :: (1528, 1, .aload_n 0, []) :: (1529, 2, .iload 4, []) :: (1531, 1, .iconst 1, []) :: (1532, 1, .iadd, []) :: (1533, 1, .iaload, []) :: (1534, 1, .aload_n 0, []) :: (1535, 2, .iload 4, []) :: (1537, 1, .iconst 2, []) :: (1538, 1, .iadd, []) :: (1539, 1, .iaload, []) :: (1540, 1, .aload_n 0, []) :: (1541, 2, .iload 4, []) :: (1543, 1, .iconst 3, []) :: (1544, 1, .iadd, []) :: (1545, 1, .iaload, []) :: (1546, 1, .i2c, []) :: (1547, 3, .invokevirtual 231, [154, 4, 5, 0, 0, 0, 6, 1368]) :: (1550, 2, .istore 6, []) :: (1552, 1, .aload_n 2, []) :: (1553, 3, .invokevirtual 131, [25, 1, 1, 0, 0, 0, 6, 1177]) :: (1556, 2, .iload 5, []) :: (1558, 3, .if_icmp .eq 5, [856]) :: (1561, 1, .iconst 0, []) :: (1562, 1, .ireturn, []) :: c253_856
def c253_810 : List RI := (1498, 3, .goto 916, [1364]) :: c253_811
def c253_799 : List RI := (1481, 2, .iload 5, []) :: (1483, 3, .ifCond .ne 15, [810]) :: (1486, 1, .aload_n 3, []) :: (1487, 1, .iconst 0, []) :: (1488, 1, .laload, []) :: (1489, 2, .iload 6, []) :: (1491, 1, .i2l, []) :: (1492, 1, .lcmp, []) :: (1493, 3, .ifCond .eq 5, [810]) :: (1496, 1, .iconst 0, []) :: (1497, 1, .ireturn, []) :: c253_810
def c253_786 : List RI := (1457, 1, .aload_n 1, []) :: (1458, 1, .aload_n 3, []) :: (1459, 3, .invokestatic 225, [145, 2, 3, 1, 6, 2, 0, 827]) :: (1462, 2, .istore 5, []) :: (1464, 1, .aload_n 2, []) :: (1465, 3, .invokevirtual 227, [146, 1, 3, 0, 0, 0, 6, 1364]) :: (1468, 2, .istore 6, []) :: (1470, 1, .aload_n 2, []) :: (1471, 3, .invokevirtual 131, [25, 1, 1, 0, 0, 0, 6, 1177]) :: (1474, 2, .iload 5, []) :: (1476, 3, .if_icmp .eq 5, [799]) :: (1479, 1, .iconst 0, []) :: (1480, 1, .ireturn, []) :: c253_799
def c253_785 : List RI := (1454, 3, .goto 960, [1364]) :: c253_786
def c253_774 : List RI := (1437, 2, .iload 5, []) :: (1439, 3, .ifCond .ne 15, [785]) :: (1442, 1, .aload_n 3, []) :: (1443, 1, .iconst 0, []) :: (1444, 1, .laload, []) :: (1445, 2, .iload 6, []) :: (1447, 1, .i2l, []) :: (1448, 1, .lcmp, []) :: (1449, 3, .ifCond .eq 5, [785]) :: (1452, 1, .iconst 0, []) :: (1453, 1, .ireturn, []) :: c253_785
def c253_761 : List RI := (1413, 1, .aload_n 1, []) :: (1414, 1, .aload_n 3, []) :: (1415, 3, .invokestatic 222, [141, 2, 3, 1, 6, 2, 0, 815]) :: (1418, 2, .istore 5, []) :: (1420, 1, .aload_n 2, []) :: (1421, 3, .invokevirtual 224, [142, 1, 3, 0, 0, 0, 6, 1360]) :: (1424, 2, .istore 6, []) :: (1426, 1, .aload_n 2, []) :: (1427, 3, .invokevirtual 131, [25, 1, 1, 0, 0, 0, 6, 1177]) :: (1430, 2, .iload 5, []) :: (1432, 3, .if_icmp .eq 5, [774]) :: (1435, 1, .iconst 0, []) :: (1436, 1, .ireturn, []) :: c253_774
def c253_760 : List RI := (1410, 3, .goto 1004, [1364]) :: c253_761
def c253_756 : List RI := (1404, 1, .lcmp, []) :: (1405, 3, .ifCond .eq 5, [760]) :: (1408, 1, .iconst 0, []) :: (1409, 1, .ireturn, []) :: c253_760
def c253_755 : List RI := (1403, 1, .lconst 0, []) :: c253_756
def c253_746 : List RI := (1386, 2, .iload 5, []) :: (1388, 3, .ifCond .ne 22, [760]) :: (1391, 1, .aload_n 3, []) :: (1392, 1, .iconst 0, []) :: (1393, 1, .laload, []) :: (1394, 2, .iload 6, []) :: (1396, 3, .ifCond .eq 7, [755]) :: (1399, 1, .lconst 1, []) :: (1400, 3, .goto 4, [756]) :: c253_755
def c253_713 : List RI := (1338, 1, .aload_n 1, []) :: (1339, 1, .aload_n 0, []) :: (1340, 2, .iload 4, []) :: (1342, 1, .iconst 1, []) :: (1343, 1, .iadd, []) :: (1344, 1, .iaload, []) :: (1345, 1, .aload_n 0, []) :: (1346, 2, .iload 4, []) :: (1348, 1, .iconst 2, []) :: (1349, 1, .iadd, []) :: (1350, 1, .iaload, []) :: (1351, 1, .aload_n 3, []) :: (1352, 3, .invokestatic 219, [137, 4, 5, 2, 12, 2, 0, 808]) :: (1355, 2, .istore 5, []) :: (1357, 1, .aload_n 2, []) :: (1358, 1, .aload_n 0, []) :: (1359, 2, .iload 4, []) :: (1361, 1, .iconst 1, []) :: (1362, 1, .iadd, []) :: (1363, 1, .iaload, []) :: (1364, 1, .aload_n 0, []) :: (1365, 2, .iload 4, []) :: (1367, 1, .iconst 2, []) :: (1368, 1, .iadd, []) :: (1369, 1, .iaload, []) :: (1370, 3, .invokevirtual 221, [138, 3, 4, 0, 0, 0, 6, 1356]) :: (1373, 2, .istore 6, []) :: (1375, 1, .aload_n 2, []) :: (1376, 3, .invokevirtual 131, [25, 1, 1, 0, 0, 0, 6, 1177]) :: (1379, 2, .iload 5, []) :: (1381, 3, .if_icmp .eq 5, [746]) :: (1384, 1, .iconst 0, []) :: (1385, 1, .ireturn, []) :: c253_746
def c253_712 : List RI := (1335, 3, .goto 1079, [1364]) :: c253_713
def c253_701 : List RI := (1318, 2, .iload 5, []) :: (1320, 3, .ifCond .ne 15, [712]) :: (1323, 1, .aload_n 3, []) :: (1324, 1, .iconst 0, []) :: (1325, 1, .laload, []) :: (1326, 2, .iload 6, []) :: (1328, 1, .i2l, []) :: (1329, 1, .lcmp, []) :: (1330, 3, .ifCond .eq 5, [712]) :: (1333, 1, .iconst 0, []) :: (1334, 1, .ireturn, []) :: c253_712
def c253_688 : List RI := (1294, 1, .aload_n 1, []) :: (1295, 1, .aload_n 3, []) :: (1296, 3, .invokestatic 215, [132, 2, 3, 1, 6, 2, 0, 773]) :: (1299, 2, .istore 5, []) :: (1301, 1, .aload_n 2, []) :: (1302, 3, .invokevirtual 218, [135, 1, 2, 0, 0, 0, 6, 1345]) :: (1305, 2, .istore 6, []) :: (1307, 1, .aload_n 2, []) :: (1308, 3, .invokevirtual 131, [25, 1, 1, 0, 0, 0, 6, 1177]) :: (1311, 2, .iload 5, []) :: (1313, 3, .if_icmp .eq 5, [701]) :: (1316, 1, .iconst 0, []) :: (1317, 1, .ireturn, []) :: c253_701
def c253_681 : List RI := (1281, 1, .aload_n 1, []) :: (1282, 3, .invokevirtual 211, [126, 1, 1, 0, 0, 0, 5, 358]) :: (1285, 1, .aload_n 2, []) :: (1286, 3, .invokevirtual 214, [127, 1, 1, 0, 0, 0, 6, 1341]) :: (1289, 3, .if_icmp .eq 1125, [1364]) :: (1292, 1, .iconst 0, []) :: (1293, 1, .ireturn, []) :: c253_688
def c253_680 : List RI := (1278, 3, .goto 1136, [1364]) :: c253_681
def c253_676 : List RI := (1272, 1, .lcmp, []) :: (1273, 3, .ifCond .eq 5, [680]) :: (1276, 1, .iconst 0, []) :: (1277, 1, .ireturn, []) :: c253_680
def c253_675 : List RI := (1271, 1, .lconst 0, []) :: c253_676
def c253_666 : List RI := (1254, 2, .iload 5, []) :: (1256, 3, .ifCond .ne 22, [680]) :: (1259, 1, .aload_n 3, []) :: (1260, 1, .iconst 0, []) :: (1261, 1, .laload, []) :: (1262, 2, .iload 6, []) :: (1264, 3, .ifCond .eq 7, [675]) :: (1267, 1, .lconst 1, []) :: (1268, 3, .goto 4, [676]) :: c253_675
def c253_633 : List RI := (1206, 1, .aload_n 1, []) :: (1207, 1, .aload_n 0, []) :: (1208, 2, .iload 4, []) :: (1210, 1, .iconst 1, []) :: (1211, 1, .iadd, []) :: (1212, 1, .iaload, []) :: (1213, 1, .aload_n 0, []) :: (1214, 2, .iload 4, []) :: (1216, 1, .iconst 2, []) :: (1217, 1, .iadd, []) :: (1218, 1, .iaload, []) :: (1219, 1, .aload_n 3, []) :: (1220, 3, .invokestatic 208, [123, 4, 5, 1, 6, 2, 0, 766]) :: (1223, 2, .istore 5, []) :: (1225, 1, .aload_n 2, []) :: (1226, 1, .aload_n 0, []) :: (1227, 2, .iload 4, []) :: (1229, 1, .iconst 1, []) :: (1230, 1, .iadd, []) :: (1231, 1, .iaload, []) :: (1232, 1, .aload_n 0, []) :: (1233, 2, .iload 4, []) :: (1235, 1, .iconst 2, []) :: (1236, 1, .iadd, []) :: (1237, 1, .iaload, []) :: (1238, 3, .invokevirtual 210, [125, 3, 3, 0, 0, 0, 6, 1333]) :: (1241, 2, .istore 6, []) :: (1243, 1, .aload_n 2, []) :: (1244, 3, .invokevirtual 131, [25, 1, 1, 0, 0, 0, 6, 1177]) :: (1247, 2, .iload 5, []) :: (1249, 3, .if_icmp .eq 5, [666]) :: (1252, 1, .iconst 0, []) :: (1253, 1, .ireturn, []) :: c253_666
def c253_626 : List RI := (1193, 1, .aload_n 1, []) :: (1194, 3, .invokevirtual 204, [119, 1, 1, 0, 0, 0, 5, 353]) :: (1197, 1, .aload_n 2, []) :: (1198, 3, .invokevirtual 207, [120, 1, 1, 0, 0, 0, 6, 1329]) :: (1201, 3, .if_icmp .eq 1213, [1364]) :: (1204, 1, .iconst 0, []) :: (1205, 1, .ireturn, []) :: c253_633
def c253_619 : List RI := (1180, 1, .aload_n 1, []) :: (1181, 3, .invokevirtual 200, [117, 1, 1, 0, 0, 0, 5, 340]) :: (1184, 1, .aload_n 2, []) :: (1185, 3, .invokevirtual 203, [118, 1, 1, 0, 0, 0, 6, 1325]) :: (1188, 3, .if_icmp .eq 1226, [1364]) :: (1191, 1, .iconst 0, []) :: (1192, 1, .ireturn, []) :: c253_626
def c253_612 : List RI := (1167, 1, .aload_n 1, []) :: (1168, 3, .invokevirtual 196, [109, 1, 1, 0, 0, 0, 5, 295]) :: (1171, 1, .aload_n 2, []) :: (1172, 3, .invokevirtual 199, [114, 1, 1, 0, 0, 0, 6, 1305]) :: (1175, 3, .if_icmp .eq 1239, [1364]) :: (1178, 1, .iconst 0, []) :: (1179, 1, .ireturn, []) :: c253_619
def c253_605 : List RI := (1154, 1, .aload_n 1, []) :: (1155, 3, .invokevirtual 192, [99, 1, 1, 0, 0, 0, 5, 291]) :: (1158, 1, .aload_n 2, []) :: (1159, 3, .invokevirtual 195, [100, 1, 1, 0, 0, 0, 6, 1301]) :: (1162, 3, .if_icmp .eq 1252, [1364]) :: (1165, 1, .iconst 0, []) :: (1166, 1, .ireturn, []) :: c253_612
def c253_598 : List RI := (1141, 1, .aload_n 1, []) :: (1142, 3, .invokevirtual 187, [97, 1, 1, 0, 0, 0, 5, 283]) :: (1145, 1, .aload_n 2, []) :: (1146, 3, .invokevirtual 191, [98, 1, 1, 0, 0, 0, 6, 1297]) :: (1149, 3, .if_icmp .eq 1265, [1364]) :: (1152, 1, .iconst 0, []) :: (1153, 1, .ireturn, []) :: c253_605
def c253_597 : List RI := (1138, 3, .goto 1276, [1364]) :: c253_598
def c253_593 : List RI := (1132, 1, .lcmp, []) :: (1133, 3, .ifCond .eq 5, [597]) :: (1136, 1, .iconst 0, []) :: (1137, 1, .ireturn, []) :: c253_597
def c253_592 : List RI := (1131, 1, .lconst 0, []) :: c253_593
def c253_583 : List RI := (1114, 2, .iload 5, []) :: (1116, 3, .ifCond .ne 22, [597]) :: (1119, 1, .aload_n 3, []) :: (1120, 1, .iconst 0, []) :: (1121, 1, .laload, []) :: (1122, 2, .iload 6, []) :: (1124, 3, .ifCond .eq 7, [592]) :: (1127, 1, .lconst 1, []) :: (1128, 3, .goto 4, [593]) :: c253_592
def c253_550 : List RI := (1066, 1, .aload_n 1, []) :: (1067, 1, .aload_n 0, []) :: (1068, 2, .iload 4, []) :: (1070, 1, .iconst 1, []) :: (1071, 1, .iadd, []) :: (1072, 1, .iaload, []) :: (1073, 1, .aload_n 0, []) :: (1074, 2, .iload 4, []) :: (1076, 1, .iconst 2, []) :: (1077, 1, .iadd, []) :: (1078, 1, .iaload, []) :: (1079, 1, .aload_n 3, []) :: (1080, 3, .invokestatic 184, [94, 4, 5, 1, 6, 2, 0, 759]) :: (1083, 2, .istore 5, []) :: (1085, 1, .aload_n 2, []) :: (1086, 1, .aload_n 0, []) :: (1087, 2, .iload 4, []) :: (1089, 1, .iconst 1, []) :: (1090, 1, .iadd, []) :: (1091, 1, .iaload, []) :: (1092, 1, .aload_n 0, []) :: (1093, 2, .iload 4, []) :: (1095, 1, .iconst 2, []) :: (1096, 1, .iadd, []) :: (1097, 1, .iaload, []) :: (1098, 3, .invokevirtual 186, [95, 3, 3, 0, 0, 0, 6, 1293]) :: (1101, 2, .istore 6, []) :: (1103, 1, .aload_n 2, []) :: (1104, 3, .invokevirtual 131, [25, 1, 1, 0, 0, 0, 6, 1177]) :: (1107, 2, .iload 5, []) :: (1109, 3, .if_icmp .eq 5, [583]) :: (1112, 1, .iconst 0, []) :: (1113, 1, .ireturn, []) :: c253_583
def c253_549 : List RI := (1063, 3, .goto 1351, [1364]) :: c253_550
def c253_545 : List RI := (1057, 1, .lcmp, []) :: (1058, 3, .ifCond .eq 5, [549]) :: (1061, 1, .iconst 0, []) :: (1062, 1, .ireturn, []) :: c253_549
def c253_544 : List RI := (1056, 1, .lconst 0, []) :: c253_545
def c253_535 : List RI := (1039, 2, .iload 5, []) :: (1041, 3, .ifCond .ne 22, [549]) :: (1044, 1, .aload_n 3, []) :: (1045, 1, .iconst 0, []) :: (1046, 1, .laload, []) :: (1047, 2, .iload 6, []) :: (1049, 3, .ifCond .eq 7, [544]) :: (1052, 1, .lconst 1, []) :: (1053, 3, .goto 4, [545]) :: c253_544
def c253_502 : List RI := (991, 1, .aload_n 1, []) :: (992, 1, .aload_n 0, []) :: (993, 2, .iload 4, []) :: (995, 1, .iconst 1, []) :: (996, 1, .iadd, []) :: (997, 1, .iaload, []) :: (998, 1, .aload_n 0, []) :: (999, 2, .iload 4, []) :: (1001, 1, .iconst 2, []) :: (1002, 1, .iadd, []) :: (1003, 1, .iaload, []) :: (1004, 1, .aload_n 3, []) :: (1005, 3, .invokestatic 181, [91, 4, 5, 1, 6, 2, 0, 752]) :: (1008, 2, .istore 5, []) :: (1010, 1, .aload_n 2, []) :: (1011, 1, .aload_n 0, []) :: (1012, 2, .iload 4, []) :: (1014, 1, .iconst 1, []) :: (1015, 1, .iadd, []) :: (1016, 1, .iaload, []) :: (1017, 1, .aload_n 0, []) :: (1018, 2, .iload 4, []) :: (1020, 1, .iconst 2, []) :: (1021, 1, .iadd, []) :: (1022, 1, .iaload, []) :: (1023, 3, .invokevirtual 183, [92, 3, 3, 0, 0, 0, 6, 1289]) :: (1026, 2, .istore 6, []) :: (1028, 1, .aload_n 2, []) :: (1029, 3, .invokevirtual 131, [25, 1, 1, 0, 0, 0, 6, 1177]) :: (1032, 2, .iload 5, []) :: (1034, 3, .if_icmp .eq 5, [535]) :: (1037, 1, .iconst 0, []) :: (1038, 1, .ireturn, []) :: c253_535
def c253_501 : List RI := (988, 3, .goto 1426, [1364]) :: c253_502
def c253_490 : List RI := (971, 2, .iload 5, []) :: (973, 3, .ifCond .ne 15, [501]) :: (976, 1, .aload_n 3, []) :: (977, 1, .iconst 0, []) :: (978, 1, .laload, []) :: (979, 2, .iload 6, []) :: (981, 1, .i2l, []) :: (982, 1, .lcmp, []) :: (983, 3, .ifCond .eq 5, [501]) :: (986, 1, .iconst 0, []) :: (987, 1, .ireturn, []) :: c253_501
def c253_457 : List RI := (923, 1, .aload_n 1, []) :: (924, 1, .aload_n 0, []) :: (925, 2, .iload 4, []) :: (927, 1, .iconst 1, []) :: (928, 1, .iadd, []) :: (929, 1, .iaload, []) :: (930, 1, .aload_n 0, []) :: (931, 2, .iload 4, []) :: (933, 1, .iconst 2, []) :: (934, 1, .iadd, []) :: (935, 1, .iaload, []) :: (936, 1, .aload_n 3, []) :: (937, 3, .invokestatic 178, [88, 4, 5, 1, 6, 2, 0, 744]) :: (940, 2, .istore 5, []) :: (942, 1, .aload_n 2, []) :: (943, 1, .aload_n 0, []) :: (944, 2, .iload 4, []) :: (946, 1, .iconst 1, []) :: (947, 1, .iadd, []) :: (948, 1, .iaload, []) :: (949, 1, .aload_n 0, []) :: (950, 2, .iload 4, []) :: (952, 1, .iconst 2, []) :: (953, 1, .iadd, []) :: (954, 1, .iaload, []) :: (955, 3, .invokevirtual 180, [89, 3, 3, 0, 0, 0, 6, 1285]) :: (958, 2, .istore 6, []) :: (960, 1, .aload_n 2, []) :: (961, 3, .invokevirtual 131, [25, 1, 1, 0, 0, 0, 6, 1177]) :: (964, 2, .iload 5, []) :: (966, 3, .if_icmp .eq 5, [490]) :: (969, 1, .iconst 0, []) :: (970, 1, .ireturn, []) :: c253_490
def c253_456 : List RI := (920, 3, .goto 1494, [1364]) :: c253_457
def c253_445 : List RI := (903, 2, .iload 5, []) :: (905, 3, .ifCond .ne 15, [456]) :: (908, 1, .aload_n 3, []) :: (909, 1, .iconst 0, []) :: (910, 1, .laload, []) :: (911, 2, .iload 6, []) :: (913, 1, .i2l, []) :: (914, 1, .lcmp, []) :: (915, 3, .ifCond .eq 5, [456]) :: (918, 1, .iconst 0, []) :: (919, 1, .ireturn, []) :: c253_456
def c253_412 : List RI := (855, 1, .aload_n 1, []) :: (856, 1, .aload_n 0, []) :: (857, 2, .iload 4, []) :: (859, 1, .iconst 1, []) :: (860, 1, .iadd, []) :: (861, 1, .iaload, []) :: (862, 1, .aload_n 0, []) :: (863, 2, .iload 4, []) :: (865, 1, .iconst 2, []) :: (866, 1, .iadd, []) :: (867, 1, .iaload, []) :: (868, 1, .aload_n 3, []) :: (869, 3, .invokestatic 175, [85, 4, 5, 1, 6, 2, 0, 737]) :: (872, 2, .istore 5, []) :: (874, 1, .aload_n 2, []) :: (875, 1, .aload_n 0, []) :: (876, 2, .iload 4, []) :: (878, 1, .iconst 1, []) :: (879, 1, .iadd, []) :: (880, 1, .iaload, []) :: (881, 1, .aload_n 0, []) :: (882, 2, .iload 4, []) :: (884, 1, .iconst 2, []) :: (885, 1, .iadd, []) :: (886, 1, .iaload, []) :: (887, 3, .invokevirtual 177, [86, 3, 3, 0, 0, 0, 6, 1281]) :: (890, 2, .istore 6, []) :: (892, 1, .aload_n 2, []) :: (893, 3, .invokevirtual 131, [25, 1, 1, 0, 0, 0, 6, 1177]) :: (896, 2, .iload 5, []) :: (898, 3, .if_icmp .eq 5, [445]) :: (901, 1, .iconst 0, []) :: (902, 1, .ireturn, []) :: c253_445
def c253_411 : List RI := (852, 3, .goto 1562, [1364]) :: c253_412
def c253_400 : List RI := (835, 2, .iload 5, []) :: (837, 3, .ifCond .ne 15, [411]) :: (840, 1, .aload_n 3, []) :: (841, 1, .iconst 0, []) :: (842, 1, .laload, []) :: (843, 2, .iload 6, []) :: (845, 1, .i2l, []) :: (846, 1, .lcmp, []) :: (847, 3, .ifCond .eq 5, [411]) :: (850, 1, .iconst 0, []) :: (851, 1, .ireturn, []) :: c253_411
def c253_377 : List RI := (799, 1, .aload_n 1, []) :: (800, 1, .aload_n 0, []) :: (801, 2, .iload 4, []) :: (803, 1, .iconst 1, []) :: (804, 1, .iadd, []) :: (805, 1, .iaload, []) :: (806, 1, .aload_n 3, []) :: (807, 3, .invokestatic 172, [82, 3, 4, 1, 6, 2, 0, 728]) :: (810, 2, .istore 5, []) :: (812, 1, .aload_n 2, []) :: (813, 1, .aload_n 0, []) :: (814, 2, .iload 4, []) :: (816, 1, .iconst 1, []) :: (817, 1, .iadd, []) :: (818, 1, .iaload, []) :: (819, 3, .invokevirtual 174, [83, 2, 4, 0, 0, 0, 6, 1277]) :: (822, 2, .istore 6, []) :: (824, 1, .aload_n 2, []) :: (825, 3, .invokevirtual 131, [25, 1, 1, 0, 0, 0, 6, 1177]) :: (828, 2, .iload 5, []) :: (830, 3, .if_icmp .eq 5, [400]) :: (833, 1, .iconst 0, []) :: (834, 1, .ireturn, []) :: c253_400
def c253_376 : List RI := (796, 3, .goto 1618, [1364]) :: c253_377
def c253_365 : List RI := (779, 2, .iload 5, []) :: (781, 3, .ifCond .ne 15, [376]) :: (784, 1, .aload_n 3, []) :: (785, 1, .iconst 0, []) :: (786, 1, .laload, []) :: (787, 2, .iload 6, []) :: (789, 1, .i2l, []) :: (790, 1, .lcmp, []) :: (791, 3, .ifCond .eq 5, [376]) :: (794, 1, .iconst 0, []) :: (795, 1, .ireturn, []) :: c253_376
def c253_342 : List RI := (743, 1, .aload_n 1, []) :: (744, 1, .aload_n 0, []) :: (745, 2, .iload 4, []) :: (747, 1, .iconst 1, []) :: (748, 1, .iadd, []) :: (749, 1, .iaload, []) :: (750, 1, .aload_n 3, []) :: (751, 3, .invokestatic 168, [79, 3, 4, 1, 6, 2, 0, 716]) :: (754, 2, .istore 5, []) :: (756, 1, .aload_n 2, []) :: (757, 1, .aload_n 0, []) :: (758, 2, .iload 4, []) :: (760, 1, .iconst 1, []) :: (761, 1, .iadd, []) :: (762, 1, .iaload, []) :: (763, 3, .invokevirtual 171, [80, 2, 4, 0, 0, 0, 6, 1273]) :: (766, 2, .istore 6, []) :: (768, 1, .aload_n 2, []) :: (769, 3, .invokevirtual 131, [25, 1, 1, 0, 0, 0, 6, 1177]) :: (772, 2, .iload 5, []) :: (774, 3, .if_icmp .eq 5, [365]) :: (777, 1, .iconst 0, []) :: (778, 1, .ireturn, []) :: c253_365
def c253_335 : List RI := (730, 1, .aload_n 1, []) :: (731, 3, .invokevirtual 164, [75, 1, 1, 0, 0, 0, 5, 273]) :: (734, 1, .aload_n 2, []) :: (735, 3, .invokevirtual 167, [76, 1, 1, 0, 0, 0, 6, 1269]) :: (738, 3, .if_icmp .eq 1676, [1364]) :: (741, 1, .iconst 0, []) :: (742, 1, .ireturn, []) :: c253_342
def c253_334 : List RI := (727, 3, .goto 1687, [1364]) :: c253_335
def c253_330 : List RI := (721, 1, .lcmp, []) :: (722, 3, .ifCond .eq 5, [334]) :: (725, 1, .iconst 0, []) :: (726, 1, .ireturn, []) :: c253_334
def c253_329 : List RI := (720, 1, .lconst 0, []) :: c253_330
def c253_320 : List RI := (703, 2, .iload 5, []) :: (705, 3, .ifCond .ne 22, [334]) :: (708, 1, .aload_n 3, []) :: (709, 1, .iconst 0, []) :: (710, 1, .laload, []) :: (711, 2, .iload 6, []) :: (713, 3, .ifCond .eq 7, [329]) :: (716, 1, .lconst 1, []) :: (717, 3, .goto 4, [330]) :: c253_329
def c253_287 : List RI := (655, 1, .aload_n 1, []) :: (656, 1, .aload_n 0, []) :: (657, 2, .iload 4, []) :: (659, 1, .iconst 1, []) :: (660, 1, .iadd, []) :: (661, 1, .iaload, []) :: (662, 1, .aload_n 0, []) :: (663, 2, .iload 4, []) :: (665, 1, .iconst 2, []) :: (666, 1, .iadd, []) :: (667, 1, .iaload, []) :: (668, 1, .aload_n 3, []) :: (669, 3, .invokestatic 161, [73, 4, 5, 1, 6, 2, 0, 709]) :: (672, 2, .istore 5, []) :: (674, 1, .aload_n 2, []) :: (675, 1, .aload_n 0, []) :: (676, 2, .iload 4, []) :: (678, 1, .iconst 1, []) :: (679, 1, .iadd, []) :: (680, 1, .iaload, []) :: (681, 1, .aload_n 0, []) :: (682, 2, .iload 4, []) :: (684, 1, .iconst 2, []) :: (685, 1, .iadd, []) :: (686, 1, .iaload, []) :: (687, 3, .invokevirtual 163, [74, 3, 5, 0, 0, 0, 6, 1265]) :: (690, 2, .istore 6, []) :: (692, 1, .aload_n 2, []) :: (693, 3, .invokevirtual 131, [25, 1, 1, 0, 0, 0, 6, 1177]) :: (696, 2, .iload 5, []) :: (698, 3, .if_icmp .eq 5, [320]) :: (701, 1, .iconst 0, []) :: (702, 1, .ireturn, []) :: c253_320
def c253_286 : List RI := (652, 3, .goto 1762, [1364]) :: c253_287
def c253_282 : List RI := (646, 1, .lcmp, []) :: (647, 3, .ifCond .eq 5, [286]) :: (650, 1, .iconst 0, []) :: (651, 1, .ireturn, []) :: c253_286
def c253_281 : List RI := (645, 1, .lconst 0, []) :: c253_282
def c253_272 : List RI := (628, 2, .iload 5, []) :: (630, 3, .ifCond .ne 22, [286]) :: (633, 1, .aload_n 3, []) :: (634, 1, .iconst 0, []) :: (635, 1, .laload, []) :: (636, 2, .iload 6, []) :: (638, 3, .ifCond .eq 7, [281]) :: (641, 1, .lconst 1, []) :: (642, 3, .goto 4, [282]) :: c253_281
def c253_239 : List RI := (580, 1, .aload_n 1, []) :: (581, 1, .aload_n 0, []) :: (582, 2, .iload 4, []) :: (584, 1, .iconst 1, []) :: (585, 1, .iadd, []) :: (586, 1, .iaload, []) :: (587, 1, .aload_n 0, []) :: (588, 2, .iload 4, []) :: (590, 1, .iconst 2, []) :: (591, 1, .iadd, []) :: (592, 1, .iaload, []) :: (593, 1, .aload_n 3, []) :: (594, 3, .invokestatic 158, [69, 4, 5, 1, 6, 2, 0, 702]) :: (597, 2, .istore 5, []) :: (599, 1, .aload_n 2, []) :: (600, 1, .aload_n 0, []) :: (601, 2, .iload 4, []) :: (603, 1, .iconst 1, []) :: (604, 1, .iadd, []) :: (605, 1, .iaload, []) :: (606, 1, .aload_n 0, []) :: (607, 2, .iload 4, []) :: (609, 1, .iconst 2, []) :: (610, 1, .iadd, []) :: (611, 1, .iaload, []) :: (612, 3, .invokevirtual 160, [70, 3, 3, 0, 0, 0, 6, 1261]) :: (615, 2, .istore 6, []) :: (617, 1, .aload_n 2, []) :: (618, 3, .invokevirtual 131, [25, 1, 1, 0, 0, 0, 6, 1177]) :: (621, 2, .iload 5, []) :: (623, 3, .if_icmp .eq 5, [272]) :: (626, 1, .iconst 0, []) :: (627, 1, .ireturn, []) :: c253_272
def c253_232 : List RI := (567, 1, .aload_n 1, []) :: (568, 3, .invokevirtual 153, [66, 1, 1, 0, 0, 0, 5, 269]) :: (571, 1, .aload_n 2, []) :: (572, 3, .invokevirtual 157, [67, 1, 1, 0, 0, 0, 6, 1257]) :: (575, 3, .if_icmp .eq 1839, [1364]) :: (578, 1, .iconst 0, []) :: (579, 1, .ireturn, []) :: c253_239
def c253_225 : List RI := (554, 1, .aload_n 1, []) :: (555, 3, .invokevirtual 149, [64, 1, 1, 0, 0, 0, 5, 265]) :: (558, 1, .aload_n 2, []) :: (559, 3, .invokevirtual 152, [65, 1, 1, 0, 0, 0, 6, 1253]) :: (562, 3, .if_icmp .eq 1852, [1364]) :: (565, 1, .iconst 0, []) :: (566, 1, .ireturn, []) :: c253_232
def c253_218 : List RI := (541, 1, .aload_n 1, []) :: (542, 3, .invokevirtual 145, [62, 1, 1, 0, 0, 0, 5, 261]) :: (545, 1, .aload_n 2, []) :: (546, 3, .invokevirtual 148, [63, 1, 1, 0, 0, 0, 6, 1249]) :: (549, 3, .if_icmp .eq 1865, [1364]) :: (552, 1, .iconst 0, []) :: (553, 1, .ireturn, []) :: c253_225
def c253_217 : List RI := (538, 3, .goto 1876, [1364]) :: c253_218
def c253_206 : List RI := (521, 2, .iload 5, []) :: (523, 3, .ifCond .ne 15, [217]) :: (526, 1, .aload_n 3, []) :: (527, 1, .iconst 0, []) :: (528, 1, .laload, []) :: (529, 2, .iload 6, []) :: (531, 1, .i2l, []) :: (532, 1, .lcmp, []) :: (533, 3, .ifCond .eq 5, [217]) :: (536, 1, .iconst 0, []) :: (537, 1, .ireturn, []) :: c253_217
def c253_173 : List RI := (473, 1, .aload_n 1, []) :: (474, 1, .aload_n 0, []) :: (475, 2, .iload 4, []) :: (477, 1, .iconst 1, []) :: (478, 1, .iadd, []) :: (479, 1, .iaload, []) :: (480, 1, .aload_n 0, []) :: (481, 2, .iload 4, []) :: (483, 1, .iconst 2, []) :: (484, 1, .iadd, []) :: (485, 1, .iaload, []) :: (486, 1, .aload_n 3, []) :: (487, 3, .invokestatic 142, [56, 4, 5, 1, 6, 2, 0, 694]) :: (490, 2, .istore 5, []) :: (492, 1, .aload_n 2, []) :: (493, 1, .aload_n 0, []) :: (494, 2, .iload 4, []) :: (496, 1, .iconst 1, []) :: (497, 1, .iadd, []) :: (498, 1, .iaload, []) :: (499, 1, .aload_n 0, []) :: (500, 2, .iload 4, []) :: (502, 1, .iconst 2, []) :: (503, 1, .iadd, []) :: (504, 1, .iaload, []) :: (505, 3, .invokevirtual 144, [61, 3, 3, 0, 0, 0, 6, 1230]) :: (508, 2, .istore 6, []) :: (510, 1, .aload_n 2, []) :: (511, 3, .invokevirtual 131, [25, 1, 1, 0, 0, 0, 6, 1177]) :: (514, 2, .iload 5, []) :: (516, 3, .if_icmp .eq 5, [206]) :: (519, 1, .iconst 0, []) :: (520, 1, .ireturn, []) :: c253_206
def c253_172 : List RI := (470, 3, .goto 1944, [1364]) :: c253_173
def c253_168 : List RI := (464, 1, .lcmp, []) :: (465, 3, .ifCond .eq 5, [172]) :: (468, 1, .iconst 0, []) :: (469, 1, .ireturn, []) :: c253_172
def c253_167 : List RI := (463, 1, .lconst 0, []) :: c253_168
def c253_158 : List RI := (446, 2, .iload 5, []) :: (448, 3, .ifCond .ne 22, [172]) :: (451, 1, .aload_n 3, []) :: (452, 1, .iconst 0, []) :: (453, 1, .laload, []) :: (454, 2, .iload 6, []) :: (456, 3, .ifCond .eq 7, [167]) :: (459, 1, .lconst 1, []) :: (460, 3, .goto 4, [168]) :: c253_167
def c253_150 : List RI := (430, 3, .invokevirtual 141, [50, 4, 6, 0, 0, 0, 6, 1211]) :: (433, 2, .istore 6, []) :: (435, 1, .aload_n 2, []) :: (436, 3, .invokevirtual 131, [25, 1, 1, 0, 0, 0, 6, 1177]) :: (439, 2, .iload 5, []) :: (441, 3, .if_icmp .eq 5, [158]) :: (444, 1, .iconst 0, []) :: (445, 1, .ireturn, []) :: c253_158
def c253_149 : List RI := (429, 1, .iconst 0, []) :: c253_150
def c253_127 : List RI := (397, 1, .aload_n 3, []) :: (398, 3, .invokestatic 138, [45, 5, 6, 1, 6, 2, 0, 654]) :: (401, 2, .istore 5, []) :: (403, 1, .aload_n 2, []) :: (404, 1, .aload_n 0, []) :: (405, 2, .iload 4, []) :: (407, 1, .iconst 1, []) :: (408, 1, .iadd, []) :: (409, 1, .iaload, []) :: (410, 1, .aload_n 0, []) :: (411, 2, .iload 4, []) :: (413, 1, .iconst 2, []) :: (414, 1, .iadd, []) :: (415, 1, .iaload, []) :: (416, 1, .aload_n 0, []) :: (417, 2, .iload 4, []) :: (419, 1, .iconst 3, []) :: (420, 1, .iadd, []) :: (421, 1, .iaload, []) :: (422, 3, .ifCond .eq 7, [149]) :: (425, 1, .iconst 1, []) :: (426, 3, .goto 4, [150]) :: c253_149
def c253_126 : List RI := (396, 1, .iconst 0, []) :: c253_127
def c253_107 : List RI := (370, 1, .aload_n 1, []) :: (371, 1, .aload_n 0, []) :: (372, 2, .iload 4, []) :: (374, 1, .iconst 1, []) :: (375, 1, .iadd, []) :: (376, 1, .iaload, []) :: (377, 1, .aload_n 0, []) :: (378, 2, .iload 4, []) :: (380, 1, .iconst 2, []) :: (381, 1, .iadd, []) :: (382, 1, .iaload, []) :: (383, 1, .aload_n 0, []) :: (384, 2, .iload 4, []) :: (386, 1, .iconst 3, []) :: (387, 1, .iadd, []) :: (388, 1, .iaload, []) :: (389, 3, .ifCond .eq 7, [126]) :: (392, 1, .iconst 1, []) :: (393, 3, .goto 4, [127]) :: c253_126
def c253_106 : List RI := (367, 3, .goto 2047, [1364]) :: c253_107
def c253_95 : List RI := (350, 2, .iload 5, []) :: (352, 3, .ifCond .ne 15, [106]) :: (355, 1, .aload_n 3, []) :: (356, 1, .iconst 0, []) :: (357, 1, .laload, []) :: (358, 2, .iload 6, []) :: (360, 1, .i2l, []) :: (361, 1, .lcmp, []) :: (362, 3, .ifCond .eq 5, [106]) :: (365, 1, .iconst 0, []) :: (366, 1, .ireturn, []) :: c253_106
def c253_70 : List RI := (312, 1, .aload_n 1, []) :: (313, 1, .aload_n 0, []) :: (314, 2, .iload 4, []) :: (316, 1, .iconst 1, []) :: (317, 1, .iadd, []) :: (318, 1, .iaload, []) :: (319, 1, .i2c, []) :: (320, 1, .aload_n 3, []) :: (321, 3, .invokestatic 134, [37, 3, 4, 1, 6, 2, 0, 584]) :: (324, 2, .istore 5, []) :: (326, 1, .aload_n 2, []) :: (327, 1, .aload_n 0, []) :: (328, 2, .iload 4, []) :: (330, 1, .iconst 1, []) :: (331, 1, .iadd, []) :: (332, 1, .iaload, []) :: (333, 1, .i2c, []) :: (334, 3, .invokevirtual 137, [38, 2, 3, 0, 0, 0, 6, 1207]) :: (337, 2, .istore 6, []) :: (339, 1, .aload_n 2, []) :: (340, 3, .invokevirtual 131, [25, 1, 1, 0, 0, 0, 6, 1177]) :: (343, 2, .iload 5, []) :: (345, 3, .if_icmp .eq 5, [95]) :: (348, 1, .iconst 0, []) :: (349, 1, .ireturn, []) :: c253_95
def c253_69 : List RI := (309, 3, .goto 2105, [1364]) :: c253_70
def c253_58 : List RI := (292, 2, .iload 5, []) :: (294, 3, .ifCond .ne 15, [69]) :: (297, 1, .aload_n 3, []) :: (298, 1, .iconst 0, []) :: (299, 1, .laload, []) :: (300, 2, .iload 6, []) :: (302, 1, .i2l, []) :: (303, 1, .lcmp, []) :: (304, 3, .ifCond .eq 5, [69]) :: (307, 1, .iconst 0, []) :: (308, 1, .ireturn, []) :: c253_69
def c253_25 : List RI := (244, 1, .aload_n 1, []) :: (245, 1, .aload_n 0, []) :: (246, 2, .iload 4, []) :: (248, 1, .iconst 1, []) :: (249, 1, .iadd, []) :: (250, 1, .iaload, []) :: (251, 1, .aload_n 0, []) :: (252, 2, .iload 4, []) :: (254, 1, .iconst 2, []) :: (255, 1, .iadd, []) :: (256, 1, .iaload, []) :: (257, 1, .aload_n 3, []) :: (258, 3, .invokestatic 125, [17, 4, 5, 1, 6, 2, 0, 503]) :: (261, 2, .istore 5, []) :: (263, 1, .aload_n 2, []) :: (264, 1, .aload_n 0, []) :: (265, 2, .iload 4, []) :: (267, 1, .iconst 1, []) :: (268, 1, .iadd, []) :: (269, 1, .iaload, []) :: (270, 1, .aload_n 0, []) :: (271, 2, .iload 4, []) :: (273, 1, .iconst 2, []) :: (274, 1, .iadd, []) :: (275, 1, .iaload, []) :: (276, 3, .invokevirtual 130, [24, 3, 4, 0, 0, 0, 6, 1181]) :: (279, 2, .istore 6, []) :: (281, 1, .aload_n 2, []) :: (282, 3, .invokevirtual 131, [25, 1, 1, 0, 0, 0, 6, 1177]) :: (285, 2, .iload 5, []) :: (287, 3, .if_icmp .eq 5, [58]) :: (290, 1, .iconst 0, []) :: (291, 1, .ireturn, []) :: c253_58
def c253_13 : List RI := (23, 2, .iload 4, []) :: (25, 1, .aload_n 0, []) :: (26, 1, .arraylength, []) :: (27, 1, .iconst 4, []) :: (28, 1, .isub, []) :: (29, 3, .if_icmp .gt 2391, [1366]) :: (32, 1, .aload_n 0, []) :: (33, 2, .iload 4, []) :: (35, 1, .iaload, []) :: (36, 2, .bipush 63, []) :: (38, 1, .iand, []) :: (39, 205, .tableswitch 2375 0 47 #[205, 273, 331, 434, 502, 515, 528, 541, 616, 691, 704, 760, 816, 884, 952, 1027, 1102, 1115, 1128, 1141, 1154, 1167, 1242, 1255, 1299, 1374, 1418, 1462, 1544, 1600, 1613, 1626, 1682, 1738, 1794, 1862, 1875, 1931, 1987, 2028, 2071, 2084, 2142, 2186, 2230, 2274, 2318, 2331], [1364, 0, 25, 1, 70, 2, 107, 3, 173, 4, 218, 5, 225, 6, 232, 7, 239, 8, 287, 9, 335, 10, 342, 11, 377, 12, 412, 13, 457, 14, 502, 15, 550, 16, 598, 17, 605, 18, 612, 19, 619, 20, 626, 21, 633, 22, 681, 23, 688, 24, 713, 25, 761, 26, 786, 27, 811, 28, 868, 29, 903, 30, 910, 31, 917, 32, 952, 33, 987, 34, 1022, 35, 1067, 36, 1074, 37, 1109, 38, 1144, 39, 1165, 40, 1188, 41, 1195, 42, 1232, 43, 1257, 44, 1282, 45, 1307, 46, 1332, 47, 1339]) :: c253_25
def c253_0 : List RI := (0, 3, .new 8, [5, 11, 82, 83, 57]) :: (3, 1, .dup, []) :: (4, 3, .invokespecial 121, [8, 1, 1, 64, 739, 3, 5, 84]) :: (7, 1, .astore_n 1, []) :: (8, 3, .new 122, [6, 23, 1101, 1102, 64]) :: (11, 1, .dup, []) :: (12, 3, .invokespecial 124, [9, 1, 1, 10, 730, 3, 6, 1103]) :: (15, 1, .astore_n 2, []) :: (16, 1, .iconst 1, []) :: (17, 2, .newarray .long, [2, 1540]) :: (19, 1, .astore_n 3, []) :: (20, 1, .iconst 0, []) :: (21, 2, .istore 4, []) :: c253_13
def mCs : List (List RI) := [c0_0, c1_0, c2_0, c3_0, c4_0, c5_0, c6_0, c7_0, c8_0, c9_0, c10_0, c11_0, c12_0, c13_0, c14_0, c15_0, c16_0, c17_0, c18_0, c19_0, c20_0, c21_0, c22_0, c23_0, c24_0, c25_0, c26_0, c27_0, c28_0, c29_0, c30_0, c31_0, c32_0, c33_0, c34_0, c35_0, c36_0, c37_0, c38_0, c39_0, c40_0, c41_0, c42_0, c43_0, c44_0, c45_0, c46_0, c47_0, c48_0, c49_0, c50_0, c51_0, c52_0, c53_0, c54_0, c55_0, c56_0, c57_0, c58_0, c59_0, c60_0, c61_0, c62_0, c63_0, c64_0, c65_0, c66_0, c67_0, c68_0, c69_0, c70_0, c71_0, c72_0, c73_0, c74_0, c75_0, c76_0, c77_0, c78_0, c79_0, c80_0, c81_0, c82_0, c83_0, c84_0, c85_0, c86_0, c87_0, c88_0, c89_0, c90_0, c91_0, c92_0, c93_0, c94_0, c95_0, c96_0, c97_0, c98_0, c99_0, c100_0, c101_0, c102_0, c103_0, c104_0, c105_0, c106_0, c107_0, c108_0, c109_0, c110_0, c111_0, c112_0, c113_0, c114_0, c115_0, c116_0, c117_0, c118_0, c119_0, c120_0, c121_0, c122_0, c123_0, c124_0, c125_0, c126_0, c127_0, c128_0, c129_0, c130_0, c131_0, c132_0, c133_0, c134_0, c135_0, c136_0, c137_0, c138_0, c139_0, c140_0, c141_0, c142_0, c143_0, c144_0, c145_0, c146_0, c147_0, c148_0, c149_0, c150_0, c151_0, c152_0, c153_0, c154_0, c155_0, c156_0, c157_0, c158_0, c159_0, c160_0, c161_0, c162_0, c163_0, c164_0, c165_0, c166_0, c167_0, c168_0, c169_0, c170_0, c171_0, c172_0, c173_0, c174_0, c175_0, c176_0, c177_0, c178_0, c179_0, c180_0, c181_0, c182_0, c183_0, c184_0, c185_0, c186_0, c187_0, c188_0, c189_0, c190_0, c191_0, c192_0, c193_0, c194_0, c195_0, c196_0, c197_0, c198_0, c199_0, c200_0, c201_0, c202_0, c203_0, c204_0, c205_0, c206_0, c207_0, c208_0, c209_0, c210_0, c211_0, c212_0, c213_0, c214_0, c215_0, c216_0, c217_0, c218_0, c219_0, c220_0, c221_0, c222_0, c223_0, c224_0, c225_0, c226_0, c227_0, c228_0, c229_0, c230_0, c231_0, c232_0, c233_0, c234_0, c235_0, c236_0, c237_0, c238_0, c239_0, c240_0, c241_0, c242_0, c243_0, c244_0, c245_0, c246_0, c247_0, c248_0, c249_0, c250_0, c251_0, c252_0, c253_0]
def mHs : List (List (String × Nat × Nat)) := [[], [], [], [], [], [], [], [], [], [], [], [], [], [], [], [], [], [("java/lang/IllegalArgumentException", 10, 4)], [], [], [], [], [], [], [], [], [], [], [], [], [], [], [], [], [], [], [], [("java/lang/IllegalArgumentException", 9, 3)], [], [], [], [], [], [], [], [("java/lang/IndexOutOfBoundsException", 14, 5)], [], [], [], [], [], [], [], [], [], [], [("java/lang/IndexOutOfBoundsException", 10, 4)], [], [], [], [], [], [], [], [], [], [], [], [], [("java/lang/IndexOutOfBoundsException", 13, 4)], [], [], [], [("java/lang/IndexOutOfBoundsException", 13, 4)], [], [], [], [], [], [("java/lang/IndexOutOfBoundsException", 9, 3)], [], [], [("java/lang/IndexOutOfBoundsException", 9, 3)], [], [], [("java/lang/IndexOutOfBoundsException", 10, 4)], [], [], [("java/lang/IndexOutOfBoundsException", 10, 4)], [], [], [("java/lang/IndexOutOfBoundsException", 13, 4)], [], [], [("java/lang/IndexOutOfBoundsException", 13, 4)], [], [], [], [], [], [], [], [], [], [], [], [], [], [], [], [], [], [], [], [], [], [], [], [], [], [], [], [], [("java/lang/IndexOutOfBoundsException", 13, 4)], [], [], [], [], [], [], [], [], [("java/util/NoSuchElementException", 8, 2)], [], [], [], [], [("java/lang/IndexOutOfBoundsException", 13, 4), ("java/util/NoSuchElementException", 16, 4)], [], [], [], [("java/util/NoSuchElementException", 8, 2)], [], [], [], [("java/lang/UnsupportedOperationException", 8, 2)], [], [], [], [], [], [("java/lang/IndexOutOfBoundsException", 11, 5), ("java/lang/IllegalArgumentException", 14, 5), ("java/lang/IllegalStateException", 17, 5)], [], [], [], [], [], [], [("java/lang/IndexOutOfBoundsException", 9, 3)], [], [], [], [], [], [], [], [], [], [], [], [], [], [], [], [], [("java/lang/IndexOutOfBoundsException", 9, 3)], [], [], [("java/lang/IndexOutOfBoundsException", 9, 3)], [], [], [("java/lang/IndexOutOfBoundsException", 9, 3)], [], [], [("java/lang/IndexOutOfBoundsException", 10, 4), ("java/util/NoSuchElementException", 13, 4)], [], [], [], [], [], [("java/lang/IndexOutOfBoundsException", 9, 3)], [], [], [], [("java/lang/IndexOutOfBoundsException", 9, 3)], [], [], [], [], [], [], [], [], [], [], [("java/lang/IllegalArgumentException", 9, 3), ("java/lang/IllegalStateException", 12, 3)], [], [], [], [], [], [], [], [], [], [], [], [], [], [], [], [], [], [], [], [("java/lang/IllegalArgumentException", 8, 2), ("java/lang/IllegalStateException", 11, 2)], [], [], [], [], [], [], [], [], [], [], [], [], [], [("java/util/NoSuchElementException", 8, 2)], [], [], [("java/util/NoSuchElementException", 8, 2)], [], [], [], [("java/lang/IllegalStateException", 8, 2)], [], [], [], [], [("java/lang/IllegalStateException", 8, 2)], [], []]
def mCap : List (Nat × Nat) := [(2, 8), (0, 0), (0, 0), (0, 0), (4, 41), (41, 416), (3, 90), (1, 60), (64, 739), (10, 730), (0, 0), (0, 0), (0, 0), (0, 0), (0, 0), (0, 0), (1, 6), (1, 6), (0, 0), (0, 0), (0, 0), (0, 0), (0, 0), (0, 0), (0, 0), (0, 0), (0, 0), (0, 0), (0, 0), (0, 0), (0, 0), (0, 0), (0, 0), (0, 0), (0, 0), (0, 0), (1, 6), (1, 6), (0, 0), (0, 0), (1, 6), (0, 0), (0, 0), (0, 0), (1, 6), (1, 6), (0, 0), (0, 0), (0, 0), (0, 0), (0, 0), (0, 0), (0, 0), (0, 0), (0, 0), (1, 6), (1, 6), (0, 0), (0, 0), (0, 0), (0, 0), (0, 0), (0, 0), (0, 0), (0, 0), (0, 0), (0, 0), (0, 0), (1, 6), (1, 6), (0, 0), (0, 0), (1, 6), (1, 6), (0, 0), (0, 0), (0, 0), (1, 6), (1, 6), (1, 6), (0, 0), (1, 6), (1, 6), (0, 0), (1, 6), (1, 6), (0, 0), (1, 6), (1, 6), (0, 0), (1, 6), (1, 6), (0, 0), (1, 6), (1, 6), (0, 0), (0, 0), (0, 0), (0, 0), (0, 0), (0, 0), (0, 0), (0, 0), (0, 0), (0, 0), (0, 0), (0, 0), (0, 0), (0, 0), (0, 0), (0, 0), (0, 0), (0, 0), (0, 0), (0, 0), (0, 0), (0, 0), (0, 0), (0, 0), (0, 0), (0, 0), (0, 0), (1, 6), (1, 6), (0, 0), (0, 0), (0, 0), (0, 0), (0, 0), (0, 0), (1, 6), (1, 6), (1, 6), (0, 0), (0, 0), (0, 0), (2, 12), (2, 12), (0, 0), (0, 0), (1, 6), (1, 6), (0, 0), (0, 0), (1, 6), (1, 6), (0, 0), (0, 0), (0, 0), (0, 0), (2, 12), (2, 12), (0, 0), (0, 0), (0, 0), (1, 6), (0, 0), (1, 6), (1, 6), (0, 0), (0, 0), (0, 0), (0, 0), (0, 0), (0, 0), (0, 0), (0, 0), (0, 0), (0, 0), (0, 0), (0, 0), (0, 0), (0, 0), (0, 0), (1, 6), (1, 6), (0, 0), (1, 6), (1, 6), (0, 0), (1, 6), (1, 6), (0, 0), (2, 12), (2, 12), (0, 0), (0, 0), (0, 0), (0, 0), (1, 6), (1, 6), (0, 0), (0, 0), (1, 6), (1, 6), (0, 0), (0, 0), (0, 0), (0, 0), (0, 0), (0, 0), (0, 0), (0, 0), (0, 0), (1, 6), (1, 6), (0, 0), (0, 0), (0, 0), (0, 0), (0, 0), (0, 0), (0, 0), (0, 0), (0, 0), (0, 0), (0, 0), (0, 0), (0, 0), (0, 0), (0, 0), (0, 0), (0, 0), (0, 0), (1, 6), (1, 6), (0, 0), (0, 0), (0, 0), (0, 0), (0, 0), (0, 0), (0, 0), (0, 0), (0, 0), (0, 0), (0, 0), (0, 0), (1, 6), (1, 6), (0, 0), (1, 6), (1, 6), (0, 0), (0, 0), (1, 6), (1, 6), (0, 0), (0, 0), (0, 0), (1, 6), (1, 6), (0, 0), (601232, 7292407)]
def mRet : List (Option FieldType) := [none, none, none, none, none, none, none, none, none, none, some .boolean, none, none, some .int, none, some .int, some .int, some .int, some .boolean, some .boolean, none, none, none, some .int, some .int, some .int, some .boolean, some .byte, some .int, some .boolean, some .int, some .int, some .int, some .int, some .int, none, some .char, some .int, some .char, some .boolean, none, some .int, some .boolean, none, some .boolean, some .int, some .boolean, some .boolean, some .int, some .boolean, some .boolean, some .boolean, some .int, none, some .int, some .int, some .int, some .boolean, some .int, none, some .int, some .int, some .int, some .int, some .int, some .int, some .char, some .char, some .boolean, some .int, some .boolean, some .int, some .boolean, some .int, some .boolean, some .int, some .int, none, some .int, some .int, some .int, some .int, some .int, some .int, some .int, some .int, some .int, some .int, some .int, some .int, some .boolean, some .int, some .boolean, some .boolean, some .int, some .boolean, some .int, some .boolean, some .boolean, some .int, some .int, none, some .int, some .boolean, some .int, none, none, some .boolean, some .boolean, some .boolean, none, none, none, some .boolean, some .boolean, some .int, some .boolean, some .boolean, some .boolean, some .int, some .int, some .int, some .boolean, some .int, some .int, some .boolean, some .int, some .int, some .boolean, some .int, some .int, some .int, some .int, some .boolean, some .int, some .int, some .boolean, some .int, some .boolean, some .int, some .int, some .int, some .int, some .int, some .int, some .int, some .int, some .int, some .boolean, none, some .int, some .int, some .int, some .int, some .int, none, none, some .int, some .int, some .boolean, some .boolean, some .int, some .int, none, some .char, some .char, some .int, none, some .int, some .int, some .int, some .int, some .int, some .int, some .int, some .int, some .int, some .int, some .int, some .int, some .char, some .int, some .char, some .int, some .int, some .int, some .int, some .int, none, some .int, some .int, none, some .int, some .char, some .int, some .char, some .double, some .double, some .float, some .float, some .boolean, some .boolean, some .boolean, none, some .int, some .int, some .int, some .char, some .boolean, some .int, some (.object "GlowwormGrid$CommandKind"), some .int, some .int, some .int, some .char, some .boolean, some .boolean, some .int, some .int, some .boolean, some .boolean, some .boolean, some .boolean, some .int, some .int, some .int, some .int, some .boolean, some .boolean, some .boolean, some .boolean, some .boolean, some .boolean, some .boolean, some .boolean, some .boolean, some .int, some .int, some .int, some .int, some .int, some .int, some .int, some .int, none, some .int, some .int, some .int, some .int, some .int, some .int, some .int, some .int, some .boolean]
def mT (k : Nat) : List RI × List (String × Nat × Nat) × (Nat × Nat) × Option FieldType := (mCs.getD k [], mHs.getD k [], mCap.getD k (0, 0), mRet.getD k none)
abbrev Bk : AG := Lfp mT
/-- a call of method k -/
abbrev Cl (k : Nat) (el : List Value) (w : AW) (Q : AQ) : Prop := Bk k 0 0 0 el [] w Q
theorem goS {k b kc ks : Nat} {ls st : List Value} {w : AW} {Q : AQ} {cs : List RI} {hs : List (String × Nat × Nat)} {cap : Nat × Nat} {rt : Option FieldType} (e : (mT k).1.drop b = cs ∧ (mT k).2 = (hs, cap, rt)) (h : wp Bk k hs cap rt Q cs kc ks ls st w) : Bk k b kc ks ls st w Q := by
  refine Lfp.fold ?_
  rw [e.1, e.2]; exact h
theorem dropS {l c : List RI} {a : Nat} (n : Nat) {c2 : List RI} (h : l.drop a = c) (h2 : c.drop n = c2) : l.drop (a + n) = c2 := by rw [← List.drop_drop, h, h2]
theorem k9_0 : (mT 9).1.drop 0 = c9_0 := rfl
theorem k24_0 : (mT 24).1.drop 0 = c24_0 := rfl
theorem k24_13 : (mT 24).1.drop 13 = c24_13 := dropS 13 k24_0 rfl
theorem k24_14 : (mT 24).1.drop 14 = c24_14 := dropS 1 k24_13 rfl
theorem k24_18 : (mT 24).1.drop 18 = c24_18 := dropS 4 k24_14 rfl
theorem k24_49 : (mT 24).1.drop 49 = c24_49 := dropS 31 k24_18 rfl
theorem k24_61 : (mT 24).1.drop 61 = c24_61 := dropS 12 k24_49 rfl
theorem k103_0 : (mT 103).1.drop 0 = c103_0 := rfl
theorem k103_9 : (mT 103).1.drop 9 = c103_9 := dropS 9 k103_0 rfl
theorem k103_31 : (mT 103).1.drop 31 = c103_31 := dropS 22 k103_9 rfl
theorem k103_53 : (mT 103).1.drop 53 = c103_53 := dropS 22 k103_31 rfl
theorem k103_55 : (mT 103).1.drop 55 = c103_55 := dropS 2 k103_53 rfl
theorem k112_0 : (mT 112).1.drop 0 = c112_0 := rfl
theorem k112_15 : (mT 112).1.drop 15 = c112_15 := dropS 15 k112_0 rfl
theorem k112_35 : (mT 112).1.drop 35 = c112_35 := dropS 20 k112_15 rfl
theorem k112_45 : (mT 112).1.drop 45 = c112_45 := dropS 10 k112_35 rfl
theorem k112_51 : (mT 112).1.drop 51 = c112_51 := dropS 6 k112_45 rfl
theorem k112_63 : (mT 112).1.drop 63 = c112_63 := dropS 12 k112_51 rfl
theorem k112_73 : (mT 112).1.drop 73 = c112_73 := dropS 10 k112_63 rfl
theorem k112_80 : (mT 112).1.drop 80 = c112_80 := dropS 7 k112_73 rfl
theorem k112_106 : (mT 112).1.drop 106 = c112_106 := dropS 26 k112_80 rfl
theorem k112_108 : (mT 112).1.drop 108 = c112_108 := dropS 2 k112_106 rfl
theorem k112_120 : (mT 112).1.drop 120 = c112_120 := dropS 12 k112_108 rfl
theorem k112_122 : (mT 112).1.drop 122 = c112_122 := dropS 2 k112_120 rfl
theorem k112_124 : (mT 112).1.drop 124 = c112_124 := dropS 2 k112_122 rfl
theorem k112_134 : (mT 112).1.drop 134 = c112_134 := dropS 10 k112_124 rfl
theorem k112_136 : (mT 112).1.drop 136 = c112_136 := dropS 2 k112_134 rfl
theorem k112_141 : (mT 112).1.drop 141 = c112_141 := dropS 5 k112_136 rfl
theorem k112_152 : (mT 112).1.drop 152 = c112_152 := dropS 11 k112_141 rfl
theorem k112_160 : (mT 112).1.drop 160 = c112_160 := dropS 8 k112_152 rfl
theorem k112_174 : (mT 112).1.drop 174 = c112_174 := dropS 14 k112_160 rfl
theorem k112_176 : (mT 112).1.drop 176 = c112_176 := dropS 2 k112_174 rfl
theorem k154_0 : (mT 154).1.drop 0 = c154_0 := rfl
theorem k154_8 : (mT 154).1.drop 8 = c154_8 := dropS 8 k154_0 rfl
theorem k154_13 : (mT 154).1.drop 13 = c154_13 := dropS 5 k154_8 rfl
theorem k154_26 : (mT 154).1.drop 26 = c154_26 := dropS 13 k154_13 rfl
theorem k154_28 : (mT 154).1.drop 28 = c154_28 := dropS 2 k154_26 rfl
theorem k154_29 : (mT 154).1.drop 29 = c154_29 := dropS 1 k154_28 rfl
theorem k154_33 : (mT 154).1.drop 33 = c154_33 := dropS 4 k154_29 rfl
theorem k161_0 : (mT 161).1.drop 0 = c161_0 := rfl
theorem k161_6 : (mT 161).1.drop 6 = c161_6 := dropS 6 k161_0 rfl
theorem k161_24 : (mT 161).1.drop 24 = c161_24 := dropS 18 k161_6 rfl
theorem k161_46 : (mT 161).1.drop 46 = c161_46 := dropS 22 k161_24 rfl
theorem k170_0 : (mT 170).1.drop 0 = c170_0 := rfl
theorem k170_28 : (mT 170).1.drop 28 = c170_28 := dropS 28 k170_0 rfl
theorem k170_33 : (mT 170).1.drop 33 = c170_33 := dropS 5 k170_28 rfl
theorem k170_34 : (mT 170).1.drop 34 = c170_34 := dropS 1 k170_33 rfl
theorem k170_54 : (mT 170).1.drop 54 = c170_54 := dropS 20 k170_34 rfl
theorem k170_59 : (mT 170).1.drop 59 = c170_59 := dropS 5 k170_54 rfl
theorem k170_60 : (mT 170).1.drop 60 = c170_60 := dropS 1 k170_59 rfl
theorem k170_79 : (mT 170).1.drop 79 = c170_79 := dropS 19 k170_60 rfl
theorem k170_80 : (mT 170).1.drop 80 = c170_80 := dropS 1 k170_79 rfl
theorem k171_0 : (mT 171).1.drop 0 = c171_0 := rfl
theorem k171_16 : (mT 171).1.drop 16 = c171_16 := dropS 16 k171_0 rfl
theorem k171_53 : (mT 171).1.drop 53 = c171_53 := dropS 37 k171_16 rfl
theorem k171_66 : (mT 171).1.drop 66 = c171_66 := dropS 13 k171_53 rfl
theorem k171_68 : (mT 171).1.drop 68 = c171_68 := dropS 2 k171_66 rfl
theorem k192_0 : (mT 192).1.drop 0 = c192_0 := rfl
theorem k192_13 : (mT 192).1.drop 13 = c192_13 := dropS 13 k192_0 rfl
theorem k192_14 : (mT 192).1.drop 14 = c192_14 := dropS 1 k192_13 rfl
theorem k192_18 : (mT 192).1.drop 18 = c192_18 := dropS 4 k192_14 rfl
theorem k192_26 : (mT 192).1.drop 26 = c192_26 := dropS 8 k192_18 rfl
theorem k192_44 : (mT 192).1.drop 44 = c192_44 := dropS 18 k192_26 rfl
theorem k192_45 : (mT 192).1.drop 45 = c192_45 := dropS 1 k192_44 rfl
theorem k192_61 : (mT 192).1.drop 61 = c192_61 := dropS 16 k192_45 rfl
theorem k192_63 : (mT 192).1.drop 63 = c192_63 := dropS 2 k192_61 rfl
theorem k221_0 : (mT 221).1.drop 0 = c221_0 := rfl
theorem k221_20 : (mT 221).1.drop 20 = c221_20 := dropS 20 k221_0 rfl
theorem k221_29 : (mT 221).1.drop 29 = c221_29 := dropS 9 k221_20 rfl
theorem k221_35 : (mT 221).1.drop 35 = c221_35 := dropS 6 k221_29 rfl
theorem k221_42 : (mT 221).1.drop 42 = c221_42 := dropS 7 k221_35 rfl
theorem k221_49 : (mT 221).1.drop 49 = c221_49 := dropS 7 k221_42 rfl
theorem k221_60 : (mT 221).1.drop 60 = c221_60 := dropS 11 k221_49 rfl
theorem k234_0 : (mT 234).1.drop 0 = c234_0 := rfl
theorem k234_15 : (mT 234).1.drop 15 = c234_15 := dropS 15 k234_0 rfl
theorem k234_30 : (mT 234).1.drop 30 = c234_30 := dropS 15 k234_15 rfl
theorem k234_31 : (mT 234).1.drop 31 = c234_31 := dropS 1 k234_30 rfl
theorem k234_32 : (mT 234).1.drop 32 = c234_32 := dropS 1 k234_31 rfl
theorem k234_47 : (mT 234).1.drop 47 = c234_47 := dropS 15 k234_32 rfl
theorem k234_48 : (mT 234).1.drop 48 = c234_48 := dropS 1 k234_47 rfl
theorem k234_49 : (mT 234).1.drop 49 = c234_49 := dropS 1 k234_48 rfl
theorem k234_64 : (mT 234).1.drop 64 = c234_64 := dropS 15 k234_49 rfl
theorem k234_65 : (mT 234).1.drop 65 = c234_65 := dropS 1 k234_64 rfl
theorem k234_66 : (mT 234).1.drop 66 = c234_66 := dropS 1 k234_65 rfl
theorem k234_87 : (mT 234).1.drop 87 = c234_87 := dropS 21 k234_66 rfl
theorem k234_88 : (mT 234).1.drop 88 = c234_88 := dropS 1 k234_87 rfl
theorem k234_89 : (mT 234).1.drop 89 = c234_89 := dropS 1 k234_88 rfl
theorem k234_98 : (mT 234).1.drop 98 = c234_98 := dropS 9 k234_89 rfl
theorem k234_104 : (mT 234).1.drop 104 = c234_104 := dropS 6 k234_98 rfl
theorem k234_119 : (mT 234).1.drop 119 = c234_119 := dropS 15 k234_104 rfl
theorem k234_121 : (mT 234).1.drop 121 = c234_121 := dropS 2 k234_119 rfl
theorem k234_132 : (mT 234).1.drop 132 = c234_132 := dropS 11 k234_121 rfl
theorem k234_133 : (mT 234).1.drop 133 = c234_133 := dropS 1 k234_132 rfl
theorem k236_0 : (mT 236).1.drop 0 = c236_0 := rfl
theorem k236_19 : (mT 236).1.drop 19 = c236_19 := dropS 19 k236_0 rfl
theorem k236_24 : (mT 236).1.drop 24 = c236_24 := dropS 5 k236_19 rfl
theorem k236_32 : (mT 236).1.drop 32 = c236_32 := dropS 8 k236_24 rfl
theorem k236_33 : (mT 236).1.drop 33 = c236_33 := dropS 1 k236_32 rfl
theorem k236_34 : (mT 236).1.drop 34 = c236_34 := dropS 1 k236_33 rfl
theorem k236_42 : (mT 236).1.drop 42 = c236_42 := dropS 8 k236_34 rfl
theorem k236_43 : (mT 236).1.drop 43 = c236_43 := dropS 1 k236_42 rfl
theorem k236_44 : (mT 236).1.drop 44 = c236_44 := dropS 1 k236_43 rfl
theorem k236_51 : (mT 236).1.drop 51 = c236_51 := dropS 7 k236_44 rfl
theorem k236_52 : (mT 236).1.drop 52 = c236_52 := dropS 1 k236_51 rfl
theorem k236_53 : (mT 236).1.drop 53 = c236_53 := dropS 1 k236_52 rfl
theorem k236_58 : (mT 236).1.drop 58 = c236_58 := dropS 5 k236_53 rfl
theorem k236_63 : (mT 236).1.drop 63 = c236_63 := dropS 5 k236_58 rfl
theorem k236_75 : (mT 236).1.drop 75 = c236_75 := dropS 12 k236_63 rfl
theorem k236_78 : (mT 236).1.drop 78 = c236_78 := dropS 3 k236_75 rfl
theorem k236_81 : (mT 236).1.drop 81 = c236_81 := dropS 3 k236_78 rfl
theorem k237_0 : (mT 237).1.drop 0 = c237_0 := rfl
theorem k237_9 : (mT 237).1.drop 9 = c237_9 := dropS 9 k237_0 rfl
theorem k237_17 : (mT 237).1.drop 17 = c237_17 := dropS 8 k237_9 rfl
theorem k237_18 : (mT 237).1.drop 18 = c237_18 := dropS 1 k237_17 rfl
theorem k237_22 : (mT 237).1.drop 22 = c237_22 := dropS 4 k237_18 rfl
theorem k237_36 : (mT 237).1.drop 36 = c237_36 := dropS 14 k237_22 rfl
theorem k237_54 : (mT 237).1.drop 54 = c237_54 := dropS 18 k237_36 rfl
theorem k237_77 : (mT 237).1.drop 77 = c237_77 := dropS 23 k237_54 rfl
theorem k237_78 : (mT 237).1.drop 78 = c237_78 := dropS 1 k237_77 rfl
theorem k237_79 : (mT 237).1.drop 79 = c237_79 := dropS 1 k237_78 rfl
theorem k253_0 : (mT 253).1.drop 0 = c253_0 := rfl
theorem k253_13 : (mT 253).1.drop 13 = c253_13 := dropS 13 k253_0 rfl
theorem k253_25 : (mT 253).1.drop 25 = c253_25 := dropS 12 k253_13 rfl
theorem k253_58 : (mT 253).1.drop 58 = c253_58 := dropS 33 k253_25 rfl
theorem k253_69 : (mT 253).1.drop 69 = c253_69 := dropS 11 k253_58 rfl
theorem k253_70 : (mT 253).1.drop 70 = c253_70 := dropS 1 k253_69 rfl
theorem k253_95 : (mT 253).1.drop 95 = c253_95 := dropS 25 k253_70 rfl
theorem k253_106 : (mT 253).1.drop 106 = c253_106 := dropS 11 k253_95 rfl
theorem k253_107 : (mT 253).1.drop 107 = c253_107 := dropS 1 k253_106 rfl
theorem k253_126 : (mT 253).1.drop 126 = c253_126 := dropS 19 k253_107 rfl
theorem k253_127 : (mT 253).1.drop 127 = c253_127 := dropS 1 k253_126 rfl
theorem k253_149 : (mT 253).1.drop 149 = c253_149 := dropS 22 k253_127 rfl
theorem k253_150 : (mT 253).1.drop 150 = c253_150 := dropS 1 k253_149 rfl
theorem k253_158 : (mT 253).1.drop 158 = c253_158 := dropS 8 k253_150 rfl
theorem k253_167 : (mT 253).1.drop 167 = c253_167 := dropS 9 k253_158 rfl
theorem k253_168 : (mT 253).1.drop 168 = c253_168 := dropS 1 k253_167 rfl
theorem k253_172 : (mT 253).1.drop 172 = c253_172 := dropS 4 k253_168 rfl
theorem k253_173 : (mT 253).1.drop 173 = c253_173 := dropS 1 k253_172 rfl
theorem k253_206 : (mT 253).1.drop 206 = c253_206 := dropS 33 k253_173 rfl
theorem k253_217 : (mT 253).1.drop 217 = c253_217 := dropS 11 k253_206 rfl
theorem k253_218 : (mT 253).1.drop 218 = c253_218 := dropS 1 k253_217 rfl
theorem k253_225 : (mT 253).1.drop 225 = c253_225 := dropS 7 k253_218 rfl
theorem k253_232 : (mT 253).1.drop 232 = c253_232 := dropS 7 k253_225 rfl
theorem k253_239 : (mT 253).1.drop 239 = c253_239 := dropS 7 k253_232 rfl
theorem k253_272 : (mT 253).1.drop 272 = c253_272 := dropS 33 k253_239 rfl
theorem k253_281 : (mT 253).1.drop 281 = c253_281 := dropS 9 k253_272 rfl
theorem k253_282 : (mT 253).1.drop 282 = c253_282 := dropS 1 k253_281 rfl
theorem k253_286 : (mT 253).1.drop 286 = c253_286 := dropS 4 k253_282 rfl
theorem k253_287 : (mT 253).1.drop 287 = c253_287 := dropS 1 k253_286 rfl
theorem k253_320 : (mT 253).1.drop 320 = c253_320 := dropS 33 k253_287 rfl
theorem k253_329 : (mT 253).1.drop 329 = c253_329 := dropS 9 k253_320 rfl
theorem k253_330 : (mT 253).1.drop 330 = c253_330 := dropS 1 k253_329 rfl
theorem k253_334 : (mT 253).1.drop 334 = c253_334 := dropS 4 k253_330 rfl
theorem k253_335 : (mT 253).1.drop 335 = c253_335 := dropS 1 k253_334 rfl
theorem k253_342 : (mT 253).1.drop 342 = c253_342 := dropS 7 k253_335 rfl
theorem k253_365 : (mT 253).1.drop 365 = c253_365 := dropS 23 k253_342 rfl
theorem k253_376 : (mT 253).1.drop 376 = c253_376 := dropS 11 k253_365 rfl
theorem k253_377 : (mT 253).1.drop 377 = c253_377 := dropS 1 k253_376 rfl
theorem k253_400 : (mT 253).1.drop 400 = c253_400 := dropS 23 k253_377 rfl
theorem k253_411 : (mT 253).1.drop 411 = c253_411 := dropS 11 k253_400 rfl
theorem k253_412 : (mT 253).1.drop 412 = c253_412 := dropS 1 k253_411 rfl
theorem k253_445 : (mT 253).1.drop 445 = c253_445 := dropS 33 k253_412 rfl
theorem k253_456 : (mT 253).1.drop 456 = c253_456 := dropS 11 k253_445 rfl
theorem k253_457 : (mT 253).1.drop 457 = c253_457 := dropS 1 k253_456 rfl
theorem k253_490 : (mT 253).1.drop 490 = c253_490 := dropS 33 k253_457 rfl
theorem k253_501 : (mT 253).1.drop 501 = c253_501 := dropS 11 k253_490 rfl
theorem k253_502 : (mT 253).1.drop 502 = c253_502 := dropS 1 k253_501 rfl
theorem k253_535 : (mT 253).1.drop 535 = c253_535 := dropS 33 k253_502 rfl
theorem k253_544 : (mT 253).1.drop 544 = c253_544 := dropS 9 k253_535 rfl
theorem k253_545 : (mT 253).1.drop 545 = c253_545 := dropS 1 k253_544 rfl
theorem k253_549 : (mT 253).1.drop 549 = c253_549 := dropS 4 k253_545 rfl
theorem k253_550 : (mT 253).1.drop 550 = c253_550 := dropS 1 k253_549 rfl
theorem k253_583 : (mT 253).1.drop 583 = c253_583 := dropS 33 k253_550 rfl
theorem k253_592 : (mT 253).1.drop 592 = c253_592 := dropS 9 k253_583 rfl
theorem k253_593 : (mT 253).1.drop 593 = c253_593 := dropS 1 k253_592 rfl
theorem k253_597 : (mT 253).1.drop 597 = c253_597 := dropS 4 k253_593 rfl
theorem k253_598 : (mT 253).1.drop 598 = c253_598 := dropS 1 k253_597 rfl
theorem k253_605 : (mT 253).1.drop 605 = c253_605 := dropS 7 k253_598 rfl
theorem k253_612 : (mT 253).1.drop 612 = c253_612 := dropS 7 k253_605 rfl
theorem k253_619 : (mT 253).1.drop 619 = c253_619 := dropS 7 k253_612 rfl
theorem k253_626 : (mT 253).1.drop 626 = c253_626 := dropS 7 k253_619 rfl
theorem k253_633 : (mT 253).1.drop 633 = c253_633 := dropS 7 k253_626 rfl
theorem k253_666 : (mT 253).1.drop 666 = c253_666 := dropS 33 k253_633 rfl
theorem k253_675 : (mT 253).1.drop 675 = c253_675 := dropS 9 k253_666 rfl
theorem k253_676 : (mT 253).1.drop 676 = c253_676 := dropS 1 k253_675 rfl
theorem k253_680 : (mT 253).1.drop 680 = c253_680 := dropS 4 k253_676 rfl
theorem k253_681 : (mT 253).1.drop 681 = c253_681 := dropS 1 k253_680 rfl
theorem k253_688 : (mT 253).1.drop 688 = c253_688 := dropS 7 k253_681 rfl
theorem k253_701 : (mT 253).1.drop 701 = c253_701 := dropS 13 k253_688 rfl
theorem k253_712 : (mT 253).1.drop 712 = c253_712 := dropS 11 k253_701 rfl
theorem k253_713 : (mT 253).1.drop 713 = c253_713 := dropS 1 k253_712 rfl
theorem k253_746 : (mT 253).1.drop 746 = c253_746 := dropS 33 k253_713 rfl
theorem k253_755 : (mT 253).1.drop 755 = c253_755 := dropS 9 k253_746 rfl
theorem k253_756 : (mT 253).1.drop 756 = c253_756 := dropS 1 k253_755 rfl
theorem k253_760 : (mT 253).1.drop 760 = c253_760 := dropS 4 k253_756 rfl
theorem k253_761 : (mT 253).1.drop 761 = c253_761 := dropS 1 k253_760 rfl
theorem k253_774 : (mT 253).1.drop 774 = c253_774 := dropS 13 k253_761 rfl
theorem k253_785 : (mT 253).1.drop 785 = c253_785 := dropS 11 k253_774 rfl
theorem k253_786 : (mT 253).1.drop 786 = c253_786 := dropS 1 k253_785 rfl
theorem k253_799 : (mT 253).1.drop 799 = c253_799 := dropS 13 k253_786 rfl
theorem k253_810 : (mT 253).1.drop 810 = c253_810 := dropS 11 k253_799 rfl
theorem k253_811 : (mT 253).1.drop 811 = c253_811 := dropS 1 k253_810 rfl
theorem k253_856 : (mT 253).1.drop 856 = c253_856 := dropS 45 k253_811 rfl
theorem k253_867 : (mT 253).1.drop 867 = c253_867 := dropS 11 k253_856 rfl
theorem k253_868 : (mT 253).1.drop 868 = c253_868 := dropS 1 k253_867 rfl
theorem k253_891 : (mT 253).1.drop 891 = c253_891 := dropS 23 k253_868 rfl
theorem k253_902 : (mT 253).1.drop 902 = c253_902 := dropS 11 k253_891 rfl
theorem k253_903 : (mT 253).1.drop 903 = c253_903 := dropS 1 k253_902 rfl
theorem k253_910 : (mT 253).1.drop 910 = c253_910 := dropS 7 k253_903 rfl
theorem k253_917 : (mT 253).1.drop 917 = c253_917 := dropS 7 k253_910 rfl
theorem k253_940 : (mT 253).1.drop 940 = c253_940 := dropS 23 k253_917 rfl
theorem k253_951 : (mT 253).1.drop 951 = c253_951 := dropS 11 k253_940 rfl
theorem k253_952 : (mT 253).1.drop 952 = c253_952 := dropS 1 k253_951 rfl
theorem k253_975 : (mT 253).1.drop 975 = c253_975 := dropS 23 k253_952 rfl
theorem k253_986 : (mT 253).1.drop 986 = c253_986 := dropS 11 k253_975 rfl
theorem k253_987 : (mT 253).1.drop 987 = c253_987 := dropS 1 k253_986 rfl
theorem k253_1010 : (mT 253).1.drop 1010 = c253_1010 := dropS 23 k253_987 rfl
theorem k253_1021 : (mT 253).1.drop 1021 = c253_1021 := dropS 11 k253_1010 rfl
theorem k253_1022 : (mT 253).1.drop 1022 = c253_1022 := dropS 1 k253_1021 rfl
theorem k253_1055 : (mT 253).1.drop 1055 = c253_1055 := dropS 33 k253_1022 rfl
theorem k253_1066 : (mT 253).1.drop 1066 = c253_1066 := dropS 11 k253_1055 rfl
theorem k253_1067 : (mT 253).1.drop 1067 = c253_1067 := dropS 1 k253_1066 rfl
theorem k253_1074 : (mT 253).1.drop 1074 = c253_1074 := dropS 7 k253_1067 rfl
theorem k253_1097 : (mT 253).1.drop 1097 = c253_1097 := dropS 23 k253_1074 rfl
theorem k253_1108 : (mT 253).1.drop 1108 = c253_1108 := dropS 11 k253_1097 rfl
theorem k253_1109 : (mT 253).1.drop 1109 = c253_1109 := dropS 1 k253_1108 rfl
theorem k253_1132 : (mT 253).1.drop 1132 = c253_1132 := dropS 23 k253_1109 rfl
theorem k253_1143 : (mT 253).1.drop 1143 = c253_1143 := dropS 11 k253_1132 rfl
theorem k253_1144 : (mT 253).1.drop 1144 = c253_1144 := dropS 1 k253_1143 rfl
theorem k253_1162 : (mT 253).1.drop 1162 = c253_1162 := dropS 18 k253_1144 rfl
theorem k253_1164 : (mT 253).1.drop 1164 = c253_1164 := dropS 2 k253_1162 rfl
theorem k253_1165 : (mT 253).1.drop 1165 = c253_1165 := dropS 1 k253_1164 rfl
theorem k253_1185 : (mT 253).1.drop 1185 = c253_1185 := dropS 20 k253_1165 rfl
theorem k253_1187 : (mT 253).1.drop 1187 = c253_1187 := dropS 2 k253_1185 rfl
theorem k253_1188 : (mT 253).1.drop 1188 = c253_1188 := dropS 1 k253_1187 rfl
theorem k253_1195 : (mT 253).1.drop 1195 = c253_1195 := dropS 7 k253_1188 rfl
theorem k253_1220 : (mT 253).1.drop 1220 = c253_1220 := dropS 25 k253_1195 rfl
theorem k253_1231 : (mT 253).1.drop 1231 = c253_1231 := dropS 11 k253_1220 rfl
theorem k253_1232 : (mT 253).1.drop 1232 = c253_1232 := dropS 1 k253_1231 rfl
theorem k253_1245 : (mT 253).1.drop 1245 = c253_1245 := dropS 13 k253_1232 rfl
theorem k253_1256 : (mT 253).1.drop 1256 = c253_1256 := dropS 11 k253_1245 rfl
theorem k253_1257 : (mT 253).1.drop 1257 = c253_1257 := dropS 1 k253_1256 rfl
theorem k253_1270 : (mT 253).1.drop 1270 = c253_1270 := dropS 13 k253_1257 rfl
theorem k253_1281 : (mT 253).1.drop 1281 = c253_1281 := dropS 11 k253_1270 rfl
theorem k253_1282 : (mT 253).1.drop 1282 = c253_1282 := dropS 1 k253_1281 rfl
theorem k253_1295 : (mT 253).1.drop 1295 = c253_1295 := dropS 13 k253_1282 rfl
theorem k253_1306 : (mT 253).1.drop 1306 = c253_1306 := dropS 11 k253_1295 rfl
theorem k253_1307 : (mT 253).1.drop 1307 = c253_1307 := dropS 1 k253_1306 rfl
theorem k253_1320 : (mT 253).1.drop 1320 = c253_1320 := dropS 13 k253_1307 rfl
theorem k253_1331 : (mT 253).1.drop 1331 = c253_1331 := dropS 11 k253_1320 rfl
theorem k253_1332 : (mT 253).1.drop 1332 = c253_1332 := dropS 1 k253_1331 rfl
theorem k253_1339 : (mT 253).1.drop 1339 = c253_1339 := dropS 7 k253_1332 rfl
theorem k253_1352 : (mT 253).1.drop 1352 = c253_1352 := dropS 13 k253_1339 rfl
theorem k253_1363 : (mT 253).1.drop 1363 = c253_1363 := dropS 11 k253_1352 rfl
theorem k253_1364 : (mT 253).1.drop 1364 = c253_1364 := dropS 1 k253_1363 rfl
theorem k253_1366 : (mT 253).1.drop 1366 = c253_1366 := dropS 2 k253_1364 rfl
theorem g0_0 {kc ks : Nat} {ls st : List Value} {w : AW} {Q : AQ} (h : wp Bk 0 [] (2, 8) (none) Q c0_0 kc ks ls st w) : Bk 0 0 kc ks ls st w Q := goS ⟨rfl, rfl⟩ h
theorem g1_0 {kc ks : Nat} {ls st : List Value} {w : AW} {Q : AQ} (h : wp Bk 1 [] (0, 0) (none) Q c1_0 kc ks ls st w) : Bk 1 0 kc ks ls st w Q := goS ⟨rfl, rfl⟩ h
theorem g1_5 {kc ks : Nat} {ls st : List Value} {w : AW} {Q : AQ} (h : wp Bk 1 [] (0, 0) (none) Q c1_5 kc ks ls st w) : Bk 1 5 kc ks ls st w Q := goS ⟨rfl, rfl⟩ h
theorem g1_14 {kc ks : Nat} {ls st : List Value} {w : AW} {Q : AQ} (h : wp Bk 1 [] (0, 0) (none) Q c1_14 kc ks ls st w) : Bk 1 14 kc ks ls st w Q := goS ⟨rfl, rfl⟩ h
theorem g2_0 {kc ks : Nat} {ls st : List Value} {w : AW} {Q : AQ} (h : wp Bk 2 [] (0, 0) (none) Q c2_0 kc ks ls st w) : Bk 2 0 kc ks ls st w Q := goS ⟨rfl, rfl⟩ h
theorem g3_0 {kc ks : Nat} {ls st : List Value} {w : AW} {Q : AQ} (h : wp Bk 3 [] (0, 0) (none) Q c3_0 kc ks ls st w) : Bk 3 0 kc ks ls st w Q := goS ⟨rfl, rfl⟩ h
theorem g3_11 {kc ks : Nat} {ls st : List Value} {w : AW} {Q : AQ} (h : wp Bk 3 [] (0, 0) (none) Q c3_11 kc ks ls st w) : Bk 3 11 kc ks ls st w Q := goS ⟨rfl, rfl⟩ h
theorem g3_30 {kc ks : Nat} {ls st : List Value} {w : AW} {Q : AQ} (h : wp Bk 3 [] (0, 0) (none) Q c3_30 kc ks ls st w) : Bk 3 30 kc ks ls st w Q := goS ⟨rfl, rfl⟩ h
theorem g4_0 {kc ks : Nat} {ls st : List Value} {w : AW} {Q : AQ} (h : wp Bk 4 [] (4, 41) (none) Q c4_0 kc ks ls st w) : Bk 4 0 kc ks ls st w Q := goS ⟨rfl, rfl⟩ h
theorem g5_0 {kc ks : Nat} {ls st : List Value} {w : AW} {Q : AQ} (h : wp Bk 5 [] (41, 416) (none) Q c5_0 kc ks ls st w) : Bk 5 0 kc ks ls st w Q := goS ⟨rfl, rfl⟩ h
theorem g5_8 {kc ks : Nat} {ls st : List Value} {w : AW} {Q : AQ} (h : wp Bk 5 [] (41, 416) (none) Q c5_8 kc ks ls st w) : Bk 5 8 kc ks ls st w Q := goS ⟨rfl, rfl⟩ h
theorem g5_20 {kc ks : Nat} {ls st : List Value} {w : AW} {Q : AQ} (h : wp Bk 5 [] (41, 416) (none) Q c5_20 kc ks ls st w) : Bk 5 20 kc ks ls st w Q := goS ⟨rfl, rfl⟩ h
theorem g6_0 {kc ks : Nat} {ls st : List Value} {w : AW} {Q : AQ} (h : wp Bk 6 [] (3, 90) (none) Q c6_0 kc ks ls st w) : Bk 6 0 kc ks ls st w Q := goS ⟨rfl, rfl⟩ h
theorem g7_0 {kc ks : Nat} {ls st : List Value} {w : AW} {Q : AQ} (h : wp Bk 7 [] (1, 60) (none) Q c7_0 kc ks ls st w) : Bk 7 0 kc ks ls st w Q := goS ⟨rfl, rfl⟩ h
theorem g8_0 {kc ks : Nat} {ls st : List Value} {w : AW} {Q : AQ} (h : wp Bk 8 [] (64, 739) (none) Q c8_0 kc ks ls st w) : Bk 8 0 kc ks ls st w Q := goS ⟨rfl, rfl⟩ h
theorem g9_0 {kc ks : Nat} {ls st : List Value} {w : AW} {Q : AQ} (h : wp Bk 9 [] (10, 730) (none) Q c9_0 kc ks ls st w) : Bk 9 0 kc ks ls st w Q := goS ⟨k9_0, rfl⟩ h
theorem g10_0 {kc ks : Nat} {ls st : List Value} {w : AW} {Q : AQ} (h : wp Bk 10 [] (0, 0) (some .boolean) Q c10_0 kc ks ls st w) : Bk 10 0 kc ks ls st w Q := goS ⟨rfl, rfl⟩ h
theorem g10_14 {kc ks : Nat} {ls st : List Value} {w : AW} {Q : AQ} (h : wp Bk 10 [] (0, 0) (some .boolean) Q c10_14 kc ks ls st w) : Bk 10 14 kc ks ls st w Q := goS ⟨rfl, rfl⟩ h
theorem g10_15 {kc ks : Nat} {ls st : List Value} {w : AW} {Q : AQ} (h : wp Bk 10 [] (0, 0) (some .boolean) Q c10_15 kc ks ls st w) : Bk 10 15 kc ks ls st w Q := goS ⟨rfl, rfl⟩ h
theorem g11_0 {kc ks : Nat} {ls st : List Value} {w : AW} {Q : AQ} (h : wp Bk 11 [] (0, 0) (none) Q c11_0 kc ks ls st w) : Bk 11 0 kc ks ls st w Q := goS ⟨rfl, rfl⟩ h
theorem g12_0 {kc ks : Nat} {ls st : List Value} {w : AW} {Q : AQ} (h : wp Bk 12 [] (0, 0) (none) Q c12_0 kc ks ls st w) : Bk 12 0 kc ks ls st w Q := goS ⟨rfl, rfl⟩ h
theorem g13_0 {kc ks : Nat} {ls st : List Value} {w : AW} {Q : AQ} (h : wp Bk 13 [] (0, 0) (some .int) Q c13_0 kc ks ls st w) : Bk 13 0 kc ks ls st w Q := goS ⟨rfl, rfl⟩ h
theorem g13_5 {kc ks : Nat} {ls st : List Value} {w : AW} {Q : AQ} (h : wp Bk 13 [] (0, 0) (some .int) Q c13_5 kc ks ls st w) : Bk 13 5 kc ks ls st w Q := goS ⟨rfl, rfl⟩ h
theorem g13_6 {kc ks : Nat} {ls st : List Value} {w : AW} {Q : AQ} (h : wp Bk 13 [] (0, 0) (some .int) Q c13_6 kc ks ls st w) : Bk 13 6 kc ks ls st w Q := goS ⟨rfl, rfl⟩ h
theorem g14_0 {kc ks : Nat} {ls st : List Value} {w : AW} {Q : AQ} (h : wp Bk 14 [] (0, 0) (none) Q c14_0 kc ks ls st w) : Bk 14 0 kc ks ls st w Q := goS ⟨rfl, rfl⟩ h
theorem g15_0 {kc ks : Nat} {ls st : List Value} {w : AW} {Q : AQ} (h : wp Bk 15 [] (0, 0) (some .int) Q c15_0 kc ks ls st w) : Bk 15 0 kc ks ls st w Q := goS ⟨rfl, rfl⟩ h
theorem g16_0 {kc ks : Nat} {ls st : List Value} {w : AW} {Q : AQ} (h : wp Bk 16 [] (1, 6) (some .int) Q c16_0 kc ks ls st w) : Bk 16 0 kc ks ls st w Q := goS ⟨rfl, rfl⟩ h
theorem g16_5 {kc ks : Nat} {ls st : List Value} {w : AW} {Q : AQ} (h : wp Bk 16 [] (1, 6) (some .int) Q c16_5 kc ks ls st w) : Bk 16 5 kc ks ls st w Q := goS ⟨rfl, rfl⟩ h
theorem g17_0 {kc ks : Nat} {ls st : List Value} {w : AW} {Q : AQ} (h : wp Bk 17 [("java/lang/IllegalArgumentException", 10, 4)] (1, 6) (some .int) Q c17_0 kc ks ls st w) : Bk 17 0 kc ks ls st w Q := goS ⟨rfl, rfl⟩ h
theorem g17_10 {kc ks : Nat} {ls st : List Value} {w : AW} {Q : AQ} (h : wp Bk 17 [("java/lang/IllegalArgumentException", 10, 4)] (1, 6) (some .int) Q c17_10 kc ks ls st w) : Bk 17 10 kc ks ls st w Q := goS ⟨rfl, rfl⟩ h
theorem g17_12 {kc ks : Nat} {ls st : List Value} {w : AW} {Q : AQ} (h : wp Bk 17 [("java/lang/IllegalArgumentException", 10, 4)] (1, 6) (some .int) Q c17_12 kc ks ls st w) : Bk 17 12 kc ks ls st w Q := goS ⟨rfl, rfl⟩ h
theorem g18_0 {kc ks : Nat} {ls st : List Value} {w : AW} {Q : AQ} (h : wp Bk 18 [] (0, 0) (some .boolean) Q c18_0 kc ks ls st w) : Bk 18 0 kc ks ls st w Q := goS ⟨rfl, rfl⟩ h
theorem g18_8 {kc ks : Nat} {ls st : List Value} {w : AW} {Q : AQ} (h : wp Bk 18 [] (0, 0) (some .boolean) Q c18_8 kc ks ls st w) : Bk 18 8 kc ks ls st w Q := goS ⟨rfl, rfl⟩ h
theorem g18_9 {kc ks : Nat} {ls st : List Value} {w : AW} {Q : AQ} (h : wp Bk 18 [] (0, 0) (some .boolean) Q c18_9 kc ks ls st w) : Bk 18 9 kc ks ls st w Q := goS ⟨rfl, rfl⟩ h
theorem g19_0 {kc ks : Nat} {ls st : List Value} {w : AW} {Q : AQ} (h : wp Bk 19 [] (0, 0) (some .boolean) Q c19_0 kc ks ls st w) : Bk 19 0 kc ks ls st w Q := goS ⟨rfl, rfl⟩ h
theorem g19_7 {kc ks : Nat} {ls st : List Value} {w : AW} {Q : AQ} (h : wp Bk 19 [] (0, 0) (some .boolean) Q c19_7 kc ks ls st w) : Bk 19 7 kc ks ls st w Q := goS ⟨rfl, rfl⟩ h
theorem g19_8 {kc ks : Nat} {ls st : List Value} {w : AW} {Q : AQ} (h : wp Bk 19 [] (0, 0) (some .boolean) Q c19_8 kc ks ls st w) : Bk 19 8 kc ks ls st w Q := goS ⟨rfl, rfl⟩ h
theorem g20_0 {kc ks : Nat} {ls st : List Value} {w : AW} {Q : AQ} (h : wp Bk 20 [] (0, 0) (none) Q c20_0 kc ks ls st w) : Bk 20 0 kc ks ls st w Q := goS ⟨rfl, rfl⟩ h
theorem g20_2 {kc ks : Nat} {ls st : List Value} {w : AW} {Q : AQ} (h : wp Bk 20 [] (0, 0) (none) Q c20_2 kc ks ls st w) : Bk 20 2 kc ks ls st w Q := goS ⟨rfl, rfl⟩ h
theorem g20_17 {kc ks : Nat} {ls st : List Value} {w : AW} {Q : AQ} (h : wp Bk 20 [] (0, 0) (none) Q c20_17 kc ks ls st w) : Bk 20 17 kc ks ls st w Q := goS ⟨rfl, rfl⟩ h
theorem g21_0 {kc ks : Nat} {ls st : List Value} {w : AW} {Q : AQ} (h : wp Bk 21 [] (0, 0) (none) Q c21_0 kc ks ls st w) : Bk 21 0 kc ks ls st w Q := goS ⟨rfl, rfl⟩ h
theorem g21_7 {kc ks : Nat} {ls st : List Value} {w : AW} {Q : AQ} (h : wp Bk 21 [] (0, 0) (none) Q c21_7 kc ks ls st w) : Bk 21 7 kc ks ls st w Q := goS ⟨rfl, rfl⟩ h
theorem g21_13 {kc ks : Nat} {ls st : List Value} {w : AW} {Q : AQ} (h : wp Bk 21 [] (0, 0) (none) Q c21_13 kc ks ls st w) : Bk 21 13 kc ks ls st w Q := goS ⟨rfl, rfl⟩ h
theorem g21_28 {kc ks : Nat} {ls st : List Value} {w : AW} {Q : AQ} (h : wp Bk 21 [] (0, 0) (none) Q c21_28 kc ks ls st w) : Bk 21 28 kc ks ls st w Q := goS ⟨rfl, rfl⟩ h
theorem g21_34 {kc ks : Nat} {ls st : List Value} {w : AW} {Q : AQ} (h : wp Bk 21 [] (0, 0) (none) Q c21_34 kc ks ls st w) : Bk 21 34 kc ks ls st w Q := goS ⟨rfl, rfl⟩ h
theorem g22_0 {kc ks : Nat} {ls st : List Value} {w : AW} {Q : AQ} (h : wp Bk 22 [] (0, 0) (none) Q c22_0 kc ks ls st w) : Bk 22 0 kc ks ls st w Q := goS ⟨rfl, rfl⟩ h
theorem g22_10 {kc ks : Nat} {ls st : List Value} {w : AW} {Q : AQ} (h : wp Bk 22 [] (0, 0) (none) Q c22_10 kc ks ls st w) : Bk 22 10 kc ks ls st w Q := goS ⟨rfl, rfl⟩ h
theorem g22_22 {kc ks : Nat} {ls st : List Value} {w : AW} {Q : AQ} (h : wp Bk 22 [] (0, 0) (none) Q c22_22 kc ks ls st w) : Bk 22 22 kc ks ls st w Q := goS ⟨rfl, rfl⟩ h
theorem g23_0 {kc ks : Nat} {ls st : List Value} {w : AW} {Q : AQ} (h : wp Bk 23 [] (0, 0) (some .int) Q c23_0 kc ks ls st w) : Bk 23 0 kc ks ls st w Q := goS ⟨rfl, rfl⟩ h
theorem g24_0 {kc ks : Nat} {ls st : List Value} {w : AW} {Q : AQ} (h : wp Bk 24 [] (0, 0) (some .int) Q c24_0 kc ks ls st w) : Bk 24 0 kc ks ls st w Q := goS ⟨k24_0, rfl⟩ h
theorem g24_13 {kc ks : Nat} {ls st : List Value} {w : AW} {Q : AQ} (h : wp Bk 24 [] (0, 0) (some .int) Q c24_13 kc ks ls st w) : Bk 24 13 kc ks ls st w Q := goS ⟨k24_13, rfl⟩ h
theorem g24_14 {kc ks : Nat} {ls st : List Value} {w : AW} {Q : AQ} (h : wp Bk 24 [] (0, 0) (some .int) Q c24_14 kc ks ls st w) : Bk 24 14 kc ks ls st w Q := goS ⟨k24_14, rfl⟩ h
theorem g24_18 {kc ks : Nat} {ls st : List Value} {w : AW} {Q : AQ} (h : wp Bk 24 [] (0, 0) (some .int) Q c24_18 kc ks ls st w) : Bk 24 18 kc ks ls st w Q := goS ⟨k24_18, rfl⟩ h
theorem g24_49 {kc ks : Nat} {ls st : List Value} {w : AW} {Q : AQ} (h : wp Bk 24 [] (0, 0) (some .int) Q c24_49 kc ks ls st w) : Bk 24 49 kc ks ls st w Q := goS ⟨k24_49, rfl⟩ h
theorem g24_61 {kc ks : Nat} {ls st : List Value} {w : AW} {Q : AQ} (h : wp Bk 24 [] (0, 0) (some .int) Q c24_61 kc ks ls st w) : Bk 24 61 kc ks ls st w Q := goS ⟨k24_61, rfl⟩ h
theorem g25_0 {kc ks : Nat} {ls st : List Value} {w : AW} {Q : AQ} (h : wp Bk 25 [] (0, 0) (some .int) Q c25_0 kc ks ls st w) : Bk 25 0 kc ks ls st w Q := goS ⟨rfl, rfl⟩ h
theorem g26_0 {kc ks : Nat} {ls st : List Value} {w : AW} {Q : AQ} (h : wp Bk 26 [] (0, 0) (some .boolean) Q c26_0 kc ks ls st w) : Bk 26 0 kc ks ls st w Q := goS ⟨rfl, rfl⟩ h
theorem g26_7 {kc ks : Nat} {ls st : List Value} {w : AW} {Q : AQ} (h : wp Bk 26 [] (0, 0) (some .boolean) Q c26_7 kc ks ls st w) : Bk 26 7 kc ks ls st w Q := goS ⟨rfl, rfl⟩ h
theorem g26_8 {kc ks : Nat} {ls st : List Value} {w : AW} {Q : AQ} (h : wp Bk 26 [] (0, 0) (some .boolean) Q c26_8 kc ks ls st w) : Bk 26 8 kc ks ls st w Q := goS ⟨rfl, rfl⟩ h
theorem g27_0 {kc ks : Nat} {ls st : List Value} {w : AW} {Q : AQ} (h : wp Bk 27 [] (0, 0) (some .byte) Q c27_0 kc ks ls st w) : Bk 27 0 kc ks ls st w Q := goS ⟨rfl, rfl⟩ h
theorem g27_5 {kc ks : Nat} {ls st : List Value} {w : AW} {Q : AQ} (h : wp Bk 27 [] (0, 0) (some .byte) Q c27_5 kc ks ls st w) : Bk 27 5 kc ks ls st w Q := goS ⟨rfl, rfl⟩ h
theorem g27_6 {kc ks : Nat} {ls st : List Value} {w : AW} {Q : AQ} (h : wp Bk 27 [] (0, 0) (some .byte) Q c27_6 kc ks ls st w) : Bk 27 6 kc ks ls st w Q := goS ⟨rfl, rfl⟩ h
theorem g28_0 {kc ks : Nat} {ls st : List Value} {w : AW} {Q : AQ} (h : wp Bk 28 [] (0, 0) (some .int) Q c28_0 kc ks ls st w) : Bk 28 0 kc ks ls st w Q := goS ⟨rfl, rfl⟩ h
theorem g29_0 {kc ks : Nat} {ls st : List Value} {w : AW} {Q : AQ} (h : wp Bk 29 [] (0, 0) (some .boolean) Q c29_0 kc ks ls st w) : Bk 29 0 kc ks ls st w Q := goS ⟨rfl, rfl⟩ h
theorem g29_7 {kc ks : Nat} {ls st : List Value} {w : AW} {Q : AQ} (h : wp Bk 29 [] (0, 0) (some .boolean) Q c29_7 kc ks ls st w) : Bk 29 7 kc ks ls st w Q := goS ⟨rfl, rfl⟩ h
theorem g29_8 {kc ks : Nat} {ls st : List Value} {w : AW} {Q : AQ} (h : wp Bk 29 [] (0, 0) (some .boolean) Q c29_8 kc ks ls st w) : Bk 29 8 kc ks ls st w Q := goS ⟨rfl, rfl⟩ h
theorem g30_0 {kc ks : Nat} {ls st : List Value} {w : AW} {Q : AQ} (h : wp Bk 30 [] (0, 0) (some .int) Q c30_0 kc ks ls st w) : Bk 30 0 kc ks ls st w Q := goS ⟨rfl, rfl⟩ h
theorem g30_5 {kc ks : Nat} {ls st : List Value} {w : AW} {Q : AQ} (h : wp Bk 30 [] (0, 0) (some .int) Q c30_5 kc ks ls st w) : Bk 30 5 kc ks ls st w Q := goS ⟨rfl, rfl⟩ h
theorem g30_6 {kc ks : Nat} {ls st : List Value} {w : AW} {Q : AQ} (h : wp Bk 30 [] (0, 0) (some .int) Q c30_6 kc ks ls st w) : Bk 30 6 kc ks ls st w Q := goS ⟨rfl, rfl⟩ h
theorem g31_0 {kc ks : Nat} {ls st : List Value} {w : AW} {Q : AQ} (h : wp Bk 31 [] (0, 0) (some .int) Q c31_0 kc ks ls st w) : Bk 31 0 kc ks ls st w Q := goS ⟨rfl, rfl⟩ h
theorem g31_5 {kc ks : Nat} {ls st : List Value} {w : AW} {Q : AQ} (h : wp Bk 31 [] (0, 0) (some .int) Q c31_5 kc ks ls st w) : Bk 31 5 kc ks ls st w Q := goS ⟨rfl, rfl⟩ h
theorem g31_15 {kc ks : Nat} {ls st : List Value} {w : AW} {Q : AQ} (h : wp Bk 31 [] (0, 0) (some .int) Q c31_15 kc ks ls st w) : Bk 31 15 kc ks ls st w Q := goS ⟨rfl, rfl⟩ h
theorem g31_17 {kc ks : Nat} {ls st : List Value} {w : AW} {Q : AQ} (h : wp Bk 31 [] (0, 0) (some .int) Q c31_17 kc ks ls st w) : Bk 31 17 kc ks ls st w Q := goS ⟨rfl, rfl⟩ h
theorem g32_0 {kc ks : Nat} {ls st : List Value} {w : AW} {Q : AQ} (h : wp Bk 32 [] (0, 0) (some .int) Q c32_0 kc ks ls st w) : Bk 32 0 kc ks ls st w Q := goS ⟨rfl, rfl⟩ h
theorem g32_5 {kc ks : Nat} {ls st : List Value} {w : AW} {Q : AQ} (h : wp Bk 32 [] (0, 0) (some .int) Q c32_5 kc ks ls st w) : Bk 32 5 kc ks ls st w Q := goS ⟨rfl, rfl⟩ h
theorem g32_19 {kc ks : Nat} {ls st : List Value} {w : AW} {Q : AQ} (h : wp Bk 32 [] (0, 0) (some .int) Q c32_19 kc ks ls st w) : Bk 32 19 kc ks ls st w Q := goS ⟨rfl, rfl⟩ h
theorem g33_0 {kc ks : Nat} {ls st : List Value} {w : AW} {Q : AQ} (h : wp Bk 33 [] (0, 0) (some .int) Q c33_0 kc ks ls st w) : Bk 33 0 kc ks ls st w Q := goS ⟨rfl, rfl⟩ h
theorem g33_11 {kc ks : Nat} {ls st : List Value} {w : AW} {Q : AQ} (h : wp Bk 33 [] (0, 0) (some .int) Q c33_11 kc ks ls st w) : Bk 33 11 kc ks ls st w Q := goS ⟨rfl, rfl⟩ h
theorem g33_18 {kc ks : Nat} {ls st : List Value} {w : AW} {Q : AQ} (h : wp Bk 33 [] (0, 0) (some .int) Q c33_18 kc ks ls st w) : Bk 33 18 kc ks ls st w Q := goS ⟨rfl, rfl⟩ h
theorem g34_0 {kc ks : Nat} {ls st : List Value} {w : AW} {Q : AQ} (h : wp Bk 34 [] (0, 0) (some .int) Q c34_0 kc ks ls st w) : Bk 34 0 kc ks ls st w Q := goS ⟨rfl, rfl⟩ h
theorem g35_0 {kc ks : Nat} {ls st : List Value} {w : AW} {Q : AQ} (h : wp Bk 35 [] (0, 0) (none) Q c35_0 kc ks ls st w) : Bk 35 0 kc ks ls st w Q := goS ⟨rfl, rfl⟩ h
theorem g36_0 {kc ks : Nat} {ls st : List Value} {w : AW} {Q : AQ} (h : wp Bk 36 [] (1, 6) (some .char) Q c36_0 kc ks ls st w) : Bk 36 0 kc ks ls st w Q := goS ⟨rfl, rfl⟩ h
theorem g36_5 {kc ks : Nat} {ls st : List Value} {w : AW} {Q : AQ} (h : wp Bk 36 [] (1, 6) (some .char) Q c36_5 kc ks ls st w) : Bk 36 5 kc ks ls st w Q := goS ⟨rfl, rfl⟩ h
theorem g37_0 {kc ks : Nat} {ls st : List Value} {w : AW} {Q : AQ} (h : wp Bk 37 [("java/lang/IllegalArgumentException", 9, 3)] (1, 6) (some .int) Q c37_0 kc ks ls st w) : Bk 37 0 kc ks ls st w Q := goS ⟨rfl, rfl⟩ h
theorem g37_9 {kc ks : Nat} {ls st : List Value} {w : AW} {Q : AQ} (h : wp Bk 37 [("java/lang/IllegalArgumentException", 9, 3)] (1, 6) (some .int) Q c37_9 kc ks ls st w) : Bk 37 9 kc ks ls st w Q := goS ⟨rfl, rfl⟩ h
theorem g37_11 {kc ks : Nat} {ls st : List Value} {w : AW} {Q : AQ} (h : wp Bk 37 [("java/lang/IllegalArgumentException", 9, 3)] (1, 6) (some .int) Q c37_11 kc ks ls st w) : Bk 37 11 kc ks ls st w Q := goS ⟨rfl, rfl⟩ h
theorem g38_0 {kc ks : Nat} {ls st : List Value} {w : AW} {Q : AQ} (h : wp Bk 38 [] (0, 0) (some .char) Q c38_0 kc ks ls st w) : Bk 38 0 kc ks ls st w Q := goS ⟨rfl, rfl⟩ h
theorem g38_13 {kc ks : Nat} {ls st : List Value} {w : AW} {Q : AQ} (h : wp Bk 38 [] (0, 0) (some .char) Q c38_13 kc ks ls st w) : Bk 38 13 kc ks ls st w Q := goS ⟨rfl, rfl⟩ h
theorem g38_15 {kc ks : Nat} {ls st : List Value} {w : AW} {Q : AQ} (h : wp Bk 38 [] (0, 0) (some .char) Q c38_15 kc ks ls st w) : Bk 38 15 kc ks ls st w Q := goS ⟨rfl, rfl⟩ h
theorem g38_16 {kc ks : Nat} {ls st : List Value} {w : AW} {Q : AQ} (h : wp Bk 38 [] (0, 0) (some .char) Q c38_16 kc ks ls st w) : Bk 38 16 kc ks ls st w Q := goS ⟨rfl, rfl⟩ h
theorem g38_20 {kc ks : Nat} {ls st : List Value} {w : AW} {Q : AQ} (h : wp Bk 38 [] (0, 0) (some .char) Q c38_20 kc ks ls st w) : Bk 38 20 kc ks ls st w Q := goS ⟨rfl, rfl⟩ h
theorem g39_0 {kc ks : Nat} {ls st : List Value} {w : AW} {Q : AQ} (h : wp Bk 39 [] (0, 0) (some .boolean) Q c39_0 kc ks ls st w) : Bk 39 0 kc ks ls st w Q := goS ⟨rfl, rfl⟩ h
theorem g39_14 {kc ks : Nat} {ls st : List Value} {w : AW} {Q : AQ} (h : wp Bk 39 [] (0, 0) (some .boolean) Q c39_14 kc ks ls st w) : Bk 39 14 kc ks ls st w Q := goS ⟨rfl, rfl⟩ h
theorem g39_15 {kc ks : Nat} {ls st : List Value} {w : AW} {Q : AQ} (h : wp Bk 39 [] (0, 0) (some .boolean) Q c39_15 kc ks ls st w) : Bk 39 15 kc ks ls st w Q := goS ⟨rfl, rfl⟩ h
theorem g40_0 {kc ks : Nat} {ls st : List Value} {w : AW} {Q : AQ} (h : wp Bk 40 [] (1, 6) (none) Q c40_0 kc ks ls st w) : Bk 40 0 kc ks ls st w Q := goS ⟨rfl, rfl⟩ h
theorem g40_7 {kc ks : Nat} {ls st : List Value} {w : AW} {Q : AQ} (h : wp Bk 40 [] (1, 6) (none) Q c40_7 kc ks ls st w) : Bk 40 7 kc ks ls st w Q := goS ⟨rfl, rfl⟩ h
theorem g41_0 {kc ks : Nat} {ls st : List Value} {w : AW} {Q : AQ} (h : wp Bk 41 [] (0, 0) (some .int) Q c41_0 kc ks ls st w) : Bk 41 0 kc ks ls st w Q := goS ⟨rfl, rfl⟩ h
theorem g42_0 {kc ks : Nat} {ls st : List Value} {w : AW} {Q : AQ} (h : wp Bk 42 [] (0, 0) (some .boolean) Q c42_0 kc ks ls st w) : Bk 42 0 kc ks ls st w Q := goS ⟨rfl, rfl⟩ h
theorem g42_8 {kc ks : Nat} {ls st : List Value} {w : AW} {Q : AQ} (h : wp Bk 42 [] (0, 0) (some .boolean) Q c42_8 kc ks ls st w) : Bk 42 8 kc ks ls st w Q := goS ⟨rfl, rfl⟩ h
theorem g42_9 {kc ks : Nat} {ls st : List Value} {w : AW} {Q : AQ} (h : wp Bk 42 [] (0, 0) (some .boolean) Q c42_9 kc ks ls st w) : Bk 42 9 kc ks ls st w Q := goS ⟨rfl, rfl⟩ h
theorem g43_0 {kc ks : Nat} {ls st : List Value} {w : AW} {Q : AQ} (h : wp Bk 43 [] (0, 0) (none) Q c43_0 kc ks ls st w) : Bk 43 0 kc ks ls st w Q := goS ⟨rfl, rfl⟩ h
theorem g43_22 {kc ks : Nat} {ls st : List Value} {w : AW} {Q : AQ} (h : wp Bk 43 [] (0, 0) (none) Q c43_22 kc ks ls st w) : Bk 43 22 kc ks ls st w Q := goS ⟨rfl, rfl⟩ h
theorem g44_0 {kc ks : Nat} {ls st : List Value} {w : AW} {Q : AQ} (h : wp Bk 44 [] (1, 6) (some .boolean) Q c44_0 kc ks ls st w) : Bk 44 0 kc ks ls st w Q := goS ⟨rfl, rfl⟩ h
theorem g45_0 {kc ks : Nat} {ls st : List Value} {w : AW} {Q : AQ} (h : wp Bk 45 [("java/lang/IndexOutOfBoundsException", 14, 5)] (1, 6) (some .int) Q c45_0 kc ks ls st w) : Bk 45 0 kc ks ls st w Q := goS ⟨rfl, rfl⟩ h
theorem g45_10 {kc ks : Nat} {ls st : List Value} {w : AW} {Q : AQ} (h : wp Bk 45 [("java/lang/IndexOutOfBoundsException", 14, 5)] (1, 6) (some .int) Q c45_10 kc ks ls st w) : Bk 45 10 kc ks ls st w Q := goS ⟨rfl, rfl⟩ h
theorem g45_11 {kc ks : Nat} {ls st : List Value} {w : AW} {Q : AQ} (h : wp Bk 45 [("java/lang/IndexOutOfBoundsException", 14, 5)] (1, 6) (some .int) Q c45_11 kc ks ls st w) : Bk 45 11 kc ks ls st w Q := goS ⟨rfl, rfl⟩ h
theorem g45_14 {kc ks : Nat} {ls st : List Value} {w : AW} {Q : AQ} (h : wp Bk 45 [("java/lang/IndexOutOfBoundsException", 14, 5)] (1, 6) (some .int) Q c45_14 kc ks ls st w) : Bk 45 14 kc ks ls st w Q := goS ⟨rfl, rfl⟩ h
theorem g45_16 {kc ks : Nat} {ls st : List Value} {w : AW} {Q : AQ} (h : wp Bk 45 [("java/lang/IndexOutOfBoundsException", 14, 5)] (1, 6) (some .int) Q c45_16 kc ks ls st w) : Bk 45 16 kc ks ls st w Q := goS ⟨rfl, rfl⟩ h
theorem g46_0 {kc ks : Nat} {ls st : List Value} {w : AW} {Q : AQ} (h : wp Bk 46 [] (0, 0) (some .boolean) Q c46_0 kc ks ls st w) : Bk 46 0 kc ks ls st w Q := goS ⟨rfl, rfl⟩ h
theorem g46_22 {kc ks : Nat} {ls st : List Value} {w : AW} {Q : AQ} (h : wp Bk 46 [] (0, 0) (some .boolean) Q c46_22 kc ks ls st w) : Bk 46 22 kc ks ls st w Q := goS ⟨rfl, rfl⟩ h
theorem g46_23 {kc ks : Nat} {ls st : List Value} {w : AW} {Q : AQ} (h : wp Bk 46 [] (0, 0) (some .boolean) Q c46_23 kc ks ls st w) : Bk 46 23 kc ks ls st w Q := goS ⟨rfl, rfl⟩ h
theorem g47_0 {kc ks : Nat} {ls st : List Value} {w : AW} {Q : AQ} (h : wp Bk 47 [] (0, 0) (some .boolean) Q c47_0 kc ks ls st w) : Bk 47 0 kc ks ls st w Q := goS ⟨rfl, rfl⟩ h
theorem g47_8 {kc ks : Nat} {ls st : List Value} {w : AW} {Q : AQ} (h : wp Bk 47 [] (0, 0) (some .boolean) Q c47_8 kc ks ls st w) : Bk 47 8 kc ks ls st w Q := goS ⟨rfl, rfl⟩ h
theorem g47_9 {kc ks : Nat} {ls st : List Value} {w : AW} {Q : AQ} (h : wp Bk 47 [] (0, 0) (some .boolean) Q c47_9 kc ks ls st w) : Bk 47 9 kc ks ls st w Q := goS ⟨rfl, rfl⟩ h
theorem g48_0 {kc ks : Nat} {ls st : List Value} {w : AW} {Q : AQ} (h : wp Bk 48 [] (0, 0) (some .int) Q c48_0 kc ks ls st w) : Bk 48 0 kc ks ls st w Q := goS ⟨rfl, rfl⟩ h
theorem g49_0 {kc ks : Nat} {ls st : List Value} {w : AW} {Q : AQ} (h : wp Bk 49 [] (0, 0) (some .boolean) Q c49_0 kc ks ls st w) : Bk 49 0 kc ks ls st w Q := goS ⟨rfl, rfl⟩ h
theorem g49_9 {kc ks : Nat} {ls st : List Value} {w : AW} {Q : AQ} (h : wp Bk 49 [] (0, 0) (some .boolean) Q c49_9 kc ks ls st w) : Bk 49 9 kc ks ls st w Q := goS ⟨rfl, rfl⟩ h
theorem g49_10 {kc ks : Nat} {ls st : List Value} {w : AW} {Q : AQ} (h : wp Bk 49 [] (0, 0) (some .boolean) Q c49_10 kc ks ls st w) : Bk 49 10 kc ks ls st w Q := goS ⟨rfl, rfl⟩ h
theorem g50_0 {kc ks : Nat} {ls st : List Value} {w : AW} {Q : AQ} (h : wp Bk 50 [] (0, 0) (some .boolean) Q c50_0 kc ks ls st w) : Bk 50 0 kc ks ls st w Q := goS ⟨rfl, rfl⟩ h
theorem g50_7 {kc ks : Nat} {ls st : List Value} {w : AW} {Q : AQ} (h : wp Bk 50 [] (0, 0) (some .boolean) Q c50_7 kc ks ls st w) : Bk 50 7 kc ks ls st w Q := goS ⟨rfl, rfl⟩ h
theorem g50_46 {kc ks : Nat} {ls st : List Value} {w : AW} {Q : AQ} (h : wp Bk 50 [] (0, 0) (some .boolean) Q c50_46 kc ks ls st w) : Bk 50 46 kc ks ls st w Q := goS ⟨rfl, rfl⟩ h
theorem g51_0 {kc ks : Nat} {ls st : List Value} {w : AW} {Q : AQ} (h : wp Bk 51 [] (0, 0) (some .boolean) Q c51_0 kc ks ls st w) : Bk 51 0 kc ks ls st w Q := goS ⟨rfl, rfl⟩ h
theorem g51_12 {kc ks : Nat} {ls st : List Value} {w : AW} {Q : AQ} (h : wp Bk 51 [] (0, 0) (some .boolean) Q c51_12 kc ks ls st w) : Bk 51 12 kc ks ls st w Q := goS ⟨rfl, rfl⟩ h
theorem g51_13 {kc ks : Nat} {ls st : List Value} {w : AW} {Q : AQ} (h : wp Bk 51 [] (0, 0) (some .boolean) Q c51_13 kc ks ls st w) : Bk 51 13 kc ks ls st w Q := goS ⟨rfl, rfl⟩ h
theorem g52_0 {kc ks : Nat} {ls st : List Value} {w : AW} {Q : AQ} (h : wp Bk 52 [] (0, 0) (some .int) Q c52_0 kc ks ls st w) : Bk 52 0 kc ks ls st w Q := goS ⟨rfl, rfl⟩ h
theorem g52_31 {kc ks : Nat} {ls st : List Value} {w : AW} {Q : AQ} (h : wp Bk 52 [] (0, 0) (some .int) Q c52_31 kc ks ls st w) : Bk 52 31 kc ks ls st w Q := goS ⟨rfl, rfl⟩ h
theorem g52_40 {kc ks : Nat} {ls st : List Value} {w : AW} {Q : AQ} (h : wp Bk 52 [] (0, 0) (some .int) Q c52_40 kc ks ls st w) : Bk 52 40 kc ks ls st w Q := goS ⟨rfl, rfl⟩ h
theorem g52_47 {kc ks : Nat} {ls st : List Value} {w : AW} {Q : AQ} (h : wp Bk 52 [] (0, 0) (some .int) Q c52_47 kc ks ls st w) : Bk 52 47 kc ks ls st w Q := goS ⟨rfl, rfl⟩ h
theorem g52_58 {kc ks : Nat} {ls st : List Value} {w : AW} {Q : AQ} (h : wp Bk 52 [] (0, 0) (some .int) Q c52_58 kc ks ls st w) : Bk 52 58 kc ks ls st w Q := goS ⟨rfl, rfl⟩ h
theorem g53_0 {kc ks : Nat} {ls st : List Value} {w : AW} {Q : AQ} (h : wp Bk 53 [] (0, 0) (none) Q c53_0 kc ks ls st w) : Bk 53 0 kc ks ls st w Q := goS ⟨rfl, rfl⟩ h
theorem g53_20 {kc ks : Nat} {ls st : List Value} {w : AW} {Q : AQ} (h : wp Bk 53 [] (0, 0) (none) Q c53_20 kc ks ls st w) : Bk 53 20 kc ks ls st w Q := goS ⟨rfl, rfl⟩ h
theorem g54_0 {kc ks : Nat} {ls st : List Value} {w : AW} {Q : AQ} (h : wp Bk 54 [] (0, 0) (some .int) Q c54_0 kc ks ls st w) : Bk 54 0 kc ks ls st w Q := goS ⟨rfl, rfl⟩ h
theorem g55_0 {kc ks : Nat} {ls st : List Value} {w : AW} {Q : AQ} (h : wp Bk 55 [] (1, 6) (some .int) Q c55_0 kc ks ls st w) : Bk 55 0 kc ks ls st w Q := goS ⟨rfl, rfl⟩ h
theorem g56_0 {kc ks : Nat} {ls st : List Value} {w : AW} {Q : AQ} (h : wp Bk 56 [("java/lang/IndexOutOfBoundsException", 10, 4)] (1, 6) (some .int) Q c56_0 kc ks ls st w) : Bk 56 0 kc ks ls st w Q := goS ⟨rfl, rfl⟩ h
theorem g56_10 {kc ks : Nat} {ls st : List Value} {w : AW} {Q : AQ} (h : wp Bk 56 [("java/lang/IndexOutOfBoundsException", 10, 4)] (1, 6) (some .int) Q c56_10 kc ks ls st w) : Bk 56 10 kc ks ls st w Q := goS ⟨rfl, rfl⟩ h
theorem g56_12 {kc ks : Nat} {ls st : List Value} {w : AW} {Q : AQ} (h : wp Bk 56 [("java/lang/IndexOutOfBoundsException", 10, 4)] (1, 6) (some .int) Q c56_12 kc ks ls st w) : Bk 56 12 kc ks ls st w Q := goS ⟨rfl, rfl⟩ h
theorem g57_0 {kc ks : Nat} {ls st : List Value} {w : AW} {Q : AQ} (h : wp Bk 57 [] (0, 0) (some .boolean) Q c57_0 kc ks ls st w) : Bk 57 0 kc ks ls st w Q := goS ⟨rfl, rfl⟩ h
theorem g57_25 {kc ks : Nat} {ls st : List Value} {w : AW} {Q : AQ} (h : wp Bk 57 [] (0, 0) (some .boolean) Q c57_25 kc ks ls st w) : Bk 57 25 kc ks ls st w Q := goS ⟨rfl, rfl⟩ h
theorem g57_40 {kc ks : Nat} {ls st : List Value} {w : AW} {Q : AQ} (h : wp Bk 57 [] (0, 0) (some .boolean) Q c57_40 kc ks ls st w) : Bk 57 40 kc ks ls st w Q := goS ⟨rfl, rfl⟩ h
theorem g57_42 {kc ks : Nat} {ls st : List Value} {w : AW} {Q : AQ} (h : wp Bk 57 [] (0, 0) (some .boolean) Q c57_42 kc ks ls st w) : Bk 57 42 kc ks ls st w Q := goS ⟨rfl, rfl⟩ h
theorem g57_43 {kc ks : Nat} {ls st : List Value} {w : AW} {Q : AQ} (h : wp Bk 57 [] (0, 0) (some .boolean) Q c57_43 kc ks ls st w) : Bk 57 43 kc ks ls st w Q := goS ⟨rfl, rfl⟩ h
theorem g58_0 {kc ks : Nat} {ls st : List Value} {w : AW} {Q : AQ} (h : wp Bk 58 [] (0, 0) (some .int) Q c58_0 kc ks ls st w) : Bk 58 0 kc ks ls st w Q := goS ⟨rfl, rfl⟩ h
theorem g58_18 {kc ks : Nat} {ls st : List Value} {w : AW} {Q : AQ} (h : wp Bk 58 [] (0, 0) (some .int) Q c58_18 kc ks ls st w) : Bk 58 18 kc ks ls st w Q := goS ⟨rfl, rfl⟩ h
theorem g58_47 {kc ks : Nat} {ls st : List Value} {w : AW} {Q : AQ} (h : wp Bk 58 [] (0, 0) (some .int) Q c58_47 kc ks ls st w) : Bk 58 47 kc ks ls st w Q := goS ⟨rfl, rfl⟩ h
theorem g58_49 {kc ks : Nat} {ls st : List Value} {w : AW} {Q : AQ} (h : wp Bk 58 [] (0, 0) (some .int) Q c58_49 kc ks ls st w) : Bk 58 49 kc ks ls st w Q := goS ⟨rfl, rfl⟩ h
theorem g59_0 {kc ks : Nat} {ls st : List Value} {w : AW} {Q : AQ} (h : wp Bk 59 [] (0, 0) (none) Q c59_0 kc ks ls st w) : Bk 59 0 kc ks ls st w Q := goS ⟨rfl, rfl⟩ h
theorem g60_0 {kc ks : Nat} {ls st : List Value} {w : AW} {Q : AQ} (h : wp Bk 60 [] (0, 0) (some .int) Q c60_0 kc ks ls st w) : Bk 60 0 kc ks ls st w Q := goS ⟨rfl, rfl⟩ h
theorem g60_4 {kc ks : Nat} {ls st : List Value} {w : AW} {Q : AQ} (h : wp Bk 60 [] (0, 0) (some .int) Q c60_4 kc ks ls st w) : Bk 60 4 kc ks ls st w Q := goS ⟨rfl, rfl⟩ h
theorem g60_17 {kc ks : Nat} {ls st : List Value} {w : AW} {Q : AQ} (h : wp Bk 60 [] (0, 0) (some .int) Q c60_17 kc ks ls st w) : Bk 60 17 kc ks ls st w Q := goS ⟨rfl, rfl⟩ h
theorem g61_0 {kc ks : Nat} {ls st : List Value} {w : AW} {Q : AQ} (h : wp Bk 61 [] (0, 0) (some .int) Q c61_0 kc ks ls st w) : Bk 61 0 kc ks ls st w Q := goS ⟨rfl, rfl⟩ h
theorem g61_7 {kc ks : Nat} {ls st : List Value} {w : AW} {Q : AQ} (h : wp Bk 61 [] (0, 0) (some .int) Q c61_7 kc ks ls st w) : Bk 61 7 kc ks ls st w Q := goS ⟨rfl, rfl⟩ h
theorem g62_0 {kc ks : Nat} {ls st : List Value} {w : AW} {Q : AQ} (h : wp Bk 62 [] (0, 0) (some .int) Q c62_0 kc ks ls st w) : Bk 62 0 kc ks ls st w Q := goS ⟨rfl, rfl⟩ h
theorem g63_0 {kc ks : Nat} {ls st : List Value} {w : AW} {Q : AQ} (h : wp Bk 63 [] (0, 0) (some .int) Q c63_0 kc ks ls st w) : Bk 63 0 kc ks ls st w Q := goS ⟨rfl, rfl⟩ h
theorem g64_0 {kc ks : Nat} {ls st : List Value} {w : AW} {Q : AQ} (h : wp Bk 64 [] (0, 0) (some .int) Q c64_0 kc ks ls st w) : Bk 64 0 kc ks ls st w Q := goS ⟨rfl, rfl⟩ h
theorem g65_0 {kc ks : Nat} {ls st : List Value} {w : AW} {Q : AQ} (h : wp Bk 65 [] (0, 0) (some .int) Q c65_0 kc ks ls st w) : Bk 65 0 kc ks ls st w Q := goS ⟨rfl, rfl⟩ h
theorem g66_0 {kc ks : Nat} {ls st : List Value} {w : AW} {Q : AQ} (h : wp Bk 66 [] (0, 0) (some .char) Q c66_0 kc ks ls st w) : Bk 66 0 kc ks ls st w Q := goS ⟨rfl, rfl⟩ h
theorem g67_0 {kc ks : Nat} {ls st : List Value} {w : AW} {Q : AQ} (h : wp Bk 67 [] (0, 0) (some .char) Q c67_0 kc ks ls st w) : Bk 67 0 kc ks ls st w Q := goS ⟨rfl, rfl⟩ h
theorem g68_0 {kc ks : Nat} {ls st : List Value} {w : AW} {Q : AQ} (h : wp Bk 68 [] (1, 6) (some .boolean) Q c68_0 kc ks ls st w) : Bk 68 0 kc ks ls st w Q := goS ⟨rfl, rfl⟩ h
theorem g69_0 {kc ks : Nat} {ls st : List Value} {w : AW} {Q : AQ} (h : wp Bk 69 [("java/lang/IndexOutOfBoundsException", 13, 4)] (1, 6) (some .int) Q c69_0 kc ks ls st w) : Bk 69 0 kc ks ls st w Q := goS ⟨rfl, rfl⟩ h
theorem g69_9 {kc ks : Nat} {ls st : List Value} {w : AW} {Q : AQ} (h : wp Bk 69 [("java/lang/IndexOutOfBoundsException", 13, 4)] (1, 6) (some .int) Q c69_9 kc ks ls st w) : Bk 69 9 kc ks ls st w Q := goS ⟨rfl, rfl⟩ h
theorem g69_10 {kc ks : Nat} {ls st : List Value} {w : AW} {Q : AQ} (h : wp Bk 69 [("java/lang/IndexOutOfBoundsException", 13, 4)] (1, 6) (some .int) Q c69_10 kc ks ls st w) : Bk 69 10 kc ks ls st w Q := goS ⟨rfl, rfl⟩ h
theorem g69_13 {kc ks : Nat} {ls st : List Value} {w : AW} {Q : AQ} (h : wp Bk 69 [("java/lang/IndexOutOfBoundsException", 13, 4)] (1, 6) (some .int) Q c69_13 kc ks ls st w) : Bk 69 13 kc ks ls st w Q := goS ⟨rfl, rfl⟩ h
theorem g69_15 {kc ks : Nat} {ls st : List Value} {w : AW} {Q : AQ} (h : wp Bk 69 [("java/lang/IndexOutOfBoundsException", 13, 4)] (1, 6) (some .int) Q c69_15 kc ks ls st w) : Bk 69 15 kc ks ls st w Q := goS ⟨rfl, rfl⟩ h
theorem g70_0 {kc ks : Nat} {ls st : List Value} {w : AW} {Q : AQ} (h : wp Bk 70 [] (0, 0) (some .boolean) Q c70_0 kc ks ls st w) : Bk 70 0 kc ks ls st w Q := goS ⟨rfl, rfl⟩ h
theorem g70_17 {kc ks : Nat} {ls st : List Value} {w : AW} {Q : AQ} (h : wp Bk 70 [] (0, 0) (some .boolean) Q c70_17 kc ks ls st w) : Bk 70 17 kc ks ls st w Q := goS ⟨rfl, rfl⟩ h
theorem g70_18 {kc ks : Nat} {ls st : List Value} {w : AW} {Q : AQ} (h : wp Bk 70 [] (0, 0) (some .boolean) Q c70_18 kc ks ls st w) : Bk 70 18 kc ks ls st w Q := goS ⟨rfl, rfl⟩ h
theorem g71_0 {kc ks : Nat} {ls st : List Value} {w : AW} {Q : AQ} (h : wp Bk 71 [] (0, 0) (some .int) Q c71_0 kc ks ls st w) : Bk 71 0 kc ks ls st w Q := goS ⟨rfl, rfl⟩ h
theorem g71_5 {kc ks : Nat} {ls st : List Value} {w : AW} {Q : AQ} (h : wp Bk 71 [] (0, 0) (some .int) Q c71_5 kc ks ls st w) : Bk 71 5 kc ks ls st w Q := goS ⟨rfl, rfl⟩ h
theorem g71_21 {kc ks : Nat} {ls st : List Value} {w : AW} {Q : AQ} (h : wp Bk 71 [] (0, 0) (some .int) Q c71_21 kc ks ls st w) : Bk 71 21 kc ks ls st w Q := goS ⟨rfl, rfl⟩ h
theorem g71_23 {kc ks : Nat} {ls st : List Value} {w : AW} {Q : AQ} (h : wp Bk 71 [] (0, 0) (some .int) Q c71_23 kc ks ls st w) : Bk 71 23 kc ks ls st w Q := goS ⟨rfl, rfl⟩ h
theorem g72_0 {kc ks : Nat} {ls st : List Value} {w : AW} {Q : AQ} (h : wp Bk 72 [] (1, 6) (some .boolean) Q c72_0 kc ks ls st w) : Bk 72 0 kc ks ls st w Q := goS ⟨rfl, rfl⟩ h
theorem g73_0 {kc ks : Nat} {ls st : List Value} {w : AW} {Q : AQ} (h : wp Bk 73 [("java/lang/IndexOutOfBoundsException", 13, 4)] (1, 6) (some .int) Q c73_0 kc ks ls st w) : Bk 73 0 kc ks ls st w Q := goS ⟨rfl, rfl⟩ h
theorem g73_9 {kc ks : Nat} {ls st : List Value} {w : AW} {Q : AQ} (h : wp Bk 73 [("java/lang/IndexOutOfBoundsException", 13, 4)] (1, 6) (some .int) Q c73_9 kc ks ls st w) : Bk 73 9 kc ks ls st w Q := goS ⟨rfl, rfl⟩ h
theorem g73_10 {kc ks : Nat} {ls st : List Value} {w : AW} {Q : AQ} (h : wp Bk 73 [("java/lang/IndexOutOfBoundsException", 13, 4)] (1, 6) (some .int) Q c73_10 kc ks ls st w) : Bk 73 10 kc ks ls st w Q := goS ⟨rfl, rfl⟩ h
theorem g73_13 {kc ks : Nat} {ls st : List Value} {w : AW} {Q : AQ} (h : wp Bk 73 [("java/lang/IndexOutOfBoundsException", 13, 4)] (1, 6) (some .int) Q c73_13 kc ks ls st w) : Bk 73 13 kc ks ls st w Q := goS ⟨rfl, rfl⟩ h
theorem g73_15 {kc ks : Nat} {ls st : List Value} {w : AW} {Q : AQ} (h : wp Bk 73 [("java/lang/IndexOutOfBoundsException", 13, 4)] (1, 6) (some .int) Q c73_15 kc ks ls st w) : Bk 73 15 kc ks ls st w Q := goS ⟨rfl, rfl⟩ h
theorem g74_0 {kc ks : Nat} {ls st : List Value} {w : AW} {Q : AQ} (h : wp Bk 74 [] (0, 0) (some .boolean) Q c74_0 kc ks ls st w) : Bk 74 0 kc ks ls st w Q := goS ⟨rfl, rfl⟩ h
theorem g74_7 {kc ks : Nat} {ls st : List Value} {w : AW} {Q : AQ} (h : wp Bk 74 [] (0, 0) (some .boolean) Q c74_7 kc ks ls st w) : Bk 74 7 kc ks ls st w Q := goS ⟨rfl, rfl⟩ h
theorem g74_14 {kc ks : Nat} {ls st : List Value} {w : AW} {Q : AQ} (h : wp Bk 74 [] (0, 0) (some .boolean) Q c74_14 kc ks ls st w) : Bk 74 14 kc ks ls st w Q := goS ⟨rfl, rfl⟩ h
theorem g74_34 {kc ks : Nat} {ls st : List Value} {w : AW} {Q : AQ} (h : wp Bk 74 [] (0, 0) (some .boolean) Q c74_34 kc ks ls st w) : Bk 74 34 kc ks ls st w Q := goS ⟨rfl, rfl⟩ h
theorem g74_36 {kc ks : Nat} {ls st : List Value} {w : AW} {Q : AQ} (h : wp Bk 74 [] (0, 0) (some .boolean) Q c74_36 kc ks ls st w) : Bk 74 36 kc ks ls st w Q := goS ⟨rfl, rfl⟩ h
theorem g75_0 {kc ks : Nat} {ls st : List Value} {w : AW} {Q : AQ} (h : wp Bk 75 [] (0, 0) (some .int) Q c75_0 kc ks ls st w) : Bk 75 0 kc ks ls st w Q := goS ⟨rfl, rfl⟩ h
theorem g76_0 {kc ks : Nat} {ls st : List Value} {w : AW} {Q : AQ} (h : wp Bk 76 [] (0, 0) (some .int) Q c76_0 kc ks ls st w) : Bk 76 0 kc ks ls st w Q := goS ⟨rfl, rfl⟩ h
theorem g77_0 {kc ks : Nat} {ls st : List Value} {w : AW} {Q : AQ} (h : wp Bk 77 [] (1, 6) (none) Q c77_0 kc ks ls st w) : Bk 77 0 kc ks ls st w Q := goS ⟨rfl, rfl⟩ h
theorem g77_7 {kc ks : Nat} {ls st : List Value} {w : AW} {Q : AQ} (h : wp Bk 77 [] (1, 6) (none) Q c77_7 kc ks ls st w) : Bk 77 7 kc ks ls st w Q := goS ⟨rfl, rfl⟩ h
theorem g77_8 {kc ks : Nat} {ls st : List Value} {w : AW} {Q : AQ} (h : wp Bk 77 [] (1, 6) (none) Q c77_8 kc ks ls st w) : Bk 77 8 kc ks ls st w Q := goS ⟨rfl, rfl⟩ h
theorem g78_0 {kc ks : Nat} {ls st : List Value} {w : AW} {Q : AQ} (h : wp Bk 78 [] (1, 6) (some .int) Q c78_0 kc ks ls st w) : Bk 78 0 kc ks ls st w Q := goS ⟨rfl, rfl⟩ h
theorem g79_0 {kc ks : Nat} {ls st : List Value} {w : AW} {Q : AQ} (h : wp Bk 79 [("java/lang/IndexOutOfBoundsException", 9, 3)] (1, 6) (some .int) Q c79_0 kc ks ls st w) : Bk 79 0 kc ks ls st w Q := goS ⟨rfl, rfl⟩ h
theorem g79_9 {kc ks : Nat} {ls st : List Value} {w : AW} {Q : AQ} (h : wp Bk 79 [("java/lang/IndexOutOfBoundsException", 9, 3)] (1, 6) (some .int) Q c79_9 kc ks ls st w) : Bk 79 9 kc ks ls st w Q := goS ⟨rfl, rfl⟩ h
theorem g79_11 {kc ks : Nat} {ls st : List Value} {w : AW} {Q : AQ} (h : wp Bk 79 [("java/lang/IndexOutOfBoundsException", 9, 3)] (1, 6) (some .int) Q c79_11 kc ks ls st w) : Bk 79 11 kc ks ls st w Q := goS ⟨rfl, rfl⟩ h
theorem g80_0 {kc ks : Nat} {ls st : List Value} {w : AW} {Q : AQ} (h : wp Bk 80 [] (0, 0) (some .int) Q c80_0 kc ks ls st w) : Bk 80 0 kc ks ls st w Q := goS ⟨rfl, rfl⟩ h
theorem g80_13 {kc ks : Nat} {ls st : List Value} {w : AW} {Q : AQ} (h : wp Bk 80 [] (0, 0) (some .int) Q c80_13 kc ks ls st w) : Bk 80 13 kc ks ls st w Q := goS ⟨rfl, rfl⟩ h
theorem g80_14 {kc ks : Nat} {ls st : List Value} {w : AW} {Q : AQ} (h : wp Bk 80 [] (0, 0) (some .int) Q c80_14 kc ks ls st w) : Bk 80 14 kc ks ls st w Q := goS ⟨rfl, rfl⟩ h
theorem g80_18 {kc ks : Nat} {ls st : List Value} {w : AW} {Q : AQ} (h : wp Bk 80 [] (0, 0) (some .int) Q c80_18 kc ks ls st w) : Bk 80 18 kc ks ls st w Q := goS ⟨rfl, rfl⟩ h
theorem g80_22 {kc ks : Nat} {ls st : List Value} {w : AW} {Q : AQ} (h : wp Bk 80 [] (0, 0) (some .int) Q c80_22 kc ks ls st w) : Bk 80 22 kc ks ls st w Q := goS ⟨rfl, rfl⟩ h
theorem g80_44 {kc ks : Nat} {ls st : List Value} {w : AW} {Q : AQ} (h : wp Bk 80 [] (0, 0) (some .int) Q c80_44 kc ks ls st w) : Bk 80 44 kc ks ls st w Q := goS ⟨rfl, rfl⟩ h
theorem g81_0 {kc ks : Nat} {ls st : List Value} {w : AW} {Q : AQ} (h : wp Bk 81 [] (1, 6) (some .int) Q c81_0 kc ks ls st w) : Bk 81 0 kc ks ls st w Q := goS ⟨rfl, rfl⟩ h
theorem g81_7 {kc ks : Nat} {ls st : List Value} {w : AW} {Q : AQ} (h : wp Bk 81 [] (1, 6) (some .int) Q c81_7 kc ks ls st w) : Bk 81 7 kc ks ls st w Q := goS ⟨rfl, rfl⟩ h
theorem g81_8 {kc ks : Nat} {ls st : List Value} {w : AW} {Q : AQ} (h : wp Bk 81 [] (1, 6) (some .int) Q c81_8 kc ks ls st w) : Bk 81 8 kc ks ls st w Q := goS ⟨rfl, rfl⟩ h
theorem g82_0 {kc ks : Nat} {ls st : List Value} {w : AW} {Q : AQ} (h : wp Bk 82 [("java/lang/IndexOutOfBoundsException", 9, 3)] (1, 6) (some .int) Q c82_0 kc ks ls st w) : Bk 82 0 kc ks ls st w Q := goS ⟨rfl, rfl⟩ h
theorem g82_9 {kc ks : Nat} {ls st : List Value} {w : AW} {Q : AQ} (h : wp Bk 82 [("java/lang/IndexOutOfBoundsException", 9, 3)] (1, 6) (some .int) Q c82_9 kc ks ls st w) : Bk 82 9 kc ks ls st w Q := goS ⟨rfl, rfl⟩ h
theorem g82_11 {kc ks : Nat} {ls st : List Value} {w : AW} {Q : AQ} (h : wp Bk 82 [("java/lang/IndexOutOfBoundsException", 9, 3)] (1, 6) (some .int) Q c82_11 kc ks ls st w) : Bk 82 11 kc ks ls st w Q := goS ⟨rfl, rfl⟩ h
theorem g83_0 {kc ks : Nat} {ls st : List Value} {w : AW} {Q : AQ} (h : wp Bk 83 [] (0, 0) (some .int) Q c83_0 kc ks ls st w) : Bk 83 0 kc ks ls st w Q := goS ⟨rfl, rfl⟩ h
theorem g83_13 {kc ks : Nat} {ls st : List Value} {w : AW} {Q : AQ} (h : wp Bk 83 [] (0, 0) (some .int) Q c83_13 kc ks ls st w) : Bk 83 13 kc ks ls st w Q := goS ⟨rfl, rfl⟩ h
theorem g83_14 {kc ks : Nat} {ls st : List Value} {w : AW} {Q : AQ} (h : wp Bk 83 [] (0, 0) (some .int) Q c83_14 kc ks ls st w) : Bk 83 14 kc ks ls st w Q := goS ⟨rfl, rfl⟩ h
theorem g83_18 {kc ks : Nat} {ls st : List Value} {w : AW} {Q : AQ} (h : wp Bk 83 [] (0, 0) (some .int) Q c83_18 kc ks ls st w) : Bk 83 18 kc ks ls st w Q := goS ⟨rfl, rfl⟩ h
theorem g83_22 {kc ks : Nat} {ls st : List Value} {w : AW} {Q : AQ} (h : wp Bk 83 [] (0, 0) (some .int) Q c83_22 kc ks ls st w) : Bk 83 22 kc ks ls st w Q := goS ⟨rfl, rfl⟩ h
theorem g83_44 {kc ks : Nat} {ls st : List Value} {w : AW} {Q : AQ} (h : wp Bk 83 [] (0, 0) (some .int) Q c83_44 kc ks ls st w) : Bk 83 44 kc ks ls st w Q := goS ⟨rfl, rfl⟩ h
theorem g84_0 {kc ks : Nat} {ls st : List Value} {w : AW} {Q : AQ} (h : wp Bk 84 [] (1, 6) (some .int) Q c84_0 kc ks ls st w) : Bk 84 0 kc ks ls st w Q := goS ⟨rfl, rfl⟩ h
theorem g85_0 {kc ks : Nat} {ls st : List Value} {w : AW} {Q : AQ} (h : wp Bk 85 [("java/lang/IndexOutOfBoundsException", 10, 4)] (1, 6) (some .int) Q c85_0 kc ks ls st w) : Bk 85 0 kc ks ls st w Q := goS ⟨rfl, rfl⟩ h
theorem g85_10 {kc ks : Nat} {ls st : List Value} {w : AW} {Q : AQ} (h : wp Bk 85 [("java/lang/IndexOutOfBoundsException", 10, 4)] (1, 6) (some .int) Q c85_10 kc ks ls st w) : Bk 85 10 kc ks ls st w Q := goS ⟨rfl, rfl⟩ h
theorem g85_12 {kc ks : Nat} {ls st : List Value} {w : AW} {Q : AQ} (h : wp Bk 85 [("java/lang/IndexOutOfBoundsException", 10, 4)] (1, 6) (some .int) Q c85_12 kc ks ls st w) : Bk 85 12 kc ks ls st w Q := goS ⟨rfl, rfl⟩ h
theorem g86_0 {kc ks : Nat} {ls st : List Value} {w : AW} {Q : AQ} (h : wp Bk 86 [] (0, 0) (some .int) Q c86_0 kc ks ls st w) : Bk 86 0 kc ks ls st w Q := goS ⟨rfl, rfl⟩ h
theorem g86_7 {kc ks : Nat} {ls st : List Value} {w : AW} {Q : AQ} (h : wp Bk 86 [] (0, 0) (some .int) Q c86_7 kc ks ls st w) : Bk 86 7 kc ks ls st w Q := goS ⟨rfl, rfl⟩ h
theorem g86_16 {kc ks : Nat} {ls st : List Value} {w : AW} {Q : AQ} (h : wp Bk 86 [] (0, 0) (some .int) Q c86_16 kc ks ls st w) : Bk 86 16 kc ks ls st w Q := goS ⟨rfl, rfl⟩ h
theorem g87_0 {kc ks : Nat} {ls st : List Value} {w : AW} {Q : AQ} (h : wp Bk 87 [] (1, 6) (some .int) Q c87_0 kc ks ls st w) : Bk 87 0 kc ks ls st w Q := goS ⟨rfl, rfl⟩ h
theorem g88_0 {kc ks : Nat} {ls st : List Value} {w : AW} {Q : AQ} (h : wp Bk 88 [("java/lang/IndexOutOfBoundsException", 10, 4)] (1, 6) (some .int) Q c88_0 kc ks ls st w) : Bk 88 0 kc ks ls st w Q := goS ⟨rfl, rfl⟩ h
theorem g88_10 {kc ks : Nat} {ls st : List Value} {w : AW} {Q : AQ} (h : wp Bk 88 [("java/lang/IndexOutOfBoundsException", 10, 4)] (1, 6) (some .int) Q c88_10 kc ks ls st w) : Bk 88 10 kc ks ls st w Q := goS ⟨rfl, rfl⟩ h
theorem g88_12 {kc ks : Nat} {ls st : List Value} {w : AW} {Q : AQ} (h : wp Bk 88 [("java/lang/IndexOutOfBoundsException", 10, 4)] (1, 6) (some .int) Q c88_12 kc ks ls st w) : Bk 88 12 kc ks ls st w Q := goS ⟨rfl, rfl⟩ h
theorem g89_0 {kc ks : Nat} {ls st : List Value} {w : AW} {Q : AQ} (h : wp Bk 89 [] (0, 0) (some .int) Q c89_0 kc ks ls st w) : Bk 89 0 kc ks ls st w Q := goS ⟨rfl, rfl⟩ h
theorem g89_7 {kc ks : Nat} {ls st : List Value} {w : AW} {Q : AQ} (h : wp Bk 89 [] (0, 0) (some .int) Q c89_7 kc ks ls st w) : Bk 89 7 kc ks ls st w Q := goS ⟨rfl, rfl⟩ h
theorem g89_14 {kc ks : Nat} {ls st : List Value} {w : AW} {Q : AQ} (h : wp Bk 89 [] (0, 0) (some .int) Q c89_14 kc ks ls st w) : Bk 89 14 kc ks ls st w Q := goS ⟨rfl, rfl⟩ h
theorem g90_0 {kc ks : Nat} {ls st : List Value} {w : AW} {Q : AQ} (h : wp Bk 90 [] (1, 6) (some .boolean) Q c90_0 kc ks ls st w) : Bk 90 0 kc ks ls st w Q := goS ⟨rfl, rfl⟩ h
theorem g91_0 {kc ks : Nat} {ls st : List Value} {w : AW} {Q : AQ} (h : wp Bk 91 [("java/lang/IndexOutOfBoundsException", 13, 4)] (1, 6) (some .int) Q c91_0 kc ks ls st w) : Bk 91 0 kc ks ls st w Q := goS ⟨rfl, rfl⟩ h
theorem g91_9 {kc ks : Nat} {ls st : List Value} {w : AW} {Q : AQ} (h : wp Bk 91 [("java/lang/IndexOutOfBoundsException", 13, 4)] (1, 6) (some .int) Q c91_9 kc ks ls st w) : Bk 91 9 kc ks ls st w Q := goS ⟨rfl, rfl⟩ h
theorem g91_10 {kc ks : Nat} {ls st : List Value} {w : AW} {Q : AQ} (h : wp Bk 91 [("java/lang/IndexOutOfBoundsException", 13, 4)] (1, 6) (some .int) Q c91_10 kc ks ls st w) : Bk 91 10 kc ks ls st w Q := goS ⟨rfl, rfl⟩ h
theorem g91_13 {kc ks : Nat} {ls st : List Value} {w : AW} {Q : AQ} (h : wp Bk 91 [("java/lang/IndexOutOfBoundsException", 13, 4)] (1, 6) (some .int) Q c91_13 kc ks ls st w) : Bk 91 13 kc ks ls st w Q := goS ⟨rfl, rfl⟩ h
theorem g91_15 {kc ks : Nat} {ls st : List Value} {w : AW} {Q : AQ} (h : wp Bk 91 [("java/lang/IndexOutOfBoundsException", 13, 4)] (1, 6) (some .int) Q c91_15 kc ks ls st w) : Bk 91 15 kc ks ls st w Q := goS ⟨rfl, rfl⟩ h
theorem g92_0 {kc ks : Nat} {ls st : List Value} {w : AW} {Q : AQ} (h : wp Bk 92 [] (0, 0) (some .boolean) Q c92_0 kc ks ls st w) : Bk 92 0 kc ks ls st w Q := goS ⟨rfl, rfl⟩ h
theorem g92_7 {kc ks : Nat} {ls st : List Value} {w : AW} {Q : AQ} (h : wp Bk 92 [] (0, 0) (some .boolean) Q c92_7 kc ks ls st w) : Bk 92 7 kc ks ls st w Q := goS ⟨rfl, rfl⟩ h
theorem g93_0 {kc ks : Nat} {ls st : List Value} {w : AW} {Q : AQ} (h : wp Bk 93 [] (1, 6) (some .boolean) Q c93_0 kc ks ls st w) : Bk 93 0 kc ks ls st w Q := goS ⟨rfl, rfl⟩ h
theorem g94_0 {kc ks : Nat} {ls st : List Value} {w : AW} {Q : AQ} (h : wp Bk 94 [("java/lang/IndexOutOfBoundsException", 13, 4)] (1, 6) (some .int) Q c94_0 kc ks ls st w) : Bk 94 0 kc ks ls st w Q := goS ⟨rfl, rfl⟩ h
theorem g94_9 {kc ks : Nat} {ls st : List Value} {w : AW} {Q : AQ} (h : wp Bk 94 [("java/lang/IndexOutOfBoundsException", 13, 4)] (1, 6) (some .int) Q c94_9 kc ks ls st w) : Bk 94 9 kc ks ls st w Q := goS ⟨rfl, rfl⟩ h
theorem g94_10 {kc ks : Nat} {ls st : List Value} {w : AW} {Q : AQ} (h : wp Bk 94 [("java/lang/IndexOutOfBoundsException", 13, 4)] (1, 6) (some .int) Q c94_10 kc ks ls st w) : Bk 94 10 kc ks ls st w Q := goS ⟨rfl, rfl⟩ h
theorem g94_13 {kc ks : Nat} {ls st : List Value} {w : AW} {Q : AQ} (h : wp Bk 94 [("java/lang/IndexOutOfBoundsException", 13, 4)] (1, 6) (some .int) Q c94_13 kc ks ls st w) : Bk 94 13 kc ks ls st w Q := goS ⟨rfl, rfl⟩ h
theorem g94_15 {kc ks : Nat} {ls st : List Value} {w : AW} {Q : AQ} (h : wp Bk 94 [("java/lang/IndexOutOfBoundsException", 13, 4)] (1, 6) (some .int) Q c94_15 kc ks ls st w) : Bk 94 15 kc ks ls st w Q := goS ⟨rfl, rfl⟩ h
theorem g95_0 {kc ks : Nat} {ls st : List Value} {w : AW} {Q : AQ} (h : wp Bk 95 [] (0, 0) (some .boolean) Q c95_0 kc ks ls st w) : Bk 95 0 kc ks ls st w Q := goS ⟨rfl, rfl⟩ h
theorem g95_17 {kc ks : Nat} {ls st : List Value} {w : AW} {Q : AQ} (h : wp Bk 95 [] (0, 0) (some .boolean) Q c95_17 kc ks ls st w) : Bk 95 17 kc ks ls st w Q := goS ⟨rfl, rfl⟩ h
theorem g95_18 {kc ks : Nat} {ls st : List Value} {w : AW} {Q : AQ} (h : wp Bk 95 [] (0, 0) (some .boolean) Q c95_18 kc ks ls st w) : Bk 95 18 kc ks ls st w Q := goS ⟨rfl, rfl⟩ h
theorem g96_0 {kc ks : Nat} {ls st : List Value} {w : AW} {Q : AQ} (h : wp Bk 96 [] (0, 0) (some .int) Q c96_0 kc ks ls st w) : Bk 96 0 kc ks ls st w Q := goS ⟨rfl, rfl⟩ h
theorem g97_0 {kc ks : Nat} {ls st : List Value} {w : AW} {Q : AQ} (h : wp Bk 97 [] (0, 0) (some .boolean) Q c97_0 kc ks ls st w) : Bk 97 0 kc ks ls st w Q := goS ⟨rfl, rfl⟩ h
theorem g97_6 {kc ks : Nat} {ls st : List Value} {w : AW} {Q : AQ} (h : wp Bk 97 [] (0, 0) (some .boolean) Q c97_6 kc ks ls st w) : Bk 97 6 kc ks ls st w Q := goS ⟨rfl, rfl⟩ h
theorem g97_7 {kc ks : Nat} {ls st : List Value} {w : AW} {Q : AQ} (h : wp Bk 97 [] (0, 0) (some .boolean) Q c97_7 kc ks ls st w) : Bk 97 7 kc ks ls st w Q := goS ⟨rfl, rfl⟩ h
theorem g98_0 {kc ks : Nat} {ls st : List Value} {w : AW} {Q : AQ} (h : wp Bk 98 [] (0, 0) (some .boolean) Q c98_0 kc ks ls st w) : Bk 98 0 kc ks ls st w Q := goS ⟨rfl, rfl⟩ h
theorem g98_14 {kc ks : Nat} {ls st : List Value} {w : AW} {Q : AQ} (h : wp Bk 98 [] (0, 0) (some .boolean) Q c98_14 kc ks ls st w) : Bk 98 14 kc ks ls st w Q := goS ⟨rfl, rfl⟩ h
theorem g98_15 {kc ks : Nat} {ls st : List Value} {w : AW} {Q : AQ} (h : wp Bk 98 [] (0, 0) (some .boolean) Q c98_15 kc ks ls st w) : Bk 98 15 kc ks ls st w Q := goS ⟨rfl, rfl⟩ h
theorem g99_0 {kc ks : Nat} {ls st : List Value} {w : AW} {Q : AQ} (h : wp Bk 99 [] (0, 0) (some .int) Q c99_0 kc ks ls st w) : Bk 99 0 kc ks ls st w Q := goS ⟨rfl, rfl⟩ h
theorem g100_0 {kc ks : Nat} {ls st : List Value} {w : AW} {Q : AQ} (h : wp Bk 100 [] (0, 0) (some .int) Q c100_0 kc ks ls st w) : Bk 100 0 kc ks ls st w Q := goS ⟨rfl, rfl⟩ h
theorem g101_0 {kc ks : Nat} {ls st : List Value} {w : AW} {Q : AQ} (h : wp Bk 101 [] (0, 0) (none) Q c101_0 kc ks ls st w) : Bk 101 0 kc ks ls st w Q := goS ⟨rfl, rfl⟩ h
theorem g101_5 {kc ks : Nat} {ls st : List Value} {w : AW} {Q : AQ} (h : wp Bk 101 [] (0, 0) (none) Q c101_5 kc ks ls st w) : Bk 101 5 kc ks ls st w Q := goS ⟨rfl, rfl⟩ h
theorem g101_20 {kc ks : Nat} {ls st : List Value} {w : AW} {Q : AQ} (h : wp Bk 101 [] (0, 0) (none) Q c101_20 kc ks ls st w) : Bk 101 20 kc ks ls st w Q := goS ⟨rfl, rfl⟩ h
theorem g101_21 {kc ks : Nat} {ls st : List Value} {w : AW} {Q : AQ} (h : wp Bk 101 [] (0, 0) (none) Q c101_21 kc ks ls st w) : Bk 101 21 kc ks ls st w Q := goS ⟨rfl, rfl⟩ h
theorem g101_34 {kc ks : Nat} {ls st : List Value} {w : AW} {Q : AQ} (h : wp Bk 101 [] (0, 0) (none) Q c101_34 kc ks ls st w) : Bk 101 34 kc ks ls st w Q := goS ⟨rfl, rfl⟩ h
theorem g101_36 {kc ks : Nat} {ls st : List Value} {w : AW} {Q : AQ} (h : wp Bk 101 [] (0, 0) (none) Q c101_36 kc ks ls st w) : Bk 101 36 kc ks ls st w Q := goS ⟨rfl, rfl⟩ h
theorem g102_0 {kc ks : Nat} {ls st : List Value} {w : AW} {Q : AQ} (h : wp Bk 102 [] (0, 0) (some .int) Q c102_0 kc ks ls st w) : Bk 102 0 kc ks ls st w Q := goS ⟨rfl, rfl⟩ h
theorem g102_3 {kc ks : Nat} {ls st : List Value} {w : AW} {Q : AQ} (h : wp Bk 102 [] (0, 0) (some .int) Q c102_3 kc ks ls st w) : Bk 102 3 kc ks ls st w Q := goS ⟨rfl, rfl⟩ h
theorem g102_15 {kc ks : Nat} {ls st : List Value} {w : AW} {Q : AQ} (h : wp Bk 102 [] (0, 0) (some .int) Q c102_15 kc ks ls st w) : Bk 102 15 kc ks ls st w Q := goS ⟨rfl, rfl⟩ h
theorem g102_17 {kc ks : Nat} {ls st : List Value} {w : AW} {Q : AQ} (h : wp Bk 102 [] (0, 0) (some .int) Q c102_17 kc ks ls st w) : Bk 102 17 kc ks ls st w Q := goS ⟨rfl, rfl⟩ h
theorem g103_0 {kc ks : Nat} {ls st : List Value} {w : AW} {Q : AQ} (h : wp Bk 103 [] (0, 0) (some .boolean) Q c103_0 kc ks ls st w) : Bk 103 0 kc ks ls st w Q := goS ⟨k103_0, rfl⟩ h
theorem g103_9 {kc ks : Nat} {ls st : List Value} {w : AW} {Q : AQ} (h : wp Bk 103 [] (0, 0) (some .boolean) Q c103_9 kc ks ls st w) : Bk 103 9 kc ks ls st w Q := goS ⟨k103_9, rfl⟩ h
theorem g103_31 {kc ks : Nat} {ls st : List Value} {w : AW} {Q : AQ} (h : wp Bk 103 [] (0, 0) (some .boolean) Q c103_31 kc ks ls st w) : Bk 103 31 kc ks ls st w Q := goS ⟨k103_31, rfl⟩ h
theorem g103_53 {kc ks : Nat} {ls st : List Value} {w : AW} {Q : AQ} (h : wp Bk 103 [] (0, 0) (some .boolean) Q c103_53 kc ks ls st w) : Bk 103 53 kc ks ls st w Q := goS ⟨k103_53, rfl⟩ h
theorem g103_55 {kc ks : Nat} {ls st : List Value} {w : AW} {Q : AQ} (h : wp Bk 103 [] (0, 0) (some .boolean) Q c103_55 kc ks ls st w) : Bk 103 55 kc ks ls st w Q := goS ⟨k103_55, rfl⟩ h
theorem g104_0 {kc ks : Nat} {ls st : List Value} {w : AW} {Q : AQ} (h : wp Bk 104 [] (0, 0) (some .int) Q c104_0 kc ks ls st w) : Bk 104 0 kc ks ls st w Q := goS ⟨rfl, rfl⟩ h
theorem g104_4 {kc ks : Nat} {ls st : List Value} {w : AW} {Q : AQ} (h : wp Bk 104 [] (0, 0) (some .int) Q c104_4 kc ks ls st w) : Bk 104 4 kc ks ls st w Q := goS ⟨rfl, rfl⟩ h
theorem g104_22 {kc ks : Nat} {ls st : List Value} {w : AW} {Q : AQ} (h : wp Bk 104 [] (0, 0) (some .int) Q c104_22 kc ks ls st w) : Bk 104 22 kc ks ls st w Q := goS ⟨rfl, rfl⟩ h
theorem g104_24 {kc ks : Nat} {ls st : List Value} {w : AW} {Q : AQ} (h : wp Bk 104 [] (0, 0) (some .int) Q c104_24 kc ks ls st w) : Bk 104 24 kc ks ls st w Q := goS ⟨rfl, rfl⟩ h
theorem g105_0 {kc ks : Nat} {ls st : List Value} {w : AW} {Q : AQ} (h : wp Bk 105 [] (0, 0) (none) Q c105_0 kc ks ls st w) : Bk 105 0 kc ks ls st w Q := goS ⟨rfl, rfl⟩ h
theorem g105_5 {kc ks : Nat} {ls st : List Value} {w : AW} {Q : AQ} (h : wp Bk 105 [] (0, 0) (none) Q c105_5 kc ks ls st w) : Bk 105 5 kc ks ls st w Q := goS ⟨rfl, rfl⟩ h
theorem g105_32 {kc ks : Nat} {ls st : List Value} {w : AW} {Q : AQ} (h : wp Bk 105 [] (0, 0) (none) Q c105_32 kc ks ls st w) : Bk 105 32 kc ks ls st w Q := goS ⟨rfl, rfl⟩ h
theorem g105_34 {kc ks : Nat} {ls st : List Value} {w : AW} {Q : AQ} (h : wp Bk 105 [] (0, 0) (none) Q c105_34 kc ks ls st w) : Bk 105 34 kc ks ls st w Q := goS ⟨rfl, rfl⟩ h
theorem g106_0 {kc ks : Nat} {ls st : List Value} {w : AW} {Q : AQ} (h : wp Bk 106 [] (0, 0) (none) Q c106_0 kc ks ls st w) : Bk 106 0 kc ks ls st w Q := goS ⟨rfl, rfl⟩ h
theorem g106_10 {kc ks : Nat} {ls st : List Value} {w : AW} {Q : AQ} (h : wp Bk 106 [] (0, 0) (none) Q c106_10 kc ks ls st w) : Bk 106 10 kc ks ls st w Q := goS ⟨rfl, rfl⟩ h
theorem g106_30 {kc ks : Nat} {ls st : List Value} {w : AW} {Q : AQ} (h : wp Bk 106 [] (0, 0) (none) Q c106_30 kc ks ls st w) : Bk 106 30 kc ks ls st w Q := goS ⟨rfl, rfl⟩ h
theorem g106_32 {kc ks : Nat} {ls st : List Value} {w : AW} {Q : AQ} (h : wp Bk 106 [] (0, 0) (none) Q c106_32 kc ks ls st w) : Bk 106 32 kc ks ls st w Q := goS ⟨rfl, rfl⟩ h
theorem g107_0 {kc ks : Nat} {ls st : List Value} {w : AW} {Q : AQ} (h : wp Bk 107 [] (0, 0) (some .boolean) Q c107_0 kc ks ls st w) : Bk 107 0 kc ks ls st w Q := goS ⟨rfl, rfl⟩ h
theorem g107_3 {kc ks : Nat} {ls st : List Value} {w : AW} {Q : AQ} (h : wp Bk 107 [] (0, 0) (some .boolean) Q c107_3 kc ks ls st w) : Bk 107 3 kc ks ls st w Q := goS ⟨rfl, rfl⟩ h
theorem g107_13 {kc ks : Nat} {ls st : List Value} {w : AW} {Q : AQ} (h : wp Bk 107 [] (0, 0) (some .boolean) Q c107_13 kc ks ls st w) : Bk 107 13 kc ks ls st w Q := goS ⟨rfl, rfl⟩ h
theorem g107_15 {kc ks : Nat} {ls st : List Value} {w : AW} {Q : AQ} (h : wp Bk 107 [] (0, 0) (some .boolean) Q c107_15 kc ks ls st w) : Bk 107 15 kc ks ls st w Q := goS ⟨rfl, rfl⟩ h
theorem g108_0 {kc ks : Nat} {ls st : List Value} {w : AW} {Q : AQ} (h : wp Bk 108 [] (0, 0) (some .boolean) Q c108_0 kc ks ls st w) : Bk 108 0 kc ks ls st w Q := goS ⟨rfl, rfl⟩ h
theorem g109_0 {kc ks : Nat} {ls st : List Value} {w : AW} {Q : AQ} (h : wp Bk 109 [] (0, 0) (some .boolean) Q c109_0 kc ks ls st w) : Bk 109 0 kc ks ls st w Q := goS ⟨rfl, rfl⟩ h
theorem g110_0 {kc ks : Nat} {ls st : List Value} {w : AW} {Q : AQ} (h : wp Bk 110 [] (0, 0) (none) Q c110_0 kc ks ls st w) : Bk 110 0 kc ks ls st w Q := goS ⟨rfl, rfl⟩ h
theorem g111_0 {kc ks : Nat} {ls st : List Value} {w : AW} {Q : AQ} (h : wp Bk 111 [] (0, 0) (none) Q c111_0 kc ks ls st w) : Bk 111 0 kc ks ls st w Q := goS ⟨rfl, rfl⟩ h
theorem g111_6 {kc ks : Nat} {ls st : List Value} {w : AW} {Q : AQ} (h : wp Bk 111 [] (0, 0) (none) Q c111_6 kc ks ls st w) : Bk 111 6 kc ks ls st w Q := goS ⟨rfl, rfl⟩ h
theorem g111_26 {kc ks : Nat} {ls st : List Value} {w : AW} {Q : AQ} (h : wp Bk 111 [] (0, 0) (none) Q c111_26 kc ks ls st w) : Bk 111 26 kc ks ls st w Q := goS ⟨rfl, rfl⟩ h
theorem g111_28 {kc ks : Nat} {ls st : List Value} {w : AW} {Q : AQ} (h : wp Bk 111 [] (0, 0) (none) Q c111_28 kc ks ls st w) : Bk 111 28 kc ks ls st w Q := goS ⟨rfl, rfl⟩ h
theorem g112_0 {kc ks : Nat} {ls st : List Value} {w : AW} {Q : AQ} (h : wp Bk 112 [] (0, 0) (none) Q c112_0 kc ks ls st w) : Bk 112 0 kc ks ls st w Q := goS ⟨k112_0, rfl⟩ h
theorem g112_15 {kc ks : Nat} {ls st : List Value} {w : AW} {Q : AQ} (h : wp Bk 112 [] (0, 0) (none) Q c112_15 kc ks ls st w) : Bk 112 15 kc ks ls st w Q := goS ⟨k112_15, rfl⟩ h
theorem g112_35 {kc ks : Nat} {ls st : List Value} {w : AW} {Q : AQ} (h : wp Bk 112 [] (0, 0) (none) Q c112_35 kc ks ls st w) : Bk 112 35 kc ks ls st w Q := goS ⟨k112_35, rfl⟩ h
theorem g112_45 {kc ks : Nat} {ls st : List Value} {w : AW} {Q : AQ} (h : wp Bk 112 [] (0, 0) (none) Q c112_45 kc ks ls st w) : Bk 112 45 kc ks ls st w Q := goS ⟨k112_45, rfl⟩ h
theorem g112_51 {kc ks : Nat} {ls st : List Value} {w : AW} {Q : AQ} (h : wp Bk 112 [] (0, 0) (none) Q c112_51 kc ks ls st w) : Bk 112 51 kc ks ls st w Q := goS ⟨k112_51, rfl⟩ h
theorem g112_63 {kc ks : Nat} {ls st : List Value} {w : AW} {Q : AQ} (h : wp Bk 112 [] (0, 0) (none) Q c112_63 kc ks ls st w) : Bk 112 63 kc ks ls st w Q := goS ⟨k112_63, rfl⟩ h
theorem g112_73 {kc ks : Nat} {ls st : List Value} {w : AW} {Q : AQ} (h : wp Bk 112 [] (0, 0) (none) Q c112_73 kc ks ls st w) : Bk 112 73 kc ks ls st w Q := goS ⟨k112_73, rfl⟩ h
theorem g112_80 {kc ks : Nat} {ls st : List Value} {w : AW} {Q : AQ} (h : wp Bk 112 [] (0, 0) (none) Q c112_80 kc ks ls st w) : Bk 112 80 kc ks ls st w Q := goS ⟨k112_80, rfl⟩ h
theorem g112_106 {kc ks : Nat} {ls st : List Value} {w : AW} {Q : AQ} (h : wp Bk 112 [] (0, 0) (none) Q c112_106 kc ks ls st w) : Bk 112 106 kc ks ls st w Q := goS ⟨k112_106, rfl⟩ h
theorem g112_108 {kc ks : Nat} {ls st : List Value} {w : AW} {Q : AQ} (h : wp Bk 112 [] (0, 0) (none) Q c112_108 kc ks ls st w) : Bk 112 108 kc ks ls st w Q := goS ⟨k112_108, rfl⟩ h
theorem g112_120 {kc ks : Nat} {ls st : List Value} {w : AW} {Q : AQ} (h : wp Bk 112 [] (0, 0) (none) Q c112_120 kc ks ls st w) : Bk 112 120 kc ks ls st w Q := goS ⟨k112_120, rfl⟩ h
theorem g112_122 {kc ks : Nat} {ls st : List Value} {w : AW} {Q : AQ} (h : wp Bk 112 [] (0, 0) (none) Q c112_122 kc ks ls st w) : Bk 112 122 kc ks ls st w Q := goS ⟨k112_122, rfl⟩ h
theorem g112_124 {kc ks : Nat} {ls st : List Value} {w : AW} {Q : AQ} (h : wp Bk 112 [] (0, 0) (none) Q c112_124 kc ks ls st w) : Bk 112 124 kc ks ls st w Q := goS ⟨k112_124, rfl⟩ h
theorem g112_134 {kc ks : Nat} {ls st : List Value} {w : AW} {Q : AQ} (h : wp Bk 112 [] (0, 0) (none) Q c112_134 kc ks ls st w) : Bk 112 134 kc ks ls st w Q := goS ⟨k112_134, rfl⟩ h
theorem g112_136 {kc ks : Nat} {ls st : List Value} {w : AW} {Q : AQ} (h : wp Bk 112 [] (0, 0) (none) Q c112_136 kc ks ls st w) : Bk 112 136 kc ks ls st w Q := goS ⟨k112_136, rfl⟩ h
theorem g112_141 {kc ks : Nat} {ls st : List Value} {w : AW} {Q : AQ} (h : wp Bk 112 [] (0, 0) (none) Q c112_141 kc ks ls st w) : Bk 112 141 kc ks ls st w Q := goS ⟨k112_141, rfl⟩ h
theorem g112_152 {kc ks : Nat} {ls st : List Value} {w : AW} {Q : AQ} (h : wp Bk 112 [] (0, 0) (none) Q c112_152 kc ks ls st w) : Bk 112 152 kc ks ls st w Q := goS ⟨k112_152, rfl⟩ h
theorem g112_160 {kc ks : Nat} {ls st : List Value} {w : AW} {Q : AQ} (h : wp Bk 112 [] (0, 0) (none) Q c112_160 kc ks ls st w) : Bk 112 160 kc ks ls st w Q := goS ⟨k112_160, rfl⟩ h
theorem g112_174 {kc ks : Nat} {ls st : List Value} {w : AW} {Q : AQ} (h : wp Bk 112 [] (0, 0) (none) Q c112_174 kc ks ls st w) : Bk 112 174 kc ks ls st w Q := goS ⟨k112_174, rfl⟩ h
theorem g112_176 {kc ks : Nat} {ls st : List Value} {w : AW} {Q : AQ} (h : wp Bk 112 [] (0, 0) (none) Q c112_176 kc ks ls st w) : Bk 112 176 kc ks ls st w Q := goS ⟨k112_176, rfl⟩ h
theorem g113_0 {kc ks : Nat} {ls st : List Value} {w : AW} {Q : AQ} (h : wp Bk 113 [] (0, 0) (some .boolean) Q c113_0 kc ks ls st w) : Bk 113 0 kc ks ls st w Q := goS ⟨rfl, rfl⟩ h
theorem g113_10 {kc ks : Nat} {ls st : List Value} {w : AW} {Q : AQ} (h : wp Bk 113 [] (0, 0) (some .boolean) Q c113_10 kc ks ls st w) : Bk 113 10 kc ks ls st w Q := goS ⟨rfl, rfl⟩ h
theorem g113_11 {kc ks : Nat} {ls st : List Value} {w : AW} {Q : AQ} (h : wp Bk 113 [] (0, 0) (some .boolean) Q c113_11 kc ks ls st w) : Bk 113 11 kc ks ls st w Q := goS ⟨rfl, rfl⟩ h
theorem g114_0 {kc ks : Nat} {ls st : List Value} {w : AW} {Q : AQ} (h : wp Bk 114 [] (0, 0) (some .boolean) Q c114_0 kc ks ls st w) : Bk 114 0 kc ks ls st w Q := goS ⟨rfl, rfl⟩ h
theorem g115_0 {kc ks : Nat} {ls st : List Value} {w : AW} {Q : AQ} (h : wp Bk 115 [] (0, 0) (some .int) Q c115_0 kc ks ls st w) : Bk 115 0 kc ks ls st w Q := goS ⟨rfl, rfl⟩ h
theorem g115_17 {kc ks : Nat} {ls st : List Value} {w : AW} {Q : AQ} (h : wp Bk 115 [] (0, 0) (some .int) Q c115_17 kc ks ls st w) : Bk 115 17 kc ks ls st w Q := goS ⟨rfl, rfl⟩ h
theorem g115_18 {kc ks : Nat} {ls st : List Value} {w : AW} {Q : AQ} (h : wp Bk 115 [] (0, 0) (some .int) Q c115_18 kc ks ls st w) : Bk 115 18 kc ks ls st w Q := goS ⟨rfl, rfl⟩ h
theorem g116_0 {kc ks : Nat} {ls st : List Value} {w : AW} {Q : AQ} (h : wp Bk 116 [] (0, 0) (some .boolean) Q c116_0 kc ks ls st w) : Bk 116 0 kc ks ls st w Q := goS ⟨rfl, rfl⟩ h
theorem g116_7 {kc ks : Nat} {ls st : List Value} {w : AW} {Q : AQ} (h : wp Bk 116 [] (0, 0) (some .boolean) Q c116_7 kc ks ls st w) : Bk 116 7 kc ks ls st w Q := goS ⟨rfl, rfl⟩ h
theorem g116_29 {kc ks : Nat} {ls st : List Value} {w : AW} {Q : AQ} (h : wp Bk 116 [] (0, 0) (some .boolean) Q c116_29 kc ks ls st w) : Bk 116 29 kc ks ls st w Q := goS ⟨rfl, rfl⟩ h
theorem g116_31 {kc ks : Nat} {ls st : List Value} {w : AW} {Q : AQ} (h : wp Bk 116 [] (0, 0) (some .boolean) Q c116_31 kc ks ls st w) : Bk 116 31 kc ks ls st w Q := goS ⟨rfl, rfl⟩ h
theorem g117_0 {kc ks : Nat} {ls st : List Value} {w : AW} {Q : AQ} (h : wp Bk 117 [] (0, 0) (some .boolean) Q c117_0 kc ks ls st w) : Bk 117 0 kc ks ls st w Q := goS ⟨rfl, rfl⟩ h
theorem g118_0 {kc ks : Nat} {ls st : List Value} {w : AW} {Q : AQ} (h : wp Bk 118 [] (0, 0) (some .boolean) Q c118_0 kc ks ls st w) : Bk 118 0 kc ks ls st w Q := goS ⟨rfl, rfl⟩ h
theorem g119_0 {kc ks : Nat} {ls st : List Value} {w : AW} {Q : AQ} (h : wp Bk 119 [] (0, 0) (some .int) Q c119_0 kc ks ls st w) : Bk 119 0 kc ks ls st w Q := goS ⟨rfl, rfl⟩ h
theorem g120_0 {kc ks : Nat} {ls st : List Value} {w : AW} {Q : AQ} (h : wp Bk 120 [] (0, 0) (some .int) Q c120_0 kc ks ls st w) : Bk 120 0 kc ks ls st w Q := goS ⟨rfl, rfl⟩ h
theorem g121_0 {kc ks : Nat} {ls st : List Value} {w : AW} {Q : AQ} (h : wp Bk 121 [] (0, 0) (some .int) Q c121_0 kc ks ls st w) : Bk 121 0 kc ks ls st w Q := goS ⟨rfl, rfl⟩ h
theorem g121_7 {kc ks : Nat} {ls st : List Value} {w : AW} {Q : AQ} (h : wp Bk 121 [] (0, 0) (some .int) Q c121_7 kc ks ls st w) : Bk 121 7 kc ks ls st w Q := goS ⟨rfl, rfl⟩ h
theorem g121_20 {kc ks : Nat} {ls st : List Value} {w : AW} {Q : AQ} (h : wp Bk 121 [] (0, 0) (some .int) Q c121_20 kc ks ls st w) : Bk 121 20 kc ks ls st w Q := goS ⟨rfl, rfl⟩ h
theorem g122_0 {kc ks : Nat} {ls st : List Value} {w : AW} {Q : AQ} (h : wp Bk 122 [] (1, 6) (some .boolean) Q c122_0 kc ks ls st w) : Bk 122 0 kc ks ls st w Q := goS ⟨rfl, rfl⟩ h
theorem g123_0 {kc ks : Nat} {ls st : List Value} {w : AW} {Q : AQ} (h : wp Bk 123 [("java/lang/IndexOutOfBoundsException", 13, 4)] (1, 6) (some .int) Q c123_0 kc ks ls st w) : Bk 123 0 kc ks ls st w Q := goS ⟨rfl, rfl⟩ h
theorem g123_9 {kc ks : Nat} {ls st : List Value} {w : AW} {Q : AQ} (h : wp Bk 123 [("java/lang/IndexOutOfBoundsException", 13, 4)] (1, 6) (some .int) Q c123_9 kc ks ls st w) : Bk 123 9 kc ks ls st w Q := goS ⟨rfl, rfl⟩ h
theorem g123_10 {kc ks : Nat} {ls st : List Value} {w : AW} {Q : AQ} (h : wp Bk 123 [("java/lang/IndexOutOfBoundsException", 13, 4)] (1, 6) (some .int) Q c123_10 kc ks ls st w) : Bk 123 10 kc ks ls st w Q := goS ⟨rfl, rfl⟩ h
theorem g123_13 {kc ks : Nat} {ls st : List Value} {w : AW} {Q : AQ} (h : wp Bk 123 [("java/lang/IndexOutOfBoundsException", 13, 4)] (1, 6) (some .int) Q c123_13 kc ks ls st w) : Bk 123 13 kc ks ls st w Q := goS ⟨rfl, rfl⟩ h
theorem g123_15 {kc ks : Nat} {ls st : List Value} {w : AW} {Q : AQ} (h : wp Bk 123 [("java/lang/IndexOutOfBoundsException", 13, 4)] (1, 6) (some .int) Q c123_15 kc ks ls st w) : Bk 123 15 kc ks ls st w Q := goS ⟨rfl, rfl⟩ h
theorem g124_0 {kc ks : Nat} {ls st : List Value} {w : AW} {Q : AQ} (h : wp Bk 124 [] (0, 0) (some .int) Q c124_0 kc ks ls st w) : Bk 124 0 kc ks ls st w Q := goS ⟨rfl, rfl⟩ h
theorem g124_6 {kc ks : Nat} {ls st : List Value} {w : AW} {Q : AQ} (h : wp Bk 124 [] (0, 0) (some .int) Q c124_6 kc ks ls st w) : Bk 124 6 kc ks ls st w Q := goS ⟨rfl, rfl⟩ h
theorem g124_19 {kc ks : Nat} {ls st : List Value} {w : AW} {Q : AQ} (h : wp Bk 124 [] (0, 0) (some .int) Q c124_19 kc ks ls st w) : Bk 124 19 kc ks ls st w Q := goS ⟨rfl, rfl⟩ h
theorem g125_0 {kc ks : Nat} {ls st : List Value} {w : AW} {Q : AQ} (h : wp Bk 125 [] (0, 0) (some .boolean) Q c125_0 kc ks ls st w) : Bk 125 0 kc ks ls st w Q := goS ⟨rfl, rfl⟩ h
theorem g125_15 {kc ks : Nat} {ls st : List Value} {w : AW} {Q : AQ} (h : wp Bk 125 [] (0, 0) (some .boolean) Q c125_15 kc ks ls st w) : Bk 125 15 kc ks ls st w Q := goS ⟨rfl, rfl⟩ h
theorem g125_16 {kc ks : Nat} {ls st : List Value} {w : AW} {Q : AQ} (h : wp Bk 125 [] (0, 0) (some .boolean) Q c125_16 kc ks ls st w) : Bk 125 16 kc ks ls st w Q := goS ⟨rfl, rfl⟩ h
theorem g126_0 {kc ks : Nat} {ls st : List Value} {w : AW} {Q : AQ} (h : wp Bk 126 [] (0, 0) (some .int) Q c126_0 kc ks ls st w) : Bk 126 0 kc ks ls st w Q := goS ⟨rfl, rfl⟩ h
theorem g127_0 {kc ks : Nat} {ls st : List Value} {w : AW} {Q : AQ} (h : wp Bk 127 [] (0, 0) (some .int) Q c127_0 kc ks ls st w) : Bk 127 0 kc ks ls st w Q := goS ⟨rfl, rfl⟩ h
theorem g128_0 {kc ks : Nat} {ls st : List Value} {w : AW} {Q : AQ} (h : wp Bk 128 [] (0, 0) (some .boolean) Q c128_0 kc ks ls st w) : Bk 128 0 kc ks ls st w Q := goS ⟨rfl, rfl⟩ h
theorem g128_12 {kc ks : Nat} {ls st : List Value} {w : AW} {Q : AQ} (h : wp Bk 128 [] (0, 0) (some .boolean) Q c128_12 kc ks ls st w) : Bk 128 12 kc ks ls st w Q := goS ⟨rfl, rfl⟩ h
theorem g128_13 {kc ks : Nat} {ls st : List Value} {w : AW} {Q : AQ} (h : wp Bk 128 [] (0, 0) (some .boolean) Q c128_13 kc ks ls st w) : Bk 128 13 kc ks ls st w Q := goS ⟨rfl, rfl⟩ h
theorem g128_14 {kc ks : Nat} {ls st : List Value} {w : AW} {Q : AQ} (h : wp Bk 128 [] (0, 0) (some .boolean) Q c128_14 kc ks ls st w) : Bk 128 14 kc ks ls st w Q := goS ⟨rfl, rfl⟩ h
theorem g128_29 {kc ks : Nat} {ls st : List Value} {w : AW} {Q : AQ} (h : wp Bk 128 [] (0, 0) (some .boolean) Q c128_29 kc ks ls st w) : Bk 128 29 kc ks ls st w Q := goS ⟨rfl, rfl⟩ h
theorem g128_30 {kc ks : Nat} {ls st : List Value} {w : AW} {Q : AQ} (h : wp Bk 128 [] (0, 0) (some .boolean) Q c128_30 kc ks ls st w) : Bk 128 30 kc ks ls st w Q := goS ⟨rfl, rfl⟩ h
theorem g129_0 {kc ks : Nat} {ls st : List Value} {w : AW} {Q : AQ} (h : wp Bk 129 [] (0, 0) (some .int) Q c129_0 kc ks ls st w) : Bk 129 0 kc ks ls st w Q := goS ⟨rfl, rfl⟩ h
theorem g129_8 {kc ks : Nat} {ls st : List Value} {w : AW} {Q : AQ} (h : wp Bk 129 [] (0, 0) (some .int) Q c129_8 kc ks ls st w) : Bk 129 8 kc ks ls st w Q := goS ⟨rfl, rfl⟩ h
theorem g129_16 {kc ks : Nat} {ls st : List Value} {w : AW} {Q : AQ} (h : wp Bk 129 [] (0, 0) (some .int) Q c129_16 kc ks ls st w) : Bk 129 16 kc ks ls st w Q := goS ⟨rfl, rfl⟩ h
theorem g129_34 {kc ks : Nat} {ls st : List Value} {w : AW} {Q : AQ} (h : wp Bk 129 [] (0, 0) (some .int) Q c129_34 kc ks ls st w) : Bk 129 34 kc ks ls st w Q := goS ⟨rfl, rfl⟩ h
theorem g129_36 {kc ks : Nat} {ls st : List Value} {w : AW} {Q : AQ} (h : wp Bk 129 [] (0, 0) (some .int) Q c129_36 kc ks ls st w) : Bk 129 36 kc ks ls st w Q := goS ⟨rfl, rfl⟩ h
theorem g130_0 {kc ks : Nat} {ls st : List Value} {w : AW} {Q : AQ} (h : wp Bk 130 [] (1, 6) (some .int) Q c130_0 kc ks ls st w) : Bk 130 0 kc ks ls st w Q := goS ⟨rfl, rfl⟩ h
theorem g130_10 {kc ks : Nat} {ls st : List Value} {w : AW} {Q : AQ} (h : wp Bk 130 [] (1, 6) (some .int) Q c130_10 kc ks ls st w) : Bk 130 10 kc ks ls st w Q := goS ⟨rfl, rfl⟩ h
theorem g131_0 {kc ks : Nat} {ls st : List Value} {w : AW} {Q : AQ} (h : wp Bk 131 [] (1, 6) (some .int) Q c131_0 kc ks ls st w) : Bk 131 0 kc ks ls st w Q := goS ⟨rfl, rfl⟩ h
theorem g132_0 {kc ks : Nat} {ls st : List Value} {w : AW} {Q : AQ} (h : wp Bk 132 [("java/util/NoSuchElementException", 8, 2)] (1, 6) (some .int) Q c132_0 kc ks ls st w) : Bk 132 0 kc ks ls st w Q := goS ⟨rfl, rfl⟩ h
theorem g132_8 {kc ks : Nat} {ls st : List Value} {w : AW} {Q : AQ} (h : wp Bk 132 [("java/util/NoSuchElementException", 8, 2)] (1, 6) (some .int) Q c132_8 kc ks ls st w) : Bk 132 8 kc ks ls st w Q := goS ⟨rfl, rfl⟩ h
theorem g132_10 {kc ks : Nat} {ls st : List Value} {w : AW} {Q : AQ} (h : wp Bk 132 [("java/util/NoSuchElementException", 8, 2)] (1, 6) (some .int) Q c132_10 kc ks ls st w) : Bk 132 10 kc ks ls st w Q := goS ⟨rfl, rfl⟩ h
theorem g133_0 {kc ks : Nat} {ls st : List Value} {w : AW} {Q : AQ} (h : wp Bk 133 [] (0, 0) (some .boolean) Q c133_0 kc ks ls st w) : Bk 133 0 kc ks ls st w Q := goS ⟨rfl, rfl⟩ h
theorem g133_23 {kc ks : Nat} {ls st : List Value} {w : AW} {Q : AQ} (h : wp Bk 133 [] (0, 0) (some .boolean) Q c133_23 kc ks ls st w) : Bk 133 23 kc ks ls st w Q := goS ⟨rfl, rfl⟩ h
theorem g133_25 {kc ks : Nat} {ls st : List Value} {w : AW} {Q : AQ} (h : wp Bk 133 [] (0, 0) (some .boolean) Q c133_25 kc ks ls st w) : Bk 133 25 kc ks ls st w Q := goS ⟨rfl, rfl⟩ h
theorem g133_26 {kc ks : Nat} {ls st : List Value} {w : AW} {Q : AQ} (h : wp Bk 133 [] (0, 0) (some .boolean) Q c133_26 kc ks ls st w) : Bk 133 26 kc ks ls st w Q := goS ⟨rfl, rfl⟩ h
theorem g134_0 {kc ks : Nat} {ls st : List Value} {w : AW} {Q : AQ} (h : wp Bk 134 [] (0, 0) (some .int) Q c134_0 kc ks ls st w) : Bk 134 0 kc ks ls st w Q := goS ⟨rfl, rfl⟩ h
theorem g134_7 {kc ks : Nat} {ls st : List Value} {w : AW} {Q : AQ} (h : wp Bk 134 [] (0, 0) (some .int) Q c134_7 kc ks ls st w) : Bk 134 7 kc ks ls st w Q := goS ⟨rfl, rfl⟩ h
theorem g134_15 {kc ks : Nat} {ls st : List Value} {w : AW} {Q : AQ} (h : wp Bk 134 [] (0, 0) (some .int) Q c134_15 kc ks ls st w) : Bk 134 15 kc ks ls st w Q := goS ⟨rfl, rfl⟩ h
theorem g134_23 {kc ks : Nat} {ls st : List Value} {w : AW} {Q : AQ} (h : wp Bk 134 [] (0, 0) (some .int) Q c134_23 kc ks ls st w) : Bk 134 23 kc ks ls st w Q := goS ⟨rfl, rfl⟩ h
theorem g134_31 {kc ks : Nat} {ls st : List Value} {w : AW} {Q : AQ} (h : wp Bk 134 [] (0, 0) (some .int) Q c134_31 kc ks ls st w) : Bk 134 31 kc ks ls st w Q := goS ⟨rfl, rfl⟩ h
theorem g134_44 {kc ks : Nat} {ls st : List Value} {w : AW} {Q : AQ} (h : wp Bk 134 [] (0, 0) (some .int) Q c134_44 kc ks ls st w) : Bk 134 44 kc ks ls st w Q := goS ⟨rfl, rfl⟩ h
theorem g134_46 {kc ks : Nat} {ls st : List Value} {w : AW} {Q : AQ} (h : wp Bk 134 [] (0, 0) (some .int) Q c134_46 kc ks ls st w) : Bk 134 46 kc ks ls st w Q := goS ⟨rfl, rfl⟩ h
theorem g135_0 {kc ks : Nat} {ls st : List Value} {w : AW} {Q : AQ} (h : wp Bk 135 [] (0, 0) (some .int) Q c135_0 kc ks ls st w) : Bk 135 0 kc ks ls st w Q := goS ⟨rfl, rfl⟩ h
theorem g135_8 {kc ks : Nat} {ls st : List Value} {w : AW} {Q : AQ} (h : wp Bk 135 [] (0, 0) (some .int) Q c135_8 kc ks ls st w) : Bk 135 8 kc ks ls st w Q := goS ⟨rfl, rfl⟩ h
theorem g135_9 {kc ks : Nat} {ls st : List Value} {w : AW} {Q : AQ} (h : wp Bk 135 [] (0, 0) (some .int) Q c135_9 kc ks ls st w) : Bk 135 9 kc ks ls st w Q := goS ⟨rfl, rfl⟩ h
theorem g135_13 {kc ks : Nat} {ls st : List Value} {w : AW} {Q : AQ} (h : wp Bk 135 [] (0, 0) (some .int) Q c135_13 kc ks ls st w) : Bk 135 13 kc ks ls st w Q := goS ⟨rfl, rfl⟩ h
theorem g135_15 {kc ks : Nat} {ls st : List Value} {w : AW} {Q : AQ} (h : wp Bk 135 [] (0, 0) (some .int) Q c135_15 kc ks ls st w) : Bk 135 15 kc ks ls st w Q := goS ⟨rfl, rfl⟩ h
theorem g136_0 {kc ks : Nat} {ls st : List Value} {w : AW} {Q : AQ} (h : wp Bk 136 [] (2, 12) (some .boolean) Q c136_0 kc ks ls st w) : Bk 136 0 kc ks ls st w Q := goS ⟨rfl, rfl⟩ h
theorem g137_0 {kc ks : Nat} {ls st : List Value} {w : AW} {Q : AQ} (h : wp Bk 137 [("java/lang/IndexOutOfBoundsException", 13, 4), ("java/util/NoSuchElementException", 16, 4)] (2, 12) (some .int) Q c137_0 kc ks ls st w) : Bk 137 0 kc ks ls st w Q := goS ⟨rfl, rfl⟩ h
theorem g137_9 {kc ks : Nat} {ls st : List Value} {w : AW} {Q : AQ} (h : wp Bk 137 [("java/lang/IndexOutOfBoundsException", 13, 4), ("java/util/NoSuchElementException", 16, 4)] (2, 12) (some .int) Q c137_9 kc ks ls st w) : Bk 137 9 kc ks ls st w Q := goS ⟨rfl, rfl⟩ h
theorem g137_10 {kc ks : Nat} {ls st : List Value} {w : AW} {Q : AQ} (h : wp Bk 137 [("java/lang/IndexOutOfBoundsException", 13, 4), ("java/util/NoSuchElementException", 16, 4)] (2, 12) (some .int) Q c137_10 kc ks ls st w) : Bk 137 10 kc ks ls st w Q := goS ⟨rfl, rfl⟩ h
theorem g137_13 {kc ks : Nat} {ls st : List Value} {w : AW} {Q : AQ} (h : wp Bk 137 [("java/lang/IndexOutOfBoundsException", 13, 4), ("java/util/NoSuchElementException", 16, 4)] (2, 12) (some .int) Q c137_13 kc ks ls st w) : Bk 137 13 kc ks ls st w Q := goS ⟨rfl, rfl⟩ h
theorem g137_16 {kc ks : Nat} {ls st : List Value} {w : AW} {Q : AQ} (h : wp Bk 137 [("java/lang/IndexOutOfBoundsException", 13, 4), ("java/util/NoSuchElementException", 16, 4)] (2, 12) (some .int) Q c137_16 kc ks ls st w) : Bk 137 16 kc ks ls st w Q := goS ⟨rfl, rfl⟩ h
theorem g137_18 {kc ks : Nat} {ls st : List Value} {w : AW} {Q : AQ} (h : wp Bk 137 [("java/lang/IndexOutOfBoundsException", 13, 4), ("java/util/NoSuchElementException", 16, 4)] (2, 12) (some .int) Q c137_18 kc ks ls st w) : Bk 137 18 kc ks ls st w Q := goS ⟨rfl, rfl⟩ h
theorem g138_0 {kc ks : Nat} {ls st : List Value} {w : AW} {Q : AQ} (h : wp Bk 138 [] (0, 0) (some .boolean) Q c138_0 kc ks ls st w) : Bk 138 0 kc ks ls st w Q := goS ⟨rfl, rfl⟩ h
theorem g138_7 {kc ks : Nat} {ls st : List Value} {w : AW} {Q : AQ} (h : wp Bk 138 [] (0, 0) (some .boolean) Q c138_7 kc ks ls st w) : Bk 138 7 kc ks ls st w Q := goS ⟨rfl, rfl⟩ h
theorem g138_15 {kc ks : Nat} {ls st : List Value} {w : AW} {Q : AQ} (h : wp Bk 138 [] (0, 0) (some .boolean) Q c138_15 kc ks ls st w) : Bk 138 15 kc ks ls st w Q := goS ⟨rfl, rfl⟩ h
theorem g138_16 {kc ks : Nat} {ls st : List Value} {w : AW} {Q : AQ} (h : wp Bk 138 [] (0, 0) (some .boolean) Q c138_16 kc ks ls st w) : Bk 138 16 kc ks ls st w Q := goS ⟨rfl, rfl⟩ h
theorem g138_27 {kc ks : Nat} {ls st : List Value} {w : AW} {Q : AQ} (h : wp Bk 138 [] (0, 0) (some .boolean) Q c138_27 kc ks ls st w) : Bk 138 27 kc ks ls st w Q := goS ⟨rfl, rfl⟩ h
theorem g138_28 {kc ks : Nat} {ls st : List Value} {w : AW} {Q : AQ} (h : wp Bk 138 [] (0, 0) (some .boolean) Q c138_28 kc ks ls st w) : Bk 138 28 kc ks ls st w Q := goS ⟨rfl, rfl⟩ h
theorem g139_0 {kc ks : Nat} {ls st : List Value} {w : AW} {Q : AQ} (h : wp Bk 139 [] (0, 0) (some .int) Q c139_0 kc ks ls st w) : Bk 139 0 kc ks ls st w Q := goS ⟨rfl, rfl⟩ h
theorem g139_2 {kc ks : Nat} {ls st : List Value} {w : AW} {Q : AQ} (h : wp Bk 139 [] (0, 0) (some .int) Q c139_2 kc ks ls st w) : Bk 139 2 kc ks ls st w Q := goS ⟨rfl, rfl⟩ h
theorem g139_12 {kc ks : Nat} {ls st : List Value} {w : AW} {Q : AQ} (h : wp Bk 139 [] (0, 0) (some .int) Q c139_12 kc ks ls st w) : Bk 139 12 kc ks ls st w Q := goS ⟨rfl, rfl⟩ h
theorem g139_14 {kc ks : Nat} {ls st : List Value} {w : AW} {Q : AQ} (h : wp Bk 139 [] (0, 0) (some .int) Q c139_14 kc ks ls st w) : Bk 139 14 kc ks ls st w Q := goS ⟨rfl, rfl⟩ h
theorem g140_0 {kc ks : Nat} {ls st : List Value} {w : AW} {Q : AQ} (h : wp Bk 140 [] (1, 6) (some .int) Q c140_0 kc ks ls st w) : Bk 140 0 kc ks ls st w Q := goS ⟨rfl, rfl⟩ h
theorem g141_0 {kc ks : Nat} {ls st : List Value} {w : AW} {Q : AQ} (h : wp Bk 141 [("java/util/NoSuchElementException", 8, 2)] (1, 6) (some .int) Q c141_0 kc ks ls st w) : Bk 141 0 kc ks ls st w Q := goS ⟨rfl, rfl⟩ h
theorem g141_8 {kc ks : Nat} {ls st : List Value} {w : AW} {Q : AQ} (h : wp Bk 141 [("java/util/NoSuchElementException", 8, 2)] (1, 6) (some .int) Q c141_8 kc ks ls st w) : Bk 141 8 kc ks ls st w Q := goS ⟨rfl, rfl⟩ h
theorem g141_10 {kc ks : Nat} {ls st : List Value} {w : AW} {Q : AQ} (h : wp Bk 141 [("java/util/NoSuchElementException", 8, 2)] (1, 6) (some .int) Q c141_10 kc ks ls st w) : Bk 141 10 kc ks ls st w Q := goS ⟨rfl, rfl⟩ h
theorem g142_0 {kc ks : Nat} {ls st : List Value} {w : AW} {Q : AQ} (h : wp Bk 142 [] (0, 0) (some .int) Q c142_0 kc ks ls st w) : Bk 142 0 kc ks ls st w Q := goS ⟨rfl, rfl⟩ h
theorem g142_8 {kc ks : Nat} {ls st : List Value} {w : AW} {Q : AQ} (h : wp Bk 142 [] (0, 0) (some .int) Q c142_8 kc ks ls st w) : Bk 142 8 kc ks ls st w Q := goS ⟨rfl, rfl⟩ h
theorem g142_9 {kc ks : Nat} {ls st : List Value} {w : AW} {Q : AQ} (h : wp Bk 142 [] (0, 0) (some .int) Q c142_9 kc ks ls st w) : Bk 142 9 kc ks ls st w Q := goS ⟨rfl, rfl⟩ h
theorem g142_13 {kc ks : Nat} {ls st : List Value} {w : AW} {Q : AQ} (h : wp Bk 142 [] (0, 0) (some .int) Q c142_13 kc ks ls st w) : Bk 142 13 kc ks ls st w Q := goS ⟨rfl, rfl⟩ h
theorem g142_19 {kc ks : Nat} {ls st : List Value} {w : AW} {Q : AQ} (h : wp Bk 142 [] (0, 0) (some .int) Q c142_19 kc ks ls st w) : Bk 142 19 kc ks ls st w Q := goS ⟨rfl, rfl⟩ h
theorem g142_30 {kc ks : Nat} {ls st : List Value} {w : AW} {Q : AQ} (h : wp Bk 142 [] (0, 0) (some .int) Q c142_30 kc ks ls st w) : Bk 142 30 kc ks ls st w Q := goS ⟨rfl, rfl⟩ h
theorem g142_32 {kc ks : Nat} {ls st : List Value} {w : AW} {Q : AQ} (h : wp Bk 142 [] (0, 0) (some .int) Q c142_32 kc ks ls st w) : Bk 142 32 kc ks ls st w Q := goS ⟨rfl, rfl⟩ h
theorem g143_0 {kc ks : Nat} {ls st : List Value} {w : AW} {Q : AQ} (h : wp Bk 143 [] (0, 0) (some .int) Q c143_0 kc ks ls st w) : Bk 143 0 kc ks ls st w Q := goS ⟨rfl, rfl⟩ h
theorem g143_4 {kc ks : Nat} {ls st : List Value} {w : AW} {Q : AQ} (h : wp Bk 143 [] (0, 0) (some .int) Q c143_4 kc ks ls st w) : Bk 143 4 kc ks ls st w Q := goS ⟨rfl, rfl⟩ h
theorem g143_10 {kc ks : Nat} {ls st : List Value} {w : AW} {Q : AQ} (h : wp Bk 143 [] (0, 0) (some .int) Q c143_10 kc ks ls st w) : Bk 143 10 kc ks ls st w Q := goS ⟨rfl, rfl⟩ h
theorem g143_29 {kc ks : Nat} {ls st : List Value} {w : AW} {Q : AQ} (h : wp Bk 143 [] (0, 0) (some .int) Q c143_29 kc ks ls st w) : Bk 143 29 kc ks ls st w Q := goS ⟨rfl, rfl⟩ h
theorem g143_31 {kc ks : Nat} {ls st : List Value} {w : AW} {Q : AQ} (h : wp Bk 143 [] (0, 0) (some .int) Q c143_31 kc ks ls st w) : Bk 143 31 kc ks ls st w Q := goS ⟨rfl, rfl⟩ h
theorem g143_33 {kc ks : Nat} {ls st : List Value} {w : AW} {Q : AQ} (h : wp Bk 143 [] (0, 0) (some .int) Q c143_33 kc ks ls st w) : Bk 143 33 kc ks ls st w Q := goS ⟨rfl, rfl⟩ h
theorem g144_0 {kc ks : Nat} {ls st : List Value} {w : AW} {Q : AQ} (h : wp Bk 144 [] (1, 6) (some .int) Q c144_0 kc ks ls st w) : Bk 144 0 kc ks ls st w Q := goS ⟨rfl, rfl⟩ h
theorem g144_6 {kc ks : Nat} {ls st : List Value} {w : AW} {Q : AQ} (h : wp Bk 144 [] (1, 6) (some .int) Q c144_6 kc ks ls st w) : Bk 144 6 kc ks ls st w Q := goS ⟨rfl, rfl⟩ h
theorem g145_0 {kc ks : Nat} {ls st : List Value} {w : AW} {Q : AQ} (h : wp Bk 145 [("java/lang/UnsupportedOperationException", 8, 2)] (1, 6) (some .int) Q c145_0 kc ks ls st w) : Bk 145 0 kc ks ls st w Q := goS ⟨rfl, rfl⟩ h
theorem g145_8 {kc ks : Nat} {ls st : List Value} {w : AW} {Q : AQ} (h : wp Bk 145 [("java/lang/UnsupportedOperationException", 8, 2)] (1, 6) (some .int) Q c145_8 kc ks ls st w) : Bk 145 8 kc ks ls st w Q := goS ⟨rfl, rfl⟩ h
theorem g145_10 {kc ks : Nat} {ls st : List Value} {w : AW} {Q : AQ} (h : wp Bk 145 [("java/lang/UnsupportedOperationException", 8, 2)] (1, 6) (some .int) Q c145_10 kc ks ls st w) : Bk 145 10 kc ks ls st w Q := goS ⟨rfl, rfl⟩ h
theorem g146_0 {kc ks : Nat} {ls st : List Value} {w : AW} {Q : AQ} (h : wp Bk 146 [] (0, 0) (some .int) Q c146_0 kc ks ls st w) : Bk 146 0 kc ks ls st w Q := goS ⟨rfl, rfl⟩ h
theorem g146_9 {kc ks : Nat} {ls st : List Value} {w : AW} {Q : AQ} (h : wp Bk 146 [] (0, 0) (some .int) Q c146_9 kc ks ls st w) : Bk 146 9 kc ks ls st w Q := goS ⟨rfl, rfl⟩ h
theorem g146_10 {kc ks : Nat} {ls st : List Value} {w : AW} {Q : AQ} (h : wp Bk 146 [] (0, 0) (some .int) Q c146_10 kc ks ls st w) : Bk 146 10 kc ks ls st w Q := goS ⟨rfl, rfl⟩ h
theorem g146_14 {kc ks : Nat} {ls st : List Value} {w : AW} {Q : AQ} (h : wp Bk 146 [] (0, 0) (some .int) Q c146_14 kc ks ls st w) : Bk 146 14 kc ks ls st w Q := goS ⟨rfl, rfl⟩ h
theorem g146_25 {kc ks : Nat} {ls st : List Value} {w : AW} {Q : AQ} (h : wp Bk 146 [] (0, 0) (some .int) Q c146_25 kc ks ls st w) : Bk 146 25 kc ks ls st w Q := goS ⟨rfl, rfl⟩ h
theorem g146_47 {kc ks : Nat} {ls st : List Value} {w : AW} {Q : AQ} (h : wp Bk 146 [] (0, 0) (some .int) Q c146_47 kc ks ls st w) : Bk 146 47 kc ks ls st w Q := goS ⟨rfl, rfl⟩ h
theorem g146_51 {kc ks : Nat} {ls st : List Value} {w : AW} {Q : AQ} (h : wp Bk 146 [] (0, 0) (some .int) Q c146_51 kc ks ls st w) : Bk 146 51 kc ks ls st w Q := goS ⟨rfl, rfl⟩ h
theorem g146_53 {kc ks : Nat} {ls st : List Value} {w : AW} {Q : AQ} (h : wp Bk 146 [] (0, 0) (some .int) Q c146_53 kc ks ls st w) : Bk 146 53 kc ks ls st w Q := goS ⟨rfl, rfl⟩ h
theorem g147_0 {kc ks : Nat} {ls st : List Value} {w : AW} {Q : AQ} (h : wp Bk 147 [] (0, 0) (some .int) Q c147_0 kc ks ls st w) : Bk 147 0 kc ks ls st w Q := goS ⟨rfl, rfl⟩ h
theorem g147_2 {kc ks : Nat} {ls st : List Value} {w : AW} {Q : AQ} (h : wp Bk 147 [] (0, 0) (some .int) Q c147_2 kc ks ls st w) : Bk 147 2 kc ks ls st w Q := goS ⟨rfl, rfl⟩ h
theorem g147_14 {kc ks : Nat} {ls st : List Value} {w : AW} {Q : AQ} (h : wp Bk 147 [] (0, 0) (some .int) Q c147_14 kc ks ls st w) : Bk 147 14 kc ks ls st w Q := goS ⟨rfl, rfl⟩ h
theorem g147_16 {kc ks : Nat} {ls st : List Value} {w : AW} {Q : AQ} (h : wp Bk 147 [] (0, 0) (some .int) Q c147_16 kc ks ls st w) : Bk 147 16 kc ks ls st w Q := goS ⟨rfl, rfl⟩ h
theorem g148_0 {kc ks : Nat} {ls st : List Value} {w : AW} {Q : AQ} (h : wp Bk 148 [] (0, 0) (some .boolean) Q c148_0 kc ks ls st w) : Bk 148 0 kc ks ls st w Q := goS ⟨rfl, rfl⟩ h
theorem g148_11 {kc ks : Nat} {ls st : List Value} {w : AW} {Q : AQ} (h : wp Bk 148 [] (0, 0) (some .boolean) Q c148_11 kc ks ls st w) : Bk 148 11 kc ks ls st w Q := goS ⟨rfl, rfl⟩ h
theorem g148_12 {kc ks : Nat} {ls st : List Value} {w : AW} {Q : AQ} (h : wp Bk 148 [] (0, 0) (some .boolean) Q c148_12 kc ks ls st w) : Bk 148 12 kc ks ls st w Q := goS ⟨rfl, rfl⟩ h
theorem g149_0 {kc ks : Nat} {ls st : List Value} {w : AW} {Q : AQ} (h : wp Bk 149 [] (0, 0) (none) Q c149_0 kc ks ls st w) : Bk 149 0 kc ks ls st w Q := goS ⟨rfl, rfl⟩ h
theorem g149_22 {kc ks : Nat} {ls st : List Value} {w : AW} {Q : AQ} (h : wp Bk 149 [] (0, 0) (none) Q c149_22 kc ks ls st w) : Bk 149 22 kc ks ls st w Q := goS ⟨rfl, rfl⟩ h
theorem g150_0 {kc ks : Nat} {ls st : List Value} {w : AW} {Q : AQ} (h : wp Bk 150 [] (2, 12) (some .int) Q c150_0 kc ks ls st w) : Bk 150 0 kc ks ls st w Q := goS ⟨rfl, rfl⟩ h
theorem g150_9 {kc ks : Nat} {ls st : List Value} {w : AW} {Q : AQ} (h : wp Bk 150 [] (2, 12) (some .int) Q c150_9 kc ks ls st w) : Bk 150 9 kc ks ls st w Q := goS ⟨rfl, rfl⟩ h
theorem g150_20 {kc ks : Nat} {ls st : List Value} {w : AW} {Q : AQ} (h : wp Bk 150 [] (2, 12) (some .int) Q c150_20 kc ks ls st w) : Bk 150 20 kc ks ls st w Q := goS ⟨rfl, rfl⟩ h
theorem g151_0 {kc ks : Nat} {ls st : List Value} {w : AW} {Q : AQ} (h : wp Bk 151 [("java/lang/IndexOutOfBoundsException", 11, 5), ("java/lang/IllegalArgumentException", 14, 5), ("java/lang/IllegalStateException", 17, 5)] (2, 12) (some .int) Q c151_0 kc ks ls st w) : Bk 151 0 kc ks ls st w Q := goS ⟨rfl, rfl⟩ h
theorem g151_11 {kc ks : Nat} {ls st : List Value} {w : AW} {Q : AQ} (h : wp Bk 151 [("java/lang/IndexOutOfBoundsException", 11, 5), ("java/lang/IllegalArgumentException", 14, 5), ("java/lang/IllegalStateException", 17, 5)] (2, 12) (some .int) Q c151_11 kc ks ls st w) : Bk 151 11 kc ks ls st w Q := goS ⟨rfl, rfl⟩ h
theorem g151_14 {kc ks : Nat} {ls st : List Value} {w : AW} {Q : AQ} (h : wp Bk 151 [("java/lang/IndexOutOfBoundsException", 11, 5), ("java/lang/IllegalArgumentException", 14, 5), ("java/lang/IllegalStateException", 17, 5)] (2, 12) (some .int) Q c151_14 kc ks ls st w) : Bk 151 14 kc ks ls st w Q := goS ⟨rfl, rfl⟩ h
theorem g151_17 {kc ks : Nat} {ls st : List Value} {w : AW} {Q : AQ} (h : wp Bk 151 [("java/lang/IndexOutOfBoundsException", 11, 5), ("java/lang/IllegalArgumentException", 14, 5), ("java/lang/IllegalStateException", 17, 5)] (2, 12) (some .int) Q c151_17 kc ks ls st w) : Bk 151 17 kc ks ls st w Q := goS ⟨rfl, rfl⟩ h
theorem g151_19 {kc ks : Nat} {ls st : List Value} {w : AW} {Q : AQ} (h : wp Bk 151 [("java/lang/IndexOutOfBoundsException", 11, 5), ("java/lang/IllegalArgumentException", 14, 5), ("java/lang/IllegalStateException", 17, 5)] (2, 12) (some .int) Q c151_19 kc ks ls st w) : Bk 151 19 kc ks ls st w Q := goS ⟨rfl, rfl⟩ h
theorem g152_0 {kc ks : Nat} {ls st : List Value} {w : AW} {Q : AQ} (h : wp Bk 152 [] (0, 0) (some .int) Q c152_0 kc ks ls st w) : Bk 152 0 kc ks ls st w Q := goS ⟨rfl, rfl⟩ h
theorem g152_5 {kc ks : Nat} {ls st : List Value} {w : AW} {Q : AQ} (h : wp Bk 152 [] (0, 0) (some .int) Q c152_5 kc ks ls st w) : Bk 152 5 kc ks ls st w Q := goS ⟨rfl, rfl⟩ h
theorem g152_10 {kc ks : Nat} {ls st : List Value} {w : AW} {Q : AQ} (h : wp Bk 152 [] (0, 0) (some .int) Q c152_10 kc ks ls st w) : Bk 152 10 kc ks ls st w Q := goS ⟨rfl, rfl⟩ h
theorem g152_15 {kc ks : Nat} {ls st : List Value} {w : AW} {Q : AQ} (h : wp Bk 152 [] (0, 0) (some .int) Q c152_15 kc ks ls st w) : Bk 152 15 kc ks ls st w Q := goS ⟨rfl, rfl⟩ h
theorem g152_20 {kc ks : Nat} {ls st : List Value} {w : AW} {Q : AQ} (h : wp Bk 152 [] (0, 0) (some .int) Q c152_20 kc ks ls st w) : Bk 152 20 kc ks ls st w Q := goS ⟨rfl, rfl⟩ h
theorem g152_21 {kc ks : Nat} {ls st : List Value} {w : AW} {Q : AQ} (h : wp Bk 152 [] (0, 0) (some .int) Q c152_21 kc ks ls st w) : Bk 152 21 kc ks ls st w Q := goS ⟨rfl, rfl⟩ h
theorem g153_0 {kc ks : Nat} {ls st : List Value} {w : AW} {Q : AQ} (h : wp Bk 153 [] (0, 0) (some .int) Q c153_0 kc ks ls st w) : Bk 153 0 kc ks ls st w Q := goS ⟨rfl, rfl⟩ h
theorem g153_2 {kc ks : Nat} {ls st : List Value} {w : AW} {Q : AQ} (h : wp Bk 153 [] (0, 0) (some .int) Q c153_2 kc ks ls st w) : Bk 153 2 kc ks ls st w Q := goS ⟨rfl, rfl⟩ h
theorem g153_20 {kc ks : Nat} {ls st : List Value} {w : AW} {Q : AQ} (h : wp Bk 153 [] (0, 0) (some .int) Q c153_20 kc ks ls st w) : Bk 153 20 kc ks ls st w Q := goS ⟨rfl, rfl⟩ h
theorem g153_22 {kc ks : Nat} {ls st : List Value} {w : AW} {Q : AQ} (h : wp Bk 153 [] (0, 0) (some .int) Q c153_22 kc ks ls st w) : Bk 153 22 kc ks ls st w Q := goS ⟨rfl, rfl⟩ h
theorem g154_0 {kc ks : Nat} {ls st : List Value} {w : AW} {Q : AQ} (h : wp Bk 154 [] (0, 0) (some .int) Q c154_0 kc ks ls st w) : Bk 154 0 kc ks ls st w Q := goS ⟨k154_0, rfl⟩ h
theorem g154_8 {kc ks : Nat} {ls st : List Value} {w : AW} {Q : AQ} (h : wp Bk 154 [] (0, 0) (some .int) Q c154_8 kc ks ls st w) : Bk 154 8 kc ks ls st w Q := goS ⟨k154_8, rfl⟩ h
theorem g154_13 {kc ks : Nat} {ls st : List Value} {w : AW} {Q : AQ} (h : wp Bk 154 [] (0, 0) (some .int) Q c154_13 kc ks ls st w) : Bk 154 13 kc ks ls st w Q := goS ⟨k154_13, rfl⟩ h
theorem g154_26 {kc ks : Nat} {ls st : List Value} {w : AW} {Q : AQ} (h : wp Bk 154 [] (0, 0) (some .int) Q c154_26 kc ks ls st w) : Bk 154 26 kc ks ls st w Q := goS ⟨k154_26, rfl⟩ h
theorem g154_28 {kc ks : Nat} {ls st : List Value} {w : AW} {Q : AQ} (h : wp Bk 154 [] (0, 0) (some .int) Q c154_28 kc ks ls st w) : Bk 154 28 kc ks ls st w Q := goS ⟨k154_28, rfl⟩ h
theorem g154_29 {kc ks : Nat} {ls st : List Value} {w : AW} {Q : AQ} (h : wp Bk 154 [] (0, 0) (some .int) Q c154_29 kc ks ls st w) : Bk 154 29 kc ks ls st w Q := goS ⟨k154_29, rfl⟩ h
theorem g154_33 {kc ks : Nat} {ls st : List Value} {w : AW} {Q : AQ} (h : wp Bk 154 [] (0, 0) (some .int) Q c154_33 kc ks ls st w) : Bk 154 33 kc ks ls st w Q := goS ⟨k154_33, rfl⟩ h
theorem g155_0 {kc ks : Nat} {ls st : List Value} {w : AW} {Q : AQ} (h : wp Bk 155 [] (1, 6) (none) Q c155_0 kc ks ls st w) : Bk 155 0 kc ks ls st w Q := goS ⟨rfl, rfl⟩ h
theorem g155_8 {kc ks : Nat} {ls st : List Value} {w : AW} {Q : AQ} (h : wp Bk 155 [] (1, 6) (none) Q c155_8 kc ks ls st w) : Bk 155 8 kc ks ls st w Q := goS ⟨rfl, rfl⟩ h
theorem g155_9 {kc ks : Nat} {ls st : List Value} {w : AW} {Q : AQ} (h : wp Bk 155 [] (1, 6) (none) Q c155_9 kc ks ls st w) : Bk 155 9 kc ks ls st w Q := goS ⟨rfl, rfl⟩ h
theorem g156_0 {kc ks : Nat} {ls st : List Value} {w : AW} {Q : AQ} (h : wp Bk 156 [] (0, 0) (none) Q c156_0 kc ks ls st w) : Bk 156 0 kc ks ls st w Q := goS ⟨rfl, rfl⟩ h
theorem g156_4 {kc ks : Nat} {ls st : List Value} {w : AW} {Q : AQ} (h : wp Bk 156 [] (0, 0) (none) Q c156_4 kc ks ls st w) : Bk 156 4 kc ks ls st w Q := goS ⟨rfl, rfl⟩ h
theorem g156_30 {kc ks : Nat} {ls st : List Value} {w : AW} {Q : AQ} (h : wp Bk 156 [] (0, 0) (none) Q c156_30 kc ks ls st w) : Bk 156 30 kc ks ls st w Q := goS ⟨rfl, rfl⟩ h
theorem g157_0 {kc ks : Nat} {ls st : List Value} {w : AW} {Q : AQ} (h : wp Bk 157 [] (1, 6) (some .int) Q c157_0 kc ks ls st w) : Bk 157 0 kc ks ls st w Q := goS ⟨rfl, rfl⟩ h
theorem g158_0 {kc ks : Nat} {ls st : List Value} {w : AW} {Q : AQ} (h : wp Bk 158 [("java/lang/IndexOutOfBoundsException", 9, 3)] (1, 6) (some .int) Q c158_0 kc ks ls st w) : Bk 158 0 kc ks ls st w Q := goS ⟨rfl, rfl⟩ h
theorem g158_9 {kc ks : Nat} {ls st : List Value} {w : AW} {Q : AQ} (h : wp Bk 158 [("java/lang/IndexOutOfBoundsException", 9, 3)] (1, 6) (some .int) Q c158_9 kc ks ls st w) : Bk 158 9 kc ks ls st w Q := goS ⟨rfl, rfl⟩ h
theorem g158_11 {kc ks : Nat} {ls st : List Value} {w : AW} {Q : AQ} (h : wp Bk 158 [("java/lang/IndexOutOfBoundsException", 9, 3)] (1, 6) (some .int) Q c158_11 kc ks ls st w) : Bk 158 11 kc ks ls st w Q := goS ⟨rfl, rfl⟩ h
theorem g159_0 {kc ks : Nat} {ls st : List Value} {w : AW} {Q : AQ} (h : wp Bk 159 [] (0, 0) (some .boolean) Q c159_0 kc ks ls st w) : Bk 159 0 kc ks ls st w Q := goS ⟨rfl, rfl⟩ h
theorem g160_0 {kc ks : Nat} {ls st : List Value} {w : AW} {Q : AQ} (h : wp Bk 160 [] (0, 0) (some .boolean) Q c160_0 kc ks ls st w) : Bk 160 0 kc ks ls st w Q := goS ⟨rfl, rfl⟩ h
theorem g160_7 {kc ks : Nat} {ls st : List Value} {w : AW} {Q : AQ} (h : wp Bk 160 [] (0, 0) (some .boolean) Q c160_7 kc ks ls st w) : Bk 160 7 kc ks ls st w Q := goS ⟨rfl, rfl⟩ h
theorem g160_8 {kc ks : Nat} {ls st : List Value} {w : AW} {Q : AQ} (h : wp Bk 160 [] (0, 0) (some .boolean) Q c160_8 kc ks ls st w) : Bk 160 8 kc ks ls st w Q := goS ⟨rfl, rfl⟩ h
theorem g161_0 {kc ks : Nat} {ls st : List Value} {w : AW} {Q : AQ} (h : wp Bk 161 [] (0, 0) (some .int) Q c161_0 kc ks ls st w) : Bk 161 0 kc ks ls st w Q := goS ⟨k161_0, rfl⟩ h
theorem g161_6 {kc ks : Nat} {ls st : List Value} {w : AW} {Q : AQ} (h : wp Bk 161 [] (0, 0) (some .int) Q c161_6 kc ks ls st w) : Bk 161 6 kc ks ls st w Q := goS ⟨k161_6, rfl⟩ h
theorem g161_24 {kc ks : Nat} {ls st : List Value} {w : AW} {Q : AQ} (h : wp Bk 161 [] (0, 0) (some .int) Q c161_24 kc ks ls st w) : Bk 161 24 kc ks ls st w Q := goS ⟨k161_24, rfl⟩ h
theorem g161_46 {kc ks : Nat} {ls st : List Value} {w : AW} {Q : AQ} (h : wp Bk 161 [] (0, 0) (some .int) Q c161_46 kc ks ls st w) : Bk 161 46 kc ks ls st w Q := goS ⟨k161_46, rfl⟩ h
theorem g162_0 {kc ks : Nat} {ls st : List Value} {w : AW} {Q : AQ} (h : wp Bk 162 [] (0, 0) (some .int) Q c162_0 kc ks ls st w) : Bk 162 0 kc ks ls st w Q := goS ⟨rfl, rfl⟩ h
theorem g162_5 {kc ks : Nat} {ls st : List Value} {w : AW} {Q : AQ} (h : wp Bk 162 [] (0, 0) (some .int) Q c162_5 kc ks ls st w) : Bk 162 5 kc ks ls st w Q := goS ⟨rfl, rfl⟩ h
theorem g162_10 {kc ks : Nat} {ls st : List Value} {w : AW} {Q : AQ} (h : wp Bk 162 [] (0, 0) (some .int) Q c162_10 kc ks ls st w) : Bk 162 10 kc ks ls st w Q := goS ⟨rfl, rfl⟩ h
theorem g163_0 {kc ks : Nat} {ls st : List Value} {w : AW} {Q : AQ} (h : wp Bk 163 [] (0, 0) (none) Q c163_0 kc ks ls st w) : Bk 163 0 kc ks ls st w Q := goS ⟨rfl, rfl⟩ h
theorem g164_0 {kc ks : Nat} {ls st : List Value} {w : AW} {Q : AQ} (h : wp Bk 164 [] (0, 0) (some .char) Q c164_0 kc ks ls st w) : Bk 164 0 kc ks ls st w Q := goS ⟨rfl, rfl⟩ h
theorem g165_0 {kc ks : Nat} {ls st : List Value} {w : AW} {Q : AQ} (h : wp Bk 165 [] (0, 0) (some .char) Q c165_0 kc ks ls st w) : Bk 165 0 kc ks ls st w Q := goS ⟨rfl, rfl⟩ h
theorem g165_8 {kc ks : Nat} {ls st : List Value} {w : AW} {Q : AQ} (h : wp Bk 165 [] (0, 0) (some .char) Q c165_8 kc ks ls st w) : Bk 165 8 kc ks ls st w Q := goS ⟨rfl, rfl⟩ h
theorem g166_0 {kc ks : Nat} {ls st : List Value} {w : AW} {Q : AQ} (h : wp Bk 166 [] (0, 0) (some .int) Q c166_0 kc ks ls st w) : Bk 166 0 kc ks ls st w Q := goS ⟨rfl, rfl⟩ h
theorem g166_7 {kc ks : Nat} {ls st : List Value} {w : AW} {Q : AQ} (h : wp Bk 166 [] (0, 0) (some .int) Q c166_7 kc ks ls st w) : Bk 166 7 kc ks ls st w Q := goS ⟨rfl, rfl⟩ h
theorem g166_9 {kc ks : Nat} {ls st : List Value} {w : AW} {Q : AQ} (h : wp Bk 166 [] (0, 0) (some .int) Q c166_9 kc ks ls st w) : Bk 166 9 kc ks ls st w Q := goS ⟨rfl, rfl⟩ h
theorem g166_11 {kc ks : Nat} {ls st : List Value} {w : AW} {Q : AQ} (h : wp Bk 166 [] (0, 0) (some .int) Q c166_11 kc ks ls st w) : Bk 166 11 kc ks ls st w Q := goS ⟨rfl, rfl⟩ h
theorem g166_13 {kc ks : Nat} {ls st : List Value} {w : AW} {Q : AQ} (h : wp Bk 166 [] (0, 0) (some .int) Q c166_13 kc ks ls st w) : Bk 166 13 kc ks ls st w Q := goS ⟨rfl, rfl⟩ h
theorem g167_0 {kc ks : Nat} {ls st : List Value} {w : AW} {Q : AQ} (h : wp Bk 167 [] (0, 0) (none) Q c167_0 kc ks ls st w) : Bk 167 0 kc ks ls st w Q := goS ⟨rfl, rfl⟩ h
theorem g168_0 {kc ks : Nat} {ls st : List Value} {w : AW} {Q : AQ} (h : wp Bk 168 [] (0, 0) (some .int) Q c168_0 kc ks ls st w) : Bk 168 0 kc ks ls st w Q := goS ⟨rfl, rfl⟩ h
theorem g168_4 {kc ks : Nat} {ls st : List Value} {w : AW} {Q : AQ} (h : wp Bk 168 [] (0, 0) (some .int) Q c168_4 kc ks ls st w) : Bk 168 4 kc ks ls st w Q := goS ⟨rfl, rfl⟩ h
theorem g168_41 {kc ks : Nat} {ls st : List Value} {w : AW} {Q : AQ} (h : wp Bk 168 [] (0, 0) (some .int) Q c168_41 kc ks ls st w) : Bk 168 41 kc ks ls st w Q := goS ⟨rfl, rfl⟩ h
theorem g168_45 {kc ks : Nat} {ls st : List Value} {w : AW} {Q : AQ} (h : wp Bk 168 [] (0, 0) (some .int) Q c168_45 kc ks ls st w) : Bk 168 45 kc ks ls st w Q := goS ⟨rfl, rfl⟩ h
theorem g168_47 {kc ks : Nat} {ls st : List Value} {w : AW} {Q : AQ} (h : wp Bk 168 [] (0, 0) (some .int) Q c168_47 kc ks ls st w) : Bk 168 47 kc ks ls st w Q := goS ⟨rfl, rfl⟩ h
theorem g169_0 {kc ks : Nat} {ls st : List Value} {w : AW} {Q : AQ} (h : wp Bk 169 [] (0, 0) (some .int) Q c169_0 kc ks ls st w) : Bk 169 0 kc ks ls st w Q := goS ⟨rfl, rfl⟩ h
theorem g170_0 {kc ks : Nat} {ls st : List Value} {w : AW} {Q : AQ} (h : wp Bk 170 [] (0, 0) (some .int) Q c170_0 kc ks ls st w) : Bk 170 0 kc ks ls st w Q := goS ⟨k170_0, rfl⟩ h
theorem g170_28 {kc ks : Nat} {ls st : List Value} {w : AW} {Q : AQ} (h : wp Bk 170 [] (0, 0) (some .int) Q c170_28 kc ks ls st w) : Bk 170 28 kc ks ls st w Q := goS ⟨k170_28, rfl⟩ h
theorem g170_33 {kc ks : Nat} {ls st : List Value} {w : AW} {Q : AQ} (h : wp Bk 170 [] (0, 0) (some .int) Q c170_33 kc ks ls st w) : Bk 170 33 kc ks ls st w Q := goS ⟨k170_33, rfl⟩ h
theorem g170_34 {kc ks : Nat} {ls st : List Value} {w : AW} {Q : AQ} (h : wp Bk 170 [] (0, 0) (some .int) Q c170_34 kc ks ls st w) : Bk 170 34 kc ks ls st w Q := goS ⟨k170_34, rfl⟩ h
theorem g170_54 {kc ks : Nat} {ls st : List Value} {w : AW} {Q : AQ} (h : wp Bk 170 [] (0, 0) (some .int) Q c170_54 kc ks ls st w) : Bk 170 54 kc ks ls st w Q := goS ⟨k170_54, rfl⟩ h
theorem g170_59 {kc ks : Nat} {ls st : List Value} {w : AW} {Q : AQ} (h : wp Bk 170 [] (0, 0) (some .int) Q c170_59 kc ks ls st w) : Bk 170 59 kc ks ls st w Q := goS ⟨k170_59, rfl⟩ h
theorem g170_60 {kc ks : Nat} {ls st : List Value} {w : AW} {Q : AQ} (h : wp Bk 170 [] (0, 0) (some .int) Q c170_60 kc ks ls st w) : Bk 170 60 kc ks ls st w Q := goS ⟨k170_60, rfl⟩ h
theorem g170_79 {kc ks : Nat} {ls st : List Value} {w : AW} {Q : AQ} (h : wp Bk 170 [] (0, 0) (some .int) Q c170_79 kc ks ls st w) : Bk 170 79 kc ks ls st w Q := goS ⟨k170_79, rfl⟩ h
theorem g170_80 {kc ks : Nat} {ls st : List Value} {w : AW} {Q : AQ} (h : wp Bk 170 [] (0, 0) (some .int) Q c170_80 kc ks ls st w) : Bk 170 80 kc ks ls st w Q := goS ⟨k170_80, rfl⟩ h
theorem g171_0 {kc ks : Nat} {ls st : List Value} {w : AW} {Q : AQ} (h : wp Bk 171 [] (0, 0) (some .int) Q c171_0 kc ks ls st w) : Bk 171 0 kc ks ls st w Q := goS ⟨k171_0, rfl⟩ h
theorem g171_16 {kc ks : Nat} {ls st : List Value} {w : AW} {Q : AQ} (h : wp Bk 171 [] (0, 0) (some .int) Q c171_16 kc ks ls st w) : Bk 171 16 kc ks ls st w Q := goS ⟨k171_16, rfl⟩ h
theorem g171_53 {kc ks : Nat} {ls st : List Value} {w : AW} {Q : AQ} (h : wp Bk 171 [] (0, 0) (some .int) Q c171_53 kc ks ls st w) : Bk 171 53 kc ks ls st w Q := goS ⟨k171_53, rfl⟩ h
theorem g171_66 {kc ks : Nat} {ls st : List Value} {w : AW} {Q : AQ} (h : wp Bk 171 [] (0, 0) (some .int) Q c171_66 kc ks ls st w) : Bk 171 66 kc ks ls st w Q := goS ⟨k171_66, rfl⟩ h
theorem g171_68 {kc ks : Nat} {ls st : List Value} {w : AW} {Q : AQ} (h : wp Bk 171 [] (0, 0) (some .int) Q c171_68 kc ks ls st w) : Bk 171 68 kc ks ls st w Q := goS ⟨k171_68, rfl⟩ h
theorem g172_0 {kc ks : Nat} {ls st : List Value} {w : AW} {Q : AQ} (h : wp Bk 172 [] (0, 0) (some .int) Q c172_0 kc ks ls st w) : Bk 172 0 kc ks ls st w Q := goS ⟨rfl, rfl⟩ h
theorem g173_0 {kc ks : Nat} {ls st : List Value} {w : AW} {Q : AQ} (h : wp Bk 173 [] (0, 0) (some .int) Q c173_0 kc ks ls st w) : Bk 173 0 kc ks ls st w Q := goS ⟨rfl, rfl⟩ h
theorem g174_0 {kc ks : Nat} {ls st : List Value} {w : AW} {Q : AQ} (h : wp Bk 174 [] (1, 6) (some .int) Q c174_0 kc ks ls st w) : Bk 174 0 kc ks ls st w Q := goS ⟨rfl, rfl⟩ h
theorem g175_0 {kc ks : Nat} {ls st : List Value} {w : AW} {Q : AQ} (h : wp Bk 175 [("java/lang/IndexOutOfBoundsException", 9, 3)] (1, 6) (some .int) Q c175_0 kc ks ls st w) : Bk 175 0 kc ks ls st w Q := goS ⟨rfl, rfl⟩ h
theorem g175_9 {kc ks : Nat} {ls st : List Value} {w : AW} {Q : AQ} (h : wp Bk 175 [("java/lang/IndexOutOfBoundsException", 9, 3)] (1, 6) (some .int) Q c175_9 kc ks ls st w) : Bk 175 9 kc ks ls st w Q := goS ⟨rfl, rfl⟩ h
theorem g175_11 {kc ks : Nat} {ls st : List Value} {w : AW} {Q : AQ} (h : wp Bk 175 [("java/lang/IndexOutOfBoundsException", 9, 3)] (1, 6) (some .int) Q c175_11 kc ks ls st w) : Bk 175 11 kc ks ls st w Q := goS ⟨rfl, rfl⟩ h
theorem g176_0 {kc ks : Nat} {ls st : List Value} {w : AW} {Q : AQ} (h : wp Bk 176 [] (0, 0) (some .int) Q c176_0 kc ks ls st w) : Bk 176 0 kc ks ls st w Q := goS ⟨rfl, rfl⟩ h
theorem g176_6 {kc ks : Nat} {ls st : List Value} {w : AW} {Q : AQ} (h : wp Bk 176 [] (0, 0) (some .int) Q c176_6 kc ks ls st w) : Bk 176 6 kc ks ls st w Q := goS ⟨rfl, rfl⟩ h
theorem g176_19 {kc ks : Nat} {ls st : List Value} {w : AW} {Q : AQ} (h : wp Bk 176 [] (0, 0) (some .int) Q c176_19 kc ks ls st w) : Bk 176 19 kc ks ls st w Q := goS ⟨rfl, rfl⟩ h
theorem g177_0 {kc ks : Nat} {ls st : List Value} {w : AW} {Q : AQ} (h : wp Bk 177 [] (1, 6) (some .int) Q c177_0 kc ks ls st w) : Bk 177 0 kc ks ls st w Q := goS ⟨rfl, rfl⟩ h
theorem g178_0 {kc ks : Nat} {ls st : List Value} {w : AW} {Q : AQ} (h : wp Bk 178 [("java/lang/IndexOutOfBoundsException", 9, 3)] (1, 6) (some .int) Q c178_0 kc ks ls st w) : Bk 178 0 kc ks ls st w Q := goS ⟨rfl, rfl⟩ h
theorem g178_9 {kc ks : Nat} {ls st : List Value} {w : AW} {Q : AQ} (h : wp Bk 178 [("java/lang/IndexOutOfBoundsException", 9, 3)] (1, 6) (some .int) Q c178_9 kc ks ls st w) : Bk 178 9 kc ks ls st w Q := goS ⟨rfl, rfl⟩ h
theorem g178_11 {kc ks : Nat} {ls st : List Value} {w : AW} {Q : AQ} (h : wp Bk 178 [("java/lang/IndexOutOfBoundsException", 9, 3)] (1, 6) (some .int) Q c178_11 kc ks ls st w) : Bk 178 11 kc ks ls st w Q := goS ⟨rfl, rfl⟩ h
theorem g179_0 {kc ks : Nat} {ls st : List Value} {w : AW} {Q : AQ} (h : wp Bk 179 [] (0, 0) (some .int) Q c179_0 kc ks ls st w) : Bk 179 0 kc ks ls st w Q := goS ⟨rfl, rfl⟩ h
theorem g179_6 {kc ks : Nat} {ls st : List Value} {w : AW} {Q : AQ} (h : wp Bk 179 [] (0, 0) (some .int) Q c179_6 kc ks ls st w) : Bk 179 6 kc ks ls st w Q := goS ⟨rfl, rfl⟩ h
theorem g179_19 {kc ks : Nat} {ls st : List Value} {w : AW} {Q : AQ} (h : wp Bk 179 [] (0, 0) (some .int) Q c179_19 kc ks ls st w) : Bk 179 19 kc ks ls st w Q := goS ⟨rfl, rfl⟩ h
theorem g180_0 {kc ks : Nat} {ls st : List Value} {w : AW} {Q : AQ} (h : wp Bk 180 [] (1, 6) (some .char) Q c180_0 kc ks ls st w) : Bk 180 0 kc ks ls st w Q := goS ⟨rfl, rfl⟩ h
theorem g181_0 {kc ks : Nat} {ls st : List Value} {w : AW} {Q : AQ} (h : wp Bk 181 [("java/lang/IndexOutOfBoundsException", 9, 3)] (1, 6) (some .int) Q c181_0 kc ks ls st w) : Bk 181 0 kc ks ls st w Q := goS ⟨rfl, rfl⟩ h
theorem g181_9 {kc ks : Nat} {ls st : List Value} {w : AW} {Q : AQ} (h : wp Bk 181 [("java/lang/IndexOutOfBoundsException", 9, 3)] (1, 6) (some .int) Q c181_9 kc ks ls st w) : Bk 181 9 kc ks ls st w Q := goS ⟨rfl, rfl⟩ h
theorem g181_11 {kc ks : Nat} {ls st : List Value} {w : AW} {Q : AQ} (h : wp Bk 181 [("java/lang/IndexOutOfBoundsException", 9, 3)] (1, 6) (some .int) Q c181_11 kc ks ls st w) : Bk 181 11 kc ks ls st w Q := goS ⟨rfl, rfl⟩ h
theorem g182_0 {kc ks : Nat} {ls st : List Value} {w : AW} {Q : AQ} (h : wp Bk 182 [] (0, 0) (some .char) Q c182_0 kc ks ls st w) : Bk 182 0 kc ks ls st w Q := goS ⟨rfl, rfl⟩ h
theorem g182_6 {kc ks : Nat} {ls st : List Value} {w : AW} {Q : AQ} (h : wp Bk 182 [] (0, 0) (some .char) Q c182_6 kc ks ls st w) : Bk 182 6 kc ks ls st w Q := goS ⟨rfl, rfl⟩ h
theorem g182_21 {kc ks : Nat} {ls st : List Value} {w : AW} {Q : AQ} (h : wp Bk 182 [] (0, 0) (some .char) Q c182_21 kc ks ls st w) : Bk 182 21 kc ks ls st w Q := goS ⟨rfl, rfl⟩ h
theorem g182_26 {kc ks : Nat} {ls st : List Value} {w : AW} {Q : AQ} (h : wp Bk 182 [] (0, 0) (some .char) Q c182_26 kc ks ls st w) : Bk 182 26 kc ks ls st w Q := goS ⟨rfl, rfl⟩ h
theorem g182_31 {kc ks : Nat} {ls st : List Value} {w : AW} {Q : AQ} (h : wp Bk 182 [] (0, 0) (some .char) Q c182_31 kc ks ls st w) : Bk 182 31 kc ks ls st w Q := goS ⟨rfl, rfl⟩ h
theorem g182_32 {kc ks : Nat} {ls st : List Value} {w : AW} {Q : AQ} (h : wp Bk 182 [] (0, 0) (some .char) Q c182_32 kc ks ls st w) : Bk 182 32 kc ks ls st w Q := goS ⟨rfl, rfl⟩ h
theorem g183_0 {kc ks : Nat} {ls st : List Value} {w : AW} {Q : AQ} (h : wp Bk 183 [] (2, 12) (some .int) Q c183_0 kc ks ls st w) : Bk 183 0 kc ks ls st w Q := goS ⟨rfl, rfl⟩ h
theorem g183_16 {kc ks : Nat} {ls st : List Value} {w : AW} {Q : AQ} (h : wp Bk 183 [] (2, 12) (some .int) Q c183_16 kc ks ls st w) : Bk 183 16 kc ks ls st w Q := goS ⟨rfl, rfl⟩ h
theorem g184_0 {kc ks : Nat} {ls st : List Value} {w : AW} {Q : AQ} (h : wp Bk 184 [("java/lang/IndexOutOfBoundsException", 10, 4), ("java/util/NoSuchElementException", 13, 4)] (2, 12) (some .int) Q c184_0 kc ks ls st w) : Bk 184 0 kc ks ls st w Q := goS ⟨rfl, rfl⟩ h
theorem g184_10 {kc ks : Nat} {ls st : List Value} {w : AW} {Q : AQ} (h : wp Bk 184 [("java/lang/IndexOutOfBoundsException", 10, 4), ("java/util/NoSuchElementException", 13, 4)] (2, 12) (some .int) Q c184_10 kc ks ls st w) : Bk 184 10 kc ks ls st w Q := goS ⟨rfl, rfl⟩ h
theorem g184_13 {kc ks : Nat} {ls st : List Value} {w : AW} {Q : AQ} (h : wp Bk 184 [("java/lang/IndexOutOfBoundsException", 10, 4), ("java/util/NoSuchElementException", 13, 4)] (2, 12) (some .int) Q c184_13 kc ks ls st w) : Bk 184 13 kc ks ls st w Q := goS ⟨rfl, rfl⟩ h
theorem g184_15 {kc ks : Nat} {ls st : List Value} {w : AW} {Q : AQ} (h : wp Bk 184 [("java/lang/IndexOutOfBoundsException", 10, 4), ("java/util/NoSuchElementException", 13, 4)] (2, 12) (some .int) Q c184_15 kc ks ls st w) : Bk 184 15 kc ks ls st w Q := goS ⟨rfl, rfl⟩ h
theorem g185_0 {kc ks : Nat} {ls st : List Value} {w : AW} {Q : AQ} (h : wp Bk 185 [] (0, 0) (some .int) Q c185_0 kc ks ls st w) : Bk 185 0 kc ks ls st w Q := goS ⟨rfl, rfl⟩ h
theorem g185_8 {kc ks : Nat} {ls st : List Value} {w : AW} {Q : AQ} (h : wp Bk 185 [] (0, 0) (some .int) Q c185_8 kc ks ls st w) : Bk 185 8 kc ks ls st w Q := goS ⟨rfl, rfl⟩ h
theorem g185_17 {kc ks : Nat} {ls st : List Value} {w : AW} {Q : AQ} (h : wp Bk 185 [] (0, 0) (some .int) Q c185_17 kc ks ls st w) : Bk 185 17 kc ks ls st w Q := goS ⟨rfl, rfl⟩ h
theorem g185_18 {kc ks : Nat} {ls st : List Value} {w : AW} {Q : AQ} (h : wp Bk 185 [] (0, 0) (some .int) Q c185_18 kc ks ls st w) : Bk 185 18 kc ks ls st w Q := goS ⟨rfl, rfl⟩ h
theorem g185_22 {kc ks : Nat} {ls st : List Value} {w : AW} {Q : AQ} (h : wp Bk 185 [] (0, 0) (some .int) Q c185_22 kc ks ls st w) : Bk 185 22 kc ks ls st w Q := goS ⟨rfl, rfl⟩ h
theorem g185_28 {kc ks : Nat} {ls st : List Value} {w : AW} {Q : AQ} (h : wp Bk 185 [] (0, 0) (some .int) Q c185_28 kc ks ls st w) : Bk 185 28 kc ks ls st w Q := goS ⟨rfl, rfl⟩ h
theorem g186_0 {kc ks : Nat} {ls st : List Value} {w : AW} {Q : AQ} (h : wp Bk 186 [] (0, 0) (some .int) Q c186_0 kc ks ls st w) : Bk 186 0 kc ks ls st w Q := goS ⟨rfl, rfl⟩ h
theorem g187_0 {kc ks : Nat} {ls st : List Value} {w : AW} {Q : AQ} (h : wp Bk 187 [] (0, 0) (some .int) Q c187_0 kc ks ls st w) : Bk 187 0 kc ks ls st w Q := goS ⟨rfl, rfl⟩ h
theorem g188_0 {kc ks : Nat} {ls st : List Value} {w : AW} {Q : AQ} (h : wp Bk 188 [] (0, 0) (none) Q c188_0 kc ks ls st w) : Bk 188 0 kc ks ls st w Q := goS ⟨rfl, rfl⟩ h
theorem g188_18 {kc ks : Nat} {ls st : List Value} {w : AW} {Q : AQ} (h : wp Bk 188 [] (0, 0) (none) Q c188_18 kc ks ls st w) : Bk 188 18 kc ks ls st w Q := goS ⟨rfl, rfl⟩ h
theorem g189_0 {kc ks : Nat} {ls st : List Value} {w : AW} {Q : AQ} (h : wp Bk 189 [] (1, 6) (some .int) Q c189_0 kc ks ls st w) : Bk 189 0 kc ks ls st w Q := goS ⟨rfl, rfl⟩ h
theorem g189_8 {kc ks : Nat} {ls st : List Value} {w : AW} {Q : AQ} (h : wp Bk 189 [] (1, 6) (some .int) Q c189_8 kc ks ls st w) : Bk 189 8 kc ks ls st w Q := goS ⟨rfl, rfl⟩ h
theorem g189_26 {kc ks : Nat} {ls st : List Value} {w : AW} {Q : AQ} (h : wp Bk 189 [] (1, 6) (some .int) Q c189_26 kc ks ls st w) : Bk 189 26 kc ks ls st w Q := goS ⟨rfl, rfl⟩ h
theorem g189_27 {kc ks : Nat} {ls st : List Value} {w : AW} {Q : AQ} (h : wp Bk 189 [] (1, 6) (some .int) Q c189_27 kc ks ls st w) : Bk 189 27 kc ks ls st w Q := goS ⟨rfl, rfl⟩ h
theorem g189_37 {kc ks : Nat} {ls st : List Value} {w : AW} {Q : AQ} (h : wp Bk 189 [] (1, 6) (some .int) Q c189_37 kc ks ls st w) : Bk 189 37 kc ks ls st w Q := goS ⟨rfl, rfl⟩ h
theorem g189_39 {kc ks : Nat} {ls st : List Value} {w : AW} {Q : AQ} (h : wp Bk 189 [] (1, 6) (some .int) Q c189_39 kc ks ls st w) : Bk 189 39 kc ks ls st w Q := goS ⟨rfl, rfl⟩ h
theorem g190_0 {kc ks : Nat} {ls st : List Value} {w : AW} {Q : AQ} (h : wp Bk 190 [("java/lang/IndexOutOfBoundsException", 9, 3)] (1, 6) (some .int) Q c190_0 kc ks ls st w) : Bk 190 0 kc ks ls st w Q := goS ⟨rfl, rfl⟩ h
theorem g190_9 {kc ks : Nat} {ls st : List Value} {w : AW} {Q : AQ} (h : wp Bk 190 [("java/lang/IndexOutOfBoundsException", 9, 3)] (1, 6) (some .int) Q c190_9 kc ks ls st w) : Bk 190 9 kc ks ls st w Q := goS ⟨rfl, rfl⟩ h
theorem g190_11 {kc ks : Nat} {ls st : List Value} {w : AW} {Q : AQ} (h : wp Bk 190 [("java/lang/IndexOutOfBoundsException", 9, 3)] (1, 6) (some .int) Q c190_11 kc ks ls st w) : Bk 190 11 kc ks ls st w Q := goS ⟨rfl, rfl⟩ h
theorem g191_0 {kc ks : Nat} {ls st : List Value} {w : AW} {Q : AQ} (h : wp Bk 191 [] (0, 0) (none) Q c191_0 kc ks ls st w) : Bk 191 0 kc ks ls st w Q := goS ⟨rfl, rfl⟩ h
theorem g192_0 {kc ks : Nat} {ls st : List Value} {w : AW} {Q : AQ} (h : wp Bk 192 [] (0, 0) (some .int) Q c192_0 kc ks ls st w) : Bk 192 0 kc ks ls st w Q := goS ⟨k192_0, rfl⟩ h
theorem g192_13 {kc ks : Nat} {ls st : List Value} {w : AW} {Q : AQ} (h : wp Bk 192 [] (0, 0) (some .int) Q c192_13 kc ks ls st w) : Bk 192 13 kc ks ls st w Q := goS ⟨k192_13, rfl⟩ h
theorem g192_14 {kc ks : Nat} {ls st : List Value} {w : AW} {Q : AQ} (h : wp Bk 192 [] (0, 0) (some .int) Q c192_14 kc ks ls st w) : Bk 192 14 kc ks ls st w Q := goS ⟨k192_14, rfl⟩ h
theorem g192_18 {kc ks : Nat} {ls st : List Value} {w : AW} {Q : AQ} (h : wp Bk 192 [] (0, 0) (some .int) Q c192_18 kc ks ls st w) : Bk 192 18 kc ks ls st w Q := goS ⟨k192_18, rfl⟩ h
theorem g192_26 {kc ks : Nat} {ls st : List Value} {w : AW} {Q : AQ} (h : wp Bk 192 [] (0, 0) (some .int) Q c192_26 kc ks ls st w) : Bk 192 26 kc ks ls st w Q := goS ⟨k192_26, rfl⟩ h
theorem g192_44 {kc ks : Nat} {ls st : List Value} {w : AW} {Q : AQ} (h : wp Bk 192 [] (0, 0) (some .int) Q c192_44 kc ks ls st w) : Bk 192 44 kc ks ls st w Q := goS ⟨k192_44, rfl⟩ h
theorem g192_45 {kc ks : Nat} {ls st : List Value} {w : AW} {Q : AQ} (h : wp Bk 192 [] (0, 0) (some .int) Q c192_45 kc ks ls st w) : Bk 192 45 kc ks ls st w Q := goS ⟨k192_45, rfl⟩ h
theorem g192_61 {kc ks : Nat} {ls st : List Value} {w : AW} {Q : AQ} (h : wp Bk 192 [] (0, 0) (some .int) Q c192_61 kc ks ls st w) : Bk 192 61 kc ks ls st w Q := goS ⟨k192_61, rfl⟩ h
theorem g192_63 {kc ks : Nat} {ls st : List Value} {w : AW} {Q : AQ} (h : wp Bk 192 [] (0, 0) (some .int) Q c192_63 kc ks ls st w) : Bk 192 63 kc ks ls st w Q := goS ⟨k192_63, rfl⟩ h
theorem g193_0 {kc ks : Nat} {ls st : List Value} {w : AW} {Q : AQ} (h : wp Bk 193 [] (1, 6) (some .char) Q c193_0 kc ks ls st w) : Bk 193 0 kc ks ls st w Q := goS ⟨rfl, rfl⟩ h
theorem g193_6 {kc ks : Nat} {ls st : List Value} {w : AW} {Q : AQ} (h : wp Bk 193 [] (1, 6) (some .char) Q c193_6 kc ks ls st w) : Bk 193 6 kc ks ls st w Q := goS ⟨rfl, rfl⟩ h
theorem g193_7 {kc ks : Nat} {ls st : List Value} {w : AW} {Q : AQ} (h : wp Bk 193 [] (1, 6) (some .char) Q c193_7 kc ks ls st w) : Bk 193 7 kc ks ls st w Q := goS ⟨rfl, rfl⟩ h
theorem g194_0 {kc ks : Nat} {ls st : List Value} {w : AW} {Q : AQ} (h : wp Bk 194 [("java/lang/IndexOutOfBoundsException", 9, 3)] (1, 6) (some .int) Q c194_0 kc ks ls st w) : Bk 194 0 kc ks ls st w Q := goS ⟨rfl, rfl⟩ h
theorem g194_9 {kc ks : Nat} {ls st : List Value} {w : AW} {Q : AQ} (h : wp Bk 194 [("java/lang/IndexOutOfBoundsException", 9, 3)] (1, 6) (some .int) Q c194_9 kc ks ls st w) : Bk 194 9 kc ks ls st w Q := goS ⟨rfl, rfl⟩ h
theorem g194_11 {kc ks : Nat} {ls st : List Value} {w : AW} {Q : AQ} (h : wp Bk 194 [("java/lang/IndexOutOfBoundsException", 9, 3)] (1, 6) (some .int) Q c194_11 kc ks ls st w) : Bk 194 11 kc ks ls st w Q := goS ⟨rfl, rfl⟩ h
theorem g195_0 {kc ks : Nat} {ls st : List Value} {w : AW} {Q : AQ} (h : wp Bk 195 [] (0, 0) (some .char) Q c195_0 kc ks ls st w) : Bk 195 0 kc ks ls st w Q := goS ⟨rfl, rfl⟩ h
theorem g195_11 {kc ks : Nat} {ls st : List Value} {w : AW} {Q : AQ} (h : wp Bk 195 [] (0, 0) (some .char) Q c195_11 kc ks ls st w) : Bk 195 11 kc ks ls st w Q := goS ⟨rfl, rfl⟩ h
theorem g195_12 {kc ks : Nat} {ls st : List Value} {w : AW} {Q : AQ} (h : wp Bk 195 [] (0, 0) (some .char) Q c195_12 kc ks ls st w) : Bk 195 12 kc ks ls st w Q := goS ⟨rfl, rfl⟩ h
theorem g195_16 {kc ks : Nat} {ls st : List Value} {w : AW} {Q : AQ} (h : wp Bk 195 [] (0, 0) (some .char) Q c195_16 kc ks ls st w) : Bk 195 16 kc ks ls st w Q := goS ⟨rfl, rfl⟩ h
theorem g195_20 {kc ks : Nat} {ls st : List Value} {w : AW} {Q : AQ} (h : wp Bk 195 [] (0, 0) (some .char) Q c195_20 kc ks ls st w) : Bk 195 20 kc ks ls st w Q := goS ⟨rfl, rfl⟩ h
theorem g196_0 {kc ks : Nat} {ls st : List Value} {w : AW} {Q : AQ} (h : wp Bk 196 [] (0, 0) (some .double) Q c196_0 kc ks ls st w) : Bk 196 0 kc ks ls st w Q := goS ⟨rfl, rfl⟩ h
theorem g196_4 {kc ks : Nat} {ls st : List Value} {w : AW} {Q : AQ} (h : wp Bk 196 [] (0, 0) (some .double) Q c196_4 kc ks ls st w) : Bk 196 4 kc ks ls st w Q := goS ⟨rfl, rfl⟩ h
theorem g196_17 {kc ks : Nat} {ls st : List Value} {w : AW} {Q : AQ} (h : wp Bk 196 [] (0, 0) (some .double) Q c196_17 kc ks ls st w) : Bk 196 17 kc ks ls st w Q := goS ⟨rfl, rfl⟩ h
theorem g197_0 {kc ks : Nat} {ls st : List Value} {w : AW} {Q : AQ} (h : wp Bk 197 [] (0, 0) (some .double) Q c197_0 kc ks ls st w) : Bk 197 0 kc ks ls st w Q := goS ⟨rfl, rfl⟩ h
theorem g197_7 {kc ks : Nat} {ls st : List Value} {w : AW} {Q : AQ} (h : wp Bk 197 [] (0, 0) (some .double) Q c197_7 kc ks ls st w) : Bk 197 7 kc ks ls st w Q := goS ⟨rfl, rfl⟩ h
theorem g197_22 {kc ks : Nat} {ls st : List Value} {w : AW} {Q : AQ} (h : wp Bk 197 [] (0, 0) (some .double) Q c197_22 kc ks ls st w) : Bk 197 22 kc ks ls st w Q := goS ⟨rfl, rfl⟩ h
theorem g198_0 {kc ks : Nat} {ls st : List Value} {w : AW} {Q : AQ} (h : wp Bk 198 [] (0, 0) (some .float) Q c198_0 kc ks ls st w) : Bk 198 0 kc ks ls st w Q := goS ⟨rfl, rfl⟩ h
theorem g199_0 {kc ks : Nat} {ls st : List Value} {w : AW} {Q : AQ} (h : wp Bk 199 [] (0, 0) (some .float) Q c199_0 kc ks ls st w) : Bk 199 0 kc ks ls st w Q := goS ⟨rfl, rfl⟩ h
theorem g200_0 {kc ks : Nat} {ls st : List Value} {w : AW} {Q : AQ} (h : wp Bk 200 [] (0, 0) (some .boolean) Q c200_0 kc ks ls st w) : Bk 200 0 kc ks ls st w Q := goS ⟨rfl, rfl⟩ h
theorem g200_2 {kc ks : Nat} {ls st : List Value} {w : AW} {Q : AQ} (h : wp Bk 200 [] (0, 0) (some .boolean) Q c200_2 kc ks ls st w) : Bk 200 2 kc ks ls st w Q := goS ⟨rfl, rfl⟩ h
theorem g200_16 {kc ks : Nat} {ls st : List Value} {w : AW} {Q : AQ} (h : wp Bk 200 [] (0, 0) (some .boolean) Q c200_16 kc ks ls st w) : Bk 200 16 kc ks ls st w Q := goS ⟨rfl, rfl⟩ h
theorem g200_18 {kc ks : Nat} {ls st : List Value} {w : AW} {Q : AQ} (h : wp Bk 200 [] (0, 0) (some .boolean) Q c200_18 kc ks ls st w) : Bk 200 18 kc ks ls st w Q := goS ⟨rfl, rfl⟩ h
theorem g201_0 {kc ks : Nat} {ls st : List Value} {w : AW} {Q : AQ} (h : wp Bk 201 [] (0, 0) (some .boolean) Q c201_0 kc ks ls st w) : Bk 201 0 kc ks ls st w Q := goS ⟨rfl, rfl⟩ h
theorem g201_25 {kc ks : Nat} {ls st : List Value} {w : AW} {Q : AQ} (h : wp Bk 201 [] (0, 0) (some .boolean) Q c201_25 kc ks ls st w) : Bk 201 25 kc ks ls st w Q := goS ⟨rfl, rfl⟩ h
theorem g201_26 {kc ks : Nat} {ls st : List Value} {w : AW} {Q : AQ} (h : wp Bk 201 [] (0, 0) (some .boolean) Q c201_26 kc ks ls st w) : Bk 201 26 kc ks ls st w Q := goS ⟨rfl, rfl⟩ h
theorem g202_0 {kc ks : Nat} {ls st : List Value} {w : AW} {Q : AQ} (h : wp Bk 202 [] (0, 0) (some .boolean) Q c202_0 kc ks ls st w) : Bk 202 0 kc ks ls st w Q := goS ⟨rfl, rfl⟩ h
theorem g203_0 {kc ks : Nat} {ls st : List Value} {w : AW} {Q : AQ} (h : wp Bk 203 [] (0, 0) (none) Q c203_0 kc ks ls st w) : Bk 203 0 kc ks ls st w Q := goS ⟨rfl, rfl⟩ h
theorem g203_16 {kc ks : Nat} {ls st : List Value} {w : AW} {Q : AQ} (h : wp Bk 203 [] (0, 0) (none) Q c203_16 kc ks ls st w) : Bk 203 16 kc ks ls st w Q := goS ⟨rfl, rfl⟩ h
theorem g204_0 {kc ks : Nat} {ls st : List Value} {w : AW} {Q : AQ} (h : wp Bk 204 [] (1, 6) (some .int) Q c204_0 kc ks ls st w) : Bk 204 0 kc ks ls st w Q := goS ⟨rfl, rfl⟩ h
theorem g204_6 {kc ks : Nat} {ls st : List Value} {w : AW} {Q : AQ} (h : wp Bk 204 [] (1, 6) (some .int) Q c204_6 kc ks ls st w) : Bk 204 6 kc ks ls st w Q := goS ⟨rfl, rfl⟩ h
theorem g204_7 {kc ks : Nat} {ls st : List Value} {w : AW} {Q : AQ} (h : wp Bk 204 [] (1, 6) (some .int) Q c204_7 kc ks ls st w) : Bk 204 7 kc ks ls st w Q := goS ⟨rfl, rfl⟩ h
theorem g204_13 {kc ks : Nat} {ls st : List Value} {w : AW} {Q : AQ} (h : wp Bk 204 [] (1, 6) (some .int) Q c204_13 kc ks ls st w) : Bk 204 13 kc ks ls st w Q := goS ⟨rfl, rfl⟩ h
theorem g205_0 {kc ks : Nat} {ls st : List Value} {w : AW} {Q : AQ} (h : wp Bk 205 [("java/lang/IllegalArgumentException", 9, 3), ("java/lang/IllegalStateException", 12, 3)] (1, 6) (some .int) Q c205_0 kc ks ls st w) : Bk 205 0 kc ks ls st w Q := goS ⟨rfl, rfl⟩ h
theorem g205_9 {kc ks : Nat} {ls st : List Value} {w : AW} {Q : AQ} (h : wp Bk 205 [("java/lang/IllegalArgumentException", 9, 3), ("java/lang/IllegalStateException", 12, 3)] (1, 6) (some .int) Q c205_9 kc ks ls st w) : Bk 205 9 kc ks ls st w Q := goS ⟨rfl, rfl⟩ h
theorem g205_12 {kc ks : Nat} {ls st : List Value} {w : AW} {Q : AQ} (h : wp Bk 205 [("java/lang/IllegalArgumentException", 9, 3), ("java/lang/IllegalStateException", 12, 3)] (1, 6) (some .int) Q c205_12 kc ks ls st w) : Bk 205 12 kc ks ls st w Q := goS ⟨rfl, rfl⟩ h
theorem g205_14 {kc ks : Nat} {ls st : List Value} {w : AW} {Q : AQ} (h : wp Bk 205 [("java/lang/IllegalArgumentException", 9, 3), ("java/lang/IllegalStateException", 12, 3)] (1, 6) (some .int) Q c205_14 kc ks ls st w) : Bk 205 14 kc ks ls st w Q := goS ⟨rfl, rfl⟩ h
theorem g206_0 {kc ks : Nat} {ls st : List Value} {w : AW} {Q : AQ} (h : wp Bk 206 [] (0, 0) (some .int) Q c206_0 kc ks ls st w) : Bk 206 0 kc ks ls st w Q := goS ⟨rfl, rfl⟩ h
theorem g206_8 {kc ks : Nat} {ls st : List Value} {w : AW} {Q : AQ} (h : wp Bk 206 [] (0, 0) (some .int) Q c206_8 kc ks ls st w) : Bk 206 8 kc ks ls st w Q := goS ⟨rfl, rfl⟩ h
theorem g206_14 {kc ks : Nat} {ls st : List Value} {w : AW} {Q : AQ} (h : wp Bk 206 [] (0, 0) (some .int) Q c206_14 kc ks ls st w) : Bk 206 14 kc ks ls st w Q := goS ⟨rfl, rfl⟩ h
theorem g206_15 {kc ks : Nat} {ls st : List Value} {w : AW} {Q : AQ} (h : wp Bk 206 [] (0, 0) (some .int) Q c206_15 kc ks ls st w) : Bk 206 15 kc ks ls st w Q := goS ⟨rfl, rfl⟩ h
theorem g206_19 {kc ks : Nat} {ls st : List Value} {w : AW} {Q : AQ} (h : wp Bk 206 [] (0, 0) (some .int) Q c206_19 kc ks ls st w) : Bk 206 19 kc ks ls st w Q := goS ⟨rfl, rfl⟩ h
theorem g207_0 {kc ks : Nat} {ls st : List Value} {w : AW} {Q : AQ} (h : wp Bk 207 [] (0, 0) (some .char) Q c207_0 kc ks ls st w) : Bk 207 0 kc ks ls st w Q := goS ⟨rfl, rfl⟩ h
theorem g207_11 {kc ks : Nat} {ls st : List Value} {w : AW} {Q : AQ} (h : wp Bk 207 [] (0, 0) (some .char) Q c207_11 kc ks ls st w) : Bk 207 11 kc ks ls st w Q := goS ⟨rfl, rfl⟩ h
theorem g207_12 {kc ks : Nat} {ls st : List Value} {w : AW} {Q : AQ} (h : wp Bk 207 [] (0, 0) (some .char) Q c207_12 kc ks ls st w) : Bk 207 12 kc ks ls st w Q := goS ⟨rfl, rfl⟩ h
theorem g208_0 {kc ks : Nat} {ls st : List Value} {w : AW} {Q : AQ} (h : wp Bk 208 [] (0, 0) (some .boolean) Q c208_0 kc ks ls st w) : Bk 208 0 kc ks ls st w Q := goS ⟨rfl, rfl⟩ h
theorem g208_2 {kc ks : Nat} {ls st : List Value} {w : AW} {Q : AQ} (h : wp Bk 208 [] (0, 0) (some .boolean) Q c208_2 kc ks ls st w) : Bk 208 2 kc ks ls st w Q := goS ⟨rfl, rfl⟩ h
theorem g208_10 {kc ks : Nat} {ls st : List Value} {w : AW} {Q : AQ} (h : wp Bk 208 [] (0, 0) (some .boolean) Q c208_10 kc ks ls st w) : Bk 208 10 kc ks ls st w Q := goS ⟨rfl, rfl⟩ h
theorem g208_11 {kc ks : Nat} {ls st : List Value} {w : AW} {Q : AQ} (h : wp Bk 208 [] (0, 0) (some .boolean) Q c208_11 kc ks ls st w) : Bk 208 11 kc ks ls st w Q := goS ⟨rfl, rfl⟩ h
theorem g208_12 {kc ks : Nat} {ls st : List Value} {w : AW} {Q : AQ} (h : wp Bk 208 [] (0, 0) (some .boolean) Q c208_12 kc ks ls st w) : Bk 208 12 kc ks ls st w Q := goS ⟨rfl, rfl⟩ h
theorem g208_18 {kc ks : Nat} {ls st : List Value} {w : AW} {Q : AQ} (h : wp Bk 208 [] (0, 0) (some .boolean) Q c208_18 kc ks ls st w) : Bk 208 18 kc ks ls st w Q := goS ⟨rfl, rfl⟩ h
theorem g208_19 {kc ks : Nat} {ls st : List Value} {w : AW} {Q : AQ} (h : wp Bk 208 [] (0, 0) (some .boolean) Q c208_19 kc ks ls st w) : Bk 208 19 kc ks ls st w Q := goS ⟨rfl, rfl⟩ h
theorem g208_20 {kc ks : Nat} {ls st : List Value} {w : AW} {Q : AQ} (h : wp Bk 208 [] (0, 0) (some .boolean) Q c208_20 kc ks ls st w) : Bk 208 20 kc ks ls st w Q := goS ⟨rfl, rfl⟩ h
theorem g208_26 {kc ks : Nat} {ls st : List Value} {w : AW} {Q : AQ} (h : wp Bk 208 [] (0, 0) (some .boolean) Q c208_26 kc ks ls st w) : Bk 208 26 kc ks ls st w Q := goS ⟨rfl, rfl⟩ h
theorem g208_27 {kc ks : Nat} {ls st : List Value} {w : AW} {Q : AQ} (h : wp Bk 208 [] (0, 0) (some .boolean) Q c208_27 kc ks ls st w) : Bk 208 27 kc ks ls st w Q := goS ⟨rfl, rfl⟩ h
theorem g208_28 {kc ks : Nat} {ls st : List Value} {w : AW} {Q : AQ} (h : wp Bk 208 [] (0, 0) (some .boolean) Q c208_28 kc ks ls st w) : Bk 208 28 kc ks ls st w Q := goS ⟨rfl, rfl⟩ h
theorem g208_33 {kc ks : Nat} {ls st : List Value} {w : AW} {Q : AQ} (h : wp Bk 208 [] (0, 0) (some .boolean) Q c208_33 kc ks ls st w) : Bk 208 33 kc ks ls st w Q := goS ⟨rfl, rfl⟩ h
theorem g208_34 {kc ks : Nat} {ls st : List Value} {w : AW} {Q : AQ} (h : wp Bk 208 [] (0, 0) (some .boolean) Q c208_34 kc ks ls st w) : Bk 208 34 kc ks ls st w Q := goS ⟨rfl, rfl⟩ h
theorem g209_0 {kc ks : Nat} {ls st : List Value} {w : AW} {Q : AQ} (h : wp Bk 209 [] (0, 0) (some .int) Q c209_0 kc ks ls st w) : Bk 209 0 kc ks ls st w Q := goS ⟨rfl, rfl⟩ h
theorem g209_10 {kc ks : Nat} {ls st : List Value} {w : AW} {Q : AQ} (h : wp Bk 209 [] (0, 0) (some .int) Q c209_10 kc ks ls st w) : Bk 209 10 kc ks ls st w Q := goS ⟨rfl, rfl⟩ h
theorem g209_25 {kc ks : Nat} {ls st : List Value} {w : AW} {Q : AQ} (h : wp Bk 209 [] (0, 0) (some .int) Q c209_25 kc ks ls st w) : Bk 209 25 kc ks ls st w Q := goS ⟨rfl, rfl⟩ h
theorem g209_27 {kc ks : Nat} {ls st : List Value} {w : AW} {Q : AQ} (h : wp Bk 209 [] (0, 0) (some .int) Q c209_27 kc ks ls st w) : Bk 209 27 kc ks ls st w Q := goS ⟨rfl, rfl⟩ h
theorem g210_0 {kc ks : Nat} {ls st : List Value} {w : AW} {Q : AQ} (h : wp Bk 210 [] (0, 0) (some (.object "GlowwormGrid$CommandKind")) Q c210_0 kc ks ls st w) : Bk 210 0 kc ks ls st w Q := goS ⟨rfl, rfl⟩ h
theorem g210_2 {kc ks : Nat} {ls st : List Value} {w : AW} {Q : AQ} (h : wp Bk 210 [] (0, 0) (some (.object "GlowwormGrid$CommandKind")) Q c210_2 kc ks ls st w) : Bk 210 2 kc ks ls st w Q := goS ⟨rfl, rfl⟩ h
theorem g210_23 {kc ks : Nat} {ls st : List Value} {w : AW} {Q : AQ} (h : wp Bk 210 [] (0, 0) (some (.object "GlowwormGrid$CommandKind")) Q c210_23 kc ks ls st w) : Bk 210 23 kc ks ls st w Q := goS ⟨rfl, rfl⟩ h
theorem g210_25 {kc ks : Nat} {ls st : List Value} {w : AW} {Q : AQ} (h : wp Bk 210 [] (0, 0) (some (.object "GlowwormGrid$CommandKind")) Q c210_25 kc ks ls st w) : Bk 210 25 kc ks ls st w Q := goS ⟨rfl, rfl⟩ h
theorem g211_0 {kc ks : Nat} {ls st : List Value} {w : AW} {Q : AQ} (h : wp Bk 211 [] (0, 0) (some .int) Q c211_0 kc ks ls st w) : Bk 211 0 kc ks ls st w Q := goS ⟨rfl, rfl⟩ h
theorem g211_4 {kc ks : Nat} {ls st : List Value} {w : AW} {Q : AQ} (h : wp Bk 211 [] (0, 0) (some .int) Q c211_4 kc ks ls st w) : Bk 211 4 kc ks ls st w Q := goS ⟨rfl, rfl⟩ h
theorem g211_20 {kc ks : Nat} {ls st : List Value} {w : AW} {Q : AQ} (h : wp Bk 211 [] (0, 0) (some .int) Q c211_20 kc ks ls st w) : Bk 211 20 kc ks ls st w Q := goS ⟨rfl, rfl⟩ h
theorem g212_0 {kc ks : Nat} {ls st : List Value} {w : AW} {Q : AQ} (h : wp Bk 212 [] (0, 0) (some .int) Q c212_0 kc ks ls st w) : Bk 212 0 kc ks ls st w Q := goS ⟨rfl, rfl⟩ h
theorem g212_2 {kc ks : Nat} {ls st : List Value} {w : AW} {Q : AQ} (h : wp Bk 212 [] (0, 0) (some .int) Q c212_2 kc ks ls st w) : Bk 212 2 kc ks ls st w Q := goS ⟨rfl, rfl⟩ h
theorem g212_18 {kc ks : Nat} {ls st : List Value} {w : AW} {Q : AQ} (h : wp Bk 212 [] (0, 0) (some .int) Q c212_18 kc ks ls st w) : Bk 212 18 kc ks ls st w Q := goS ⟨rfl, rfl⟩ h
theorem g212_30 {kc ks : Nat} {ls st : List Value} {w : AW} {Q : AQ} (h : wp Bk 212 [] (0, 0) (some .int) Q c212_30 kc ks ls st w) : Bk 212 30 kc ks ls st w Q := goS ⟨rfl, rfl⟩ h
theorem g212_37 {kc ks : Nat} {ls st : List Value} {w : AW} {Q : AQ} (h : wp Bk 212 [] (0, 0) (some .int) Q c212_37 kc ks ls st w) : Bk 212 37 kc ks ls st w Q := goS ⟨rfl, rfl⟩ h
theorem g212_42 {kc ks : Nat} {ls st : List Value} {w : AW} {Q : AQ} (h : wp Bk 212 [] (0, 0) (some .int) Q c212_42 kc ks ls st w) : Bk 212 42 kc ks ls st w Q := goS ⟨rfl, rfl⟩ h
theorem g213_0 {kc ks : Nat} {ls st : List Value} {w : AW} {Q : AQ} (h : wp Bk 213 [] (0, 0) (some .int) Q c213_0 kc ks ls st w) : Bk 213 0 kc ks ls st w Q := goS ⟨rfl, rfl⟩ h
theorem g213_4 {kc ks : Nat} {ls st : List Value} {w : AW} {Q : AQ} (h : wp Bk 213 [] (0, 0) (some .int) Q c213_4 kc ks ls st w) : Bk 213 4 kc ks ls st w Q := goS ⟨rfl, rfl⟩ h
theorem g213_14 {kc ks : Nat} {ls st : List Value} {w : AW} {Q : AQ} (h : wp Bk 213 [] (0, 0) (some .int) Q c213_14 kc ks ls st w) : Bk 213 14 kc ks ls st w Q := goS ⟨rfl, rfl⟩ h
theorem g213_16 {kc ks : Nat} {ls st : List Value} {w : AW} {Q : AQ} (h : wp Bk 213 [] (0, 0) (some .int) Q c213_16 kc ks ls st w) : Bk 213 16 kc ks ls st w Q := goS ⟨rfl, rfl⟩ h
theorem g214_0 {kc ks : Nat} {ls st : List Value} {w : AW} {Q : AQ} (h : wp Bk 214 [] (0, 0) (some .char) Q c214_0 kc ks ls st w) : Bk 214 0 kc ks ls st w Q := goS ⟨rfl, rfl⟩ h
theorem g215_0 {kc ks : Nat} {ls st : List Value} {w : AW} {Q : AQ} (h : wp Bk 215 [] (0, 0) (some .boolean) Q c215_0 kc ks ls st w) : Bk 215 0 kc ks ls st w Q := goS ⟨rfl, rfl⟩ h
theorem g215_5 {kc ks : Nat} {ls st : List Value} {w : AW} {Q : AQ} (h : wp Bk 215 [] (0, 0) (some .boolean) Q c215_5 kc ks ls st w) : Bk 215 5 kc ks ls st w Q := goS ⟨rfl, rfl⟩ h
theorem g216_0 {kc ks : Nat} {ls st : List Value} {w : AW} {Q : AQ} (h : wp Bk 216 [] (0, 0) (some .boolean) Q c216_0 kc ks ls st w) : Bk 216 0 kc ks ls st w Q := goS ⟨rfl, rfl⟩ h
theorem g216_7 {kc ks : Nat} {ls st : List Value} {w : AW} {Q : AQ} (h : wp Bk 216 [] (0, 0) (some .boolean) Q c216_7 kc ks ls st w) : Bk 216 7 kc ks ls st w Q := goS ⟨rfl, rfl⟩ h
theorem g217_0 {kc ks : Nat} {ls st : List Value} {w : AW} {Q : AQ} (h : wp Bk 217 [] (0, 0) (some .int) Q c217_0 kc ks ls st w) : Bk 217 0 kc ks ls st w Q := goS ⟨rfl, rfl⟩ h
theorem g218_0 {kc ks : Nat} {ls st : List Value} {w : AW} {Q : AQ} (h : wp Bk 218 [] (0, 0) (some .int) Q c218_0 kc ks ls st w) : Bk 218 0 kc ks ls st w Q := goS ⟨rfl, rfl⟩ h
theorem g219_0 {kc ks : Nat} {ls st : List Value} {w : AW} {Q : AQ} (h : wp Bk 219 [] (0, 0) (some .boolean) Q c219_0 kc ks ls st w) : Bk 219 0 kc ks ls st w Q := goS ⟨rfl, rfl⟩ h
theorem g219_6 {kc ks : Nat} {ls st : List Value} {w : AW} {Q : AQ} (h : wp Bk 219 [] (0, 0) (some .boolean) Q c219_6 kc ks ls st w) : Bk 219 6 kc ks ls st w Q := goS ⟨rfl, rfl⟩ h
theorem g220_0 {kc ks : Nat} {ls st : List Value} {w : AW} {Q : AQ} (h : wp Bk 220 [] (0, 0) (some .boolean) Q c220_0 kc ks ls st w) : Bk 220 0 kc ks ls st w Q := goS ⟨rfl, rfl⟩ h
theorem g220_8 {kc ks : Nat} {ls st : List Value} {w : AW} {Q : AQ} (h : wp Bk 220 [] (0, 0) (some .boolean) Q c220_8 kc ks ls st w) : Bk 220 8 kc ks ls st w Q := goS ⟨rfl, rfl⟩ h
theorem g220_10 {kc ks : Nat} {ls st : List Value} {w : AW} {Q : AQ} (h : wp Bk 220 [] (0, 0) (some .boolean) Q c220_10 kc ks ls st w) : Bk 220 10 kc ks ls st w Q := goS ⟨rfl, rfl⟩ h
theorem g221_0 {kc ks : Nat} {ls st : List Value} {w : AW} {Q : AQ} (h : wp Bk 221 [] (0, 0) (some .boolean) Q c221_0 kc ks ls st w) : Bk 221 0 kc ks ls st w Q := goS ⟨k221_0, rfl⟩ h
theorem g221_20 {kc ks : Nat} {ls st : List Value} {w : AW} {Q : AQ} (h : wp Bk 221 [] (0, 0) (some .boolean) Q c221_20 kc ks ls st w) : Bk 221 20 kc ks ls st w Q := goS ⟨k221_20, rfl⟩ h
theorem g221_29 {kc ks : Nat} {ls st : List Value} {w : AW} {Q : AQ} (h : wp Bk 221 [] (0, 0) (some .boolean) Q c221_29 kc ks ls st w) : Bk 221 29 kc ks ls st w Q := goS ⟨k221_29, rfl⟩ h
theorem g221_35 {kc ks : Nat} {ls st : List Value} {w : AW} {Q : AQ} (h : wp Bk 221 [] (0, 0) (some .boolean) Q c221_35 kc ks ls st w) : Bk 221 35 kc ks ls st w Q := goS ⟨k221_35, rfl⟩ h
theorem g221_42 {kc ks : Nat} {ls st : List Value} {w : AW} {Q : AQ} (h : wp Bk 221 [] (0, 0) (some .boolean) Q c221_42 kc ks ls st w) : Bk 221 42 kc ks ls st w Q := goS ⟨k221_42, rfl⟩ h
theorem g221_49 {kc ks : Nat} {ls st : List Value} {w : AW} {Q : AQ} (h : wp Bk 221 [] (0, 0) (some .boolean) Q c221_49 kc ks ls st w) : Bk 221 49 kc ks ls st w Q := goS ⟨k221_49, rfl⟩ h
theorem g221_60 {kc ks : Nat} {ls st : List Value} {w : AW} {Q : AQ} (h : wp Bk 221 [] (0, 0) (some .boolean) Q c221_60 kc ks ls st w) : Bk 221 60 kc ks ls st w Q := goS ⟨k221_60, rfl⟩ h
theorem g222_0 {kc ks : Nat} {ls st : List Value} {w : AW} {Q : AQ} (h : wp Bk 222 [] (0, 0) (some .boolean) Q c222_0 kc ks ls st w) : Bk 222 0 kc ks ls st w Q := goS ⟨rfl, rfl⟩ h
theorem g222_5 {kc ks : Nat} {ls st : List Value} {w : AW} {Q : AQ} (h : wp Bk 222 [] (0, 0) (some .boolean) Q c222_5 kc ks ls st w) : Bk 222 5 kc ks ls st w Q := goS ⟨rfl, rfl⟩ h
theorem g222_15 {kc ks : Nat} {ls st : List Value} {w : AW} {Q : AQ} (h : wp Bk 222 [] (0, 0) (some .boolean) Q c222_15 kc ks ls st w) : Bk 222 15 kc ks ls st w Q := goS ⟨rfl, rfl⟩ h
theorem g222_21 {kc ks : Nat} {ls st : List Value} {w : AW} {Q : AQ} (h : wp Bk 222 [] (0, 0) (some .boolean) Q c222_21 kc ks ls st w) : Bk 222 21 kc ks ls st w Q := goS ⟨rfl, rfl⟩ h
theorem g222_29 {kc ks : Nat} {ls st : List Value} {w : AW} {Q : AQ} (h : wp Bk 222 [] (0, 0) (some .boolean) Q c222_29 kc ks ls st w) : Bk 222 29 kc ks ls st w Q := goS ⟨rfl, rfl⟩ h
theorem g222_32 {kc ks : Nat} {ls st : List Value} {w : AW} {Q : AQ} (h : wp Bk 222 [] (0, 0) (some .boolean) Q c222_32 kc ks ls st w) : Bk 222 32 kc ks ls st w Q := goS ⟨rfl, rfl⟩ h
theorem g222_45 {kc ks : Nat} {ls st : List Value} {w : AW} {Q : AQ} (h : wp Bk 222 [] (0, 0) (some .boolean) Q c222_45 kc ks ls st w) : Bk 222 45 kc ks ls st w Q := goS ⟨rfl, rfl⟩ h
theorem g223_0 {kc ks : Nat} {ls st : List Value} {w : AW} {Q : AQ} (h : wp Bk 223 [] (0, 0) (some .int) Q c223_0 kc ks ls st w) : Bk 223 0 kc ks ls st w Q := goS ⟨rfl, rfl⟩ h
theorem g223_4 {kc ks : Nat} {ls st : List Value} {w : AW} {Q : AQ} (h : wp Bk 223 [] (0, 0) (some .int) Q c223_4 kc ks ls st w) : Bk 223 4 kc ks ls st w Q := goS ⟨rfl, rfl⟩ h
theorem g223_19 {kc ks : Nat} {ls st : List Value} {w : AW} {Q : AQ} (h : wp Bk 223 [] (0, 0) (some .int) Q c223_19 kc ks ls st w) : Bk 223 19 kc ks ls st w Q := goS ⟨rfl, rfl⟩ h
theorem g223_21 {kc ks : Nat} {ls st : List Value} {w : AW} {Q : AQ} (h : wp Bk 223 [] (0, 0) (some .int) Q c223_21 kc ks ls st w) : Bk 223 21 kc ks ls st w Q := goS ⟨rfl, rfl⟩ h
theorem g223_31 {kc ks : Nat} {ls st : List Value} {w : AW} {Q : AQ} (h : wp Bk 223 [] (0, 0) (some .int) Q c223_31 kc ks ls st w) : Bk 223 31 kc ks ls st w Q := goS ⟨rfl, rfl⟩ h
theorem g224_0 {kc ks : Nat} {ls st : List Value} {w : AW} {Q : AQ} (h : wp Bk 224 [] (1, 6) (some .int) Q c224_0 kc ks ls st w) : Bk 224 0 kc ks ls st w Q := goS ⟨rfl, rfl⟩ h
theorem g224_15 {kc ks : Nat} {ls st : List Value} {w : AW} {Q : AQ} (h : wp Bk 224 [] (1, 6) (some .int) Q c224_15 kc ks ls st w) : Bk 224 15 kc ks ls st w Q := goS ⟨rfl, rfl⟩ h
theorem g224_44 {kc ks : Nat} {ls st : List Value} {w : AW} {Q : AQ} (h : wp Bk 224 [] (1, 6) (some .int) Q c224_44 kc ks ls st w) : Bk 224 44 kc ks ls st w Q := goS ⟨rfl, rfl⟩ h
theorem g225_0 {kc ks : Nat} {ls st : List Value} {w : AW} {Q : AQ} (h : wp Bk 225 [("java/lang/IllegalArgumentException", 8, 2), ("java/lang/IllegalStateException", 11, 2)] (1, 6) (some .int) Q c225_0 kc ks ls st w) : Bk 225 0 kc ks ls st w Q := goS ⟨rfl, rfl⟩ h
theorem g225_8 {kc ks : Nat} {ls st : List Value} {w : AW} {Q : AQ} (h : wp Bk 225 [("java/lang/IllegalArgumentException", 8, 2), ("java/lang/IllegalStateException", 11, 2)] (1, 6) (some .int) Q c225_8 kc ks ls st w) : Bk 225 8 kc ks ls st w Q := goS ⟨rfl, rfl⟩ h
theorem g225_11 {kc ks : Nat} {ls st : List Value} {w : AW} {Q : AQ} (h : wp Bk 225 [("java/lang/IllegalArgumentException", 8, 2), ("java/lang/IllegalStateException", 11, 2)] (1, 6) (some .int) Q c225_11 kc ks ls st w) : Bk 225 11 kc ks ls st w Q := goS ⟨rfl, rfl⟩ h
theorem g225_13 {kc ks : Nat} {ls st : List Value} {w : AW} {Q : AQ} (h : wp Bk 225 [("java/lang/IllegalArgumentException", 8, 2), ("java/lang/IllegalStateException", 11, 2)] (1, 6) (some .int) Q c225_13 kc ks ls st w) : Bk 225 13 kc ks ls st w Q := goS ⟨rfl, rfl⟩ h
theorem g226_0 {kc ks : Nat} {ls st : List Value} {w : AW} {Q : AQ} (h : wp Bk 226 [] (0, 0) (some .int) Q c226_0 kc ks ls st w) : Bk 226 0 kc ks ls st w Q := goS ⟨rfl, rfl⟩ h
theorem g226_11 {kc ks : Nat} {ls st : List Value} {w : AW} {Q : AQ} (h : wp Bk 226 [] (0, 0) (some .int) Q c226_11 kc ks ls st w) : Bk 226 11 kc ks ls st w Q := goS ⟨rfl, rfl⟩ h
theorem g226_12 {kc ks : Nat} {ls st : List Value} {w : AW} {Q : AQ} (h : wp Bk 226 [] (0, 0) (some .int) Q c226_12 kc ks ls st w) : Bk 226 12 kc ks ls st w Q := goS ⟨rfl, rfl⟩ h
theorem g227_0 {kc ks : Nat} {ls st : List Value} {w : AW} {Q : AQ} (h : wp Bk 227 [] (0, 0) (some .boolean) Q c227_0 kc ks ls st w) : Bk 227 0 kc ks ls st w Q := goS ⟨rfl, rfl⟩ h
theorem g227_6 {kc ks : Nat} {ls st : List Value} {w : AW} {Q : AQ} (h : wp Bk 227 [] (0, 0) (some .boolean) Q c227_6 kc ks ls st w) : Bk 227 6 kc ks ls st w Q := goS ⟨rfl, rfl⟩ h
theorem g228_0 {kc ks : Nat} {ls st : List Value} {w : AW} {Q : AQ} (h : wp Bk 228 [] (0, 0) (some .boolean) Q c228_0 kc ks ls st w) : Bk 228 0 kc ks ls st w Q := goS ⟨rfl, rfl⟩ h
theorem g228_10 {kc ks : Nat} {ls st : List Value} {w : AW} {Q : AQ} (h : wp Bk 228 [] (0, 0) (some .boolean) Q c228_10 kc ks ls st w) : Bk 228 10 kc ks ls st w Q := goS ⟨rfl, rfl⟩ h
theorem g228_22 {kc ks : Nat} {ls st : List Value} {w : AW} {Q : AQ} (h : wp Bk 228 [] (0, 0) (some .boolean) Q c228_22 kc ks ls st w) : Bk 228 22 kc ks ls st w Q := goS ⟨rfl, rfl⟩ h
theorem g228_24 {kc ks : Nat} {ls st : List Value} {w : AW} {Q : AQ} (h : wp Bk 228 [] (0, 0) (some .boolean) Q c228_24 kc ks ls st w) : Bk 228 24 kc ks ls st w Q := goS ⟨rfl, rfl⟩ h
theorem g229_0 {kc ks : Nat} {ls st : List Value} {w : AW} {Q : AQ} (h : wp Bk 229 [] (0, 0) (some .boolean) Q c229_0 kc ks ls st w) : Bk 229 0 kc ks ls st w Q := goS ⟨rfl, rfl⟩ h
theorem g229_10 {kc ks : Nat} {ls st : List Value} {w : AW} {Q : AQ} (h : wp Bk 229 [] (0, 0) (some .boolean) Q c229_10 kc ks ls st w) : Bk 229 10 kc ks ls st w Q := goS ⟨rfl, rfl⟩ h
theorem g229_12 {kc ks : Nat} {ls st : List Value} {w : AW} {Q : AQ} (h : wp Bk 229 [] (0, 0) (some .boolean) Q c229_12 kc ks ls st w) : Bk 229 12 kc ks ls st w Q := goS ⟨rfl, rfl⟩ h
theorem g230_0 {kc ks : Nat} {ls st : List Value} {w : AW} {Q : AQ} (h : wp Bk 230 [] (0, 0) (some .boolean) Q c230_0 kc ks ls st w) : Bk 230 0 kc ks ls st w Q := goS ⟨rfl, rfl⟩ h
theorem g230_12 {kc ks : Nat} {ls st : List Value} {w : AW} {Q : AQ} (h : wp Bk 230 [] (0, 0) (some .boolean) Q c230_12 kc ks ls st w) : Bk 230 12 kc ks ls st w Q := goS ⟨rfl, rfl⟩ h
theorem g230_13 {kc ks : Nat} {ls st : List Value} {w : AW} {Q : AQ} (h : wp Bk 230 [] (0, 0) (some .boolean) Q c230_13 kc ks ls st w) : Bk 230 13 kc ks ls st w Q := goS ⟨rfl, rfl⟩ h
theorem g231_0 {kc ks : Nat} {ls st : List Value} {w : AW} {Q : AQ} (h : wp Bk 231 [] (0, 0) (some .boolean) Q c231_0 kc ks ls st w) : Bk 231 0 kc ks ls st w Q := goS ⟨rfl, rfl⟩ h
theorem g231_15 {kc ks : Nat} {ls st : List Value} {w : AW} {Q : AQ} (h : wp Bk 231 [] (0, 0) (some .boolean) Q c231_15 kc ks ls st w) : Bk 231 15 kc ks ls st w Q := goS ⟨rfl, rfl⟩ h
theorem g231_16 {kc ks : Nat} {ls st : List Value} {w : AW} {Q : AQ} (h : wp Bk 231 [] (0, 0) (some .boolean) Q c231_16 kc ks ls st w) : Bk 231 16 kc ks ls st w Q := goS ⟨rfl, rfl⟩ h
theorem g231_17 {kc ks : Nat} {ls st : List Value} {w : AW} {Q : AQ} (h : wp Bk 231 [] (0, 0) (some .boolean) Q c231_17 kc ks ls st w) : Bk 231 17 kc ks ls st w Q := goS ⟨rfl, rfl⟩ h
theorem g231_26 {kc ks : Nat} {ls st : List Value} {w : AW} {Q : AQ} (h : wp Bk 231 [] (0, 0) (some .boolean) Q c231_26 kc ks ls st w) : Bk 231 26 kc ks ls st w Q := goS ⟨rfl, rfl⟩ h
theorem g231_37 {kc ks : Nat} {ls st : List Value} {w : AW} {Q : AQ} (h : wp Bk 231 [] (0, 0) (some .boolean) Q c231_37 kc ks ls st w) : Bk 231 37 kc ks ls st w Q := goS ⟨rfl, rfl⟩ h
theorem g231_38 {kc ks : Nat} {ls st : List Value} {w : AW} {Q : AQ} (h : wp Bk 231 [] (0, 0) (some .boolean) Q c231_38 kc ks ls st w) : Bk 231 38 kc ks ls st w Q := goS ⟨rfl, rfl⟩ h
theorem g232_0 {kc ks : Nat} {ls st : List Value} {w : AW} {Q : AQ} (h : wp Bk 232 [] (0, 0) (some .boolean) Q c232_0 kc ks ls st w) : Bk 232 0 kc ks ls st w Q := goS ⟨rfl, rfl⟩ h
theorem g232_6 {kc ks : Nat} {ls st : List Value} {w : AW} {Q : AQ} (h : wp Bk 232 [] (0, 0) (some .boolean) Q c232_6 kc ks ls st w) : Bk 232 6 kc ks ls st w Q := goS ⟨rfl, rfl⟩ h
theorem g232_28 {kc ks : Nat} {ls st : List Value} {w : AW} {Q : AQ} (h : wp Bk 232 [] (0, 0) (some .boolean) Q c232_28 kc ks ls st w) : Bk 232 28 kc ks ls st w Q := goS ⟨rfl, rfl⟩ h
theorem g232_30 {kc ks : Nat} {ls st : List Value} {w : AW} {Q : AQ} (h : wp Bk 232 [] (0, 0) (some .boolean) Q c232_30 kc ks ls st w) : Bk 232 30 kc ks ls st w Q := goS ⟨rfl, rfl⟩ h
theorem g232_31 {kc ks : Nat} {ls st : List Value} {w : AW} {Q : AQ} (h : wp Bk 232 [] (0, 0) (some .boolean) Q c232_31 kc ks ls st w) : Bk 232 31 kc ks ls st w Q := goS ⟨rfl, rfl⟩ h
theorem g233_0 {kc ks : Nat} {ls st : List Value} {w : AW} {Q : AQ} (h : wp Bk 233 [] (0, 0) (some .boolean) Q c233_0 kc ks ls st w) : Bk 233 0 kc ks ls st w Q := goS ⟨rfl, rfl⟩ h
theorem g233_22 {kc ks : Nat} {ls st : List Value} {w : AW} {Q : AQ} (h : wp Bk 233 [] (0, 0) (some .boolean) Q c233_22 kc ks ls st w) : Bk 233 22 kc ks ls st w Q := goS ⟨rfl, rfl⟩ h
theorem g233_24 {kc ks : Nat} {ls st : List Value} {w : AW} {Q : AQ} (h : wp Bk 233 [] (0, 0) (some .boolean) Q c233_24 kc ks ls st w) : Bk 233 24 kc ks ls st w Q := goS ⟨rfl, rfl⟩ h
theorem g233_25 {kc ks : Nat} {ls st : List Value} {w : AW} {Q : AQ} (h : wp Bk 233 [] (0, 0) (some .boolean) Q c233_25 kc ks ls st w) : Bk 233 25 kc ks ls st w Q := goS ⟨rfl, rfl⟩ h
theorem g234_0 {kc ks : Nat} {ls st : List Value} {w : AW} {Q : AQ} (h : wp Bk 234 [] (0, 0) (some .boolean) Q c234_0 kc ks ls st w) : Bk 234 0 kc ks ls st w Q := goS ⟨k234_0, rfl⟩ h
theorem g234_15 {kc ks : Nat} {ls st : List Value} {w : AW} {Q : AQ} (h : wp Bk 234 [] (0, 0) (some .boolean) Q c234_15 kc ks ls st w) : Bk 234 15 kc ks ls st w Q := goS ⟨k234_15, rfl⟩ h
theorem g234_30 {kc ks : Nat} {ls st : List Value} {w : AW} {Q : AQ} (h : wp Bk 234 [] (0, 0) (some .boolean) Q c234_30 kc ks ls st w) : Bk 234 30 kc ks ls st w Q := goS ⟨k234_30, rfl⟩ h
theorem g234_31 {kc ks : Nat} {ls st : List Value} {w : AW} {Q : AQ} (h : wp Bk 234 [] (0, 0) (some .boolean) Q c234_31 kc ks ls st w) : Bk 234 31 kc ks ls st w Q := goS ⟨k234_31, rfl⟩ h
theorem g234_32 {kc ks : Nat} {ls st : List Value} {w : AW} {Q : AQ} (h : wp Bk 234 [] (0, 0) (some .boolean) Q c234_32 kc ks ls st w) : Bk 234 32 kc ks ls st w Q := goS ⟨k234_32, rfl⟩ h
theorem g234_47 {kc ks : Nat} {ls st : List Value} {w : AW} {Q : AQ} (h : wp Bk 234 [] (0, 0) (some .boolean) Q c234_47 kc ks ls st w) : Bk 234 47 kc ks ls st w Q := goS ⟨k234_47, rfl⟩ h
theorem g234_48 {kc ks : Nat} {ls st : List Value} {w : AW} {Q : AQ} (h : wp Bk 234 [] (0, 0) (some .boolean) Q c234_48 kc ks ls st w) : Bk 234 48 kc ks ls st w Q := goS ⟨k234_48, rfl⟩ h
theorem g234_49 {kc ks : Nat} {ls st : List Value} {w : AW} {Q : AQ} (h : wp Bk 234 [] (0, 0) (some .boolean) Q c234_49 kc ks ls st w) : Bk 234 49 kc ks ls st w Q := goS ⟨k234_49, rfl⟩ h
theorem g234_64 {kc ks : Nat} {ls st : List Value} {w : AW} {Q : AQ} (h : wp Bk 234 [] (0, 0) (some .boolean) Q c234_64 kc ks ls st w) : Bk 234 64 kc ks ls st w Q := goS ⟨k234_64, rfl⟩ h
theorem g234_65 {kc ks : Nat} {ls st : List Value} {w : AW} {Q : AQ} (h : wp Bk 234 [] (0, 0) (some .boolean) Q c234_65 kc ks ls st w) : Bk 234 65 kc ks ls st w Q := goS ⟨k234_65, rfl⟩ h
theorem g234_66 {kc ks : Nat} {ls st : List Value} {w : AW} {Q : AQ} (h : wp Bk 234 [] (0, 0) (some .boolean) Q c234_66 kc ks ls st w) : Bk 234 66 kc ks ls st w Q := goS ⟨k234_66, rfl⟩ h
theorem g234_87 {kc ks : Nat} {ls st : List Value} {w : AW} {Q : AQ} (h : wp Bk 234 [] (0, 0) (some .boolean) Q c234_87 kc ks ls st w) : Bk 234 87 kc ks ls st w Q := goS ⟨k234_87, rfl⟩ h
theorem g234_88 {kc ks : Nat} {ls st : List Value} {w : AW} {Q : AQ} (h : wp Bk 234 [] (0, 0) (some .boolean) Q c234_88 kc ks ls st w) : Bk 234 88 kc ks ls st w Q := goS ⟨k234_88, rfl⟩ h
theorem g234_89 {kc ks : Nat} {ls st : List Value} {w : AW} {Q : AQ} (h : wp Bk 234 [] (0, 0) (some .boolean) Q c234_89 kc ks ls st w) : Bk 234 89 kc ks ls st w Q := goS ⟨k234_89, rfl⟩ h
theorem g234_98 {kc ks : Nat} {ls st : List Value} {w : AW} {Q : AQ} (h : wp Bk 234 [] (0, 0) (some .boolean) Q c234_98 kc ks ls st w) : Bk 234 98 kc ks ls st w Q := goS ⟨k234_98, rfl⟩ h
theorem g234_104 {kc ks : Nat} {ls st : List Value} {w : AW} {Q : AQ} (h : wp Bk 234 [] (0, 0) (some .boolean) Q c234_104 kc ks ls st w) : Bk 234 104 kc ks ls st w Q := goS ⟨k234_104, rfl⟩ h
theorem g234_119 {kc ks : Nat} {ls st : List Value} {w : AW} {Q : AQ} (h : wp Bk 234 [] (0, 0) (some .boolean) Q c234_119 kc ks ls st w) : Bk 234 119 kc ks ls st w Q := goS ⟨k234_119, rfl⟩ h
theorem g234_121 {kc ks : Nat} {ls st : List Value} {w : AW} {Q : AQ} (h : wp Bk 234 [] (0, 0) (some .boolean) Q c234_121 kc ks ls st w) : Bk 234 121 kc ks ls st w Q := goS ⟨k234_121, rfl⟩ h
theorem g234_132 {kc ks : Nat} {ls st : List Value} {w : AW} {Q : AQ} (h : wp Bk 234 [] (0, 0) (some .boolean) Q c234_132 kc ks ls st w) : Bk 234 132 kc ks ls st w Q := goS ⟨k234_132, rfl⟩ h
theorem g234_133 {kc ks : Nat} {ls st : List Value} {w : AW} {Q : AQ} (h : wp Bk 234 [] (0, 0) (some .boolean) Q c234_133 kc ks ls st w) : Bk 234 133 kc ks ls st w Q := goS ⟨k234_133, rfl⟩ h
theorem g235_0 {kc ks : Nat} {ls st : List Value} {w : AW} {Q : AQ} (h : wp Bk 235 [] (0, 0) (some .boolean) Q c235_0 kc ks ls st w) : Bk 235 0 kc ks ls st w Q := goS ⟨rfl, rfl⟩ h
theorem g235_6 {kc ks : Nat} {ls st : List Value} {w : AW} {Q : AQ} (h : wp Bk 235 [] (0, 0) (some .boolean) Q c235_6 kc ks ls st w) : Bk 235 6 kc ks ls st w Q := goS ⟨rfl, rfl⟩ h
theorem g235_11 {kc ks : Nat} {ls st : List Value} {w : AW} {Q : AQ} (h : wp Bk 235 [] (0, 0) (some .boolean) Q c235_11 kc ks ls st w) : Bk 235 11 kc ks ls st w Q := goS ⟨rfl, rfl⟩ h
theorem g235_28 {kc ks : Nat} {ls st : List Value} {w : AW} {Q : AQ} (h : wp Bk 235 [] (0, 0) (some .boolean) Q c235_28 kc ks ls st w) : Bk 235 28 kc ks ls st w Q := goS ⟨rfl, rfl⟩ h
theorem g235_29 {kc ks : Nat} {ls st : List Value} {w : AW} {Q : AQ} (h : wp Bk 235 [] (0, 0) (some .boolean) Q c235_29 kc ks ls st w) : Bk 235 29 kc ks ls st w Q := goS ⟨rfl, rfl⟩ h
theorem g236_0 {kc ks : Nat} {ls st : List Value} {w : AW} {Q : AQ} (h : wp Bk 236 [] (0, 0) (some .int) Q c236_0 kc ks ls st w) : Bk 236 0 kc ks ls st w Q := goS ⟨k236_0, rfl⟩ h
theorem g236_19 {kc ks : Nat} {ls st : List Value} {w : AW} {Q : AQ} (h : wp Bk 236 [] (0, 0) (some .int) Q c236_19 kc ks ls st w) : Bk 236 19 kc ks ls st w Q := goS ⟨k236_19, rfl⟩ h
theorem g236_24 {kc ks : Nat} {ls st : List Value} {w : AW} {Q : AQ} (h : wp Bk 236 [] (0, 0) (some .int) Q c236_24 kc ks ls st w) : Bk 236 24 kc ks ls st w Q := goS ⟨k236_24, rfl⟩ h
theorem g236_32 {kc ks : Nat} {ls st : List Value} {w : AW} {Q : AQ} (h : wp Bk 236 [] (0, 0) (some .int) Q c236_32 kc ks ls st w) : Bk 236 32 kc ks ls st w Q := goS ⟨k236_32, rfl⟩ h
theorem g236_33 {kc ks : Nat} {ls st : List Value} {w : AW} {Q : AQ} (h : wp Bk 236 [] (0, 0) (some .int) Q c236_33 kc ks ls st w) : Bk 236 33 kc ks ls st w Q := goS ⟨k236_33, rfl⟩ h
theorem g236_34 {kc ks : Nat} {ls st : List Value} {w : AW} {Q : AQ} (h : wp Bk 236 [] (0, 0) (some .int) Q c236_34 kc ks ls st w) : Bk 236 34 kc ks ls st w Q := goS ⟨k236_34, rfl⟩ h
theorem g236_42 {kc ks : Nat} {ls st : List Value} {w : AW} {Q : AQ} (h : wp Bk 236 [] (0, 0) (some .int) Q c236_42 kc ks ls st w) : Bk 236 42 kc ks ls st w Q := goS ⟨k236_42, rfl⟩ h
theorem g236_43 {kc ks : Nat} {ls st : List Value} {w : AW} {Q : AQ} (h : wp Bk 236 [] (0, 0) (some .int) Q c236_43 kc ks ls st w) : Bk 236 43 kc ks ls st w Q := goS ⟨k236_43, rfl⟩ h
theorem g236_44 {kc ks : Nat} {ls st : List Value} {w : AW} {Q : AQ} (h : wp Bk 236 [] (0, 0) (some .int) Q c236_44 kc ks ls st w) : Bk 236 44 kc ks ls st w Q := goS ⟨k236_44, rfl⟩ h
theorem g236_51 {kc ks : Nat} {ls st : List Value} {w : AW} {Q : AQ} (h : wp Bk 236 [] (0, 0) (some .int) Q c236_51 kc ks ls st w) : Bk 236 51 kc ks ls st w Q := goS ⟨k236_51, rfl⟩ h
theorem g236_52 {kc ks : Nat} {ls st : List Value} {w : AW} {Q : AQ} (h : wp Bk 236 [] (0, 0) (some .int) Q c236_52 kc ks ls st w) : Bk 236 52 kc ks ls st w Q := goS ⟨k236_52, rfl⟩ h
theorem g236_53 {kc ks : Nat} {ls st : List Value} {w : AW} {Q : AQ} (h : wp Bk 236 [] (0, 0) (some .int) Q c236_53 kc ks ls st w) : Bk 236 53 kc ks ls st w Q := goS ⟨k236_53, rfl⟩ h
theorem g236_58 {kc ks : Nat} {ls st : List Value} {w : AW} {Q : AQ} (h : wp Bk 236 [] (0, 0) (some .int) Q c236_58 kc ks ls st w) : Bk 236 58 kc ks ls st w Q := goS ⟨k236_58, rfl⟩ h
theorem g236_63 {kc ks : Nat} {ls st : List Value} {w : AW} {Q : AQ} (h : wp Bk 236 [] (0, 0) (some .int) Q c236_63 kc ks ls st w) : Bk 236 63 kc ks ls st w Q := goS ⟨k236_63, rfl⟩ h
theorem g236_75 {kc ks : Nat} {ls st : List Value} {w : AW} {Q : AQ} (h : wp Bk 236 [] (0, 0) (some .int) Q c236_75 kc ks ls st w) : Bk 236 75 kc ks ls st w Q := goS ⟨k236_75, rfl⟩ h
theorem g236_78 {kc ks : Nat} {ls st : List Value} {w : AW} {Q : AQ} (h : wp Bk 236 [] (0, 0) (some .int) Q c236_78 kc ks ls st w) : Bk 236 78 kc ks ls st w Q := goS ⟨k236_78, rfl⟩ h
theorem g236_81 {kc ks : Nat} {ls st : List Value} {w : AW} {Q : AQ} (h : wp Bk 236 [] (0, 0) (some .int) Q c236_81 kc ks ls st w) : Bk 236 81 kc ks ls st w Q := goS ⟨k236_81, rfl⟩ h
theorem g237_0 {kc ks : Nat} {ls st : List Value} {w : AW} {Q : AQ} (h : wp Bk 237 [] (0, 0) (some .int) Q c237_0 kc ks ls st w) : Bk 237 0 kc ks ls st w Q := goS ⟨k237_0, rfl⟩ h
theorem g237_9 {kc ks : Nat} {ls st : List Value} {w : AW} {Q : AQ} (h : wp Bk 237 [] (0, 0) (some .int) Q c237_9 kc ks ls st w) : Bk 237 9 kc ks ls st w Q := goS ⟨k237_9, rfl⟩ h
theorem g237_17 {kc ks : Nat} {ls st : List Value} {w : AW} {Q : AQ} (h : wp Bk 237 [] (0, 0) (some .int) Q c237_17 kc ks ls st w) : Bk 237 17 kc ks ls st w Q := goS ⟨k237_17, rfl⟩ h
theorem g237_18 {kc ks : Nat} {ls st : List Value} {w : AW} {Q : AQ} (h : wp Bk 237 [] (0, 0) (some .int) Q c237_18 kc ks ls st w) : Bk 237 18 kc ks ls st w Q := goS ⟨k237_18, rfl⟩ h
theorem g237_22 {kc ks : Nat} {ls st : List Value} {w : AW} {Q : AQ} (h : wp Bk 237 [] (0, 0) (some .int) Q c237_22 kc ks ls st w) : Bk 237 22 kc ks ls st w Q := goS ⟨k237_22, rfl⟩ h
theorem g237_36 {kc ks : Nat} {ls st : List Value} {w : AW} {Q : AQ} (h : wp Bk 237 [] (0, 0) (some .int) Q c237_36 kc ks ls st w) : Bk 237 36 kc ks ls st w Q := goS ⟨k237_36, rfl⟩ h
theorem g237_54 {kc ks : Nat} {ls st : List Value} {w : AW} {Q : AQ} (h : wp Bk 237 [] (0, 0) (some .int) Q c237_54 kc ks ls st w) : Bk 237 54 kc ks ls st w Q := goS ⟨k237_54, rfl⟩ h
theorem g237_77 {kc ks : Nat} {ls st : List Value} {w : AW} {Q : AQ} (h : wp Bk 237 [] (0, 0) (some .int) Q c237_77 kc ks ls st w) : Bk 237 77 kc ks ls st w Q := goS ⟨k237_77, rfl⟩ h
theorem g237_78 {kc ks : Nat} {ls st : List Value} {w : AW} {Q : AQ} (h : wp Bk 237 [] (0, 0) (some .int) Q c237_78 kc ks ls st w) : Bk 237 78 kc ks ls st w Q := goS ⟨k237_78, rfl⟩ h
theorem g237_79 {kc ks : Nat} {ls st : List Value} {w : AW} {Q : AQ} (h : wp Bk 237 [] (0, 0) (some .int) Q c237_79 kc ks ls st w) : Bk 237 79 kc ks ls st w Q := goS ⟨k237_79, rfl⟩ h
theorem g238_0 {kc ks : Nat} {ls st : List Value} {w : AW} {Q : AQ} (h : wp Bk 238 [] (1, 6) (some .int) Q c238_0 kc ks ls st w) : Bk 238 0 kc ks ls st w Q := goS ⟨rfl, rfl⟩ h
theorem g238_5 {kc ks : Nat} {ls st : List Value} {w : AW} {Q : AQ} (h : wp Bk 238 [] (1, 6) (some .int) Q c238_5 kc ks ls st w) : Bk 238 5 kc ks ls st w Q := goS ⟨rfl, rfl⟩ h
theorem g239_0 {kc ks : Nat} {ls st : List Value} {w : AW} {Q : AQ} (h : wp Bk 239 [("java/util/NoSuchElementException", 8, 2)] (1, 6) (some .int) Q c239_0 kc ks ls st w) : Bk 239 0 kc ks ls st w Q := goS ⟨rfl, rfl⟩ h
theorem g239_8 {kc ks : Nat} {ls st : List Value} {w : AW} {Q : AQ} (h : wp Bk 239 [("java/util/NoSuchElementException", 8, 2)] (1, 6) (some .int) Q c239_8 kc ks ls st w) : Bk 239 8 kc ks ls st w Q := goS ⟨rfl, rfl⟩ h
theorem g239_10 {kc ks : Nat} {ls st : List Value} {w : AW} {Q : AQ} (h : wp Bk 239 [("java/util/NoSuchElementException", 8, 2)] (1, 6) (some .int) Q c239_10 kc ks ls st w) : Bk 239 10 kc ks ls st w Q := goS ⟨rfl, rfl⟩ h
theorem g240_0 {kc ks : Nat} {ls st : List Value} {w : AW} {Q : AQ} (h : wp Bk 240 [] (0, 0) (some .int) Q c240_0 kc ks ls st w) : Bk 240 0 kc ks ls st w Q := goS ⟨rfl, rfl⟩ h
theorem g240_6 {kc ks : Nat} {ls st : List Value} {w : AW} {Q : AQ} (h : wp Bk 240 [] (0, 0) (some .int) Q c240_6 kc ks ls st w) : Bk 240 6 kc ks ls st w Q := goS ⟨rfl, rfl⟩ h
theorem g240_7 {kc ks : Nat} {ls st : List Value} {w : AW} {Q : AQ} (h : wp Bk 240 [] (0, 0) (some .int) Q c240_7 kc ks ls st w) : Bk 240 7 kc ks ls st w Q := goS ⟨rfl, rfl⟩ h
theorem g240_11 {kc ks : Nat} {ls st : List Value} {w : AW} {Q : AQ} (h : wp Bk 240 [] (0, 0) (some .int) Q c240_11 kc ks ls st w) : Bk 240 11 kc ks ls st w Q := goS ⟨rfl, rfl⟩ h
theorem g240_13 {kc ks : Nat} {ls st : List Value} {w : AW} {Q : AQ} (h : wp Bk 240 [] (0, 0) (some .int) Q c240_13 kc ks ls st w) : Bk 240 13 kc ks ls st w Q := goS ⟨rfl, rfl⟩ h
theorem g241_0 {kc ks : Nat} {ls st : List Value} {w : AW} {Q : AQ} (h : wp Bk 241 [] (1, 6) (some .int) Q c241_0 kc ks ls st w) : Bk 241 0 kc ks ls st w Q := goS ⟨rfl, rfl⟩ h
theorem g241_5 {kc ks : Nat} {ls st : List Value} {w : AW} {Q : AQ} (h : wp Bk 241 [] (1, 6) (some .int) Q c241_5 kc ks ls st w) : Bk 241 5 kc ks ls st w Q := goS ⟨rfl, rfl⟩ h
theorem g242_0 {kc ks : Nat} {ls st : List Value} {w : AW} {Q : AQ} (h : wp Bk 242 [("java/util/NoSuchElementException", 8, 2)] (1, 6) (some .int) Q c242_0 kc ks ls st w) : Bk 242 0 kc ks ls st w Q := goS ⟨rfl, rfl⟩ h
theorem g242_8 {kc ks : Nat} {ls st : List Value} {w : AW} {Q : AQ} (h : wp Bk 242 [("java/util/NoSuchElementException", 8, 2)] (1, 6) (some .int) Q c242_8 kc ks ls st w) : Bk 242 8 kc ks ls st w Q := goS ⟨rfl, rfl⟩ h
theorem g242_10 {kc ks : Nat} {ls st : List Value} {w : AW} {Q : AQ} (h : wp Bk 242 [("java/util/NoSuchElementException", 8, 2)] (1, 6) (some .int) Q c242_10 kc ks ls st w) : Bk 242 10 kc ks ls st w Q := goS ⟨rfl, rfl⟩ h
theorem g243_0 {kc ks : Nat} {ls st : List Value} {w : AW} {Q : AQ} (h : wp Bk 243 [] (0, 0) (some .int) Q c243_0 kc ks ls st w) : Bk 243 0 kc ks ls st w Q := goS ⟨rfl, rfl⟩ h
theorem g243_6 {kc ks : Nat} {ls st : List Value} {w : AW} {Q : AQ} (h : wp Bk 243 [] (0, 0) (some .int) Q c243_6 kc ks ls st w) : Bk 243 6 kc ks ls st w Q := goS ⟨rfl, rfl⟩ h
theorem g243_7 {kc ks : Nat} {ls st : List Value} {w : AW} {Q : AQ} (h : wp Bk 243 [] (0, 0) (some .int) Q c243_7 kc ks ls st w) : Bk 243 7 kc ks ls st w Q := goS ⟨rfl, rfl⟩ h
theorem g243_11 {kc ks : Nat} {ls st : List Value} {w : AW} {Q : AQ} (h : wp Bk 243 [] (0, 0) (some .int) Q c243_11 kc ks ls st w) : Bk 243 11 kc ks ls st w Q := goS ⟨rfl, rfl⟩ h
theorem g243_13 {kc ks : Nat} {ls st : List Value} {w : AW} {Q : AQ} (h : wp Bk 243 [] (0, 0) (some .int) Q c243_13 kc ks ls st w) : Bk 243 13 kc ks ls st w Q := goS ⟨rfl, rfl⟩ h
theorem g244_0 {kc ks : Nat} {ls st : List Value} {w : AW} {Q : AQ} (h : wp Bk 244 [] (0, 0) (none) Q c244_0 kc ks ls st w) : Bk 244 0 kc ks ls st w Q := goS ⟨rfl, rfl⟩ h
theorem g245_0 {kc ks : Nat} {ls st : List Value} {w : AW} {Q : AQ} (h : wp Bk 245 [] (1, 6) (some .int) Q c245_0 kc ks ls st w) : Bk 245 0 kc ks ls st w Q := goS ⟨rfl, rfl⟩ h
theorem g245_5 {kc ks : Nat} {ls st : List Value} {w : AW} {Q : AQ} (h : wp Bk 245 [] (1, 6) (some .int) Q c245_5 kc ks ls st w) : Bk 245 5 kc ks ls st w Q := goS ⟨rfl, rfl⟩ h
theorem g246_0 {kc ks : Nat} {ls st : List Value} {w : AW} {Q : AQ} (h : wp Bk 246 [("java/lang/IllegalStateException", 8, 2)] (1, 6) (some .int) Q c246_0 kc ks ls st w) : Bk 246 0 kc ks ls st w Q := goS ⟨rfl, rfl⟩ h
theorem g246_8 {kc ks : Nat} {ls st : List Value} {w : AW} {Q : AQ} (h : wp Bk 246 [("java/lang/IllegalStateException", 8, 2)] (1, 6) (some .int) Q c246_8 kc ks ls st w) : Bk 246 8 kc ks ls st w Q := goS ⟨rfl, rfl⟩ h
theorem g246_10 {kc ks : Nat} {ls st : List Value} {w : AW} {Q : AQ} (h : wp Bk 246 [("java/lang/IllegalStateException", 8, 2)] (1, 6) (some .int) Q c246_10 kc ks ls st w) : Bk 246 10 kc ks ls st w Q := goS ⟨rfl, rfl⟩ h
theorem g247_0 {kc ks : Nat} {ls st : List Value} {w : AW} {Q : AQ} (h : wp Bk 247 [] (0, 0) (some .int) Q c247_0 kc ks ls st w) : Bk 247 0 kc ks ls st w Q := goS ⟨rfl, rfl⟩ h
theorem g247_6 {kc ks : Nat} {ls st : List Value} {w : AW} {Q : AQ} (h : wp Bk 247 [] (0, 0) (some .int) Q c247_6 kc ks ls st w) : Bk 247 6 kc ks ls st w Q := goS ⟨rfl, rfl⟩ h
theorem g247_7 {kc ks : Nat} {ls st : List Value} {w : AW} {Q : AQ} (h : wp Bk 247 [] (0, 0) (some .int) Q c247_7 kc ks ls st w) : Bk 247 7 kc ks ls st w Q := goS ⟨rfl, rfl⟩ h
theorem g247_11 {kc ks : Nat} {ls st : List Value} {w : AW} {Q : AQ} (h : wp Bk 247 [] (0, 0) (some .int) Q c247_11 kc ks ls st w) : Bk 247 11 kc ks ls st w Q := goS ⟨rfl, rfl⟩ h
theorem g248_0 {kc ks : Nat} {ls st : List Value} {w : AW} {Q : AQ} (h : wp Bk 248 [] (0, 0) (some .int) Q c248_0 kc ks ls st w) : Bk 248 0 kc ks ls st w Q := goS ⟨rfl, rfl⟩ h
theorem g249_0 {kc ks : Nat} {ls st : List Value} {w : AW} {Q : AQ} (h : wp Bk 249 [] (0, 0) (some .int) Q c249_0 kc ks ls st w) : Bk 249 0 kc ks ls st w Q := goS ⟨rfl, rfl⟩ h
theorem g250_0 {kc ks : Nat} {ls st : List Value} {w : AW} {Q : AQ} (h : wp Bk 250 [] (1, 6) (some .int) Q c250_0 kc ks ls st w) : Bk 250 0 kc ks ls st w Q := goS ⟨rfl, rfl⟩ h
theorem g250_4 {kc ks : Nat} {ls st : List Value} {w : AW} {Q : AQ} (h : wp Bk 250 [] (1, 6) (some .int) Q c250_4 kc ks ls st w) : Bk 250 4 kc ks ls st w Q := goS ⟨rfl, rfl⟩ h
theorem g251_0 {kc ks : Nat} {ls st : List Value} {w : AW} {Q : AQ} (h : wp Bk 251 [("java/lang/IllegalStateException", 8, 2)] (1, 6) (some .int) Q c251_0 kc ks ls st w) : Bk 251 0 kc ks ls st w Q := goS ⟨rfl, rfl⟩ h
theorem g251_8 {kc ks : Nat} {ls st : List Value} {w : AW} {Q : AQ} (h : wp Bk 251 [("java/lang/IllegalStateException", 8, 2)] (1, 6) (some .int) Q c251_8 kc ks ls st w) : Bk 251 8 kc ks ls st w Q := goS ⟨rfl, rfl⟩ h
theorem g251_10 {kc ks : Nat} {ls st : List Value} {w : AW} {Q : AQ} (h : wp Bk 251 [("java/lang/IllegalStateException", 8, 2)] (1, 6) (some .int) Q c251_10 kc ks ls st w) : Bk 251 10 kc ks ls st w Q := goS ⟨rfl, rfl⟩ h
theorem g252_0 {kc ks : Nat} {ls st : List Value} {w : AW} {Q : AQ} (h : wp Bk 252 [] (0, 0) (some .int) Q c252_0 kc ks ls st w) : Bk 252 0 kc ks ls st w Q := goS ⟨rfl, rfl⟩ h
theorem g252_6 {kc ks : Nat} {ls st : List Value} {w : AW} {Q : AQ} (h : wp Bk 252 [] (0, 0) (some .int) Q c252_6 kc ks ls st w) : Bk 252 6 kc ks ls st w Q := goS ⟨rfl, rfl⟩ h
theorem g252_7 {kc ks : Nat} {ls st : List Value} {w : AW} {Q : AQ} (h : wp Bk 252 [] (0, 0) (some .int) Q c252_7 kc ks ls st w) : Bk 252 7 kc ks ls st w Q := goS ⟨rfl, rfl⟩ h
theorem g252_11 {kc ks : Nat} {ls st : List Value} {w : AW} {Q : AQ} (h : wp Bk 252 [] (0, 0) (some .int) Q c252_11 kc ks ls st w) : Bk 252 11 kc ks ls st w Q := goS ⟨rfl, rfl⟩ h
theorem g253_0 {kc ks : Nat} {ls st : List Value} {w : AW} {Q : AQ} (h : wp Bk 253 [] (601232, 7292407) (some .boolean) Q c253_0 kc ks ls st w) : Bk 253 0 kc ks ls st w Q := goS ⟨k253_0, rfl⟩ h
theorem g253_13 {kc ks : Nat} {ls st : List Value} {w : AW} {Q : AQ} (h : wp Bk 253 [] (601232, 7292407) (some .boolean) Q c253_13 kc ks ls st w) : Bk 253 13 kc ks ls st w Q := goS ⟨k253_13, rfl⟩ h
theorem g253_25 {kc ks : Nat} {ls st : List Value} {w : AW} {Q : AQ} (h : wp Bk 253 [] (601232, 7292407) (some .boolean) Q c253_25 kc ks ls st w) : Bk 253 25 kc ks ls st w Q := goS ⟨k253_25, rfl⟩ h
theorem g253_58 {kc ks : Nat} {ls st : List Value} {w : AW} {Q : AQ} (h : wp Bk 253 [] (601232, 7292407) (some .boolean) Q c253_58 kc ks ls st w) : Bk 253 58 kc ks ls st w Q := goS ⟨k253_58, rfl⟩ h
theorem g253_69 {kc ks : Nat} {ls st : List Value} {w : AW} {Q : AQ} (h : wp Bk 253 [] (601232, 7292407) (some .boolean) Q c253_69 kc ks ls st w) : Bk 253 69 kc ks ls st w Q := goS ⟨k253_69, rfl⟩ h
theorem g253_70 {kc ks : Nat} {ls st : List Value} {w : AW} {Q : AQ} (h : wp Bk 253 [] (601232, 7292407) (some .boolean) Q c253_70 kc ks ls st w) : Bk 253 70 kc ks ls st w Q := goS ⟨k253_70, rfl⟩ h
theorem g253_95 {kc ks : Nat} {ls st : List Value} {w : AW} {Q : AQ} (h : wp Bk 253 [] (601232, 7292407) (some .boolean) Q c253_95 kc ks ls st w) : Bk 253 95 kc ks ls st w Q := goS ⟨k253_95, rfl⟩ h
theorem g253_106 {kc ks : Nat} {ls st : List Value} {w : AW} {Q : AQ} (h : wp Bk 253 [] (601232, 7292407) (some .boolean) Q c253_106 kc ks ls st w) : Bk 253 106 kc ks ls st w Q := goS ⟨k253_106, rfl⟩ h
theorem g253_107 {kc ks : Nat} {ls st : List Value} {w : AW} {Q : AQ} (h : wp Bk 253 [] (601232, 7292407) (some .boolean) Q c253_107 kc ks ls st w) : Bk 253 107 kc ks ls st w Q := goS ⟨k253_107, rfl⟩ h
theorem g253_126 {kc ks : Nat} {ls st : List Value} {w : AW} {Q : AQ} (h : wp Bk 253 [] (601232, 7292407) (some .boolean) Q c253_126 kc ks ls st w) : Bk 253 126 kc ks ls st w Q := goS ⟨k253_126, rfl⟩ h
theorem g253_127 {kc ks : Nat} {ls st : List Value} {w : AW} {Q : AQ} (h : wp Bk 253 [] (601232, 7292407) (some .boolean) Q c253_127 kc ks ls st w) : Bk 253 127 kc ks ls st w Q := goS ⟨k253_127, rfl⟩ h
theorem g253_149 {kc ks : Nat} {ls st : List Value} {w : AW} {Q : AQ} (h : wp Bk 253 [] (601232, 7292407) (some .boolean) Q c253_149 kc ks ls st w) : Bk 253 149 kc ks ls st w Q := goS ⟨k253_149, rfl⟩ h
theorem g253_150 {kc ks : Nat} {ls st : List Value} {w : AW} {Q : AQ} (h : wp Bk 253 [] (601232, 7292407) (some .boolean) Q c253_150 kc ks ls st w) : Bk 253 150 kc ks ls st w Q := goS ⟨k253_150, rfl⟩ h
theorem g253_158 {kc ks : Nat} {ls st : List Value} {w : AW} {Q : AQ} (h : wp Bk 253 [] (601232, 7292407) (some .boolean) Q c253_158 kc ks ls st w) : Bk 253 158 kc ks ls st w Q := goS ⟨k253_158, rfl⟩ h
theorem g253_167 {kc ks : Nat} {ls st : List Value} {w : AW} {Q : AQ} (h : wp Bk 253 [] (601232, 7292407) (some .boolean) Q c253_167 kc ks ls st w) : Bk 253 167 kc ks ls st w Q := goS ⟨k253_167, rfl⟩ h
theorem g253_168 {kc ks : Nat} {ls st : List Value} {w : AW} {Q : AQ} (h : wp Bk 253 [] (601232, 7292407) (some .boolean) Q c253_168 kc ks ls st w) : Bk 253 168 kc ks ls st w Q := goS ⟨k253_168, rfl⟩ h
theorem g253_172 {kc ks : Nat} {ls st : List Value} {w : AW} {Q : AQ} (h : wp Bk 253 [] (601232, 7292407) (some .boolean) Q c253_172 kc ks ls st w) : Bk 253 172 kc ks ls st w Q := goS ⟨k253_172, rfl⟩ h
theorem g253_173 {kc ks : Nat} {ls st : List Value} {w : AW} {Q : AQ} (h : wp Bk 253 [] (601232, 7292407) (some .boolean) Q c253_173 kc ks ls st w) : Bk 253 173 kc ks ls st w Q := goS ⟨k253_173, rfl⟩ h
theorem g253_206 {kc ks : Nat} {ls st : List Value} {w : AW} {Q : AQ} (h : wp Bk 253 [] (601232, 7292407) (some .boolean) Q c253_206 kc ks ls st w) : Bk 253 206 kc ks ls st w Q := goS ⟨k253_206, rfl⟩ h
theorem g253_217 {kc ks : Nat} {ls st : List Value} {w : AW} {Q : AQ} (h : wp Bk 253 [] (601232, 7292407) (some .boolean) Q c253_217 kc ks ls st w) : Bk 253 217 kc ks ls st w Q := goS ⟨k253_217, rfl⟩ h
theorem g253_218 {kc ks : Nat} {ls st : List Value} {w : AW} {Q : AQ} (h : wp Bk 253 [] (601232, 7292407) (some .boolean) Q c253_218 kc ks ls st w) : Bk 253 218 kc ks ls st w Q := goS ⟨k253_218, rfl⟩ h
theorem g253_225 {kc ks : Nat} {ls st : List Value} {w : AW} {Q : AQ} (h : wp Bk 253 [] (601232, 7292407) (some .boolean) Q c253_225 kc ks ls st w) : Bk 253 225 kc ks ls st w Q := goS ⟨k253_225, rfl⟩ h
theorem g253_232 {kc ks : Nat} {ls st : List Value} {w : AW} {Q : AQ} (h : wp Bk 253 [] (601232, 7292407) (some .boolean) Q c253_232 kc ks ls st w) : Bk 253 232 kc ks ls st w Q := goS ⟨k253_232, rfl⟩ h
theorem g253_239 {kc ks : Nat} {ls st : List Value} {w : AW} {Q : AQ} (h : wp Bk 253 [] (601232, 7292407) (some .boolean) Q c253_239 kc ks ls st w) : Bk 253 239 kc ks ls st w Q := goS ⟨k253_239, rfl⟩ h
theorem g253_272 {kc ks : Nat} {ls st : List Value} {w : AW} {Q : AQ} (h : wp Bk 253 [] (601232, 7292407) (some .boolean) Q c253_272 kc ks ls st w) : Bk 253 272 kc ks ls st w Q := goS ⟨k253_272, rfl⟩ h
theorem g253_281 {kc ks : Nat} {ls st : List Value} {w : AW} {Q : AQ} (h : wp Bk 253 [] (601232, 7292407) (some .boolean) Q c253_281 kc ks ls st w) : Bk 253 281 kc ks ls st w Q := goS ⟨k253_281, rfl⟩ h
theorem g253_282 {kc ks : Nat} {ls st : List Value} {w : AW} {Q : AQ} (h : wp Bk 253 [] (601232, 7292407) (some .boolean) Q c253_282 kc ks ls st w) : Bk 253 282 kc ks ls st w Q := goS ⟨k253_282, rfl⟩ h
theorem g253_286 {kc ks : Nat} {ls st : List Value} {w : AW} {Q : AQ} (h : wp Bk 253 [] (601232, 7292407) (some .boolean) Q c253_286 kc ks ls st w) : Bk 253 286 kc ks ls st w Q := goS ⟨k253_286, rfl⟩ h
theorem g253_287 {kc ks : Nat} {ls st : List Value} {w : AW} {Q : AQ} (h : wp Bk 253 [] (601232, 7292407) (some .boolean) Q c253_287 kc ks ls st w) : Bk 253 287 kc ks ls st w Q := goS ⟨k253_287, rfl⟩ h
theorem g253_320 {kc ks : Nat} {ls st : List Value} {w : AW} {Q : AQ} (h : wp Bk 253 [] (601232, 7292407) (some .boolean) Q c253_320 kc ks ls st w) : Bk 253 320 kc ks ls st w Q := goS ⟨k253_320, rfl⟩ h
theorem g253_329 {kc ks : Nat} {ls st : List Value} {w : AW} {Q : AQ} (h : wp Bk 253 [] (601232, 7292407) (some .boolean) Q c253_329 kc ks ls st w) : Bk 253 329 kc ks ls st w Q := goS ⟨k253_329, rfl⟩ h
theorem g253_330 {kc ks : Nat} {ls st : List Value} {w : AW} {Q : AQ} (h : wp Bk 253 [] (601232, 7292407) (some .boolean) Q c253_330 kc ks ls st w) : Bk 253 330 kc ks ls st w Q := goS ⟨k253_330, rfl⟩ h
theorem g253_334 {kc ks : Nat} {ls st : List Value} {w : AW} {Q : AQ} (h : wp Bk 253 [] (601232, 7292407) (some .boolean) Q c253_334 kc ks ls st w) : Bk 253 334 kc ks ls st w Q := goS ⟨k253_334, rfl⟩ h
theorem g253_335 {kc ks : Nat} {ls st : List Value} {w : AW} {Q : AQ} (h : wp Bk 253 [] (601232, 7292407) (some .boolean) Q c253_335 kc ks ls st w) : Bk 253 335 kc ks ls st w Q := goS ⟨k253_335, rfl⟩ h
theorem g253_342 {kc ks : Nat} {ls st : List Value} {w : AW} {Q : AQ} (h : wp Bk 253 [] (601232, 7292407) (some .boolean) Q c253_342 kc ks ls st w) : Bk 253 342 kc ks ls st w Q := goS ⟨k253_342, rfl⟩ h
theorem g253_365 {kc ks : Nat} {ls st : List Value} {w : AW} {Q : AQ} (h : wp Bk 253 [] (601232, 7292407) (some .boolean) Q c253_365 kc ks ls st w) : Bk 253 365 kc ks ls st w Q := goS ⟨k253_365, rfl⟩ h
theorem g253_376 {kc ks : Nat} {ls st : List Value} {w : AW} {Q : AQ} (h : wp Bk 253 [] (601232, 7292407) (some .boolean) Q c253_376 kc ks ls st w) : Bk 253 376 kc ks ls st w Q := goS ⟨k253_376, rfl⟩ h
theorem g253_377 {kc ks : Nat} {ls st : List Value} {w : AW} {Q : AQ} (h : wp Bk 253 [] (601232, 7292407) (some .boolean) Q c253_377 kc ks ls st w) : Bk 253 377 kc ks ls st w Q := goS ⟨k253_377, rfl⟩ h
theorem g253_400 {kc ks : Nat} {ls st : List Value} {w : AW} {Q : AQ} (h : wp Bk 253 [] (601232, 7292407) (some .boolean) Q c253_400 kc ks ls st w) : Bk 253 400 kc ks ls st w Q := goS ⟨k253_400, rfl⟩ h
theorem g253_411 {kc ks : Nat} {ls st : List Value} {w : AW} {Q : AQ} (h : wp Bk 253 [] (601232, 7292407) (some .boolean) Q c253_411 kc ks ls st w) : Bk 253 411 kc ks ls st w Q := goS ⟨k253_411, rfl⟩ h
theorem g253_412 {kc ks : Nat} {ls st : List Value} {w : AW} {Q : AQ} (h : wp Bk 253 [] (601232, 7292407) (some .boolean) Q c253_412 kc ks ls st w) : Bk 253 412 kc ks ls st w Q := goS ⟨k253_412, rfl⟩ h
theorem g253_445 {kc ks : Nat} {ls st : List Value} {w : AW} {Q : AQ} (h : wp Bk 253 [] (601232, 7292407) (some .boolean) Q c253_445 kc ks ls st w) : Bk 253 445 kc ks ls st w Q := goS ⟨k253_445, rfl⟩ h
theorem g253_456 {kc ks : Nat} {ls st : List Value} {w : AW} {Q : AQ} (h : wp Bk 253 [] (601232, 7292407) (some .boolean) Q c253_456 kc ks ls st w) : Bk 253 456 kc ks ls st w Q := goS ⟨k253_456, rfl⟩ h
theorem g253_457 {kc ks : Nat} {ls st : List Value} {w : AW} {Q : AQ} (h : wp Bk 253 [] (601232, 7292407) (some .boolean) Q c253_457 kc ks ls st w) : Bk 253 457 kc ks ls st w Q := goS ⟨k253_457, rfl⟩ h
theorem g253_490 {kc ks : Nat} {ls st : List Value} {w : AW} {Q : AQ} (h : wp Bk 253 [] (601232, 7292407) (some .boolean) Q c253_490 kc ks ls st w) : Bk 253 490 kc ks ls st w Q := goS ⟨k253_490, rfl⟩ h
theorem g253_501 {kc ks : Nat} {ls st : List Value} {w : AW} {Q : AQ} (h : wp Bk 253 [] (601232, 7292407) (some .boolean) Q c253_501 kc ks ls st w) : Bk 253 501 kc ks ls st w Q := goS ⟨k253_501, rfl⟩ h
theorem g253_502 {kc ks : Nat} {ls st : List Value} {w : AW} {Q : AQ} (h : wp Bk 253 [] (601232, 7292407) (some .boolean) Q c253_502 kc ks ls st w) : Bk 253 502 kc ks ls st w Q := goS ⟨k253_502, rfl⟩ h
theorem g253_535 {kc ks : Nat} {ls st : List Value} {w : AW} {Q : AQ} (h : wp Bk 253 [] (601232, 7292407) (some .boolean) Q c253_535 kc ks ls st w) : Bk 253 535 kc ks ls st w Q := goS ⟨k253_535, rfl⟩ h
theorem g253_544 {kc ks : Nat} {ls st : List Value} {w : AW} {Q : AQ} (h : wp Bk 253 [] (601232, 7292407) (some .boolean) Q c253_544 kc ks ls st w) : Bk 253 544 kc ks ls st w Q := goS ⟨k253_544, rfl⟩ h
theorem g253_545 {kc ks : Nat} {ls st : List Value} {w : AW} {Q : AQ} (h : wp Bk 253 [] (601232, 7292407) (some .boolean) Q c253_545 kc ks ls st w) : Bk 253 545 kc ks ls st w Q := goS ⟨k253_545, rfl⟩ h
theorem g253_549 {kc ks : Nat} {ls st : List Value} {w : AW} {Q : AQ} (h : wp Bk 253 [] (601232, 7292407) (some .boolean) Q c253_549 kc ks ls st w) : Bk 253 549 kc ks ls st w Q := goS ⟨k253_549, rfl⟩ h
theorem g253_550 {kc ks : Nat} {ls st : List Value} {w : AW} {Q : AQ} (h : wp Bk 253 [] (601232, 7292407) (some .boolean) Q c253_550 kc ks ls st w) : Bk 253 550 kc ks ls st w Q := goS ⟨k253_550, rfl⟩ h
theorem g253_583 {kc ks : Nat} {ls st : List Value} {w : AW} {Q : AQ} (h : wp Bk 253 [] (601232, 7292407) (some .boolean) Q c253_583 kc ks ls st w) : Bk 253 583 kc ks ls st w Q := goS ⟨k253_583, rfl⟩ h
theorem g253_592 {kc ks : Nat} {ls st : List Value} {w : AW} {Q : AQ} (h : wp Bk 253 [] (601232, 7292407) (some .boolean) Q c253_592 kc ks ls st w) : Bk 253 592 kc ks ls st w Q := goS ⟨k253_592, rfl⟩ h
theorem g253_593 {kc ks : Nat} {ls st : List Value} {w : AW} {Q : AQ} (h : wp Bk 253 [] (601232, 7292407) (some .boolean) Q c253_593 kc ks ls st w) : Bk 253 593 kc ks ls st w Q := goS ⟨k253_593, rfl⟩ h
theorem g253_597 {kc ks : Nat} {ls st : List Value} {w : AW} {Q : AQ} (h : wp Bk 253 [] (601232, 7292407) (some .boolean) Q c253_597 kc ks ls st w) : Bk 253 597 kc ks ls st w Q := goS ⟨k253_597, rfl⟩ h
theorem g253_598 {kc ks : Nat} {ls st : List Value} {w : AW} {Q : AQ} (h : wp Bk 253 [] (601232, 7292407) (some .boolean) Q c253_598 kc ks ls st w) : Bk 253 598 kc ks ls st w Q := goS ⟨k253_598, rfl⟩ h
theorem g253_605 {kc ks : Nat} {ls st : List Value} {w : AW} {Q : AQ} (h : wp Bk 253 [] (601232, 7292407) (some .boolean) Q c253_605 kc ks ls st w) : Bk 253 605 kc ks ls st w Q := goS ⟨k253_605, rfl⟩ h
theorem g253_612 {kc ks : Nat} {ls st : List Value} {w : AW} {Q : AQ} (h : wp Bk 253 [] (601232, 7292407) (some .boolean) Q c253_612 kc ks ls st w) : Bk 253 612 kc ks ls st w Q := goS ⟨k253_612, rfl⟩ h
theorem g253_619 {kc ks : Nat} {ls st : List Value} {w : AW} {Q : AQ} (h : wp Bk 253 [] (601232, 7292407) (some .boolean) Q c253_619 kc ks ls st w) : Bk 253 619 kc ks ls st w Q := goS ⟨k253_619, rfl⟩ h
theorem g253_626 {kc ks : Nat} {ls st : List Value} {w : AW} {Q : AQ} (h : wp Bk 253 [] (601232, 7292407) (some .boolean) Q c253_626 kc ks ls st w) : Bk 253 626 kc ks ls st w Q := goS ⟨k253_626, rfl⟩ h
theorem g253_633 {kc ks : Nat} {ls st : List Value} {w : AW} {Q : AQ} (h : wp Bk 253 [] (601232, 7292407) (some .boolean) Q c253_633 kc ks ls st w) : Bk 253 633 kc ks ls st w Q := goS ⟨k253_633, rfl⟩ h
theorem g253_666 {kc ks : Nat} {ls st : List Value} {w : AW} {Q : AQ} (h : wp Bk 253 [] (601232, 7292407) (some .boolean) Q c253_666 kc ks ls st w) : Bk 253 666 kc ks ls st w Q := goS ⟨k253_666, rfl⟩ h
theorem g253_675 {kc ks : Nat} {ls st : List Value} {w : AW} {Q : AQ} (h : wp Bk 253 [] (601232, 7292407) (some .boolean) Q c253_675 kc ks ls st w) : Bk 253 675 kc ks ls st w Q := goS ⟨k253_675, rfl⟩ h
theorem g253_676 {kc ks : Nat} {ls st : List Value} {w : AW} {Q : AQ} (h : wp Bk 253 [] (601232, 7292407) (some .boolean) Q c253_676 kc ks ls st w) : Bk 253 676 kc ks ls st w Q := goS ⟨k253_676, rfl⟩ h
theorem g253_680 {kc ks : Nat} {ls st : List Value} {w : AW} {Q : AQ} (h : wp Bk 253 [] (601232, 7292407) (some .boolean) Q c253_680 kc ks ls st w) : Bk 253 680 kc ks ls st w Q := goS ⟨k253_680, rfl⟩ h
theorem g253_681 {kc ks : Nat} {ls st : List Value} {w : AW} {Q : AQ} (h : wp Bk 253 [] (601232, 7292407) (some .boolean) Q c253_681 kc ks ls st w) : Bk 253 681 kc ks ls st w Q := goS ⟨k253_681, rfl⟩ h
theorem g253_688 {kc ks : Nat} {ls st : List Value} {w : AW} {Q : AQ} (h : wp Bk 253 [] (601232, 7292407) (some .boolean) Q c253_688 kc ks ls st w) : Bk 253 688 kc ks ls st w Q := goS ⟨k253_688, rfl⟩ h
theorem g253_701 {kc ks : Nat} {ls st : List Value} {w : AW} {Q : AQ} (h : wp Bk 253 [] (601232, 7292407) (some .boolean) Q c253_701 kc ks ls st w) : Bk 253 701 kc ks ls st w Q := goS ⟨k253_701, rfl⟩ h
theorem g253_712 {kc ks : Nat} {ls st : List Value} {w : AW} {Q : AQ} (h : wp Bk 253 [] (601232, 7292407) (some .boolean) Q c253_712 kc ks ls st w) : Bk 253 712 kc ks ls st w Q := goS ⟨k253_712, rfl⟩ h
theorem g253_713 {kc ks : Nat} {ls st : List Value} {w : AW} {Q : AQ} (h : wp Bk 253 [] (601232, 7292407) (some .boolean) Q c253_713 kc ks ls st w) : Bk 253 713 kc ks ls st w Q := goS ⟨k253_713, rfl⟩ h
theorem g253_746 {kc ks : Nat} {ls st : List Value} {w : AW} {Q : AQ} (h : wp Bk 253 [] (601232, 7292407) (some .boolean) Q c253_746 kc ks ls st w) : Bk 253 746 kc ks ls st w Q := goS ⟨k253_746, rfl⟩ h
theorem g253_755 {kc ks : Nat} {ls st : List Value} {w : AW} {Q : AQ} (h : wp Bk 253 [] (601232, 7292407) (some .boolean) Q c253_755 kc ks ls st w) : Bk 253 755 kc ks ls st w Q := goS ⟨k253_755, rfl⟩ h
theorem g253_756 {kc ks : Nat} {ls st : List Value} {w : AW} {Q : AQ} (h : wp Bk 253 [] (601232, 7292407) (some .boolean) Q c253_756 kc ks ls st w) : Bk 253 756 kc ks ls st w Q := goS ⟨k253_756, rfl⟩ h
theorem g253_760 {kc ks : Nat} {ls st : List Value} {w : AW} {Q : AQ} (h : wp Bk 253 [] (601232, 7292407) (some .boolean) Q c253_760 kc ks ls st w) : Bk 253 760 kc ks ls st w Q := goS ⟨k253_760, rfl⟩ h
theorem g253_761 {kc ks : Nat} {ls st : List Value} {w : AW} {Q : AQ} (h : wp Bk 253 [] (601232, 7292407) (some .boolean) Q c253_761 kc ks ls st w) : Bk 253 761 kc ks ls st w Q := goS ⟨k253_761, rfl⟩ h
theorem g253_774 {kc ks : Nat} {ls st : List Value} {w : AW} {Q : AQ} (h : wp Bk 253 [] (601232, 7292407) (some .boolean) Q c253_774 kc ks ls st w) : Bk 253 774 kc ks ls st w Q := goS ⟨k253_774, rfl⟩ h
theorem g253_785 {kc ks : Nat} {ls st : List Value} {w : AW} {Q : AQ} (h : wp Bk 253 [] (601232, 7292407) (some .boolean) Q c253_785 kc ks ls st w) : Bk 253 785 kc ks ls st w Q := goS ⟨k253_785, rfl⟩ h
theorem g253_786 {kc ks : Nat} {ls st : List Value} {w : AW} {Q : AQ} (h : wp Bk 253 [] (601232, 7292407) (some .boolean) Q c253_786 kc ks ls st w) : Bk 253 786 kc ks ls st w Q := goS ⟨k253_786, rfl⟩ h
theorem g253_799 {kc ks : Nat} {ls st : List Value} {w : AW} {Q : AQ} (h : wp Bk 253 [] (601232, 7292407) (some .boolean) Q c253_799 kc ks ls st w) : Bk 253 799 kc ks ls st w Q := goS ⟨k253_799, rfl⟩ h
theorem g253_810 {kc ks : Nat} {ls st : List Value} {w : AW} {Q : AQ} (h : wp Bk 253 [] (601232, 7292407) (some .boolean) Q c253_810 kc ks ls st w) : Bk 253 810 kc ks ls st w Q := goS ⟨k253_810, rfl⟩ h
theorem g253_811 {kc ks : Nat} {ls st : List Value} {w : AW} {Q : AQ} (h : wp Bk 253 [] (601232, 7292407) (some .boolean) Q c253_811 kc ks ls st w) : Bk 253 811 kc ks ls st w Q := goS ⟨k253_811, rfl⟩ h
theorem g253_856 {kc ks : Nat} {ls st : List Value} {w : AW} {Q : AQ} (h : wp Bk 253 [] (601232, 7292407) (some .boolean) Q c253_856 kc ks ls st w) : Bk 253 856 kc ks ls st w Q := goS ⟨k253_856, rfl⟩ h
theorem g253_867 {kc ks : Nat} {ls st : List Value} {w : AW} {Q : AQ} (h : wp Bk 253 [] (601232, 7292407) (some .boolean) Q c253_867 kc ks ls st w) : Bk 253 867 kc ks ls st w Q := goS ⟨k253_867, rfl⟩ h
theorem g253_868 {kc ks : Nat} {ls st : List Value} {w : AW} {Q : AQ} (h : wp Bk 253 [] (601232, 7292407) (some .boolean) Q c253_868 kc ks ls st w) : Bk 253 868 kc ks ls st w Q := goS ⟨k253_868, rfl⟩ h
theorem g253_891 {kc ks : Nat} {ls st : List Value} {w : AW} {Q : AQ} (h : wp Bk 253 [] (601232, 7292407) (some .boolean) Q c253_891 kc ks ls st w) : Bk 253 891 kc ks ls st w Q := goS ⟨k253_891, rfl⟩ h
theorem g253_902 {kc ks : Nat} {ls st : List Value} {w : AW} {Q : AQ} (h : wp Bk 253 [] (601232, 7292407) (some .boolean) Q c253_902 kc ks ls st w) : Bk 253 902 kc ks ls st w Q := goS ⟨k253_902, rfl⟩ h
theorem g253_903 {kc ks : Nat} {ls st : List Value} {w : AW} {Q : AQ} (h : wp Bk 253 [] (601232, 7292407) (some .boolean) Q c253_903 kc ks ls st w) : Bk 253 903 kc ks ls st w Q := goS ⟨k253_903, rfl⟩ h
theorem g253_910 {kc ks : Nat} {ls st : List Value} {w : AW} {Q : AQ} (h : wp Bk 253 [] (601232, 7292407) (some .boolean) Q c253_910 kc ks ls st w) : Bk 253 910 kc ks ls st w Q := goS ⟨k253_910, rfl⟩ h
theorem g253_917 {kc ks : Nat} {ls st : List Value} {w : AW} {Q : AQ} (h : wp Bk 253 [] (601232, 7292407) (some .boolean) Q c253_917 kc ks ls st w) : Bk 253 917 kc ks ls st w Q := goS ⟨k253_917, rfl⟩ h
theorem g253_940 {kc ks : Nat} {ls st : List Value} {w : AW} {Q : AQ} (h : wp Bk 253 [] (601232, 7292407) (some .boolean) Q c253_940 kc ks ls st w) : Bk 253 940 kc ks ls st w Q := goS ⟨k253_940, rfl⟩ h
theorem g253_951 {kc ks : Nat} {ls st : List Value} {w : AW} {Q : AQ} (h : wp Bk 253 [] (601232, 7292407) (some .boolean) Q c253_951 kc ks ls st w) : Bk 253 951 kc ks ls st w Q := goS ⟨k253_951, rfl⟩ h
theorem g253_952 {kc ks : Nat} {ls st : List Value} {w : AW} {Q : AQ} (h : wp Bk 253 [] (601232, 7292407) (some .boolean) Q c253_952 kc ks ls st w) : Bk 253 952 kc ks ls st w Q := goS ⟨k253_952, rfl⟩ h
theorem g253_975 {kc ks : Nat} {ls st : List Value} {w : AW} {Q : AQ} (h : wp Bk 253 [] (601232, 7292407) (some .boolean) Q c253_975 kc ks ls st w) : Bk 253 975 kc ks ls st w Q := goS ⟨k253_975, rfl⟩ h
theorem g253_986 {kc ks : Nat} {ls st : List Value} {w : AW} {Q : AQ} (h : wp Bk 253 [] (601232, 7292407) (some .boolean) Q c253_986 kc ks ls st w) : Bk 253 986 kc ks ls st w Q := goS ⟨k253_986, rfl⟩ h
theorem g253_987 {kc ks : Nat} {ls st : List Value} {w : AW} {Q : AQ} (h : wp Bk 253 [] (601232, 7292407) (some .boolean) Q c253_987 kc ks ls st w) : Bk 253 987 kc ks ls st w Q := goS ⟨k253_987, rfl⟩ h
theorem g253_1010 {kc ks : Nat} {ls st : List Value} {w : AW} {Q : AQ} (h : wp Bk 253 [] (601232, 7292407) (some .boolean) Q c253_1010 kc ks ls st w) : Bk 253 1010 kc ks ls st w Q := goS ⟨k253_1010, rfl⟩ h
theorem g253_1021 {kc ks : Nat} {ls st : List Value} {w : AW} {Q : AQ} (h : wp Bk 253 [] (601232, 7292407) (some .boolean) Q c253_1021 kc ks ls st w) : Bk 253 1021 kc ks ls st w Q := goS ⟨k253_1021, rfl⟩ h
theorem g253_1022 {kc ks : Nat} {ls st : List Value} {w : AW} {Q : AQ} (h : wp Bk 253 [] (601232, 7292407) (some .boolean) Q c253_1022 kc ks ls st w) : Bk 253 1022 kc ks ls st w Q := goS ⟨k253_1022, rfl⟩ h
theorem g253_1055 {kc ks : Nat} {ls st : List Value} {w : AW} {Q : AQ} (h : wp Bk 253 [] (601232, 7292407) (some .boolean) Q c253_1055 kc ks ls st w) : Bk 253 1055 kc ks ls st w Q := goS ⟨k253_1055, rfl⟩ h
theorem g253_1066 {kc ks : Nat} {ls st : List Value} {w : AW} {Q : AQ} (h : wp Bk 253 [] (601232, 7292407) (some .boolean) Q c253_1066 kc ks ls st w) : Bk 253 1066 kc ks ls st w Q := goS ⟨k253_1066, rfl⟩ h
theorem g253_1067 {kc ks : Nat} {ls st : List Value} {w : AW} {Q : AQ} (h : wp Bk 253 [] (601232, 7292407) (some .boolean) Q c253_1067 kc ks ls st w) : Bk 253 1067 kc ks ls st w Q := goS ⟨k253_1067, rfl⟩ h
theorem g253_1074 {kc ks : Nat} {ls st : List Value} {w : AW} {Q : AQ} (h : wp Bk 253 [] (601232, 7292407) (some .boolean) Q c253_1074 kc ks ls st w) : Bk 253 1074 kc ks ls st w Q := goS ⟨k253_1074, rfl⟩ h
theorem g253_1097 {kc ks : Nat} {ls st : List Value} {w : AW} {Q : AQ} (h : wp Bk 253 [] (601232, 7292407) (some .boolean) Q c253_1097 kc ks ls st w) : Bk 253 1097 kc ks ls st w Q := goS ⟨k253_1097, rfl⟩ h
theorem g253_1108 {kc ks : Nat} {ls st : List Value} {w : AW} {Q : AQ} (h : wp Bk 253 [] (601232, 7292407) (some .boolean) Q c253_1108 kc ks ls st w) : Bk 253 1108 kc ks ls st w Q := goS ⟨k253_1108, rfl⟩ h
theorem g253_1109 {kc ks : Nat} {ls st : List Value} {w : AW} {Q : AQ} (h : wp Bk 253 [] (601232, 7292407) (some .boolean) Q c253_1109 kc ks ls st w) : Bk 253 1109 kc ks ls st w Q := goS ⟨k253_1109, rfl⟩ h
theorem g253_1132 {kc ks : Nat} {ls st : List Value} {w : AW} {Q : AQ} (h : wp Bk 253 [] (601232, 7292407) (some .boolean) Q c253_1132 kc ks ls st w) : Bk 253 1132 kc ks ls st w Q := goS ⟨k253_1132, rfl⟩ h
theorem g253_1143 {kc ks : Nat} {ls st : List Value} {w : AW} {Q : AQ} (h : wp Bk 253 [] (601232, 7292407) (some .boolean) Q c253_1143 kc ks ls st w) : Bk 253 1143 kc ks ls st w Q := goS ⟨k253_1143, rfl⟩ h
theorem g253_1144 {kc ks : Nat} {ls st : List Value} {w : AW} {Q : AQ} (h : wp Bk 253 [] (601232, 7292407) (some .boolean) Q c253_1144 kc ks ls st w) : Bk 253 1144 kc ks ls st w Q := goS ⟨k253_1144, rfl⟩ h
theorem g253_1162 {kc ks : Nat} {ls st : List Value} {w : AW} {Q : AQ} (h : wp Bk 253 [] (601232, 7292407) (some .boolean) Q c253_1162 kc ks ls st w) : Bk 253 1162 kc ks ls st w Q := goS ⟨k253_1162, rfl⟩ h
theorem g253_1164 {kc ks : Nat} {ls st : List Value} {w : AW} {Q : AQ} (h : wp Bk 253 [] (601232, 7292407) (some .boolean) Q c253_1164 kc ks ls st w) : Bk 253 1164 kc ks ls st w Q := goS ⟨k253_1164, rfl⟩ h
theorem g253_1165 {kc ks : Nat} {ls st : List Value} {w : AW} {Q : AQ} (h : wp Bk 253 [] (601232, 7292407) (some .boolean) Q c253_1165 kc ks ls st w) : Bk 253 1165 kc ks ls st w Q := goS ⟨k253_1165, rfl⟩ h
theorem g253_1185 {kc ks : Nat} {ls st : List Value} {w : AW} {Q : AQ} (h : wp Bk 253 [] (601232, 7292407) (some .boolean) Q c253_1185 kc ks ls st w) : Bk 253 1185 kc ks ls st w Q := goS ⟨k253_1185, rfl⟩ h
theorem g253_1187 {kc ks : Nat} {ls st : List Value} {w : AW} {Q : AQ} (h : wp Bk 253 [] (601232, 7292407) (some .boolean) Q c253_1187 kc ks ls st w) : Bk 253 1187 kc ks ls st w Q := goS ⟨k253_1187, rfl⟩ h
theorem g253_1188 {kc ks : Nat} {ls st : List Value} {w : AW} {Q : AQ} (h : wp Bk 253 [] (601232, 7292407) (some .boolean) Q c253_1188 kc ks ls st w) : Bk 253 1188 kc ks ls st w Q := goS ⟨k253_1188, rfl⟩ h
theorem g253_1195 {kc ks : Nat} {ls st : List Value} {w : AW} {Q : AQ} (h : wp Bk 253 [] (601232, 7292407) (some .boolean) Q c253_1195 kc ks ls st w) : Bk 253 1195 kc ks ls st w Q := goS ⟨k253_1195, rfl⟩ h
theorem g253_1220 {kc ks : Nat} {ls st : List Value} {w : AW} {Q : AQ} (h : wp Bk 253 [] (601232, 7292407) (some .boolean) Q c253_1220 kc ks ls st w) : Bk 253 1220 kc ks ls st w Q := goS ⟨k253_1220, rfl⟩ h
theorem g253_1231 {kc ks : Nat} {ls st : List Value} {w : AW} {Q : AQ} (h : wp Bk 253 [] (601232, 7292407) (some .boolean) Q c253_1231 kc ks ls st w) : Bk 253 1231 kc ks ls st w Q := goS ⟨k253_1231, rfl⟩ h
theorem g253_1232 {kc ks : Nat} {ls st : List Value} {w : AW} {Q : AQ} (h : wp Bk 253 [] (601232, 7292407) (some .boolean) Q c253_1232 kc ks ls st w) : Bk 253 1232 kc ks ls st w Q := goS ⟨k253_1232, rfl⟩ h
theorem g253_1245 {kc ks : Nat} {ls st : List Value} {w : AW} {Q : AQ} (h : wp Bk 253 [] (601232, 7292407) (some .boolean) Q c253_1245 kc ks ls st w) : Bk 253 1245 kc ks ls st w Q := goS ⟨k253_1245, rfl⟩ h
theorem g253_1256 {kc ks : Nat} {ls st : List Value} {w : AW} {Q : AQ} (h : wp Bk 253 [] (601232, 7292407) (some .boolean) Q c253_1256 kc ks ls st w) : Bk 253 1256 kc ks ls st w Q := goS ⟨k253_1256, rfl⟩ h
theorem g253_1257 {kc ks : Nat} {ls st : List Value} {w : AW} {Q : AQ} (h : wp Bk 253 [] (601232, 7292407) (some .boolean) Q c253_1257 kc ks ls st w) : Bk 253 1257 kc ks ls st w Q := goS ⟨k253_1257, rfl⟩ h
theorem g253_1270 {kc ks : Nat} {ls st : List Value} {w : AW} {Q : AQ} (h : wp Bk 253 [] (601232, 7292407) (some .boolean) Q c253_1270 kc ks ls st w) : Bk 253 1270 kc ks ls st w Q := goS ⟨k253_1270, rfl⟩ h
theorem g253_1281 {kc ks : Nat} {ls st : List Value} {w : AW} {Q : AQ} (h : wp Bk 253 [] (601232, 7292407) (some .boolean) Q c253_1281 kc ks ls st w) : Bk 253 1281 kc ks ls st w Q := goS ⟨k253_1281, rfl⟩ h
theorem g253_1282 {kc ks : Nat} {ls st : List Value} {w : AW} {Q : AQ} (h : wp Bk 253 [] (601232, 7292407) (some .boolean) Q c253_1282 kc ks ls st w) : Bk 253 1282 kc ks ls st w Q := goS ⟨k253_1282, rfl⟩ h
theorem g253_1295 {kc ks : Nat} {ls st : List Value} {w : AW} {Q : AQ} (h : wp Bk 253 [] (601232, 7292407) (some .boolean) Q c253_1295 kc ks ls st w) : Bk 253 1295 kc ks ls st w Q := goS ⟨k253_1295, rfl⟩ h
theorem g253_1306 {kc ks : Nat} {ls st : List Value} {w : AW} {Q : AQ} (h : wp Bk 253 [] (601232, 7292407) (some .boolean) Q c253_1306 kc ks ls st w) : Bk 253 1306 kc ks ls st w Q := goS ⟨k253_1306, rfl⟩ h
theorem g253_1307 {kc ks : Nat} {ls st : List Value} {w : AW} {Q : AQ} (h : wp Bk 253 [] (601232, 7292407) (some .boolean) Q c253_1307 kc ks ls st w) : Bk 253 1307 kc ks ls st w Q := goS ⟨k253_1307, rfl⟩ h
theorem g253_1320 {kc ks : Nat} {ls st : List Value} {w : AW} {Q : AQ} (h : wp Bk 253 [] (601232, 7292407) (some .boolean) Q c253_1320 kc ks ls st w) : Bk 253 1320 kc ks ls st w Q := goS ⟨k253_1320, rfl⟩ h
theorem g253_1331 {kc ks : Nat} {ls st : List Value} {w : AW} {Q : AQ} (h : wp Bk 253 [] (601232, 7292407) (some .boolean) Q c253_1331 kc ks ls st w) : Bk 253 1331 kc ks ls st w Q := goS ⟨k253_1331, rfl⟩ h
theorem g253_1332 {kc ks : Nat} {ls st : List Value} {w : AW} {Q : AQ} (h : wp Bk 253 [] (601232, 7292407) (some .boolean) Q c253_1332 kc ks ls st w) : Bk 253 1332 kc ks ls st w Q := goS ⟨k253_1332, rfl⟩ h
theorem g253_1339 {kc ks : Nat} {ls st : List Value} {w : AW} {Q : AQ} (h : wp Bk 253 [] (601232, 7292407) (some .boolean) Q c253_1339 kc ks ls st w) : Bk 253 1339 kc ks ls st w Q := goS ⟨k253_1339, rfl⟩ h
theorem g253_1352 {kc ks : Nat} {ls st : List Value} {w : AW} {Q : AQ} (h : wp Bk 253 [] (601232, 7292407) (some .boolean) Q c253_1352 kc ks ls st w) : Bk 253 1352 kc ks ls st w Q := goS ⟨k253_1352, rfl⟩ h
theorem g253_1363 {kc ks : Nat} {ls st : List Value} {w : AW} {Q : AQ} (h : wp Bk 253 [] (601232, 7292407) (some .boolean) Q c253_1363 kc ks ls st w) : Bk 253 1363 kc ks ls st w Q := goS ⟨k253_1363, rfl⟩ h
theorem g253_1364 {kc ks : Nat} {ls st : List Value} {w : AW} {Q : AQ} (h : wp Bk 253 [] (601232, 7292407) (some .boolean) Q c253_1364 kc ks ls st w) : Bk 253 1364 kc ks ls st w Q := goS ⟨k253_1364, rfl⟩ h
theorem g253_1366 {kc ks : Nat} {ls st : List Value} {w : AW} {Q : AQ} (h : wp Bk 253 [] (601232, 7292407) (some .boolean) Q c253_1366 kc ks ls st w) : Bk 253 1366 kc ks ls st w Q := goS ⟨k253_1366, rfl⟩ h
