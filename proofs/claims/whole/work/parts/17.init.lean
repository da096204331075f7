/-! ===== the constructors: printed by wip/whole/geninit.py ===== -/
/-- 0: WordMonoids.<init> -/
def n_WM : mv_M := (2, 0, [
  (0, .aload_n 0, 1, [], 0, 0), (1, .invokespecial 1, 3, [99], 0, 108), (4, .aload_n 0, 1, [], 0, 0), (5, .iconst 3, 1, [], 3, 0),
  (6, .anewarray 9, 3, [24], 0, 111), (9, .putfield 11, 3, [11, 0, 2], 0, 371), (12, .aload_n 0, 1, [], 0, 0), (13, .iconst 3, 1, [], 3, 0),
  (14, .anewarray 9, 3, [24], 0, 111), (17, .putfield 15, 3, [11, 1, 2], 0, 372), (20, .aload_n 0, 1, [], 0, 0), (21, .iconst 4, 1, [], 4, 0),
  (22, .anewarray 18, 3, [25], 0, 113), (25, .putfield 20, 3, [11, 2, 2], 0, 373), (28, .aload_n 0, 1, [], 0, 0), (29, .iconst 4, 1, [], 4, 0),
  (30, .anewarray 24, 3, [26], 0, 115), (33, .putfield 26, 3, [11, 3, 2], 0, 374), (36, .aload_n 0, 1, [], 0, 0), (37, .new 30, 3, [7], 0, 117),
  (40, .dup, 1, [], 0, 0), (41, .invokespecial 32, 3, [4], 0, 119), (44, .putfield 33, 3, [11, 4, 2], 0, 375), (47, .aload_n 0, 1, [], 0, 0),
  (48, .new 37, 3, [10], 0, 160), (51, .dup, 1, [], 0, 0), (52, .invokespecial 39, 3, [5], 0, 162), (55, .putfield 40, 3, [11, 5, 2], 0, 376),
  (58, .aload_n 0, 1, [], 0, 0), (59, .new 44, 3, [2], 0, 177), (62, .dup, 1, [], 0, 0), (63, .invokespecial 46, 3, [6], 0, 179),
  (66, .putfield 47, 3, [11, 6, 2], 0, 377), (69, .aload_n 0, 1, [], 0, 0), (70, .aload_n 0, 1, [], 0, 0), (71, .getfield 47, 3, [11, 6, 2], 0, 377),
  (74, .getfield 51, 3, [2, 0, 2], 0, 269), (77, .putfield 55, 3, [11, 7, 2], 0, 378), (80, .aload_n 0, 1, [], 0, 0), (81, .new 56, 3, [1], 0, 284),
  (84, .dup, 1, [], 0, 0), (85, .invokespecial 58, 3, [9], 0, 286), (88, .putfield 59, 3, [11, 8, 2], 0, 379), (91, .aload_n 0, 1, [], 0, 0),
  (92, .new 63, 3, [6], 0, 298), (95, .dup, 1, [], 0, 0), (96, .invokespecial 65, 3, [10], 0, 300), (99, .putfield 66, 3, [11, 9, 2], 0, 380),
  (102, .aload_n 0, 1, [], 0, 0), (103, .iconst 0, 1, [], 0, 0), (104, .putfield 70, 3, [11, 10, 0], 0, 381), (107, .aload_n 0, 1, [], 0, 0),
  (108, .iconst (-1), 1, [], (-1), 0), (109, .putfield 74, 3, [11, 11, 0], 0, 382), (112, .aload_n 0, 1, [], 0, 0), (113, .iconst 0, 1, [], 0, 0),
  (114, .putfield 77, 3, [11, 12, 0], 0, 383), (117, .iconst 0, 1, [], 0, 0), (118, .istore_n 1, 1, [], 0, 0), (119, .iload_n 1, 1, [], 0, 0),
  (120, .iconst 3, 1, [], 3, 0), (121, .if_icmp .ge 35, 3, [156], 0, 0), (124, .aload_n 0, 1, [], 0, 0), (125, .getfield 11, 3, [11, 0, 2], 0, 371),
  (128, .iload_n 1, 1, [], 0, 0), (129, .new 9, 3, [4], 0, 111), (132, .dup, 1, [], 0, 0), (133, .invokespecial 80, 3, [1], 0, 313),
  (136, .aastore, 1, [], 0, 0), (137, .aload_n 0, 1, [], 0, 0), (138, .getfield 15, 3, [11, 1, 2], 0, 372), (141, .iload_n 1, 1, [], 0, 0),
  (142, .new 9, 3, [4], 0, 111), (145, .dup, 1, [], 0, 0), (146, .invokespecial 80, 3, [1], 0, 313), (149, .aastore, 1, [], 0, 0),
  (150, .iinc 1 1, 3, [], 1, 0), (153, .goto (-34), 3, [119], 0, 0), (156, .iconst 0, 1, [], 0, 0), (157, .istore_n 1, 1, [], 0, 0),
  (158, .iload_n 1, 1, [], 0, 0), (159, .iconst 4, 1, [], 4, 0), (160, .if_icmp .ge 22, 3, [182], 0, 0), (163, .aload_n 0, 1, [], 0, 0),
  (164, .getfield 20, 3, [11, 2, 2], 0, 373), (167, .iload_n 1, 1, [], 0, 0), (168, .new 18, 3, [0], 0, 113), (171, .dup, 1, [], 0, 0),
  (172, .invokespecial 81, 3, [2], 0, 342), (175, .aastore, 1, [], 0, 0), (176, .iinc 1 1, 3, [], 1, 0), (179, .goto (-21), 3, [158], 0, 0),
  (182, .iconst 0, 1, [], 0, 0), (183, .istore_n 1, 1, [], 0, 0), (184, .iload_n 1, 1, [], 0, 0), (185, .iconst 4, 1, [], 4, 0),
  (186, .if_icmp .ge 22, 3, [208], 0, 0), (189, .aload_n 0, 1, [], 0, 0), (190, .getfield 26, 3, [11, 3, 2], 0, 374), (193, .iload_n 1, 1, [], 0, 0),
  (194, .new 24, 3, [8], 0, 115), (197, .dup, 1, [], 0, 0), (198, .invokespecial 82, 3, [3], 0, 354), (201, .aastore, 1, [], 0, 0),
  (202, .iinc 1 1, 3, [], 1, 0), (205, .goto (-21), 3, [184], 0, 0), (208, .return_, 1, [], 0, 0)])
/-- 1: WordMonoids$Machine.<init> -/
def n_Machine : mv_M := (1, 0, [
  (0, .aload_n 0, 1, [], 0, 0), (1, .invokespecial 3, 3, [11], 0, 316), (4, .aload_n 0, 1, [], 0, 0), (5, .bipush 12, 2, [], 12, 0),
  (7, .newarray .int, 2, [20], 0, 0), (9, .putfield 9, 3, [4, 0, 2], 0, 320), (12, .aload_n 0, 1, [], 0, 0), (13, .iconst 0, 1, [], 0, 0),
  (14, .putfield 15, 3, [4, 1, 0], 0, 321), (17, .aload_n 0, 1, [], 0, 0), (18, .iconst 0, 1, [], 0, 0), (19, .putfield 19, 3, [4, 2, 0], 0, 324),
  (22, .aload_n 0, 1, [], 0, 0), (23, .iconst 0, 1, [], 0, 0), (24, .putfield 22, 3, [4, 3, 0], 0, 329), (27, .return_, 1, [], 0, 0)])
/-- 2: WordMonoids$Formula.<init> -/
def n_Formula : mv_M := (1, 0, [
  (0, .aload_n 0, 1, [], 0, 0), (1, .invokespecial 3, 3, [11], 0, 345), (4, .aload_n 0, 1, [], 0, 0), (5, .bipush 60, 2, [], 60, 0),
  (7, .newarray .int, 2, [20], 0, 0), (9, .putfield 9, 3, [0, 0, 2], 0, 346), (12, .aload_n 0, 1, [], 0, 0), (13, .iconst 0, 1, [], 0, 0),
  (14, .putfield 15, 3, [0, 1, 0], 0, 347), (17, .return_, 1, [], 0, 0)])
/-- 3: WordMonoids$Sheet.<init> -/
def n_Sheet : mv_M := (1, 0, [
  (0, .aload_n 0, 1, [], 0, 0), (1, .invokespecial 3, 3, [99], 0, 357), (4, .aload_n 0, 1, [], 0, 0), (5, .bipush 40, 2, [], 40, 0),
  (7, .newarray .int, 2, [20], 0, 0), (9, .putfield 9, 3, [8, 0, 2], 0, 358), (12, .aload_n 0, 1, [], 0, 0), (13, .iconst (-1), 1, [], (-1), 0),
  (14, .putfield 15, 3, [8, 1, 0], 0, 360), (17, .aload_n 0, 1, [], 0, 0), (18, .iconst 0, 1, [], 0, 0), (19, .putfield 19, 3, [8, 2, 0], 0, 362),
  (22, .return_, 1, [], 0, 0)])
/-- 4: WordMonoids$Reader.<init> -/
def n_Reader : mv_M := (1, 0, [
  (0, .aload_n 0, 1, [], 0, 0), (1, .invokespecial 3, 3, [99], 0, 122), (4, .aload_n 0, 1, [], 0, 0), (5, .bipush 60, 2, [], 60, 0),
  (7, .newarray .int, 2, [20], 0, 0), (9, .putfield 9, 3, [7, 0, 2], 0, 123), (12, .aload_n 0, 1, [], 0, 0), (13, .bipush 60, 2, [], 60, 0),
  (15, .newarray .int, 2, [20], 0, 0), (17, .putfield 15, 3, [7, 1, 2], 0, 124), (20, .aload_n 0, 1, [], 0, 0), (21, .bipush 6, 2, [], 6, 0),
  (23, .newarray .int, 2, [20], 0, 0), (25, .putfield 18, 3, [7, 2, 2], 0, 126), (28, .aload_n 0, 1, [], 0, 0), (29, .bipush 8, 2, [], 8, 0),
  (31, .newarray .int, 2, [20], 0, 0), (33, .putfield 21, 3, [7, 3, 2], 0, 127), (36, .aload_n 0, 1, [], 0, 0), (37, .iconst 0, 1, [], 0, 0),
  (38, .putfield 24, 3, [7, 4, 0], 0, 128), (41, .aload_n 0, 1, [], 0, 0), (42, .iconst 0, 1, [], 0, 0), (43, .putfield 28, 3, [7, 5, 0], 0, 130),
  (46, .aload_n 0, 1, [], 0, 0), (47, .iconst 0, 1, [], 0, 0), (48, .putfield 31, 3, [7, 6, 0], 0, 132), (51, .aload_n 0, 1, [], 0, 0),
  (52, .iconst 0, 1, [], 0, 0), (53, .putfield 34, 3, [7, 7, 0], 0, 133), (56, .aload_n 0, 1, [], 0, 0), (57, .iconst 0, 1, [], 0, 0),
  (58, .putfield 37, 3, [7, 8, 0], 0, 135), (61, .aload_n 0, 1, [], 0, 0), (62, .iconst (-1), 1, [], (-1), 0), (63, .putfield 40, 3, [7, 9, 0], 0, 136),
  (66, .return_, 1, [], 0, 0)])
/-- 5: WordMonoids$Words.<init> -/
def n_Words : mv_M := (1, 0, [
  (0, .aload_n 0, 1, [], 0, 0), (1, .invokespecial 3, 3, [99], 0, 165), (4, .aload_n 0, 1, [], 0, 0), (5, .iconst 0, 1, [], 0, 0),
  (6, .putfield 9, 3, [10, 0, 0], 0, 166), (9, .aload_n 0, 1, [], 0, 0), (10, .iconst 0, 1, [], 0, 0), (11, .putfield 15, 3, [10, 1, 0], 0, 168),
  (14, .return_, 1, [], 0, 0)])
/-- 6: WordMonoids$Laws.<init> -/
def n_Laws : mv_M := (1, 0, [
  (0, .aload_n 0, 1, [], 0, 0), (1, .invokespecial 3, 3, [99], 0, 182), (4, .aload_n 0, 1, [], 0, 0), (5, .new 9, 3, [5], 0, 183),
  (8, .dup, 1, [], 0, 0), (9, .invokespecial 11, 3, [7], 0, 185), (12, .putfield 12, 3, [2, 0, 2], 0, 268), (15, .aload_n 0, 1, [], 0, 0),
  (16, .iconst 0, 1, [], 0, 0), (17, .putfield 18, 3, [2, 1, 0], 0, 270), (20, .aload_n 0, 1, [], 0, 0), (21, .iconst (-1), 1, [], (-1), 0),
  (22, .putfield 22, 3, [2, 2, 0], 0, 271), (25, .aload_n 0, 1, [], 0, 0), (26, .iconst (-1), 1, [], (-1), 0), (27, .putfield 25, 3, [2, 3, 0], 0, 273),
  (30, .return_, 1, [], 0, 0)])
/-- 7: WordMonoids$Monoid.<init> -/
def n_Monoid : mv_M := (1, 0, [
  (0, .aload_n 0, 1, [], 0, 0), (1, .invokespecial 5, 3, [99], 0, 188), (4, .aload_n 0, 1, [], 0, 0), (5, .new 11, 3, [3], 0, 189),
  (8, .dup, 1, [], 0, 0), (9, .invokespecial 13, 3, [8], 0, 191), (12, .putfield 14, 3, [5, 0, 2], 0, 219), (15, .aload_n 0, 1, [], 0, 0),
  (16, .iconst 3, 1, [], 3, 0), (17, .newarray .int, 2, [20], 0, 0), (19, .putfield 18, 3, [5, 1, 2], 0, 221), (22, .aload_n 0, 1, [], 0, 0),
  (23, .sipush 256, 3, [], 256, 0), (26, .newarray .int, 2, [20], 0, 0), (28, .putfield 22, 3, [5, 2, 2], 0, 222), (31, .aload_n 0, 1, [], 0, 0),
  (32, .sipush 256, 3, [], 256, 0), (35, .newarray .int, 2, [20], 0, 0), (37, .putfield 25, 3, [5, 3, 2], 0, 223), (40, .aload_n 0, 1, [], 0, 0),
  (41, .sipush 256, 3, [], 256, 0), (44, .newarray .int, 2, [20], 0, 0), (46, .putfield 28, 3, [5, 4, 2], 0, 224), (49, .aload_n 0, 1, [], 0, 0),
  (50, .sipush 256, 3, [], 256, 0), (53, .newarray .int, 2, [20], 0, 0), (55, .putfield 31, 3, [5, 5, 2], 0, 225), (58, .aload_n 0, 1, [], 0, 0),
  (59, .sipush 256, 3, [], 256, 0), (62, .newarray .int, 2, [20], 0, 0), (64, .putfield 34, 3, [5, 6, 2], 0, 226), (67, .aload_n 0, 1, [], 0, 0),
  (68, .sipush 256, 3, [], 256, 0), (71, .newarray .int, 2, [20], 0, 0), (73, .putfield 37, 3, [5, 7, 2], 0, 227), (76, .aload_n 0, 1, [], 0, 0),
  (77, .sipush 256, 3, [], 256, 0), (80, .newarray .int, 2, [20], 0, 0), (82, .putfield 40, 3, [5, 8, 2], 0, 228), (85, .aload_n 0, 1, [], 0, 0),
  (86, .sipush 256, 3, [], 256, 0), (89, .newarray .int, 2, [20], 0, 0), (91, .putfield 43, 3, [5, 9, 2], 0, 229), (94, .aload_n 0, 1, [], 0, 0),
  (95, .sipush 256, 3, [], 256, 0), (98, .newarray .int, 2, [20], 0, 0), (100, .putfield 46, 3, [5, 10, 2], 0, 230), (103, .aload_n 0, 1, [], 0, 0),
  (104, .iconst 0, 1, [], 0, 0), (105, .putfield 49, 3, [5, 11, 0], 0, 231), (108, .aload_n 0, 1, [], 0, 0), (109, .iconst 0, 1, [], 0, 0),
  (110, .putfield 53, 3, [5, 12, 3], 0, 234), (113, .aload_n 0, 1, [], 0, 0), (114, .iconst 0, 1, [], 0, 0), (115, .putfield 57, 3, [5, 13, 0], 0, 235),
  (118, .aload_n 0, 1, [], 0, 0), (119, .ldc2_w 60, 3, [218], 0, (-1)), (122, .putfield 62, 3, [5, 14, 1], 0, 236), (125, .return_, 1, [], 0, 0)])
/-- 8: WordMonoids$Least.<init> -/
def n_Least : mv_M := (1, 0, [
  (0, .aload_n 0, 1, [], 0, 0), (1, .invokespecial 3, 3, [99], 0, 194), (4, .aload_n 0, 1, [], 0, 0), (5, .bipush 12, 2, [], 12, 0),
  (7, .newarray .int, 2, [20], 0, 0), (9, .putfield 9, 3, [3, 0, 2], 0, 195), (12, .aload_n 0, 1, [], 0, 0), (13, .iconst 4, 1, [], 4, 0),
  (14, .newarray .int, 2, [20], 0, 0), (16, .putfield 15, 3, [3, 1, 2], 0, 196), (19, .aload_n 0, 1, [], 0, 0), (20, .iconst 4, 1, [], 4, 0),
  (21, .newarray .int, 2, [20], 0, 0), (23, .putfield 18, 3, [3, 2, 2], 0, 197), (26, .aload_n 0, 1, [], 0, 0), (27, .iconst 0, 1, [], 0, 0),
  (28, .putfield 21, 3, [3, 3, 0], 0, 198), (31, .aload_n 0, 1, [], 0, 0), (32, .iconst 0, 1, [], 0, 0), (33, .putfield 25, 3, [3, 4, 0], 0, 201),
  (36, .aload_n 0, 1, [], 0, 0), (37, .iconst 0, 1, [], 0, 0), (38, .putfield 28, 3, [3, 5, 0], 0, 204), (41, .return_, 1, [], 0, 0)])
/-- 9: WordMonoids$Known.<init> -/
def n_Known : mv_M := (1, 0, [
  (0, .aload_n 0, 1, [], 0, 0), (1, .invokespecial 3, 3, [99], 0, 289), (4, .aload_n 0, 1, [], 0, 0), (5, .sipush 4609, 3, [], 4609, 0),
  (8, .newarray .byte, 2, [21], 0, 0), (10, .putfield 11, 3, [1, 0, 2], 0, 290), (13, .aload_n 0, 1, [], 0, 0), (14, .sipush 6460, 3, [], 6460, 0),
  (17, .newarray .int, 2, [20], 0, 0), (19, .putfield 15, 3, [1, 1, 2], 0, 291), (22, .return_, 1, [], 0, 0)])
/-- 10: WordMonoids$Pairs.<init> -/
def n_Pairs : mv_M := (1, 0, [
  (0, .aload_n 0, 1, [], 0, 0), (1, .invokespecial 3, 3, [99], 0, 303), (4, .aload_n 0, 1, [], 0, 0), (5, .bipush 16, 2, [], 16, 0),
  (7, .newarray .int, 2, [20], 0, 0), (9, .putfield 11, 3, [6, 0, 2], 0, 304), (12, .aload_n 0, 1, [], 0, 0), (13, .bipush 16, 2, [], 16, 0),
  (15, .newarray .long, 2, [23], 0, 0), (17, .putfield 15, 3, [6, 1, 2], 0, 305), (20, .return_, 1, [], 0, 0)])
/-- 11: WordMonoids$Taker.<init> -/
def n_Taker : mv_M := (1, 0, [
  (0, .aload_n 0, 1, [], 0, 0), (1, .invokespecial 1, 3, [99], 0, 319), (4, .return_, 1, [], 0, 0)])
/-- 12: WordMonoidsModel.<init> -/
def n_Ref : mv_M := (2, 0, [
  (0, .aload_n 0, 1, [], 0, 0), (1, .invokespecial 3, 3, [99], 0, 1033), (4, .aload_n 0, 1, [], 0, 0), (5, .bipush 45, 2, [], 45, 0),
  (7, .newarray .int, 2, [20], 0, 0), (9, .putfield 9, 3, [12, 0, 2], 0, 1036), (12, .aload_n 0, 1, [], 0, 0), (13, .bipush 45, 2, [], 45, 0),
  (15, .newarray .int, 2, [20], 0, 0), (17, .putfield 13, 3, [12, 2, 2], 0, 1038), (20, .aload_n 0, 1, [], 0, 0), (21, .bipush 9, 2, [], 9, 0),
  (23, .newarray .int, 2, [20], 0, 0), (25, .putfield 16, 3, [12, 5, 2], 0, 1041), (28, .aload_n 0, 1, [], 0, 0), (29, .bipush 12, 2, [], 12, 0),
  (31, .newarray .int, 2, [20], 0, 0), (33, .putfield 19, 3, [12, 9, 2], 0, 1045), (36, .aload_n 0, 1, [], 0, 0), (37, .iconst 4, 1, [], 4, 0),
  (38, .newarray .int, 2, [20], 0, 0), (40, .putfield 22, 3, [12, 10, 2], 0, 1046), (43, .aload_n 0, 1, [], 0, 0), (44, .iconst 4, 1, [], 4, 0),
  (45, .newarray .int, 2, [20], 0, 0), (47, .putfield 25, 3, [12, 11, 2], 0, 1047), (50, .aload_n 0, 1, [], 0, 0), (51, .iconst 4, 1, [], 4, 0),
  (52, .newarray .int, 2, [20], 0, 0), (54, .putfield 28, 3, [12, 12, 2], 0, 1048), (57, .aload_n 0, 1, [], 0, 0), (58, .iconst 4, 1, [], 4, 0),
  (59, .newarray .int, 2, [20], 0, 0), (61, .putfield 31, 3, [12, 13, 2], 0, 1049), (64, .aload_n 0, 1, [], 0, 0), (65, .sipush 256, 3, [], 256, 0),
  (68, .newarray .int, 2, [20], 0, 0), (70, .putfield 34, 3, [12, 15, 2], 0, 1051), (73, .aload_n 0, 1, [], 0, 0), (74, .sipush 256, 3, [], 256, 0),
  (77, .newarray .int, 2, [20], 0, 0), (79, .putfield 37, 3, [12, 16, 2], 0, 1052), (82, .aload_n 0, 1, [], 0, 0), (83, .sipush 256, 3, [], 256, 0),
  (86, .newarray .int, 2, [20], 0, 0), (88, .putfield 40, 3, [12, 17, 2], 0, 1053), (91, .aload_n 0, 1, [], 0, 0), (92, .sipush 256, 3, [], 256, 0),
  (95, .newarray .int, 2, [20], 0, 0), (97, .putfield 43, 3, [12, 18, 2], 0, 1054), (100, .aload_n 0, 1, [], 0, 0), (101, .ldc 46, 2, [], 65536, 1034),
  (103, .newarray .int, 2, [20], 0, 0), (105, .putfield 47, 3, [12, 19, 2], 0, 1055), (108, .aload_n 0, 1, [], 0, 0), (109, .sipush 256, 3, [], 256, 0),
  (112, .newarray .int, 2, [20], 0, 0), (114, .putfield 50, 3, [12, 20, 2], 0, 1056), (117, .aload_n 0, 1, [], 0, 0), (118, .iconst 3, 1, [], 3, 0),
  (119, .newarray .int, 2, [20], 0, 0), (121, .putfield 53, 3, [12, 21, 2], 0, 1057), (124, .aload_n 0, 1, [], 0, 0), (125, .iconst (-1), 1, [], (-1), 0),
  (126, .putfield 56, 3, [12, 23, 0], 0, 1059), (129, .aload_n 0, 1, [], 0, 0), (130, .sipush 256, 3, [], 256, 0), (133, .newarray .int, 2, [20], 0, 0),
  (135, .putfield 60, 3, [12, 24, 2], 0, 1060), (138, .aload_n 0, 1, [], 0, 0), (139, .sipush 256, 3, [], 256, 0), (142, .newarray .boolean, 2, [22], 0, 0),
  (144, .putfield 63, 3, [12, 27, 2], 0, 1063), (147, .aload_n 0, 1, [], 0, 0), (148, .sipush 256, 3, [], 256, 0), (151, .newarray .int, 2, [20], 0, 0),
  (153, .putfield 67, 3, [12, 28, 2], 0, 1064), (156, .aload_n 0, 1, [], 0, 0), (157, .ldc 46, 2, [], 65536, 1034), (159, .newarray .boolean, 2, [22], 0, 0),
  (161, .putfield 70, 3, [12, 30, 2], 0, 1066), (164, .aload_n 0, 1, [], 0, 0), (165, .ldc 73, 2, [], 32768, 1035), (167, .newarray .boolean, 2, [22], 0, 0),
  (169, .putfield 74, 3, [12, 33, 2], 0, 1069), (172, .aload_n 0, 1, [], 0, 0), (173, .ldc 73, 2, [], 32768, 1035), (175, .newarray .int, 2, [20], 0, 0),
  (177, .putfield 77, 3, [12, 34, 2], 0, 1070), (180, .aload_n 0, 1, [], 0, 0), (181, .sipush 8192, 3, [], 8192, 0), (184, .newarray .boolean, 2, [22], 0, 0),
  (186, .putfield 80, 3, [12, 35, 2], 0, 1071), (189, .aload_n 0, 1, [], 0, 0), (190, .sipush 8192, 3, [], 8192, 0), (193, .newarray .boolean, 2, [22], 0, 0),
  (195, .putfield 83, 3, [12, 36, 2], 0, 1072), (198, .aload_n 0, 1, [], 0, 0), (199, .sipush 8192, 3, [], 8192, 0), (202, .newarray .boolean, 2, [22], 0, 0),
  (204, .putfield 86, 3, [12, 37, 2], 0, 1073), (207, .aload_n 0, 1, [], 0, 0), (208, .bipush 16, 2, [], 16, 0), (210, .newarray .long, 2, [23], 0, 0),
  (212, .putfield 89, 3, [12, 38, 2], 0, 1074), (215, .aload_n 0, 1, [], 0, 0), (216, .sipush 240, 3, [], 240, 0), (219, .newarray .int, 2, [20], 0, 0),
  (221, .putfield 93, 3, [12, 39, 2], 0, 1075), (224, .aload_n 0, 1, [], 0, 0), (225, .iconst 4, 1, [], 4, 0), (226, .newarray .int, 2, [20], 0, 0),
  (228, .putfield 96, 3, [12, 40, 2], 0, 1076), (231, .aload_n 0, 1, [], 0, 0), (232, .bipush 60, 2, [], 60, 0), (234, .newarray .int, 2, [20], 0, 0),
  (236, .putfield 99, 3, [12, 42, 2], 0, 1078), (239, .aload_n 0, 1, [], 0, 0), (240, .bipush 6, 2, [], 6, 0), (242, .newarray .int, 2, [20], 0, 0),
  (244, .putfield 102, 3, [12, 48, 2], 0, 1083), (247, .aload_n 0, 1, [], 0, 0), (248, .bipush 8, 2, [], 8, 0), (250, .newarray .int, 2, [20], 0, 0),
  (252, .putfield 105, 3, [12, 50, 2], 0, 1085), (255, .aload_n 0, 1, [], 0, 0), (256, .bipush 60, 2, [], 60, 0), (258, .newarray .int, 2, [20], 0, 0),
  (260, .putfield 108, 3, [12, 52, 2], 0, 1087), (263, .aload_n 0, 1, [], 0, 0), (264, .iconst 4, 1, [], 4, 0), (265, .newarray .int, 2, [20], 0, 0),
  (267, .putfield 111, 3, [12, 53, 2], 0, 1088), (270, .aload_n 0, 1, [], 0, 0), (271, .iconst 4, 1, [], 4, 0), (272, .newarray .int, 2, [20], 0, 0),
  (274, .putfield 114, 3, [12, 54, 2], 0, 1089), (277, .aload_n 0, 1, [], 0, 0), (278, .sipush 160, 3, [], 160, 0), (281, .newarray .int, 2, [20], 0, 0),
  (283, .putfield 117, 3, [12, 55, 2], 0, 1090), (286, .iconst 0, 1, [], 0, 0), (287, .istore_n 1, 1, [], 0, 0), (288, .iload_n 1, 1, [], 0, 0),
  (289, .iconst 4, 1, [], 4, 0), (290, .if_icmp .ge 16, 3, [306], 0, 0), (293, .aload_n 0, 1, [], 0, 0), (294, .getfield 111, 3, [12, 53, 2], 0, 1088),
  (297, .iload_n 1, 1, [], 0, 0), (298, .iconst (-1), 1, [], (-1), 0), (299, .iastore, 1, [], 0, 0), (300, .iinc 1 1, 3, [], 1, 0),
  (303, .goto (-15), 3, [288], 0, 0), (306, .return_, 1, [], 0, 0)])
/-- 13: WordMonoidsLaw.law -/
def n_law : mv_M := (4, 0, [
  (0, .new 7, 3, [11], 0, 103), (3, .dup, 1, [], 0, 0), (4, .invokespecial 9, 3, [0], 0, 105), (7, .astore_n 1, 1, [], 0, 0),
  (8, .new 10, 3, [12], 0, 1028), (11, .dup, 1, [], 0, 0), (12, .invokespecial 12, 3, [12], 0, 1030), (15, .astore_n 2, 1, [], 0, 0),
  (16, .iconst 0, 1, [], 0, 0), (17, .istore_n 3, 1, [], 0, 0)])
def mn_PL : List mv_M := [n_WM, n_Machine, n_Formula, n_Sheet, n_Reader, n_Words, n_Laws, n_Monoid, n_Least, n_Known, n_Pairs, n_Taker, n_Ref, n_law]
def mn_P (f : Nat) : mv_M := mn_PL.getD f (0, 0, [])
def mn_NL : List (MethodName × ByteArray × Nat) := [
  (⟨"WordMonoids", "<init>", "()V"⟩, prog_1_method_1_code, 2),
  (⟨"WordMonoids$Machine", "<init>", "()V"⟩, prog_6_method_1_code, 1),
  (⟨"WordMonoids$Formula", "<init>", "()V"⟩, prog_2_method_1_code, 1),
  (⟨"WordMonoids$Sheet", "<init>", "()V"⟩, prog_10_method_1_code, 1),
  (⟨"WordMonoids$Reader", "<init>", "()V"⟩, prog_9_method_1_code, 1),
  (⟨"WordMonoids$Words", "<init>", "()V"⟩, prog_12_method_1_code, 1),
  (⟨"WordMonoids$Laws", "<init>", "()V"⟩, prog_4_method_1_code, 1),
  (⟨"WordMonoids$Monoid", "<init>", "()V"⟩, prog_7_method_1_code, 1),
  (⟨"WordMonoids$Least", "<init>", "()V"⟩, prog_5_method_1_code, 1),
  (⟨"WordMonoids$Known", "<init>", "()V"⟩, prog_3_method_1_code, 1),
  (⟨"WordMonoids$Pairs", "<init>", "()V"⟩, prog_8_method_1_code, 1),
  (⟨"WordMonoids$Taker", "<init>", "()V"⟩, prog_11_method_1_code, 1),
  (⟨"WordMonoidsModel", "<init>", "()V"⟩, prog_14_method_1_code, 2),
  (⟨"WordMonoidsLaw", "law", "([I)Z"⟩, code, 4)]
def mn_N (f : Nat) : MethodName × ByteArray × Nat := mn_NL.getD f (⟨"", "", ""⟩, ⟨#[]⟩, 0)
/-- where the tables have of a constructor: its code, its class as initialised, that it is no static one -/
def mn_posL : List (Nat × Nat × Nat) := [(107, 87, 106), (315, 96, 314), (344, 97, 343), (356, 98, 355), (121, 88, 120), (164, 89, 163), (181, 90, 180), (187, 91, 186), (193, 92, 192), (288, 93, 287), (302, 94, 301), (318, 95, 317), (1032, 99, 1031)]
def mn_pos (f : Nat) : Nat × Nat × Nat := mn_posL.getD f (0, 0, 0)
/-- of a class: instantiable, initialised -/
def mn_cposL : List (Nat × Nat) := [(341, 97), (285, 93), (178, 90), (190, 92), (312, 96), (184, 91), (299, 94), (118, 88), (353, 98), (0, 95), (161, 89), (104, 87), (1029, 99)]
def mn_cpos (c : Nat) : Nat × Nat := mn_cposL.getD c (0, 0)
/-- of an array kind: arrayClass, arrayOver -/
def mn_apos (k : Nat) : Nat := [159, 297, 1204, 311, 112, 114, 116].getD (k - 20) 0
