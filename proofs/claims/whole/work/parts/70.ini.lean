/-! THE CONSTRUCTORS: the store as they leave it (tables by program: wip/whole/sim.py) -/
def SHFs : List SH := [(1, 11, 0), (2, 1, 300), (3, 4, 20), (2, 0, 6), (3, 5, 8), (2, 3, 8), (1, 2, 0), (2, 1, 480), (2, 0, 40), (1, 9, 0), (2, 1, 0), (2, 0, 1200), (1, 4, 0), (2, 1, 300), (2, 3, 2085), (2, 0, 13), (1, 7, 0), (2, 1, 24), (1, 7, 0), (2, 1, 24), (1, 10, 0), (2, 0, 1000), (2, 0, 1000), (2, 2, 1000), (2, 0, 2048), (1, 5, 0), (2, 0, 500), (3, 6, 100), (1, 6, 0), (2, 1, 12), (2, 0, 3), (2, 0, 3), (1, 6, 0), (2, 1, 12), (2, 0, 3), (2, 0, 3), (1, 6, 0), (2, 1, 12), (2, 0, 3), (2, 0, 3), (1, 6, 0), (2, 1, 12), (2, 0, 3), (2, 0, 3), (1, 6, 0), (2, 1, 12), (2, 0, 3), (2, 0, 3), (1, 6, 0), (2, 1, 12), (2, 0, 3), (2, 0, 3), (1, 6, 0), (2, 1, 12), (2, 0, 3), (2, 0, 3), (1, 6, 0), (2, 1, 12), (2, 0, 3), (2, 0, 3), (1, 6, 0), (2, 1, 12), (2, 0, 3), (2, 0, 3), (1, 6, 0), (2, 1, 12), (2, 0, 3), (2, 0, 3), (1, 6, 0), (2, 1, 12), (2, 0, 3), (2, 0, 3), (1, 6, 0), (2, 1, 12), (2, 0, 3), (2, 0, 3), (1, 6, 0), (2, 1, 12), (2, 0, 3), (2, 0, 3), (1, 6, 0), (2, 1, 12), (2, 0, 3), (2, 0, 3), (1, 6, 0), (2, 1, 12), (2, 0, 3), (2, 0, 3), (1, 6, 0), (2, 1, 12), (2, 0, 3), (2, 0, 3), (1, 6, 0), (2, 1, 12), (2, 0, 3), (2, 0, 3), (1, 6, 0), (2, 1, 12), (2, 0, 3), (2, 0, 3), (1, 6, 0), (2, 1, 12), (2, 0, 3), (2, 0, 3), (1, 6, 0), (2, 1, 12), (2, 0, 3), (2, 0, 3), (1, 8, 0), (2, 0, 20), (2, 0, 20), (2, 0, 20), (2, 0, 20), (2, 0, 60), (1, 8, 0), (2, 0, 20), (2, 0, 20), (2, 0, 20), (2, 0, 20), (2, 0, 60), (1, 8, 0), (2, 0, 20), (2, 0, 20), (2, 0, 20), (2, 0, 20), (2, 0, 60), (1, 8, 0), (2, 0, 20), (2, 0, 20), (2, 0, 20), (2, 0, 20), (2, 0, 60), (1, 8, 0), (2, 0, 20), (2, 0, 20), (2, 0, 20), (2, 0, 20), (2, 0, 60), (1, 8, 0), (2, 0, 20), (2, 0, 20), (2, 0, 20), (2, 0, 20), (2, 0, 60), (1, 8, 0), (2, 0, 20), (2, 0, 20), (2, 0, 20), (2, 0, 20), (2, 0, 60), (1, 8, 0), (2, 0, 20), (2, 0, 20), (2, 0, 20), (2, 0, 20), (2, 0, 60), (1, 21, 0), (3, 7, 20), (3, 8, 8), (2, 3, 40), (3, 9, 100), (1, 18, 0), (2, 1, 300), (2, 2, 200), (2, 1, 300), (2, 0, 13), (2, 0, 13), (2, 1, 37), (2, 1, 24), (2, 0, 1000), (2, 0, 1000), (2, 2, 1000), (1, 12, 0), (1, 12, 0), (1, 12, 0), (1, 12, 0), (1, 12, 0), (1, 12, 0), (1, 12, 0), (1, 12, 0), (1, 12, 0), (1, 12, 0), (1, 12, 0), (1, 12, 0), (1, 12, 0), (1, 12, 0), (1, 12, 0), (1, 12, 0), (1, 12, 0), (1, 12, 0), (1, 12, 0), (1, 12, 0), (1, 12, 0), (1, 12, 0), (1, 12, 0), (1, 12, 0), (1, 12, 0), (1, 12, 0), (1, 12, 0), (1, 12, 0), (1, 12, 0), (1, 12, 0), (1, 12, 0), (1, 12, 0), (1, 12, 0), (1, 12, 0), (1, 12, 0), (1, 12, 0), (1, 12, 0), (1, 12, 0), (1, 12, 0), (1, 12, 0), (1, 12, 0), (1, 12, 0), (1, 12, 0), (1, 12, 0), (1, 12, 0), (1, 12, 0), (1, 12, 0), (1, 12, 0), (1, 12, 0), (1, 12, 0), (1, 12, 0), (1, 12, 0), (1, 12, 0), (1, 12, 0), (1, 12, 0), (1, 12, 0), (1, 12, 0), (1, 12, 0), (1, 12, 0), (1, 12, 0), (1, 12, 0), (1, 12, 0), (1, 12, 0), (1, 12, 0), (1, 12, 0), (1, 12, 0), (1, 12, 0), (1, 12, 0), (1, 12, 0), (1, 12, 0), (1, 12, 0), (1, 12, 0), (1, 12, 0), (1, 12, 0), (1, 12, 0), (1, 12, 0), (1, 12, 0), (1, 12, 0), (1, 12, 0), (1, 12, 0), (1, 12, 0), (1, 12, 0), (1, 12, 0), (1, 12, 0), (1, 12, 0), (1, 12, 0), (1, 12, 0), (1, 12, 0), (1, 12, 0), (1, 12, 0), (1, 12, 0), (1, 12, 0), (1, 12, 0), (1, 12, 0), (1, 12, 0), (1, 12, 0), (1, 12, 0), (1, 12, 0), (1, 12, 0), (1, 12, 0), (1, 15, 0), (2, 1, 12), (2, 0, 3), (2, 0, 3), (1, 15, 0), (2, 1, 12), (2, 0, 3), (2, 0, 3), (1, 15, 0), (2, 1, 12), (2, 0, 3), (2, 0, 3), (1, 15, 0), (2, 1, 12), (2, 0, 3), (2, 0, 3), (1, 15, 0), (2, 1, 12), (2, 0, 3), (2, 0, 3), (1, 15, 0), (2, 1, 12), (2, 0, 3), (2, 0, 3), (1, 15, 0), (2, 1, 12), (2, 0, 3), (2, 0, 3), (1, 15, 0), (2, 1, 12), (2, 0, 3), (2, 0, 3), (1, 15, 0), (2, 1, 12), (2, 0, 3), (2, 0, 3), (1, 15, 0), (2, 1, 12), (2, 0, 3), (2, 0, 3), (1, 15, 0), (2, 1, 12), (2, 0, 3), (2, 0, 3), (1, 15, 0), (2, 1, 12), (2, 0, 3), (2, 0, 3), (1, 15, 0), (2, 1, 12), (2, 0, 3), (2, 0, 3), (1, 15, 0), (2, 1, 12), (2, 0, 3), (2, 0, 3), (1, 15, 0), (2, 1, 12), (2, 0, 3), (2, 0, 3), (1, 15, 0), (2, 1, 12), (2, 0, 3), (2, 0, 3), (1, 15, 0), (2, 1, 12), (2, 0, 3), (2, 0, 3), (1, 15, 0), (2, 1, 12), (2, 0, 3), (2, 0, 3), (1, 15, 0), (2, 1, 12), (2, 0, 3), (2, 0, 3), (1, 15, 0), (2, 1, 12), (2, 0, 3), (2, 0, 3), (1, 19, 0), (2, 0, 20), (2, 0, 20), (2, 0, 20), (2, 0, 20), (2, 0, 60), (2, 0, 60), (1, 19, 0), (2, 0, 20), (2, 0, 20), (2, 0, 20), (2, 0, 20), (2, 0, 60), (2, 0, 60), (1, 19, 0), (2, 0, 20), (2, 0, 20), (2, 0, 20), (2, 0, 20), (2, 0, 60), (2, 0, 60), (1, 19, 0), (2, 0, 20), (2, 0, 20), (2, 0, 20), (2, 0, 20), (2, 0, 60), (2, 0, 60), (1, 19, 0), (2, 0, 20), (2, 0, 20), (2, 0, 20), (2, 0, 20), (2, 0, 60), (2, 0, 60), (1, 19, 0), (2, 0, 20), (2, 0, 20), (2, 0, 20), (2, 0, 20), (2, 0, 60), (2, 0, 60), (1, 19, 0), (2, 0, 20), (2, 0, 20), (2, 0, 20), (2, 0, 20), (2, 0, 60), (2, 0, 60), (1, 19, 0), (2, 0, 20), (2, 0, 20), (2, 0, 20), (2, 0, 20), (2, 0, 60), (2, 0, 60), (2, 3, 1)]
def SHF (a : Nat) : SH := SHFs.getD (a - 64) (0, 0, 0)
/-- which references are set, once for all or at first -/
def PTFs : List (Nat × List (Nat × Nat)) := [(64, [(0, 65), (2, 66), (4, 67), (5, 68), (7, 69), (8, 70), (10, 73), (11, 76), (12, 80), (13, 82), (14, 84), (15, 89)]), (66, [(0, 92), (1, 96), (2, 100), (3, 104), (4, 108), (5, 112), (6, 116), (7, 120), (8, 124), (9, 128), (10, 132), (11, 136), (12, 140), (13, 144), (14, 148), (15, 152), (16, 156), (17, 160), (18, 164), (19, 168)]), (68, [(0, 172), (1, 178), (2, 184), (3, 190), (4, 196), (5, 202), (6, 208), (7, 214)]), (70, [(0, 71), (1, 72)]), (73, [(0, 74), (9, 75)]), (76, [(0, 77), (2, 78), (3, 79)]), (80, [(0, 81)]), (82, [(0, 83)]), (84, [(0, 85), (1, 86), (2, 87), (3, 88)]), (89, [(0, 90), (1, 91)]), (92, [(2, 93), (7, 94), (8, 95)]), (96, [(2, 97), (7, 98), (8, 99)]), (100, [(2, 101), (7, 102), (8, 103)]), (104, [(2, 105), (7, 106), (8, 107)]), (108, [(2, 109), (7, 110), (8, 111)]), (112, [(2, 113), (7, 114), (8, 115)]), (116, [(2, 117), (7, 118), (8, 119)]), (120, [(2, 121), (7, 122), (8, 123)]), (124, [(2, 125), (7, 126), (8, 127)]), (128, [(2, 129), (7, 130), (8, 131)]), (132, [(2, 133), (7, 134), (8, 135)]), (136, [(2, 137), (7, 138), (8, 139)]), (140, [(2, 141), (7, 142), (8, 143)]), (144, [(2, 145), (7, 146), (8, 147)]), (148, [(2, 149), (7, 150), (8, 151)]), (152, [(2, 153), (7, 154), (8, 155)]), (156, [(2, 157), (7, 158), (8, 159)]), (160, [(2, 161), (7, 162), (8, 163)]), (164, [(2, 165), (7, 166), (8, 167)]), (168, [(2, 169), (7, 170), (8, 171)]), (172, [(2, 173), (3, 174), (4, 175), (5, 176), (6, 177)]), (178, [(2, 179), (3, 180), (4, 181), (5, 182), (6, 183)]), (184, [(2, 185), (3, 186), (4, 187), (5, 188), (6, 189)]), (190, [(2, 191), (3, 192), (4, 193), (5, 194), (6, 195)]), (196, [(2, 197), (3, 198), (4, 199), (5, 200), (6, 201)]), (202, [(2, 203), (3, 204), (4, 205), (5, 206), (6, 207)]), (208, [(2, 209), (3, 210), (4, 211), (5, 212), (6, 213)]), (214, [(2, 215), (3, 216), (4, 217), (5, 218), (6, 219)]), (220, [(8, 221), (9, 222), (10, 223), (11, 224), (13, 225), (14, 226), (25, 227), (27, 228), (29, 229), (30, 230), (31, 231), (33, 232), (35, 233), (36, 234), (38, 235)]), (221, [(0, 336), (1, 340), (2, 344), (3, 348), (4, 352), (5, 356), (6, 360), (7, 364), (8, 368), (9, 372), (10, 376), (11, 380), (12, 384), (13, 388), (14, 392), (15, 396), (16, 400), (17, 404), (18, 408), (19, 412)]), (222, [(0, 416), (1, 423), (2, 430), (3, 437), (4, 444), (5, 451), (6, 458), (7, 465)]), (224, [(0, 236), (1, 237), (2, 238), (3, 239), (4, 240), (5, 241), (6, 242), (7, 243), (8, 244), (9, 245), (10, 246), (11, 247), (12, 248), (13, 249), (14, 250), (15, 251), (16, 252), (17, 253), (18, 254), (19, 255), (20, 256), (21, 257), (22, 258), (23, 259), (24, 260), (25, 261), (26, 262), (27, 263), (28, 264), (29, 265), (30, 266), (31, 267), (32, 268), (33, 269), (34, 270), (35, 271), (36, 272), (37, 273), (38, 274), (39, 275), (40, 276), (41, 277), (42, 278), (43, 279), (44, 280), (45, 281), (46, 282), (47, 283), (48, 284), (49, 285), (50, 286), (51, 287), (52, 288), (53, 289), (54, 290), (55, 291), (56, 292), (57, 293), (58, 294), (59, 295), (60, 296), (61, 297), (62, 298), (63, 299), (64, 300), (65, 301), (66, 302), (67, 303), (68, 304), (69, 305), (70, 306), (71, 307), (72, 308), (73, 309), (74, 310), (75, 311), (76, 312), (77, 313), (78, 314), (79, 315), (80, 316), (81, 317), (82, 318), (83, 319), (84, 320), (85, 321), (86, 322), (87, 323), (88, 324), (89, 325), (90, 326), (91, 327), (92, 328), (93, 329), (94, 330), (95, 331), (96, 332), (97, 333), (98, 334), (99, 335)]), (336, [(6, 337), (7, 338), (8, 339)]), (340, [(6, 341), (7, 342), (8, 343)]), (344, [(6, 345), (7, 346), (8, 347)]), (348, [(6, 349), (7, 350), (8, 351)]), (352, [(6, 353), (7, 354), (8, 355)]), (356, [(6, 357), (7, 358), (8, 359)]), (360, [(6, 361), (7, 362), (8, 363)]), (364, [(6, 365), (7, 366), (8, 367)]), (368, [(6, 369), (7, 370), (8, 371)]), (372, [(6, 373), (7, 374), (8, 375)]), (376, [(6, 377), (7, 378), (8, 379)]), (380, [(6, 381), (7, 382), (8, 383)]), (384, [(6, 385), (7, 386), (8, 387)]), (388, [(6, 389), (7, 390), (8, 391)]), (392, [(6, 393), (7, 394), (8, 395)]), (396, [(6, 397), (7, 398), (8, 399)]), (400, [(6, 401), (7, 402), (8, 403)]), (404, [(6, 405), (7, 406), (8, 407)]), (408, [(6, 409), (7, 410), (8, 411)]), (412, [(6, 413), (7, 414), (8, 415)]), (416, [(3, 417), (4, 418), (5, 419), (6, 420), (7, 421), (8, 422)]), (423, [(3, 424), (4, 425), (5, 426), (6, 427), (7, 428), (8, 429)]), (430, [(3, 431), (4, 432), (5, 433), (6, 434), (7, 435), (8, 436)]), (437, [(3, 438), (4, 439), (5, 440), (6, 441), (7, 442), (8, 443)]), (444, [(3, 445), (4, 446), (5, 447), (6, 448), (7, 449), (8, 450)]), (451, [(3, 452), (4, 453), (5, 454), (6, 455), (7, 456), (8, 457)]), (458, [(3, 459), (4, 460), (5, 461), (6, 462), (7, 463), (8, 464)]), (465, [(3, 466), (4, 467), (5, 468), (6, 469), (7, 470), (8, 471)])]
def PTF (a k : Nat) : Option Nat := (lk a PTFs).bind (lk k)
def SLZ (s : SH) : Nat := match s with
  | (1, ci, _) => (FKs.getD ci []).length
  | (_, _, n) => n
def SLG : Nat → Nat
  | 0 => 0
  | n + 1 => SLG n + SLZ (SHF (64 + n))
theorem PTF_mem {a k q : Nat} (h : PTF a k = some q) : ∃ l, (a, l) ∈ PTFs ∧ (k, q) ∈ l := by
  unfold PTF at h
  cases hl : lk a PTFs with
  | none => rw [hl] at h; cases h
  | some l =>
    rw [hl] at h
    exact ⟨l, lk_mem hl, lk_mem h⟩
/-- to each thing leads one reference: places by things -/
def PTV : List (Nat × Nat × Nat) := [(65, 64, 0), (66, 64, 2), (67, 64, 4), (68, 64, 5), (69, 64, 7), (70, 64, 8), (71, 70, 0), (72, 70, 1), (73, 64, 10), (74, 73, 0), (75, 73, 9), (76, 64, 11), (77, 76, 0), (78, 76, 2), (79, 76, 3), (80, 64, 12), (81, 80, 0), (82, 64, 13), (83, 82, 0), (84, 64, 14), (85, 84, 0), (86, 84, 1), (87, 84, 2), (88, 84, 3), (89, 64, 15), (90, 89, 0), (91, 89, 1), (92, 66, 0), (93, 92, 2), (94, 92, 7), (95, 92, 8), (96, 66, 1), (97, 96, 2), (98, 96, 7), (99, 96, 8), (100, 66, 2), (101, 100, 2), (102, 100, 7), (103, 100, 8), (104, 66, 3), (105, 104, 2), (106, 104, 7), (107, 104, 8), (108, 66, 4), (109, 108, 2), (110, 108, 7), (111, 108, 8), (112, 66, 5), (113, 112, 2), (114, 112, 7), (115, 112, 8), (116, 66, 6), (117, 116, 2), (118, 116, 7), (119, 116, 8), (120, 66, 7), (121, 120, 2), (122, 120, 7), (123, 120, 8), (124, 66, 8), (125, 124, 2), (126, 124, 7), (127, 124, 8), (128, 66, 9), (129, 128, 2), (130, 128, 7), (131, 128, 8), (132, 66, 10), (133, 132, 2), (134, 132, 7), (135, 132, 8), (136, 66, 11), (137, 136, 2), (138, 136, 7), (139, 136, 8), (140, 66, 12), (141, 140, 2), (142, 140, 7), (143, 140, 8), (144, 66, 13), (145, 144, 2), (146, 144, 7), (147, 144, 8), (148, 66, 14), (149, 148, 2), (150, 148, 7), (151, 148, 8), (152, 66, 15), (153, 152, 2), (154, 152, 7), (155, 152, 8), (156, 66, 16), (157, 156, 2), (158, 156, 7), (159, 156, 8), (160, 66, 17), (161, 160, 2), (162, 160, 7), (163, 160, 8), (164, 66, 18), (165, 164, 2), (166, 164, 7), (167, 164, 8), (168, 66, 19), (169, 168, 2), (170, 168, 7), (171, 168, 8), (172, 68, 0), (173, 172, 2), (174, 172, 3), (175, 172, 4), (176, 172, 5), (177, 172, 6), (178, 68, 1), (179, 178, 2), (180, 178, 3), (181, 178, 4), (182, 178, 5), (183, 178, 6), (184, 68, 2), (185, 184, 2), (186, 184, 3), (187, 184, 4), (188, 184, 5), (189, 184, 6), (190, 68, 3), (191, 190, 2), (192, 190, 3), (193, 190, 4), (194, 190, 5), (195, 190, 6), (196, 68, 4), (197, 196, 2), (198, 196, 3), (199, 196, 4), (200, 196, 5), (201, 196, 6), (202, 68, 5), (203, 202, 2), (204, 202, 3), (205, 202, 4), (206, 202, 5), (207, 202, 6), (208, 68, 6), (209, 208, 2), (210, 208, 3), (211, 208, 4), (212, 208, 5), (213, 208, 6), (214, 68, 7), (215, 214, 2), (216, 214, 3), (217, 214, 4), (218, 214, 5), (219, 214, 6), (221, 220, 8), (222, 220, 9), (223, 220, 10), (224, 220, 11), (225, 220, 13), (226, 220, 14), (227, 220, 25), (228, 220, 27), (229, 220, 29), (230, 220, 30), (231, 220, 31), (232, 220, 33), (233, 220, 35), (234, 220, 36), (235, 220, 38), (236, 224, 0), (237, 224, 1), (238, 224, 2), (239, 224, 3), (240, 224, 4), (241, 224, 5), (242, 224, 6), (243, 224, 7), (244, 224, 8), (245, 224, 9), (246, 224, 10), (247, 224, 11), (248, 224, 12), (249, 224, 13), (250, 224, 14), (251, 224, 15), (252, 224, 16), (253, 224, 17), (254, 224, 18), (255, 224, 19), (256, 224, 20), (257, 224, 21), (258, 224, 22), (259, 224, 23), (260, 224, 24), (261, 224, 25), (262, 224, 26), (263, 224, 27), (264, 224, 28), (265, 224, 29), (266, 224, 30), (267, 224, 31), (268, 224, 32), (269, 224, 33), (270, 224, 34), (271, 224, 35), (272, 224, 36), (273, 224, 37), (274, 224, 38), (275, 224, 39), (276, 224, 40), (277, 224, 41), (278, 224, 42), (279, 224, 43), (280, 224, 44), (281, 224, 45), (282, 224, 46), (283, 224, 47), (284, 224, 48), (285, 224, 49), (286, 224, 50), (287, 224, 51), (288, 224, 52), (289, 224, 53), (290, 224, 54), (291, 224, 55), (292, 224, 56), (293, 224, 57), (294, 224, 58), (295, 224, 59), (296, 224, 60), (297, 224, 61), (298, 224, 62), (299, 224, 63), (300, 224, 64), (301, 224, 65), (302, 224, 66), (303, 224, 67), (304, 224, 68), (305, 224, 69), (306, 224, 70), (307, 224, 71), (308, 224, 72), (309, 224, 73), (310, 224, 74), (311, 224, 75), (312, 224, 76), (313, 224, 77), (314, 224, 78), (315, 224, 79), (316, 224, 80), (317, 224, 81), (318, 224, 82), (319, 224, 83), (320, 224, 84), (321, 224, 85), (322, 224, 86), (323, 224, 87), (324, 224, 88), (325, 224, 89), (326, 224, 90), (327, 224, 91), (328, 224, 92), (329, 224, 93), (330, 224, 94), (331, 224, 95), (332, 224, 96), (333, 224, 97), (334, 224, 98), (335, 224, 99), (336, 221, 0), (337, 336, 6), (338, 336, 7), (339, 336, 8), (340, 221, 1), (341, 340, 6), (342, 340, 7), (343, 340, 8), (344, 221, 2), (345, 344, 6), (346, 344, 7), (347, 344, 8), (348, 221, 3), (349, 348, 6), (350, 348, 7), (351, 348, 8), (352, 221, 4), (353, 352, 6), (354, 352, 7), (355, 352, 8), (356, 221, 5), (357, 356, 6), (358, 356, 7), (359, 356, 8), (360, 221, 6), (361, 360, 6), (362, 360, 7), (363, 360, 8), (364, 221, 7), (365, 364, 6), (366, 364, 7), (367, 364, 8), (368, 221, 8), (369, 368, 6), (370, 368, 7), (371, 368, 8), (372, 221, 9), (373, 372, 6), (374, 372, 7), (375, 372, 8), (376, 221, 10), (377, 376, 6), (378, 376, 7), (379, 376, 8), (380, 221, 11), (381, 380, 6), (382, 380, 7), (383, 380, 8), (384, 221, 12), (385, 384, 6), (386, 384, 7), (387, 384, 8), (388, 221, 13), (389, 388, 6), (390, 388, 7), (391, 388, 8), (392, 221, 14), (393, 392, 6), (394, 392, 7), (395, 392, 8), (396, 221, 15), (397, 396, 6), (398, 396, 7), (399, 396, 8), (400, 221, 16), (401, 400, 6), (402, 400, 7), (403, 400, 8), (404, 221, 17), (405, 404, 6), (406, 404, 7), (407, 404, 8), (408, 221, 18), (409, 408, 6), (410, 408, 7), (411, 408, 8), (412, 221, 19), (413, 412, 6), (414, 412, 7), (415, 412, 8), (416, 222, 0), (417, 416, 3), (418, 416, 4), (419, 416, 5), (420, 416, 6), (421, 416, 7), (422, 416, 8), (423, 222, 1), (424, 423, 3), (425, 423, 4), (426, 423, 5), (427, 423, 6), (428, 423, 7), (429, 423, 8), (430, 222, 2), (431, 430, 3), (432, 430, 4), (433, 430, 5), (434, 430, 6), (435, 430, 7), (436, 430, 8), (437, 222, 3), (438, 437, 3), (439, 437, 4), (440, 437, 5), (441, 437, 6), (442, 437, 7), (443, 437, 8), (444, 222, 4), (445, 444, 3), (446, 444, 4), (447, 444, 5), (448, 444, 6), (449, 444, 7), (450, 444, 8), (451, 222, 5), (452, 451, 3), (453, 451, 4), (454, 451, 5), (455, 451, 6), (456, 451, 7), (457, 451, 8), (458, 222, 6), (459, 458, 3), (460, 458, 4), (461, 458, 5), (462, 458, 6), (463, 458, 7), (464, 458, 8), (465, 222, 7), (466, 465, 3), (467, 465, 4), (468, 465, 5), (469, 465, 6), (470, 465, 7), (471, 465, 8)]
set_option maxRecDepth 100000 in
theorem PTV_ok : (PTFs.all fun x => x.2.all fun y => decide (lk y.2 PTV = some (x.1, y.1)) && decide (64 ≤ x.1) && decide (y.2 < 473) && decide (x.1 < 473)) = true := by decide +kernel
theorem PTF_v {a k q : Nat} (h : PTF a k = some q) : lk q PTV = some (a, k) ∧ 64 ≤ a ∧ q < 473 ∧ a < 473 := by
  obtain ⟨l, h1, h2⟩ := PTF_mem h
  have h3 := List.all_eq_true.mp (List.all_eq_true.mp PTV_ok _ h1) _ h2
  simp only [Bool.and_eq_true, decide_eq_true_eq] at h3
  exact ⟨h3.1.1.1, h3.1.1.2, h3.1.2, h3.2⟩
theorem PTF_gt : (PTFs.all fun x => x.2.all fun y => decide (x.1 < y.2)) = true := by decide +kernel
theorem PTF_lt {a k q : Nat} (h : PTF a k = some q) : a < q := by
  obtain ⟨l, h1, h2⟩ := PTF_mem h
  have h3 := List.all_eq_true.mp (List.all_eq_true.mp PTF_gt _ h1) _ h2
  simpa using h3
/-- N things are there; X: those that no reference leads to yet -/
def BLDX (L : Nat) (f : Nat → Int) (N : Nat) (X : List Nat) (τ : T2) : Prop := tN τ = N ∧ 64 ≤ N ∧ tZ τ = SLG (N - 64) ∧ (∀ a, 64 ≤ a → a < N → tS τ a = SHF a) ∧ (∀ a k, 64 ≤ a → a < N → (a = 220 ∧ k = 2) ∨ tI τ a k = 0) ∧ (∀ a k q, PTF a k = some q → q < N → q ∉ X → tP τ a k = some q) ∧ (∀ a k, 64 ≤ a → a < N → tP τ a k = none ∨ tP τ a k = PTF a k) ∧
  (tS τ 0 = (2, 100, L) ∧ tI τ 0 = f ∧ tS τ 1 = (3, 101, 0) ∧ tP τ 1 = fun _ => none)
section BX
variable {L N : Nat} {f : Nat → Int} {X : List Nat} {τ : T2}
theorem bsh (B : BLDX L f N X τ) {a : Nat} {s : SH} (h : SHF a = s) (h1 : 64 ≤ a) (h2 : a < N) : tS τ a = s := by rw [← h]; exact B.2.2.2.1 a h1 h2
theorem bx_z (B : BLDX L f N X τ) (a k : Nat) (ha : 64 ≤ a) : BLDX L f N X (uI τ a k 0) := by
  obtain ⟨h1, h2, h3, h4, h5, h6, h7, h8⟩ := B
  refine ⟨h1, h2, h3, h4, fun b j hb hb2 => ?_, h6, h7, h8.1, ?_, h8.2.2⟩
  · rcases h5 b j hb hb2 with h | h
    · exact Or.inl h
    · refine Or.inr ?_
      show (if b = a ∧ j = k then (0 : Int) else tI τ b j) = 0
      rw [h]; split <;> rfl
  · rw [← h8.2.1]
    exact up_oth _ _ _ (by omega)
theorem bx_w (B : BLDX L f N X τ) (x : Int) : BLDX L f N X (uI τ 220 2 x) := by
  obtain ⟨h1, h2, h3, h4, h5, h6, h7, h8⟩ := B
  refine ⟨h1, h2, h3, h4, fun b j hb hb2 => ?_, h6, h7, h8.1, ?_, h8.2.2⟩
  · by_cases e : b = 220 ∧ j = 2
    · exact Or.inl e
    · rcases h5 b j hb hb2 with h | h
      · exact Or.inl h
      · refine Or.inr ?_
        show (if b = 220 ∧ j = 2 then x else tI τ b j) = 0
        rw [if_neg e]; exact h
  · rw [← h8.2.1]
    exact up_oth (tI τ) 2 x (show (0 : Nat) ≠ 220 by decide)
theorem bx_0 (B : BLDX L f N X τ) {a k : Nat} (hp : PTF a k = none) (ha : 64 ≤ a) : BLDX L f N X (uP τ a k none) := by
  obtain ⟨h1, h2, h3, h4, h5, h6, h7, h8⟩ := B
  refine ⟨h1, h2, h3, h4, h5, fun b j q hq hb hx => ?_, fun b j hb hb2 => ?_, h8.1, h8.2.1, h8.2.2.1, ?_⟩
  · show (if b = a ∧ j = k then none else tP τ b j) = some q
    rw [if_neg (fun e => by rw [e.1, e.2, hp] at hq; cases hq)]
    exact h6 b j q hq hb hx
  · show (if b = a ∧ j = k then none else tP τ b j) = none ∨ (if b = a ∧ j = k then none else tP τ b j) = PTF b j
    split
    · exact Or.inl rfl
    · exact h7 b j hb hb2
  · rw [← h8.2.2.2]
    exact up_oth _ _ _ (by omega)
theorem bx_p {q : Nat} (B : BLDX L f N (q :: X) τ) {a k : Nat} (hp : PTF a k = some q) : BLDX L f N X (uP τ a k (some q)) := by
  obtain ⟨h1, h2, h3, h4, h5, h6, h7, h8⟩ := B
  obtain ⟨v1, v2, -, -⟩ := PTF_v hp
  refine ⟨h1, h2, h3, h4, h5, fun b j z hz hb hx => ?_, fun b j hb hb2 => ?_, h8.1, h8.2.1, h8.2.2.1, ?_⟩
  · show (if b = a ∧ j = k then some q else tP τ b j) = some z
    by_cases e : b = a ∧ j = k
    · rw [if_pos e]
      rw [e.1, e.2, hp] at hz
      exact hz
    · rw [if_neg e]
      refine h6 b j z hz hb fun hm => ?_
      rcases List.mem_cons.mp hm with h | h
      · rw [h] at hz
        obtain ⟨w1, -⟩ := PTF_v hz
        rw [v1] at w1
        cases w1
        exact e ⟨rfl, rfl⟩
      · exact hx h
  · show (if b = a ∧ j = k then some q else tP τ b j) = none ∨ (if b = a ∧ j = k then some q else tP τ b j) = PTF b j
    by_cases e : b = a ∧ j = k
    · rw [if_pos e, e.1, e.2, hp]
      exact Or.inr rfl
    · rw [if_neg e]
      exact h7 b j hb hb2
  · rw [← h8.2.2.2]
    exact up_oth _ _ _ (by omega)
theorem bx_n (B : BLDX L f N X τ) {s : SH} {k : Nat} (hs : SHF N = s) (hk : SLZ s = k) : BLDX L f (N + 1) (N :: X) (nC τ s k) := by
  obtain ⟨h1, h2, h3, h4, h5, h6, h7, h8⟩ := B
  subst h1
  refine ⟨rfl, by omega, ?_, fun a ha hb => ?_, fun a j ha hb => ?_, fun a j q hq hb hx => ?_, fun a j ha hb => ?_, ?_, ?_, ?_, ?_⟩
  · show tZ τ + k = SLG (tN τ + 1 - 64)
    rw [show tN τ + 1 - 64 = (tN τ - 64) + 1 by omega]
    show tZ τ + k = SLG (tN τ - 64) + SLZ (SHF (64 + (tN τ - 64)))
    rw [show 64 + (tN τ - 64) = tN τ by omega, h3, hs, hk]
  · show (if a = tN τ then s else tS τ a) = SHF a
    by_cases e : a = tN τ
    · rw [if_pos e, e, hs]
    · rw [if_neg e]; exact h4 a ha (by omega)
  · by_cases e : a = tN τ
    · refine Or.inr ?_
      rw [e]
      show rw2 (tI τ) (tN τ) (fun _ => 0) (tN τ) j = 0
      rw [rw2_row]
    · rcases h5 a j ha (by omega) with h | h
      · exact Or.inl h
      · refine Or.inr ?_
        show rw2 (tI τ) (tN τ) (fun _ => 0) a j = 0
        rw [rw2_oth _ _ e]; exact h
  · have hq2 : q ≠ tN τ := fun e => hx (by rw [e]; exact List.mem_cons_self)
    have h9 := h6 a j q hq (by omega) (fun hm => hx (List.mem_cons_of_mem _ hm))
    show rw2 (tP τ) (tN τ) (fun _ => none) a j = some q
    by_cases e : a = tN τ
    · rw [e] at hq h9
      exact absurd h9 (by
        intro h10
        have := PTF_lt hq
        omega)
    · rw [rw2_oth _ _ e]; exact h9
  · show rw2 (tP τ) (tN τ) (fun _ => none) a j = none ∨ rw2 (tP τ) (tN τ) (fun _ => none) a j = PTF a j
    by_cases e : a = tN τ
    · rw [e, rw2_row]; exact Or.inl rfl
    · rw [rw2_oth _ _ e]; exact h7 a j ha (by omega)
  · show (if 0 = tN τ then s else tS τ 0) = _
    rw [if_neg (by omega)]; exact h8.1
  · show rw2 (tI τ) (tN τ) (fun _ => 0) 0 = f
    rw [rw2_oth _ _ (by omega)]; exact h8.2.1
  · show (if 1 = tN τ then s else tS τ 1) = _
    rw [if_neg (by omega)]; exact h8.2.2.1
  · show rw2 (tP τ) (tN τ) (fun _ => none) 1 = _
    rw [rw2_oth _ _ (by omega)]; exact h8.2.2.2
end BX
theorem i0 {d L : Nat} {f : Nat → Int} {τ : T2} {Q : RS → T2 → Prop} (hd : 17 ≤ d) (B : BLDX L f (71) ((70) :: []) τ) (h : ∀ τ1, BLDX L f (73) ((70) :: []) τ1 → Q (.inl none) τ1) : G d 0 0 [vR (70)] [] τ Q := by
  refine t0_0 hd  ?_
  rw [B.1]
  replace B := bx_n B (s := (2, 1, 480)) (k := 480) rfl rfl
  refine t0_10 (bsh B rfl (by omega) (by omega)) ?_
  replace B := bx_p B (a := 70) (k := 0) rfl
  rw [B.1]
  replace B := bx_n B (s := (2, 0, 40)) (k := 40) rfl rfl
  refine t0_18 (bsh B rfl (by omega) (by omega)) (bsh B rfl (by omega) (by omega)) ?_
  replace B := bx_p B (a := 70) (k := 1) rfl
  replace B := bx_z B (70) 2 (by omega)
  exact h _ B
theorem i66 {d L : Nat} {f : Nat → Int} {τ : T2} {Q : RS → T2 → Prop} (hd : 17 ≤ d) (B : BLDX L f (74) ((73) :: []) τ) (h : ∀ τ1, BLDX L f (76) ((73) :: []) τ1 → Q (.inl none) τ1) : G d 66 0 [vR (73)] [] τ Q := by
  refine t66_0 hd  ?_
  rw [B.1]
  replace B := bx_n B (s := (2, 1, 0)) (k := 0) rfl rfl
  refine t66_8 (bsh B rfl (by omega) (by omega)) (bsh B rfl (by omega) (by omega)) ?_
  replace B := bx_p B (a := 73) (k := 0) rfl
  replace B := bx_z B (73) 1 (by omega)
  replace B := bx_z B (73) 2 (by omega)
  replace B := bx_z B (73) 3 (by omega)
  replace B := bx_z B (73) 4 (by omega)
  replace B := bx_z B (73) 5 (by omega)
  replace B := bx_z B (73) 6 (by omega)
  replace B := bx_z B (73) 7 (by omega)
  replace B := bx_z B (73) 8 (by omega)
  rw [B.1]
  replace B := bx_n B (s := (2, 0, 1200)) (k := 1200) rfl rfl
  refine t66_57 (bsh B rfl (by omega) (by omega)) (bsh B rfl (by omega) (by omega)) ?_
  replace B := bx_p B (a := 73) (k := 9) rfl
  replace B := bx_z B (73) 10 (by omega)
  exact h _ B
theorem i13 {d L : Nat} {f : Nat → Int} {τ : T2} {Q : RS → T2 → Prop} (hd : 17 ≤ d) (B : BLDX L f (77) ((76) :: []) τ) (h : ∀ τ1, BLDX L f (80) ((76) :: []) τ1 → Q (.inl none) τ1) : G d 13 0 [vR (76)] [] τ Q := by
  refine t13_0 hd  ?_
  rw [B.1]
  replace B := bx_n B (s := (2, 1, 300)) (k := 300) rfl rfl
  refine t13_10 (bsh B rfl (by omega) (by omega)) (bsh B rfl (by omega) (by omega)) ?_
  replace B := bx_p B (a := 76) (k := 0) rfl
  replace B := bx_z B (76) 1 (by omega)
  rw [B.1]
  replace B := bx_n B (s := (2, 3, 2085)) (k := 2085) rfl rfl
  refine t13_24 (bsh B rfl (by omega) (by omega)) ?_
  replace B := bx_p B (a := 76) (k := 2) rfl
  rw [B.1]
  replace B := bx_n B (s := (2, 0, 13)) (k := 13) rfl rfl
  refine t13_32 (bsh B rfl (by omega) (by omega)) ?_
  replace B := bx_p B (a := 76) (k := 3) rfl
  exact h _ B
theorem i34 {d L : Nat} {f : Nat → Int} {τ : T2} {Q : RS → T2 → Prop} (hd : 17 ≤ d) (B : BLDX L f (81) ((80) :: []) τ) (h : ∀ τ1, BLDX L f (82) ((80) :: []) τ1 → Q (.inl none) τ1) : G d 34 0 [vR (80)] [] τ Q := by
  refine t34_0 hd  ?_
  rw [B.1]
  replace B := bx_n B (s := (2, 1, 24)) (k := 24) rfl rfl
  refine t34_9 (bsh B rfl (by omega) (by omega)) (bsh B rfl (by omega) (by omega)) ?_
  replace B := bx_p B (a := 80) (k := 0) rfl
  replace B := bx_z B (80) 1 (by omega)
  exact h _ B
theorem i82 {d L : Nat} {f : Nat → Int} {τ : T2} {Q : RS → T2 → Prop} (hd : 17 ≤ d) (B : BLDX L f (85) ((84) :: []) τ) (h : ∀ τ1, BLDX L f (89) ((84) :: []) τ1 → Q (.inl none) τ1) : G d 82 0 [vR (84)] [] τ Q := by
  refine t82_0 hd  ?_
  rw [B.1]
  replace B := bx_n B (s := (2, 0, 1000)) (k := 1000) rfl rfl
  refine t82_10 (bsh B rfl (by omega) (by omega)) ?_
  replace B := bx_p B (a := 84) (k := 0) rfl
  rw [B.1]
  replace B := bx_n B (s := (2, 0, 1000)) (k := 1000) rfl rfl
  refine t82_19 (bsh B rfl (by omega) (by omega)) ?_
  replace B := bx_p B (a := 84) (k := 1) rfl
  rw [B.1]
  replace B := bx_n B (s := (2, 2, 1000)) (k := 1000) rfl rfl
  refine t82_28 (bsh B rfl (by omega) (by omega)) ?_
  replace B := bx_p B (a := 84) (k := 2) rfl
  rw [B.1]
  replace B := bx_n B (s := (2, 0, 2048)) (k := 2048) rfl rfl
  refine t82_37 (bsh B rfl (by omega) (by omega)) (bsh B rfl (by omega) (by omega)) ?_
  replace B := bx_p B (a := 84) (k := 3) rfl
  replace B := bx_z B (84) 4 (by omega)
  exact h _ B
theorem i27 {d L : Nat} {f : Nat → Int} {τ : T2} {Q : RS → T2 → Prop} (hd : 17 ≤ d) (B : BLDX L f (90) ((89) :: []) τ) (h : ∀ τ1, BLDX L f (92) ((89) :: []) τ1 → Q (.inl none) τ1) : G d 27 0 [vR (89)] [] τ Q := by
  refine t27_0 hd  ?_
  rw [B.1]
  replace B := bx_n B (s := (2, 0, 500)) (k := 500) rfl rfl
  refine t27_10 (bsh B rfl (by omega) (by omega)) ?_
  replace B := bx_p B (a := 89) (k := 0) rfl
  rw [B.1]
  replace B := bx_n B (s := (3, 6, 100)) (k := 100) rfl rfl
  refine t27_19 (bsh B rfl (by omega) (by omega)) (bsh B rfl (by omega) (by omega)) ?_
  replace B := bx_p B (a := 89) (k := 1) rfl
  replace B := bx_z B (89) 2 (by omega)
  replace B := bx_z B (89) 3 (by omega)
  replace B := bx_z B (89) 4 (by omega)
  replace B := bx_z B (89) 5 (by omega)
  replace B := bx_z B (89) 6 (by omega)
  replace B := bx_z B (89) 7 (by omega)
  replace B := bx_z B (89) 8 (by omega)
  replace B := bx_0 B (a := 89) (k := 9) rfl (by omega)
  exact h _ B
theorem i34b {d L : Nat} {f : Nat → Int} {τ : T2} {Q : RS → T2 → Prop} (hd : 17 ≤ d) (B : BLDX L f (83) ((82) :: []) τ) (h : ∀ τ1, BLDX L f (84) ((82) :: []) τ1 → Q (.inl none) τ1) : G d 34 0 [vR (82)] [] τ Q := by
  refine t34_0 hd  ?_
  rw [B.1]
  replace B := bx_n B (s := (2, 1, 24)) (k := 24) rfl rfl
  refine t34_9 (bsh B rfl (by omega) (by omega)) (bsh B rfl (by omega) (by omega)) ?_
  replace B := bx_p B (a := 82) (k := 0) rfl
  replace B := bx_z B (82) 1 (by omega)
  exact h _ B
theorem wr_nat {n : Nat} (h : n < 100000) : wr ((n : Int) + 1) = ((n + 1 : Nat) : Int) := by
  rw [wr_id (by unfold okI; omega)]
  rfl
theorem sf_r : ∀ r : Nat, r < 20 → (SHF (92 + 4 * r) = (1, 6, 0) ∧ SHF (92 + 4 * r + 1) = (2, 1, 12) ∧ SHF (92 + 4 * r + 2) = (2, 0, 3) ∧ SHF (92 + 4 * r + 3) = (2, 0, 3) ∧ True) := by decide +kernel
theorem pf_r : ∀ r : Nat, r < 20 → (PTF (92 + 4 * r) 2 = some (92 + 4 * r + 1) ∧ PTF (92 + 4 * r) 7 = some (92 + 4 * r + 2) ∧ PTF (92 + 4 * r) 8 = some (92 + 4 * r + 3) ∧ PTF (92 + 4 * r) 9 = none ∧ PTF (92 + 4 * r) 10 = none ∧ PTF (92 + 4 * r) 11 = none ∧ PTF 66 r = some (92 + 4 * r) ∧ True) := by decide +kernel
theorem i31 {d L : Nat} {f : Nat → Int} {τ : T2} {Q : RS → T2 → Prop} {r : Nat} (hr : r < 20) (hd : 17 ≤ d) (B : BLDX L f (92 + 4 * r + 1) ((92 + 4 * r) :: []) τ) (h : ∀ τ1, BLDX L f (92 + 4 * r + 4) ((92 + 4 * r) :: []) τ1 → Q (.inl none) τ1) : G d 31 0 [vR (92 + 4 * r)] [] τ Q := by
  refine t31_0 hd (bsh B (sf_r r hr).1 (by omega) (by omega)) ?_
  replace B := bx_z B (92 + 4 * r) 0 (by omega)
  replace B := bx_z B (92 + 4 * r) 1 (by omega)
  rw [B.1]
  replace B := bx_n B (s := (2, 1, 12)) (k := 12) (sf_r r hr).2.1 rfl
  refine t31_19 (bsh B (sf_r r hr).1 (by omega) (by omega)) (bsh B (sf_r r hr).1 (by omega) (by omega)) ?_
  replace B := bx_p B (a := 92 + 4 * r) (k := 2) (pf_r r hr).1
  replace B := bx_z B (92 + 4 * r) 3 (by omega)
  replace B := bx_z B (92 + 4 * r) 4 (by omega)
  replace B := bx_z B (92 + 4 * r) 5 (by omega)
  replace B := bx_z B (92 + 4 * r) 6 (by omega)
  rw [B.1]
  replace B := bx_n B (s := (2, 0, 3)) (k := 3) (sf_r r hr).2.2.1 rfl
  refine t31_46 (bsh B (sf_r r hr).1 (by omega) (by omega)) ?_
  replace B := bx_p B (a := 92 + 4 * r) (k := 7) (pf_r r hr).2.1
  rw [B.1]
  replace B := bx_n B (s := (2, 0, 3)) (k := 3) (sf_r r hr).2.2.2.1 rfl
  refine t31_53 (bsh B (sf_r r hr).1 (by omega) (by omega)) (bsh B (sf_r r hr).1 (by omega) (by omega)) ?_
  replace B := bx_p B (a := 92 + 4 * r) (k := 8) (pf_r r hr).2.2.1
  replace B := bx_0 B (a := 92 + 4 * r) (k := 9) (pf_r r hr).2.2.2.1 (by omega)
  replace B := bx_0 B (a := 92 + 4 * r) (k := 10) (pf_r r hr).2.2.2.2.1 (by omega)
  replace B := bx_0 B (a := 92 + 4 * r) (k := 11) (pf_r r hr).2.2.2.2.2.1 (by omega)
  exact h _ B
theorem sf_t : ∀ r : Nat, r < 8 → (SHF (172 + 6 * r) = (1, 8, 0) ∧ SHF (172 + 6 * r + 1) = (2, 0, 20) ∧ SHF (172 + 6 * r + 2) = (2, 0, 20) ∧ SHF (172 + 6 * r + 3) = (2, 0, 20) ∧ SHF (172 + 6 * r + 4) = (2, 0, 20) ∧ SHF (172 + 6 * r + 5) = (2, 0, 60) ∧ True) := by decide +kernel
theorem pf_t : ∀ r : Nat, r < 8 → (PTF (172 + 6 * r) 2 = some (172 + 6 * r + 1) ∧ PTF (172 + 6 * r) 3 = some (172 + 6 * r + 2) ∧ PTF (172 + 6 * r) 4 = some (172 + 6 * r + 3) ∧ PTF (172 + 6 * r) 5 = some (172 + 6 * r + 4) ∧ PTF (172 + 6 * r) 6 = some (172 + 6 * r + 5) ∧ PTF 68 r = some (172 + 6 * r) ∧ True) := by decide +kernel
theorem i59 {d L : Nat} {f : Nat → Int} {τ : T2} {Q : RS → T2 → Prop} {r : Nat} (hr : r < 8) (hd : 17 ≤ d) (B : BLDX L f (172 + 6 * r + 1) ((172 + 6 * r) :: []) τ) (h : ∀ τ1, BLDX L f (172 + 6 * r + 6) ((172 + 6 * r) :: []) τ1 → Q (.inl none) τ1) : G d 59 0 [vR (172 + 6 * r)] [] τ Q := by
  refine t59_0 hd (bsh B (sf_t r hr).1 (by omega) (by omega)) ?_
  replace B := bx_z B (172 + 6 * r) 0 (by omega)
  replace B := bx_z B (172 + 6 * r) 1 (by omega)
  rw [B.1]
  replace B := bx_n B (s := (2, 0, 20)) (k := 20) (sf_t r hr).2.1 rfl
  refine t59_19 (bsh B (sf_t r hr).1 (by omega) (by omega)) ?_
  replace B := bx_p B (a := 172 + 6 * r) (k := 2) (pf_t r hr).1
  rw [B.1]
  replace B := bx_n B (s := (2, 0, 20)) (k := 20) (sf_t r hr).2.2.1 rfl
  refine t59_27 (bsh B (sf_t r hr).1 (by omega) (by omega)) ?_
  replace B := bx_p B (a := 172 + 6 * r) (k := 3) (pf_t r hr).2.1
  rw [B.1]
  replace B := bx_n B (s := (2, 0, 20)) (k := 20) (sf_t r hr).2.2.2.1 rfl
  refine t59_35 (bsh B (sf_t r hr).1 (by omega) (by omega)) ?_
  replace B := bx_p B (a := 172 + 6 * r) (k := 4) (pf_t r hr).2.2.1
  rw [B.1]
  replace B := bx_n B (s := (2, 0, 20)) (k := 20) (sf_t r hr).2.2.2.2.1 rfl
  refine t59_43 (bsh B (sf_t r hr).1 (by omega) (by omega)) ?_
  replace B := bx_p B (a := 172 + 6 * r) (k := 5) (pf_t r hr).2.2.2.1
  rw [B.1]
  replace B := bx_n B (s := (2, 0, 60)) (k := 60) (sf_t r hr).2.2.2.2.2.1 rfl
  refine t59_51 (bsh B (sf_t r hr).1 (by omega) (by omega)) ?_
  replace B := bx_p B (a := 172 + 6 * r) (k := 6) (pf_t r hr).2.2.2.2.1
  exact h _ B
theorem sf_a : ∀ r : Nat, r < 100 → (SHF (236 + 1 * r) = (1, 12, 0) ∧ True) := by decide +kernel
theorem pf_a : ∀ r : Nat, r < 100 → (PTF 224 r = some (236 + 1 * r) ∧ True) := by decide +kernel
theorem i147 {d L : Nat} {f : Nat → Int} {τ : T2} {Q : RS → T2 → Prop} {r : Nat} (hr : r < 100) (hd : 17 ≤ d) (B : BLDX L f (236 + 1 * r + 1) ((236 + 1 * r) :: []) τ) (h : ∀ τ1, BLDX L f (236 + 1 * r + 1) ((236 + 1 * r) :: []) τ1 → Q (.inl none) τ1) : G d 147 0 [vR (236 + 1 * r)] [] τ Q := t147_0 hd (h τ B)
theorem sf_m : ∀ r : Nat, r < 20 → (SHF (336 + 4 * r) = (1, 15, 0) ∧ SHF (336 + 4 * r + 1) = (2, 1, 12) ∧ SHF (336 + 4 * r + 2) = (2, 0, 3) ∧ SHF (336 + 4 * r + 3) = (2, 0, 3) ∧ True) := by decide +kernel
theorem pf_m : ∀ r : Nat, r < 20 → (PTF (336 + 4 * r) 6 = some (336 + 4 * r + 1) ∧ PTF (336 + 4 * r) 7 = some (336 + 4 * r + 2) ∧ PTF (336 + 4 * r) 8 = some (336 + 4 * r + 3) ∧ PTF 221 r = some (336 + 4 * r) ∧ True) := by decide +kernel
theorem i150 {d L : Nat} {f : Nat → Int} {τ : T2} {Q : RS → T2 → Prop} {r : Nat} (hr : r < 20) (hd : 17 ≤ d) (B : BLDX L f (336 + 4 * r + 1) ((336 + 4 * r) :: []) τ) (h : ∀ τ1, BLDX L f (336 + 4 * r + 4) ((336 + 4 * r) :: []) τ1 → Q (.inl none) τ1) : G d 150 0 [vR (336 + 4 * r)] [] τ Q := by
  refine t150_0 hd  ?_
  rw [B.1]
  replace B := bx_n B (s := (2, 1, 12)) (k := 12) (sf_m r hr).2.1 rfl
  refine t150_9 (bsh B (sf_m r hr).1 (by omega) (by omega)) ?_
  replace B := bx_p B (a := 336 + 4 * r) (k := 6) (pf_m r hr).1
  rw [B.1]
  replace B := bx_n B (s := (2, 0, 3)) (k := 3) (sf_m r hr).2.2.1 rfl
  refine t150_16 (bsh B (sf_m r hr).1 (by omega) (by omega)) ?_
  replace B := bx_p B (a := 336 + 4 * r) (k := 7) (pf_m r hr).2.1
  rw [B.1]
  replace B := bx_n B (s := (2, 0, 3)) (k := 3) (sf_m r hr).2.2.2.1 rfl
  refine t150_23 (bsh B (sf_m r hr).1 (by omega) (by omega)) ?_
  replace B := bx_p B (a := 336 + 4 * r) (k := 8) (pf_m r hr).2.2.1
  exact h _ B
theorem sf_u : ∀ r : Nat, r < 8 → (SHF (416 + 7 * r) = (1, 19, 0) ∧ SHF (416 + 7 * r + 1) = (2, 0, 20) ∧ SHF (416 + 7 * r + 2) = (2, 0, 20) ∧ SHF (416 + 7 * r + 3) = (2, 0, 20) ∧ SHF (416 + 7 * r + 4) = (2, 0, 20) ∧ SHF (416 + 7 * r + 5) = (2, 0, 60) ∧ SHF (416 + 7 * r + 6) = (2, 0, 60) ∧ True) := by decide +kernel
theorem pf_u : ∀ r : Nat, r < 8 → (PTF (416 + 7 * r) 3 = some (416 + 7 * r + 1) ∧ PTF (416 + 7 * r) 4 = some (416 + 7 * r + 2) ∧ PTF (416 + 7 * r) 5 = some (416 + 7 * r + 3) ∧ PTF (416 + 7 * r) 6 = some (416 + 7 * r + 4) ∧ PTF (416 + 7 * r) 7 = some (416 + 7 * r + 5) ∧ PTF (416 + 7 * r) 8 = some (416 + 7 * r + 6) ∧ PTF 222 r = some (416 + 7 * r) ∧ True) := by decide +kernel
theorem i155 {d L : Nat} {f : Nat → Int} {τ : T2} {Q : RS → T2 → Prop} {r : Nat} (hr : r < 8) (hd : 17 ≤ d) (B : BLDX L f (416 + 7 * r + 1) ((416 + 7 * r) :: []) τ) (h : ∀ τ1, BLDX L f (416 + 7 * r + 7) ((416 + 7 * r) :: []) τ1 → Q (.inl none) τ1) : G d 155 0 [vR (416 + 7 * r)] [] τ Q := by
  refine t155_0 hd  ?_
  rw [B.1]
  replace B := bx_n B (s := (2, 0, 20)) (k := 20) (sf_u r hr).2.1 rfl
  refine t155_9 (bsh B (sf_u r hr).1 (by omega) (by omega)) ?_
  replace B := bx_p B (a := 416 + 7 * r) (k := 3) (pf_u r hr).1
  rw [B.1]
  replace B := bx_n B (s := (2, 0, 20)) (k := 20) (sf_u r hr).2.2.1 rfl
  refine t155_17 (bsh B (sf_u r hr).1 (by omega) (by omega)) ?_
  replace B := bx_p B (a := 416 + 7 * r) (k := 4) (pf_u r hr).2.1
  rw [B.1]
  replace B := bx_n B (s := (2, 0, 20)) (k := 20) (sf_u r hr).2.2.2.1 rfl
  refine t155_25 (bsh B (sf_u r hr).1 (by omega) (by omega)) ?_
  replace B := bx_p B (a := 416 + 7 * r) (k := 5) (pf_u r hr).2.2.1
  rw [B.1]
  replace B := bx_n B (s := (2, 0, 20)) (k := 20) (sf_u r hr).2.2.2.2.1 rfl
  refine t155_33 (bsh B (sf_u r hr).1 (by omega) (by omega)) ?_
  replace B := bx_p B (a := 416 + 7 * r) (k := 6) (pf_u r hr).2.2.2.1
  rw [B.1]
  replace B := bx_n B (s := (2, 0, 60)) (k := 60) (sf_u r hr).2.2.2.2.2.1 rfl
  refine t155_41 (bsh B (sf_u r hr).1 (by omega) (by omega)) ?_
  replace B := bx_p B (a := 416 + 7 * r) (k := 7) (pf_u r hr).2.2.2.2.1
  rw [B.1]
  replace B := bx_n B (s := (2, 0, 60)) (k := 60) (sf_u r hr).2.2.2.2.2.2.1 rfl
  refine t155_49 (bsh B (sf_u r hr).1 (by omega) (by omega)) ?_
  replace B := bx_p B (a := 416 + 7 * r) (k := 8) (pf_u r hr).2.2.2.2.2.1
  exact h _ B
theorem lp_r {d L : Nat} {f : Nat → Int} {Q : RS → T2 → Prop} (hd : 18 ≤ d) (h : ∀ τ1, BLDX L f 172 [] τ1 → G d 91 183 [vR 64, vI 0] [] τ1 Q) : ∀ (k r : Nat) {τ : T2}, r + k = 20 → BLDX L f (92 + 4 * r) [] τ → G d 91 156 [vR 64, vI (r : Int)] [] τ Q
  | 0, r, τ, hk, B => by
    have e : r = 20 := by omega
    subst e
    refine t91_156 (bsh B rfl (by omega) (by omega)) (fun _ => h τ B) (fun c => absurd c (by omega))
  | k + 1, r, τ, hk, B => by
    have hr : r < 20 := by omega
    refine t91_156 (bsh B rfl (by omega) (by omega)) (fun c => absurd c (by omega)) (fun _ => ?_)
    rw [B.1, B.2.2.2.2.2.1 64 2 66 rfl (by omega) (by simp)]
    replace B := bx_n B (s := (1, 6, 0)) (k := 12) (sf_r r hr).1 rfl
    refine t91_170 (by omega) (i31 hr (by omega) B fun τ1 B1 => ?_)
    show G d 91 174 _ _ τ1 Q
    refine t91_174 (n1 := 20) (bsh B1 rfl (by omega) (by omega)) ⟨by omega, by omega⟩ (by rw [bsh B1 (sf_r r hr).1 (by omega) (by omega)]; rfl) ?_
    rw [wr_nat (by omega)]
    exact lp_r hd h k (r + 1) (by omega) (bx_p B1 (pf_r r hr).2.2.2.2.2.2.1)
theorem lp_t {d L : Nat} {f : Nat → Int} {Q : RS → T2 → Prop} (hd : 18 ≤ d) (h : ∀ τ1, BLDX L f 220 [] τ1 → Q (.inl none) τ1) : ∀ (k r : Nat) {τ : T2}, r + k = 8 → BLDX L f (172 + 6 * r) [] τ → G d 91 183 [vR 64, vI (r : Int)] [] τ Q
  | 0, r, τ, hk, B => by
    have e : r = 8 := by omega
    subst e
    refine t91_183 (bsh B rfl (by omega) (by omega)) (fun _ => h τ B) (fun c => absurd c (by omega))
  | k + 1, r, τ, hk, B => by
    have hr : r < 8 := by omega
    refine t91_183 (bsh B rfl (by omega) (by omega)) (fun c => absurd c (by omega)) (fun _ => ?_)
    rw [B.1, B.2.2.2.2.2.1 64 5 68 rfl (by omega) (by simp)]
    replace B := bx_n B (s := (1, 8, 0)) (k := 7) (sf_t r hr).1 rfl
    refine t91_197 (by omega) (i59 hr (by omega) B fun τ1 B1 => ?_)
    show G d 91 201 _ _ τ1 Q
    refine t91_201 (n1 := 8) (bsh B1 rfl (by omega) (by omega)) ⟨by omega, by omega⟩ (by rw [bsh B1 (sf_t r hr).1 (by omega) (by omega)]; rfl) ?_
    rw [wr_nat (by omega)]
    exact lp_t hd h k (r + 1) (by omega) (bx_p B1 (pf_t r hr).2.2.2.2.2.1)
theorem lp_a {d L : Nat} {f : Nat → Int} {Q : RS → T2 → Prop} (hd : 18 ≤ d) (h : ∀ τ1, BLDX L f 336 [] τ1 → G d 169 170 [vR 220, vI 0] [] τ1 Q) : ∀ (k r : Nat) {τ : T2}, r + k = 100 → BLDX L f (236 + 1 * r) [] τ → G d 169 143 [vR 220, vI (r : Int)] [] τ Q
  | 0, r, τ, hk, B => by
    have e : r = 100 := by omega
    subst e
    refine t169_143 (bsh B rfl (by omega) (by omega)) (fun _ => h τ B) (fun c => absurd c (by omega))
  | k + 1, r, τ, hk, B => by
    have hr : r < 100 := by omega
    refine t169_143 (bsh B rfl (by omega) (by omega)) (fun c => absurd c (by omega)) (fun _ => ?_)
    rw [B.1, B.2.2.2.2.2.1 220 11 224 rfl (by omega) (by simp)]
    replace B := bx_n B (s := (1, 12, 0)) (k := 8) (sf_a r hr).1 rfl
    refine t169_157 (by omega) (i147 hr (by omega) B fun τ1 B1 => ?_)
    show G d 169 161 _ _ τ1 Q
    refine t169_161 (n1 := 100) (bsh B1 rfl (by omega) (by omega)) ⟨by omega, by omega⟩ (by rw [bsh B1 (sf_a r hr).1 (by omega) (by omega)]; rfl) ?_
    rw [wr_nat (by omega)]
    exact lp_a hd h k (r + 1) (by omega) (bx_p B1 (pf_a r hr).1)
theorem lp_m {d L : Nat} {f : Nat → Int} {Q : RS → T2 → Prop} (hd : 18 ≤ d) (h : ∀ τ1, BLDX L f 416 [] τ1 → G d 169 197 [vR 220, vI 0] [] τ1 Q) : ∀ (k r : Nat) {τ : T2}, r + k = 20 → BLDX L f (336 + 4 * r) [] τ → G d 169 170 [vR 220, vI (r : Int)] [] τ Q
  | 0, r, τ, hk, B => by
    have e : r = 20 := by omega
    subst e
    refine t169_170 (bsh B rfl (by omega) (by omega)) (fun _ => h τ B) (fun c => absurd c (by omega))
  | k + 1, r, τ, hk, B => by
    have hr : r < 20 := by omega
    refine t169_170 (bsh B rfl (by omega) (by omega)) (fun c => absurd c (by omega)) (fun _ => ?_)
    rw [B.1, B.2.2.2.2.2.1 220 8 221 rfl (by omega) (by simp)]
    replace B := bx_n B (s := (1, 15, 0)) (k := 12) (sf_m r hr).1 rfl
    refine t169_184 (by omega) (i150 hr (by omega) B fun τ1 B1 => ?_)
    show G d 169 188 _ _ τ1 Q
    refine t169_188 (n1 := 20) (bsh B1 rfl (by omega) (by omega)) ⟨by omega, by omega⟩ (by rw [bsh B1 (sf_m r hr).1 (by omega) (by omega)]; rfl) ?_
    rw [wr_nat (by omega)]
    exact lp_m hd h k (r + 1) (by omega) (bx_p B1 (pf_m r hr).2.2.2.1)
theorem lp_u {d L : Nat} {f : Nat → Int} {Q : RS → T2 → Prop} (hd : 18 ≤ d) (h : ∀ τ1, BLDX L f 472 [] τ1 → Q (.inl none) τ1) : ∀ (k r : Nat) {τ : T2}, r + k = 8 → BLDX L f (416 + 7 * r) [] τ → G d 169 197 [vR 220, vI (r : Int)] [] τ Q
  | 0, r, τ, hk, B => by
    have e : r = 8 := by omega
    subst e
    refine t169_197 (bsh B rfl (by omega) (by omega)) (fun _ => h τ B) (fun c => absurd c (by omega))
  | k + 1, r, τ, hk, B => by
    have hr : r < 8 := by omega
    refine t169_197 (bsh B rfl (by omega) (by omega)) (fun c => absurd c (by omega)) (fun _ => ?_)
    rw [B.1, B.2.2.2.2.2.1 220 9 222 rfl (by omega) (by simp)]
    replace B := bx_n B (s := (1, 19, 0)) (k := 9) (sf_u r hr).1 rfl
    refine t169_211 (by omega) (i155 hr (by omega) B fun τ1 B1 => ?_)
    show G d 169 215 _ _ τ1 Q
    refine t169_215 (n1 := 8) (bsh B1 rfl (by omega) (by omega)) ⟨by omega, by omega⟩ (by rw [bsh B1 (sf_u r hr).1 (by omega) (by omega)]; rfl) ?_
    rw [wr_nat (by omega)]
    exact lp_u hd h k (r + 1) (by omega) (bx_p B1 (pf_u r hr).2.2.2.2.2.2.1)
theorem bx_d {L N q : Nat} {f : Nat → Int} {X : List Nat} {τ : T2} (B : BLDX L f N (q :: X) τ) (h : lk q PTV = none) : BLDX L f N X τ := by
  obtain ⟨h1, h2, h3, h4, h5, h6, h7, h8⟩ := B
  refine ⟨h1, h2, h3, h4, h5, fun a k z hz hb hx => h6 a k z hz hb fun hm => ?_, h7, h8⟩
  rcases List.mem_cons.mp hm with e | e
  · obtain ⟨w1, -⟩ := PTF_v hz
    rw [e, h] at w1
    cases w1
  · exact hx e
theorem ptv_no : lk 64 PTV = none ∧ lk 220 PTV = none ∧ lk 472 PTV = none := by decide +kernel
theorem i154 {d L : Nat} {f : Nat → Int} {τ : T2} {Q : RS → T2 → Prop} (hd : 17 ≤ d) (B : BLDX L f 226 (225 :: []) τ) (h : ∀ τ1, BLDX L f 226 (225 :: []) τ1 → Q (.inl none) τ1) : G d 154 0 [vR 225] [] τ Q := by
  refine t154_0 hd (g_rte rfl rfl rfl hd (bsh B rfl (by omega) (by omega)) (fun k _ => ?_) (fun k hk => ?_) (g_vret rfl rfl (h τ B)))
  · rcases B.2.2.2.2.1 225 k (by omega) (by omega) with h9 | h9
    · exact absurd h9.1 (by decide)
    · exact h9
  · rcases B.2.2.2.2.2.2.1 225 k (by omega) (by omega) with h9 | h9
    · exact h9
    · rw [h9]
      rfl
theorem i91 {d L : Nat} {f : Nat → Int} {τ : T2} {Q : RS → T2 → Prop} (hd : 18 ≤ d) (B : BLDX L f 65 [] τ) (h : ∀ τ1, BLDX L f 220 [] τ1 → Q (.inl none) τ1) : G d 91 0 [vR 64, none] [] τ Q := by
  refine t91_0 (by omega)  ?_
  rw [B.1]
  replace B := bx_n B (s := (2, 1, 300)) (k := 300) rfl rfl
  refine t91_10 (bsh B rfl (by omega) (by omega)) (bsh B rfl (by omega) (by omega)) ?_
  replace B := bx_p B (a := 64) (k := 0) rfl
  replace B := bx_z B 64 1 (by omega)
  rw [B.1]
  replace B := bx_n B (s := (3, 4, 20)) (k := 20) rfl rfl
  refine t91_24 (bsh B rfl (by omega) (by omega)) (bsh B rfl (by omega) (by omega)) ?_
  replace B := bx_p B (a := 64) (k := 2) rfl
  replace B := bx_z B 64 3 (by omega)
  rw [B.1]
  replace B := bx_n B (s := (2, 0, 6)) (k := 6) rfl rfl
  refine t91_37 (bsh B rfl (by omega) (by omega)) ?_
  replace B := bx_p B (a := 64) (k := 4) rfl
  rw [B.1]
  replace B := bx_n B (s := (3, 5, 8)) (k := 8) rfl rfl
  refine t91_46 (bsh B rfl (by omega) (by omega)) (bsh B rfl (by omega) (by omega)) ?_
  replace B := bx_p B (a := 64) (k := 5) rfl
  replace B := bx_z B 64 6 (by omega)
  rw [B.1]
  replace B := bx_n B (s := (2, 3, 8)) (k := 8) rfl rfl
  refine t91_59 (bsh B rfl (by omega) (by omega)) ?_
  replace B := bx_p B (a := 64) (k := 7) rfl
  rw [B.1]
  replace B := bx_n B (s := (1, 2, 0)) (k := 3) rfl rfl
  refine t91_66 (by omega) (i0 (by omega) B fun τ1 B1 => ?_)
  show G d 91 70 _ _ τ1 Q
  replace B := B1
  refine t91_70 (bsh B rfl (by omega) (by omega)) (bsh B rfl (by omega) (by omega)) ?_
  replace B := bx_p B (a := 64) (k := 8) rfl
  replace B := bx_z B 64 9 (by omega)
  rw [B.1]
  replace B := bx_n B (s := (1, 9, 0)) (k := 11) rfl rfl
  refine t91_82 (by omega) (i66 (by omega) B fun τ1 B1 => ?_)
  show G d 91 86 _ _ τ1 Q
  replace B := B1
  refine t91_86 (bsh B rfl (by omega) (by omega)) ?_
  replace B := bx_p B (a := 64) (k := 10) rfl
  rw [B.1]
  replace B := bx_n B (s := (1, 4, 0)) (k := 4) rfl rfl
  refine t91_93 (by omega) (i13 (by omega) B fun τ1 B1 => ?_)
  show G d 91 97 _ _ τ1 Q
  replace B := B1
  refine t91_97 (bsh B rfl (by omega) (by omega)) ?_
  replace B := bx_p B (a := 64) (k := 11) rfl
  rw [B.1]
  replace B := bx_n B (s := (1, 7, 0)) (k := 2) rfl rfl
  refine t91_104 (by omega) (i34 (by omega) B fun τ1 B1 => ?_)
  show G d 91 108 _ _ τ1 Q
  replace B := B1
  refine t91_108 (bsh B rfl (by omega) (by omega)) ?_
  replace B := bx_p B (a := 64) (k := 12) rfl
  rw [B.1]
  replace B := bx_n B (s := (1, 7, 0)) (k := 2) rfl rfl
  refine t91_115 (by omega) (i34b (by omega) B fun τ1 B1 => ?_)
  show G d 91 119 _ _ τ1 Q
  replace B := B1
  refine t91_119 (bsh B rfl (by omega) (by omega)) ?_
  replace B := bx_p B (a := 64) (k := 13) rfl
  rw [B.1]
  replace B := bx_n B (s := (1, 10, 0)) (k := 5) rfl rfl
  refine t91_126 (by omega) (i82 (by omega) B fun τ1 B1 => ?_)
  show G d 91 130 _ _ τ1 Q
  replace B := B1
  refine t91_130 (bsh B rfl (by omega) (by omega)) ?_
  replace B := bx_p B (a := 64) (k := 14) rfl
  rw [B.1]
  replace B := bx_n B (s := (1, 5, 0)) (k := 10) rfl rfl
  refine t91_137 (by omega) (i27 (by omega) B fun τ1 B1 => ?_)
  show G d 91 141 _ _ τ1 Q
  replace B := B1
  refine t91_141 (bsh B rfl (by omega) (by omega)) (bsh B rfl (by omega) (by omega)) ?_
  replace B := bx_p B (a := 64) (k := 15) rfl
  replace B := bx_z B 64 16 (by omega)
  replace B := bx_z B 64 17 (by omega)
  exact lp_r hd (fun τ1 B => lp_t hd h 8 0 rfl B) 20 0 rfl B
theorem i169 {d L : Nat} {f : Nat → Int} {τ : T2} {Q : RS → T2 → Prop} (hd : 18 ≤ d) (B : BLDX L f 221 [] τ) (h : ∀ τ1, BLDX L f 472 [] τ1 → Q (.inl none) τ1) : G d 169 0 [vR 220, none] [] τ Q := by
  refine t169_0 (by omega) (bsh B rfl (by omega) (by omega)) ?_
  replace B := bx_w B (-1)
  rw [B.1]
  replace B := bx_n B (s := (3, 7, 20)) (k := 20) rfl rfl
  refine t169_15 (bsh B rfl (by omega) (by omega)) ?_
  replace B := bx_p B (a := 220) (k := 8) rfl
  rw [B.1]
  replace B := bx_n B (s := (3, 8, 8)) (k := 8) rfl rfl
  refine t169_24 (bsh B rfl (by omega) (by omega)) ?_
  replace B := bx_p B (a := 220) (k := 9) rfl
  rw [B.1]
  replace B := bx_n B (s := (2, 3, 40)) (k := 40) rfl rfl
  refine t169_32 (bsh B rfl (by omega) (by omega)) ?_
  replace B := bx_p B (a := 220) (k := 10) rfl
  rw [B.1]
  replace B := bx_n B (s := (3, 9, 100)) (k := 100) rfl rfl
  refine t169_41 (bsh B rfl (by omega) (by omega)) ?_
  replace B := bx_p B (a := 220) (k := 11) rfl
  rw [B.1]
  replace B := bx_n B (s := (1, 18, 0)) (k := 8) rfl rfl
  refine t169_48 (by omega) (i154 (by omega) B fun τ1 B1 => ?_)
  show G d 169 52 _ _ τ1 Q
  replace B := B1
  refine t169_52 (bsh B rfl (by omega) (by omega)) ?_
  replace B := bx_p B (a := 220) (k := 13) rfl
  rw [B.1]
  replace B := bx_n B (s := (2, 1, 300)) (k := 300) rfl rfl
  refine t169_61 (bsh B rfl (by omega) (by omega)) ?_
  replace B := bx_p B (a := 220) (k := 14) rfl
  rw [B.1]
  replace B := bx_n B (s := (2, 2, 200)) (k := 200) rfl rfl
  refine t169_70 (bsh B rfl (by omega) (by omega)) ?_
  replace B := bx_p B (a := 220) (k := 25) rfl
  rw [B.1]
  replace B := bx_n B (s := (2, 1, 300)) (k := 300) rfl rfl
  refine t169_79 (bsh B rfl (by omega) (by omega)) ?_
  replace B := bx_p B (a := 220) (k := 27) rfl
  rw [B.1]
  replace B := bx_n B (s := (2, 0, 13)) (k := 13) rfl rfl
  refine t169_87 (bsh B rfl (by omega) (by omega)) ?_
  replace B := bx_p B (a := 220) (k := 29) rfl
  rw [B.1]
  replace B := bx_n B (s := (2, 0, 13)) (k := 13) rfl rfl
  refine t169_95 (bsh B rfl (by omega) (by omega)) ?_
  replace B := bx_p B (a := 220) (k := 30) rfl
  rw [B.1]
  replace B := bx_n B (s := (2, 1, 37)) (k := 37) rfl rfl
  refine t169_103 (bsh B rfl (by omega) (by omega)) ?_
  replace B := bx_p B (a := 220) (k := 31) rfl
  rw [B.1]
  replace B := bx_n B (s := (2, 1, 24)) (k := 24) rfl rfl
  refine t169_111 (bsh B rfl (by omega) (by omega)) ?_
  replace B := bx_p B (a := 220) (k := 33) rfl
  rw [B.1]
  replace B := bx_n B (s := (2, 0, 1000)) (k := 1000) rfl rfl
  refine t169_120 (bsh B rfl (by omega) (by omega)) ?_
  replace B := bx_p B (a := 220) (k := 35) rfl
  rw [B.1]
  replace B := bx_n B (s := (2, 0, 1000)) (k := 1000) rfl rfl
  refine t169_129 (bsh B rfl (by omega) (by omega)) ?_
  replace B := bx_p B (a := 220) (k := 36) rfl
  rw [B.1]
  replace B := bx_n B (s := (2, 2, 1000)) (k := 1000) rfl rfl
  refine t169_138 (bsh B rfl (by omega) (by omega)) ?_
  replace B := bx_p B (a := 220) (k := 38) rfl
  exact lp_a hd (fun τ1 B => lp_m hd (fun τ1 B => lp_u hd h 8 0 rfl B) 20 0 rfl B) 100 0 rfl B
/-- the law up to its loop -/
theorem ini_law {d L : Nat} {f : Nat → Int} {τ : T2} {Q : RS → T2 → Prop} (hd : 19 ≤ d) (B : BLDX L f 64 [] τ) (h : ∀ τ1, BLDX L f 473 [] τ1 → G d 268 23 [vR 0, vR 64, vR 220, vR 472, vI 0, none, none] [] τ1 Q) : G d 268 0 [vR 0, none, none, none, none, none, none] [] τ Q := by
  refine t268_0 (r0 := some 0) ?_
  rw [B.1]
  replace B := bx_d (bx_n B (s := (1, 11, 0)) (k := 18) rfl rfl) ptv_no.1
  refine t268_3 (by omega) (i91 (by omega) B fun τ1 B1 => ?_)
  show G d 268 7 _ _ τ1 Q
  refine t268_7 (s0 := some 64) ?_
  rw [B1.1]
  replace B1 := bx_d (bx_n B1 (s := (1, 21, 0)) (k := 39) rfl rfl) ptv_no.2.1
  refine t268_11 (by omega) (i169 (by omega) B1 fun τ2 B2 => ?_)
  show G d 268 15 _ _ τ2 Q
  refine t268_15 (s0 := some 220) ?_
  rw [B2.1]
  replace B2 := bx_d (bx_n B2 (s := (2, 3, 1)) (k := 1) (by decide +kernel) rfl) ptv_no.2.2
  exact t268_19 (s0 := some 472) (h _ B2)
def τ0 (L : Nat) (f : Nat → Int) : T2 := ((fun a => if a = 0 then f else fun _ => 0), (fun _ _ => none), (fun a => if a = 0 then (2, 100, L) else if a = 1 then (3, 101, 0) else (0, 0, 0)), 64, 0)
theorem toST_0 (L : Nat) (f : Nat → Int) : toST (τ0 L f) = σ0 L f := by
  refine toST_ext (fun a => ?_) rfl rfl
  by_cases h0 : a = 0
  · subst h0; rfl
  · by_cases h1 : a = 1
    · subst h1; rfl
    · show (if a = 0 then _ else if a = 1 then _ else DEAD) = mkC (if a = 0 then (2, 100, L) else if a = 1 then (3, 101, 0) else (0, 0, 0)) _ _
      rw [if_neg h0, if_neg h1, if_neg h0, if_neg h1]
      rfl
theorem bx_init (L : Nat) (f : Nat → Int) : BLDX L f 64 [] (τ0 L f) := by
  refine ⟨rfl, by omega, rfl, fun a h1 h2 => absurd h1 (by omega), fun a k h1 h2 => absurd h1 (by omega), fun a k q hq hb => absurd (PTF_v hq).2.1 (by have := PTF_lt hq; omega), fun a k h1 h2 => absurd h1 (by omega), rfl, rfl, rfl, rfl⟩
/-- PURE out of the law's loop -/
theorem pure_of (h : ∀ (L : Nat) (f : Nat → Int) (τ : T2), L ≤ 3072 → (∀ j, okI (f j)) → BLDX L f 473 [] τ → G 2048 268 23 [vR 0, vR 64, vR 220, vR 472, vI 0, none, none] [] τ (fun r τ1 => r = .inl (some (AI 1)) ∧ tN τ1 ≤ 601088 ∧ tZ τ1 ≤ 7293034)) : PURE := by
  intro L f hL hf
  obtain ⟨n, r, τ1, h1, h2, h3, h4⟩ := ini_law (d := 2048) (by decide) (bx_init L f) (fun τ1 B => h L f τ1 hL hf B)
  rw [toST_0] at h1
  refine ⟨n, toST τ1, ?_, h3, h4⟩
  rw [h2] at h1
  exact h1
