def cellsL : List (Nat × Nat) := [
  (0, 0), (1, 0), (2, 0), (3, 0), (4, 0), (5, 0), (6, 0), (7, 0), (37, 0), (8, 0), (38, 0), (9, 0),
  (39, 0), (10, 0), (40, 0), (11, 0), (41, 0), (12, 0), (42, 0), (13, 0), (43, 0), (14, 0), (44, 0), (15, 0),
  (45, 0), (16, 0), (46, 0), (17, 0), (47, 0), (18, 0), (48, 0), (19, 0), (49, 0), (4, 1), (5, 1), (6, 1),
  (7, 1), (37, 1), (8, 1), (38, 1), (9, 1), (39, 1), (10, 1), (40, 1), (11, 1), (41, 1), (12, 1), (42, 1),
  (13, 1), (43, 1), (14, 1), (44, 1), (15, 1), (45, 1), (16, 1), (46, 1), (17, 1), (47, 1), (18, 1), (48, 1),
  (19, 1), (49, 1), (4, 2), (5, 2), (6, 2), (7, 2), (37, 2), (8, 2), (38, 2), (9, 2), (39, 2), (10, 2),
  (40, 2), (11, 2), (41, 2), (12, 2), (42, 2), (13, 2), (43, 2), (14, 2), (44, 2), (15, 2), (45, 2), (16, 2),
  (46, 2), (17, 2), (47, 2), (18, 2), (48, 2), (19, 2), (49, 2), (32, 0), (28, 0), (58, 0), (29, 0), (59, 0),
  (30, 0), (60, 0), (20, 0), (50, 0), (21, 0), (51, 0), (22, 0), (52, 0), (23, 0), (53, 0), (24, 0), (54, 0),
  (25, 0), (55, 0), (26, 0), (56, 0), (27, 0), (57, 0), (34, 0), (33, 0), (31, 0), (61, 0), (33, 1), (31, 1),
  (61, 1), (33, 2), (31, 2), (61, 2), (33, 3), (31, 3), (61, 3), (33, 4), (31, 4), (61, 4), (33, 5), (31, 5),
  (61, 5), (35, 0), (62, 0), (63, 0), (64, 0), (65, 0), (66, 0), (67, 0), (68, 0), (69, 0), (70, 0), (71, 0),
  (72, 0), (73, 0), (74, 0), (75, 0), (76, 0), (77, 0), (78, 0), (79, 0), (80, 0), (81, 0), (82, 0), (83, 0),
  (84, 0), (85, 0), (86, 0), (87, 0), (88, 0), (89, 0), (90, 0)
]
def adB : List (Nat) := [
  0, 1, 2, 3, 4, 5, 6, 7, 9, 11, 13, 15, 17, 19, 21, 23, 25, 27, 29, 31, 98, 100, 102, 104, 106, 108, 110, 112, 92, 94,
  96, 116, 91, 115, 114, 133, 0, 8, 10, 12, 14, 16, 18, 20, 22, 24, 26, 28, 30, 32, 99, 101, 103, 105, 107, 109, 111, 113, 93, 95,
  97, 117, 134, 135, 136, 137, 138, 139, 140, 141, 142, 143, 144, 145, 146, 147, 148, 149, 150, 151, 152, 153, 154, 155, 156, 157, 158, 159, 160, 161,
  162, 0, 0, 0, 0, 0, 0, 0, 0, 0
]
def adS : List (Nat) := [
  0, 0, 0, 0, 29, 29, 29, 29, 29, 29, 29, 29, 29, 29, 29, 29, 29, 29, 29, 29, 0, 0, 0, 0, 0, 0, 0, 0, 0, 0,
  0, 3, 0, 3, 0, 0, 0, 29, 29, 29, 29, 29, 29, 29, 29, 29, 29, 29, 29, 29, 0, 0, 0, 0, 0, 0, 0, 0, 0, 0,
  0, 3, 0, 0, 0, 0, 0, 0, 0, 0, 0, 0, 0, 0, 0, 0, 0, 0, 0, 0, 0, 0, 0, 0, 0, 0, 0, 0, 0, 0,
  0, 0, 0, 0, 0, 0, 0, 0, 0, 0
]
def lkf : List (Nat × Nat × Nat × Nat × Nat × Nat) := [
  (2, 7, 3, 0, 2, 113), (6, 14, 7, 0, 2, 118), (7, 65, 7, 0, 2, 119), (1, 61, 7, 0, 2, 120), (5, 75, 7, 0, 2, 121), (3, 162, 7, 0, 2, 122),
  (6, 20, 7, 1, 0, 123), (0, 49, 7, 1, 0, 124), (7, 62, 7, 1, 0, 125), (1, 38, 7, 1, 0, 126), (5, 72, 7, 1, 0, 127), (7, 52, 7, 2, 0, 128),
  (6, 24, 7, 2, 0, 129), (1, 68, 7, 2, 0, 130), (3, 132, 7, 2, 0, 131), (7, 56, 7, 3, 0, 132), (6, 27, 7, 3, 0, 133), (0, 65, 7, 3, 0, 134),
  (3, 116, 7, 3, 0, 135), (1, 79, 7, 3, 0, 136), (5, 12, 6, 0, 2, 148), (0, 18, 6, 0, 2, 149), (1, 34, 6, 0, 2, 150), (3, 191, 6, 0, 2, 151),
  (5, 23, 6, 1, 2, 152), (0, 54, 6, 1, 2, 153), (1, 43, 6, 1, 2, 154), (7, 102, 6, 1, 2, 155), (5, 27, 6, 2, 2, 156), (0, 75, 6, 2, 2, 157),
  (5, 30, 6, 3, 2, 158), (1, 71, 6, 3, 2, 159), (0, 82, 6, 3, 2, 160), (3, 222, 6, 3, 2, 161), (5, 33, 6, 4, 2, 162), (5, 36, 6, 5, 2, 163),
  (5, 39, 6, 6, 2, 164), (5, 42, 6, 7, 2, 165), (5, 45, 6, 8, 2, 166), (1, 29, 6, 9, 0, 167), (7, 83, 6, 9, 0, 168), (5, 60, 6, 9, 0, 169),
  (7, 88, 6, 10, 0, 170), (5, 52, 6, 10, 0, 171), (0, 12, 1, 0, 2, 197), (1, 25, 1, 0, 2, 198), (7, 79, 1, 0, 2, 199), (3, 178, 1, 0, 2, 200),
  (0, 22, 1, 1, 2, 201), (7, 42, 1, 1, 2, 202), (3, 110, 1, 1, 2, 203), (1, 78, 1, 1, 2, 204), (0, 28, 1, 2, 2, 205), (0, 32, 1, 3, 2, 206),
  (7, 123, 1, 3, 2, 207), (3, 202, 1, 3, 2, 208), (0, 35, 1, 4, 2, 209), (3, 219, 1, 4, 2, 210), (0, 38, 1, 5, 2, 211), (3, 172, 1, 5, 2, 212),
  (7, 129, 1, 5, 2, 213), (0, 71, 1, 6, 1, 214), (3, 147, 1, 6, 1, 215), (1, 123, 1, 6, 1, 216), (7, 113, 1, 6, 1, 217), (7, 117, 1, 7, 0, 218),
  (1, 130, 1, 7, 0, 219), (0, 118, 1, 7, 0, 220), (0, 41, 1, 8, 0, 221), (3, 169, 1, 8, 0, 222), (7, 120, 1, 8, 0, 223), (1, 11, 2, 0, 2, 243),
  (1, 22, 2, 1, 0, 244), (3, 83, 2, 1, 0, 245), (1, 17, 2, 2, 0, 246), (1, 99, 2, 3, 1, 247), (4, 14, 5, 0, 2, 265), (4, 20, 5, 1, 2, 266),
  (4, 23, 5, 2, 2, 267), (4, 26, 5, 3, 0, 268), (4, 30, 5, 4, 0, 269), (4, 33, 5, 5, 0, 270), (4, 36, 5, 6, 0, 271), (3, 65, 5, 6, 0, 272),
  (4, 39, 5, 7, 0, 273), (3, 68, 5, 7, 0, 274), (4, 42, 5, 8, 0, 275), (3, 71, 5, 8, 0, 276), (4, 45, 5, 9, 0, 277), (3, 74, 5, 9, 0, 278),
  (4, 48, 5, 10, 0, 279), (3, 77, 5, 10, 0, 280), (4, 51, 5, 11, 0, 281), (7, 147, 5, 11, 0, 282), (4, 54, 5, 12, 0, 283), (7, 152, 5, 12, 0, 284),
  (3, 12, 4, 0, 2, 314), (7, 16, 4, 0, 2, 315), (3, 21, 4, 1, 2, 316), (7, 143, 4, 1, 2, 317), (3, 30, 4, 2, 2, 318), (3, 34, 4, 3, 2, 319),
  (3, 37, 4, 4, 2, 320), (3, 40, 4, 5, 2, 321), (3, 43, 4, 6, 2, 322), (3, 46, 4, 7, 2, 323), (3, 49, 4, 8, 2, 324), (3, 52, 4, 9, 2, 325),
  (3, 104, 4, 10, 0, 326), (3, 59, 4, 11, 0, 327), (3, 62, 4, 12, 0, 328), (3, 80, 4, 13, 0, 329), (3, 92, 4, 14, 1, 330), (3, 55, 4, 15, 0, 331),
  (3, 86, 4, 16, 0, 332), (3, 89, 4, 17, 0, 333), (7, 20, 8, 0, 2, 374), (7, 12, 8, 1, 2, 375), (7, 23, 8, 2, 2, 376), (7, 28, 8, 3, 2, 377),
  (8, 7, 9, 0, 2, 752), (8, 13, 9, 1, 2, 753), (8, 16, 9, 2, 2, 754), (8, 19, 9, 3, 2, 755), (8, 22, 9, 4, 2, 756), (8, 25, 9, 5, 2, 757),
  (8, 28, 9, 6, 2, 758), (8, 31, 9, 7, 2, 759), (8, 34, 9, 8, 2, 760), (8, 37, 9, 9, 2, 761), (8, 40, 9, 10, 2, 762), (8, 44, 9, 11, 2, 763),
  (8, 47, 9, 12, 2, 764), (8, 50, 9, 13, 2, 765), (8, 53, 9, 14, 2, 766), (8, 56, 9, 15, 2, 767), (8, 59, 9, 16, 2, 768), (8, 62, 9, 17, 2, 769),
  (8, 65, 9, 18, 2, 770), (8, 201, 9, 19, 0, 771), (8, 68, 9, 20, 2, 772), (8, 71, 9, 21, 2, 773), (8, 74, 9, 22, 2, 774), (8, 77, 9, 23, 2, 775),
  (8, 198, 9, 24, 0, 776), (8, 80, 9, 25, 2, 777), (8, 83, 9, 26, 2, 778), (8, 86, 9, 27, 2, 779), (8, 167, 9, 28, 0, 780), (8, 215, 9, 29, 0, 781),
  (8, 234, 9, 30, 0, 782), (8, 183, 9, 31, 0, 783), (8, 177, 9, 32, 0, 784), (8, 192, 9, 33, 0, 785), (8, 174, 9, 34, 0, 786), (8, 171, 9, 35, 0, 787),
  (8, 186, 9, 36, 0, 788), (8, 227, 9, 37, 0, 789), (8, 180, 9, 38, 0, 790), (8, 195, 9, 39, 0, 791), (8, 189, 9, 40, 0, 792), (8, 89, 9, 41, 2, 793),
  (8, 92, 9, 42, 2, 794)
]
def lkm : List (Nat × Nat × Nat × Nat) := [
  (9, 9, 25, 70), (3, 11, 102, 84), (6, 11, 111, 109), (5, 20, 111, 147), (0, 25, 111, 196), (4, 11, 111, 264), (3, 27, 111, 313), (9, 13, 26, 388),
  (7, 32, 15, 392), (7, 38, 3, 396), (7, 48, 17, 399), (7, 59, 103, 403), (1, 47, 18, 407), (5, 48, 0, 411), (1, 51, 104, 415), (1, 64, 0, 419),
  (1, 74, 15, 420), (1, 82, 20, 421), (1, 85, 19, 425), (1, 55, 1, 432), (9, 18, 27, 436), (7, 69, 1, 440), (7, 75, 43, 441), (7, 167, 133, 445),
  (5, 56, 134, 449), (5, 69, 2, 453), (7, 177, 5, 460), (7, 174, 4, 463), (5, 81, 1, 464), (5, 63, 135, 471), (5, 66, 136, 475), (5, 96, 137, 480),
  (5, 99, 19, 484), (9, 23, 28, 485), (9, 28, 29, 489), (9, 32, 30, 493), (7, 91, 105, 497), (1, 92, 106, 501), (1, 96, 21, 505), (9, 36, 31, 509),
  (7, 95, 16, 513), (7, 99, 18, 517), (7, 105, 0, 518), (9, 40, 32, 519), (7, 109, 107, 523), (1, 103, 108, 527), (1, 119, 105, 531), (1, 107, 109, 532),
  (1, 126, 90, 536), (0, 45, 1, 540), (0, 57, 0, 541), (0, 61, 91, 542), (0, 68, 92, 546), (0, 78, 19, 550), (0, 85, 15, 551), (0, 91, 20, 552),
  (1, 110, 93, 553), (0, 94, 94, 557), (1, 113, 110, 562), (1, 133, 95, 566), (0, 100, 99, 570), (0, 114, 101, 574), (0, 104, 100, 578), (1, 116, 96, 582),
  (0, 107, 98, 586), (0, 111, 132, 590), (9, 45, 33, 594), (9, 49, 34, 598), (9, 53, 35, 602), (7, 126, 89, 606), (9, 57, 36, 610), (7, 132, 97, 614),
  (9, 61, 37, 618), (7, 136, 45, 622), (7, 170, 114, 626), (3, 96, 15, 630), (3, 100, 115, 631), (3, 125, 127, 635), (3, 128, 1, 639), (3, 135, 128, 640),
  (4, 57, 1, 644), (3, 139, 116, 648), (3, 143, 130, 652), (4, 67, 0, 656), (3, 150, 118, 657), (3, 107, 119, 661), (3, 153, 0, 665), (3, 156, 120, 666),
  (3, 182, 19, 671), (3, 187, 121, 672), (3, 196, 20, 677), (3, 165, 122, 678), (3, 199, 129, 682), (3, 159, 123, 686), (3, 205, 117, 690), (3, 208, 124, 694),
  (3, 121, 22, 698), (3, 216, 125, 703), (7, 140, 113, 707), (9, 65, 38, 711), (9, 69, 39, 715), (7, 155, 46, 719), (9, 73, 40, 724), (7, 159, 44, 728),
  (7, 163, 139, 732), (6, 30, 0, 736), (6, 34, 1, 737), (9, 77, 41, 738), (9, 81, 42, 742), (9, 12, 47, 748), (9, 17, 48, 882), (8, 99, 10, 886),
  (8, 95, 9, 889), (9, 22, 49, 892), (9, 27, 50, 896), (9, 31, 52, 900), (8, 110, 51, 904), (8, 103, 11, 908), (8, 107, 12, 911), (9, 35, 57, 914),
  (8, 127, 56, 918), (8, 123, 55, 922), (8, 120, 54, 926), (8, 113, 14, 930), (8, 116, 53, 934), (9, 39, 58, 938), (9, 44, 60, 942), (8, 130, 59, 946),
  (9, 48, 68, 950), (8, 164, 62, 954), (8, 144, 61, 958), (8, 137, 13, 962), (8, 140, 24, 966), (8, 134, 23, 970), (8, 148, 63, 974), (8, 151, 65, 978),
  (8, 157, 64, 982), (8, 154, 67, 986), (8, 160, 66, 990), (9, 52, 69, 994), (9, 56, 70, 998), (9, 60, 71, 1002), (9, 64, 82, 1006), (8, 244, 81, 1010),
  (8, 204, 72, 1014), (8, 218, 74, 1018), (8, 230, 75, 1022), (8, 224, 76, 1026), (8, 241, 80, 1030), (8, 237, 79, 1034), (8, 221, 78, 1038), (8, 211, 77, 1042),
  (8, 208, 73, 1046), (9, 68, 83, 1050), (9, 72, 84, 1054), (9, 76, 85, 1060), (9, 80, 86, 1064), (9, 84, 87, 1068)
]
def lkn : List (Nat × Nat × Nat × Nat) := [
  (7, 11, 112, 78), (1, 21, 88, 91), (0, 11, 131, 97), (5, 11, 138, 103), (3, 20, 126, 259), (7, 27, 138, 373), (1, 89, 4, 429), (5, 78, 8, 457),
  (5, 85, 6, 465), (5, 89, 7, 468), (5, 93, 4, 479), (0, 97, 8, 561), (3, 175, 8, 670), (3, 192, 4, 676)
]
def lkx : List (Nat × Nat × Nat) := [
  (4, 61, 645), (3, 211, 702)
]
def lkc : List (Nat × Nat × Int × Nat) := [
  (8, 247, 8388608, 1058), (8, 248, 16777216, 1059)
]
def lkl : List (Nat × Nat × Int × Nat) := [
  (7, 180, 2, 722), (7, 182, 8388608, 723)
]
def plL : List (Nat × Nat × Nat × Nat) := [
  (414, 64, 412, 413), (435, 64, 433, 434), (456, 64, 454, 455), (398, 58, 397, 0), (431, 58, 430, 0), (462, 58, 461, 0), (467, 58, 466, 0), (470, 58, 469, 0),
  (459, 58, 458, 0), (891, 66, 890, 0), (888, 66, 887, 0), (910, 66, 909, 0), (913, 66, 912, 0), (965, 66, 964, 39), (933, 66, 932, 34), (395, 60, 393, 394),
  (516, 63, 514, 515), (402, 63, 400, 401), (410, 62, 408, 409), (428, 62, 426, 427), (424, 62, 422, 423), (508, 62, 506, 507), (701, 65, 699, 700), (973, 66, 972, 41),
  (969, 66, 968, 40), (72, 58, 71, 0), (391, 58, 389, 390), (439, 58, 437, 438), (488, 58, 486, 487), (492, 58, 490, 491), (496, 58, 494, 495), (512, 58, 510, 511),
  (522, 58, 520, 521), (597, 58, 595, 596), (601, 58, 599, 600), (605, 58, 603, 604), (613, 58, 611, 612), (621, 58, 619, 620), (714, 58, 712, 713), (718, 58, 716, 717),
  (727, 58, 725, 726), (741, 58, 739, 740), (745, 58, 743, 744), (444, 58, 443, 1), (731, 58, 730, 29), (625, 58, 624, 17), (721, 58, 720, 0), (750, 66, 749, 0),
  (885, 66, 883, 884), (895, 66, 893, 894), (899, 66, 897, 898), (907, 66, 906, 30), (903, 66, 901, 902), (937, 66, 936, 35), (929, 66, 928, 33), (925, 66, 924, 32),
  (921, 66, 920, 31), (917, 66, 915, 916), (941, 66, 939, 940), (949, 66, 948, 36), (945, 66, 943, 944), (961, 66, 960, 38), (957, 66, 956, 37), (977, 66, 976, 42),
  (985, 66, 984, 44), (981, 66, 980, 43), (993, 66, 992, 46), (989, 66, 988, 45), (953, 66, 951, 952), (997, 66, 995, 996), (1001, 66, 999, 1000), (1005, 66, 1003, 1004),
  (1017, 66, 1016, 48), (1049, 66, 1048, 56), (1021, 66, 1020, 49), (1025, 66, 1024, 50), (1029, 66, 1028, 51), (1045, 66, 1044, 55), (1041, 66, 1040, 54), (1037, 66, 1036, 53),
  (1033, 66, 1032, 52), (1013, 66, 1012, 47), (1009, 66, 1007, 1008), (1053, 66, 1051, 1052), (1057, 66, 1055, 1056), (1063, 66, 1061, 1062), (1067, 66, 1065, 1066), (1071, 66, 1069, 1070),
  (93, 61, 92, 0), (609, 61, 607, 608), (539, 61, 537, 538), (545, 61, 544, 9), (549, 61, 548, 10), (556, 61, 554, 555), (560, 61, 559, 11), (569, 61, 567, 568),
  (585, 61, 583, 584), (617, 61, 615, 616), (589, 61, 588, 16), (573, 61, 572, 13), (581, 61, 580, 15), (577, 61, 576, 14), (86, 60, 85, 0), (406, 60, 404, 405),
  (418, 60, 417, 0), (500, 60, 498, 499), (504, 60, 503, 6), (526, 60, 524, 525), (530, 60, 529, 7), (535, 60, 534, 8), (565, 60, 564, 12), (111, 64, 110, 0),
  (80, 59, 79, 0), (710, 59, 708, 709), (629, 59, 627, 628), (634, 59, 633, 18), (651, 59, 650, 19), (693, 59, 692, 26), (660, 59, 659, 20), (664, 59, 663, 21),
  (669, 59, 668, 22), (675, 59, 674, 23), (681, 59, 680, 24), (689, 59, 688, 25), (697, 59, 696, 27), (706, 59, 705, 28), (261, 65, 260, 0), (638, 65, 636, 637),
  (643, 65, 641, 642), (685, 65, 683, 684), (655, 65, 653, 654), (99, 62, 98, 0), (593, 62, 591, 592), (448, 62, 446, 447), (452, 62, 451, 2), (474, 62, 473, 3),
  (478, 62, 477, 4), (483, 62, 482, 5), (105, 63, 104, 0), (735, 63, 733, 734)
]

def dfM : MethodName := ⟨"", "", ""⟩
def gx {α : Type} (d : α) (l : List α) (n : Nat) : α := (nth l n).getD d
def nm (y : Nat) : MethodName := gx dfM nmL y
def byt (y : Nat) : ByteArray := gx ⟨#[]⟩ byL y
def nl (y : Nat) : Nat := nd nlL y
def rt (y : Nat) : Option FieldType := gx none rtL y
def np (y : Nat) : Nat := nd npL y
def isS (y : Nat) : Bool := gx false stL y
def oc (y : Nat) : Nat := nd ocL y
def cn (c : Nat) : String := gx "" cnL c
def cd (y : Nat) : List AI := gx [] cdL y
def bp (y : Nat) : List Nat := gx [] bpL y
def bzm (y : Nat) : Bool := match rt y with
  | some .boolean => true
  | _ => false
def dfC : vw_C := ("", fun _ => ("", "", "", false), 0)
def kc (c : Nat) : vw_C := gx dfC vwCl c
def lenI : Instr → Nat
  | .iload _ | .aload _ | .lload _ | .istore _ | .astore _ | .lstore _ | .bipush _ | .ldc _ | .newarray _ => 2
  | .sipush _ | .ldc2_w _ | .iinc _ _ | .if_icmp _ _ | .ifCond _ _ | .goto _ | .ifnull _ | .ifnonnull _ | .getfield _ | .putfield _ | .invokevirtual _ | .invokestatic _ | .invokespecial _ | .new _ | .anewarray _ => 3
  | _ => 1
def tgt (b : List Nat) (i : Nat) (off : Int) (t : Nat) : Bool := decide ((nd b i : Int) + off = (nd b t : Int))
def tgs (b : List Nat) (i : Nat) : List Int → List Nat → Bool
  | [], [] => true
  | o :: os, t :: ts => tgt b i o t && tgs b i os ts
  | _, _ => false
def chkT (b : List Nat) (i : Nat) (ins : AI) : Bool := match ins.1, ins.2.1 with
  | .if_icmp _ o, [t] => tgt b i o t
  | .ifCond _ o, [t] => tgt b i o t
  | .goto o, [t] => tgt b i o t
  | .ifnull o, [t] => tgt b i o t
  | .ifnonnull o, [t] => tgt b i o t
  | .tableswitch d lo hi os, t :: ts => tgt b i d t && tgs b i os.toList ts && decide ((os.toList.length : Int) = hi - lo + 1)
  | .lookupswitch d ps, t :: ts => tgt b i d t && tgs b i (ps.toList.map (fun q => q.2)) ts && (ps.toList.zip (ps.toList.drop 1)).all (fun (a, next) => a.1 < next.1)
  | .if_icmp _ _, _ => false
  | .ifCond _ _, _ => false
  | .goto _, _ => false
  | .ifnull _, _ => false
  | .ifnonnull _, _ => false
  | .tableswitch _ _ _ _, _ => false
  | .lookupswitch _ _, _ => false
  | _, _ => true
def chkL (o : Nat) (b : List Nat) (i : Nat) (ins : AI) : Bool := match ins.1 with
  | .tableswitch _ _ _ _ => true
  | .lookupswitch _ _ => true
  | _ => decide (nd b (i + 1) = nd b i + lenI ins.1)
def chkK (o : Nat) (ins : AI) : Bool := match ins.1, ins.2.1 with
  | .getfield x, [c, k, q] => lkf.any (fun e => decide (e.1 = o) && decide (e.2.1 = x) && decide (e.2.2.1 = c) && decide (e.2.2.2.1 = k) && decide (e.2.2.2.2.1 = q)) && decide (ins.2.2 = (k : Int))
  | .putfield x, [c, k, q] => lkf.any (fun e => decide (e.1 = o) && decide (e.2.1 = x) && decide (e.2.2.1 = c) && decide (e.2.2.2.1 = k) && decide (e.2.2.2.2.1 = q)) && decide (ins.2.2 = (k : Int))
  | .getfield _, _ => false
  | .putfield _, _ => false
  | .invokevirtual x, [y, n, c, k] => lkm.any (fun e => decide (e.1 = o) && decide (e.2.1 = x) && decide (e.2.2.1 = y)) && !isS y && decide (n = np y + 1) && decide (cn (c - 1) = (nm y).cls) && decide (0 < c) && decide (c < 10) && chkR (rt y) k && decide ((nm y).name ≠ "<init>")
  | .invokevirtual _, _ => false
  | .invokestatic x, [y, n, c, k] => (lkm.any (fun e => decide (e.1 = o) && decide (e.2.1 = x) && decide (e.2.2.1 = y)) && decide ((nm y).cls = cn o) || lkn.any (fun e => decide (e.1 = o) && decide (e.2.1 = x) && decide (e.2.2.1 = y))) && isS y && decide (n = np y) && decide (c = 0) && chkR (rt y) k
  | .invokestatic x, [_] => lkx.any (fun e => decide (e.1 = o) && decide (e.2.1 = x))
  | .invokestatic _, _ => false
  | .ldc x, _ => lkc.any (fun e => decide (e.1 = o) && decide (e.2.1 = x) && decide (e.2.2.1 = ins.2.2))
  | .ldc2_w x, _ => lkl.any (fun e => decide (e.1 = o) && decide (e.2.1 = x) && decide (e.2.2.1 = ins.2.2))
  | .lconst n, _ => decide (ins.2.2 = ((n : Nat) : Int))
  | .iconst n, _ => decide (-1 ≤ n ∧ n ≤ 5)
  | .bipush n, _ => decide (-128 ≤ n ∧ n ≤ 127)
  | .sipush n, _ => decide (-32768 ≤ n ∧ n ≤ 32767)
  | .iinc _ n, _ => decide (-128 ≤ n ∧ n ≤ 127)
  | _, _ => true
where chkR : Option FieldType → Nat → Bool
  | none, 0 => true
  | some .int, 1 => true
  | some .boolean, 1 => true
  | some (.object _), 2 => true
  | _, _ => false
def chkI (o : Nat) (by0 : ByteArray) (b : List Nat) (i : Nat) (ins : AI) : Bool :=
  decide (decode by0 (nd b i) = .ok (ins.1, nd b (i + 1) - nd b i)) && chkT b i ins && chkL o b i ins && chkK o ins
def chkM (o : Nat) (by0 : ByteArray) (b : List Nat) : Nat → List AI → Bool
  | _, [] => true
  | i, ins :: l => chkI o by0 b i ins && chkM o by0 b (i + 1) l
theorem chkM_at {o : Nat} {by0 : ByteArray} {b : List Nat} : ∀ (l : List AI) (i k : Nat) (ins : AI), chkM o by0 b i l = true → nth l k = some ins → chkI o by0 b (i + k) ins = true
  | [], _, _, _, _, h => by simp [nth] at h
  | a :: l, i, 0, ins, h, hk => by
    simp only [nth, Option.some.injEq] at hk
    subst hk
    simp only [chkM, Bool.and_eq_true] at h
    exact h.1
  | a :: l, i, k + 1, ins, h, hk => by
    simp only [nth] at hk
    simp only [chkM, Bool.and_eq_true] at h
    have := chkM_at l (i + 1) k ins h.2 hk
    rw [show i + (k + 1) = i + 1 + k by omega]
    exact this
theorem chk_0 : chkM 2 prog_4_method_2_code bp_0 0 cd_0 = true := by decide +kernel
theorem chk_1 : chkM 2 prog_4_method_3_code bp_1 0 cd_1 = true := by decide +kernel
theorem chk_2 : chkM 2 prog_4_method_4_code bp_2 0 cd_2 = true := by decide +kernel
theorem chk_3 : chkM 7 prog_1_method_22_code bp_3 0 cd_3 = true := by decide +kernel
theorem chk_4 : chkM 7 prog_1_method_24_code bp_4 0 cd_4 = true := by decide +kernel
theorem chk_5 : chkM 7 prog_1_method_23_code bp_5 0 cd_5 = true := by decide +kernel
theorem chk_6 : chkM 7 prog_1_method_25_code bp_6 0 cd_6 = true := by decide +kernel
theorem chk_7 : chkM 7 prog_1_method_26_code bp_7 0 cd_7 = true := by decide +kernel
theorem chk_8 : chkM 7 prog_1_method_27_code bp_8 0 cd_8 = true := by decide +kernel
theorem chk_9 : chkM 8 prog_10_method_2_code bp_9 0 cd_9 = true := by decide +kernel
theorem chk_10 : chkM 8 prog_10_method_3_code bp_10 0 cd_10 = true := by decide +kernel
theorem chk_11 : chkM 8 prog_10_method_7_code bp_11 0 cd_11 = true := by decide +kernel
theorem chk_12 : chkM 8 prog_10_method_8_code bp_12 0 cd_12 = true := by decide +kernel
theorem chk_13 : chkM 8 prog_10_method_22_code bp_13 0 cd_13 = true := by decide +kernel
theorem chk_14 : chkM 8 prog_10_method_12_code bp_14 0 cd_14 = true := by decide +kernel
theorem chk_15 : chkM 1 prog_3_method_2_code bp_15 0 cd_15 = true := by decide +kernel
theorem chk_16 : chkM 6 prog_8_method_2_code bp_16 0 cd_16 = true := by decide +kernel
theorem chk_17 : chkM 6 prog_8_method_3_code bp_17 0 cd_17 = true := by decide +kernel
theorem chk_18 : chkM 5 prog_7_method_2_code bp_18 0 cd_18 = true := by decide +kernel
theorem chk_19 : chkM 5 prog_7_method_3_code bp_19 0 cd_19 = true := by decide +kernel
theorem chk_20 : chkM 5 prog_7_method_4_code bp_20 0 cd_20 = true := by decide +kernel
theorem chk_21 : chkM 5 prog_7_method_5_code bp_21 0 cd_21 = true := by decide +kernel
theorem chk_22 : chkM 4 prog_6_method_6_code bp_22 0 cd_22 = true := by decide +kernel
theorem chk_23 : chkM 8 prog_10_method_20_code bp_23 0 cd_23 = true := by decide +kernel
theorem chk_24 : chkM 8 prog_10_method_21_code bp_24 0 cd_24 = true := by decide +kernel
theorem chk_26 : chkM 7 prog_1_method_2_code bp_26 0 cd_26 = true := by decide +kernel
theorem chk_27 : chkM 7 prog_1_method_3_code bp_27 0 cd_27 = true := by decide +kernel
theorem chk_28 : chkM 7 prog_1_method_4_code bp_28 0 cd_28 = true := by decide +kernel
theorem chk_29 : chkM 7 prog_1_method_5_code bp_29 0 cd_29 = true := by decide +kernel
theorem chk_30 : chkM 7 prog_1_method_6_code bp_30 0 cd_30 = true := by decide +kernel
theorem chk_31 : chkM 7 prog_1_method_7_code bp_31 0 cd_31 = true := by decide +kernel
theorem chk_32 : chkM 7 prog_1_method_8_code bp_32 0 cd_32 = true := by decide +kernel
theorem chk_33 : chkM 7 prog_1_method_9_code bp_33 0 cd_33 = true := by decide +kernel
theorem chk_34 : chkM 7 prog_1_method_10_code bp_34 0 cd_34 = true := by decide +kernel
theorem chk_35 : chkM 7 prog_1_method_11_code bp_35 0 cd_35 = true := by decide +kernel
theorem chk_36 : chkM 7 prog_1_method_12_code bp_36 0 cd_36 = true := by decide +kernel
theorem chk_37 : chkM 7 prog_1_method_13_code bp_37 0 cd_37 = true := by decide +kernel
theorem chk_38 : chkM 7 prog_1_method_14_code bp_38 0 cd_38 = true := by decide +kernel
theorem chk_39 : chkM 7 prog_1_method_15_code bp_39 0 cd_39 = true := by decide +kernel
theorem chk_40 : chkM 7 prog_1_method_16_code bp_40 0 cd_40 = true := by decide +kernel
theorem chk_41 : chkM 7 prog_1_method_17_code bp_41 0 cd_41 = true := by decide +kernel
theorem chk_42 : chkM 7 prog_1_method_18_code bp_42 0 cd_42 = true := by decide +kernel
theorem chk_43 : chkM 7 prog_1_method_19_code bp_43 0 cd_43 = true := by decide +kernel
theorem chk_44 : chkM 7 prog_1_method_20_code bp_44 0 cd_44 = true := by decide +kernel
theorem chk_45 : chkM 7 prog_1_method_21_code bp_45 0 cd_45 = true := by decide +kernel
theorem chk_46 : chkM 7 prog_1_method_28_code bp_46 0 cd_46 = true := by decide +kernel
theorem chk_48 : chkM 8 prog_10_method_4_code bp_48 0 cd_48 = true := by decide +kernel
theorem chk_49 : chkM 8 prog_10_method_5_code bp_49 0 cd_49 = true := by decide +kernel
theorem chk_50 : chkM 8 prog_10_method_6_code bp_50 0 cd_50 = true := by decide +kernel
theorem chk_51 : chkM 8 prog_10_method_9_code bp_51 0 cd_51 = true := by decide +kernel
theorem chk_52 : chkM 8 prog_10_method_10_code bp_52 0 cd_52 = true := by decide +kernel
theorem chk_53 : chkM 8 prog_10_method_11_code bp_53 0 cd_53 = true := by decide +kernel
theorem chk_54 : chkM 8 prog_10_method_13_code bp_54 0 cd_54 = true := by decide +kernel
theorem chk_55 : chkM 8 prog_10_method_14_code bp_55 0 cd_55 = true := by decide +kernel
theorem chk_56 : chkM 8 prog_10_method_15_code bp_56 0 cd_56 = true := by decide +kernel
theorem chk_57 : chkM 8 prog_10_method_16_code bp_57 0 cd_57 = true := by decide +kernel
theorem chk_58 : chkM 8 prog_10_method_17_code bp_58 0 cd_58 = true := by decide +kernel
theorem chk_59 : chkM 8 prog_10_method_18_code bp_59 0 cd_59 = true := by decide +kernel
theorem chk_60 : chkM 8 prog_10_method_19_code bp_60 0 cd_60 = true := by decide +kernel
theorem chk_61 : chkM 8 prog_10_method_23_code bp_61 0 cd_61 = true := by decide +kernel
theorem chk_62 : chkM 8 prog_10_method_24_code bp_62 0 cd_62 = true := by decide +kernel
theorem chk_63 : chkM 8 prog_10_method_25_code bp_63 0 cd_63 = true := by decide +kernel
theorem chk_64 : chkM 8 prog_10_method_26_code bp_64 0 cd_64 = true := by decide +kernel
theorem chk_65 : chkM 8 prog_10_method_27_code bp_65 0 cd_65 = true := by decide +kernel
theorem chk_66 : chkM 8 prog_10_method_28_code bp_66 0 cd_66 = true := by decide +kernel
theorem chk_67 : chkM 8 prog_10_method_29_code bp_67 0 cd_67 = true := by decide +kernel
theorem chk_68 : chkM 8 prog_10_method_30_code bp_68 0 cd_68 = true := by decide +kernel
theorem chk_69 : chkM 8 prog_10_method_31_code bp_69 0 cd_69 = true := by decide +kernel
theorem chk_70 : chkM 8 prog_10_method_32_code bp_70 0 cd_70 = true := by decide +kernel
theorem chk_71 : chkM 8 prog_10_method_33_code bp_71 0 cd_71 = true := by decide +kernel
theorem chk_72 : chkM 8 prog_10_method_34_code bp_72 0 cd_72 = true := by decide +kernel
theorem chk_73 : chkM 8 prog_10_method_35_code bp_73 0 cd_73 = true := by decide +kernel
theorem chk_74 : chkM 8 prog_10_method_36_code bp_74 0 cd_74 = true := by decide +kernel
theorem chk_75 : chkM 8 prog_10_method_37_code bp_75 0 cd_75 = true := by decide +kernel
theorem chk_76 : chkM 8 prog_10_method_38_code bp_76 0 cd_76 = true := by decide +kernel
theorem chk_77 : chkM 8 prog_10_method_39_code bp_77 0 cd_77 = true := by decide +kernel
theorem chk_78 : chkM 8 prog_10_method_40_code bp_78 0 cd_78 = true := by decide +kernel
theorem chk_79 : chkM 8 prog_10_method_41_code bp_79 0 cd_79 = true := by decide +kernel
theorem chk_80 : chkM 8 prog_10_method_42_code bp_80 0 cd_80 = true := by decide +kernel
theorem chk_81 : chkM 8 prog_10_method_43_code bp_81 0 cd_81 = true := by decide +kernel
theorem chk_82 : chkM 8 prog_10_method_44_code bp_82 0 cd_82 = true := by decide +kernel
theorem chk_83 : chkM 8 prog_10_method_45_code bp_83 0 cd_83 = true := by decide +kernel
theorem chk_84 : chkM 8 prog_10_method_46_code bp_84 0 cd_84 = true := by decide +kernel
theorem chk_85 : chkM 8 prog_10_method_47_code bp_85 0 cd_85 = true := by decide +kernel
theorem chk_86 : chkM 8 prog_10_method_48_code bp_86 0 cd_86 = true := by decide +kernel
theorem chk_87 : chkM 8 prog_10_method_49_code bp_87 0 cd_87 = true := by decide +kernel
theorem chk_89 : chkM 0 prog_2_method_2_code bp_89 0 cd_89 = true := by decide +kernel
theorem chk_90 : chkM 0 prog_2_method_3_code bp_90 0 cd_90 = true := by decide +kernel
theorem chk_91 : chkM 0 prog_2_method_4_code bp_91 0 cd_91 = true := by decide +kernel
theorem chk_92 : chkM 0 prog_2_method_5_code bp_92 0 cd_92 = true := by decide +kernel
theorem chk_93 : chkM 0 prog_2_method_6_code bp_93 0 cd_93 = true := by decide +kernel
theorem chk_94 : chkM 0 prog_2_method_7_code bp_94 0 cd_94 = true := by decide +kernel
theorem chk_95 : chkM 0 prog_2_method_8_code bp_95 0 cd_95 = true := by decide +kernel
theorem chk_96 : chkM 0 prog_2_method_9_code bp_96 0 cd_96 = true := by decide +kernel
theorem chk_97 : chkM 0 prog_2_method_10_code bp_97 0 cd_97 = true := by decide +kernel
theorem chk_98 : chkM 0 prog_2_method_11_code bp_98 0 cd_98 = true := by decide +kernel
theorem chk_99 : chkM 0 prog_2_method_12_code bp_99 0 cd_99 = true := by decide +kernel
theorem chk_100 : chkM 0 prog_2_method_13_code bp_100 0 cd_100 = true := by decide +kernel
theorem chk_101 : chkM 0 prog_2_method_14_code bp_101 0 cd_101 = true := by decide +kernel
theorem chk_103 : chkM 1 prog_3_method_3_code bp_103 0 cd_103 = true := by decide +kernel
theorem chk_104 : chkM 1 prog_3_method_4_code bp_104 0 cd_104 = true := by decide +kernel
theorem chk_105 : chkM 1 prog_3_method_5_code bp_105 0 cd_105 = true := by decide +kernel
theorem chk_106 : chkM 1 prog_3_method_6_code bp_106 0 cd_106 = true := by decide +kernel
theorem chk_107 : chkM 1 prog_3_method_7_code bp_107 0 cd_107 = true := by decide +kernel
theorem chk_108 : chkM 1 prog_3_method_8_code bp_108 0 cd_108 = true := by decide +kernel
theorem chk_109 : chkM 1 prog_3_method_9_code bp_109 0 cd_109 = true := by decide +kernel
theorem chk_110 : chkM 1 prog_3_method_10_code bp_110 0 cd_110 = true := by decide +kernel
theorem chk_113 : chkM 3 prog_5_method_2_code bp_113 0 cd_113 = true := by decide +kernel
theorem chk_114 : chkM 3 prog_5_method_3_code bp_114 0 cd_114 = true := by decide +kernel
theorem chk_115 : chkM 3 prog_5_method_4_code bp_115 0 cd_115 = true := by decide +kernel
theorem chk_116 : chkM 3 prog_5_method_5_code bp_116 0 cd_116 = true := by decide +kernel
theorem chk_117 : chkM 3 prog_5_method_6_code bp_117 0 cd_117 = true := by decide +kernel
theorem chk_118 : chkM 3 prog_5_method_7_code bp_118 0 cd_118 = true := by decide +kernel
theorem chk_119 : chkM 3 prog_5_method_8_code bp_119 0 cd_119 = true := by decide +kernel
theorem chk_120 : chkM 3 prog_5_method_9_code bp_120 0 cd_120 = true := by decide +kernel
theorem chk_121 : chkM 3 prog_5_method_10_code bp_121 0 cd_121 = true := by decide +kernel
theorem chk_122 : chkM 3 prog_5_method_11_code bp_122 0 cd_122 = true := by decide +kernel
theorem chk_123 : chkM 3 prog_5_method_12_code bp_123 0 cd_123 = true := by decide +kernel
theorem chk_124 : chkM 3 prog_5_method_13_code bp_124 0 cd_124 = true := by decide +kernel
theorem chk_125 : chkM 3 prog_5_method_14_code bp_125 0 cd_125 = true := by decide +kernel
theorem chk_127 : chkM 4 prog_6_method_2_code bp_127 0 cd_127 = true := by decide +kernel
theorem chk_128 : chkM 4 prog_6_method_3_code bp_128 0 cd_128 = true := by decide +kernel
theorem chk_129 : chkM 4 prog_6_method_4_code bp_129 0 cd_129 = true := by decide +kernel
theorem chk_130 : chkM 4 prog_6_method_5_code bp_130 0 cd_130 = true := by decide +kernel
theorem chk_132 : chkM 5 prog_7_method_6_code bp_132 0 cd_132 = true := by decide +kernel
theorem chk_133 : chkM 5 prog_7_method_7_code bp_133 0 cd_133 = true := by decide +kernel
theorem chk_134 : chkM 5 prog_7_method_8_code bp_134 0 cd_134 = true := by decide +kernel
theorem chk_135 : chkM 5 prog_7_method_9_code bp_135 0 cd_135 = true := by decide +kernel
theorem chk_136 : chkM 5 prog_7_method_10_code bp_136 0 cd_136 = true := by decide +kernel
theorem chk_137 : chkM 5 prog_7_method_11_code bp_137 0 cd_137 = true := by decide +kernel
theorem chk_139 : chkM 6 prog_8_method_4_code bp_139 0 cd_139 = true := by decide +kernel
theorem chk_140 : chkM 9 code bp_140 0 cd_140 = true := by decide +kernel
def inL : List Nat := [25, 47, 88, 102, 111, 112, 126, 131, 138]
