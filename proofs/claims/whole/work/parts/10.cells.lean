/-! THE CELLS: kinds, lengths, references (by a program that ran the constructors) -/
def kt (a : Nat) : Nat := if a < 84 then (if a < 56 then (if a < 27 then (if a < 14 then (if a < 3 then (if a < 1 then (99) else (if a < 2 then (11) else (10))) else (if a < 6 then (if a < 5 then (20) else (7)) else (if a < 13 then (20) else (21)))) else (if a < 23 then (if a < 15 then (2) else (if a < 22 then (20) else (1))) else (if a < 25 then (if a < 24 then (5) else (9)) else (if a < 26 then (21) else (20))))) else (if a < 40 then (if a < 30 then (if a < 28 then (9) else (if a < 29 then (21) else (20))) else (if a < 32 then (if a < 31 then (3) else (7)) else (if a < 39 then (20) else (21)))) else (if a < 52 then (if a < 41 then (2) else (if a < 51 then (20) else (6))) else (if a < 54 then (if a < 53 then (24) else (9)) else (if a < 55 then (21) else (20)))))) else (if a < 70 then (if a < 63 then (if a < 59 then (if a < 57 then (9) else (if a < 58 then (21) else (20))) else (if a < 61 then (if a < 60 then (9) else (21)) else (if a < 62 then (20) else (9)))) else (if a < 66 then (if a < 64 then (21) else (if a < 65 then (20) else (9))) else (if a < 68 then (if a < 67 then (21) else (20)) else (if a < 69 then (9) else (21))))) else (if a < 77 then (if a < 73 then (if a < 71 then (20) else (if a < 72 then (9) else (21))) else (if a < 75 then (if a < 74 then (20) else (9)) else (if a < 76 then (21) else (20)))) else (if a < 80 then (if a < 78 then (9) else (if a < 79 then (21) else (20))) else (if a < 82 then (if a < 81 then (9) else (21)) else (if a < 83 then (20) else (9))))))) else (if a < 112 then (if a < 98 then (if a < 91 then (if a < 87 then (if a < 85 then (21) else (if a < 86 then (20) else (9))) else (if a < 89 then (if a < 88 then (21) else (20)) else (if a < 90 then (9) else (21)))) else (if a < 94 then (if a < 92 then (20) else (if a < 93 then (9) else (21))) else (if a < 96 then (if a < 95 then (20) else (9)) else (if a < 97 then (21) else (20))))) else (if a < 105 then (if a < 101 then (if a < 99 then (9) else (if a < 100 then (21) else (20))) else (if a < 103 then (if a < 102 then (9) else (21)) else (if a < 104 then (20) else (9)))) else (if a < 108 then (if a < 106 then (21) else (if a < 107 then (20) else (9))) else (if a < 110 then (if a < 109 then (21) else (20)) else (if a < 111 then (9) else (21)))))) else (if a < 401 then (if a < 124 then (if a < 117 then (if a < 113 then (20) else (if a < 114 then (8) else (20))) else (if a < 119 then (if a < 118 then (21) else (4)) else (if a < 123 then (20) else (21)))) else (if a < 127 then (if a < 125 then (20) else (if a < 126 then (0) else (2))) else (if a < 133 then (if a < 132 then (20) else (5)) else (if a < 135 then (20) else (99))))) else (if a < 445 then (if a < 430 then (if a < 402 then (12) else (if a < 404 then (20) else (22))) else (if a < 432 then (if a < 431 then (20) else (21)) else (if a < 444 then (20) else (23)))) else (if a < 473 then (if a < 448 then (if a < 447 then (20) else (23)) else (if a < 451 then (20) else (22))) else (if a < 476 then (if a < 475 then (20) else (21)) else (if a < 477 then (20) else (99)))))))
def kl (a : Nat) : Int := if a < 101 then (if a < 58 then (if a < 30 then (if a < 16 then (if a < 9 then (if a < 4 then (if a < 3 then (0) else (1600)) else (if a < 5 then (1601) else (if a < 6 then (0) else (8)))) else (if a < 13 then (if a < 10 then (4) else (12)) else (if a < 14 then (4) else (if a < 15 then (0) else (1616))))) else (if a < 22 then (if a < 18 then (if a < 17 then (8) else (4)) else (if a < 19 then (8) else (if a < 20 then (64) else (3)))) else (if a < 27 then (if a < 25 then (0) else (if a < 26 then (4) else (40))) else (if a < 28 then (0) else (if a < 29 then (4) else (40)))))) else (if a < 46 then (if a < 40 then (if a < 35 then (if a < 32 then (0) else (8)) else (if a < 36 then (4) else (if a < 39 then (12) else (4)))) else (if a < 43 then (if a < 41 then (0) else (if a < 42 then (1616) else (8))) else (if a < 44 then (4) else (if a < 45 then (8) else (64))))) else (if a < 52 then (if a < 49 then (if a < 48 then (3) else (2400)) else (if a < 50 then (800) else (if a < 51 then (8) else (0)))) else (if a < 55 then (if a < 53 then (20) else (if a < 54 then (0) else (4))) else (if a < 56 then (40) else (if a < 57 then (0) else (4))))))) else (if a < 79 then (if a < 68 then (if a < 63 then (if a < 60 then (if a < 59 then (40) else (0)) else (if a < 61 then (4) else (if a < 62 then (40) else (0)))) else (if a < 65 then (if a < 64 then (4) else (40)) else (if a < 66 then (0) else (if a < 67 then (4) else (40))))) else (if a < 73 then (if a < 70 then (if a < 69 then (0) else (4)) else (if a < 71 then (40) else (if a < 72 then (0) else (4)))) else (if a < 76 then (if a < 74 then (40) else (if a < 75 then (0) else (4))) else (if a < 77 then (40) else (if a < 78 then (0) else (4)))))) else (if a < 90 then (if a < 84 then (if a < 81 then (if a < 80 then (40) else (0)) else (if a < 82 then (4) else (if a < 83 then (40) else (0)))) else (if a < 87 then (if a < 85 then (4) else (if a < 86 then (40) else (0))) else (if a < 88 then (4) else (if a < 89 then (40) else (0))))) else (if a < 95 then (if a < 92 then (if a < 91 then (4) else (40)) else (if a < 93 then (0) else (if a < 94 then (4) else (40)))) else (if a < 98 then (if a < 96 then (0) else (if a < 97 then (4) else (40))) else (if a < 99 then (0) else (if a < 100 then (4) else (40)))))))) else (if a < 419 then (if a < 128 then (if a < 111 then (if a < 106 then (if a < 103 then (if a < 102 then (0) else (4)) else (if a < 104 then (40) else (if a < 105 then (0) else (4)))) else (if a < 108 then (if a < 107 then (40) else (0)) else (if a < 109 then (4) else (if a < 110 then (40) else (0))))) else (if a < 118 then (if a < 113 then (if a < 112 then (4) else (40)) else (if a < 114 then (0) else (if a < 116 then (8) else (924)))) else (if a < 124 then (if a < 119 then (0) else (if a < 122 then (16) else (792))) else (if a < 125 then (100) else (if a < 127 then (0) else (1616)))))) else (if a < 405 then (if a < 133 then (if a < 130 then (if a < 129 then (8) else (4)) else (if a < 131 then (8) else (if a < 132 then (64) else (0)))) else (if a < 402 then (if a < 134 then (59) else (if a < 135 then (6) else (0))) else (if a < 403 then (1600) else (if a < 404 then (6) else (7))))) else (if a < 411 then (if a < 408 then (if a < 407 then (5) else (7)) else (if a < 409 then (6) else (if a < 410 then (2) else (6)))) else (if a < 415 then (if a < 412 then (4) else (if a < 414 then (2) else (6))) else (if a < 416 then (5) else (if a < 418 then (4) else (8))))))) else (if a < 448 then (if a < 437 then (if a < 425 then (if a < 421 then (if a < 420 then (3) else (4)) else (if a < 422 then (6) else (if a < 424 then (5) else (2)))) else (if a < 433 then (if a < 430 then (3) else (if a < 431 then (8) else (32))) else (if a < 434 then (72) else (if a < 435 then (32) else (6))))) else (if a < 442 then (if a < 439 then (if a < 438 then (3200) else (218)) else (if a < 440 then (57) else (if a < 441 then (8) else (32)))) else (if a < 445 then (if a < 443 then (64) else (if a < 444 then (8) else (12))) else (if a < 446 then (8) else (if a < 447 then (48) else (792)))))) else (if a < 463 then (if a < 453 then (if a < 450 then (if a < 449 then (196416) else (100)) else (if a < 451 then (4360) else (if a < 452 then (5) else (4)))) else (if a < 457 then (if a < 455 then (5) else (if a < 456 then (4) else (5))) else (if a < 459 then (3) else (if a < 460 then (2) else (3))))) else (if a < 469 then (if a < 466 then (if a < 465 then (5) else (3)) else (if a < 467 then (8) else (if a < 468 then (6) else (4)))) else (if a < 473 then (if a < 470 then (7) else (if a < 471 then (6) else (5))) else (if a < 476 then (1700) else (if a < 477 then (59) else (0))))))))
def rf_1 (k : Nat) : Nat := (if k < 7 then (if k < 3 then (if k < 1 then (2) else (if k < 2 then (5) else (22))) else (if k < 5 then (if k < 4 then (24) else (27)) else (if k < 6 then (30) else (51)))) else (if k < 10 then (if k < 8 then (113) else (if k < 9 then (118) else (125))) else (if k < 12 then (if k < 11 then (133) else (0)) else (if k < 13 then (134) else (0)))))
def rf_2 (k : Nat) : Nat := (if k < 2 then (if k < 1 then (3) else (0)) else (if k < 3 then (4) else (0)))
def rf_5 (k : Nat) : Nat := (if k < 11 then (if k < 8 then (if k < 6 then (0) else (if k < 7 then (6) else (7))) else (if k < 9 then (8) else (if k < 10 then (9) else (10)))) else (if k < 14 then (if k < 12 then (11) else (if k < 13 then (12) else (13))) else (if k < 15 then (14) else (if k < 16 then (20) else (21)))))
def rf_14 (k : Nat) : Nat := (if k < 3 then (if k < 1 then (15) else (if k < 2 then (0) else (16))) else (if k < 4 then (17) else (if k < 5 then (18) else (19))))
def rf_22 (k : Nat) : Nat := (if k < 2 then (if k < 1 then (2) else (23)) else (if k < 3 then (5) else (0)))
def rf_23 (k : Nat) : Nat := (if k < 1 then (2) else (if k < 2 then (14) else (0)))
def rf_24 (k : Nat) : Nat := (if k < 4 then (if k < 3 then (0) else (25)) else (if k < 5 then (26) else (0)))
def rf_27 (k : Nat) : Nat := (if k < 4 then (if k < 3 then (0) else (28)) else (if k < 5 then (29) else (0)))
def rf_30 (k : Nat) : Nat := (if k < 2 then (if k < 1 then (31) else (48)) else (if k < 3 then (49) else (if k < 5 then (0) else (50))))
def rf_31 (k : Nat) : Nat := (if k < 11 then (if k < 8 then (if k < 6 then (0) else (if k < 7 then (32) else (33))) else (if k < 9 then (34) else (if k < 10 then (35) else (36)))) else (if k < 14 then (if k < 12 then (37) else (if k < 13 then (38) else (39))) else (if k < 15 then (40) else (if k < 16 then (46) else (47)))))
def rf_40 (k : Nat) : Nat := (if k < 3 then (if k < 1 then (41) else (if k < 2 then (0) else (42))) else (if k < 4 then (43) else (if k < 5 then (44) else (45))))
def rf_52 (k : Nat) : Nat := (if k < 10 then (if k < 5 then (if k < 2 then (if k < 1 then (53) else (56)) else (if k < 3 then (59) else (if k < 4 then (62) else (65)))) else (if k < 7 then (if k < 6 then (68) else (71)) else (if k < 8 then (74) else (if k < 9 then (77) else (80))))) else (if k < 15 then (if k < 12 then (if k < 11 then (83) else (86)) else (if k < 13 then (89) else (if k < 14 then (92) else (95)))) else (if k < 17 then (if k < 16 then (98) else (101)) else (if k < 18 then (104) else (if k < 19 then (107) else (110))))))
def rf_53 (k : Nat) : Nat := (if k < 4 then (if k < 3 then (0) else (54)) else (if k < 5 then (55) else (0)))
def rf_56 (k : Nat) : Nat := (if k < 4 then (if k < 3 then (0) else (57)) else (if k < 5 then (58) else (0)))
def rf_59 (k : Nat) : Nat := (if k < 4 then (if k < 3 then (0) else (60)) else (if k < 5 then (61) else (0)))
def rf_62 (k : Nat) : Nat := (if k < 4 then (if k < 3 then (0) else (63)) else (if k < 5 then (64) else (0)))
def rf_65 (k : Nat) : Nat := (if k < 4 then (if k < 3 then (0) else (66)) else (if k < 5 then (67) else (0)))
def rf_68 (k : Nat) : Nat := (if k < 4 then (if k < 3 then (0) else (69)) else (if k < 5 then (70) else (0)))
def rf_71 (k : Nat) : Nat := (if k < 4 then (if k < 3 then (0) else (72)) else (if k < 5 then (73) else (0)))
def rf_74 (k : Nat) : Nat := (if k < 4 then (if k < 3 then (0) else (75)) else (if k < 5 then (76) else (0)))
def rf_77 (k : Nat) : Nat := (if k < 4 then (if k < 3 then (0) else (78)) else (if k < 5 then (79) else (0)))
def rf_80 (k : Nat) : Nat := (if k < 4 then (if k < 3 then (0) else (81)) else (if k < 5 then (82) else (0)))
def rf_83 (k : Nat) : Nat := (if k < 4 then (if k < 3 then (0) else (84)) else (if k < 5 then (85) else (0)))
def rf_86 (k : Nat) : Nat := (if k < 4 then (if k < 3 then (0) else (87)) else (if k < 5 then (88) else (0)))
def rf_89 (k : Nat) : Nat := (if k < 4 then (if k < 3 then (0) else (90)) else (if k < 5 then (91) else (0)))
def rf_92 (k : Nat) : Nat := (if k < 4 then (if k < 3 then (0) else (93)) else (if k < 5 then (94) else (0)))
def rf_95 (k : Nat) : Nat := (if k < 4 then (if k < 3 then (0) else (96)) else (if k < 5 then (97) else (0)))
def rf_98 (k : Nat) : Nat := (if k < 4 then (if k < 3 then (0) else (99)) else (if k < 5 then (100) else (0)))
def rf_101 (k : Nat) : Nat := (if k < 4 then (if k < 3 then (0) else (102)) else (if k < 5 then (103) else (0)))
def rf_104 (k : Nat) : Nat := (if k < 4 then (if k < 3 then (0) else (105)) else (if k < 5 then (106) else (0)))
def rf_107 (k : Nat) : Nat := (if k < 4 then (if k < 3 then (0) else (108)) else (if k < 5 then (109) else (0)))
def rf_110 (k : Nat) : Nat := (if k < 4 then (if k < 3 then (0) else (111)) else (if k < 5 then (112) else (0)))
def rf_113 (k : Nat) : Nat := (if k < 4 then (if k < 2 then (if k < 1 then (30) else (24)) else (if k < 3 then (114) else (115))) else (if k < 6 then (if k < 5 then (0) else (116)) else (if k < 7 then (117) else (0))))
def rf_118 (k : Nat) : Nat := (if k < 5 then (if k < 2 then (if k < 1 then (30) else (24)) else (if k < 3 then (119) else (if k < 4 then (120) else (121)))) else (if k < 8 then (if k < 6 then (0) else (if k < 7 then (122) else (123))) else (if k < 9 then (0) else (if k < 10 then (124) else (0)))))
def rf_125 (k : Nat) : Nat := (if k < 3 then (if k < 1 then (2) else (if k < 2 then (30) else (24))) else (if k < 4 then (113) else (if k < 5 then (126) else (132))))
def rf_126 (k : Nat) : Nat := (if k < 3 then (if k < 1 then (127) else (if k < 2 then (0) else (128))) else (if k < 4 then (129) else (if k < 5 then (130) else (131))))
def rf_132 (k : Nat) : Nat := (if k < 1 then (2) else (if k < 2 then (126) else (0)))
def rf_401 (k : Nat) : Nat := (if k < 58 then (if k < 28 then (if k < 17 then (if k < 12 then (if k < 9 then (if k < 1 then (402) else (0)) else (if k < 10 then (403) else (if k < 11 then (0) else (404)))) else (if k < 14 then (if k < 13 then (405) else (406)) else (if k < 15 then (407) else (if k < 16 then (408) else (409))))) else (if k < 22 then (if k < 19 then (if k < 18 then (410) else (411)) else (if k < 20 then (412) else (if k < 21 then (413) else (414)))) else (if k < 25 then (if k < 23 then (415) else (if k < 24 then (416) else (417))) else (if k < 26 then (418) else (if k < 27 then (419) else (420)))))) else (if k < 39 then (if k < 33 then (if k < 30 then (if k < 29 then (421) else (422)) else (if k < 31 then (423) else (if k < 32 then (424) else (425)))) else (if k < 36 then (if k < 34 then (426) else (if k < 35 then (427) else (428))) else (if k < 37 then (429) else (if k < 38 then (0) else (430))))) else (if k < 44 then (if k < 41 then (if k < 40 then (431) else (432)) else (if k < 42 then (433) else (if k < 43 then (434) else (435)))) else (if k < 49 then (if k < 45 then (436) else (if k < 46 then (437) else (0))) else (if k < 50 then (438) else (if k < 51 then (439) else (0))))))) else (if k < 82 then (if k < 69 then (if k < 63 then (if k < 60 then (if k < 59 then (440) else (441)) else (if k < 61 then (442) else (if k < 62 then (443) else (444)))) else (if k < 66 then (if k < 64 then (445) else (if k < 65 then (0) else (446))) else (if k < 67 then (447) else (if k < 68 then (0) else (448))))) else (if k < 76 then (if k < 71 then (if k < 70 then (449) else (450)) else (if k < 74 then (0) else (if k < 75 then (451) else (452)))) else (if k < 79 then (if k < 77 then (453) else (if k < 78 then (454) else (455))) else (if k < 80 then (456) else (if k < 81 then (457) else (458)))))) else (if k < 93 then (if k < 87 then (if k < 84 then (if k < 83 then (459) else (460)) else (if k < 85 then (461) else (if k < 86 then (462) else (463)))) else (if k < 90 then (if k < 88 then (464) else (if k < 89 then (465) else (466))) else (if k < 91 then (467) else (if k < 92 then (468) else (469))))) else (if k < 98 then (if k < 95 then (if k < 94 then (470) else (471)) else (if k < 96 then (472) else (if k < 97 then (473) else (0)))) else (if k < 103 then (if k < 99 then (474) else (if k < 102 then (0) else (475))) else (if k < 106 then (0) else (if k < 107 then (476) else (0))))))))
def rf0 (a k : Nat) : Nat := if a < 75 then (if a < 41 then (if a < 23 then (if a < 5 then (if a < 2 then (if a < 1 then (0) else (rf_1 k)) else (if a < 3 then (rf_2 k) else (0))) else (if a < 14 then (if a < 6 then (rf_5 k) else (0)) else (if a < 15 then (rf_14 k) else (if a < 22 then (0) else (rf_22 k))))) else (if a < 28 then (if a < 25 then (if a < 24 then (rf_23 k) else (rf_24 k)) else (if a < 27 then (0) else (rf_27 k))) else (if a < 31 then (if a < 30 then (0) else (rf_30 k)) else (if a < 32 then (rf_31 k) else (if a < 40 then (0) else (rf_40 k)))))) else (if a < 62 then (if a < 54 then (if a < 52 then (if a < 51 then (0) else ((if k < 1 then (52) else (0)))) else (if a < 53 then (rf_52 k) else (rf_53 k))) else (if a < 57 then (if a < 56 then (0) else (rf_56 k)) else (if a < 59 then (0) else (if a < 60 then (rf_59 k) else (0))))) else (if a < 68 then (if a < 65 then (if a < 63 then (rf_62 k) else (0)) else (if a < 66 then (rf_65 k) else (0))) else (if a < 71 then (if a < 69 then (rf_68 k) else (0)) else (if a < 72 then (rf_71 k) else (if a < 74 then (0) else (rf_74 k))))))) else (if a < 102 then (if a < 89 then (if a < 81 then (if a < 78 then (if a < 77 then (0) else (rf_77 k)) else (if a < 80 then (0) else (rf_80 k))) else (if a < 84 then (if a < 83 then (0) else (rf_83 k)) else (if a < 86 then (0) else (if a < 87 then (rf_86 k) else (0))))) else (if a < 95 then (if a < 92 then (if a < 90 then (rf_89 k) else (0)) else (if a < 93 then (rf_92 k) else (0))) else (if a < 98 then (if a < 96 then (rf_95 k) else (0)) else (if a < 99 then (rf_98 k) else (if a < 101 then (0) else (rf_101 k)))))) else (if a < 118 then (if a < 108 then (if a < 105 then (if a < 104 then (0) else (rf_104 k)) else (if a < 107 then (0) else (rf_107 k))) else (if a < 111 then (if a < 110 then (0) else (rf_110 k)) else (if a < 113 then (0) else (if a < 114 then (rf_113 k) else (0))))) else (if a < 127 then (if a < 125 then (if a < 119 then (rf_118 k) else (0)) else (if a < 126 then (rf_125 k) else (rf_126 k))) else (if a < 133 then (if a < 132 then (0) else (rf_132 k)) else (if a < 401 then (0) else (if a < 402 then (rf_401 k) else (0)))))))
def enC : Nat := 30
def maC : Nat := 1
def rfC (e s a k : Nat) : Nat := if a = enC then (if k = 0 then e else rf0 a k) else if a = maC then (if k = 1 then s else rf0 a k) else rf0 a k
def stC : List Int := [111, 102, 102, 105, 99, 101, 114, 32, 115, 104, 97, 112, 101, 32, 112, 114, 101, 115, 115, 32, 102, 101, 101, 108, 105, 110, 103, 32, 99, 97, 114, 98, 111, 110, 32, 116, 111, 32, 115, 104, 101, 101, 116, 115, 32, 102, 101, 108, 116, 32, 111, 102, 32, 105, 115, 32, 112, 97, 115, 115, 101, 115, 32, 102, 97, 100, 101, 115, 32, 97, 99, 116, 115, 32, 115, 108, 105, 112, 32, 115, 116, 114, 101, 110, 103, 116, 104, 32, 100, 97, 121, 32, 102, 101, 101, 108, 32, 110, 117, 109, 98, 101, 114, 32, 102, 101, 101, 108, 115, 32, 115, 116, 101, 112, 115, 32, 111, 114, 32, 97, 110, 100, 32, 110, 111, 116, 32, 97, 108, 108, 32, 109, 105, 110, 32, 109, 97, 120, 32, 102, 105, 114, 115, 116, 32, 108, 97, 115, 116, 32, 111, 102, 116, 101, 110, 32, 116, 111, 116, 97, 108, 32, 109, 111, 115, 116, 32, 108, 101, 97, 115, 116, 32]
/-! THE PURE MACHINE: a run of bytecode over numbers alone. A cell has a number; what it holds is 'S cell place', an Int; a reference is a cell's number, and the references that never change are written down ('rfC'). -/
abbrev PV : Type := Int ⊕ (Int ⊕ Nat)
abbrev vi (z : Int) : PV := .inl z
abbrev vl (z : Int) : PV := .inr (.inl z)
abbrev vr (a : Nat) : PV := .inr (.inr a)
abbrev MS : Type := Nat → Nat → Int
abbrev MC : Type := Nat × Nat × Nat × Nat
abbrev PM : Type := MS × MC
abbrev PL : Type := List (Nat × PV)
abbrev PS : Type := Nat × PL × List PV × PM
abbrev PRes : Type := Option PV × PM
abbrev PO : Type := Nat → List PV → PM → Option PRes
abbrev PF : Type := PO → PL → List PV → PM → Option (PS ⊕ PRes)
def up (S : MS) (c k : Nat) (z : Int) : MS := fun c' k' => if c' = c then (if k' = k then z else S c' k') else S c' k'
def wr (z : Int) : Int := (z + 2147483648) % 4294967296 - 2147483648
def wl (z : Int) : Int := (z + 9223372036854775808) % 18446744073709551616 - 9223372036854775808
theorem ex_band : ∃ f : Int → Int → Int, f = fun a b => (Int32.ofInt a &&& Int32.ofInt b).toInt := ⟨_, rfl⟩
noncomputable def band : Int → Int → Int := Classical.choose ex_band
theorem band_eq (a b : Int) : band a b = (Int32.ofInt a &&& Int32.ofInt b).toInt := congrFun (congrFun (Classical.choose_spec ex_band) a) b
theorem ex_bor : ∃ f : Int → Int → Int, f = fun a b => (Int32.ofInt a ||| Int32.ofInt b).toInt := ⟨_, rfl⟩
noncomputable def bor : Int → Int → Int := Classical.choose ex_bor
theorem bor_eq (a b : Int) : bor a b = (Int32.ofInt a ||| Int32.ofInt b).toInt := congrFun (congrFun (Classical.choose_spec ex_bor) a) b
theorem ex_bxor : ∃ f : Int → Int → Int, f = fun a b => (Int32.ofInt a ^^^ Int32.ofInt b).toInt := ⟨_, rfl⟩
noncomputable def bxor : Int → Int → Int := Classical.choose ex_bxor
theorem bxor_eq (a b : Int) : bxor a b = (Int32.ofInt a ^^^ Int32.ofInt b).toInt := congrFun (congrFun (Classical.choose_spec ex_bxor) a) b
theorem ex_bandL : ∃ f : Int → Int → Int, f = fun a b => (Int64.ofInt a &&& Int64.ofInt b).toInt := ⟨_, rfl⟩
noncomputable def bandL : Int → Int → Int := Classical.choose ex_bandL
theorem bandL_eq (a b : Int) : bandL a b = (Int64.ofInt a &&& Int64.ofInt b).toInt := congrFun (congrFun (Classical.choose_spec ex_bandL) a) b
theorem ex_borL : ∃ f : Int → Int → Int, f = fun a b => (Int64.ofInt a ||| Int64.ofInt b).toInt := ⟨_, rfl⟩
noncomputable def borL : Int → Int → Int := Classical.choose ex_borL
theorem borL_eq (a b : Int) : borL a b = (Int64.ofInt a ||| Int64.ofInt b).toInt := congrFun (congrFun (Classical.choose_spec ex_borL) a) b
theorem ex_bxorL : ∃ f : Int → Int → Int, f = fun a b => (Int64.ofInt a ^^^ Int64.ofInt b).toInt := ⟨_, rfl⟩
noncomputable def bxorL : Int → Int → Int := Classical.choose ex_bxorL
theorem bxorL_eq (a b : Int) : bxorL a b = (Int64.ofInt a ^^^ Int64.ofInt b).toInt := congrFun (congrFun (Classical.choose_spec ex_bxorL) a) b
theorem ex_shl : ∃ f : Int → Int → Int, f = fun a b => (Int32.ofInt a <<< (Int32.ofInt b &&& 31)).toInt := ⟨_, rfl⟩
noncomputable def shl : Int → Int → Int := Classical.choose ex_shl
theorem shl_eq (a b : Int) : shl a b = (Int32.ofInt a <<< (Int32.ofInt b &&& 31)).toInt := congrFun (congrFun (Classical.choose_spec ex_shl) a) b
theorem ex_shr : ∃ f : Int → Int → Int, f = fun a b => (Int32.ofInt a >>> (Int32.ofInt b &&& 31)).toInt := ⟨_, rfl⟩
noncomputable def shr : Int → Int → Int := Classical.choose ex_shr
theorem shr_eq (a b : Int) : shr a b = (Int32.ofInt a >>> (Int32.ofInt b &&& 31)).toInt := congrFun (congrFun (Classical.choose_spec ex_shr) a) b
theorem ex_ushr : ∃ f : Int → Int → Int, f = fun a b => ((Int32.ofInt a).toUInt32 >>> ((Int32.ofInt b).toUInt32 &&& Int32.toUInt32 31)).toInt32.toInt := ⟨_, rfl⟩
noncomputable def ushr : Int → Int → Int := Classical.choose ex_ushr
theorem ushr_eq (a b : Int) : ushr a b = ((Int32.ofInt a).toUInt32 >>> ((Int32.ofInt b).toUInt32 &&& Int32.toUInt32 31)).toInt32.toInt := congrFun (congrFun (Classical.choose_spec ex_ushr) a) b
theorem ex_shlL : ∃ f : Int → Int → Int, f = fun a b => (Int64.ofInt a <<< ((Int32.ofInt b).toInt64 &&& 63)).toInt := ⟨_, rfl⟩
noncomputable def shlL : Int → Int → Int := Classical.choose ex_shlL
theorem shlL_eq (a b : Int) : shlL a b = (Int64.ofInt a <<< ((Int32.ofInt b).toInt64 &&& 63)).toInt := congrFun (congrFun (Classical.choose_spec ex_shlL) a) b
theorem ex_ushrL : ∃ f : Int → Int → Int, f = fun a b => ((Int64.ofInt a).toUInt64 >>> ((Int32.ofInt b).toInt64.toUInt64 &&& Int64.toUInt64 63)).toInt64.toInt := ⟨_, rfl⟩
noncomputable def ushrL : Int → Int → Int := Classical.choose ex_ushrL
theorem ushrL_eq (a b : Int) : ushrL a b = ((Int64.ofInt a).toUInt64 >>> ((Int32.ofInt b).toInt64.toUInt64 &&& Int64.toUInt64 63)).toInt64.toInt := congrFun (congrFun (Classical.choose_spec ex_ushrL) a) b
theorem ex_lcp : ∃ f : Int → Int → Int, f = fun a b => if b < a then 1 else if a = b then 0 else -1 := ⟨_, rfl⟩
noncomputable def lcp : Int → Int → Int := Classical.choose ex_lcp
theorem lcp_eq (a b : Int) : lcp a b = if b < a then 1 else if a = b then 0 else -1 := congrFun (congrFun (Classical.choose_spec ex_lcp) a) b
theorem ex_imx : ∃ f : Int → Int → Int, f = fun a b => if a < b then b else a := ⟨_, rfl⟩
noncomputable def imx : Int → Int → Int := Classical.choose ex_imx
theorem imx_eq (a b : Int) : imx a b = if a < b then b else a := congrFun (congrFun (Classical.choose_spec ex_imx) a) b
theorem ex_imn : ∃ f : Int → Int → Int, f = fun a b => if b < a then b else a := ⟨_, rfl⟩
noncomputable def imn : Int → Int → Int := Classical.choose ex_imn
theorem imn_eq (a b : Int) : imn a b = if b < a then b else a := congrFun (congrFun (Classical.choose_spec ex_imn) a) b
def lk : PL → Nat → Option PV
  | [], _ => none
  | (j, v) :: l, i => if j = i then some v else lk l i
def pcat (v : PV) : Nat := match v with | .inr (.inl _) => 2 | _ => 1
def put1 (i : Nat) (v : PV) (l : PL) : PL := (i, v) :: l.filter (fun q => !(q.1 == i) && !(q.1 + 1 == i && pcat q.2 == 2))
def put2 (i : Nat) (v : PV) (l : PL) : PL := (i, v) :: l.filter (fun q => !(q.1 == i) && (!(q.1 == i + 1) && !(q.1 + 1 == i && pcat q.2 == 2)))
def kp : List Nat → PL → Option PL
  | [], _ => some []
  | i :: ks, l => match lk l i with
    | none => none
    | some v => match kp ks l with
      | none => none
      | some t => some ((i, v) :: t)
def eL : Nat → List PV → PL
  | _, [] => []
  | i, v :: vs => (i, v) :: eL (i + pcat v) vs
-- kinds: 0 .. 12 an object of the class of that number; 20 int[], 21 long[], 22 char[], 23 boolean[], 24 an array of objects
def i_kp (ks : List Nat) (f : PF) : PF := fun o l st M => match kp ks l with | some l' => f o l' st M | none => none
def i_ldI (i nx : Nat) : PF := fun _ l st M => match lk l i with | some (.inl z) => some (.inl (nx, l, .inl z :: st, M)) | _ => none
def i_ldL (i nx : Nat) : PF := fun _ l st M => match lk l i with | some (.inr (.inl z)) => some (.inl (nx, l, .inr (.inl z) :: st, M)) | _ => none
def i_ldR (i nx : Nat) : PF := fun _ l st M => match lk l i with | some (.inr (.inr a)) => some (.inl (nx, l, .inr (.inr a) :: st, M)) | _ => none
def i_stI (i nx : Nat) : PF := fun _ l st M => match st with | .inl z :: st => some (.inl (nx, put1 i (.inl z) l, st, M)) | _ => none
def i_stL (i nx : Nat) : PF := fun _ l st M => match st with | .inr (.inl z) :: st => some (.inl (nx, put2 i (.inr (.inl z)) l, st, M)) | _ => none
def i_stR (i nx : Nat) : PF := fun _ l st M => match st with | .inr (.inr a) :: st => some (.inl (nx, put1 i (.inr (.inr a)) l, st, M)) | _ => none
def i_inc (i : Nat) (d : Int) (nx : Nat) : PF := fun _ l st M => match lk l i with | some (.inl z) => some (.inl (nx, put1 i (.inl (wr (z + d))) l, st, M)) | _ => none
def i_cI (z : Int) (nx : Nat) : PF := fun _ l st M => some (.inl (nx, l, .inl z :: st, M))
def i_cL (z : Int) (nx : Nat) : PF := fun _ l st M => some (.inl (nx, l, .inr (.inl z) :: st, M))
def i_cS (nx : Nat) : PF := fun _ l st M => some (.inl (nx, l, .inr (.inr 999) :: st, M))
def i_b2 (f : Int → Int → Int) (nx : Nat) : PF := fun _ l st M => match st with | .inl b :: .inl a :: st => some (.inl (nx, l, .inl (f a b) :: st, M)) | _ => none
def i_d2 (f : Int → Int → Int) (nx : Nat) : PF := fun _ l st M => match st with | .inl b :: .inl a :: st => if b = 0 then none else some (.inl (nx, l, .inl (f a b) :: st, M)) | _ => none
def i_b2L (f : Int → Int → Int) (nx : Nat) : PF := fun _ l st M => match st with | .inr (.inl b) :: .inr (.inl a) :: st => some (.inl (nx, l, .inr (.inl (f a b)) :: st, M)) | _ => none
def i_d2L (f : Int → Int → Int) (nx : Nat) : PF := fun _ l st M => match st with | .inr (.inl b) :: .inr (.inl a) :: st => if b = 0 then none else some (.inl (nx, l, .inr (.inl (f a b)) :: st, M)) | _ => none
def i_sL (f : Int → Int → Int) (nx : Nat) : PF := fun _ l st M => match st with | .inl b :: .inr (.inl a) :: st => some (.inl (nx, l, .inr (.inl (f a b)) :: st, M)) | _ => none
noncomputable def i_cmp (nx : Nat) : PF := fun _ l st M => match st with | .inr (.inl b) :: .inr (.inl a) :: st => some (.inl (nx, l, .inl (lcp a b) :: st, M)) | _ => none
def i_i2l (nx : Nat) : PF := fun _ l st M => match st with | .inl a :: st => some (.inl (nx, l, .inr (.inl a) :: st, M)) | _ => none
def i_l2i (nx : Nat) : PF := fun _ l st M => match st with | .inr (.inl a) :: st => some (.inl (nx, l, .inl (wr a) :: st, M)) | _ => none
def i_dup (nx : Nat) : PF := fun _ l st M => match st with
  | .inl a :: st => some (.inl (nx, l, .inl a :: .inl a :: st, M))
  | .inr (.inr a) :: st => some (.inl (nx, l, .inr (.inr a) :: .inr (.inr a) :: st, M))
  | _ => none
def i_pop (nx : Nat) : PF := fun _ l st M => match st with
  | .inl _ :: st => some (.inl (nx, l, st, M))
  | .inr (.inr _) :: st => some (.inl (nx, l, st, M))
  | _ => none
def i_dup2 (nx : Nat) : PF := fun _ l st M => match st with | .inl b :: .inr (.inr a) :: st => some (.inl (nx, l, .inl b :: .inr (.inr a) :: .inl b :: .inr (.inr a) :: st, M)) | _ => none
def i_go (tg : Nat) : PF := fun _ l st M => some (.inl (tg, l, st, M))
-- a branch: 'when the comparison holds then to y, else to n'
def i_if0 (y n : Nat) : PF := fun _ l st M => match st with | .inl a :: st => if a = 0 then some (.inl (y, l, st, M)) else some (.inl (n, l, st, M)) | _ => none
def i_ifl (y n : Nat) : PF := fun _ l st M => match st with | .inl a :: st => if a < 0 then some (.inl (y, l, st, M)) else some (.inl (n, l, st, M)) | _ => none
def i_ifg (y n : Nat) : PF := fun _ l st M => match st with | .inl a :: st => if 0 < a then some (.inl (y, l, st, M)) else some (.inl (n, l, st, M)) | _ => none
def i_ceq (y n : Nat) : PF := fun _ l st M => match st with | .inl b :: .inl a :: st => if a = b then some (.inl (y, l, st, M)) else some (.inl (n, l, st, M)) | _ => none
def i_clt (y n : Nat) : PF := fun _ l st M => match st with | .inl b :: .inl a :: st => if a < b then some (.inl (y, l, st, M)) else some (.inl (n, l, st, M)) | _ => none
def i_cgt (y n : Nat) : PF := fun _ l st M => match st with | .inl b :: .inl a :: st => if b < a then some (.inl (y, l, st, M)) else some (.inl (n, l, st, M)) | _ => none
def swt (a : Int) : List (Int × Nat) → Nat → Nat
  | [], d => d
  | (k, t) :: r, d => if a = k then t else swt a r d
def i_sw (cs : List (Int × Nat)) (d : Nat) : PF := fun _ l st M => match st with | .inl a :: st => some (.inl (swt a cs d, l, st, M)) | _ => none
-- fields: (class number, place)
def i_gI (ci k nx : Nat) : PF := fun _ l st M => match st with | .inr (.inr a) :: st => if kt a = ci then some (.inl (nx, l, .inl (M.1 a k) :: st, M)) else none | _ => none
def i_gL (ci k nx : Nat) : PF := fun _ l st M => match st with | .inr (.inr a) :: st => if kt a = ci then some (.inl (nx, l, .inr (.inl (M.1 a k)) :: st, M)) else none | _ => none
def i_gR (ci k nx : Nat) : PF := fun _ l st M => match st with
  | .inr (.inr a) :: st => if kt a = ci then (if M.2.2.1 = 1 then some (.inl (nx, l, .inr (.inr (rfC M.2.2.2.1 M.2.2.2.2 a k)) :: st, M)) else if M.1 a k = 1 then some (.inl (nx, l, .inr (.inr (rfC M.2.2.2.1 M.2.2.2.2 a k)) :: st, M)) else none) else none
  | _ => none
/-- a reference that changes: only while it is marked -/
def i_gV (ci k nx : Nat) : PF := fun _ l st M => match st with
  | .inr (.inr a) :: st => if kt a = ci then (if M.1 a k = 1 then some (.inl (nx, l, .inr (.inr (rfC M.2.2.2.1 M.2.2.2.2 a k)) :: st, M)) else none) else none
  | _ => none
def i_pI (ci k nx : Nat) : PF := fun _ l st M => match st with | .inl z :: .inr (.inr a) :: st => if kt a = ci then some (.inl (nx, l, st, up M.1 a k z, M.2)) else none | _ => none
def i_pZ (ci k nx : Nat) : PF := fun _ l st M => match st with | .inl z :: .inr (.inr a) :: st => if kt a = ci then (if z = 0 ∨ z = 1 then some (.inl (nx, l, st, up M.1 a k z, M.2)) else none) else none | _ => none
def i_pL (ci k nx : Nat) : PF := fun _ l st M => match st with | .inr (.inl z) :: .inr (.inr a) :: st => if kt a = ci then some (.inl (nx, l, st, up M.1 a k z, M.2)) else none | _ => none
/-- a reference that is written down: it is marked -/
def i_pR (ci k t nx : Nat) : PF := fun _ l st M => match st with
  | .inr (.inr v) :: .inr (.inr a) :: st => if kt a = ci then (if kt v = t then (if v = rfC M.2.2.2.1 M.2.2.2.2 a k then some (.inl (nx, l, st, up M.1 a k 1, M.2)) else none) else none) else none
  | _ => none
/-- the two references that change for good: the plan in use, the plan to spare -/
def i_pE (ci k t nx : Nat) : PF := fun _ l st M => match st with
  | .inr (.inr v) :: .inr (.inr a) :: st => if a = enC ∧ ci = 3 ∧ k = 0 then (if kt v = t then some (.inl (nx, l, st, M.1, (M.2.1, M.2.2.1, v, M.2.2.2.2))) else none) else none
  | _ => none
def i_pS (ci k t nx : Nat) : PF := fun _ l st M => match st with
  | .inr (.inr v) :: .inr (.inr a) :: st => if a = maC ∧ ci = 11 ∧ k = 1 then (if kt v = t then some (.inl (nx, l, st, M.1, (M.2.1, M.2.2.1, M.2.2.2.1, v))) else none) else none
  | _ => none
-- arrays: of the kind t
def i_aI (t nx : Nat) : PF := fun _ l st M => match st with | .inl i :: .inr (.inr a) :: st => if kt a = t then (if 0 ≤ i ∧ i < kl a then some (.inl (nx, l, .inl (M.1 a i.toNat) :: st, M)) else none) else none | _ => none
def i_aL (nx : Nat) : PF := fun _ l st M => match st with | .inl i :: .inr (.inr a) :: st => if kt a = 21 then (if 0 ≤ i ∧ i < kl a then some (.inl (nx, l, .inr (.inl (M.1 a i.toNat)) :: st, M)) else none) else none | _ => none
def i_aR (nx : Nat) : PF := fun _ l st M => match st with
  | .inl i :: .inr (.inr a) :: st => if kt a = 24 then (if 0 ≤ i ∧ i < kl a then (if M.2.2.1 = 1 then some (.inl (nx, l, .inr (.inr (rfC M.2.2.2.1 M.2.2.2.2 a i.toNat)) :: st, M)) else none) else none) else none
  | _ => none
def i_sI (nx : Nat) : PF := fun _ l st M => match st with | .inl z :: .inl i :: .inr (.inr a) :: st => if kt a = 20 then (if 0 ≤ i ∧ i < kl a then some (.inl (nx, l, st, up M.1 a i.toNat z, M.2)) else none) else none | _ => none
def i_sLn (nx : Nat) : PF := fun _ l st M => match st with | .inr (.inl z) :: .inl i :: .inr (.inr a) :: st => if kt a = 21 then (if 0 ≤ i ∧ i < kl a then some (.inl (nx, l, st, up M.1 a i.toNat z, M.2)) else none) else none | _ => none
def i_sC (nx : Nat) : PF := fun _ l st M => match st with | .inl z :: .inl i :: .inr (.inr a) :: st => if kt a = 22 then (if 0 ≤ i ∧ i < kl a then (if 0 ≤ z ∧ z < 128 then some (.inl (nx, l, st, up M.1 a i.toNat z, M.2)) else none) else none) else none | _ => none
def i_sZ (nx : Nat) : PF := fun _ l st M => match st with | .inl z :: .inl i :: .inr (.inr a) :: st => if kt a = 23 then (if 0 ≤ i ∧ i < kl a then (if z = 0 ∨ z = 1 then some (.inl (nx, l, st, up M.1 a i.toNat z, M.2)) else none) else none) else none | _ => none
def i_sR (nx : Nat) : PF := fun _ l st M => match st with
  | .inr (.inr v) :: .inl i :: .inr (.inr a) :: st => if kt a = 24 then (if 0 ≤ i ∧ i < kl a then (if kt v = 9 then (if v = rfC M.2.2.2.1 M.2.2.2.2 a i.toNat then some (.inl (nx, l, st, up M.1 a i.toNat 1, M.2)) else none) else none) else none) else none
  | _ => none
def i_len (nx : Nat) : PF := fun _ l st M => match st with | .inr (.inr a) :: st => if 20 ≤ kt a ∧ kt a ≤ 24 then some (.inl (nx, l, .inl (kl a) :: st, M)) else none | _ => none
-- making
def i_new (ci nx : Nat) : PF := fun _ l st M => if M.2.2.1 = 0 then (if kt M.2.1 = ci then some (.inl (nx, l, .inr (.inr M.2.1) :: st, M.1, (M.2.1 + 1, M.2.2))) else none) else none
def i_nwa (t nx : Nat) : PF := fun _ l st M => match st with
  | .inl z :: st => if M.2.2.1 = 0 then (if kt M.2.1 = t then (if z = kl M.2.1 then some (.inl (nx, l, .inr (.inr M.2.1) :: st, M.1, (M.2.1 + 1, M.2.2))) else none) else none) else none
  | _ => none
def i_obj (nx : Nat) : PF := fun _ l st M => match st with | [.inr (.inr _)] => some (.inl (nx, l, [], M)) | _ => none
-- calls: the number of the class that the receiver must be of (99: none), the method, how many arguments
def hdR : List PV → Nat
  | .inr (.inr b) :: _ => b
  | _ => 0
def crI (o : PO) (k : Nat) (a : List PV) (M : PM) (nx : Nat) (l : PL) (rest : List PV) : Option (PS ⊕ PRes) := match o k a M with
  | some (some (.inl z), M') => if M.2.2.1 = 0 then (if M.2.1 ≤ M'.2.1 ∧ M'.2.2 = M.2.2 then some (.inl (nx, l, .inl z :: rest, M')) else none) else if M'.2 = M.2 then some (.inl (nx, l, .inl z :: rest, M'.1, M.2)) else none
  | _ => none
def crL (o : PO) (k : Nat) (a : List PV) (M : PM) (nx : Nat) (l : PL) (rest : List PV) : Option (PS ⊕ PRes) := match o k a M with
  | some (some (.inr (.inl z)), M') => if M'.2 = M.2 then some (.inl (nx, l, .inr (.inl z) :: rest, M'.1, M.2)) else none
  | _ => none
def crV (o : PO) (k : Nat) (a : List PV) (M : PM) (nx : Nat) (l : PL) (rest : List PV) : Option (PS ⊕ PRes) := match o k a M with
  | some (none, M') => if M.2.2.1 = 0 then (if M.2.1 ≤ M'.2.1 ∧ M'.2.2 = M.2.2 then some (.inl (nx, l, rest, M')) else none) else if M'.2 = M.2 then some (.inl (nx, l, rest, M'.1, M.2)) else none
  | _ => none
/-- a call that may change the two references -/
def crW (o : PO) (k : Nat) (a : List PV) (M : PM) (nx : Nat) (l : PL) (rest : List PV) : Option (PS ⊕ PRes) := match o k a M with
  | some (none, M') => if M'.2.1 = M.2.1 ∧ M'.2.2.1 = M.2.2.1 then some (.inl (nx, l, rest, M')) else none
  | _ => none
def i_ca (cr : PO → Nat → List PV → PM → Nat → PL → List PV → Option (PS ⊕ PRes)) (ci k n nl nx : Nat) : PF := fun o l st M => if nl < ((st.take n).map pcat).sum then none else if 8 < ((st.drop n).map pcat).sum then none else if st.length < n then none else if ci < 20 then (if kt (hdR (st.take n).reverse) = ci then cr o k (st.take n).reverse M nx l (st.drop n) else none) else cr o k (st.take n).reverse M nx l (st.drop n)
-- the JDK's own
def i_m2 (f : Int → Int → Int) (nx : Nat) : PF := fun o l st M => if 8 < st.length then none else i_b2 f nx o l st M
def i_m2L (f : Int → Int → Int) (nx : Nat) : PF := fun o l st M => if 8 < st.length then none else i_b2L f nx o l st M
def cpy (S : MS) (a b : Nat) (sp dp n : Int) : MS := fun c k => if c = b then (if dp ≤ k ∧ (k : Int) < dp + n then S a (sp + (k - dp)).toNat else S c k) else S c k
def i_cpy (nx : Nat) : PF := fun _ l st M => if 12 < st.length then none else match st with
  | .inl n :: .inl dp :: .inr (.inr b) :: .inl sp :: .inr (.inr a) :: st =>
    if kt a = kt b ∧ (kt a = 20 ∨ kt a = 21) ∧ a ≠ b then (if 0 ≤ sp ∧ 0 ≤ dp ∧ 0 ≤ n ∧ sp + n ≤ kl a ∧ dp + n ≤ kl b then some (.inl (nx, l, st, cpy M.1 a b sp dp n, M.2)) else none) else none
  | _ => none
def i_sln (nx : Nat) : PF := fun _ l st M => if 5 < st.length then none else match st with | .inr (.inr a) :: st => if a = 999 then some (.inl (nx, l, .inl (stC.length : Nat) :: st, M)) else none | _ => none
def i_sch (nx : Nat) : PF := fun _ l st M => if 6 < st.length then none else match st with | .inl i :: .inr (.inr a) :: st => if a = 999 then (if 0 ≤ i ∧ i < (stC.length : Nat) then some (.inl (nx, l, .inl (stC.getD i.toNat 0) :: st, M)) else none) else none | _ => none
-- the end
def i_rtI : PF := fun _ _ st M => match st with | [.inl z] => some (.inr (some (.inl z), M)) | _ => none
def i_rtZ : PF := fun _ _ st M => match st with | [.inl z] => if z = 0 ∨ z = 1 then some (.inr (some (.inl z), M)) else none | _ => none
def i_rtL : PF := fun _ _ st M => match st with | [.inr (.inl z)] => some (.inr (some (.inr (.inl z)), M)) | _ => none
def i_rtV : PF := fun _ _ st M => match st with | [] => some (.inr (none, M)) | _ => none
