/-! THE START: the reference made, step by step -/
def mis0 : MS := fun _ _ => 0
def mis1 : MS := up (up (up (up (up mis0 401 0 1) 401 8 (-1)) 401 9 1) 404 0 111) 404 1 102
def mis2 : MS := up (up (up (up (up (up mis1 404 2 102) 404 3 105) 404 4 99) 404 5 101) 404 6 114) 401 11 1
def mis3 : MS := up (up (up (up (up (up mis2 405 0 115) 405 1 104) 405 2 97) 405 3 112) 405 4 101) 401 12 1
def mis4 : MS := up (up (up (up (up (up mis3 406 0 112) 406 1 114) 406 2 101) 406 3 115) 406 4 115) 401 13 1
def mis5 : MS := up (up (up (up (up (up mis4 407 0 102) 407 1 101) 407 2 101) 407 3 108) 407 4 105) 407 5 110
def mis6 : MS := up (up (up (up (up (up mis5 407 6 103) 401 14 1) 408 0 99) 408 1 97) 408 2 114) 408 3 98
def mis7 : MS := up (up (up (up (up (up mis6 408 4 111) 408 5 110) 401 15 1) 409 0 116) 409 1 111) 401 16 1
def mis8 : MS := up (up (up (up (up (up mis7 410 0 115) 410 1 104) 410 2 101) 410 3 101) 410 4 116) 410 5 115
def mis9 : MS := up (up (up (up (up (up mis8 401 17 1) 411 0 102) 411 1 101) 411 2 108) 411 3 116) 401 18 1
def mis10 : MS := up (up (up (up (up (up mis9 412 0 111) 412 1 102) 401 19 1) 413 0 105) 413 1 115) 401 20 1
def mis11 : MS := up (up (up (up (up (up mis10 414 0 112) 414 1 97) 414 2 115) 414 3 115) 414 4 101) 414 5 115
def mis12 : MS := up (up (up (up (up (up mis11 401 21 1) 415 0 102) 415 1 97) 415 2 100) 415 3 101) 415 4 115
def mis13 : MS := up (up (up (up (up (up mis12 401 22 1) 416 0 97) 416 1 99) 416 2 116) 416 3 115) 401 23 1
def mis14 : MS := up (up (up (up (up (up mis13 417 0 115) 417 1 108) 417 2 105) 417 3 112) 401 24 1) 418 0 115
def mis15 : MS := up (up (up (up (up (up mis14 418 1 116) 418 2 114) 418 3 101) 418 4 110) 418 5 103) 418 6 116
def mis16 : MS := up (up (up (up (up (up mis15 418 7 104) 401 25 1) 419 0 100) 419 1 97) 419 2 121) 401 26 1
def mis17 : MS := up (up (up (up (up (up mis16 420 0 102) 420 1 101) 420 2 101) 420 3 108) 401 27 1) 421 0 110
def mis18 : MS := up (up (up (up (up (up mis17 421 1 117) 421 2 109) 421 3 98) 421 4 101) 421 5 114) 401 28 1
def mis19 : MS := up (up (up (up (up (up mis18 422 0 102) 422 1 101) 422 2 101) 422 3 108) 422 4 115) 401 29 1
def mis20 : MS := up (up (up (up (up (up mis19 423 0 115) 423 1 116) 423 2 101) 423 3 112) 423 4 115) 401 30 1
def mis21 : MS := up (up (up (up (up (up mis20 424 0 111) 424 1 114) 401 31 1) 425 0 97) 425 1 110) 425 2 100
def mis22 : MS := up (up (up (up (up (up mis21 401 32 1) 426 0 110) 426 1 111) 426 2 116) 401 33 1) 427 0 97
def mis23 : MS := up (up (up (up (up (up mis22 427 1 108) 427 2 108) 401 34 1) 428 0 109) 428 1 105) 428 2 110
def mis24 : MS := up (up (up (up (up (up mis23 401 35 1) 429 0 109) 429 1 97) 429 2 120) 401 36 1) 401 38 1
def mis25 : MS := up (up (up (up (up (up mis24 401 39 1) 401 40 1) 401 41 1) 401 42 1) 435 0 (-1)) 435 1 (-1)
def mis26 : MS := up (up (up (up (up (up mis25 435 2 (-1)) 435 3 (-1)) 435 4 (-1)) 435 5 (-1)) 401 43 1) 401 44 1
def mis27 : MS := up (up (up (up (up (up mis26 401 45 1) 401 49 1) 401 50 1) 401 58 1) 401 59 1) 401 60 1
def mis28 : MS := up (up (up (up (up (up mis27 401 61 1) 401 62 1) 401 63 1) 401 65 1) 401 66 1) 401 68 1
def mis29 : MS := up (up (up (up (up (up mis28 401 69 1) 401 70 1) 401 73 1) 451 0 102) 451 1 105) 451 2 114
def mis30 : MS := up (up (up (up (up (up mis29 451 3 115) 451 4 116) 401 74 1) 452 0 108) 452 1 97) 452 2 115
def mis31 : MS := up (up (up (up (up (up mis30 452 3 116) 401 75 1) 453 0 111) 453 1 102) 453 2 116) 453 3 101
def mis32 : MS := up (up (up (up (up (up mis31 453 4 110) 401 76 1) 454 0 116) 454 1 111) 454 2 116) 454 3 97
def mis33 : MS := up (up (up (up (up (up (up mis32 454 4 108) 401 77 1) 455 0 109) 455 1 111) 455 2 115) 455 3 116) 401 78 1
def mis34 : MS := up (up (up (up (up (up mis33 456 0 108) 456 1 101) 456 2 97) 456 3 115) 456 4 116) 401 79 1
def mis35 : MS := up (up (up (up (up mis34 457 0 110) 457 1 111) 457 2 116) 401 80 1) 458 0 97
def mis36 : MS := up (up (up (up (up (up mis35 458 1 110) 458 2 100) 401 81 1) 459 0 111) 459 1 114) 401 82 1
def mis37 : MS := up (up (up (up (up (up mis36 460 0 97) 460 1 108) 460 2 108) 401 83 1) 461 0 109) 461 1 105
def mis38 : MS := up (up (up (up (up (up mis37 461 2 110) 401 84 1) 462 0 109) 462 1 97) 462 2 120) 401 85 1
def mis39 : MS := up (up (up (up (up (up mis38 463 0 112) 463 1 114) 463 2 101) 463 3 115) 463 4 115) 401 86 1
def mis40 : MS := up (up (up (up (up (up mis39 464 0 115) 464 1 104) 464 2 97) 464 3 112) 464 4 101) 401 87 1
def mis41 : MS := up (up (up (up (up (up mis40 465 0 100) 465 1 97) 465 2 121) 401 88 1) 466 0 115) 466 1 116
def mis42 : MS := up (up (up (up (up (up (up mis41 466 2 114) 466 3 101) 466 4 110) 466 5 103) 466 6 116) 466 7 104) 401 89 1
def mis43 : MS := up (up (up (up (up mis42 467 0 115) 467 1 104) 467 2 101) 467 3 101) 467 4 116
def mis44 : MS := up (up (up (up (up (up (up mis43 467 5 115) 401 90 1) 468 0 102) 468 1 101) 468 2 101) 468 3 108) 401 91 1
def mis45 : MS := up (up (up (up (up mis44 469 0 102) 469 1 101) 469 2 101) 469 3 108) 469 4 105
def mis46 : MS := up (up (up (up (up (up mis45 469 5 110) 469 6 103) 401 92 1) 470 0 110) 470 1 117) 470 2 109
def mis47 : MS := up (up (up (up (up (up mis46 470 3 98) 470 4 101) 470 5 114) 401 93 1) 471 0 102) 471 1 101
def mis48 : MS := up (up (up (up (up (up mis47 471 2 101) 471 3 108) 471 4 115) 401 94 1) 472 0 115) 472 1 116
def mis49 : MS := up (up (up (up (up (up (up mis48 472 2 101) 472 3 112) 472 4 115) 401 95 1) 401 96 1) 401 98 1) 401 102 1
def mis50 : MS := up mis49 401 106 1
set_option maxRecDepth 100000 in
theorem mic1 : call 221 [vr 401] (mis0, (402, 0, 0, 0)) = some (none, (mis50, (477, 0, 0, 0))) := by
  show RN tb_221 (TT 221) (0, [(0, vr 401)], [], mis0, (402, 0, 0, 0)) = _
  refine Eq.trans (it_RN 24 (402, 0, 0, 0) 0 [(0, vr 401)] [] mis0 (41, [(0, vr 401)], [vr 404, vr 401], mis1, (405, 0, 0, 0)) rfl) ?_
  refine Eq.trans (it_RN 24 (405, 0, 0, 0) 41 [(0, vr 401)] [vr 404, vr 401] mis1 (74, [(0, vr 401)], [vr 405, vr 401], mis2, (406, 0, 0, 0)) rfl) ?_
  refine Eq.trans (it_RN 24 (406, 0, 0, 0) 74 [(0, vr 401)] [vr 405, vr 401] mis2 (106, [(0, vr 401)], [vr 406, vr 401], mis3, (407, 0, 0, 0)) rfl) ?_
  refine Eq.trans (it_RN 24 (407, 0, 0, 0) 106 [(0, vr 401)] [vr 406, vr 401] mis3 (139, [(0, vr 401)], [vr 407, vr 401], mis4, (408, 0, 0, 0)) rfl) ?_
  refine Eq.trans (it_RN 24 (408, 0, 0, 0) 139 [(0, vr 401)] [vr 407, vr 401] mis4 (169, [(0, vr 401)], [vr 407, vr 401], mis5, (408, 0, 0, 0)) rfl) ?_
  refine Eq.trans (it_RN 24 (408, 0, 0, 0) 169 [(0, vr 401)] [vr 407, vr 401] mis5 (203, [(0, vr 401)], [vr 408, vr 401], mis6, (409, 0, 0, 0)) rfl) ?_
  refine Eq.trans (it_RN 24 (409, 0, 0, 0) 203 [(0, vr 401)] [vr 408, vr 401] mis6 (238, [(0, vr 401)], [vr 410, vr 401], mis7, (411, 0, 0, 0)) rfl) ?_
  refine Eq.trans (it_RN 24 (411, 0, 0, 0) 238 [(0, vr 401)] [vr 410, vr 401] mis7 (268, [(0, vr 401)], [vr 410, vr 401], mis8, (411, 0, 0, 0)) rfl) ?_
  refine Eq.trans (it_RN 24 (411, 0, 0, 0) 268 [(0, vr 401)] [vr 410, vr 401] mis8 (302, [(0, vr 401)], [vr 412, vr 401], mis9, (413, 0, 0, 0)) rfl) ?_
  refine Eq.trans (it_RN 24 (413, 0, 0, 0) 302 [(0, vr 401)] [vr 412, vr 401] mis9 (337, [(0, vr 401)], [vr 414, vr 401], mis10, (415, 0, 0, 0)) rfl) ?_
  refine Eq.trans (it_RN 24 (415, 0, 0, 0) 337 [(0, vr 401)] [vr 414, vr 401] mis10 (367, [(0, vr 401)], [vr 414, vr 401], mis11, (415, 0, 0, 0)) rfl) ?_
  refine Eq.trans (it_RN 24 (415, 0, 0, 0) 367 [(0, vr 401)] [vr 414, vr 401] mis11 (399, [(0, vr 401)], [vr 415, vr 401], mis12, (416, 0, 0, 0)) rfl) ?_
  refine Eq.trans (it_RN 24 (416, 0, 0, 0) 399 [(0, vr 401)] [vr 415, vr 401] mis12 (433, [(0, vr 401)], [vr 417, vr 401], mis13, (418, 0, 0, 0)) rfl) ?_
  refine Eq.trans (it_RN 24 (418, 0, 0, 0) 433 [(0, vr 401)] [vr 417, vr 401] mis13 (466, [(0, vr 401)], [vr 418, vr 401], mis14, (419, 0, 0, 0)) rfl) ?_
  refine Eq.trans (it_RN 24 (419, 0, 0, 0) 466 [(0, vr 401)] [vr 418, vr 401] mis14 (497, [(0, vr 401)], [vr 418, vr 401], mis15, (419, 0, 0, 0)) rfl) ?_
  refine Eq.trans (it_RN 24 (419, 0, 0, 0) 497 [(0, vr 401)] [vr 418, vr 401] mis15 (532, [(0, vr 401)], [vr 420, vr 401], mis16, (421, 0, 0, 0)) rfl) ?_
  refine Eq.trans (it_RN 24 (421, 0, 0, 0) 532 [(0, vr 401)] [vr 420, vr 401] mis16 (565, [(0, vr 401)], [vr 421, vr 401], mis17, (422, 0, 0, 0)) rfl) ?_
  refine Eq.trans (it_RN 24 (422, 0, 0, 0) 565 [(0, vr 401)] [vr 421, vr 401] mis17 (597, [(0, vr 401)], [vr 422, vr 401], mis18, (423, 0, 0, 0)) rfl) ?_
  refine Eq.trans (it_RN 24 (423, 0, 0, 0) 597 [(0, vr 401)] [vr 422, vr 401] mis18 (629, [(0, vr 401)], [vr 423, vr 401], mis19, (424, 0, 0, 0)) rfl) ?_
  refine Eq.trans (it_RN 24 (424, 0, 0, 0) 629 [(0, vr 401)] [vr 423, vr 401] mis19 (661, [(0, vr 401)], [vr 424, vr 401], mis20, (425, 0, 0, 0)) rfl) ?_
  refine Eq.trans (it_RN 24 (425, 0, 0, 0) 661 [(0, vr 401)] [vr 424, vr 401] mis20 (693, [(0, vr 401)], [vr 425, vr 401], mis21, (426, 0, 0, 0)) rfl) ?_
  refine Eq.trans (it_RN 24 (426, 0, 0, 0) 693 [(0, vr 401)] [vr 425, vr 401] mis21 (727, [(0, vr 401)], [vr 427, vr 401], mis22, (428, 0, 0, 0)) rfl) ?_
  refine Eq.trans (it_RN 24 (428, 0, 0, 0) 727 [(0, vr 401)] [vr 427, vr 401] mis22 (759, [(0, vr 401)], [vr 428, vr 401], mis23, (429, 0, 0, 0)) rfl) ?_
  refine Eq.trans (it_RN 24 (429, 0, 0, 0) 759 [(0, vr 401)] [vr 428, vr 401] mis23 (797, [(0, vr 401)], [vr 431, vr 401], mis24, (432, 0, 0, 0)) rfl) ?_
  refine Eq.trans (it_RN 24 (432, 0, 0, 0) 797 [(0, vr 401)] [vr 431, vr 401] mis24 (837, [(0, vr 401)], [vr 435, vr 401], mis25, (436, 0, 0, 0)) rfl) ?_
  refine Eq.trans (it_RN 24 (436, 0, 0, 0) 837 [(0, vr 401)] [vr 435, vr 401] mis25 (870, [(0, vr 401)], [vr 437, vr 401], mis26, (438, 0, 0, 0)) rfl) ?_
  refine Eq.trans (it_RN 24 (438, 0, 0, 0) 870 [(0, vr 401)] [vr 437, vr 401] mis26 (919, [(0, vr 401)], [vr 443, vr 401], mis27, (444, 0, 0, 0)) rfl) ?_
  refine Eq.trans (it_RN 24 (444, 0, 0, 0) 919 [(0, vr 401)] [vr 443, vr 401] mis27 (968, [(0, vr 401)], [vr 449, vr 401], mis28, (450, 0, 0, 0)) rfl) ?_
  refine Eq.trans (it_RN 24 (450, 0, 0, 0) 968 [(0, vr 401)] [vr 449, vr 401] mis28 (1005, [(0, vr 401)], [vr 451, vr 451, vr 401], mis29, (452, 0, 0, 0)) rfl) ?_
  refine Eq.trans (it_RN 24 (452, 0, 0, 0) 1005 [(0, vr 401)] [vr 451, vr 451, vr 401] mis29 (1037, [(0, vr 401)], [vr 452, vr 452, vr 401], mis30, (453, 0, 0, 0)) rfl) ?_
  refine Eq.trans (it_RN 24 (453, 0, 0, 0) 1037 [(0, vr 401)] [vr 452, vr 452, vr 401] mis30 (1069, [(0, vr 401)], [vr 453, vr 453, vr 401], mis31, (454, 0, 0, 0)) rfl) ?_
  refine Eq.trans (it_RN 24 (454, 0, 0, 0) 1069 [(0, vr 401)] [vr 453, vr 453, vr 401] mis31 (1101, [(0, vr 401)], [vr 454, vr 454, vr 401], mis32, (455, 0, 0, 0)) rfl) ?_
  refine Eq.trans (it_RN 24 (455, 0, 0, 0) 1101 [(0, vr 401)] [vr 454, vr 454, vr 401] mis32 (1135, [(0, vr 401)], [], mis33, (456, 0, 0, 0)) rfl) ?_
  refine Eq.trans (it_RN 24 (456, 0, 0, 0) 1135 [(0, vr 401)] [] mis33 (1167, [(0, vr 401)], [], mis34, (457, 0, 0, 0)) rfl) ?_
  refine Eq.trans (it_RN 24 (457, 0, 0, 0) 1167 [(0, vr 401)] [] mis34 (1199, [(0, vr 401)], [vr 458, vr 458, vr 401], mis35, (459, 0, 0, 0)) rfl) ?_
  refine Eq.trans (it_RN 24 (459, 0, 0, 0) 1199 [(0, vr 401)] [vr 458, vr 458, vr 401] mis35 (1233, [(0, vr 401)], [vr 460, vr 460, vr 401], mis36, (461, 0, 0, 0)) rfl) ?_
  refine Eq.trans (it_RN 24 (461, 0, 0, 0) 1233 [(0, vr 401)] [vr 460, vr 460, vr 401] mis36 (1265, [(0, vr 401)], [vr 461, vr 461, vr 401], mis37, (462, 0, 0, 0)) rfl) ?_
  refine Eq.trans (it_RN 24 (462, 0, 0, 0) 1265 [(0, vr 401)] [vr 461, vr 461, vr 401] mis37 (1299, [(0, vr 401)], [vr 463, vr 463, vr 401], mis38, (464, 0, 0, 0)) rfl) ?_
  refine Eq.trans (it_RN 24 (464, 0, 0, 0) 1299 [(0, vr 401)] [vr 463, vr 463, vr 401] mis38 (1331, [(0, vr 401)], [vr 464, vr 464, vr 401], mis39, (465, 0, 0, 0)) rfl) ?_
  refine Eq.trans (it_RN 24 (465, 0, 0, 0) 1331 [(0, vr 401)] [vr 464, vr 464, vr 401] mis39 (1363, [(0, vr 401)], [vr 465, vr 465, vr 401], mis40, (466, 0, 0, 0)) rfl) ?_
  refine Eq.trans (it_RN 24 (466, 0, 0, 0) 1363 [(0, vr 401)] [vr 465, vr 465, vr 401] mis40 (1396, [(0, vr 401)], [vr 466, vr 466, vr 401], mis41, (467, 0, 0, 0)) rfl) ?_
  refine Eq.trans (it_RN 24 (467, 0, 0, 0) 1396 [(0, vr 401)] [vr 466, vr 466, vr 401] mis41 (1430, [(0, vr 401)], [], mis42, (467, 0, 0, 0)) rfl) ?_
  refine Eq.trans (it_RN 24 (467, 0, 0, 0) 1430 [(0, vr 401)] [] mis42 (1461, [(0, vr 401)], [vr 467, vr 467, vr 401], mis43, (468, 0, 0, 0)) rfl) ?_
  refine Eq.trans (it_RN 24 (468, 0, 0, 0) 1461 [(0, vr 401)] [vr 467, vr 467, vr 401] mis43 (1495, [(0, vr 401)], [], mis44, (469, 0, 0, 0)) rfl) ?_
  refine Eq.trans (it_RN 24 (469, 0, 0, 0) 1495 [(0, vr 401)] [] mis44 (1526, [(0, vr 401)], [vr 469, vr 469, vr 401], mis45, (470, 0, 0, 0)) rfl) ?_
  refine Eq.trans (it_RN 24 (470, 0, 0, 0) 1526 [(0, vr 401)] [vr 469, vr 469, vr 401] mis45 (1560, [(0, vr 401)], [vr 470, vr 470, vr 401], mis46, (471, 0, 0, 0)) rfl) ?_
  refine Eq.trans (it_RN 24 (471, 0, 0, 0) 1560 [(0, vr 401)] [vr 470, vr 470, vr 401] mis46 (1592, [(0, vr 401)], [vr 471, vr 471, vr 401], mis47, (472, 0, 0, 0)) rfl) ?_
  refine Eq.trans (it_RN 24 (472, 0, 0, 0) 1592 [(0, vr 401)] [vr 471, vr 471, vr 401] mis47 (1624, [(0, vr 401)], [vr 472, vr 472, vr 401], mis48, (473, 0, 0, 0)) rfl) ?_
  refine Eq.trans (it_RN 24 (473, 0, 0, 0) 1624 [(0, vr 401)] [vr 472, vr 472, vr 401] mis48 (1668, [(0, vr 401)], [], mis49, (476, 0, 0, 0)) rfl) ?_
  refine Eq.trans (it_RN 4 (476, 0, 0, 0) 1668 [(0, vr 401)] [] mis49 (1676, [(0, vr 401)], [], mis50, (477, 0, 0, 0)) rfl) ?_
  exact RN_ret rfl
