/-! ===== the layout of the world behind the constructors: 117 cells ===== -/
-- 0: tag 11, length 0: SaidSo
-- 1: tag 7, length 0: Reader
-- 2: tag 10, length 0: Tokens
-- 3: tag 13, length 27: words
-- 4: tag 13, length 800: bytes
-- 5: tag 13, length 801: kinds
-- 6: tag 13, length 801: values
-- 7: tag 13, length 801: places
-- 8: tag 0, length 0: Case
-- 9: tag 9, length 0: Things
-- 10: tag 13, length 8: Things.name
-- 11: tag 13, length 8: Things.ways
-- 12: tag 13, length 8: Things.is
-- 13: tag 13, length 8: Things.paper
-- 14: tag 13, length 8: Things.police
-- 15: tag 8, length 0: Tellers
-- 16: tag 13, length 5: Tellers.name
-- 17: tag 13, length 5: Tellers.age
-- 18: tag 13, length 5: Tellers.begins
-- 19: tag 13, length 5: Tellers.ends
-- 20: tag 13, length 5: Tellers.tape
-- 21: tag 3, length 0: Lines
-- 22: tag 14, length 60: Lines.isWord
-- 23: tag 13, length 60: Lines.teller
-- 24: tag 13, length 60: Lines.hour
-- 25: tag 13, length 60: Lines.thing
-- 26: tag 13, length 60: Lines.value
-- 27: tag 6, length 0: Pages
-- 28: tag 13, length 20: Pages.teller
-- 29: tag 13, length 20: Pages.thing
-- 30: tag 13, length 20: Pages.value
-- 31: tag 13, length 20: Pages.saidAt
-- 32: tag 13, length 20: Pages.inOrder
-- 33: tag 2, length 0: Formula
-- 34: tag 13, length 64: Formula.knot
-- 35: tag 2, length 0: Formula
-- 36: tag 13, length 64: Formula.knot
-- 37: tag 2, length 0: Formula
-- 38: tag 13, length 64: Formula.knot
-- 39: tag 13, length 5: foes
-- 40: tag 13, length 9: telling
-- 41: tag 13, length 72: held
-- 42: tag 0, length 0: Case
-- 43: tag 9, length 0: Things
-- 44: tag 13, length 8: Things.name
-- 45: tag 13, length 8: Things.ways
-- 46: tag 13, length 8: Things.is
-- 47: tag 13, length 8: Things.paper
-- 48: tag 13, length 8: Things.police
-- 49: tag 8, length 0: Tellers
-- 50: tag 13, length 5: Tellers.name
-- 51: tag 13, length 5: Tellers.age
-- 52: tag 13, length 5: Tellers.begins
-- 53: tag 13, length 5: Tellers.ends
-- 54: tag 13, length 5: Tellers.tape
-- 55: tag 3, length 0: Lines
-- 56: tag 14, length 60: Lines.isWord
-- 57: tag 13, length 60: Lines.teller
-- 58: tag 13, length 60: Lines.hour
-- 59: tag 13, length 60: Lines.thing
-- 60: tag 13, length 60: Lines.value
-- 61: tag 6, length 0: Pages
-- 62: tag 13, length 20: Pages.teller
-- 63: tag 13, length 20: Pages.thing
-- 64: tag 13, length 20: Pages.value
-- 65: tag 13, length 20: Pages.saidAt
-- 66: tag 13, length 20: Pages.inOrder
-- 67: tag 2, length 0: Formula
-- 68: tag 13, length 64: Formula.knot
-- 69: tag 2, length 0: Formula
-- 70: tag 13, length 64: Formula.knot
-- 71: tag 2, length 0: Formula
-- 72: tag 13, length 64: Formula.knot
-- 73: tag 13, length 5: foes
-- 74: tag 13, length 9: telling
-- 75: tag 5, length 0: Odds
-- 76: tag 4, length 0: Names
-- 77: tag 13, length 10: Names.value
-- 78: tag 15, length 64: Names.values
-- 79: tag 1, length 0: Draws
-- 80: tag 13, length 8: Draws.ways
-- 81: tag 13, length 8: Draws.is
-- 82: tag 13, length 8: Draws.put
-- 83: tag 13, length 8: Draws.chance
-- 84: tag 12, length 0: Model
-- 85: tag 13, length 800: Model.tape
-- 86: tag 13, length 132: Model.words
-- 87: tag 13, length 16: Model.thingName
-- 88: tag 13, length 16: Model.ways
-- 89: tag 13, length 16: Model.isSo
-- 90: tag 13, length 16: Model.paper
-- 91: tag 13, length 16: Model.police
-- 92: tag 13, length 10: Model.tellerName
-- 93: tag 13, length 10: Model.age
-- 94: tag 13, length 10: Model.begins
-- 95: tag 13, length 10: Model.finishes
-- 96: tag 13, length 10: Model.taped
-- 97: tag 14, length 120: Model.isWord
-- 98: tag 13, length 120: Model.who
-- 99: tag 13, length 120: Model.hour
-- 100: tag 13, length 120: Model.thing
-- 101: tag 13, length 120: Model.value
-- 102: tag 13, length 40: Model.pageWho
-- 103: tag 13, length 40: Model.pageThing
-- 104: tag 13, length 40: Model.pageValue
-- 105: tag 13, length 6: Model.first
-- 106: tag 13, length 6: Model.last
-- 107: tag 13, length 128: Model.knot
-- 108: tag 13, length 128: Model.part
-- 109: tag 13, length 128: Model.other
-- 110: tag 13, length 96: Model.wait
-- 111: tag 13, length 96: Model.held
-- 112: tag 13, length 20: Model.said
-- 113: tag 13, length 20: Model.long1
-- 114: tag 15, length 10: Model.names
-- 115: tag 15, length 64: Model.worth
-- 116: tag 15, length 1: out
def zTg : List Nat := [11, 7, 10, 13, 13, 13, 13, 13, 0, 9, 13, 13, 13, 13, 13, 8, 13, 13, 13, 13, 13, 3, 14, 13, 13, 13, 13, 6, 13, 13, 13, 13, 13, 2, 13, 2, 13, 2, 13, 13, 13, 13, 0, 9, 13, 13, 13, 13, 13, 8, 13, 13, 13, 13, 13, 3, 14, 13, 13, 13, 13, 6, 13, 13, 13, 13, 13, 2, 13, 2, 13, 2, 13, 13, 13, 5, 4, 13, 15, 1, 13, 13, 13, 13, 12, 13, 13, 13, 13, 13, 13, 13, 13, 13, 13, 13, 13, 14, 13, 13, 13, 13, 13, 13, 13, 13, 13, 13, 13, 13, 13, 13, 13, 13, 15, 15, 15]
def zLn : List Int := [0, 0, 0, 27, 800, 801, 801, 801, 0, 0, 8, 8, 8, 8, 8, 0, 5, 5, 5, 5, 5, 0, 60, 60, 60, 60, 60, 0, 20, 20, 20, 20, 20, 0, 64, 0, 64, 0, 64, 5, 9, 72, 0, 0, 8, 8, 8, 8, 8, 0, 5, 5, 5, 5, 5, 0, 60, 60, 60, 60, 60, 0, 20, 20, 20, 20, 20, 0, 64, 0, 64, 0, 64, 5, 9, 0, 0, 10, 64, 0, 8, 8, 8, 8, 0, 800, 132, 16, 16, 16, 16, 16, 10, 10, 10, 10, 10, 120, 120, 120, 120, 120, 40, 40, 40, 6, 6, 128, 128, 128, 96, 96, 20, 20, 10, 64, 1]
def zTy (i : Nat) : Nat := zTg.getD i 99
def zLa (a : Int) : Int := zLn.getD a.toNat 0
abbrev zCc (c : Int) : Prop := c = 8 ∨ c = 42
abbrev LayC (M : zM) (c : Int) : Prop := M c 0 = c + 1 ∧ M (c + 1) 1 = c + 2 ∧ M (c + 1) 2 = c + 3 ∧ M (c + 1) 3 = c + 4 ∧ M (c + 1) 4 = c + 5 ∧ M (c + 1) 5 = c + 6 ∧ M c 1 = c + 7 ∧ M (c + 7) 1 = c + 8 ∧ M (c + 7) 2 = c + 9 ∧ M (c + 7) 3 = c + 10 ∧ M (c + 7) 4 = c + 11 ∧ M (c + 7) 5 = c + 12 ∧ M c 2 = c + 13 ∧ M (c + 13) 2 = c + 14 ∧ M (c + 13) 3 = c + 15 ∧ M (c + 13) 4 = c + 16 ∧ M (c + 13) 5 = c + 17 ∧ M (c + 13) 6 = c + 18 ∧ M c 3 = c + 19 ∧ M (c + 19) 1 = c + 20 ∧ M (c + 19) 2 = c + 21 ∧ M (c + 19) 3 = c + 22 ∧ M (c + 19) 4 = c + 23 ∧ M (c + 19) 5 = c + 24 ∧ M c 4 = c + 25 ∧ M (c + 25) 1 = c + 26 ∧ M c 5 = c + 27 ∧ M (c + 27) 1 = c + 28 ∧ M c 6 = c + 29 ∧ M (c + 29) 1 = c + 30 ∧ M c 11 = c + 31 ∧ M c 12 = c + 32
theorem lc_0_0 {M : zM} {c : Int} (h : LayC M c) : M c 0 = c + 1 := h.1
theorem lc_1_1 {M : zM} {c : Int} (h : LayC M c) : M (c + 1) 1 = c + 2 := h.2.1
theorem lc_1_2 {M : zM} {c : Int} (h : LayC M c) : M (c + 1) 2 = c + 3 := h.2.2.1
theorem lc_1_3 {M : zM} {c : Int} (h : LayC M c) : M (c + 1) 3 = c + 4 := h.2.2.2.1
theorem lc_1_4 {M : zM} {c : Int} (h : LayC M c) : M (c + 1) 4 = c + 5 := h.2.2.2.2.1
theorem lc_1_5 {M : zM} {c : Int} (h : LayC M c) : M (c + 1) 5 = c + 6 := h.2.2.2.2.2.1
theorem lc_0_1 {M : zM} {c : Int} (h : LayC M c) : M c 1 = c + 7 := h.2.2.2.2.2.2.1
theorem lc_7_1 {M : zM} {c : Int} (h : LayC M c) : M (c + 7) 1 = c + 8 := h.2.2.2.2.2.2.2.1
theorem lc_7_2 {M : zM} {c : Int} (h : LayC M c) : M (c + 7) 2 = c + 9 := h.2.2.2.2.2.2.2.2.1
theorem lc_7_3 {M : zM} {c : Int} (h : LayC M c) : M (c + 7) 3 = c + 10 := h.2.2.2.2.2.2.2.2.2.1
theorem lc_7_4 {M : zM} {c : Int} (h : LayC M c) : M (c + 7) 4 = c + 11 := h.2.2.2.2.2.2.2.2.2.2.1
theorem lc_7_5 {M : zM} {c : Int} (h : LayC M c) : M (c + 7) 5 = c + 12 := h.2.2.2.2.2.2.2.2.2.2.2.1
theorem lc_0_2 {M : zM} {c : Int} (h : LayC M c) : M c 2 = c + 13 := h.2.2.2.2.2.2.2.2.2.2.2.2.1
theorem lc_13_2 {M : zM} {c : Int} (h : LayC M c) : M (c + 13) 2 = c + 14 := h.2.2.2.2.2.2.2.2.2.2.2.2.2.1
theorem lc_13_3 {M : zM} {c : Int} (h : LayC M c) : M (c + 13) 3 = c + 15 := h.2.2.2.2.2.2.2.2.2.2.2.2.2.2.1
theorem lc_13_4 {M : zM} {c : Int} (h : LayC M c) : M (c + 13) 4 = c + 16 := h.2.2.2.2.2.2.2.2.2.2.2.2.2.2.2.1
theorem lc_13_5 {M : zM} {c : Int} (h : LayC M c) : M (c + 13) 5 = c + 17 := h.2.2.2.2.2.2.2.2.2.2.2.2.2.2.2.2.1
theorem lc_13_6 {M : zM} {c : Int} (h : LayC M c) : M (c + 13) 6 = c + 18 := h.2.2.2.2.2.2.2.2.2.2.2.2.2.2.2.2.2.1
theorem lc_0_3 {M : zM} {c : Int} (h : LayC M c) : M c 3 = c + 19 := h.2.2.2.2.2.2.2.2.2.2.2.2.2.2.2.2.2.2.1
theorem lc_19_1 {M : zM} {c : Int} (h : LayC M c) : M (c + 19) 1 = c + 20 := h.2.2.2.2.2.2.2.2.2.2.2.2.2.2.2.2.2.2.2.1
theorem lc_19_2 {M : zM} {c : Int} (h : LayC M c) : M (c + 19) 2 = c + 21 := h.2.2.2.2.2.2.2.2.2.2.2.2.2.2.2.2.2.2.2.2.1
theorem lc_19_3 {M : zM} {c : Int} (h : LayC M c) : M (c + 19) 3 = c + 22 := h.2.2.2.2.2.2.2.2.2.2.2.2.2.2.2.2.2.2.2.2.2.1
theorem lc_19_4 {M : zM} {c : Int} (h : LayC M c) : M (c + 19) 4 = c + 23 := h.2.2.2.2.2.2.2.2.2.2.2.2.2.2.2.2.2.2.2.2.2.2.1
theorem lc_19_5 {M : zM} {c : Int} (h : LayC M c) : M (c + 19) 5 = c + 24 := h.2.2.2.2.2.2.2.2.2.2.2.2.2.2.2.2.2.2.2.2.2.2.2.1
theorem lc_0_4 {M : zM} {c : Int} (h : LayC M c) : M c 4 = c + 25 := h.2.2.2.2.2.2.2.2.2.2.2.2.2.2.2.2.2.2.2.2.2.2.2.2.1
theorem lc_25_1 {M : zM} {c : Int} (h : LayC M c) : M (c + 25) 1 = c + 26 := h.2.2.2.2.2.2.2.2.2.2.2.2.2.2.2.2.2.2.2.2.2.2.2.2.2.1
theorem lc_0_5 {M : zM} {c : Int} (h : LayC M c) : M c 5 = c + 27 := h.2.2.2.2.2.2.2.2.2.2.2.2.2.2.2.2.2.2.2.2.2.2.2.2.2.2.1
theorem lc_27_1 {M : zM} {c : Int} (h : LayC M c) : M (c + 27) 1 = c + 28 := h.2.2.2.2.2.2.2.2.2.2.2.2.2.2.2.2.2.2.2.2.2.2.2.2.2.2.2.1
theorem lc_0_6 {M : zM} {c : Int} (h : LayC M c) : M c 6 = c + 29 := h.2.2.2.2.2.2.2.2.2.2.2.2.2.2.2.2.2.2.2.2.2.2.2.2.2.2.2.2.1
theorem lc_29_1 {M : zM} {c : Int} (h : LayC M c) : M (c + 29) 1 = c + 30 := h.2.2.2.2.2.2.2.2.2.2.2.2.2.2.2.2.2.2.2.2.2.2.2.2.2.2.2.2.2.1
theorem lc_0_11 {M : zM} {c : Int} (h : LayC M c) : M c 11 = c + 31 := h.2.2.2.2.2.2.2.2.2.2.2.2.2.2.2.2.2.2.2.2.2.2.2.2.2.2.2.2.2.2.1
theorem lc_0_12 {M : zM} {c : Int} (h : LayC M c) : M c 12 = c + 32 := h.2.2.2.2.2.2.2.2.2.2.2.2.2.2.2.2.2.2.2.2.2.2.2.2.2.2.2.2.2.2.2
abbrev LayO (M : zM) : Prop := M 1 0 = 2 ∧ M 0 0 = 1 ∧ M 2 0 = 3 ∧ M 2 1 = 4 ∧ M 2 6 = 5 ∧ M 2 7 = 6 ∧ M 2 8 = 7 ∧ M 1 5 = 41 ∧ M 0 5 = 75 ∧ M 0 6 = 76 ∧ M 76 0 = 77 ∧ M 76 1 = 78 ∧ M 0 7 = 79 ∧ M 79 3 = 80 ∧ M 79 4 = 81 ∧ M 79 5 = 82 ∧ M 79 6 = 83
theorem lo_1_0 {M : zM} (h : LayO M) : M 1 0 = 2 := h.1
theorem lo_0_0 {M : zM} (h : LayO M) : M 0 0 = 1 := h.2.1
theorem lo_2_0 {M : zM} (h : LayO M) : M 2 0 = 3 := h.2.2.1
theorem lo_2_1 {M : zM} (h : LayO M) : M 2 1 = 4 := h.2.2.2.1
theorem lo_2_6 {M : zM} (h : LayO M) : M 2 6 = 5 := h.2.2.2.2.1
theorem lo_2_7 {M : zM} (h : LayO M) : M 2 7 = 6 := h.2.2.2.2.2.1
theorem lo_2_8 {M : zM} (h : LayO M) : M 2 8 = 7 := h.2.2.2.2.2.2.1
theorem lo_1_5 {M : zM} (h : LayO M) : M 1 5 = 41 := h.2.2.2.2.2.2.2.1
theorem lo_0_5 {M : zM} (h : LayO M) : M 0 5 = 75 := h.2.2.2.2.2.2.2.2.1
theorem lo_0_6 {M : zM} (h : LayO M) : M 0 6 = 76 := h.2.2.2.2.2.2.2.2.2.1
theorem lo_76_0 {M : zM} (h : LayO M) : M 76 0 = 77 := h.2.2.2.2.2.2.2.2.2.2.1
theorem lo_76_1 {M : zM} (h : LayO M) : M 76 1 = 78 := h.2.2.2.2.2.2.2.2.2.2.2.1
theorem lo_0_7 {M : zM} (h : LayO M) : M 0 7 = 79 := h.2.2.2.2.2.2.2.2.2.2.2.2.1
theorem lo_79_3 {M : zM} (h : LayO M) : M 79 3 = 80 := h.2.2.2.2.2.2.2.2.2.2.2.2.2.1
theorem lo_79_4 {M : zM} (h : LayO M) : M 79 4 = 81 := h.2.2.2.2.2.2.2.2.2.2.2.2.2.2.1
theorem lo_79_5 {M : zM} (h : LayO M) : M 79 5 = 82 := h.2.2.2.2.2.2.2.2.2.2.2.2.2.2.2.1
theorem lo_79_6 {M : zM} (h : LayO M) : M 79 6 = 83 := h.2.2.2.2.2.2.2.2.2.2.2.2.2.2.2.2
abbrev LayR (M : zM) : Prop := M 84 0 = 85 ∧ M 84 3 = 86 ∧ M 84 21 = 87 ∧ M 84 22 = 88 ∧ M 84 23 = 89 ∧ M 84 24 = 90 ∧ M 84 25 = 91 ∧ M 84 26 = 92 ∧ M 84 27 = 93 ∧ M 84 28 = 94 ∧ M 84 29 = 95 ∧ M 84 30 = 96 ∧ M 84 31 = 97 ∧ M 84 32 = 98 ∧ M 84 33 = 99 ∧ M 84 34 = 100 ∧ M 84 35 = 101 ∧ M 84 36 = 102 ∧ M 84 37 = 103 ∧ M 84 38 = 104 ∧ M 84 39 = 105 ∧ M 84 40 = 106 ∧ M 84 41 = 107 ∧ M 84 42 = 108 ∧ M 84 43 = 109 ∧ M 84 50 = 110 ∧ M 84 51 = 111 ∧ M 84 60 = 112 ∧ M 84 61 = 113 ∧ M 84 62 = 114 ∧ M 84 63 = 115
theorem lr_0 {M : zM} (h : LayR M) : M 84 0 = 85 := h.1
theorem lr_3 {M : zM} (h : LayR M) : M 84 3 = 86 := h.2.1
theorem lr_21 {M : zM} (h : LayR M) : M 84 21 = 87 := h.2.2.1
theorem lr_22 {M : zM} (h : LayR M) : M 84 22 = 88 := h.2.2.2.1
theorem lr_23 {M : zM} (h : LayR M) : M 84 23 = 89 := h.2.2.2.2.1
theorem lr_24 {M : zM} (h : LayR M) : M 84 24 = 90 := h.2.2.2.2.2.1
theorem lr_25 {M : zM} (h : LayR M) : M 84 25 = 91 := h.2.2.2.2.2.2.1
theorem lr_26 {M : zM} (h : LayR M) : M 84 26 = 92 := h.2.2.2.2.2.2.2.1
theorem lr_27 {M : zM} (h : LayR M) : M 84 27 = 93 := h.2.2.2.2.2.2.2.2.1
theorem lr_28 {M : zM} (h : LayR M) : M 84 28 = 94 := h.2.2.2.2.2.2.2.2.2.1
theorem lr_29 {M : zM} (h : LayR M) : M 84 29 = 95 := h.2.2.2.2.2.2.2.2.2.2.1
theorem lr_30 {M : zM} (h : LayR M) : M 84 30 = 96 := h.2.2.2.2.2.2.2.2.2.2.2.1
theorem lr_31 {M : zM} (h : LayR M) : M 84 31 = 97 := h.2.2.2.2.2.2.2.2.2.2.2.2.1
theorem lr_32 {M : zM} (h : LayR M) : M 84 32 = 98 := h.2.2.2.2.2.2.2.2.2.2.2.2.2.1
theorem lr_33 {M : zM} (h : LayR M) : M 84 33 = 99 := h.2.2.2.2.2.2.2.2.2.2.2.2.2.2.1
theorem lr_34 {M : zM} (h : LayR M) : M 84 34 = 100 := h.2.2.2.2.2.2.2.2.2.2.2.2.2.2.2.1
theorem lr_35 {M : zM} (h : LayR M) : M 84 35 = 101 := h.2.2.2.2.2.2.2.2.2.2.2.2.2.2.2.2.1
theorem lr_36 {M : zM} (h : LayR M) : M 84 36 = 102 := h.2.2.2.2.2.2.2.2.2.2.2.2.2.2.2.2.2.1
theorem lr_37 {M : zM} (h : LayR M) : M 84 37 = 103 := h.2.2.2.2.2.2.2.2.2.2.2.2.2.2.2.2.2.2.1
theorem lr_38 {M : zM} (h : LayR M) : M 84 38 = 104 := h.2.2.2.2.2.2.2.2.2.2.2.2.2.2.2.2.2.2.2.1
theorem lr_39 {M : zM} (h : LayR M) : M 84 39 = 105 := h.2.2.2.2.2.2.2.2.2.2.2.2.2.2.2.2.2.2.2.2.1
theorem lr_40 {M : zM} (h : LayR M) : M 84 40 = 106 := h.2.2.2.2.2.2.2.2.2.2.2.2.2.2.2.2.2.2.2.2.2.1
theorem lr_41 {M : zM} (h : LayR M) : M 84 41 = 107 := h.2.2.2.2.2.2.2.2.2.2.2.2.2.2.2.2.2.2.2.2.2.2.1
theorem lr_42 {M : zM} (h : LayR M) : M 84 42 = 108 := h.2.2.2.2.2.2.2.2.2.2.2.2.2.2.2.2.2.2.2.2.2.2.2.1
theorem lr_43 {M : zM} (h : LayR M) : M 84 43 = 109 := h.2.2.2.2.2.2.2.2.2.2.2.2.2.2.2.2.2.2.2.2.2.2.2.2.1
theorem lr_50 {M : zM} (h : LayR M) : M 84 50 = 110 := h.2.2.2.2.2.2.2.2.2.2.2.2.2.2.2.2.2.2.2.2.2.2.2.2.2.1
theorem lr_51 {M : zM} (h : LayR M) : M 84 51 = 111 := h.2.2.2.2.2.2.2.2.2.2.2.2.2.2.2.2.2.2.2.2.2.2.2.2.2.2.1
theorem lr_60 {M : zM} (h : LayR M) : M 84 60 = 112 := h.2.2.2.2.2.2.2.2.2.2.2.2.2.2.2.2.2.2.2.2.2.2.2.2.2.2.2.1
theorem lr_61 {M : zM} (h : LayR M) : M 84 61 = 113 := h.2.2.2.2.2.2.2.2.2.2.2.2.2.2.2.2.2.2.2.2.2.2.2.2.2.2.2.2.1
theorem lr_62 {M : zM} (h : LayR M) : M 84 62 = 114 := h.2.2.2.2.2.2.2.2.2.2.2.2.2.2.2.2.2.2.2.2.2.2.2.2.2.2.2.2.2.1
theorem lr_63 {M : zM} (h : LayR M) : M 84 63 = 115 := h.2.2.2.2.2.2.2.2.2.2.2.2.2.2.2.2.2.2.2.2.2.2.2.2.2.2.2.2.2.2
theorem la_c2 {c : Int} (h : zCc c) : zLa (c + 2) = 8 := by rcases h with rfl | rfl <;> rfl
theorem la_c3 {c : Int} (h : zCc c) : zLa (c + 3) = 8 := by rcases h with rfl | rfl <;> rfl
theorem la_c4 {c : Int} (h : zCc c) : zLa (c + 4) = 8 := by rcases h with rfl | rfl <;> rfl
theorem la_c5 {c : Int} (h : zCc c) : zLa (c + 5) = 8 := by rcases h with rfl | rfl <;> rfl
theorem la_c6 {c : Int} (h : zCc c) : zLa (c + 6) = 8 := by rcases h with rfl | rfl <;> rfl
theorem la_c8 {c : Int} (h : zCc c) : zLa (c + 8) = 5 := by rcases h with rfl | rfl <;> rfl
theorem la_c9 {c : Int} (h : zCc c) : zLa (c + 9) = 5 := by rcases h with rfl | rfl <;> rfl
theorem la_c10 {c : Int} (h : zCc c) : zLa (c + 10) = 5 := by rcases h with rfl | rfl <;> rfl
theorem la_c11 {c : Int} (h : zCc c) : zLa (c + 11) = 5 := by rcases h with rfl | rfl <;> rfl
theorem la_c12 {c : Int} (h : zCc c) : zLa (c + 12) = 5 := by rcases h with rfl | rfl <;> rfl
theorem la_c14 {c : Int} (h : zCc c) : zLa (c + 14) = 60 := by rcases h with rfl | rfl <;> rfl
theorem la_c15 {c : Int} (h : zCc c) : zLa (c + 15) = 60 := by rcases h with rfl | rfl <;> rfl
theorem la_c16 {c : Int} (h : zCc c) : zLa (c + 16) = 60 := by rcases h with rfl | rfl <;> rfl
theorem la_c17 {c : Int} (h : zCc c) : zLa (c + 17) = 60 := by rcases h with rfl | rfl <;> rfl
theorem la_c18 {c : Int} (h : zCc c) : zLa (c + 18) = 60 := by rcases h with rfl | rfl <;> rfl
theorem la_c20 {c : Int} (h : zCc c) : zLa (c + 20) = 20 := by rcases h with rfl | rfl <;> rfl
theorem la_c21 {c : Int} (h : zCc c) : zLa (c + 21) = 20 := by rcases h with rfl | rfl <;> rfl
theorem la_c22 {c : Int} (h : zCc c) : zLa (c + 22) = 20 := by rcases h with rfl | rfl <;> rfl
theorem la_c23 {c : Int} (h : zCc c) : zLa (c + 23) = 20 := by rcases h with rfl | rfl <;> rfl
theorem la_c24 {c : Int} (h : zCc c) : zLa (c + 24) = 20 := by rcases h with rfl | rfl <;> rfl
theorem la_c26 {c : Int} (h : zCc c) : zLa (c + 26) = 64 := by rcases h with rfl | rfl <;> rfl
theorem la_c28 {c : Int} (h : zCc c) : zLa (c + 28) = 64 := by rcases h with rfl | rfl <;> rfl
theorem la_c30 {c : Int} (h : zCc c) : zLa (c + 30) = 64 := by rcases h with rfl | rfl <;> rfl
theorem la_c31 {c : Int} (h : zCc c) : zLa (c + 31) = 5 := by rcases h with rfl | rfl <;> rfl
theorem la_c32 {c : Int} (h : zCc c) : zLa (c + 32) = 9 := by rcases h with rfl | rfl <;> rfl
theorem la_3 : zLa 3 = 27 := rfl
theorem la_4 : zLa 4 = 800 := rfl
theorem la_5 : zLa 5 = 801 := rfl
theorem la_6 : zLa 6 = 801 := rfl
theorem la_7 : zLa 7 = 801 := rfl
theorem la_41 : zLa 41 = 72 := rfl
theorem la_77 : zLa 77 = 10 := rfl
theorem la_78 : zLa 78 = 64 := rfl
theorem la_80 : zLa 80 = 8 := rfl
theorem la_81 : zLa 81 = 8 := rfl
theorem la_82 : zLa 82 = 8 := rfl
theorem la_83 : zLa 83 = 8 := rfl
theorem la_85 : zLa 85 = 800 := rfl
theorem la_86 : zLa 86 = 132 := rfl
theorem la_87 : zLa 87 = 16 := rfl
theorem la_88 : zLa 88 = 16 := rfl
theorem la_89 : zLa 89 = 16 := rfl
theorem la_90 : zLa 90 = 16 := rfl
theorem la_91 : zLa 91 = 16 := rfl
theorem la_92 : zLa 92 = 10 := rfl
theorem la_93 : zLa 93 = 10 := rfl
theorem la_94 : zLa 94 = 10 := rfl
theorem la_95 : zLa 95 = 10 := rfl
theorem la_96 : zLa 96 = 10 := rfl
theorem la_97 : zLa 97 = 120 := rfl
theorem la_98 : zLa 98 = 120 := rfl
theorem la_99 : zLa 99 = 120 := rfl
theorem la_100 : zLa 100 = 120 := rfl
theorem la_101 : zLa 101 = 120 := rfl
theorem la_102 : zLa 102 = 40 := rfl
theorem la_103 : zLa 103 = 40 := rfl
theorem la_104 : zLa 104 = 40 := rfl
theorem la_105 : zLa 105 = 6 := rfl
theorem la_106 : zLa 106 = 6 := rfl
theorem la_107 : zLa 107 = 128 := rfl
theorem la_108 : zLa 108 = 128 := rfl
theorem la_109 : zLa 109 = 128 := rfl
theorem la_110 : zLa 110 = 96 := rfl
theorem la_111 : zLa 111 = 96 := rfl
theorem la_112 : zLa 112 = 20 := rfl
theorem la_113 : zLa 113 = 20 := rfl
theorem la_114 : zLa 114 = 10 := rfl
theorem la_115 : zLa 115 = 64 := rfl
theorem la_116 : zLa 116 = 1 := rfl
abbrev zLc (c : Int) : Prop := zLa (c + 2) = 8 ∧ zLa (c + 3) = 8 ∧ zLa (c + 4) = 8 ∧ zLa (c + 5) = 8 ∧ zLa (c + 6) = 8 ∧ zLa (c + 8) = 5 ∧ zLa (c + 9) = 5 ∧ zLa (c + 10) = 5 ∧ zLa (c + 11) = 5 ∧ zLa (c + 12) = 5 ∧ zLa (c + 14) = 60 ∧ zLa (c + 15) = 60 ∧ zLa (c + 16) = 60 ∧ zLa (c + 17) = 60 ∧ zLa (c + 18) = 60 ∧ zLa (c + 20) = 20 ∧ zLa (c + 21) = 20 ∧ zLa (c + 22) = 20 ∧ zLa (c + 23) = 20 ∧ zLa (c + 24) = 20 ∧ zLa (c + 26) = 64 ∧ zLa (c + 28) = 64 ∧ zLa (c + 30) = 64 ∧ zLa (c + 31) = 5 ∧ zLa (c + 32) = 9
theorem zLc_of {c : Int} (h : zCc c) : zLc c := by rcases h with rfl | rfl <;> decide
abbrev zLo : Prop := zLa 3 = 27 ∧ zLa 4 = 800 ∧ zLa 5 = 801 ∧ zLa 6 = 801 ∧ zLa 7 = 801 ∧ zLa 41 = 72 ∧ zLa 77 = 10 ∧ zLa 78 = 64 ∧ zLa 80 = 8 ∧ zLa 81 = 8 ∧ zLa 82 = 8 ∧ zLa 83 = 8 ∧ zLa 85 = 800 ∧ zLa 86 = 132 ∧ zLa 87 = 16 ∧ zLa 88 = 16 ∧ zLa 89 = 16 ∧ zLa 90 = 16 ∧ zLa 91 = 16 ∧ zLa 92 = 10 ∧ zLa 93 = 10 ∧ zLa 94 = 10 ∧ zLa 95 = 10 ∧ zLa 96 = 10 ∧ zLa 97 = 120 ∧ zLa 98 = 120 ∧ zLa 99 = 120 ∧ zLa 100 = 120 ∧ zLa 101 = 120 ∧ zLa 102 = 40 ∧ zLa 103 = 40 ∧ zLa 104 = 40 ∧ zLa 105 = 6 ∧ zLa 106 = 6 ∧ zLa 107 = 128 ∧ zLa 108 = 128 ∧ zLa 109 = 128 ∧ zLa 110 = 96 ∧ zLa 111 = 96 ∧ zLa 112 = 20 ∧ zLa 113 = 20 ∧ zLa 114 = 10 ∧ zLa 115 = 64 ∧ zLa 116 = 1
theorem zLo_ok : zLo := by decide
/-- the memory of a case by its offsets -/
abbrev cEq (M : zM) (c : Int) (V : zM) : Prop := (∀ k, M c k = V 0 k) ∧ (∀ k, M (c + 1) k = V 1 k) ∧ (∀ k, M (c + 2) k = V 2 k) ∧ (∀ k, M (c + 3) k = V 3 k) ∧ (∀ k, M (c + 4) k = V 4 k) ∧ (∀ k, M (c + 5) k = V 5 k) ∧ (∀ k, M (c + 6) k = V 6 k) ∧ (∀ k, M (c + 7) k = V 7 k) ∧ (∀ k, M (c + 8) k = V 8 k) ∧ (∀ k, M (c + 9) k = V 9 k) ∧ (∀ k, M (c + 10) k = V 10 k) ∧ (∀ k, M (c + 11) k = V 11 k) ∧ (∀ k, M (c + 12) k = V 12 k) ∧ (∀ k, M (c + 13) k = V 13 k) ∧ (∀ k, M (c + 14) k = V 14 k) ∧ (∀ k, M (c + 15) k = V 15 k) ∧ (∀ k, M (c + 16) k = V 16 k) ∧ (∀ k, M (c + 17) k = V 17 k) ∧ (∀ k, M (c + 18) k = V 18 k) ∧ (∀ k, M (c + 19) k = V 19 k) ∧ (∀ k, M (c + 20) k = V 20 k) ∧ (∀ k, M (c + 21) k = V 21 k) ∧ (∀ k, M (c + 22) k = V 22 k) ∧ (∀ k, M (c + 25) k = V 25 k) ∧ (∀ k, M (c + 26) k = V 26 k) ∧ (∀ k, M (c + 27) k = V 27 k) ∧ (∀ k, M (c + 28) k = V 28 k) ∧ (∀ k, M (c + 29) k = V 29 k) ∧ (∀ k, M (c + 30) k = V 30 k)
theorem cv_0 {M V : zM} {c : Int} (h : cEq M c V) (k : Int) : M c k = V 0 k := h.1 k
theorem cv_1 {M V : zM} {c : Int} (h : cEq M c V) (k : Int) : M (c + 1) k = V 1 k := h.2.1 k
theorem cv_2 {M V : zM} {c : Int} (h : cEq M c V) (k : Int) : M (c + 2) k = V 2 k := h.2.2.1 k
theorem cv_3 {M V : zM} {c : Int} (h : cEq M c V) (k : Int) : M (c + 3) k = V 3 k := h.2.2.2.1 k
theorem cv_4 {M V : zM} {c : Int} (h : cEq M c V) (k : Int) : M (c + 4) k = V 4 k := h.2.2.2.2.1 k
theorem cv_5 {M V : zM} {c : Int} (h : cEq M c V) (k : Int) : M (c + 5) k = V 5 k := h.2.2.2.2.2.1 k
theorem cv_6 {M V : zM} {c : Int} (h : cEq M c V) (k : Int) : M (c + 6) k = V 6 k := h.2.2.2.2.2.2.1 k
theorem cv_7 {M V : zM} {c : Int} (h : cEq M c V) (k : Int) : M (c + 7) k = V 7 k := h.2.2.2.2.2.2.2.1 k
theorem cv_8 {M V : zM} {c : Int} (h : cEq M c V) (k : Int) : M (c + 8) k = V 8 k := h.2.2.2.2.2.2.2.2.1 k
theorem cv_9 {M V : zM} {c : Int} (h : cEq M c V) (k : Int) : M (c + 9) k = V 9 k := h.2.2.2.2.2.2.2.2.2.1 k
theorem cv_10 {M V : zM} {c : Int} (h : cEq M c V) (k : Int) : M (c + 10) k = V 10 k := h.2.2.2.2.2.2.2.2.2.2.1 k
theorem cv_11 {M V : zM} {c : Int} (h : cEq M c V) (k : Int) : M (c + 11) k = V 11 k := h.2.2.2.2.2.2.2.2.2.2.2.1 k
theorem cv_12 {M V : zM} {c : Int} (h : cEq M c V) (k : Int) : M (c + 12) k = V 12 k := h.2.2.2.2.2.2.2.2.2.2.2.2.1 k
theorem cv_13 {M V : zM} {c : Int} (h : cEq M c V) (k : Int) : M (c + 13) k = V 13 k := h.2.2.2.2.2.2.2.2.2.2.2.2.2.1 k
theorem cv_14 {M V : zM} {c : Int} (h : cEq M c V) (k : Int) : M (c + 14) k = V 14 k := h.2.2.2.2.2.2.2.2.2.2.2.2.2.2.1 k
theorem cv_15 {M V : zM} {c : Int} (h : cEq M c V) (k : Int) : M (c + 15) k = V 15 k := h.2.2.2.2.2.2.2.2.2.2.2.2.2.2.2.1 k
theorem cv_16 {M V : zM} {c : Int} (h : cEq M c V) (k : Int) : M (c + 16) k = V 16 k := h.2.2.2.2.2.2.2.2.2.2.2.2.2.2.2.2.1 k
theorem cv_17 {M V : zM} {c : Int} (h : cEq M c V) (k : Int) : M (c + 17) k = V 17 k := h.2.2.2.2.2.2.2.2.2.2.2.2.2.2.2.2.2.1 k
theorem cv_18 {M V : zM} {c : Int} (h : cEq M c V) (k : Int) : M (c + 18) k = V 18 k := h.2.2.2.2.2.2.2.2.2.2.2.2.2.2.2.2.2.2.1 k
theorem cv_19 {M V : zM} {c : Int} (h : cEq M c V) (k : Int) : M (c + 19) k = V 19 k := h.2.2.2.2.2.2.2.2.2.2.2.2.2.2.2.2.2.2.2.1 k
theorem cv_20 {M V : zM} {c : Int} (h : cEq M c V) (k : Int) : M (c + 20) k = V 20 k := h.2.2.2.2.2.2.2.2.2.2.2.2.2.2.2.2.2.2.2.2.1 k
theorem cv_21 {M V : zM} {c : Int} (h : cEq M c V) (k : Int) : M (c + 21) k = V 21 k := h.2.2.2.2.2.2.2.2.2.2.2.2.2.2.2.2.2.2.2.2.2.1 k
theorem cv_22 {M V : zM} {c : Int} (h : cEq M c V) (k : Int) : M (c + 22) k = V 22 k := h.2.2.2.2.2.2.2.2.2.2.2.2.2.2.2.2.2.2.2.2.2.2.1 k
theorem cv_25 {M V : zM} {c : Int} (h : cEq M c V) (k : Int) : M (c + 25) k = V 25 k := h.2.2.2.2.2.2.2.2.2.2.2.2.2.2.2.2.2.2.2.2.2.2.2.1 k
theorem cv_26 {M V : zM} {c : Int} (h : cEq M c V) (k : Int) : M (c + 26) k = V 26 k := h.2.2.2.2.2.2.2.2.2.2.2.2.2.2.2.2.2.2.2.2.2.2.2.2.1 k
theorem cv_27 {M V : zM} {c : Int} (h : cEq M c V) (k : Int) : M (c + 27) k = V 27 k := h.2.2.2.2.2.2.2.2.2.2.2.2.2.2.2.2.2.2.2.2.2.2.2.2.2.1 k
theorem cv_28 {M V : zM} {c : Int} (h : cEq M c V) (k : Int) : M (c + 28) k = V 28 k := h.2.2.2.2.2.2.2.2.2.2.2.2.2.2.2.2.2.2.2.2.2.2.2.2.2.2.1 k
theorem cv_29 {M V : zM} {c : Int} (h : cEq M c V) (k : Int) : M (c + 29) k = V 29 k := h.2.2.2.2.2.2.2.2.2.2.2.2.2.2.2.2.2.2.2.2.2.2.2.2.2.2.2.1 k
theorem cv_30 {M V : zM} {c : Int} (h : cEq M c V) (k : Int) : M (c + 30) k = V 30 k := h.2.2.2.2.2.2.2.2.2.2.2.2.2.2.2.2.2.2.2.2.2.2.2.2.2.2.2.2 k
/-- places that a question may write: nobody reads them across calls -/
abbrev Scr (a k : Int) : Prop := (a = 84 ∧ (k = 2 ∨ k = 58 ∨ k = 59 ∨ k = 64 ∨ k = 65)) ∨ (112 ≤ a ∧ a ≤ 116) ∨ a = 75 ∨ a = 77 ∨ a = 78 ∨ (a = 79 ∧ k < 3) ∨ (80 ≤ a ∧ a ≤ 83) ∨ a = 31 ∨ a = 32 ∨ a = 39 ∨ a = 40 ∨ a = 65 ∨ a = 66 ∨ a = 73 ∨ a = 74
abbrev Sm (M M' : zM) : Prop := ∀ a k, ¬ Scr a k → M' a k = M a k
theorem Sm.rf (M : zM) : Sm M M := fun _ _ _ => rfl
theorem Sm.tr {M M1 M2 : zM} (h : Sm M M1) (h2 : Sm M1 M2) : Sm M M2 := fun a k q => (h2 a k q).trans (h a k q)
theorem Sm.wr {M : zM} {a i v : Int} (h : Scr a i) : Sm M (z_wr M a i v) := fun b j q => by unfold z_wr; rw [if_neg]; rintro ⟨rfl, rfl⟩; exact q h
abbrev ScrA (a : Int) : Prop := a = 84 ∨ (112 ≤ a ∧ a ≤ 116) ∨ a = 75 ∨ a = 77 ∨ a = 78 ∨ a = 79 ∨ (80 ≤ a ∧ a ≤ 83) ∨ a = 31 ∨ a = 32 ∨ a = 39 ∨ a = 40 ∨ a = 65 ∨ a = 66 ∨ a = 73 ∨ a = 74
theorem Scr_no {a k : Int} (h : ¬ ScrA a) : ¬ Scr a k := fun q => h (by rcases q with ⟨q, -⟩ | q | q | q | q | ⟨q, -⟩ | q | q | q | q | q | q | q | q | q <;> omega)
theorem LayC.sm {M M' : zM} {c : Int} (hc : zCc c) (hs : Sm M M') (h : LayC M c) : LayC M' c := by rcases hc with rfl | rfl <;> exact ⟨(hs _ _ (by decide)).trans h.1, (hs _ _ (by decide)).trans h.2.1, (hs _ _ (by decide)).trans h.2.2.1, (hs _ _ (by decide)).trans h.2.2.2.1, (hs _ _ (by decide)).trans h.2.2.2.2.1, (hs _ _ (by decide)).trans h.2.2.2.2.2.1, (hs _ _ (by decide)).trans h.2.2.2.2.2.2.1, (hs _ _ (by decide)).trans h.2.2.2.2.2.2.2.1, (hs _ _ (by decide)).trans h.2.2.2.2.2.2.2.2.1, (hs _ _ (by decide)).trans h.2.2.2.2.2.2.2.2.2.1, (hs _ _ (by decide)).trans h.2.2.2.2.2.2.2.2.2.2.1, (hs _ _ (by decide)).trans h.2.2.2.2.2.2.2.2.2.2.2.1, (hs _ _ (by decide)).trans h.2.2.2.2.2.2.2.2.2.2.2.2.1, (hs _ _ (by decide)).trans h.2.2.2.2.2.2.2.2.2.2.2.2.2.1, (hs _ _ (by decide)).trans h.2.2.2.2.2.2.2.2.2.2.2.2.2.2.1, (hs _ _ (by decide)).trans h.2.2.2.2.2.2.2.2.2.2.2.2.2.2.2.1, (hs _ _ (by decide)).trans h.2.2.2.2.2.2.2.2.2.2.2.2.2.2.2.2.1, (hs _ _ (by decide)).trans h.2.2.2.2.2.2.2.2.2.2.2.2.2.2.2.2.2.1, (hs _ _ (by decide)).trans h.2.2.2.2.2.2.2.2.2.2.2.2.2.2.2.2.2.2.1, (hs _ _ (by decide)).trans h.2.2.2.2.2.2.2.2.2.2.2.2.2.2.2.2.2.2.2.1, (hs _ _ (by decide)).trans h.2.2.2.2.2.2.2.2.2.2.2.2.2.2.2.2.2.2.2.2.1, (hs _ _ (by decide)).trans h.2.2.2.2.2.2.2.2.2.2.2.2.2.2.2.2.2.2.2.2.2.1, (hs _ _ (by decide)).trans h.2.2.2.2.2.2.2.2.2.2.2.2.2.2.2.2.2.2.2.2.2.2.1, (hs _ _ (by decide)).trans h.2.2.2.2.2.2.2.2.2.2.2.2.2.2.2.2.2.2.2.2.2.2.2.1, (hs _ _ (by decide)).trans h.2.2.2.2.2.2.2.2.2.2.2.2.2.2.2.2.2.2.2.2.2.2.2.2.1, (hs _ _ (by decide)).trans h.2.2.2.2.2.2.2.2.2.2.2.2.2.2.2.2.2.2.2.2.2.2.2.2.2.1, (hs _ _ (by decide)).trans h.2.2.2.2.2.2.2.2.2.2.2.2.2.2.2.2.2.2.2.2.2.2.2.2.2.2.1, (hs _ _ (by decide)).trans h.2.2.2.2.2.2.2.2.2.2.2.2.2.2.2.2.2.2.2.2.2.2.2.2.2.2.2.1, (hs _ _ (by decide)).trans h.2.2.2.2.2.2.2.2.2.2.2.2.2.2.2.2.2.2.2.2.2.2.2.2.2.2.2.2.1, (hs _ _ (by decide)).trans h.2.2.2.2.2.2.2.2.2.2.2.2.2.2.2.2.2.2.2.2.2.2.2.2.2.2.2.2.2.1, (hs _ _ (by decide)).trans h.2.2.2.2.2.2.2.2.2.2.2.2.2.2.2.2.2.2.2.2.2.2.2.2.2.2.2.2.2.2.1, (hs _ _ (by decide)).trans h.2.2.2.2.2.2.2.2.2.2.2.2.2.2.2.2.2.2.2.2.2.2.2.2.2.2.2.2.2.2.2⟩
theorem LayO.sm {M M' : zM} (hs : Sm M M') (h : LayO M) : LayO M' := ⟨(hs _ _ (by decide)).trans h.1, (hs _ _ (by decide)).trans h.2.1, (hs _ _ (by decide)).trans h.2.2.1, (hs _ _ (by decide)).trans h.2.2.2.1, (hs _ _ (by decide)).trans h.2.2.2.2.1, (hs _ _ (by decide)).trans h.2.2.2.2.2.1, (hs _ _ (by decide)).trans h.2.2.2.2.2.2.1, (hs _ _ (by decide)).trans h.2.2.2.2.2.2.2.1, (hs _ _ (by decide)).trans h.2.2.2.2.2.2.2.2.1, (hs _ _ (by decide)).trans h.2.2.2.2.2.2.2.2.2.1, (hs _ _ (by decide)).trans h.2.2.2.2.2.2.2.2.2.2.1, (hs _ _ (by decide)).trans h.2.2.2.2.2.2.2.2.2.2.2.1, (hs _ _ (by decide)).trans h.2.2.2.2.2.2.2.2.2.2.2.2.1, (hs _ _ (by decide)).trans h.2.2.2.2.2.2.2.2.2.2.2.2.2.1, (hs _ _ (by decide)).trans h.2.2.2.2.2.2.2.2.2.2.2.2.2.2.1, (hs _ _ (by decide)).trans h.2.2.2.2.2.2.2.2.2.2.2.2.2.2.2.1, (hs _ _ (by decide)).trans h.2.2.2.2.2.2.2.2.2.2.2.2.2.2.2.2⟩
theorem LayR.sm {M M' : zM} (hs : Sm M M') (h : LayR M) : LayR M' := ⟨(hs _ _ (by decide)).trans h.1, (hs _ _ (by decide)).trans h.2.1, (hs _ _ (by decide)).trans h.2.2.1, (hs _ _ (by decide)).trans h.2.2.2.1, (hs _ _ (by decide)).trans h.2.2.2.2.1, (hs _ _ (by decide)).trans h.2.2.2.2.2.1, (hs _ _ (by decide)).trans h.2.2.2.2.2.2.1, (hs _ _ (by decide)).trans h.2.2.2.2.2.2.2.1, (hs _ _ (by decide)).trans h.2.2.2.2.2.2.2.2.1, (hs _ _ (by decide)).trans h.2.2.2.2.2.2.2.2.2.1, (hs _ _ (by decide)).trans h.2.2.2.2.2.2.2.2.2.2.1, (hs _ _ (by decide)).trans h.2.2.2.2.2.2.2.2.2.2.2.1, (hs _ _ (by decide)).trans h.2.2.2.2.2.2.2.2.2.2.2.2.1, (hs _ _ (by decide)).trans h.2.2.2.2.2.2.2.2.2.2.2.2.2.1, (hs _ _ (by decide)).trans h.2.2.2.2.2.2.2.2.2.2.2.2.2.2.1, (hs _ _ (by decide)).trans h.2.2.2.2.2.2.2.2.2.2.2.2.2.2.2.1, (hs _ _ (by decide)).trans h.2.2.2.2.2.2.2.2.2.2.2.2.2.2.2.2.1, (hs _ _ (by decide)).trans h.2.2.2.2.2.2.2.2.2.2.2.2.2.2.2.2.2.1, (hs _ _ (by decide)).trans h.2.2.2.2.2.2.2.2.2.2.2.2.2.2.2.2.2.2.1, (hs _ _ (by decide)).trans h.2.2.2.2.2.2.2.2.2.2.2.2.2.2.2.2.2.2.2.1, (hs _ _ (by decide)).trans h.2.2.2.2.2.2.2.2.2.2.2.2.2.2.2.2.2.2.2.2.1, (hs _ _ (by decide)).trans h.2.2.2.2.2.2.2.2.2.2.2.2.2.2.2.2.2.2.2.2.2.1, (hs _ _ (by decide)).trans h.2.2.2.2.2.2.2.2.2.2.2.2.2.2.2.2.2.2.2.2.2.2.1, (hs _ _ (by decide)).trans h.2.2.2.2.2.2.2.2.2.2.2.2.2.2.2.2.2.2.2.2.2.2.2.1, (hs _ _ (by decide)).trans h.2.2.2.2.2.2.2.2.2.2.2.2.2.2.2.2.2.2.2.2.2.2.2.2.1, (hs _ _ (by decide)).trans h.2.2.2.2.2.2.2.2.2.2.2.2.2.2.2.2.2.2.2.2.2.2.2.2.2.1, (hs _ _ (by decide)).trans h.2.2.2.2.2.2.2.2.2.2.2.2.2.2.2.2.2.2.2.2.2.2.2.2.2.2.1, (hs _ _ (by decide)).trans h.2.2.2.2.2.2.2.2.2.2.2.2.2.2.2.2.2.2.2.2.2.2.2.2.2.2.2.1, (hs _ _ (by decide)).trans h.2.2.2.2.2.2.2.2.2.2.2.2.2.2.2.2.2.2.2.2.2.2.2.2.2.2.2.2.1, (hs _ _ (by decide)).trans h.2.2.2.2.2.2.2.2.2.2.2.2.2.2.2.2.2.2.2.2.2.2.2.2.2.2.2.2.2.1, (hs _ _ (by decide)).trans h.2.2.2.2.2.2.2.2.2.2.2.2.2.2.2.2.2.2.2.2.2.2.2.2.2.2.2.2.2.2⟩
theorem cEq.sm {M M' V : zM} {c : Int} (hc : zCc c) (hs : Sm M M') (h : cEq M c V) : cEq M' c V := by rcases hc with rfl | rfl <;> exact ⟨fun k => (hs _ _ (Scr_no (by decide))).trans (h.1 k), fun k => (hs _ _ (Scr_no (by decide))).trans (h.2.1 k), fun k => (hs _ _ (Scr_no (by decide))).trans (h.2.2.1 k), fun k => (hs _ _ (Scr_no (by decide))).trans (h.2.2.2.1 k), fun k => (hs _ _ (Scr_no (by decide))).trans (h.2.2.2.2.1 k), fun k => (hs _ _ (Scr_no (by decide))).trans (h.2.2.2.2.2.1 k), fun k => (hs _ _ (Scr_no (by decide))).trans (h.2.2.2.2.2.2.1 k), fun k => (hs _ _ (Scr_no (by decide))).trans (h.2.2.2.2.2.2.2.1 k), fun k => (hs _ _ (Scr_no (by decide))).trans (h.2.2.2.2.2.2.2.2.1 k), fun k => (hs _ _ (Scr_no (by decide))).trans (h.2.2.2.2.2.2.2.2.2.1 k), fun k => (hs _ _ (Scr_no (by decide))).trans (h.2.2.2.2.2.2.2.2.2.2.1 k), fun k => (hs _ _ (Scr_no (by decide))).trans (h.2.2.2.2.2.2.2.2.2.2.2.1 k), fun k => (hs _ _ (Scr_no (by decide))).trans (h.2.2.2.2.2.2.2.2.2.2.2.2.1 k), fun k => (hs _ _ (Scr_no (by decide))).trans (h.2.2.2.2.2.2.2.2.2.2.2.2.2.1 k), fun k => (hs _ _ (Scr_no (by decide))).trans (h.2.2.2.2.2.2.2.2.2.2.2.2.2.2.1 k), fun k => (hs _ _ (Scr_no (by decide))).trans (h.2.2.2.2.2.2.2.2.2.2.2.2.2.2.2.1 k), fun k => (hs _ _ (Scr_no (by decide))).trans (h.2.2.2.2.2.2.2.2.2.2.2.2.2.2.2.2.1 k), fun k => (hs _ _ (Scr_no (by decide))).trans (h.2.2.2.2.2.2.2.2.2.2.2.2.2.2.2.2.2.1 k), fun k => (hs _ _ (Scr_no (by decide))).trans (h.2.2.2.2.2.2.2.2.2.2.2.2.2.2.2.2.2.2.1 k), fun k => (hs _ _ (Scr_no (by decide))).trans (h.2.2.2.2.2.2.2.2.2.2.2.2.2.2.2.2.2.2.2.1 k), fun k => (hs _ _ (Scr_no (by decide))).trans (h.2.2.2.2.2.2.2.2.2.2.2.2.2.2.2.2.2.2.2.2.1 k), fun k => (hs _ _ (Scr_no (by decide))).trans (h.2.2.2.2.2.2.2.2.2.2.2.2.2.2.2.2.2.2.2.2.2.1 k), fun k => (hs _ _ (Scr_no (by decide))).trans (h.2.2.2.2.2.2.2.2.2.2.2.2.2.2.2.2.2.2.2.2.2.2.1 k), fun k => (hs _ _ (Scr_no (by decide))).trans (h.2.2.2.2.2.2.2.2.2.2.2.2.2.2.2.2.2.2.2.2.2.2.2.1 k), fun k => (hs _ _ (Scr_no (by decide))).trans (h.2.2.2.2.2.2.2.2.2.2.2.2.2.2.2.2.2.2.2.2.2.2.2.2.1 k), fun k => (hs _ _ (Scr_no (by decide))).trans (h.2.2.2.2.2.2.2.2.2.2.2.2.2.2.2.2.2.2.2.2.2.2.2.2.2.1 k), fun k => (hs _ _ (Scr_no (by decide))).trans (h.2.2.2.2.2.2.2.2.2.2.2.2.2.2.2.2.2.2.2.2.2.2.2.2.2.2.1 k), fun k => (hs _ _ (Scr_no (by decide))).trans (h.2.2.2.2.2.2.2.2.2.2.2.2.2.2.2.2.2.2.2.2.2.2.2.2.2.2.2.1 k), fun k => (hs _ _ (Scr_no (by decide))).trans (h.2.2.2.2.2.2.2.2.2.2.2.2.2.2.2.2.2.2.2.2.2.2.2.2.2.2.2.2 k)⟩
