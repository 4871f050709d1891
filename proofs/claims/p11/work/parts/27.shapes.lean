/-! worlds as tables -/
def mj_tb (L : List (List Nat)) (q k : Nat) : Nat := match mj_nth L q with
  | some r => (match mj_nth r k with
    | some x => x
    | none => 0)
  | none => 0
/-- a method's answer is shown from its entry on -/
theorem mj_mk {S : mj_S} {CD : Nat → mj_C} {D z : Nat} {as : List Value} {h : mj_H} {r : mj_R}
    (hm : mj_if (Nat.ble (mj_sz as) (CD z).2.2) (mj_sg S (CD z) (mj_Cl S CD D) (fun x => x = r) (mj_Ev S (CD z) (mj_Cl S CD D) (fun x => x = r)) 100 0 (mj_a0 0 as) [] h)) : mj_Cl S CD (D + 1) z as h r := hm
/-! the cells of the two worlds, by program: kind and size of each, in the order of their making; and the references -/
def mj_S1 : mj_S := [(4, 16), (14, 11), (0, 6), (0, 240), (2, 4), (0, 960), (0, 160), (0, 24), (0, 24), (0, 900), (0, 12), (11, 12), (0, 17), (0, 900), (14, 11), (0, 6), (0, 240), (2, 4), (0, 960), (0, 160), (0, 24), (0, 24), (0, 900), (0, 12), (12, 8), (0, 160), (0, 160), (0, 160), (0, 40), (10, 5), (0, 26244), (1, 6561), (0, 6561), (6, 3), (7, 2), (0, 64), (0, 40), (0, 4), (5, 4), (0, 400), (1, 100), (5, 4), (0, 400), (1, 100), (5, 4), (0, 400), (1, 100), (9, 5), (0, 576), (0, 16), (0, 16), (15, 4), (0, 1820), (13, 8), (0, 12), (0, 12), (1, 1600), (2, 4096), (8, 6), (0, 24), (2, 6), (1, 6), (0, 240)]
def mj_RL1 : List (List Nat) := [[0, 1, 11, 24, 29, 33, 38, 41, 44, 0, 47, 51, 53, 58, 0, 0], [0, 2, 3, 4, 5, 6, 7, 8, 9, 0, 10], [], [], [], [], [], [], [], [], [], [12, 13, 0, 14, 0, 0, 0, 0, 0, 0, 0, 0], [], [], [0, 15, 16, 17, 18, 19, 20, 21, 22, 0, 23], [], [], [], [], [], [], [], [], [], [0, 0, 25, 26, 27, 0, 0, 28], [], [], [], [], [30, 31, 32, 0, 0], [], [], [], [34, 36, 37], [35, 0], [], [], [], [0, 0, 39, 40], [], [], [0, 0, 42, 43], [], [], [0, 0, 45, 46], [], [], [0, 48, 49, 50, 0], [], [], [], [0, 0, 0, 52], [], [0, 54, 55, 56, 57, 0, 0, 0], [], [], [], [], [59, 60, 61, 62, 0, 0], [], [], [], []]
def mj_R1 : Nat → Nat → Nat := mj_tb mj_RL1
-- cell 0: UnbeatenHouse 16 : 0 taped, 1 tale -> 1, 2 reader -> 11, 3 table -> 24, 4 pool -> 29, 5 gatherer -> 33, 6 hand -> 38, 7 made -> 41, 8 setFront -> 44, 9 setsOnFront, 10 picker -> 47, 11 weighings -> 51, 12 sayings -> 53, 13 people -> 58, 14 fell, 15 came
-- cell 1: UnbeatenHouse$Tale 11 : 0 statements, 1 counts -> 2, 2 names -> 3, 3 more -> 4, 4 amounts -> 5, 5 spreads -> 6, 6 tieFrom -> 7, 7 tieTo -> 8, 8 steps -> 9, 9 stepCount, 10 ruleEnds -> 10
-- cell 2: int 6
-- cell 3: int 240
-- cell 4: boolean 4
-- cell 5: int 960
-- cell 6: int 160
-- cell 7: int 24
-- cell 8: int 24
-- cell 9: int 900
-- cell 10: int 12
-- cell 11: UnbeatenHouse$Reader 12 : 0 ownCodes -> 12, 1 tape -> 13, 2 length, 3 into -> 14, 4 at, 5 token, 6 value, 7 own, 8 tokenAt, 9 open, 10 wrong, 11 wrongAt
-- cell 12: int 17
-- cell 13: int 900
-- cell 14: UnbeatenHouse$Tale 11 : 0 statements, 1 counts -> 15, 2 names -> 16, 3 more -> 17, 4 amounts -> 18, 5 spreads -> 19, 6 tieFrom -> 20, 7 tieTo -> 21, 8 steps -> 22, 9 stepCount, 10 ruleEnds -> 23
-- cell 15: int 6
-- cell 16: int 240
-- cell 17: boolean 4
-- cell 18: int 960
-- cell 19: int 160
-- cell 20: int 24
-- cell 21: int 24
-- cell 22: int 900
-- cell 23: int 12
-- cell 24: UnbeatenHouse$Rows 8 : 0 count, 1 wishes, 2 losses -> 25, 3 low -> 26, 4 high -> 27, 5 aside, 6 best, 7 worths -> 28
-- cell 25: int 160
-- cell 26: int 160
-- cell 27: int 160
-- cell 28: int 40
-- cell 29: UnbeatenHouse$Pool 5 : 0 losses -> 30, 1 keys -> 31, 2 order -> 32, 3 count, 4 wishes
-- cell 30: int 26244
-- cell 31: long 6561
-- cell 32: int 6561
-- cell 33: UnbeatenHouse$Gatherer 3 : 0 judge -> 34, 1 sums -> 36, 2 losses -> 37
-- cell 34: UnbeatenHouse$Judge 2 : 0 stack -> 35, 1 top
-- cell 35: int 64
-- cell 36: int 40
-- cell 37: int 4
-- cell 38: UnbeatenHouse$Front 4 : 0 kind, 1 count, 2 losses -> 39, 3 keys -> 40
-- cell 39: int 400
-- cell 40: long 100
-- cell 41: UnbeatenHouse$Front 4 : 0 kind, 1 count, 2 losses -> 42, 3 keys -> 43
-- cell 42: int 400
-- cell 43: long 100
-- cell 44: UnbeatenHouse$Front 4 : 0 kind, 1 count, 2 losses -> 45, 3 keys -> 46
-- cell 45: int 400
-- cell 46: long 100
-- cell 47: UnbeatenHouse$Picker 5 : 0 count, 1 distances -> 48, 2 tried -> 49, 3 chosen -> 50, 4 keptCount
-- cell 48: int 576
-- cell 49: int 16
-- cell 50: int 16
-- cell 51: UnbeatenHouse$Weighings 4 : 0 sum, 1 wishes, 2 count, 3 weights -> 52
-- cell 52: int 1820
-- cell 53: UnbeatenHouse$Sayings 8 : 0 count, 1 liked -> 54, 2 passed -> 55, 3 leaves -> 56, 4 held -> 57, 5 askedFirst, 6 askedSecond, 7 askedLeaves
-- cell 54: int 12
-- cell 55: int 12
-- cell 56: long 1600
-- cell 57: boolean 4096
-- cell 58: UnbeatenHouse$People 6 : 0 weights -> 59, 1 votes -> 60, 2 bars -> 61, 3 worths -> 62, 4 voters, 5 candidates
-- cell 59: int 24
-- cell 60: boolean 6
-- cell 61: long 6
-- cell 62: int 240
def mj_S2 : mj_S := [(3, 77), (0, 900), (0, 2), (0, 2), (0, 2), (0, 2), (0, 2), (0, 2), (1, 8), (2, 8), (1, 80), (0, 320), (0, 320), (1, 20), (0, 48), (0, 48), (0, 192), (1, 24), (0, 96), (0, 24), (0, 24), (0, 1800), (0, 1800), (0, 20), (0, 20), (2, 20), (0, 20), (0, 20), (0, 500), (0, 32768), (0, 8192), (0, 81920), (0, 4), (0, 10), (0, 40), (0, 10), (1, 950), (0, 400), (0, 100), (0, 1000), (0, 4), (0, 16), (0, 16), (0, 12), (0, 12), (0, 18240), (1, 456), (0, 456), (0, 24), (1, 6)]
def mj_RL2 : List (List Nat) := [[1, 0, 0, 0, 0, 0, 0, 0, 0, 0, 0, 0, 0, 2, 3, 4, 5, 6, 7, 8, 9, 10, 11, 12, 13, 14, 15, 16, 17, 18, 19, 20, 21, 22, 0, 0, 23, 24, 25, 26, 27, 0, 0, 28, 0, 0, 0, 0, 0, 29, 30, 31, 32, 33, 34, 35, 0, 36, 0, 0, 37, 38, 39, 0, 40, 0, 41, 42, 0, 43, 44, 0, 45, 46, 47, 48, 49], [], [], [], [], [], [], [], [], [], [], [], [], [], [], [], [], [], [], [], [], [], [], [], [], [], [], [], [], [], [], [], [], [], [], [], [], [], [], [], [], [], [], [], [], [], [], [], [], []]
def mj_R2 : Nat → Nat → Nat := mj_tb mj_RL2
-- cell 0: UnbeatenHouseModel 77 : 0 tape -> 1, 1 taped, 2 size, 3 sign, 4 signAt, 5 signEnd, 6 value, 7 word, 8 faultKind, 9 faultPlace, 10 toldKind, 11 toldPlace, 12 bank, 13 wishes -> 2, 14 rows -> 3, 15 knots -> 4, 16 ties -> 5, 17 things -> 6, 18 rules -> 7, 19 wishName -> 8, 20 isMore -> 9, 21 rowName -> 10, 22 rowHas -> 11, 23 spread -> 12, 24 knotName -> 13, 25 tieFrom -> 14, 26 tieTo -> 15, 27 tieHas -> 16, 28 thingName -> 17, 29 thingHas -> 18, 30 ruleFrom -> 19, 31 ruleTo -> 20, 32 codeSort -> 21, 33 codeValue -> 22, 34 codes, 35 in, 36 frame -> 23, 37 phase -> 24, 38 begins -> 25, 39 pair -> 26, 40 base -> 27, 41 deep, 42 open, 43 ops -> 28, 44 opMany, 45 operand, 46 fell, 47 came, 48 gathered, 49 gLoss -> 29, 50 gWho -> 30, 51 gKnots -> 31, 52 at -> 32, 53 path -> 33, 54 sums -> 34, 55 step -> 35, 56 setMask, 57 heap -> 36, 58 frontMany, 59 frontKind, 60 fLoss -> 37, 61 fWho -> 38, 62 fKnots -> 39, 63 grid, 64 weigh -> 40, 65 keptMany, 66 kept -> 41, 67 pick -> 42, 68 sayings, 69 better -> 43, 70 worse -> 44, 71 agreeing, 72 worths -> 45, 73 firsts -> 46, 74 agreements -> 47, 75 weights -> 48, 76 bars -> 49
-- cell 1: int 900
-- cell 2: int 2
-- cell 3: int 2
-- cell 4: int 2
-- cell 5: int 2
-- cell 6: int 2
-- cell 7: int 2
-- cell 8: long 8
-- cell 9: boolean 8
-- cell 10: long 80
-- cell 11: int 320
-- cell 12: int 320
-- cell 13: long 20
-- cell 14: int 48
-- cell 15: int 48
-- cell 16: int 192
-- cell 17: long 24
-- cell 18: int 96
-- cell 19: int 24
-- cell 20: int 24
-- cell 21: int 1800
-- cell 22: int 1800
-- cell 23: int 20
-- cell 24: int 20
-- cell 25: boolean 20
-- cell 26: int 20
-- cell 27: int 20
-- cell 28: int 500
-- cell 29: int 32768
-- cell 30: int 8192
-- cell 31: int 81920
-- cell 32: int 4
-- cell 33: int 10
-- cell 34: int 40
-- cell 35: int 10
-- cell 36: long 950
-- cell 37: int 400
-- cell 38: int 100
-- cell 39: int 1000
-- cell 40: int 4
-- cell 41: int 16
-- cell 42: int 16
-- cell 43: int 12
-- cell 44: int 12
-- cell 45: int 18240
-- cell 46: long 456
-- cell 47: int 456
-- cell 48: int 24
-- cell 49: long 6
