/-! contracts of the class, and heads of their loops (printed by wip/p2/gen_con.py) -/
/-- EarCode$Law.holds -/
def tk_0 : CN := (37, [.inr (.inl 8), .inl (0, 11), .inl ((-2147483648), 2147483647), .inl (0, 9), .inl (0, 64), .inl ((-2147483648), 2147483647)], [], (1, 0, 1), [], [])
def th_0 : List (Nat × HA) := [(25, ([(0, .inr (.inl 8)), (1, .inl (0, 11)), (2, .inl ((-2147483648), 2147483647)), (3, .inl (0, 9)), (4, .inl (0, 64)), (5, .inl ((-2147483648), 2147483647)), (6, .inl (0, 200)), (7, .inl ((-2147483648), 2147483647)), (8, .inl (0, 200))], [], 200, [(1, .inl 8)]))]
/-- EarCode$Law.bearing -/
def tk_1 : CN := (36, [.inr (.inl 8), .inl (0, 1), .inl ((-2147483648), 2147483647), .inl (0, 9), .inl (0, 64), .inl ((-2147483648), 2147483647)], [], (1, 0, 4095), [], [])
def th_1 : List (Nat × HA) := [(23, ([(0, .inr (.inl 8)), (1, .inl (0, 1)), (2, .inl ((-2147483648), 2147483647)), (3, .inl (0, 9)), (4, .inl (0, 64)), (5, .inl ((-2147483648), 2147483647)), (6, .inl (0, 4095)), (7, .inl ((-2147483648), 2147483647)), (8, .inl (0, 1)), (9, .inl (0, 12))], [], 12, [(1, .inl 9)]))]
/-- java/lang/Integer.bitCount -/
def tk_2 : CN := (317, [.inl ((-2147483648), 2147483647)], [], (1, 0, 63), [], [])
def th_2 : List (Nat × HA) := []
/-- EarCode$Inquiry.isForbiddenToAll -/
def tk_3 : CN := (8, [.inr (.inl 171), .inl (0, 7), .inl ((-2147483648), 2147483647)], [], (1, 0, 1), [], [])
def th_3 : List (Nat × HA) := [(2, ([(0, .inr (.inl 171)), (1, .inl (0, 7)), (2, .inl ((-2147483648), 2147483647)), (3, .inl (0, 10))], [], 109, [(10, .inl 3), (1, .inr none)])), (16, ([(0, .inr (.inl 171)), (1, .inl (0, 7)), (2, .inl ((-2147483648), 2147483647)), (3, .inl (0, 9)), (4, .inl (0, 8))], [], 108, [(10, .inl 3), (1, .inl 4)]))]
/-- EarCode$World.inForce -/
def tk_4 : CN := (115, [.inr (.inl 18)], [], (1, (-2147483648), 2147483647), [], [])
def th_4 : List (Nat × HA) := [(4, ([(0, .inr (.inl 18)), (1, .inl ((-2147483648), 2147483647)), (2, .inl (0, 10))], [], 10, [(1, .inl 2)]))]
/-- EarCode$Inquiry.forbiddenToAll -/
def tk_5 : CN := (7, [.inr (.inl 171)], [], (1, 0, 255), [], [])
def th_5 : List (Nat × HA) := [(12, ([(0, .inr (.inl 171)), (1, .inl (0, 255)), (2, .inl ((-2147483648), 2147483647)), (3, .inl (0, 8))], [], 8, [(1, .inl 3)]))]
/-- EarCode$Inquiry.isRelief -/
def tk_6 : CN := (11, [.inr (.inl 171), .inl (0, 4095)], [], (1, 0, 1), [], [])
def th_6 : List (Nat × HA) := [(2, ([(0, .inr (.inl 171)), (1, .inl (0, 4095)), (2, .inl (0, 12))], [], 12, [(1, .inl 2)]))]
/-- EarCode$Inquiry.clearOthers -/
def tk_7 : CN := (12, [.inr (.inl 171)], [(172, 173)], (0, 0, 0), [], [])
def th_7 : List (Nat × HA) := [(2, ([(0, .inr (.inl 171)), (1, .inl (0, 12))], [], 12, [(1, .inl 1)]))]
/-- EarCode$Inquiry.addOthers -/
def tk_8 : CN := (14, [.inr (.inl 171), .inl (0, 4095), .inl (0, 4095)], [(172, 173)], (0, 0, 0), [], [])
def th_8 : List (Nat × HA) := [(2, ([(0, .inr (.inl 171)), (1, .inl (0, 4095)), (2, .inl (0, 4095)), (3, .inl (0, 12))], [], 12, [(1, .inl 3)]))]
/-- EarCode$Inquiry.findOthers -/
def tk_9 : CN := (13, [.inr (.inl 171), .inl ((-2147483648), 2147483647)], [(172, 173)], (0, 0, 0), [], [])
def th_9 : List (Nat × HA) := [(2, ([(0, .inr (.inl 171)), (1, .inl ((-2147483648), 2147483647)), (2, .inl (0, 10))], [], 109, [(10, .inl 2), (1, .inr none)])), (15, ([(0, .inr (.inl 171)), (1, .inl ((-2147483648), 2147483647)), (2, .inl (0, 9)), (3, .inl (0, 8))], [], 108, [(10, .inl 2), (1, .inl 3)]))]
/-- EarCode$Inquiry.fewestToDie -/
def tk_10 : CN := (10, [.inr (.inl 171)], [(172, 173)], (1, 0, 4095), [], [])
def th_10 : List (Nat × HA) := [(6, ([(0, .inr (.inl 171)), (1, .inl (0, 8))], [], 4105, [(1, .inl 1), (1, .inr none)])), (30, ([(0, .inr (.inl 171)), (1, .inl (0, 4095)), (2, .inl (0, 13)), (3, .inl (0, 4096))], [], 4096, [(1, .inr none), (1, .inl 3)]))]
/-- EarCode$Inquiry.knownTogether -/
def tk_11 : CN := (16, [.inr (.inl 171), .inl ((-2147483648), 2147483647)], [], (1, (-2147483648), 2147483647), [], [])
def th_11 : List (Nat × HA) := [(4, ([(0, .inr (.inl 171)), (1, .inl ((-2147483648), 2147483647)), (2, .inl ((-2147483648), 2147483647)), (3, .inl (0, 10))], [], 10, [(1, .inl 3)]))]
/-- EarCode$Inquiry.fewestKnowers -/
def tk_12 : CN := (15, [.inr (.inl 171)], [], (1, 0, 4095), [], [])
def th_12 : List (Nat × HA) := [(16, ([(0, .inr (.inl 171)), (1, .inl ((-2147483648), 2147483647)), (2, .inl (0, 4095)), (3, .inl (0, 11)), (4, .inl (0, 4095))], [], 4095, [(1, .inl 4)]))]
/-- EarCode$World.knowersOf -/
def tk_13 : CN := (116, [.inr (.inl 18), .inl (0, 11)], [], (1, 0, 4095), [], [])
def th_13 : List (Nat × HA) := [(4, ([(0, .inr (.inl 18)), (1, .inl (0, 11)), (2, .inl (0, 4095)), (3, .inl (0, 10))], [], 10, [(1, .inl 3)]))]
/-- EarCode$Inquiry.tellingsFor -/
def tk_14 : CN := (18, [.inr (.inl 171), .inl (1, 10)], [], (1, (-2147483648), 2147483647), [], [])
def th_14 : List (Nat × HA) := [(29, ([(0, .inr (.inl 171)), (1, .inl (1, 10)), (2, .inl ((-2147483648), 2147483647)), (3, .inl ((-2147483648), 2147483647)), (4, .inl (0, 12))], [], 12, [(1, .inl 4)]))]
/-- EarCode$Inquiry.firstFreePlace -/
def tk_15 : CN := (19, [.inr (.inl 171), .inl (0, 9), .inl (0, 7)], [], (1, (-1), 7), [], [])
def th_15 : List (Nat × HA) := [(11, ([(0, .inr (.inl 171)), (1, .inl (0, 9)), (2, .inl (0, 7)), (3, .inl ((-2147483648), 2147483647)), (4, .inl (0, 8))], [], 8, [(1, .inl 4)]))]
/-- EarCode$Inquiry.deducedBy -/
def tk_16 : CN := (20, [.inr (.inl 171), .inl (0, 9)], [], (1, 0, 4095), [], [])
def th_16 : List (Nat × HA) := [(4, ([(0, .inr (.inl 171)), (1, .inl (0, 9)), (2, .inl (0, 4095)), (3, .inl (0, 64))], [], 64, [(1, .inl 3)]))]
/-- EarCode$Inquiry.isAllowedToAny -/
def tk_17 : CN := (22, [.inr (.inl 171), .inl (0, 63)], [], (1, 0, 1), [], [])
def th_17 : List (Nat × HA) := [(2, ([(0, .inr (.inl 171)), (1, .inl (0, 63)), (2, .inl (0, 10))], [], 10, [(1, .inl 2)]))]
/-- EarCode$Inquiry.hushedPlaces -/
def tk_18 : CN := (21, [.inr (.inl 171), .inl (0, 7)], [], (1, 0, 255), [], [])
def th_18 : List (Nat × HA) := [(4, ([(0, .inr (.inl 171)), (1, .inl (0, 7)), (2, .inl (0, 255)), (3, .inl (0, 8))], [], 8, [(1, .inl 3)]))]
/-- EarCode$Inquiry.timesInHabits -/
def tk_19 : CN := (24, [.inr (.inl 171), .inl (0, 63)], [], (1, (-2147483648), 2147483647), [], [])
def th_19 : List (Nat × HA) := [(4, ([(0, .inr (.inl 171)), (1, .inl (0, 63)), (2, .inl ((-2147483648), 2147483647)), (3, .inl (0, 10))], [], 87, [(8, .inl 3), (1, .inr none)])), (18, ([(0, .inr (.inl 171)), (1, .inl (0, 63)), (2, .inl ((-2147483648), 2147483647)), (3, .inl (0, 9)), (4, .inl (0, 6))], [], 86, [(8, .inl 3), (1, .inl 4)]))]
/-- EarCode$Inquiry.usualDeed -/
def tk_20 : CN := (23, [.inr (.inl 171), .inl (0, 7)], [], (1, (-1), 7), [], [])
def th_20 : List (Nat × HA) := [(7, ([(0, .inr (.inl 171)), (1, .inl (0, 7)), (2, .inl ((-1), 7)), (3, .inl (0, 2147483647)), (4, .inl (0, 8))], [], 8, [(1, .inl 4)]))]
/-- EarCode$Inquiry.worthOf -/
def tk_21 : CN := (26, [.inr (.inl 171), .inl (0, 9), .inl ((-1), 5)], [], (1, (-2147483648), 2147483647), [], [])
def th_21 : List (Nat × HA) := []
/-- EarCode$Inquiry.mostWorth -/
def tk_22 : CN := (25, [.inr (.inl 171), .inl (0, 9), .inl ((-1), 5)], [], (1, (-1), 5), [], [])
def th_22 : List (Nat × HA) := [(5, ([(0, .inr (.inl 171)), (1, .inl (0, 9)), (2, .inl ((-1), 5)), (3, .inl ((-1), 5)), (4, .inl (0, 6))], [], 6, [(1, .inl 4)]))]
/-- EarCode$Inquiry.crowdAt -/
def tk_23 : CN := (27, [.inr (.inl 171), .inl (0, 7), .inl (0, 60)], [], (1, 0, 4095), [], [])
def th_23 : List (Nat × HA) := [(5, ([(0, .inr (.inl 171)), (1, .inl (0, 7)), (2, .inl (0, 60)), (3, .inl (0, 4095)), (4, .inl (0, 10))], [], 10, [(1, .inl 4)]))]
/-- EarCode$Inquiry.meetings -/
def tk_24 : CN := (28, [.inr (.inl 171), .inl (0, 9), .inl (0, 9), .inl (1, 60)], [], (1, (-2147483648), 2147483647), [], [])
def th_24 : List (Nat × HA) := [(6, ([(0, .inr (.inl 171)), (1, .inl (0, 9)), (2, .inl (0, 9)), (3, .inl (1, 60)), (4, .inl ((-2147483648), 2147483647)), (5, .inl (0, 60))], [], 60, [(1, .inl 5)]))]
/-- EarCode$Law.become -/
def tk_25 : CN := (30, [.inr (.inl 8), .inr (.inl 13)], [(8, 13)], (0, 0, 0), [], [])
def th_25 : List (Nat × HA) := []
/-- EarCode$Law.become -/
def tk_26 : CN := (30, [.inr (.inl 8), .inr (.inl 173)], [(8, 13)], (0, 0, 0), [], [])
def th_26 : List (Nat × HA) := []
/-- EarCode$Law.become -/
def tk_27 : CN := (30, [.inr (.inl 173), .inr (.inl 8)], [(173, 178)], (0, 0, 0), [], [])
def th_27 : List (Nat × HA) := []
/-- EarCode$Law.addTerms -/
def tk_28 : CN := (33, [.inr (.inl 13)], [(13, 14), (17, 18)], (1, (-1), 660), [], [])
def th_28 : List (Nat × HA) := []
/-- EarCode$Law.addClause -/
def tk_29 : CN := (34, [.inr (.inl 13), .inl (0, 1), .inl (0, 7)], [(13, 16)], (0, 0, 0), [], [])
def th_29 : List (Nat × HA) := []
/-- EarCode$LawReader.readSum -/
def tk_30 : CN := (44, [.inr (.inl 42), .inl (0, 660), .inl ((-1), 1)], [(3, 4), (17, 18)], (1, 0, 1), [], [])
def th_30 : List (Nat × HA) := [(2, ([(0, .inr (.inl 42)), (1, .inl (0, 660)), (2, .inl ((-1), 1)), (3, .inl (0, 400))], [], 400, [(1, .inl 3)]))]
/-- EarCode$LawReader.readComparison -/
def tk_31 : CN := (43, [.inr (.inl 42)], [(3, 4), (13, 14), (16, 18)], (1, 0, 1), [], [])
def th_31 : List (Nat × HA) := []
/-- EarCode$LawReader.readAtom -/
def tk_32 : CN := (369, [.inr (.inl 42), .inl (6, 6)], [(3, 4), (13, 14), (16, 18)], (1, 0, 1), [], [])
def th_32 : List (Nat × HA) := []
/-- EarCode$LawReader.readCondition -/
def tk_33 : CN := (368, [.inr (.inl 42), .inl (6, 6)], [(3, 4), (13, 14), (16, 18)], (1, 0, 1), [], [])
def th_33 : List (Nat × HA) := [(7, ([(0, .inr (.inl 42)), (1, .inl (6, 6)), (2, .inl (0, 1)), (3, .inl (0, 1)), (4, .inl (0, 400))], [], 400, [(1, .inl 4)]))]
/-- EarCode$LawReader.readAtom -/
def tk_34 : CN := (367, [.inr (.inl 42), .inl (5, 5)], [(3, 4), (13, 14), (16, 18)], (1, 0, 1), [], [])
def th_34 : List (Nat × HA) := []
/-- EarCode$LawReader.readCondition -/
def tk_35 : CN := (366, [.inr (.inl 42), .inl (5, 5)], [(3, 4), (13, 14), (16, 18)], (1, 0, 1), [], [])
def th_35 : List (Nat × HA) := [(7, ([(0, .inr (.inl 42)), (1, .inl (5, 5)), (2, .inl (0, 1)), (3, .inl (0, 1)), (4, .inl (0, 400))], [], 400, [(1, .inl 4)]))]
/-- EarCode$LawReader.readAtom -/
def tk_36 : CN := (365, [.inr (.inl 42), .inl (4, 4)], [(3, 4), (13, 14), (16, 18)], (1, 0, 1), [], [])
def th_36 : List (Nat × HA) := []
/-- EarCode$LawReader.readCondition -/
def tk_37 : CN := (364, [.inr (.inl 42), .inl (4, 4)], [(3, 4), (13, 14), (16, 18)], (1, 0, 1), [], [])
def th_37 : List (Nat × HA) := [(7, ([(0, .inr (.inl 42)), (1, .inl (4, 4)), (2, .inl (0, 1)), (3, .inl (0, 1)), (4, .inl (0, 400))], [], 400, [(1, .inl 4)]))]
/-- EarCode$LawReader.readAtom -/
def tk_38 : CN := (363, [.inr (.inl 42), .inl (3, 3)], [(3, 4), (13, 14), (16, 18)], (1, 0, 1), [], [])
def th_38 : List (Nat × HA) := []
/-- EarCode$LawReader.readCondition -/
def tk_39 : CN := (362, [.inr (.inl 42), .inl (3, 3)], [(3, 4), (13, 14), (16, 18)], (1, 0, 1), [], [])
def th_39 : List (Nat × HA) := [(7, ([(0, .inr (.inl 42)), (1, .inl (3, 3)), (2, .inl (0, 1)), (3, .inl (0, 1)), (4, .inl (0, 400))], [], 400, [(1, .inl 4)]))]
/-- EarCode$LawReader.readAtom -/
def tk_40 : CN := (361, [.inr (.inl 42), .inl (2, 2)], [(3, 4), (13, 14), (16, 18)], (1, 0, 1), [], [])
def th_40 : List (Nat × HA) := []
/-- EarCode$LawReader.readCondition -/
def tk_41 : CN := (360, [.inr (.inl 42), .inl (2, 2)], [(3, 4), (13, 14), (16, 18)], (1, 0, 1), [], [])
def th_41 : List (Nat × HA) := [(7, ([(0, .inr (.inl 42)), (1, .inl (2, 2)), (2, .inl (0, 1)), (3, .inl (0, 1)), (4, .inl (0, 400))], [], 400, [(1, .inl 4)]))]
/-- EarCode$LawReader.readAtom -/
def tk_42 : CN := (359, [.inr (.inl 42), .inl (1, 1)], [(3, 4), (13, 14), (16, 18)], (1, 0, 1), [], [])
def th_42 : List (Nat × HA) := []
/-- EarCode$LawReader.readCondition -/
def tk_43 : CN := (358, [.inr (.inl 42), .inl (1, 1)], [(3, 4), (13, 14), (16, 18)], (1, 0, 1), [], [])
def th_43 : List (Nat × HA) := [(7, ([(0, .inr (.inl 42)), (1, .inl (1, 1)), (2, .inl (0, 1)), (3, .inl (0, 1)), (4, .inl (0, 400))], [], 400, [(1, .inl 4)]))]
/-- EarCode$LawReader.readAtom -/
def tk_44 : CN := (42, [.inr (.inl 42), .inl (0, 0)], [(3, 4), (13, 14), (16, 18)], (1, 0, 1), [], [])
def th_44 : List (Nat × HA) := []
/-- EarCode$LawReader.readCondition -/
def tk_45 : CN := (41, [.inr (.inl 42), .inl (0, 0)], [(3, 4), (13, 14), (16, 18)], (1, 0, 1), [], [])
def th_45 : List (Nat × HA) := [(7, ([(0, .inr (.inl 42)), (1, .inl (0, 0)), (2, .inl (0, 1)), (3, .inl (0, 1)), (4, .inl (0, 400))], [], 400, [(1, .inl 4)]))]
/-- EarCode$LawReader.readClause -/
def tk_46 : CN := (40, [.inr (.inl 42)], [(3, 4), (13, 18)], (1, 0, 1), [], [])
def th_46 : List (Nat × HA) := []
/-- EarCode$LawReader.readAll -/
def tk_47 : CN := (39, [.inr (.inl 42)], [(3, 4), (13, 18)], (1, (-1), 400), [], [])
def th_47 : List (Nat × HA) := [(31, ([(0, .inr (.inl 42)), (1, .inl (0, 12))], [], 12, [(1, .inl 1)]))]
/-- EarCode$Log.become -/
def tk_48 : CN := (46, [.inr (.inl 28), .inr (.inl 40)], [(28, 30)], (0, 0, 0), [], [])
def th_48 : List (Nat × HA) := []
/-- EarCode$Log.become -/
def tk_49 : CN := (46, [.inr (.inl 28), .inr (.inl 56)], [(28, 30)], (0, 0, 0), [], [])
def th_49 : List (Nat × HA) := []
/-- EarCode$Log.become -/
def tk_50 : CN := (46, [.inr (.inl 28), .inr (.inl 68)], [(28, 30)], (0, 0, 0), [], [])
def th_50 : List (Nat × HA) := []
/-- EarCode$Log.become -/
def tk_51 : CN := (46, [.inr (.inl 28), .inr (.inl 80)], [(28, 30)], (0, 0, 0), [], [])
def th_51 : List (Nat × HA) := []
/-- EarCode$Log.become -/
def tk_52 : CN := (46, [.inr (.inl 28), .inr (.inl 92)], [(28, 30)], (0, 0, 0), [], [])
def th_52 : List (Nat × HA) := []
/-- EarCode$Log.become -/
def tk_53 : CN := (46, [.inr (.inl 28), .inr (.inl 104)], [(28, 30)], (0, 0, 0), [], [])
def th_53 : List (Nat × HA) := []
/-- EarCode$Log.become -/
def tk_54 : CN := (46, [.inr (.inl 28), .inr (.inl 116)], [(28, 30)], (0, 0, 0), [], [])
def th_54 : List (Nat × HA) := []
/-- EarCode$Log.become -/
def tk_55 : CN := (46, [.inr (.inl 28), .inr (.inl 128)], [(28, 30)], (0, 0, 0), [], [])
def th_55 : List (Nat × HA) := []
/-- EarCode$Log.become -/
def tk_56 : CN := (46, [.inr (.inl 28), .inr (.inl 140)], [(28, 30)], (0, 0, 0), [], [])
def th_56 : List (Nat × HA) := []
/-- EarCode$Log.become -/
def tk_57 : CN := (46, [.inr (.inl 28), .inr (.inl 152)], [(28, 30)], (0, 0, 0), [], [])
def th_57 : List (Nat × HA) := []
/-- EarCode$Log.become -/
def tk_58 : CN := (46, [.inr (.inl 28), .inr (.inl 164)], [(28, 30)], (0, 0, 0), [], [])
def th_58 : List (Nat × HA) := []
/-- EarCode$Log.become -/
def tk_59 : CN := (46, [.inr (.inl 28), .inr (.inl 188)], [(28, 30)], (0, 0, 0), [], [])
def th_59 : List (Nat × HA) := []
/-- EarCode$Log.become -/
def tk_60 : CN := (46, [.inr (.inl 40), .inr (.inl 28)], [(40, 42)], (0, 0, 0), [], [])
def th_60 : List (Nat × HA) := []
/-- EarCode$Log.become -/
def tk_61 : CN := (46, [.inr (.inl 56), .inr (.inl 28)], [(56, 58)], (0, 0, 0), [], [])
def th_61 : List (Nat × HA) := []
/-- EarCode$Log.become -/
def tk_62 : CN := (46, [.inr (.inl 68), .inr (.inl 28)], [(68, 70)], (0, 0, 0), [], [])
def th_62 : List (Nat × HA) := []
/-- EarCode$Log.become -/
def tk_63 : CN := (46, [.inr (.inl 80), .inr (.inl 28)], [(80, 82)], (0, 0, 0), [], [])
def th_63 : List (Nat × HA) := []
/-- EarCode$Log.become -/
def tk_64 : CN := (46, [.inr (.inl 92), .inr (.inl 28)], [(92, 94)], (0, 0, 0), [], [])
def th_64 : List (Nat × HA) := []
/-- EarCode$Log.become -/
def tk_65 : CN := (46, [.inr (.inl 104), .inr (.inl 28)], [(104, 106)], (0, 0, 0), [], [])
def th_65 : List (Nat × HA) := []
/-- EarCode$Log.become -/
def tk_66 : CN := (46, [.inr (.inl 116), .inr (.inl 28)], [(116, 118)], (0, 0, 0), [], [])
def th_66 : List (Nat × HA) := []
/-- EarCode$Log.become -/
def tk_67 : CN := (46, [.inr (.inl 128), .inr (.inl 28)], [(128, 130)], (0, 0, 0), [], [])
def th_67 : List (Nat × HA) := []
/-- EarCode$Log.become -/
def tk_68 : CN := (46, [.inr (.inl 140), .inr (.inl 28)], [(140, 142)], (0, 0, 0), [], [])
def th_68 : List (Nat × HA) := []
/-- EarCode$Log.become -/
def tk_69 : CN := (46, [.inr (.inl 152), .inr (.inl 28)], [(152, 154)], (0, 0, 0), [], [])
def th_69 : List (Nat × HA) := []
/-- EarCode$Log.become -/
def tk_70 : CN := (46, [.inr (.inl 164), .inr (.inl 28)], [(164, 166)], (0, 0, 0), [], [])
def th_70 : List (Nat × HA) := []
/-- EarCode$Log.become -/
def tk_71 : CN := (46, [.inr (.inl 188), .inr (.inl 28)], [(188, 190)], (0, 0, 0), [], [])
def th_71 : List (Nat × HA) := []
/-- EarCode$Log.add -/
def tk_72 : CN := (47, [.inr (.inl 28), .inl ((-2147483648), 2147483647), .inl (0, 9), .inl (0, 63), .inl ((-1), 11)], [(28, 30)], (0, 0, 0), [], [])
def th_72 : List (Nat × HA) := []
/-- EarCode$Log.add -/
def tk_73 : CN := (47, [.inr (.inl 40), .inl ((-2147483648), 2147483647), .inl (0, 9), .inl (0, 63), .inl ((-1), 11)], [(40, 42)], (0, 0, 0), [], [])
def th_73 : List (Nat × HA) := []
/-- EarCode$Log.clausesOf -/
def tk_74 : CN := (49, [.inr (.inl 28), .inl ((-1), 9)], [], (1, (-2147483648), 2147483647), [], [])
def th_74 : List (Nat × HA) := [(4, ([(0, .inr (.inl 28)), (1, .inl ((-1), 9)), (2, .inl ((-2147483648), 2147483647)), (3, .inl (0, 60))], [], 60, [(1, .inl 3)]))]
/-- EarCode$Log.mostFrequentClause -/
def tk_75 : CN := (50, [.inr (.inl 28)], [], (1, (-1), 11), [], [])
def th_75 : List (Nat × HA) := [(6, ([(0, .inr (.inl 28)), (1, .inl ((-1), 11)), (2, .inl (0, 2147483647)), (3, .inl (0, 12))], [], 805, [(62, .inl 3), (1, .inr none)])), (18, ([(0, .inr (.inl 28)), (1, .inl ((-1), 11)), (2, .inl (0, 2147483647)), (3, .inl (0, 11)), (4, .inl ((-2147483648), 2147483647)), (5, .inl (0, 60))], [], 804, [(62, .inl 3), (1, .inl 5)]))]
/-- EarCode$World.become -/
def tk_76 : CN := (101, [.inr (.inl 46), .inr (.inl 18)], [(46, 58)], (0, 0, 0), [], [])
def th_76 : List (Nat × HA) := []
/-- EarCode$World.become -/
def tk_77 : CN := (101, [.inr (.inl 58), .inr (.inl 18)], [(58, 70)], (0, 0, 0), [], [])
def th_77 : List (Nat × HA) := []
/-- EarCode$World.become -/
def tk_78 : CN := (101, [.inr (.inl 70), .inr (.inl 18)], [(70, 82)], (0, 0, 0), [], [])
def th_78 : List (Nat × HA) := []
/-- EarCode$World.become -/
def tk_79 : CN := (101, [.inr (.inl 82), .inr (.inl 18)], [(82, 94)], (0, 0, 0), [], [])
def th_79 : List (Nat × HA) := []
/-- EarCode$World.become -/
def tk_80 : CN := (101, [.inr (.inl 94), .inr (.inl 18)], [(94, 106)], (0, 0, 0), [], [])
def th_80 : List (Nat × HA) := []
/-- EarCode$World.become -/
def tk_81 : CN := (101, [.inr (.inl 106), .inr (.inl 18)], [(106, 118)], (0, 0, 0), [], [])
def th_81 : List (Nat × HA) := []
/-- EarCode$World.become -/
def tk_82 : CN := (101, [.inr (.inl 118), .inr (.inl 18)], [(118, 130)], (0, 0, 0), [], [])
def th_82 : List (Nat × HA) := []
/-- EarCode$World.become -/
def tk_83 : CN := (101, [.inr (.inl 130), .inr (.inl 18)], [(130, 142)], (0, 0, 0), [], [])
def th_83 : List (Nat × HA) := []
/-- EarCode$World.become -/
def tk_84 : CN := (101, [.inr (.inl 142), .inr (.inl 18)], [(142, 154)], (0, 0, 0), [], [])
def th_84 : List (Nat × HA) := []
/-- EarCode$World.become -/
def tk_85 : CN := (101, [.inr (.inl 154), .inr (.inl 18)], [(154, 166)], (0, 0, 0), [], [])
def th_85 : List (Nat × HA) := []
/-- EarCode$Memory.remember -/
def tk_86 : CN := (52, [.inr (.inl 44), .inr (.inl 18)], [(44, 45), (46, 166)], (0, 0, 0), [], [])
def th_86 : List (Nat × HA) := []
/-- EarCode$World.become -/
def tk_87 : CN := (101, [.inr (.inl 18), .inr (.inl 46)], [(18, 30)], (0, 0, 0), [], [])
def th_87 : List (Nat × HA) := []
/-- EarCode$World.become -/
def tk_88 : CN := (101, [.inr (.inl 18), .inr (.inl 58)], [(18, 30)], (0, 0, 0), [], [])
def th_88 : List (Nat × HA) := []
/-- EarCode$World.become -/
def tk_89 : CN := (101, [.inr (.inl 18), .inr (.inl 70)], [(18, 30)], (0, 0, 0), [], [])
def th_89 : List (Nat × HA) := []
/-- EarCode$World.become -/
def tk_90 : CN := (101, [.inr (.inl 18), .inr (.inl 82)], [(18, 30)], (0, 0, 0), [], [])
def th_90 : List (Nat × HA) := []
/-- EarCode$World.become -/
def tk_91 : CN := (101, [.inr (.inl 18), .inr (.inl 94)], [(18, 30)], (0, 0, 0), [], [])
def th_91 : List (Nat × HA) := []
/-- EarCode$World.become -/
def tk_92 : CN := (101, [.inr (.inl 18), .inr (.inl 106)], [(18, 30)], (0, 0, 0), [], [])
def th_92 : List (Nat × HA) := []
/-- EarCode$World.become -/
def tk_93 : CN := (101, [.inr (.inl 18), .inr (.inl 118)], [(18, 30)], (0, 0, 0), [], [])
def th_93 : List (Nat × HA) := []
/-- EarCode$World.become -/
def tk_94 : CN := (101, [.inr (.inl 18), .inr (.inl 130)], [(18, 30)], (0, 0, 0), [], [])
def th_94 : List (Nat × HA) := []
/-- EarCode$World.become -/
def tk_95 : CN := (101, [.inr (.inl 18), .inr (.inl 142)], [(18, 30)], (0, 0, 0), [], [])
def th_95 : List (Nat × HA) := []
/-- EarCode$World.become -/
def tk_96 : CN := (101, [.inr (.inl 18), .inr (.inl 154)], [(18, 30)], (0, 0, 0), [], [])
def th_96 : List (Nat × HA) := []
/-- EarCode$Memory.takeBack -/
def tk_97 : CN := (53, [.inr (.inl 44), .inr (.inl 18)], [(18, 30), (44, 45)], (1, 0, 1), [], [])
def th_97 : List (Nat × HA) := []
/-- EarCode$Outlook.foresee -/
def tk_98 : CN := (57, [.inr (.inl 169), .inl (0, 9), .inl (0, 5), .inl (0, 64), .inl (1, 60)], [(170, 171)], (0, 0, 0), [], [])
def th_98 : List (Nat × HA) := [(3, ([(0, .inr (.inl 169)), (1, .inl (0, 9)), (2, .inl (0, 5)), (3, .inl (0, 64)), (4, .inl (1, 60)), (5, .inl (0, 60))], [], 60, [(1, .inl 5)]))]
/-- EarCode$Outlook.riskyDays -/
def tk_99 : CN := (58, [.inr (.inl 169), .inl (1, 60), .inl ((-2147483648), 2147483647), .inl ((-2147483648), 2147483647)], [], (1, (-2147483648), 2147483647), [], [])
def th_99 : List (Nat × HA) := [(6, ([(0, .inr (.inl 169)), (1, .inl (1, 60)), (2, .inl ((-2147483648), 2147483647)), (3, .inl ((-2147483648), 2147483647)), (4, .inl ((-2147483648), 2147483647)), (5, .inl (0, 60))], [], 60, [(1, .inl 5)]))]
/-- EarCode$Outlook.bestStart -/
def tk_100 : CN := (59, [.inr (.inl 169), .inl (0, 9), .inl (1, 60)], [(170, 171)], (1, 0, 5), [], [])
def th_100 : List (Nat × HA) := [(14, ([(0, .inr (.inl 169)), (1, .inl (0, 9)), (2, .inl (1, 60)), (3, .inl (0, 5)), (4, .inl ((-2147483648), 2147483647)), (5, .inl (1, 6))], [], 6, [(1, .inl 5)]))]
/-- EarCode$Outlook.findTellingOf -/
def tk_101 : CN := (61, [.inr (.inl 169), .inl (0, 9), .inl (1, 60), .inl ((-2147483648), 2147483647)], [(169, 171)], (0, 0, 0), [], [])
def th_101 : List (Nat × HA) := [(40, ([(0, .inr (.inl 169)), (1, .inl (0, 9)), (2, .inl (1, 60)), (3, .inl ((-2147483648), 2147483647)), (4, .inl ((-2147483648), 2147483647)), (5, .inl ((-2147483648), 2147483647)), (6, .inl (0, 12))], [], 12, [(1, .inl 6)]))]
/-- EarCode$Outlook.findTelling -/
def tk_102 : CN := (60, [.inr (.inl 169), .inl (1, 60)], [(169, 171)], (0, 0, 0), [], [])
def th_102 : List (Nat × HA) := [(20, ([(0, .inr (.inl 169)), (1, .inl (1, 60)), (2, .inl ((-2147483648), 2147483647)), (3, .inl (0, 10))], [], 10, [(1, .inl 3)]))]
/-- EarCode$Reading.addNeed -/
def tk_103 : CN := (65, [.inr (.inl 166), .inl (0, 4095)], [(166, 168)], (0, 0, 0), [], [])
def th_103 : List (Nat × HA) := [(2, ([(0, .inr (.inl 166)), (1, .inl (0, 4095)), (2, .inl (0, 133))], [], 133, [(1, .inl 2)]))]
/-- EarCode$Reading.takeRow -/
def tk_104 : CN := (64, [.inr (.inl 166), .inl (0, 255), .inl (0, 255), .inl (0, 255)], [(166, 168)], (1, 0, 1), [], [])
def th_104 : List (Nat × HA) := []
/-- EarCode$Reading.takeRows -/
def tk_105 : CN := (63, [.inr (.inl 166), .inr (.inl 1)], [(166, 168)], (1, 0, 1), [], [])
def th_105 : List (Nat × HA) := [(12, ([(0, .inr (.inl 166)), (1, .inr (.inl 1)), (2, .inl (0, 400))], [], 400, [(1, .inl 2)]))]
/-- EarCode$Reading.meetsNeeds -/
def tk_106 : CN := (67, [.inr (.inl 166), .inl (0, 4095)], [], (1, 0, 1), [], [])
def th_106 : List (Nat × HA) := [(2, ([(0, .inr (.inl 166)), (1, .inl (0, 4095)), (2, .inl (0, 133))], [], 133, [(1, .inl 2)]))]
/-- EarCode$Reading.findCodes -/
def tk_107 : CN := (66, [.inr (.inl 166)], [(166, 167), (168, 169)], (0, 0, 0), [], [])
def th_107 : List (Nat × HA) := [(42, ([(0, .inr (.inl 166)), (1, .inl (0, 4095)), (2, .inl (1, 4096)), (3, .inl (0, 4096))], [], 4096, [(1, .inl 3)]))]
/-- EarCode$Reading.sumOverSubsets -/
def tk_108 : CN := (69, [.inr (.inl 166)], [(168, 169)], (0, 0, 0), [], [])
def th_108 : List (Nat × HA) := [(12, ([(0, .inr (.inl 166)), (1, .inl (1, 4096)), (2, .inl (1, 8190))], [], 33566717, [(4098, .inl 2), (1, .inr none)])), (19, ([(0, .inr (.inl 166)), (1, .inl (2, 4096)), (2, .inl (1, 4095)), (3, .inl (0, 4096))], [], 33566716, [(4098, .inl 2), (1, .inl 3)]))]
/-- EarCode$Reading.bestSplit -/
def tk_109 : CN := (68, [.inr (.inl 166), .inl (0, 9)], [(168, 169)], (1, (-1), 63), [], [])
def th_109 : List (Nat × HA) := [(24, ([(0, .inr (.inl 166)), (1, .inl (0, 9)), (2, .inl (0, 4095)), (3, .inl ((-1), 63)), (4, .inl ((-2147483648), 2147483647)), (5, .inl (0, 64))], [], 64, [(1, .inl 5)]))]
/-- EarCode$RepublicReader.readMatter -/
def tk_110 : CN := (82, [.inr (.inl 43)], [(3, 4)], (1, (-1), 63), [], [])
def th_110 : List (Nat × HA) := []
/-- EarCode$RepublicReader.readHabit -/
def tk_111 : CN := (74, [.inr (.inl 43), .inl (0, 9)], [(3, 4), (35, 37)], (1, 0, 1), [], [])
def th_111 : List (Nat × HA) := [(2, ([(0, .inr (.inl 43)), (1, .inl (0, 9)), (2, .inl (0, 6))], [], 6, [(1, .inl 2)]))]
/-- EarCode$RepublicReader.readKnows -/
def tk_112 : CN := (75, [.inr (.inl 43), .inl (0, 9)], [(3, 4), (31, 32)], (1, 0, 1), [], [(3, 5, 0, 400)])
def th_112 : List (Nat × HA) := [(9, ([(0, .inr (.inl 43)), (1, .inl (0, 9)), (2, .inl (0, 400))], [], 400, [(1, .inl 2)]))]
/-- EarCode$World.addCitizen -/
def tk_113 : CN := (102, [.inr (.inl 30), .inl (0, 100)], [(30, 35), (36, 39)], (1, (-1), 9), [], [])
def th_113 : List (Nat × HA) := []
/-- EarCode$RepublicReader.readCitizen -/
def tk_114 : CN := (73, [.inr (.inl 43)], [(3, 4), (30, 39)], (1, 0, 1), [], [])
def th_114 : List (Nat × HA) := []
/-- EarCode$RepublicReader.readHarm -/
def tk_115 : CN := (78, [.inr (.inl 43)], [(3, 4), (39, 40)], (1, 0, 1), [], [])
def th_115 : List (Nat × HA) := []
/-- EarCode$RepublicReader.readLiving -/
def tk_116 : CN := (81, [.inr (.inl 43), .inl (0, 1), .inl ((-1), 9)], [(3, 4)], (1, (-1), 9), [], [])
def th_116 : List (Nat × HA) := []
/-- EarCode$World.marry -/
def tk_117 : CN := (106, [.inr (.inl 30), .inl (0, 9), .inl (0, 9)], [(31, 32), (34, 35)], (0, 0, 0), [], [])
def th_117 : List (Nat × HA) := []
/-- EarCode$RepublicReader.readWed -/
def tk_118 : CN := (79, [.inr (.inl 43)], [(3, 4), (31, 32), (34, 35)], (1, 0, 1), [], [])
def th_118 : List (Nat × HA) := []
/-- EarCode$RepublicReader.readSeen -/
def tk_119 : CN := (80, [.inr (.inl 43)], [(3, 4), (38, 39)], (1, 0, 1), [], [])
def th_119 : List (Nat × HA) := []
/-- EarCode$RepublicReader.readLine -/
def tk_120 : CN := (72, [.inr (.inl 43)], [(3, 4), (30, 40)], (1, 0, 1), [], [])
def th_120 : List (Nat × HA) := []
/-- EarCode$RepublicReader.readAll -/
def tk_121 : CN := (71, [.inr (.inl 43)], [(3, 4), (30, 40)], (1, (-1), 400), [], [])
def th_121 : List (Nat × HA) := [(16, ([(0, .inr (.inl 43)), (1, .inl (0, 14))], [], 14, [(1, .inl 1)]))]
/-- EarCode$Tape.add -/
def tk_122 : CN := (84, [.inr (.inl 1), .inl ((-2147483648), 2147483647)], [(1, 3)], (0, 0, 0), [], [])
def th_122 : List (Nat × HA) := []
/-- EarCode$Text.split -/
def tk_123 : CN := (88, [.inr (.inl 3), .inr (.inl 1)], [(3, 8)], (0, 0, 0), [], [])
def th_123 : List (Nat × HA) := []
/-- EarCode$World.become -/
def tk_124 : CN := (101, [.inr (.inl 18), .inr (.inl 30)], [(18, 30)], (0, 0, 0), [], [])
def th_124 : List (Nat × HA) := []
/-- EarCode$World.become -/
def tk_125 : CN := (101, [.inr (.inl 18), .inr (.inl 178)], [(18, 30)], (0, 0, 0), [], [])
def th_125 : List (Nat × HA) := []
/-- EarCode$World.become -/
def tk_126 : CN := (101, [.inr (.inl 30), .inr (.inl 18)], [(30, 42)], (0, 0, 0), [], [])
def th_126 : List (Nat × HA) := []
/-- EarCode$World.become -/
def tk_127 : CN := (101, [.inr (.inl 178), .inr (.inl 18)], [(178, 190)], (0, 0, 0), [], [])
def th_127 : List (Nat × HA) := []
/-- EarCode$World.addCitizen -/
def tk_128 : CN := (102, [.inr (.inl 18), .inl ((-2147483648), 2147483647)], [(18, 23), (24, 27)], (1, (-1), 9), [], [])
def th_128 : List (Nat × HA) := []
/-- EarCode$World.bear -/
def tk_129 : CN := (104, [.inr (.inl 18), .inl (0, 9)], [(18, 27)], (1, (-1), 9), [], [])
def th_129 : List (Nat × HA) := [(18, ([(0, .inr (.inl 18)), (1, .inl (0, 9)), (2, .inl (0, 9)), (3, .inl (0, 6))], [], 6, [(1, .inl 3)]))]
/-- EarCode$World.bury -/
def tk_130 : CN := (105, [.inr (.inl 18), .inl (0, 9)], [(18, 19), (21, 23)], (0, 0, 0), [], [])
def th_130 : List (Nat × HA) := []
/-- EarCode$World.marry -/
def tk_131 : CN := (106, [.inr (.inl 18), .inl (0, 9), .inl (0, 9)], [(19, 20), (22, 23)], (0, 0, 0), [], [])
def th_131 : List (Nat × HA) := []
/-- EarCode$World.inForce -/
def tk_132 : CN := (115, [.inr (.inl 30)], [], (1, (-2147483648), 2147483647), [], [])
def th_132 : List (Nat × HA) := [(4, ([(0, .inr (.inl 30)), (1, .inl ((-2147483648), 2147483647)), (2, .inl (0, 10))], [], 10, [(1, .inl 2)]))]
/-- EarCode$World.takenOnes -/
def tk_133 : CN := (117, [.inr (.inl 18)], [], (1, 0, 4095), [], [])
def th_133 : List (Nat × HA) := [(4, ([(0, .inr (.inl 18)), (1, .inl (0, 4095)), (2, .inl (0, 10))], [], 10, [(1, .inl 2)]))]
/-- EarCode$World.takenOnes -/
def tk_134 : CN := (117, [.inr (.inl 30)], [], (1, 0, 4095), [], [])
def th_134 : List (Nat × HA) := [(4, ([(0, .inr (.inl 30)), (1, .inl (0, 4095)), (2, .inl (0, 10))], [], 10, [(1, .inl 2)]))]
/-- EarCode$World.keepsFrom -/
def tk_135 : CN := (120, [.inr (.inl 18), .inr (.inl 8), .inl (0, 9)], [(18, 19)], (1, 0, 1), [], [])
def th_135 : List (Nat × HA) := []
/-- EarCode$World.pickDoers -/
def tk_136 : CN := (119, [.inr (.inl 18), .inr (.inl 8), .inl ((-2147483648), 2147483647)], [(18, 19)], (1, 0, 4095), [], [])
def th_136 : List (Nat × HA) := [(5, ([(0, .inr (.inl 18)), (1, .inr (.inl 8)), (2, .inl ((-2147483648), 2147483647)), (3, .inl (0, 4095)), (4, .inl (0, 10))], [], 10, [(1, .inl 4)]))]
/-- EarCode$World.lowest -/
def tk_137 : CN := (122, [.inl (1, 4095)], [], (1, (-1), 11), [], [])
def th_137 : List (Nat × HA) := [(2, ([(0, .inl (1, 4095)), (1, .inl (0, 12))], [], 12, [(1, .inl 1)]))]
/-- EarCode$World.judge -/
def tk_138 : CN := (121, [.inr (.inl 18), .inr (.inl 8), .inl (0, 9), .inl ((-2147483648), 2147483647), .inl ((-2147483648), 2147483647)], [(18, 19), (21, 22), (26, 27), (28, 30)], (0, 0, 0), [], [])
def th_138 : List (Nat × HA) := [(112, ([(0, .inr (.inl 18)), (1, .inr (.inl 8)), (2, .inl (0, 9)), (3, .inl ((-2147483648), 2147483647)), (4, .inl ((-2147483648), 2147483647)), (5, .inl (0, 63)), (6, .inl (1, 4095)), (7, .inl (0, 10))], [], 10, [(1, .inl 7)]))]
/-- EarCode$World.passDay -/
def tk_139 : CN := (118, [.inr (.inl 18), .inr (.inl 8)], [(18, 19), (21, 22), (25, 27), (28, 30)], (0, 0, 0), [], [])
def th_139 : List (Nat × HA) := [(28, ([(0, .inr (.inl 18)), (1, .inr (.inl 8)), (2, .inl ((-2147483648), 2147483647)), (3, .inl (0, 4095)), (4, .inl ((-2147483648), 2147483647)), (5, .inl (0, 10))], [], 21, [(1, .inl 5), (1, .inr none)])), (66, ([(0, .inr (.inl 18)), (1, .inr (.inl 8)), (2, .inl ((-2147483648), 2147483647)), (3, .inl (0, 4095)), (4, .inl ((-2147483648), 2147483647)), (5, .inl (0, 10))], [], 10, [(1, .inr none), (1, .inl 5)]))]
/-- EarCode$World.keepsFrom -/
def tk_140 : CN := (120, [.inr (.inl 30), .inr (.inl 8), .inl (0, 9)], [(30, 31)], (1, 0, 1), [], [])
def th_140 : List (Nat × HA) := []
/-- EarCode$World.pickDoers -/
def tk_141 : CN := (119, [.inr (.inl 30), .inr (.inl 8), .inl ((-2147483648), 2147483647)], [(30, 31)], (1, 0, 4095), [], [])
def th_141 : List (Nat × HA) := [(5, ([(0, .inr (.inl 30)), (1, .inr (.inl 8)), (2, .inl ((-2147483648), 2147483647)), (3, .inl (0, 4095)), (4, .inl (0, 10))], [], 10, [(1, .inl 4)]))]
/-- EarCode$World.judge -/
def tk_142 : CN := (121, [.inr (.inl 30), .inr (.inl 8), .inl (0, 9), .inl ((-2147483648), 2147483647), .inl ((-2147483648), 2147483647)], [(30, 31), (33, 34), (38, 39), (40, 42)], (0, 0, 0), [], [])
def th_142 : List (Nat × HA) := [(112, ([(0, .inr (.inl 30)), (1, .inr (.inl 8)), (2, .inl (0, 9)), (3, .inl ((-2147483648), 2147483647)), (4, .inl ((-2147483648), 2147483647)), (5, .inl (0, 63)), (6, .inl (1, 4095)), (7, .inl (0, 10))], [], 10, [(1, .inl 7)]))]
/-- EarCode$World.passDay -/
def tk_143 : CN := (118, [.inr (.inl 30), .inr (.inl 8)], [(30, 31), (33, 34), (37, 39), (40, 42)], (0, 0, 0), [], [])
def th_143 : List (Nat × HA) := [(28, ([(0, .inr (.inl 30)), (1, .inr (.inl 8)), (2, .inl ((-2147483648), 2147483647)), (3, .inl (0, 4095)), (4, .inl ((-2147483648), 2147483647)), (5, .inl (0, 10))], [], 21, [(1, .inl 5), (1, .inr none)])), (66, ([(0, .inr (.inl 30)), (1, .inr (.inl 8)), (2, .inl ((-2147483648), 2147483647)), (3, .inl (0, 4095)), (4, .inl ((-2147483648), 2147483647)), (5, .inl (0, 10))], [], 10, [(1, .inr none), (1, .inl 5)]))]
/-- EarCode$World.seersOf -/
def tk_144 : CN := (125, [.inr (.inl 30), .inl (0, 63)], [], (1, (-2147483648), 2147483647), [], [])
def th_144 : List (Nat × HA) := [(4, ([(0, .inr (.inl 30)), (1, .inl (0, 63)), (2, .inl ((-2147483648), 2147483647)), (3, .inl (0, 10))], [], 10, [(1, .inl 3)]))]
/-- EarCode$World.letAllSee -/
def tk_145 : CN := (126, [.inr (.inl 30), .inl (0, 63)], [(38, 39)], (1, 0, 1), [], [])
def th_145 : List (Nat × HA) := [(4, ([(0, .inr (.inl 30)), (1, .inl (0, 63)), (2, .inl (0, 1)), (3, .inl (0, 10))], [], 10, [(1, .inl 3)]))]
/-- EarCode$World.spreadFear -/
def tk_146 : CN := (124, [.inr (.inl 30)], [(38, 39)], (1, 0, 1), [], [])
def th_146 : List (Nat × HA) := [(14, ([(0, .inr (.inl 30)), (1, .inl (0, 1)), (2, .inl ((-1), 62)), (3, .inl (0, 64))], [], 64, [(1, .inl 3)]))]
/-- java/lang/Long.bitCount -/
def tk_147 : CN := (318, [.inr (.inr 0)], [], (1, 0, 127), [], [])
def th_147 : List (Nat × HA) := []
/-- EarCode$World.seenInSum -/
def tk_148 : CN := (127, [.inr (.inl 30)], [], (1, (-2147483648), 2147483647), [], [])
def th_148 : List (Nat × HA) := [(4, ([(0, .inr (.inl 30)), (1, .inl ((-2147483648), 2147483647)), (2, .inl (0, 10))], [], 10, [(1, .inl 2)]))]
/-- EarCode$World.seenByAll -/
def tk_149 : CN := (128, [.inr (.inl 18)], [], (2, 0, 0), [], [])
def th_149 : List (Nat × HA) := [(6, ([(0, .inr (.inl 18)), (1, .inr (.inr 0)), (3, .inl (0, 10))], [], 10, [(1, .inl 3)]))]
/-- EarCode$World.seenByAny -/
def tk_150 : CN := (129, [.inr (.inl 18)], [], (2, 0, 0), [], [])
def th_150 : List (Nat × HA) := [(4, ([(0, .inr (.inl 18)), (1, .inr (.inr 0)), (3, .inl (0, 10))], [], 10, [(1, .inl 3)]))]
/-- EarCode.feed -/
def tk_151 : CN := (131, [.inr (.inl 0), .inl ((-2147483648), 2147483647), .inl ((-2147483648), 2147483647), .inl ((-2147483648), 2147483647), .inl ((-2147483648), 2147483647), .inl ((-2147483648), 2147483647)], [(1, 3)], (1, (-1), 400), [], [])
def th_151 : List (Nat × HA) := []
/-- EarCode.end -/
def tk_152 : CN := (132, [.inr (.inl 0), .inl ((-2147483648), 2147483647)], [(1, 2)], (1, 0, 1), [], [])
def th_152 : List (Nat × HA) := []
/-- EarCode.code -/
def tk_153 : CN := (133, [.inr (.inl 0)], [(0, 2), (3, 18), (44, 45)], (1, 0, 12), [0, 1], [])
def th_153 : List (Nat × HA) := []
/-- EarCode.republic -/
def tk_154 : CN := (134, [.inr (.inl 0)], [(0, 2), (3, 8), (18, 42), (44, 45)], (1, (-2147483648), 2147483647), [0, 3], [])
def th_154 : List (Nat × HA) := []
/-- EarCode.fault -/
def tk_155 : CN := (135, [.inr (.inl 0)], [], (1, (-2147483648), 2147483647), [], [])
def th_155 : List (Nat × HA) := []
/-- EarCode.clause -/
def tk_156 : CN := (136, [.inr (.inl 0), .inl ((-2147483648), 2147483647), .inl ((-2147483648), 2147483647)], [(172, 173)], (1, (-2147483648), 2147483647), [2, 4], [])
def th_156 : List (Nat × HA) := []
/-- EarCode.citizen -/
def tk_157 : CN := (137, [.inr (.inl 0), .inl ((-2147483648), 2147483647), .inl ((-2147483648), 2147483647)], [], (1, (-2147483648), 2147483647), [2, 4], [])
def th_157 : List (Nat × HA) := []
/-- EarCode.seen -/
def tk_158 : CN := (138, [.inr (.inl 0), .inl ((-2147483648), 2147483647)], [], (2, 0, 0), [2], [])
def th_158 : List (Nat × HA) := []
/-- EarCode.habit -/
def tk_159 : CN := (139, [.inr (.inl 0), .inl ((-2147483648), 2147483647), .inl ((-2147483648), 2147483647)], [], (1, (-1), 63), [2], [])
def th_159 : List (Nat × HA) := []
/-- EarCode.matter -/
def tk_160 : CN := (140, [.inr (.inl 0), .inl ((-2147483648), 2147483647), .inl ((-2147483648), 2147483647), .inl ((-2147483648), 2147483647)], [], (1, 0, 4095), [1, 2, 4], [])
def th_160 : List (Nat × HA) := []
/-- EarCode.tell -/
def tk_161 : CN := (141, [.inr (.inl 0), .inl ((-2147483648), 2147483647), .inl ((-2147483648), 2147483647)], [(19, 20), (44, 45), (46, 166)], (1, 0, 63), [1, 2], [])
def th_161 : List (Nat × HA) := []
/-- EarCode.die -/
def tk_162 : CN := (142, [.inr (.inl 0), .inl ((-2147483648), 2147483647)], [(18, 19), (21, 23), (44, 45), (46, 166)], (1, (-2147483648), 2147483647), [1, 2], [])
def th_162 : List (Nat × HA) := []
/-- EarCode.wed -/
def tk_163 : CN := (143, [.inr (.inl 0), .inl ((-2147483648), 2147483647), .inl ((-2147483648), 2147483647)], [(19, 20), (22, 23), (44, 45), (46, 166)], (1, (-2147483648), 2147483647), [0, 1, 2], [])
def th_163 : List (Nat × HA) := []
/-- EarCode.baby -/
def tk_164 : CN := (144, [.inr (.inl 0), .inl ((-2147483648), 2147483647)], [(18, 27), (44, 45), (46, 166)], (1, (-1), 9), [1, 2, 3], [])
def th_164 : List (Nat × HA) := []
/-- EarCode.release -/
def tk_165 : CN := (145, [.inr (.inl 0), .inl ((-2147483648), 2147483647)], [(21, 22), (44, 45), (46, 166)], (1, (-2147483648), 2147483647), [1, 2], [])
def th_165 : List (Nat × HA) := []
/-- EarCode.days -/
def tk_166 : CN := (146, [.inr (.inl 0), .inl ((-2147483648), 2147483647)], [(18, 19), (21, 22), (25, 27), (28, 30), (44, 45), (46, 166)], (1, (-2147483648), 2147483647), [0], [])
def th_166 : List (Nat × HA) := [(28, ([(0, .inr (.inl 0)), (1, .inl (1, 50)), (2, .inl ((-2147483648), 2147483647)), (3, .inl (0, 59))], [], 59, [(1, .inl 3)]))]
/-- EarCode.nobody -/
def tk_167 : CN := (147, [.inr (.inl 0)], [], (1, 0, 255), [], [])
def th_167 : List (Nat × HA) := []
/-- EarCode.relief -/
def tk_168 : CN := (148, [.inr (.inl 0)], [(172, 173)], (1, 0, 4095), [], [])
def th_168 : List (Nat × HA) := []
/-- EarCode.read -/
def tk_169 : CN := (149, [.inr (.inl 0), .inl ((-2147483648), 2147483647)], [(1, 2), (166, 169)], (1, (-2147483648), 2147483647), [0, 4], [])
def th_169 : List (Nat × HA) := []
/-- EarCode.next -/
def tk_170 : CN := (150, [.inr (.inl 0), .inl ((-2147483648), 2147483647)], [(1, 2), (166, 169)], (1, (-1), 63), [0, 1, 2], [])
def th_170 : List (Nat × HA) := []
/-- EarCode.cover -/
def tk_171 : CN := (151, [.inr (.inl 0)], [], (1, 0, 4095), [], [])
def th_171 : List (Nat × HA) := []
/-- EarCode.dies -/
def tk_172 : CN := (152, [.inr (.inl 0), .inl ((-2147483648), 2147483647)], [], (1, (-2147483648), 2147483647), [1, 2], [])
def th_172 : List (Nat × HA) := []
/-- EarCode.heirs -/
def tk_173 : CN := (153, [.inr (.inl 0), .inl ((-2147483648), 2147483647)], [], (1, (-2147483648), 2147483647), [0], [])
def th_173 : List (Nat × HA) := []
/-- EarCode.risk -/
def tk_174 : CN := (154, [.inr (.inl 0), .inl ((-2147483648), 2147483647), .inl ((-2147483648), 2147483647)], [(170, 171)], (1, (-2147483648), 2147483647), [0, 1, 2], [])
def th_174 : List (Nat × HA) := []
/-- EarCode.safe -/
def tk_175 : CN := (155, [.inr (.inl 0), .inl ((-2147483648), 2147483647), .inl ((-2147483648), 2147483647)], [], (1, (-1), 7), [1, 2], [])
def th_175 : List (Nat × HA) := []
/-- EarCode.better -/
def tk_176 : CN := (156, [.inr (.inl 0), .inl ((-2147483648), 2147483647), .inl ((-2147483648), 2147483647)], [(170, 171)], (1, 0, 5), [0, 1, 2], [])
def th_176 : List (Nat × HA) := []
/-- EarCode.telling -/
def tk_177 : CN := (157, [.inr (.inl 0), .inl ((-2147483648), 2147483647), .inl (0, 1)], [(169, 171)], (1, (-2147483648), 2147483647), [0], [])
def th_177 : List (Nat × HA) := []
/-- EarCode.deduced -/
def tk_178 : CN := (158, [.inr (.inl 0), .inl ((-2147483648), 2147483647)], [], (1, 0, 4095), [1, 2], [])
def th_178 : List (Nat × HA) := []
/-- EarCode.hush -/
def tk_179 : CN := (159, [.inr (.inl 0), .inl ((-2147483648), 2147483647)], [], (1, 0, 255), [2], [])
def th_179 : List (Nat × HA) := []
/-- EarCode.usual -/
def tk_180 : CN := (160, [.inr (.inl 0), .inl ((-2147483648), 2147483647)], [], (1, (-1), 7), [2], [])
def th_180 : List (Nat × HA) := []
/-- EarCode.feared -/
def tk_181 : CN := (161, [.inr (.inl 0), .inl (0, 1)], [], (2, 0, 0), [], [])
def th_181 : List (Nat × HA) := []
/-- EarCode.custom -/
def tk_182 : CN := (162, [.inr (.inl 0), .inl ((-2147483648), 2147483647)], [(30, 42)], (1, (-2147483648), 2147483647), [0], [])
def th_182 : List (Nat × HA) := [(22, ([(0, .inr (.inl 0)), (1, .inl (0, 30)), (2, .inl (0, 1)), (3, .inl (0, 59))], [], 59, [(1, .inl 3)]))]
/-- EarCode.settles -/
def tk_183 : CN := (163, [.inr (.inl 0)], [(30, 42)], (1, (-1), 30), [], [])
def th_183 : List (Nat × HA) := [(13, ([(0, .inr (.inl 0)), (1, .inl (0, 59))], [], 59, [(1, .inl 1)]))]
/-- EarCode.provoked -/
def tk_184 : CN := (164, [.inr (.inl 0), .inl ((-2147483648), 2147483647), .inl (0, 1)], [], (1, (-2147483648), 2147483647), [1, 2], [])
def th_184 : List (Nat × HA) := []
/-- EarCode.crowd -/
def tk_185 : CN := (165, [.inr (.inl 0), .inl ((-2147483648), 2147483647), .inl ((-2147483648), 2147483647)], [], (1, 0, 4095), [0, 2], [])
def th_185 : List (Nat × HA) := []
/-- EarCode.witnesses -/
def tk_186 : CN := (166, [.inr (.inl 0), .inl ((-2147483648), 2147483647), .inl ((-2147483648), 2147483647), .inl ((-2147483648), 2147483647)], [], (1, (-2147483648), 2147483647), [0, 2], [])
def th_186 : List (Nat × HA) := []
/-- EarCode.tryDays -/
def tk_187 : CN := (178, [.inr (.inl 0), .inl (0, 40), .inl ((-2147483648), 2147483647)], [(30, 42)], (0, 0, 0), [], [])
def th_187 : List (Nat × HA) := [(21, ([(0, .inr (.inl 0)), (1, .inl (0, 40)), (2, .inl ((-2147483648), 2147483647)), (3, .inl (0, 59))], [], 59, [(1, .inl 3)]))]
/-- EarCode.trial -/
def tk_188 : CN := (167, [.inr (.inl 0), .inl ((-2147483648), 2147483647), .inl ((-2147483648), 2147483647)], [(30, 42)], (1, (-2147483648), 2147483647), [0, 4], [])
def th_188 : List (Nat × HA) := []
/-- EarCode.span -/
def tk_189 : CN := (168, [.inr (.inl 0), .inl ((-2147483648), 2147483647), .inl (0, 1)], [(30, 42)], (1, (-2147483648), 2147483647), [0], [])
def th_189 : List (Nat × HA) := [(12, ([(0, .inr (.inl 0)), (1, .inl (0, 40)), (2, .inl (0, 1)), (3, .inl ((-2147483648), 2147483647)), (4, .inl (1, 7))], [], 7, [(1, .inl 4)]))]
/-- EarCode.first -/
def tk_190 : CN := (169, [.inr (.inl 0)], [(30, 42)], (1, (-1), 40), [], [])
def th_190 : List (Nat × HA) := [(13, ([(0, .inr (.inl 0)), (1, .inl (1, 59))], [], 59, [(1, .inl 1)]))]
/-- EarCode.led -/
def tk_191 : CN := (170, [.inr (.inl 0), .inl ((-2147483648), 2147483647)], [], (1, (-2147483648), 2147483647), [2], [])
def th_191 : List (Nat × HA) := []
/-- EarCode.worst -/
def tk_192 : CN := (171, [.inr (.inl 0)], [], (1, (-1), 11), [], [])
def th_192 : List (Nat × HA) := []
/-- EarCode.log -/
def tk_193 : CN := (172, [.inr (.inl 0), .inl ((-2147483648), 2147483647), .inl ((-2147483648), 2147483647)], [], (1, (-2147483648), 2147483647), [4], [])
def th_193 : List (Nat × HA) := []
/-- EarCode.seed -/
def tk_194 : CN := (173, [.inr (.inl 0), .inl ((-2147483648), 2147483647)], [(18, 19)], (1, (-2147483648), 2147483647), [], [])
def th_194 : List (Nat × HA) := []
/-- EarCode.undo -/
def tk_195 : CN := (174, [.inr (.inl 0)], [(18, 30), (44, 45)], (1, 0, 1), [], [])
def th_195 : List (Nat × HA) := []
/-- EarCode.image -/
def tk_196 : CN := (175, [.inr (.inl 0)], [(0, 1), (173, 190)], (0, 0, 0), [], [])
def th_196 : List (Nat × HA) := []
/-- EarCode.back -/
def tk_197 : CN := (176, [.inr (.inl 0)], [(8, 13), (18, 30), (44, 45)], (1, 0, 1), [], [])
def th_197 : List (Nat × HA) := []
/-- EarCode.count -/
def tk_198 : CN := (177, [.inr (.inl 0), .inl ((-2147483648), 2147483647)], [], (1, (-2147483648), 2147483647), [], [])
def th_198 : List (Nat × HA) := []
def tk_at (m : Nat) : CN := bif Nat.blt m 199 then (bif Nat.blt m 99 then (bif Nat.blt m 49 then (bif Nat.blt m 24 then (bif Nat.blt m 12 then (bif Nat.blt m 6 then (bif Nat.blt m 3 then (bif Nat.blt m 1 then tk_0 else (bif Nat.blt m 2 then tk_1 else tk_2)) else (bif Nat.blt m 4 then tk_3 else (bif Nat.blt m 5 then tk_4 else tk_5))) else (bif Nat.blt m 9 then (bif Nat.blt m 7 then tk_6 else (bif Nat.blt m 8 then tk_7 else tk_8)) else (bif Nat.blt m 10 then tk_9 else (bif Nat.blt m 11 then tk_10 else tk_11)))) else (bif Nat.blt m 18 then (bif Nat.blt m 15 then (bif Nat.blt m 13 then tk_12 else (bif Nat.blt m 14 then tk_13 else tk_14)) else (bif Nat.blt m 16 then tk_15 else (bif Nat.blt m 17 then tk_16 else tk_17))) else (bif Nat.blt m 21 then (bif Nat.blt m 19 then tk_18 else (bif Nat.blt m 20 then tk_19 else tk_20)) else (bif Nat.blt m 22 then tk_21 else (bif Nat.blt m 23 then tk_22 else tk_23))))) else (bif Nat.blt m 36 then (bif Nat.blt m 30 then (bif Nat.blt m 27 then (bif Nat.blt m 25 then tk_24 else (bif Nat.blt m 26 then tk_25 else tk_26)) else (bif Nat.blt m 28 then tk_27 else (bif Nat.blt m 29 then tk_28 else tk_29))) else (bif Nat.blt m 33 then (bif Nat.blt m 31 then tk_30 else (bif Nat.blt m 32 then tk_31 else tk_32)) else (bif Nat.blt m 34 then tk_33 else (bif Nat.blt m 35 then tk_34 else tk_35)))) else (bif Nat.blt m 42 then (bif Nat.blt m 39 then (bif Nat.blt m 37 then tk_36 else (bif Nat.blt m 38 then tk_37 else tk_38)) else (bif Nat.blt m 40 then tk_39 else (bif Nat.blt m 41 then tk_40 else tk_41))) else (bif Nat.blt m 45 then (bif Nat.blt m 43 then tk_42 else (bif Nat.blt m 44 then tk_43 else tk_44)) else (bif Nat.blt m 47 then (bif Nat.blt m 46 then tk_45 else tk_46) else (bif Nat.blt m 48 then tk_47 else tk_48)))))) else (bif Nat.blt m 74 then (bif Nat.blt m 61 then (bif Nat.blt m 55 then (bif Nat.blt m 52 then (bif Nat.blt m 50 then tk_49 else (bif Nat.blt m 51 then tk_50 else tk_51)) else (bif Nat.blt m 53 then tk_52 else (bif Nat.blt m 54 then tk_53 else tk_54))) else (bif Nat.blt m 58 then (bif Nat.blt m 56 then tk_55 else (bif Nat.blt m 57 then tk_56 else tk_57)) else (bif Nat.blt m 59 then tk_58 else (bif Nat.blt m 60 then tk_59 else tk_60)))) else (bif Nat.blt m 67 then (bif Nat.blt m 64 then (bif Nat.blt m 62 then tk_61 else (bif Nat.blt m 63 then tk_62 else tk_63)) else (bif Nat.blt m 65 then tk_64 else (bif Nat.blt m 66 then tk_65 else tk_66))) else (bif Nat.blt m 70 then (bif Nat.blt m 68 then tk_67 else (bif Nat.blt m 69 then tk_68 else tk_69)) else (bif Nat.blt m 72 then (bif Nat.blt m 71 then tk_70 else tk_71) else (bif Nat.blt m 73 then tk_72 else tk_73))))) else (bif Nat.blt m 86 then (bif Nat.blt m 80 then (bif Nat.blt m 77 then (bif Nat.blt m 75 then tk_74 else (bif Nat.blt m 76 then tk_75 else tk_76)) else (bif Nat.blt m 78 then tk_77 else (bif Nat.blt m 79 then tk_78 else tk_79))) else (bif Nat.blt m 83 then (bif Nat.blt m 81 then tk_80 else (bif Nat.blt m 82 then tk_81 else tk_82)) else (bif Nat.blt m 84 then tk_83 else (bif Nat.blt m 85 then tk_84 else tk_85)))) else (bif Nat.blt m 92 then (bif Nat.blt m 89 then (bif Nat.blt m 87 then tk_86 else (bif Nat.blt m 88 then tk_87 else tk_88)) else (bif Nat.blt m 90 then tk_89 else (bif Nat.blt m 91 then tk_90 else tk_91))) else (bif Nat.blt m 95 then (bif Nat.blt m 93 then tk_92 else (bif Nat.blt m 94 then tk_93 else tk_94)) else (bif Nat.blt m 97 then (bif Nat.blt m 96 then tk_95 else tk_96) else (bif Nat.blt m 98 then tk_97 else tk_98))))))) else (bif Nat.blt m 149 then (bif Nat.blt m 124 then (bif Nat.blt m 111 then (bif Nat.blt m 105 then (bif Nat.blt m 102 then (bif Nat.blt m 100 then tk_99 else (bif Nat.blt m 101 then tk_100 else tk_101)) else (bif Nat.blt m 103 then tk_102 else (bif Nat.blt m 104 then tk_103 else tk_104))) else (bif Nat.blt m 108 then (bif Nat.blt m 106 then tk_105 else (bif Nat.blt m 107 then tk_106 else tk_107)) else (bif Nat.blt m 109 then tk_108 else (bif Nat.blt m 110 then tk_109 else tk_110)))) else (bif Nat.blt m 117 then (bif Nat.blt m 114 then (bif Nat.blt m 112 then tk_111 else (bif Nat.blt m 113 then tk_112 else tk_113)) else (bif Nat.blt m 115 then tk_114 else (bif Nat.blt m 116 then tk_115 else tk_116))) else (bif Nat.blt m 120 then (bif Nat.blt m 118 then tk_117 else (bif Nat.blt m 119 then tk_118 else tk_119)) else (bif Nat.blt m 122 then (bif Nat.blt m 121 then tk_120 else tk_121) else (bif Nat.blt m 123 then tk_122 else tk_123))))) else (bif Nat.blt m 136 then (bif Nat.blt m 130 then (bif Nat.blt m 127 then (bif Nat.blt m 125 then tk_124 else (bif Nat.blt m 126 then tk_125 else tk_126)) else (bif Nat.blt m 128 then tk_127 else (bif Nat.blt m 129 then tk_128 else tk_129))) else (bif Nat.blt m 133 then (bif Nat.blt m 131 then tk_130 else (bif Nat.blt m 132 then tk_131 else tk_132)) else (bif Nat.blt m 134 then tk_133 else (bif Nat.blt m 135 then tk_134 else tk_135)))) else (bif Nat.blt m 142 then (bif Nat.blt m 139 then (bif Nat.blt m 137 then tk_136 else (bif Nat.blt m 138 then tk_137 else tk_138)) else (bif Nat.blt m 140 then tk_139 else (bif Nat.blt m 141 then tk_140 else tk_141))) else (bif Nat.blt m 145 then (bif Nat.blt m 143 then tk_142 else (bif Nat.blt m 144 then tk_143 else tk_144)) else (bif Nat.blt m 147 then (bif Nat.blt m 146 then tk_145 else tk_146) else (bif Nat.blt m 148 then tk_147 else tk_148)))))) else (bif Nat.blt m 174 then (bif Nat.blt m 161 then (bif Nat.blt m 155 then (bif Nat.blt m 152 then (bif Nat.blt m 150 then tk_149 else (bif Nat.blt m 151 then tk_150 else tk_151)) else (bif Nat.blt m 153 then tk_152 else (bif Nat.blt m 154 then tk_153 else tk_154))) else (bif Nat.blt m 158 then (bif Nat.blt m 156 then tk_155 else (bif Nat.blt m 157 then tk_156 else tk_157)) else (bif Nat.blt m 159 then tk_158 else (bif Nat.blt m 160 then tk_159 else tk_160)))) else (bif Nat.blt m 167 then (bif Nat.blt m 164 then (bif Nat.blt m 162 then tk_161 else (bif Nat.blt m 163 then tk_162 else tk_163)) else (bif Nat.blt m 165 then tk_164 else (bif Nat.blt m 166 then tk_165 else tk_166))) else (bif Nat.blt m 170 then (bif Nat.blt m 168 then tk_167 else (bif Nat.blt m 169 then tk_168 else tk_169)) else (bif Nat.blt m 172 then (bif Nat.blt m 171 then tk_170 else tk_171) else (bif Nat.blt m 173 then tk_172 else tk_173))))) else (bif Nat.blt m 186 then (bif Nat.blt m 180 then (bif Nat.blt m 177 then (bif Nat.blt m 175 then tk_174 else (bif Nat.blt m 176 then tk_175 else tk_176)) else (bif Nat.blt m 178 then tk_177 else (bif Nat.blt m 179 then tk_178 else tk_179))) else (bif Nat.blt m 183 then (bif Nat.blt m 181 then tk_180 else (bif Nat.blt m 182 then tk_181 else tk_182)) else (bif Nat.blt m 184 then tk_183 else (bif Nat.blt m 185 then tk_184 else tk_185)))) else (bif Nat.blt m 192 then (bif Nat.blt m 189 then (bif Nat.blt m 187 then tk_186 else (bif Nat.blt m 188 then tk_187 else tk_188)) else (bif Nat.blt m 190 then tk_189 else (bif Nat.blt m 191 then tk_190 else tk_191))) else (bif Nat.blt m 195 then (bif Nat.blt m 193 then tk_192 else (bif Nat.blt m 194 then tk_193 else tk_194)) else (bif Nat.blt m 197 then (bif Nat.blt m 196 then tk_195 else tk_196) else (bif Nat.blt m 198 then tk_197 else tk_198)))))))) else tk_0
def th_at (m : Nat) : List (Nat × HA) := bif Nat.blt m 199 then (bif Nat.blt m 99 then (bif Nat.blt m 49 then (bif Nat.blt m 24 then (bif Nat.blt m 12 then (bif Nat.blt m 6 then (bif Nat.blt m 3 then (bif Nat.blt m 1 then th_0 else (bif Nat.blt m 2 then th_1 else th_2)) else (bif Nat.blt m 4 then th_3 else (bif Nat.blt m 5 then th_4 else th_5))) else (bif Nat.blt m 9 then (bif Nat.blt m 7 then th_6 else (bif Nat.blt m 8 then th_7 else th_8)) else (bif Nat.blt m 10 then th_9 else (bif Nat.blt m 11 then th_10 else th_11)))) else (bif Nat.blt m 18 then (bif Nat.blt m 15 then (bif Nat.blt m 13 then th_12 else (bif Nat.blt m 14 then th_13 else th_14)) else (bif Nat.blt m 16 then th_15 else (bif Nat.blt m 17 then th_16 else th_17))) else (bif Nat.blt m 21 then (bif Nat.blt m 19 then th_18 else (bif Nat.blt m 20 then th_19 else th_20)) else (bif Nat.blt m 22 then th_21 else (bif Nat.blt m 23 then th_22 else th_23))))) else (bif Nat.blt m 36 then (bif Nat.blt m 30 then (bif Nat.blt m 27 then (bif Nat.blt m 25 then th_24 else (bif Nat.blt m 26 then th_25 else th_26)) else (bif Nat.blt m 28 then th_27 else (bif Nat.blt m 29 then th_28 else th_29))) else (bif Nat.blt m 33 then (bif Nat.blt m 31 then th_30 else (bif Nat.blt m 32 then th_31 else th_32)) else (bif Nat.blt m 34 then th_33 else (bif Nat.blt m 35 then th_34 else th_35)))) else (bif Nat.blt m 42 then (bif Nat.blt m 39 then (bif Nat.blt m 37 then th_36 else (bif Nat.blt m 38 then th_37 else th_38)) else (bif Nat.blt m 40 then th_39 else (bif Nat.blt m 41 then th_40 else th_41))) else (bif Nat.blt m 45 then (bif Nat.blt m 43 then th_42 else (bif Nat.blt m 44 then th_43 else th_44)) else (bif Nat.blt m 47 then (bif Nat.blt m 46 then th_45 else th_46) else (bif Nat.blt m 48 then th_47 else th_48)))))) else (bif Nat.blt m 74 then (bif Nat.blt m 61 then (bif Nat.blt m 55 then (bif Nat.blt m 52 then (bif Nat.blt m 50 then th_49 else (bif Nat.blt m 51 then th_50 else th_51)) else (bif Nat.blt m 53 then th_52 else (bif Nat.blt m 54 then th_53 else th_54))) else (bif Nat.blt m 58 then (bif Nat.blt m 56 then th_55 else (bif Nat.blt m 57 then th_56 else th_57)) else (bif Nat.blt m 59 then th_58 else (bif Nat.blt m 60 then th_59 else th_60)))) else (bif Nat.blt m 67 then (bif Nat.blt m 64 then (bif Nat.blt m 62 then th_61 else (bif Nat.blt m 63 then th_62 else th_63)) else (bif Nat.blt m 65 then th_64 else (bif Nat.blt m 66 then th_65 else th_66))) else (bif Nat.blt m 70 then (bif Nat.blt m 68 then th_67 else (bif Nat.blt m 69 then th_68 else th_69)) else (bif Nat.blt m 72 then (bif Nat.blt m 71 then th_70 else th_71) else (bif Nat.blt m 73 then th_72 else th_73))))) else (bif Nat.blt m 86 then (bif Nat.blt m 80 then (bif Nat.blt m 77 then (bif Nat.blt m 75 then th_74 else (bif Nat.blt m 76 then th_75 else th_76)) else (bif Nat.blt m 78 then th_77 else (bif Nat.blt m 79 then th_78 else th_79))) else (bif Nat.blt m 83 then (bif Nat.blt m 81 then th_80 else (bif Nat.blt m 82 then th_81 else th_82)) else (bif Nat.blt m 84 then th_83 else (bif Nat.blt m 85 then th_84 else th_85)))) else (bif Nat.blt m 92 then (bif Nat.blt m 89 then (bif Nat.blt m 87 then th_86 else (bif Nat.blt m 88 then th_87 else th_88)) else (bif Nat.blt m 90 then th_89 else (bif Nat.blt m 91 then th_90 else th_91))) else (bif Nat.blt m 95 then (bif Nat.blt m 93 then th_92 else (bif Nat.blt m 94 then th_93 else th_94)) else (bif Nat.blt m 97 then (bif Nat.blt m 96 then th_95 else th_96) else (bif Nat.blt m 98 then th_97 else th_98))))))) else (bif Nat.blt m 149 then (bif Nat.blt m 124 then (bif Nat.blt m 111 then (bif Nat.blt m 105 then (bif Nat.blt m 102 then (bif Nat.blt m 100 then th_99 else (bif Nat.blt m 101 then th_100 else th_101)) else (bif Nat.blt m 103 then th_102 else (bif Nat.blt m 104 then th_103 else th_104))) else (bif Nat.blt m 108 then (bif Nat.blt m 106 then th_105 else (bif Nat.blt m 107 then th_106 else th_107)) else (bif Nat.blt m 109 then th_108 else (bif Nat.blt m 110 then th_109 else th_110)))) else (bif Nat.blt m 117 then (bif Nat.blt m 114 then (bif Nat.blt m 112 then th_111 else (bif Nat.blt m 113 then th_112 else th_113)) else (bif Nat.blt m 115 then th_114 else (bif Nat.blt m 116 then th_115 else th_116))) else (bif Nat.blt m 120 then (bif Nat.blt m 118 then th_117 else (bif Nat.blt m 119 then th_118 else th_119)) else (bif Nat.blt m 122 then (bif Nat.blt m 121 then th_120 else th_121) else (bif Nat.blt m 123 then th_122 else th_123))))) else (bif Nat.blt m 136 then (bif Nat.blt m 130 then (bif Nat.blt m 127 then (bif Nat.blt m 125 then th_124 else (bif Nat.blt m 126 then th_125 else th_126)) else (bif Nat.blt m 128 then th_127 else (bif Nat.blt m 129 then th_128 else th_129))) else (bif Nat.blt m 133 then (bif Nat.blt m 131 then th_130 else (bif Nat.blt m 132 then th_131 else th_132)) else (bif Nat.blt m 134 then th_133 else (bif Nat.blt m 135 then th_134 else th_135)))) else (bif Nat.blt m 142 then (bif Nat.blt m 139 then (bif Nat.blt m 137 then th_136 else (bif Nat.blt m 138 then th_137 else th_138)) else (bif Nat.blt m 140 then th_139 else (bif Nat.blt m 141 then th_140 else th_141))) else (bif Nat.blt m 145 then (bif Nat.blt m 143 then th_142 else (bif Nat.blt m 144 then th_143 else th_144)) else (bif Nat.blt m 147 then (bif Nat.blt m 146 then th_145 else th_146) else (bif Nat.blt m 148 then th_147 else th_148)))))) else (bif Nat.blt m 174 then (bif Nat.blt m 161 then (bif Nat.blt m 155 then (bif Nat.blt m 152 then (bif Nat.blt m 150 then th_149 else (bif Nat.blt m 151 then th_150 else th_151)) else (bif Nat.blt m 153 then th_152 else (bif Nat.blt m 154 then th_153 else th_154))) else (bif Nat.blt m 158 then (bif Nat.blt m 156 then th_155 else (bif Nat.blt m 157 then th_156 else th_157)) else (bif Nat.blt m 159 then th_158 else (bif Nat.blt m 160 then th_159 else th_160)))) else (bif Nat.blt m 167 then (bif Nat.blt m 164 then (bif Nat.blt m 162 then th_161 else (bif Nat.blt m 163 then th_162 else th_163)) else (bif Nat.blt m 165 then th_164 else (bif Nat.blt m 166 then th_165 else th_166))) else (bif Nat.blt m 170 then (bif Nat.blt m 168 then th_167 else (bif Nat.blt m 169 then th_168 else th_169)) else (bif Nat.blt m 172 then (bif Nat.blt m 171 then th_170 else th_171) else (bif Nat.blt m 173 then th_172 else th_173))))) else (bif Nat.blt m 186 then (bif Nat.blt m 180 then (bif Nat.blt m 177 then (bif Nat.blt m 175 then th_174 else (bif Nat.blt m 176 then th_175 else th_176)) else (bif Nat.blt m 178 then th_177 else (bif Nat.blt m 179 then th_178 else th_179))) else (bif Nat.blt m 183 then (bif Nat.blt m 181 then th_180 else (bif Nat.blt m 182 then th_181 else th_182)) else (bif Nat.blt m 184 then th_183 else (bif Nat.blt m 185 then th_184 else th_185)))) else (bif Nat.blt m 192 then (bif Nat.blt m 189 then (bif Nat.blt m 187 then th_186 else (bif Nat.blt m 188 then th_187 else th_188)) else (bif Nat.blt m 190 then th_189 else (bif Nat.blt m 191 then th_190 else th_191))) else (bif Nat.blt m 195 then (bif Nat.blt m 193 then th_192 else (bif Nat.blt m 194 then th_193 else th_194)) else (bif Nat.blt m 197 then (bif Nat.blt m 196 then th_195 else th_196) else (bif Nat.blt m 198 then th_197 else th_198)))))))) else []
/-- the contracts of a method, by rank -/
def tb_K (m : Nat) : List Nat := bif Nat.blt m 388 then (bif Nat.blt m 120 then (bif Nat.blt m 52 then (bif Nat.blt m 26 then (bif Nat.blt m 16 then (bif Nat.blt m 12 then (bif Nat.blt m 10 then (bif Nat.blt m 8 then (bif Nat.beq m 7 then [5] else []) else (bif Nat.beq m 8 then [3] else [])) else (bif Nat.blt m 11 then (bif Nat.beq m 10 then [10] else []) else (bif Nat.beq m 11 then [6] else []))) else (bif Nat.blt m 14 then (bif Nat.blt m 13 then (bif Nat.beq m 12 then [7] else []) else (bif Nat.beq m 13 then [9] else [])) else (bif Nat.blt m 15 then (bif Nat.beq m 14 then [8] else []) else (bif Nat.beq m 15 then [12] else [])))) else (bif Nat.blt m 21 then (bif Nat.blt m 19 then (bif Nat.blt m 18 then (bif Nat.beq m 16 then [11] else []) else (bif Nat.beq m 18 then [14] else [])) else (bif Nat.blt m 20 then (bif Nat.beq m 19 then [15] else []) else (bif Nat.beq m 20 then [16] else []))) else (bif Nat.blt m 23 then (bif Nat.blt m 22 then (bif Nat.beq m 21 then [18] else []) else (bif Nat.beq m 22 then [17] else [])) else (bif Nat.blt m 24 then (bif Nat.beq m 23 then [20] else []) else (bif Nat.blt m 25 then (bif Nat.beq m 24 then [19] else []) else (bif Nat.beq m 25 then [22] else [])))))) else (bif Nat.blt m 40 then (bif Nat.blt m 33 then (bif Nat.blt m 28 then (bif Nat.blt m 27 then (bif Nat.beq m 26 then [21] else []) else (bif Nat.beq m 27 then [23] else [])) else (bif Nat.blt m 30 then (bif Nat.beq m 28 then [24] else []) else (bif Nat.beq m 30 then [25, 26, 27] else []))) else (bif Nat.blt m 36 then (bif Nat.blt m 34 then (bif Nat.beq m 33 then [28] else []) else (bif Nat.beq m 34 then [29] else [])) else (bif Nat.blt m 37 then (bif Nat.beq m 36 then [1] else []) else (bif Nat.blt m 39 then (bif Nat.beq m 37 then [0] else []) else (bif Nat.beq m 39 then [47] else []))))) else (bif Nat.blt m 44 then (bif Nat.blt m 42 then (bif Nat.blt m 41 then (bif Nat.beq m 40 then [46] else []) else (bif Nat.beq m 41 then [45] else [])) else (bif Nat.blt m 43 then (bif Nat.beq m 42 then [44] else []) else (bif Nat.beq m 43 then [31] else []))) else (bif Nat.blt m 47 then (bif Nat.blt m 46 then (bif Nat.beq m 44 then [30] else []) else (bif Nat.beq m 46 then [48, 49, 50, 51, 52, 53, 54, 55, 56, 57, 58, 59, 60, 61, 62, 63, 64, 65, 66, 67, 68, 69, 70, 71] else [])) else (bif Nat.blt m 49 then (bif Nat.beq m 47 then [72, 73] else []) else (bif Nat.blt m 50 then (bif Nat.beq m 49 then [74] else []) else (bif Nat.beq m 50 then [75] else []))))))) else (bif Nat.blt m 75 then (bif Nat.blt m 65 then (bif Nat.blt m 59 then (bif Nat.blt m 57 then (bif Nat.blt m 53 then (bif Nat.beq m 52 then [86] else []) else (bif Nat.beq m 53 then [97] else [])) else (bif Nat.blt m 58 then (bif Nat.beq m 57 then [98] else []) else (bif Nat.beq m 58 then [99] else []))) else (bif Nat.blt m 61 then (bif Nat.blt m 60 then (bif Nat.beq m 59 then [100] else []) else (bif Nat.beq m 60 then [102] else [])) else (bif Nat.blt m 63 then (bif Nat.beq m 61 then [101] else []) else (bif Nat.blt m 64 then (bif Nat.beq m 63 then [105] else []) else (bif Nat.beq m 64 then [104] else []))))) else (bif Nat.blt m 69 then (bif Nat.blt m 67 then (bif Nat.blt m 66 then (bif Nat.beq m 65 then [103] else []) else (bif Nat.beq m 66 then [107] else [])) else (bif Nat.blt m 68 then (bif Nat.beq m 67 then [106] else []) else (bif Nat.beq m 68 then [109] else []))) else (bif Nat.blt m 72 then (bif Nat.blt m 71 then (bif Nat.beq m 69 then [108] else []) else (bif Nat.beq m 71 then [121] else [])) else (bif Nat.blt m 73 then (bif Nat.beq m 72 then [120] else []) else (bif Nat.blt m 74 then (bif Nat.beq m 73 then [114] else []) else (bif Nat.beq m 74 then [111] else [])))))) else (bif Nat.blt m 102 then (bif Nat.blt m 81 then (bif Nat.blt m 79 then (bif Nat.blt m 78 then (bif Nat.beq m 75 then [112] else []) else (bif Nat.beq m 78 then [115] else [])) else (bif Nat.blt m 80 then (bif Nat.beq m 79 then [118] else []) else (bif Nat.beq m 80 then [119] else []))) else (bif Nat.blt m 84 then (bif Nat.blt m 82 then (bif Nat.beq m 81 then [116] else []) else (bif Nat.beq m 82 then [110] else [])) else (bif Nat.blt m 88 then (bif Nat.beq m 84 then [122] else []) else (bif Nat.blt m 101 then (bif Nat.beq m 88 then [123] else []) else (bif Nat.beq m 101 then [76, 77, 78, 79, 80, 81, 82, 83, 84, 85, 87, 88, 89, 90, 91, 92, 93, 94, 95, 96, 124, 125, 126, 127] else []))))) else (bif Nat.blt m 115 then (bif Nat.blt m 105 then (bif Nat.blt m 104 then (bif Nat.beq m 102 then [113, 128] else []) else (bif Nat.beq m 104 then [129] else [])) else (bif Nat.blt m 106 then (bif Nat.beq m 105 then [130] else []) else (bif Nat.beq m 106 then [117, 131] else []))) else (bif Nat.blt m 117 then (bif Nat.blt m 116 then (bif Nat.beq m 115 then [4, 132] else []) else (bif Nat.beq m 116 then [13] else [])) else (bif Nat.blt m 118 then (bif Nat.beq m 117 then [133, 134] else []) else (bif Nat.blt m 119 then (bif Nat.beq m 118 then [139, 143] else []) else (bif Nat.beq m 119 then [136, 141] else [])))))))) else (bif Nat.blt m 157 then (bif Nat.blt m 139 then (bif Nat.blt m 129 then (bif Nat.blt m 125 then (bif Nat.blt m 122 then (bif Nat.blt m 121 then (bif Nat.beq m 120 then [135, 140] else []) else (bif Nat.beq m 121 then [138, 142] else [])) else (bif Nat.blt m 124 then (bif Nat.beq m 122 then [137] else []) else (bif Nat.beq m 124 then [146] else []))) else (bif Nat.blt m 127 then (bif Nat.blt m 126 then (bif Nat.beq m 125 then [144] else []) else (bif Nat.beq m 126 then [145] else [])) else (bif Nat.blt m 128 then (bif Nat.beq m 127 then [148] else []) else (bif Nat.beq m 128 then [149] else [])))) else (bif Nat.blt m 134 then (bif Nat.blt m 132 then (bif Nat.blt m 131 then (bif Nat.beq m 129 then [150] else []) else (bif Nat.beq m 131 then [151] else [])) else (bif Nat.blt m 133 then (bif Nat.beq m 132 then [152] else []) else (bif Nat.beq m 133 then [153] else []))) else (bif Nat.blt m 136 then (bif Nat.blt m 135 then (bif Nat.beq m 134 then [154] else []) else (bif Nat.beq m 135 then [155] else [])) else (bif Nat.blt m 137 then (bif Nat.beq m 136 then [156] else []) else (bif Nat.blt m 138 then (bif Nat.beq m 137 then [157] else []) else (bif Nat.beq m 138 then [158] else [])))))) else (bif Nat.blt m 148 then (bif Nat.blt m 143 then (bif Nat.blt m 141 then (bif Nat.blt m 140 then (bif Nat.beq m 139 then [159] else []) else (bif Nat.beq m 140 then [160] else [])) else (bif Nat.blt m 142 then (bif Nat.beq m 141 then [161] else []) else (bif Nat.beq m 142 then [162] else []))) else (bif Nat.blt m 145 then (bif Nat.blt m 144 then (bif Nat.beq m 143 then [163] else []) else (bif Nat.beq m 144 then [164] else [])) else (bif Nat.blt m 146 then (bif Nat.beq m 145 then [165] else []) else (bif Nat.blt m 147 then (bif Nat.beq m 146 then [166] else []) else (bif Nat.beq m 147 then [167] else []))))) else (bif Nat.blt m 152 then (bif Nat.blt m 150 then (bif Nat.blt m 149 then (bif Nat.beq m 148 then [168] else []) else (bif Nat.beq m 149 then [169] else [])) else (bif Nat.blt m 151 then (bif Nat.beq m 150 then [170] else []) else (bif Nat.beq m 151 then [171] else []))) else (bif Nat.blt m 154 then (bif Nat.blt m 153 then (bif Nat.beq m 152 then [172] else []) else (bif Nat.beq m 153 then [173] else [])) else (bif Nat.blt m 155 then (bif Nat.beq m 154 then [174] else []) else (bif Nat.blt m 156 then (bif Nat.beq m 155 then [175] else []) else (bif Nat.beq m 156 then [176] else []))))))) else (bif Nat.blt m 175 then (bif Nat.blt m 166 then (bif Nat.blt m 161 then (bif Nat.blt m 159 then (bif Nat.blt m 158 then (bif Nat.beq m 157 then [177] else []) else (bif Nat.beq m 158 then [178] else [])) else (bif Nat.blt m 160 then (bif Nat.beq m 159 then [179] else []) else (bif Nat.beq m 160 then [180] else []))) else (bif Nat.blt m 163 then (bif Nat.blt m 162 then (bif Nat.beq m 161 then [181] else []) else (bif Nat.beq m 162 then [182] else [])) else (bif Nat.blt m 164 then (bif Nat.beq m 163 then [183] else []) else (bif Nat.blt m 165 then (bif Nat.beq m 164 then [184] else []) else (bif Nat.beq m 165 then [185] else []))))) else (bif Nat.blt m 170 then (bif Nat.blt m 168 then (bif Nat.blt m 167 then (bif Nat.beq m 166 then [186] else []) else (bif Nat.beq m 167 then [188] else [])) else (bif Nat.blt m 169 then (bif Nat.beq m 168 then [189] else []) else (bif Nat.beq m 169 then [190] else []))) else (bif Nat.blt m 172 then (bif Nat.blt m 171 then (bif Nat.beq m 170 then [191] else []) else (bif Nat.beq m 171 then [192] else [])) else (bif Nat.blt m 173 then (bif Nat.beq m 172 then [193] else []) else (bif Nat.blt m 174 then (bif Nat.beq m 173 then [194] else []) else (bif Nat.beq m 174 then [195] else [])))))) else (bif Nat.blt m 361 then (bif Nat.blt m 317 then (bif Nat.blt m 177 then (bif Nat.blt m 176 then (bif Nat.beq m 175 then [196] else []) else (bif Nat.beq m 176 then [197] else [])) else (bif Nat.blt m 178 then (bif Nat.beq m 177 then [198] else []) else (bif Nat.beq m 178 then [187] else []))) else (bif Nat.blt m 358 then (bif Nat.blt m 318 then (bif Nat.beq m 317 then [2] else []) else (bif Nat.beq m 318 then [147] else [])) else (bif Nat.blt m 359 then (bif Nat.beq m 358 then [43] else []) else (bif Nat.blt m 360 then (bif Nat.beq m 359 then [42] else []) else (bif Nat.beq m 360 then [41] else []))))) else (bif Nat.blt m 365 then (bif Nat.blt m 363 then (bif Nat.blt m 362 then (bif Nat.beq m 361 then [40] else []) else (bif Nat.beq m 362 then [39] else [])) else (bif Nat.blt m 364 then (bif Nat.beq m 363 then [38] else []) else (bif Nat.beq m 364 then [37] else []))) else (bif Nat.blt m 367 then (bif Nat.blt m 366 then (bif Nat.beq m 365 then [36] else []) else (bif Nat.beq m 366 then [35] else [])) else (bif Nat.blt m 368 then (bif Nat.beq m 367 then [34] else []) else (bif Nat.blt m 369 then (bif Nat.beq m 368 then [33] else []) else (bif Nat.beq m 369 then [32] else []))))))))) else []
def tk_f (r : Nat) (l : List Nat) : List CN := match l with
  | [] => []
  | q :: t => bif Nat.blt q r then tk_at q :: tk_f r t else tk_f r t
def tb_ct (r m : Nat) : List CN := tk_f r (tb_K m)
def tv_ck (r : Nat) : Bool := cn_ck (tb_P none) tb_G (tb_ct r) (th_at r) (tk_at r) 20000
