/-! a method from its entry (printed by a program) -/
theorem e_X0_isWon {d : Nat} {a0 : Nat} {x1 : Int32} {x2 : Int32} {x3 : Int32} {x4 : Int32} {x5 : Int32} {x6 : Int32} {w : Wd} : sem (d + 1) 0 [.ref a0, .int x1, .int x2, .int x3, .int x4, .int x5, .int x6] w = runs (T_X0_isWon (sem d)) (0, [.ref a0, .int x1, .int x2, .int x3, .int x4, .int x5, .int x6, .null, .null, .null], [], w) := sem_at rfl rfl rfl rfl
theorem e_X0_firstWord {d : Nat} {a0 : Nat} {x1 : Int32} {x2 : Int32} {x3 : Int32} {x4 : Int32} {x5 : Int32} {w : Wd} : sem (d + 1) 1 [.ref a0, .int x1, .int x2, .int x3, .int x4, .int x5] w = runs (T_X0_firstWord (sem d)) (0, [.ref a0, .int x1, .int x2, .int x3, .int x4, .int x5, .null, .null], [], w) := sem_at rfl rfl rfl rfl
theorem e_X1_seen {d : Nat} {w : Wd} : sem (d + 1) 2 [.ref 15] w = runs (T_X1_seen (sem d)) (0, [.ref 15], [], w) := sem_at rfl rfl rfl rfl
theorem e_X1_seeNothing {d : Nat} {w : Wd} : sem (d + 1) 3 [.ref 15] w = runs (T_X1_seeNothing (sem d)) (0, [.ref 15], [], w) := sem_at rfl rfl rfl rfl
theorem e_X1_see {d : Nat} {x1 : Int32} {x2 : Int32} {w : Wd} : sem (d + 1) 4 [.ref 15, .int x1, .int x2] w = runs (T_X1_see (sem d)) (0, [.ref 15, .int x1, .int x2], [], w) := sem_at rfl rfl rfl rfl
theorem e_X1_possible {d : Nat} {a1 : Nat} {w : Wd} : sem (d + 1) 5 [.ref 15, .ref a1] w = runs (T_X1_possible (sem d)) (0, [.ref 15, .ref a1, .null, .null], [], w) := sem_at rfl rfl rfl rfl
theorem e_X1_spellAt {d : Nat} {a1 : Nat} {x2 : Int32} {w : Wd} : sem (d + 1) 6 [.ref 15, .ref a1, .int x2] w = runs (T_X1_spellAt (sem d)) (0, [.ref 15, .ref a1, .int x2, .null, .null, .null], [], w) := sem_at rfl rfl rfl rfl
theorem e_X1_bestToLift {d : Nat} {a1 : Nat} {w : Wd} : sem (d + 1) 7 [.ref 15, .ref a1] w = runs (T_X1_bestToLift (sem d)) (0, [.ref 15, .ref a1, .null, .null, .null, .null], [], w) := sem_at rfl rfl rfl rfl
theorem e_X1_mostLeft {d : Nat} {a1 : Nat} {x2 : Int32} {w : Wd} : sem (d + 1) 8 [.ref 15, .ref a1, .int x2] w = runs (T_X1_mostLeft (sem d)) (0, [.ref 15, .ref a1, .int x2, .null, .null, .null], [], w) := sem_at rfl rfl rfl rfl
theorem e_X1_canBe {d : Nat} {a1 : Nat} {x2 : Int32} {w : Wd} : sem (d + 1) 9 [.ref 15, .ref a1, .int x2] w = runs (T_X1_canBe (sem d)) (0, [.ref 15, .ref a1, .int x2, .null], [], w) := sem_at rfl rfl rfl rfl
theorem e_X1_answerOf {d : Nat} {a0 : Nat} {x1 : Int32} {x2 : Int32} {w : Wd} : sem (d + 1) 10 [.ref a0, .int x1, .int x2] w = runs (T_X1_answerOf (sem d)) (0, [.ref a0, .int x1, .int x2], [], w) := sem_at rfl rfl rfl rfl
theorem e_X2_traced {d : Nat} {w : Wd} : sem (d + 1) 11 [.ref 19] w = runs (T_X2_traced (sem d)) (0, [.ref 19], [], w) := sem_at rfl rfl rfl rfl
theorem e_X2_rating {d : Nat} {x1 : Int32} {a2 : Nat} {x4 : Int32} {w : Wd} : sem (d + 1) 12 [.ref 19, .int x1, .ref a2, .ref 4, .int x4] w = runs (T_X2_rating (sem d)) (0, [.ref 19, .int x1, .ref a2, .ref 4, .int x4], [], w) := sem_at rfl rfl rfl rfl
theorem e_X2_asSpell {d : Nat} {a1 : Nat} {x2 : Int32} {w : Wd} : sem (d + 1) 13 [.ref 19, .ref a1, .int x2] w = runs (T_X2_asSpell (sem d)) (0, [.ref 19, .ref a1, .int x2], [], w) := sem_at rfl rfl rfl rfl
theorem e_X2_asCharm {d : Nat} {a1 : Nat} {x2 : Int32} {w : Wd} : sem (d + 1) 14 [.ref 19, .ref a1, .int x2] w = runs (T_X2_asCharm (sem d)) (0, [.ref 19, .ref a1, .int x2], [], w) := sem_at rfl rfl rfl rfl
theorem e_X2_asCurse {d : Nat} {a1 : Nat} {x2 : Int32} {w : Wd} : sem (d + 1) 15 [.ref 19, .ref a1, .int x2] w = runs (T_X2_asCurse (sem d)) (0, [.ref 19, .ref a1, .int x2], [], w) := sem_at rfl rfl rfl rfl
theorem e_X2_asFlame {d : Nat} {a1 : Nat} {x2 : Int32} {w : Wd} : sem (d + 1) 16 [.ref 19, .ref a1, .int x2] w = runs (T_X2_asFlame (sem d)) (0, [.ref 19, .ref a1, .int x2], [], w) := sem_at rfl rfl rfl rfl
theorem e_X2_asFrost {d : Nat} {a1 : Nat} {x2 : Int32} {w : Wd} : sem (d + 1) 17 [.ref 19, .ref a1, .int x2] w = runs (T_X2_asFrost (sem d)) (0, [.ref 19, .ref a1, .int x2], [], w) := sem_at rfl rfl rfl rfl
theorem e_X2_asWax {d : Nat} {a1 : Nat} {x3 : Int32} {w : Wd} : sem (d + 1) 18 [.ref 19, .ref a1, .ref 4, .int x3] w = runs (T_X2_asWax (sem d)) (0, [.ref 19, .ref a1, .ref 4, .int x3], [], w) := sem_at rfl rfl rfl rfl
theorem e_X3_length {d : Nat} {w : Wd} : sem (d + 1) 19 [.ref 1] w = runs (T_X3_length (sem d)) (0, [.ref 1], [], w) := sem_at rfl rfl rfl rfl
theorem e_X3_empty {d : Nat} {w : Wd} : sem (d + 1) 20 [.ref 1] w = runs (T_X3_empty (sem d)) (0, [.ref 1], [], w) := sem_at rfl rfl rfl rfl
theorem e_X3_hasRoomFor {d : Nat} {x1 : Int32} {w : Wd} : sem (d + 1) 21 [.ref 1, .int x1] w = runs (T_X3_hasRoomFor (sem d)) (0, [.ref 1, .int x1], [], w) := sem_at rfl rfl rfl rfl
theorem e_X3_add {d : Nat} {x1 : Int32} {w : Wd} : sem (d + 1) 22 [.ref 1, .int x1] w = runs (T_X3_add (sem d)) (0, [.ref 1, .int x1], [], w) := sem_at rfl rfl rfl rfl
theorem e_X3_read {d : Nat} {a1 : Nat} {w : Wd} : sem (d + 1) 23 [.ref 1, .ref a1] w = runs (T_X3_read (sem d)) (0, [.ref 1, .ref a1, .null], [], w) := sem_at rfl rfl rfl rfl
theorem e_X3_accepts {d : Nat} {a1 : Nat} {w : Wd} : sem (d + 1) 24 [.ref 1, .ref a1] w = runs (T_X3_accepts (sem d)) (0, [.ref 1, .ref a1], [], w) := sem_at rfl rfl rfl rfl
theorem e_X3_opensItem {d : Nat} {a1 : Nat} {w : Wd} : sem (d + 1) 25 [.ref 1, .ref a1] w = runs (T_X3_opensItem (sem d)) (0, [.ref 1, .ref a1], [], w) := sem_at rfl rfl rfl rfl
theorem e_X3_hasPlaceForItem {d : Nat} {a1 : Nat} {w : Wd} : sem (d + 1) 26 [.ref 1, .ref a1] w = runs (T_X3_hasPlaceForItem (sem d)) (0, [.ref 1, .ref a1], [], w) := sem_at rfl rfl rfl rfl
theorem e_X3_addsNumber {d : Nat} {a1 : Nat} {w : Wd} : sem (d + 1) 27 [.ref 1, .ref a1] w = runs (T_X3_addsNumber (sem d)) (0, [.ref 1, .ref a1], [], w) := sem_at rfl rfl rfl rfl
theorem e_X3_canBeNext {d : Nat} {a1 : Nat} {w : Wd} : sem (d + 1) 28 [.ref 1, .ref a1] w = runs (T_X3_canBeNext (sem d)) (0, [.ref 1, .ref a1], [], w) := sem_at rfl rfl rfl rfl
theorem e_X3_closesItem {d : Nat} {a1 : Nat} {w : Wd} : sem (d + 1) 29 [.ref 1, .ref a1] w = runs (T_X3_closesItem (sem d)) (0, [.ref 1, .ref a1, .null], [], w) := sem_at rfl rfl rfl rfl
theorem e_X3_tell {d : Nat} {a1 : Nat} {w : Wd} : sem (d + 1) 30 [.ref 1, .ref a1] w = runs (T_X3_tell (sem d)) (0, [.ref 1, .ref a1, .null], [], w) := sem_at rfl rfl rfl rfl
theorem e_X3_gatheredRow {d : Nat} {w : Wd} : sem (d + 1) 31 [.ref 1] w = runs (T_X3_gatheredRow (sem d)) (0, [.ref 1, .null, .null], [], w) := sem_at rfl rfl rfl rfl
theorem e_X3_readToken {d : Nat} {w : Wd} : sem (d + 1) 32 [.ref 1] w = runs (T_X3_readToken (sem d)) (0, [.ref 1, .null], [], w) := sem_at rfl rfl rfl rfl
theorem e_X3_readDigits {d : Nat} {w : Wd} : sem (d + 1) 33 [.ref 1] w = runs (T_X3_readDigits (sem d)) (0, [.ref 1, .null], [], w) := sem_at rfl rfl rfl rfl
theorem e_X3_readLetters {d : Nat} {w : Wd} : sem (d + 1) 34 [.ref 1] w = runs (T_X3_readLetters (sem d)) (0, [.ref 1], [], w) := sem_at rfl rfl rfl rfl
theorem e_X3_isWord {d : Nat} {a1 : Nat} {w : Wd} : sem (d + 1) 35 [.ref 1, .ref a1] w = runs (T_X3_isWord (sem d)) (0, [.ref 1, .ref a1, .null], [], w) := sem_at rfl rfl rfl rfl
theorem e_X3_isDigit {d : Nat} {x0 : Int32} {w : Wd} : sem (d + 1) 36 [.int x0] w = runs (T_X3_isDigit (sem d)) (0, [.int x0], [], w) := sem_at rfl rfl rfl rfl
theorem e_X3_isLetter {d : Nat} {x0 : Int32} {w : Wd} : sem (d + 1) 37 [.int x0] w = runs (T_X3_isLetter (sem d)) (0, [.int x0], [], w) := sem_at rfl rfl rfl rfl
theorem e_X4_isFull {d : Nat} {x0 : Int32} {w : Wd} : sem (d + 1) 38 [.int x0] w = runs (T_X4_isFull (sem d)) (0, [.int x0], [], w) := sem_at rfl rfl rfl rfl
theorem e_X4_with {d : Nat} {x0 : Int32} {x1 : Int32} {w : Wd} : sem (d + 1) 39 [.int x0, .int x1] w = runs (T_X4_with (sem d)) (0, [.int x0, .int x1], [], w) := sem_at rfl rfl rfl rfl
theorem e_X4_top {d : Nat} {x0 : Int32} {w : Wd} : sem (d + 1) 40 [.int x0] w = runs (T_X4_top (sem d)) (0, [.int x0], [], w) := sem_at rfl rfl rfl rfl
theorem e_X4_below {d : Nat} {x0 : Int32} {w : Wd} : sem (d + 1) 41 [.int x0] w = runs (T_X4_below (sem d)) (0, [.int x0], [], w) := sem_at rfl rfl rfl rfl
theorem e_X4_without {d : Nat} {x0 : Int32} {x1 : Int32} {w : Wd} : sem (d + 1) 42 [.int x0, .int x1] w = runs (T_X4_without (sem d)) (0, [.int x0, .int x1, .null, .null], [], w) := sem_at rfl rfl rfl rfl
theorem e_X4_fromAbove {d : Nat} {x0 : Int32} {x1 : Int32} {w : Wd} : sem (d + 1) 43 [.int x0, .int x1] w = runs (T_X4_fromAbove (sem d)) (0, [.int x0, .int x1], [], w) := sem_at rfl rfl rfl rfl
theorem e_X4_swapped {d : Nat} {x0 : Int32} {w : Wd} : sem (d + 1) 44 [.int x0] w = runs (T_X4_swapped (sem d)) (0, [.int x0, .null], [], w) := sem_at rfl rfl rfl rfl
theorem e_X4_depth {d : Nat} {x0 : Int32} {w : Wd} : sem (d + 1) 45 [.int x0] w = runs (T_X4_depth (sem d)) (0, [.int x0, .null, .null], [], w) := sem_at rfl rfl rfl rfl
theorem e_X5_beNew {d : Nat} {a0 : Nat} {w : Wd} : sem (d + 1) 46 [.ref a0] w = runs (T_X5_beNew (sem d)) (0, [.ref a0], [], w) := sem_at rfl rfl rfl rfl
theorem e_X5_addSpell {d : Nat} {a0 : Nat} {x1 : Int32} {x2 : Int32} {x3 : Int32} {x4 : Int32} {w : Wd} : sem (d + 1) 47 [.ref a0, .int x1, .int x2, .int x3, .int x4] w = runs (T_X5_addSpell (sem d)) (0, [.ref a0, .int x1, .int x2, .int x3, .int x4], [], w) := sem_at rfl rfl rfl rfl
theorem e_X5_addThing {d : Nat} {a0 : Nat} {x1 : Int32} {w : Wd} : sem (d + 1) 48 [.ref a0, .int x1] w = runs (T_X5_addThing (sem d)) (0, [.ref a0, .int x1], [], w) := sem_at rfl rfl rfl rfl
theorem e_X5_addPupil {d : Nat} {a0 : Nat} {x1 : Int32} {w : Wd} : sem (d + 1) 49 [.ref a0, .int x1] w = runs (T_X5_addPupil (sem d)) (0, [.ref a0, .int x1], [], w) := sem_at rfl rfl rfl rfl
theorem e_X5_setSwapCost {d : Nat} {a0 : Nat} {x1 : Int32} {w : Wd} : sem (d + 1) 50 [.ref a0, .int x1] w = runs (T_X5_setSwapCost (sem d)) (0, [.ref a0, .int x1], [], w) := sem_at rfl rfl rfl rfl
theorem e_X5_setCopyCost {d : Nat} {a0 : Nat} {x1 : Int32} {w : Wd} : sem (d + 1) 51 [.ref a0, .int x1] w = runs (T_X5_setCopyCost (sem d)) (0, [.ref a0, .int x1], [], w) := sem_at rfl rfl rfl rfl
theorem e_X5_setHumDepth {d : Nat} {a0 : Nat} {x1 : Int32} {w : Wd} : sem (d + 1) 52 [.ref a0, .int x1] w = runs (T_X5_setHumDepth (sem d)) (0, [.ref a0, .int x1], [], w) := sem_at rfl rfl rfl rfl
theorem e_X5_spells {d : Nat} {a0 : Nat} {w : Wd} : sem (d + 1) 53 [.ref a0] w = runs (T_X5_spells (sem d)) (0, [.ref a0], [], w) := sem_at rfl rfl rfl rfl
theorem e_X5_things {d : Nat} {a0 : Nat} {w : Wd} : sem (d + 1) 54 [.ref a0] w = runs (T_X5_things (sem d)) (0, [.ref a0], [], w) := sem_at rfl rfl rfl rfl
theorem e_X5_pupils {d : Nat} {a0 : Nat} {w : Wd} : sem (d + 1) 55 [.ref a0] w = runs (T_X5_pupils (sem d)) (0, [.ref a0], [], w) := sem_at rfl rfl rfl rfl
theorem e_X5_costOfSwap {d : Nat} {a0 : Nat} {w : Wd} : sem (d + 1) 56 [.ref a0] w = runs (T_X5_costOfSwap (sem d)) (0, [.ref a0], [], w) := sem_at rfl rfl rfl rfl
theorem e_X5_costOfCopy {d : Nat} {a0 : Nat} {w : Wd} : sem (d + 1) 57 [.ref a0] w = runs (T_X5_costOfCopy (sem d)) (0, [.ref a0], [], w) := sem_at rfl rfl rfl rfl
theorem e_X5_humsFrom {d : Nat} {a0 : Nat} {w : Wd} : sem (d + 1) 58 [.ref a0] w = runs (T_X5_humsFrom (sem d)) (0, [.ref a0], [], w) := sem_at rfl rfl rfl rfl
theorem e_X5_isSpell {d : Nat} {a0 : Nat} {x1 : Int32} {w : Wd} : sem (d + 1) 59 [.ref a0, .int x1] w = runs (T_X5_isSpell (sem d)) (0, [.ref a0, .int x1], [], w) := sem_at rfl rfl rfl rfl
theorem e_X5_isThing {d : Nat} {a0 : Nat} {x1 : Int32} {w : Wd} : sem (d + 1) 60 [.ref a0, .int x1] w = runs (T_X5_isThing (sem d)) (0, [.ref a0, .int x1], [], w) := sem_at rfl rfl rfl rfl
theorem e_X5_isPupil {d : Nat} {a0 : Nat} {x1 : Int32} {w : Wd} : sem (d + 1) 61 [.ref a0, .int x1] w = runs (T_X5_isPupil (sem d)) (0, [.ref a0, .int x1], [], w) := sem_at rfl rfl rfl rfl
theorem e_X5_isPupilSet {d : Nat} {a0 : Nat} {x1 : Int32} {w : Wd} : sem (d + 1) 62 [.ref a0, .int x1] w = runs (T_X5_isPupilSet (sem d)) (0, [.ref a0, .int x1], [], w) := sem_at rfl rfl rfl rfl
theorem e_X5_effectOf {d : Nat} {a0 : Nat} {x1 : Int32} {w : Wd} : sem (d + 1) 63 [.ref a0, .int x1] w = runs (T_X5_effectOf (sem d)) (0, [.ref a0, .int x1], [], w) := sem_at rfl rfl rfl rfl
theorem e_X5_isGlass {d : Nat} {a0 : Nat} {x1 : Int32} {w : Wd} : sem (d + 1) 64 [.ref a0, .int x1] w = runs (T_X5_isGlass (sem d)) (0, [.ref a0, .int x1], [], w) := sem_at rfl rfl rfl rfl
theorem e_X5_layCost {d : Nat} {a0 : Nat} {x1 : Int32} {w : Wd} : sem (d + 1) 65 [.ref a0, .int x1] w = runs (T_X5_layCost (sem d)) (0, [.ref a0, .int x1], [], w) := sem_at rfl rfl rfl rfl
theorem e_X5_liftCost {d : Nat} {a0 : Nat} {x1 : Int32} {w : Wd} : sem (d + 1) 66 [.ref a0, .int x1] w = runs (T_X5_liftCost (sem d)) (0, [.ref a0, .int x1], [], w) := sem_at rfl rfl rfl rfl
theorem e_X5_firstRow {d : Nat} {a0 : Nat} {x1 : Int32} {w : Wd} : sem (d + 1) 67 [.ref a0, .int x1] w = runs (T_X5_firstRow (sem d)) (0, [.ref a0, .int x1], [], w) := sem_at rfl rfl rfl rfl
theorem e_X5_spellsOfPupil {d : Nat} {a0 : Nat} {x1 : Int32} {w : Wd} : sem (d + 1) 68 [.ref a0, .int x1] w = runs (T_X5_spellsOfPupil (sem d)) (0, [.ref a0, .int x1], [], w) := sem_at rfl rfl rfl rfl
theorem e_X5_spellsOfSet {d : Nat} {a0 : Nat} {x1 : Int32} {w : Wd} : sem (d + 1) 69 [.ref a0, .int x1] w = runs (T_X5_spellsOfSet (sem d)) (0, [.ref a0, .int x1, .null, .null], [], w) := sem_at rfl rfl rfl rfl
theorem e_X5_sayersOf {d : Nat} {a0 : Nat} {x1 : Int32} {w : Wd} : sem (d + 1) 70 [.ref a0, .int x1] w = runs (T_X5_sayersOf (sem d)) (0, [.ref a0, .int x1, .null, .null], [], w) := sem_at rfl rfl rfl rfl
theorem e_X5_maySay {d : Nat} {a0 : Nat} {x1 : Int32} {x2 : Int32} {w : Wd} : sem (d + 1) 71 [.ref a0, .int x1, .int x2] w = runs (T_X5_maySay (sem d)) (0, [.ref a0, .int x1, .int x2], [], w) := sem_at rfl rfl rfl rfl
theorem e_X5_mayOneSay {d : Nat} {a0 : Nat} {x1 : Int32} {x2 : Int32} {w : Wd} : sem (d + 1) 72 [.ref a0, .int x1, .int x2] w = runs (T_X5_mayOneSay (sem d)) (0, [.ref a0, .int x1, .int x2, .null], [], w) := sem_at rfl rfl rfl rfl
theorem e_X5_isHumming {d : Nat} {a0 : Nat} {x1 : Int32} {w : Wd} : sem (d + 1) 73 [.ref a0, .int x1] w = runs (T_X5_isHumming (sem d)) (0, [.ref a0, .int x1], [], w) := sem_at rfl rfl rfl rfl
theorem e_X5_knows {d : Nat} {a0 : Nat} {x1 : Int32} {w : Wd} : sem (d + 1) 74 [.ref a0, .int x1] w = runs (T_X5_knows (sem d)) (0, [.ref a0, .int x1, .null, .null], [], w) := sem_at rfl rfl rfl rfl
theorem e_X5_worksOf {d : Nat} {a0 : Nat} {x1 : Int32} {w : Wd} : sem (d + 1) 75 [.ref a0, .int x1] w = runs (T_X5_worksOf (sem d)) (0, [.ref a0, .int x1, .null, .null, .null, .null], [], w) := sem_at rfl rfl rfl rfl
theorem e_X5_after {d : Nat} {a0 : Nat} {x1 : Int32} {x2 : Int32} {x3 : Int32} {w : Wd} : sem (d + 1) 76 [.ref a0, .int x1, .int x2, .int x3] w = runs (T_X5_after (sem d)) (0, [.ref a0, .int x1, .int x2, .int x3, .null, .null], [], w) := sem_at rfl rfl rfl rfl
theorem e_X5_costOf {d : Nat} {a0 : Nat} {x1 : Int32} {x2 : Int32} {w : Wd} : sem (d + 1) 77 [.ref a0, .int x1, .int x2] w = runs (T_X5_costOf (sem d)) (0, [.ref a0, .int x1, .int x2], [], w) := sem_at rfl rfl rfl rfl
theorem e_X5_hasWay {d : Nat} {a0 : Nat} {x1 : Int32} {x2 : Int32} {x3 : Int32} {w : Wd} : sem (d + 1) 78 [.ref a0, .int x1, .int x2, .int x3] w = runs (T_X5_hasWay (sem d)) (0, [.ref a0, .int x1, .int x2, .int x3, .null, .null, .null, .null], [], w) := sem_at rfl rfl rfl rfl
theorem e_X5_fewestFor {d : Nat} {a0 : Nat} {x1 : Int32} {w : Wd} : sem (d + 1) 79 [.ref a0, .int x1] w = runs (T_X5_fewestFor (sem d)) (0, [.ref a0, .int x1, .null, .null], [], w) := sem_at rfl rfl rfl rfl
theorem e_X5_worksOnBase {d : Nat} {a0 : Nat} {x1 : Int32} {x2 : Int32} {w : Wd} : sem (d + 1) 80 [.ref a0, .int x1, .int x2] w = runs (T_X5_worksOnBase (sem d)) (0, [.ref a0, .int x1, .int x2, .null, .null, .null], [], w) := sem_at rfl rfl rfl rfl
theorem e_X6_costOf {d : Nat} {x0 : Int32} {w : Wd} : sem (d + 1) 81 [.int x0] w = runs (T_X6_costOf (sem d)) (0, [.int x0], [], w) := sem_at rfl rfl rfl rfl
theorem e_X6_firstOf {d : Nat} {x0 : Int32} {w : Wd} : sem (d + 1) 82 [.int x0] w = runs (T_X6_firstOf (sem d)) (0, [.int x0], [], w) := sem_at rfl rfl rfl rfl
theorem e_X6_nearest {d : Nat} {a1 : Nat} {x2 : Int32} {x3 : Int32} {x4 : Int32} {w : Wd} : sem (d + 1) 83 [.ref 11, .ref a1, .int x2, .int x3, .int x4] w = runs (T_X6_nearest (sem d)) (0, [.ref 11, .ref a1, .int x2, .int x3, .int x4, .null, .null], [], w) := sem_at rfl rfl rfl rfl
theorem e_X6_goOnFrom {d : Nat} {a1 : Nat} {x2 : Int32} {x3 : Int32} {w : Wd} : sem (d + 1) 84 [.ref 11, .ref a1, .int x2, .int x3] w = runs (T_X6_goOnFrom (sem d)) (0, [.ref 11, .ref a1, .int x2, .int x3, .null, .null, .null, .null], [], w) := sem_at rfl rfl rfl rfl
theorem e_X6_offer {d : Nat} {x1 : Int32} {x2 : Int32} {w : Wd} : sem (d + 1) 85 [.ref 11, .int x1, .int x2] w = runs (T_X6_offer (sem d)) (0, [.ref 11, .int x1, .int x2, .null], [], w) := sem_at rfl rfl rfl rfl
theorem e_X6_takeLeast {d : Nat} {w : Wd} : sem (d + 1) 86 [.ref 11] w = runs (T_X6_takeLeast (sem d)) (0, [.ref 11, .null], [], w) := sem_at rfl rfl rfl rfl
theorem e_X6_rise {d : Nat} {x1 : Int32} {x2 : Int32} {w : Wd} : sem (d + 1) 87 [.ref 11, .int x1, .int x2] w = runs (T_X6_rise (sem d)) (0, [.ref 11, .int x1, .int x2, .null, .null, .null], [], w) := sem_at rfl rfl rfl rfl
theorem e_X6_sink {d : Nat} {x1 : Int32} {w : Wd} : sem (d + 1) 88 [.ref 11, .int x1] w = runs (T_X6_sink (sem d)) (0, [.ref 11, .int x1, .null, .null, .null], [], w) := sem_at rfl rfl rfl rfl
theorem e_X6_labelAt {d : Nat} {x1 : Int32} {w : Wd} : sem (d + 1) 89 [.ref 11, .int x1] w = runs (T_X6_labelAt (sem d)) (0, [.ref 11, .int x1], [], w) := sem_at rfl rfl rfl rfl
theorem e_X6_sit {d : Nat} {x1 : Int32} {x2 : Int32} {w : Wd} : sem (d + 1) 90 [.ref 11, .int x1, .int x2] w = runs (T_X6_sit (sem d)) (0, [.ref 11, .int x1, .int x2], [], w) := sem_at rfl rfl rfl rfl
theorem e_X7_startAs {d : Nat} {a1 : Nat} {w : Wd} : sem (d + 1) 91 [.ref 4, .ref a1] w = runs (T_X7_startAs (sem d)) (0, [.ref 4, .ref a1, .null], [], w) := sem_at rfl rfl rfl rfl
theorem e_X7_rowOf {d : Nat} {x1 : Int32} {w : Wd} : sem (d + 1) 92 [.ref 4, .int x1] w = runs (T_X7_rowOf (sem d)) (0, [.ref 4, .int x1], [], w) := sem_at rfl rfl rfl rfl
theorem e_X7_spent {d : Nat} {w : Wd} : sem (d + 1) 93 [.ref 4] w = runs (T_X7_spent (sem d)) (0, [.ref 4], [], w) := sem_at rfl rfl rfl rfl
theorem e_X7_known {d : Nat} {w : Wd} : sem (d + 1) 94 [.ref 4] w = runs (T_X7_known (sem d)) (0, [.ref 4], [], w) := sem_at rfl rfl rfl rfl
theorem e_X7_change {d : Nat} {x1 : Int32} {x2 : Int32} {x3 : Int32} {w : Wd} : sem (d + 1) 95 [.ref 4, .int x1, .int x2, .int x3] w = runs (T_X7_change (sem d)) (0, [.ref 4, .int x1, .int x2, .int x3], [], w) := sem_at rfl rfl rfl rfl
theorem e_X7_takeBack {d : Nat} {w : Wd} : sem (d + 1) 96 [.ref 4] w = runs (T_X7_takeBack (sem d)) (0, [.ref 4], [], w) := sem_at rfl rfl rfl rfl
theorem e_X7_humming {d : Nat} {a1 : Nat} {w : Wd} : sem (d + 1) 97 [.ref 4, .ref a1] w = runs (T_X7_humming (sem d)) (0, [.ref 4, .ref a1, .null, .null], [], w) := sem_at rfl rfl rfl rfl
theorem e_X7_layers {d : Nat} {w : Wd} : sem (d + 1) 98 [.ref 4] w = runs (T_X7_layers (sem d)) (0, [.ref 4, .null, .null], [], w) := sem_at rfl rfl rfl rfl
theorem e_X7_layersWith {d : Nat} {x1 : Int32} {w : Wd} : sem (d + 1) 99 [.ref 4, .int x1] w = runs (T_X7_layersWith (sem d)) (0, [.ref 4, .int x1, .null, .null, .null], [], w) := sem_at rfl rfl rfl rfl
theorem e_X7_keepImage {d : Nat} {x1 : Int32} {w : Wd} : sem (d + 1) 100 [.ref 4, .int x1] w = runs (T_X7_keepImage (sem d)) (0, [.ref 4, .int x1, .null], [], w) := sem_at rfl rfl rfl rfl
theorem e_X7_becomeImage {d : Nat} {x1 : Int32} {w : Wd} : sem (d + 1) 101 [.ref 4, .int x1] w = runs (T_X7_becomeImage (sem d)) (0, [.ref 4, .int x1, .null], [], w) := sem_at rfl rfl rfl rfl
theorem e_X8_type {d : Nat} {x1 : Int64} {x3 : Int32} {w : Wd} : sem (d + 1) 102 [.ref 0, .long x1, .int x3] w = runs (T_X8_type (sem d)) (0, [.ref 0, .long x1, .null, .int x3, .null], [], w) := sem_at rfl rfl rfl rfl
theorem e_X8_clear {d : Nat} {w : Wd} : sem (d + 1) 103 [.ref 0] w = runs (T_X8_clear (sem d)) (0, [.ref 0, .null], [], w) := sem_at rfl rfl rfl rfl
theorem e_X8_school {d : Nat} {w : Wd} : sem (d + 1) 104 [.ref 0] w = runs (T_X8_school (sem d)) (0, [.ref 0, .null, .null], [], w) := sem_at rfl rfl rfl rfl
theorem e_X8_spell {d : Nat} {x1 : Int32} {x2 : Int32} {w : Wd} : sem (d + 1) 105 [.ref 0, .int x1, .int x2] w = runs (T_X8_spell (sem d)) (0, [.ref 0, .int x1, .int x2], [], w) := sem_at rfl rfl rfl rfl
theorem e_X8_thing {d : Nat} {x1 : Int32} {x2 : Int32} {w : Wd} : sem (d + 1) 106 [.ref 0, .int x1, .int x2] w = runs (T_X8_thing (sem d)) (0, [.ref 0, .int x1, .int x2, .null], [], w) := sem_at rfl rfl rfl rfl
theorem e_X8_layer {d : Nat} {x1 : Int32} {x2 : Int32} {w : Wd} : sem (d + 1) 107 [.ref 0, .int x1, .int x2] w = runs (T_X8_layer (sem d)) (0, [.ref 0, .int x1, .int x2], [], w) := sem_at rfl rfl rfl rfl
theorem e_X8_pupil {d : Nat} {x1 : Int32} {w : Wd} : sem (d + 1) 108 [.ref 0, .int x1] w = runs (T_X8_pupil (sem d)) (0, [.ref 0, .int x1], [], w) := sem_at rfl rfl rfl rfl
theorem e_X8_lay {d : Nat} {x1 : Int32} {x2 : Int32} {x3 : Int32} {w : Wd} : sem (d + 1) 109 [.ref 0, .int x1, .int x2, .int x3] w = runs (T_X8_lay (sem d)) (0, [.ref 0, .int x1, .int x2, .int x3, .null, .null], [], w) := sem_at rfl rfl rfl rfl
theorem e_X8_lift {d : Nat} {x1 : Int32} {x2 : Int32} {w : Wd} : sem (d + 1) 110 [.ref 0, .int x1, .int x2] w = runs (T_X8_lift (sem d)) (0, [.ref 0, .int x1, .int x2, .null, .null], [], w) := sem_at rfl rfl rfl rfl
theorem e_X8_swap {d : Nat} {x1 : Int32} {x2 : Int32} {w : Wd} : sem (d + 1) 111 [.ref 0, .int x1, .int x2] w = runs (T_X8_swap (sem d)) (0, [.ref 0, .int x1, .int x2, .null, .null], [], w) := sem_at rfl rfl rfl rfl
theorem e_X8_copy {d : Nat} {x1 : Int32} {x2 : Int32} {x3 : Int32} {w : Wd} : sem (d + 1) 112 [.ref 0, .int x1, .int x2, .int x3] w = runs (T_X8_copy (sem d)) (0, [.ref 0, .int x1, .int x2, .int x3, .null, .null], [], w) := sem_at rfl rfl rfl rfl
theorem e_X8_undo {d : Nat} {w : Wd} : sem (d + 1) 113 [.ref 0] w = runs (T_X8_undo (sem d)) (0, [.ref 0], [], w) := sem_at rfl rfl rfl rfl
theorem e_X8_now {d : Nat} {x1 : Int32} {w : Wd} : sem (d + 1) 114 [.ref 0, .int x1] w = runs (T_X8_now (sem d)) (0, [.ref 0, .int x1], [], w) := sem_at rfl rfl rfl rfl
theorem e_X8_cheapest {d : Nat} {x1 : Int32} {x2 : Int32} {x3 : Int32} {x4 : Int32} {w : Wd} : sem (d + 1) 115 [.ref 0, .int x1, .int x2, .int x3, .int x4] w = runs (T_X8_cheapest (sem d)) (0, [.ref 0, .int x1, .int x2, .int x3, .int x4, .null, .null], [], w) := sem_at rfl rfl rfl rfl
theorem e_X8_takes {d : Nat} {x1 : Int32} {x2 : Int32} {w : Wd} : sem (d + 1) 116 [.ref 0, .int x1, .int x2] w = runs (T_X8_takes (sem d)) (0, [.ref 0, .int x1, .int x2, .null, .null, .null, .null], [], w) := sem_at rfl rfl rfl rfl
theorem e_X8_learn {d : Nat} {x1 : Int32} {x2 : Int32} {w : Wd} : sem (d + 1) 117 [.ref 0, .int x1, .int x2] w = runs (T_X8_learn (sem d)) (0, [.ref 0, .int x1, .int x2, .null], [], w) := sem_at rfl rfl rfl rfl
theorem e_X8_saw {d : Nat} {x1 : Int32} {x2 : Int32} {w : Wd} : sem (d + 1) 118 [.ref 0, .int x1, .int x2] w = runs (T_X8_saw (sem d)) (0, [.ref 0, .int x1, .int x2], [], w) := sem_at rfl rfl rfl rfl
theorem e_X8_forget {d : Nat} {w : Wd} : sem (d + 1) 119 [.ref 0] w = runs (T_X8_forget (sem d)) (0, [.ref 0, .null], [], w) := sem_at rfl rfl rfl rfl
theorem e_X8_could {d : Nat} {w : Wd} : sem (d + 1) 120 [.ref 0] w = runs (T_X8_could (sem d)) (0, [.ref 0], [], w) := sem_at rfl rfl rfl rfl
theorem e_X8_under {d : Nat} {x1 : Int32} {w : Wd} : sem (d + 1) 121 [.ref 0, .int x1] w = runs (T_X8_under (sem d)) (0, [.ref 0, .int x1], [], w) := sem_at rfl rfl rfl rfl
theorem e_X8_lifted {d : Nat} {w : Wd} : sem (d + 1) 122 [.ref 0] w = runs (T_X8_lifted (sem d)) (0, [.ref 0], [], w) := sem_at rfl rfl rfl rfl
theorem e_X8_broom {d : Nat} {x1 : Int32} {x2 : Int32} {x3 : Int32} {x4 : Int32} {x5 : Int32} {x6 : Int32} {w : Wd} : sem (d + 1) 123 [.ref 0, .int x1, .int x2, .int x3, .int x4, .int x5, .int x6] w = runs (T_X8_broom (sem d)) (0, [.ref 0, .int x1, .int x2, .int x3, .int x4, .int x5, .int x6, .null], [], w) := sem_at rfl rfl rfl rfl
theorem e_X8_odds {d : Nat} {x1 : Int32} {x2 : Int32} {x3 : Int32} {w : Wd} : sem (d + 1) 124 [.ref 0, .int x1, .int x2, .int x3] w = runs (T_X8_odds (sem d)) (0, [.ref 0, .int x1, .int x2, .int x3, .null, .null, .null], [], w) := sem_at rfl rfl rfl rfl
theorem e_X8_rate {d : Nat} {x1 : Int32} {x2 : Int32} {w : Wd} : sem (d + 1) 125 [.ref 0, .int x1, .int x2] w = runs (T_X8_rate (sem d)) (0, [.ref 0, .int x1, .int x2], [], w) := sem_at rfl rfl rfl rfl
theorem e_X8_keep {d : Nat} {x1 : Int32} {w : Wd} : sem (d + 1) 126 [.ref 0, .int x1] w = runs (T_X8_keep (sem d)) (0, [.ref 0, .int x1], [], w) := sem_at rfl rfl rfl rfl
theorem e_X8_back {d : Nat} {x1 : Int32} {w : Wd} : sem (d + 1) 127 [.ref 0, .int x1] w = runs (T_X8_back (sem d)) (0, [.ref 0, .int x1], [], w) := sem_at rfl rfl rfl rfl
theorem e_X8_count {d : Nat} {x1 : Int32} {w : Wd} : sem (d + 1) 128 [.ref 0, .int x1] w = runs (T_X8_count (sem d)) (0, [.ref 0, .int x1], [], w) := sem_at rfl rfl rfl rfl
theorem e_X8_trace {d : Nat} {w : Wd} : sem (d + 1) 129 [.ref 0] w = runs (T_X8_trace (sem d)) (0, [.ref 0], [], w) := sem_at rfl rfl rfl rfl
theorem e_X8_isEffectSet {d : Nat} {x0 : Int32} {w : Wd} : sem (d + 1) 130 [.int x0] w = runs (T_X8_isEffectSet (sem d)) (0, [.int x0], [], w) := sem_at rfl rfl rfl rfl
theorem e_X8_isYesOrNo {d : Nat} {x0 : Int32} {w : Wd} : sem (d + 1) 131 [.int x0] w = runs (T_X8_isYesOrNo (sem d)) (0, [.int x0], [], w) := sem_at rfl rfl rfl rfl
theorem e_X8_power {d : Nat} {x0 : Int32} {x1 : Int32} {w : Wd} : sem (d + 1) 132 [.int x0, .int x1] w = runs (T_X8_power (sem d)) (0, [.int x0, .int x1, .null, .null, .null], [], w) := sem_at rfl rfl rfl rfl
theorem e_X8_at {d : Nat} {a0 : Nat} {x1 : Int32} {w : Wd} : sem (d + 1) 133 [.ref a0, .int x1] w = runs (T_X8_at (sem d)) (0, [.ref a0, .int x1], [], w) := sem_at rfl rfl rfl rfl
theorem e_X8_put {d : Nat} {a0 : Nat} {x1 : Int32} {x2 : Int32} {w : Wd} : sem (d + 1) 134 [.ref a0, .int x1, .int x2] w = runs (T_X8_put (sem d)) (0, [.ref a0, .int x1, .int x2], [], w) := sem_at rfl rfl rfl rfl
theorem e_X9_in {d : Nat} {x0 : Int32} {x1 : Int32} {x2 : Int32} {w : Wd} : sem (d + 1) 135 [.int x0, .int x1, .int x2] w = runs (T_X9_in (sem d)) (0, [.int x0, .int x1, .int x2], [], w) := sem_at rfl rfl rfl rfl
theorem e_X9_ones {d : Nat} {x0 : Int32} {w : Wd} : sem (d + 1) 136 [.int x0] w = runs (T_X9_ones (sem d)) (0, [.int x0, .null, .null], [], w) := sem_at rfl rfl rfl rfl
theorem e_X9_type {d : Nat} {x1 : Int64} {x3 : Int32} {w : Wd} : sem (d + 1) 137 [.ref 34, .long x1, .int x3] w = runs (T_X9_type (sem d)) (0, [.ref 34, .long x1, .null, .int x3, .null], [], w) := sem_at rfl rfl rfl rfl
theorem e_X9_clear {d : Nat} {w : Wd} : sem (d + 1) 138 [.ref 34] w = runs (T_X9_clear (sem d)) (0, [.ref 34, .null], [], w) := sem_at rfl rfl rfl rfl
theorem e_X9_byteAt {d : Nat} {x1 : Int32} {w : Wd} : sem (d + 1) 139 [.ref 34, .int x1] w = runs (T_X9_byteAt (sem d)) (0, [.ref 34, .int x1], [], w) := sem_at rfl rfl rfl rfl
theorem e_X9_add {d : Nat} {x0 : Int64} {x2 : Int32} {w : Wd} : sem (d + 1) 140 [.long x0, .int x2] w = runs (T_X9_add (sem d)) (0, [.long x0, .null, .int x2], [], w) := sem_at rfl rfl rfl rfl
theorem e_X9_named {d : Nat} {x0 : Int32} {x1 : Int32} {x2 : Int32} {x3 : Int32} {x4 : Int32} {w : Wd} : sem (d + 1) 141 [.int x0, .int x1, .int x2, .int x3, .int x4] w = runs (T_X9_named (sem d)) (0, [.int x0, .int x1, .int x2, .int x3, .int x4], [], w) := sem_at rfl rfl rfl rfl
theorem e_X9_wordOf {d : Nat} {x0 : Int64} {w : Wd} : sem (d + 1) 142 [.long x0] w = runs (T_X9_wordOf (sem d)) (0, [.long x0, .null, .null, .null], [], w) := sem_at rfl rfl rfl rfl
theorem e_X9_advances {d : Nat} {w : Wd} : sem (d + 1) 143 [.ref 34] w = runs (T_X9_advances (sem d)) (0, [.ref 34, .null, .null, .null], [], w) := sem_at rfl rfl rfl rfl
theorem e_X9_isWell {d : Nat} {w : Wd} : sem (d + 1) 144 [.ref 34] w = runs (T_X9_isWell (sem d)) (0, [.ref 34], [], w) := sem_at rfl rfl rfl rfl
theorem e_X9_takes {d : Nat} {x1 : Int32} {w : Wd} : sem (d + 1) 145 [.ref 34, .int x1] w = runs (T_X9_takes (sem d)) (0, [.ref 34, .int x1, .null], [], w) := sem_at rfl rfl rfl rfl
theorem e_X9_number {d : Nat} {x1 : Int32} {x2 : Int32} {w : Wd} : sem (d + 1) 146 [.ref 34, .int x1, .int x2] w = runs (T_X9_number (sem d)) (0, [.ref 34, .int x1, .int x2], [], w) := sem_at rfl rfl rfl rfl
theorem e_X9_mayBegin {d : Nat} {w : Wd} : sem (d + 1) 147 [.ref 34] w = runs (T_X9_mayBegin (sem d)) (0, [.ref 34], [], w) := sem_at rfl rfl rfl rfl
theorem e_X9_readsItem {d : Nat} {x1 : Int32} {w : Wd} : sem (d + 1) 148 [.ref 34, .int x1] w = runs (T_X9_readsItem (sem d)) (0, [.ref 34, .int x1, .null, .null], [], w) := sem_at rfl rfl rfl rfl
theorem e_X9_school {d : Nat} {w : Wd} : sem (d + 1) 149 [.ref 34] w = runs (T_X9_school (sem d)) (0, [.ref 34, .null, .null], [], w) := sem_at rfl rfl rfl rfl
theorem e_X9_settles {d : Nat} {w : Wd} : sem (d + 1) 150 [.ref 34] w = runs (T_X9_settles (sem d)) (0, [.ref 34, .null], [], w) := sem_at rfl rfl rfl rfl
theorem e_X9_isSpell {d : Nat} {x1 : Int32} {w : Wd} : sem (d + 1) 151 [.ref 34, .int x1] w = runs (T_X9_isSpell (sem d)) (0, [.ref 34, .int x1], [], w) := sem_at rfl rfl rfl rfl
theorem e_X9_isThing {d : Nat} {x1 : Int32} {w : Wd} : sem (d + 1) 152 [.ref 34, .int x1] w = runs (T_X9_isThing (sem d)) (0, [.ref 34, .int x1], [], w) := sem_at rfl rfl rfl rfl
theorem e_X9_isPupil {d : Nat} {x1 : Int32} {w : Wd} : sem (d + 1) 153 [.ref 34, .int x1] w = runs (T_X9_isPupil (sem d)) (0, [.ref 34, .int x1], [], w) := sem_at rfl rfl rfl rfl
theorem e_X9_spell {d : Nat} {x1 : Int32} {x2 : Int32} {w : Wd} : sem (d + 1) 154 [.ref 34, .int x1, .int x2] w = runs (T_X9_spell (sem d)) (0, [.ref 34, .int x1, .int x2], [], w) := sem_at rfl rfl rfl rfl
theorem e_X9_layersOf {d : Nat} {x0 : Int32} {w : Wd} : sem (d + 1) 155 [.int x0] w = runs (T_X9_layersOf (sem d)) (0, [.int x0, .null, .null], [], w) := sem_at rfl rfl rfl rfl
theorem e_X9_worksOf {d : Nat} {x1 : Int32} {w : Wd} : sem (d + 1) 156 [.ref 34, .int x1] w = runs (T_X9_worksOf (sem d)) (0, [.ref 34, .int x1, .null, .null, .null, .null], [], w) := sem_at rfl rfl rfl rfl
theorem e_X9_thing {d : Nat} {x1 : Int32} {x2 : Int32} {w : Wd} : sem (d + 1) 157 [.ref 34, .int x1, .int x2] w = runs (T_X9_thing (sem d)) (0, [.ref 34, .int x1, .int x2, .null], [], w) := sem_at rfl rfl rfl rfl
theorem e_X9_spellAt {d : Nat} {x0 : Int32} {x1 : Int32} {w : Wd} : sem (d + 1) 158 [.int x0, .int x1] w = runs (T_X9_spellAt (sem d)) (0, [.int x0, .int x1, .null, .null], [], w) := sem_at rfl rfl rfl rfl
theorem e_X9_layer {d : Nat} {x1 : Int32} {x2 : Int32} {w : Wd} : sem (d + 1) 159 [.ref 34, .int x1, .int x2] w = runs (T_X9_layer (sem d)) (0, [.ref 34, .int x1, .int x2, .null], [], w) := sem_at rfl rfl rfl rfl
theorem e_X9_pupil {d : Nat} {x1 : Int32} {w : Wd} : sem (d + 1) 160 [.ref 34, .int x1] w = runs (T_X9_pupil (sem d)) (0, [.ref 34, .int x1], [], w) := sem_at rfl rfl rfl rfl
theorem e_X9_may {d : Nat} {x1 : Int32} {x2 : Int32} {w : Wd} : sem (d + 1) 161 [.ref 34, .int x1, .int x2] w = runs (T_X9_may (sem d)) (0, [.ref 34, .int x1, .int x2], [], w) := sem_at rfl rfl rfl rfl
theorem e_X9_becomes {d : Nat} {x1 : Int32} {x2 : Int32} {x3 : Int32} {w : Wd} : sem (d + 1) 162 [.ref 34, .int x1, .int x2, .int x3] w = runs (T_X9_becomes (sem d)) (0, [.ref 34, .int x1, .int x2, .int x3, .null], [], w) := sem_at rfl rfl rfl rfl
theorem e_X9_lay {d : Nat} {x1 : Int32} {x2 : Int32} {x3 : Int32} {w : Wd} : sem (d + 1) 163 [.ref 34, .int x1, .int x2, .int x3] w = runs (T_X9_lay (sem d)) (0, [.ref 34, .int x1, .int x2, .int x3], [], w) := sem_at rfl rfl rfl rfl
theorem e_X9_lift {d : Nat} {x1 : Int32} {x2 : Int32} {w : Wd} : sem (d + 1) 164 [.ref 34, .int x1, .int x2] w = runs (T_X9_lift (sem d)) (0, [.ref 34, .int x1, .int x2, .null], [], w) := sem_at rfl rfl rfl rfl
theorem e_X9_swapped {d : Nat} {x0 : Int32} {w : Wd} : sem (d + 1) 165 [.int x0] w = runs (T_X9_swapped (sem d)) (0, [.int x0], [], w) := sem_at rfl rfl rfl rfl
theorem e_X9_swap {d : Nat} {x1 : Int32} {x2 : Int32} {w : Wd} : sem (d + 1) 166 [.ref 34, .int x1, .int x2] w = runs (T_X9_swap (sem d)) (0, [.ref 34, .int x1, .int x2, .null, .null], [], w) := sem_at rfl rfl rfl rfl
theorem e_X9_copy {d : Nat} {x1 : Int32} {x2 : Int32} {x3 : Int32} {w : Wd} : sem (d + 1) 167 [.ref 34, .int x1, .int x2, .int x3] w = runs (T_X9_copy (sem d)) (0, [.ref 34, .int x1, .int x2, .int x3, .null], [], w) := sem_at rfl rfl rfl rfl
theorem e_X9_undo {d : Nat} {w : Wd} : sem (d + 1) 168 [.ref 34] w = runs (T_X9_undo (sem d)) (0, [.ref 34, .null], [], w) := sem_at rfl rfl rfl rfl
theorem e_X9_now {d : Nat} {x1 : Int32} {w : Wd} : sem (d + 1) 169 [.ref 34, .int x1] w = runs (T_X9_now (sem d)) (0, [.ref 34, .int x1, .null, .null, .null, .null], [], w) := sem_at rfl rfl rfl rfl
theorem e_X9_canSay {d : Nat} {x1 : Int32} {x2 : Int32} {x3 : Int32} {w : Wd} : sem (d + 1) 170 [.ref 34, .int x1, .int x2, .int x3] w = runs (T_X9_canSay (sem d)) (0, [.ref 34, .int x1, .int x2, .int x3, .null, .null], [], w) := sem_at rfl rfl rfl rfl
theorem e_X9_said {d : Nat} {x1 : Int32} {x2 : Int32} {x3 : Int32} {w : Wd} : sem (d + 1) 171 [.ref 34, .int x1, .int x2, .int x3] w = runs (T_X9_said (sem d)) (0, [.ref 34, .int x1, .int x2, .int x3, .null, .null], [], w) := sem_at rfl rfl rfl rfl
theorem e_X9_costOf {d : Nat} {x1 : Int32} {x2 : Int32} {w : Wd} : sem (d + 1) 172 [.ref 34, .int x1, .int x2] w = runs (T_X9_costOf (sem d)) (0, [.ref 34, .int x1, .int x2, .null], [], w) := sem_at rfl rfl rfl rfl
theorem e_X9_isRow {d : Nat} {x1 : Int32} {w : Wd} : sem (d + 1) 173 [.ref 34, .int x1] w = runs (T_X9_isRow (sem d)) (0, [.ref 34, .int x1, .null, .null], [], w) := sem_at rfl rfl rfl rfl
theorem e_X9_wayFrom {d : Nat} {x1 : Int32} {x2 : Int32} {w : Wd} : sem (d + 1) 174 [.ref 34, .int x1, .int x2] w = runs (T_X9_wayFrom (sem d)) (0, [.ref 34, .int x1, .int x2, .null, .null, .null], [], w) := sem_at rfl rfl rfl rfl
theorem e_X9_sweeps {d : Nat} {x1 : Int32} {x2 : Int32} {w : Wd} : sem (d + 1) 175 [.ref 34, .int x1, .int x2] w = runs (T_X9_sweeps (sem d)) (0, [.ref 34, .int x1, .int x2, .null, .null, .null], [], w) := sem_at rfl rfl rfl rfl
theorem e_X9_cheapest {d : Nat} {x1 : Int32} {x2 : Int32} {x3 : Int32} {x4 : Int32} {w : Wd} : sem (d + 1) 176 [.ref 34, .int x1, .int x2, .int x3, .int x4] w = runs (T_X9_cheapest (sem d)) (0, [.ref 34, .int x1, .int x2, .int x3, .int x4, .null, .null, .null], [], w) := sem_at rfl rfl rfl rfl
theorem e_X9_takes_ {d : Nat} {x1 : Int32} {x2 : Int32} {w : Wd} : sem (d + 1) 177 [.ref 34, .int x1, .int x2] w = runs (T_X9_takes_ (sem d)) (0, [.ref 34, .int x1, .int x2, .null, .null], [], w) := sem_at rfl rfl rfl rfl
theorem e_X9_spellsIn {d : Nat} {x1 : Int32} {w : Wd} : sem (d + 1) 178 [.ref 34, .int x1] w = runs (T_X9_spellsIn (sem d)) (0, [.ref 34, .int x1, .null, .null], [], w) := sem_at rfl rfl rfl rfl
theorem e_X9_learn {d : Nat} {x1 : Int32} {x2 : Int32} {w : Wd} : sem (d + 1) 179 [.ref 34, .int x1, .int x2] w = runs (T_X9_learn (sem d)) (0, [.ref 34, .int x1, .int x2, .null, .null, .null, .null], [], w) := sem_at rfl rfl rfl rfl
theorem e_X9_saw {d : Nat} {x1 : Int32} {x2 : Int32} {w : Wd} : sem (d + 1) 180 [.ref 34, .int x1, .int x2] w = runs (T_X9_saw (sem d)) (0, [.ref 34, .int x1, .int x2], [], w) := sem_at rfl rfl rfl rfl
theorem e_X9_forget {d : Nat} {w : Wd} : sem (d + 1) 181 [.ref 34] w = runs (T_X9_forget (sem d)) (0, [.ref 34, .null], [], w) := sem_at rfl rfl rfl rfl
theorem e_X9_withoutTop {d : Nat} {x0 : Int32} {x1 : Int32} {w : Wd} : sem (d + 1) 182 [.int x0, .int x1] w = runs (T_X9_withoutTop (sem d)) (0, [.int x0, .int x1, .null, .null], [], w) := sem_at rfl rfl rfl rfl
theorem e_X9_isHat {d : Nat} {x1 : Int32} {w : Wd} : sem (d + 1) 183 [.ref 34, .int x1] w = runs (T_X9_isHat (sem d)) (0, [.ref 34, .int x1, .null, .null], [], w) := sem_at rfl rfl rfl rfl
theorem e_X9_could {d : Nat} {w : Wd} : sem (d + 1) 184 [.ref 34] w = runs (T_X9_could (sem d)) (0, [.ref 34, .null, .null], [], w) := sem_at rfl rfl rfl rfl
theorem e_X9_under {d : Nat} {x1 : Int32} {w : Wd} : sem (d + 1) 185 [.ref 34, .int x1] w = runs (T_X9_under (sem d)) (0, [.ref 34, .int x1, .null, .null, .null], [], w) := sem_at rfl rfl rfl rfl
theorem e_X9_atWorst {d : Nat} {x1 : Int32} {w : Wd} : sem (d + 1) 186 [.ref 34, .int x1] w = runs (T_X9_atWorst (sem d)) (0, [.ref 34, .int x1, .null, .null, .null, .null], [], w) := sem_at rfl rfl rfl rfl
theorem e_X9_lifted {d : Nat} {w : Wd} : sem (d + 1) 187 [.ref 34] w = runs (T_X9_lifted (sem d)) (0, [.ref 34, .null, .null, .null], [], w) := sem_at rfl rfl rfl rfl
theorem e_X9_folds {d : Nat} {x1 : Int32} {x2 : Int32} {w : Wd} : sem (d + 1) 188 [.ref 34, .int x1, .int x2] w = runs (T_X9_folds (sem d)) (0, [.ref 34, .int x1, .int x2], [], w) := sem_at rfl rfl rfl rfl
theorem e_X9_played {d : Nat} {x1 : Int32} {x2 : Int32} {x3 : Int32} {x4 : Int32} {x5 : Int32} {w : Wd} : sem (d + 1) 189 [.ref 34, .int x1, .int x2, .int x3, .int x4, .int x5] w = runs (T_X9_played (sem d)) (0, [.ref 34, .int x1, .int x2, .int x3, .int x4, .int x5, .null, .null, .null, .null, .null, .null], [], w) := sem_at rfl rfl rfl rfl
theorem e_X9_broom {d : Nat} {x1 : Int32} {x2 : Int32} {x3 : Int32} {x4 : Int32} {x5 : Int32} {x6 : Int32} {w : Wd} : sem (d + 1) 190 [.ref 34, .int x1, .int x2, .int x3, .int x4, .int x5, .int x6] w = runs (T_X9_broom (sem d)) (0, [.ref 34, .int x1, .int x2, .int x3, .int x4, .int x5, .int x6, .null], [], w) := sem_at rfl rfl rfl rfl
theorem e_X9_gcd {d : Nat} {x0 : Int64} {x2 : Int64} {w : Wd} : sem (d + 1) 191 [.long x0, .long x2] w = runs (T_X9_gcd (sem d)) (0, [.long x0, .null, .long x2, .null, .null, .null, .null, .null, .null, .null], [], w) := sem_at rfl rfl rfl rfl
theorem e_X9_odds {d : Nat} {x1 : Int32} {x2 : Int32} {x3 : Int32} {w : Wd} : sem (d + 1) 192 [.ref 34, .int x1, .int x2, .int x3] w = runs (T_X9_odds (sem d)) (0, [.ref 34, .int x1, .int x2, .int x3, .null, .null, .null, .null, .null, .null], [], w) := sem_at rfl rfl rfl rfl
theorem e_X9_rate {d : Nat} {x1 : Int32} {x2 : Int32} {w : Wd} : sem (d + 1) 193 [.ref 34, .int x1, .int x2] w = runs (T_X9_rate (sem d)) (0, [.ref 34, .int x1, .int x2, .null, .null, .null, .null, .null, .null, .null], [], w) := sem_at rfl rfl rfl rfl
theorem e_X9_keep {d : Nat} {x1 : Int32} {w : Wd} : sem (d + 1) 194 [.ref 34, .int x1] w = runs (T_X9_keep (sem d)) (0, [.ref 34, .int x1, .null], [], w) := sem_at rfl rfl rfl rfl
theorem e_X9_back {d : Nat} {x1 : Int32} {w : Wd} : sem (d + 1) 195 [.ref 34, .int x1] w = runs (T_X9_back (sem d)) (0, [.ref 34, .int x1, .null], [], w) := sem_at rfl rfl rfl rfl
theorem e_X9_count {d : Nat} {x1 : Int32} {w : Wd} : sem (d + 1) 196 [.ref 34, .int x1] w = runs (T_X9_count (sem d)) (0, [.ref 34, .int x1], [], w) := sem_at rfl rfl rfl rfl
theorem e_X9_trace {d : Nat} {w : Wd} : sem (d + 1) 197 [.ref 34] w = runs (T_X9_trace (sem d)) (0, [.ref 34], [], w) := sem_at rfl rfl rfl rfl
theorem e_J6_bitCount_0f7a4 {d : Nat} {x0 : Int32} {w : Wd} : sem (d + 1) 198 [.int x0] w = runs (T_J6_bitCount_0f7a4 (sem d)) (0, [.int x0], [], w) := sem_at rfl rfl rfl rfl
theorem e_J0_length_8abf5 {d : Nat} {a0 : Nat} {w : Wd} : sem (d + 1) 199 [.ref a0] w = runs (T_J0_length_8abf5 (sem d)) (0, [.ref a0], [], w) := sem_at rfl rfl rfl rfl
theorem e_J0_charAt_5068e {d : Nat} {a0 : Nat} {x1 : Int32} {w : Wd} : sem (d + 1) 200 [.ref a0, .int x1] w = runs (T_J0_charAt_5068e (sem d)) (0, [.ref a0, .int x1], [], w) := sem_at rfl rfl rfl rfl
theorem e_J0_coder_7d493 {d : Nat} {a0 : Nat} {w : Wd} : sem (d + 1) 201 [.ref a0] w = runs (T_J0_coder_7d493 (sem d)) (0, [.ref a0], [], w) := sem_at rfl rfl rfl rfl
theorem e_J0_isLatin1_aae02 {d : Nat} {a0 : Nat} {w : Wd} : sem (d + 1) 202 [.ref a0] w = runs (T_J0_isLatin1_aae02 (sem d)) (0, [.ref a0], [], w) := sem_at rfl rfl rfl rfl
theorem e_J0_checkIndex_df160 {d : Nat} {x0 : Int32} {x1 : Int32} {w : Wd} : sem (d + 1) 203 [.int x0, .int x1] w = runs (T_J0_checkIndex_df160 (sem d)) (0, [.int x0, .int x1], [], w) := sem_at rfl rfl rfl rfl
theorem e_J1_charAt_3b067 {d : Nat} {a0 : Nat} {x1 : Int32} {w : Wd} : sem (d + 1) 204 [.ref a0, .int x1] w = runs (T_J1_charAt_3b067 (sem d)) (0, [.ref a0, .int x1], [], w) := sem_at rfl rfl rfl rfl
theorem e_J7_fill_53178 {d : Nat} {a0 : Nat} {x1 : Int32} {w : Wd} : sem (d + 1) 205 [.ref a0, .int x1] w = runs (T_J7_fill_53178 (sem d)) (0, [.ref a0, .int x1, .null, .null], [], w) := sem_at rfl rfl rfl rfl
theorem e_J3_checkIndex_8e157 {d : Nat} {x0 x1 : Int32} {w : Wd} : sem (d + 1) 206 [.int x0, .int x1, .retAddr 0] w = runs (T_J3_checkIndex_8e157 (sem d)) (0, [.int x0, .int x1, .retAddr 0], [], w) := sem_at rfl rfl rfl rfl
