/-- HouseDesk.clear -/
theorem ke_0 {d : Nat} {Q : mm_Q} {σ : mm_S} (k : mw d mt_0 Q 0 [some (.ref 0)] [] σ) : mD (d + 1) 0 [.ref 0] σ Q := Or.inr ⟨rfl, k⟩
/-- HouseDesk.plan -/
theorem ke_1 {d : Nat} {Q : mm_Q} {σ : mm_S} (k : mw d mt_1 Q 0 [some (.ref 0), none] [] σ) : mD (d + 1) 1 [.ref 0] σ Q := Or.inr ⟨rfl, k⟩
/-- HouseDesk.witness -/
theorem ke_2 {d : Nat} {Q : mm_Q} {x1 : Int32} {σ : mm_S} (k : mw d mt_2 Q 0 [some (.ref 0), some (.int x1)] [] σ) : mD (d + 1) 2 [.ref 0, .int x1] σ Q := Or.inr ⟨rfl, k⟩
/-- HouseDesk.wayRoom -/
theorem ke_3 {d : Nat} {Q : mm_Q} {x1 : Int32} {σ : mm_S} (k : mw d mt_3 Q 0 [some (.ref 0), some (.int x1)] [] σ) : mD (d + 1) 3 [.ref 0, .int x1] σ Q := Or.inr ⟨rfl, k⟩
/-- HouseDesk$Bits.has -/
theorem ke_4 {d : Nat} {Q : mm_Q} {x0 x1 : Int32} {σ : mm_S} (k : mw d mt_4 Q 0 [some (.int x0), some (.int x1)] [] σ) : mD (d + 1) 4 [.int x0, .int x1] σ Q := Or.inr ⟨rfl, k⟩
/-- HouseDesk$Bits.lowest -/
theorem ke_5 {d : Nat} {Q : mm_Q} {x0 : Int32} {σ : mm_S} (k : mw d mt_5 Q 0 [some (.int x0), none] [] σ) : mD (d + 1) 5 [.int x0] σ Q := Or.inr ⟨rfl, k⟩
/-- HouseDesk$Bits.withoutLowest -/
theorem ke_6 {d : Nat} {Q : mm_Q} {x0 : Int32} {σ : mm_S} (k : mw d mt_6 Q 0 [some (.int x0)] [] σ) : mD (d + 1) 6 [.int x0] σ Q := Or.inr ⟨rfl, k⟩
/-- HouseDesk$Sketch.isDrawn -/
theorem ke_7 {d : Nat} {Q : mm_Q} {x1 : Int32} {σ : mm_S} (k : mw d mt_7 Q 0 [some (.ref 1), some (.int x1)] [] σ) : mD (d + 1) 7 [.ref 1, .int x1] σ Q := Or.inr ⟨rfl, k⟩
/-- HouseDesk$Sketch.isTaken -/
theorem ke_8 {d : Nat} {Q : mm_Q} {x1 x2 : Int32} {σ : mm_S} (k : mw d mt_8 Q 0 [some (.ref 1), some (.int x1), some (.int x2), none] [] σ) : mD (d + 1) 8 [.ref 1, .int x1, .int x2] σ Q := Or.inr ⟨rfl, k⟩
/-- HouseDesk$Sketch.hasJoin -/
theorem ke_9 {d : Nat} {Q : mm_Q} {x1 : Int32} {σ : mm_S} (k : mw d mt_9 Q 0 [some (.ref 1), some (.int x1)] [] σ) : mD (d + 1) 9 [.ref 1, .int x1] σ Q := Or.inr ⟨rfl, k⟩
/-- HouseDesk$Sketch.areJoined -/
theorem ke_10 {d : Nat} {Q : mm_Q} {x1 x2 : Int32} {σ : mm_S} (k : mw d mt_10 Q 0 [some (.ref 1), some (.int x1), some (.int x2)] [] σ) : mD (d + 1) 10 [.ref 1, .int x1, .int x2] σ Q := Or.inr ⟨rfl, k⟩
/-- HouseDesk$Sketch.isEnd -/
theorem ke_11 {d : Nat} {Q : mm_Q} {x1 x2 : Int32} {σ : mm_S} (k : mw d mt_11 Q 0 [some (.ref 1), some (.int x1), some (.int x2)] [] σ) : mD (d + 1) 11 [.ref 1, .int x1, .int x2] σ Q := Or.inr ⟨rfl, k⟩
/-- HouseDesk$Sketch.drawRoom -/
theorem ke_12 {d : Nat} {Q : mm_Q} {x1 x2 x3 : Int32} {σ : mm_S} (k : mw d mt_12 Q 0 [some (.ref 1), some (.int x1), some (.int x2), some (.int x3)] [] σ) : mD (d + 1) 12 [.ref 1, .int x1, .int x2, .int x3] σ Q := Or.inr ⟨rfl, k⟩
/-- HouseDesk$Sketch.drawJoin -/
theorem ke_13 {d : Nat} {Q : mm_Q} {x1 x2 : Int32} {σ : mm_S} (k : mw d mt_13 Q 0 [some (.ref 1), some (.int x1), some (.int x2)] [] σ) : mD (d + 1) 13 [.ref 1, .int x1, .int x2] σ Q := Or.inr ⟨rfl, k⟩
/-- HouseDesk$Sketch.nameCorners -/
theorem ke_14 {d : Nat} {Q : mm_Q} {x1 x2 x3 x4 : Int32} {σ : mm_S} (k : mw d mt_14 Q 0 [some (.ref 1), some (.int x1), some (.int x2), some (.int x3), some (.int x4)] [] σ) : mD (d + 1) 14 [.ref 1, .int x1, .int x2, .int x3, .int x4] σ Q := Or.inr ⟨rfl, k⟩
/-- HouseDesk$Sketch.wipe -/
theorem ke_15 {d : Nat} {Q : mm_Q} {σ : mm_S} (k : mw d mt_15 Q 0 [some (.ref 1)] [] σ) : mD (d + 1) 15 [.ref 1] σ Q := Or.inr ⟨rfl, k⟩
/-- HouseDesk$Sketch.wishedArea -/
theorem ke_16 {d : Nat} {Q : mm_Q} {σ : mm_S} (k : mw d mt_16 Q 0 [some (.ref 1), none, none] [] σ) : mD (d + 1) 16 [.ref 1] σ Q := Or.inr ⟨rfl, k⟩
/-- HouseDesk$Sketch.turn -/
theorem ke_17 {d : Nat} {Q : mm_Q} {x1 x2 x3 : Int32} {σ : mm_S} (k : mw d mt_17 Q 0 [some (.ref 1), some (.int x1), some (.int x2), some (.int x3)] [] σ) : mD (d + 1) 17 [.ref 1, .int x1, .int x2, .int x3] σ Q := Or.inr ⟨rfl, k⟩
/-- HouseDesk$Planner.judge -/
theorem ke_18 {d : Nat} {Q : mm_Q} {σ : mm_S} (k : mw d mt_18 Q 0 [some (.ref 2)] [] σ) : mD (d + 1) 18 [.ref 2] σ Q := Or.inr ⟨rfl, k⟩
/-- HouseDesk$Witness.forget -/
theorem ke_19 {d : Nat} {Q : mm_Q} {σ : mm_S} (k : mw d mt_19 Q 0 [some (.ref 3)] [] σ) : mD (d + 1) 19 [.ref 3] σ Q := Or.inr ⟨rfl, k⟩
/-- HouseDesk$Witness.tellTwo -/
theorem ke_20 {d : Nat} {Q : mm_Q} {x1 x2 : Int32} {σ : mm_S} (k : mw d mt_20 Q 0 [some (.ref 3), some (.int x1), some (.int x2)] [] σ) : mD (d + 1) 20 [.ref 3, .int x1, .int x2] σ Q := Or.inr ⟨rfl, k⟩
/-- HouseDesk$Witness.tellThree -/
theorem ke_21 {d : Nat} {Q : mm_Q} {x1 x2 x3 : Int32} {σ : mm_S} (k : mw d mt_21 Q 0 [some (.ref 3), some (.int x1), some (.int x2), some (.int x3)] [] σ) : mD (d + 1) 21 [.ref 3, .int x1, .int x2, .int x3] σ Q := Or.inr ⟨rfl, k⟩
/-- HouseDesk$Witness.at -/
theorem ke_22 {d : Nat} {Q : mm_Q} {x1 : Int32} {σ : mm_S} (k : mw d mt_22 Q 0 [some (.ref 3), some (.int x1)] [] σ) : mD (d + 1) 22 [.ref 3, .int x1] σ Q := Or.inr ⟨rfl, k⟩
/-- HouseDesk$Crossings.findAny -/
theorem ke_23 {d : Nat} {Q : mm_Q} {σ : mm_S} (k : mw d mt_23 Q 0 [some (.ref 4), some (.ref 3)] [] σ) : mD (d + 1) 23 [.ref 4, .ref 3] σ Q := Or.inr ⟨rfl, k⟩
/-- HouseDesk$Crossings.findTwoJoins -/
theorem ke_24 {d : Nat} {Q : mm_Q} {σ : mm_S} (k : mw d mt_24 Q 0 [some (.ref 4), some (.ref 3), none, none] [] σ) : mD (d + 1) 24 [.ref 4, .ref 3] σ Q := Or.inr ⟨rfl, k⟩
/-- HouseDesk$Crossings.findRoomOnJoin -/
theorem ke_25 {d : Nat} {Q : mm_Q} {σ : mm_S} (k : mw d mt_25 Q 0 [some (.ref 4), some (.ref 3), none, none] [] σ) : mD (d + 1) 25 [.ref 4, .ref 3] σ Q := Or.inr ⟨rfl, k⟩
/-- HouseDesk$Crossings.touches -/
theorem ke_26 {d : Nat} {Q : mm_Q} {x1 x2 : Int32} {σ : mm_S} (k : mw d mt_26 Q 0 [some (.ref 4), some (.int x1), some (.int x2)] [] σ) : mD (d + 1) 26 [.ref 4, .int x1, .int x2] σ Q := Or.inr ⟨rfl, k⟩
/-- HouseDesk$Crossings.liesOn -/
theorem ke_27 {d : Nat} {Q : mm_Q} {x1 x2 : Int32} {σ : mm_S} (k : mw d mt_27 Q 0 [some (.ref 4), some (.int x1), some (.int x2), none, none] [] σ) : mD (d + 1) 27 [.ref 4, .int x1, .int x2] σ Q := Or.inr ⟨rfl, k⟩
/-- HouseDesk$Crossings.isBetween -/
theorem ke_28 {d : Nat} {Q : mm_Q} {x0 x1 x2 : Int32} {σ : mm_S} (k : mw d mt_28 Q 0 [some (.int x0), some (.int x1), some (.int x2)] [] σ) : mD (d + 1) 28 [.int x0, .int x1, .int x2] σ Q := Or.inr ⟨rfl, k⟩
/-- HouseDesk$Crossings.crosses -/
theorem ke_29 {d : Nat} {Q : mm_Q} {x1 x2 : Int32} {σ : mm_S} (k : mw d mt_29 Q 0 [some (.ref 4), some (.int x1), some (.int x2)] [] σ) : mD (d + 1) 29 [.ref 4, .int x1, .int x2] σ Q := Or.inr ⟨rfl, k⟩
/-- HouseDesk$Crossings.parts -/
theorem ke_30 {d : Nat} {Q : mm_Q} {x1 x2 : Int32} {σ : mm_S} (k : mw d mt_30 Q 0 [some (.ref 4), some (.int x1), some (.int x2), none, none] [] σ) : mD (d + 1) 30 [.ref 4, .int x1, .int x2] σ Q := Or.inr ⟨rfl, k⟩
/-- HouseDesk$Walks.reachAll -/
theorem ke_31 {d : Nat} {Q : mm_Q} {σ : mm_S} (k : mw d mt_31 Q 0 [some (.ref 5), none, none, none] [] σ) : mD (d + 1) 31 [.ref 5] σ Q := Or.inr ⟨rfl, k⟩
/-- HouseDesk$Walks.goAround -/
theorem ke_32 {d : Nat} {Q : mm_Q} {σ : mm_S} (k : mw d mt_32 Q 0 [some (.ref 5), none, none, none, none, none, none] [] σ) : mD (d + 1) 32 [.ref 5] σ Q := Or.inr ⟨rfl, k⟩
/-- HouseDesk$Walks.orderJoins -/
theorem ke_33 {d : Nat} {Q : mm_Q} {σ : mm_S} (k : mw d mt_33 Q 0 [some (.ref 5), none, none, none] [] σ) : mD (d + 1) 33 [.ref 5] σ Q := Or.inr ⟨rfl, k⟩
/-- HouseDesk$Walks.nextClockwise -/
theorem ke_34 {d : Nat} {Q : mm_Q} {x1 x2 : Int32} {σ : mm_S} (k : mw d mt_34 Q 0 [some (.ref 5), some (.int x1), some (.int x2), none, none] [] σ) : mD (d + 1) 34 [.ref 5, .int x1, .int x2] σ Q := Or.inr ⟨rfl, k⟩
/-- HouseDesk$Walks.isSooner -/
theorem ke_35 {d : Nat} {Q : mm_Q} {x1 x2 x3 x4 : Int32} {σ : mm_S} (k : mw d mt_35 Q 0 [some (.ref 5), some (.int x1), some (.int x2), some (.int x3), some (.int x4), none, none] [] σ) : mD (d + 1) 35 [.ref 5, .int x1, .int x2, .int x3, .int x4] σ Q := Or.inr ⟨rfl, k⟩
/-- HouseDesk$Walks.westmost -/
theorem ke_36 {d : Nat} {Q : mm_Q} {σ : mm_S} (k : mw d mt_36 Q 0 [some (.ref 5), none, none] [] σ) : mD (d + 1) 36 [.ref 5] σ Q := Or.inr ⟨rfl, k⟩
/-- HouseDesk$Walks.isFurtherWest -/
theorem ke_37 {d : Nat} {Q : mm_Q} {x1 x2 : Int32} {σ : mm_S} (k : mw d mt_37 Q 0 [some (.ref 5), some (.int x1), some (.int x2)] [] σ) : mD (d + 1) 37 [.ref 5, .int x1, .int x2] σ Q := Or.inr ⟨rfl, k⟩
/-- HouseDesk$Walks.northmostFrom -/
theorem ke_38 {d : Nat} {Q : mm_Q} {x1 : Int32} {σ : mm_S} (k : mw d mt_38 Q 0 [some (.ref 5), some (.int x1), none, none] [] σ) : mD (d + 1) 38 [.ref 5, .int x1] σ Q := Or.inr ⟨rfl, k⟩
/-- HouseDesk$Walks.goInside -/
theorem ke_39 {d : Nat} {Q : mm_Q} {σ : mm_S} (k : mw d mt_39 Q 0 [some (.ref 5), none] [] σ) : mD (d + 1) 39 [.ref 5] σ Q := Or.inr ⟨rfl, k⟩
/-- HouseDesk$Walks.roomBehind -/
theorem ke_40 {d : Nat} {Q : mm_Q} {x1 : Int32} {σ : mm_S} (k : mw d mt_40 Q 0 [some (.ref 5), some (.int x1)] [] σ) : mD (d + 1) 40 [.ref 5, .int x1] σ Q := Or.inr ⟨rfl, k⟩
/-- HouseDesk$Walks.roomBefore -/
theorem ke_41 {d : Nat} {Q : mm_Q} {x1 : Int32} {σ : mm_S} (k : mw d mt_41 Q 0 [some (.ref 5), some (.int x1)] [] σ) : mD (d + 1) 41 [.ref 5, .int x1] σ Q := Or.inr ⟨rfl, k⟩
/-- HouseDesk$Walks.walkFace -/
theorem ke_42 {d : Nat} {Q : mm_Q} {x1 x2 : Int32} {σ : mm_S} (k : mw d mt_42 Q 0 [some (.ref 5), some (.int x1), some (.int x2), none, none, none, none, none] [] σ) : mD (d + 1) 42 [.ref 5, .int x1, .int x2] σ Q := Or.inr ⟨rfl, k⟩
/-- HouseDesk$Walks.findWideFace -/
theorem ke_43 {d : Nat} {Q : mm_Q} {σ : mm_S} (k : mw d mt_43 Q 0 [some (.ref 5), some (.ref 3), none, none, none] [] σ) : mD (d + 1) 43 [.ref 5, .ref 3] σ Q := Or.inr ⟨rfl, k⟩
/-- HouseDesk$Walks.threeLeast -/
theorem ke_44 {d : Nat} {Q : mm_Q} {x0 : Int32} {σ : mm_S} (k : mw d mt_44 Q 0 [some (.int x0), none] [] σ) : mD (d + 1) 44 [.int x0] σ Q := Or.inr ⟨rfl, k⟩
/-- HouseDesk$Walks.comesBefore -/
theorem ke_45 {d : Nat} {Q : mm_Q} {x0 x1 : Int32} {σ : mm_S} (k : mw d mt_45 Q 0 [some (.int x0), some (.int x1)] [] σ) : mD (d + 1) 45 [.int x0, .int x1] σ Q := Or.inr ⟨rfl, k⟩
/-- HouseDesk$Walks.isFace -/
theorem ke_46 {d : Nat} {Q : mm_Q} {x1 : Int32} {σ : mm_S} (k : mw d mt_46 Q 0 [some (.ref 5), some (.int x1), none] [] σ) : mD (d + 1) 46 [.ref 5, .int x1] σ Q := Or.inr ⟨rfl, k⟩
/-- HouseDesk$Sides.cornersFit -/
theorem ke_47 {d : Nat} {Q : mm_Q} {σ : mm_S} (k : mw d mt_47 Q 0 [some (.ref 6), none, none] [] σ) : mD (d + 1) 47 [.ref 6] σ Q := Or.inr ⟨rfl, k⟩
/-- HouseDesk$Sides.stepsAlong -/
theorem ke_48 {d : Nat} {Q : mm_Q} {x1 : Int32} {σ : mm_S} (k : mw d mt_48 Q 0 [some (.ref 6), some (.int x1), none] [] σ) : mD (d + 1) 48 [.ref 6, .int x1] σ Q := Or.inr ⟨rfl, k⟩
/-- HouseDesk$Sides.lastOf -/
theorem ke_49 {d : Nat} {Q : mm_Q} {x1 : Int32} {σ : mm_S} (k : mw d mt_49 Q 0 [some (.ref 6), some (.int x1)] [] σ) : mD (d + 1) 49 [.ref 6, .int x1] σ Q := Or.inr ⟨rfl, k⟩
/-- HouseDesk$Sides.sideBehind -/
theorem ke_50 {d : Nat} {Q : mm_Q} {x0 : Int32} {σ : mm_S} (k : mw d mt_50 Q 0 [some (.int x0)] [] σ) : mD (d + 1) 50 [.int x0] σ Q := Or.inr ⟨rfl, k⟩
/-- HouseDesk$Sides.sideBefore -/
theorem ke_51 {d : Nat} {Q : mm_Q} {x0 : Int32} {σ : mm_S} (k : mw d mt_51 Q 0 [some (.int x0)] [] σ) : mD (d + 1) 51 [.int x0] σ Q := Or.inr ⟨rfl, k⟩
/-- HouseDesk$Sides.bitOfSide -/
theorem ke_52 {d : Nat} {Q : mm_Q} {x0 : Int32} {σ : mm_S} (k : mw d mt_52 Q 0 [some (.int x0)] [] σ) : mD (d + 1) 52 [.int x0] σ Q := Or.inr ⟨rfl, k⟩
/-- HouseDesk$Sides.isOn -/
theorem ke_53 {d : Nat} {Q : mm_Q} {x1 x2 : Int32} {σ : mm_S} (k : mw d mt_53 Q 0 [some (.ref 6), some (.int x1), some (.int x2)] [] σ) : mD (d + 1) 53 [.ref 6, .int x1, .int x2] σ Q := Or.inr ⟨rfl, k⟩
/-- HouseDesk$Sides.joinOutline -/
theorem ke_54 {d : Nat} {Q : mm_Q} {σ : mm_S} (k : mw d mt_54 Q 0 [some (.ref 6), none, none, none, none] [] σ) : mD (d + 1) 54 [.ref 6] σ Q := Or.inr ⟨rfl, k⟩
/-- HouseDesk$Sides.findLooseTriangle -/
theorem ke_55 {d : Nat} {Q : mm_Q} {σ : mm_S} (k : mw d mt_55 Q 0 [some (.ref 6), some (.ref 3), none, none, none] [] σ) : mD (d + 1) 55 [.ref 6, .ref 3] σ Q := Or.inr ⟨rfl, k⟩
/-- HouseDesk$Sides.looseThird -/
theorem ke_56 {d : Nat} {Q : mm_Q} {x1 x2 : Int32} {σ : mm_S} (k : mw d mt_56 Q 0 [some (.ref 6), some (.int x1), some (.int x2), none, none] [] σ) : mD (d + 1) 56 [.ref 6, .int x1, .int x2] σ Q := Or.inr ⟨rfl, k⟩
/-- HouseDesk$Sides.boundsFace -/
theorem ke_57 {d : Nat} {Q : mm_Q} {x1 x2 x3 : Int32} {σ : mm_S} (k : mw d mt_57 Q 0 [some (.ref 6), some (.int x1), some (.int x2), some (.int x3), none] [] σ) : mD (d + 1) 57 [.ref 6, .int x1, .int x2, .int x3] σ Q := Or.inr ⟨rfl, k⟩
/-- HouseDesk$Sides.follows -/
theorem ke_58 {d : Nat} {Q : mm_Q} {x1 x2 x3 : Int32} {σ : mm_S} (k : mw d mt_58 Q 0 [some (.ref 6), some (.int x1), some (.int x2), some (.int x3)] [] σ) : mD (d + 1) 58 [.ref 6, .int x1, .int x2, .int x3] σ Q := Or.inr ⟨rfl, k⟩
/-- HouseDesk$Sides.takePlaces -/
theorem ke_59 {d : Nat} {Q : mm_Q} {σ : mm_S} (k : mw d mt_59 Q 0 [some (.ref 6), none, none, none, none, none] [] σ) : mD (d + 1) 59 [.ref 6] σ Q := Or.inr ⟨rfl, k⟩
/-- HouseDesk$Sides.firstSideOf -/
theorem ke_60 {d : Nat} {Q : mm_Q} {x1 : Int32} {σ : mm_S} (k : mw d mt_60 Q 0 [some (.ref 6), some (.int x1), none] [] σ) : mD (d + 1) 60 [.ref 6, .int x1] σ Q := Or.inr ⟨rfl, k⟩
/-- HouseDesk$Layout.findFirst -/
theorem ke_61 {d : Nat} {Q : mm_Q} {σ : mm_S} (k : mw d mt_61 Q 0 [some (.ref 7), none] [] σ) : mD (d + 1) 61 [.ref 7] σ Q := Or.inr ⟨rfl, k⟩
/-- HouseDesk$Layout.listRooms -/
theorem ke_62 {d : Nat} {Q : mm_Q} {x1 : Int32} {σ : mm_S} (k : mw d mt_62 Q 0 [some (.ref 7), some (.int x1), none, none] [] σ) : mD (d + 1) 62 [.ref 7, .int x1] σ Q := Or.inr ⟨rfl, k⟩
/-- HouseDesk$Layout.orderRooms -/
theorem ke_63 {d : Nat} {Q : mm_Q} {σ : mm_S} (k : mw d mt_63 Q 0 [some (.ref 7), none, none, none, none] [] σ) : mD (d + 1) 63 [.ref 7] σ Q := Or.inr ⟨rfl, k⟩
/-- HouseDesk$Layout.choose -/
theorem ke_64 {d : Nat} {Q : mm_Q} {x1 : Int32} {σ : mm_S} (k : mw d mt_64 Q 0 [some (.ref 7), some (.int x1), none, none] [] σ) : mD (d + 1) 64 [.ref 7, .int x1] σ Q := Or.inr ⟨rfl, k⟩
/-- HouseDesk$Layout.shiftOpen -/
theorem ke_65 {d : Nat} {Q : mm_Q} {x1 x2 : Int32} {σ : mm_S} (k : mw d mt_65 Q 0 [some (.ref 7), some (.int x1), some (.int x2), none] [] σ) : mD (d + 1) 65 [.ref 7, .int x1, .int x2] σ Q := Or.inr ⟨rfl, k⟩
/-- HouseDesk$Layout.canBeMet -/
theorem ke_66 {d : Nat} {Q : mm_Q} {x1 : Int32} {σ : mm_S} (k : mw d mt_66 Q 0 [some (.ref 7), some (.int x1), none] [] σ) : mD (d + 1) 66 [.ref 7, .int x1] σ Q := Or.inr ⟨rfl, k⟩
/-- HouseDesk$Layout.weigh -/
theorem ke_67 {d : Nat} {Q : mm_Q} {σ : mm_S} (k : mw d mt_67 Q 0 [some (.ref 7), none] [] σ) : mD (d + 1) 67 [.ref 7] σ Q := Or.inr ⟨rfl, k⟩
/-- HouseDesk$Layout.lookAround -/
theorem ke_68 {d : Nat} {Q : mm_Q} {x1 x2 : Int32} {σ : mm_S} (k : mw d mt_68 Q 0 [some (.ref 7), some (.int x1), some (.int x2), none, none, none, none] [] σ) : mD (d + 1) 68 [.ref 7, .int x1, .int x2] σ Q := Or.inr ⟨rfl, k⟩
/-- HouseDesk$Layout.opposite -/
theorem ke_69 {d : Nat} {Q : mm_Q} {x0 : Int32} {σ : mm_S} (k : mw d mt_69 Q 0 [some (.int x0)] [] σ) : mD (d + 1) 69 [.int x0] σ Q := Or.inr ⟨rfl, k⟩
/-- HouseDesk$Layout.hasCorner -/
theorem ke_70 {d : Nat} {Q : mm_Q} {x1 x2 x3 : Int32} {σ : mm_S} (k : mw d mt_70 Q 0 [some (.ref 7), some (.int x1), some (.int x2), some (.int x3)] [] σ) : mD (d + 1) 70 [.ref 7, .int x1, .int x2, .int x3] σ Q := Or.inr ⟨rfl, k⟩
/-- HouseDesk$Layout.isSooner -/
theorem ke_71 {d : Nat} {Q : mm_Q} {σ : mm_S} (k : mw d mt_71 Q 0 [some (.ref 7), none, none] [] σ) : mD (d + 1) 71 [.ref 7] σ Q := Or.inr ⟨rfl, k⟩
/-- HouseDesk$Places.settle -/
theorem ke_72 {d : Nat} {Q : mm_Q} {σ : mm_S} (k : mw d mt_72 Q 0 [some (.ref 8), none, none] [] σ) : mD (d + 1) 72 [.ref 8] σ Q := Or.inr ⟨rfl, k⟩
/-- HouseDesk$Places.raise -/
theorem ke_73 {d : Nat} {Q : mm_Q} {x1 x2 x3 : Int32} {σ : mm_S} (k : mw d mt_73 Q 0 [some (.ref 8), some (.int x1), some (.int x2), some (.int x3)] [] σ) : mD (d + 1) 73 [.ref 8, .int x1, .int x2, .int x3] σ Q := Or.inr ⟨rfl, k⟩
/-- HouseDesk$Places.axisOf -/
theorem ke_74 {d : Nat} {Q : mm_Q} {x1 : Int32} {σ : mm_S} (k : mw d mt_74 Q 0 [some (.ref 8), some (.int x1)] [] σ) : mD (d + 1) 74 [.ref 8, .int x1] σ Q := Or.inr ⟨rfl, k⟩
/-- HouseDesk$Places.meet -/
theorem ke_75 {d : Nat} {Q : mm_Q} {x1 : Int32} {σ : mm_S} (k : mw d mt_75 Q 0 [some (.ref 8), some (.int x1), none, none, none, none] [] σ) : mD (d + 1) 75 [.ref 8, .int x1] σ Q := Or.inr ⟨rfl, k⟩
/-- HouseDesk$Places.overlap -/
theorem ke_76 {d : Nat} {Q : mm_Q} {x1 : Int32} {σ : mm_S} (k : mw d mt_76 Q 0 [some (.ref 8), some (.int x1), none, none] [] σ) : mD (d + 1) 76 [.ref 8, .int x1] σ Q := Or.inr ⟨rfl, k⟩
/-- HouseDesk$Places.reachOut -/
theorem ke_77 {d : Nat} {Q : mm_Q} {x1 x2 : Int32} {σ : mm_S} (k : mw d mt_77 Q 0 [some (.ref 8), some (.int x1), some (.int x2), none, none] [] σ) : mD (d + 1) 77 [.ref 8, .int x1, .int x2] σ Q := Or.inr ⟨rfl, k⟩
/-- HouseDesk$Places.wallBegin -/
theorem ke_78 {d : Nat} {Q : mm_Q} {x1 : Int32} {σ : mm_S} (k : mw d mt_78 Q 0 [some (.ref 8), some (.int x1), none] [] σ) : mD (d + 1) 78 [.ref 8, .int x1] σ Q := Or.inr ⟨rfl, k⟩
/-- HouseDesk$Places.wallEnd -/
theorem ke_79 {d : Nat} {Q : mm_Q} {x1 : Int32} {σ : mm_S} (k : mw d mt_79 Q 0 [some (.ref 8), some (.int x1), none] [] σ) : mD (d + 1) 79 [.ref 8, .int x1] σ Q := Or.inr ⟨rfl, k⟩
/-- HouseDesk$Places.lengthAt -/
theorem ke_80 {d : Nat} {Q : mm_Q} {x1 x2 : Int32} {σ : mm_S} (k : mw d mt_80 Q 0 [some (.ref 8), some (.int x1), some (.int x2), none] [] σ) : mD (d + 1) 80 [.ref 8, .int x1, .int x2] σ Q := Or.inr ⟨rfl, k⟩
/-- HouseDesk$Way.find -/
theorem ke_81 {d : Nat} {Q : mm_Q} {x1 x2 : Int32} {σ : mm_S} (k : mw d mt_81 Q 0 [some (.ref 9), some (.int x1), some (.int x2), none, none] [] σ) : mD (d + 1) 81 [.ref 9, .int x1, .int x2] σ Q := Or.inr ⟨rfl, k⟩
/-- HouseDesk$Way.measure -/
theorem ke_82 {d : Nat} {Q : mm_Q} {x1 : Int32} {σ : mm_S} (k : mw d mt_82 Q 0 [some (.ref 9), some (.int x1), none, none] [] σ) : mD (d + 1) 82 [.ref 9, .int x1] σ Q := Or.inr ⟨rfl, k⟩
/-- HouseDesk$Way.measureAround -/
theorem ke_83 {d : Nat} {Q : mm_Q} {x1 : Int32} {σ : mm_S} (k : mw d mt_83 Q 0 [some (.ref 9), some (.int x1), none] [] σ) : mD (d + 1) 83 [.ref 9, .int x1] σ Q := Or.inr ⟨rfl, k⟩
/-- HouseDesk$Way.leastStep -/
theorem ke_84 {d : Nat} {Q : mm_Q} {x1 : Int32} {σ : mm_S} (k : mw d mt_84 Q 0 [some (.ref 9), some (.int x1), none] [] σ) : mD (d + 1) 84 [.ref 9, .int x1] σ Q := Or.inr ⟨rfl, k⟩
/-- HouseDesk$Way.at -/
theorem ke_85 {d : Nat} {Q : mm_Q} {x1 : Int32} {σ : mm_S} (k : mw d mt_85 Q 0 [some (.ref 9), some (.int x1)] [] σ) : mD (d + 1) 85 [.ref 9, .int x1] σ Q := Or.inr ⟨rfl, k⟩
/-- HouseDeskModel.thrown -/
theorem ke_86 {d : Nat} {Q : mm_Q} {σ : mm_S} (k : mw d mt_86 Q 0 [some (.ref 10)] [] σ) : mD (d + 1) 86 [.ref 10] σ Q := Or.inr ⟨rfl, k⟩
/-- HouseDeskModel.in -/
theorem ke_87 {d : Nat} {Q : mm_Q} {x0 x1 x2 : Int32} {σ : mm_S} (k : mw d mt_87 Q 0 [some (.int x0), some (.int x1), some (.int x2)] [] σ) : mD (d + 1) 87 [.int x0, .int x1, .int x2] σ Q := Or.inr ⟨rfl, k⟩
/-- HouseDeskModel.isRoom -/
theorem ke_88 {d : Nat} {Q : mm_Q} {x1 : Int32} {σ : mm_S} (k : mw d mt_88 Q 0 [some (.ref 10), some (.int x1)] [] σ) : mD (d + 1) 88 [.ref 10, .int x1] σ Q := Or.inr ⟨rfl, k⟩
/-- HouseDeskModel.room -/
theorem ke_89 {d : Nat} {Q : mm_Q} {x1 x2 x3 : Int32} {σ : mm_S} (k : mw d mt_89 Q 0 [some (.ref 10), some (.int x1), some (.int x2), some (.int x3), none, none, none] [] σ) : mD (d + 1) 89 [.ref 10, .int x1, .int x2, .int x3] σ Q := Or.inr ⟨rfl, k⟩
/-- HouseDeskModel.joinOf -/
theorem ke_90 {d : Nat} {Q : mm_Q} {x1 x2 : Int32} {σ : mm_S} (k : mw d mt_90 Q 0 [some (.ref 10), some (.int x1), some (.int x2), none] [] σ) : mD (d + 1) 90 [.ref 10, .int x1, .int x2] σ Q := Or.inr ⟨rfl, k⟩
/-- HouseDeskModel.join -/
theorem ke_91 {d : Nat} {Q : mm_Q} {x1 x2 : Int32} {σ : mm_S} (k : mw d mt_91 Q 0 [some (.ref 10), some (.int x1), some (.int x2)] [] σ) : mD (d + 1) 91 [.ref 10, .int x1, .int x2] σ Q := Or.inr ⟨rfl, k⟩
/-- HouseDeskModel.corners -/
theorem ke_92 {d : Nat} {Q : mm_Q} {x1 x2 x3 x4 : Int32} {σ : mm_S} (k : mw d mt_92 Q 0 [some (.ref 10), some (.int x1), some (.int x2), some (.int x3), some (.int x4)] [] σ) : mD (d + 1) 92 [.ref 10, .int x1, .int x2, .int x3, .int x4] σ Q := Or.inr ⟨rfl, k⟩
/-- HouseDeskModel.least -/
theorem ke_93 {d : Nat} {Q : mm_Q} {x1 x2 x3 : Int32} {σ : mm_S} (k : mw d mt_93 Q 0 [some (.ref 10), some (.int x1), some (.int x2), some (.int x3)] [] σ) : mD (d + 1) 93 [.ref 10, .int x1, .int x2, .int x3] σ Q := Or.inr ⟨rfl, k⟩
/-- HouseDeskModel.wall -/
theorem ke_94 {d : Nat} {Q : mm_Q} {x1 x2 : Int32} {σ : mm_S} (k : mw d mt_94 Q 0 [some (.ref 10), some (.int x1), some (.int x2)] [] σ) : mD (d + 1) 94 [.ref 10, .int x1, .int x2] σ Q := Or.inr ⟨rfl, k⟩
/-- HouseDeskModel.clear -/
theorem ke_95 {d : Nat} {Q : mm_Q} {σ : mm_S} (k : mw d mt_95 Q 0 [some (.ref 10), none] [] σ) : mD (d + 1) 95 [.ref 10] σ Q := Or.inr ⟨rfl, k⟩
/-- HouseDeskModel.turn -/
theorem ke_96 {d : Nat} {Q : mm_Q} {x0 x1 x2 x3 x4 x5 : Int32} {σ : mm_S} (k : mw d mt_96 Q 0 [some (.int x0), some (.int x1), some (.int x2), some (.int x3), some (.int x4), some (.int x5), none] [] σ) : mD (d + 1) 96 [.int x0, .int x1, .int x2, .int x3, .int x4, .int x5] σ Q := Or.inr ⟨rfl, k⟩
/-- HouseDeskModel.isOn -/
theorem ke_97 {d : Nat} {Q : mm_Q} {x1 x2 : Int32} {σ : mm_S} (k : mw d mt_97 Q 0 [some (.ref 10), some (.int x1), some (.int x2), none, none, none, none, none, none] [] σ) : mD (d + 1) 97 [.ref 10, .int x1, .int x2] σ Q := Or.inr ⟨rfl, k⟩
/-- HouseDeskModel.cross -/
theorem ke_98 {d : Nat} {Q : mm_Q} {x1 x2 : Int32} {σ : mm_S} (k : mw d mt_98 Q 0 [some (.ref 10), some (.int x1), some (.int x2), none, none, none, none] [] σ) : mD (d + 1) 98 [.ref 10, .int x1, .int x2] σ Q := Or.inr ⟨rfl, k⟩
/-- HouseDeskModel.isCrossed -/
theorem ke_99 {d : Nat} {Q : mm_Q} {σ : mm_S} (k : mw d mt_99 Q 0 [some (.ref 10), none, none] [] σ) : mD (d + 1) 99 [.ref 10] σ Q := Or.inr ⟨rfl, k⟩
/-- HouseDeskModel.tell -/
theorem ke_100 {d : Nat} {Q : mm_Q} {x1 x2 x3 x4 : Int32} {σ : mm_S} (k : mw d mt_100 Q 0 [some (.ref 10), some (.int x1), some (.int x2), some (.int x3), some (.int x4)] [] σ) : mD (d + 1) 100 [.ref 10, .int x1, .int x2, .int x3, .int x4] σ Q := Or.inr ⟨rfl, k⟩
/-- HouseDeskModel.other -/
theorem ke_101 {d : Nat} {Q : mm_Q} {x1 x2 : Int32} {σ : mm_S} (k : mw d mt_101 Q 0 [some (.ref 10), some (.int x1), some (.int x2)] [] σ) : mD (d + 1) 101 [.ref 10, .int x1, .int x2] σ Q := Or.inr ⟨rfl, k⟩
/-- HouseDeskModel.part -/
theorem ke_102 {d : Nat} {Q : mm_Q} {x0 x1 : Int32} {σ : mm_S} (k : mw d mt_102 Q 0 [some (.int x0), some (.int x1)] [] σ) : mD (d + 1) 102 [.int x0, .int x1] σ Q := Or.inr ⟨rfl, k⟩
/-- HouseDeskModel.isAhead -/
theorem ke_103 {d : Nat} {Q : mm_Q} {x1 x2 x3 : Int32} {σ : mm_S} (k : mw d mt_103 Q 0 [some (.ref 10), some (.int x1), some (.int x2), some (.int x3), none, none, none, none, none, none] [] σ) : mD (d + 1) 103 [.ref 10, .int x1, .int x2, .int x3] σ Q := Or.inr ⟨rfl, k⟩
/-- HouseDeskModel.sortAround -/
theorem ke_104 {d : Nat} {Q : mm_Q} {σ : mm_S} (k : mw d mt_104 Q 0 [some (.ref 10), none, none, none] [] σ) : mD (d + 1) 104 [.ref 10] σ Q := Or.inr ⟨rfl, k⟩
/-- HouseDeskModel.behind -/
theorem ke_105 {d : Nat} {Q : mm_Q} {x1 x2 : Int32} {σ : mm_S} (k : mw d mt_105 Q 0 [some (.ref 10), some (.int x1), some (.int x2), none] [] σ) : mD (d + 1) 105 [.ref 10, .int x1, .int x2] σ Q := Or.inr ⟨rfl, k⟩
/-- HouseDeskModel.wayFrom -/
theorem ke_106 {d : Nat} {Q : mm_Q} {x1 x2 : Int32} {σ : mm_S} (k : mw d mt_106 Q 0 [some (.ref 10), some (.int x1), some (.int x2)] [] σ) : mD (d + 1) 106 [.ref 10, .int x1, .int x2] σ Q := Or.inr ⟨rfl, k⟩
/-- HouseDeskModel.areTogether -/
theorem ke_107 {d : Nat} {Q : mm_Q} {σ : mm_S} (k : mw d mt_107 Q 0 [some (.ref 10), none, none, none, none, none, none] [] σ) : mD (d + 1) 107 [.ref 10] σ Q := Or.inr ⟨rfl, k⟩
/-- HouseDeskModel.roomCount -/
theorem ke_108 {d : Nat} {Q : mm_Q} {σ : mm_S} (k : mw d mt_108 Q 0 [some (.ref 10), none, none] [] σ) : mD (d + 1) 108 [.ref 10] σ Q := Or.inr ⟨rfl, k⟩
/-- HouseDeskModel.findOutline -/
theorem ke_109 {d : Nat} {Q : mm_Q} {σ : mm_S} (k : mw d mt_109 Q 0 [some (.ref 10), none, none, none, none, none, none] [] σ) : mD (d + 1) 109 [.ref 10] σ Q := Or.inr ⟨rfl, k⟩
/-- HouseDeskModel.findFaces -/
theorem ke_110 {d : Nat} {Q : mm_Q} {σ : mm_S} (k : mw d mt_110 Q 0 [some (.ref 10), none, none, none, none] [] σ) : mD (d + 1) 110 [.ref 10] σ Q := Or.inr ⟨rfl, k⟩
/-- HouseDeskModel.size -/
theorem ke_111 {d : Nat} {Q : mm_Q} {x0 : Int32} {σ : mm_S} (k : mw d mt_111 Q 0 [some (.int x0), none, none] [] σ) : mD (d + 1) 111 [.int x0] σ Q := Or.inr ⟨rfl, k⟩
/-- HouseDeskModel.nodeOf -/
theorem ke_112 {d : Nat} {Q : mm_Q} {x0 x1 : Int32} {σ : mm_S} (k : mw d mt_112 Q 0 [some (.int x0), some (.int x1), none, none] [] σ) : mD (d + 1) 112 [.int x0, .int x1] σ Q := Or.inr ⟨rfl, k⟩
/-- HouseDeskModel.isLess -/
theorem ke_113 {d : Nat} {Q : mm_Q} {x0 x1 : Int32} {σ : mm_S} (k : mw d mt_113 Q 0 [some (.int x0), some (.int x1), none] [] σ) : mD (d + 1) 113 [.int x0, .int x1] σ Q := Or.inr ⟨rfl, k⟩
/-- HouseDeskModel.tellSet -/
theorem ke_114 {d : Nat} {Q : mm_Q} {x1 x2 : Int32} {σ : mm_S} (k : mw d mt_114 Q 0 [some (.ref 10), some (.int x1), some (.int x2)] [] σ) : mD (d + 1) 114 [.ref 10, .int x1, .int x2] σ Q := Or.inr ⟨rfl, k⟩
/-- HouseDeskModel.hasGreatFace -/
theorem ke_115 {d : Nat} {Q : mm_Q} {σ : mm_S} (k : mw d mt_115 Q 0 [some (.ref 10), none, none] [] σ) : mD (d + 1) 115 [.ref 10] σ Q := Or.inr ⟨rfl, k⟩
/-- HouseDeskModel.placeOf -/
theorem ke_116 {d : Nat} {Q : mm_Q} {x1 : Int32} {σ : mm_S} (k : mw d mt_116 Q 0 [some (.ref 10), some (.int x1), none, none, none] [] σ) : mD (d + 1) 116 [.ref 10, .int x1] σ Q := Or.inr ⟨rfl, k⟩
/-- HouseDeskModel.layCorners -/
theorem ke_117 {d : Nat} {Q : mm_Q} {σ : mm_S} (k : mw d mt_117 Q 0 [some (.ref 10), none, none, none] [] σ) : mD (d + 1) 117 [.ref 10] σ Q := Or.inr ⟨rfl, k⟩
/-- HouseDeskModel.roomAt -/
theorem ke_118 {d : Nat} {Q : mm_Q} {x1 : Int32} {σ : mm_S} (k : mw d mt_118 Q 0 [some (.ref 10), some (.int x1), none] [] σ) : mD (d + 1) 118 [.ref 10, .int x1] σ Q := Or.inr ⟨rfl, k⟩
/-- HouseDeskModel.link -/
theorem ke_119 {d : Nat} {Q : mm_Q} {x1 x2 : Int32} {σ : mm_S} (k : mw d mt_119 Q 0 [some (.ref 10), some (.int x1), some (.int x2)] [] σ) : mD (d + 1) 119 [.ref 10, .int x1, .int x2] σ Q := Or.inr ⟨rfl, k⟩
/-- HouseDeskModel.linkAll -/
theorem ke_120 {d : Nat} {Q : mm_Q} {σ : mm_S} (k : mw d mt_120 Q 0 [some (.ref 10), none, none] [] σ) : mD (d + 1) 120 [.ref 10] σ Q := Or.inr ⟨rfl, k⟩
/-- HouseDeskModel.isFace -/
theorem ke_121 {d : Nat} {Q : mm_Q} {x1 : Int32} {σ : mm_S} (k : mw d mt_121 Q 0 [some (.ref 10), some (.int x1), none, none] [] σ) : mD (d + 1) 121 [.ref 10, .int x1] σ Q := Or.inr ⟨rfl, k⟩
/-- HouseDeskModel.hasTriangle -/
theorem ke_122 {d : Nat} {Q : mm_Q} {σ : mm_S} (k : mw d mt_122 Q 0 [some (.ref 10), none, none, none, none] [] σ) : mD (d + 1) 122 [.ref 10] σ Q := Or.inr ⟨rfl, k⟩
/-- HouseDeskModel.layRings -/
theorem ke_123 {d : Nat} {Q : mm_Q} {σ : mm_S} (k : mw d mt_123 Q 0 [some (.ref 10), none, none, none] [] σ) : mD (d + 1) 123 [.ref 10] σ Q := Or.inr ⟨rfl, k⟩
/-- HouseDeskModel.add -/
theorem ke_124 {d : Nat} {Q : mm_Q} {x1 x2 : Int32} {σ : mm_S} (k : mw d mt_124 Q 0 [some (.ref 10), some (.int x1), some (.int x2)] [] σ) : mD (d + 1) 124 [.ref 10, .int x1, .int x2] σ Q := Or.inr ⟨rfl, k⟩
/-- HouseDeskModel.comesBy -/
theorem ke_125 {d : Nat} {Q : mm_Q} {x1 : Int32} {σ : mm_S} (k : mw d mt_125 Q 0 [some (.ref 10), some (.int x1), none] [] σ) : mD (d + 1) 125 [.ref 10, .int x1] σ Q := Or.inr ⟨rfl, k⟩
/-- HouseDeskModel.addSides -/
theorem ke_126 {d : Nat} {Q : mm_Q} {x1 : Int32} {σ : mm_S} (k : mw d mt_126 Q 0 [some (.ref 10), some (.int x1), none, none] [] σ) : mD (d + 1) 126 [.ref 10, .int x1] σ Q := Or.inr ⟨rfl, k⟩
/-- HouseDeskModel.sideOf -/
theorem ke_127 {d : Nat} {Q : mm_Q} {x0 : Int32} {σ : mm_S} (k : mw d mt_127 Q 0 [some (.int x0)] [] σ) : mD (d + 1) 127 [.int x0] σ Q := Or.inr ⟨rfl, k⟩
/-- HouseDeskModel.directionOf -/
theorem ke_128 {d : Nat} {Q : mm_Q} {x1 x2 x3 : Int32} {σ : mm_S} (k : mw d mt_128 Q 0 [some (.ref 10), some (.int x1), some (.int x2), some (.int x3), none] [] σ) : mD (d + 1) 128 [.ref 10, .int x1, .int x2, .int x3] σ Q := Or.inr ⟨rfl, k⟩
/-- HouseDeskModel.cutOn -/
theorem ke_129 {d : Nat} {Q : mm_Q} {x1 : Int32} {σ : mm_S} (k : mw d mt_129 Q 0 [some (.ref 10), some (.int x1), none] [] σ) : mD (d + 1) 129 [.ref 10, .int x1] σ Q := Or.inr ⟨rfl, k⟩
/-- HouseDeskModel.takeBack -/
theorem ke_130 {d : Nat} {Q : mm_Q} {x1 : Int32} {σ : mm_S} (k : mw d mt_130 Q 0 [some (.ref 10), some (.int x1), none] [] σ) : mD (d + 1) 130 [.ref 10, .int x1] σ Q := Or.inr ⟨rfl, k⟩
/-- HouseDeskModel.search -/
theorem ke_131 {d : Nat} {Q : mm_Q} {σ : mm_S} (k : mw d mt_131 Q 0 [some (.ref 10), none] [] σ) : mD (d + 1) 131 [.ref 10] σ Q := Or.inr ⟨rfl, k⟩
/-- HouseDeskModel.fits -/
theorem ke_132 {d : Nat} {Q : mm_Q} {x1 : Int32} {σ : mm_S} (k : mw d mt_132 Q 0 [some (.ref 10), some (.int x1), none, none, none, none, none, none] [] σ) : mD (d + 1) 132 [.ref 10, .int x1] σ Q := Or.inr ⟨rfl, k⟩
/-- HouseDeskModel.mayBeLess -/
theorem ke_133 {d : Nat} {Q : mm_Q} {σ : mm_S} (k : mw d mt_133 Q 0 [some (.ref 10), none] [] σ) : mD (d + 1) 133 [.ref 10] σ Q := Or.inr ⟨rfl, k⟩
/-- HouseDeskModel.keepIfLess -/
theorem ke_134 {d : Nat} {Q : mm_Q} {σ : mm_S} (k : mw d mt_134 Q 0 [some (.ref 10), none] [] σ) : mD (d + 1) 134 [.ref 10] σ Q := Or.inr ⟨rfl, k⟩
/-- HouseDeskModel.at -/
theorem ke_135 {d : Nat} {Q : mm_Q} {x0 x1 : Int32} {σ : mm_S} (k : mw d mt_135 Q 0 [some (.int x0), some (.int x1)] [] σ) : mD (d + 1) 135 [.int x0, .int x1] σ Q := Or.inr ⟨rfl, k⟩
/-- HouseDeskModel.raiseLow -/
theorem ke_136 {d : Nat} {Q : mm_Q} {x1 x2 x3 : Int32} {σ : mm_S} (k : mw d mt_136 Q 0 [some (.ref 10), some (.int x1), some (.int x2), some (.int x3)] [] σ) : mD (d + 1) 136 [.ref 10, .int x1, .int x2, .int x3] σ Q := Or.inr ⟨rfl, k⟩
/-- HouseDeskModel.raiseHigh -/
theorem ke_137 {d : Nat} {Q : mm_Q} {x1 x2 x3 : Int32} {σ : mm_S} (k : mw d mt_137 Q 0 [some (.ref 10), some (.int x1), some (.int x2), some (.int x3)] [] σ) : mD (d + 1) 137 [.ref 10, .int x1, .int x2, .int x3] σ Q := Or.inr ⟨rfl, k⟩
/-- HouseDeskModel.findPlaces -/
theorem ke_138 {d : Nat} {Q : mm_Q} {σ : mm_S} (k : mw d mt_138 Q 0 [some (.ref 10), none] [] σ) : mD (d + 1) 138 [.ref 10] σ Q := Or.inr ⟨rfl, k⟩
/-- HouseDeskModel.raiseRoom -/
theorem ke_139 {d : Nat} {Q : mm_Q} {x1 : Int32} {σ : mm_S} (k : mw d mt_139 Q 0 [some (.ref 10), some (.int x1)] [] σ) : mD (d + 1) 139 [.ref 10, .int x1] σ Q := Or.inr ⟨rfl, k⟩
/-- HouseDeskModel.raiseJoin -/
theorem ke_140 {d : Nat} {Q : mm_Q} {x1 : Int32} {σ : mm_S} (k : mw d mt_140 Q 0 [some (.ref 10), some (.int x1), none, none, none, none, none] [] σ) : mD (d + 1) 140 [.ref 10, .int x1] σ Q := Or.inr ⟨rfl, k⟩
/-- HouseDeskModel.answer -/
theorem ke_141 {d : Nat} {Q : mm_Q} {x1 : Int32} {σ : mm_S} (k : mw d mt_141 Q 0 [some (.ref 10), some (.int x1)] [] σ) : mD (d + 1) 141 [.ref 10, .int x1] σ Q := Or.inr ⟨rfl, k⟩
/-- HouseDeskModel.plan -/
theorem ke_142 {d : Nat} {Q : mm_Q} {σ : mm_S} (k : mw d mt_142 Q 0 [some (.ref 10), none] [] σ) : mD (d + 1) 142 [.ref 10] σ Q := Or.inr ⟨rfl, k⟩
/-- HouseDeskModel.witness -/
theorem ke_143 {d : Nat} {Q : mm_Q} {x1 : Int32} {σ : mm_S} (k : mw d mt_143 Q 0 [some (.ref 10), some (.int x1)] [] σ) : mD (d + 1) 143 [.ref 10, .int x1] σ Q := Or.inr ⟨rfl, k⟩
/-- HouseDeskModel.rect -/
theorem ke_144 {d : Nat} {Q : mm_Q} {x1 x2 : Int32} {σ : mm_S} (k : mw d mt_144 Q 0 [some (.ref 10), some (.int x1), some (.int x2)] [] σ) : mD (d + 1) 144 [.ref 10, .int x1, .int x2] σ Q := Or.inr ⟨rfl, k⟩
/-- HouseDeskModel.house -/
theorem ke_145 {d : Nat} {Q : mm_Q} {x1 : Int32} {σ : mm_S} (k : mw d mt_145 Q 0 [some (.ref 10), some (.int x1), none, none] [] σ) : mD (d + 1) 145 [.ref 10, .int x1] σ Q := Or.inr ⟨rfl, k⟩
/-- HouseDeskModel.wallOf -/
theorem ke_146 {d : Nat} {Q : mm_Q} {x1 x2 : Int32} {σ : mm_S} (k : mw d mt_146 Q 0 [some (.ref 10), some (.int x1), some (.int x2), none, none, none] [] σ) : mD (d + 1) 146 [.ref 10, .int x1, .int x2] σ Q := Or.inr ⟨rfl, k⟩
/-- HouseDeskModel.side -/
theorem ke_147 {d : Nat} {Q : mm_Q} {x1 x2 : Int32} {σ : mm_S} (k : mw d mt_147 Q 0 [some (.ref 10), some (.int x1), some (.int x2), none] [] σ) : mD (d + 1) 147 [.ref 10, .int x1, .int x2] σ Q := Or.inr ⟨rfl, k⟩
/-- HouseDeskModel.way -/
theorem ke_148 {d : Nat} {Q : mm_Q} {x1 x2 : Int32} {σ : mm_S} (k : mw d mt_148 Q 0 [some (.ref 10), some (.int x1), some (.int x2), none, none, none] [] σ) : mD (d + 1) 148 [.ref 10, .int x1, .int x2] σ Q := Or.inr ⟨rfl, k⟩
/-- HouseDeskModel.wayRoom -/
theorem ke_149 {d : Nat} {Q : mm_Q} {x1 : Int32} {σ : mm_S} (k : mw d mt_149 Q 0 [some (.ref 10), some (.int x1)] [] σ) : mD (d + 1) 149 [.ref 10, .int x1] σ Q := Or.inr ⟨rfl, k⟩
/-- HouseDeskModel.count -/
theorem ke_150 {d : Nat} {Q : mm_Q} {x1 : Int32} {σ : mm_S} (k : mw d mt_150 Q 0 [some (.ref 10), some (.int x1)] [] σ) : mD (d + 1) 150 [.ref 10, .int x1] σ Q := Or.inr ⟨rfl, k⟩
/-- java/lang/Integer.bitCount -/
theorem ke_153 {d : Nat} {Q : mm_Q} {x0 : Int32} {σ : mm_S} (k : mw d mt_153 Q 0 [some (.int x0)] [] σ) : mD (d + 1) 153 [.int x0] σ Q := Or.inr ⟨rfl, k⟩
/-- HouseDesk.count -/
theorem ke_155 {d : Nat} {Q : mm_Q} {x1 : Int32} {σ : mm_S} (k : mw d mt_155 Q 0 [some (.ref 0), some (.int x1)] [] σ) : mD (d + 1) 155 [.ref 0, .int x1] σ Q := Or.inr ⟨rfl, k⟩
