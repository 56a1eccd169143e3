section
-- ===== PART A: goes FIRST, ahead of the names: the tables' words, and 'selects' of the private methods out of them =====
/-- a private method of a class that the tables say can be made, by its rows of tables_1 -/
def lw_okq (q : MethodName × Nat) : Prop := (q.1.cls ≠ "java/lang/invoke/MethodHandle" ∧ q.1.cls ≠ "java/lang/invoke/VarHandle") ∧ Cond.instantiable q.1.cls q.2 ∈ tables_1 ∧ Cond.privateMethod q.1 ∈ tables_1 ∧ Cond.instanceMethod q.1 ∈ tables_1
theorem lw_p0 : lw_okq (⟨"FloorPlans", "refuse", "(I)I"⟩, 6) := ⟨⟨by decide +kernel, by decide +kernel⟩, List.mem_of_getElem? (i := 13) (by decide +kernel), List.mem_of_getElem? (i := 248) (by decide +kernel), List.mem_of_getElem? (i := 249) (by decide +kernel)⟩
theorem lw_p1 : lw_okq (⟨"FloorPlans", "noTeam", "(I)Z"⟩, 6) := ⟨⟨by decide +kernel, by decide +kernel⟩, List.mem_of_getElem? (i := 13) (by decide +kernel), List.mem_of_getElem? (i := 264) (by decide +kernel), List.mem_of_getElem? (i := 265) (by decide +kernel)⟩
theorem lw_p2 : lw_okq (⟨"FloorPlans$House", "agreesWithEarlier", "(II)Z"⟩, 10) := ⟨⟨by decide +kernel, by decide +kernel⟩, List.mem_of_getElem? (i := 21) (by decide +kernel), List.mem_of_getElem? (i := 309) (by decide +kernel), List.mem_of_getElem? (i := 310) (by decide +kernel)⟩
theorem lw_p3 : lw_okq (⟨"FloorPlans", "whyNoSeating", "(III)I"⟩, 6) := ⟨⟨by decide +kernel, by decide +kernel⟩, List.mem_of_getElem? (i := 13) (by decide +kernel), List.mem_of_getElem? (i := 340) (by decide +kernel), List.mem_of_getElem? (i := 341) (by decide +kernel)⟩
theorem lw_p4 : lw_okq (⟨"FloorPlans$Seating", "walkAmongStaying", "(III)I"⟩, 12) := ⟨⟨by decide +kernel, by decide +kernel⟩, List.mem_of_getElem? (i := 86) (by decide +kernel), List.mem_of_getElem? (i := 364) (by decide +kernel), List.mem_of_getElem? (i := 365) (by decide +kernel)⟩
theorem lw_p5 : lw_okq (⟨"FloorPlans$Seating", "placeFrom", "(III)V"⟩, 12) := ⟨⟨by decide +kernel, by decide +kernel⟩, List.mem_of_getElem? (i := 86) (by decide +kernel), List.mem_of_getElem? (i := 373) (by decide +kernel), List.mem_of_getElem? (i := 374) (by decide +kernel)⟩
theorem lw_p6 : lw_okq (⟨"FloorPlans$Seating", "isBetter", "(II)Z"⟩, 12) := ⟨⟨by decide +kernel, by decide +kernel⟩, List.mem_of_getElem? (i := 86) (by decide +kernel), List.mem_of_getElem? (i := 377) (by decide +kernel), List.mem_of_getElem? (i := 378) (by decide +kernel)⟩
theorem lw_p7 : lw_okq (⟨"FloorPlans$Seating", "walkAmongPlaced", "(II)I"⟩, 12) := ⟨⟨by decide +kernel, by decide +kernel⟩, List.mem_of_getElem? (i := 86) (by decide +kernel), List.mem_of_getElem? (i := 382) (by decide +kernel), List.mem_of_getElem? (i := 383) (by decide +kernel)⟩
theorem lw_p8 : lw_okq (⟨"FloorPlans", "whyNoMoving", "(I)I"⟩, 6) := ⟨⟨by decide +kernel, by decide +kernel⟩, List.mem_of_getElem? (i := 13) (by decide +kernel), List.mem_of_getElem? (i := 410) (by decide +kernel), List.mem_of_getElem? (i := 411) (by decide +kernel)⟩
theorem lw_p9 : lw_okq (⟨"FloorPlans$Moving", "prepare", "(I)V"⟩, 13) := ⟨⟨by decide +kernel, by decide +kernel⟩, List.mem_of_getElem? (i := 133) (by decide +kernel), List.mem_of_getElem? (i := 430) (by decide +kernel), List.mem_of_getElem? (i := 431) (by decide +kernel)⟩
theorem lw_p10 : lw_okq (⟨"FloorPlans$Moving", "stateBy", "(I)I"⟩, 13) := ⟨⟨by decide +kernel, by decide +kernel⟩, List.mem_of_getElem? (i := 133) (by decide +kernel), List.mem_of_getElem? (i := 446) (by decide +kernel), List.mem_of_getElem? (i := 447) (by decide +kernel)⟩
theorem lw_p11 : lw_okq (⟨"FloorPlans$Moving", "enqueue", "(II)V"⟩, 13) := ⟨⟨by decide +kernel, by decide +kernel⟩, List.mem_of_getElem? (i := 133) (by decide +kernel), List.mem_of_getElem? (i := 450) (by decide +kernel), List.mem_of_getElem? (i := 451) (by decide +kernel)⟩
theorem lw_p12 : lw_okq (⟨"FloorPlans$Moving", "enqueueBefore", "(I)V"⟩, 13) := ⟨⟨by decide +kernel, by decide +kernel⟩, List.mem_of_getElem? (i := 133) (by decide +kernel), List.mem_of_getElem? (i := 454) (by decide +kernel), List.mem_of_getElem? (i := 455) (by decide +kernel)⟩
theorem lw_p13 : lw_okq (⟨"FloorPlans$Moving", "open", "(I)V"⟩, 13) := ⟨⟨by decide +kernel, by decide +kernel⟩, List.mem_of_getElem? (i := 133) (by decide +kernel), List.mem_of_getElem? (i := 458) (by decide +kernel), List.mem_of_getElem? (i := 459) (by decide +kernel)⟩
theorem lw_p14 : lw_okq (⟨"FloorPlans$Moving", "afterFirstMove", "(I)I"⟩, 13) := ⟨⟨by decide +kernel, by decide +kernel⟩, List.mem_of_getElem? (i := 133) (by decide +kernel), List.mem_of_getElem? (i := 471) (by decide +kernel), List.mem_of_getElem? (i := 472) (by decide +kernel)⟩
theorem lw_p15 : lw_okq (⟨"FloorPlans$Chances", "addPerson", "(I)V"⟩, 2) := ⟨⟨by decide +kernel, by decide +kernel⟩, List.mem_of_getElem? (i := 181) (by decide +kernel), List.mem_of_getElem? (i := 511) (by decide +kernel), List.mem_of_getElem? (i := 512) (by decide +kernel)⟩
def lw_privs_1 : List (MethodName × Nat) := [(⟨"FloorPlans", "refuse", "(I)I"⟩, 6), (⟨"FloorPlans", "noTeam", "(I)Z"⟩, 6), (⟨"FloorPlans$House", "agreesWithEarlier", "(II)Z"⟩, 10), (⟨"FloorPlans", "whyNoSeating", "(III)I"⟩, 6), (⟨"FloorPlans$Seating", "walkAmongStaying", "(III)I"⟩, 12), (⟨"FloorPlans$Seating", "placeFrom", "(III)V"⟩, 12), (⟨"FloorPlans$Seating", "isBetter", "(II)Z"⟩, 12), (⟨"FloorPlans$Seating", "walkAmongPlaced", "(II)I"⟩, 12), (⟨"FloorPlans", "whyNoMoving", "(I)I"⟩, 6), (⟨"FloorPlans$Moving", "prepare", "(I)V"⟩, 13), (⟨"FloorPlans$Moving", "stateBy", "(I)I"⟩, 13), (⟨"FloorPlans$Moving", "enqueue", "(II)V"⟩, 13), (⟨"FloorPlans$Moving", "enqueueBefore", "(I)V"⟩, 13), (⟨"FloorPlans$Moving", "open", "(I)V"⟩, 13), (⟨"FloorPlans$Moving", "afterFirstMove", "(I)I"⟩, 13), (⟨"FloorPlans$Chances", "addPerson", "(I)V"⟩, 2)]
theorem lw_r1 : ∀ q ∈ lw_privs_1, lw_okq q := List.forall_mem_cons.mpr ⟨lw_p0, List.forall_mem_cons.mpr ⟨lw_p1, List.forall_mem_cons.mpr ⟨lw_p2, List.forall_mem_cons.mpr ⟨lw_p3, List.forall_mem_cons.mpr ⟨lw_p4, List.forall_mem_cons.mpr ⟨lw_p5, List.forall_mem_cons.mpr ⟨lw_p6, List.forall_mem_cons.mpr ⟨lw_p7, List.forall_mem_cons.mpr ⟨lw_p8, List.forall_mem_cons.mpr ⟨lw_p9, List.forall_mem_cons.mpr ⟨lw_p10, List.forall_mem_cons.mpr ⟨lw_p11, List.forall_mem_cons.mpr ⟨lw_p12, List.forall_mem_cons.mpr ⟨lw_p13, List.forall_mem_cons.mpr ⟨lw_p14, List.forall_mem_cons.mpr ⟨lw_p15, fun _ h => absurd h List.not_mem_nil⟩⟩⟩⟩⟩⟩⟩⟩⟩⟩⟩⟩⟩⟩⟩⟩
theorem lw_p16 : lw_okq (⟨"FloorPlans$Chances", "leastOfSpread", "(I)I"⟩, 2) := ⟨⟨by decide +kernel, by decide +kernel⟩, List.mem_of_getElem? (i := 181) (by decide +kernel), List.mem_of_getElem? (i := 529) (by decide +kernel), List.mem_of_getElem? (i := 530) (by decide +kernel)⟩
theorem lw_p17 : lw_okq (⟨"FloorPlans$Leases", "seatsNeeded", "(I)I"⟩, 6) := ⟨⟨by decide +kernel, by decide +kernel⟩, List.mem_of_getElem? (i := 195) (by decide +kernel), List.mem_of_getElem? (i := 558) (by decide +kernel), List.mem_of_getElem? (i := 559) (by decide +kernel)⟩
theorem lw_p18 : lw_okq (⟨"FloorPlans$Leases", "heldFloors", "(I)I"⟩, 6) := ⟨⟨by decide +kernel, by decide +kernel⟩, List.mem_of_getElem? (i := 195) (by decide +kernel), List.mem_of_getElem? (i := 563) (by decide +kernel), List.mem_of_getElem? (i := 564) (by decide +kernel)⟩
theorem lw_p19 : lw_okq (⟨"FloorPlans$Leases", "addFrom", "(IIII)V"⟩, 6) := ⟨⟨by decide +kernel, by decide +kernel⟩, List.mem_of_getElem? (i := 195) (by decide +kernel), List.mem_of_getElem? (i := 568) (by decide +kernel), List.mem_of_getElem? (i := 569) (by decide +kernel)⟩
theorem lw_p20 : lw_okq (⟨"FloorPlans$Leases", "keepIfBetter", "(II)V"⟩, 6) := ⟨⟨by decide +kernel, by decide +kernel⟩, List.mem_of_getElem? (i := 195) (by decide +kernel), List.mem_of_getElem? (i := 572) (by decide +kernel), List.mem_of_getElem? (i := 573) (by decide +kernel)⟩
theorem lw_p21 : lw_okq (⟨"FloorPlans$Leases", "isSmaller", "(I)Z"⟩, 6) := ⟨⟨by decide +kernel, by decide +kernel⟩, List.mem_of_getElem? (i := 195) (by decide +kernel), List.mem_of_getElem? (i := 576) (by decide +kernel), List.mem_of_getElem? (i := 577) (by decide +kernel)⟩
theorem lw_p22 : lw_okq (⟨"FloorPlans$House", "hadLess", "(II)Z"⟩, 10) := ⟨⟨by decide +kernel, by decide +kernel⟩, List.mem_of_getElem? (i := 21) (by decide +kernel), List.mem_of_getElem? (i := 597) (by decide +kernel), List.mem_of_getElem? (i := 598) (by decide +kernel)⟩
theorem lw_p23 : lw_okq (⟨"FloorPlansModel", "no", "(I)I"⟩, 37) := ⟨⟨by decide +kernel, by decide +kernel⟩, List.mem_of_getElem? (i := 627) (by decide +kernel), List.mem_of_getElem? (i := 753) (by decide +kernel), List.mem_of_getElem? (i := 754) (by decide +kernel)⟩
theorem lw_p24 : lw_okq (⟨"FloorPlansModel", "isTeam", "(I)Z"⟩, 37) := ⟨⟨by decide +kernel, by decide +kernel⟩, List.mem_of_getElem? (i := 627) (by decide +kernel), List.mem_of_getElem? (i := 765) (by decide +kernel), List.mem_of_getElem? (i := 766) (by decide +kernel)⟩
theorem lw_p25 : lw_okq (⟨"FloorPlansModel", "isFit", "([I)Z"⟩, 37) := ⟨⟨by decide +kernel, by decide +kernel⟩, List.mem_of_getElem? (i := 627) (by decide +kernel), List.mem_of_getElem? (i := 785) (by decide +kernel), List.mem_of_getElem? (i := 786) (by decide +kernel)⟩
theorem lw_p26 : lw_okq (⟨"FloorPlansModel", "walks", "([I)I"⟩, 37) := ⟨⟨by decide +kernel, by decide +kernel⟩, List.mem_of_getElem? (i := 627) (by decide +kernel), List.mem_of_getElem? (i := 800) (by decide +kernel), List.mem_of_getElem? (i := 801) (by decide +kernel)⟩
theorem lw_p27 : lw_okq (⟨"FloorPlansModel", "refuses", "(III)I"⟩, 37) := ⟨⟨by decide +kernel, by decide +kernel⟩, List.mem_of_getElem? (i := 627) (by decide +kernel), List.mem_of_getElem? (i := 808) (by decide +kernel), List.mem_of_getElem? (i := 809) (by decide +kernel)⟩
theorem lw_p28 : lw_okq (⟨"FloorPlansModel", "seats", "(II)Z"⟩, 37) := ⟨⟨by decide +kernel, by decide +kernel⟩, List.mem_of_getElem? (i := 627) (by decide +kernel), List.mem_of_getElem? (i := 815) (by decide +kernel), List.mem_of_getElem? (i := 816) (by decide +kernel)⟩
theorem lw_p29 : lw_okq (⟨"FloorPlansModel", "refuses", "(I)I"⟩, 37) := ⟨⟨by decide +kernel, by decide +kernel⟩, List.mem_of_getElem? (i := 627) (by decide +kernel), List.mem_of_getElem? (i := 835) (by decide +kernel), List.mem_of_getElem? (i := 836) (by decide +kernel)⟩
theorem lw_p30 : lw_okq (⟨"FloorPlansModel", "spot", "(I)I"⟩, 37) := ⟨⟨by decide +kernel, by decide +kernel⟩, List.mem_of_getElem? (i := 627) (by decide +kernel), List.mem_of_getElem? (i := 839) (by decide +kernel), List.mem_of_getElem? (i := 840) (by decide +kernel)⟩
theorem lw_p31 : lw_okq (⟨"FloorPlansModel", "measures", "()V"⟩, 37) := ⟨⟨by decide +kernel, by decide +kernel⟩, List.mem_of_getElem? (i := 627) (by decide +kernel), List.mem_of_getElem? (i := 843) (by decide +kernel), List.mem_of_getElem? (i := 844) (by decide +kernel)⟩
def lw_privs_2 : List (MethodName × Nat) := [(⟨"FloorPlans$Chances", "leastOfSpread", "(I)I"⟩, 2), (⟨"FloorPlans$Leases", "seatsNeeded", "(I)I"⟩, 6), (⟨"FloorPlans$Leases", "heldFloors", "(I)I"⟩, 6), (⟨"FloorPlans$Leases", "addFrom", "(IIII)V"⟩, 6), (⟨"FloorPlans$Leases", "keepIfBetter", "(II)V"⟩, 6), (⟨"FloorPlans$Leases", "isSmaller", "(I)Z"⟩, 6), (⟨"FloorPlans$House", "hadLess", "(II)Z"⟩, 10), (⟨"FloorPlansModel", "no", "(I)I"⟩, 37), (⟨"FloorPlansModel", "isTeam", "(I)Z"⟩, 37), (⟨"FloorPlansModel", "isFit", "([I)Z"⟩, 37), (⟨"FloorPlansModel", "walks", "([I)I"⟩, 37), (⟨"FloorPlansModel", "refuses", "(III)I"⟩, 37), (⟨"FloorPlansModel", "seats", "(II)Z"⟩, 37), (⟨"FloorPlansModel", "refuses", "(I)I"⟩, 37), (⟨"FloorPlansModel", "spot", "(I)I"⟩, 37), (⟨"FloorPlansModel", "measures", "()V"⟩, 37)]
theorem lw_r2 : ∀ q ∈ lw_privs_2, lw_okq q := List.forall_mem_cons.mpr ⟨lw_p16, List.forall_mem_cons.mpr ⟨lw_p17, List.forall_mem_cons.mpr ⟨lw_p18, List.forall_mem_cons.mpr ⟨lw_p19, List.forall_mem_cons.mpr ⟨lw_p20, List.forall_mem_cons.mpr ⟨lw_p21, List.forall_mem_cons.mpr ⟨lw_p22, List.forall_mem_cons.mpr ⟨lw_p23, List.forall_mem_cons.mpr ⟨lw_p24, List.forall_mem_cons.mpr ⟨lw_p25, List.forall_mem_cons.mpr ⟨lw_p26, List.forall_mem_cons.mpr ⟨lw_p27, List.forall_mem_cons.mpr ⟨lw_p28, List.forall_mem_cons.mpr ⟨lw_p29, List.forall_mem_cons.mpr ⟨lw_p30, List.forall_mem_cons.mpr ⟨lw_p31, fun _ h => absurd h List.not_mem_nil⟩⟩⟩⟩⟩⟩⟩⟩⟩⟩⟩⟩⟩⟩⟩⟩
theorem lw_p32 : lw_okq (⟨"FloorPlansModel", "digit", "(II)I"⟩, 37) := ⟨⟨by decide +kernel, by decide +kernel⟩, List.mem_of_getElem? (i := 627) (by decide +kernel), List.mem_of_getElem? (i := 847) (by decide +kernel), List.mem_of_getElem? (i := 848) (by decide +kernel)⟩
theorem lw_p33 : lw_okq (⟨"FloorPlansModel", "with", "(III)I"⟩, 37) := ⟨⟨by decide +kernel, by decide +kernel⟩, List.mem_of_getElem? (i := 627) (by decide +kernel), List.mem_of_getElem? (i := 851) (by decide +kernel), List.mem_of_getElem? (i := 852) (by decide +kernel)⟩
theorem lw_p34 : lw_okq (⟨"FloorPlansModel", "goes", "(III)Z"⟩, 37) := ⟨⟨by decide +kernel, by decide +kernel⟩, List.mem_of_getElem? (i := 627) (by decide +kernel), List.mem_of_getElem? (i := 855) (by decide +kernel), List.mem_of_getElem? (i := 856) (by decide +kernel)⟩
theorem lw_p35 : lw_okq (⟨"FloorPlansModel", "freeIn", "(II)I"⟩, 37) := ⟨⟨by decide +kernel, by decide +kernel⟩, List.mem_of_getElem? (i := 627) (by decide +kernel), List.mem_of_getElem? (i := 859) (by decide +kernel), List.mem_of_getElem? (i := 860) (by decide +kernel)⟩
theorem lw_p36 : lw_okq (⟨"FloorPlansModel", "moves", "(I)I"⟩, 37) := ⟨⟨by decide +kernel, by decide +kernel⟩, List.mem_of_getElem? (i := 627) (by decide +kernel), List.mem_of_getElem? (i := 867) (by decide +kernel), List.mem_of_getElem? (i := 868) (by decide +kernel)⟩
theorem lw_p37 : lw_okq (⟨"FloorPlansModel", "lacks", "(III)J"⟩, 37) := ⟨⟨by decide +kernel, by decide +kernel⟩, List.mem_of_getElem? (i := 627) (by decide +kernel), List.mem_of_getElem? (i := 887) (by decide +kernel), List.mem_of_getElem? (i := 888) (by decide +kernel)⟩
theorem lw_p38 : lw_okq (⟨"FloorPlansModel", "sizeAt", "(II)I"⟩, 37) := ⟨⟨by decide +kernel, by decide +kernel⟩, List.mem_of_getElem? (i := 627) (by decide +kernel), List.mem_of_getElem? (i := 906) (by decide +kernel), List.mem_of_getElem? (i := 907) (by decide +kernel)⟩
theorem lw_p39 : lw_okq (⟨"FloorPlansModel", "part", "(III)I"⟩, 37) := ⟨⟨by decide +kernel, by decide +kernel⟩, List.mem_of_getElem? (i := 627) (by decide +kernel), List.mem_of_getElem? (i := 918) (by decide +kernel), List.mem_of_getElem? (i := 919) (by decide +kernel)⟩
theorem lw_p40 : lw_okq (⟨"FloorPlansModel", "rest", "(III)J"⟩, 37) := ⟨⟨by decide +kernel, by decide +kernel⟩, List.mem_of_getElem? (i := 627) (by decide +kernel), List.mem_of_getElem? (i := 922) (by decide +kernel), List.mem_of_getElem? (i := 923) (by decide +kernel)⟩
theorem lw_p41 : lw_okq (⟨"FloorPlansModel", "twos", "([I)I"⟩, 37) := ⟨⟨by decide +kernel, by decide +kernel⟩, List.mem_of_getElem? (i := 627) (by decide +kernel), List.mem_of_getElem? (i := 942) (by decide +kernel), List.mem_of_getElem? (i := 943) (by decide +kernel)⟩
def lw_privs_3 : List (MethodName × Nat) := [(⟨"FloorPlansModel", "digit", "(II)I"⟩, 37), (⟨"FloorPlansModel", "with", "(III)I"⟩, 37), (⟨"FloorPlansModel", "goes", "(III)Z"⟩, 37), (⟨"FloorPlansModel", "freeIn", "(II)I"⟩, 37), (⟨"FloorPlansModel", "moves", "(I)I"⟩, 37), (⟨"FloorPlansModel", "lacks", "(III)J"⟩, 37), (⟨"FloorPlansModel", "sizeAt", "(II)I"⟩, 37), (⟨"FloorPlansModel", "part", "(III)I"⟩, 37), (⟨"FloorPlansModel", "rest", "(III)J"⟩, 37), (⟨"FloorPlansModel", "twos", "([I)I"⟩, 37)]
theorem lw_r3 : ∀ q ∈ lw_privs_3, lw_okq q := List.forall_mem_cons.mpr ⟨lw_p32, List.forall_mem_cons.mpr ⟨lw_p33, List.forall_mem_cons.mpr ⟨lw_p34, List.forall_mem_cons.mpr ⟨lw_p35, List.forall_mem_cons.mpr ⟨lw_p36, List.forall_mem_cons.mpr ⟨lw_p37, List.forall_mem_cons.mpr ⟨lw_p38, List.forall_mem_cons.mpr ⟨lw_p39, List.forall_mem_cons.mpr ⟨lw_p40, List.forall_mem_cons.mpr ⟨lw_p41, fun _ h => absurd h List.not_mem_nil⟩⟩⟩⟩⟩⟩⟩⟩⟩⟩
def lw_privs : List (MethodName × Nat) := lw_privs_1 ++ (lw_privs_2 ++ (lw_privs_3))
def lw_tbl : List Cond := k2_sels lw_privs ++ tables_1
theorem lw_privs_ok : ∀ q ∈ lw_privs, lw_okq q := by
  show ∀ q ∈ lw_privs_1 ++ (lw_privs_2 ++ (lw_privs_3)), lw_okq q
  exact List.forall_mem_append.mpr ⟨lw_r1, List.forall_mem_append.mpr ⟨lw_r2, lw_r3⟩⟩
end
section
/-! names: classes and their fields (as TURN printed them), methods as tables: byte pc, instruction, its length, the number of the next one, two numbers (target; class and field; static), the place of its word in lw_tbl -/
def RX0 : String := "FloorPlans$Chances"
def TX0 : u_T := fun k => match k with
  | 0 => ("FloorPlans$Chances", "house", "LFloorPlans$House;", true)
  | _ => ("FloorPlans$Chances", "parts", "[J", true)
def tyX0 : Nat → FieldType := fun k => match k with
  | 0 => .object "FloorPlans$House"
  | _ => .array .long
abbrev wsX00 : List Cond := u_ws RX0 TX0 2
theorem nmX0 : ∀ a, a < 2 → ∀ b, b < 2 → a ≠ b → (TX0 a).2.1 ≠ (TX0 b).2.1 := by decide +kernel
theorem tyX0_ok : ∀ k, k < 2 → parseFieldDescriptor (TX0 k).2.2.1 = some (tyX0 k) := by decide +kernel
def RX1 : String := "FloorPlans$House"
def TX1 : u_T := fun k => match k with
  | 0 => ("FloorPlans$House", "floors", "[[I", true)
  | 1 => ("FloorPlans$House", "teams", "[[I", true)
  | 2 => ("FloorPlans$House", "visits", "[[I", true)
  | 3 => ("FloorPlans$House", "barred", "[[I", true)
  | 4 => ("FloorPlans$House", "near", "[[I", true)
  | 5 => ("FloorPlans$House", "homes", "[[I", true)
  | 6 => ("FloorPlans$House", "sures", "[[I", true)
  | 7 => ("FloorPlans$House", "growth", "[[I", true)
  | 8 => ("FloorPlans$House", "teamCount", "I", false)
  | _ => ("FloorPlans$House", "liftTimes", "I", false)
def tyX1 : Nat → FieldType := fun k => match k with
  | 0 => .array (.array .int)
  | 1 => .array (.array .int)
  | 2 => .array (.array .int)
  | 3 => .array (.array .int)
  | 4 => .array (.array .int)
  | 5 => .array (.array .int)
  | 6 => .array (.array .int)
  | 7 => .array (.array .int)
  | 8 => .int
  | _ => .int
abbrev wsX10 : List Cond := u_ws RX1 TX1 10
theorem nmX1 : ∀ a, a < 10 → ∀ b, b < 10 → a ≠ b → (TX1 a).2.1 ≠ (TX1 b).2.1 := by decide +kernel
theorem tyX1_ok : ∀ k, k < 10 → parseFieldDescriptor (TX1 k).2.2.1 = some (tyX1 k) := by decide +kernel
def RX2 : String := "FloorPlans$Leases"
def TX2 : u_T := fun k => match k with
  | 0 => ("FloorPlans$Leases", "house", "LFloorPlans$House;", true)
  | 1 => ("FloorPlans$Leases", "seatsFrom", "[I", true)
  | 2 => ("FloorPlans$Leases", "heldSet", "I", false)
  | 3 => ("FloorPlans$Leases", "needed", "I", false)
  | 4 => ("FloorPlans$Leases", "keptSet", "I", false)
  | _ => ("FloorPlans$Leases", "keptPrice", "I", false)
def tyX2 : Nat → FieldType := fun k => match k with
  | 0 => .object "FloorPlans$House"
  | 1 => .array .int
  | 2 => .int
  | 3 => .int
  | 4 => .int
  | _ => .int
abbrev wsX20 : List Cond := u_ws RX2 TX2 6
theorem nmX2 : ∀ a, a < 6 → ∀ b, b < 6 → a ≠ b → (TX2 a).2.1 ≠ (TX2 b).2.1 := by decide +kernel
theorem tyX2_ok : ∀ k, k < 6 → parseFieldDescriptor (TX2 k).2.2.1 = some (tyX2 k) := by decide +kernel
def RX3 : String := "FloorPlans$Moving"
def TX3 : u_T := fun k => match k with
  | 0 => ("FloorPlans$Moving", "house", "LFloorPlans$House;", true)
  | 1 => ("FloorPlans$Moving", "movers", "[I", true)
  | 2 => ("FloorPlans$Moving", "stops", "[I", true)
  | 3 => ("FloorPlans$Moving", "seatsForMovers", "[I", true)
  | 4 => ("FloorPlans$Moving", "digits", "[I", true)
  | 5 => ("FloorPlans$Moving", "spare", "[I", true)
  | 6 => ("FloorPlans$Moving", "movesLeft", "[I", false)
  | 7 => ("FloorPlans$Moving", "queue", "[I", false)
  | 8 => ("FloorPlans$Moving", "queued", "I", false)
  | 9 => ("FloorPlans$Moving", "moverCount", "I", false)
  | 10 => ("FloorPlans$Moving", "stopCount", "I", false)
  | 11 => ("FloorPlans$Moving", "movedTeam", "I", false)
  | _ => ("FloorPlans$Moving", "movedTo", "I", false)
def tyX3 : Nat → FieldType := fun k => match k with
  | 0 => .object "FloorPlans$House"
  | 1 => .array .int
  | 2 => .array .int
  | 3 => .array .int
  | 4 => .array .int
  | 5 => .array .int
  | 6 => .array .int
  | 7 => .array .int
  | 8 => .int
  | 9 => .int
  | 10 => .int
  | 11 => .int
  | _ => .int
abbrev wsX30 : List Cond := u_ws RX3 TX3 13
theorem nmX3 : ∀ a, a < 13 → ∀ b, b < 13 → a ≠ b → (TX3 a).2.1 ≠ (TX3 b).2.1 := by decide +kernel
theorem tyX3_ok : ∀ k, k < 13 → parseFieldDescriptor (TX3 k).2.2.1 = some (tyX3 k) := by decide +kernel
def RX4 : String := "FloorPlans$Seating"
def TX4 : u_T := fun k => match k with
  | 0 => ("FloorPlans$Seating", "house", "LFloorPlans$House;", true)
  | 1 => ("FloorPlans$Seating", "chosen", "[I", true)
  | 2 => ("FloorPlans$Seating", "offered", "[I", true)
  | 3 => ("FloorPlans$Seating", "spare", "[I", true)
  | 4 => ("FloorPlans$Seating", "walkToStaying", "[[I", true)
  | 5 => ("FloorPlans$Seating", "tried", "[I", true)
  | 6 => ("FloorPlans$Seating", "bestPlaces", "[I", true)
  | 7 => ("FloorPlans$Seating", "chosenCount", "I", false)
  | 8 => ("FloorPlans$Seating", "offeredCount", "I", false)
  | 9 => ("FloorPlans$Seating", "found", "Z", false)
  | 10 => ("FloorPlans$Seating", "bestWalk", "I", false)
  | _ => ("FloorPlans$Seating", "bestChanges", "I", false)
def tyX4 : Nat → FieldType := fun k => match k with
  | 0 => .object "FloorPlans$House"
  | 1 => .array .int
  | 2 => .array .int
  | 3 => .array .int
  | 4 => .array (.array .int)
  | 5 => .array .int
  | 6 => .array .int
  | 7 => .int
  | 8 => .int
  | 9 => .boolean
  | 10 => .int
  | _ => .int
abbrev wsX40 : List Cond := u_ws RX4 TX4 12
theorem nmX4 : ∀ a, a < 12 → ∀ b, b < 12 → a ≠ b → (TX4 a).2.1 ≠ (TX4 b).2.1 := by decide +kernel
theorem tyX4_ok : ∀ k, k < 12 → parseFieldDescriptor (TX4 k).2.2.1 = some (tyX4 k) := by decide +kernel
def RX5 : String := "FloorPlans"
def TX5 : u_T := fun k => match k with
  | 0 => ("FloorPlans", "house", "LFloorPlans$House;", true)
  | 1 => ("FloorPlans", "seating", "LFloorPlans$Seating;", true)
  | 2 => ("FloorPlans", "moving", "LFloorPlans$Moving;", true)
  | 3 => ("FloorPlans", "chances", "LFloorPlans$Chances;", true)
  | 4 => ("FloorPlans", "leases", "LFloorPlans$Leases;", true)
  | _ => ("FloorPlans", "refusals", "[I", true)
def tyX5 : Nat → FieldType := fun k => match k with
  | 0 => .object "FloorPlans$House"
  | 1 => .object "FloorPlans$Seating"
  | 2 => .object "FloorPlans$Moving"
  | 3 => .object "FloorPlans$Chances"
  | 4 => .object "FloorPlans$Leases"
  | _ => .array .int
abbrev wsX50 : List Cond := u_ws RX5 TX5 6
theorem nmX5 : ∀ a, a < 6 → ∀ b, b < 6 → a ≠ b → (TX5 a).2.1 ≠ (TX5 b).2.1 := by decide +kernel
theorem tyX5_ok : ∀ k, k < 6 → parseFieldDescriptor (TX5 k).2.2.1 = some (tyX5 k) := by decide +kernel
def RX6 : String := "FloorPlansModel"
def TX6 : u_T := fun k => match k with
  | 0 => ("FloorPlansModel", "teams", "I", false)
  | 1 => ("FloorPlansModel", "lift", "I", false)
  | 2 => ("FloorPlansModel", "seats", "[I", true)
  | 3 => ("FloorPlansModel", "kinds", "[I", true)
  | 4 => ("FloorPlansModel", "price", "[I", true)
  | 5 => ("FloorPlansModel", "lease", "[I", true)
  | 6 => ("FloorPlansModel", "size", "[I", true)
  | 7 => ("FloorPlansModel", "needs", "[I", true)
  | 8 => ("FloorPlansModel", "loud", "[I", true)
  | 9 => ("FloorPlansModel", "noise", "[I", true)
  | 10 => ("FloorPlansModel", "floor", "[I", true)
  | 11 => ("FloorPlansModel", "target", "[I", true)
  | 12 => ("FloorPlansModel", "people", "[I", true)
  | 13 => ("FloorPlansModel", "turns", "[I", true)
  | 14 => ("FloorPlansModel", "fixed", "[Z", true)
  | 15 => ("FloorPlansModel", "visits", "[I", true)
  | 16 => ("FloorPlansModel", "barred", "[I", true)
  | 17 => ("FloorPlansModel", "near", "[I", true)
  | 18 => ("FloorPlansModel", "home", "[I", true)
  | 19 => ("FloorPlansModel", "sure", "[I", true)
  | 20 => ("FloorPlansModel", "grown", "[I", true)
  | 21 => ("FloorPlansModel", "refused", "[I", true)
  | 22 => ("FloorPlansModel", "trial", "[I", true)
  | 23 => ("FloorPlansModel", "found", "[I", true)
  | 24 => ("FloorPlansModel", "list", "[I", true)
  | 25 => ("FloorPlansModel", "places", "[I", true)
  | 26 => ("FloorPlansModel", "far", "[I", true)
  | 27 => ("FloorPlansModel", "queue", "[I", true)
  | 28 => ("FloorPlansModel", "row", "[J", true)
  | 29 => ("FloorPlansModel", "leastWalked", "I", false)
  | 30 => ("FloorPlansModel", "leastChanged", "I", false)
  | 31 => ("FloorPlansModel", "movers", "I", false)
  | 32 => ("FloorPlansModel", "spots", "I", false)
  | 33 => ("FloorPlansModel", "start", "I", false)
  | 34 => ("FloorPlansModel", "goal", "I", false)
  | 35 => ("FloorPlansModel", "moveTeam", "I", false)
  | _ => ("FloorPlansModel", "moveSpot", "I", false)
def tyX6 : Nat → FieldType := fun k => match k with
  | 0 => .int
  | 1 => .int
  | 2 => .array .int
  | 3 => .array .int
  | 4 => .array .int
  | 5 => .array .int
  | 6 => .array .int
  | 7 => .array .int
  | 8 => .array .int
  | 9 => .array .int
  | 10 => .array .int
  | 11 => .array .int
  | 12 => .array .int
  | 13 => .array .int
  | 14 => .array .boolean
  | 15 => .array .int
  | 16 => .array .int
  | 17 => .array .int
  | 18 => .array .int
  | 19 => .array .int
  | 20 => .array .int
  | 21 => .array .int
  | 22 => .array .int
  | 23 => .array .int
  | 24 => .array .int
  | 25 => .array .int
  | 26 => .array .int
  | 27 => .array .int
  | 28 => .array .long
  | 29 => .int
  | 30 => .int
  | 31 => .int
  | 32 => .int
  | 33 => .int
  | 34 => .int
  | 35 => .int
  | _ => .int
abbrev wsX60 : List Cond := u_ws RX6 TX6 37
theorem nmX6 : ∀ a, a < 37 → ∀ b, b < 37 → a ≠ b → (TX6 a).2.1 ≠ (TX6 b).2.1 := by decide +kernel
theorem tyX6_ok : ∀ k, k < 37 → parseFieldDescriptor (TX6 k).2.2.1 = some (tyX6 k) := by decide +kernel
abbrev vwCl : List vw_C := [(RX0, TX0, 2), (RX1, TX1, 10), (RX2, TX2, 6), (RX3, TX3, 13), (RX4, TX4, 12), (RX5, TX5, 6), (RX6, TX6, 37)]
def NM : List MethodName := [⟨"FloorPlans", "<init>", "()V"⟩,
  ⟨"FloorPlans", "best", "(III)I"⟩,
  ⟨"FloorPlans", "bestOf", "(III)I"⟩,
  ⟨"FloorPlans", "bill", "(I)I"⟩,
  ⟨"FloorPlans", "count", "(I)I"⟩,
  ⟨"FloorPlans", "desks", "(I)I"⟩,
  ⟨"FloorPlans", "exchange", "([III)I"⟩,
  ⟨"FloorPlans", "fit", "()I"⟩,
  ⟨"FloorPlans", "fix", "(IZ)I"⟩,
  ⟨"FloorPlans", "floor", "(III)I"⟩,
  ⟨"FloorPlans", "free", "(I)I"⟩,
  ⟨"FloorPlans", "go", "(I)I"⟩,
  ⟨"FloorPlans", "grow", "(III)I"⟩,
  ⟨"FloorPlans", "holds", "(II)Z"⟩,
  ⟨"FloorPlans", "kept", "(II)I"⟩,
  ⟨"FloorPlans", "lack", "(III)I"⟩,
  ⟨"FloorPlans", "least", "(II)I"⟩,
  ⟨"FloorPlans", "lift", "(I)I"⟩,
  ⟨"FloorPlans", "list", "(I[I)I"⟩,
  ⟨"FloorPlans", "move", "(III)I"⟩,
  ⟨"FloorPlans", "noFloor", "(I)Z"⟩,
  ⟨"FloorPlans", "noQuarter", "(I)Z"⟩,
  ⟨"FloorPlans", "noTeam", "(I)Z"⟩,
  ⟨"FloorPlans", "person", "(III)I"⟩,
  ⟨"FloorPlans", "refuse", "(I)I"⟩,
  ⟨"FloorPlans", "seat", "(II)I"⟩,
  ⟨"FloorPlans", "sit", "(II)I"⟩,
  ⟨"FloorPlans", "size", "(II)I"⟩,
  ⟨"FloorPlans", "sizeIn", "(II)I"⟩,
  ⟨"FloorPlans", "target", "(II)I"⟩,
  ⟨"FloorPlans", "team", "(IIII)I"⟩,
  ⟨"FloorPlans", "teamOf", "(II)I"⟩,
  ⟨"FloorPlans", "turn", "(I)I"⟩,
  ⟨"FloorPlans", "two", "(IIII)I"⟩,
  ⟨"FloorPlans", "walked", "()I"⟩,
  ⟨"FloorPlans", "weekends", "(I)I"⟩,
  ⟨"FloorPlans", "whyNoMoving", "(I)I"⟩,
  ⟨"FloorPlans", "whyNoSeating", "(III)I"⟩,
  ⟨"FloorPlans$Chances", "<init>", "(LFloorPlans$House;)V"⟩,
  ⟨"FloorPlans$Chances", "addPerson", "(I)V"⟩,
  ⟨"FloorPlans$Chances", "leastDesks", "(II)I"⟩,
  ⟨"FloorPlans$Chances", "leastOfSpread", "(I)I"⟩,
  ⟨"FloorPlans$Chances", "moreThan", "(I)I"⟩,
  ⟨"FloorPlans$Chances", "mostComing", "(I)I"⟩,
  ⟨"FloorPlans$Chances", "spread", "(II)V"⟩,
  ⟨"FloorPlans$House", "<init>", "()V"⟩,
  ⟨"FloorPlans$House", "agree", "(IIII)Z"⟩,
  ⟨"FloorPlans$House", "agreesWithEarlier", "(II)Z"⟩,
  ⟨"FloorPlans$House", "fixedTeams", "()I"⟩,
  ⟨"FloorPlans$House", "floorsOfMovers", "()I"⟩,
  ⟨"FloorPlans$House", "foretold", "(II)I"⟩,
  ⟨"FloorPlans$House", "freeSeats", "(II)I"⟩,
  ⟨"FloorPlans$House", "hadLess", "(II)Z"⟩,
  ⟨"FloorPlans$House", "isFit", "(I)Z"⟩,
  ⟨"FloorPlans$House", "nextAtWindow", "(I)I"⟩,
  ⟨"FloorPlans$House", "peopleTold", "()I"⟩,
  ⟨"FloorPlans$House", "shareOf", "(I)I"⟩,
  ⟨"FloorPlans$House", "standingTeams", "()I"⟩,
  ⟨"FloorPlans$House", "stays", "(II)Z"⟩,
  ⟨"FloorPlans$House", "suits", "(II)Z"⟩,
  ⟨"FloorPlans$House", "tableOf", "(I)[[I"⟩,
  ⟨"FloorPlans$House", "takeTargets", "()V"⟩,
  ⟨"FloorPlans$House", "targetedTeams", "()I"⟩,
  ⟨"FloorPlans$House", "teamsWith", "(II)I"⟩,
  ⟨"FloorPlans$House", "twosIn", "(I)I"⟩,
  ⟨"FloorPlans$House", "walk", "(I)I"⟩,
  ⟨"FloorPlans$House", "walkBetween", "(IIII)I"⟩,
  ⟨"FloorPlans$Leases", "<init>", "(LFloorPlans$House;)V"⟩,
  ⟨"FloorPlans$Leases", "addFrom", "(IIII)V"⟩,
  ⟨"FloorPlans$Leases", "heldFloors", "(I)I"⟩,
  ⟨"FloorPlans$Leases", "isSmaller", "(I)Z"⟩,
  ⟨"FloorPlans$Leases", "keepIfBetter", "(II)V"⟩,
  ⟨"FloorPlans$Leases", "search", "(I)V"⟩,
  ⟨"FloorPlans$Leases", "seatsNeeded", "(I)I"⟩,
  ⟨"FloorPlans$Moving", "<init>", "(LFloorPlans$House;)V"⟩,
  ⟨"FloorPlans$Moving", "afterFirstMove", "(I)I"⟩,
  ⟨"FloorPlans$Moving", "enqueue", "(II)V"⟩,
  ⟨"FloorPlans$Moving", "enqueueBefore", "(I)V"⟩,
  ⟨"FloorPlans$Moving", "followTo", "(I)V"⟩,
  ⟨"FloorPlans$Moving", "open", "(I)V"⟩,
  ⟨"FloorPlans$Moving", "prepare", "(I)V"⟩,
  ⟨"FloorPlans$Moving", "search", "(I)I"⟩,
  ⟨"FloorPlans$Moving", "stateBy", "(I)I"⟩,
  ⟨"FloorPlans$Seating", "<init>", "(LFloorPlans$House;)V"⟩,
  ⟨"FloorPlans$Seating", "bestFloorOf", "(I)I"⟩,
  ⟨"FloorPlans$Seating", "isBetter", "(II)Z"⟩,
  ⟨"FloorPlans$Seating", "placeFrom", "(III)V"⟩,
  ⟨"FloorPlans$Seating", "search", "(II)V"⟩,
  ⟨"FloorPlans$Seating", "takeBest", "()V"⟩,
  ⟨"FloorPlans$Seating", "walkAmongPlaced", "(II)I"⟩,
  ⟨"FloorPlans$Seating", "walkAmongStaying", "(III)I"⟩,
  ⟨"FloorPlansModel", "<init>", "()V"⟩,
  ⟨"FloorPlansModel", "apart", "(II)I"⟩,
  ⟨"FloorPlansModel", "best", "(III)I"⟩,
  ⟨"FloorPlansModel", "bestOf", "(III)I"⟩,
  ⟨"FloorPlansModel", "bill", "(I)I"⟩,
  ⟨"FloorPlansModel", "bits", "(I)I"⟩,
  ⟨"FloorPlansModel", "count", "(I)I"⟩,
  ⟨"FloorPlansModel", "desks", "(I)I"⟩,
  ⟨"FloorPlansModel", "digit", "(II)I"⟩,
  ⟨"FloorPlansModel", "fit", "()I"⟩,
  ⟨"FloorPlansModel", "fix", "(IZ)I"⟩,
  ⟨"FloorPlansModel", "floor", "(III)I"⟩,
  ⟨"FloorPlansModel", "free", "(I)I"⟩,
  ⟨"FloorPlansModel", "freeIn", "(II)I"⟩,
  ⟨"FloorPlansModel", "go", "(I)I"⟩,
  ⟨"FloorPlansModel", "goes", "(III)Z"⟩,
  ⟨"FloorPlansModel", "grow", "(III)I"⟩,
  ⟨"FloorPlansModel", "isFit", "([I)Z"⟩,
  ⟨"FloorPlansModel", "isFloor", "(I)Z"⟩,
  ⟨"FloorPlansModel", "isTeam", "(I)Z"⟩,
  ⟨"FloorPlansModel", "kept", "(II)I"⟩,
  ⟨"FloorPlansModel", "lack", "(III)I"⟩,
  ⟨"FloorPlansModel", "lacks", "(III)J"⟩,
  ⟨"FloorPlansModel", "least", "(II)I"⟩,
  ⟨"FloorPlansModel", "lift", "(I)I"⟩,
  ⟨"FloorPlansModel", "measures", "()V"⟩,
  ⟨"FloorPlansModel", "move", "(III)I"⟩,
  ⟨"FloorPlansModel", "moves", "(I)I"⟩,
  ⟨"FloorPlansModel", "no", "(I)I"⟩,
  ⟨"FloorPlansModel", "part", "(III)I"⟩,
  ⟨"FloorPlansModel", "person", "(III)I"⟩,
  ⟨"FloorPlansModel", "refuses", "(I)I"⟩,
  ⟨"FloorPlansModel", "refuses", "(III)I"⟩,
  ⟨"FloorPlansModel", "rest", "(III)J"⟩,
  ⟨"FloorPlansModel", "seat", "(II)I"⟩,
  ⟨"FloorPlansModel", "seats", "(II)Z"⟩,
  ⟨"FloorPlansModel", "sit", "(II)I"⟩,
  ⟨"FloorPlansModel", "size", "(II)I"⟩,
  ⟨"FloorPlansModel", "sizeAt", "(II)I"⟩,
  ⟨"FloorPlansModel", "sizeIn", "(II)I"⟩,
  ⟨"FloorPlansModel", "spot", "(I)I"⟩,
  ⟨"FloorPlansModel", "target", "(II)I"⟩,
  ⟨"FloorPlansModel", "team", "(IIII)I"⟩,
  ⟨"FloorPlansModel", "teamOf", "(II)I"⟩,
  ⟨"FloorPlansModel", "turn", "(I)I"⟩,
  ⟨"FloorPlansModel", "two", "(IIII)I"⟩,
  ⟨"FloorPlansModel", "twos", "([I)I"⟩,
  ⟨"FloorPlansModel", "walked", "()I"⟩,
  ⟨"FloorPlansModel", "walks", "([I)I"⟩,
  ⟨"FloorPlansModel", "weekends", "(I)I"⟩,
  ⟨"FloorPlansModel", "with", "(III)I"⟩,
  ⟨"java/lang/Integer", "bitCount", "(I)I"⟩,
  ⟨"java/lang/Math", "abs", "(I)I"⟩,
  ⟨"java/lang/Math", "max", "(II)I"⟩,
  ⟨"java/lang/Object", "<init>", "()V"⟩,
  ⟨"java/lang/System", "arraycopy", "(Ljava/lang/Object;ILjava/lang/Object;II)V"⟩,
  ⟨"java/util/Arrays", "fill", "([II)V"⟩,
  ⟨"java/util/Arrays", "fill", "([IIII)V"⟩,
  ⟨"java/util/Arrays", "fill", "([JJ)V"⟩,
  ⟨"java/util/Arrays", "rangeCheck", "(III)V"⟩]
abbrev Ent : Type := Nat × Instr × Nat × Nat × Nat × Nat × Nat
abbrev Mth : Type := MethodName × ByteArray × Nat × Option FieldType × List Ent × List Nat
def T_M_F_init : List Ent := [(0, .aload_n 0, 1, 1, 0, 0, 99999),
  (1, .invokespecial 3, 3, 2, 145, 0, 59),
  (4, .aload_n 0, 1, 3, 0, 0, 99999),
  (5, .new 9, 3, 4, 1, 0, 62),
  (8, .dup, 1, 5, 0, 0, 99999),
  (9, .invokespecial 11, 3, 6, 45, 0, 64),
  (12, .putfield 12, 3, 7, 5, 0, 263),
  (15, .aload_n 0, 1, 8, 0, 0, 99999),
  (16, .new 16, 3, 9, 4, 0, 127),
  (19, .dup, 1, 10, 0, 0, 99999),
  (20, .aload_n 0, 1, 11, 0, 0, 99999),
  (21, .getfield 12, 3, 12, 5, 0, 263),
  (24, .invokespecial 18, 3, 13, 83, 0, 129),
  (27, .putfield 21, 3, 14, 5, 1, 264),
  (30, .aload_n 0, 1, 15, 0, 0, 99999),
  (31, .new 25, 3, 16, 3, 0, 174),
  (34, .dup, 1, 17, 0, 0, 99999),
  (35, .aload_n 0, 1, 18, 0, 0, 99999),
  (36, .getfield 12, 3, 19, 5, 0, 263),
  (39, .invokespecial 27, 3, 20, 74, 0, 176),
  (42, .putfield 28, 3, 21, 5, 2, 265),
  (45, .aload_n 0, 1, 22, 0, 0, 99999),
  (46, .new 32, 3, 23, 0, 0, 222),
  (49, .dup, 1, 24, 0, 0, 99999),
  (50, .aload_n 0, 1, 25, 0, 0, 99999),
  (51, .getfield 12, 3, 26, 5, 0, 263),
  (54, .invokespecial 34, 3, 27, 38, 0, 224),
  (57, .putfield 35, 3, 28, 5, 3, 266),
  (60, .aload_n 0, 1, 29, 0, 0, 99999),
  (61, .new 39, 3, 30, 2, 0, 236),
  (64, .dup, 1, 31, 0, 0, 99999),
  (65, .aload_n 0, 1, 32, 0, 0, 99999),
  (66, .getfield 12, 3, 33, 5, 0, 263),
  (69, .invokespecial 41, 3, 34, 67, 0, 238),
  (72, .putfield 42, 3, 35, 5, 4, 267),
  (75, .aload_n 0, 1, 36, 0, 0, 99999),
  (76, .bipush 7, 2, 37, 0, 0, 99999),
  (78, .newarray .int, 2, 38, 0, 0, 126),
  (80, .putfield 46, 3, 39, 5, 5, 268),
  (83, .return_, 1, 40, 0, 0, 99999)]
def M_F_init : Mth := (⟨"FloorPlans", "<init>", "()V"⟩, prog_1_method_1_code, 1, (Option.none : Option FieldType), T_M_F_init, [58, 43, 57, 99999, 99999])
def T_M_H_init : List Ent := [(0, .aload_n 0, 1, 1, 0, 0, 99999),
  (1, .invokespecial 3, 3, 2, 145, 0, 67),
  (4, .aload_n 0, 1, 3, 0, 0, 99999),
  (5, .bipush 11, 2, 4, 0, 0, 99999),
  (7, .getstatic 9, 3, 5, 2, 1, 68),
  (10, .arraylength, 1, 6, 0, 0, 99999),
  (11, .multianewarray 13 2, 4, 7, 0, 0, 70),
  (15, .putfield 15, 3, 8, 1, 0, 80),
  (18, .aload_n 0, 1, 9, 0, 0, 99999),
  (19, .bipush 16, 2, 10, 0, 0, 99999),
  (21, .bipush 9, 2, 11, 0, 0, 99999),
  (23, .multianewarray 13 2, 4, 12, 0, 0, 70),
  (27, .putfield 20, 3, 13, 1, 1, 83),
  (30, .aload_n 0, 1, 14, 0, 0, 99999),
  (31, .bipush 16, 2, 15, 0, 0, 99999),
  (33, .bipush 16, 2, 16, 0, 0, 99999),
  (35, .multianewarray 13 2, 4, 17, 0, 0, 70),
  (39, .putfield 23, 3, 18, 1, 2, 88),
  (42, .aload_n 0, 1, 19, 0, 0, 99999),
  (43, .bipush 16, 2, 20, 0, 0, 99999),
  (45, .bipush 16, 2, 21, 0, 0, 99999),
  (47, .multianewarray 13 2, 4, 22, 0, 0, 70),
  (51, .putfield 26, 3, 23, 1, 3, 89),
  (54, .aload_n 0, 1, 24, 0, 0, 99999),
  (55, .bipush 16, 2, 25, 0, 0, 99999),
  (57, .bipush 16, 2, 26, 0, 0, 99999),
  (59, .multianewarray 13 2, 4, 27, 0, 0, 70),
  (63, .putfield 29, 3, 28, 1, 4, 90),
  (66, .aload_n 0, 1, 29, 0, 0, 99999),
  (67, .bipush 16, 2, 30, 0, 0, 99999),
  (69, .bipush 20, 2, 31, 0, 0, 99999),
  (71, .multianewarray 13 2, 4, 32, 0, 0, 70),
  (75, .putfield 32, 3, 33, 1, 5, 91),
  (78, .aload_n 0, 1, 34, 0, 0, 99999),
  (79, .bipush 16, 2, 35, 0, 0, 99999),
  (81, .bipush 20, 2, 36, 0, 0, 99999),
  (83, .multianewarray 13 2, 4, 37, 0, 0, 70),
  (87, .putfield 35, 3, 38, 1, 6, 94),
  (90, .aload_n 0, 1, 39, 0, 0, 99999),
  (91, .bipush 16, 2, 40, 0, 0, 99999),
  (93, .bipush 20, 2, 41, 0, 0, 99999),
  (95, .multianewarray 13 2, 4, 42, 0, 0, 70),
  (99, .putfield 38, 3, 43, 1, 7, 97),
  (102, .aload_n 0, 1, 44, 0, 0, 99999),
  (103, .iconst 0, 1, 45, 0, 0, 99999),
  (104, .putfield 41, 3, 46, 1, 8, 99),
  (107, .aload_n 0, 1, 47, 0, 0, 99999),
  (108, .iconst 1, 1, 48, 0, 0, 99999),
  (109, .putfield 45, 3, 49, 1, 9, 103),
  (112, .iconst 0, 1, 50, 0, 0, 99999),
  (113, .istore_n 1, 1, 51, 0, 0, 99999),
  (114, .iload_n 1, 1, 52, 0, 0, 99999),
  (115, .bipush 11, 2, 53, 0, 0, 99999),
  (117, .if_icmp .ge 27, 3, 54, 66, 0, 99999),
  (120, .getstatic 48, 3, 55, 1, 1, 72),
  (123, .iconst 0, 1, 56, 0, 0, 99999),
  (124, .aload_n 0, 1, 57, 0, 0, 99999),
  (125, .getfield 15, 3, 58, 1, 0, 80),
  (128, .iload_n 1, 1, 59, 0, 0, 99999),
  (129, .aaload, 1, 60, 0, 0, 99999),
  (130, .iconst 0, 1, 61, 0, 0, 99999),
  (131, .getstatic 48, 3, 62, 1, 1, 72),
  (134, .arraylength, 1, 63, 0, 0, 99999),
  (135, .invokestatic 51, 3, 64, 146, 0, 74),
  (138, .iinc 1 1, 3, 65, 0, 0, 99999),
  (141, .goto (-27), 3, 66, 51, 0, 99999),
  (144, .iconst 0, 1, 67, 0, 0, 99999),
  (145, .istore_n 1, 1, 68, 0, 0, 99999),
  (146, .iload_n 1, 1, 69, 0, 0, 99999),
  (147, .bipush 16, 2, 70, 0, 0, 99999),
  (149, .if_icmp .ge 40, 3, 71, 93, 0, 99999),
  (152, .aload_n 0, 1, 72, 0, 0, 99999),
  (153, .getfield 20, 3, 73, 1, 1, 83),
  (156, .iload_n 1, 1, 74, 0, 0, 99999),
  (157, .aaload, 1, 75, 0, 0, 99999),
  (158, .iconst 4, 1, 76, 0, 0, 99999),
  (159, .bipush (-9), 2, 77, 0, 0, 99999),
  (161, .iastore, 1, 78, 0, 0, 99999),
  (162, .aload_n 0, 1, 79, 0, 0, 99999),
  (163, .getfield 20, 3, 80, 1, 1, 83),
  (166, .iload_n 1, 1, 81, 0, 0, 99999),
  (167, .aaload, 1, 82, 0, 0, 99999),
  (168, .bipush 6, 2, 83, 0, 0, 99999),
  (170, .bipush (-9), 2, 84, 0, 0, 99999),
  (172, .iastore, 1, 85, 0, 0, 99999),
  (173, .aload_n 0, 1, 86, 0, 0, 99999),
  (174, .getfield 38, 3, 87, 1, 7, 97),
  (177, .iload_n 1, 1, 88, 0, 0, 99999),
  (178, .aaload, 1, 89, 0, 0, 99999),
  (179, .iconst (-1), 1, 90, 0, 0, 99999),
  (180, .invokestatic 57, 3, 91, 147, 0, 77),
  (183, .iinc 1 1, 3, 92, 0, 0, 99999),
  (186, .goto (-40), 3, 93, 68, 0, 99999),
  (189, .return_, 1, 94, 0, 0, 99999)]
def M_H_init : Mth := (⟨"FloorPlans$House", "<init>", "()V"⟩, prog_3_method_1_code, 2, (Option.none : Option FieldType), T_M_H_init, [66, 44, 65, 99999, 99999])
def T_J_fill : List Ent := [(0, .iconst 0, 1, 1, 0, 0, 99999),
  (1, .istore_n 2, 1, 2, 0, 0, 99999),
  (2, .aload_n 0, 1, 3, 0, 0, 99999),
  (3, .arraylength, 1, 4, 0, 0, 99999),
  (4, .istore_n 3, 1, 5, 0, 0, 99999),
  (5, .iload_n 2, 1, 6, 0, 0, 99999),
  (6, .iload_n 3, 1, 7, 0, 0, 99999),
  (7, .if_icmp .ge 13, 3, 8, 14, 0, 99999),
  (10, .aload_n 0, 1, 9, 0, 0, 99999),
  (11, .iload_n 2, 1, 10, 0, 0, 99999),
  (12, .iload_n 1, 1, 11, 0, 0, 99999),
  (13, .iastore, 1, 12, 0, 0, 99999),
  (14, .iinc 2 1, 3, 13, 0, 0, 99999),
  (17, .goto (-12), 3, 14, 5, 0, 99999),
  (20, .return_, 1, 15, 0, 0, 99999)]
def J_fill : Mth := (⟨"java/util/Arrays", "fill", "([II)V"⟩, prog_12_method_103_code, 4, (Option.none : Option FieldType), T_J_fill, [79, 46, 99999, 99999, 78])
def T_M_S_init : List Ent := [(0, .aload_n 0, 1, 1, 0, 0, 99999),
  (1, .invokespecial 3, 3, 2, 145, 0, 132),
  (4, .aload_n 0, 1, 3, 0, 0, 99999),
  (5, .bipush 7, 2, 4, 0, 0, 99999),
  (7, .newarray .int, 2, 5, 0, 0, 126),
  (9, .putfield 9, 3, 6, 4, 1, 135),
  (12, .aload_n 0, 1, 7, 0, 0, 99999),
  (13, .iconst 4, 1, 8, 0, 0, 99999),
  (14, .newarray .int, 2, 9, 0, 0, 126),
  (16, .putfield 15, 3, 10, 4, 2, 136),
  (19, .aload_n 0, 1, 11, 0, 0, 99999),
  (20, .iconst 4, 1, 12, 0, 0, 99999),
  (21, .newarray .int, 2, 13, 0, 0, 126),
  (23, .putfield 18, 3, 14, 4, 3, 137),
  (26, .aload_n 0, 1, 15, 0, 0, 99999),
  (27, .bipush 7, 2, 16, 0, 0, 99999),
  (29, .iconst 4, 1, 17, 0, 0, 99999),
  (30, .multianewarray 21 2, 4, 18, 0, 0, 133),
  (34, .putfield 23, 3, 19, 4, 4, 138),
  (37, .aload_n 0, 1, 20, 0, 0, 99999),
  (38, .bipush 7, 2, 21, 0, 0, 99999),
  (40, .newarray .int, 2, 22, 0, 0, 126),
  (42, .putfield 26, 3, 23, 4, 5, 139),
  (45, .aload_n 0, 1, 24, 0, 0, 99999),
  (46, .bipush 7, 2, 25, 0, 0, 99999),
  (48, .newarray .int, 2, 26, 0, 0, 126),
  (50, .putfield 29, 3, 27, 4, 6, 140),
  (53, .aload_n 0, 1, 28, 0, 0, 99999),
  (54, .iconst 0, 1, 29, 0, 0, 99999),
  (55, .putfield 32, 3, 30, 4, 7, 141),
  (58, .aload_n 0, 1, 31, 0, 0, 99999),
  (59, .iconst 0, 1, 32, 0, 0, 99999),
  (60, .putfield 36, 3, 33, 4, 8, 142),
  (63, .aload_n 0, 1, 34, 0, 0, 99999),
  (64, .iconst 0, 1, 35, 0, 0, 99999),
  (65, .putfield 39, 3, 36, 4, 9, 143),
  (68, .aload_n 0, 1, 37, 0, 0, 99999),
  (69, .iconst 0, 1, 38, 0, 0, 99999),
  (70, .putfield 43, 3, 39, 4, 10, 145),
  (73, .aload_n 0, 1, 40, 0, 0, 99999),
  (74, .iconst 0, 1, 41, 0, 0, 99999),
  (75, .putfield 46, 3, 42, 4, 11, 147),
  (78, .aload_n 0, 1, 43, 0, 0, 99999),
  (79, .aload_n 1, 1, 44, 0, 0, 99999),
  (80, .putfield 49, 3, 45, 4, 0, 134),
  (83, .return_, 1, 46, 0, 0, 99999)]
def M_S_init : Mth := (⟨"FloorPlans$Seating", "<init>", "(LFloorPlans$House;)V"⟩, prog_6_method_1_code, 2, (Option.none : Option FieldType), T_M_S_init, [131, 47, 130, 99999, 99999])
def T_M_V_init : List Ent := [(0, .aload_n 0, 1, 1, 0, 0, 99999),
  (1, .invokespecial 3, 3, 2, 145, 0, 179),
  (4, .aload_n 0, 1, 3, 0, 0, 99999),
  (5, .bipush 6, 2, 4, 0, 0, 99999),
  (7, .newarray .int, 2, 5, 0, 0, 126),
  (9, .putfield 9, 3, 6, 3, 1, 181),
  (12, .aload_n 0, 1, 7, 0, 0, 99999),
  (13, .iconst 5, 1, 8, 0, 0, 99999),
  (14, .newarray .int, 2, 9, 0, 0, 126),
  (16, .putfield 15, 3, 10, 3, 2, 182),
  (19, .aload_n 0, 1, 11, 0, 0, 99999),
  (20, .iconst 5, 1, 12, 0, 0, 99999),
  (21, .newarray .int, 2, 13, 0, 0, 126),
  (23, .putfield 18, 3, 14, 3, 3, 183),
  (26, .aload_n 0, 1, 15, 0, 0, 99999),
  (27, .bipush 6, 2, 16, 0, 0, 99999),
  (29, .newarray .int, 2, 17, 0, 0, 126),
  (31, .putfield 21, 3, 18, 3, 4, 184),
  (34, .aload_n 0, 1, 19, 0, 0, 99999),
  (35, .iconst 5, 1, 20, 0, 0, 99999),
  (36, .newarray .int, 2, 21, 0, 0, 126),
  (38, .putfield 24, 3, 22, 3, 5, 185),
  (41, .aload_n 0, 1, 23, 0, 0, 99999),
  (42, .iconst 1, 1, 24, 0, 0, 99999),
  (43, .newarray .int, 2, 25, 0, 0, 126),
  (45, .putfield 27, 3, 26, 3, 6, 186),
  (48, .aload_n 0, 1, 27, 0, 0, 99999),
  (49, .iconst 1, 1, 28, 0, 0, 99999),
  (50, .newarray .int, 2, 29, 0, 0, 126),
  (52, .putfield 30, 3, 30, 3, 7, 187),
  (55, .aload_n 0, 1, 31, 0, 0, 99999),
  (56, .iconst 0, 1, 32, 0, 0, 99999),
  (57, .putfield 33, 3, 33, 3, 8, 188),
  (60, .aload_n 0, 1, 34, 0, 0, 99999),
  (61, .iconst 0, 1, 35, 0, 0, 99999),
  (62, .putfield 37, 3, 36, 3, 9, 189),
  (65, .aload_n 0, 1, 37, 0, 0, 99999),
  (66, .iconst 0, 1, 38, 0, 0, 99999),
  (67, .putfield 40, 3, 39, 3, 10, 190),
  (70, .aload_n 0, 1, 40, 0, 0, 99999),
  (71, .bipush (-9), 2, 41, 0, 0, 99999),
  (73, .putfield 43, 3, 42, 3, 11, 191),
  (76, .aload_n 0, 1, 43, 0, 0, 99999),
  (77, .bipush (-9), 2, 44, 0, 0, 99999),
  (79, .putfield 46, 3, 45, 3, 12, 193),
  (82, .aload_n 0, 1, 46, 0, 0, 99999),
  (83, .aload_n 1, 1, 47, 0, 0, 99999),
  (84, .putfield 49, 3, 48, 3, 0, 180),
  (87, .return_, 1, 49, 0, 0, 99999)]
def M_V_init : Mth := (⟨"FloorPlans$Moving", "<init>", "(LFloorPlans$House;)V"⟩, prog_5_method_1_code, 2, (Option.none : Option FieldType), T_M_V_init, [178, 48, 177, 99999, 99999])
def T_M_C_init : List Ent := [(0, .aload_n 0, 1, 1, 0, 0, 99999),
  (1, .invokespecial 3, 3, 2, 145, 0, 227),
  (4, .aload_n 0, 1, 3, 0, 0, 99999),
  (5, .bipush 21, 2, 4, 0, 0, 99999),
  (7, .newarray .long, 2, 5, 0, 0, 235),
  (9, .putfield 9, 3, 6, 0, 1, 229),
  (12, .aload_n 0, 1, 7, 0, 0, 99999),
  (13, .aload_n 1, 1, 8, 0, 0, 99999),
  (14, .putfield 15, 3, 9, 0, 0, 228),
  (17, .return_, 1, 10, 0, 0, 99999)]
def M_C_init : Mth := (⟨"FloorPlans$Chances", "<init>", "(LFloorPlans$House;)V"⟩, prog_2_method_1_code, 2, (Option.none : Option FieldType), T_M_C_init, [226, 49, 225, 99999, 99999])
def T_M_L_init : List Ent := [(0, .aload_n 0, 1, 1, 0, 0, 99999),
  (1, .invokespecial 3, 3, 2, 145, 0, 241),
  (4, .aload_n 0, 1, 3, 0, 0, 99999),
  (5, .bipush 12, 2, 4, 0, 0, 99999),
  (7, .newarray .int, 2, 5, 0, 0, 126),
  (9, .putfield 9, 3, 6, 2, 1, 243),
  (12, .aload_n 0, 1, 7, 0, 0, 99999),
  (13, .iconst 0, 1, 8, 0, 0, 99999),
  (14, .putfield 15, 3, 9, 2, 2, 244),
  (17, .aload_n 0, 1, 10, 0, 0, 99999),
  (18, .iconst 0, 1, 11, 0, 0, 99999),
  (19, .putfield 19, 3, 12, 2, 3, 245),
  (22, .aload_n 0, 1, 13, 0, 0, 99999),
  (23, .bipush (-9), 2, 14, 0, 0, 99999),
  (25, .putfield 22, 3, 15, 2, 4, 246),
  (28, .aload_n 0, 1, 16, 0, 0, 99999),
  (29, .bipush (-9), 2, 17, 0, 0, 99999),
  (31, .putfield 25, 3, 18, 2, 5, 248),
  (34, .aload_n 0, 1, 19, 0, 0, 99999),
  (35, .aload_n 1, 1, 20, 0, 0, 99999),
  (36, .putfield 28, 3, 21, 2, 0, 242),
  (39, .return_, 1, 22, 0, 0, 99999)]
def M_L_init : Mth := (⟨"FloorPlans$Leases", "<init>", "(LFloorPlans$House;)V"⟩, prog_4_method_1_code, 2, (Option.none : Option FieldType), T_M_L_init, [240, 50, 239, 99999, 99999])
def T_M_F_floor : List Ent := [(0, .iload_n 1, 1, 1, 0, 0, 99999),
  (1, .invokestatic 50, 3, 2, 20, 0, 286),
  (4, .ifCond .eq 9, 3, 3, 7, 0, 99999),
  (7, .aload_n 0, 1, 4, 0, 0, 99999),
  (8, .iconst (-1), 1, 5, 0, 0, 99999),
  (9, .invokevirtual 54, 3, 6, 24, 0, 289),
  (12, .ireturn, 1, 7, 0, 0, 99999),
  (13, .iload_n 2, 1, 8, 0, 0, 99999),
  (14, .ifCond .lt 11, 3, 9, 13, 0, 99999),
  (17, .iload_n 2, 1, 10, 0, 0, 99999),
  (18, .getstatic 58, 3, 11, 2, 0, 293),
  (21, .arraylength, 1, 12, 0, 0, 99999),
  (22, .if_icmp .lt 10, 3, 13, 17, 0, 99999),
  (25, .aload_n 0, 1, 14, 0, 0, 99999),
  (26, .bipush (-2), 2, 15, 0, 0, 99999),
  (28, .invokevirtual 54, 3, 16, 24, 0, 289),
  (31, .ireturn, 1, 17, 0, 0, 99999),
  (32, .iload_n 3, 1, 18, 0, 0, 99999),
  (33, .ifCond .ge 10, 3, 19, 23, 0, 99999),
  (36, .aload_n 0, 1, 20, 0, 0, 99999),
  (37, .bipush (-4), 2, 21, 0, 0, 99999),
  (39, .invokevirtual 54, 3, 22, 24, 0, 289),
  (42, .ireturn, 1, 23, 0, 0, 99999),
  (43, .iload_n 3, 1, 24, 0, 0, 99999),
  (44, .getstatic 58, 3, 25, 2, 0, 293),
  (47, .iload_n 2, 1, 26, 0, 0, 99999),
  (48, .iaload, 1, 27, 0, 0, 99999),
  (49, .if_icmp .le 10, 3, 28, 32, 0, 99999),
  (52, .aload_n 0, 1, 29, 0, 0, 99999),
  (53, .bipush (-6), 2, 30, 0, 0, 99999),
  (55, .invokevirtual 54, 3, 31, 24, 0, 289),
  (58, .ireturn, 1, 32, 0, 0, 99999),
  (59, .aload_n 0, 1, 33, 0, 0, 99999),
  (60, .getfield 12, 3, 34, 5, 0, 263),
  (63, .getfield 61, 3, 35, 1, 0, 81),
  (66, .iload_n 1, 1, 36, 0, 0, 99999),
  (67, .aaload, 1, 37, 0, 0, 99999),
  (68, .iload_n 2, 1, 38, 0, 0, 99999),
  (69, .iload_n 3, 1, 39, 0, 0, 99999),
  (70, .invokestatic 65, 3, 40, 6, 0, 294),
  (73, .ireturn, 1, 41, 0, 0, 99999)]
def M_F_floor : Mth := (⟨"FloorPlans", "floor", "(III)I"⟩, prog_1_method_2_code, 4, (some FieldType.int), T_M_F_floor, [285, 43, 283, 284, 99999])
def T_M_F_noFloor : List Ent := [(0, .iload_n 0, 1, 1, 0, 0, 99999),
  (1, .ifCond .lt 9, 3, 2, 5, 0, 99999),
  (4, .iload_n 0, 1, 3, 0, 0, 99999),
  (5, .bipush 11, 2, 4, 0, 0, 99999),
  (7, .if_icmp .lt 7, 3, 5, 7, 0, 99999),
  (10, .iconst 1, 1, 6, 0, 0, 99999),
  (11, .goto 4, 3, 7, 8, 0, 99999),
  (14, .iconst 0, 1, 8, 0, 0, 99999),
  (15, .ireturn, 1, 9, 0, 0, 99999)]
def M_F_noFloor : Mth := (⟨"FloorPlans", "noFloor", "(I)Z"⟩, prog_1_method_32_code, 1, (some FieldType.boolean), T_M_F_noFloor, [288, 43, 99999, 99999, 287])
def T_M_F_refuse : List Ent := [(0, .iload_n 1, 1, 1, 0, 0, 99999),
  (1, .ifCond .ge 21, 3, 2, 15, 0, 99999),
  (4, .iload_n 1, 1, 3, 0, 0, 99999),
  (5, .ineg, 1, 4, 0, 0, 99999),
  (6, .bipush 6, 2, 5, 0, 0, 99999),
  (8, .if_icmp .gt 14, 3, 6, 15, 0, 99999),
  (11, .aload_n 0, 1, 7, 0, 0, 99999),
  (12, .getfield 46, 3, 8, 5, 5, 268),
  (15, .iload_n 1, 1, 9, 0, 0, 99999),
  (16, .ineg, 1, 10, 0, 0, 99999),
  (17, .dup2, 1, 11, 0, 0, 99999),
  (18, .iaload, 1, 12, 0, 0, 99999),
  (19, .iconst 1, 1, 13, 0, 0, 99999),
  (20, .iadd, 1, 14, 0, 0, 99999),
  (21, .iastore, 1, 15, 0, 0, 99999),
  (22, .iload_n 1, 1, 16, 0, 0, 99999),
  (23, .ireturn, 1, 17, 0, 0, 99999)]
def M_F_refuse : Mth := (⟨"FloorPlans", "refuse", "(I)I"⟩, prog_1_method_30_code, 2, (some FieldType.int), T_M_F_refuse, [292, 43, 291, 0, 99999])
def T_M_F_exchange : List Ent := [(0, .iload_n 1, 1, 1, 0, 0, 99999),
  (1, .ifCond .lt 9, 3, 2, 6, 0, 99999),
  (4, .iload_n 1, 1, 3, 0, 0, 99999),
  (5, .aload_n 0, 1, 4, 0, 0, 99999),
  (6, .arraylength, 1, 5, 0, 0, 99999),
  (7, .if_icmp .lt 6, 3, 6, 8, 0, 99999),
  (10, .bipush (-9), 2, 7, 0, 0, 99999),
  (12, .ireturn, 1, 8, 0, 0, 99999),
  (13, .aload_n 0, 1, 9, 0, 0, 99999),
  (14, .iload_n 1, 1, 10, 0, 0, 99999),
  (15, .iaload, 1, 11, 0, 0, 99999),
  (16, .istore_n 3, 1, 12, 0, 0, 99999),
  (17, .aload_n 0, 1, 13, 0, 0, 99999),
  (18, .iload_n 1, 1, 14, 0, 0, 99999),
  (19, .iload_n 2, 1, 15, 0, 0, 99999),
  (20, .iastore, 1, 16, 0, 0, 99999),
  (21, .iload_n 3, 1, 17, 0, 0, 99999),
  (22, .ireturn, 1, 18, 0, 0, 99999)]
def M_F_exchange : Mth := (⟨"FloorPlans", "exchange", "([III)I"⟩, prog_1_method_37_code, 4, (some FieldType.int), T_M_F_exchange, [296, 43, 99999, 99999, 295])
def T_M_F_team : List Ent := [(0, .iload_n 1, 1, 1, 0, 0, 99999),
  (1, .iconst 1, 1, 2, 0, 0, 99999),
  (2, .if_icmp .lt 16, 3, 3, 9, 0, 99999),
  (5, .iload_n 2, 1, 4, 0, 0, 99999),
  (6, .ifCond .lt 12, 3, 5, 9, 0, 99999),
  (9, .iload_n 3, 1, 6, 0, 0, 99999),
  (10, .ifCond .lt 8, 3, 7, 9, 0, 99999),
  (13, .iload 4, 2, 8, 0, 0, 99999),
  (15, .ifCond .ge 10, 3, 9, 13, 0, 99999),
  (18, .aload_n 0, 1, 10, 0, 0, 99999),
  (19, .bipush (-4), 2, 11, 0, 0, 99999),
  (21, .invokevirtual 54, 3, 12, 24, 0, 289),
  (24, .ireturn, 1, 13, 0, 0, 99999),
  (25, .iload_n 1, 1, 14, 0, 0, 99999),
  (26, .bipush 60, 2, 15, 0, 0, 99999),
  (28, .if_icmp .gt 22, 3, 16, 25, 0, 99999),
  (31, .iload_n 2, 1, 17, 0, 0, 99999),
  (32, .bipush 7, 2, 18, 0, 0, 99999),
  (34, .if_icmp .gt 16, 3, 19, 25, 0, 99999),
  (37, .iload_n 3, 1, 20, 0, 0, 99999),
  (38, .bipush 9, 2, 21, 0, 0, 99999),
  (40, .if_icmp .gt 10, 3, 22, 25, 0, 99999),
  (43, .iload 4, 2, 23, 0, 0, 99999),
  (45, .bipush 9, 2, 24, 0, 0, 99999),
  (47, .if_icmp .le 10, 3, 25, 29, 0, 99999),
  (50, .aload_n 0, 1, 26, 0, 0, 99999),
  (51, .bipush (-6), 2, 27, 0, 0, 99999),
  (53, .invokevirtual 54, 3, 28, 24, 0, 289),
  (56, .ireturn, 1, 29, 0, 0, 99999),
  (57, .aload_n 0, 1, 30, 0, 0, 99999),
  (58, .getfield 12, 3, 31, 5, 0, 263),
  (61, .getfield 69, 3, 32, 1, 8, 101),
  (64, .bipush 16, 2, 33, 0, 0, 99999),
  (66, .if_icmp .lt 10, 3, 34, 38, 0, 99999),
  (69, .aload_n 0, 1, 35, 0, 0, 99999),
  (70, .bipush (-6), 2, 36, 0, 0, 99999),
  (72, .invokevirtual 54, 3, 37, 24, 0, 289),
  (75, .ireturn, 1, 38, 0, 0, 99999),
  (76, .aload_n 0, 1, 39, 0, 0, 99999),
  (77, .getfield 12, 3, 40, 5, 0, 263),
  (80, .getfield 69, 3, 41, 1, 8, 101),
  (83, .istore 5, 2, 42, 0, 0, 99999),
  (85, .aload_n 0, 1, 43, 0, 0, 99999),
  (86, .getfield 12, 3, 44, 5, 0, 263),
  (89, .dup, 1, 45, 0, 0, 99999),
  (90, .getfield 69, 3, 46, 1, 8, 101),
  (93, .iconst 1, 1, 47, 0, 0, 99999),
  (94, .iadd, 1, 48, 0, 0, 99999),
  (95, .putfield 69, 3, 49, 1, 8, 101),
  (98, .aload_n 0, 1, 50, 0, 0, 99999),
  (99, .getfield 12, 3, 51, 5, 0, 263),
  (102, .getfield 73, 3, 52, 1, 1, 85),
  (105, .iload 5, 2, 53, 0, 0, 99999),
  (107, .aaload, 1, 54, 0, 0, 99999),
  (108, .astore 6, 2, 55, 0, 0, 99999),
  (110, .aload 6, 2, 56, 0, 0, 99999),
  (112, .iconst 0, 1, 57, 0, 0, 99999),
  (113, .iload_n 1, 1, 58, 0, 0, 99999),
  (114, .iastore, 1, 59, 0, 0, 99999),
  (115, .aload 6, 2, 60, 0, 0, 99999),
  (117, .iconst 1, 1, 61, 0, 0, 99999),
  (118, .iload_n 2, 1, 62, 0, 0, 99999),
  (119, .iastore, 1, 63, 0, 0, 99999),
  (120, .aload 6, 2, 64, 0, 0, 99999),
  (122, .iconst 2, 1, 65, 0, 0, 99999),
  (123, .iload_n 3, 1, 66, 0, 0, 99999),
  (124, .iastore, 1, 67, 0, 0, 99999),
  (125, .aload 6, 2, 68, 0, 0, 99999),
  (127, .iconst 3, 1, 69, 0, 0, 99999),
  (128, .iload 4, 2, 70, 0, 0, 99999),
  (130, .iastore, 1, 71, 0, 0, 99999),
  (131, .iload 5, 2, 72, 0, 0, 99999),
  (133, .ireturn, 1, 73, 0, 0, 99999)]
def M_F_team : Mth := (⟨"FloorPlans", "team", "(IIII)I"⟩, prog_1_method_3_code, 7, (some FieldType.int), T_M_F_team, [300, 43, 298, 299, 99999])
def T_M_F_size : List Ent := [(0, .aload_n 0, 1, 1, 0, 0, 99999),
  (1, .iload_n 1, 1, 2, 0, 0, 99999),
  (2, .invokevirtual 76, 3, 3, 22, 0, 305),
  (5, .ifCond .eq 9, 3, 4, 8, 0, 99999),
  (8, .aload_n 0, 1, 5, 0, 0, 99999),
  (9, .iconst (-1), 1, 6, 0, 0, 99999),
  (10, .invokevirtual 54, 3, 7, 24, 0, 289),
  (13, .ireturn, 1, 8, 0, 0, 99999),
  (14, .iload_n 2, 1, 9, 0, 0, 99999),
  (15, .iconst 1, 1, 10, 0, 0, 99999),
  (16, .if_icmp .ge 10, 3, 11, 15, 0, 99999),
  (19, .aload_n 0, 1, 12, 0, 0, 99999),
  (20, .bipush (-4), 2, 13, 0, 0, 99999),
  (22, .invokevirtual 54, 3, 14, 24, 0, 289),
  (25, .ireturn, 1, 15, 0, 0, 99999),
  (26, .iload_n 2, 1, 16, 0, 0, 99999),
  (27, .bipush 60, 2, 17, 0, 0, 99999),
  (29, .if_icmp .le 10, 3, 18, 22, 0, 99999),
  (32, .aload_n 0, 1, 19, 0, 0, 99999),
  (33, .bipush (-6), 2, 20, 0, 0, 99999),
  (35, .invokevirtual 54, 3, 21, 24, 0, 289),
  (38, .ireturn, 1, 22, 0, 0, 99999),
  (39, .aload_n 0, 1, 23, 0, 0, 99999),
  (40, .getfield 12, 3, 24, 5, 0, 263),
  (43, .getfield 73, 3, 25, 1, 1, 85),
  (46, .iload_n 1, 1, 26, 0, 0, 99999),
  (47, .aaload, 1, 27, 0, 0, 99999),
  (48, .iconst 0, 1, 28, 0, 0, 99999),
  (49, .iload_n 2, 1, 29, 0, 0, 99999),
  (50, .invokestatic 65, 3, 30, 6, 0, 294),
  (53, .ireturn, 1, 31, 0, 0, 99999)]
def M_F_size : Mth := (⟨"FloorPlans", "size", "(II)I"⟩, prog_1_method_4_code, 3, (some FieldType.int), T_M_F_size, [304, 43, 302, 303, 99999])
def T_M_F_noTeam : List Ent := [(0, .iload_n 1, 1, 1, 0, 0, 99999),
  (1, .ifCond .lt 14, 3, 2, 7, 0, 99999),
  (4, .iload_n 1, 1, 3, 0, 0, 99999),
  (5, .aload_n 0, 1, 4, 0, 0, 99999),
  (6, .getfield 12, 3, 5, 5, 0, 263),
  (9, .getfield 69, 3, 6, 1, 8, 101),
  (12, .if_icmp .lt 7, 3, 7, 9, 0, 99999),
  (15, .iconst 1, 1, 8, 0, 0, 99999),
  (16, .goto 4, 3, 9, 10, 0, 99999),
  (19, .iconst 0, 1, 10, 0, 0, 99999),
  (20, .ireturn, 1, 11, 0, 0, 99999)]
def M_F_noTeam : Mth := (⟨"FloorPlans", "noTeam", "(I)Z"⟩, prog_1_method_31_code, 2, (some FieldType.boolean), T_M_F_noTeam, [308, 43, 307, 1, 99999])
def T_M_F_sit : List Ent := [(0, .aload_n 0, 1, 1, 0, 0, 99999),
  (1, .iload_n 1, 1, 2, 0, 0, 99999),
  (2, .invokevirtual 76, 3, 3, 22, 0, 305),
  (5, .ifCond .ne 16, 3, 4, 10, 0, 99999),
  (8, .iload_n 2, 1, 5, 0, 0, 99999),
  (9, .bipush (-9), 2, 6, 0, 0, 99999),
  (11, .if_icmp .eq 16, 3, 7, 14, 0, 99999),
  (14, .iload_n 2, 1, 8, 0, 0, 99999),
  (15, .invokestatic 50, 3, 9, 20, 0, 286),
  (18, .ifCond .eq 9, 3, 10, 14, 0, 99999),
  (21, .aload_n 0, 1, 11, 0, 0, 99999),
  (22, .iconst (-1), 1, 12, 0, 0, 99999),
  (23, .invokevirtual 54, 3, 13, 24, 0, 289),
  (26, .ireturn, 1, 14, 0, 0, 99999),
  (27, .aload_n 0, 1, 15, 0, 0, 99999),
  (28, .getfield 12, 3, 16, 5, 0, 263),
  (31, .getfield 73, 3, 17, 1, 1, 85),
  (34, .iload_n 1, 1, 18, 0, 0, 99999),
  (35, .aaload, 1, 19, 0, 0, 99999),
  (36, .iconst 5, 1, 20, 0, 0, 99999),
  (37, .iaload, 1, 21, 0, 0, 99999),
  (38, .iconst 1, 1, 22, 0, 0, 99999),
  (39, .if_icmp .ne 10, 3, 23, 27, 0, 99999),
  (42, .aload_n 0, 1, 24, 0, 0, 99999),
  (43, .bipush (-3), 2, 25, 0, 0, 99999),
  (45, .invokevirtual 54, 3, 26, 24, 0, 289),
  (48, .ireturn, 1, 27, 0, 0, 99999),
  (49, .aload_n 0, 1, 28, 0, 0, 99999),
  (50, .getfield 12, 3, 29, 5, 0, 263),
  (53, .getfield 73, 3, 30, 1, 1, 85),
  (56, .iload_n 1, 1, 31, 0, 0, 99999),
  (57, .aaload, 1, 32, 0, 0, 99999),
  (58, .iconst 4, 1, 33, 0, 0, 99999),
  (59, .iload_n 2, 1, 34, 0, 0, 99999),
  (60, .invokestatic 65, 3, 35, 6, 0, 294),
  (63, .ireturn, 1, 36, 0, 0, 99999)]
def M_F_sit : Mth := (⟨"FloorPlans", "sit", "(II)I"⟩, prog_1_method_5_code, 3, (some FieldType.int), T_M_F_sit, [312, 43, 310, 311, 99999])
def T_M_F_fix : List Ent := [(0, .aload_n 0, 1, 1, 0, 0, 99999),
  (1, .iload_n 1, 1, 2, 0, 0, 99999),
  (2, .invokevirtual 76, 3, 3, 22, 0, 305),
  (5, .ifCond .eq 9, 3, 4, 8, 0, 99999),
  (8, .aload_n 0, 1, 5, 0, 0, 99999),
  (9, .iconst (-1), 1, 6, 0, 0, 99999),
  (10, .invokevirtual 54, 3, 7, 24, 0, 289),
  (13, .ireturn, 1, 8, 0, 0, 99999),
  (14, .iload_n 2, 1, 9, 0, 0, 99999),
  (15, .ifCond .eq 7, 3, 10, 12, 0, 99999),
  (18, .iconst 1, 1, 11, 0, 0, 99999),
  (19, .goto 4, 3, 12, 13, 0, 99999),
  (22, .iconst 0, 1, 13, 0, 0, 99999),
  (23, .istore_n 3, 1, 14, 0, 0, 99999),
  (24, .aload_n 0, 1, 15, 0, 0, 99999),
  (25, .getfield 12, 3, 16, 5, 0, 263),
  (28, .getfield 73, 3, 17, 1, 1, 85),
  (31, .iload_n 1, 1, 18, 0, 0, 99999),
  (32, .aaload, 1, 19, 0, 0, 99999),
  (33, .iconst 5, 1, 20, 0, 0, 99999),
  (34, .iload_n 3, 1, 21, 0, 0, 99999),
  (35, .invokestatic 65, 3, 22, 6, 0, 294),
  (38, .iload_n 3, 1, 23, 0, 0, 99999),
  (39, .if_icmp .ne 7, 3, 24, 26, 0, 99999),
  (42, .iconst 0, 1, 25, 0, 0, 99999),
  (43, .goto 4, 3, 26, 27, 0, 99999),
  (46, .iconst 1, 1, 27, 0, 0, 99999),
  (47, .ireturn, 1, 28, 0, 0, 99999)]
def M_F_fix : Mth := (⟨"FloorPlans", "fix", "(IZ)I"⟩, prog_1_method_6_code, 4, (some FieldType.int), T_M_F_fix, [316, 43, 314, 315, 99999])
def T_M_F_two : List Ent := [(0, .aload_n 0, 1, 1, 0, 0, 99999),
  (1, .iload_n 1, 1, 2, 0, 0, 99999),
  (2, .invokevirtual 76, 3, 3, 22, 0, 305),
  (5, .ifCond .ne 16, 3, 4, 11, 0, 99999),
  (8, .aload_n 0, 1, 5, 0, 0, 99999),
  (9, .iload_n 2, 1, 6, 0, 0, 99999),
  (10, .invokevirtual 76, 3, 7, 22, 0, 305),
  (13, .ifCond .ne 8, 3, 8, 11, 0, 99999),
  (16, .iload_n 1, 1, 9, 0, 0, 99999),
  (17, .iload_n 2, 1, 10, 0, 0, 99999),
  (18, .if_icmp .ne 9, 3, 11, 15, 0, 99999),
  (21, .aload_n 0, 1, 12, 0, 0, 99999),
  (22, .iconst (-1), 1, 13, 0, 0, 99999),
  (23, .invokevirtual 54, 3, 14, 24, 0, 289),
  (26, .ireturn, 1, 15, 0, 0, 99999),
  (27, .iload_n 3, 1, 16, 0, 0, 99999),
  (28, .ifCond .lt 11, 3, 17, 21, 0, 99999),
  (31, .iload_n 3, 1, 18, 0, 0, 99999),
  (32, .getstatic 79, 3, 19, 3, 0, 321),
  (35, .arraylength, 1, 20, 0, 0, 99999),
  (36, .if_icmp .lt 10, 3, 21, 25, 0, 99999),
  (39, .aload_n 0, 1, 22, 0, 0, 99999),
  (40, .bipush (-2), 2, 23, 0, 0, 99999),
  (42, .invokevirtual 54, 3, 24, 24, 0, 289),
  (45, .ireturn, 1, 25, 0, 0, 99999),
  (46, .iload 4, 2, 26, 0, 0, 99999),
  (48, .ifCond .ge 10, 3, 27, 31, 0, 99999),
  (51, .aload_n 0, 1, 28, 0, 0, 99999),
  (52, .bipush (-4), 2, 29, 0, 0, 99999),
  (54, .invokevirtual 54, 3, 30, 24, 0, 289),
  (57, .ireturn, 1, 31, 0, 0, 99999),
  (58, .iload 4, 2, 32, 0, 0, 99999),
  (60, .getstatic 79, 3, 33, 3, 0, 321),
  (63, .iload_n 3, 1, 34, 0, 0, 99999),
  (64, .iaload, 1, 35, 0, 0, 99999),
  (65, .if_icmp .le 10, 3, 36, 40, 0, 99999),
  (68, .aload_n 0, 1, 37, 0, 0, 99999),
  (69, .bipush (-6), 2, 38, 0, 0, 99999),
  (71, .invokevirtual 54, 3, 39, 24, 0, 289),
  (74, .ireturn, 1, 40, 0, 0, 99999),
  (75, .aload_n 0, 1, 41, 0, 0, 99999),
  (76, .getfield 12, 3, 42, 5, 0, 263),
  (79, .iload_n 3, 1, 43, 0, 0, 99999),
  (80, .invokevirtual 82, 3, 44, 60, 0, 323),
  (83, .astore 5, 2, 45, 0, 0, 99999),
  (85, .aload 5, 2, 46, 0, 0, 99999),
  (87, .iload_n 1, 1, 47, 0, 0, 99999),
  (88, .aaload, 1, 48, 0, 0, 99999),
  (89, .iload_n 2, 1, 49, 0, 0, 99999),
  (90, .iload 4, 2, 50, 0, 0, 99999),
  (92, .invokestatic 65, 3, 51, 6, 0, 294),
  (95, .pop, 1, 52, 0, 0, 99999),
  (96, .aload 5, 2, 53, 0, 0, 99999),
  (98, .iload_n 2, 1, 54, 0, 0, 99999),
  (99, .aaload, 1, 55, 0, 0, 99999),
  (100, .iload_n 1, 1, 56, 0, 0, 99999),
  (101, .iload 4, 2, 57, 0, 0, 99999),
  (103, .invokestatic 65, 3, 58, 6, 0, 294),
  (106, .ireturn, 1, 59, 0, 0, 99999)]
def M_F_two : Mth := (⟨"FloorPlans", "two", "(IIII)I"⟩, prog_1_method_7_code, 6, (some FieldType.int), T_M_F_two, [320, 43, 318, 319, 99999])
def T_M_H_tableOf : List Ent := [(0, .iload_n 1, 1, 1, 0, 0, 99999),
  (1, .ifCond .ne 8, 3, 2, 5, 0, 99999),
  (4, .aload_n 0, 1, 3, 0, 0, 99999),
  (5, .getfield 23, 3, 4, 1, 2, 88),
  (8, .areturn, 1, 5, 0, 0, 99999),
  (9, .iload_n 1, 1, 6, 0, 0, 99999),
  (10, .iconst 1, 1, 7, 0, 0, 99999),
  (11, .if_icmp .ne 10, 3, 8, 11, 0, 99999),
  (14, .aload_n 0, 1, 9, 0, 0, 99999),
  (15, .getfield 26, 3, 10, 1, 3, 89),
  (18, .goto 7, 3, 11, 13, 0, 99999),
  (21, .aload_n 0, 1, 12, 0, 0, 99999),
  (22, .getfield 29, 3, 13, 1, 4, 90),
  (25, .areturn, 1, 14, 0, 0, 99999)]
def M_H_tableOf : Mth := (⟨"FloorPlans$House", "tableOf", "(I)[[I"⟩, prog_3_method_2_code, 2, (Option.some (FieldType.array (FieldType.array FieldType.int))), T_M_H_tableOf, [326, 44, 324, 325, 99999])
def T_M_F_fit : List Ent := [(0, .aload_n 0, 1, 1, 0, 0, 99999),
  (1, .getfield 12, 3, 2, 5, 0, 263),
  (4, .iconst 0, 1, 3, 0, 0, 99999),
  (5, .invokevirtual 86, 3, 4, 53, 0, 331),
  (8, .ifCond .eq 7, 3, 5, 7, 0, 99999),
  (11, .iconst 1, 1, 6, 0, 0, 99999),
  (12, .goto 4, 3, 7, 8, 0, 99999),
  (15, .iconst 0, 1, 8, 0, 0, 99999),
  (16, .ireturn, 1, 9, 0, 0, 99999)]
def M_F_fit : Mth := (⟨"FloorPlans", "fit", "()I"⟩, prog_1_method_8_code, 1, (some FieldType.int), T_M_F_fit, [330, 43, 328, 329, 99999])
def T_M_H_isFit : List Ent := [(0, .iconst 0, 1, 1, 0, 0, 99999),
  (1, .istore_n 2, 1, 2, 0, 0, 99999),
  (2, .iload_n 2, 1, 3, 0, 0, 99999),
  (3, .bipush 11, 2, 4, 0, 0, 99999),
  (5, .if_icmp .ge 20, 3, 5, 14, 0, 99999),
  (8, .aload_n 0, 1, 6, 0, 0, 99999),
  (9, .iload_n 2, 1, 7, 0, 0, 99999),
  (10, .iload_n 1, 1, 8, 0, 0, 99999),
  (11, .invokevirtual 77, 3, 9, 51, 0, 335),
  (14, .ifCond .ge 5, 3, 10, 12, 0, 99999),
  (17, .iconst 0, 1, 11, 0, 0, 99999),
  (18, .ireturn, 1, 12, 0, 0, 99999),
  (19, .iinc 2 1, 3, 13, 0, 0, 99999),
  (22, .goto (-20), 3, 14, 2, 0, 99999),
  (25, .iconst 0, 1, 15, 0, 0, 99999),
  (26, .istore_n 2, 1, 16, 0, 0, 99999),
  (27, .iload_n 2, 1, 17, 0, 0, 99999),
  (28, .aload_n 0, 1, 18, 0, 0, 99999),
  (29, .getfield 41, 3, 19, 1, 8, 99),
  (32, .if_icmp .ge 45, 3, 20, 44, 0, 99999),
  (35, .aload_n 0, 1, 21, 0, 0, 99999),
  (36, .iload_n 2, 1, 22, 0, 0, 99999),
  (37, .iload_n 1, 1, 23, 0, 0, 99999),
  (38, .invokevirtual 81, 3, 24, 58, 0, 342),
  (41, .ifCond .eq 30, 3, 25, 42, 0, 99999),
  (44, .aload_n 0, 1, 26, 0, 0, 99999),
  (45, .aload_n 0, 1, 27, 0, 0, 99999),
  (46, .getfield 20, 3, 28, 1, 1, 83),
  (49, .iload_n 2, 1, 29, 0, 0, 99999),
  (50, .aaload, 1, 30, 0, 0, 99999),
  (51, .iconst 4, 1, 31, 0, 0, 99999),
  (52, .iaload, 1, 32, 0, 0, 99999),
  (53, .iload_n 2, 1, 33, 0, 0, 99999),
  (54, .invokevirtual 84, 3, 34, 59, 0, 346),
  (57, .ifCond .eq 12, 3, 35, 40, 0, 99999),
  (60, .aload_n 0, 1, 36, 0, 0, 99999),
  (61, .iload_n 2, 1, 37, 0, 0, 99999),
  (62, .iload_n 1, 1, 38, 0, 0, 99999),
  (63, .invokevirtual 87, 3, 39, 47, 0, 350),
  (66, .ifCond .ne 5, 3, 40, 42, 0, 99999),
  (69, .iconst 0, 1, 41, 0, 0, 99999),
  (70, .ireturn, 1, 42, 0, 0, 99999),
  (71, .iinc 2 1, 3, 43, 0, 0, 99999),
  (74, .goto (-47), 3, 44, 16, 0, 99999),
  (77, .iconst 1, 1, 45, 0, 0, 99999),
  (78, .ireturn, 1, 46, 0, 0, 99999)]
def M_H_isFit : Mth := (⟨"FloorPlans$House", "isFit", "(I)Z"⟩, prog_3_method_16_code, 3, (some FieldType.boolean), T_M_H_isFit, [334, 44, 332, 333, 99999])
def T_M_H_freeSeats : List Ent := [(0, .aload_n 0, 1, 1, 0, 0, 99999),
  (1, .getfield 15, 3, 2, 1, 0, 80),
  (4, .iload_n 1, 1, 3, 0, 0, 99999),
  (5, .aaload, 1, 4, 0, 0, 99999),
  (6, .iconst 0, 1, 5, 0, 0, 99999),
  (7, .iaload, 1, 6, 0, 0, 99999),
  (8, .istore_n 3, 1, 7, 0, 0, 99999),
  (9, .iconst 0, 1, 8, 0, 0, 99999),
  (10, .istore 4, 2, 9, 0, 0, 99999),
  (12, .iload 4, 2, 10, 0, 0, 99999),
  (14, .aload_n 0, 1, 11, 0, 0, 99999),
  (15, .getfield 41, 3, 12, 1, 8, 99),
  (18, .if_icmp .ge 43, 3, 13, 36, 0, 99999),
  (21, .aload_n 0, 1, 14, 0, 0, 99999),
  (22, .getfield 20, 3, 15, 1, 1, 83),
  (25, .iload 4, 2, 16, 0, 0, 99999),
  (27, .aaload, 1, 17, 0, 0, 99999),
  (28, .iconst 4, 1, 18, 0, 0, 99999),
  (29, .iaload, 1, 19, 0, 0, 99999),
  (30, .iload_n 1, 1, 20, 0, 0, 99999),
  (31, .if_icmp .ne 24, 3, 21, 34, 0, 99999),
  (34, .iload_n 2, 1, 22, 0, 0, 99999),
  (35, .iload 4, 2, 23, 0, 0, 99999),
  (37, .invokestatic 67, 3, 24, 13, 1, 339),
  (40, .ifCond .ne 15, 3, 25, 34, 0, 99999),
  (43, .iload_n 3, 1, 26, 0, 0, 99999),
  (44, .aload_n 0, 1, 27, 0, 0, 99999),
  (45, .getfield 20, 3, 28, 1, 1, 83),
  (48, .iload 4, 2, 29, 0, 0, 99999),
  (50, .aaload, 1, 30, 0, 0, 99999),
  (51, .iconst 0, 1, 31, 0, 0, 99999),
  (52, .iaload, 1, 32, 0, 0, 99999),
  (53, .isub, 1, 33, 0, 0, 99999),
  (54, .istore_n 3, 1, 34, 0, 0, 99999),
  (55, .iinc 4 1, 3, 35, 0, 0, 99999),
  (58, .goto (-46), 3, 36, 9, 0, 99999),
  (61, .iload_n 3, 1, 37, 0, 0, 99999),
  (62, .ireturn, 1, 38, 0, 0, 99999)]
def M_H_freeSeats : Mth := (⟨"FloorPlans$House", "freeSeats", "(II)I"⟩, prog_3_method_12_code, 5, (some FieldType.int), T_M_H_freeSeats, [338, 44, 336, 337, 99999])
def T_M_F_holds : List Ent := [(0, .iload_n 0, 1, 1, 0, 0, 99999),
  (1, .iload_n 1, 1, 2, 0, 0, 99999),
  (2, .ishr, 1, 3, 0, 0, 99999),
  (3, .iconst 1, 1, 4, 0, 0, 99999),
  (4, .iand, 1, 5, 0, 0, 99999),
  (5, .iconst 1, 1, 6, 0, 0, 99999),
  (6, .if_icmp .ne 7, 3, 7, 9, 0, 99999),
  (9, .iconst 1, 1, 8, 0, 0, 99999),
  (10, .goto 4, 3, 9, 10, 0, 99999),
  (13, .iconst 0, 1, 10, 0, 0, 99999),
  (14, .ireturn, 1, 11, 0, 0, 99999)]
def M_F_holds : Mth := (⟨"FloorPlans", "holds", "(II)Z"⟩, prog_1_method_36_code, 2, (some FieldType.boolean), T_M_F_holds, [341, 43, 99999, 99999, 340])
def T_M_H_stays : List Ent := [(0, .aload_n 0, 1, 1, 0, 0, 99999),
  (1, .getfield 20, 3, 2, 1, 1, 83),
  (4, .iload_n 1, 1, 3, 0, 0, 99999),
  (5, .aaload, 1, 4, 0, 0, 99999),
  (6, .iconst 4, 1, 5, 0, 0, 99999),
  (7, .iaload, 1, 6, 0, 0, 99999),
  (8, .bipush (-9), 2, 7, 0, 0, 99999),
  (10, .if_icmp .eq 15, 3, 8, 14, 0, 99999),
  (13, .iload_n 2, 1, 9, 0, 0, 99999),
  (14, .iload_n 1, 1, 10, 0, 0, 99999),
  (15, .invokestatic 67, 3, 11, 13, 1, 339),
  (18, .ifCond .ne 7, 3, 12, 14, 0, 99999),
  (21, .iconst 1, 1, 13, 0, 0, 99999),
  (22, .goto 4, 3, 14, 15, 0, 99999),
  (25, .iconst 0, 1, 15, 0, 0, 99999),
  (26, .ireturn, 1, 16, 0, 0, 99999)]
def M_H_stays : Mth := (⟨"FloorPlans$House", "stays", "(II)Z"⟩, prog_3_method_11_code, 3, (some FieldType.boolean), T_M_H_stays, [345, 44, 343, 344, 99999])
def T_M_H_suits : List Ent := [(0, .aload_n 0, 1, 1, 0, 0, 99999),
  (1, .getfield 20, 3, 2, 1, 1, 83),
  (4, .iload_n 2, 1, 3, 0, 0, 99999),
  (5, .aaload, 1, 4, 0, 0, 99999),
  (6, .iconst 1, 1, 5, 0, 0, 99999),
  (7, .iaload, 1, 6, 0, 0, 99999),
  (8, .aload_n 0, 1, 7, 0, 0, 99999),
  (9, .getfield 15, 3, 8, 1, 0, 80),
  (12, .iload_n 1, 1, 9, 0, 0, 99999),
  (13, .aaload, 1, 10, 0, 0, 99999),
  (14, .iconst 1, 1, 11, 0, 0, 99999),
  (15, .iaload, 1, 12, 0, 0, 99999),
  (16, .iconst (-1), 1, 13, 0, 0, 99999),
  (17, .ixor, 1, 14, 0, 0, 99999),
  (18, .iand, 1, 15, 0, 0, 99999),
  (19, .ifCond .ne 7, 3, 16, 18, 0, 99999),
  (22, .iconst 1, 1, 17, 0, 0, 99999),
  (23, .goto 4, 3, 18, 19, 0, 99999),
  (26, .iconst 0, 1, 19, 0, 0, 99999),
  (27, .ireturn, 1, 20, 0, 0, 99999)]
def M_H_suits : Mth := (⟨"FloorPlans$House", "suits", "(II)Z"⟩, prog_3_method_13_code, 3, (some FieldType.boolean), T_M_H_suits, [349, 44, 347, 348, 99999])
def T_M_H_agreesWithEarlier : List Ent := [(0, .iconst 0, 1, 1, 0, 0, 99999),
  (1, .istore_n 3, 1, 2, 0, 0, 99999),
  (2, .iload_n 3, 1, 3, 0, 0, 99999),
  (3, .iload_n 1, 1, 4, 0, 0, 99999),
  (4, .if_icmp .ge 45, 3, 5, 31, 0, 99999),
  (7, .aload_n 0, 1, 6, 0, 0, 99999),
  (8, .iload_n 3, 1, 7, 0, 0, 99999),
  (9, .iload_n 2, 1, 8, 0, 0, 99999),
  (10, .invokevirtual 81, 3, 9, 58, 0, 342),
  (13, .ifCond .eq 30, 3, 10, 29, 0, 99999),
  (16, .aload_n 0, 1, 11, 0, 0, 99999),
  (17, .iload_n 1, 1, 12, 0, 0, 99999),
  (18, .aload_n 0, 1, 13, 0, 0, 99999),
  (19, .getfield 20, 3, 14, 1, 1, 83),
  (22, .iload_n 1, 1, 15, 0, 0, 99999),
  (23, .aaload, 1, 16, 0, 0, 99999),
  (24, .iconst 4, 1, 17, 0, 0, 99999),
  (25, .iaload, 1, 18, 0, 0, 99999),
  (26, .iload_n 3, 1, 19, 0, 0, 99999),
  (27, .aload_n 0, 1, 20, 0, 0, 99999),
  (28, .getfield 20, 3, 21, 1, 1, 83),
  (31, .iload_n 3, 1, 22, 0, 0, 99999),
  (32, .aaload, 1, 23, 0, 0, 99999),
  (33, .iconst 4, 1, 24, 0, 0, 99999),
  (34, .iaload, 1, 25, 0, 0, 99999),
  (35, .invokevirtual 90, 3, 26, 46, 0, 354),
  (38, .ifCond .ne 5, 3, 27, 29, 0, 99999),
  (41, .iconst 0, 1, 28, 0, 0, 99999),
  (42, .ireturn, 1, 29, 0, 0, 99999),
  (43, .iinc 3 1, 3, 30, 0, 0, 99999),
  (46, .goto (-44), 3, 31, 2, 0, 99999),
  (49, .iconst 1, 1, 32, 0, 0, 99999),
  (50, .ireturn, 1, 33, 0, 0, 99999)]
def M_H_agreesWithEarlier : Mth := (⟨"FloorPlans$House", "agreesWithEarlier", "(II)Z"⟩, prog_3_method_17_code, 4, (some FieldType.boolean), T_M_H_agreesWithEarlier, [353, 44, 352, 2, 99999])
def T_M_H_agree : List Ent := [(0, .aload_n 0, 1, 1, 0, 0, 99999),
  (1, .getfield 29, 3, 2, 1, 4, 90),
  (4, .iload_n 1, 1, 3, 0, 0, 99999),
  (5, .aaload, 1, 4, 0, 0, 99999),
  (6, .iload_n 3, 1, 5, 0, 0, 99999),
  (7, .iaload, 1, 6, 0, 0, 99999),
  (8, .iconst 1, 1, 7, 0, 0, 99999),
  (9, .if_icmp .ne 16, 3, 8, 16, 0, 99999),
  (12, .iload_n 2, 1, 9, 0, 0, 99999),
  (13, .iload 4, 2, 10, 0, 0, 99999),
  (15, .isub, 1, 11, 0, 0, 99999),
  (16, .invokestatic 71, 3, 12, 143, 0, 358),
  (19, .iconst 1, 1, 13, 0, 0, 99999),
  (20, .if_icmp .le 5, 3, 14, 16, 0, 99999),
  (23, .iconst 0, 1, 15, 0, 0, 99999),
  (24, .ireturn, 1, 16, 0, 0, 99999),
  (25, .iload_n 2, 1, 17, 0, 0, 99999),
  (26, .iload 4, 2, 18, 0, 0, 99999),
  (28, .if_icmp .eq 5, 3, 19, 21, 0, 99999),
  (31, .iconst 1, 1, 20, 0, 0, 99999),
  (32, .ireturn, 1, 21, 0, 0, 99999),
  (33, .aload_n 0, 1, 22, 0, 0, 99999),
  (34, .getfield 26, 3, 23, 1, 3, 89),
  (37, .iload_n 1, 1, 24, 0, 0, 99999),
  (38, .aaload, 1, 25, 0, 0, 99999),
  (39, .iload_n 3, 1, 26, 0, 0, 99999),
  (40, .iaload, 1, 27, 0, 0, 99999),
  (41, .ifCond .ne 45, 3, 28, 56, 0, 99999),
  (44, .aload_n 0, 1, 29, 0, 0, 99999),
  (45, .getfield 20, 3, 30, 1, 1, 83),
  (48, .iload_n 1, 1, 31, 0, 0, 99999),
  (49, .aaload, 1, 32, 0, 0, 99999),
  (50, .iconst 2, 1, 33, 0, 0, 99999),
  (51, .iaload, 1, 34, 0, 0, 99999),
  (52, .aload_n 0, 1, 35, 0, 0, 99999),
  (53, .getfield 20, 3, 36, 1, 1, 83),
  (56, .iload_n 3, 1, 37, 0, 0, 99999),
  (57, .aaload, 1, 38, 0, 0, 99999),
  (58, .iconst 3, 1, 39, 0, 0, 99999),
  (59, .iaload, 1, 40, 0, 0, 99999),
  (60, .if_icmp .gt 26, 3, 41, 56, 0, 99999),
  (63, .aload_n 0, 1, 42, 0, 0, 99999),
  (64, .getfield 20, 3, 43, 1, 1, 83),
  (67, .iload_n 3, 1, 44, 0, 0, 99999),
  (68, .aaload, 1, 45, 0, 0, 99999),
  (69, .iconst 2, 1, 46, 0, 0, 99999),
  (70, .iaload, 1, 47, 0, 0, 99999),
  (71, .aload_n 0, 1, 48, 0, 0, 99999),
  (72, .getfield 20, 3, 49, 1, 1, 83),
  (75, .iload_n 1, 1, 50, 0, 0, 99999),
  (76, .aaload, 1, 51, 0, 0, 99999),
  (77, .iconst 3, 1, 52, 0, 0, 99999),
  (78, .iaload, 1, 53, 0, 0, 99999),
  (79, .if_icmp .gt 7, 3, 54, 56, 0, 99999),
  (82, .iconst 1, 1, 55, 0, 0, 99999),
  (83, .goto 4, 3, 56, 57, 0, 99999),
  (86, .iconst 0, 1, 57, 0, 0, 99999),
  (87, .ireturn, 1, 58, 0, 0, 99999)]
def M_H_agree : Mth := (⟨"FloorPlans$House", "agree", "(IIII)Z"⟩, prog_3_method_14_code, 5, (some FieldType.boolean), T_M_H_agree, [357, 44, 355, 356, 99999])
def T_J_abs : List Ent := [(0, .iload_n 0, 1, 1, 0, 0, 99999),
  (1, .ifCond .ge 8, 3, 2, 5, 0, 99999),
  (4, .iload_n 0, 1, 3, 0, 0, 99999),
  (5, .ineg, 1, 4, 0, 0, 99999),
  (6, .goto 4, 3, 5, 6, 0, 99999),
  (9, .iload_n 0, 1, 6, 0, 0, 99999),
  (10, .ireturn, 1, 7, 0, 0, 99999)]
def J_abs : Mth := (⟨"java/lang/Math", "abs", "(I)I"⟩, prog_10_method_59_code, 1, (some FieldType.int), T_J_abs, [360, 52, 99999, 99999, 359])
def T_M_F_lift : List Ent := [(0, .iload_n 1, 1, 1, 0, 0, 99999),
  (1, .iconst 1, 1, 2, 0, 0, 99999),
  (2, .if_icmp .ge 10, 3, 3, 7, 0, 99999),
  (5, .aload_n 0, 1, 4, 0, 0, 99999),
  (6, .bipush (-4), 2, 5, 0, 0, 99999),
  (8, .invokevirtual 54, 3, 6, 24, 0, 289),
  (11, .ireturn, 1, 7, 0, 0, 99999),
  (12, .iload_n 1, 1, 8, 0, 0, 99999),
  (13, .bipush 9, 2, 9, 0, 0, 99999),
  (15, .if_icmp .le 10, 3, 10, 14, 0, 99999),
  (18, .aload_n 0, 1, 11, 0, 0, 99999),
  (19, .bipush (-6), 2, 12, 0, 0, 99999),
  (21, .invokevirtual 54, 3, 13, 24, 0, 289),
  (24, .ireturn, 1, 14, 0, 0, 99999),
  (25, .aload_n 0, 1, 15, 0, 0, 99999),
  (26, .getfield 12, 3, 16, 5, 0, 263),
  (29, .getfield 89, 3, 17, 1, 9, 104),
  (32, .istore_n 2, 1, 18, 0, 0, 99999),
  (33, .aload_n 0, 1, 19, 0, 0, 99999),
  (34, .getfield 12, 3, 20, 5, 0, 263),
  (37, .iload_n 1, 1, 21, 0, 0, 99999),
  (38, .putfield 89, 3, 22, 1, 9, 104),
  (41, .iload_n 2, 1, 23, 0, 0, 99999),
  (42, .ireturn, 1, 24, 0, 0, 99999)]
def M_F_lift : Mth := (⟨"FloorPlans", "lift", "(I)I"⟩, prog_1_method_9_code, 3, (some FieldType.int), T_M_F_lift, [364, 43, 362, 363, 99999])
def T_M_F_walked : List Ent := [(0, .aload_n 0, 1, 1, 0, 0, 99999),
  (1, .getfield 12, 3, 2, 5, 0, 263),
  (4, .iconst 0, 1, 3, 0, 0, 99999),
  (5, .invokevirtual 92, 3, 4, 65, 0, 369),
  (8, .aload_n 0, 1, 5, 0, 0, 99999),
  (9, .getfield 12, 3, 6, 5, 0, 263),
  (12, .getfield 89, 3, 7, 1, 9, 104),
  (15, .imul, 1, 8, 0, 0, 99999),
  (16, .ireturn, 1, 9, 0, 0, 99999)]
def M_F_walked : Mth := (⟨"FloorPlans", "walked", "()I"⟩, prog_1_method_10_code, 1, (some FieldType.int), T_M_F_walked, [368, 43, 366, 367, 99999])
def T_M_H_walk : List Ent := [(0, .iconst 0, 1, 1, 0, 0, 99999),
  (1, .istore_n 2, 1, 2, 0, 0, 99999),
  (2, .iconst 0, 1, 3, 0, 0, 99999),
  (3, .istore_n 3, 1, 4, 0, 0, 99999),
  (4, .iload_n 3, 1, 5, 0, 0, 99999),
  (5, .aload_n 0, 1, 6, 0, 0, 99999),
  (6, .getfield 41, 3, 7, 1, 8, 99),
  (9, .if_icmp .ge 70, 3, 8, 46, 0, 99999),
  (12, .iconst 0, 1, 9, 0, 0, 99999),
  (13, .istore 4, 2, 10, 0, 0, 99999),
  (15, .iload 4, 2, 11, 0, 0, 99999),
  (17, .iload_n 3, 1, 12, 0, 0, 99999),
  (18, .if_icmp .ge 55, 3, 13, 44, 0, 99999),
  (21, .aload_n 0, 1, 14, 0, 0, 99999),
  (22, .iload_n 3, 1, 15, 0, 0, 99999),
  (23, .iload_n 1, 1, 16, 0, 0, 99999),
  (24, .invokevirtual 81, 3, 17, 58, 0, 342),
  (27, .ifCond .eq 46, 3, 18, 44, 0, 99999),
  (30, .aload_n 0, 1, 19, 0, 0, 99999),
  (31, .iload 4, 2, 20, 0, 0, 99999),
  (33, .iload_n 1, 1, 21, 0, 0, 99999),
  (34, .invokevirtual 81, 3, 22, 58, 0, 342),
  (37, .ifCond .eq 30, 3, 23, 42, 0, 99999),
  (40, .iload_n 2, 1, 24, 0, 0, 99999),
  (41, .aload_n 0, 1, 25, 0, 0, 99999),
  (42, .iload_n 3, 1, 26, 0, 0, 99999),
  (43, .aload_n 0, 1, 27, 0, 0, 99999),
  (44, .getfield 20, 3, 28, 1, 1, 83),
  (47, .iload_n 3, 1, 29, 0, 0, 99999),
  (48, .aaload, 1, 30, 0, 0, 99999),
  (49, .iconst 4, 1, 31, 0, 0, 99999),
  (50, .iaload, 1, 32, 0, 0, 99999),
  (51, .iload 4, 2, 33, 0, 0, 99999),
  (53, .aload_n 0, 1, 34, 0, 0, 99999),
  (54, .getfield 20, 3, 35, 1, 1, 83),
  (57, .iload 4, 2, 36, 0, 0, 99999),
  (59, .aaload, 1, 37, 0, 0, 99999),
  (60, .iconst 4, 1, 38, 0, 0, 99999),
  (61, .iaload, 1, 39, 0, 0, 99999),
  (62, .invokevirtual 94, 3, 40, 66, 0, 373),
  (65, .iadd, 1, 41, 0, 0, 99999),
  (66, .istore_n 2, 1, 42, 0, 0, 99999),
  (67, .iinc 4 1, 3, 43, 0, 0, 99999),
  (70, .goto (-55), 3, 44, 10, 0, 99999),
  (73, .iinc 3 1, 3, 45, 0, 0, 99999),
  (76, .goto (-72), 3, 46, 4, 0, 99999),
  (79, .iload_n 2, 1, 47, 0, 0, 99999),
  (80, .ireturn, 1, 48, 0, 0, 99999)]
def M_H_walk : Mth := (⟨"FloorPlans$House", "walk", "(I)I"⟩, prog_3_method_18_code, 5, (some FieldType.int), T_M_H_walk, [372, 44, 370, 371, 99999])
def T_M_H_walkBetween : List Ent := [(0, .aload_n 0, 1, 1, 0, 0, 99999),
  (1, .getfield 23, 3, 2, 1, 2, 88),
  (4, .iload_n 1, 1, 3, 0, 0, 99999),
  (5, .aaload, 1, 4, 0, 0, 99999),
  (6, .iload_n 3, 1, 5, 0, 0, 99999),
  (7, .iaload, 1, 6, 0, 0, 99999),
  (8, .iload_n 2, 1, 7, 0, 0, 99999),
  (9, .iload 4, 2, 8, 0, 0, 99999),
  (11, .isub, 1, 9, 0, 0, 99999),
  (12, .invokestatic 71, 3, 10, 143, 0, 358),
  (15, .imul, 1, 11, 0, 0, 99999),
  (16, .ireturn, 1, 12, 0, 0, 99999)]
def M_H_walkBetween : Mth := (⟨"FloorPlans$House", "walkBetween", "(IIII)I"⟩, prog_3_method_15_code, 5, (some FieldType.int), T_M_H_walkBetween, [376, 44, 374, 375, 99999])
def T_M_F_best : List Ent := [(0, .aload_n 0, 1, 1, 0, 0, 99999),
  (1, .iload_n 1, 1, 2, 0, 0, 99999),
  (2, .iload_n 2, 1, 3, 0, 0, 99999),
  (3, .iload_n 3, 1, 4, 0, 0, 99999),
  (4, .invokevirtual 95, 3, 5, 37, 0, 381),
  (7, .istore 4, 2, 6, 0, 0, 99999),
  (9, .iload 4, 2, 7, 0, 0, 99999),
  (11, .ifCond .eq 10, 3, 8, 12, 0, 99999),
  (14, .aload_n 0, 1, 9, 0, 0, 99999),
  (15, .iload 4, 2, 10, 0, 0, 99999),
  (17, .invokevirtual 54, 3, 11, 24, 0, 289),
  (20, .ireturn, 1, 12, 0, 0, 99999),
  (21, .aload_n 0, 1, 13, 0, 0, 99999),
  (22, .getfield 21, 3, 14, 5, 1, 264),
  (25, .iload_n 1, 1, 15, 0, 0, 99999),
  (26, .iload_n 2, 1, 16, 0, 0, 99999),
  (27, .invokevirtual 99, 3, 17, 87, 0, 395),
  (30, .aload_n 0, 1, 18, 0, 0, 99999),
  (31, .getfield 21, 3, 19, 5, 1, 264),
  (34, .getfield 103, 3, 20, 4, 9, 144),
  (37, .ifCond .ne 6, 3, 21, 23, 0, 99999),
  (40, .bipush (-9), 2, 22, 0, 0, 99999),
  (42, .ireturn, 1, 23, 0, 0, 99999),
  (43, .iload_n 3, 1, 24, 0, 0, 99999),
  (44, .ifCond .ne 21, 3, 25, 33, 0, 99999),
  (47, .aload_n 0, 1, 26, 0, 0, 99999),
  (48, .getfield 21, 3, 27, 5, 1, 264),
  (51, .getfield 107, 3, 28, 4, 10, 146),
  (54, .aload_n 0, 1, 29, 0, 0, 99999),
  (55, .getfield 12, 3, 30, 5, 0, 263),
  (58, .getfield 89, 3, 31, 1, 9, 104),
  (61, .imul, 1, 32, 0, 0, 99999),
  (62, .goto 10, 3, 33, 36, 0, 99999),
  (65, .aload_n 0, 1, 34, 0, 0, 99999),
  (66, .getfield 21, 3, 35, 5, 1, 264),
  (69, .getfield 110, 3, 36, 4, 11, 148),
  (72, .ireturn, 1, 37, 0, 0, 99999)]
def M_F_best : Mth := (⟨"FloorPlans", "best", "(III)I"⟩, prog_1_method_11_code, 5, (some FieldType.int), T_M_F_best, [380, 43, 378, 379, 99999])
def T_M_F_whyNoSeating : List Ent := [(0, .iconst 1, 1, 1, 0, 0, 99999),
  (1, .aload_n 0, 1, 2, 0, 0, 99999),
  (2, .getfield 12, 3, 3, 5, 0, 263),
  (5, .getfield 69, 3, 4, 1, 8, 101),
  (8, .ishl, 1, 5, 0, 0, 99999),
  (9, .iconst 1, 1, 6, 0, 0, 99999),
  (10, .isub, 1, 7, 0, 0, 99999),
  (11, .istore 4, 2, 8, 0, 0, 99999),
  (13, .iload_n 1, 1, 9, 0, 0, 99999),
  (14, .ifCond .eq 11, 3, 10, 14, 0, 99999),
  (17, .iload_n 1, 1, 11, 0, 0, 99999),
  (18, .sipush (-2048), 3, 12, 0, 0, 99999),
  (21, .iand, 1, 13, 0, 0, 99999),
  (22, .ifCond .eq 5, 3, 14, 16, 0, 99999),
  (25, .iconst (-1), 1, 15, 0, 0, 99999),
  (26, .ireturn, 1, 16, 0, 0, 99999),
  (27, .iload_n 2, 1, 17, 0, 0, 99999),
  (28, .ifCond .eq 12, 3, 18, 24, 0, 99999),
  (31, .iload_n 2, 1, 19, 0, 0, 99999),
  (32, .iload 4, 2, 20, 0, 0, 99999),
  (34, .iconst (-1), 1, 21, 0, 0, 99999),
  (35, .ixor, 1, 22, 0, 0, 99999),
  (36, .iand, 1, 23, 0, 0, 99999),
  (37, .ifCond .eq 5, 3, 24, 26, 0, 99999),
  (40, .iconst (-1), 1, 25, 0, 0, 99999),
  (41, .ireturn, 1, 26, 0, 0, 99999),
  (42, .iload_n 3, 1, 27, 0, 0, 99999),
  (43, .ifCond .lt 8, 3, 28, 31, 0, 99999),
  (46, .iload_n 3, 1, 29, 0, 0, 99999),
  (47, .iconst 1, 1, 30, 0, 0, 99999),
  (48, .if_icmp .le 6, 3, 31, 33, 0, 99999),
  (51, .bipush (-2), 2, 32, 0, 0, 99999),
  (53, .ireturn, 1, 33, 0, 0, 99999),
  (54, .iload_n 2, 1, 34, 0, 0, 99999),
  (55, .aload_n 0, 1, 35, 0, 0, 99999),
  (56, .getfield 12, 3, 36, 5, 0, 263),
  (59, .invokevirtual 196, 3, 37, 48, 0, 385),
  (62, .iand, 1, 38, 0, 0, 99999),
  (63, .ifCond .eq 6, 3, 39, 41, 0, 99999),
  (66, .bipush (-3), 2, 40, 0, 0, 99999),
  (68, .ireturn, 1, 41, 0, 0, 99999),
  (69, .iload_n 1, 1, 42, 0, 0, 99999),
  (70, .invokestatic 199, 3, 43, 142, 0, 389),
  (73, .iconst 4, 1, 44, 0, 0, 99999),
  (74, .if_icmp .gt 12, 3, 45, 49, 0, 99999),
  (77, .iload_n 2, 1, 46, 0, 0, 99999),
  (78, .invokestatic 199, 3, 47, 142, 0, 389),
  (81, .bipush 7, 2, 48, 0, 0, 99999),
  (83, .if_icmp .le 7, 3, 49, 51, 0, 99999),
  (86, .iconst 1, 1, 50, 0, 0, 99999),
  (87, .goto 4, 3, 51, 52, 0, 99999),
  (90, .iconst 0, 1, 52, 0, 0, 99999),
  (91, .istore 5, 2, 53, 0, 0, 99999),
  (93, .iload 5, 2, 54, 0, 0, 99999),
  (95, .ifCond .eq 8, 3, 55, 57, 0, 99999),
  (98, .bipush (-6), 2, 56, 0, 0, 99999),
  (100, .goto 4, 3, 57, 58, 0, 99999),
  (103, .iconst 0, 1, 58, 0, 0, 99999),
  (104, .ireturn, 1, 59, 0, 0, 99999)]
def M_F_whyNoSeating : Mth := (⟨"FloorPlans", "whyNoSeating", "(III)I"⟩, prog_1_method_34_code, 6, (some FieldType.int), T_M_F_whyNoSeating, [384, 43, 383, 3, 99999])
def T_M_H_fixedTeams : List Ent := [(0, .iconst 0, 1, 1, 0, 0, 99999),
  (1, .istore_n 1, 1, 2, 0, 0, 99999),
  (2, .iconst 0, 1, 3, 0, 0, 99999),
  (3, .istore_n 2, 1, 4, 0, 0, 99999),
  (4, .iload_n 2, 1, 5, 0, 0, 99999),
  (5, .aload_n 0, 1, 6, 0, 0, 99999),
  (6, .getfield 41, 3, 7, 1, 8, 99),
  (9, .if_icmp .ge 22, 3, 8, 21, 0, 99999),
  (12, .iload_n 1, 1, 9, 0, 0, 99999),
  (13, .aload_n 0, 1, 10, 0, 0, 99999),
  (14, .getfield 20, 3, 11, 1, 1, 83),
  (17, .iload_n 2, 1, 12, 0, 0, 99999),
  (18, .aaload, 1, 13, 0, 0, 99999),
  (19, .iconst 5, 1, 14, 0, 0, 99999),
  (20, .iaload, 1, 15, 0, 0, 99999),
  (21, .iload_n 2, 1, 16, 0, 0, 99999),
  (22, .ishl, 1, 17, 0, 0, 99999),
  (23, .ior, 1, 18, 0, 0, 99999),
  (24, .istore_n 1, 1, 19, 0, 0, 99999),
  (25, .iinc 2 1, 3, 20, 0, 0, 99999),
  (28, .goto (-24), 3, 21, 4, 0, 99999),
  (31, .iload_n 1, 1, 22, 0, 0, 99999),
  (32, .ireturn, 1, 23, 0, 0, 99999)]
def M_H_fixedTeams : Mth := (⟨"FloorPlans$House", "fixedTeams", "()I"⟩, prog_3_method_6_code, 3, (some FieldType.int), T_M_H_fixedTeams, [388, 44, 386, 387, 99999])
def T_J_bitCount : List Ent := [(0, .iload_n 0, 1, 1, 0, 0, 99999),
  (1, .iload_n 0, 1, 2, 0, 0, 99999),
  (2, .iconst 1, 1, 3, 0, 0, 99999),
  (3, .iushr, 1, 4, 0, 0, 99999),
  (4, .ldc_w 265, 3, 5, 1431655765, 0, 392),
  (7, .iand, 1, 6, 0, 0, 99999),
  (8, .isub, 1, 7, 0, 0, 99999),
  (9, .istore_n 0, 1, 8, 0, 0, 99999),
  (10, .iload_n 0, 1, 9, 0, 0, 99999),
  (11, .ldc_w 266, 3, 10, 858993459, 0, 393),
  (14, .iand, 1, 11, 0, 0, 99999),
  (15, .iload_n 0, 1, 12, 0, 0, 99999),
  (16, .iconst 2, 1, 13, 0, 0, 99999),
  (17, .iushr, 1, 14, 0, 0, 99999),
  (18, .ldc_w 266, 3, 15, 858993459, 0, 393),
  (21, .iand, 1, 16, 0, 0, 99999),
  (22, .iadd, 1, 17, 0, 0, 99999),
  (23, .istore_n 0, 1, 18, 0, 0, 99999),
  (24, .iload_n 0, 1, 19, 0, 0, 99999),
  (25, .iload_n 0, 1, 20, 0, 0, 99999),
  (26, .iconst 4, 1, 21, 0, 0, 99999),
  (27, .iushr, 1, 22, 0, 0, 99999),
  (28, .iadd, 1, 23, 0, 0, 99999),
  (29, .ldc_w 267, 3, 24, 252645135, 0, 394),
  (32, .iand, 1, 25, 0, 0, 99999),
  (33, .istore_n 0, 1, 26, 0, 0, 99999),
  (34, .iload_n 0, 1, 27, 0, 0, 99999),
  (35, .iload_n 0, 1, 28, 0, 0, 99999),
  (36, .bipush 8, 2, 29, 0, 0, 99999),
  (38, .iushr, 1, 30, 0, 0, 99999),
  (39, .iadd, 1, 31, 0, 0, 99999),
  (40, .istore_n 0, 1, 32, 0, 0, 99999),
  (41, .iload_n 0, 1, 33, 0, 0, 99999),
  (42, .iload_n 0, 1, 34, 0, 0, 99999),
  (43, .bipush 16, 2, 35, 0, 0, 99999),
  (45, .iushr, 1, 36, 0, 0, 99999),
  (46, .iadd, 1, 37, 0, 0, 99999),
  (47, .istore_n 0, 1, 38, 0, 0, 99999),
  (48, .iload_n 0, 1, 39, 0, 0, 99999),
  (49, .bipush 63, 2, 40, 0, 0, 99999),
  (51, .iand, 1, 41, 0, 0, 99999),
  (52, .ireturn, 1, 42, 0, 0, 99999)]
def J_bitCount : Mth := (⟨"java/lang/Integer", "bitCount", "(I)I"⟩, prog_9_method_49_code, 1, (some FieldType.int), T_J_bitCount, [391, 53, 99999, 99999, 390])
def T_M_S_search : List Ent := [(0, .aload_n 0, 1, 1, 0, 0, 99999),
  (1, .iconst 0, 1, 2, 0, 0, 99999),
  (2, .putfield 39, 3, 3, 4, 9, 143),
  (5, .aload_n 0, 1, 4, 0, 0, 99999),
  (6, .iload_n 2, 1, 5, 0, 0, 99999),
  (7, .aload_n 0, 1, 6, 0, 0, 99999),
  (8, .getfield 9, 3, 7, 4, 1, 135),
  (11, .invokestatic 53, 3, 8, 18, 1, 399),
  (14, .putfield 32, 3, 9, 4, 7, 141),
  (17, .aload_n 0, 1, 10, 0, 0, 99999),
  (18, .iload_n 1, 1, 11, 0, 0, 99999),
  (19, .aload_n 0, 1, 12, 0, 0, 99999),
  (20, .getfield 15, 3, 13, 4, 2, 136),
  (23, .invokestatic 53, 3, 14, 18, 1, 399),
  (26, .putfield 36, 3, 15, 4, 8, 142),
  (29, .aload_n 0, 1, 16, 0, 0, 99999),
  (30, .getfield 49, 3, 17, 4, 0, 134),
  (33, .iload_n 2, 1, 18, 0, 0, 99999),
  (34, .invokevirtual 57, 3, 19, 53, 0, 403),
  (37, .ifCond .ne 4, 3, 20, 21, 0, 99999),
  (40, .return_, 1, 21, 0, 0, 99999),
  (41, .iconst 0, 1, 22, 0, 0, 99999),
  (42, .istore_n 3, 1, 23, 0, 0, 99999),
  (43, .iload_n 3, 1, 24, 0, 0, 99999),
  (44, .aload_n 0, 1, 25, 0, 0, 99999),
  (45, .getfield 36, 3, 26, 4, 8, 142),
  (48, .if_icmp .ge 74, 3, 27, 66, 0, 99999),
  (51, .aload_n 0, 1, 28, 0, 0, 99999),
  (52, .getfield 18, 3, 29, 4, 3, 137),
  (55, .iload_n 3, 1, 30, 0, 0, 99999),
  (56, .aload_n 0, 1, 31, 0, 0, 99999),
  (57, .getfield 49, 3, 32, 4, 0, 134),
  (60, .aload_n 0, 1, 33, 0, 0, 99999),
  (61, .getfield 15, 3, 34, 4, 2, 136),
  (64, .iload_n 3, 1, 35, 0, 0, 99999),
  (65, .iaload, 1, 36, 0, 0, 99999),
  (66, .iload_n 2, 1, 37, 0, 0, 99999),
  (67, .invokevirtual 63, 3, 38, 51, 0, 404),
  (70, .iastore, 1, 39, 0, 0, 99999),
  (71, .iconst 0, 1, 40, 0, 0, 99999),
  (72, .istore 4, 2, 41, 0, 0, 99999),
  (74, .iload 4, 2, 42, 0, 0, 99999),
  (76, .aload_n 0, 1, 43, 0, 0, 99999),
  (77, .getfield 32, 3, 44, 4, 7, 141),
  (80, .if_icmp .ge 36, 3, 45, 64, 0, 99999),
  (83, .aload_n 0, 1, 46, 0, 0, 99999),
  (84, .getfield 23, 3, 47, 4, 4, 138),
  (87, .iload 4, 2, 48, 0, 0, 99999),
  (89, .aaload, 1, 49, 0, 0, 99999),
  (90, .iload_n 3, 1, 50, 0, 0, 99999),
  (91, .aload_n 0, 1, 51, 0, 0, 99999),
  (92, .aload_n 0, 1, 52, 0, 0, 99999),
  (93, .getfield 9, 3, 53, 4, 1, 135),
  (96, .iload 4, 2, 54, 0, 0, 99999),
  (98, .iaload, 1, 55, 0, 0, 99999),
  (99, .aload_n 0, 1, 56, 0, 0, 99999),
  (100, .getfield 15, 3, 57, 4, 2, 136),
  (103, .iload_n 3, 1, 58, 0, 0, 99999),
  (104, .iaload, 1, 59, 0, 0, 99999),
  (105, .iload_n 2, 1, 60, 0, 0, 99999),
  (106, .invokevirtual 67, 3, 61, 90, 0, 405),
  (109, .iastore, 1, 62, 0, 0, 99999),
  (110, .iinc 4 1, 3, 63, 0, 0, 99999),
  (113, .goto (-39), 3, 64, 41, 0, 99999),
  (116, .iinc 3 1, 3, 65, 0, 0, 99999),
  (119, .goto (-76), 3, 66, 23, 0, 99999),
  (122, .aload_n 0, 1, 67, 0, 0, 99999),
  (123, .iconst 0, 1, 68, 0, 0, 99999),
  (124, .aload_n 0, 1, 69, 0, 0, 99999),
  (125, .getfield 49, 3, 70, 4, 0, 134),
  (128, .iload_n 2, 1, 71, 0, 0, 99999),
  (129, .invokevirtual 71, 3, 72, 65, 0, 413),
  (132, .iconst 0, 1, 73, 0, 0, 99999),
  (133, .invokevirtual 75, 3, 74, 86, 0, 414),
  (136, .return_, 1, 75, 0, 0, 99999)]
def M_S_search : Mth := (⟨"FloorPlans$Seating", "search", "(II)V"⟩, prog_6_method_2_code, 5, (Option.none : Option FieldType), T_M_S_search, [398, 47, 396, 397, 99999])
def T_M_F_list : List Ent := [(0, .iconst 0, 1, 1, 0, 0, 99999),
  (1, .istore_n 2, 1, 2, 0, 0, 99999),
  (2, .iconst 0, 1, 3, 0, 0, 99999),
  (3, .istore_n 3, 1, 4, 0, 0, 99999),
  (4, .iload_n 3, 1, 5, 0, 0, 99999),
  (5, .bipush 16, 2, 6, 0, 0, 99999),
  (7, .if_icmp .ge 30, 3, 7, 22, 0, 99999),
  (10, .iload_n 2, 1, 8, 0, 0, 99999),
  (11, .aload_n 1, 1, 9, 0, 0, 99999),
  (12, .arraylength, 1, 10, 0, 0, 99999),
  (13, .if_icmp .ge 24, 3, 11, 22, 0, 99999),
  (16, .iload_n 0, 1, 12, 0, 0, 99999),
  (17, .iload_n 3, 1, 13, 0, 0, 99999),
  (18, .invokestatic 113, 3, 14, 13, 0, 402),
  (21, .ifCond .eq 10, 3, 15, 20, 0, 99999),
  (24, .aload_n 1, 1, 16, 0, 0, 99999),
  (25, .iload_n 2, 1, 17, 0, 0, 99999),
  (26, .iload_n 3, 1, 18, 0, 0, 99999),
  (27, .iastore, 1, 19, 0, 0, 99999),
  (28, .iinc 2 1, 3, 20, 0, 0, 99999),
  (31, .iinc 3 1, 3, 21, 0, 0, 99999),
  (34, .goto (-30), 3, 22, 4, 0, 99999),
  (37, .iload_n 2, 1, 23, 0, 0, 99999),
  (38, .ireturn, 1, 24, 0, 0, 99999)]
def M_F_list : Mth := (⟨"FloorPlans", "list", "(I[I)I"⟩, prog_1_method_38_code, 4, (some FieldType.int), T_M_F_list, [401, 43, 99999, 99999, 400])
def T_M_S_walkAmongStaying : List Ent := [(0, .aload_n 0, 1, 1, 0, 0, 99999),
  (1, .getfield 49, 3, 2, 4, 0, 134),
  (4, .iload_n 2, 1, 3, 0, 0, 99999),
  (5, .iload_n 1, 1, 4, 0, 0, 99999),
  (6, .invokevirtual 82, 3, 5, 59, 0, 409),
  (9, .ifCond .ne 6, 3, 6, 8, 0, 99999),
  (12, .bipush (-9), 2, 7, 0, 0, 99999),
  (14, .ireturn, 1, 8, 0, 0, 99999),
  (15, .iconst 0, 1, 9, 0, 0, 99999),
  (16, .istore 4, 2, 10, 0, 0, 99999),
  (18, .iconst 0, 1, 11, 0, 0, 99999),
  (19, .istore 5, 2, 12, 0, 0, 99999),
  (21, .iload 5, 2, 13, 0, 0, 99999),
  (23, .aload_n 0, 1, 14, 0, 0, 99999),
  (24, .getfield 49, 3, 15, 4, 0, 134),
  (27, .getfield 86, 3, 16, 1, 8, 102),
  (30, .if_icmp .ge 73, 3, 17, 53, 0, 99999),
  (33, .aload_n 0, 1, 18, 0, 0, 99999),
  (34, .getfield 49, 3, 19, 4, 0, 134),
  (37, .iload 5, 2, 20, 0, 0, 99999),
  (39, .iload_n 3, 1, 21, 0, 0, 99999),
  (40, .invokevirtual 89, 3, 22, 58, 0, 410),
  (43, .ifCond .eq 54, 3, 23, 51, 0, 99999),
  (46, .aload_n 0, 1, 24, 0, 0, 99999),
  (47, .getfield 49, 3, 25, 4, 0, 134),
  (50, .getfield 79, 3, 26, 1, 1, 86),
  (53, .iload 5, 2, 27, 0, 0, 99999),
  (55, .aaload, 1, 28, 0, 0, 99999),
  (56, .iconst 4, 1, 29, 0, 0, 99999),
  (57, .iaload, 1, 30, 0, 0, 99999),
  (58, .istore 6, 2, 31, 0, 0, 99999),
  (60, .aload_n 0, 1, 32, 0, 0, 99999),
  (61, .getfield 49, 3, 33, 4, 0, 134),
  (64, .iload_n 1, 1, 34, 0, 0, 99999),
  (65, .iload_n 2, 1, 35, 0, 0, 99999),
  (66, .iload 5, 2, 36, 0, 0, 99999),
  (68, .iload 6, 2, 37, 0, 0, 99999),
  (70, .invokevirtual 92, 3, 38, 46, 0, 411),
  (73, .ifCond .ne 6, 3, 39, 41, 0, 99999),
  (76, .bipush (-9), 2, 40, 0, 0, 99999),
  (78, .ireturn, 1, 41, 0, 0, 99999),
  (79, .iload 4, 2, 42, 0, 0, 99999),
  (81, .aload_n 0, 1, 43, 0, 0, 99999),
  (82, .getfield 49, 3, 44, 4, 0, 134),
  (85, .iload_n 1, 1, 45, 0, 0, 99999),
  (86, .iload_n 2, 1, 46, 0, 0, 99999),
  (87, .iload 5, 2, 47, 0, 0, 99999),
  (89, .iload 6, 2, 48, 0, 0, 99999),
  (91, .invokevirtual 96, 3, 49, 66, 0, 412),
  (94, .iadd, 1, 50, 0, 0, 99999),
  (95, .istore 4, 2, 51, 0, 0, 99999),
  (97, .iinc 5 1, 3, 52, 0, 0, 99999),
  (100, .goto (-79), 3, 53, 12, 0, 99999),
  (103, .iload 4, 2, 54, 0, 0, 99999),
  (105, .ireturn, 1, 55, 0, 0, 99999)]
def M_S_walkAmongStaying : Mth := (⟨"FloorPlans$Seating", "walkAmongStaying", "(III)I"⟩, prog_6_method_5_code, 7, (some FieldType.int), T_M_S_walkAmongStaying, [408, 47, 407, 4, 99999])
def T_M_S_placeFrom : List Ent := [(0, .aload_n 0, 1, 1, 0, 0, 99999),
  (1, .getfield 39, 3, 2, 4, 9, 143),
  (4, .ifCond .eq 13, 3, 3, 9, 0, 99999),
  (7, .aload_n 0, 1, 4, 0, 0, 99999),
  (8, .iload_n 2, 1, 5, 0, 0, 99999),
  (9, .iload_n 3, 1, 6, 0, 0, 99999),
  (10, .invokevirtual 100, 3, 7, 85, 0, 418),
  (13, .ifCond .ne 4, 3, 8, 9, 0, 99999),
  (16, .return_, 1, 9, 0, 0, 99999),
  (17, .iload_n 1, 1, 10, 0, 0, 99999),
  (18, .aload_n 0, 1, 11, 0, 0, 99999),
  (19, .getfield 32, 3, 12, 4, 7, 141),
  (22, .if_icmp .lt 34, 3, 13, 31, 0, 99999),
  (25, .aload_n 0, 1, 14, 0, 0, 99999),
  (26, .iconst 1, 1, 15, 0, 0, 99999),
  (27, .putfield 39, 3, 16, 4, 9, 143),
  (30, .aload_n 0, 1, 17, 0, 0, 99999),
  (31, .iload_n 2, 1, 18, 0, 0, 99999),
  (32, .putfield 43, 3, 19, 4, 10, 145),
  (35, .aload_n 0, 1, 20, 0, 0, 99999),
  (36, .iload_n 3, 1, 21, 0, 0, 99999),
  (37, .putfield 46, 3, 22, 4, 11, 147),
  (40, .aload_n 0, 1, 23, 0, 0, 99999),
  (41, .getfield 26, 3, 24, 4, 5, 139),
  (44, .iconst 0, 1, 25, 0, 0, 99999),
  (45, .aload_n 0, 1, 26, 0, 0, 99999),
  (46, .getfield 29, 3, 27, 4, 6, 140),
  (49, .iconst 0, 1, 28, 0, 0, 99999),
  (50, .bipush 7, 2, 29, 0, 0, 99999),
  (52, .invokestatic 103, 3, 30, 146, 0, 422),
  (55, .return_, 1, 31, 0, 0, 99999),
  (56, .aload_n 0, 1, 32, 0, 0, 99999),
  (57, .getfield 49, 3, 33, 4, 0, 134),
  (60, .getfield 79, 3, 34, 1, 1, 86),
  (63, .aload_n 0, 1, 35, 0, 0, 99999),
  (64, .getfield 9, 3, 36, 4, 1, 135),
  (67, .iload_n 1, 1, 37, 0, 0, 99999),
  (68, .iaload, 1, 38, 0, 0, 99999),
  (69, .aaload, 1, 39, 0, 0, 99999),
  (70, .astore 4, 2, 40, 0, 0, 99999),
  (72, .iconst 0, 1, 41, 0, 0, 99999),
  (73, .istore 5, 2, 42, 0, 0, 99999),
  (75, .iload 5, 2, 43, 0, 0, 99999),
  (77, .aload_n 0, 1, 44, 0, 0, 99999),
  (78, .getfield 36, 3, 45, 4, 8, 142),
  (81, .if_icmp .ge 117, 3, 46, 115, 0, 99999),
  (84, .aload_n 0, 1, 47, 0, 0, 99999),
  (85, .getfield 18, 3, 48, 4, 3, 137),
  (88, .iload 5, 2, 49, 0, 0, 99999),
  (90, .iaload, 1, 50, 0, 0, 99999),
  (91, .aload 4, 2, 51, 0, 0, 99999),
  (93, .iconst 0, 1, 52, 0, 0, 99999),
  (94, .iaload, 1, 53, 0, 0, 99999),
  (95, .if_icmp .ge 8, 3, 54, 56, 0, 99999),
  (98, .bipush (-9), 2, 55, 0, 0, 99999),
  (100, .goto 10, 3, 56, 60, 0, 99999),
  (103, .aload_n 0, 1, 57, 0, 0, 99999),
  (104, .iload_n 1, 1, 58, 0, 0, 99999),
  (105, .iload 5, 2, 59, 0, 0, 99999),
  (107, .invokevirtual 109, 3, 60, 89, 0, 423),
  (110, .istore 6, 2, 61, 0, 0, 99999),
  (112, .iload 6, 2, 62, 0, 0, 99999),
  (114, .bipush (-9), 2, 63, 0, 0, 99999),
  (116, .if_icmp .eq 76, 3, 64, 113, 0, 99999),
  (119, .aload_n 0, 1, 65, 0, 0, 99999),
  (120, .getfield 26, 3, 66, 4, 5, 139),
  (123, .iload_n 1, 1, 67, 0, 0, 99999),
  (124, .aload_n 0, 1, 68, 0, 0, 99999),
  (125, .getfield 15, 3, 69, 4, 2, 136),
  (128, .iload 5, 2, 70, 0, 0, 99999),
  (130, .iaload, 1, 71, 0, 0, 99999),
  (131, .iastore, 1, 72, 0, 0, 99999),
  (132, .aload_n 0, 1, 73, 0, 0, 99999),
  (133, .getfield 18, 3, 74, 4, 3, 137),
  (136, .iload 5, 2, 75, 0, 0, 99999),
  (138, .dup2, 1, 76, 0, 0, 99999),
  (139, .iaload, 1, 77, 0, 0, 99999),
  (140, .aload 4, 2, 78, 0, 0, 99999),
  (142, .iconst 0, 1, 79, 0, 0, 99999),
  (143, .iaload, 1, 80, 0, 0, 99999),
  (144, .isub, 1, 81, 0, 0, 99999),
  (145, .iastore, 1, 82, 0, 0, 99999),
  (146, .aload_n 0, 1, 83, 0, 0, 99999),
  (147, .iload_n 1, 1, 84, 0, 0, 99999),
  (148, .iconst 1, 1, 85, 0, 0, 99999),
  (149, .iadd, 1, 86, 0, 0, 99999),
  (150, .iload_n 2, 1, 87, 0, 0, 99999),
  (151, .iload 6, 2, 88, 0, 0, 99999),
  (153, .iadd, 1, 89, 0, 0, 99999),
  (154, .iload_n 3, 1, 90, 0, 0, 99999),
  (155, .aload 4, 2, 91, 0, 0, 99999),
  (157, .iconst 4, 1, 92, 0, 0, 99999),
  (158, .iaload, 1, 93, 0, 0, 99999),
  (159, .aload_n 0, 1, 94, 0, 0, 99999),
  (160, .getfield 15, 3, 95, 4, 2, 136),
  (163, .iload 5, 2, 96, 0, 0, 99999),
  (165, .iaload, 1, 97, 0, 0, 99999),
  (166, .if_icmp .ne 7, 3, 98, 100, 0, 99999),
  (169, .iconst 0, 1, 99, 0, 0, 99999),
  (170, .goto 4, 3, 100, 101, 0, 99999),
  (173, .iconst 1, 1, 101, 0, 0, 99999),
  (174, .iadd, 1, 102, 0, 0, 99999),
  (175, .invokevirtual 75, 3, 103, 86, 0, 414),
  (178, .aload_n 0, 1, 104, 0, 0, 99999),
  (179, .getfield 18, 3, 105, 4, 3, 137),
  (182, .iload 5, 2, 106, 0, 0, 99999),
  (184, .dup2, 1, 107, 0, 0, 99999),
  (185, .iaload, 1, 108, 0, 0, 99999),
  (186, .aload 4, 2, 109, 0, 0, 99999),
  (188, .iconst 0, 1, 110, 0, 0, 99999),
  (189, .iaload, 1, 111, 0, 0, 99999),
  (190, .iadd, 1, 112, 0, 0, 99999),
  (191, .iastore, 1, 113, 0, 0, 99999),
  (192, .iinc 5 1, 3, 114, 0, 0, 99999),
  (195, .goto (-120), 3, 115, 42, 0, 99999),
  (198, .return_, 1, 116, 0, 0, 99999)]
def M_S_placeFrom : Mth := (⟨"FloorPlans$Seating", "placeFrom", "(III)V"⟩, prog_6_method_7_code, 7, (Option.none : Option FieldType), T_M_S_placeFrom, [417, 47, 416, 5, 99999])
def T_M_S_isBetter : List Ent := [(0, .iload_n 1, 1, 1, 0, 0, 99999),
  (1, .aload_n 0, 1, 2, 0, 0, 99999),
  (2, .getfield 43, 3, 3, 4, 10, 145),
  (5, .if_icmp .lt 19, 3, 4, 12, 0, 99999),
  (8, .iload_n 1, 1, 5, 0, 0, 99999),
  (9, .aload_n 0, 1, 6, 0, 0, 99999),
  (10, .getfield 43, 3, 7, 4, 10, 145),
  (13, .if_icmp .ne 15, 3, 8, 14, 0, 99999),
  (16, .iload_n 2, 1, 9, 0, 0, 99999),
  (17, .aload_n 0, 1, 10, 0, 0, 99999),
  (18, .getfield 46, 3, 11, 4, 11, 147),
  (21, .if_icmp .ge 7, 3, 12, 14, 0, 99999),
  (24, .iconst 1, 1, 13, 0, 0, 99999),
  (25, .goto 4, 3, 14, 15, 0, 99999),
  (28, .iconst 0, 1, 15, 0, 0, 99999),
  (29, .ireturn, 1, 16, 0, 0, 99999)]
def M_S_isBetter : Mth := (⟨"FloorPlans$Seating", "isBetter", "(II)Z"⟩, prog_6_method_8_code, 3, (some FieldType.boolean), T_M_S_isBetter, [421, 47, 420, 6, 99999])
def T_M_S_walkAmongPlaced : List Ent := [(0, .aload_n 0, 1, 1, 0, 0, 99999),
  (1, .getfield 23, 3, 2, 4, 4, 138),
  (4, .iload_n 1, 1, 3, 0, 0, 99999),
  (5, .aaload, 1, 4, 0, 0, 99999),
  (6, .iload_n 2, 1, 5, 0, 0, 99999),
  (7, .iaload, 1, 6, 0, 0, 99999),
  (8, .istore_n 3, 1, 7, 0, 0, 99999),
  (9, .iconst 0, 1, 8, 0, 0, 99999),
  (10, .istore 4, 2, 9, 0, 0, 99999),
  (12, .iload 4, 2, 10, 0, 0, 99999),
  (14, .iload_n 1, 1, 11, 0, 0, 99999),
  (15, .if_icmp .ge 93, 3, 12, 62, 0, 99999),
  (18, .iload_n 3, 1, 13, 0, 0, 99999),
  (19, .bipush (-9), 2, 14, 0, 0, 99999),
  (21, .if_icmp .eq 87, 3, 15, 62, 0, 99999),
  (24, .aload_n 0, 1, 16, 0, 0, 99999),
  (25, .getfield 49, 3, 17, 4, 0, 134),
  (28, .aload_n 0, 1, 18, 0, 0, 99999),
  (29, .getfield 9, 3, 19, 4, 1, 135),
  (32, .iload_n 1, 1, 20, 0, 0, 99999),
  (33, .iaload, 1, 21, 0, 0, 99999),
  (34, .aload_n 0, 1, 22, 0, 0, 99999),
  (35, .getfield 15, 3, 23, 4, 2, 136),
  (38, .iload_n 2, 1, 24, 0, 0, 99999),
  (39, .iaload, 1, 25, 0, 0, 99999),
  (40, .aload_n 0, 1, 26, 0, 0, 99999),
  (41, .getfield 9, 3, 27, 4, 1, 135),
  (44, .iload 4, 2, 28, 0, 0, 99999),
  (46, .iaload, 1, 29, 0, 0, 99999),
  (47, .aload_n 0, 1, 30, 0, 0, 99999),
  (48, .getfield 26, 3, 31, 4, 5, 139),
  (51, .iload 4, 2, 32, 0, 0, 99999),
  (53, .iaload, 1, 33, 0, 0, 99999),
  (54, .invokevirtual 92, 3, 34, 46, 0, 411),
  (57, .ifCond .eq 42, 3, 35, 58, 0, 99999),
  (60, .iload_n 3, 1, 36, 0, 0, 99999),
  (61, .aload_n 0, 1, 37, 0, 0, 99999),
  (62, .getfield 49, 3, 38, 4, 0, 134),
  (65, .aload_n 0, 1, 39, 0, 0, 99999),
  (66, .getfield 9, 3, 40, 4, 1, 135),
  (69, .iload_n 1, 1, 41, 0, 0, 99999),
  (70, .iaload, 1, 42, 0, 0, 99999),
  (71, .aload_n 0, 1, 43, 0, 0, 99999),
  (72, .getfield 15, 3, 44, 4, 2, 136),
  (75, .iload_n 2, 1, 45, 0, 0, 99999),
  (76, .iaload, 1, 46, 0, 0, 99999),
  (77, .aload_n 0, 1, 47, 0, 0, 99999),
  (78, .getfield 9, 3, 48, 4, 1, 135),
  (81, .iload 4, 2, 49, 0, 0, 99999),
  (83, .iaload, 1, 50, 0, 0, 99999),
  (84, .aload_n 0, 1, 51, 0, 0, 99999),
  (85, .getfield 26, 3, 52, 4, 5, 139),
  (88, .iload 4, 2, 53, 0, 0, 99999),
  (90, .iaload, 1, 54, 0, 0, 99999),
  (91, .invokevirtual 96, 3, 55, 66, 0, 412),
  (94, .iadd, 1, 56, 0, 0, 99999),
  (95, .istore_n 3, 1, 57, 0, 0, 99999),
  (96, .goto 6, 3, 58, 60, 0, 99999),
  (99, .bipush (-9), 2, 59, 0, 0, 99999),
  (101, .istore_n 3, 1, 60, 0, 0, 99999),
  (102, .iinc 4 1, 3, 61, 0, 0, 99999),
  (105, .goto (-93), 3, 62, 9, 0, 99999),
  (108, .iload_n 3, 1, 63, 0, 0, 99999),
  (109, .ireturn, 1, 64, 0, 0, 99999)]
def M_S_walkAmongPlaced : Mth := (⟨"FloorPlans$Seating", "walkAmongPlaced", "(II)I"⟩, prog_6_method_6_code, 5, (some FieldType.int), T_M_S_walkAmongPlaced, [426, 47, 425, 7, 99999])
def T_M_F_bestOf : List Ent := [(0, .aload_n 0, 1, 1, 0, 0, 99999),
  (1, .iload_n 1, 1, 2, 0, 0, 99999),
  (2, .iload_n 2, 1, 3, 0, 0, 99999),
  (3, .iconst 0, 1, 4, 0, 0, 99999),
  (4, .invokevirtual 95, 3, 5, 37, 0, 381),
  (7, .istore 4, 2, 6, 0, 0, 99999),
  (9, .iload 4, 2, 7, 0, 0, 99999),
  (11, .ifCond .eq 10, 3, 8, 12, 0, 99999),
  (14, .aload_n 0, 1, 9, 0, 0, 99999),
  (15, .iload 4, 2, 10, 0, 0, 99999),
  (17, .invokevirtual 54, 3, 11, 24, 0, 289),
  (20, .ireturn, 1, 12, 0, 0, 99999),
  (21, .aload_n 0, 1, 13, 0, 0, 99999),
  (22, .iload_n 3, 1, 14, 0, 0, 99999),
  (23, .invokevirtual 76, 3, 15, 22, 0, 305),
  (26, .ifCond .ne 11, 3, 16, 20, 0, 99999),
  (29, .iload_n 2, 1, 17, 0, 0, 99999),
  (30, .iload_n 3, 1, 18, 0, 0, 99999),
  (31, .invokestatic 113, 3, 19, 13, 0, 402),
  (34, .ifCond .ne 9, 3, 20, 24, 0, 99999),
  (37, .aload_n 0, 1, 21, 0, 0, 99999),
  (38, .iconst (-1), 1, 22, 0, 0, 99999),
  (39, .invokevirtual 54, 3, 23, 24, 0, 289),
  (42, .ireturn, 1, 24, 0, 0, 99999),
  (43, .aload_n 0, 1, 25, 0, 0, 99999),
  (44, .getfield 21, 3, 26, 5, 1, 264),
  (47, .iload_n 1, 1, 27, 0, 0, 99999),
  (48, .iload_n 2, 1, 28, 0, 0, 99999),
  (49, .invokevirtual 99, 3, 29, 87, 0, 395),
  (52, .aload_n 0, 1, 30, 0, 0, 99999),
  (53, .getfield 21, 3, 31, 5, 1, 264),
  (56, .getfield 103, 3, 32, 4, 9, 144),
  (59, .ifCond .eq 14, 3, 33, 38, 0, 99999),
  (62, .aload_n 0, 1, 34, 0, 0, 99999),
  (63, .getfield 21, 3, 35, 5, 1, 264),
  (66, .iload_n 3, 1, 36, 0, 0, 99999),
  (67, .invokevirtual 117, 3, 37, 84, 0, 431),
  (70, .goto 5, 3, 38, 39, 0, 99999),
  (73, .bipush (-9), 2, 39, 0, 0, 99999),
  (75, .ireturn, 1, 40, 0, 0, 99999)]
def M_F_bestOf : Mth := (⟨"FloorPlans", "bestOf", "(III)I"⟩, prog_1_method_12_code, 5, (some FieldType.int), T_M_F_bestOf, [430, 43, 428, 429, 99999])
def T_M_S_bestFloorOf : List Ent := [(0, .iconst 0, 1, 1, 0, 0, 99999),
  (1, .istore_n 2, 1, 2, 0, 0, 99999),
  (2, .iload_n 2, 1, 3, 0, 0, 99999),
  (3, .aload_n 0, 1, 4, 0, 0, 99999),
  (4, .getfield 32, 3, 5, 4, 7, 141),
  (7, .if_icmp .ge 26, 3, 6, 19, 0, 99999),
  (10, .aload_n 0, 1, 7, 0, 0, 99999),
  (11, .getfield 9, 3, 8, 4, 1, 135),
  (14, .iload_n 2, 1, 9, 0, 0, 99999),
  (15, .iaload, 1, 10, 0, 0, 99999),
  (16, .iload_n 1, 1, 11, 0, 0, 99999),
  (17, .if_icmp .ne 10, 3, 12, 17, 0, 99999),
  (20, .aload_n 0, 1, 13, 0, 0, 99999),
  (21, .getfield 29, 3, 14, 4, 6, 140),
  (24, .iload_n 2, 1, 15, 0, 0, 99999),
  (25, .iaload, 1, 16, 0, 0, 99999),
  (26, .ireturn, 1, 17, 0, 0, 99999),
  (27, .iinc 2 1, 3, 18, 0, 0, 99999),
  (30, .goto (-28), 3, 19, 2, 0, 99999),
  (33, .bipush (-9), 2, 20, 0, 0, 99999),
  (35, .ireturn, 1, 21, 0, 0, 99999)]
def M_S_bestFloorOf : Mth := (⟨"FloorPlans$Seating", "bestFloorOf", "(I)I"⟩, prog_6_method_3_code, 3, (some FieldType.int), T_M_S_bestFloorOf, [434, 47, 432, 433, 99999])
def T_M_F_seat : List Ent := [(0, .aload_n 0, 1, 1, 0, 0, 99999),
  (1, .iload_n 1, 1, 2, 0, 0, 99999),
  (2, .iload_n 2, 1, 3, 0, 0, 99999),
  (3, .iconst 0, 1, 4, 0, 0, 99999),
  (4, .invokevirtual 95, 3, 5, 37, 0, 381),
  (7, .istore_n 3, 1, 6, 0, 0, 99999),
  (8, .iload_n 3, 1, 7, 0, 0, 99999),
  (9, .ifCond .eq 9, 3, 8, 12, 0, 99999),
  (12, .aload_n 0, 1, 9, 0, 0, 99999),
  (13, .iload_n 3, 1, 10, 0, 0, 99999),
  (14, .invokevirtual 54, 3, 11, 24, 0, 289),
  (17, .ireturn, 1, 12, 0, 0, 99999),
  (18, .aload_n 0, 1, 13, 0, 0, 99999),
  (19, .getfield 21, 3, 14, 5, 1, 264),
  (22, .iload_n 1, 1, 15, 0, 0, 99999),
  (23, .iload_n 2, 1, 16, 0, 0, 99999),
  (24, .invokevirtual 99, 3, 17, 87, 0, 395),
  (27, .aload_n 0, 1, 18, 0, 0, 99999),
  (28, .getfield 21, 3, 19, 5, 1, 264),
  (31, .getfield 103, 3, 20, 4, 9, 144),
  (34, .ifCond .ne 10, 3, 21, 25, 0, 99999),
  (37, .aload_n 0, 1, 22, 0, 0, 99999),
  (38, .bipush (-3), 2, 23, 0, 0, 99999),
  (40, .invokevirtual 54, 3, 24, 24, 0, 289),
  (43, .ireturn, 1, 25, 0, 0, 99999),
  (44, .aload_n 0, 1, 26, 0, 0, 99999),
  (45, .getfield 21, 3, 27, 5, 1, 264),
  (48, .invokevirtual 120, 3, 28, 88, 0, 439),
  (51, .aload_n 0, 1, 29, 0, 0, 99999),
  (52, .getfield 21, 3, 30, 5, 1, 264),
  (55, .getfield 110, 3, 31, 4, 11, 148),
  (58, .ireturn, 1, 32, 0, 0, 99999)]
def M_F_seat : Mth := (⟨"FloorPlans", "seat", "(II)I"⟩, prog_1_method_13_code, 4, (some FieldType.int), T_M_F_seat, [438, 43, 436, 437, 99999])
def T_M_S_takeBest : List Ent := [(0, .iconst 0, 1, 1, 0, 0, 99999),
  (1, .istore_n 1, 1, 2, 0, 0, 99999),
  (2, .iload_n 1, 1, 3, 0, 0, 99999),
  (3, .aload_n 0, 1, 4, 0, 0, 99999),
  (4, .getfield 32, 3, 5, 4, 7, 141),
  (7, .if_icmp .ge 31, 3, 6, 22, 0, 99999),
  (10, .aload_n 0, 1, 7, 0, 0, 99999),
  (11, .getfield 49, 3, 8, 4, 0, 134),
  (14, .getfield 79, 3, 9, 1, 1, 86),
  (17, .aload_n 0, 1, 10, 0, 0, 99999),
  (18, .getfield 9, 3, 11, 4, 1, 135),
  (21, .iload_n 1, 1, 12, 0, 0, 99999),
  (22, .iaload, 1, 13, 0, 0, 99999),
  (23, .aaload, 1, 14, 0, 0, 99999),
  (24, .iconst 4, 1, 15, 0, 0, 99999),
  (25, .aload_n 0, 1, 16, 0, 0, 99999),
  (26, .getfield 29, 3, 17, 4, 6, 140),
  (29, .iload_n 1, 1, 18, 0, 0, 99999),
  (30, .iaload, 1, 19, 0, 0, 99999),
  (31, .iastore, 1, 20, 0, 0, 99999),
  (32, .iinc 1 1, 3, 21, 0, 0, 99999),
  (35, .goto (-33), 3, 22, 2, 0, 99999),
  (38, .return_, 1, 23, 0, 0, 99999)]
def M_S_takeBest : Mth := (⟨"FloorPlans$Seating", "takeBest", "()V"⟩, prog_6_method_4_code, 2, (Option.none : Option FieldType), T_M_S_takeBest, [442, 47, 440, 441, 99999])
def T_M_F_target : List Ent := [(0, .aload_n 0, 1, 1, 0, 0, 99999),
  (1, .iload_n 1, 1, 2, 0, 0, 99999),
  (2, .invokevirtual 76, 3, 3, 22, 0, 305),
  (5, .ifCond .ne 16, 3, 4, 10, 0, 99999),
  (8, .iload_n 2, 1, 5, 0, 0, 99999),
  (9, .bipush (-9), 2, 6, 0, 0, 99999),
  (11, .if_icmp .eq 16, 3, 7, 14, 0, 99999),
  (14, .iload_n 2, 1, 8, 0, 0, 99999),
  (15, .invokestatic 50, 3, 9, 20, 0, 286),
  (18, .ifCond .eq 9, 3, 10, 14, 0, 99999),
  (21, .aload_n 0, 1, 11, 0, 0, 99999),
  (22, .iconst (-1), 1, 12, 0, 0, 99999),
  (23, .invokevirtual 54, 3, 13, 24, 0, 289),
  (26, .ireturn, 1, 14, 0, 0, 99999),
  (27, .aload_n 0, 1, 15, 0, 0, 99999),
  (28, .getfield 12, 3, 16, 5, 0, 263),
  (31, .getfield 73, 3, 17, 1, 1, 85),
  (34, .iload_n 1, 1, 18, 0, 0, 99999),
  (35, .aaload, 1, 19, 0, 0, 99999),
  (36, .bipush 6, 2, 20, 0, 0, 99999),
  (38, .iload_n 2, 1, 21, 0, 0, 99999),
  (39, .invokestatic 65, 3, 22, 6, 0, 294),
  (42, .ireturn, 1, 23, 0, 0, 99999)]
def M_F_target : Mth := (⟨"FloorPlans", "target", "(II)I"⟩, prog_1_method_14_code, 3, (some FieldType.int), T_M_F_target, [446, 43, 444, 445, 99999])
def T_M_F_weekends : List Ent := [(0, .aload_n 0, 1, 1, 0, 0, 99999),
  (1, .iload_n 1, 1, 2, 0, 0, 99999),
  (2, .invokevirtual 123, 3, 3, 36, 0, 451),
  (5, .istore_n 2, 1, 4, 0, 0, 99999),
  (6, .iload_n 2, 1, 5, 0, 0, 99999),
  (7, .ifCond .eq 9, 3, 6, 10, 0, 99999),
  (10, .aload_n 0, 1, 7, 0, 0, 99999),
  (11, .iload_n 2, 1, 8, 0, 0, 99999),
  (12, .invokevirtual 54, 3, 9, 24, 0, 289),
  (15, .ireturn, 1, 10, 0, 0, 99999),
  (16, .aload_n 0, 1, 11, 0, 0, 99999),
  (17, .getfield 28, 3, 12, 5, 2, 265),
  (20, .iload_n 1, 1, 13, 0, 0, 99999),
  (21, .invokevirtual 126, 3, 14, 81, 0, 467),
  (24, .ireturn, 1, 15, 0, 0, 99999)]
def M_F_weekends : Mth := (⟨"FloorPlans", "weekends", "(I)I"⟩, prog_1_method_15_code, 3, (some FieldType.int), T_M_F_weekends, [450, 43, 448, 449, 99999])
def T_M_F_whyNoMoving : List Ent := [(0, .iload_n 1, 1, 1, 0, 0, 99999),
  (1, .sipush (-2048), 3, 2, 0, 0, 99999),
  (4, .iand, 1, 3, 0, 0, 99999),
  (5, .ifCond .eq 5, 3, 4, 6, 0, 99999),
  (8, .iconst (-1), 1, 5, 0, 0, 99999),
  (9, .ireturn, 1, 6, 0, 0, 99999),
  (10, .aload_n 0, 1, 7, 0, 0, 99999),
  (11, .getfield 12, 3, 8, 5, 0, 263),
  (14, .invokevirtual 204, 3, 9, 62, 0, 455),
  (17, .istore_n 2, 1, 10, 0, 0, 99999),
  (18, .iload_n 2, 1, 11, 0, 0, 99999),
  (19, .aload_n 0, 1, 12, 0, 0, 99999),
  (20, .getfield 12, 3, 13, 5, 0, 263),
  (23, .invokevirtual 196, 3, 14, 48, 0, 385),
  (26, .aload_n 0, 1, 15, 0, 0, 99999),
  (27, .getfield 12, 3, 16, 5, 0, 263),
  (30, .invokevirtual 207, 3, 17, 57, 0, 459),
  (33, .ior, 1, 18, 0, 0, 99999),
  (34, .iand, 1, 19, 0, 0, 99999),
  (35, .ifCond .eq 6, 3, 20, 22, 0, 99999),
  (38, .bipush (-3), 2, 21, 0, 0, 99999),
  (40, .ireturn, 1, 22, 0, 0, 99999),
  (41, .iload_n 1, 1, 23, 0, 0, 99999),
  (42, .aload_n 0, 1, 24, 0, 0, 99999),
  (43, .getfield 12, 3, 25, 5, 0, 263),
  (46, .invokevirtual 210, 3, 26, 49, 0, 463),
  (49, .ior, 1, 27, 0, 0, 99999),
  (50, .istore_n 3, 1, 28, 0, 0, 99999),
  (51, .iload_n 2, 1, 29, 0, 0, 99999),
  (52, .invokestatic 199, 3, 30, 142, 0, 389),
  (55, .bipush 6, 2, 31, 0, 0, 99999),
  (57, .if_icmp .gt 11, 3, 32, 36, 0, 99999),
  (60, .iload_n 3, 1, 33, 0, 0, 99999),
  (61, .invokestatic 199, 3, 34, 142, 0, 389),
  (64, .iconst 5, 1, 35, 0, 0, 99999),
  (65, .if_icmp .le 7, 3, 36, 38, 0, 99999),
  (68, .iconst 1, 1, 37, 0, 0, 99999),
  (69, .goto 4, 3, 38, 39, 0, 99999),
  (72, .iconst 0, 1, 39, 0, 0, 99999),
  (73, .istore 4, 2, 40, 0, 0, 99999),
  (75, .iload 4, 2, 41, 0, 0, 99999),
  (77, .ifCond .eq 8, 3, 42, 44, 0, 99999),
  (80, .bipush (-6), 2, 43, 0, 0, 99999),
  (82, .goto 4, 3, 44, 45, 0, 99999),
  (85, .iconst 0, 1, 45, 0, 0, 99999),
  (86, .ireturn, 1, 46, 0, 0, 99999)]
def M_F_whyNoMoving : Mth := (⟨"FloorPlans", "whyNoMoving", "(I)I"⟩, prog_1_method_35_code, 5, (some FieldType.int), T_M_F_whyNoMoving, [454, 43, 453, 8, 99999])
def T_M_H_targetedTeams : List Ent := [(0, .iconst 0, 1, 1, 0, 0, 99999),
  (1, .istore_n 1, 1, 2, 0, 0, 99999),
  (2, .iconst 0, 1, 3, 0, 0, 99999),
  (3, .istore_n 2, 1, 4, 0, 0, 99999),
  (4, .iload_n 2, 1, 5, 0, 0, 99999),
  (5, .aload_n 0, 1, 6, 0, 0, 99999),
  (6, .getfield 41, 3, 7, 1, 8, 99),
  (9, .if_icmp .ge 33, 3, 8, 26, 0, 99999),
  (12, .iload_n 1, 1, 9, 0, 0, 99999),
  (13, .aload_n 0, 1, 10, 0, 0, 99999),
  (14, .getfield 20, 3, 11, 1, 1, 83),
  (17, .iload_n 2, 1, 12, 0, 0, 99999),
  (18, .aaload, 1, 13, 0, 0, 99999),
  (19, .bipush 6, 2, 14, 0, 0, 99999),
  (21, .iaload, 1, 15, 0, 0, 99999),
  (22, .bipush (-9), 2, 16, 0, 0, 99999),
  (24, .if_icmp .ne 7, 3, 17, 19, 0, 99999),
  (27, .iconst 0, 1, 18, 0, 0, 99999),
  (28, .goto 6, 3, 19, 22, 0, 99999),
  (31, .iconst 1, 1, 20, 0, 0, 99999),
  (32, .iload_n 2, 1, 21, 0, 0, 99999),
  (33, .ishl, 1, 22, 0, 0, 99999),
  (34, .ior, 1, 23, 0, 0, 99999),
  (35, .istore_n 1, 1, 24, 0, 0, 99999),
  (36, .iinc 2 1, 3, 25, 0, 0, 99999),
  (39, .goto (-35), 3, 26, 4, 0, 99999),
  (42, .iload_n 1, 1, 27, 0, 0, 99999),
  (43, .ireturn, 1, 28, 0, 0, 99999)]
def M_H_targetedTeams : Mth := (⟨"FloorPlans$House", "targetedTeams", "()I"⟩, prog_3_method_8_code, 3, (some FieldType.int), T_M_H_targetedTeams, [458, 44, 456, 457, 99999])
def T_M_H_standingTeams : List Ent := [(0, .iconst 0, 1, 1, 0, 0, 99999),
  (1, .istore_n 1, 1, 2, 0, 0, 99999),
  (2, .iconst 0, 1, 3, 0, 0, 99999),
  (3, .istore_n 2, 1, 4, 0, 0, 99999),
  (4, .iload_n 2, 1, 5, 0, 0, 99999),
  (5, .aload_n 0, 1, 6, 0, 0, 99999),
  (6, .getfield 41, 3, 7, 1, 8, 99),
  (9, .if_icmp .ge 32, 3, 8, 26, 0, 99999),
  (12, .iload_n 1, 1, 9, 0, 0, 99999),
  (13, .aload_n 0, 1, 10, 0, 0, 99999),
  (14, .getfield 20, 3, 11, 1, 1, 83),
  (17, .iload_n 2, 1, 12, 0, 0, 99999),
  (18, .aaload, 1, 13, 0, 0, 99999),
  (19, .iconst 4, 1, 14, 0, 0, 99999),
  (20, .iaload, 1, 15, 0, 0, 99999),
  (21, .bipush (-9), 2, 16, 0, 0, 99999),
  (23, .if_icmp .ne 9, 3, 17, 21, 0, 99999),
  (26, .iconst 1, 1, 18, 0, 0, 99999),
  (27, .iload_n 2, 1, 19, 0, 0, 99999),
  (28, .ishl, 1, 20, 0, 0, 99999),
  (29, .goto 4, 3, 21, 22, 0, 99999),
  (32, .iconst 0, 1, 22, 0, 0, 99999),
  (33, .ior, 1, 23, 0, 0, 99999),
  (34, .istore_n 1, 1, 24, 0, 0, 99999),
  (35, .iinc 2 1, 3, 25, 0, 0, 99999),
  (38, .goto (-34), 3, 26, 4, 0, 99999),
  (41, .iload_n 1, 1, 27, 0, 0, 99999),
  (42, .ireturn, 1, 28, 0, 0, 99999)]
def M_H_standingTeams : Mth := (⟨"FloorPlans$House", "standingTeams", "()I"⟩, prog_3_method_7_code, 3, (some FieldType.int), T_M_H_standingTeams, [462, 44, 460, 461, 99999])
def T_M_H_floorsOfMovers : List Ent := [(0, .iconst 0, 1, 1, 0, 0, 99999),
  (1, .istore_n 1, 1, 2, 0, 0, 99999),
  (2, .iconst 0, 1, 3, 0, 0, 99999),
  (3, .istore_n 2, 1, 4, 0, 0, 99999),
  (4, .iload_n 2, 1, 5, 0, 0, 99999),
  (5, .aload_n 0, 1, 6, 0, 0, 99999),
  (6, .getfield 41, 3, 7, 1, 8, 99),
  (9, .if_icmp .ge 61, 3, 8, 46, 0, 99999),
  (12, .aload_n 0, 1, 9, 0, 0, 99999),
  (13, .getfield 20, 3, 10, 1, 1, 83),
  (16, .iload_n 2, 1, 11, 0, 0, 99999),
  (17, .aaload, 1, 12, 0, 0, 99999),
  (18, .bipush 6, 2, 13, 0, 0, 99999),
  (20, .iaload, 1, 14, 0, 0, 99999),
  (21, .bipush (-9), 2, 15, 0, 0, 99999),
  (23, .if_icmp .eq 41, 3, 16, 44, 0, 99999),
  (26, .aload_n 0, 1, 17, 0, 0, 99999),
  (27, .getfield 20, 3, 18, 1, 1, 83),
  (30, .iload_n 2, 1, 19, 0, 0, 99999),
  (31, .aaload, 1, 20, 0, 0, 99999),
  (32, .iconst 4, 1, 21, 0, 0, 99999),
  (33, .iaload, 1, 22, 0, 0, 99999),
  (34, .bipush (-9), 2, 23, 0, 0, 99999),
  (36, .if_icmp .eq 28, 3, 24, 44, 0, 99999),
  (39, .iload_n 1, 1, 25, 0, 0, 99999),
  (40, .iconst 1, 1, 26, 0, 0, 99999),
  (41, .aload_n 0, 1, 27, 0, 0, 99999),
  (42, .getfield 20, 3, 28, 1, 1, 83),
  (45, .iload_n 2, 1, 29, 0, 0, 99999),
  (46, .aaload, 1, 30, 0, 0, 99999),
  (47, .bipush 6, 2, 31, 0, 0, 99999),
  (49, .iaload, 1, 32, 0, 0, 99999),
  (50, .ishl, 1, 33, 0, 0, 99999),
  (51, .iconst 1, 1, 34, 0, 0, 99999),
  (52, .aload_n 0, 1, 35, 0, 0, 99999),
  (53, .getfield 20, 3, 36, 1, 1, 83),
  (56, .iload_n 2, 1, 37, 0, 0, 99999),
  (57, .aaload, 1, 38, 0, 0, 99999),
  (58, .iconst 4, 1, 39, 0, 0, 99999),
  (59, .iaload, 1, 40, 0, 0, 99999),
  (60, .ishl, 1, 41, 0, 0, 99999),
  (61, .ior, 1, 42, 0, 0, 99999),
  (62, .ior, 1, 43, 0, 0, 99999),
  (63, .istore_n 1, 1, 44, 0, 0, 99999),
  (64, .iinc 2 1, 3, 45, 0, 0, 99999),
  (67, .goto (-63), 3, 46, 4, 0, 99999),
  (70, .iload_n 1, 1, 47, 0, 0, 99999),
  (71, .ireturn, 1, 48, 0, 0, 99999)]
def M_H_floorsOfMovers : Mth := (⟨"FloorPlans$House", "floorsOfMovers", "()I"⟩, prog_3_method_9_code, 3, (some FieldType.int), T_M_H_floorsOfMovers, [466, 44, 464, 465, 99999])
def T_M_V_search : List Ent := [(0, .aload_n 0, 1, 1, 0, 0, 99999),
  (1, .iload_n 1, 1, 2, 0, 0, 99999),
  (2, .invokevirtual 53, 3, 3, 80, 0, 471),
  (5, .getstatic 57, 3, 4, 4, 0, 479),
  (8, .aload_n 0, 1, 5, 0, 0, 99999),
  (9, .getfield 37, 3, 6, 3, 9, 189),
  (12, .iaload, 1, 7, 0, 0, 99999),
  (13, .istore_n 2, 1, 8, 0, 0, 99999),
  (14, .aload_n 0, 1, 9, 0, 0, 99999),
  (15, .iconst 4, 1, 10, 0, 0, 99999),
  (16, .invokevirtual 60, 3, 11, 82, 0, 487),
  (19, .istore_n 3, 1, 12, 0, 0, 99999),
  (20, .aload_n 0, 1, 13, 0, 0, 99999),
  (21, .iconst 0, 1, 14, 0, 0, 99999),
  (22, .putfield 33, 3, 15, 3, 8, 188),
  (25, .aload_n 0, 1, 16, 0, 0, 99999),
  (26, .aload_n 0, 1, 17, 0, 0, 99999),
  (27, .bipush 6, 2, 18, 0, 0, 99999),
  (29, .invokevirtual 60, 3, 19, 82, 0, 487),
  (32, .iconst 0, 1, 20, 0, 0, 99999),
  (33, .invokevirtual 64, 3, 21, 76, 0, 491),
  (36, .iconst 0, 1, 22, 0, 0, 99999),
  (37, .istore 4, 2, 23, 0, 0, 99999),
  (39, .iload 4, 2, 24, 0, 0, 99999),
  (41, .iload_n 2, 1, 25, 0, 0, 99999),
  (42, .if_icmp .ge 39, 3, 26, 44, 0, 99999),
  (45, .iload 4, 2, 27, 0, 0, 99999),
  (47, .aload_n 0, 1, 28, 0, 0, 99999),
  (48, .getfield 33, 3, 29, 3, 8, 188),
  (51, .if_icmp .ge 30, 3, 30, 44, 0, 99999),
  (54, .aload_n 0, 1, 31, 0, 0, 99999),
  (55, .getfield 27, 3, 32, 3, 6, 186),
  (58, .iload_n 3, 1, 33, 0, 0, 99999),
  (59, .iaload, 1, 34, 0, 0, 99999),
  (60, .iconst (-1), 1, 35, 0, 0, 99999),
  (61, .if_icmp .ne 20, 3, 36, 44, 0, 99999),
  (64, .aload_n 0, 1, 37, 0, 0, 99999),
  (65, .aload_n 0, 1, 38, 0, 0, 99999),
  (66, .getfield 30, 3, 39, 3, 7, 187),
  (69, .iload 4, 2, 40, 0, 0, 99999),
  (71, .iaload, 1, 41, 0, 0, 99999),
  (72, .invokevirtual 68, 3, 42, 77, 0, 495),
  (75, .iinc 4 1, 3, 43, 0, 0, 99999),
  (78, .goto (-39), 3, 44, 23, 0, 99999),
  (81, .aload_n 0, 1, 45, 0, 0, 99999),
  (82, .getfield 27, 3, 46, 3, 6, 186),
  (85, .iload_n 3, 1, 47, 0, 0, 99999),
  (86, .iaload, 1, 48, 0, 0, 99999),
  (87, .iconst (-1), 1, 49, 0, 0, 99999),
  (88, .if_icmp .ne 8, 3, 50, 52, 0, 99999),
  (91, .bipush (-9), 2, 51, 0, 0, 99999),
  (93, .goto 9, 3, 52, 56, 0, 99999),
  (96, .aload_n 0, 1, 53, 0, 0, 99999),
  (97, .getfield 27, 3, 54, 3, 6, 186),
  (100, .iload_n 3, 1, 55, 0, 0, 99999),
  (101, .iaload, 1, 56, 0, 0, 99999),
  (102, .ireturn, 1, 57, 0, 0, 99999)]
def M_V_search : Mth := (⟨"FloorPlans$Moving", "search", "(I)I"⟩, prog_5_method_2_code, 5, (some FieldType.int), T_M_V_search, [470, 48, 468, 469, 99999])
def T_M_V_prepare : List Ent := [(0, .aload_n 0, 1, 1, 0, 0, 99999),
  (1, .getfield 49, 3, 2, 3, 0, 180),
  (4, .invokevirtual 74, 3, 3, 62, 0, 475),
  (7, .istore_n 2, 1, 4, 0, 0, 99999),
  (8, .aload_n 0, 1, 5, 0, 0, 99999),
  (9, .iload_n 2, 1, 6, 0, 0, 99999),
  (10, .aload_n 0, 1, 7, 0, 0, 99999),
  (11, .getfield 9, 3, 8, 3, 1, 181),
  (14, .invokestatic 80, 3, 9, 18, 1, 476),
  (17, .putfield 37, 3, 10, 3, 9, 189),
  (20, .aload_n 0, 1, 11, 0, 0, 99999),
  (21, .iload_n 1, 1, 12, 0, 0, 99999),
  (22, .aload_n 0, 1, 13, 0, 0, 99999),
  (23, .getfield 49, 3, 14, 3, 0, 180),
  (26, .invokevirtual 84, 3, 15, 49, 0, 477),
  (29, .ior, 1, 16, 0, 0, 99999),
  (30, .aload_n 0, 1, 17, 0, 0, 99999),
  (31, .getfield 15, 3, 18, 3, 2, 182),
  (34, .invokestatic 80, 3, 19, 18, 1, 476),
  (37, .putfield 40, 3, 20, 3, 10, 190),
  (40, .iconst 0, 1, 21, 0, 0, 99999),
  (41, .istore_n 3, 1, 22, 0, 0, 99999),
  (42, .iload_n 3, 1, 23, 0, 0, 99999),
  (43, .aload_n 0, 1, 24, 0, 0, 99999),
  (44, .getfield 40, 3, 25, 3, 10, 190),
  (47, .if_icmp .ge 29, 3, 26, 40, 0, 99999),
  (50, .aload_n 0, 1, 27, 0, 0, 99999),
  (51, .getfield 18, 3, 28, 3, 3, 183),
  (54, .iload_n 3, 1, 29, 0, 0, 99999),
  (55, .aload_n 0, 1, 30, 0, 0, 99999),
  (56, .getfield 49, 3, 31, 3, 0, 180),
  (59, .aload_n 0, 1, 32, 0, 0, 99999),
  (60, .getfield 15, 3, 33, 3, 2, 182),
  (63, .iload_n 3, 1, 34, 0, 0, 99999),
  (64, .iaload, 1, 35, 0, 0, 99999),
  (65, .iload_n 2, 1, 36, 0, 0, 99999),
  (66, .invokevirtual 87, 3, 37, 51, 0, 478),
  (69, .iastore, 1, 38, 0, 0, 99999),
  (70, .iinc 3 1, 3, 39, 0, 0, 99999),
  (73, .goto (-31), 3, 40, 22, 0, 99999),
  (76, .getstatic 57, 3, 41, 4, 0, 479),
  (79, .aload_n 0, 1, 42, 0, 0, 99999),
  (80, .getfield 37, 3, 43, 3, 9, 189),
  (83, .iaload, 1, 44, 0, 0, 99999),
  (84, .istore_n 3, 1, 45, 0, 0, 99999),
  (85, .aload_n 0, 1, 46, 0, 0, 99999),
  (86, .getfield 27, 3, 47, 3, 6, 186),
  (89, .arraylength, 1, 48, 0, 0, 99999),
  (90, .iload_n 3, 1, 49, 0, 0, 99999),
  (91, .if_icmp .ge 17, 3, 50, 58, 0, 99999),
  (94, .aload_n 0, 1, 51, 0, 0, 99999),
  (95, .iload_n 3, 1, 52, 0, 0, 99999),
  (96, .newarray .int, 2, 53, 0, 0, 126),
  (98, .putfield 27, 3, 54, 3, 6, 186),
  (101, .aload_n 0, 1, 55, 0, 0, 99999),
  (102, .iload_n 3, 1, 56, 0, 0, 99999),
  (103, .newarray .int, 2, 57, 0, 0, 126),
  (105, .putfield 30, 3, 58, 3, 7, 187),
  (108, .aload_n 0, 1, 59, 0, 0, 99999),
  (109, .getfield 27, 3, 60, 3, 6, 186),
  (112, .iconst 0, 1, 61, 0, 0, 99999),
  (113, .iload_n 3, 1, 62, 0, 0, 99999),
  (114, .iconst (-1), 1, 63, 0, 0, 99999),
  (115, .invokestatic 91, 3, 64, 148, 0, 481),
  (118, .return_, 1, 65, 0, 0, 99999)]
def M_V_prepare : Mth := (⟨"FloorPlans$Moving", "prepare", "(I)V"⟩, prog_5_method_4_code, 4, (Option.none : Option FieldType), T_M_V_prepare, [474, 48, 473, 9, 99999])
def T_J_fillR : List Ent := [(0, .aload_n 0, 1, 1, 0, 0, 99999),
  (1, .arraylength, 1, 2, 0, 0, 99999),
  (2, .iload_n 1, 1, 3, 0, 0, 99999),
  (3, .iload_n 2, 1, 4, 0, 0, 99999),
  (4, .invokestatic 13, 3, 5, 150, 0, 484),
  (7, .iload_n 1, 1, 6, 0, 0, 99999),
  (8, .istore 4, 2, 7, 0, 0, 99999),
  (10, .iload 4, 2, 8, 0, 0, 99999),
  (12, .iload_n 2, 1, 9, 0, 0, 99999),
  (13, .if_icmp .ge 14, 3, 10, 16, 0, 99999),
  (16, .aload_n 0, 1, 11, 0, 0, 99999),
  (17, .iload 4, 2, 12, 0, 0, 99999),
  (19, .iload_n 3, 1, 13, 0, 0, 99999),
  (20, .iastore, 1, 14, 0, 0, 99999),
  (21, .iinc 4 1, 3, 15, 0, 0, 99999),
  (24, .goto (-14), 3, 16, 7, 0, 99999),
  (27, .return_, 1, 17, 0, 0, 99999)]
def J_fillR : Mth := (⟨"java/util/Arrays", "fill", "([IIII)V"⟩, prog_12_method_104_code, 5, (Option.none : Option FieldType), T_J_fillR, [483, 46, 99999, 99999, 482])
def T_J_rangeCheck : List Ent := [(0, .iload_n 1, 1, 1, 0, 0, 99999),
  (1, .iload_n 2, 1, 2, 0, 0, 99999),
  (2, .if_icmp .le 44, 3, 3, 21, 0, 99999),
  (5, .new 43, 3, 4, 0, 0, 99999),
  (8, .dup, 1, 5, 0, 0, 99999),
  (9, .new 45, 3, 6, 0, 0, 99999),
  (12, .dup, 1, 7, 0, 0, 99999),
  (13, .invokespecial 47, 3, 8, 0, 0, 99999),
  (16, .ldc 48, 2, 9, 0, 0, 99999),
  (18, .invokevirtual 50, 3, 10, 0, 0, 99999),
  (21, .iload_n 1, 1, 11, 0, 0, 99999),
  (22, .invokevirtual 54, 3, 12, 0, 0, 99999),
  (25, .ldc 57, 2, 13, 0, 0, 99999),
  (27, .invokevirtual 50, 3, 14, 0, 0, 99999),
  (30, .iload_n 2, 1, 15, 0, 0, 99999),
  (31, .invokevirtual 54, 3, 16, 0, 0, 99999),
  (34, .ldc 59, 2, 17, 0, 0, 99999),
  (36, .invokevirtual 50, 3, 18, 0, 0, 99999),
  (39, .invokevirtual 61, 3, 19, 0, 0, 99999),
  (42, .invokespecial 65, 3, 20, 0, 0, 99999),
  (45, .athrow, 1, 21, 0, 0, 99999),
  (46, .iload_n 1, 1, 22, 0, 0, 99999),
  (47, .ifCond .ge 12, 3, 23, 28, 0, 99999),
  (50, .new 68, 3, 24, 0, 0, 99999),
  (53, .dup, 1, 25, 0, 0, 99999),
  (54, .iload_n 1, 1, 26, 0, 0, 99999),
  (55, .invokespecial 70, 3, 27, 0, 0, 99999),
  (58, .athrow, 1, 28, 0, 0, 99999),
  (59, .iload_n 2, 1, 29, 0, 0, 99999),
  (60, .iload_n 0, 1, 30, 0, 0, 99999),
  (61, .if_icmp .le 12, 3, 31, 36, 0, 99999),
  (64, .new 68, 3, 32, 0, 0, 99999),
  (67, .dup, 1, 33, 0, 0, 99999),
  (68, .iload_n 2, 1, 34, 0, 0, 99999),
  (69, .invokespecial 70, 3, 35, 0, 0, 99999),
  (72, .athrow, 1, 36, 0, 0, 99999),
  (73, .return_, 1, 37, 0, 0, 99999)]
def J_rangeCheck : Mth := (⟨"java/util/Arrays", "rangeCheck", "(III)V"⟩, prog_12_method_30_code, 3, (Option.none : Option FieldType), T_J_rangeCheck, [486, 46, 99999, 99999, 485])
def T_M_V_stateBy : List Ent := [(0, .iconst 0, 1, 1, 0, 0, 99999),
  (1, .istore_n 2, 1, 2, 0, 0, 99999),
  (2, .iconst 0, 1, 3, 0, 0, 99999),
  (3, .istore_n 3, 1, 4, 0, 0, 99999),
  (4, .iload_n 3, 1, 5, 0, 0, 99999),
  (5, .aload_n 0, 1, 6, 0, 0, 99999),
  (6, .getfield 37, 3, 7, 3, 9, 189),
  (9, .if_icmp .ge 64, 3, 8, 41, 0, 99999),
  (12, .iconst 0, 1, 9, 0, 0, 99999),
  (13, .istore 4, 2, 10, 0, 0, 99999),
  (15, .iload 4, 2, 11, 0, 0, 99999),
  (17, .aload_n 0, 1, 12, 0, 0, 99999),
  (18, .getfield 40, 3, 13, 3, 10, 190),
  (21, .if_icmp .ge 46, 3, 14, 39, 0, 99999),
  (24, .aload_n 0, 1, 15, 0, 0, 99999),
  (25, .getfield 15, 3, 16, 3, 2, 182),
  (28, .iload 4, 2, 17, 0, 0, 99999),
  (30, .iaload, 1, 18, 0, 0, 99999),
  (31, .aload_n 0, 1, 19, 0, 0, 99999),
  (32, .getfield 49, 3, 20, 3, 0, 180),
  (35, .getfield 97, 3, 21, 1, 1, 87),
  (38, .aload_n 0, 1, 22, 0, 0, 99999),
  (39, .getfield 9, 3, 23, 3, 1, 181),
  (42, .iload_n 3, 1, 24, 0, 0, 99999),
  (43, .iaload, 1, 25, 0, 0, 99999),
  (44, .aaload, 1, 26, 0, 0, 99999),
  (45, .iload_n 1, 1, 27, 0, 0, 99999),
  (46, .iaload, 1, 28, 0, 0, 99999),
  (47, .if_icmp .ne 14, 3, 29, 37, 0, 99999),
  (50, .iload_n 2, 1, 30, 0, 0, 99999),
  (51, .iload 4, 2, 31, 0, 0, 99999),
  (53, .getstatic 57, 3, 32, 4, 0, 479),
  (56, .iload_n 3, 1, 33, 0, 0, 99999),
  (57, .iaload, 1, 34, 0, 0, 99999),
  (58, .imul, 1, 35, 0, 0, 99999),
  (59, .iadd, 1, 36, 0, 0, 99999),
  (60, .istore_n 2, 1, 37, 0, 0, 99999),
  (61, .iinc 4 1, 3, 38, 0, 0, 99999),
  (64, .goto (-49), 3, 39, 10, 0, 99999),
  (67, .iinc 3 1, 3, 40, 0, 0, 99999),
  (70, .goto (-66), 3, 41, 4, 0, 99999),
  (73, .iload_n 2, 1, 42, 0, 0, 99999),
  (74, .ireturn, 1, 43, 0, 0, 99999)]
def M_V_stateBy : Mth := (⟨"FloorPlans$Moving", "stateBy", "(I)I"⟩, prog_5_method_5_code, 5, (some FieldType.int), T_M_V_stateBy, [490, 48, 489, 10, 99999])
def T_M_V_enqueue : List Ent := [(0, .aload_n 0, 1, 1, 0, 0, 99999),
  (1, .getfield 27, 3, 2, 3, 6, 186),
  (4, .iload_n 1, 1, 3, 0, 0, 99999),
  (5, .iaload, 1, 4, 0, 0, 99999),
  (6, .iconst (-1), 1, 5, 0, 0, 99999),
  (7, .if_icmp .ne 42, 3, 6, 29, 0, 99999),
  (10, .aload_n 0, 1, 7, 0, 0, 99999),
  (11, .getfield 33, 3, 8, 3, 8, 188),
  (14, .aload_n 0, 1, 9, 0, 0, 99999),
  (15, .getfield 30, 3, 10, 3, 7, 187),
  (18, .arraylength, 1, 11, 0, 0, 99999),
  (19, .if_icmp .ge 30, 3, 12, 29, 0, 99999),
  (22, .aload_n 0, 1, 13, 0, 0, 99999),
  (23, .getfield 27, 3, 14, 3, 6, 186),
  (26, .iload_n 1, 1, 15, 0, 0, 99999),
  (27, .iload_n 2, 1, 16, 0, 0, 99999),
  (28, .iastore, 1, 17, 0, 0, 99999),
  (29, .aload_n 0, 1, 18, 0, 0, 99999),
  (30, .getfield 30, 3, 19, 3, 7, 187),
  (33, .aload_n 0, 1, 20, 0, 0, 99999),
  (34, .getfield 33, 3, 21, 3, 8, 188),
  (37, .iload_n 1, 1, 22, 0, 0, 99999),
  (38, .iastore, 1, 23, 0, 0, 99999),
  (39, .aload_n 0, 1, 24, 0, 0, 99999),
  (40, .dup, 1, 25, 0, 0, 99999),
  (41, .getfield 33, 3, 26, 3, 8, 188),
  (44, .iconst 1, 1, 27, 0, 0, 99999),
  (45, .iadd, 1, 28, 0, 0, 99999),
  (46, .putfield 33, 3, 29, 3, 8, 188),
  (49, .return_, 1, 30, 0, 0, 99999)]
def M_V_enqueue : Mth := (⟨"FloorPlans$Moving", "enqueue", "(II)V"⟩, prog_5_method_7_code, 3, (Option.none : Option FieldType), T_M_V_enqueue, [494, 48, 493, 11, 99999])
def T_M_V_enqueueBefore : List Ent := [(0, .aload_n 0, 1, 1, 0, 0, 99999),
  (1, .iload_n 1, 1, 2, 0, 0, 99999),
  (2, .invokevirtual 107, 3, 3, 79, 0, 499),
  (5, .aload_n 0, 1, 4, 0, 0, 99999),
  (6, .getfield 27, 3, 5, 3, 6, 186),
  (9, .iload_n 1, 1, 6, 0, 0, 99999),
  (10, .iaload, 1, 7, 0, 0, 99999),
  (11, .iconst 1, 1, 8, 0, 0, 99999),
  (12, .iadd, 1, 9, 0, 0, 99999),
  (13, .istore_n 2, 1, 10, 0, 0, 99999),
  (14, .iconst 0, 1, 11, 0, 0, 99999),
  (15, .istore_n 3, 1, 12, 0, 0, 99999),
  (16, .iload_n 3, 1, 13, 0, 0, 99999),
  (17, .aload_n 0, 1, 14, 0, 0, 99999),
  (18, .getfield 37, 3, 15, 3, 9, 189),
  (21, .if_icmp .ge 73, 3, 16, 55, 0, 99999),
  (24, .aload_n 0, 1, 17, 0, 0, 99999),
  (25, .getfield 24, 3, 18, 3, 5, 185),
  (28, .aload_n 0, 1, 19, 0, 0, 99999),
  (29, .getfield 21, 3, 20, 3, 4, 184),
  (32, .iload_n 3, 1, 21, 0, 0, 99999),
  (33, .iaload, 1, 22, 0, 0, 99999),
  (34, .iaload, 1, 23, 0, 0, 99999),
  (35, .ifCond .lt 53, 3, 24, 53, 0, 99999),
  (38, .iload_n 1, 1, 25, 0, 0, 99999),
  (39, .aload_n 0, 1, 26, 0, 0, 99999),
  (40, .getfield 21, 3, 27, 3, 4, 184),
  (43, .iload_n 3, 1, 28, 0, 0, 99999),
  (44, .iaload, 1, 29, 0, 0, 99999),
  (45, .getstatic 57, 3, 30, 4, 0, 479),
  (48, .iload_n 3, 1, 31, 0, 0, 99999),
  (49, .iaload, 1, 32, 0, 0, 99999),
  (50, .imul, 1, 33, 0, 0, 99999),
  (51, .isub, 1, 34, 0, 0, 99999),
  (52, .istore 4, 2, 35, 0, 0, 99999),
  (54, .iconst 0, 1, 36, 0, 0, 99999),
  (55, .istore 5, 2, 37, 0, 0, 99999),
  (57, .iload 5, 2, 38, 0, 0, 99999),
  (59, .aload_n 0, 1, 39, 0, 0, 99999),
  (60, .getfield 40, 3, 40, 3, 10, 190),
  (63, .if_icmp .ge 25, 3, 41, 53, 0, 99999),
  (66, .aload_n 0, 1, 42, 0, 0, 99999),
  (67, .iload 4, 2, 43, 0, 0, 99999),
  (69, .iload 5, 2, 44, 0, 0, 99999),
  (71, .getstatic 57, 3, 45, 4, 0, 479),
  (74, .iload_n 3, 1, 46, 0, 0, 99999),
  (75, .iaload, 1, 47, 0, 0, 99999),
  (76, .imul, 1, 48, 0, 0, 99999),
  (77, .iadd, 1, 49, 0, 0, 99999),
  (78, .iload_n 2, 1, 50, 0, 0, 99999),
  (79, .invokevirtual 64, 3, 51, 76, 0, 491),
  (82, .iinc 5 1, 3, 52, 0, 0, 99999),
  (85, .goto (-28), 3, 53, 37, 0, 99999),
  (88, .iinc 3 1, 3, 54, 0, 0, 99999),
  (91, .goto (-75), 3, 55, 12, 0, 99999),
  (94, .return_, 1, 56, 0, 0, 99999)]
def M_V_enqueueBefore : Mth := (⟨"FloorPlans$Moving", "enqueueBefore", "(I)V"⟩, prog_5_method_8_code, 6, (Option.none : Option FieldType), T_M_V_enqueueBefore, [498, 48, 497, 12, 99999])
def T_M_V_open : List Ent := [(0, .aload_n 0, 1, 1, 0, 0, 99999),
  (1, .getfield 18, 3, 2, 3, 3, 183),
  (4, .iconst 0, 1, 3, 0, 0, 99999),
  (5, .aload_n 0, 1, 4, 0, 0, 99999),
  (6, .getfield 24, 3, 5, 3, 5, 185),
  (9, .iconst 0, 1, 6, 0, 0, 99999),
  (10, .iconst 5, 1, 7, 0, 0, 99999),
  (11, .invokestatic 101, 3, 8, 146, 0, 503),
  (14, .iload_n 1, 1, 9, 0, 0, 99999),
  (15, .istore_n 2, 1, 10, 0, 0, 99999),
  (16, .iconst 0, 1, 11, 0, 0, 99999),
  (17, .istore_n 3, 1, 12, 0, 0, 99999),
  (18, .iload_n 3, 1, 13, 0, 0, 99999),
  (19, .aload_n 0, 1, 14, 0, 0, 99999),
  (20, .getfield 37, 3, 15, 3, 9, 189),
  (23, .if_icmp .ge 52, 3, 16, 49, 0, 99999),
  (26, .aload_n 0, 1, 17, 0, 0, 99999),
  (27, .getfield 21, 3, 18, 3, 4, 184),
  (30, .iload_n 3, 1, 19, 0, 0, 99999),
  (31, .iload_n 2, 1, 20, 0, 0, 99999),
  (32, .iconst 5, 1, 21, 0, 0, 99999),
  (33, .irem, 1, 22, 0, 0, 99999),
  (34, .iastore, 1, 23, 0, 0, 99999),
  (35, .iload_n 2, 1, 24, 0, 0, 99999),
  (36, .iconst 5, 1, 25, 0, 0, 99999),
  (37, .idiv, 1, 26, 0, 0, 99999),
  (38, .istore_n 2, 1, 27, 0, 0, 99999),
  (39, .aload_n 0, 1, 28, 0, 0, 99999),
  (40, .getfield 24, 3, 29, 3, 5, 185),
  (43, .aload_n 0, 1, 30, 0, 0, 99999),
  (44, .getfield 21, 3, 31, 3, 4, 184),
  (47, .iload_n 3, 1, 32, 0, 0, 99999),
  (48, .iaload, 1, 33, 0, 0, 99999),
  (49, .dup2, 1, 34, 0, 0, 99999),
  (50, .iaload, 1, 35, 0, 0, 99999),
  (51, .aload_n 0, 1, 36, 0, 0, 99999),
  (52, .getfield 49, 3, 37, 3, 0, 180),
  (55, .getfield 97, 3, 38, 1, 1, 87),
  (58, .aload_n 0, 1, 39, 0, 0, 99999),
  (59, .getfield 9, 3, 40, 3, 1, 181),
  (62, .iload_n 3, 1, 41, 0, 0, 99999),
  (63, .iaload, 1, 42, 0, 0, 99999),
  (64, .aaload, 1, 43, 0, 0, 99999),
  (65, .iconst 0, 1, 44, 0, 0, 99999),
  (66, .iaload, 1, 45, 0, 0, 99999),
  (67, .isub, 1, 46, 0, 0, 99999),
  (68, .iastore, 1, 47, 0, 0, 99999),
  (69, .iinc 3 1, 3, 48, 0, 0, 99999),
  (72, .goto (-54), 3, 49, 12, 0, 99999),
  (75, .return_, 1, 50, 0, 0, 99999)]
def M_V_open : Mth := (⟨"FloorPlans$Moving", "open", "(I)V"⟩, prog_5_method_6_code, 4, (Option.none : Option FieldType), T_M_V_open, [502, 48, 501, 13, 99999])
def T_M_F_move : List Ent := [(0, .aload_n 0, 1, 1, 0, 0, 99999),
  (1, .iload_n 1, 1, 2, 0, 0, 99999),
  (2, .invokevirtual 123, 3, 3, 36, 0, 451),
  (5, .istore 4, 2, 4, 0, 0, 99999),
  (7, .iload 4, 2, 5, 0, 0, 99999),
  (9, .ifCond .eq 10, 3, 6, 10, 0, 99999),
  (12, .aload_n 0, 1, 7, 0, 0, 99999),
  (13, .iload 4, 2, 8, 0, 0, 99999),
  (15, .invokevirtual 54, 3, 9, 24, 0, 289),
  (18, .ireturn, 1, 10, 0, 0, 99999),
  (19, .iload_n 3, 1, 11, 0, 0, 99999),
  (20, .ifCond .lt 8, 3, 12, 15, 0, 99999),
  (23, .iload_n 3, 1, 13, 0, 0, 99999),
  (24, .iconst 1, 1, 14, 0, 0, 99999),
  (25, .if_icmp .le 10, 3, 15, 19, 0, 99999),
  (28, .aload_n 0, 1, 16, 0, 0, 99999),
  (29, .bipush (-2), 2, 17, 0, 0, 99999),
  (31, .invokevirtual 54, 3, 18, 24, 0, 289),
  (34, .ireturn, 1, 19, 0, 0, 99999),
  (35, .aload_n 0, 1, 20, 0, 0, 99999),
  (36, .getfield 28, 3, 21, 5, 2, 265),
  (39, .iload_n 1, 1, 22, 0, 0, 99999),
  (40, .invokevirtual 126, 3, 23, 81, 0, 467),
  (43, .istore 5, 2, 24, 0, 0, 99999),
  (45, .iload_n 2, 1, 25, 0, 0, 99999),
  (46, .ifCond .lt 9, 3, 26, 29, 0, 99999),
  (49, .iload_n 2, 1, 27, 0, 0, 99999),
  (50, .iload 5, 2, 28, 0, 0, 99999),
  (52, .if_icmp .lt 6, 3, 29, 31, 0, 99999),
  (55, .bipush (-9), 2, 30, 0, 0, 99999),
  (57, .ireturn, 1, 31, 0, 0, 99999),
  (58, .aload_n 0, 1, 32, 0, 0, 99999),
  (59, .getfield 28, 3, 33, 5, 2, 265),
  (62, .iload_n 2, 1, 34, 0, 0, 99999),
  (63, .invokevirtual 128, 3, 35, 78, 0, 508),
  (66, .iload_n 3, 1, 36, 0, 0, 99999),
  (67, .ifCond .ne 13, 3, 37, 41, 0, 99999),
  (70, .aload_n 0, 1, 38, 0, 0, 99999),
  (71, .getfield 28, 3, 39, 5, 2, 265),
  (74, .getfield 132, 3, 40, 3, 11, 192),
  (77, .goto 10, 3, 41, 44, 0, 99999),
  (80, .aload_n 0, 1, 42, 0, 0, 99999),
  (81, .getfield 28, 3, 43, 5, 2, 265),
  (84, .getfield 135, 3, 44, 3, 12, 194),
  (87, .ireturn, 1, 45, 0, 0, 99999)]
def M_F_move : Mth := (⟨"FloorPlans", "move", "(III)I"⟩, prog_1_method_16_code, 6, (some FieldType.int), T_M_F_move, [507, 43, 505, 506, 99999])
def T_M_V_followTo : List Ent := [(0, .aload_n 0, 1, 1, 0, 0, 99999),
  (1, .iconst 4, 1, 2, 0, 0, 99999),
  (2, .invokevirtual 60, 3, 3, 82, 0, 487),
  (5, .istore_n 2, 1, 4, 0, 0, 99999),
  (6, .iconst 0, 1, 5, 0, 0, 99999),
  (7, .istore_n 3, 1, 6, 0, 0, 99999),
  (8, .iload_n 3, 1, 7, 0, 0, 99999),
  (9, .iload_n 1, 1, 8, 0, 0, 99999),
  (10, .if_icmp .gt 24, 3, 9, 20, 0, 99999),
  (13, .aload_n 0, 1, 10, 0, 0, 99999),
  (14, .getfield 27, 3, 11, 3, 6, 186),
  (17, .iload_n 2, 1, 12, 0, 0, 99999),
  (18, .iaload, 1, 13, 0, 0, 99999),
  (19, .ifCond .le 15, 3, 14, 20, 0, 99999),
  (22, .aload_n 0, 1, 15, 0, 0, 99999),
  (23, .iload_n 2, 1, 16, 0, 0, 99999),
  (24, .invokevirtual 71, 3, 17, 75, 0, 512),
  (27, .istore_n 2, 1, 18, 0, 0, 99999),
  (28, .iinc 3 1, 3, 19, 0, 0, 99999),
  (31, .goto (-23), 3, 20, 6, 0, 99999),
  (34, .return_, 1, 21, 0, 0, 99999)]
def M_V_followTo : Mth := (⟨"FloorPlans$Moving", "followTo", "(I)V"⟩, prog_5_method_3_code, 4, (Option.none : Option FieldType), T_M_V_followTo, [511, 48, 509, 510, 99999])
def T_M_V_afterFirstMove : List Ent := [(0, .aload_n 0, 1, 1, 0, 0, 99999),
  (1, .iload_n 1, 1, 2, 0, 0, 99999),
  (2, .invokevirtual 107, 3, 3, 79, 0, 499),
  (5, .iconst 0, 1, 4, 0, 0, 99999),
  (6, .istore_n 2, 1, 5, 0, 0, 99999),
  (7, .iload_n 2, 1, 6, 0, 0, 99999),
  (8, .aload_n 0, 1, 7, 0, 0, 99999),
  (9, .getfield 37, 3, 8, 3, 9, 189),
  (12, .if_icmp .ge 121, 3, 9, 78, 0, 99999),
  (15, .iconst 0, 1, 10, 0, 0, 99999),
  (16, .istore_n 3, 1, 11, 0, 0, 99999),
  (17, .iload_n 3, 1, 12, 0, 0, 99999),
  (18, .aload_n 0, 1, 13, 0, 0, 99999),
  (19, .getfield 40, 3, 14, 3, 10, 190),
  (22, .if_icmp .ge 105, 3, 15, 76, 0, 99999),
  (25, .iload_n 1, 1, 16, 0, 0, 99999),
  (26, .iload_n 3, 1, 17, 0, 0, 99999),
  (27, .aload_n 0, 1, 18, 0, 0, 99999),
  (28, .getfield 21, 3, 19, 3, 4, 184),
  (31, .iload_n 2, 1, 20, 0, 0, 99999),
  (32, .iaload, 1, 21, 0, 0, 99999),
  (33, .isub, 1, 22, 0, 0, 99999),
  (34, .getstatic 57, 3, 23, 4, 0, 479),
  (37, .iload_n 2, 1, 24, 0, 0, 99999),
  (38, .iaload, 1, 25, 0, 0, 99999),
  (39, .imul, 1, 26, 0, 0, 99999),
  (40, .iadd, 1, 27, 0, 0, 99999),
  (41, .istore 4, 2, 28, 0, 0, 99999),
  (43, .aload_n 0, 1, 29, 0, 0, 99999),
  (44, .getfield 27, 3, 30, 3, 6, 186),
  (47, .iload 4, 2, 31, 0, 0, 99999),
  (49, .iaload, 1, 32, 0, 0, 99999),
  (50, .aload_n 0, 1, 33, 0, 0, 99999),
  (51, .getfield 27, 3, 34, 3, 6, 186),
  (54, .iload_n 1, 1, 35, 0, 0, 99999),
  (55, .iaload, 1, 36, 0, 0, 99999),
  (56, .iconst 1, 1, 37, 0, 0, 99999),
  (57, .isub, 1, 38, 0, 0, 99999),
  (58, .if_icmp .ne 7, 3, 39, 41, 0, 99999),
  (61, .iconst 1, 1, 40, 0, 0, 99999),
  (62, .goto 4, 3, 41, 42, 0, 99999),
  (65, .iconst 0, 1, 42, 0, 0, 99999),
  (66, .istore 5, 2, 43, 0, 0, 99999),
  (68, .iload 5, 2, 44, 0, 0, 99999),
  (70, .ifCond .eq 51, 3, 45, 74, 0, 99999),
  (73, .aload_n 0, 1, 46, 0, 0, 99999),
  (74, .getfield 24, 3, 47, 3, 5, 185),
  (77, .iload_n 3, 1, 48, 0, 0, 99999),
  (78, .iaload, 1, 49, 0, 0, 99999),
  (79, .aload_n 0, 1, 50, 0, 0, 99999),
  (80, .getfield 49, 3, 51, 3, 0, 180),
  (83, .getfield 97, 3, 52, 1, 1, 87),
  (86, .aload_n 0, 1, 53, 0, 0, 99999),
  (87, .getfield 9, 3, 54, 3, 1, 181),
  (90, .iload_n 2, 1, 55, 0, 0, 99999),
  (91, .iaload, 1, 56, 0, 0, 99999),
  (92, .aaload, 1, 57, 0, 0, 99999),
  (93, .iconst 0, 1, 58, 0, 0, 99999),
  (94, .iaload, 1, 59, 0, 0, 99999),
  (95, .if_icmp .lt 26, 3, 60, 74, 0, 99999),
  (98, .aload_n 0, 1, 61, 0, 0, 99999),
  (99, .aload_n 0, 1, 62, 0, 0, 99999),
  (100, .getfield 9, 3, 63, 3, 1, 181),
  (103, .iload_n 2, 1, 64, 0, 0, 99999),
  (104, .iaload, 1, 65, 0, 0, 99999),
  (105, .putfield 43, 3, 66, 3, 11, 191),
  (108, .aload_n 0, 1, 67, 0, 0, 99999),
  (109, .aload_n 0, 1, 68, 0, 0, 99999),
  (110, .getfield 15, 3, 69, 3, 2, 182),
  (113, .iload_n 3, 1, 70, 0, 0, 99999),
  (114, .iaload, 1, 71, 0, 0, 99999),
  (115, .putfield 46, 3, 72, 3, 12, 193),
  (118, .iload 4, 2, 73, 0, 0, 99999),
  (120, .ireturn, 1, 74, 0, 0, 99999),
  (121, .iinc 3 1, 3, 75, 0, 0, 99999),
  (124, .goto (-107), 3, 76, 11, 0, 99999),
  (127, .iinc 2 1, 3, 77, 0, 0, 99999),
  (130, .goto (-123), 3, 78, 5, 0, 99999),
  (133, .iload_n 1, 1, 79, 0, 0, 99999),
  (134, .ireturn, 1, 80, 0, 0, 99999)]
def M_V_afterFirstMove : Mth := (⟨"FloorPlans$Moving", "afterFirstMove", "(I)I"⟩, prog_5_method_9_code, 6, (some FieldType.int), T_M_V_afterFirstMove, [515, 48, 514, 14, 99999])
def T_M_F_go : List Ent := [(0, .aload_n 0, 1, 1, 0, 0, 99999),
  (1, .iload_n 1, 1, 2, 0, 0, 99999),
  (2, .invokevirtual 123, 3, 3, 36, 0, 451),
  (5, .istore_n 2, 1, 4, 0, 0, 99999),
  (6, .iload_n 2, 1, 5, 0, 0, 99999),
  (7, .ifCond .eq 9, 3, 6, 10, 0, 99999),
  (10, .aload_n 0, 1, 7, 0, 0, 99999),
  (11, .iload_n 2, 1, 8, 0, 0, 99999),
  (12, .invokevirtual 54, 3, 9, 24, 0, 289),
  (15, .ireturn, 1, 10, 0, 0, 99999),
  (16, .aload_n 0, 1, 11, 0, 0, 99999),
  (17, .getfield 28, 3, 12, 5, 2, 265),
  (20, .iload_n 1, 1, 13, 0, 0, 99999),
  (21, .invokevirtual 126, 3, 14, 81, 0, 467),
  (24, .istore_n 3, 1, 15, 0, 0, 99999),
  (25, .iload_n 3, 1, 16, 0, 0, 99999),
  (26, .bipush (-9), 2, 17, 0, 0, 99999),
  (28, .if_icmp .ne 10, 3, 18, 22, 0, 99999),
  (31, .aload_n 0, 1, 19, 0, 0, 99999),
  (32, .bipush (-3), 2, 20, 0, 0, 99999),
  (34, .invokevirtual 54, 3, 21, 24, 0, 289),
  (37, .ireturn, 1, 22, 0, 0, 99999),
  (38, .aload_n 0, 1, 23, 0, 0, 99999),
  (39, .getfield 12, 3, 24, 5, 0, 263),
  (42, .invokevirtual 138, 3, 25, 61, 0, 520),
  (45, .iload_n 3, 1, 26, 0, 0, 99999),
  (46, .ireturn, 1, 27, 0, 0, 99999)]
def M_F_go : Mth := (⟨"FloorPlans", "go", "(I)I"⟩, prog_1_method_17_code, 4, (some FieldType.int), T_M_F_go, [519, 43, 517, 518, 99999])
def T_M_H_takeTargets : List Ent := [(0, .iconst 0, 1, 1, 0, 0, 99999),
  (1, .istore_n 1, 1, 2, 0, 0, 99999),
  (2, .iload_n 1, 1, 3, 0, 0, 99999),
  (3, .aload_n 0, 1, 4, 0, 0, 99999),
  (4, .getfield 41, 3, 5, 1, 8, 99),
  (7, .if_icmp .ge 51, 3, 6, 35, 0, 99999),
  (10, .aload_n 0, 1, 7, 0, 0, 99999),
  (11, .getfield 20, 3, 8, 1, 1, 83),
  (14, .iload_n 1, 1, 9, 0, 0, 99999),
  (15, .aaload, 1, 10, 0, 0, 99999),
  (16, .bipush 6, 2, 11, 0, 0, 99999),
  (18, .iaload, 1, 12, 0, 0, 99999),
  (19, .bipush (-9), 2, 13, 0, 0, 99999),
  (21, .if_icmp .eq 31, 3, 14, 33, 0, 99999),
  (24, .aload_n 0, 1, 15, 0, 0, 99999),
  (25, .getfield 20, 3, 16, 1, 1, 83),
  (28, .iload_n 1, 1, 17, 0, 0, 99999),
  (29, .aaload, 1, 18, 0, 0, 99999),
  (30, .iconst 4, 1, 19, 0, 0, 99999),
  (31, .aload_n 0, 1, 20, 0, 0, 99999),
  (32, .getfield 20, 3, 21, 1, 1, 83),
  (35, .iload_n 1, 1, 22, 0, 0, 99999),
  (36, .aaload, 1, 23, 0, 0, 99999),
  (37, .bipush 6, 2, 24, 0, 0, 99999),
  (39, .iaload, 1, 25, 0, 0, 99999),
  (40, .iastore, 1, 26, 0, 0, 99999),
  (41, .aload_n 0, 1, 27, 0, 0, 99999),
  (42, .getfield 20, 3, 28, 1, 1, 83),
  (45, .iload_n 1, 1, 29, 0, 0, 99999),
  (46, .aaload, 1, 30, 0, 0, 99999),
  (47, .bipush 6, 2, 31, 0, 0, 99999),
  (49, .bipush (-9), 2, 32, 0, 0, 99999),
  (51, .iastore, 1, 33, 0, 0, 99999),
  (52, .iinc 1 1, 3, 34, 0, 0, 99999),
  (55, .goto (-53), 3, 35, 2, 0, 99999),
  (58, .return_, 1, 36, 0, 0, 99999)]
def M_H_takeTargets : Mth := (⟨"FloorPlans$House", "takeTargets", "()V"⟩, prog_3_method_10_code, 2, (Option.none : Option FieldType), T_M_H_takeTargets, [523, 44, 521, 522, 99999])
def T_M_F_person : List Ent := [(0, .aload_n 0, 1, 1, 0, 0, 99999),
  (1, .iload_n 1, 1, 2, 0, 0, 99999),
  (2, .invokevirtual 76, 3, 3, 22, 0, 305),
  (5, .ifCond .eq 9, 3, 4, 8, 0, 99999),
  (8, .aload_n 0, 1, 5, 0, 0, 99999),
  (9, .iconst (-1), 1, 6, 0, 0, 99999),
  (10, .invokevirtual 54, 3, 7, 24, 0, 289),
  (13, .ireturn, 1, 8, 0, 0, 99999),
  (14, .iload_n 2, 1, 9, 0, 0, 99999),
  (15, .ifCond .lt 7, 3, 10, 12, 0, 99999),
  (18, .iload_n 3, 1, 11, 0, 0, 99999),
  (19, .ifCond .ge 10, 3, 12, 16, 0, 99999),
  (22, .aload_n 0, 1, 13, 0, 0, 99999),
  (23, .bipush (-4), 2, 14, 0, 0, 99999),
  (25, .invokevirtual 54, 3, 15, 24, 0, 289),
  (28, .ireturn, 1, 16, 0, 0, 99999),
  (29, .aload_n 0, 1, 17, 0, 0, 99999),
  (30, .getfield 12, 3, 18, 5, 0, 263),
  (33, .getfield 73, 3, 19, 1, 1, 85),
  (36, .iload_n 1, 1, 20, 0, 0, 99999),
  (37, .aaload, 1, 21, 0, 0, 99999),
  (38, .bipush 7, 2, 22, 0, 0, 99999),
  (40, .iaload, 1, 23, 0, 0, 99999),
  (41, .istore 4, 2, 24, 0, 0, 99999),
  (43, .iload_n 2, 1, 25, 0, 0, 99999),
  (44, .bipush 31, 2, 26, 0, 0, 99999),
  (46, .if_icmp .gt 16, 3, 27, 33, 0, 99999),
  (49, .iload_n 3, 1, 28, 0, 0, 99999),
  (50, .bipush 64, 2, 29, 0, 0, 99999),
  (52, .if_icmp .gt 10, 3, 30, 33, 0, 99999),
  (55, .iload 4, 2, 31, 0, 0, 99999),
  (57, .bipush 20, 2, 32, 0, 0, 99999),
  (59, .if_icmp .lt 10, 3, 33, 37, 0, 99999),
  (62, .aload_n 0, 1, 34, 0, 0, 99999),
  (63, .bipush (-6), 2, 35, 0, 0, 99999),
  (65, .invokevirtual 54, 3, 36, 24, 0, 289),
  (68, .ireturn, 1, 37, 0, 0, 99999),
  (69, .aload_n 0, 1, 38, 0, 0, 99999),
  (70, .getfield 12, 3, 39, 5, 0, 263),
  (73, .getfield 141, 3, 40, 1, 5, 93),
  (76, .iload_n 1, 1, 41, 0, 0, 99999),
  (77, .aaload, 1, 42, 0, 0, 99999),
  (78, .iload 4, 2, 43, 0, 0, 99999),
  (80, .iload_n 2, 1, 44, 0, 0, 99999),
  (81, .iastore, 1, 45, 0, 0, 99999),
  (82, .aload_n 0, 1, 46, 0, 0, 99999),
  (83, .getfield 12, 3, 47, 5, 0, 263),
  (86, .getfield 144, 3, 48, 1, 6, 96),
  (89, .iload_n 1, 1, 49, 0, 0, 99999),
  (90, .aaload, 1, 50, 0, 0, 99999),
  (91, .iload 4, 2, 51, 0, 0, 99999),
  (93, .iload_n 3, 1, 52, 0, 0, 99999),
  (94, .iastore, 1, 53, 0, 0, 99999),
  (95, .aload_n 0, 1, 54, 0, 0, 99999),
  (96, .getfield 12, 3, 55, 5, 0, 263),
  (99, .getfield 73, 3, 56, 1, 1, 85),
  (102, .iload_n 1, 1, 57, 0, 0, 99999),
  (103, .aaload, 1, 58, 0, 0, 99999),
  (104, .bipush 7, 2, 59, 0, 0, 99999),
  (106, .iload 4, 2, 60, 0, 0, 99999),
  (108, .iconst 1, 1, 61, 0, 0, 99999),
  (109, .iadd, 1, 62, 0, 0, 99999),
  (110, .iastore, 1, 63, 0, 0, 99999),
  (111, .iload 4, 2, 64, 0, 0, 99999),
  (113, .ireturn, 1, 65, 0, 0, 99999)]
def M_F_person : Mth := (⟨"FloorPlans", "person", "(III)I"⟩, prog_1_method_18_code, 5, (some FieldType.int), T_M_F_person, [527, 43, 525, 526, 99999])
def T_M_F_desks : List Ent := [(0, .aload_n 0, 1, 1, 0, 0, 99999),
  (1, .iload_n 1, 1, 2, 0, 0, 99999),
  (2, .invokevirtual 76, 3, 3, 22, 0, 305),
  (5, .ifCond .eq 9, 3, 4, 8, 0, 99999),
  (8, .aload_n 0, 1, 5, 0, 0, 99999),
  (9, .iconst (-1), 1, 6, 0, 0, 99999),
  (10, .invokevirtual 54, 3, 7, 24, 0, 289),
  (13, .ireturn, 1, 8, 0, 0, 99999),
  (14, .aload_n 0, 1, 9, 0, 0, 99999),
  (15, .getfield 35, 3, 10, 5, 3, 266),
  (18, .iload_n 1, 1, 11, 0, 0, 99999),
  (19, .invokevirtual 147, 3, 12, 43, 0, 532),
  (22, .ireturn, 1, 13, 0, 0, 99999)]
def M_F_desks : Mth := (⟨"FloorPlans", "desks", "(I)I"⟩, prog_1_method_19_code, 2, (some FieldType.int), T_M_F_desks, [531, 43, 529, 530, 99999])
def T_M_C_mostComing : List Ent := [(0, .iconst 0, 1, 1, 0, 0, 99999),
  (1, .istore_n 2, 1, 2, 0, 0, 99999),
  (2, .iconst 0, 1, 3, 0, 0, 99999),
  (3, .istore_n 3, 1, 4, 0, 0, 99999),
  (4, .iload_n 3, 1, 5, 0, 0, 99999),
  (5, .iconst 5, 1, 6, 0, 0, 99999),
  (6, .if_icmp .ge 74, 3, 7, 44, 0, 99999),
  (9, .iconst 0, 1, 8, 0, 0, 99999),
  (10, .istore 4, 2, 9, 0, 0, 99999),
  (12, .iconst 0, 1, 10, 0, 0, 99999),
  (13, .istore 5, 2, 11, 0, 0, 99999),
  (15, .iload 5, 2, 12, 0, 0, 99999),
  (17, .aload_n 0, 1, 13, 0, 0, 99999),
  (18, .getfield 15, 3, 14, 0, 0, 228),
  (21, .getfield 19, 3, 15, 1, 1, 84),
  (24, .iload_n 1, 1, 16, 0, 0, 99999),
  (25, .aaload, 1, 17, 0, 0, 99999),
  (26, .bipush 7, 2, 18, 0, 0, 99999),
  (28, .iaload, 1, 19, 0, 0, 99999),
  (29, .if_icmp .ge 38, 3, 20, 38, 0, 99999),
  (32, .iload 4, 2, 21, 0, 0, 99999),
  (34, .aload_n 0, 1, 22, 0, 0, 99999),
  (35, .getfield 15, 3, 23, 0, 0, 228),
  (38, .getfield 25, 3, 24, 1, 5, 92),
  (41, .iload_n 1, 1, 25, 0, 0, 99999),
  (42, .aaload, 1, 26, 0, 0, 99999),
  (43, .iload 5, 2, 27, 0, 0, 99999),
  (45, .iaload, 1, 28, 0, 0, 99999),
  (46, .iload_n 3, 1, 29, 0, 0, 99999),
  (47, .invokestatic 28, 3, 30, 13, 1, 536),
  (50, .ifCond .eq 7, 3, 31, 33, 0, 99999),
  (53, .iconst 0, 1, 32, 0, 0, 99999),
  (54, .goto 4, 3, 33, 34, 0, 99999),
  (57, .iconst 1, 1, 34, 0, 0, 99999),
  (58, .iadd, 1, 35, 0, 0, 99999),
  (59, .istore 4, 2, 36, 0, 0, 99999),
  (61, .iinc 5 1, 3, 37, 0, 0, 99999),
  (64, .goto (-49), 3, 38, 11, 0, 99999),
  (67, .iload_n 2, 1, 39, 0, 0, 99999),
  (68, .iload 4, 2, 40, 0, 0, 99999),
  (70, .invokestatic 32, 3, 41, 144, 0, 537),
  (73, .istore_n 2, 1, 42, 0, 0, 99999),
  (74, .iinc 3 1, 3, 43, 0, 0, 99999),
  (77, .goto (-73), 3, 44, 4, 0, 99999),
  (80, .iload_n 2, 1, 45, 0, 0, 99999),
  (81, .ireturn, 1, 46, 0, 0, 99999)]
def M_C_mostComing : Mth := (⟨"FloorPlans$Chances", "mostComing", "(I)I"⟩, prog_2_method_2_code, 6, (some FieldType.int), T_M_C_mostComing, [535, 49, 533, 534, 99999])
def T_J_max : List Ent := [(0, .iload_n 0, 1, 1, 0, 0, 99999),
  (1, .iload_n 1, 1, 2, 0, 0, 99999),
  (2, .if_icmp .lt 7, 3, 3, 5, 0, 99999),
  (5, .iload_n 0, 1, 4, 0, 0, 99999),
  (6, .goto 4, 3, 5, 6, 0, 99999),
  (9, .iload_n 1, 1, 6, 0, 0, 99999),
  (10, .ireturn, 1, 7, 0, 0, 99999)]
def J_max : Mth := (⟨"java/lang/Math", "max", "(II)I"⟩, prog_10_method_65_code, 2, (some FieldType.int), T_J_max, [539, 52, 99999, 99999, 538])
def T_M_F_lack : List Ent := [(0, .aload_n 0, 1, 1, 0, 0, 99999),
  (1, .iload_n 1, 1, 2, 0, 0, 99999),
  (2, .invokevirtual 76, 3, 3, 22, 0, 305),
  (5, .ifCond .ne 12, 3, 4, 9, 0, 99999),
  (8, .iload_n 3, 1, 5, 0, 0, 99999),
  (9, .ifCond .lt 8, 3, 6, 9, 0, 99999),
  (12, .iload_n 3, 1, 7, 0, 0, 99999),
  (13, .iconst 5, 1, 8, 0, 0, 99999),
  (14, .if_icmp .lt 9, 3, 9, 13, 0, 99999),
  (17, .aload_n 0, 1, 10, 0, 0, 99999),
  (18, .iconst (-1), 1, 11, 0, 0, 99999),
  (19, .invokevirtual 54, 3, 12, 24, 0, 289),
  (22, .ireturn, 1, 13, 0, 0, 99999),
  (23, .iload_n 2, 1, 14, 0, 0, 99999),
  (24, .ifCond .ge 10, 3, 15, 19, 0, 99999),
  (27, .aload_n 0, 1, 16, 0, 0, 99999),
  (28, .bipush (-4), 2, 17, 0, 0, 99999),
  (30, .invokevirtual 54, 3, 18, 24, 0, 289),
  (33, .ireturn, 1, 19, 0, 0, 99999),
  (34, .iload_n 2, 1, 20, 0, 0, 99999),
  (35, .bipush 20, 2, 21, 0, 0, 99999),
  (37, .if_icmp .le 10, 3, 22, 26, 0, 99999),
  (40, .aload_n 0, 1, 23, 0, 0, 99999),
  (41, .bipush (-6), 2, 24, 0, 0, 99999),
  (43, .invokevirtual 54, 3, 25, 24, 0, 289),
  (46, .ireturn, 1, 26, 0, 0, 99999),
  (47, .aload_n 0, 1, 27, 0, 0, 99999),
  (48, .getfield 35, 3, 28, 5, 3, 266),
  (51, .iload_n 1, 1, 29, 0, 0, 99999),
  (52, .iload_n 3, 1, 30, 0, 0, 99999),
  (53, .invokevirtual 150, 3, 31, 44, 0, 544),
  (56, .aload_n 0, 1, 32, 0, 0, 99999),
  (57, .getfield 35, 3, 33, 5, 3, 266),
  (60, .iload_n 2, 1, 34, 0, 0, 99999),
  (61, .invokevirtual 153, 3, 35, 42, 0, 557),
  (64, .ireturn, 1, 36, 0, 0, 99999)]
def M_F_lack : Mth := (⟨"FloorPlans", "lack", "(III)I"⟩, prog_1_method_20_code, 4, (some FieldType.int), T_M_F_lack, [543, 43, 541, 542, 99999])
def T_M_C_spread : List Ent := [(0, .aload_n 0, 1, 1, 0, 0, 99999),
  (1, .getfield 9, 3, 2, 0, 1, 229),
  (4, .lconst 0, 1, 3, 0, 0, 99999),
  (5, .invokestatic 38, 3, 4, 149, 0, 548),
  (8, .aload_n 0, 1, 5, 0, 0, 99999),
  (9, .getfield 9, 3, 6, 0, 1, 229),
  (12, .iconst 0, 1, 7, 0, 0, 99999),
  (13, .ldc2_w 44, 3, 8, 1073741824, 0, 551),
  (16, .lastore, 1, 9, 0, 0, 99999),
  (17, .iconst 0, 1, 10, 0, 0, 99999),
  (18, .istore_n 3, 1, 11, 0, 0, 99999),
  (19, .iload_n 3, 1, 12, 0, 0, 99999),
  (20, .aload_n 0, 1, 13, 0, 0, 99999),
  (21, .getfield 15, 3, 14, 0, 0, 228),
  (24, .getfield 19, 3, 15, 1, 1, 84),
  (27, .iload_n 1, 1, 16, 0, 0, 99999),
  (28, .aaload, 1, 17, 0, 0, 99999),
  (29, .bipush 7, 2, 18, 0, 0, 99999),
  (31, .iaload, 1, 19, 0, 0, 99999),
  (32, .if_icmp .ge 42, 3, 20, 41, 0, 99999),
  (35, .aload_n 0, 1, 21, 0, 0, 99999),
  (36, .getfield 15, 3, 22, 0, 0, 228),
  (39, .getfield 25, 3, 23, 1, 5, 92),
  (42, .iload_n 1, 1, 24, 0, 0, 99999),
  (43, .aaload, 1, 25, 0, 0, 99999),
  (44, .iload_n 3, 1, 26, 0, 0, 99999),
  (45, .iaload, 1, 27, 0, 0, 99999),
  (46, .iload_n 2, 1, 28, 0, 0, 99999),
  (47, .invokestatic 28, 3, 29, 13, 1, 536),
  (50, .ifCond .ne 18, 3, 30, 39, 0, 99999),
  (53, .aload_n 0, 1, 31, 0, 0, 99999),
  (54, .aload_n 0, 1, 32, 0, 0, 99999),
  (55, .getfield 15, 3, 33, 0, 0, 228),
  (58, .getfield 46, 3, 34, 1, 6, 95),
  (61, .iload_n 1, 1, 35, 0, 0, 99999),
  (62, .aaload, 1, 36, 0, 0, 99999),
  (63, .iload_n 3, 1, 37, 0, 0, 99999),
  (64, .iaload, 1, 38, 0, 0, 99999),
  (65, .invokevirtual 49, 3, 39, 39, 0, 552),
  (68, .iinc 3 1, 3, 40, 0, 0, 99999),
  (71, .goto (-52), 3, 41, 11, 0, 99999),
  (74, .return_, 1, 42, 0, 0, 99999)]
def M_C_spread : Mth := (⟨"FloorPlans$Chances", "spread", "(II)V"⟩, prog_2_method_3_code, 4, (Option.none : Option FieldType), T_M_C_spread, [547, 49, 545, 546, 99999])
def T_J_fillL : List Ent := [(0, .iconst 0, 1, 1, 0, 0, 99999),
  (1, .istore_n 3, 1, 2, 0, 0, 99999),
  (2, .aload_n 0, 1, 3, 0, 0, 99999),
  (3, .arraylength, 1, 4, 0, 0, 99999),
  (4, .istore 4, 2, 5, 0, 0, 99999),
  (6, .iload_n 3, 1, 6, 0, 0, 99999),
  (7, .iload 4, 2, 7, 0, 0, 99999),
  (9, .if_icmp .ge 13, 3, 8, 14, 0, 99999),
  (12, .aload_n 0, 1, 9, 0, 0, 99999),
  (13, .iload_n 3, 1, 10, 0, 0, 99999),
  (14, .lload_n 1, 1, 11, 0, 0, 99999),
  (15, .lastore, 1, 12, 0, 0, 99999),
  (16, .iinc 3 1, 3, 13, 0, 0, 99999),
  (19, .goto (-13), 3, 14, 5, 0, 99999),
  (22, .return_, 1, 15, 0, 0, 99999)]
def J_fillL : Mth := (⟨"java/util/Arrays", "fill", "([JJ)V"⟩, prog_12_method_101_code, 5, (Option.none : Option FieldType), T_J_fillL, [550, 46, 99999, 99999, 549])
def T_M_C_addPerson : List Ent := [(0, .bipush 20, 2, 1, 0, 0, 99999),
  (2, .istore_n 2, 1, 2, 0, 0, 99999),
  (3, .iload_n 2, 1, 3, 0, 0, 99999),
  (4, .ifCond .lt 53, 3, 4, 37, 0, 99999),
  (7, .iload_n 2, 1, 5, 0, 0, 99999),
  (8, .ifCond .le 17, 3, 6, 16, 0, 99999),
  (11, .aload_n 0, 1, 7, 0, 0, 99999),
  (12, .getfield 9, 3, 8, 0, 1, 229),
  (15, .iload_n 2, 1, 9, 0, 0, 99999),
  (16, .iconst 1, 1, 10, 0, 0, 99999),
  (17, .isub, 1, 11, 0, 0, 99999),
  (18, .laload, 1, 12, 0, 0, 99999),
  (19, .iload_n 1, 1, 13, 0, 0, 99999),
  (20, .i2l, 1, 14, 0, 0, 99999),
  (21, .lmul, 1, 15, 0, 0, 99999),
  (22, .goto 4, 3, 16, 17, 0, 99999),
  (25, .lconst 0, 1, 17, 0, 0, 99999),
  (26, .lstore_n 3, 1, 18, 0, 0, 99999),
  (27, .aload_n 0, 1, 19, 0, 0, 99999),
  (28, .getfield 9, 3, 20, 0, 1, 229),
  (31, .iload_n 2, 1, 21, 0, 0, 99999),
  (32, .aload_n 0, 1, 22, 0, 0, 99999),
  (33, .getfield 9, 3, 23, 0, 1, 229),
  (36, .iload_n 2, 1, 24, 0, 0, 99999),
  (37, .laload, 1, 25, 0, 0, 99999),
  (38, .bipush 64, 2, 26, 0, 0, 99999),
  (40, .iload_n 1, 1, 27, 0, 0, 99999),
  (41, .isub, 1, 28, 0, 0, 99999),
  (42, .i2l, 1, 29, 0, 0, 99999),
  (43, .lmul, 1, 30, 0, 0, 99999),
  (44, .lload_n 3, 1, 31, 0, 0, 99999),
  (45, .ladd, 1, 32, 0, 0, 99999),
  (46, .ldc2_w 53, 3, 33, 64, 0, 556),
  (49, .ldiv, 1, 34, 0, 0, 99999),
  (50, .lastore, 1, 35, 0, 0, 99999),
  (51, .iinc 2 (-1), 3, 36, 0, 0, 99999),
  (54, .goto (-51), 3, 37, 2, 0, 99999),
  (57, .return_, 1, 38, 0, 0, 99999)]
def M_C_addPerson : Mth := (⟨"FloorPlans$Chances", "addPerson", "(I)V"⟩, prog_2_method_4_code, 5, (Option.none : Option FieldType), T_M_C_addPerson, [555, 49, 554, 15, 99999])
def T_M_C_moreThan : List Ent := [(0, .lconst 0, 1, 1, 0, 0, 99999),
  (1, .lstore_n 2, 1, 2, 0, 0, 99999),
  (2, .iload_n 1, 1, 3, 0, 0, 99999),
  (3, .iconst 1, 1, 4, 0, 0, 99999),
  (4, .iadd, 1, 5, 0, 0, 99999),
  (5, .istore 4, 2, 6, 0, 0, 99999),
  (7, .iload 4, 2, 7, 0, 0, 99999),
  (9, .bipush 20, 2, 8, 0, 0, 99999),
  (11, .if_icmp .gt 19, 3, 9, 18, 0, 99999),
  (14, .lload_n 2, 1, 10, 0, 0, 99999),
  (15, .aload_n 0, 1, 11, 0, 0, 99999),
  (16, .getfield 9, 3, 12, 0, 1, 229),
  (19, .iload 4, 2, 13, 0, 0, 99999),
  (21, .laload, 1, 14, 0, 0, 99999),
  (22, .ladd, 1, 15, 0, 0, 99999),
  (23, .lstore_n 2, 1, 16, 0, 0, 99999),
  (24, .iinc 4 1, 3, 17, 0, 0, 99999),
  (27, .goto (-20), 3, 18, 6, 0, 99999),
  (30, .lload_n 2, 1, 19, 0, 0, 99999),
  (31, .l2i, 1, 20, 0, 0, 99999),
  (32, .ireturn, 1, 21, 0, 0, 99999)]
def M_C_moreThan : Mth := (⟨"FloorPlans$Chances", "moreThan", "(I)I"⟩, prog_2_method_5_code, 5, (some FieldType.int), T_M_C_moreThan, [560, 49, 558, 559, 99999])
def T_M_F_least : List Ent := [(0, .aload_n 0, 1, 1, 0, 0, 99999),
  (1, .iload_n 1, 1, 2, 0, 0, 99999),
  (2, .invokevirtual 76, 3, 3, 22, 0, 305),
  (5, .ifCond .eq 9, 3, 4, 8, 0, 99999),
  (8, .aload_n 0, 1, 5, 0, 0, 99999),
  (9, .iconst (-1), 1, 6, 0, 0, 99999),
  (10, .invokevirtual 54, 3, 7, 24, 0, 289),
  (13, .ireturn, 1, 8, 0, 0, 99999),
  (14, .iload_n 2, 1, 9, 0, 0, 99999),
  (15, .ifCond .ge 10, 3, 10, 14, 0, 99999),
  (18, .aload_n 0, 1, 11, 0, 0, 99999),
  (19, .bipush (-4), 2, 12, 0, 0, 99999),
  (21, .invokevirtual 54, 3, 13, 24, 0, 289),
  (24, .ireturn, 1, 14, 0, 0, 99999),
  (25, .iload_n 2, 1, 15, 0, 0, 99999),
  (26, .sipush 1000, 3, 16, 0, 0, 99999),
  (29, .if_icmp .le 10, 3, 17, 21, 0, 99999),
  (32, .aload_n 0, 1, 18, 0, 0, 99999),
  (33, .bipush (-6), 2, 19, 0, 0, 99999),
  (35, .invokevirtual 54, 3, 20, 24, 0, 289),
  (38, .ireturn, 1, 21, 0, 0, 99999),
  (39, .aload_n 0, 1, 22, 0, 0, 99999),
  (40, .getfield 35, 3, 23, 5, 3, 266),
  (43, .iload_n 1, 1, 24, 0, 0, 99999),
  (44, .iload_n 2, 1, 25, 0, 0, 99999),
  (45, .invokevirtual 156, 3, 26, 40, 0, 565),
  (48, .ireturn, 1, 27, 0, 0, 99999)]
def M_F_least : Mth := (⟨"FloorPlans", "least", "(II)I"⟩, prog_1_method_21_code, 3, (some FieldType.int), T_M_F_least, [564, 43, 562, 563, 99999])
def T_M_C_leastDesks : List Ent := [(0, .iconst 0, 1, 1, 0, 0, 99999),
  (1, .istore_n 3, 1, 2, 0, 0, 99999),
  (2, .iconst 0, 1, 3, 0, 0, 99999),
  (3, .istore 4, 2, 4, 0, 0, 99999),
  (5, .iload 4, 2, 5, 0, 0, 99999),
  (7, .iconst 5, 1, 6, 0, 0, 99999),
  (8, .if_icmp .ge 26, 3, 7, 19, 0, 99999),
  (11, .aload_n 0, 1, 8, 0, 0, 99999),
  (12, .iload_n 1, 1, 9, 0, 0, 99999),
  (13, .iload 4, 2, 10, 0, 0, 99999),
  (15, .invokevirtual 55, 3, 11, 44, 0, 569),
  (18, .iload_n 3, 1, 12, 0, 0, 99999),
  (19, .aload_n 0, 1, 13, 0, 0, 99999),
  (20, .iload_n 2, 1, 14, 0, 0, 99999),
  (21, .invokevirtual 59, 3, 15, 41, 0, 570),
  (24, .invokestatic 32, 3, 16, 144, 0, 537),
  (27, .istore_n 3, 1, 17, 0, 0, 99999),
  (28, .iinc 4 1, 3, 18, 0, 0, 99999),
  (31, .goto (-26), 3, 19, 4, 0, 99999),
  (34, .iload_n 3, 1, 20, 0, 0, 99999),
  (35, .ireturn, 1, 21, 0, 0, 99999)]
def M_C_leastDesks : Mth := (⟨"FloorPlans$Chances", "leastDesks", "(II)I"⟩, prog_2_method_6_code, 5, (some FieldType.int), T_M_C_leastDesks, [568, 49, 566, 567, 99999])
def T_M_C_leastOfSpread : List Ent := [(0, .iconst 0, 1, 1, 0, 0, 99999),
  (1, .istore_n 2, 1, 2, 0, 0, 99999),
  (2, .iload_n 2, 1, 3, 0, 0, 99999),
  (3, .bipush 20, 2, 4, 0, 0, 99999),
  (5, .if_icmp .ge 29, 3, 5, 19, 0, 99999),
  (8, .aload_n 0, 1, 6, 0, 0, 99999),
  (9, .iload_n 2, 1, 7, 0, 0, 99999),
  (10, .invokevirtual 63, 3, 8, 42, 0, 574),
  (13, .i2l, 1, 9, 0, 0, 99999),
  (14, .ldc2_w 66, 3, 10, 1000, 0, 575),
  (17, .lmul, 1, 11, 0, 0, 99999),
  (18, .iload_n 1, 1, 12, 0, 0, 99999),
  (19, .i2l, 1, 13, 0, 0, 99999),
  (20, .ldc2_w 44, 3, 14, 1073741824, 0, 551),
  (23, .lmul, 1, 15, 0, 0, 99999),
  (24, .lcmp, 1, 16, 0, 0, 99999),
  (25, .ifCond .le 9, 3, 17, 19, 0, 99999),
  (28, .iinc 2 1, 3, 18, 0, 0, 99999),
  (31, .goto (-29), 3, 19, 2, 0, 99999),
  (34, .iload_n 2, 1, 20, 0, 0, 99999),
  (35, .ireturn, 1, 21, 0, 0, 99999)]
def M_C_leastOfSpread : Mth := (⟨"FloorPlans$Chances", "leastOfSpread", "(I)I"⟩, prog_2_method_7_code, 3, (some FieldType.int), T_M_C_leastOfSpread, [573, 49, 572, 16, 99999])
def T_M_F_grow : List Ent := [(0, .aload_n 0, 1, 1, 0, 0, 99999),
  (1, .iload_n 1, 1, 2, 0, 0, 99999),
  (2, .invokevirtual 76, 3, 3, 22, 0, 305),
  (5, .ifCond .ne 10, 3, 4, 7, 0, 99999),
  (8, .iload_n 2, 1, 5, 0, 0, 99999),
  (9, .invokestatic 160, 3, 6, 21, 0, 580),
  (12, .ifCond .eq 9, 3, 7, 11, 0, 99999),
  (15, .aload_n 0, 1, 8, 0, 0, 99999),
  (16, .iconst (-1), 1, 9, 0, 0, 99999),
  (17, .invokevirtual 54, 3, 10, 24, 0, 289),
  (20, .ireturn, 1, 11, 0, 0, 99999),
  (21, .iload_n 3, 1, 12, 0, 0, 99999),
  (22, .iconst (-1), 1, 13, 0, 0, 99999),
  (23, .if_icmp .ge 10, 3, 14, 18, 0, 99999),
  (26, .aload_n 0, 1, 15, 0, 0, 99999),
  (27, .bipush (-4), 2, 16, 0, 0, 99999),
  (29, .invokevirtual 54, 3, 17, 24, 0, 289),
  (32, .ireturn, 1, 18, 0, 0, 99999),
  (33, .iload_n 3, 1, 19, 0, 0, 99999),
  (34, .sipush 200, 3, 20, 0, 0, 99999),
  (37, .if_icmp .le 10, 3, 21, 25, 0, 99999),
  (40, .aload_n 0, 1, 22, 0, 0, 99999),
  (41, .bipush (-6), 2, 23, 0, 0, 99999),
  (43, .invokevirtual 54, 3, 24, 24, 0, 289),
  (46, .ireturn, 1, 25, 0, 0, 99999),
  (47, .aload_n 0, 1, 26, 0, 0, 99999),
  (48, .getfield 12, 3, 27, 5, 0, 263),
  (51, .getfield 163, 3, 28, 1, 7, 98),
  (54, .iload_n 1, 1, 29, 0, 0, 99999),
  (55, .aaload, 1, 30, 0, 0, 99999),
  (56, .iload_n 2, 1, 31, 0, 0, 99999),
  (57, .iload_n 3, 1, 32, 0, 0, 99999),
  (58, .iastore, 1, 33, 0, 0, 99999),
  (59, .iconst 1, 1, 34, 0, 0, 99999),
  (60, .ireturn, 1, 35, 0, 0, 99999)]
def M_F_grow : Mth := (⟨"FloorPlans", "grow", "(III)I"⟩, prog_1_method_22_code, 4, (some FieldType.int), T_M_F_grow, [579, 43, 577, 578, 99999])
def T_M_F_noQuarter : List Ent := [(0, .iload_n 0, 1, 1, 0, 0, 99999),
  (1, .ifCond .lt 9, 3, 2, 5, 0, 99999),
  (4, .iload_n 0, 1, 3, 0, 0, 99999),
  (5, .bipush 20, 2, 4, 0, 0, 99999),
  (7, .if_icmp .lt 7, 3, 5, 7, 0, 99999),
  (10, .iconst 1, 1, 6, 0, 0, 99999),
  (11, .goto 4, 3, 7, 8, 0, 99999),
  (14, .iconst 0, 1, 8, 0, 0, 99999),
  (15, .ireturn, 1, 9, 0, 0, 99999)]
def M_F_noQuarter : Mth := (⟨"FloorPlans", "noQuarter", "(I)Z"⟩, prog_1_method_33_code, 1, (some FieldType.boolean), T_M_F_noQuarter, [582, 43, 99999, 99999, 581])
def T_M_F_sizeIn : List Ent := [(0, .aload_n 0, 1, 1, 0, 0, 99999),
  (1, .iload_n 1, 1, 2, 0, 0, 99999),
  (2, .invokevirtual 76, 3, 3, 22, 0, 305),
  (5, .ifCond .ne 10, 3, 4, 7, 0, 99999),
  (8, .iload_n 2, 1, 5, 0, 0, 99999),
  (9, .invokestatic 160, 3, 6, 21, 0, 580),
  (12, .ifCond .eq 9, 3, 7, 11, 0, 99999),
  (15, .aload_n 0, 1, 8, 0, 0, 99999),
  (16, .iconst (-1), 1, 9, 0, 0, 99999),
  (17, .invokevirtual 54, 3, 10, 24, 0, 289),
  (20, .ireturn, 1, 11, 0, 0, 99999),
  (21, .aload_n 0, 1, 12, 0, 0, 99999),
  (22, .getfield 12, 3, 13, 5, 0, 263),
  (25, .iload_n 1, 1, 14, 0, 0, 99999),
  (26, .iload_n 2, 1, 15, 0, 0, 99999),
  (27, .invokevirtual 166, 3, 16, 50, 0, 587),
  (30, .ireturn, 1, 17, 0, 0, 99999)]
def M_F_sizeIn : Mth := (⟨"FloorPlans", "sizeIn", "(II)I"⟩, prog_1_method_23_code, 3, (some FieldType.int), T_M_F_sizeIn, [586, 43, 584, 585, 99999])
def T_M_H_foretold : List Ent := [(0, .iload_n 2, 1, 1, 0, 0, 99999),
  (1, .istore_n 3, 1, 2, 0, 0, 99999),
  (2, .iload_n 3, 1, 3, 0, 0, 99999),
  (3, .ifCond .lt 30, 3, 4, 21, 0, 99999),
  (6, .aload_n 0, 1, 5, 0, 0, 99999),
  (7, .getfield 38, 3, 6, 1, 7, 97),
  (10, .iload_n 1, 1, 7, 0, 0, 99999),
  (11, .aaload, 1, 8, 0, 0, 99999),
  (12, .iload_n 3, 1, 9, 0, 0, 99999),
  (13, .iaload, 1, 10, 0, 0, 99999),
  (14, .iconst (-1), 1, 11, 0, 0, 99999),
  (15, .if_icmp .eq 12, 3, 12, 19, 0, 99999),
  (18, .aload_n 0, 1, 13, 0, 0, 99999),
  (19, .getfield 38, 3, 14, 1, 7, 97),
  (22, .iload_n 1, 1, 15, 0, 0, 99999),
  (23, .aaload, 1, 16, 0, 0, 99999),
  (24, .iload_n 3, 1, 17, 0, 0, 99999),
  (25, .iaload, 1, 18, 0, 0, 99999),
  (26, .ireturn, 1, 19, 0, 0, 99999),
  (27, .iinc 3 (-1), 3, 20, 0, 0, 99999),
  (30, .goto (-28), 3, 21, 2, 0, 99999),
  (33, .aload_n 0, 1, 22, 0, 0, 99999),
  (34, .getfield 20, 3, 23, 1, 1, 83),
  (37, .iload_n 1, 1, 24, 0, 0, 99999),
  (38, .aaload, 1, 25, 0, 0, 99999),
  (39, .iconst 0, 1, 26, 0, 0, 99999),
  (40, .iaload, 1, 27, 0, 0, 99999),
  (41, .ireturn, 1, 28, 0, 0, 99999)]
def M_H_foretold : Mth := (⟨"FloorPlans$House", "foretold", "(II)I"⟩, prog_3_method_19_code, 4, (some FieldType.int), T_M_H_foretold, [590, 44, 588, 589, 99999])
def T_M_F_kept : List Ent := [(0, .iload_n 1, 1, 1, 0, 0, 99999),
  (1, .invokestatic 160, 3, 2, 21, 0, 580),
  (4, .ifCond .eq 9, 3, 3, 7, 0, 99999),
  (7, .aload_n 0, 1, 4, 0, 0, 99999),
  (8, .iconst (-1), 1, 5, 0, 0, 99999),
  (9, .invokevirtual 54, 3, 6, 24, 0, 289),
  (12, .ireturn, 1, 7, 0, 0, 99999),
  (13, .iload_n 2, 1, 8, 0, 0, 99999),
  (14, .ifCond .lt 8, 3, 9, 12, 0, 99999),
  (17, .iload_n 2, 1, 10, 0, 0, 99999),
  (18, .iconst 1, 1, 11, 0, 0, 99999),
  (19, .if_icmp .le 10, 3, 12, 16, 0, 99999),
  (22, .aload_n 0, 1, 13, 0, 0, 99999),
  (23, .bipush (-2), 2, 14, 0, 0, 99999),
  (25, .invokevirtual 54, 3, 15, 24, 0, 289),
  (28, .ireturn, 1, 16, 0, 0, 99999),
  (29, .aload_n 0, 1, 17, 0, 0, 99999),
  (30, .getfield 42, 3, 18, 5, 4, 267),
  (33, .iload_n 1, 1, 19, 0, 0, 99999),
  (34, .invokevirtual 169, 3, 20, 72, 0, 595),
  (37, .iload_n 2, 1, 21, 0, 0, 99999),
  (38, .ifCond .ne 13, 3, 22, 26, 0, 99999),
  (41, .aload_n 0, 1, 23, 0, 0, 99999),
  (42, .getfield 42, 3, 24, 5, 4, 267),
  (45, .getfield 171, 3, 25, 2, 4, 247),
  (48, .goto 10, 3, 26, 29, 0, 99999),
  (51, .aload_n 0, 1, 27, 0, 0, 99999),
  (52, .getfield 42, 3, 28, 5, 4, 267),
  (55, .getfield 174, 3, 29, 2, 5, 249),
  (58, .ireturn, 1, 30, 0, 0, 99999)]
def M_F_kept : Mth := (⟨"FloorPlans", "kept", "(II)I"⟩, prog_1_method_24_code, 3, (some FieldType.int), T_M_F_kept, [594, 43, 592, 593, 99999])
def T_M_L_search : List Ent := [(0, .aload_n 0, 1, 1, 0, 0, 99999),
  (1, .bipush (-9), 2, 2, 0, 0, 99999),
  (3, .putfield 22, 3, 3, 2, 4, 246),
  (6, .aload_n 0, 1, 4, 0, 0, 99999),
  (7, .bipush (-9), 2, 5, 0, 0, 99999),
  (9, .putfield 25, 3, 6, 2, 5, 248),
  (12, .aload_n 0, 1, 7, 0, 0, 99999),
  (13, .aload_n 0, 1, 8, 0, 0, 99999),
  (14, .iload_n 1, 1, 9, 0, 0, 99999),
  (15, .invokevirtual 32, 3, 10, 73, 0, 599),
  (18, .putfield 19, 3, 11, 2, 3, 245),
  (21, .aload_n 0, 1, 12, 0, 0, 99999),
  (22, .aload_n 0, 1, 13, 0, 0, 99999),
  (23, .iload_n 1, 1, 14, 0, 0, 99999),
  (24, .invokevirtual 36, 3, 15, 69, 0, 604),
  (27, .putfield 15, 3, 16, 2, 2, 244),
  (30, .bipush 10, 2, 17, 0, 0, 99999),
  (32, .istore_n 2, 1, 18, 0, 0, 99999),
  (33, .iload_n 2, 1, 19, 0, 0, 99999),
  (34, .ifCond .lt 50, 3, 20, 47, 0, 99999),
  (37, .aload_n 0, 1, 21, 0, 0, 99999),
  (38, .getfield 9, 3, 22, 2, 1, 243),
  (41, .iload_n 2, 1, 23, 0, 0, 99999),
  (42, .aload_n 0, 1, 24, 0, 0, 99999),
  (43, .getfield 9, 3, 25, 2, 1, 243),
  (46, .iload_n 2, 1, 26, 0, 0, 99999),
  (47, .iconst 1, 1, 27, 0, 0, 99999),
  (48, .iadd, 1, 28, 0, 0, 99999),
  (49, .iaload, 1, 29, 0, 0, 99999),
  (50, .aload_n 0, 1, 30, 0, 0, 99999),
  (51, .getfield 15, 3, 31, 2, 2, 244),
  (54, .iload_n 2, 1, 32, 0, 0, 99999),
  (55, .invokestatic 39, 3, 33, 13, 1, 608),
  (58, .ifCond .eq 17, 3, 34, 42, 0, 99999),
  (61, .aload_n 0, 1, 35, 0, 0, 99999),
  (62, .getfield 28, 3, 36, 2, 0, 242),
  (65, .getfield 43, 3, 37, 1, 0, 82),
  (68, .iload_n 2, 1, 38, 0, 0, 99999),
  (69, .aaload, 1, 39, 0, 0, 99999),
  (70, .iconst 0, 1, 40, 0, 0, 99999),
  (71, .iaload, 1, 41, 0, 0, 99999),
  (72, .goto 4, 3, 42, 43, 0, 99999),
  (75, .iconst 0, 1, 43, 0, 0, 99999),
  (76, .iadd, 1, 44, 0, 0, 99999),
  (77, .iastore, 1, 45, 0, 0, 99999),
  (78, .iinc 2 (-1), 3, 46, 0, 0, 99999),
  (81, .goto (-48), 3, 47, 18, 0, 99999),
  (84, .aload_n 0, 1, 48, 0, 0, 99999),
  (85, .iconst 0, 1, 49, 0, 0, 99999),
  (86, .iconst 0, 1, 50, 0, 0, 99999),
  (87, .iconst 0, 1, 51, 0, 0, 99999),
  (88, .iconst 0, 1, 52, 0, 0, 99999),
  (89, .invokevirtual 49, 3, 53, 68, 0, 609),
  (92, .return_, 1, 54, 0, 0, 99999)]
def M_L_search : Mth := (⟨"FloorPlans$Leases", "search", "(I)V"⟩, prog_4_method_2_code, 3, (Option.none : Option FieldType), T_M_L_search, [598, 50, 596, 597, 99999])
def T_M_L_seatsNeeded : List Ent := [(0, .iconst 0, 1, 1, 0, 0, 99999),
  (1, .istore_n 2, 1, 2, 0, 0, 99999),
  (2, .iconst 0, 1, 3, 0, 0, 99999),
  (3, .istore_n 3, 1, 4, 0, 0, 99999),
  (4, .iload_n 3, 1, 5, 0, 0, 99999),
  (5, .aload_n 0, 1, 6, 0, 0, 99999),
  (6, .getfield 28, 3, 7, 2, 0, 242),
  (9, .getfield 53, 3, 8, 1, 8, 100),
  (12, .if_icmp .ge 21, 3, 9, 19, 0, 99999),
  (15, .iload_n 2, 1, 10, 0, 0, 99999),
  (16, .aload_n 0, 1, 11, 0, 0, 99999),
  (17, .getfield 28, 3, 12, 2, 0, 242),
  (20, .iload_n 3, 1, 13, 0, 0, 99999),
  (21, .iload_n 1, 1, 14, 0, 0, 99999),
  (22, .invokevirtual 56, 3, 15, 50, 0, 603),
  (25, .iadd, 1, 16, 0, 0, 99999),
  (26, .istore_n 2, 1, 17, 0, 0, 99999),
  (27, .iinc 3 1, 3, 18, 0, 0, 99999),
  (30, .goto (-26), 3, 19, 4, 0, 99999),
  (33, .iload_n 2, 1, 20, 0, 0, 99999),
  (34, .ireturn, 1, 21, 0, 0, 99999)]
def M_L_seatsNeeded : Mth := (⟨"FloorPlans$Leases", "seatsNeeded", "(I)I"⟩, prog_4_method_3_code, 4, (some FieldType.int), T_M_L_seatsNeeded, [602, 50, 601, 17, 99999])
def T_M_L_heldFloors : List Ent := [(0, .iconst 0, 1, 1, 0, 0, 99999),
  (1, .istore_n 2, 1, 2, 0, 0, 99999),
  (2, .iconst 0, 1, 3, 0, 0, 99999),
  (3, .istore_n 3, 1, 4, 0, 0, 99999),
  (4, .iload_n 3, 1, 5, 0, 0, 99999),
  (5, .bipush 11, 2, 6, 0, 0, 99999),
  (7, .if_icmp .ge 34, 3, 7, 26, 0, 99999),
  (10, .iload_n 2, 1, 8, 0, 0, 99999),
  (11, .aload_n 0, 1, 9, 0, 0, 99999),
  (12, .getfield 28, 3, 10, 2, 0, 242),
  (15, .getfield 43, 3, 11, 1, 0, 82),
  (18, .iload_n 3, 1, 12, 0, 0, 99999),
  (19, .aaload, 1, 13, 0, 0, 99999),
  (20, .iconst 3, 1, 14, 0, 0, 99999),
  (21, .iaload, 1, 15, 0, 0, 99999),
  (22, .iload_n 1, 1, 16, 0, 0, 99999),
  (23, .if_icmp .lt 9, 3, 17, 21, 0, 99999),
  (26, .iconst 1, 1, 18, 0, 0, 99999),
  (27, .iload_n 3, 1, 19, 0, 0, 99999),
  (28, .ishl, 1, 20, 0, 0, 99999),
  (29, .goto 4, 3, 21, 22, 0, 99999),
  (32, .iconst 0, 1, 22, 0, 0, 99999),
  (33, .ior, 1, 23, 0, 0, 99999),
  (34, .istore_n 2, 1, 24, 0, 0, 99999),
  (35, .iinc 3 1, 3, 25, 0, 0, 99999),
  (38, .goto (-34), 3, 26, 4, 0, 99999),
  (41, .iload_n 2, 1, 27, 0, 0, 99999),
  (42, .ireturn, 1, 28, 0, 0, 99999)]
def M_L_heldFloors : Mth := (⟨"FloorPlans$Leases", "heldFloors", "(I)I"⟩, prog_4_method_4_code, 4, (some FieldType.int), T_M_L_heldFloors, [607, 50, 606, 18, 99999])
def T_M_L_addFrom : List Ent := [(0, .iload_n 3, 1, 1, 0, 0, 99999),
  (1, .aload_n 0, 1, 2, 0, 0, 99999),
  (2, .getfield 19, 3, 3, 2, 3, 245),
  (5, .if_icmp .lt 11, 3, 4, 9, 0, 99999),
  (8, .aload_n 0, 1, 5, 0, 0, 99999),
  (9, .iload_n 2, 1, 6, 0, 0, 99999),
  (10, .iload 4, 2, 7, 0, 0, 99999),
  (12, .invokevirtual 60, 3, 8, 71, 0, 613),
  (15, .return_, 1, 9, 0, 0, 99999),
  (16, .aload_n 0, 1, 10, 0, 0, 99999),
  (17, .getfield 22, 3, 11, 2, 4, 246),
  (20, .bipush (-9), 2, 12, 0, 0, 99999),
  (22, .if_icmp .eq 16, 3, 13, 19, 0, 99999),
  (25, .iload 4, 2, 14, 0, 0, 99999),
  (27, .aload_n 0, 1, 15, 0, 0, 99999),
  (28, .getfield 25, 3, 16, 2, 5, 248),
  (31, .if_icmp .le 7, 3, 17, 19, 0, 99999),
  (34, .iconst 1, 1, 18, 0, 0, 99999),
  (35, .goto 4, 3, 19, 20, 0, 99999),
  (38, .iconst 0, 1, 20, 0, 0, 99999),
  (39, .istore 5, 2, 21, 0, 0, 99999),
  (41, .iload_n 1, 1, 22, 0, 0, 99999),
  (42, .bipush 11, 2, 23, 0, 0, 99999),
  (44, .if_icmp .ge 23, 3, 24, 35, 0, 99999),
  (47, .iload 5, 2, 25, 0, 0, 99999),
  (49, .ifCond .ne 18, 3, 26, 35, 0, 99999),
  (52, .iload_n 3, 1, 27, 0, 0, 99999),
  (53, .aload_n 0, 1, 28, 0, 0, 99999),
  (54, .getfield 9, 3, 29, 2, 1, 243),
  (57, .iload_n 1, 1, 30, 0, 0, 99999),
  (58, .iaload, 1, 31, 0, 0, 99999),
  (59, .iadd, 1, 32, 0, 0, 99999),
  (60, .aload_n 0, 1, 33, 0, 0, 99999),
  (61, .getfield 19, 3, 34, 2, 3, 245),
  (64, .if_icmp .ge 4, 3, 35, 36, 0, 99999),
  (67, .return_, 1, 36, 0, 0, 99999),
  (68, .aload_n 0, 1, 37, 0, 0, 99999),
  (69, .getfield 15, 3, 38, 2, 2, 244),
  (72, .iload_n 1, 1, 39, 0, 0, 99999),
  (73, .invokestatic 39, 3, 40, 13, 1, 608),
  (76, .ifCond .eq 44, 3, 41, 71, 0, 99999),
  (79, .aload_n 0, 1, 42, 0, 0, 99999),
  (80, .getfield 28, 3, 43, 2, 0, 242),
  (83, .getfield 43, 3, 44, 1, 0, 82),
  (86, .iload_n 1, 1, 45, 0, 0, 99999),
  (87, .aaload, 1, 46, 0, 0, 99999),
  (88, .astore 6, 2, 47, 0, 0, 99999),
  (90, .aload_n 0, 1, 48, 0, 0, 99999),
  (91, .iload_n 1, 1, 49, 0, 0, 99999),
  (92, .iconst 1, 1, 50, 0, 0, 99999),
  (93, .iadd, 1, 51, 0, 0, 99999),
  (94, .iload_n 2, 1, 52, 0, 0, 99999),
  (95, .iconst 1, 1, 53, 0, 0, 99999),
  (96, .iload_n 1, 1, 54, 0, 0, 99999),
  (97, .ishl, 1, 55, 0, 0, 99999),
  (98, .ior, 1, 56, 0, 0, 99999),
  (99, .iload_n 3, 1, 57, 0, 0, 99999),
  (100, .aload 6, 2, 58, 0, 0, 99999),
  (102, .iconst 0, 1, 59, 0, 0, 99999),
  (103, .iaload, 1, 60, 0, 0, 99999),
  (104, .iadd, 1, 61, 0, 0, 99999),
  (105, .iload 4, 2, 62, 0, 0, 99999),
  (107, .aload 6, 2, 63, 0, 0, 99999),
  (109, .iconst 0, 1, 64, 0, 0, 99999),
  (110, .iaload, 1, 65, 0, 0, 99999),
  (111, .aload 6, 2, 66, 0, 0, 99999),
  (113, .iconst 2, 1, 67, 0, 0, 99999),
  (114, .iaload, 1, 68, 0, 0, 99999),
  (115, .imul, 1, 69, 0, 0, 99999),
  (116, .iadd, 1, 70, 0, 0, 99999),
  (117, .invokevirtual 49, 3, 71, 68, 0, 609),
  (120, .aload_n 0, 1, 72, 0, 0, 99999),
  (121, .iload_n 1, 1, 73, 0, 0, 99999),
  (122, .iconst 1, 1, 74, 0, 0, 99999),
  (123, .iadd, 1, 75, 0, 0, 99999),
  (124, .iload_n 2, 1, 76, 0, 0, 99999),
  (125, .iload_n 3, 1, 77, 0, 0, 99999),
  (126, .iload 4, 2, 78, 0, 0, 99999),
  (128, .invokevirtual 49, 3, 79, 68, 0, 609),
  (131, .return_, 1, 80, 0, 0, 99999)]
def M_L_addFrom : Mth := (⟨"FloorPlans$Leases", "addFrom", "(IIII)V"⟩, prog_4_method_5_code, 7, (Option.none : Option FieldType), T_M_L_addFrom, [612, 50, 611, 19, 99999])
def T_M_L_keepIfBetter : List Ent := [(0, .aload_n 0, 1, 1, 0, 0, 99999),
  (1, .getfield 22, 3, 2, 2, 4, 246),
  (4, .bipush (-9), 2, 3, 0, 0, 99999),
  (6, .if_icmp .eq 27, 3, 4, 16, 0, 99999),
  (9, .iload_n 2, 1, 5, 0, 0, 99999),
  (10, .aload_n 0, 1, 6, 0, 0, 99999),
  (11, .getfield 25, 3, 7, 2, 5, 248),
  (14, .if_icmp .lt 19, 3, 8, 16, 0, 99999),
  (17, .iload_n 2, 1, 9, 0, 0, 99999),
  (18, .aload_n 0, 1, 10, 0, 0, 99999),
  (19, .getfield 25, 3, 11, 2, 5, 248),
  (22, .if_icmp .ne 21, 3, 12, 22, 0, 99999),
  (25, .aload_n 0, 1, 13, 0, 0, 99999),
  (26, .iload_n 1, 1, 14, 0, 0, 99999),
  (27, .invokevirtual 64, 3, 15, 70, 0, 617),
  (30, .ifCond .eq 13, 3, 16, 22, 0, 99999),
  (33, .aload_n 0, 1, 17, 0, 0, 99999),
  (34, .iload_n 1, 1, 18, 0, 0, 99999),
  (35, .putfield 22, 3, 19, 2, 4, 246),
  (38, .aload_n 0, 1, 20, 0, 0, 99999),
  (39, .iload_n 2, 1, 21, 0, 0, 99999),
  (40, .putfield 25, 3, 22, 2, 5, 248),
  (43, .return_, 1, 23, 0, 0, 99999)]
def M_L_keepIfBetter : Mth := (⟨"FloorPlans$Leases", "keepIfBetter", "(II)V"⟩, prog_4_method_6_code, 3, (Option.none : Option FieldType), T_M_L_keepIfBetter, [616, 50, 615, 20, 99999])
def T_M_L_isSmaller : List Ent := [(0, .iload_n 1, 1, 1, 0, 0, 99999),
  (1, .invokestatic 68, 3, 2, 142, 0, 621),
  (4, .aload_n 0, 1, 3, 0, 0, 99999),
  (5, .getfield 22, 3, 4, 2, 4, 246),
  (8, .invokestatic 68, 3, 5, 142, 0, 621),
  (11, .isub, 1, 6, 0, 0, 99999),
  (12, .istore_n 2, 1, 7, 0, 0, 99999),
  (13, .iload_n 2, 1, 8, 0, 0, 99999),
  (14, .ifCond .lt 15, 3, 9, 15, 0, 99999),
  (17, .iload_n 2, 1, 10, 0, 0, 99999),
  (18, .ifCond .ne 15, 3, 11, 17, 0, 99999),
  (21, .iload_n 1, 1, 12, 0, 0, 99999),
  (22, .aload_n 0, 1, 13, 0, 0, 99999),
  (23, .getfield 22, 3, 14, 2, 4, 246),
  (26, .if_icmp .ge 7, 3, 15, 17, 0, 99999),
  (29, .iconst 1, 1, 16, 0, 0, 99999),
  (30, .goto 4, 3, 17, 18, 0, 99999),
  (33, .iconst 0, 1, 18, 0, 0, 99999),
  (34, .ireturn, 1, 19, 0, 0, 99999)]
def M_L_isSmaller : Mth := (⟨"FloorPlans$Leases", "isSmaller", "(I)Z"⟩, prog_4_method_7_code, 3, (some FieldType.boolean), T_M_L_isSmaller, [620, 50, 619, 21, 99999])
def T_M_F_bill : List Ent := [(0, .aload_n 0, 1, 1, 0, 0, 99999),
  (1, .iload_n 1, 1, 2, 0, 0, 99999),
  (2, .invokevirtual 76, 3, 3, 22, 0, 305),
  (5, .ifCond .eq 9, 3, 4, 8, 0, 99999),
  (8, .aload_n 0, 1, 5, 0, 0, 99999),
  (9, .iconst (-1), 1, 6, 0, 0, 99999),
  (10, .invokevirtual 54, 3, 7, 24, 0, 289),
  (13, .ireturn, 1, 8, 0, 0, 99999),
  (14, .aload_n 0, 1, 9, 0, 0, 99999),
  (15, .getfield 12, 3, 10, 5, 0, 263),
  (18, .getfield 73, 3, 11, 1, 1, 85),
  (21, .iload_n 1, 1, 12, 0, 0, 99999),
  (22, .aaload, 1, 13, 0, 0, 99999),
  (23, .iconst 4, 1, 14, 0, 0, 99999),
  (24, .iaload, 1, 15, 0, 0, 99999),
  (25, .bipush (-9), 2, 16, 0, 0, 99999),
  (27, .if_icmp .ne 7, 3, 17, 19, 0, 99999),
  (30, .iconst 0, 1, 18, 0, 0, 99999),
  (31, .goto 11, 3, 19, 23, 0, 99999),
  (34, .aload_n 0, 1, 20, 0, 0, 99999),
  (35, .getfield 12, 3, 21, 5, 0, 263),
  (38, .iload_n 1, 1, 22, 0, 0, 99999),
  (39, .invokevirtual 177, 3, 23, 56, 0, 626),
  (42, .ireturn, 1, 24, 0, 0, 99999)]
def M_F_bill : Mth := (⟨"FloorPlans", "bill", "(I)I"⟩, prog_1_method_25_code, 2, (some FieldType.int), T_M_F_bill, [625, 43, 623, 624, 99999])
def T_M_H_shareOf : List Ent := [(0, .aload_n 0, 1, 1, 0, 0, 99999),
  (1, .getfield 20, 3, 2, 1, 1, 83),
  (4, .iload_n 1, 1, 3, 0, 0, 99999),
  (5, .aaload, 1, 4, 0, 0, 99999),
  (6, .iconst 4, 1, 5, 0, 0, 99999),
  (7, .iaload, 1, 6, 0, 0, 99999),
  (8, .istore_n 2, 1, 7, 0, 0, 99999),
  (9, .aload_n 0, 1, 8, 0, 0, 99999),
  (10, .getfield 15, 3, 9, 1, 0, 80),
  (13, .iload_n 2, 1, 10, 0, 0, 99999),
  (14, .aaload, 1, 11, 0, 0, 99999),
  (15, .iconst 0, 1, 12, 0, 0, 99999),
  (16, .iaload, 1, 13, 0, 0, 99999),
  (17, .aload_n 0, 1, 14, 0, 0, 99999),
  (18, .getfield 15, 3, 15, 1, 0, 80),
  (21, .iload_n 2, 1, 16, 0, 0, 99999),
  (22, .aaload, 1, 17, 0, 0, 99999),
  (23, .iconst 2, 1, 18, 0, 0, 99999),
  (24, .iaload, 1, 19, 0, 0, 99999),
  (25, .imul, 1, 20, 0, 0, 99999),
  (26, .istore_n 3, 1, 21, 0, 0, 99999),
  (27, .aload_n 0, 1, 22, 0, 0, 99999),
  (28, .getfield 15, 3, 23, 1, 0, 80),
  (31, .iload_n 2, 1, 24, 0, 0, 99999),
  (32, .aaload, 1, 25, 0, 0, 99999),
  (33, .iconst 0, 1, 26, 0, 0, 99999),
  (34, .iaload, 1, 27, 0, 0, 99999),
  (35, .aload_n 0, 1, 28, 0, 0, 99999),
  (36, .iload_n 2, 1, 29, 0, 0, 99999),
  (37, .iconst 0, 1, 30, 0, 0, 99999),
  (38, .invokevirtual 77, 3, 31, 51, 0, 335),
  (41, .isub, 1, 32, 0, 0, 99999),
  (42, .istore 4, 2, 33, 0, 0, 99999),
  (44, .iload 4, 2, 34, 0, 0, 99999),
  (46, .iconst 1, 1, 35, 0, 0, 99999),
  (47, .if_icmp .ge 5, 3, 36, 38, 0, 99999),
  (50, .iconst 0, 1, 37, 0, 0, 99999),
  (51, .ireturn, 1, 38, 0, 0, 99999),
  (52, .iload_n 3, 1, 39, 0, 0, 99999),
  (53, .aload_n 0, 1, 40, 0, 0, 99999),
  (54, .getfield 20, 3, 41, 1, 1, 83),
  (57, .iload_n 1, 1, 42, 0, 0, 99999),
  (58, .aaload, 1, 43, 0, 0, 99999),
  (59, .iconst 0, 1, 44, 0, 0, 99999),
  (60, .iaload, 1, 45, 0, 0, 99999),
  (61, .imul, 1, 46, 0, 0, 99999),
  (62, .iload 4, 2, 47, 0, 0, 99999),
  (64, .irem, 1, 48, 0, 0, 99999),
  (65, .istore 5, 2, 49, 0, 0, 99999),
  (67, .iload_n 3, 1, 50, 0, 0, 99999),
  (68, .istore 6, 2, 51, 0, 0, 99999),
  (70, .iconst 0, 1, 52, 0, 0, 99999),
  (71, .istore 7, 2, 53, 0, 0, 99999),
  (73, .iconst 0, 1, 54, 0, 0, 99999),
  (74, .istore 8, 2, 55, 0, 0, 99999),
  (76, .iload 8, 2, 56, 0, 0, 99999),
  (78, .aload_n 0, 1, 57, 0, 0, 99999),
  (79, .getfield 41, 3, 58, 1, 8, 99),
  (82, .if_icmp .ge 87, 3, 59, 108, 0, 99999),
  (85, .aload_n 0, 1, 60, 0, 0, 99999),
  (86, .getfield 20, 3, 61, 1, 1, 83),
  (89, .iload 8, 2, 62, 0, 0, 99999),
  (91, .aaload, 1, 63, 0, 0, 99999),
  (92, .iconst 4, 1, 64, 0, 0, 99999),
  (93, .iaload, 1, 65, 0, 0, 99999),
  (94, .iload_n 2, 1, 66, 0, 0, 99999),
  (95, .if_icmp .ne 68, 3, 67, 106, 0, 99999),
  (98, .iload 6, 2, 68, 0, 0, 99999),
  (100, .iload_n 3, 1, 69, 0, 0, 99999),
  (101, .aload_n 0, 1, 70, 0, 0, 99999),
  (102, .getfield 20, 3, 71, 1, 1, 83),
  (105, .iload 8, 2, 72, 0, 0, 99999),
  (107, .aaload, 1, 73, 0, 0, 99999),
  (108, .iconst 0, 1, 74, 0, 0, 99999),
  (109, .iaload, 1, 75, 0, 0, 99999),
  (110, .imul, 1, 76, 0, 0, 99999),
  (111, .iload 4, 2, 77, 0, 0, 99999),
  (113, .idiv, 1, 78, 0, 0, 99999),
  (114, .isub, 1, 79, 0, 0, 99999),
  (115, .istore 6, 2, 80, 0, 0, 99999),
  (117, .iload_n 3, 1, 81, 0, 0, 99999),
  (118, .aload_n 0, 1, 82, 0, 0, 99999),
  (119, .getfield 20, 3, 83, 1, 1, 83),
  (122, .iload 8, 2, 84, 0, 0, 99999),
  (124, .aaload, 1, 85, 0, 0, 99999),
  (125, .iconst 0, 1, 86, 0, 0, 99999),
  (126, .iaload, 1, 87, 0, 0, 99999),
  (127, .imul, 1, 88, 0, 0, 99999),
  (128, .iload 4, 2, 89, 0, 0, 99999),
  (130, .irem, 1, 90, 0, 0, 99999),
  (131, .istore 9, 2, 91, 0, 0, 99999),
  (133, .iload 7, 2, 92, 0, 0, 99999),
  (135, .iload 9, 2, 93, 0, 0, 99999),
  (137, .iload 5, 2, 94, 0, 0, 99999),
  (139, .if_icmp .gt 16, 3, 95, 101, 0, 99999),
  (142, .iload 9, 2, 96, 0, 0, 99999),
  (144, .iload 5, 2, 97, 0, 0, 99999),
  (146, .if_icmp .ne 13, 3, 98, 103, 0, 99999),
  (149, .iload 8, 2, 99, 0, 0, 99999),
  (151, .iload_n 1, 1, 100, 0, 0, 99999),
  (152, .if_icmp .ge 7, 3, 101, 103, 0, 99999),
  (155, .iconst 1, 1, 102, 0, 0, 99999),
  (156, .goto 4, 3, 103, 104, 0, 99999),
  (159, .iconst 0, 1, 104, 0, 0, 99999),
  (160, .iadd, 1, 105, 0, 0, 99999),
  (161, .istore 7, 2, 106, 0, 0, 99999),
  (163, .iinc 8 1, 3, 107, 0, 0, 99999),
  (166, .goto (-90), 3, 108, 55, 0, 99999),
  (169, .iload_n 3, 1, 109, 0, 0, 99999),
  (170, .aload_n 0, 1, 110, 0, 0, 99999),
  (171, .getfield 20, 3, 111, 1, 1, 83),
  (174, .iload_n 1, 1, 112, 0, 0, 99999),
  (175, .aaload, 1, 113, 0, 0, 99999),
  (176, .iconst 0, 1, 114, 0, 0, 99999),
  (177, .iaload, 1, 115, 0, 0, 99999),
  (178, .imul, 1, 116, 0, 0, 99999),
  (179, .iload 4, 2, 117, 0, 0, 99999),
  (181, .idiv, 1, 118, 0, 0, 99999),
  (182, .iload 7, 2, 119, 0, 0, 99999),
  (184, .iload 6, 2, 120, 0, 0, 99999),
  (186, .if_icmp .ge 7, 3, 121, 123, 0, 99999),
  (189, .iconst 1, 1, 122, 0, 0, 99999),
  (190, .goto 4, 3, 123, 124, 0, 99999),
  (193, .iconst 0, 1, 124, 0, 0, 99999),
  (194, .iadd, 1, 125, 0, 0, 99999),
  (195, .ireturn, 1, 126, 0, 0, 99999)]
def M_H_shareOf : Mth := (⟨"FloorPlans$House", "shareOf", "(I)I"⟩, prog_3_method_20_code, 10, (some FieldType.int), T_M_H_shareOf, [629, 44, 627, 628, 99999])
def T_M_F_turn : List Ent := [(0, .iload_n 1, 1, 1, 0, 0, 99999),
  (1, .invokestatic 50, 3, 2, 20, 0, 286),
  (4, .ifCond .eq 9, 3, 3, 7, 0, 99999),
  (7, .aload_n 0, 1, 4, 0, 0, 99999),
  (8, .iconst (-1), 1, 5, 0, 0, 99999),
  (9, .invokevirtual 54, 3, 6, 24, 0, 289),
  (12, .ireturn, 1, 7, 0, 0, 99999),
  (13, .aload_n 0, 1, 8, 0, 0, 99999),
  (14, .getfield 12, 3, 9, 5, 0, 263),
  (17, .getfield 61, 3, 10, 1, 0, 81),
  (20, .iload_n 1, 1, 11, 0, 0, 99999),
  (21, .aaload, 1, 12, 0, 0, 99999),
  (22, .iconst 1, 1, 13, 0, 0, 99999),
  (23, .iaload, 1, 14, 0, 0, 99999),
  (24, .iconst 2, 1, 15, 0, 0, 99999),
  (25, .iand, 1, 16, 0, 0, 99999),
  (26, .ifCond .ne 10, 3, 17, 21, 0, 99999),
  (29, .aload_n 0, 1, 18, 0, 0, 99999),
  (30, .bipush (-3), 2, 19, 0, 0, 99999),
  (32, .invokevirtual 54, 3, 20, 24, 0, 289),
  (35, .ireturn, 1, 21, 0, 0, 99999),
  (36, .aload_n 0, 1, 22, 0, 0, 99999),
  (37, .getfield 12, 3, 23, 5, 0, 263),
  (40, .iload_n 1, 1, 24, 0, 0, 99999),
  (41, .invokevirtual 180, 3, 25, 54, 0, 634),
  (44, .istore_n 2, 1, 26, 0, 0, 99999),
  (45, .iload_n 2, 1, 27, 0, 0, 99999),
  (46, .bipush (-9), 2, 28, 0, 0, 99999),
  (48, .if_icmp .ne 10, 3, 29, 33, 0, 99999),
  (51, .aload_n 0, 1, 30, 0, 0, 99999),
  (52, .bipush (-3), 2, 31, 0, 0, 99999),
  (54, .invokevirtual 54, 3, 32, 24, 0, 289),
  (57, .ireturn, 1, 33, 0, 0, 99999),
  (58, .aload_n 0, 1, 34, 0, 0, 99999),
  (59, .getfield 12, 3, 35, 5, 0, 263),
  (62, .getfield 73, 3, 36, 1, 1, 85),
  (65, .iload_n 2, 1, 37, 0, 0, 99999),
  (66, .aaload, 1, 38, 0, 0, 99999),
  (67, .bipush 8, 2, 39, 0, 0, 99999),
  (69, .dup2, 1, 40, 0, 0, 99999),
  (70, .iaload, 1, 41, 0, 0, 99999),
  (71, .iconst 1, 1, 42, 0, 0, 99999),
  (72, .iadd, 1, 43, 0, 0, 99999),
  (73, .iastore, 1, 44, 0, 0, 99999),
  (74, .iload_n 2, 1, 45, 0, 0, 99999),
  (75, .ireturn, 1, 46, 0, 0, 99999)]
def M_F_turn : Mth := (⟨"FloorPlans", "turn", "(I)I"⟩, prog_1_method_26_code, 3, (some FieldType.int), T_M_F_turn, [633, 43, 631, 632, 99999])
def T_M_H_nextAtWindow : List Ent := [(0, .bipush (-9), 2, 1, 0, 0, 99999),
  (2, .istore_n 2, 1, 2, 0, 0, 99999),
  (3, .iconst 0, 1, 3, 0, 0, 99999),
  (4, .istore_n 3, 1, 4, 0, 0, 99999),
  (5, .iload_n 3, 1, 5, 0, 0, 99999),
  (6, .aload_n 0, 1, 6, 0, 0, 99999),
  (7, .getfield 41, 3, 7, 1, 8, 99),
  (10, .if_icmp .ge 38, 3, 8, 28, 0, 99999),
  (13, .aload_n 0, 1, 9, 0, 0, 99999),
  (14, .getfield 20, 3, 10, 1, 1, 83),
  (17, .iload_n 3, 1, 11, 0, 0, 99999),
  (18, .aaload, 1, 12, 0, 0, 99999),
  (19, .iconst 4, 1, 13, 0, 0, 99999),
  (20, .iaload, 1, 14, 0, 0, 99999),
  (21, .iload_n 1, 1, 15, 0, 0, 99999),
  (22, .if_icmp .ne 20, 3, 16, 26, 0, 99999),
  (25, .iload_n 2, 1, 17, 0, 0, 99999),
  (26, .bipush (-9), 2, 18, 0, 0, 99999),
  (28, .if_icmp .eq 12, 3, 19, 24, 0, 99999),
  (31, .aload_n 0, 1, 20, 0, 0, 99999),
  (32, .iload_n 3, 1, 21, 0, 0, 99999),
  (33, .iload_n 2, 1, 22, 0, 0, 99999),
  (34, .invokevirtual 98, 3, 23, 52, 0, 638),
  (37, .ifCond .eq 5, 3, 24, 26, 0, 99999),
  (40, .iload_n 3, 1, 25, 0, 0, 99999),
  (41, .istore_n 2, 1, 26, 0, 0, 99999),
  (42, .iinc 3 1, 3, 27, 0, 0, 99999),
  (45, .goto (-40), 3, 28, 4, 0, 99999),
  (48, .iload_n 2, 1, 29, 0, 0, 99999),
  (49, .ireturn, 1, 30, 0, 0, 99999)]
def M_H_nextAtWindow : Mth := (⟨"FloorPlans$House", "nextAtWindow", "(I)I"⟩, prog_3_method_21_code, 4, (some FieldType.int), T_M_H_nextAtWindow, [637, 44, 635, 636, 99999])
def T_M_H_hadLess : List Ent := [(0, .aload_n 0, 1, 1, 0, 0, 99999),
  (1, .getfield 20, 3, 2, 1, 1, 83),
  (4, .iload_n 1, 1, 3, 0, 0, 99999),
  (5, .aaload, 1, 4, 0, 0, 99999),
  (6, .bipush 8, 2, 5, 0, 0, 99999),
  (8, .iaload, 1, 6, 0, 0, 99999),
  (9, .aload_n 0, 1, 7, 0, 0, 99999),
  (10, .getfield 20, 3, 8, 1, 1, 83),
  (13, .iload_n 2, 1, 9, 0, 0, 99999),
  (14, .aaload, 1, 10, 0, 0, 99999),
  (15, .iconst 0, 1, 11, 0, 0, 99999),
  (16, .iaload, 1, 12, 0, 0, 99999),
  (17, .imul, 1, 13, 0, 0, 99999),
  (18, .aload_n 0, 1, 14, 0, 0, 99999),
  (19, .getfield 20, 3, 15, 1, 1, 83),
  (22, .iload_n 2, 1, 16, 0, 0, 99999),
  (23, .aaload, 1, 17, 0, 0, 99999),
  (24, .bipush 8, 2, 18, 0, 0, 99999),
  (26, .iaload, 1, 19, 0, 0, 99999),
  (27, .aload_n 0, 1, 20, 0, 0, 99999),
  (28, .getfield 20, 3, 21, 1, 1, 83),
  (31, .iload_n 1, 1, 22, 0, 0, 99999),
  (32, .aaload, 1, 23, 0, 0, 99999),
  (33, .iconst 0, 1, 24, 0, 0, 99999),
  (34, .iaload, 1, 25, 0, 0, 99999),
  (35, .imul, 1, 26, 0, 0, 99999),
  (36, .if_icmp .ge 7, 3, 27, 29, 0, 99999),
  (39, .iconst 1, 1, 28, 0, 0, 99999),
  (40, .goto 4, 3, 29, 30, 0, 99999),
  (43, .iconst 0, 1, 30, 0, 0, 99999),
  (44, .ireturn, 1, 31, 0, 0, 99999)]
def M_H_hadLess : Mth := (⟨"FloorPlans$House", "hadLess", "(II)Z"⟩, prog_3_method_22_code, 3, (some FieldType.boolean), T_M_H_hadLess, [641, 44, 640, 22, 99999])
def T_M_F_teamOf : List Ent := [(0, .aload_n 0, 1, 1, 0, 0, 99999),
  (1, .iload_n 1, 1, 2, 0, 0, 99999),
  (2, .invokevirtual 76, 3, 3, 22, 0, 305),
  (5, .ifCond .eq 9, 3, 4, 8, 0, 99999),
  (8, .aload_n 0, 1, 5, 0, 0, 99999),
  (9, .iconst (-1), 1, 6, 0, 0, 99999),
  (10, .invokevirtual 54, 3, 7, 24, 0, 289),
  (13, .ireturn, 1, 8, 0, 0, 99999),
  (14, .iload_n 2, 1, 9, 0, 0, 99999),
  (15, .ifCond .lt 9, 3, 10, 13, 0, 99999),
  (18, .iload_n 2, 1, 11, 0, 0, 99999),
  (19, .bipush 9, 2, 12, 0, 0, 99999),
  (21, .if_icmp .lt 10, 3, 13, 17, 0, 99999),
  (24, .aload_n 0, 1, 14, 0, 0, 99999),
  (25, .bipush (-2), 2, 15, 0, 0, 99999),
  (27, .invokevirtual 54, 3, 16, 24, 0, 289),
  (30, .ireturn, 1, 17, 0, 0, 99999),
  (31, .aload_n 0, 1, 18, 0, 0, 99999),
  (32, .getfield 12, 3, 19, 5, 0, 263),
  (35, .getfield 73, 3, 20, 1, 1, 85),
  (38, .iload_n 1, 1, 21, 0, 0, 99999),
  (39, .aaload, 1, 22, 0, 0, 99999),
  (40, .iload_n 2, 1, 23, 0, 0, 99999),
  (41, .iaload, 1, 24, 0, 0, 99999),
  (42, .ireturn, 1, 25, 0, 0, 99999)]
def M_F_teamOf : Mth := (⟨"FloorPlans", "teamOf", "(II)I"⟩, prog_1_method_27_code, 3, (some FieldType.int), T_M_F_teamOf, [645, 43, 643, 644, 99999])
def T_M_F_free : List Ent := [(0, .iload_n 1, 1, 1, 0, 0, 99999),
  (1, .invokestatic 50, 3, 2, 20, 0, 286),
  (4, .ifCond .eq 9, 3, 3, 7, 0, 99999),
  (7, .aload_n 0, 1, 4, 0, 0, 99999),
  (8, .iconst (-1), 1, 5, 0, 0, 99999),
  (9, .invokevirtual 54, 3, 6, 24, 0, 289),
  (12, .ireturn, 1, 7, 0, 0, 99999),
  (13, .aload_n 0, 1, 8, 0, 0, 99999),
  (14, .getfield 12, 3, 9, 5, 0, 263),
  (17, .iload_n 1, 1, 10, 0, 0, 99999),
  (18, .iconst 0, 1, 11, 0, 0, 99999),
  (19, .invokevirtual 183, 3, 12, 51, 0, 650),
  (22, .sipush 10000, 3, 13, 0, 0, 99999),
  (25, .iadd, 1, 14, 0, 0, 99999),
  (26, .ireturn, 1, 15, 0, 0, 99999)]
def M_F_free : Mth := (⟨"FloorPlans", "free", "(I)I"⟩, prog_1_method_28_code, 2, (some FieldType.int), T_M_F_free, [649, 43, 647, 648, 99999])
def T_M_F_count : List Ent := [(0, .iload_n 1, 1, 1, 0, 0, 99999),
  (1, .bipush 10, 2, 2, 0, 0, 99999),
  (3, .if_icmp .le 19, 3, 3, 13, 0, 99999),
  (6, .iload_n 1, 1, 4, 0, 0, 99999),
  (7, .bipush 16, 2, 5, 0, 0, 99999),
  (9, .if_icmp .gt 13, 3, 6, 13, 0, 99999),
  (12, .aload_n 0, 1, 7, 0, 0, 99999),
  (13, .getfield 46, 3, 8, 5, 5, 268),
  (16, .iload_n 1, 1, 9, 0, 0, 99999),
  (17, .bipush 10, 2, 10, 0, 0, 99999),
  (19, .isub, 1, 11, 0, 0, 99999),
  (20, .iaload, 1, 12, 0, 0, 99999),
  (21, .ireturn, 1, 13, 0, 0, 99999),
  (22, .iload_n 1, 1, 14, 0, 0, 99999),
  (23, .tableswitch 124 0 6 #[41, 49, 68, 78, 87, 96, 116], 41, 15, 0, 0, 99999),
  (64, .aload_n 0, 1, 16, 0, 0, 99999),
  (65, .getfield 12, 3, 17, 5, 0, 263),
  (68, .getfield 69, 3, 18, 1, 8, 101),
  (71, .ireturn, 1, 19, 0, 0, 99999),
  (72, .aload_n 0, 1, 20, 0, 0, 99999),
  (73, .getfield 12, 3, 21, 5, 0, 263),
  (76, .getfield 69, 3, 22, 1, 8, 101),
  (79, .aload_n 0, 1, 23, 0, 0, 99999),
  (80, .getfield 12, 3, 24, 5, 0, 263),
  (83, .iconst 4, 1, 25, 0, 0, 99999),
  (84, .bipush (-9), 2, 26, 0, 0, 99999),
  (86, .invokevirtual 186, 3, 27, 63, 0, 655),
  (89, .isub, 1, 28, 0, 0, 99999),
  (90, .ireturn, 1, 29, 0, 0, 99999),
  (91, .aload_n 0, 1, 30, 0, 0, 99999),
  (92, .getfield 12, 3, 31, 5, 0, 263),
  (95, .iconst 5, 1, 32, 0, 0, 99999),
  (96, .iconst 1, 1, 33, 0, 0, 99999),
  (97, .invokevirtual 186, 3, 34, 63, 0, 655),
  (100, .ireturn, 1, 35, 0, 0, 99999),
  (101, .aload_n 0, 1, 36, 0, 0, 99999),
  (102, .getfield 12, 3, 37, 5, 0, 263),
  (105, .iconst 1, 1, 38, 0, 0, 99999),
  (106, .invokevirtual 189, 3, 39, 64, 0, 659),
  (109, .ireturn, 1, 40, 0, 0, 99999),
  (110, .aload_n 0, 1, 41, 0, 0, 99999),
  (111, .getfield 12, 3, 42, 5, 0, 263),
  (114, .iconst 2, 1, 43, 0, 0, 99999),
  (115, .invokevirtual 189, 3, 44, 64, 0, 659),
  (118, .ireturn, 1, 45, 0, 0, 99999),
  (119, .aload_n 0, 1, 46, 0, 0, 99999),
  (120, .getfield 12, 3, 47, 5, 0, 263),
  (123, .getfield 69, 3, 48, 1, 8, 101),
  (126, .aload_n 0, 1, 49, 0, 0, 99999),
  (127, .getfield 12, 3, 50, 5, 0, 263),
  (130, .bipush 6, 2, 51, 0, 0, 99999),
  (132, .bipush (-9), 2, 52, 0, 0, 99999),
  (134, .invokevirtual 186, 3, 53, 63, 0, 655),
  (137, .isub, 1, 54, 0, 0, 99999),
  (138, .ireturn, 1, 55, 0, 0, 99999),
  (139, .aload_n 0, 1, 56, 0, 0, 99999),
  (140, .getfield 12, 3, 57, 5, 0, 263),
  (143, .invokevirtual 192, 3, 58, 55, 0, 664),
  (146, .ireturn, 1, 59, 0, 0, 99999),
  (147, .bipush (-9), 2, 60, 0, 0, 99999),
  (149, .ireturn, 1, 61, 0, 0, 99999)]
def M_F_count : Mth := (⟨"FloorPlans", "count", "(I)I"⟩, prog_1_method_29_code, 2, (some FieldType.int), T_M_F_count, [654, 43, 652, 653, 99999])
def T_M_H_teamsWith : List Ent := [(0, .iconst 0, 1, 1, 0, 0, 99999),
  (1, .istore_n 3, 1, 2, 0, 0, 99999),
  (2, .iconst 0, 1, 3, 0, 0, 99999),
  (3, .istore 4, 2, 4, 0, 0, 99999),
  (5, .iload 4, 2, 5, 0, 0, 99999),
  (7, .aload_n 0, 1, 6, 0, 0, 99999),
  (8, .getfield 41, 3, 7, 1, 8, 99),
  (11, .if_icmp .ge 25, 3, 8, 19, 0, 99999),
  (14, .aload_n 0, 1, 9, 0, 0, 99999),
  (15, .getfield 20, 3, 10, 1, 1, 83),
  (18, .iload 4, 2, 11, 0, 0, 99999),
  (20, .aaload, 1, 12, 0, 0, 99999),
  (21, .iload_n 1, 1, 13, 0, 0, 99999),
  (22, .iaload, 1, 14, 0, 0, 99999),
  (23, .iload_n 2, 1, 15, 0, 0, 99999),
  (24, .if_icmp .ne 6, 3, 16, 17, 0, 99999),
  (27, .iinc 3 1, 3, 17, 0, 0, 99999),
  (30, .iinc 4 1, 3, 18, 0, 0, 99999),
  (33, .goto (-28), 3, 19, 4, 0, 99999),
  (36, .iload_n 3, 1, 20, 0, 0, 99999),
  (37, .ireturn, 1, 21, 0, 0, 99999)]
def M_H_teamsWith : Mth := (⟨"FloorPlans$House", "teamsWith", "(II)I"⟩, prog_3_method_3_code, 5, (some FieldType.int), T_M_H_teamsWith, [658, 44, 656, 657, 99999])
def T_M_H_twosIn : List Ent := [(0, .aload_n 0, 1, 1, 0, 0, 99999),
  (1, .iload_n 1, 1, 2, 0, 0, 99999),
  (2, .invokevirtual 63, 3, 3, 60, 0, 663),
  (5, .astore_n 2, 1, 4, 0, 0, 99999),
  (6, .iconst 0, 1, 5, 0, 0, 99999),
  (7, .istore_n 3, 1, 6, 0, 0, 99999),
  (8, .iconst 0, 1, 7, 0, 0, 99999),
  (9, .istore 4, 2, 8, 0, 0, 99999),
  (11, .iload 4, 2, 9, 0, 0, 99999),
  (13, .aload_n 0, 1, 10, 0, 0, 99999),
  (14, .getfield 41, 3, 11, 1, 8, 99),
  (17, .if_icmp .ge 35, 3, 12, 29, 0, 99999),
  (20, .iconst 0, 1, 13, 0, 0, 99999),
  (21, .istore 5, 2, 14, 0, 0, 99999),
  (23, .iload 5, 2, 15, 0, 0, 99999),
  (25, .iload 4, 2, 16, 0, 0, 99999),
  (27, .if_icmp .ge 19, 3, 17, 27, 0, 99999),
  (30, .iload_n 3, 1, 18, 0, 0, 99999),
  (31, .aload_n 2, 1, 19, 0, 0, 99999),
  (32, .iload 4, 2, 20, 0, 0, 99999),
  (34, .aaload, 1, 21, 0, 0, 99999),
  (35, .iload 5, 2, 22, 0, 0, 99999),
  (37, .iaload, 1, 23, 0, 0, 99999),
  (38, .iadd, 1, 24, 0, 0, 99999),
  (39, .istore_n 3, 1, 25, 0, 0, 99999),
  (40, .iinc 5 1, 3, 26, 0, 0, 99999),
  (43, .goto (-20), 3, 27, 14, 0, 99999),
  (46, .iinc 4 1, 3, 28, 0, 0, 99999),
  (49, .goto (-38), 3, 29, 8, 0, 99999),
  (52, .iload_n 3, 1, 30, 0, 0, 99999),
  (53, .ireturn, 1, 31, 0, 0, 99999)]
def M_H_twosIn : Mth := (⟨"FloorPlans$House", "twosIn", "(I)I"⟩, prog_3_method_4_code, 6, (some FieldType.int), T_M_H_twosIn, [662, 44, 660, 661, 99999])
def T_M_H_peopleTold : List Ent := [(0, .iconst 0, 1, 1, 0, 0, 99999),
  (1, .istore_n 1, 1, 2, 0, 0, 99999),
  (2, .iconst 0, 1, 3, 0, 0, 99999),
  (3, .istore_n 2, 1, 4, 0, 0, 99999),
  (4, .iload_n 2, 1, 5, 0, 0, 99999),
  (5, .aload_n 0, 1, 6, 0, 0, 99999),
  (6, .getfield 41, 3, 7, 1, 8, 99),
  (9, .if_icmp .ge 21, 3, 8, 19, 0, 99999),
  (12, .iload_n 1, 1, 9, 0, 0, 99999),
  (13, .aload_n 0, 1, 10, 0, 0, 99999),
  (14, .getfield 20, 3, 11, 1, 1, 83),
  (17, .iload_n 2, 1, 12, 0, 0, 99999),
  (18, .aaload, 1, 13, 0, 0, 99999),
  (19, .bipush 7, 2, 14, 0, 0, 99999),
  (21, .iaload, 1, 15, 0, 0, 99999),
  (22, .iadd, 1, 16, 0, 0, 99999),
  (23, .istore_n 1, 1, 17, 0, 0, 99999),
  (24, .iinc 2 1, 3, 18, 0, 0, 99999),
  (27, .goto (-23), 3, 19, 4, 0, 99999),
  (30, .iload_n 1, 1, 20, 0, 0, 99999),
  (31, .ireturn, 1, 21, 0, 0, 99999)]
def M_H_peopleTold : Mth := (⟨"FloorPlans$House", "peopleTold", "()I"⟩, prog_3_method_5_code, 3, (some FieldType.int), T_M_H_peopleTold, [667, 44, 665, 666, 99999])
def T_M_G_init : List Ent := [(0, .aload_n 0, 1, 1, 0, 0, 99999),
  (1, .invokespecial 1, 3, 2, 145, 0, 673),
  (4, .aload_n 0, 1, 3, 0, 0, 99999),
  (5, .iconst 1, 1, 4, 0, 0, 99999),
  (6, .putfield 7, 3, 5, 6, 1, 675),
  (9, .aload_n 0, 1, 6, 0, 0, 99999),
  (10, .bipush 11, 2, 7, 0, 0, 99999),
  (12, .newarray .int, 2, 8, 0, 0, 126),
  (14, .putfield 13, 3, 9, 6, 2, 676),
  (17, .aload_n 0, 1, 10, 0, 0, 99999),
  (18, .bipush 11, 2, 11, 0, 0, 99999),
  (20, .newarray .int, 2, 12, 0, 0, 126),
  (22, .putfield 17, 3, 13, 6, 3, 677),
  (25, .aload_n 0, 1, 14, 0, 0, 99999),
  (26, .bipush 11, 2, 15, 0, 0, 99999),
  (28, .newarray .int, 2, 16, 0, 0, 126),
  (30, .putfield 20, 3, 17, 6, 4, 678),
  (33, .aload_n 0, 1, 18, 0, 0, 99999),
  (34, .bipush 11, 2, 19, 0, 0, 99999),
  (36, .newarray .int, 2, 20, 0, 0, 126),
  (38, .putfield 23, 3, 21, 6, 5, 679),
  (41, .aload_n 0, 1, 22, 0, 0, 99999),
  (42, .bipush 16, 2, 23, 0, 0, 99999),
  (44, .newarray .int, 2, 24, 0, 0, 126),
  (46, .putfield 26, 3, 25, 6, 6, 680),
  (49, .aload_n 0, 1, 26, 0, 0, 99999),
  (50, .bipush 16, 2, 27, 0, 0, 99999),
  (52, .newarray .int, 2, 28, 0, 0, 126),
  (54, .putfield 29, 3, 29, 6, 7, 681),
  (57, .aload_n 0, 1, 30, 0, 0, 99999),
  (58, .bipush 16, 2, 31, 0, 0, 99999),
  (60, .newarray .int, 2, 32, 0, 0, 126),
  (62, .putfield 32, 3, 33, 6, 8, 682),
  (65, .aload_n 0, 1, 34, 0, 0, 99999),
  (66, .bipush 16, 2, 35, 0, 0, 99999),
  (68, .newarray .int, 2, 36, 0, 0, 126),
  (70, .putfield 35, 3, 37, 6, 9, 683),
  (73, .aload_n 0, 1, 38, 0, 0, 99999),
  (74, .bipush 16, 2, 39, 0, 0, 99999),
  (76, .newarray .int, 2, 40, 0, 0, 126),
  (78, .putfield 38, 3, 41, 6, 10, 684),
  (81, .aload_n 0, 1, 42, 0, 0, 99999),
  (82, .bipush 16, 2, 43, 0, 0, 99999),
  (84, .newarray .int, 2, 44, 0, 0, 126),
  (86, .putfield 41, 3, 45, 6, 11, 685),
  (89, .aload_n 0, 1, 46, 0, 0, 99999),
  (90, .bipush 16, 2, 47, 0, 0, 99999),
  (92, .newarray .int, 2, 48, 0, 0, 126),
  (94, .putfield 44, 3, 49, 6, 12, 686),
  (97, .aload_n 0, 1, 50, 0, 0, 99999),
  (98, .bipush 16, 2, 51, 0, 0, 99999),
  (100, .newarray .int, 2, 52, 0, 0, 126),
  (102, .putfield 47, 3, 53, 6, 13, 687),
  (105, .aload_n 0, 1, 54, 0, 0, 99999),
  (106, .bipush 16, 2, 55, 0, 0, 99999),
  (108, .newarray .boolean, 2, 56, 0, 0, 786),
  (110, .putfield 50, 3, 57, 6, 14, 688),
  (113, .aload_n 0, 1, 58, 0, 0, 99999),
  (114, .sipush 256, 3, 59, 0, 0, 99999),
  (117, .newarray .int, 2, 60, 0, 0, 126),
  (119, .putfield 54, 3, 61, 6, 15, 689),
  (122, .aload_n 0, 1, 62, 0, 0, 99999),
  (123, .sipush 256, 3, 63, 0, 0, 99999),
  (126, .newarray .int, 2, 64, 0, 0, 126),
  (128, .putfield 57, 3, 65, 6, 16, 690),
  (131, .aload_n 0, 1, 66, 0, 0, 99999),
  (132, .sipush 256, 3, 67, 0, 0, 99999),
  (135, .newarray .int, 2, 68, 0, 0, 126),
  (137, .putfield 60, 3, 69, 6, 17, 691),
  (140, .aload_n 0, 1, 70, 0, 0, 99999),
  (141, .sipush 320, 3, 71, 0, 0, 99999),
  (144, .newarray .int, 2, 72, 0, 0, 126),
  (146, .putfield 63, 3, 73, 6, 18, 692),
  (149, .aload_n 0, 1, 74, 0, 0, 99999),
  (150, .sipush 320, 3, 75, 0, 0, 99999),
  (153, .newarray .int, 2, 76, 0, 0, 126),
  (155, .putfield 66, 3, 77, 6, 19, 693),
  (158, .aload_n 0, 1, 78, 0, 0, 99999),
  (159, .sipush 320, 3, 79, 0, 0, 99999),
  (162, .newarray .int, 2, 80, 0, 0, 126),
  (164, .putfield 69, 3, 81, 6, 20, 694),
  (167, .aload_n 0, 1, 82, 0, 0, 99999),
  (168, .bipush 7, 2, 83, 0, 0, 99999),
  (170, .newarray .int, 2, 84, 0, 0, 126),
  (172, .putfield 72, 3, 85, 6, 21, 695),
  (175, .aload_n 0, 1, 86, 0, 0, 99999),
  (176, .bipush 16, 2, 87, 0, 0, 99999),
  (178, .newarray .int, 2, 88, 0, 0, 126),
  (180, .putfield 75, 3, 89, 6, 22, 696),
  (183, .aload_n 0, 1, 90, 0, 0, 99999),
  (184, .bipush 16, 2, 91, 0, 0, 99999),
  (186, .newarray .int, 2, 92, 0, 0, 126),
  (188, .putfield 78, 3, 93, 6, 23, 697),
  (191, .aload_n 0, 1, 94, 0, 0, 99999),
  (192, .bipush 16, 2, 95, 0, 0, 99999),
  (194, .newarray .int, 2, 96, 0, 0, 126),
  (196, .putfield 81, 3, 97, 6, 24, 698),
  (199, .aload_n 0, 1, 98, 0, 0, 99999),
  (200, .bipush 11, 2, 99, 0, 0, 99999),
  (202, .newarray .int, 2, 100, 0, 0, 126),
  (204, .putfield 84, 3, 101, 6, 25, 699),
  (207, .aload_n 0, 1, 102, 0, 0, 99999),
  (208, .sipush 15625, 3, 103, 0, 0, 99999),
  (211, .newarray .int, 2, 104, 0, 0, 126),
  (213, .putfield 87, 3, 105, 6, 26, 700),
  (216, .aload_n 0, 1, 106, 0, 0, 99999),
  (217, .sipush 15625, 3, 107, 0, 0, 99999),
  (220, .newarray .int, 2, 108, 0, 0, 126),
  (222, .putfield 90, 3, 109, 6, 27, 701),
  (225, .aload_n 0, 1, 110, 0, 0, 99999),
  (226, .bipush 22, 2, 111, 0, 0, 99999),
  (228, .newarray .long, 2, 112, 0, 0, 235),
  (230, .putfield 93, 3, 113, 6, 28, 702),
  (233, .iconst 0, 1, 114, 0, 0, 99999),
  (234, .istore_n 1, 1, 115, 0, 0, 99999),
  (235, .iload_n 1, 1, 116, 0, 0, 99999),
  (236, .bipush 11, 2, 117, 0, 0, 99999),
  (238, .if_icmp .ge 33, 3, 118, 135, 0, 99999),
  (241, .aload_n 0, 1, 119, 0, 0, 99999),
  (242, .getfield 13, 3, 120, 6, 2, 676),
  (245, .iload_n 1, 1, 121, 0, 0, 99999),
  (246, .bipush 40, 2, 122, 0, 0, 99999),
  (248, .iastore, 1, 123, 0, 0, 99999),
  (249, .aload_n 0, 1, 124, 0, 0, 99999),
  (250, .getfield 20, 3, 125, 6, 4, 678),
  (253, .iload_n 1, 1, 126, 0, 0, 99999),
  (254, .bipush 10, 2, 127, 0, 0, 99999),
  (256, .iastore, 1, 128, 0, 0, 99999),
  (257, .aload_n 0, 1, 129, 0, 0, 99999),
  (258, .getfield 23, 3, 130, 6, 5, 679),
  (261, .iload_n 1, 1, 131, 0, 0, 99999),
  (262, .bipush 19, 2, 132, 0, 0, 99999),
  (264, .iastore, 1, 133, 0, 0, 99999),
  (265, .iinc 1 1, 3, 134, 0, 0, 99999),
  (268, .goto (-33), 3, 135, 115, 0, 99999),
  (271, .iconst 0, 1, 136, 0, 0, 99999),
  (272, .istore_n 1, 1, 137, 0, 0, 99999),
  (273, .iload_n 1, 1, 138, 0, 0, 99999),
  (274, .sipush 320, 3, 139, 0, 0, 99999),
  (277, .if_icmp .ge 16, 3, 140, 147, 0, 99999),
  (280, .aload_n 0, 1, 141, 0, 0, 99999),
  (281, .getfield 69, 3, 142, 6, 20, 694),
  (284, .iload_n 1, 1, 143, 0, 0, 99999),
  (285, .iconst (-1), 1, 144, 0, 0, 99999),
  (286, .iastore, 1, 145, 0, 0, 99999),
  (287, .iinc 1 1, 3, 146, 0, 0, 99999),
  (290, .goto (-17), 3, 147, 137, 0, 99999),
  (293, .return_, 1, 148, 0, 0, 99999)]
def M_G_init : Mth := (⟨"FloorPlansModel", "<init>", "()V"⟩, prog_8_method_1_code, 2, (Option.none : Option FieldType), T_M_G_init, [672, 51, 671, 99999, 99999])
def T_M_G_floor : List Ent := [(0, .iload_n 1, 1, 1, 0, 0, 99999),
  (1, .invokestatic 100, 3, 2, 109, 0, 791),
  (4, .ifCond .ne 9, 3, 3, 7, 0, 99999),
  (7, .aload_n 0, 1, 4, 0, 0, 99999),
  (8, .iconst (-1), 1, 5, 0, 0, 99999),
  (9, .invokevirtual 104, 3, 6, 119, 0, 794),
  (12, .ireturn, 1, 7, 0, 0, 99999),
  (13, .iload_n 2, 1, 8, 0, 0, 99999),
  (14, .ifCond .lt 8, 3, 9, 12, 0, 99999),
  (17, .iload_n 2, 1, 10, 0, 0, 99999),
  (18, .iconst 3, 1, 11, 0, 0, 99999),
  (19, .if_icmp .le 10, 3, 12, 16, 0, 99999),
  (22, .aload_n 0, 1, 13, 0, 0, 99999),
  (23, .bipush (-2), 2, 14, 0, 0, 99999),
  (25, .invokevirtual 104, 3, 15, 119, 0, 794),
  (28, .ireturn, 1, 16, 0, 0, 99999),
  (29, .iload_n 3, 1, 17, 0, 0, 99999),
  (30, .ifCond .ge 10, 3, 18, 22, 0, 99999),
  (33, .aload_n 0, 1, 19, 0, 0, 99999),
  (34, .bipush (-4), 2, 20, 0, 0, 99999),
  (36, .invokevirtual 104, 3, 21, 119, 0, 794),
  (39, .ireturn, 1, 22, 0, 0, 99999),
  (40, .iload_n 3, 1, 23, 0, 0, 99999),
  (41, .iload_n 2, 1, 24, 0, 0, 99999),
  (42, .ifCond .ne 9, 3, 25, 27, 0, 99999),
  (45, .sipush 300, 3, 26, 0, 0, 99999),
  (48, .goto 26, 3, 27, 38, 0, 99999),
  (51, .iload_n 2, 1, 28, 0, 0, 99999),
  (52, .iconst 1, 1, 29, 0, 0, 99999),
  (53, .if_icmp .ne 8, 3, 30, 32, 0, 99999),
  (56, .bipush 7, 2, 31, 0, 0, 99999),
  (58, .goto 16, 3, 32, 38, 0, 99999),
  (61, .iload_n 2, 1, 33, 0, 0, 99999),
  (62, .iconst 2, 1, 34, 0, 0, 99999),
  (63, .if_icmp .ne 9, 3, 35, 37, 0, 99999),
  (66, .sipush 999, 3, 36, 0, 0, 99999),
  (69, .goto 5, 3, 37, 38, 0, 99999),
  (72, .bipush 19, 2, 38, 0, 0, 99999),
  (74, .if_icmp .le 10, 3, 39, 43, 0, 99999),
  (77, .aload_n 0, 1, 40, 0, 0, 99999),
  (78, .bipush (-6), 2, 41, 0, 0, 99999),
  (80, .invokevirtual 104, 3, 42, 119, 0, 794),
  (83, .ireturn, 1, 43, 0, 0, 99999),
  (84, .iload_n 2, 1, 44, 0, 0, 99999),
  (85, .ifCond .ne 12, 3, 45, 50, 0, 99999),
  (88, .aload_n 0, 1, 46, 0, 0, 99999),
  (89, .getfield 13, 3, 47, 6, 2, 676),
  (92, .iload_n 1, 1, 48, 0, 0, 99999),
  (93, .iaload, 1, 49, 0, 0, 99999),
  (94, .goto 37, 3, 50, 70, 0, 99999),
  (97, .iload_n 2, 1, 51, 0, 0, 99999),
  (98, .iconst 1, 1, 52, 0, 0, 99999),
  (99, .if_icmp .ne 12, 3, 53, 58, 0, 99999),
  (102, .aload_n 0, 1, 54, 0, 0, 99999),
  (103, .getfield 17, 3, 55, 6, 3, 677),
  (106, .iload_n 1, 1, 56, 0, 0, 99999),
  (107, .iaload, 1, 57, 0, 0, 99999),
  (108, .goto 23, 3, 58, 70, 0, 99999),
  (111, .iload_n 2, 1, 59, 0, 0, 99999),
  (112, .iconst 2, 1, 60, 0, 0, 99999),
  (113, .if_icmp .ne 12, 3, 61, 66, 0, 99999),
  (116, .aload_n 0, 1, 62, 0, 0, 99999),
  (117, .getfield 20, 3, 63, 6, 4, 678),
  (120, .iload_n 1, 1, 64, 0, 0, 99999),
  (121, .iaload, 1, 65, 0, 0, 99999),
  (122, .goto 9, 3, 66, 70, 0, 99999),
  (125, .aload_n 0, 1, 67, 0, 0, 99999),
  (126, .getfield 23, 3, 68, 6, 5, 679),
  (129, .iload_n 1, 1, 69, 0, 0, 99999),
  (130, .iaload, 1, 70, 0, 0, 99999),
  (131, .istore 4, 2, 71, 0, 0, 99999),
  (133, .iload_n 2, 1, 72, 0, 0, 99999),
  (134, .ifCond .ne 13, 3, 73, 79, 0, 99999),
  (137, .aload_n 0, 1, 74, 0, 0, 99999),
  (138, .getfield 13, 3, 75, 6, 2, 676),
  (141, .iload_n 1, 1, 76, 0, 0, 99999),
  (142, .iload_n 3, 1, 77, 0, 0, 99999),
  (143, .iastore, 1, 78, 0, 0, 99999),
  (144, .goto 40, 3, 79, 102, 0, 99999),
  (147, .iload_n 2, 1, 80, 0, 0, 99999),
  (148, .iconst 1, 1, 81, 0, 0, 99999),
  (149, .if_icmp .ne 13, 3, 82, 88, 0, 99999),
  (152, .aload_n 0, 1, 83, 0, 0, 99999),
  (153, .getfield 17, 3, 84, 6, 3, 677),
  (156, .iload_n 1, 1, 85, 0, 0, 99999),
  (157, .iload_n 3, 1, 86, 0, 0, 99999),
  (158, .iastore, 1, 87, 0, 0, 99999),
  (159, .goto 25, 3, 88, 102, 0, 99999),
  (162, .iload_n 2, 1, 89, 0, 0, 99999),
  (163, .iconst 2, 1, 90, 0, 0, 99999),
  (164, .if_icmp .ne 13, 3, 91, 97, 0, 99999),
  (167, .aload_n 0, 1, 92, 0, 0, 99999),
  (168, .getfield 20, 3, 93, 6, 4, 678),
  (171, .iload_n 1, 1, 94, 0, 0, 99999),
  (172, .iload_n 3, 1, 95, 0, 0, 99999),
  (173, .iastore, 1, 96, 0, 0, 99999),
  (174, .goto 10, 3, 97, 102, 0, 99999),
  (177, .aload_n 0, 1, 98, 0, 0, 99999),
  (178, .getfield 23, 3, 99, 6, 5, 679),
  (181, .iload_n 1, 1, 100, 0, 0, 99999),
  (182, .iload_n 3, 1, 101, 0, 0, 99999),
  (183, .iastore, 1, 102, 0, 0, 99999),
  (184, .iload 4, 2, 103, 0, 0, 99999),
  (186, .ireturn, 1, 104, 0, 0, 99999)]
def M_G_floor : Mth := (⟨"FloorPlansModel", "floor", "(III)I"⟩, prog_8_method_6_code, 5, (some FieldType.int), T_M_G_floor, [790, 51, 788, 789, 99999])
def T_M_G_isFloor : List Ent := [(0, .iload_n 0, 1, 1, 0, 0, 99999),
  (1, .ifCond .lt 13, 3, 2, 7, 0, 99999),
  (4, .iload_n 0, 1, 3, 0, 0, 99999),
  (5, .bipush 11, 2, 4, 0, 0, 99999),
  (7, .if_icmp .ge 7, 3, 5, 7, 0, 99999),
  (10, .iconst 1, 1, 6, 0, 0, 99999),
  (11, .goto 4, 3, 7, 8, 0, 99999),
  (14, .iconst 0, 1, 8, 0, 0, 99999),
  (15, .ireturn, 1, 9, 0, 0, 99999)]
def M_G_isFloor : Mth := (⟨"FloorPlansModel", "isFloor", "(I)Z"⟩, prog_8_method_4_code, 1, (some FieldType.boolean), T_M_G_isFloor, [793, 51, 99999, 99999, 792])
def T_M_G_no : List Ent := [(0, .aload_n 0, 1, 1, 0, 0, 99999),
  (1, .getfield 72, 3, 2, 6, 21, 695),
  (4, .iload_n 1, 1, 3, 0, 0, 99999),
  (5, .ineg, 1, 4, 0, 0, 99999),
  (6, .dup2, 1, 5, 0, 0, 99999),
  (7, .iaload, 1, 6, 0, 0, 99999),
  (8, .iconst 1, 1, 7, 0, 0, 99999),
  (9, .iadd, 1, 8, 0, 0, 99999),
  (10, .iastore, 1, 9, 0, 0, 99999),
  (11, .iload_n 1, 1, 10, 0, 0, 99999),
  (12, .ireturn, 1, 11, 0, 0, 99999)]
def M_G_no : Mth := (⟨"FloorPlansModel", "no", "(I)I"⟩, prog_8_method_2_code, 2, (some FieldType.int), T_M_G_no, [797, 51, 796, 23, 99999])
def T_M_G_team : List Ent := [(0, .iload_n 1, 1, 1, 0, 0, 99999),
  (1, .iconst 1, 1, 2, 0, 0, 99999),
  (2, .if_icmp .lt 16, 3, 3, 9, 0, 99999),
  (5, .iload_n 2, 1, 4, 0, 0, 99999),
  (6, .ifCond .lt 12, 3, 5, 9, 0, 99999),
  (9, .iload_n 3, 1, 6, 0, 0, 99999),
  (10, .ifCond .lt 8, 3, 7, 9, 0, 99999),
  (13, .iload 4, 2, 8, 0, 0, 99999),
  (15, .ifCond .ge 10, 3, 9, 13, 0, 99999),
  (18, .aload_n 0, 1, 10, 0, 0, 99999),
  (19, .bipush (-4), 2, 11, 0, 0, 99999),
  (21, .invokevirtual 104, 3, 12, 119, 0, 794),
  (24, .ireturn, 1, 13, 0, 0, 99999),
  (25, .iload_n 1, 1, 14, 0, 0, 99999),
  (26, .bipush 60, 2, 15, 0, 0, 99999),
  (28, .if_icmp .gt 31, 3, 16, 29, 0, 99999),
  (31, .iload_n 2, 1, 17, 0, 0, 99999),
  (32, .bipush 7, 2, 18, 0, 0, 99999),
  (34, .if_icmp .gt 25, 3, 19, 29, 0, 99999),
  (37, .iload_n 3, 1, 20, 0, 0, 99999),
  (38, .bipush 9, 2, 21, 0, 0, 99999),
  (40, .if_icmp .gt 19, 3, 22, 29, 0, 99999),
  (43, .iload 4, 2, 23, 0, 0, 99999),
  (45, .bipush 9, 2, 24, 0, 0, 99999),
  (47, .if_icmp .gt 12, 3, 25, 29, 0, 99999),
  (50, .aload_n 0, 1, 26, 0, 0, 99999),
  (51, .getfield 97, 3, 27, 6, 0, 674),
  (54, .bipush 16, 2, 28, 0, 0, 99999),
  (56, .if_icmp .ne 10, 3, 29, 33, 0, 99999),
  (59, .aload_n 0, 1, 30, 0, 0, 99999),
  (60, .bipush (-6), 2, 31, 0, 0, 99999),
  (62, .invokevirtual 104, 3, 32, 119, 0, 794),
  (65, .ireturn, 1, 33, 0, 0, 99999),
  (66, .aload_n 0, 1, 34, 0, 0, 99999),
  (67, .getfield 26, 3, 35, 6, 6, 680),
  (70, .aload_n 0, 1, 36, 0, 0, 99999),
  (71, .getfield 97, 3, 37, 6, 0, 674),
  (74, .iload_n 1, 1, 38, 0, 0, 99999),
  (75, .iastore, 1, 39, 0, 0, 99999),
  (76, .aload_n 0, 1, 40, 0, 0, 99999),
  (77, .getfield 29, 3, 41, 6, 7, 681),
  (80, .aload_n 0, 1, 42, 0, 0, 99999),
  (81, .getfield 97, 3, 43, 6, 0, 674),
  (84, .iload_n 2, 1, 44, 0, 0, 99999),
  (85, .iastore, 1, 45, 0, 0, 99999),
  (86, .aload_n 0, 1, 46, 0, 0, 99999),
  (87, .getfield 32, 3, 47, 6, 8, 682),
  (90, .aload_n 0, 1, 48, 0, 0, 99999),
  (91, .getfield 97, 3, 49, 6, 0, 674),
  (94, .iload_n 3, 1, 50, 0, 0, 99999),
  (95, .iastore, 1, 51, 0, 0, 99999),
  (96, .aload_n 0, 1, 52, 0, 0, 99999),
  (97, .getfield 35, 3, 53, 6, 9, 683),
  (100, .aload_n 0, 1, 54, 0, 0, 99999),
  (101, .getfield 97, 3, 55, 6, 0, 674),
  (104, .iload 4, 2, 56, 0, 0, 99999),
  (106, .iastore, 1, 57, 0, 0, 99999),
  (107, .aload_n 0, 1, 58, 0, 0, 99999),
  (108, .getfield 38, 3, 59, 6, 10, 684),
  (111, .aload_n 0, 1, 60, 0, 0, 99999),
  (112, .getfield 97, 3, 61, 6, 0, 674),
  (115, .bipush (-9), 2, 62, 0, 0, 99999),
  (117, .iastore, 1, 63, 0, 0, 99999),
  (118, .aload_n 0, 1, 64, 0, 0, 99999),
  (119, .getfield 41, 3, 65, 6, 11, 685),
  (122, .aload_n 0, 1, 66, 0, 0, 99999),
  (123, .getfield 97, 3, 67, 6, 0, 674),
  (126, .bipush (-9), 2, 68, 0, 0, 99999),
  (128, .iastore, 1, 69, 0, 0, 99999),
  (129, .aload_n 0, 1, 70, 0, 0, 99999),
  (130, .dup, 1, 71, 0, 0, 99999),
  (131, .getfield 97, 3, 72, 6, 0, 674),
  (134, .dup_x1, 1, 73, 0, 0, 99999),
  (135, .iconst 1, 1, 74, 0, 0, 99999),
  (136, .iadd, 1, 75, 0, 0, 99999),
  (137, .putfield 97, 3, 76, 6, 0, 674),
  (140, .ireturn, 1, 77, 0, 0, 99999)]
def M_G_team : Mth := (⟨"FloorPlansModel", "team", "(IIII)I"⟩, prog_8_method_7_code, 5, (some FieldType.int), T_M_G_team, [801, 51, 799, 800, 99999])
def T_M_G_size : List Ent := [(0, .aload_n 0, 1, 1, 0, 0, 99999),
  (1, .iload_n 1, 1, 2, 0, 0, 99999),
  (2, .invokevirtual 108, 3, 3, 110, 0, 806),
  (5, .ifCond .ne 9, 3, 4, 8, 0, 99999),
  (8, .aload_n 0, 1, 5, 0, 0, 99999),
  (9, .iconst (-1), 1, 6, 0, 0, 99999),
  (10, .invokevirtual 104, 3, 7, 119, 0, 794),
  (13, .ireturn, 1, 8, 0, 0, 99999),
  (14, .iload_n 2, 1, 9, 0, 0, 99999),
  (15, .iconst 1, 1, 10, 0, 0, 99999),
  (16, .if_icmp .ge 10, 3, 11, 15, 0, 99999),
  (19, .aload_n 0, 1, 12, 0, 0, 99999),
  (20, .bipush (-4), 2, 13, 0, 0, 99999),
  (22, .invokevirtual 104, 3, 14, 119, 0, 794),
  (25, .ireturn, 1, 15, 0, 0, 99999),
  (26, .iload_n 2, 1, 16, 0, 0, 99999),
  (27, .bipush 60, 2, 17, 0, 0, 99999),
  (29, .if_icmp .le 10, 3, 18, 22, 0, 99999),
  (32, .aload_n 0, 1, 19, 0, 0, 99999),
  (33, .bipush (-6), 2, 20, 0, 0, 99999),
  (35, .invokevirtual 104, 3, 21, 119, 0, 794),
  (38, .ireturn, 1, 22, 0, 0, 99999),
  (39, .aload_n 0, 1, 23, 0, 0, 99999),
  (40, .getfield 26, 3, 24, 6, 6, 680),
  (43, .iload_n 1, 1, 25, 0, 0, 99999),
  (44, .iaload, 1, 26, 0, 0, 99999),
  (45, .istore_n 3, 1, 27, 0, 0, 99999),
  (46, .aload_n 0, 1, 28, 0, 0, 99999),
  (47, .getfield 26, 3, 29, 6, 6, 680),
  (50, .iload_n 1, 1, 30, 0, 0, 99999),
  (51, .iload_n 2, 1, 31, 0, 0, 99999),
  (52, .iastore, 1, 32, 0, 0, 99999),
  (53, .iload_n 3, 1, 33, 0, 0, 99999),
  (54, .ireturn, 1, 34, 0, 0, 99999)]
def M_G_size : Mth := (⟨"FloorPlansModel", "size", "(II)I"⟩, prog_8_method_8_code, 4, (some FieldType.int), T_M_G_size, [805, 51, 803, 804, 99999])
def T_M_G_isTeam : List Ent := [(0, .iload_n 1, 1, 1, 0, 0, 99999),
  (1, .ifCond .lt 15, 3, 2, 8, 0, 99999),
  (4, .iload_n 1, 1, 3, 0, 0, 99999),
  (5, .aload_n 0, 1, 4, 0, 0, 99999),
  (6, .getfield 97, 3, 5, 6, 0, 674),
  (9, .if_icmp .ge 7, 3, 6, 8, 0, 99999),
  (12, .iconst 1, 1, 7, 0, 0, 99999),
  (13, .goto 4, 3, 8, 9, 0, 99999),
  (16, .iconst 0, 1, 9, 0, 0, 99999),
  (17, .ireturn, 1, 10, 0, 0, 99999)]
def M_G_isTeam : Mth := (⟨"FloorPlansModel", "isTeam", "(I)Z"⟩, prog_8_method_3_code, 2, (some FieldType.boolean), T_M_G_isTeam, [809, 51, 808, 24, 99999])
def T_M_G_sit : List Ent := [(0, .aload_n 0, 1, 1, 0, 0, 99999),
  (1, .iload_n 1, 1, 2, 0, 0, 99999),
  (2, .invokevirtual 108, 3, 3, 110, 0, 806),
  (5, .ifCond .eq 16, 3, 4, 10, 0, 99999),
  (8, .iload_n 2, 1, 5, 0, 0, 99999),
  (9, .bipush (-9), 2, 6, 0, 0, 99999),
  (11, .if_icmp .eq 16, 3, 7, 14, 0, 99999),
  (14, .iload_n 2, 1, 8, 0, 0, 99999),
  (15, .invokestatic 100, 3, 9, 109, 0, 791),
  (18, .ifCond .ne 9, 3, 10, 14, 0, 99999),
  (21, .aload_n 0, 1, 11, 0, 0, 99999),
  (22, .iconst (-1), 1, 12, 0, 0, 99999),
  (23, .invokevirtual 104, 3, 13, 119, 0, 794),
  (26, .ireturn, 1, 14, 0, 0, 99999),
  (27, .aload_n 0, 1, 15, 0, 0, 99999),
  (28, .getfield 50, 3, 16, 6, 14, 688),
  (31, .iload_n 1, 1, 17, 0, 0, 99999),
  (32, .baload, 1, 18, 0, 0, 99999),
  (33, .ifCond .eq 10, 3, 19, 23, 0, 99999),
  (36, .aload_n 0, 1, 20, 0, 0, 99999),
  (37, .bipush (-3), 2, 21, 0, 0, 99999),
  (39, .invokevirtual 104, 3, 22, 119, 0, 794),
  (42, .ireturn, 1, 23, 0, 0, 99999),
  (43, .aload_n 0, 1, 24, 0, 0, 99999),
  (44, .getfield 38, 3, 25, 6, 10, 684),
  (47, .iload_n 1, 1, 26, 0, 0, 99999),
  (48, .iaload, 1, 27, 0, 0, 99999),
  (49, .istore_n 3, 1, 28, 0, 0, 99999),
  (50, .aload_n 0, 1, 29, 0, 0, 99999),
  (51, .getfield 38, 3, 30, 6, 10, 684),
  (54, .iload_n 1, 1, 31, 0, 0, 99999),
  (55, .iload_n 2, 1, 32, 0, 0, 99999),
  (56, .iastore, 1, 33, 0, 0, 99999),
  (57, .iload_n 3, 1, 34, 0, 0, 99999),
  (58, .ireturn, 1, 35, 0, 0, 99999)]
def M_G_sit : Mth := (⟨"FloorPlansModel", "sit", "(II)I"⟩, prog_8_method_9_code, 4, (some FieldType.int), T_M_G_sit, [813, 51, 811, 812, 99999])
def T_M_G_fix : List Ent := [(0, .aload_n 0, 1, 1, 0, 0, 99999),
  (1, .iload_n 1, 1, 2, 0, 0, 99999),
  (2, .invokevirtual 108, 3, 3, 110, 0, 806),
  (5, .ifCond .ne 9, 3, 4, 8, 0, 99999),
  (8, .aload_n 0, 1, 5, 0, 0, 99999),
  (9, .iconst (-1), 1, 6, 0, 0, 99999),
  (10, .invokevirtual 104, 3, 7, 119, 0, 794),
  (13, .ireturn, 1, 8, 0, 0, 99999),
  (14, .aload_n 0, 1, 9, 0, 0, 99999),
  (15, .getfield 50, 3, 10, 6, 14, 688),
  (18, .iload_n 1, 1, 11, 0, 0, 99999),
  (19, .baload, 1, 12, 0, 0, 99999),
  (20, .iload_n 2, 1, 13, 0, 0, 99999),
  (21, .if_icmp .ne 5, 3, 14, 16, 0, 99999),
  (24, .iconst 0, 1, 15, 0, 0, 99999),
  (25, .ireturn, 1, 16, 0, 0, 99999),
  (26, .aload_n 0, 1, 17, 0, 0, 99999),
  (27, .getfield 50, 3, 18, 6, 14, 688),
  (30, .iload_n 1, 1, 19, 0, 0, 99999),
  (31, .iload_n 2, 1, 20, 0, 0, 99999),
  (32, .bastore, 1, 21, 0, 0, 99999),
  (33, .iconst 1, 1, 22, 0, 0, 99999),
  (34, .ireturn, 1, 23, 0, 0, 99999)]
def M_G_fix : Mth := (⟨"FloorPlansModel", "fix", "(IZ)I"⟩, prog_8_method_10_code, 3, (some FieldType.int), T_M_G_fix, [817, 51, 815, 816, 99999])
def T_M_G_two : List Ent := [(0, .aload_n 0, 1, 1, 0, 0, 99999),
  (1, .iload_n 1, 1, 2, 0, 0, 99999),
  (2, .invokevirtual 108, 3, 3, 110, 0, 806),
  (5, .ifCond .eq 16, 3, 4, 11, 0, 99999),
  (8, .aload_n 0, 1, 5, 0, 0, 99999),
  (9, .iload_n 2, 1, 6, 0, 0, 99999),
  (10, .invokevirtual 108, 3, 7, 110, 0, 806),
  (13, .ifCond .eq 8, 3, 8, 11, 0, 99999),
  (16, .iload_n 1, 1, 9, 0, 0, 99999),
  (17, .iload_n 2, 1, 10, 0, 0, 99999),
  (18, .if_icmp .ne 9, 3, 11, 15, 0, 99999),
  (21, .aload_n 0, 1, 12, 0, 0, 99999),
  (22, .iconst (-1), 1, 13, 0, 0, 99999),
  (23, .invokevirtual 104, 3, 14, 119, 0, 794),
  (26, .ireturn, 1, 15, 0, 0, 99999),
  (27, .iload_n 3, 1, 16, 0, 0, 99999),
  (28, .ifCond .lt 8, 3, 17, 20, 0, 99999),
  (31, .iload_n 3, 1, 18, 0, 0, 99999),
  (32, .iconst 2, 1, 19, 0, 0, 99999),
  (33, .if_icmp .le 10, 3, 20, 24, 0, 99999),
  (36, .aload_n 0, 1, 21, 0, 0, 99999),
  (37, .bipush (-2), 2, 22, 0, 0, 99999),
  (39, .invokevirtual 104, 3, 23, 119, 0, 794),
  (42, .ireturn, 1, 24, 0, 0, 99999),
  (43, .iload 4, 2, 25, 0, 0, 99999),
  (45, .ifCond .ge 10, 3, 26, 30, 0, 99999),
  (48, .aload_n 0, 1, 27, 0, 0, 99999),
  (49, .bipush (-4), 2, 28, 0, 0, 99999),
  (51, .invokevirtual 104, 3, 29, 119, 0, 794),
  (54, .ireturn, 1, 30, 0, 0, 99999),
  (55, .iload 4, 2, 31, 0, 0, 99999),
  (57, .iload_n 3, 1, 32, 0, 0, 99999),
  (58, .ifCond .ne 8, 3, 33, 35, 0, 99999),
  (61, .bipush 99, 2, 34, 0, 0, 99999),
  (63, .goto 4, 3, 35, 36, 0, 99999),
  (66, .iconst 1, 1, 36, 0, 0, 99999),
  (67, .if_icmp .le 10, 3, 37, 41, 0, 99999),
  (70, .aload_n 0, 1, 38, 0, 0, 99999),
  (71, .bipush (-6), 2, 39, 0, 0, 99999),
  (73, .invokevirtual 104, 3, 40, 119, 0, 794),
  (76, .ireturn, 1, 41, 0, 0, 99999),
  (77, .iload_n 3, 1, 42, 0, 0, 99999),
  (78, .ifCond .ne 10, 3, 43, 46, 0, 99999),
  (81, .aload_n 0, 1, 44, 0, 0, 99999),
  (82, .getfield 54, 3, 45, 6, 15, 689),
  (85, .goto 19, 3, 46, 54, 0, 99999),
  (88, .iload_n 3, 1, 47, 0, 0, 99999),
  (89, .iconst 1, 1, 48, 0, 0, 99999),
  (90, .if_icmp .ne 10, 3, 49, 52, 0, 99999),
  (93, .aload_n 0, 1, 50, 0, 0, 99999),
  (94, .getfield 57, 3, 51, 6, 16, 690),
  (97, .goto 7, 3, 52, 54, 0, 99999),
  (100, .aload_n 0, 1, 53, 0, 0, 99999),
  (101, .getfield 60, 3, 54, 6, 17, 691),
  (104, .astore 5, 2, 55, 0, 0, 99999),
  (106, .aload 5, 2, 56, 0, 0, 99999),
  (108, .bipush 16, 2, 57, 0, 0, 99999),
  (110, .iload_n 1, 1, 58, 0, 0, 99999),
  (111, .imul, 1, 59, 0, 0, 99999),
  (112, .iload_n 2, 1, 60, 0, 0, 99999),
  (113, .iadd, 1, 61, 0, 0, 99999),
  (114, .iaload, 1, 62, 0, 0, 99999),
  (115, .istore 6, 2, 63, 0, 0, 99999),
  (117, .aload 5, 2, 64, 0, 0, 99999),
  (119, .bipush 16, 2, 65, 0, 0, 99999),
  (121, .iload_n 1, 1, 66, 0, 0, 99999),
  (122, .imul, 1, 67, 0, 0, 99999),
  (123, .iload_n 2, 1, 68, 0, 0, 99999),
  (124, .iadd, 1, 69, 0, 0, 99999),
  (125, .iload 4, 2, 70, 0, 0, 99999),
  (127, .iastore, 1, 71, 0, 0, 99999),
  (128, .aload 5, 2, 72, 0, 0, 99999),
  (130, .bipush 16, 2, 73, 0, 0, 99999),
  (132, .iload_n 2, 1, 74, 0, 0, 99999),
  (133, .imul, 1, 75, 0, 0, 99999),
  (134, .iload_n 1, 1, 76, 0, 0, 99999),
  (135, .iadd, 1, 77, 0, 0, 99999),
  (136, .iload 4, 2, 78, 0, 0, 99999),
  (138, .iastore, 1, 79, 0, 0, 99999),
  (139, .iload 6, 2, 80, 0, 0, 99999),
  (141, .ireturn, 1, 81, 0, 0, 99999)]
def M_G_two : Mth := (⟨"FloorPlansModel", "two", "(IIII)I"⟩, prog_8_method_11_code, 7, (some FieldType.int), T_M_G_two, [821, 51, 819, 820, 99999])
def T_M_G_fit : List Ent := [(0, .aload_n 0, 1, 1, 0, 0, 99999),
  (1, .aload_n 0, 1, 2, 0, 0, 99999),
  (2, .getfield 38, 3, 3, 6, 10, 684),
  (5, .invokevirtual 115, 3, 4, 108, 0, 826),
  (8, .ifCond .eq 7, 3, 5, 7, 0, 99999),
  (11, .iconst 1, 1, 6, 0, 0, 99999),
  (12, .goto 4, 3, 7, 8, 0, 99999),
  (15, .iconst 0, 1, 8, 0, 0, 99999),
  (16, .ireturn, 1, 9, 0, 0, 99999)]
def M_G_fit : Mth := (⟨"FloorPlansModel", "fit", "()I"⟩, prog_8_method_13_code, 1, (some FieldType.int), T_M_G_fit, [825, 51, 823, 824, 99999])
def T_M_G_isFit : List Ent := [(0, .iconst 0, 1, 1, 0, 0, 99999),
  (1, .istore_n 2, 1, 2, 0, 0, 99999),
  (2, .iload_n 2, 1, 3, 0, 0, 99999),
  (3, .bipush 11, 2, 4, 0, 0, 99999),
  (5, .if_icmp .ge 59, 3, 5, 37, 0, 99999),
  (8, .iconst 0, 1, 6, 0, 0, 99999),
  (9, .istore_n 3, 1, 7, 0, 0, 99999),
  (10, .iconst 0, 1, 8, 0, 0, 99999),
  (11, .istore 4, 2, 9, 0, 0, 99999),
  (13, .iload 4, 2, 10, 0, 0, 99999),
  (15, .aload_n 0, 1, 11, 0, 0, 99999),
  (16, .getfield 97, 3, 12, 6, 0, 674),
  (19, .if_icmp .ge 27, 3, 13, 27, 0, 99999),
  (22, .aload_n 1, 1, 14, 0, 0, 99999),
  (23, .iload 4, 2, 15, 0, 0, 99999),
  (25, .iaload, 1, 16, 0, 0, 99999),
  (26, .iload_n 2, 1, 17, 0, 0, 99999),
  (27, .if_icmp .ne 13, 3, 18, 25, 0, 99999),
  (30, .iload_n 3, 1, 19, 0, 0, 99999),
  (31, .aload_n 0, 1, 20, 0, 0, 99999),
  (32, .getfield 26, 3, 21, 6, 6, 680),
  (35, .iload 4, 2, 22, 0, 0, 99999),
  (37, .iaload, 1, 23, 0, 0, 99999),
  (38, .iadd, 1, 24, 0, 0, 99999),
  (39, .istore_n 3, 1, 25, 0, 0, 99999),
  (40, .iinc 4 1, 3, 26, 0, 0, 99999),
  (43, .goto (-30), 3, 27, 9, 0, 99999),
  (46, .iload_n 3, 1, 28, 0, 0, 99999),
  (47, .aload_n 0, 1, 29, 0, 0, 99999),
  (48, .getfield 13, 3, 30, 6, 2, 676),
  (51, .iload_n 2, 1, 31, 0, 0, 99999),
  (52, .iaload, 1, 32, 0, 0, 99999),
  (53, .if_icmp .le 5, 3, 33, 35, 0, 99999),
  (56, .iconst 0, 1, 34, 0, 0, 99999),
  (57, .ireturn, 1, 35, 0, 0, 99999),
  (58, .iinc 2 1, 3, 36, 0, 0, 99999),
  (61, .goto (-59), 3, 37, 2, 0, 99999),
  (64, .iconst 0, 1, 38, 0, 0, 99999),
  (65, .istore_n 2, 1, 39, 0, 0, 99999),
  (66, .iload_n 2, 1, 40, 0, 0, 99999),
  (67, .aload_n 0, 1, 41, 0, 0, 99999),
  (68, .getfield 97, 3, 42, 6, 0, 674),
  (71, .if_icmp .ge 149, 3, 43, 135, 0, 99999),
  (74, .aload_n 1, 1, 44, 0, 0, 99999),
  (75, .iload_n 2, 1, 45, 0, 0, 99999),
  (76, .iaload, 1, 46, 0, 0, 99999),
  (77, .bipush (-9), 2, 47, 0, 0, 99999),
  (79, .if_icmp .ne 6, 3, 48, 49, 0, 99999),
  (82, .goto 132, 3, 49, 133, 0, 99999),
  (85, .aload_n 0, 1, 50, 0, 0, 99999),
  (86, .getfield 17, 3, 51, 6, 3, 677),
  (89, .aload_n 1, 1, 52, 0, 0, 99999),
  (90, .iload_n 2, 1, 53, 0, 0, 99999),
  (91, .iaload, 1, 54, 0, 0, 99999),
  (92, .iaload, 1, 55, 0, 0, 99999),
  (93, .aload_n 0, 1, 56, 0, 0, 99999),
  (94, .getfield 29, 3, 57, 6, 7, 681),
  (97, .iload_n 2, 1, 58, 0, 0, 99999),
  (98, .iaload, 1, 59, 0, 0, 99999),
  (99, .iand, 1, 60, 0, 0, 99999),
  (100, .aload_n 0, 1, 61, 0, 0, 99999),
  (101, .getfield 29, 3, 62, 6, 7, 681),
  (104, .iload_n 2, 1, 63, 0, 0, 99999),
  (105, .iaload, 1, 64, 0, 0, 99999),
  (106, .if_icmp .eq 5, 3, 65, 67, 0, 99999),
  (109, .iconst 0, 1, 66, 0, 0, 99999),
  (110, .ireturn, 1, 67, 0, 0, 99999),
  (111, .iconst 0, 1, 68, 0, 0, 99999),
  (112, .istore_n 3, 1, 69, 0, 0, 99999),
  (113, .iload_n 3, 1, 70, 0, 0, 99999),
  (114, .aload_n 0, 1, 71, 0, 0, 99999),
  (115, .getfield 97, 3, 72, 6, 0, 674),
  (118, .if_icmp .ge 96, 3, 73, 133, 0, 99999),
  (121, .iload_n 2, 1, 74, 0, 0, 99999),
  (122, .iload_n 3, 1, 75, 0, 0, 99999),
  (123, .if_icmp .eq 85, 3, 76, 131, 0, 99999),
  (126, .aload_n 1, 1, 77, 0, 0, 99999),
  (127, .iload_n 3, 1, 78, 0, 0, 99999),
  (128, .iaload, 1, 79, 0, 0, 99999),
  (129, .bipush (-9), 2, 80, 0, 0, 99999),
  (131, .if_icmp .ne 6, 3, 81, 82, 0, 99999),
  (134, .goto 74, 3, 82, 131, 0, 99999),
  (137, .aload_n 0, 1, 83, 0, 0, 99999),
  (138, .getfield 60, 3, 84, 6, 17, 691),
  (141, .bipush 16, 2, 85, 0, 0, 99999),
  (143, .iload_n 2, 1, 86, 0, 0, 99999),
  (144, .imul, 1, 87, 0, 0, 99999),
  (145, .iload_n 3, 1, 88, 0, 0, 99999),
  (146, .iadd, 1, 89, 0, 0, 99999),
  (147, .iaload, 1, 90, 0, 0, 99999),
  (148, .iconst 1, 1, 91, 0, 0, 99999),
  (149, .if_icmp .ne 18, 3, 92, 103, 0, 99999),
  (152, .aload_n 1, 1, 93, 0, 0, 99999),
  (153, .iload_n 2, 1, 94, 0, 0, 99999),
  (154, .iaload, 1, 95, 0, 0, 99999),
  (155, .aload_n 1, 1, 96, 0, 0, 99999),
  (156, .iload_n 3, 1, 97, 0, 0, 99999),
  (157, .iaload, 1, 98, 0, 0, 99999),
  (158, .invokestatic 111, 3, 99, 92, 0, 830),
  (161, .iconst 1, 1, 100, 0, 0, 99999),
  (162, .if_icmp .le 5, 3, 101, 103, 0, 99999),
  (165, .iconst 0, 1, 102, 0, 0, 99999),
  (166, .ireturn, 1, 103, 0, 0, 99999),
  (167, .aload_n 1, 1, 104, 0, 0, 99999),
  (168, .iload_n 2, 1, 105, 0, 0, 99999),
  (169, .iaload, 1, 106, 0, 0, 99999),
  (170, .aload_n 1, 1, 107, 0, 0, 99999),
  (171, .iload_n 3, 1, 108, 0, 0, 99999),
  (172, .iaload, 1, 109, 0, 0, 99999),
  (173, .if_icmp .ne 35, 3, 110, 131, 0, 99999),
  (176, .aload_n 0, 1, 111, 0, 0, 99999),
  (177, .getfield 57, 3, 112, 6, 16, 690),
  (180, .bipush 16, 2, 113, 0, 0, 99999),
  (182, .iload_n 2, 1, 114, 0, 0, 99999),
  (183, .imul, 1, 115, 0, 0, 99999),
  (184, .iload_n 3, 1, 116, 0, 0, 99999),
  (185, .iadd, 1, 117, 0, 0, 99999),
  (186, .iaload, 1, 118, 0, 0, 99999),
  (187, .iconst 1, 1, 119, 0, 0, 99999),
  (188, .if_icmp .eq 18, 3, 120, 129, 0, 99999),
  (191, .aload_n 0, 1, 121, 0, 0, 99999),
  (192, .getfield 32, 3, 122, 6, 8, 682),
  (195, .iload_n 3, 1, 123, 0, 0, 99999),
  (196, .iaload, 1, 124, 0, 0, 99999),
  (197, .aload_n 0, 1, 125, 0, 0, 99999),
  (198, .getfield 35, 3, 126, 6, 9, 683),
  (201, .iload_n 2, 1, 127, 0, 0, 99999),
  (202, .iaload, 1, 128, 0, 0, 99999),
  (203, .if_icmp .le 5, 3, 129, 131, 0, 99999),
  (206, .iconst 0, 1, 130, 0, 0, 99999),
  (207, .ireturn, 1, 131, 0, 0, 99999),
  (208, .iinc 3 1, 3, 132, 0, 0, 99999),
  (211, .goto (-98), 3, 133, 69, 0, 99999),
  (214, .iinc 2 1, 3, 134, 0, 0, 99999),
  (217, .goto (-151), 3, 135, 39, 0, 99999),
  (220, .iconst 1, 1, 136, 0, 0, 99999),
  (221, .ireturn, 1, 137, 0, 0, 99999)]
def M_G_isFit : Mth := (⟨"FloorPlansModel", "isFit", "([I)Z"⟩, prog_8_method_12_code, 5, (some FieldType.boolean), T_M_G_isFit, [829, 51, 828, 25, 99999])
def T_M_G_apart : List Ent := [(0, .iload_n 0, 1, 1, 0, 0, 99999),
  (1, .iload_n 1, 1, 2, 0, 0, 99999),
  (2, .if_icmp .ge 9, 3, 3, 7, 0, 99999),
  (5, .iload_n 1, 1, 4, 0, 0, 99999),
  (6, .iload_n 0, 1, 5, 0, 0, 99999),
  (7, .isub, 1, 6, 0, 0, 99999),
  (8, .goto 6, 3, 7, 10, 0, 99999),
  (11, .iload_n 0, 1, 8, 0, 0, 99999),
  (12, .iload_n 1, 1, 9, 0, 0, 99999),
  (13, .isub, 1, 10, 0, 0, 99999),
  (14, .ireturn, 1, 11, 0, 0, 99999)]
def M_G_apart : Mth := (⟨"FloorPlansModel", "apart", "(II)I"⟩, prog_8_method_5_code, 2, (some FieldType.int), T_M_G_apart, [832, 51, 99999, 99999, 831])
def T_M_G_lift : List Ent := [(0, .iload_n 1, 1, 1, 0, 0, 99999),
  (1, .iconst 1, 1, 2, 0, 0, 99999),
  (2, .if_icmp .ge 10, 3, 3, 7, 0, 99999),
  (5, .aload_n 0, 1, 4, 0, 0, 99999),
  (6, .bipush (-4), 2, 5, 0, 0, 99999),
  (8, .invokevirtual 104, 3, 6, 119, 0, 794),
  (11, .ireturn, 1, 7, 0, 0, 99999),
  (12, .iload_n 1, 1, 8, 0, 0, 99999),
  (13, .bipush 9, 2, 9, 0, 0, 99999),
  (15, .if_icmp .le 10, 3, 10, 14, 0, 99999),
  (18, .aload_n 0, 1, 11, 0, 0, 99999),
  (19, .bipush (-6), 2, 12, 0, 0, 99999),
  (21, .invokevirtual 104, 3, 13, 119, 0, 794),
  (24, .ireturn, 1, 14, 0, 0, 99999),
  (25, .aload_n 0, 1, 15, 0, 0, 99999),
  (26, .getfield 7, 3, 16, 6, 1, 675),
  (29, .istore_n 2, 1, 17, 0, 0, 99999),
  (30, .aload_n 0, 1, 18, 0, 0, 99999),
  (31, .iload_n 1, 1, 19, 0, 0, 99999),
  (32, .putfield 7, 3, 20, 6, 1, 675),
  (35, .iload_n 2, 1, 21, 0, 0, 99999),
  (36, .ireturn, 1, 22, 0, 0, 99999)]
def M_G_lift : Mth := (⟨"FloorPlansModel", "lift", "(I)I"⟩, prog_8_method_14_code, 3, (some FieldType.int), T_M_G_lift, [836, 51, 834, 835, 99999])
def T_M_G_walked : List Ent := [(0, .aload_n 0, 1, 1, 0, 0, 99999),
  (1, .aload_n 0, 1, 2, 0, 0, 99999),
  (2, .getfield 38, 3, 3, 6, 10, 684),
  (5, .invokevirtual 119, 3, 4, 139, 0, 841),
  (8, .ireturn, 1, 5, 0, 0, 99999)]
def M_G_walked : Mth := (⟨"FloorPlansModel", "walked", "()I"⟩, prog_8_method_16_code, 1, (some FieldType.int), T_M_G_walked, [840, 51, 838, 839, 99999])
def T_M_G_walks : List Ent := [(0, .iconst 0, 1, 1, 0, 0, 99999),
  (1, .istore_n 2, 1, 2, 0, 0, 99999),
  (2, .iconst 0, 1, 3, 0, 0, 99999),
  (3, .istore_n 3, 1, 4, 0, 0, 99999),
  (4, .iload_n 3, 1, 5, 0, 0, 99999),
  (5, .aload_n 0, 1, 6, 0, 0, 99999),
  (6, .getfield 97, 3, 7, 6, 0, 674),
  (9, .if_icmp .ge 67, 3, 8, 46, 0, 99999),
  (12, .iconst 0, 1, 9, 0, 0, 99999),
  (13, .istore 4, 2, 10, 0, 0, 99999),
  (15, .iload 4, 2, 11, 0, 0, 99999),
  (17, .iload_n 3, 1, 12, 0, 0, 99999),
  (18, .if_icmp .ge 52, 3, 13, 44, 0, 99999),
  (21, .aload_n 1, 1, 14, 0, 0, 99999),
  (22, .iload_n 3, 1, 15, 0, 0, 99999),
  (23, .iaload, 1, 16, 0, 0, 99999),
  (24, .bipush (-9), 2, 17, 0, 0, 99999),
  (26, .if_icmp .eq 38, 3, 18, 42, 0, 99999),
  (29, .aload_n 1, 1, 19, 0, 0, 99999),
  (30, .iload 4, 2, 20, 0, 0, 99999),
  (32, .iaload, 1, 21, 0, 0, 99999),
  (33, .bipush (-9), 2, 22, 0, 0, 99999),
  (35, .if_icmp .eq 29, 3, 23, 42, 0, 99999),
  (38, .iload_n 2, 1, 24, 0, 0, 99999),
  (39, .aload_n 0, 1, 25, 0, 0, 99999),
  (40, .getfield 54, 3, 26, 6, 15, 689),
  (43, .bipush 16, 2, 27, 0, 0, 99999),
  (45, .iload_n 3, 1, 28, 0, 0, 99999),
  (46, .imul, 1, 29, 0, 0, 99999),
  (47, .iload 4, 2, 30, 0, 0, 99999),
  (49, .iadd, 1, 31, 0, 0, 99999),
  (50, .iaload, 1, 32, 0, 0, 99999),
  (51, .aload_n 1, 1, 33, 0, 0, 99999),
  (52, .iload_n 3, 1, 34, 0, 0, 99999),
  (53, .iaload, 1, 35, 0, 0, 99999),
  (54, .aload_n 1, 1, 36, 0, 0, 99999),
  (55, .iload 4, 2, 37, 0, 0, 99999),
  (57, .iaload, 1, 38, 0, 0, 99999),
  (58, .invokestatic 111, 3, 39, 92, 0, 830),
  (61, .imul, 1, 40, 0, 0, 99999),
  (62, .iadd, 1, 41, 0, 0, 99999),
  (63, .istore_n 2, 1, 42, 0, 0, 99999),
  (64, .iinc 4 1, 3, 43, 0, 0, 99999),
  (67, .goto (-52), 3, 44, 10, 0, 99999),
  (70, .iinc 3 1, 3, 45, 0, 0, 99999),
  (73, .goto (-69), 3, 46, 4, 0, 99999),
  (76, .iload_n 2, 1, 47, 0, 0, 99999),
  (77, .aload_n 0, 1, 48, 0, 0, 99999),
  (78, .getfield 7, 3, 49, 6, 1, 675),
  (81, .imul, 1, 50, 0, 0, 99999),
  (82, .ireturn, 1, 51, 0, 0, 99999)]
def M_G_walks : Mth := (⟨"FloorPlansModel", "walks", "([I)I"⟩, prog_8_method_15_code, 5, (some FieldType.int), T_M_G_walks, [844, 51, 843, 26, 99999])
def T_M_G_best : List Ent := [(0, .aload_n 0, 1, 1, 0, 0, 99999),
  (1, .iload_n 1, 1, 2, 0, 0, 99999),
  (2, .iload_n 2, 1, 3, 0, 0, 99999),
  (3, .iload_n 3, 1, 4, 0, 0, 99999),
  (4, .invokevirtual 132, 3, 5, 123, 0, 849),
  (7, .istore 4, 2, 6, 0, 0, 99999),
  (9, .iload 4, 2, 7, 0, 0, 99999),
  (11, .ifCond .eq 10, 3, 8, 12, 0, 99999),
  (14, .aload_n 0, 1, 9, 0, 0, 99999),
  (15, .iload 4, 2, 10, 0, 0, 99999),
  (17, .invokevirtual 104, 3, 11, 119, 0, 794),
  (20, .ireturn, 1, 12, 0, 0, 99999),
  (21, .aload_n 0, 1, 13, 0, 0, 99999),
  (22, .iload_n 1, 1, 14, 0, 0, 99999),
  (23, .iload_n 2, 1, 15, 0, 0, 99999),
  (24, .invokevirtual 136, 3, 16, 126, 0, 856),
  (27, .ifCond .ne 6, 3, 17, 19, 0, 99999),
  (30, .bipush (-9), 2, 18, 0, 0, 99999),
  (32, .ireturn, 1, 19, 0, 0, 99999),
  (33, .iload_n 3, 1, 20, 0, 0, 99999),
  (34, .ifCond .ne 10, 3, 21, 24, 0, 99999),
  (37, .aload_n 0, 1, 22, 0, 0, 99999),
  (38, .getfield 126, 3, 23, 6, 29, 703),
  (41, .goto 7, 3, 24, 26, 0, 99999),
  (44, .aload_n 0, 1, 25, 0, 0, 99999),
  (45, .getfield 129, 3, 26, 6, 30, 704),
  (48, .ireturn, 1, 27, 0, 0, 99999)]
def M_G_best : Mth := (⟨"FloorPlansModel", "best", "(III)I"⟩, prog_8_method_20_code, 5, (some FieldType.int), T_M_G_best, [848, 51, 846, 847, 99999])
def T_M_G_refuses : List Ent := [(0, .iload_n 1, 1, 1, 0, 0, 99999),
  (1, .iconst 1, 1, 2, 0, 0, 99999),
  (2, .if_icmp .lt 25, 3, 3, 15, 0, 99999),
  (5, .iload_n 1, 1, 4, 0, 0, 99999),
  (6, .sipush 2048, 3, 5, 0, 0, 99999),
  (9, .if_icmp .ge 18, 3, 6, 15, 0, 99999),
  (12, .iload_n 2, 1, 7, 0, 0, 99999),
  (13, .iconst 1, 1, 8, 0, 0, 99999),
  (14, .if_icmp .lt 13, 3, 9, 15, 0, 99999),
  (17, .iload_n 2, 1, 10, 0, 0, 99999),
  (18, .iconst 1, 1, 11, 0, 0, 99999),
  (19, .aload_n 0, 1, 12, 0, 0, 99999),
  (20, .getfield 97, 3, 13, 6, 0, 674),
  (23, .ishl, 1, 14, 0, 0, 99999),
  (24, .if_icmp .lt 5, 3, 15, 17, 0, 99999),
  (27, .iconst (-1), 1, 16, 0, 0, 99999),
  (28, .ireturn, 1, 17, 0, 0, 99999),
  (29, .iload_n 3, 1, 18, 0, 0, 99999),
  (30, .ifCond .lt 8, 3, 19, 22, 0, 99999),
  (33, .iload_n 3, 1, 20, 0, 0, 99999),
  (34, .iconst 1, 1, 21, 0, 0, 99999),
  (35, .if_icmp .le 6, 3, 22, 24, 0, 99999),
  (38, .bipush (-2), 2, 23, 0, 0, 99999),
  (40, .ireturn, 1, 24, 0, 0, 99999),
  (41, .iconst 0, 1, 25, 0, 0, 99999),
  (42, .istore 4, 2, 26, 0, 0, 99999),
  (44, .iload 4, 2, 27, 0, 0, 99999),
  (46, .aload_n 0, 1, 28, 0, 0, 99999),
  (47, .getfield 97, 3, 29, 6, 0, 674),
  (50, .if_icmp .ge 32, 3, 30, 46, 0, 99999),
  (53, .iload_n 2, 1, 31, 0, 0, 99999),
  (54, .iload 4, 2, 32, 0, 0, 99999),
  (56, .ishr, 1, 33, 0, 0, 99999),
  (57, .iconst 1, 1, 34, 0, 0, 99999),
  (58, .iand, 1, 35, 0, 0, 99999),
  (59, .iconst 1, 1, 36, 0, 0, 99999),
  (60, .if_icmp .ne 16, 3, 37, 44, 0, 99999),
  (63, .aload_n 0, 1, 38, 0, 0, 99999),
  (64, .getfield 50, 3, 39, 6, 14, 688),
  (67, .iload 4, 2, 40, 0, 0, 99999),
  (69, .baload, 1, 41, 0, 0, 99999),
  (70, .ifCond .eq 6, 3, 42, 44, 0, 99999),
  (73, .bipush (-3), 2, 43, 0, 0, 99999),
  (75, .ireturn, 1, 44, 0, 0, 99999),
  (76, .iinc 4 1, 3, 45, 0, 0, 99999),
  (79, .goto (-35), 3, 46, 26, 0, 99999),
  (82, .iload_n 1, 1, 47, 0, 0, 99999),
  (83, .invokestatic 123, 3, 48, 96, 0, 853),
  (86, .iconst 4, 1, 49, 0, 0, 99999),
  (87, .if_icmp .gt 12, 3, 50, 54, 0, 99999),
  (90, .iload_n 2, 1, 51, 0, 0, 99999),
  (91, .invokestatic 123, 3, 52, 96, 0, 853),
  (94, .bipush 7, 2, 53, 0, 0, 99999),
  (96, .if_icmp .le 8, 3, 54, 56, 0, 99999),
  (99, .bipush (-6), 2, 55, 0, 0, 99999),
  (101, .goto 4, 3, 56, 57, 0, 99999),
  (104, .iconst 0, 1, 57, 0, 0, 99999),
  (105, .ireturn, 1, 58, 0, 0, 99999)]
def M_G_refuses : Mth := (⟨"FloorPlansModel", "refuses", "(III)I"⟩, prog_8_method_18_code, 5, (some FieldType.int), T_M_G_refuses, [852, 51, 851, 27, 99999])
def T_M_G_bits : List Ent := [(0, .iconst 0, 1, 1, 0, 0, 99999),
  (1, .istore_n 1, 1, 2, 0, 0, 99999),
  (2, .iconst 0, 1, 3, 0, 0, 99999),
  (3, .istore_n 2, 1, 4, 0, 0, 99999),
  (4, .iload_n 2, 1, 5, 0, 0, 99999),
  (5, .bipush 16, 2, 6, 0, 0, 99999),
  (7, .if_icmp .ge 17, 3, 7, 17, 0, 99999),
  (10, .iload_n 1, 1, 8, 0, 0, 99999),
  (11, .iload_n 0, 1, 9, 0, 0, 99999),
  (12, .iload_n 2, 1, 10, 0, 0, 99999),
  (13, .ishr, 1, 11, 0, 0, 99999),
  (14, .iconst 1, 1, 12, 0, 0, 99999),
  (15, .iand, 1, 13, 0, 0, 99999),
  (16, .iadd, 1, 14, 0, 0, 99999),
  (17, .istore_n 1, 1, 15, 0, 0, 99999),
  (18, .iinc 2 1, 3, 16, 0, 0, 99999),
  (21, .goto (-17), 3, 17, 4, 0, 99999),
  (24, .iload_n 1, 1, 18, 0, 0, 99999),
  (25, .ireturn, 1, 19, 0, 0, 99999)]
def M_G_bits : Mth := (⟨"FloorPlansModel", "bits", "(I)I"⟩, prog_8_method_17_code, 3, (some FieldType.int), T_M_G_bits, [855, 51, 99999, 99999, 854])
def T_M_G_seats : List Ent := [(0, .iconst 0, 1, 1, 0, 0, 99999),
  (1, .istore_n 3, 1, 2, 0, 0, 99999),
  (2, .iconst 0, 1, 3, 0, 0, 99999),
  (3, .istore 4, 2, 4, 0, 0, 99999),
  (5, .iconst 0, 1, 5, 0, 0, 99999),
  (6, .istore 5, 2, 6, 0, 0, 99999),
  (8, .iload 5, 2, 7, 0, 0, 99999),
  (10, .bipush 11, 2, 8, 0, 0, 99999),
  (12, .if_icmp .ge 30, 3, 9, 24, 0, 99999),
  (15, .iload_n 1, 1, 10, 0, 0, 99999),
  (16, .iload 5, 2, 11, 0, 0, 99999),
  (18, .ishr, 1, 12, 0, 0, 99999),
  (19, .iconst 1, 1, 13, 0, 0, 99999),
  (20, .iand, 1, 14, 0, 0, 99999),
  (21, .iconst 1, 1, 15, 0, 0, 99999),
  (22, .if_icmp .ne 14, 3, 16, 22, 0, 99999),
  (25, .aload_n 0, 1, 17, 0, 0, 99999),
  (26, .getfield 84, 3, 18, 6, 25, 699),
  (29, .iload_n 3, 1, 19, 0, 0, 99999),
  (30, .iinc 3 1, 3, 20, 0, 0, 99999),
  (33, .iload 5, 2, 21, 0, 0, 99999),
  (35, .iastore, 1, 22, 0, 0, 99999),
  (36, .iinc 5 1, 3, 23, 0, 0, 99999),
  (39, .goto (-31), 3, 24, 6, 0, 99999),
  (42, .iconst 0, 1, 25, 0, 0, 99999),
  (43, .istore 5, 2, 26, 0, 0, 99999),
  (45, .iload 5, 2, 27, 0, 0, 99999),
  (47, .aload_n 0, 1, 28, 0, 0, 99999),
  (48, .getfield 97, 3, 29, 6, 0, 674),
  (51, .if_icmp .ge 45, 3, 30, 53, 0, 99999),
  (54, .aload_n 0, 1, 31, 0, 0, 99999),
  (55, .getfield 75, 3, 32, 6, 22, 696),
  (58, .iload 5, 2, 33, 0, 0, 99999),
  (60, .aload_n 0, 1, 34, 0, 0, 99999),
  (61, .getfield 38, 3, 35, 6, 10, 684),
  (64, .iload 5, 2, 36, 0, 0, 99999),
  (66, .iaload, 1, 37, 0, 0, 99999),
  (67, .iastore, 1, 38, 0, 0, 99999),
  (68, .iload_n 2, 1, 39, 0, 0, 99999),
  (69, .iload 5, 2, 40, 0, 0, 99999),
  (71, .ishr, 1, 41, 0, 0, 99999),
  (72, .iconst 1, 1, 42, 0, 0, 99999),
  (73, .iand, 1, 43, 0, 0, 99999),
  (74, .iconst 1, 1, 44, 0, 0, 99999),
  (75, .if_icmp .ne 15, 3, 45, 51, 0, 99999),
  (78, .aload_n 0, 1, 46, 0, 0, 99999),
  (79, .getfield 81, 3, 47, 6, 24, 698),
  (82, .iload 4, 2, 48, 0, 0, 99999),
  (84, .iinc 4 1, 3, 49, 0, 0, 99999),
  (87, .iload 5, 2, 50, 0, 0, 99999),
  (89, .iastore, 1, 51, 0, 0, 99999),
  (90, .iinc 5 1, 3, 52, 0, 0, 99999),
  (93, .goto (-48), 3, 53, 26, 0, 99999),
  (96, .iconst 1, 1, 54, 0, 0, 99999),
  (97, .istore 5, 2, 55, 0, 0, 99999),
  (99, .iconst 0, 1, 56, 0, 0, 99999),
  (100, .istore 6, 2, 57, 0, 0, 99999),
  (102, .iload 6, 2, 58, 0, 0, 99999),
  (104, .iload 4, 2, 59, 0, 0, 99999),
  (106, .if_icmp .ge 15, 3, 60, 66, 0, 99999),
  (109, .iload 5, 2, 61, 0, 0, 99999),
  (111, .iload_n 3, 1, 62, 0, 0, 99999),
  (112, .imul, 1, 63, 0, 0, 99999),
  (113, .istore 5, 2, 64, 0, 0, 99999),
  (115, .iinc 6 1, 3, 65, 0, 0, 99999),
  (118, .goto (-16), 3, 66, 57, 0, 99999),
  (121, .iconst 0, 1, 67, 0, 0, 99999),
  (122, .istore 6, 2, 68, 0, 0, 99999),
  (124, .iconst 0, 1, 69, 0, 0, 99999),
  (125, .istore 7, 2, 70, 0, 0, 99999),
  (127, .iload 7, 2, 71, 0, 0, 99999),
  (129, .iload 5, 2, 72, 0, 0, 99999),
  (131, .if_icmp .ge 196, 3, 73, 170, 0, 99999),
  (134, .iload 7, 2, 74, 0, 0, 99999),
  (136, .istore 8, 2, 75, 0, 0, 99999),
  (138, .iconst 0, 1, 76, 0, 0, 99999),
  (139, .istore 9, 2, 77, 0, 0, 99999),
  (141, .iload 4, 2, 78, 0, 0, 99999),
  (143, .iconst 1, 1, 79, 0, 0, 99999),
  (144, .isub, 1, 80, 0, 0, 99999),
  (145, .istore 10, 2, 81, 0, 0, 99999),
  (147, .iload 10, 2, 82, 0, 0, 99999),
  (149, .ifCond .lt 66, 3, 83, 118, 0, 99999),
  (152, .aload_n 0, 1, 84, 0, 0, 99999),
  (153, .getfield 75, 3, 85, 6, 22, 696),
  (156, .aload_n 0, 1, 86, 0, 0, 99999),
  (157, .getfield 81, 3, 87, 6, 24, 698),
  (160, .iload 10, 2, 88, 0, 0, 99999),
  (162, .iaload, 1, 89, 0, 0, 99999),
  (163, .aload_n 0, 1, 90, 0, 0, 99999),
  (164, .getfield 84, 3, 91, 6, 25, 699),
  (167, .iload 8, 2, 92, 0, 0, 99999),
  (169, .iload_n 3, 1, 93, 0, 0, 99999),
  (170, .irem, 1, 94, 0, 0, 99999),
  (171, .iaload, 1, 95, 0, 0, 99999),
  (172, .iastore, 1, 96, 0, 0, 99999),
  (173, .iload 8, 2, 97, 0, 0, 99999),
  (175, .iload_n 3, 1, 98, 0, 0, 99999),
  (176, .idiv, 1, 99, 0, 0, 99999),
  (177, .istore 8, 2, 100, 0, 0, 99999),
  (179, .aload_n 0, 1, 101, 0, 0, 99999),
  (180, .getfield 75, 3, 102, 6, 22, 696),
  (183, .aload_n 0, 1, 103, 0, 0, 99999),
  (184, .getfield 81, 3, 104, 6, 24, 698),
  (187, .iload 10, 2, 105, 0, 0, 99999),
  (189, .iaload, 1, 106, 0, 0, 99999),
  (190, .iaload, 1, 107, 0, 0, 99999),
  (191, .aload_n 0, 1, 108, 0, 0, 99999),
  (192, .getfield 38, 3, 109, 6, 10, 684),
  (195, .aload_n 0, 1, 110, 0, 0, 99999),
  (196, .getfield 81, 3, 111, 6, 24, 698),
  (199, .iload 10, 2, 112, 0, 0, 99999),
  (201, .iaload, 1, 113, 0, 0, 99999),
  (202, .iaload, 1, 114, 0, 0, 99999),
  (203, .if_icmp .eq 6, 3, 115, 116, 0, 99999),
  (206, .iinc 9 1, 3, 116, 0, 0, 99999),
  (209, .iinc 10 (-1), 3, 117, 0, 0, 99999),
  (212, .goto (-65), 3, 118, 81, 0, 99999),
  (215, .aload_n 0, 1, 119, 0, 0, 99999),
  (216, .aload_n 0, 1, 120, 0, 0, 99999),
  (217, .getfield 75, 3, 121, 6, 22, 696),
  (220, .invokevirtual 119, 3, 122, 139, 0, 841),
  (223, .istore 10, 2, 123, 0, 0, 99999),
  (225, .iload 6, 2, 124, 0, 0, 99999),
  (227, .ifCond .eq 33, 3, 125, 138, 0, 99999),
  (230, .iload 10, 2, 126, 0, 0, 99999),
  (232, .aload_n 0, 1, 127, 0, 0, 99999),
  (233, .getfield 126, 3, 128, 6, 29, 703),
  (236, .if_icmp .gt 85, 3, 129, 168, 0, 99999),
  (239, .iload 10, 2, 130, 0, 0, 99999),
  (241, .aload_n 0, 1, 131, 0, 0, 99999),
  (242, .getfield 126, 3, 132, 6, 29, 703),
  (245, .if_icmp .ne 15, 3, 133, 138, 0, 99999),
  (248, .iload 9, 2, 134, 0, 0, 99999),
  (250, .aload_n 0, 1, 135, 0, 0, 99999),
  (251, .getfield 129, 3, 136, 6, 30, 704),
  (254, .if_icmp .lt 6, 3, 137, 138, 0, 99999),
  (257, .goto 64, 3, 138, 168, 0, 99999),
  (260, .aload_n 0, 1, 139, 0, 0, 99999),
  (261, .aload_n 0, 1, 140, 0, 0, 99999),
  (262, .getfield 75, 3, 141, 6, 22, 696),
  (265, .invokevirtual 115, 3, 142, 108, 0, 826),
  (268, .ifCond .ne 6, 3, 143, 144, 0, 99999),
  (271, .goto 50, 3, 144, 168, 0, 99999),
  (274, .iconst 1, 1, 145, 0, 0, 99999),
  (275, .istore 6, 2, 146, 0, 0, 99999),
  (277, .aload_n 0, 1, 147, 0, 0, 99999),
  (278, .iload 10, 2, 148, 0, 0, 99999),
  (280, .putfield 126, 3, 149, 6, 29, 703),
  (283, .aload_n 0, 1, 150, 0, 0, 99999),
  (284, .iload 9, 2, 151, 0, 0, 99999),
  (286, .putfield 129, 3, 152, 6, 30, 704),
  (289, .iconst 0, 1, 153, 0, 0, 99999),
  (290, .istore 11, 2, 154, 0, 0, 99999),
  (292, .iload 11, 2, 155, 0, 0, 99999),
  (294, .aload_n 0, 1, 156, 0, 0, 99999),
  (295, .getfield 97, 3, 157, 6, 0, 674),
  (298, .if_icmp .ge 23, 3, 158, 168, 0, 99999),
  (301, .aload_n 0, 1, 159, 0, 0, 99999),
  (302, .getfield 78, 3, 160, 6, 23, 697),
  (305, .iload 11, 2, 161, 0, 0, 99999),
  (307, .aload_n 0, 1, 162, 0, 0, 99999),
  (308, .getfield 75, 3, 163, 6, 22, 696),
  (311, .iload 11, 2, 164, 0, 0, 99999),
  (313, .iaload, 1, 165, 0, 0, 99999),
  (314, .iastore, 1, 166, 0, 0, 99999),
  (315, .iinc 11 1, 3, 167, 0, 0, 99999),
  (318, .goto (-26), 3, 168, 154, 0, 99999),
  (321, .iinc 7 1, 3, 169, 0, 0, 99999),
  (324, .goto (-197), 3, 170, 70, 0, 99999),
  (327, .iload 6, 2, 171, 0, 0, 99999),
  (329, .ireturn, 1, 172, 0, 0, 99999)]
def M_G_seats : Mth := (⟨"FloorPlansModel", "seats", "(II)Z"⟩, prog_8_method_19_code, 12, (some FieldType.boolean), T_M_G_seats, [859, 51, 858, 28, 99999])
def T_M_G_bestOf : List Ent := [(0, .aload_n 0, 1, 1, 0, 0, 99999),
  (1, .iload_n 1, 1, 2, 0, 0, 99999),
  (2, .iload_n 2, 1, 3, 0, 0, 99999),
  (3, .iconst 0, 1, 4, 0, 0, 99999),
  (4, .invokevirtual 132, 3, 5, 123, 0, 849),
  (7, .istore 4, 2, 6, 0, 0, 99999),
  (9, .iload 4, 2, 7, 0, 0, 99999),
  (11, .ifCond .eq 10, 3, 8, 12, 0, 99999),
  (14, .aload_n 0, 1, 9, 0, 0, 99999),
  (15, .iload 4, 2, 10, 0, 0, 99999),
  (17, .invokevirtual 104, 3, 11, 119, 0, 794),
  (20, .ireturn, 1, 12, 0, 0, 99999),
  (21, .aload_n 0, 1, 13, 0, 0, 99999),
  (22, .iload_n 3, 1, 14, 0, 0, 99999),
  (23, .invokevirtual 108, 3, 15, 110, 0, 806),
  (26, .ifCond .eq 11, 3, 16, 22, 0, 99999),
  (29, .iload_n 2, 1, 17, 0, 0, 99999),
  (30, .iload_n 3, 1, 18, 0, 0, 99999),
  (31, .ishr, 1, 19, 0, 0, 99999),
  (32, .iconst 1, 1, 20, 0, 0, 99999),
  (33, .iand, 1, 21, 0, 0, 99999),
  (34, .ifCond .ne 9, 3, 22, 26, 0, 99999),
  (37, .aload_n 0, 1, 23, 0, 0, 99999),
  (38, .iconst (-1), 1, 24, 0, 0, 99999),
  (39, .invokevirtual 104, 3, 25, 119, 0, 794),
  (42, .ireturn, 1, 26, 0, 0, 99999),
  (43, .aload_n 0, 1, 27, 0, 0, 99999),
  (44, .iload_n 1, 1, 28, 0, 0, 99999),
  (45, .iload_n 2, 1, 29, 0, 0, 99999),
  (46, .invokevirtual 136, 3, 30, 126, 0, 856),
  (49, .ifCond .eq 12, 3, 31, 36, 0, 99999),
  (52, .aload_n 0, 1, 32, 0, 0, 99999),
  (53, .getfield 78, 3, 33, 6, 23, 697),
  (56, .iload_n 3, 1, 34, 0, 0, 99999),
  (57, .iaload, 1, 35, 0, 0, 99999),
  (58, .goto 5, 3, 36, 37, 0, 99999),
  (61, .bipush (-9), 2, 37, 0, 0, 99999),
  (63, .ireturn, 1, 38, 0, 0, 99999)]
def M_G_bestOf : Mth := (⟨"FloorPlansModel", "bestOf", "(III)I"⟩, prog_8_method_21_code, 5, (some FieldType.int), T_M_G_bestOf, [863, 51, 861, 862, 99999])
def T_M_G_seat : List Ent := [(0, .aload_n 0, 1, 1, 0, 0, 99999),
  (1, .iload_n 1, 1, 2, 0, 0, 99999),
  (2, .iload_n 2, 1, 3, 0, 0, 99999),
  (3, .iconst 0, 1, 4, 0, 0, 99999),
  (4, .invokevirtual 132, 3, 5, 123, 0, 849),
  (7, .istore_n 3, 1, 6, 0, 0, 99999),
  (8, .iload_n 3, 1, 7, 0, 0, 99999),
  (9, .ifCond .eq 9, 3, 8, 12, 0, 99999),
  (12, .aload_n 0, 1, 9, 0, 0, 99999),
  (13, .iload_n 3, 1, 10, 0, 0, 99999),
  (14, .invokevirtual 104, 3, 11, 119, 0, 794),
  (17, .ireturn, 1, 12, 0, 0, 99999),
  (18, .aload_n 0, 1, 13, 0, 0, 99999),
  (19, .iload_n 1, 1, 14, 0, 0, 99999),
  (20, .iload_n 2, 1, 15, 0, 0, 99999),
  (21, .invokevirtual 136, 3, 16, 126, 0, 856),
  (24, .ifCond .ne 10, 3, 17, 21, 0, 99999),
  (27, .aload_n 0, 1, 18, 0, 0, 99999),
  (28, .bipush (-3), 2, 19, 0, 0, 99999),
  (30, .invokevirtual 104, 3, 20, 119, 0, 794),
  (33, .ireturn, 1, 21, 0, 0, 99999),
  (34, .iconst 0, 1, 22, 0, 0, 99999),
  (35, .istore 4, 2, 23, 0, 0, 99999),
  (37, .iload 4, 2, 24, 0, 0, 99999),
  (39, .aload_n 0, 1, 25, 0, 0, 99999),
  (40, .getfield 97, 3, 26, 6, 0, 674),
  (43, .if_icmp .ge 23, 3, 27, 37, 0, 99999),
  (46, .aload_n 0, 1, 28, 0, 0, 99999),
  (47, .getfield 38, 3, 29, 6, 10, 684),
  (50, .iload 4, 2, 30, 0, 0, 99999),
  (52, .aload_n 0, 1, 31, 0, 0, 99999),
  (53, .getfield 78, 3, 32, 6, 23, 697),
  (56, .iload 4, 2, 33, 0, 0, 99999),
  (58, .iaload, 1, 34, 0, 0, 99999),
  (59, .iastore, 1, 35, 0, 0, 99999),
  (60, .iinc 4 1, 3, 36, 0, 0, 99999),
  (63, .goto (-26), 3, 37, 23, 0, 99999),
  (66, .aload_n 0, 1, 38, 0, 0, 99999),
  (67, .getfield 129, 3, 39, 6, 30, 704),
  (70, .ireturn, 1, 40, 0, 0, 99999)]
def M_G_seat : Mth := (⟨"FloorPlansModel", "seat", "(II)I"⟩, prog_8_method_22_code, 5, (some FieldType.int), T_M_G_seat, [867, 51, 865, 866, 99999])
def T_M_G_target : List Ent := [(0, .aload_n 0, 1, 1, 0, 0, 99999),
  (1, .iload_n 1, 1, 2, 0, 0, 99999),
  (2, .invokevirtual 108, 3, 3, 110, 0, 806),
  (5, .ifCond .eq 16, 3, 4, 10, 0, 99999),
  (8, .iload_n 2, 1, 5, 0, 0, 99999),
  (9, .bipush (-9), 2, 6, 0, 0, 99999),
  (11, .if_icmp .eq 16, 3, 7, 14, 0, 99999),
  (14, .iload_n 2, 1, 8, 0, 0, 99999),
  (15, .invokestatic 100, 3, 9, 109, 0, 791),
  (18, .ifCond .ne 9, 3, 10, 14, 0, 99999),
  (21, .aload_n 0, 1, 11, 0, 0, 99999),
  (22, .iconst (-1), 1, 12, 0, 0, 99999),
  (23, .invokevirtual 104, 3, 13, 119, 0, 794),
  (26, .ireturn, 1, 14, 0, 0, 99999),
  (27, .aload_n 0, 1, 15, 0, 0, 99999),
  (28, .getfield 41, 3, 16, 6, 11, 685),
  (31, .iload_n 1, 1, 17, 0, 0, 99999),
  (32, .iaload, 1, 18, 0, 0, 99999),
  (33, .istore_n 3, 1, 19, 0, 0, 99999),
  (34, .aload_n 0, 1, 20, 0, 0, 99999),
  (35, .getfield 41, 3, 21, 6, 11, 685),
  (38, .iload_n 1, 1, 22, 0, 0, 99999),
  (39, .iload_n 2, 1, 23, 0, 0, 99999),
  (40, .iastore, 1, 24, 0, 0, 99999),
  (41, .iload_n 3, 1, 25, 0, 0, 99999),
  (42, .ireturn, 1, 26, 0, 0, 99999)]
def M_G_target : Mth := (⟨"FloorPlansModel", "target", "(II)I"⟩, prog_8_method_23_code, 4, (some FieldType.int), T_M_G_target, [871, 51, 869, 870, 99999])
def T_M_G_weekends : List Ent := [(0, .aload_n 0, 1, 1, 0, 0, 99999),
  (1, .iload_n 1, 1, 2, 0, 0, 99999),
  (2, .invokevirtual 167, 3, 3, 122, 0, 876),
  (5, .istore_n 2, 1, 4, 0, 0, 99999),
  (6, .iload_n 2, 1, 5, 0, 0, 99999),
  (7, .ifCond .eq 9, 3, 6, 10, 0, 99999),
  (10, .aload_n 0, 1, 7, 0, 0, 99999),
  (11, .iload_n 2, 1, 8, 0, 0, 99999),
  (12, .invokevirtual 104, 3, 9, 119, 0, 794),
  (15, .ireturn, 1, 10, 0, 0, 99999),
  (16, .aload_n 0, 1, 11, 0, 0, 99999),
  (17, .invokevirtual 169, 3, 12, 116, 0, 884),
  (20, .aload_n 0, 1, 13, 0, 0, 99999),
  (21, .getfield 87, 3, 14, 6, 26, 700),
  (24, .aload_n 0, 1, 15, 0, 0, 99999),
  (25, .getfield 145, 3, 16, 6, 33, 707),
  (28, .iaload, 1, 17, 0, 0, 99999),
  (29, .ireturn, 1, 18, 0, 0, 99999)]
def M_G_weekends : Mth := (⟨"FloorPlansModel", "weekends", "(I)I"⟩, prog_8_method_31_code, 3, (some FieldType.int), T_M_G_weekends, [875, 51, 873, 874, 99999])
def T_M_G_refuses1 : List Ent := [(0, .iload_n 1, 1, 1, 0, 0, 99999),
  (1, .ifCond .lt 10, 3, 2, 5, 0, 99999),
  (4, .iload_n 1, 1, 3, 0, 0, 99999),
  (5, .sipush 2048, 3, 4, 0, 0, 99999),
  (8, .if_icmp .lt 5, 3, 5, 7, 0, 99999),
  (11, .iconst (-1), 1, 6, 0, 0, 99999),
  (12, .ireturn, 1, 7, 0, 0, 99999),
  (13, .iload_n 1, 1, 8, 0, 0, 99999),
  (14, .istore_n 2, 1, 9, 0, 0, 99999),
  (15, .aload_n 0, 1, 10, 0, 0, 99999),
  (16, .iconst 0, 1, 11, 0, 0, 99999),
  (17, .putfield 139, 3, 12, 6, 31, 705),
  (20, .iconst 0, 1, 13, 0, 0, 99999),
  (21, .istore_n 3, 1, 14, 0, 0, 99999),
  (22, .iload_n 3, 1, 15, 0, 0, 99999),
  (23, .aload_n 0, 1, 16, 0, 0, 99999),
  (24, .getfield 97, 3, 17, 6, 0, 674),
  (27, .if_icmp .ge 83, 3, 18, 67, 0, 99999),
  (30, .aload_n 0, 1, 19, 0, 0, 99999),
  (31, .getfield 41, 3, 20, 6, 11, 685),
  (34, .iload_n 3, 1, 21, 0, 0, 99999),
  (35, .iaload, 1, 22, 0, 0, 99999),
  (36, .bipush (-9), 2, 23, 0, 0, 99999),
  (38, .if_icmp .ne 6, 3, 24, 25, 0, 99999),
  (41, .goto 63, 3, 25, 65, 0, 99999),
  (44, .aload_n 0, 1, 26, 0, 0, 99999),
  (45, .getfield 50, 3, 27, 6, 14, 688),
  (48, .iload_n 3, 1, 28, 0, 0, 99999),
  (49, .baload, 1, 29, 0, 0, 99999),
  (50, .ifCond .ne 14, 3, 30, 36, 0, 99999),
  (53, .aload_n 0, 1, 31, 0, 0, 99999),
  (54, .getfield 38, 3, 32, 6, 10, 684),
  (57, .iload_n 3, 1, 33, 0, 0, 99999),
  (58, .iaload, 1, 34, 0, 0, 99999),
  (59, .bipush (-9), 2, 35, 0, 0, 99999),
  (61, .if_icmp .ne 6, 3, 36, 38, 0, 99999),
  (64, .bipush (-3), 2, 37, 0, 0, 99999),
  (66, .ireturn, 1, 38, 0, 0, 99999),
  (67, .iload_n 2, 1, 39, 0, 0, 99999),
  (68, .iconst 1, 1, 40, 0, 0, 99999),
  (69, .aload_n 0, 1, 41, 0, 0, 99999),
  (70, .getfield 41, 3, 42, 6, 11, 685),
  (73, .iload_n 3, 1, 43, 0, 0, 99999),
  (74, .iaload, 1, 44, 0, 0, 99999),
  (75, .ishl, 1, 45, 0, 0, 99999),
  (76, .iconst 1, 1, 46, 0, 0, 99999),
  (77, .aload_n 0, 1, 47, 0, 0, 99999),
  (78, .getfield 38, 3, 48, 6, 10, 684),
  (81, .iload_n 3, 1, 49, 0, 0, 99999),
  (82, .iaload, 1, 50, 0, 0, 99999),
  (83, .ishl, 1, 51, 0, 0, 99999),
  (84, .ior, 1, 52, 0, 0, 99999),
  (85, .ior, 1, 53, 0, 0, 99999),
  (86, .istore_n 2, 1, 54, 0, 0, 99999),
  (87, .aload_n 0, 1, 55, 0, 0, 99999),
  (88, .getfield 81, 3, 56, 6, 24, 698),
  (91, .aload_n 0, 1, 57, 0, 0, 99999),
  (92, .dup, 1, 58, 0, 0, 99999),
  (93, .getfield 139, 3, 59, 6, 31, 705),
  (96, .dup_x1, 1, 60, 0, 0, 99999),
  (97, .iconst 1, 1, 61, 0, 0, 99999),
  (98, .iadd, 1, 62, 0, 0, 99999),
  (99, .putfield 139, 3, 63, 6, 31, 705),
  (102, .iload_n 3, 1, 64, 0, 0, 99999),
  (103, .iastore, 1, 65, 0, 0, 99999),
  (104, .iinc 3 1, 3, 66, 0, 0, 99999),
  (107, .goto (-85), 3, 67, 14, 0, 99999),
  (110, .aload_n 0, 1, 68, 0, 0, 99999),
  (111, .getfield 139, 3, 69, 6, 31, 705),
  (114, .bipush 6, 2, 70, 0, 0, 99999),
  (116, .if_icmp .gt 26, 3, 71, 82, 0, 99999),
  (119, .aload_n 0, 1, 72, 0, 0, 99999),
  (120, .getfield 139, 3, 73, 6, 31, 705),
  (123, .ifCond .le 11, 3, 74, 78, 0, 99999),
  (126, .iload_n 2, 1, 75, 0, 0, 99999),
  (127, .invokestatic 123, 3, 76, 96, 0, 853),
  (130, .iconst 5, 1, 77, 0, 0, 99999),
  (131, .if_icmp .gt 11, 3, 78, 82, 0, 99999),
  (134, .iload_n 1, 1, 79, 0, 0, 99999),
  (135, .invokestatic 123, 3, 80, 96, 0, 853),
  (138, .iconst 5, 1, 81, 0, 0, 99999),
  (139, .if_icmp .le 6, 3, 82, 84, 0, 99999),
  (142, .bipush (-6), 2, 83, 0, 0, 99999),
  (144, .ireturn, 1, 84, 0, 0, 99999),
  (145, .aload_n 0, 1, 85, 0, 0, 99999),
  (146, .iconst 0, 1, 86, 0, 0, 99999),
  (147, .putfield 142, 3, 87, 6, 32, 706),
  (150, .iconst 0, 1, 88, 0, 0, 99999),
  (151, .istore_n 3, 1, 89, 0, 0, 99999),
  (152, .iload_n 3, 1, 90, 0, 0, 99999),
  (153, .bipush 11, 2, 91, 0, 0, 99999),
  (155, .if_icmp .ge 35, 3, 92, 112, 0, 99999),
  (158, .iload_n 2, 1, 93, 0, 0, 99999),
  (159, .iload_n 3, 1, 94, 0, 0, 99999),
  (160, .ishr, 1, 95, 0, 0, 99999),
  (161, .iconst 1, 1, 96, 0, 0, 99999),
  (162, .iand, 1, 97, 0, 0, 99999),
  (163, .iconst 1, 1, 98, 0, 0, 99999),
  (164, .if_icmp .ne 20, 3, 99, 110, 0, 99999),
  (167, .aload_n 0, 1, 100, 0, 0, 99999),
  (168, .getfield 84, 3, 101, 6, 25, 699),
  (171, .aload_n 0, 1, 102, 0, 0, 99999),
  (172, .dup, 1, 103, 0, 0, 99999),
  (173, .getfield 142, 3, 104, 6, 32, 706),
  (176, .dup_x1, 1, 105, 0, 0, 99999),
  (177, .iconst 1, 1, 106, 0, 0, 99999),
  (178, .iadd, 1, 107, 0, 0, 99999),
  (179, .putfield 142, 3, 108, 6, 32, 706),
  (182, .iload_n 3, 1, 109, 0, 0, 99999),
  (183, .iastore, 1, 110, 0, 0, 99999),
  (184, .iinc 3 1, 3, 111, 0, 0, 99999),
  (187, .goto (-35), 3, 112, 89, 0, 99999),
  (190, .aload_n 0, 1, 113, 0, 0, 99999),
  (191, .iconst 0, 1, 114, 0, 0, 99999),
  (192, .putfield 145, 3, 115, 6, 33, 707),
  (195, .aload_n 0, 1, 116, 0, 0, 99999),
  (196, .iconst 0, 1, 117, 0, 0, 99999),
  (197, .putfield 148, 3, 118, 6, 34, 708),
  (200, .iconst 0, 1, 119, 0, 0, 99999),
  (201, .istore_n 3, 1, 120, 0, 0, 99999),
  (202, .iload_n 3, 1, 121, 0, 0, 99999),
  (203, .aload_n 0, 1, 122, 0, 0, 99999),
  (204, .getfield 139, 3, 123, 6, 31, 705),
  (207, .if_icmp .ge 61, 3, 124, 158, 0, 99999),
  (210, .aload_n 0, 1, 125, 0, 0, 99999),
  (211, .aload_n 0, 1, 126, 0, 0, 99999),
  (212, .getfield 145, 3, 127, 6, 33, 707),
  (215, .iconst 5, 1, 128, 0, 0, 99999),
  (216, .imul, 1, 129, 0, 0, 99999),
  (217, .aload_n 0, 1, 130, 0, 0, 99999),
  (218, .aload_n 0, 1, 131, 0, 0, 99999),
  (219, .getfield 38, 3, 132, 6, 10, 684),
  (222, .aload_n 0, 1, 133, 0, 0, 99999),
  (223, .getfield 81, 3, 134, 6, 24, 698),
  (226, .iload_n 3, 1, 135, 0, 0, 99999),
  (227, .iaload, 1, 136, 0, 0, 99999),
  (228, .iaload, 1, 137, 0, 0, 99999),
  (229, .invokevirtual 151, 3, 138, 131, 0, 880),
  (232, .iadd, 1, 139, 0, 0, 99999),
  (233, .putfield 145, 3, 140, 6, 33, 707),
  (236, .aload_n 0, 1, 141, 0, 0, 99999),
  (237, .aload_n 0, 1, 142, 0, 0, 99999),
  (238, .getfield 148, 3, 143, 6, 34, 708),
  (241, .iconst 5, 1, 144, 0, 0, 99999),
  (242, .imul, 1, 145, 0, 0, 99999),
  (243, .aload_n 0, 1, 146, 0, 0, 99999),
  (244, .aload_n 0, 1, 147, 0, 0, 99999),
  (245, .getfield 41, 3, 148, 6, 11, 685),
  (248, .aload_n 0, 1, 149, 0, 0, 99999),
  (249, .getfield 81, 3, 150, 6, 24, 698),
  (252, .iload_n 3, 1, 151, 0, 0, 99999),
  (253, .iaload, 1, 152, 0, 0, 99999),
  (254, .iaload, 1, 153, 0, 0, 99999),
  (255, .invokevirtual 151, 3, 154, 131, 0, 880),
  (258, .iadd, 1, 155, 0, 0, 99999),
  (259, .putfield 148, 3, 156, 6, 34, 708),
  (262, .iinc 3 1, 3, 157, 0, 0, 99999),
  (265, .goto (-63), 3, 158, 120, 0, 99999),
  (268, .iconst 0, 1, 159, 0, 0, 99999),
  (269, .ireturn, 1, 160, 0, 0, 99999)]
def M_G_refuses1 : Mth := (⟨"FloorPlansModel", "refuses", "(I)I"⟩, prog_8_method_24_code, 4, (some FieldType.int), T_M_G_refuses1, [879, 51, 878, 29, 99999])
def T_M_G_spot : List Ent := [(0, .iconst 0, 1, 1, 0, 0, 99999),
  (1, .istore_n 2, 1, 2, 0, 0, 99999),
  (2, .iload_n 2, 1, 3, 0, 0, 99999),
  (3, .aload_n 0, 1, 4, 0, 0, 99999),
  (4, .getfield 142, 3, 5, 6, 32, 706),
  (7, .if_icmp .ge 21, 3, 6, 16, 0, 99999),
  (10, .aload_n 0, 1, 7, 0, 0, 99999),
  (11, .getfield 84, 3, 8, 6, 25, 699),
  (14, .iload_n 2, 1, 9, 0, 0, 99999),
  (15, .iaload, 1, 10, 0, 0, 99999),
  (16, .iload_n 1, 1, 11, 0, 0, 99999),
  (17, .if_icmp .ne 5, 3, 12, 14, 0, 99999),
  (20, .iload_n 2, 1, 13, 0, 0, 99999),
  (21, .ireturn, 1, 14, 0, 0, 99999),
  (22, .iinc 2 1, 3, 15, 0, 0, 99999),
  (25, .goto (-23), 3, 16, 2, 0, 99999),
  (28, .bipush (-9), 2, 17, 0, 0, 99999),
  (30, .ireturn, 1, 18, 0, 0, 99999)]
def M_G_spot : Mth := (⟨"FloorPlansModel", "spot", "(I)I"⟩, prog_8_method_25_code, 3, (some FieldType.int), T_M_G_spot, [883, 51, 882, 30, 99999])
def T_M_G_measures : List Ent := [(0, .iconst 1, 1, 1, 0, 0, 99999),
  (1, .istore_n 1, 1, 2, 0, 0, 99999),
  (2, .iconst 0, 1, 3, 0, 0, 99999),
  (3, .istore_n 2, 1, 4, 0, 0, 99999),
  (4, .iload_n 2, 1, 5, 0, 0, 99999),
  (5, .aload_n 0, 1, 6, 0, 0, 99999),
  (6, .getfield 139, 3, 7, 6, 31, 705),
  (9, .if_icmp .ge 13, 3, 8, 14, 0, 99999),
  (12, .iload_n 1, 1, 9, 0, 0, 99999),
  (13, .iconst 5, 1, 10, 0, 0, 99999),
  (14, .imul, 1, 11, 0, 0, 99999),
  (15, .istore_n 1, 1, 12, 0, 0, 99999),
  (16, .iinc 2 1, 3, 13, 0, 0, 99999),
  (19, .goto (-15), 3, 14, 4, 0, 99999),
  (22, .iconst 0, 1, 15, 0, 0, 99999),
  (23, .istore_n 2, 1, 16, 0, 0, 99999),
  (24, .iload_n 2, 1, 17, 0, 0, 99999),
  (25, .iload_n 1, 1, 18, 0, 0, 99999),
  (26, .if_icmp .ge 17, 3, 19, 26, 0, 99999),
  (29, .aload_n 0, 1, 20, 0, 0, 99999),
  (30, .getfield 87, 3, 21, 6, 26, 700),
  (33, .iload_n 2, 1, 22, 0, 0, 99999),
  (34, .bipush (-9), 2, 23, 0, 0, 99999),
  (36, .iastore, 1, 24, 0, 0, 99999),
  (37, .iinc 2 1, 3, 25, 0, 0, 99999),
  (40, .goto (-16), 3, 26, 16, 0, 99999),
  (43, .iconst 0, 1, 27, 0, 0, 99999),
  (44, .istore_n 2, 1, 28, 0, 0, 99999),
  (45, .aload_n 0, 1, 29, 0, 0, 99999),
  (46, .getfield 87, 3, 30, 6, 26, 700),
  (49, .aload_n 0, 1, 31, 0, 0, 99999),
  (50, .getfield 148, 3, 32, 6, 34, 708),
  (53, .iconst 0, 1, 33, 0, 0, 99999),
  (54, .iastore, 1, 34, 0, 0, 99999),
  (55, .aload_n 0, 1, 35, 0, 0, 99999),
  (56, .getfield 90, 3, 36, 6, 27, 701),
  (59, .iload_n 2, 1, 37, 0, 0, 99999),
  (60, .iinc 2 1, 3, 38, 0, 0, 99999),
  (63, .aload_n 0, 1, 39, 0, 0, 99999),
  (64, .getfield 148, 3, 40, 6, 34, 708),
  (67, .iastore, 1, 41, 0, 0, 99999),
  (68, .iconst 0, 1, 42, 0, 0, 99999),
  (69, .istore_n 3, 1, 43, 0, 0, 99999),
  (70, .iload_n 3, 1, 44, 0, 0, 99999),
  (71, .iload_n 2, 1, 45, 0, 0, 99999),
  (72, .if_icmp .ge 142, 3, 46, 114, 0, 99999),
  (75, .aload_n 0, 1, 47, 0, 0, 99999),
  (76, .getfield 90, 3, 48, 6, 27, 701),
  (79, .iload_n 3, 1, 49, 0, 0, 99999),
  (80, .iaload, 1, 50, 0, 0, 99999),
  (81, .istore 4, 2, 51, 0, 0, 99999),
  (83, .iconst 0, 1, 52, 0, 0, 99999),
  (84, .istore 5, 2, 53, 0, 0, 99999),
  (86, .iload 5, 2, 54, 0, 0, 99999),
  (88, .aload_n 0, 1, 55, 0, 0, 99999),
  (89, .getfield 139, 3, 56, 6, 31, 705),
  (92, .if_icmp .ge 116, 3, 57, 112, 0, 99999),
  (95, .iconst 0, 1, 58, 0, 0, 99999),
  (96, .istore 6, 2, 59, 0, 0, 99999),
  (98, .iload 6, 2, 60, 0, 0, 99999),
  (100, .aload_n 0, 1, 61, 0, 0, 99999),
  (101, .getfield 142, 3, 62, 6, 32, 706),
  (104, .if_icmp .ge 98, 3, 63, 110, 0, 99999),
  (107, .iload 6, 2, 64, 0, 0, 99999),
  (109, .aload_n 0, 1, 65, 0, 0, 99999),
  (110, .iload 4, 2, 66, 0, 0, 99999),
  (112, .iload 5, 2, 67, 0, 0, 99999),
  (114, .invokevirtual 154, 3, 68, 99, 0, 888),
  (117, .if_icmp .ne 6, 3, 69, 70, 0, 99999),
  (120, .goto 76, 3, 70, 108, 0, 99999),
  (123, .aload_n 0, 1, 71, 0, 0, 99999),
  (124, .iload 4, 2, 72, 0, 0, 99999),
  (126, .iload 5, 2, 73, 0, 0, 99999),
  (128, .iload 6, 2, 74, 0, 0, 99999),
  (130, .invokevirtual 160, 3, 75, 141, 0, 892),
  (133, .istore 7, 2, 76, 0, 0, 99999),
  (135, .aload_n 0, 1, 77, 0, 0, 99999),
  (136, .getfield 87, 3, 78, 6, 26, 700),
  (139, .iload 7, 2, 79, 0, 0, 99999),
  (141, .iaload, 1, 80, 0, 0, 99999),
  (142, .bipush (-9), 2, 81, 0, 0, 99999),
  (144, .if_icmp .ne 52, 3, 82, 108, 0, 99999),
  (147, .aload_n 0, 1, 83, 0, 0, 99999),
  (148, .iload 7, 2, 84, 0, 0, 99999),
  (150, .iload 5, 2, 85, 0, 0, 99999),
  (152, .aload_n 0, 1, 86, 0, 0, 99999),
  (153, .iload 4, 2, 87, 0, 0, 99999),
  (155, .iload 5, 2, 88, 0, 0, 99999),
  (157, .invokevirtual 154, 3, 89, 99, 0, 888),
  (160, .invokevirtual 163, 3, 90, 106, 0, 896),
  (163, .ifCond .ne 6, 3, 91, 92, 0, 99999),
  (166, .goto 30, 3, 92, 108, 0, 99999),
  (169, .aload_n 0, 1, 93, 0, 0, 99999),
  (170, .getfield 87, 3, 94, 6, 26, 700),
  (173, .iload 7, 2, 95, 0, 0, 99999),
  (175, .aload_n 0, 1, 96, 0, 0, 99999),
  (176, .getfield 87, 3, 97, 6, 26, 700),
  (179, .iload 4, 2, 98, 0, 0, 99999),
  (181, .iaload, 1, 99, 0, 0, 99999),
  (182, .iconst 1, 1, 100, 0, 0, 99999),
  (183, .iadd, 1, 101, 0, 0, 99999),
  (184, .iastore, 1, 102, 0, 0, 99999),
  (185, .aload_n 0, 1, 103, 0, 0, 99999),
  (186, .getfield 90, 3, 104, 6, 27, 701),
  (189, .iload_n 2, 1, 105, 0, 0, 99999),
  (190, .iinc 2 1, 3, 106, 0, 0, 99999),
  (193, .iload 7, 2, 107, 0, 0, 99999),
  (195, .iastore, 1, 108, 0, 0, 99999),
  (196, .iinc 6 1, 3, 109, 0, 0, 99999),
  (199, .goto (-101), 3, 110, 59, 0, 99999),
  (202, .iinc 5 1, 3, 111, 0, 0, 99999),
  (205, .goto (-119), 3, 112, 53, 0, 99999),
  (208, .iinc 3 1, 3, 113, 0, 0, 99999),
  (211, .goto (-141), 3, 114, 43, 0, 99999),
  (214, .return_, 1, 115, 0, 0, 99999)]
def M_G_measures : Mth := (⟨"FloorPlansModel", "measures", "()V"⟩, prog_8_method_30_code, 8, (Option.none : Option FieldType), T_M_G_measures, [887, 51, 886, 31, 99999])
def T_M_G_digit : List Ent := [(0, .iload_n 1, 1, 1, 0, 0, 99999),
  (1, .istore_n 3, 1, 2, 0, 0, 99999),
  (2, .aload_n 0, 1, 3, 0, 0, 99999),
  (3, .getfield 139, 3, 4, 6, 31, 705),
  (6, .iconst 1, 1, 5, 0, 0, 99999),
  (7, .isub, 1, 6, 0, 0, 99999),
  (8, .istore 4, 2, 7, 0, 0, 99999),
  (10, .iload 4, 2, 8, 0, 0, 99999),
  (12, .iload_n 2, 1, 9, 0, 0, 99999),
  (13, .if_icmp .le 13, 3, 10, 16, 0, 99999),
  (16, .iload_n 3, 1, 11, 0, 0, 99999),
  (17, .iconst 5, 1, 12, 0, 0, 99999),
  (18, .idiv, 1, 13, 0, 0, 99999),
  (19, .istore_n 3, 1, 14, 0, 0, 99999),
  (20, .iinc 4 (-1), 3, 15, 0, 0, 99999),
  (23, .goto (-13), 3, 16, 7, 0, 99999),
  (26, .iload_n 3, 1, 17, 0, 0, 99999),
  (27, .iconst 5, 1, 18, 0, 0, 99999),
  (28, .irem, 1, 19, 0, 0, 99999),
  (29, .ireturn, 1, 20, 0, 0, 99999)]
def M_G_digit : Mth := (⟨"FloorPlansModel", "digit", "(II)I"⟩, prog_8_method_26_code, 5, (some FieldType.int), T_M_G_digit, [891, 51, 890, 32, 99999])
def T_M_G_with : List Ent := [(0, .iconst 1, 1, 1, 0, 0, 99999),
  (1, .istore 4, 2, 2, 0, 0, 99999),
  (3, .aload_n 0, 1, 3, 0, 0, 99999),
  (4, .getfield 139, 3, 4, 6, 31, 705),
  (7, .iconst 1, 1, 5, 0, 0, 99999),
  (8, .isub, 1, 6, 0, 0, 99999),
  (9, .istore 5, 2, 7, 0, 0, 99999),
  (11, .iload 5, 2, 8, 0, 0, 99999),
  (13, .iload_n 2, 1, 9, 0, 0, 99999),
  (14, .if_icmp .le 15, 3, 10, 16, 0, 99999),
  (17, .iload 4, 2, 11, 0, 0, 99999),
  (19, .iconst 5, 1, 12, 0, 0, 99999),
  (20, .imul, 1, 13, 0, 0, 99999),
  (21, .istore 4, 2, 14, 0, 0, 99999),
  (23, .iinc 5 (-1), 3, 15, 0, 0, 99999),
  (26, .goto (-15), 3, 16, 7, 0, 99999),
  (29, .iload_n 1, 1, 17, 0, 0, 99999),
  (30, .iload_n 3, 1, 18, 0, 0, 99999),
  (31, .aload_n 0, 1, 19, 0, 0, 99999),
  (32, .iload_n 1, 1, 20, 0, 0, 99999),
  (33, .iload_n 2, 1, 21, 0, 0, 99999),
  (34, .invokevirtual 154, 3, 22, 99, 0, 888),
  (37, .isub, 1, 23, 0, 0, 99999),
  (38, .iload 4, 2, 24, 0, 0, 99999),
  (40, .imul, 1, 25, 0, 0, 99999),
  (41, .iadd, 1, 26, 0, 0, 99999),
  (42, .ireturn, 1, 27, 0, 0, 99999)]
def M_G_with : Mth := (⟨"FloorPlansModel", "with", "(III)I"⟩, prog_8_method_27_code, 6, (some FieldType.int), T_M_G_with, [895, 51, 894, 33, 99999])
def T_M_G_goes : List Ent := [(0, .aload_n 0, 1, 1, 0, 0, 99999),
  (1, .iload_n 1, 1, 2, 0, 0, 99999),
  (2, .iload_n 2, 1, 3, 0, 0, 99999),
  (3, .invokevirtual 154, 3, 4, 99, 0, 888),
  (6, .iload_n 3, 1, 5, 0, 0, 99999),
  (7, .if_icmp .eq 27, 3, 6, 20, 0, 99999),
  (10, .aload_n 0, 1, 7, 0, 0, 99999),
  (11, .iload_n 1, 1, 8, 0, 0, 99999),
  (12, .iload_n 3, 1, 9, 0, 0, 99999),
  (13, .invokevirtual 157, 3, 10, 104, 0, 900),
  (16, .aload_n 0, 1, 11, 0, 0, 99999),
  (17, .getfield 26, 3, 12, 6, 6, 680),
  (20, .aload_n 0, 1, 13, 0, 0, 99999),
  (21, .getfield 81, 3, 14, 6, 24, 698),
  (24, .iload_n 2, 1, 15, 0, 0, 99999),
  (25, .iaload, 1, 16, 0, 0, 99999),
  (26, .iaload, 1, 17, 0, 0, 99999),
  (27, .if_icmp .lt 7, 3, 18, 20, 0, 99999),
  (30, .iconst 1, 1, 19, 0, 0, 99999),
  (31, .goto 4, 3, 20, 21, 0, 99999),
  (34, .iconst 0, 1, 21, 0, 0, 99999),
  (35, .ireturn, 1, 22, 0, 0, 99999)]
def M_G_goes : Mth := (⟨"FloorPlansModel", "goes", "(III)Z"⟩, prog_8_method_29_code, 4, (some FieldType.boolean), T_M_G_goes, [899, 51, 898, 34, 99999])
def T_M_G_freeIn : List Ent := [(0, .aload_n 0, 1, 1, 0, 0, 99999),
  (1, .getfield 13, 3, 2, 6, 2, 676),
  (4, .aload_n 0, 1, 3, 0, 0, 99999),
  (5, .getfield 84, 3, 4, 6, 25, 699),
  (8, .iload_n 2, 1, 5, 0, 0, 99999),
  (9, .iaload, 1, 6, 0, 0, 99999),
  (10, .iaload, 1, 7, 0, 0, 99999),
  (11, .istore_n 3, 1, 8, 0, 0, 99999),
  (12, .iconst 0, 1, 9, 0, 0, 99999),
  (13, .istore 4, 2, 10, 0, 0, 99999),
  (15, .iload 4, 2, 11, 0, 0, 99999),
  (17, .aload_n 0, 1, 12, 0, 0, 99999),
  (18, .getfield 97, 3, 13, 6, 0, 674),
  (21, .if_icmp .ge 88, 3, 14, 57, 0, 99999),
  (24, .iconst 0, 1, 15, 0, 0, 99999),
  (25, .istore 5, 2, 16, 0, 0, 99999),
  (27, .iload 5, 2, 17, 0, 0, 99999),
  (29, .aload_n 0, 1, 18, 0, 0, 99999),
  (30, .getfield 139, 3, 19, 6, 31, 705),
  (33, .if_icmp .ge 21, 3, 20, 28, 0, 99999),
  (36, .aload_n 0, 1, 21, 0, 0, 99999),
  (37, .getfield 81, 3, 22, 6, 24, 698),
  (40, .iload 5, 2, 23, 0, 0, 99999),
  (42, .iaload, 1, 24, 0, 0, 99999),
  (43, .iload 4, 2, 25, 0, 0, 99999),
  (45, .if_icmp .eq 9, 3, 26, 28, 0, 99999),
  (48, .iinc 5 1, 3, 27, 0, 0, 99999),
  (51, .goto (-24), 3, 28, 16, 0, 99999),
  (54, .iload 5, 2, 29, 0, 0, 99999),
  (56, .aload_n 0, 1, 30, 0, 0, 99999),
  (57, .getfield 139, 3, 31, 6, 31, 705),
  (60, .if_icmp .ge 17, 3, 32, 39, 0, 99999),
  (63, .aload_n 0, 1, 33, 0, 0, 99999),
  (64, .iload_n 1, 1, 34, 0, 0, 99999),
  (65, .iload 5, 2, 35, 0, 0, 99999),
  (67, .invokevirtual 154, 3, 36, 99, 0, 888),
  (70, .iload_n 2, 1, 37, 0, 0, 99999),
  (71, .if_icmp .ne 32, 3, 38, 55, 0, 99999),
  (74, .goto 19, 3, 39, 48, 0, 99999),
  (77, .aload_n 0, 1, 40, 0, 0, 99999),
  (78, .getfield 38, 3, 41, 6, 10, 684),
  (81, .iload 4, 2, 42, 0, 0, 99999),
  (83, .iaload, 1, 43, 0, 0, 99999),
  (84, .aload_n 0, 1, 44, 0, 0, 99999),
  (85, .getfield 84, 3, 45, 6, 25, 699),
  (88, .iload_n 2, 1, 46, 0, 0, 99999),
  (89, .iaload, 1, 47, 0, 0, 99999),
  (90, .if_icmp .ne 13, 3, 48, 55, 0, 99999),
  (93, .iload_n 3, 1, 49, 0, 0, 99999),
  (94, .aload_n 0, 1, 50, 0, 0, 99999),
  (95, .getfield 26, 3, 51, 6, 6, 680),
  (98, .iload 4, 2, 52, 0, 0, 99999),
  (100, .iaload, 1, 53, 0, 0, 99999),
  (101, .isub, 1, 54, 0, 0, 99999),
  (102, .istore_n 3, 1, 55, 0, 0, 99999),
  (103, .iinc 4 1, 3, 56, 0, 0, 99999),
  (106, .goto (-91), 3, 57, 10, 0, 99999),
  (109, .iload_n 3, 1, 58, 0, 0, 99999),
  (110, .ireturn, 1, 59, 0, 0, 99999)]
def M_G_freeIn : Mth := (⟨"FloorPlansModel", "freeIn", "(II)I"⟩, prog_8_method_28_code, 6, (some FieldType.int), T_M_G_freeIn, [903, 51, 902, 35, 99999])
def T_M_G_move : List Ent := [(0, .aload_n 0, 1, 1, 0, 0, 99999),
  (1, .iload_n 1, 1, 2, 0, 0, 99999),
  (2, .invokevirtual 167, 3, 3, 122, 0, 876),
  (5, .istore 4, 2, 4, 0, 0, 99999),
  (7, .iload 4, 2, 5, 0, 0, 99999),
  (9, .ifCond .eq 10, 3, 6, 10, 0, 99999),
  (12, .aload_n 0, 1, 7, 0, 0, 99999),
  (13, .iload 4, 2, 8, 0, 0, 99999),
  (15, .invokevirtual 104, 3, 9, 119, 0, 794),
  (18, .ireturn, 1, 10, 0, 0, 99999),
  (19, .iload_n 3, 1, 11, 0, 0, 99999),
  (20, .ifCond .lt 8, 3, 12, 15, 0, 99999),
  (23, .iload_n 3, 1, 13, 0, 0, 99999),
  (24, .iconst 1, 1, 14, 0, 0, 99999),
  (25, .if_icmp .le 10, 3, 15, 19, 0, 99999),
  (28, .aload_n 0, 1, 16, 0, 0, 99999),
  (29, .bipush (-2), 2, 17, 0, 0, 99999),
  (31, .invokevirtual 104, 3, 18, 119, 0, 794),
  (34, .ireturn, 1, 19, 0, 0, 99999),
  (35, .aload_n 0, 1, 20, 0, 0, 99999),
  (36, .invokevirtual 169, 3, 21, 116, 0, 884),
  (39, .iload_n 2, 1, 22, 0, 0, 99999),
  (40, .ifCond .lt 16, 3, 23, 30, 0, 99999),
  (43, .iload_n 2, 1, 24, 0, 0, 99999),
  (44, .aload_n 0, 1, 25, 0, 0, 99999),
  (45, .getfield 87, 3, 26, 6, 26, 700),
  (48, .aload_n 0, 1, 27, 0, 0, 99999),
  (49, .getfield 145, 3, 28, 6, 33, 707),
  (52, .iaload, 1, 29, 0, 0, 99999),
  (53, .if_icmp .lt 6, 3, 30, 32, 0, 99999),
  (56, .bipush (-9), 2, 31, 0, 0, 99999),
  (58, .ireturn, 1, 32, 0, 0, 99999),
  (59, .aload_n 0, 1, 33, 0, 0, 99999),
  (60, .getfield 145, 3, 34, 6, 33, 707),
  (63, .istore 5, 2, 35, 0, 0, 99999),
  (65, .iconst 0, 1, 36, 0, 0, 99999),
  (66, .istore 6, 2, 37, 0, 0, 99999),
  (68, .iload 6, 2, 38, 0, 0, 99999),
  (70, .iload_n 2, 1, 39, 0, 0, 99999),
  (71, .if_icmp .gt 17, 3, 40, 46, 0, 99999),
  (74, .aload_n 0, 1, 41, 0, 0, 99999),
  (75, .iload 5, 2, 42, 0, 0, 99999),
  (77, .invokevirtual 178, 3, 43, 118, 0, 908),
  (80, .istore 5, 2, 44, 0, 0, 99999),
  (82, .iinc 6 1, 3, 45, 0, 0, 99999),
  (85, .goto (-17), 3, 46, 37, 0, 99999),
  (88, .iload_n 3, 1, 47, 0, 0, 99999),
  (89, .ifCond .ne 15, 3, 48, 54, 0, 99999),
  (92, .aload_n 0, 1, 49, 0, 0, 99999),
  (93, .getfield 81, 3, 50, 6, 24, 698),
  (96, .aload_n 0, 1, 51, 0, 0, 99999),
  (97, .getfield 172, 3, 52, 6, 35, 709),
  (100, .iaload, 1, 53, 0, 0, 99999),
  (101, .goto 12, 3, 54, 59, 0, 99999),
  (104, .aload_n 0, 1, 55, 0, 0, 99999),
  (105, .getfield 84, 3, 56, 6, 25, 699),
  (108, .aload_n 0, 1, 57, 0, 0, 99999),
  (109, .getfield 175, 3, 58, 6, 36, 710),
  (112, .iaload, 1, 59, 0, 0, 99999),
  (113, .ireturn, 1, 60, 0, 0, 99999)]
def M_G_move : Mth := (⟨"FloorPlansModel", "move", "(III)I"⟩, prog_8_method_33_code, 7, (some FieldType.int), T_M_G_move, [907, 51, 905, 906, 99999])
def T_M_G_moves : List Ent := [(0, .iconst 0, 1, 1, 0, 0, 99999),
  (1, .istore_n 2, 1, 2, 0, 0, 99999),
  (2, .iload_n 2, 1, 3, 0, 0, 99999),
  (3, .aload_n 0, 1, 4, 0, 0, 99999),
  (4, .getfield 139, 3, 5, 6, 31, 705),
  (7, .if_icmp .ge 81, 3, 6, 49, 0, 99999),
  (10, .iconst 0, 1, 7, 0, 0, 99999),
  (11, .istore_n 3, 1, 8, 0, 0, 99999),
  (12, .iload_n 3, 1, 9, 0, 0, 99999),
  (13, .aload_n 0, 1, 10, 0, 0, 99999),
  (14, .getfield 142, 3, 11, 6, 32, 706),
  (17, .if_icmp .ge 65, 3, 12, 47, 0, 99999),
  (20, .aload_n 0, 1, 13, 0, 0, 99999),
  (21, .iload_n 1, 1, 14, 0, 0, 99999),
  (22, .iload_n 2, 1, 15, 0, 0, 99999),
  (23, .iload_n 3, 1, 16, 0, 0, 99999),
  (24, .invokevirtual 163, 3, 17, 106, 0, 896),
  (27, .ifCond .ne 6, 3, 18, 19, 0, 99999),
  (30, .goto 46, 3, 19, 45, 0, 99999),
  (33, .aload_n 0, 1, 20, 0, 0, 99999),
  (34, .iload_n 1, 1, 21, 0, 0, 99999),
  (35, .iload_n 2, 1, 22, 0, 0, 99999),
  (36, .iload_n 3, 1, 23, 0, 0, 99999),
  (37, .invokevirtual 160, 3, 24, 141, 0, 892),
  (40, .istore 4, 2, 25, 0, 0, 99999),
  (42, .aload_n 0, 1, 26, 0, 0, 99999),
  (43, .getfield 87, 3, 27, 6, 26, 700),
  (46, .iload 4, 2, 28, 0, 0, 99999),
  (48, .iaload, 1, 29, 0, 0, 99999),
  (49, .aload_n 0, 1, 30, 0, 0, 99999),
  (50, .getfield 87, 3, 31, 6, 26, 700),
  (53, .iload_n 1, 1, 32, 0, 0, 99999),
  (54, .iaload, 1, 33, 0, 0, 99999),
  (55, .iconst 1, 1, 34, 0, 0, 99999),
  (56, .isub, 1, 35, 0, 0, 99999),
  (57, .if_icmp .eq 6, 3, 36, 37, 0, 99999),
  (60, .goto 16, 3, 37, 45, 0, 99999),
  (63, .aload_n 0, 1, 38, 0, 0, 99999),
  (64, .iload_n 2, 1, 39, 0, 0, 99999),
  (65, .putfield 172, 3, 40, 6, 35, 709),
  (68, .aload_n 0, 1, 41, 0, 0, 99999),
  (69, .iload_n 3, 1, 42, 0, 0, 99999),
  (70, .putfield 175, 3, 43, 6, 36, 710),
  (73, .iload 4, 2, 44, 0, 0, 99999),
  (75, .ireturn, 1, 45, 0, 0, 99999),
  (76, .iinc 3 1, 3, 46, 0, 0, 99999),
  (79, .goto (-67), 3, 47, 8, 0, 99999),
  (82, .iinc 2 1, 3, 48, 0, 0, 99999),
  (85, .goto (-83), 3, 49, 2, 0, 99999),
  (88, .iload_n 1, 1, 50, 0, 0, 99999),
  (89, .ireturn, 1, 51, 0, 0, 99999)]
def M_G_moves : Mth := (⟨"FloorPlansModel", "moves", "(I)I"⟩, prog_8_method_32_code, 5, (some FieldType.int), T_M_G_moves, [911, 51, 910, 36, 99999])
def T_M_G_go : List Ent := [(0, .aload_n 0, 1, 1, 0, 0, 99999),
  (1, .iload_n 1, 1, 2, 0, 0, 99999),
  (2, .invokevirtual 167, 3, 3, 122, 0, 876),
  (5, .istore_n 2, 1, 4, 0, 0, 99999),
  (6, .iload_n 2, 1, 5, 0, 0, 99999),
  (7, .ifCond .eq 9, 3, 6, 10, 0, 99999),
  (10, .aload_n 0, 1, 7, 0, 0, 99999),
  (11, .iload_n 2, 1, 8, 0, 0, 99999),
  (12, .invokevirtual 104, 3, 9, 119, 0, 794),
  (15, .ireturn, 1, 10, 0, 0, 99999),
  (16, .aload_n 0, 1, 11, 0, 0, 99999),
  (17, .invokevirtual 169, 3, 12, 116, 0, 884),
  (20, .aload_n 0, 1, 13, 0, 0, 99999),
  (21, .getfield 87, 3, 14, 6, 26, 700),
  (24, .aload_n 0, 1, 15, 0, 0, 99999),
  (25, .getfield 145, 3, 16, 6, 33, 707),
  (28, .iaload, 1, 17, 0, 0, 99999),
  (29, .bipush (-9), 2, 18, 0, 0, 99999),
  (31, .if_icmp .ne 10, 3, 19, 23, 0, 99999),
  (34, .aload_n 0, 1, 20, 0, 0, 99999),
  (35, .bipush (-3), 2, 21, 0, 0, 99999),
  (37, .invokevirtual 104, 3, 22, 119, 0, 794),
  (40, .ireturn, 1, 23, 0, 0, 99999),
  (41, .iconst 0, 1, 24, 0, 0, 99999),
  (42, .istore_n 3, 1, 25, 0, 0, 99999),
  (43, .iload_n 3, 1, 26, 0, 0, 99999),
  (44, .aload_n 0, 1, 27, 0, 0, 99999),
  (45, .getfield 139, 3, 28, 6, 31, 705),
  (48, .if_icmp .ge 31, 3, 29, 45, 0, 99999),
  (51, .aload_n 0, 1, 30, 0, 0, 99999),
  (52, .getfield 38, 3, 31, 6, 10, 684),
  (55, .aload_n 0, 1, 32, 0, 0, 99999),
  (56, .getfield 81, 3, 33, 6, 24, 698),
  (59, .iload_n 3, 1, 34, 0, 0, 99999),
  (60, .iaload, 1, 35, 0, 0, 99999),
  (61, .aload_n 0, 1, 36, 0, 0, 99999),
  (62, .getfield 41, 3, 37, 6, 11, 685),
  (65, .aload_n 0, 1, 38, 0, 0, 99999),
  (66, .getfield 81, 3, 39, 6, 24, 698),
  (69, .iload_n 3, 1, 40, 0, 0, 99999),
  (70, .iaload, 1, 41, 0, 0, 99999),
  (71, .iaload, 1, 42, 0, 0, 99999),
  (72, .iastore, 1, 43, 0, 0, 99999),
  (73, .iinc 3 1, 3, 44, 0, 0, 99999),
  (76, .goto (-33), 3, 45, 25, 0, 99999),
  (79, .iconst 0, 1, 46, 0, 0, 99999),
  (80, .istore_n 3, 1, 47, 0, 0, 99999),
  (81, .iload_n 3, 1, 48, 0, 0, 99999),
  (82, .aload_n 0, 1, 49, 0, 0, 99999),
  (83, .getfield 97, 3, 50, 6, 0, 674),
  (86, .if_icmp .ge 17, 3, 51, 58, 0, 99999),
  (89, .aload_n 0, 1, 52, 0, 0, 99999),
  (90, .getfield 41, 3, 53, 6, 11, 685),
  (93, .iload_n 3, 1, 54, 0, 0, 99999),
  (94, .bipush (-9), 2, 55, 0, 0, 99999),
  (96, .iastore, 1, 56, 0, 0, 99999),
  (97, .iinc 3 1, 3, 57, 0, 0, 99999),
  (100, .goto (-19), 3, 58, 47, 0, 99999),
  (103, .aload_n 0, 1, 59, 0, 0, 99999),
  (104, .getfield 87, 3, 60, 6, 26, 700),
  (107, .aload_n 0, 1, 61, 0, 0, 99999),
  (108, .getfield 145, 3, 62, 6, 33, 707),
  (111, .iaload, 1, 63, 0, 0, 99999),
  (112, .ireturn, 1, 64, 0, 0, 99999)]
def M_G_go : Mth := (⟨"FloorPlansModel", "go", "(I)I"⟩, prog_8_method_34_code, 4, (some FieldType.int), T_M_G_go, [915, 51, 913, 914, 99999])
def T_M_G_person : List Ent := [(0, .aload_n 0, 1, 1, 0, 0, 99999),
  (1, .iload_n 1, 1, 2, 0, 0, 99999),
  (2, .invokevirtual 108, 3, 3, 110, 0, 806),
  (5, .ifCond .ne 9, 3, 4, 8, 0, 99999),
  (8, .aload_n 0, 1, 5, 0, 0, 99999),
  (9, .iconst (-1), 1, 6, 0, 0, 99999),
  (10, .invokevirtual 104, 3, 7, 119, 0, 794),
  (13, .ireturn, 1, 8, 0, 0, 99999),
  (14, .iload_n 2, 1, 9, 0, 0, 99999),
  (15, .ifCond .lt 7, 3, 10, 12, 0, 99999),
  (18, .iload_n 3, 1, 11, 0, 0, 99999),
  (19, .ifCond .ge 10, 3, 12, 16, 0, 99999),
  (22, .aload_n 0, 1, 13, 0, 0, 99999),
  (23, .bipush (-4), 2, 14, 0, 0, 99999),
  (25, .invokevirtual 104, 3, 15, 119, 0, 794),
  (28, .ireturn, 1, 16, 0, 0, 99999),
  (29, .iload_n 2, 1, 17, 0, 0, 99999),
  (30, .bipush 31, 2, 18, 0, 0, 99999),
  (32, .if_icmp .gt 20, 3, 19, 28, 0, 99999),
  (35, .iload_n 3, 1, 20, 0, 0, 99999),
  (36, .bipush 64, 2, 21, 0, 0, 99999),
  (38, .if_icmp .gt 14, 3, 22, 28, 0, 99999),
  (41, .aload_n 0, 1, 23, 0, 0, 99999),
  (42, .getfield 44, 3, 24, 6, 12, 686),
  (45, .iload_n 1, 1, 25, 0, 0, 99999),
  (46, .iaload, 1, 26, 0, 0, 99999),
  (47, .bipush 20, 2, 27, 0, 0, 99999),
  (49, .if_icmp .ne 10, 3, 28, 32, 0, 99999),
  (52, .aload_n 0, 1, 29, 0, 0, 99999),
  (53, .bipush (-6), 2, 30, 0, 0, 99999),
  (55, .invokevirtual 104, 3, 31, 119, 0, 794),
  (58, .ireturn, 1, 32, 0, 0, 99999),
  (59, .aload_n 0, 1, 33, 0, 0, 99999),
  (60, .getfield 63, 3, 34, 6, 18, 692),
  (63, .bipush 20, 2, 35, 0, 0, 99999),
  (65, .iload_n 1, 1, 36, 0, 0, 99999),
  (66, .imul, 1, 37, 0, 0, 99999),
  (67, .aload_n 0, 1, 38, 0, 0, 99999),
  (68, .getfield 44, 3, 39, 6, 12, 686),
  (71, .iload_n 1, 1, 40, 0, 0, 99999),
  (72, .iaload, 1, 41, 0, 0, 99999),
  (73, .iadd, 1, 42, 0, 0, 99999),
  (74, .iload_n 2, 1, 43, 0, 0, 99999),
  (75, .iastore, 1, 44, 0, 0, 99999),
  (76, .aload_n 0, 1, 45, 0, 0, 99999),
  (77, .getfield 66, 3, 46, 6, 19, 693),
  (80, .bipush 20, 2, 47, 0, 0, 99999),
  (82, .iload_n 1, 1, 48, 0, 0, 99999),
  (83, .imul, 1, 49, 0, 0, 99999),
  (84, .aload_n 0, 1, 50, 0, 0, 99999),
  (85, .getfield 44, 3, 51, 6, 12, 686),
  (88, .iload_n 1, 1, 52, 0, 0, 99999),
  (89, .iaload, 1, 53, 0, 0, 99999),
  (90, .iadd, 1, 54, 0, 0, 99999),
  (91, .iload_n 3, 1, 55, 0, 0, 99999),
  (92, .iastore, 1, 56, 0, 0, 99999),
  (93, .aload_n 0, 1, 57, 0, 0, 99999),
  (94, .getfield 44, 3, 58, 6, 12, 686),
  (97, .iload_n 1, 1, 59, 0, 0, 99999),
  (98, .dup2, 1, 60, 0, 0, 99999),
  (99, .iaload, 1, 61, 0, 0, 99999),
  (100, .dup_x2, 1, 62, 0, 0, 99999),
  (101, .iconst 1, 1, 63, 0, 0, 99999),
  (102, .iadd, 1, 64, 0, 0, 99999),
  (103, .iastore, 1, 65, 0, 0, 99999),
  (104, .ireturn, 1, 66, 0, 0, 99999)]
def M_G_person : Mth := (⟨"FloorPlansModel", "person", "(III)I"⟩, prog_8_method_35_code, 4, (some FieldType.int), T_M_G_person, [919, 51, 917, 918, 99999])
def T_M_G_desks : List Ent := [(0, .aload_n 0, 1, 1, 0, 0, 99999),
  (1, .iload_n 1, 1, 2, 0, 0, 99999),
  (2, .invokevirtual 108, 3, 3, 110, 0, 806),
  (5, .ifCond .ne 9, 3, 4, 8, 0, 99999),
  (8, .aload_n 0, 1, 5, 0, 0, 99999),
  (9, .iconst (-1), 1, 6, 0, 0, 99999),
  (10, .invokevirtual 104, 3, 7, 119, 0, 794),
  (13, .ireturn, 1, 8, 0, 0, 99999),
  (14, .iconst 0, 1, 9, 0, 0, 99999),
  (15, .istore_n 2, 1, 10, 0, 0, 99999),
  (16, .iconst 0, 1, 11, 0, 0, 99999),
  (17, .istore_n 3, 1, 12, 0, 0, 99999),
  (18, .iload_n 3, 1, 13, 0, 0, 99999),
  (19, .iconst 5, 1, 14, 0, 0, 99999),
  (20, .if_icmp .ge 63, 3, 15, 48, 0, 99999),
  (23, .iconst 0, 1, 16, 0, 0, 99999),
  (24, .istore 4, 2, 17, 0, 0, 99999),
  (26, .iconst 0, 1, 18, 0, 0, 99999),
  (27, .istore 5, 2, 19, 0, 0, 99999),
  (29, .iload 5, 2, 20, 0, 0, 99999),
  (31, .aload_n 0, 1, 21, 0, 0, 99999),
  (32, .getfield 44, 3, 22, 6, 12, 686),
  (35, .iload_n 1, 1, 23, 0, 0, 99999),
  (36, .iaload, 1, 24, 0, 0, 99999),
  (37, .if_icmp .ge 31, 3, 25, 41, 0, 99999),
  (40, .aload_n 0, 1, 26, 0, 0, 99999),
  (41, .getfield 63, 3, 27, 6, 18, 692),
  (44, .bipush 20, 2, 28, 0, 0, 99999),
  (46, .iload_n 1, 1, 29, 0, 0, 99999),
  (47, .imul, 1, 30, 0, 0, 99999),
  (48, .iload 5, 2, 31, 0, 0, 99999),
  (50, .iadd, 1, 32, 0, 0, 99999),
  (51, .iaload, 1, 33, 0, 0, 99999),
  (52, .iload_n 3, 1, 34, 0, 0, 99999),
  (53, .ishr, 1, 35, 0, 0, 99999),
  (54, .iconst 1, 1, 36, 0, 0, 99999),
  (55, .iand, 1, 37, 0, 0, 99999),
  (56, .ifCond .ne 6, 3, 38, 39, 0, 99999),
  (59, .iinc 4 1, 3, 39, 0, 0, 99999),
  (62, .iinc 5 1, 3, 40, 0, 0, 99999),
  (65, .goto (-36), 3, 41, 19, 0, 99999),
  (68, .iload 4, 2, 42, 0, 0, 99999),
  (70, .iload_n 2, 1, 43, 0, 0, 99999),
  (71, .if_icmp .le 6, 3, 44, 46, 0, 99999),
  (74, .iload 4, 2, 45, 0, 0, 99999),
  (76, .istore_n 2, 1, 46, 0, 0, 99999),
  (77, .iinc 3 1, 3, 47, 0, 0, 99999),
  (80, .goto (-62), 3, 48, 12, 0, 99999),
  (83, .iload_n 2, 1, 49, 0, 0, 99999),
  (84, .ireturn, 1, 50, 0, 0, 99999)]
def M_G_desks : Mth := (⟨"FloorPlansModel", "desks", "(I)I"⟩, prog_8_method_36_code, 6, (some FieldType.int), T_M_G_desks, [923, 51, 921, 922, 99999])
def T_M_G_lack : List Ent := [(0, .aload_n 0, 1, 1, 0, 0, 99999),
  (1, .iload_n 1, 1, 2, 0, 0, 99999),
  (2, .invokevirtual 108, 3, 3, 110, 0, 806),
  (5, .ifCond .eq 12, 3, 4, 9, 0, 99999),
  (8, .iload_n 3, 1, 5, 0, 0, 99999),
  (9, .ifCond .lt 8, 3, 6, 9, 0, 99999),
  (12, .iload_n 3, 1, 7, 0, 0, 99999),
  (13, .iconst 4, 1, 8, 0, 0, 99999),
  (14, .if_icmp .le 9, 3, 9, 13, 0, 99999),
  (17, .aload_n 0, 1, 10, 0, 0, 99999),
  (18, .iconst (-1), 1, 11, 0, 0, 99999),
  (19, .invokevirtual 104, 3, 12, 119, 0, 794),
  (22, .ireturn, 1, 13, 0, 0, 99999),
  (23, .iload_n 2, 1, 14, 0, 0, 99999),
  (24, .ifCond .ge 10, 3, 15, 19, 0, 99999),
  (27, .aload_n 0, 1, 16, 0, 0, 99999),
  (28, .bipush (-4), 2, 17, 0, 0, 99999),
  (30, .invokevirtual 104, 3, 18, 119, 0, 794),
  (33, .ireturn, 1, 19, 0, 0, 99999),
  (34, .iload_n 2, 1, 20, 0, 0, 99999),
  (35, .bipush 20, 2, 21, 0, 0, 99999),
  (37, .if_icmp .le 10, 3, 22, 26, 0, 99999),
  (40, .aload_n 0, 1, 23, 0, 0, 99999),
  (41, .bipush (-6), 2, 24, 0, 0, 99999),
  (43, .invokevirtual 104, 3, 25, 119, 0, 794),
  (46, .ireturn, 1, 26, 0, 0, 99999),
  (47, .aload_n 0, 1, 27, 0, 0, 99999),
  (48, .iload_n 1, 1, 28, 0, 0, 99999),
  (49, .iload_n 2, 1, 29, 0, 0, 99999),
  (50, .iload_n 3, 1, 30, 0, 0, 99999),
  (51, .invokevirtual 185, 3, 31, 113, 0, 928),
  (54, .l2i, 1, 32, 0, 0, 99999),
  (55, .ireturn, 1, 33, 0, 0, 99999)]
def M_G_lack : Mth := (⟨"FloorPlansModel", "lack", "(III)I"⟩, prog_8_method_38_code, 4, (some FieldType.int), T_M_G_lack, [927, 51, 925, 926, 99999])
def T_M_G_lacks : List Ent := [(0, .iconst 0, 1, 1, 0, 0, 99999),
  (1, .istore 4, 2, 2, 0, 0, 99999),
  (3, .iload 4, 2, 3, 0, 0, 99999),
  (5, .bipush 22, 2, 4, 0, 0, 99999),
  (7, .if_icmp .ge 17, 3, 5, 12, 0, 99999),
  (10, .aload_n 0, 1, 6, 0, 0, 99999),
  (11, .getfield 93, 3, 7, 6, 28, 702),
  (14, .iload 4, 2, 8, 0, 0, 99999),
  (16, .lconst 0, 1, 9, 0, 0, 99999),
  (17, .lastore, 1, 10, 0, 0, 99999),
  (18, .iinc 4 1, 3, 11, 0, 0, 99999),
  (21, .goto (-18), 3, 12, 2, 0, 99999),
  (24, .aload_n 0, 1, 13, 0, 0, 99999),
  (25, .getfield 93, 3, 14, 6, 28, 702),
  (28, .iconst 0, 1, 15, 0, 0, 99999),
  (29, .ldc2_w 181, 3, 16, 1073741824, 0, 932),
  (32, .lastore, 1, 17, 0, 0, 99999),
  (33, .iconst 0, 1, 18, 0, 0, 99999),
  (34, .istore 4, 2, 19, 0, 0, 99999),
  (36, .iload 4, 2, 20, 0, 0, 99999),
  (38, .aload_n 0, 1, 21, 0, 0, 99999),
  (39, .getfield 44, 3, 22, 6, 12, 686),
  (42, .iload_n 1, 1, 23, 0, 0, 99999),
  (43, .iaload, 1, 24, 0, 0, 99999),
  (44, .if_icmp .ge 109, 3, 25, 86, 0, 99999),
  (47, .aload_n 0, 1, 26, 0, 0, 99999),
  (48, .getfield 63, 3, 27, 6, 18, 692),
  (51, .bipush 20, 2, 28, 0, 0, 99999),
  (53, .iload_n 1, 1, 29, 0, 0, 99999),
  (54, .imul, 1, 30, 0, 0, 99999),
  (55, .iload 4, 2, 31, 0, 0, 99999),
  (57, .iadd, 1, 32, 0, 0, 99999),
  (58, .iaload, 1, 33, 0, 0, 99999),
  (59, .iload_n 3, 1, 34, 0, 0, 99999),
  (60, .ishr, 1, 35, 0, 0, 99999),
  (61, .iconst 1, 1, 36, 0, 0, 99999),
  (62, .iand, 1, 37, 0, 0, 99999),
  (63, .iconst 1, 1, 38, 0, 0, 99999),
  (64, .if_icmp .ne 6, 3, 39, 40, 0, 99999),
  (67, .goto 80, 3, 40, 84, 0, 99999),
  (70, .aload_n 0, 1, 41, 0, 0, 99999),
  (71, .getfield 66, 3, 42, 6, 19, 693),
  (74, .bipush 20, 2, 43, 0, 0, 99999),
  (76, .iload_n 1, 1, 44, 0, 0, 99999),
  (77, .imul, 1, 45, 0, 0, 99999),
  (78, .iload 4, 2, 46, 0, 0, 99999),
  (80, .iadd, 1, 47, 0, 0, 99999),
  (81, .iaload, 1, 48, 0, 0, 99999),
  (82, .istore 5, 2, 49, 0, 0, 99999),
  (84, .bipush 21, 2, 50, 0, 0, 99999),
  (86, .istore 6, 2, 51, 0, 0, 99999),
  (88, .iload 6, 2, 52, 0, 0, 99999),
  (90, .ifCond .lt 57, 3, 53, 84, 0, 99999),
  (93, .aload_n 0, 1, 54, 0, 0, 99999),
  (94, .getfield 93, 3, 55, 6, 28, 702),
  (97, .iload 6, 2, 56, 0, 0, 99999),
  (99, .aload_n 0, 1, 57, 0, 0, 99999),
  (100, .getfield 93, 3, 58, 6, 28, 702),
  (103, .iload 6, 2, 59, 0, 0, 99999),
  (105, .laload, 1, 60, 0, 0, 99999),
  (106, .bipush 64, 2, 61, 0, 0, 99999),
  (108, .iload 5, 2, 62, 0, 0, 99999),
  (110, .isub, 1, 63, 0, 0, 99999),
  (111, .i2l, 1, 64, 0, 0, 99999),
  (112, .lmul, 1, 65, 0, 0, 99999),
  (113, .iload 6, 2, 66, 0, 0, 99999),
  (115, .ifCond .le 19, 3, 67, 77, 0, 99999),
  (118, .aload_n 0, 1, 68, 0, 0, 99999),
  (119, .getfield 93, 3, 69, 6, 28, 702),
  (122, .iload 6, 2, 70, 0, 0, 99999),
  (124, .iconst 1, 1, 71, 0, 0, 99999),
  (125, .isub, 1, 72, 0, 0, 99999),
  (126, .laload, 1, 73, 0, 0, 99999),
  (127, .iload 5, 2, 74, 0, 0, 99999),
  (129, .i2l, 1, 75, 0, 0, 99999),
  (130, .lmul, 1, 76, 0, 0, 99999),
  (131, .goto 4, 3, 77, 78, 0, 99999),
  (134, .lconst 0, 1, 78, 0, 0, 99999),
  (135, .ladd, 1, 79, 0, 0, 99999),
  (136, .ldc2_w 183, 3, 80, 64, 0, 933),
  (139, .ldiv, 1, 81, 0, 0, 99999),
  (140, .lastore, 1, 82, 0, 0, 99999),
  (141, .iinc 6 (-1), 3, 83, 0, 0, 99999),
  (144, .goto (-56), 3, 84, 51, 0, 99999),
  (147, .iinc 4 1, 3, 85, 0, 0, 99999),
  (150, .goto (-114), 3, 86, 19, 0, 99999),
  (153, .lconst 0, 1, 87, 0, 0, 99999),
  (154, .lstore 4, 2, 88, 0, 0, 99999),
  (156, .iload_n 2, 1, 89, 0, 0, 99999),
  (157, .iconst 1, 1, 90, 0, 0, 99999),
  (158, .iadd, 1, 91, 0, 0, 99999),
  (159, .istore 6, 2, 92, 0, 0, 99999),
  (161, .iload 6, 2, 93, 0, 0, 99999),
  (163, .bipush 22, 2, 94, 0, 0, 99999),
  (165, .if_icmp .ge 21, 3, 95, 104, 0, 99999),
  (168, .lload 4, 2, 96, 0, 0, 99999),
  (170, .aload_n 0, 1, 97, 0, 0, 99999),
  (171, .getfield 93, 3, 98, 6, 28, 702),
  (174, .iload 6, 2, 99, 0, 0, 99999),
  (176, .laload, 1, 100, 0, 0, 99999),
  (177, .ladd, 1, 101, 0, 0, 99999),
  (178, .lstore 4, 2, 102, 0, 0, 99999),
  (180, .iinc 6 1, 3, 103, 0, 0, 99999),
  (183, .goto (-22), 3, 104, 92, 0, 99999),
  (186, .lload 4, 2, 105, 0, 0, 99999),
  (188, .lreturn, 1, 106, 0, 0, 99999)]
def M_G_lacks : Mth := (⟨"FloorPlansModel", "lacks", "(III)J"⟩, prog_8_method_37_code, 7, (some FieldType.long), T_M_G_lacks, [931, 51, 930, 37, 99999])
def T_M_G_least : List Ent := [(0, .aload_n 0, 1, 1, 0, 0, 99999),
  (1, .iload_n 1, 1, 2, 0, 0, 99999),
  (2, .invokevirtual 108, 3, 3, 110, 0, 806),
  (5, .ifCond .ne 9, 3, 4, 8, 0, 99999),
  (8, .aload_n 0, 1, 5, 0, 0, 99999),
  (9, .iconst (-1), 1, 6, 0, 0, 99999),
  (10, .invokevirtual 104, 3, 7, 119, 0, 794),
  (13, .ireturn, 1, 8, 0, 0, 99999),
  (14, .iload_n 2, 1, 9, 0, 0, 99999),
  (15, .ifCond .ge 10, 3, 10, 14, 0, 99999),
  (18, .aload_n 0, 1, 11, 0, 0, 99999),
  (19, .bipush (-4), 2, 12, 0, 0, 99999),
  (21, .invokevirtual 104, 3, 13, 119, 0, 794),
  (24, .ireturn, 1, 14, 0, 0, 99999),
  (25, .iload_n 2, 1, 15, 0, 0, 99999),
  (26, .sipush 1000, 3, 16, 0, 0, 99999),
  (29, .if_icmp .le 10, 3, 17, 21, 0, 99999),
  (32, .aload_n 0, 1, 18, 0, 0, 99999),
  (33, .bipush (-6), 2, 19, 0, 0, 99999),
  (35, .invokevirtual 104, 3, 20, 119, 0, 794),
  (38, .ireturn, 1, 21, 0, 0, 99999),
  (39, .iconst 0, 1, 22, 0, 0, 99999),
  (40, .istore_n 3, 1, 23, 0, 0, 99999),
  (41, .iload_n 3, 1, 24, 0, 0, 99999),
  (42, .bipush 20, 2, 25, 0, 0, 99999),
  (44, .if_icmp .ge 59, 3, 26, 56, 0, 99999),
  (47, .iconst 1, 1, 27, 0, 0, 99999),
  (48, .istore 4, 2, 28, 0, 0, 99999),
  (50, .iconst 0, 1, 29, 0, 0, 99999),
  (51, .istore 5, 2, 30, 0, 0, 99999),
  (53, .iload 5, 2, 31, 0, 0, 99999),
  (55, .iconst 5, 1, 32, 0, 0, 99999),
  (56, .if_icmp .ge 34, 3, 33, 50, 0, 99999),
  (59, .aload_n 0, 1, 34, 0, 0, 99999),
  (60, .iload_n 1, 1, 35, 0, 0, 99999),
  (61, .iload_n 3, 1, 36, 0, 0, 99999),
  (62, .iload 5, 2, 37, 0, 0, 99999),
  (64, .invokevirtual 185, 3, 38, 113, 0, 928),
  (67, .ldc2_w 189, 3, 39, 1000, 0, 938),
  (70, .lmul, 1, 40, 0, 0, 99999),
  (71, .iload_n 2, 1, 41, 0, 0, 99999),
  (72, .i2l, 1, 42, 0, 0, 99999),
  (73, .ldc2_w 181, 3, 43, 1073741824, 0, 932),
  (76, .lmul, 1, 44, 0, 0, 99999),
  (77, .lcmp, 1, 45, 0, 0, 99999),
  (78, .ifCond .le 6, 3, 46, 48, 0, 99999),
  (81, .iconst 0, 1, 47, 0, 0, 99999),
  (82, .istore 4, 2, 48, 0, 0, 99999),
  (84, .iinc 5 1, 3, 49, 0, 0, 99999),
  (87, .goto (-34), 3, 50, 30, 0, 99999),
  (90, .iload 4, 2, 51, 0, 0, 99999),
  (92, .ifCond .eq 5, 3, 52, 54, 0, 99999),
  (95, .iload_n 3, 1, 53, 0, 0, 99999),
  (96, .ireturn, 1, 54, 0, 0, 99999),
  (97, .iinc 3 1, 3, 55, 0, 0, 99999),
  (100, .goto (-59), 3, 56, 23, 0, 99999),
  (103, .iload_n 3, 1, 57, 0, 0, 99999),
  (104, .ireturn, 1, 58, 0, 0, 99999)]
def M_G_least : Mth := (⟨"FloorPlansModel", "least", "(II)I"⟩, prog_8_method_39_code, 6, (some FieldType.int), T_M_G_least, [937, 51, 935, 936, 99999])
def T_M_G_grow : List Ent := [(0, .aload_n 0, 1, 1, 0, 0, 99999),
  (1, .iload_n 1, 1, 2, 0, 0, 99999),
  (2, .invokevirtual 108, 3, 3, 110, 0, 806),
  (5, .ifCond .eq 13, 3, 4, 9, 0, 99999),
  (8, .iload_n 2, 1, 5, 0, 0, 99999),
  (9, .ifCond .lt 9, 3, 6, 9, 0, 99999),
  (12, .iload_n 2, 1, 7, 0, 0, 99999),
  (13, .bipush 19, 2, 8, 0, 0, 99999),
  (15, .if_icmp .le 9, 3, 9, 13, 0, 99999),
  (18, .aload_n 0, 1, 10, 0, 0, 99999),
  (19, .iconst (-1), 1, 11, 0, 0, 99999),
  (20, .invokevirtual 104, 3, 12, 119, 0, 794),
  (23, .ireturn, 1, 13, 0, 0, 99999),
  (24, .iload_n 3, 1, 14, 0, 0, 99999),
  (25, .iconst (-1), 1, 15, 0, 0, 99999),
  (26, .if_icmp .ge 10, 3, 16, 20, 0, 99999),
  (29, .aload_n 0, 1, 17, 0, 0, 99999),
  (30, .bipush (-4), 2, 18, 0, 0, 99999),
  (32, .invokevirtual 104, 3, 19, 119, 0, 794),
  (35, .ireturn, 1, 20, 0, 0, 99999),
  (36, .iload_n 3, 1, 21, 0, 0, 99999),
  (37, .sipush 200, 3, 22, 0, 0, 99999),
  (40, .if_icmp .le 10, 3, 23, 27, 0, 99999),
  (43, .aload_n 0, 1, 24, 0, 0, 99999),
  (44, .bipush (-6), 2, 25, 0, 0, 99999),
  (46, .invokevirtual 104, 3, 26, 119, 0, 794),
  (49, .ireturn, 1, 27, 0, 0, 99999),
  (50, .aload_n 0, 1, 28, 0, 0, 99999),
  (51, .getfield 69, 3, 29, 6, 20, 694),
  (54, .bipush 20, 2, 30, 0, 0, 99999),
  (56, .iload_n 1, 1, 31, 0, 0, 99999),
  (57, .imul, 1, 32, 0, 0, 99999),
  (58, .iload_n 2, 1, 33, 0, 0, 99999),
  (59, .iadd, 1, 34, 0, 0, 99999),
  (60, .iload_n 3, 1, 35, 0, 0, 99999),
  (61, .iastore, 1, 36, 0, 0, 99999),
  (62, .iconst 1, 1, 37, 0, 0, 99999),
  (63, .ireturn, 1, 38, 0, 0, 99999)]
def M_G_grow : Mth := (⟨"FloorPlansModel", "grow", "(III)I"⟩, prog_8_method_40_code, 4, (some FieldType.int), T_M_G_grow, [942, 51, 940, 941, 99999])
def T_M_G_sizeIn : List Ent := [(0, .aload_n 0, 1, 1, 0, 0, 99999),
  (1, .iload_n 1, 1, 2, 0, 0, 99999),
  (2, .invokevirtual 108, 3, 3, 110, 0, 806),
  (5, .ifCond .eq 22, 3, 4, 14, 0, 99999),
  (8, .iload_n 2, 1, 5, 0, 0, 99999),
  (9, .ifCond .lt 18, 3, 6, 14, 0, 99999),
  (12, .iload_n 2, 1, 7, 0, 0, 99999),
  (13, .bipush 20, 2, 8, 0, 0, 99999),
  (15, .if_icmp .ge 12, 3, 9, 14, 0, 99999),
  (18, .aload_n 0, 1, 10, 0, 0, 99999),
  (19, .iload_n 1, 1, 11, 0, 0, 99999),
  (20, .iload_n 2, 1, 12, 0, 0, 99999),
  (21, .invokevirtual 191, 3, 13, 129, 0, 947),
  (24, .goto 8, 3, 14, 17, 0, 99999),
  (27, .aload_n 0, 1, 15, 0, 0, 99999),
  (28, .iconst (-1), 1, 16, 0, 0, 99999),
  (29, .invokevirtual 104, 3, 17, 119, 0, 794),
  (32, .ireturn, 1, 18, 0, 0, 99999)]
def M_G_sizeIn : Mth := (⟨"FloorPlansModel", "sizeIn", "(II)I"⟩, prog_8_method_42_code, 3, (some FieldType.int), T_M_G_sizeIn, [946, 51, 944, 945, 99999])
def T_M_G_sizeAt : List Ent := [(0, .iload_n 2, 1, 1, 0, 0, 99999),
  (1, .istore_n 3, 1, 2, 0, 0, 99999),
  (2, .iload_n 3, 1, 3, 0, 0, 99999),
  (3, .ifCond .lt 35, 3, 4, 24, 0, 99999),
  (6, .aload_n 0, 1, 5, 0, 0, 99999),
  (7, .getfield 69, 3, 6, 6, 20, 694),
  (10, .bipush 20, 2, 7, 0, 0, 99999),
  (12, .iload_n 1, 1, 8, 0, 0, 99999),
  (13, .imul, 1, 9, 0, 0, 99999),
  (14, .iload_n 3, 1, 10, 0, 0, 99999),
  (15, .iadd, 1, 11, 0, 0, 99999),
  (16, .iaload, 1, 12, 0, 0, 99999),
  (17, .ifCond .lt 15, 3, 13, 22, 0, 99999),
  (20, .aload_n 0, 1, 14, 0, 0, 99999),
  (21, .getfield 69, 3, 15, 6, 20, 694),
  (24, .bipush 20, 2, 16, 0, 0, 99999),
  (26, .iload_n 1, 1, 17, 0, 0, 99999),
  (27, .imul, 1, 18, 0, 0, 99999),
  (28, .iload_n 3, 1, 19, 0, 0, 99999),
  (29, .iadd, 1, 20, 0, 0, 99999),
  (30, .iaload, 1, 21, 0, 0, 99999),
  (31, .ireturn, 1, 22, 0, 0, 99999),
  (32, .iinc 3 (-1), 3, 23, 0, 0, 99999),
  (35, .goto (-33), 3, 24, 2, 0, 99999),
  (38, .aload_n 0, 1, 25, 0, 0, 99999),
  (39, .getfield 26, 3, 26, 6, 6, 680),
  (42, .iload_n 1, 1, 27, 0, 0, 99999),
  (43, .iaload, 1, 28, 0, 0, 99999),
  (44, .ireturn, 1, 29, 0, 0, 99999)]
def M_G_sizeAt : Mth := (⟨"FloorPlansModel", "sizeAt", "(II)I"⟩, prog_8_method_41_code, 4, (some FieldType.int), T_M_G_sizeAt, [950, 51, 949, 38, 99999])
def T_M_G_kept : List Ent := [(0, .iload_n 1, 1, 1, 0, 0, 99999),
  (1, .ifCond .lt 9, 3, 2, 5, 0, 99999),
  (4, .iload_n 1, 1, 3, 0, 0, 99999),
  (5, .bipush 19, 2, 4, 0, 0, 99999),
  (7, .if_icmp .le 9, 3, 5, 9, 0, 99999),
  (10, .aload_n 0, 1, 6, 0, 0, 99999),
  (11, .iconst (-1), 1, 7, 0, 0, 99999),
  (12, .invokevirtual 104, 3, 8, 119, 0, 794),
  (15, .ireturn, 1, 9, 0, 0, 99999),
  (16, .iload_n 2, 1, 10, 0, 0, 99999),
  (17, .ifCond .lt 8, 3, 11, 14, 0, 99999),
  (20, .iload_n 2, 1, 12, 0, 0, 99999),
  (21, .iconst 1, 1, 13, 0, 0, 99999),
  (22, .if_icmp .le 10, 3, 14, 18, 0, 99999),
  (25, .aload_n 0, 1, 15, 0, 0, 99999),
  (26, .bipush (-2), 2, 16, 0, 0, 99999),
  (28, .invokevirtual 104, 3, 17, 119, 0, 794),
  (31, .ireturn, 1, 18, 0, 0, 99999),
  (32, .iconst 0, 1, 19, 0, 0, 99999),
  (33, .istore_n 3, 1, 20, 0, 0, 99999),
  (34, .iconst 0, 1, 21, 0, 0, 99999),
  (35, .istore 4, 2, 22, 0, 0, 99999),
  (37, .iload 4, 2, 23, 0, 0, 99999),
  (39, .aload_n 0, 1, 24, 0, 0, 99999),
  (40, .getfield 97, 3, 25, 6, 0, 674),
  (43, .if_icmp .ge 19, 3, 26, 35, 0, 99999),
  (46, .iload_n 3, 1, 27, 0, 0, 99999),
  (47, .aload_n 0, 1, 28, 0, 0, 99999),
  (48, .iload 4, 2, 29, 0, 0, 99999),
  (50, .iload_n 1, 1, 30, 0, 0, 99999),
  (51, .invokevirtual 191, 3, 31, 129, 0, 947),
  (54, .iadd, 1, 32, 0, 0, 99999),
  (55, .istore_n 3, 1, 33, 0, 0, 99999),
  (56, .iinc 4 1, 3, 34, 0, 0, 99999),
  (59, .goto (-22), 3, 35, 22, 0, 99999),
  (62, .bipush (-9), 2, 36, 0, 0, 99999),
  (64, .istore 4, 2, 37, 0, 0, 99999),
  (66, .iconst 0, 1, 38, 0, 0, 99999),
  (67, .istore 5, 2, 39, 0, 0, 99999),
  (69, .iconst 0, 1, 40, 0, 0, 99999),
  (70, .istore 6, 2, 41, 0, 0, 99999),
  (72, .iload 6, 2, 42, 0, 0, 99999),
  (74, .sipush 2048, 3, 43, 0, 0, 99999),
  (77, .if_icmp .ge 158, 3, 44, 121, 0, 99999),
  (80, .iconst 0, 1, 45, 0, 0, 99999),
  (81, .istore 7, 2, 46, 0, 0, 99999),
  (83, .iconst 0, 1, 47, 0, 0, 99999),
  (84, .istore 8, 2, 48, 0, 0, 99999),
  (86, .iconst 1, 1, 49, 0, 0, 99999),
  (87, .istore 9, 2, 50, 0, 0, 99999),
  (89, .iconst 0, 1, 51, 0, 0, 99999),
  (90, .istore 10, 2, 52, 0, 0, 99999),
  (92, .iload 10, 2, 53, 0, 0, 99999),
  (94, .bipush 11, 2, 54, 0, 0, 99999),
  (96, .if_icmp .ge 77, 3, 55, 95, 0, 99999),
  (99, .iload 6, 2, 56, 0, 0, 99999),
  (101, .iload 10, 2, 57, 0, 0, 99999),
  (103, .ishr, 1, 58, 0, 0, 99999),
  (104, .iconst 1, 1, 59, 0, 0, 99999),
  (105, .iand, 1, 60, 0, 0, 99999),
  (106, .ifCond .ne 6, 3, 61, 62, 0, 99999),
  (109, .goto 58, 3, 62, 93, 0, 99999),
  (112, .iload 9, 2, 63, 0, 0, 99999),
  (114, .ifCond .eq 18, 3, 64, 72, 0, 99999),
  (117, .aload_n 0, 1, 65, 0, 0, 99999),
  (118, .getfield 23, 3, 66, 6, 5, 679),
  (121, .iload 10, 2, 67, 0, 0, 99999),
  (123, .iaload, 1, 68, 0, 0, 99999),
  (124, .iload_n 1, 1, 69, 0, 0, 99999),
  (125, .if_icmp .lt 7, 3, 70, 72, 0, 99999),
  (128, .iconst 1, 1, 71, 0, 0, 99999),
  (129, .goto 4, 3, 72, 73, 0, 99999),
  (132, .iconst 0, 1, 73, 0, 0, 99999),
  (133, .istore 9, 2, 74, 0, 0, 99999),
  (135, .iload 7, 2, 75, 0, 0, 99999),
  (137, .aload_n 0, 1, 76, 0, 0, 99999),
  (138, .getfield 13, 3, 77, 6, 2, 676),
  (141, .iload 10, 2, 78, 0, 0, 99999),
  (143, .iaload, 1, 79, 0, 0, 99999),
  (144, .iadd, 1, 80, 0, 0, 99999),
  (145, .istore 7, 2, 81, 0, 0, 99999),
  (147, .iload 8, 2, 82, 0, 0, 99999),
  (149, .aload_n 0, 1, 83, 0, 0, 99999),
  (150, .getfield 13, 3, 84, 6, 2, 676),
  (153, .iload 10, 2, 85, 0, 0, 99999),
  (155, .iaload, 1, 86, 0, 0, 99999),
  (156, .aload_n 0, 1, 87, 0, 0, 99999),
  (157, .getfield 20, 3, 88, 6, 4, 678),
  (160, .iload 10, 2, 89, 0, 0, 99999),
  (162, .iaload, 1, 90, 0, 0, 99999),
  (163, .imul, 1, 91, 0, 0, 99999),
  (164, .iadd, 1, 92, 0, 0, 99999),
  (165, .istore 8, 2, 93, 0, 0, 99999),
  (167, .iinc 10 1, 3, 94, 0, 0, 99999),
  (170, .goto (-78), 3, 95, 52, 0, 99999),
  (173, .iload 9, 2, 96, 0, 0, 99999),
  (175, .ifCond .eq 54, 3, 97, 119, 0, 99999),
  (178, .iload 7, 2, 98, 0, 0, 99999),
  (180, .iload_n 3, 1, 99, 0, 0, 99999),
  (181, .if_icmp .ge 6, 3, 100, 101, 0, 99999),
  (184, .goto 45, 3, 101, 119, 0, 99999),
  (187, .iload 4, 2, 102, 0, 0, 99999),
  (189, .bipush (-9), 2, 103, 0, 0, 99999),
  (191, .if_icmp .eq 30, 3, 104, 115, 0, 99999),
  (194, .iload 8, 2, 105, 0, 0, 99999),
  (196, .iload 5, 2, 106, 0, 0, 99999),
  (198, .if_icmp .lt 23, 3, 107, 115, 0, 99999),
  (201, .iload 8, 2, 108, 0, 0, 99999),
  (203, .iload 5, 2, 109, 0, 0, 99999),
  (205, .if_icmp .ne 24, 3, 110, 119, 0, 99999),
  (208, .iload 6, 2, 111, 0, 0, 99999),
  (210, .invokestatic 123, 3, 112, 96, 0, 853),
  (213, .iload 4, 2, 113, 0, 0, 99999),
  (215, .invokestatic 123, 3, 114, 96, 0, 853),
  (218, .if_icmp .ge 11, 3, 115, 119, 0, 99999),
  (221, .iload 6, 2, 116, 0, 0, 99999),
  (223, .istore 4, 2, 117, 0, 0, 99999),
  (225, .iload 8, 2, 118, 0, 0, 99999),
  (227, .istore 5, 2, 119, 0, 0, 99999),
  (229, .iinc 6 1, 3, 120, 0, 0, 99999),
  (232, .goto (-160), 3, 121, 41, 0, 99999),
  (235, .iload 4, 2, 122, 0, 0, 99999),
  (237, .bipush (-9), 2, 123, 0, 0, 99999),
  (239, .if_icmp .ne 8, 3, 124, 126, 0, 99999),
  (242, .bipush (-9), 2, 125, 0, 0, 99999),
  (244, .goto 14, 3, 126, 131, 0, 99999),
  (247, .iload_n 2, 1, 127, 0, 0, 99999),
  (248, .ifCond .ne 8, 3, 128, 130, 0, 99999),
  (251, .iload 4, 2, 129, 0, 0, 99999),
  (253, .goto 5, 3, 130, 131, 0, 99999),
  (256, .iload 5, 2, 131, 0, 0, 99999),
  (258, .ireturn, 1, 132, 0, 0, 99999)]
def M_G_kept : Mth := (⟨"FloorPlansModel", "kept", "(II)I"⟩, prog_8_method_43_code, 11, (some FieldType.int), T_M_G_kept, [954, 51, 952, 953, 99999])
def T_M_G_bill : List Ent := [(0, .aload_n 0, 1, 1, 0, 0, 99999),
  (1, .iload_n 1, 1, 2, 0, 0, 99999),
  (2, .invokevirtual 108, 3, 3, 110, 0, 806),
  (5, .ifCond .ne 9, 3, 4, 8, 0, 99999),
  (8, .aload_n 0, 1, 5, 0, 0, 99999),
  (9, .iconst (-1), 1, 6, 0, 0, 99999),
  (10, .invokevirtual 104, 3, 7, 119, 0, 794),
  (13, .ireturn, 1, 8, 0, 0, 99999),
  (14, .aload_n 0, 1, 9, 0, 0, 99999),
  (15, .getfield 38, 3, 10, 6, 10, 684),
  (18, .iload_n 1, 1, 11, 0, 0, 99999),
  (19, .iaload, 1, 12, 0, 0, 99999),
  (20, .istore_n 2, 1, 13, 0, 0, 99999),
  (21, .iload_n 2, 1, 14, 0, 0, 99999),
  (22, .bipush (-9), 2, 15, 0, 0, 99999),
  (24, .if_icmp .ne 5, 3, 16, 18, 0, 99999),
  (27, .iconst 0, 1, 17, 0, 0, 99999),
  (28, .ireturn, 1, 18, 0, 0, 99999),
  (29, .iconst 0, 1, 19, 0, 0, 99999),
  (30, .istore_n 3, 1, 20, 0, 0, 99999),
  (31, .iconst 0, 1, 21, 0, 0, 99999),
  (32, .istore 4, 2, 22, 0, 0, 99999),
  (34, .iload 4, 2, 23, 0, 0, 99999),
  (36, .aload_n 0, 1, 24, 0, 0, 99999),
  (37, .getfield 97, 3, 25, 6, 0, 674),
  (40, .if_icmp .ge 30, 3, 26, 41, 0, 99999),
  (43, .aload_n 0, 1, 27, 0, 0, 99999),
  (44, .getfield 38, 3, 28, 6, 10, 684),
  (47, .iload 4, 2, 29, 0, 0, 99999),
  (49, .iaload, 1, 30, 0, 0, 99999),
  (50, .iload_n 2, 1, 31, 0, 0, 99999),
  (51, .if_icmp .ne 13, 3, 32, 39, 0, 99999),
  (54, .iload_n 3, 1, 33, 0, 0, 99999),
  (55, .aload_n 0, 1, 34, 0, 0, 99999),
  (56, .getfield 26, 3, 35, 6, 6, 680),
  (59, .iload 4, 2, 36, 0, 0, 99999),
  (61, .iaload, 1, 37, 0, 0, 99999),
  (62, .iadd, 1, 38, 0, 0, 99999),
  (63, .istore_n 3, 1, 39, 0, 0, 99999),
  (64, .iinc 4 1, 3, 40, 0, 0, 99999),
  (67, .goto (-33), 3, 41, 22, 0, 99999),
  (70, .aload_n 0, 1, 42, 0, 0, 99999),
  (71, .getfield 13, 3, 43, 6, 2, 676),
  (74, .iload_n 2, 1, 44, 0, 0, 99999),
  (75, .iaload, 1, 45, 0, 0, 99999),
  (76, .aload_n 0, 1, 46, 0, 0, 99999),
  (77, .getfield 20, 3, 47, 6, 4, 678),
  (80, .iload_n 2, 1, 48, 0, 0, 99999),
  (81, .iaload, 1, 49, 0, 0, 99999),
  (82, .imul, 1, 50, 0, 0, 99999),
  (83, .istore 4, 2, 51, 0, 0, 99999),
  (85, .iload 4, 2, 52, 0, 0, 99999),
  (87, .istore 5, 2, 53, 0, 0, 99999),
  (89, .iconst 0, 1, 54, 0, 0, 99999),
  (90, .istore 6, 2, 55, 0, 0, 99999),
  (92, .iconst 0, 1, 56, 0, 0, 99999),
  (93, .istore 7, 2, 57, 0, 0, 99999),
  (95, .iload 7, 2, 58, 0, 0, 99999),
  (97, .aload_n 0, 1, 59, 0, 0, 99999),
  (98, .getfield 97, 3, 60, 6, 0, 674),
  (101, .if_icmp .ge 83, 3, 61, 102, 0, 99999),
  (104, .aload_n 0, 1, 62, 0, 0, 99999),
  (105, .getfield 38, 3, 63, 6, 10, 684),
  (108, .iload 7, 2, 64, 0, 0, 99999),
  (110, .iaload, 1, 65, 0, 0, 99999),
  (111, .iload_n 2, 1, 66, 0, 0, 99999),
  (112, .if_icmp .eq 6, 3, 67, 68, 0, 99999),
  (115, .goto 63, 3, 68, 100, 0, 99999),
  (118, .iload 5, 2, 69, 0, 0, 99999),
  (120, .aload_n 0, 1, 70, 0, 0, 99999),
  (121, .iload 4, 2, 71, 0, 0, 99999),
  (123, .iload 7, 2, 72, 0, 0, 99999),
  (125, .iload_n 3, 1, 73, 0, 0, 99999),
  (126, .invokevirtual 194, 3, 74, 120, 0, 959),
  (129, .isub, 1, 75, 0, 0, 99999),
  (130, .istore 5, 2, 76, 0, 0, 99999),
  (132, .aload_n 0, 1, 77, 0, 0, 99999),
  (133, .iload 4, 2, 78, 0, 0, 99999),
  (135, .iload_n 1, 1, 79, 0, 0, 99999),
  (136, .iload_n 3, 1, 80, 0, 0, 99999),
  (137, .invokevirtual 197, 3, 81, 124, 0, 963),
  (140, .lstore 8, 2, 82, 0, 0, 99999),
  (142, .aload_n 0, 1, 83, 0, 0, 99999),
  (143, .iload 4, 2, 84, 0, 0, 99999),
  (145, .iload 7, 2, 85, 0, 0, 99999),
  (147, .iload_n 3, 1, 86, 0, 0, 99999),
  (148, .invokevirtual 197, 3, 87, 124, 0, 963),
  (151, .lstore 10, 2, 88, 0, 0, 99999),
  (153, .lload 10, 2, 89, 0, 0, 99999),
  (155, .lload 8, 2, 90, 0, 0, 99999),
  (157, .lcmp, 1, 91, 0, 0, 99999),
  (158, .ifCond .gt 17, 3, 92, 99, 0, 99999),
  (161, .lload 10, 2, 93, 0, 0, 99999),
  (163, .lload 8, 2, 94, 0, 0, 99999),
  (165, .lcmp, 1, 95, 0, 0, 99999),
  (166, .ifCond .ne 12, 3, 96, 100, 0, 99999),
  (169, .iload 7, 2, 97, 0, 0, 99999),
  (171, .iload_n 1, 1, 98, 0, 0, 99999),
  (172, .if_icmp .ge 6, 3, 99, 100, 0, 99999),
  (175, .iinc 6 1, 3, 100, 0, 0, 99999),
  (178, .iinc 7 1, 3, 101, 0, 0, 99999),
  (181, .goto (-86), 3, 102, 57, 0, 99999),
  (184, .aload_n 0, 1, 103, 0, 0, 99999),
  (185, .iload 4, 2, 104, 0, 0, 99999),
  (187, .iload_n 1, 1, 105, 0, 0, 99999),
  (188, .iload_n 3, 1, 106, 0, 0, 99999),
  (189, .invokevirtual 194, 3, 107, 120, 0, 959),
  (192, .iload 6, 2, 108, 0, 0, 99999),
  (194, .iload 5, 2, 109, 0, 0, 99999),
  (196, .if_icmp .ge 7, 3, 110, 112, 0, 99999),
  (199, .iconst 1, 1, 111, 0, 0, 99999),
  (200, .goto 4, 3, 112, 113, 0, 99999),
  (203, .iconst 0, 1, 113, 0, 0, 99999),
  (204, .iadd, 1, 114, 0, 0, 99999),
  (205, .ireturn, 1, 115, 0, 0, 99999)]
def M_G_bill : Mth := (⟨"FloorPlansModel", "bill", "(I)I"⟩, prog_8_method_44_code, 12, (some FieldType.int), T_M_G_bill, [958, 51, 956, 957, 99999])
def T_M_G_part : List Ent := [(0, .iload_n 1, 1, 1, 0, 0, 99999),
  (1, .i2l, 1, 2, 0, 0, 99999),
  (2, .aload_n 0, 1, 3, 0, 0, 99999),
  (3, .getfield 26, 3, 4, 6, 6, 680),
  (6, .iload_n 2, 1, 5, 0, 0, 99999),
  (7, .iaload, 1, 6, 0, 0, 99999),
  (8, .i2l, 1, 7, 0, 0, 99999),
  (9, .lmul, 1, 8, 0, 0, 99999),
  (10, .iload_n 3, 1, 9, 0, 0, 99999),
  (11, .i2l, 1, 10, 0, 0, 99999),
  (12, .ldiv, 1, 11, 0, 0, 99999),
  (13, .l2i, 1, 12, 0, 0, 99999),
  (14, .ireturn, 1, 13, 0, 0, 99999)]
def M_G_part : Mth := (⟨"FloorPlansModel", "part", "(III)I"⟩, prog_8_method_45_code, 4, (some FieldType.int), T_M_G_part, [962, 51, 961, 39, 99999])
def T_M_G_rest : List Ent := [(0, .iload_n 1, 1, 1, 0, 0, 99999),
  (1, .i2l, 1, 2, 0, 0, 99999),
  (2, .aload_n 0, 1, 3, 0, 0, 99999),
  (3, .getfield 26, 3, 4, 6, 6, 680),
  (6, .iload_n 2, 1, 5, 0, 0, 99999),
  (7, .iaload, 1, 6, 0, 0, 99999),
  (8, .i2l, 1, 7, 0, 0, 99999),
  (9, .lmul, 1, 8, 0, 0, 99999),
  (10, .iload_n 3, 1, 9, 0, 0, 99999),
  (11, .i2l, 1, 10, 0, 0, 99999),
  (12, .lrem, 1, 11, 0, 0, 99999),
  (13, .lreturn, 1, 12, 0, 0, 99999)]
def M_G_rest : Mth := (⟨"FloorPlansModel", "rest", "(III)J"⟩, prog_8_method_46_code, 4, (some FieldType.long), T_M_G_rest, [966, 51, 965, 40, 99999])
def T_M_G_turn : List Ent := [(0, .iload_n 1, 1, 1, 0, 0, 99999),
  (1, .invokestatic 100, 3, 2, 109, 0, 791),
  (4, .ifCond .ne 9, 3, 3, 7, 0, 99999),
  (7, .aload_n 0, 1, 4, 0, 0, 99999),
  (8, .iconst (-1), 1, 5, 0, 0, 99999),
  (9, .invokevirtual 104, 3, 6, 119, 0, 794),
  (12, .ireturn, 1, 7, 0, 0, 99999),
  (13, .bipush (-9), 2, 8, 0, 0, 99999),
  (15, .istore_n 2, 1, 9, 0, 0, 99999),
  (16, .iconst 0, 1, 10, 0, 0, 99999),
  (17, .istore_n 3, 1, 11, 0, 0, 99999),
  (18, .iload_n 3, 1, 12, 0, 0, 99999),
  (19, .aload_n 0, 1, 13, 0, 0, 99999),
  (20, .getfield 97, 3, 14, 6, 0, 674),
  (23, .if_icmp .ge 56, 3, 15, 47, 0, 99999),
  (26, .aload_n 0, 1, 16, 0, 0, 99999),
  (27, .getfield 38, 3, 17, 6, 10, 684),
  (30, .iload_n 3, 1, 18, 0, 0, 99999),
  (31, .iaload, 1, 19, 0, 0, 99999),
  (32, .iload_n 1, 1, 20, 0, 0, 99999),
  (33, .if_icmp .ne 40, 3, 21, 45, 0, 99999),
  (36, .iload_n 2, 1, 22, 0, 0, 99999),
  (37, .bipush (-9), 2, 23, 0, 0, 99999),
  (39, .if_icmp .eq 32, 3, 24, 43, 0, 99999),
  (42, .aload_n 0, 1, 25, 0, 0, 99999),
  (43, .getfield 47, 3, 26, 6, 13, 687),
  (46, .iload_n 3, 1, 27, 0, 0, 99999),
  (47, .iaload, 1, 28, 0, 0, 99999),
  (48, .aload_n 0, 1, 29, 0, 0, 99999),
  (49, .getfield 26, 3, 30, 6, 6, 680),
  (52, .iload_n 2, 1, 31, 0, 0, 99999),
  (53, .iaload, 1, 32, 0, 0, 99999),
  (54, .imul, 1, 33, 0, 0, 99999),
  (55, .aload_n 0, 1, 34, 0, 0, 99999),
  (56, .getfield 47, 3, 35, 6, 13, 687),
  (59, .iload_n 2, 1, 36, 0, 0, 99999),
  (60, .iaload, 1, 37, 0, 0, 99999),
  (61, .aload_n 0, 1, 38, 0, 0, 99999),
  (62, .getfield 26, 3, 39, 6, 6, 680),
  (65, .iload_n 3, 1, 40, 0, 0, 99999),
  (66, .iaload, 1, 41, 0, 0, 99999),
  (67, .imul, 1, 42, 0, 0, 99999),
  (68, .if_icmp .ge 5, 3, 43, 45, 0, 99999),
  (71, .iload_n 3, 1, 44, 0, 0, 99999),
  (72, .istore_n 2, 1, 45, 0, 0, 99999),
  (73, .iinc 3 1, 3, 46, 0, 0, 99999),
  (76, .goto (-58), 3, 47, 11, 0, 99999),
  (79, .aload_n 0, 1, 48, 0, 0, 99999),
  (80, .getfield 17, 3, 49, 6, 3, 677),
  (83, .iload_n 1, 1, 50, 0, 0, 99999),
  (84, .iaload, 1, 51, 0, 0, 99999),
  (85, .iconst 2, 1, 52, 0, 0, 99999),
  (86, .iand, 1, 53, 0, 0, 99999),
  (87, .ifCond .eq 9, 3, 54, 57, 0, 99999),
  (90, .iload_n 2, 1, 55, 0, 0, 99999),
  (91, .bipush (-9), 2, 56, 0, 0, 99999),
  (93, .if_icmp .ne 10, 3, 57, 61, 0, 99999),
  (96, .aload_n 0, 1, 58, 0, 0, 99999),
  (97, .bipush (-3), 2, 59, 0, 0, 99999),
  (99, .invokevirtual 104, 3, 60, 119, 0, 794),
  (102, .ireturn, 1, 61, 0, 0, 99999),
  (103, .aload_n 0, 1, 62, 0, 0, 99999),
  (104, .getfield 47, 3, 63, 6, 13, 687),
  (107, .iload_n 2, 1, 64, 0, 0, 99999),
  (108, .dup2, 1, 65, 0, 0, 99999),
  (109, .iaload, 1, 66, 0, 0, 99999),
  (110, .iconst 1, 1, 67, 0, 0, 99999),
  (111, .iadd, 1, 68, 0, 0, 99999),
  (112, .iastore, 1, 69, 0, 0, 99999),
  (113, .iload_n 2, 1, 70, 0, 0, 99999),
  (114, .ireturn, 1, 71, 0, 0, 99999)]
def M_G_turn : Mth := (⟨"FloorPlansModel", "turn", "(I)I"⟩, prog_8_method_47_code, 4, (some FieldType.int), T_M_G_turn, [970, 51, 968, 969, 99999])
def T_M_G_teamOf : List Ent := [(0, .aload_n 0, 1, 1, 0, 0, 99999),
  (1, .iload_n 1, 1, 2, 0, 0, 99999),
  (2, .invokevirtual 108, 3, 3, 110, 0, 806),
  (5, .ifCond .ne 9, 3, 4, 8, 0, 99999),
  (8, .aload_n 0, 1, 5, 0, 0, 99999),
  (9, .iconst (-1), 1, 6, 0, 0, 99999),
  (10, .invokevirtual 104, 3, 7, 119, 0, 794),
  (13, .ireturn, 1, 8, 0, 0, 99999),
  (14, .iload_n 2, 1, 9, 0, 0, 99999),
  (15, .tableswitch 120 0 8 #[49, 56, 63, 70, 77, 84, 99, 106, 113], 49, 10, 0, 0, 99999),
  (64, .aload_n 0, 1, 11, 0, 0, 99999),
  (65, .getfield 26, 3, 12, 6, 6, 680),
  (68, .iload_n 1, 1, 13, 0, 0, 99999),
  (69, .iaload, 1, 14, 0, 0, 99999),
  (70, .ireturn, 1, 15, 0, 0, 99999),
  (71, .aload_n 0, 1, 16, 0, 0, 99999),
  (72, .getfield 29, 3, 17, 6, 7, 681),
  (75, .iload_n 1, 1, 18, 0, 0, 99999),
  (76, .iaload, 1, 19, 0, 0, 99999),
  (77, .ireturn, 1, 20, 0, 0, 99999),
  (78, .aload_n 0, 1, 21, 0, 0, 99999),
  (79, .getfield 32, 3, 22, 6, 8, 682),
  (82, .iload_n 1, 1, 23, 0, 0, 99999),
  (83, .iaload, 1, 24, 0, 0, 99999),
  (84, .ireturn, 1, 25, 0, 0, 99999),
  (85, .aload_n 0, 1, 26, 0, 0, 99999),
  (86, .getfield 35, 3, 27, 6, 9, 683),
  (89, .iload_n 1, 1, 28, 0, 0, 99999),
  (90, .iaload, 1, 29, 0, 0, 99999),
  (91, .ireturn, 1, 30, 0, 0, 99999),
  (92, .aload_n 0, 1, 31, 0, 0, 99999),
  (93, .getfield 38, 3, 32, 6, 10, 684),
  (96, .iload_n 1, 1, 33, 0, 0, 99999),
  (97, .iaload, 1, 34, 0, 0, 99999),
  (98, .ireturn, 1, 35, 0, 0, 99999),
  (99, .aload_n 0, 1, 36, 0, 0, 99999),
  (100, .getfield 50, 3, 37, 6, 14, 688),
  (103, .iload_n 1, 1, 38, 0, 0, 99999),
  (104, .baload, 1, 39, 0, 0, 99999),
  (105, .ifCond .eq 7, 3, 40, 42, 0, 99999),
  (108, .iconst 1, 1, 41, 0, 0, 99999),
  (109, .goto 4, 3, 42, 43, 0, 99999),
  (112, .iconst 0, 1, 43, 0, 0, 99999),
  (113, .ireturn, 1, 44, 0, 0, 99999),
  (114, .aload_n 0, 1, 45, 0, 0, 99999),
  (115, .getfield 41, 3, 46, 6, 11, 685),
  (118, .iload_n 1, 1, 47, 0, 0, 99999),
  (119, .iaload, 1, 48, 0, 0, 99999),
  (120, .ireturn, 1, 49, 0, 0, 99999),
  (121, .aload_n 0, 1, 50, 0, 0, 99999),
  (122, .getfield 44, 3, 51, 6, 12, 686),
  (125, .iload_n 1, 1, 52, 0, 0, 99999),
  (126, .iaload, 1, 53, 0, 0, 99999),
  (127, .ireturn, 1, 54, 0, 0, 99999),
  (128, .aload_n 0, 1, 55, 0, 0, 99999),
  (129, .getfield 47, 3, 56, 6, 13, 687),
  (132, .iload_n 1, 1, 57, 0, 0, 99999),
  (133, .iaload, 1, 58, 0, 0, 99999),
  (134, .ireturn, 1, 59, 0, 0, 99999),
  (135, .aload_n 0, 1, 60, 0, 0, 99999),
  (136, .bipush (-2), 2, 61, 0, 0, 99999),
  (138, .invokevirtual 104, 3, 62, 119, 0, 794),
  (141, .ireturn, 1, 63, 0, 0, 99999)]
def M_G_teamOf : Mth := (⟨"FloorPlansModel", "teamOf", "(II)I"⟩, prog_8_method_48_code, 3, (some FieldType.int), T_M_G_teamOf, [974, 51, 972, 973, 99999])
def T_M_G_free : List Ent := [(0, .iload_n 1, 1, 1, 0, 0, 99999),
  (1, .invokestatic 100, 3, 2, 109, 0, 791),
  (4, .ifCond .ne 9, 3, 3, 7, 0, 99999),
  (7, .aload_n 0, 1, 4, 0, 0, 99999),
  (8, .iconst (-1), 1, 5, 0, 0, 99999),
  (9, .invokevirtual 104, 3, 6, 119, 0, 794),
  (12, .ireturn, 1, 7, 0, 0, 99999),
  (13, .sipush 10000, 3, 8, 0, 0, 99999),
  (16, .aload_n 0, 1, 9, 0, 0, 99999),
  (17, .getfield 13, 3, 10, 6, 2, 676),
  (20, .iload_n 1, 1, 11, 0, 0, 99999),
  (21, .iaload, 1, 12, 0, 0, 99999),
  (22, .iadd, 1, 13, 0, 0, 99999),
  (23, .istore_n 2, 1, 14, 0, 0, 99999),
  (24, .iconst 0, 1, 15, 0, 0, 99999),
  (25, .istore_n 3, 1, 16, 0, 0, 99999),
  (26, .iload_n 3, 1, 17, 0, 0, 99999),
  (27, .aload_n 0, 1, 18, 0, 0, 99999),
  (28, .getfield 97, 3, 19, 6, 0, 674),
  (31, .if_icmp .ge 28, 3, 20, 35, 0, 99999),
  (34, .aload_n 0, 1, 21, 0, 0, 99999),
  (35, .getfield 38, 3, 22, 6, 10, 684),
  (38, .iload_n 3, 1, 23, 0, 0, 99999),
  (39, .iaload, 1, 24, 0, 0, 99999),
  (40, .iload_n 1, 1, 25, 0, 0, 99999),
  (41, .if_icmp .ne 12, 3, 26, 33, 0, 99999),
  (44, .iload_n 2, 1, 27, 0, 0, 99999),
  (45, .aload_n 0, 1, 28, 0, 0, 99999),
  (46, .getfield 26, 3, 29, 6, 6, 680),
  (49, .iload_n 3, 1, 30, 0, 0, 99999),
  (50, .iaload, 1, 31, 0, 0, 99999),
  (51, .isub, 1, 32, 0, 0, 99999),
  (52, .istore_n 2, 1, 33, 0, 0, 99999),
  (53, .iinc 3 1, 3, 34, 0, 0, 99999),
  (56, .goto (-30), 3, 35, 16, 0, 99999),
  (59, .iload_n 2, 1, 36, 0, 0, 99999),
  (60, .ireturn, 1, 37, 0, 0, 99999)]
def M_G_free : Mth := (⟨"FloorPlansModel", "free", "(I)I"⟩, prog_8_method_49_code, 4, (some FieldType.int), T_M_G_free, [978, 51, 976, 977, 99999])
def T_M_G_count : List Ent := [(0, .iload_n 1, 1, 1, 0, 0, 99999),
  (1, .bipush 10, 2, 2, 0, 0, 99999),
  (3, .if_icmp .le 19, 3, 3, 13, 0, 99999),
  (6, .iload_n 1, 1, 4, 0, 0, 99999),
  (7, .bipush 17, 2, 5, 0, 0, 99999),
  (9, .if_icmp .ge 13, 3, 6, 13, 0, 99999),
  (12, .aload_n 0, 1, 7, 0, 0, 99999),
  (13, .getfield 72, 3, 8, 6, 21, 695),
  (16, .iload_n 1, 1, 9, 0, 0, 99999),
  (17, .bipush 10, 2, 10, 0, 0, 99999),
  (19, .isub, 1, 11, 0, 0, 99999),
  (20, .iaload, 1, 12, 0, 0, 99999),
  (21, .ireturn, 1, 13, 0, 0, 99999),
  (22, .iconst 0, 1, 14, 0, 0, 99999),
  (23, .istore_n 2, 1, 15, 0, 0, 99999),
  (24, .iload_n 1, 1, 16, 0, 0, 99999),
  (25, .tableswitch 187 0 6 #[43, 48, 80, 110, 119, 128, 160], 43, 17, 0, 0, 99999),
  (68, .aload_n 0, 1, 18, 0, 0, 99999),
  (69, .getfield 97, 3, 19, 6, 0, 674),
  (72, .ireturn, 1, 20, 0, 0, 99999),
  (73, .iconst 0, 1, 21, 0, 0, 99999),
  (74, .istore_n 3, 1, 22, 0, 0, 99999),
  (75, .iload_n 3, 1, 23, 0, 0, 99999),
  (76, .aload_n 0, 1, 24, 0, 0, 99999),
  (77, .getfield 97, 3, 25, 6, 0, 674),
  (80, .if_icmp .ge 23, 3, 26, 35, 0, 99999),
  (83, .aload_n 0, 1, 27, 0, 0, 99999),
  (84, .getfield 38, 3, 28, 6, 10, 684),
  (87, .iload_n 3, 1, 29, 0, 0, 99999),
  (88, .iaload, 1, 30, 0, 0, 99999),
  (89, .bipush (-9), 2, 31, 0, 0, 99999),
  (91, .if_icmp .eq 6, 3, 32, 33, 0, 99999),
  (94, .iinc 2 1, 3, 33, 0, 0, 99999),
  (97, .iinc 3 1, 3, 34, 0, 0, 99999),
  (100, .goto (-25), 3, 35, 22, 0, 99999),
  (103, .iload_n 2, 1, 36, 0, 0, 99999),
  (104, .ireturn, 1, 37, 0, 0, 99999),
  (105, .iconst 0, 1, 38, 0, 0, 99999),
  (106, .istore_n 3, 1, 39, 0, 0, 99999),
  (107, .iload_n 3, 1, 40, 0, 0, 99999),
  (108, .aload_n 0, 1, 41, 0, 0, 99999),
  (109, .getfield 97, 3, 42, 6, 0, 674),
  (112, .if_icmp .ge 21, 3, 43, 51, 0, 99999),
  (115, .aload_n 0, 1, 44, 0, 0, 99999),
  (116, .getfield 50, 3, 45, 6, 14, 688),
  (119, .iload_n 3, 1, 46, 0, 0, 99999),
  (120, .baload, 1, 47, 0, 0, 99999),
  (121, .ifCond .eq 6, 3, 48, 49, 0, 99999),
  (124, .iinc 2 1, 3, 49, 0, 0, 99999),
  (127, .iinc 3 1, 3, 50, 0, 0, 99999),
  (130, .goto (-23), 3, 51, 39, 0, 99999),
  (133, .iload_n 2, 1, 52, 0, 0, 99999),
  (134, .ireturn, 1, 53, 0, 0, 99999),
  (135, .aload_n 0, 1, 54, 0, 0, 99999),
  (136, .aload_n 0, 1, 55, 0, 0, 99999),
  (137, .getfield 57, 3, 56, 6, 16, 690),
  (140, .invokevirtual 200, 3, 57, 137, 0, 983),
  (143, .ireturn, 1, 58, 0, 0, 99999),
  (144, .aload_n 0, 1, 59, 0, 0, 99999),
  (145, .aload_n 0, 1, 60, 0, 0, 99999),
  (146, .getfield 60, 3, 61, 6, 17, 691),
  (149, .invokevirtual 200, 3, 62, 137, 0, 983),
  (152, .ireturn, 1, 63, 0, 0, 99999),
  (153, .iconst 0, 1, 64, 0, 0, 99999),
  (154, .istore_n 3, 1, 65, 0, 0, 99999),
  (155, .iload_n 3, 1, 66, 0, 0, 99999),
  (156, .aload_n 0, 1, 67, 0, 0, 99999),
  (157, .getfield 97, 3, 68, 6, 0, 674),
  (160, .if_icmp .ge 23, 3, 69, 78, 0, 99999),
  (163, .aload_n 0, 1, 70, 0, 0, 99999),
  (164, .getfield 41, 3, 71, 6, 11, 685),
  (167, .iload_n 3, 1, 72, 0, 0, 99999),
  (168, .iaload, 1, 73, 0, 0, 99999),
  (169, .bipush (-9), 2, 74, 0, 0, 99999),
  (171, .if_icmp .eq 6, 3, 75, 76, 0, 99999),
  (174, .iinc 2 1, 3, 76, 0, 0, 99999),
  (177, .iinc 3 1, 3, 77, 0, 0, 99999),
  (180, .goto (-25), 3, 78, 65, 0, 99999),
  (183, .iload_n 2, 1, 79, 0, 0, 99999),
  (184, .ireturn, 1, 80, 0, 0, 99999),
  (185, .iconst 0, 1, 81, 0, 0, 99999),
  (186, .istore_n 3, 1, 82, 0, 0, 99999),
  (187, .iload_n 3, 1, 83, 0, 0, 99999),
  (188, .aload_n 0, 1, 84, 0, 0, 99999),
  (189, .getfield 97, 3, 85, 6, 0, 674),
  (192, .if_icmp .ge 18, 3, 86, 95, 0, 99999),
  (195, .iload_n 2, 1, 87, 0, 0, 99999),
  (196, .aload_n 0, 1, 88, 0, 0, 99999),
  (197, .getfield 44, 3, 89, 6, 12, 686),
  (200, .iload_n 3, 1, 90, 0, 0, 99999),
  (201, .iaload, 1, 91, 0, 0, 99999),
  (202, .iadd, 1, 92, 0, 0, 99999),
  (203, .istore_n 2, 1, 93, 0, 0, 99999),
  (204, .iinc 3 1, 3, 94, 0, 0, 99999),
  (207, .goto (-20), 3, 95, 82, 0, 99999),
  (210, .iload_n 2, 1, 96, 0, 0, 99999),
  (211, .ireturn, 1, 97, 0, 0, 99999),
  (212, .bipush (-9), 2, 98, 0, 0, 99999),
  (214, .ireturn, 1, 99, 0, 0, 99999)]
def M_G_count : Mth := (⟨"FloorPlansModel", "count", "(I)I"⟩, prog_8_method_51_code, 4, (some FieldType.int), T_M_G_count, [982, 51, 980, 981, 99999])
def T_M_G_twos : List Ent := [(0, .iconst 0, 1, 1, 0, 0, 99999),
  (1, .istore_n 2, 1, 2, 0, 0, 99999),
  (2, .iconst 0, 1, 3, 0, 0, 99999),
  (3, .istore_n 3, 1, 4, 0, 0, 99999),
  (4, .iload_n 3, 1, 5, 0, 0, 99999),
  (5, .aload_n 0, 1, 6, 0, 0, 99999),
  (6, .getfield 97, 3, 7, 6, 0, 674),
  (9, .if_icmp .ge 36, 3, 8, 27, 0, 99999),
  (12, .iconst 0, 1, 9, 0, 0, 99999),
  (13, .istore 4, 2, 10, 0, 0, 99999),
  (15, .iload 4, 2, 11, 0, 0, 99999),
  (17, .iload_n 3, 1, 12, 0, 0, 99999),
  (18, .if_icmp .ge 21, 3, 13, 25, 0, 99999),
  (21, .iload_n 2, 1, 14, 0, 0, 99999),
  (22, .aload_n 1, 1, 15, 0, 0, 99999),
  (23, .bipush 16, 2, 16, 0, 0, 99999),
  (25, .iload_n 3, 1, 17, 0, 0, 99999),
  (26, .imul, 1, 18, 0, 0, 99999),
  (27, .iload 4, 2, 19, 0, 0, 99999),
  (29, .iadd, 1, 20, 0, 0, 99999),
  (30, .iaload, 1, 21, 0, 0, 99999),
  (31, .iadd, 1, 22, 0, 0, 99999),
  (32, .istore_n 2, 1, 23, 0, 0, 99999),
  (33, .iinc 4 1, 3, 24, 0, 0, 99999),
  (36, .goto (-21), 3, 25, 10, 0, 99999),
  (39, .iinc 3 1, 3, 26, 0, 0, 99999),
  (42, .goto (-38), 3, 27, 4, 0, 99999),
  (45, .iload_n 2, 1, 28, 0, 0, 99999),
  (46, .ireturn, 1, 29, 0, 0, 99999)]
def M_G_twos : Mth := (⟨"FloorPlansModel", "twos", "([I)I"⟩, prog_8_method_50_code, 5, (some FieldType.int), T_M_G_twos, [986, 51, 985, 41, 99999])
def T_M_law : List Ent := [(0, .new 7, 3, 1, 5, 0, 54),
  (3, .dup, 1, 2, 0, 0, 99999),
  (4, .invokespecial 9, 3, 3, 0, 0, 56),
  (7, .astore_n 1, 1, 4, 0, 0, 99999),
  (8, .new 10, 3, 5, 6, 0, 668),
  (11, .dup, 1, 6, 0, 0, 99999),
  (12, .invokespecial 12, 3, 7, 91, 0, 670),
  (15, .astore_n 2, 1, 8, 0, 0, 99999),
  (16, .iconst 0, 1, 9, 0, 0, 99999),
  (17, .istore_n 3, 1, 10, 0, 0, 99999),
  (18, .iload_n 3, 1, 11, 0, 0, 99999),
  (19, .aload_n 0, 1, 12, 0, 0, 99999),
  (20, .arraylength, 1, 13, 0, 0, 99999),
  (21, .iconst 5, 1, 14, 0, 0, 99999),
  (22, .isub, 1, 15, 0, 0, 99999),
  (23, .if_icmp .gt 1073, 3, 16, 778, 0, 99999),
  (26, .aload_n 0, 1, 17, 0, 0, 99999),
  (27, .iload_n 3, 1, 18, 0, 0, 99999),
  (28, .iaload, 1, 19, 0, 0, 99999),
  (29, .bipush 31, 2, 20, 0, 0, 99999),
  (31, .iand, 1, 21, 0, 0, 99999),
  (32, .tableswitch 1058 0 27 #[128, 171, 224, 257, 290, 339, 392, 405, 428, 441, 484, 527, 560, 593, 616, 659, 682, 725, 748, 791, 824, 867, 900, 933, 956, 979, 1012, 1035], 128, 22, 0, 0, 99999),
  (160, .aload_n 1, 1, 23, 0, 0, 99999),
  (161, .aload_n 0, 1, 24, 0, 0, 99999),
  (162, .iload_n 3, 1, 25, 0, 0, 99999),
  (163, .iconst 1, 1, 26, 0, 0, 99999),
  (164, .iadd, 1, 27, 0, 0, 99999),
  (165, .iaload, 1, 28, 0, 0, 99999),
  (166, .aload_n 0, 1, 29, 0, 0, 99999),
  (167, .iload_n 3, 1, 30, 0, 0, 99999),
  (168, .iconst 2, 1, 31, 0, 0, 99999),
  (169, .iadd, 1, 32, 0, 0, 99999),
  (170, .iaload, 1, 33, 0, 0, 99999),
  (171, .aload_n 0, 1, 34, 0, 0, 99999),
  (172, .iload_n 3, 1, 35, 0, 0, 99999),
  (173, .iconst 3, 1, 36, 0, 0, 99999),
  (174, .iadd, 1, 37, 0, 0, 99999),
  (175, .iaload, 1, 38, 0, 0, 99999),
  (176, .invokevirtual 13, 3, 39, 9, 0, 282),
  (179, .aload_n 2, 1, 40, 0, 0, 99999),
  (180, .aload_n 0, 1, 41, 0, 0, 99999),
  (181, .iload_n 3, 1, 42, 0, 0, 99999),
  (182, .iconst 1, 1, 43, 0, 0, 99999),
  (183, .iadd, 1, 44, 0, 0, 99999),
  (184, .iaload, 1, 45, 0, 0, 99999),
  (185, .aload_n 0, 1, 46, 0, 0, 99999),
  (186, .iload_n 3, 1, 47, 0, 0, 99999),
  (187, .iconst 2, 1, 48, 0, 0, 99999),
  (188, .iadd, 1, 49, 0, 0, 99999),
  (189, .iaload, 1, 50, 0, 0, 99999),
  (190, .aload_n 0, 1, 51, 0, 0, 99999),
  (191, .iload_n 3, 1, 52, 0, 0, 99999),
  (192, .iconst 3, 1, 53, 0, 0, 99999),
  (193, .iadd, 1, 54, 0, 0, 99999),
  (194, .iaload, 1, 55, 0, 0, 99999),
  (195, .invokevirtual 17, 3, 56, 102, 0, 787),
  (198, .if_icmp .eq 892, 3, 57, 776, 0, 99999),
  (201, .iconst 0, 1, 58, 0, 0, 99999),
  (202, .ireturn, 1, 59, 0, 0, 99999),
  (203, .aload_n 1, 1, 60, 0, 0, 99999),
  (204, .aload_n 0, 1, 61, 0, 0, 99999),
  (205, .iload_n 3, 1, 62, 0, 0, 99999),
  (206, .iconst 1, 1, 63, 0, 0, 99999),
  (207, .iadd, 1, 64, 0, 0, 99999),
  (208, .iaload, 1, 65, 0, 0, 99999),
  (209, .aload_n 0, 1, 66, 0, 0, 99999),
  (210, .iload_n 3, 1, 67, 0, 0, 99999),
  (211, .iconst 2, 1, 68, 0, 0, 99999),
  (212, .iadd, 1, 69, 0, 0, 99999),
  (213, .iaload, 1, 70, 0, 0, 99999),
  (214, .aload_n 0, 1, 71, 0, 0, 99999),
  (215, .iload_n 3, 1, 72, 0, 0, 99999),
  (216, .iconst 3, 1, 73, 0, 0, 99999),
  (217, .iadd, 1, 74, 0, 0, 99999),
  (218, .iaload, 1, 75, 0, 0, 99999),
  (219, .aload_n 0, 1, 76, 0, 0, 99999),
  (220, .iload_n 3, 1, 77, 0, 0, 99999),
  (221, .iconst 4, 1, 78, 0, 0, 99999),
  (222, .iadd, 1, 79, 0, 0, 99999),
  (223, .iaload, 1, 80, 0, 0, 99999),
  (224, .invokevirtual 18, 3, 81, 30, 0, 297),
  (227, .aload_n 2, 1, 82, 0, 0, 99999),
  (228, .aload_n 0, 1, 83, 0, 0, 99999),
  (229, .iload_n 3, 1, 84, 0, 0, 99999),
  (230, .iconst 1, 1, 85, 0, 0, 99999),
  (231, .iadd, 1, 86, 0, 0, 99999),
  (232, .iaload, 1, 87, 0, 0, 99999),
  (233, .aload_n 0, 1, 88, 0, 0, 99999),
  (234, .iload_n 3, 1, 89, 0, 0, 99999),
  (235, .iconst 2, 1, 90, 0, 0, 99999),
  (236, .iadd, 1, 91, 0, 0, 99999),
  (237, .iaload, 1, 92, 0, 0, 99999),
  (238, .aload_n 0, 1, 93, 0, 0, 99999),
  (239, .iload_n 3, 1, 94, 0, 0, 99999),
  (240, .iconst 3, 1, 95, 0, 0, 99999),
  (241, .iadd, 1, 96, 0, 0, 99999),
  (242, .iaload, 1, 97, 0, 0, 99999),
  (243, .aload_n 0, 1, 98, 0, 0, 99999),
  (244, .iload_n 3, 1, 99, 0, 0, 99999),
  (245, .iconst 4, 1, 100, 0, 0, 99999),
  (246, .iadd, 1, 101, 0, 0, 99999),
  (247, .iaload, 1, 102, 0, 0, 99999),
  (248, .invokevirtual 22, 3, 103, 133, 0, 798),
  (251, .if_icmp .eq 839, 3, 104, 776, 0, 99999),
  (254, .iconst 0, 1, 105, 0, 0, 99999),
  (255, .ireturn, 1, 106, 0, 0, 99999),
  (256, .aload_n 1, 1, 107, 0, 0, 99999),
  (257, .aload_n 0, 1, 108, 0, 0, 99999),
  (258, .iload_n 3, 1, 109, 0, 0, 99999),
  (259, .iconst 1, 1, 110, 0, 0, 99999),
  (260, .iadd, 1, 111, 0, 0, 99999),
  (261, .iaload, 1, 112, 0, 0, 99999),
  (262, .aload_n 0, 1, 113, 0, 0, 99999),
  (263, .iload_n 3, 1, 114, 0, 0, 99999),
  (264, .iconst 2, 1, 115, 0, 0, 99999),
  (265, .iadd, 1, 116, 0, 0, 99999),
  (266, .iaload, 1, 117, 0, 0, 99999),
  (267, .invokevirtual 23, 3, 118, 27, 0, 301),
  (270, .aload_n 2, 1, 119, 0, 0, 99999),
  (271, .aload_n 0, 1, 120, 0, 0, 99999),
  (272, .iload_n 3, 1, 121, 0, 0, 99999),
  (273, .iconst 1, 1, 122, 0, 0, 99999),
  (274, .iadd, 1, 123, 0, 0, 99999),
  (275, .iaload, 1, 124, 0, 0, 99999),
  (276, .aload_n 0, 1, 125, 0, 0, 99999),
  (277, .iload_n 3, 1, 126, 0, 0, 99999),
  (278, .iconst 2, 1, 127, 0, 0, 99999),
  (279, .iadd, 1, 128, 0, 0, 99999),
  (280, .iaload, 1, 129, 0, 0, 99999),
  (281, .invokevirtual 27, 3, 130, 128, 0, 802),
  (284, .if_icmp .eq 806, 3, 131, 776, 0, 99999),
  (287, .iconst 0, 1, 132, 0, 0, 99999),
  (288, .ireturn, 1, 133, 0, 0, 99999),
  (289, .aload_n 1, 1, 134, 0, 0, 99999),
  (290, .aload_n 0, 1, 135, 0, 0, 99999),
  (291, .iload_n 3, 1, 136, 0, 0, 99999),
  (292, .iconst 1, 1, 137, 0, 0, 99999),
  (293, .iadd, 1, 138, 0, 0, 99999),
  (294, .iaload, 1, 139, 0, 0, 99999),
  (295, .aload_n 0, 1, 140, 0, 0, 99999),
  (296, .iload_n 3, 1, 141, 0, 0, 99999),
  (297, .iconst 2, 1, 142, 0, 0, 99999),
  (298, .iadd, 1, 143, 0, 0, 99999),
  (299, .iaload, 1, 144, 0, 0, 99999),
  (300, .invokevirtual 28, 3, 145, 26, 0, 309),
  (303, .aload_n 2, 1, 146, 0, 0, 99999),
  (304, .aload_n 0, 1, 147, 0, 0, 99999),
  (305, .iload_n 3, 1, 148, 0, 0, 99999),
  (306, .iconst 1, 1, 149, 0, 0, 99999),
  (307, .iadd, 1, 150, 0, 0, 99999),
  (308, .iaload, 1, 151, 0, 0, 99999),
  (309, .aload_n 0, 1, 152, 0, 0, 99999),
  (310, .iload_n 3, 1, 153, 0, 0, 99999),
  (311, .iconst 2, 1, 154, 0, 0, 99999),
  (312, .iadd, 1, 155, 0, 0, 99999),
  (313, .iaload, 1, 156, 0, 0, 99999),
  (314, .invokevirtual 31, 3, 157, 127, 0, 810),
  (317, .if_icmp .eq 773, 3, 158, 776, 0, 99999),
  (320, .iconst 0, 1, 159, 0, 0, 99999),
  (321, .ireturn, 1, 160, 0, 0, 99999),
  (322, .aload_n 1, 1, 161, 0, 0, 99999),
  (323, .aload_n 0, 1, 162, 0, 0, 99999),
  (324, .iload_n 3, 1, 163, 0, 0, 99999),
  (325, .iconst 1, 1, 164, 0, 0, 99999),
  (326, .iadd, 1, 165, 0, 0, 99999),
  (327, .iaload, 1, 166, 0, 0, 99999),
  (328, .aload_n 0, 1, 167, 0, 0, 99999),
  (329, .iload_n 3, 1, 168, 0, 0, 99999),
  (330, .iconst 2, 1, 169, 0, 0, 99999),
  (331, .iadd, 1, 170, 0, 0, 99999),
  (332, .iaload, 1, 171, 0, 0, 99999),
  (333, .ifCond .eq 7, 3, 172, 174, 0, 99999),
  (336, .iconst 1, 1, 173, 0, 0, 99999),
  (337, .goto 4, 3, 174, 175, 0, 99999),
  (340, .iconst 0, 1, 175, 0, 0, 99999),
  (341, .invokevirtual 32, 3, 176, 8, 0, 313),
  (344, .aload_n 2, 1, 177, 0, 0, 99999),
  (345, .aload_n 0, 1, 178, 0, 0, 99999),
  (346, .iload_n 3, 1, 179, 0, 0, 99999),
  (347, .iconst 1, 1, 180, 0, 0, 99999),
  (348, .iadd, 1, 181, 0, 0, 99999),
  (349, .iaload, 1, 182, 0, 0, 99999),
  (350, .aload_n 0, 1, 183, 0, 0, 99999),
  (351, .iload_n 3, 1, 184, 0, 0, 99999),
  (352, .iconst 2, 1, 185, 0, 0, 99999),
  (353, .iadd, 1, 186, 0, 0, 99999),
  (354, .iaload, 1, 187, 0, 0, 99999),
  (355, .ifCond .eq 7, 3, 188, 190, 0, 99999),
  (358, .iconst 1, 1, 189, 0, 0, 99999),
  (359, .goto 4, 3, 190, 191, 0, 99999),
  (362, .iconst 0, 1, 191, 0, 0, 99999),
  (363, .invokevirtual 36, 3, 192, 101, 0, 814),
  (366, .if_icmp .eq 724, 3, 193, 776, 0, 99999),
  (369, .iconst 0, 1, 194, 0, 0, 99999),
  (370, .ireturn, 1, 195, 0, 0, 99999),
  (371, .aload_n 1, 1, 196, 0, 0, 99999),
  (372, .aload_n 0, 1, 197, 0, 0, 99999),
  (373, .iload_n 3, 1, 198, 0, 0, 99999),
  (374, .iconst 1, 1, 199, 0, 0, 99999),
  (375, .iadd, 1, 200, 0, 0, 99999),
  (376, .iaload, 1, 201, 0, 0, 99999),
  (377, .aload_n 0, 1, 202, 0, 0, 99999),
  (378, .iload_n 3, 1, 203, 0, 0, 99999),
  (379, .iconst 2, 1, 204, 0, 0, 99999),
  (380, .iadd, 1, 205, 0, 0, 99999),
  (381, .iaload, 1, 206, 0, 0, 99999),
  (382, .aload_n 0, 1, 207, 0, 0, 99999),
  (383, .iload_n 3, 1, 208, 0, 0, 99999),
  (384, .iconst 3, 1, 209, 0, 0, 99999),
  (385, .iadd, 1, 210, 0, 0, 99999),
  (386, .iaload, 1, 211, 0, 0, 99999),
  (387, .aload_n 0, 1, 212, 0, 0, 99999),
  (388, .iload_n 3, 1, 213, 0, 0, 99999),
  (389, .iconst 4, 1, 214, 0, 0, 99999),
  (390, .iadd, 1, 215, 0, 0, 99999),
  (391, .iaload, 1, 216, 0, 0, 99999),
  (392, .invokevirtual 37, 3, 217, 33, 0, 317),
  (395, .aload_n 2, 1, 218, 0, 0, 99999),
  (396, .aload_n 0, 1, 219, 0, 0, 99999),
  (397, .iload_n 3, 1, 220, 0, 0, 99999),
  (398, .iconst 1, 1, 221, 0, 0, 99999),
  (399, .iadd, 1, 222, 0, 0, 99999),
  (400, .iaload, 1, 223, 0, 0, 99999),
  (401, .aload_n 0, 1, 224, 0, 0, 99999),
  (402, .iload_n 3, 1, 225, 0, 0, 99999),
  (403, .iconst 2, 1, 226, 0, 0, 99999),
  (404, .iadd, 1, 227, 0, 0, 99999),
  (405, .iaload, 1, 228, 0, 0, 99999),
  (406, .aload_n 0, 1, 229, 0, 0, 99999),
  (407, .iload_n 3, 1, 230, 0, 0, 99999),
  (408, .iconst 3, 1, 231, 0, 0, 99999),
  (409, .iadd, 1, 232, 0, 0, 99999),
  (410, .iaload, 1, 233, 0, 0, 99999),
  (411, .aload_n 0, 1, 234, 0, 0, 99999),
  (412, .iload_n 3, 1, 235, 0, 0, 99999),
  (413, .iconst 4, 1, 236, 0, 0, 99999),
  (414, .iadd, 1, 237, 0, 0, 99999),
  (415, .iaload, 1, 238, 0, 0, 99999),
  (416, .invokevirtual 40, 3, 239, 136, 0, 818),
  (419, .if_icmp .eq 671, 3, 240, 776, 0, 99999),
  (422, .iconst 0, 1, 241, 0, 0, 99999),
  (423, .ireturn, 1, 242, 0, 0, 99999),
  (424, .aload_n 1, 1, 243, 0, 0, 99999),
  (425, .invokevirtual 41, 3, 244, 7, 0, 327),
  (428, .aload_n 2, 1, 245, 0, 0, 99999),
  (429, .invokevirtual 45, 3, 246, 100, 0, 822),
  (432, .if_icmp .eq 658, 3, 247, 776, 0, 99999),
  (435, .iconst 0, 1, 248, 0, 0, 99999),
  (436, .ireturn, 1, 249, 0, 0, 99999),
  (437, .aload_n 1, 1, 250, 0, 0, 99999),
  (438, .aload_n 0, 1, 251, 0, 0, 99999),
  (439, .iload_n 3, 1, 252, 0, 0, 99999),
  (440, .iconst 1, 1, 253, 0, 0, 99999),
  (441, .iadd, 1, 254, 0, 0, 99999),
  (442, .iaload, 1, 255, 0, 0, 99999),
  (443, .invokevirtual 46, 3, 256, 17, 0, 361),
  (446, .aload_n 2, 1, 257, 0, 0, 99999),
  (447, .aload_n 0, 1, 258, 0, 0, 99999),
  (448, .iload_n 3, 1, 259, 0, 0, 99999),
  (449, .iconst 1, 1, 260, 0, 0, 99999),
  (450, .iadd, 1, 261, 0, 0, 99999),
  (451, .iaload, 1, 262, 0, 0, 99999),
  (452, .invokevirtual 50, 3, 263, 115, 0, 833),
  (455, .if_icmp .eq 635, 3, 264, 776, 0, 99999),
  (458, .iconst 0, 1, 265, 0, 0, 99999),
  (459, .ireturn, 1, 266, 0, 0, 99999),
  (460, .aload_n 1, 1, 267, 0, 0, 99999),
  (461, .invokevirtual 51, 3, 268, 34, 0, 365),
  (464, .aload_n 2, 1, 269, 0, 0, 99999),
  (465, .invokevirtual 54, 3, 270, 138, 0, 837),
  (468, .if_icmp .eq 622, 3, 271, 776, 0, 99999),
  (471, .iconst 0, 1, 272, 0, 0, 99999),
  (472, .ireturn, 1, 273, 0, 0, 99999),
  (473, .aload_n 1, 1, 274, 0, 0, 99999),
  (474, .aload_n 0, 1, 275, 0, 0, 99999),
  (475, .iload_n 3, 1, 276, 0, 0, 99999),
  (476, .iconst 1, 1, 277, 0, 0, 99999),
  (477, .iadd, 1, 278, 0, 0, 99999),
  (478, .iaload, 1, 279, 0, 0, 99999),
  (479, .aload_n 0, 1, 280, 0, 0, 99999),
  (480, .iload_n 3, 1, 281, 0, 0, 99999),
  (481, .iconst 2, 1, 282, 0, 0, 99999),
  (482, .iadd, 1, 283, 0, 0, 99999),
  (483, .iaload, 1, 284, 0, 0, 99999),
  (484, .aload_n 0, 1, 285, 0, 0, 99999),
  (485, .iload_n 3, 1, 286, 0, 0, 99999),
  (486, .iconst 3, 1, 287, 0, 0, 99999),
  (487, .iadd, 1, 288, 0, 0, 99999),
  (488, .iaload, 1, 289, 0, 0, 99999),
  (489, .invokevirtual 55, 3, 290, 1, 0, 377),
  (492, .aload_n 2, 1, 291, 0, 0, 99999),
  (493, .aload_n 0, 1, 292, 0, 0, 99999),
  (494, .iload_n 3, 1, 293, 0, 0, 99999),
  (495, .iconst 1, 1, 294, 0, 0, 99999),
  (496, .iadd, 1, 295, 0, 0, 99999),
  (497, .iaload, 1, 296, 0, 0, 99999),
  (498, .aload_n 0, 1, 297, 0, 0, 99999),
  (499, .iload_n 3, 1, 298, 0, 0, 99999),
  (500, .iconst 2, 1, 299, 0, 0, 99999),
  (501, .iadd, 1, 300, 0, 0, 99999),
  (502, .iaload, 1, 301, 0, 0, 99999),
  (503, .aload_n 0, 1, 302, 0, 0, 99999),
  (504, .iload_n 3, 1, 303, 0, 0, 99999),
  (505, .iconst 3, 1, 304, 0, 0, 99999),
  (506, .iadd, 1, 305, 0, 0, 99999),
  (507, .iaload, 1, 306, 0, 0, 99999),
  (508, .invokevirtual 58, 3, 307, 93, 0, 845),
  (511, .if_icmp .eq 579, 3, 308, 776, 0, 99999),
  (514, .iconst 0, 1, 309, 0, 0, 99999),
  (515, .ireturn, 1, 310, 0, 0, 99999),
  (516, .aload_n 1, 1, 311, 0, 0, 99999),
  (517, .aload_n 0, 1, 312, 0, 0, 99999),
  (518, .iload_n 3, 1, 313, 0, 0, 99999),
  (519, .iconst 1, 1, 314, 0, 0, 99999),
  (520, .iadd, 1, 315, 0, 0, 99999),
  (521, .iaload, 1, 316, 0, 0, 99999),
  (522, .aload_n 0, 1, 317, 0, 0, 99999),
  (523, .iload_n 3, 1, 318, 0, 0, 99999),
  (524, .iconst 2, 1, 319, 0, 0, 99999),
  (525, .iadd, 1, 320, 0, 0, 99999),
  (526, .iaload, 1, 321, 0, 0, 99999),
  (527, .aload_n 0, 1, 322, 0, 0, 99999),
  (528, .iload_n 3, 1, 323, 0, 0, 99999),
  (529, .iconst 3, 1, 324, 0, 0, 99999),
  (530, .iadd, 1, 325, 0, 0, 99999),
  (531, .iaload, 1, 326, 0, 0, 99999),
  (532, .invokevirtual 59, 3, 327, 2, 0, 427),
  (535, .aload_n 2, 1, 328, 0, 0, 99999),
  (536, .aload_n 0, 1, 329, 0, 0, 99999),
  (537, .iload_n 3, 1, 330, 0, 0, 99999),
  (538, .iconst 1, 1, 331, 0, 0, 99999),
  (539, .iadd, 1, 332, 0, 0, 99999),
  (540, .iaload, 1, 333, 0, 0, 99999),
  (541, .aload_n 0, 1, 334, 0, 0, 99999),
  (542, .iload_n 3, 1, 335, 0, 0, 99999),
  (543, .iconst 2, 1, 336, 0, 0, 99999),
  (544, .iadd, 1, 337, 0, 0, 99999),
  (545, .iaload, 1, 338, 0, 0, 99999),
  (546, .aload_n 0, 1, 339, 0, 0, 99999),
  (547, .iload_n 3, 1, 340, 0, 0, 99999),
  (548, .iconst 3, 1, 341, 0, 0, 99999),
  (549, .iadd, 1, 342, 0, 0, 99999),
  (550, .iaload, 1, 343, 0, 0, 99999),
  (551, .invokevirtual 62, 3, 344, 94, 0, 860),
  (554, .if_icmp .eq 536, 3, 345, 776, 0, 99999),
  (557, .iconst 0, 1, 346, 0, 0, 99999),
  (558, .ireturn, 1, 347, 0, 0, 99999),
  (559, .aload_n 1, 1, 348, 0, 0, 99999),
  (560, .aload_n 0, 1, 349, 0, 0, 99999),
  (561, .iload_n 3, 1, 350, 0, 0, 99999),
  (562, .iconst 1, 1, 351, 0, 0, 99999),
  (563, .iadd, 1, 352, 0, 0, 99999),
  (564, .iaload, 1, 353, 0, 0, 99999),
  (565, .aload_n 0, 1, 354, 0, 0, 99999),
  (566, .iload_n 3, 1, 355, 0, 0, 99999),
  (567, .iconst 2, 1, 356, 0, 0, 99999),
  (568, .iadd, 1, 357, 0, 0, 99999),
  (569, .iaload, 1, 358, 0, 0, 99999),
  (570, .invokevirtual 63, 3, 359, 25, 0, 435),
  (573, .aload_n 2, 1, 360, 0, 0, 99999),
  (574, .aload_n 0, 1, 361, 0, 0, 99999),
  (575, .iload_n 3, 1, 362, 0, 0, 99999),
  (576, .iconst 1, 1, 363, 0, 0, 99999),
  (577, .iadd, 1, 364, 0, 0, 99999),
  (578, .iaload, 1, 365, 0, 0, 99999),
  (579, .aload_n 0, 1, 366, 0, 0, 99999),
  (580, .iload_n 3, 1, 367, 0, 0, 99999),
  (581, .iconst 2, 1, 368, 0, 0, 99999),
  (582, .iadd, 1, 369, 0, 0, 99999),
  (583, .iaload, 1, 370, 0, 0, 99999),
  (584, .invokevirtual 66, 3, 371, 125, 0, 864),
  (587, .if_icmp .eq 503, 3, 372, 776, 0, 99999),
  (590, .iconst 0, 1, 373, 0, 0, 99999),
  (591, .ireturn, 1, 374, 0, 0, 99999),
  (592, .aload_n 1, 1, 375, 0, 0, 99999),
  (593, .aload_n 0, 1, 376, 0, 0, 99999),
  (594, .iload_n 3, 1, 377, 0, 0, 99999),
  (595, .iconst 1, 1, 378, 0, 0, 99999),
  (596, .iadd, 1, 379, 0, 0, 99999),
  (597, .iaload, 1, 380, 0, 0, 99999),
  (598, .aload_n 0, 1, 381, 0, 0, 99999),
  (599, .iload_n 3, 1, 382, 0, 0, 99999),
  (600, .iconst 2, 1, 383, 0, 0, 99999),
  (601, .iadd, 1, 384, 0, 0, 99999),
  (602, .iaload, 1, 385, 0, 0, 99999),
  (603, .invokevirtual 67, 3, 386, 29, 0, 443),
  (606, .aload_n 2, 1, 387, 0, 0, 99999),
  (607, .aload_n 0, 1, 388, 0, 0, 99999),
  (608, .iload_n 3, 1, 389, 0, 0, 99999),
  (609, .iconst 1, 1, 390, 0, 0, 99999),
  (610, .iadd, 1, 391, 0, 0, 99999),
  (611, .iaload, 1, 392, 0, 0, 99999),
  (612, .aload_n 0, 1, 393, 0, 0, 99999),
  (613, .iload_n 3, 1, 394, 0, 0, 99999),
  (614, .iconst 2, 1, 395, 0, 0, 99999),
  (615, .iadd, 1, 396, 0, 0, 99999),
  (616, .iaload, 1, 397, 0, 0, 99999),
  (617, .invokevirtual 70, 3, 398, 132, 0, 868),
  (620, .if_icmp .eq 470, 3, 399, 776, 0, 99999),
  (623, .iconst 0, 1, 400, 0, 0, 99999),
  (624, .ireturn, 1, 401, 0, 0, 99999),
  (625, .aload_n 1, 1, 402, 0, 0, 99999),
  (626, .aload_n 0, 1, 403, 0, 0, 99999),
  (627, .iload_n 3, 1, 404, 0, 0, 99999),
  (628, .iconst 1, 1, 405, 0, 0, 99999),
  (629, .iadd, 1, 406, 0, 0, 99999),
  (630, .iaload, 1, 407, 0, 0, 99999),
  (631, .invokevirtual 71, 3, 408, 35, 0, 447),
  (634, .aload_n 2, 1, 409, 0, 0, 99999),
  (635, .aload_n 0, 1, 410, 0, 0, 99999),
  (636, .iload_n 3, 1, 411, 0, 0, 99999),
  (637, .iconst 1, 1, 412, 0, 0, 99999),
  (638, .iadd, 1, 413, 0, 0, 99999),
  (639, .iaload, 1, 414, 0, 0, 99999),
  (640, .invokevirtual 74, 3, 415, 140, 0, 872),
  (643, .if_icmp .eq 447, 3, 416, 776, 0, 99999),
  (646, .iconst 0, 1, 417, 0, 0, 99999),
  (647, .ireturn, 1, 418, 0, 0, 99999),
  (648, .aload_n 1, 1, 419, 0, 0, 99999),
  (649, .aload_n 0, 1, 420, 0, 0, 99999),
  (650, .iload_n 3, 1, 421, 0, 0, 99999),
  (651, .iconst 1, 1, 422, 0, 0, 99999),
  (652, .iadd, 1, 423, 0, 0, 99999),
  (653, .iaload, 1, 424, 0, 0, 99999),
  (654, .aload_n 0, 1, 425, 0, 0, 99999),
  (655, .iload_n 3, 1, 426, 0, 0, 99999),
  (656, .iconst 2, 1, 427, 0, 0, 99999),
  (657, .iadd, 1, 428, 0, 0, 99999),
  (658, .iaload, 1, 429, 0, 0, 99999),
  (659, .aload_n 0, 1, 430, 0, 0, 99999),
  (660, .iload_n 3, 1, 431, 0, 0, 99999),
  (661, .iconst 3, 1, 432, 0, 0, 99999),
  (662, .iadd, 1, 433, 0, 0, 99999),
  (663, .iaload, 1, 434, 0, 0, 99999),
  (664, .invokevirtual 75, 3, 435, 19, 0, 504),
  (667, .aload_n 2, 1, 436, 0, 0, 99999),
  (668, .aload_n 0, 1, 437, 0, 0, 99999),
  (669, .iload_n 3, 1, 438, 0, 0, 99999),
  (670, .iconst 1, 1, 439, 0, 0, 99999),
  (671, .iadd, 1, 440, 0, 0, 99999),
  (672, .iaload, 1, 441, 0, 0, 99999),
  (673, .aload_n 0, 1, 442, 0, 0, 99999),
  (674, .iload_n 3, 1, 443, 0, 0, 99999),
  (675, .iconst 2, 1, 444, 0, 0, 99999),
  (676, .iadd, 1, 445, 0, 0, 99999),
  (677, .iaload, 1, 446, 0, 0, 99999),
  (678, .aload_n 0, 1, 447, 0, 0, 99999),
  (679, .iload_n 3, 1, 448, 0, 0, 99999),
  (680, .iconst 3, 1, 449, 0, 0, 99999),
  (681, .iadd, 1, 450, 0, 0, 99999),
  (682, .iaload, 1, 451, 0, 0, 99999),
  (683, .invokevirtual 78, 3, 452, 117, 0, 904),
  (686, .if_icmp .eq 404, 3, 453, 776, 0, 99999),
  (689, .iconst 0, 1, 454, 0, 0, 99999),
  (690, .ireturn, 1, 455, 0, 0, 99999),
  (691, .aload_n 1, 1, 456, 0, 0, 99999),
  (692, .aload_n 0, 1, 457, 0, 0, 99999),
  (693, .iload_n 3, 1, 458, 0, 0, 99999),
  (694, .iconst 1, 1, 459, 0, 0, 99999),
  (695, .iadd, 1, 460, 0, 0, 99999),
  (696, .iaload, 1, 461, 0, 0, 99999),
  (697, .invokevirtual 79, 3, 462, 11, 0, 516),
  (700, .aload_n 2, 1, 463, 0, 0, 99999),
  (701, .aload_n 0, 1, 464, 0, 0, 99999),
  (702, .iload_n 3, 1, 465, 0, 0, 99999),
  (703, .iconst 1, 1, 466, 0, 0, 99999),
  (704, .iadd, 1, 467, 0, 0, 99999),
  (705, .iaload, 1, 468, 0, 0, 99999),
  (706, .invokevirtual 82, 3, 469, 105, 0, 912),
  (709, .if_icmp .eq 381, 3, 470, 776, 0, 99999),
  (712, .iconst 0, 1, 471, 0, 0, 99999),
  (713, .ireturn, 1, 472, 0, 0, 99999),
  (714, .aload_n 1, 1, 473, 0, 0, 99999),
  (715, .aload_n 0, 1, 474, 0, 0, 99999),
  (716, .iload_n 3, 1, 475, 0, 0, 99999),
  (717, .iconst 1, 1, 476, 0, 0, 99999),
  (718, .iadd, 1, 477, 0, 0, 99999),
  (719, .iaload, 1, 478, 0, 0, 99999),
  (720, .aload_n 0, 1, 479, 0, 0, 99999),
  (721, .iload_n 3, 1, 480, 0, 0, 99999),
  (722, .iconst 2, 1, 481, 0, 0, 99999),
  (723, .iadd, 1, 482, 0, 0, 99999),
  (724, .iaload, 1, 483, 0, 0, 99999),
  (725, .aload_n 0, 1, 484, 0, 0, 99999),
  (726, .iload_n 3, 1, 485, 0, 0, 99999),
  (727, .iconst 3, 1, 486, 0, 0, 99999),
  (728, .iadd, 1, 487, 0, 0, 99999),
  (729, .iaload, 1, 488, 0, 0, 99999),
  (730, .invokevirtual 83, 3, 489, 23, 0, 524),
  (733, .aload_n 2, 1, 490, 0, 0, 99999),
  (734, .aload_n 0, 1, 491, 0, 0, 99999),
  (735, .iload_n 3, 1, 492, 0, 0, 99999),
  (736, .iconst 1, 1, 493, 0, 0, 99999),
  (737, .iadd, 1, 494, 0, 0, 99999),
  (738, .iaload, 1, 495, 0, 0, 99999),
  (739, .aload_n 0, 1, 496, 0, 0, 99999),
  (740, .iload_n 3, 1, 497, 0, 0, 99999),
  (741, .iconst 2, 1, 498, 0, 0, 99999),
  (742, .iadd, 1, 499, 0, 0, 99999),
  (743, .iaload, 1, 500, 0, 0, 99999),
  (744, .aload_n 0, 1, 501, 0, 0, 99999),
  (745, .iload_n 3, 1, 502, 0, 0, 99999),
  (746, .iconst 3, 1, 503, 0, 0, 99999),
  (747, .iadd, 1, 504, 0, 0, 99999),
  (748, .iaload, 1, 505, 0, 0, 99999),
  (749, .invokevirtual 86, 3, 506, 121, 0, 916),
  (752, .if_icmp .eq 338, 3, 507, 776, 0, 99999),
  (755, .iconst 0, 1, 508, 0, 0, 99999),
  (756, .ireturn, 1, 509, 0, 0, 99999),
  (757, .aload_n 1, 1, 510, 0, 0, 99999),
  (758, .aload_n 0, 1, 511, 0, 0, 99999),
  (759, .iload_n 3, 1, 512, 0, 0, 99999),
  (760, .iconst 1, 1, 513, 0, 0, 99999),
  (761, .iadd, 1, 514, 0, 0, 99999),
  (762, .iaload, 1, 515, 0, 0, 99999),
  (763, .invokevirtual 87, 3, 516, 5, 0, 528),
  (766, .aload_n 2, 1, 517, 0, 0, 99999),
  (767, .aload_n 0, 1, 518, 0, 0, 99999),
  (768, .iload_n 3, 1, 519, 0, 0, 99999),
  (769, .iconst 1, 1, 520, 0, 0, 99999),
  (770, .iadd, 1, 521, 0, 0, 99999),
  (771, .iaload, 1, 522, 0, 0, 99999),
  (772, .invokevirtual 90, 3, 523, 98, 0, 920),
  (775, .if_icmp .eq 315, 3, 524, 776, 0, 99999),
  (778, .iconst 0, 1, 525, 0, 0, 99999),
  (779, .ireturn, 1, 526, 0, 0, 99999),
  (780, .aload_n 1, 1, 527, 0, 0, 99999),
  (781, .aload_n 0, 1, 528, 0, 0, 99999),
  (782, .iload_n 3, 1, 529, 0, 0, 99999),
  (783, .iconst 1, 1, 530, 0, 0, 99999),
  (784, .iadd, 1, 531, 0, 0, 99999),
  (785, .iaload, 1, 532, 0, 0, 99999),
  (786, .aload_n 0, 1, 533, 0, 0, 99999),
  (787, .iload_n 3, 1, 534, 0, 0, 99999),
  (788, .iconst 2, 1, 535, 0, 0, 99999),
  (789, .iadd, 1, 536, 0, 0, 99999),
  (790, .iaload, 1, 537, 0, 0, 99999),
  (791, .aload_n 0, 1, 538, 0, 0, 99999),
  (792, .iload_n 3, 1, 539, 0, 0, 99999),
  (793, .iconst 3, 1, 540, 0, 0, 99999),
  (794, .iadd, 1, 541, 0, 0, 99999),
  (795, .iaload, 1, 542, 0, 0, 99999),
  (796, .invokevirtual 91, 3, 543, 15, 0, 540),
  (799, .aload_n 2, 1, 544, 0, 0, 99999),
  (800, .aload_n 0, 1, 545, 0, 0, 99999),
  (801, .iload_n 3, 1, 546, 0, 0, 99999),
  (802, .iconst 1, 1, 547, 0, 0, 99999),
  (803, .iadd, 1, 548, 0, 0, 99999),
  (804, .iaload, 1, 549, 0, 0, 99999),
  (805, .aload_n 0, 1, 550, 0, 0, 99999),
  (806, .iload_n 3, 1, 551, 0, 0, 99999),
  (807, .iconst 2, 1, 552, 0, 0, 99999),
  (808, .iadd, 1, 553, 0, 0, 99999),
  (809, .iaload, 1, 554, 0, 0, 99999),
  (810, .aload_n 0, 1, 555, 0, 0, 99999),
  (811, .iload_n 3, 1, 556, 0, 0, 99999),
  (812, .iconst 3, 1, 557, 0, 0, 99999),
  (813, .iadd, 1, 558, 0, 0, 99999),
  (814, .iaload, 1, 559, 0, 0, 99999),
  (815, .invokevirtual 94, 3, 560, 112, 0, 924),
  (818, .if_icmp .eq 272, 3, 561, 776, 0, 99999),
  (821, .iconst 0, 1, 562, 0, 0, 99999),
  (822, .ireturn, 1, 563, 0, 0, 99999),
  (823, .aload_n 1, 1, 564, 0, 0, 99999),
  (824, .aload_n 0, 1, 565, 0, 0, 99999),
  (825, .iload_n 3, 1, 566, 0, 0, 99999),
  (826, .iconst 1, 1, 567, 0, 0, 99999),
  (827, .iadd, 1, 568, 0, 0, 99999),
  (828, .iaload, 1, 569, 0, 0, 99999),
  (829, .aload_n 0, 1, 570, 0, 0, 99999),
  (830, .iload_n 3, 1, 571, 0, 0, 99999),
  (831, .iconst 2, 1, 572, 0, 0, 99999),
  (832, .iadd, 1, 573, 0, 0, 99999),
  (833, .iaload, 1, 574, 0, 0, 99999),
  (834, .invokevirtual 95, 3, 575, 16, 0, 561),
  (837, .aload_n 2, 1, 576, 0, 0, 99999),
  (838, .aload_n 0, 1, 577, 0, 0, 99999),
  (839, .iload_n 3, 1, 578, 0, 0, 99999),
  (840, .iconst 1, 1, 579, 0, 0, 99999),
  (841, .iadd, 1, 580, 0, 0, 99999),
  (842, .iaload, 1, 581, 0, 0, 99999),
  (843, .aload_n 0, 1, 582, 0, 0, 99999),
  (844, .iload_n 3, 1, 583, 0, 0, 99999),
  (845, .iconst 2, 1, 584, 0, 0, 99999),
  (846, .iadd, 1, 585, 0, 0, 99999),
  (847, .iaload, 1, 586, 0, 0, 99999),
  (848, .invokevirtual 98, 3, 587, 114, 0, 934),
  (851, .if_icmp .eq 239, 3, 588, 776, 0, 99999),
  (854, .iconst 0, 1, 589, 0, 0, 99999),
  (855, .ireturn, 1, 590, 0, 0, 99999),
  (856, .aload_n 1, 1, 591, 0, 0, 99999),
  (857, .aload_n 0, 1, 592, 0, 0, 99999),
  (858, .iload_n 3, 1, 593, 0, 0, 99999),
  (859, .iconst 1, 1, 594, 0, 0, 99999),
  (860, .iadd, 1, 595, 0, 0, 99999),
  (861, .iaload, 1, 596, 0, 0, 99999),
  (862, .aload_n 0, 1, 597, 0, 0, 99999),
  (863, .iload_n 3, 1, 598, 0, 0, 99999),
  (864, .iconst 2, 1, 599, 0, 0, 99999),
  (865, .iadd, 1, 600, 0, 0, 99999),
  (866, .iaload, 1, 601, 0, 0, 99999),
  (867, .aload_n 0, 1, 602, 0, 0, 99999),
  (868, .iload_n 3, 1, 603, 0, 0, 99999),
  (869, .iconst 3, 1, 604, 0, 0, 99999),
  (870, .iadd, 1, 605, 0, 0, 99999),
  (871, .iaload, 1, 606, 0, 0, 99999),
  (872, .invokevirtual 99, 3, 607, 12, 0, 576),
  (875, .aload_n 2, 1, 608, 0, 0, 99999),
  (876, .aload_n 0, 1, 609, 0, 0, 99999),
  (877, .iload_n 3, 1, 610, 0, 0, 99999),
  (878, .iconst 1, 1, 611, 0, 0, 99999),
  (879, .iadd, 1, 612, 0, 0, 99999),
  (880, .iaload, 1, 613, 0, 0, 99999),
  (881, .aload_n 0, 1, 614, 0, 0, 99999),
  (882, .iload_n 3, 1, 615, 0, 0, 99999),
  (883, .iconst 2, 1, 616, 0, 0, 99999),
  (884, .iadd, 1, 617, 0, 0, 99999),
  (885, .iaload, 1, 618, 0, 0, 99999),
  (886, .aload_n 0, 1, 619, 0, 0, 99999),
  (887, .iload_n 3, 1, 620, 0, 0, 99999),
  (888, .iconst 3, 1, 621, 0, 0, 99999),
  (889, .iadd, 1, 622, 0, 0, 99999),
  (890, .iaload, 1, 623, 0, 0, 99999),
  (891, .invokevirtual 102, 3, 624, 107, 0, 939),
  (894, .if_icmp .eq 196, 3, 625, 776, 0, 99999),
  (897, .iconst 0, 1, 626, 0, 0, 99999),
  (898, .ireturn, 1, 627, 0, 0, 99999),
  (899, .aload_n 1, 1, 628, 0, 0, 99999),
  (900, .aload_n 0, 1, 629, 0, 0, 99999),
  (901, .iload_n 3, 1, 630, 0, 0, 99999),
  (902, .iconst 1, 1, 631, 0, 0, 99999),
  (903, .iadd, 1, 632, 0, 0, 99999),
  (904, .iaload, 1, 633, 0, 0, 99999),
  (905, .aload_n 0, 1, 634, 0, 0, 99999),
  (906, .iload_n 3, 1, 635, 0, 0, 99999),
  (907, .iconst 2, 1, 636, 0, 0, 99999),
  (908, .iadd, 1, 637, 0, 0, 99999),
  (909, .iaload, 1, 638, 0, 0, 99999),
  (910, .invokevirtual 103, 3, 639, 28, 0, 583),
  (913, .aload_n 2, 1, 640, 0, 0, 99999),
  (914, .aload_n 0, 1, 641, 0, 0, 99999),
  (915, .iload_n 3, 1, 642, 0, 0, 99999),
  (916, .iconst 1, 1, 643, 0, 0, 99999),
  (917, .iadd, 1, 644, 0, 0, 99999),
  (918, .iaload, 1, 645, 0, 0, 99999),
  (919, .aload_n 0, 1, 646, 0, 0, 99999),
  (920, .iload_n 3, 1, 647, 0, 0, 99999),
  (921, .iconst 2, 1, 648, 0, 0, 99999),
  (922, .iadd, 1, 649, 0, 0, 99999),
  (923, .iaload, 1, 650, 0, 0, 99999),
  (924, .invokevirtual 106, 3, 651, 130, 0, 943),
  (927, .if_icmp .eq 163, 3, 652, 776, 0, 99999),
  (930, .iconst 0, 1, 653, 0, 0, 99999),
  (931, .ireturn, 1, 654, 0, 0, 99999),
  (932, .aload_n 1, 1, 655, 0, 0, 99999),
  (933, .aload_n 0, 1, 656, 0, 0, 99999),
  (934, .iload_n 3, 1, 657, 0, 0, 99999),
  (935, .iconst 1, 1, 658, 0, 0, 99999),
  (936, .iadd, 1, 659, 0, 0, 99999),
  (937, .iaload, 1, 660, 0, 0, 99999),
  (938, .aload_n 0, 1, 661, 0, 0, 99999),
  (939, .iload_n 3, 1, 662, 0, 0, 99999),
  (940, .iconst 2, 1, 663, 0, 0, 99999),
  (941, .iadd, 1, 664, 0, 0, 99999),
  (942, .iaload, 1, 665, 0, 0, 99999),
  (943, .invokevirtual 107, 3, 666, 14, 0, 591),
  (946, .aload_n 2, 1, 667, 0, 0, 99999),
  (947, .aload_n 0, 1, 668, 0, 0, 99999),
  (948, .iload_n 3, 1, 669, 0, 0, 99999),
  (949, .iconst 1, 1, 670, 0, 0, 99999),
  (950, .iadd, 1, 671, 0, 0, 99999),
  (951, .iaload, 1, 672, 0, 0, 99999),
  (952, .aload_n 0, 1, 673, 0, 0, 99999),
  (953, .iload_n 3, 1, 674, 0, 0, 99999),
  (954, .iconst 2, 1, 675, 0, 0, 99999),
  (955, .iadd, 1, 676, 0, 0, 99999),
  (956, .iaload, 1, 677, 0, 0, 99999),
  (957, .invokevirtual 110, 3, 678, 111, 0, 951),
  (960, .if_icmp .eq 130, 3, 679, 776, 0, 99999),
  (963, .iconst 0, 1, 680, 0, 0, 99999),
  (964, .ireturn, 1, 681, 0, 0, 99999),
  (965, .aload_n 1, 1, 682, 0, 0, 99999),
  (966, .aload_n 0, 1, 683, 0, 0, 99999),
  (967, .iload_n 3, 1, 684, 0, 0, 99999),
  (968, .iconst 1, 1, 685, 0, 0, 99999),
  (969, .iadd, 1, 686, 0, 0, 99999),
  (970, .iaload, 1, 687, 0, 0, 99999),
  (971, .invokevirtual 111, 3, 688, 3, 0, 622),
  (974, .aload_n 2, 1, 689, 0, 0, 99999),
  (975, .aload_n 0, 1, 690, 0, 0, 99999),
  (976, .iload_n 3, 1, 691, 0, 0, 99999),
  (977, .iconst 1, 1, 692, 0, 0, 99999),
  (978, .iadd, 1, 693, 0, 0, 99999),
  (979, .iaload, 1, 694, 0, 0, 99999),
  (980, .invokevirtual 114, 3, 695, 95, 0, 955),
  (983, .if_icmp .eq 107, 3, 696, 776, 0, 99999),
  (986, .iconst 0, 1, 697, 0, 0, 99999),
  (987, .ireturn, 1, 698, 0, 0, 99999),
  (988, .aload_n 1, 1, 699, 0, 0, 99999),
  (989, .aload_n 0, 1, 700, 0, 0, 99999),
  (990, .iload_n 3, 1, 701, 0, 0, 99999),
  (991, .iconst 1, 1, 702, 0, 0, 99999),
  (992, .iadd, 1, 703, 0, 0, 99999),
  (993, .iaload, 1, 704, 0, 0, 99999),
  (994, .invokevirtual 115, 3, 705, 32, 0, 630),
  (997, .aload_n 2, 1, 706, 0, 0, 99999),
  (998, .aload_n 0, 1, 707, 0, 0, 99999),
  (999, .iload_n 3, 1, 708, 0, 0, 99999),
  (1000, .iconst 1, 1, 709, 0, 0, 99999),
  (1001, .iadd, 1, 710, 0, 0, 99999),
  (1002, .iaload, 1, 711, 0, 0, 99999),
  (1003, .invokevirtual 118, 3, 712, 135, 0, 967),
  (1006, .if_icmp .eq 84, 3, 713, 776, 0, 99999),
  (1009, .iconst 0, 1, 714, 0, 0, 99999),
  (1010, .ireturn, 1, 715, 0, 0, 99999),
  (1011, .aload_n 1, 1, 716, 0, 0, 99999),
  (1012, .aload_n 0, 1, 717, 0, 0, 99999),
  (1013, .iload_n 3, 1, 718, 0, 0, 99999),
  (1014, .iconst 1, 1, 719, 0, 0, 99999),
  (1015, .iadd, 1, 720, 0, 0, 99999),
  (1016, .iaload, 1, 721, 0, 0, 99999),
  (1017, .aload_n 0, 1, 722, 0, 0, 99999),
  (1018, .iload_n 3, 1, 723, 0, 0, 99999),
  (1019, .iconst 2, 1, 724, 0, 0, 99999),
  (1020, .iadd, 1, 725, 0, 0, 99999),
  (1021, .iaload, 1, 726, 0, 0, 99999),
  (1022, .invokevirtual 119, 3, 727, 31, 0, 642),
  (1025, .aload_n 2, 1, 728, 0, 0, 99999),
  (1026, .aload_n 0, 1, 729, 0, 0, 99999),
  (1027, .iload_n 3, 1, 730, 0, 0, 99999),
  (1028, .iconst 1, 1, 731, 0, 0, 99999),
  (1029, .iadd, 1, 732, 0, 0, 99999),
  (1030, .iaload, 1, 733, 0, 0, 99999),
  (1031, .aload_n 0, 1, 734, 0, 0, 99999),
  (1032, .iload_n 3, 1, 735, 0, 0, 99999),
  (1033, .iconst 2, 1, 736, 0, 0, 99999),
  (1034, .iadd, 1, 737, 0, 0, 99999),
  (1035, .iaload, 1, 738, 0, 0, 99999),
  (1036, .invokevirtual 122, 3, 739, 134, 0, 971),
  (1039, .if_icmp .eq 51, 3, 740, 776, 0, 99999),
  (1042, .iconst 0, 1, 741, 0, 0, 99999),
  (1043, .ireturn, 1, 742, 0, 0, 99999),
  (1044, .aload_n 1, 1, 743, 0, 0, 99999),
  (1045, .aload_n 0, 1, 744, 0, 0, 99999),
  (1046, .iload_n 3, 1, 745, 0, 0, 99999),
  (1047, .iconst 1, 1, 746, 0, 0, 99999),
  (1048, .iadd, 1, 747, 0, 0, 99999),
  (1049, .iaload, 1, 748, 0, 0, 99999),
  (1050, .invokevirtual 123, 3, 749, 10, 0, 646),
  (1053, .aload_n 2, 1, 750, 0, 0, 99999),
  (1054, .aload_n 0, 1, 751, 0, 0, 99999),
  (1055, .iload_n 3, 1, 752, 0, 0, 99999),
  (1056, .iconst 1, 1, 753, 0, 0, 99999),
  (1057, .iadd, 1, 754, 0, 0, 99999),
  (1058, .iaload, 1, 755, 0, 0, 99999),
  (1059, .invokevirtual 126, 3, 756, 103, 0, 975),
  (1062, .if_icmp .eq 28, 3, 757, 776, 0, 99999),
  (1065, .iconst 0, 1, 758, 0, 0, 99999),
  (1066, .ireturn, 1, 759, 0, 0, 99999),
  (1067, .aload_n 1, 1, 760, 0, 0, 99999),
  (1068, .aload_n 0, 1, 761, 0, 0, 99999),
  (1069, .iload_n 3, 1, 762, 0, 0, 99999),
  (1070, .iconst 1, 1, 763, 0, 0, 99999),
  (1071, .iadd, 1, 764, 0, 0, 99999),
  (1072, .iaload, 1, 765, 0, 0, 99999),
  (1073, .invokevirtual 127, 3, 766, 4, 0, 651),
  (1076, .aload_n 2, 1, 767, 0, 0, 99999),
  (1077, .aload_n 0, 1, 768, 0, 0, 99999),
  (1078, .iload_n 3, 1, 769, 0, 0, 99999),
  (1079, .iconst 1, 1, 770, 0, 0, 99999),
  (1080, .iadd, 1, 771, 0, 0, 99999),
  (1081, .iaload, 1, 772, 0, 0, 99999),
  (1082, .invokevirtual 130, 3, 773, 97, 0, 979),
  (1085, .if_icmp .eq 5, 3, 774, 776, 0, 99999),
  (1088, .iconst 0, 1, 775, 0, 0, 99999),
  (1089, .ireturn, 1, 776, 0, 0, 99999),
  (1090, .iinc 3 5, 3, 777, 0, 0, 99999),
  (1093, .goto (-1075), 3, 778, 10, 0, 99999),
  (1096, .iconst 1, 1, 779, 0, 0, 99999),
  (1097, .ireturn, 1, 780, 0, 0, 99999)]
def M_law : Mth := (⟨"FloorPlansLaw", "law", "([I)Z"⟩, code, 4, (some .boolean), T_M_law, [])
end
section
/-! THE ABSTRACT MACHINE'S WORDS: values with whole numbers, cells by numbers, a judgement WP over a method's table -/
def inR (x : Int) : Prop := -2147483648 ≤ x ∧ x ≤ 2147483647
abbrev AV : Type := Int ⊕ Int ⊕ Option Nat
abbrev vi (z : Int) : AV := .inl z
abbrev vl (z : Int) : AV := .inr (.inl z)
abbrev vr (a : Nat) : AV := .inr (.inr (some a))
abbrev vn : AV := .inr (.inr none)
def cv (f : Nat → Nat) : AV → Value
  | .inl z => .int (Int32.ofInt z)
  | .inr (.inl z) => .long (Int64.ofInt z)
  | .inr (.inr (some a)) => .ref (f a)
  | .inr (.inr none) => .null
def ac : AV → Nat
  | .inr (.inl _) => 2
  | _ => 1
theorem cv_cat (f : Nat → Nat) (v : AV) : (cv f v).category = ac v := by
  rcases v with z | z | z
  · rfl
  · rfl
  · cases z <;> rfl
abbrev LV : Type := List (Option AV)
def l1 : Option AV → Option AV
  | some (.inr (.inl _)) => none
  | x => x
def lput : LV → Nat → Option AV → LV
  | [], _, _ => []
  | _ :: r, 0, v => v :: r
  | [x], 1, _ => [l1 x]
  | x :: _ :: r, 1, v => l1 x :: v :: r
  | x :: r, k + 2, v => x :: lput r (k + 1) v
def lputL (ls : LV) (k : Nat) (v : AV) : LV := (lput ls k (some v)).set (k + 1) none
theorem l1_spec {x : Option AV} {v : AV} (h : l1 x = some v) : x = some v ∧ ac v ≠ 2 := by
  rcases x with - | (z | z | z)
  · cases h
  · cases h; exact ⟨rfl, Nat.noConfusion ∘ Nat.succ.inj⟩
  · cases h
  · cases h; exact ⟨rfl, Nat.noConfusion ∘ Nat.succ.inj⟩
theorem lput_spec : ∀ (ls : LV) (i : Nat) (w : Option AV) (k : Nat) (v : AV), (lput ls i w)[k]? = some (some v) → (k = i ∧ w = some v) ∨ (k ≠ i ∧ ls[k]? = some (some v) ∧ ¬ (k + 1 = i ∧ ac v = 2))
  | [], i, w, k, v, h => by simp [lput] at h
  | x :: r, 0, w, k, v, h => by
    cases k with
    | zero => simp [lput] at h; exact Or.inl ⟨rfl, h⟩
    | succ k => simp [lput] at h; exact Or.inr ⟨by omega, by simpa using h, by omega⟩
  | [x], 1, w, k, v, h => by
    cases k with
    | zero =>
      have h1 : l1 x = some v := by simpa [lput] using h
      obtain ⟨e, hc⟩ := l1_spec h1
      exact Or.inr ⟨by omega, by simp [e], fun q => hc q.2⟩
    | succ k => simp [lput] at h
  | x :: y :: r, 1, w, k, v, h => by
    match k with
    | 0 =>
      have h1 : l1 x = some v := by simpa [lput] using h
      obtain ⟨e, hc⟩ := l1_spec h1
      exact Or.inr ⟨by omega, by simp [e], fun q => hc q.2⟩
    | 1 => exact Or.inl ⟨rfl, by simpa [lput] using h⟩
    | k + 2 => exact Or.inr ⟨by omega, by simpa [lput] using h, by omega⟩
  | x :: r, i + 2, w, k, v, h => by
    cases k with
    | zero => exact Or.inr ⟨by omega, by simpa [lput] using h, by omega⟩
    | succ k =>
      have h1 : (lput r (i + 1) w)[k]? = some (some v) := by simpa [lput] using h
      rcases lput_spec r (i + 1) w k v h1 with ⟨a, b⟩ | ⟨a, b, c⟩
      · exact Or.inl ⟨by omega, b⟩
      · exact Or.inr ⟨by omega, by simpa using b, fun q => c ⟨by omega, q.2⟩⟩

theorem lputL_spec (ls : LV) (i : Nat) (w : AV) (k : Nat) (v : AV) (h : (lputL ls i w)[k]? = some (some v)) : (k = i ∧ w = v) ∨ (k ≠ i ∧ k ≠ i + 1 ∧ ls[k]? = some (some v) ∧ ¬ (k + 1 = i ∧ ac v = 2)) := by
  unfold lputL at h
  rw [List.getElem?_set] at h
  by_cases e : i + 1 = k
  · rw [if_pos e] at h
    split at h <;> simp at h
  · rw [if_neg e] at h
    rcases lput_spec _ _ _ _ _ h with ⟨a, b⟩ | ⟨a, b, c⟩
    · exact Or.inl ⟨a, Option.some.inj b⟩
    · exact Or.inr ⟨a, fun q => e q.symm, b, c⟩
def lvR (f : Nat → Nat) (LS : Array Slot) (n : Nat) (ls : LV) : Prop := LS.size = n ∧ lv_wf LS ∧ ∀ (k : Nat) (v : AV), ls[k]? = some (some v) → LS[k]? = some (.val (cv f v))
def lvp (f : Nat → Nat) : Nat → LV → List (Nat × Value)
  | _, [] => []
  | k, none :: r => lvp f (k + 1) r
  | k, some v :: r => (k, cv f v) :: lvp f (k + 1) r
theorem lvp_mem {f : Nat → Nat} : ∀ (ls : LV) (k0 : Nat) (q : Nat × Value), q ∈ lvp f k0 ls ↔ ∃ (j : Nat) (v : AV), ls[j]? = some (some v) ∧ q = (k0 + j, cv f v)
  | [], k0, q => by simp [lvp]
  | none :: r, k0, q => by
    rw [lvp, lvp_mem r (k0 + 1) q]
    constructor
    · rintro ⟨j, v, h, e⟩
      exact ⟨j + 1, v, by simpa using h, by rw [e]; congr 1; omega⟩
    · rintro ⟨j, v, h, e⟩
      cases j with
      | zero => simp at h
      | succ j => exact ⟨j, v, by simpa using h, by rw [e]; congr 1; omega⟩
  | some x :: r, k0, q => by
    rw [lvp, List.mem_cons, lvp_mem r (k0 + 1) q]
    constructor
    · rintro (rfl | ⟨j, v, h, e⟩)
      · exact ⟨0, x, by simp, by simp⟩
      · exact ⟨j + 1, v, by simpa using h, by rw [e]; congr 1; omega⟩
    · rintro ⟨j, v, h, e⟩
      cases j with
      | zero =>
        simp at h
        subst h
        exact Or.inl (by simpa using e)
      | succ j => exact Or.inr ⟨j, v, by simpa using h, by rw [e]; congr 1; omega⟩
theorem lvR.has {f : Nat → Nat} {LS : Array Slot} {n : Nat} {ls : LV} (h : lvR f LS n ls) : lv_has LS n (lvp f 0 ls) := by
  refine ⟨h.1, h.2.1, fun q hq => ?_⟩
  obtain ⟨j, v, hj, rfl⟩ := (lvp_mem ls 0 q).mp hq
  simpa using h.2.2 j v hj
theorem lvR.put {f : Nat → Nat} {LS' : Array Slot} {n : Nat} {ls : LV} {i : Nat} {w : AV} (h : lv_has LS' n ((i, cv f w) :: (lvp f 0 ls).filter (fun q => !(q.1 == i) && !(q.1 + 1 == i && q.2.category == 2)))) : lvR f LS' n (lput ls i (some w)) := by
  refine ⟨h.1, h.2.1, fun k v hk => ?_⟩
  rcases lput_spec _ _ _ _ _ hk with ⟨rfl, e⟩ | ⟨a, b, c⟩
  · cases e
    exact h.2.2 (k, cv f w) List.mem_cons_self
  · refine h.2.2 (k, cv f v) (List.mem_cons_of_mem _ (List.mem_filter.mpr ⟨(lvp_mem ls 0 _).mpr ⟨k, v, b, by simp⟩, ?_⟩))
    rw [cv_cat]
    simp only [Bool.and_eq_true, Bool.not_eq_true', beq_eq_false_iff_ne, ne_eq, Bool.and_eq_false_imp, beq_iff_eq]
    exact ⟨a, fun q r => c ⟨q, r⟩⟩
theorem lvR.putL {f : Nat → Nat} {LS' : Array Slot} {n : Nat} {ls : LV} {i : Nat} {w : AV} (h : lv_has LS' n ((i, cv f w) :: (lvp f 0 ls).filter (fun q => !(q.1 == i) && (!(q.1 == i + 1) && !(q.1 + 1 == i && q.2.category == 2))))) : lvR f LS' n (lputL ls i w) := by
  refine ⟨h.1, h.2.1, fun k v hk => ?_⟩
  rcases lputL_spec _ _ _ _ _ hk with ⟨rfl, e⟩ | ⟨a, a2, b, c⟩
  · cases e
    exact h.2.2 (k, cv f w) List.mem_cons_self
  · refine h.2.2 (k, cv f v) (List.mem_cons_of_mem _ (List.mem_filter.mpr ⟨(lvp_mem ls 0 _).mpr ⟨k, v, b, by simp⟩, ?_⟩))
    rw [cv_cat]
    simp only [Bool.and_eq_true, Bool.not_eq_true', beq_eq_false_iff_ne, ne_eq, Bool.and_eq_false_imp, beq_iff_eq]
    exact ⟨a, a2, fun q r => c ⟨q, r⟩⟩
/-! bits, as functions of whole numbers -/
def iAnd (x y : Int) : Int := (Int32.ofInt x &&& Int32.ofInt y).toInt
def iOr (x y : Int) : Int := (Int32.ofInt x ||| Int32.ofInt y).toInt
def iXor (x y : Int) : Int := (Int32.ofInt x ^^^ Int32.ofInt y).toInt
def iShl (x y : Int) : Int := (Int32.ofInt x <<< (Int32.ofInt y &&& 31)).toInt
def iShr (x y : Int) : Int := (Int32.ofInt x >>> (Int32.ofInt y &&& 31)).toInt
def iUsh (x y : Int) : Int := ((Int32.ofInt x).toUInt32 >>> ((Int32.ofInt y).toUInt32 &&& Int32.toUInt32 31)).toInt32.toInt
/-- what an instruction that touches neither heap nor course does -/
def st1 (ls : LV) : Instr → List AV → Option (LV × List AV)
  | .iconst n, st => some (ls, vi n :: st)
  | .bipush n, st => some (ls, vi n :: st)
  | .sipush n, st => some (ls, vi n :: st)
  | .lconst n, st => some (ls, vl (n.val : Int) :: st)
  | .iload k, st => match ls[k]? with
    | some (some (.inl x)) => some (ls, vi x :: st)
    | _ => none
  | .iload_n k, st => match ls[k.val]? with
    | some (some (.inl x)) => some (ls, vi x :: st)
    | _ => none
  | .lload k, st => match ls[k]? with
    | some (some (.inr (.inl x))) => some (ls, vl x :: st)
    | _ => none
  | .lload_n k, st => match ls[k.val]? with
    | some (some (.inr (.inl x))) => some (ls, vl x :: st)
    | _ => none
  | .aload k, st => match ls[k]? with
    | some (some (.inr (.inr (some a)))) => some (ls, vr a :: st)
    | _ => none
  | .aload_n k, st => match ls[k.val]? with
    | some (some (.inr (.inr (some a)))) => some (ls, vr a :: st)
    | _ => none
  | .istore k, .inl x :: st => some (lput ls k (some (vi x)), st)
  | .istore_n k, .inl x :: st => some (lput ls k.val (some (vi x)), st)
  | .lstore k, .inr (.inl x) :: st => some (lputL ls k (vl x), st)
  | .lstore_n k, .inr (.inl x) :: st => some (lputL ls k.val (vl x), st)
  | .astore k, .inr (.inr (some a)) :: st => some (lput ls k (some (vr a)), st)
  | .astore_n k, .inr (.inr (some a)) :: st => some (lput ls k.val (some (vr a)), st)
  | .iinc k n, st => match ls[k]? with
    | some (some (.inl x)) => some (lput ls k (some (vi (x + n))), st)
    | _ => none
  | .iadd, .inl y :: .inl x :: st => some (ls, vi (x + y) :: st)
  | .isub, .inl y :: .inl x :: st => some (ls, vi (x - y) :: st)
  | .imul, .inl y :: .inl x :: st => some (ls, vi (x * y) :: st)
  | .ineg, .inl x :: st => some (ls, vi (-x) :: st)
  | .iand, .inl y :: .inl x :: st => some (ls, vi (iAnd x y) :: st)
  | .ior, .inl y :: .inl x :: st => some (ls, vi (iOr x y) :: st)
  | .ixor, .inl y :: .inl x :: st => some (ls, vi (iXor x y) :: st)
  | .ishl, .inl y :: .inl x :: st => some (ls, vi (iShl x y) :: st)
  | .ishr, .inl y :: .inl x :: st => some (ls, vi (iShr x y) :: st)
  | .iushr, .inl y :: .inl x :: st => some (ls, vi (iUsh x y) :: st)
  | .ladd, .inr (.inl y) :: .inr (.inl x) :: st => some (ls, vl (x + y) :: st)
  | .lsub, .inr (.inl y) :: .inr (.inl x) :: st => some (ls, vl (x - y) :: st)
  | .lmul, .inr (.inl y) :: .inr (.inl x) :: st => some (ls, vl (x * y) :: st)
  | .l2i, .inr (.inl x) :: st => some (ls, vi x :: st)
  | .pop, v :: st => match ac v with
    | 1 => some (ls, st)
    | _ => none
  | .dup, v :: st => match ac v with
    | 1 => some (ls, v :: v :: st)
    | _ => none
  | .dup_x1, v :: u :: st => match ac v, ac u with
    | 1, 1 => some (ls, v :: u :: v :: st)
    | _, _ => none
  | .dup_x2, v :: u :: t :: st => match ac v, ac u, ac t with
    | 1, 1, 1 => some (ls, v :: u :: t :: v :: st)
    | _, _, _ => none
  | .dup2, v :: u :: st => match ac v, ac u with
    | 1, 1 => some (ls, v :: u :: v :: u :: st)
    | _, _ => none
  | _, _ => none
end
section
/-! THE JUDGEMENT: cells by numbers (0 the script, 1 .. 4 the static arrays, from 5 on what was made, in its order) -/
abbrev AC : Type := (Nat × List AV) ⊕ (FieldType × Nat × (Nat → AV))
abbrev Hp : Type := Nat × Nat × (Nat → AC)
def mY (M : Mth) : MethodName := M.1
def mC (M : Mth) : ByteArray := M.2.1
def mL (M : Mth) : Nat := M.2.2.1
def mR (M : Mth) : Option FieldType := M.2.2.2.1
def mT (M : Mth) : List Ent := M.2.2.2.2.1
def mK (M : Mth) (i : Nat) : Nat := M.2.2.2.2.2.getD i 99999
def ePc (e : Ent) : Nat := e.1
def eI (e : Ent) : Instr := e.2.1
def eL (e : Ent) : Nat := e.2.2.1
def eN (e : Ent) : Nat := e.2.2.2.1
def eX (e : Ent) : Nat := e.2.2.2.2.1
def eY (e : Ent) : Nat := e.2.2.2.2.2.1
def eW (e : Ent) : Nat := e.2.2.2.2.2.2
def bp (M : Mth) (ip : Nat) : Nat := match (mT M)[ip]? with
  | some e => ePc e
  | none => 0
def sN : Nat → String × String × String
  | 1 => ("FloorPlans", "FLOOR_FIRST", "[I")
  | 2 => ("FloorPlans", "FLOOR_MOST", "[I")
  | 3 => ("FloorPlans", "TWO_MOST", "[I")
  | _ => ("FloorPlans$Moving", "POWERS", "[I")
def lenI : Instr → Nat
  | .bipush _ => 2
  | .iload _ => 2
  | .lload _ => 2
  | .aload _ => 2
  | .istore _ => 2
  | .lstore _ => 2
  | .astore _ => 2
  | .newarray _ => 2
  | .ldc _ => 2
  | .sipush _ => 3
  | .ldc_w _ => 3
  | .ldc2_w _ => 3
  | .iinc _ _ => 3
  | .ifCond _ _ => 3
  | .if_icmp _ _ => 3
  | .goto _ => 3
  | .getstatic _ => 3
  | .getfield _ => 3
  | .putfield _ => 3
  | .invokevirtual _ => 3
  | .invokespecial _ => 3
  | .invokestatic _ => 3
  | .new _ => 3
  | .multianewarray _ _ => 4
  | _ => 1
def isSw : Instr → Bool
  | .tableswitch _ _ _ _ => true
  | _ => false
def noFall : Instr → Bool
  | .tableswitch _ _ _ _ => true
  | .goto _ => true
  | .ireturn => true
  | .lreturn => true
  | .areturn => true
  | .return_ => true
  | .athrow => true
  | _ => false
def okX (M : Mth) (e : Ent) : Bool := match eI e with
  | .bipush n => decide ((Int8.ofInt n).toInt32 = Int32.ofInt n)
  | .sipush n => decide ((Int16.ofInt n).toInt32 = Int32.ofInt n)
  | .istore k => decide (k < mL M)
  | .astore k => decide (k < mL M)
  | .lstore k => decide (k + 1 < mL M)
  | .istore_n k => decide (k.val < mL M)
  | .astore_n k => decide (k.val < mL M)
  | .lstore_n k => decide (k.val + 1 < mL M)
  | .iinc k _ => decide (k < mL M)
  | .ifCond _ o => decide ((ePc e : Int) + o = (bp M (eX e) : Int))
  | .if_icmp _ o => decide ((ePc e : Int) + o = (bp M (eX e) : Int))
  | .goto o => decide ((ePc e : Int) + o = (bp M (eX e) : Int))
  | .getfield i => match vwCl[eX e]? with
    | some q => decide (eY e < q.2.2) && decide ((q.2.1 (eY e)).1 = q.1) && decide (lw_tbl[eW e]? = some (.fieldLink (mY M).cls i q.1 (q.2.1 (eY e)).2.1 (q.2.1 (eY e)).2.2.1))
    | none => false
  | .putfield i => match vwCl[eX e]? with
    | some q => decide (eY e < q.2.2) && decide ((q.2.1 (eY e)).1 = q.1) && decide (lw_tbl[eW e]? = some (.fieldLink (mY M).cls i q.1 (q.2.1 (eY e)).2.1 (q.2.1 (eY e)).2.2.1))
    | none => false
  | .getstatic i => decide (1 ≤ eX e) && decide (eX e < 5) && (decide (lw_tbl[eW e]? = some (.fieldLink (mY M).cls i (sN (eX e)).1 (sN (eX e)).2.1 (sN (eX e)).2.2)) || decide (lw_tbl[eW e]? = some (.fieldLinkNest (mY M).cls i (sN (eX e)).1 (sN (eX e)).2.1 (sN (eX e)).2.2 "FloorPlans")))
  | .new i => eW e == 99999 || (match vwCl[eX e]? with
    | some q => decide (lw_tbl[eW e]? = some (.classLink (mY M).cls i q.1))
    | none => false)
  | .newarray t => decide (lw_tbl[eW e]? = some (.arrayClass (newarray.typeOf t)))
  | .multianewarray i n => decide (n = 2) && decide (lw_tbl[eW e]? = some (.classLink (mY M).cls i "[[I"))
  | .ldc_w i => decide (lw_tbl[eW e]? = some (.constant (mY M).cls i (Int32.ofInt (eX e))))
  | .ldc2_w i => decide (lw_tbl[eW e]? = some (.constantLong (mY M).cls i (Int64.ofInt (eX e))))
  | .invokevirtual i => eW e == 99999 || (match NM[eX e]? with
    | some y => decide (lw_tbl[eW e]? = some (.methodLink (mY M).cls i y))
    | none => false)
  | .invokespecial i => eW e == 99999 || (match NM[eX e]? with
    | some y => decide (lw_tbl[eW e]? = some (.methodLink (mY M).cls i y))
    | none => false)
  | .invokestatic i => eW e == 99999 || (match NM[eX e]? with
    | some y => if eY e == 1 then decide (lw_tbl[eW e]? = some (.methodLinkNest (mY M).cls i y "FloorPlans")) else decide (lw_tbl[eW e]? = some (.methodLink (mY M).cls i y))
    | none => false)
  | _ => true
def okE (M : Mth) (e : Ent) : Bool := decide (decode (mC M) (ePc e) = .ok (eI e, eL e)) && (isSw (eI e) || decide (eL e = lenI (eI e))) && (noFall (eI e) || decide (bp M (eN e) = ePc e + eL e)) && okX M e
def MOK (M : Mth) : Prop := (mT M).all (okE M) = true
theorem MOK.at {M : Mth} (h : MOK M) {ip : Nat} {e : Ent} (he : (mT M)[ip]? = some e) : bp M ip = ePc e ∧ decode (mC M) (ePc e) = .ok (eI e, eL e) ∧ (isSw (eI e) = false → eL e = lenI (eI e)) ∧ (noFall (eI e) = false → bp M (eN e) = ePc e + eL e) ∧ okX M e = true := by
  have h1 := List.all_eq_true.mp h e (List.mem_of_getElem? he)
  unfold okE at h1
  simp only [Bool.and_eq_true, decide_eq_true_eq, Bool.or_eq_true] at h1
  obtain ⟨⟨⟨a, b⟩, c⟩, d⟩ := h1
  refine ⟨by unfold bp; rw [he], a, fun q => ?_, fun q => ?_, d⟩
  · rcases b with b | b
    · rw [q] at b; cases b
    · exact b
  · rcases c with c | c
    · rw [q] at c; cases c
    · exact c
def sg (U0 : State) (pre : Nat → Nat) (a : Nat) : Nat := if a < 5 then pre a else U0.heap.size + (a - 5)
def cellAt (U0 : State) (D : va_G) (f : Nat → Nat) (q : Nat) (H : Heap) : AC → Prop
  | .inl (ci, fs) => ∃ r : vw_C, vwCl[ci]? = some r ∧ fs.length = r.2.2 ∧ t_OB q (D.1 ci) r.2.2 (D.2 ci) H (vp_V (fs.map (cv f)))
  | .inr (ty, n, g) => ∃ cell : Cell, H[q]? = some cell ∧ U0.isArrayOf cell ty ∧ cell.vm ≠ .unknown ∧ cell.slots.size = n ∧ n ≤ 2147483647 ∧ ∀ j : Nat, j < n → cell.slots[j]? = some (cv f (g j))
def Rel (U0 : State) (D : va_G) (pre : Nat → Nat) (h : Hp) (H : Heap) : Prop := H.size + 5 = U0.heap.size + h.1 ∧ 5 ≤ h.1 ∧ (∀ q : Nat, q < U0.heap.size → H[q]? = U0.heap[q]?) ∧ ∀ a : Nat, a < h.1 → cellAt U0 D (sg U0 pre) (sg U0 pre a) H (h.2.2 a)
def GF (U0 : State) (a0 : Array Value) (D : va_G) (pre : Nat → Nat) : Prop := (∀ w ∈ lw_tbl, w.before a0 U0 = true) ∧ va_K D vwCl [] U0 ∧ (∀ k, k < 5 → pre k < U0.heap.size) ∧ ∀ k, 1 ≤ k → k < 5 → va_Z (sN k).1 (sN k).2.1 (sN k).2.2 (.ref (pre k)) (fun q => U0.heap.size ≤ q) U0 U0.heap
def CX (M : Mth) (d : Nat) (p : Program) (l : Launch) (e : Env) (R : Room) (s : State) (m : MethodId) (args : Array Value) (below : List Frame) (meth : Method) (c : Code) (U0 : State) (a0 : Array Value) (D : va_G) (pre : Nat → Nat) : Prop :=
  GF U0 a0 D pre ∧ p.tables.exec = Jvm.exec ∧ c.code = mC M ∧ c.maxLocals = mL M ∧ meth.sig.returnType = mR M ∧ meth.locks = false ∧ meth.name = (mY M).name ∧ s.vm.findClass (mY M).cls = some m.cls ∧ U0.WarmedH s.vm ∧ d ≤ R.frames ∧ 60 * d ≤ R.locals ∧ MOK M
def rtA (M : Mth) (pc : Nat) : Option AV → Prop
  | none => decode (mC M) pc = .ok (.return_, 1) ∧ mR M = none
  | some (.inl x) => decode (mC M) pc = .ok (.ireturn, 1) ∧ (mR M = some .int ∨ (mR M = some .boolean ∧ (x = 0 ∨ x = 1)))
  | some (.inr (.inl _)) => decode (mC M) pc = .ok (.lreturn, 1) ∧ mR M = some .long
  | some (.inr (.inr (some _))) => decode (mC M) pc = .ok (.areturn, 1) ∧ ∃ t, mR M = some (.array t)
  | some (.inr (.inr none)) => False
def J (M : Mth) (d ip : Nat) (ls : LV) (st : List AV) (h : Hp) (v : Option AV) (h' : Hp) : Prop :=
  h.1 ≤ h'.1 ∧ h.2.1 ≤ h'.2.1 ∧
  ∀ (p : Program) (l : Launch) (e : Env) (R : Room) (s : State) (m : MethodId) (args : Array Value) (below : List Frame) (meth : Method) (c : Code) (U0 : State) (a0 : Array Value) (D : va_G) (pre : Nat → Nat), CX M d p l e R s m args below meth c U0 a0 D pre →
  ∀ (H : Heap) (locs : List Loc) (n0 s0 : Nat) (Qf : State → Prop) (LS : Array Slot), Rel U0 D pre h H → (∀ q ∈ locs, U0.heap.size ≤ q.base) → n0 ≤ h.1 → s0 ≤ h.2.1 → lvR (sg U0 pre) LS (mL M) ls → h'.1 - n0 ≤ R.cells → h'.2.1 - s0 ≤ R.slots →
  (∀ (H1 : Heap) (locs1 : List Loc) (pc1 : Nat) (LS1 : Array Slot), Rel U0 D pre h' H1 → (∀ q ∈ locs1, U0.heap.size ≤ q.base) → rtA M pc1 v → W p l e R s m args below meth c H1 locs1 (h'.1 - n0) (h'.2.1 - s0) Qf (F0 m pc1 LS1 ((v.map (cv (sg U0 pre))).toList))) →
  W p l e R s m args below meth c H locs (h.1 - n0) (h.2.1 - s0) Qf (F0 m (bp M ip) LS (st.map (cv (sg U0 pre))))
def WP (M : Mth) (d ip : Nat) (ls : LV) (st : List AV) (h : Hp) (Q : Option AV → Hp → Prop) : Prop := ∃ (v : Option AV) (h' : Hp), J M d ip ls st h v h' ∧ Q v h'
theorem WP.mono {M : Mth} {d ip : Nat} {ls : LV} {st : List AV} {h : Hp} {Q Q' : Option AV → Hp → Prop} (k : WP M d ip ls st h Q) (hq : ∀ v h', Q v h' → Q' v h') : WP M d ip ls st h Q' := by
  obtain ⟨v, h', a, b⟩ := k
  exact ⟨v, h', a, hq v h' b⟩
/-- an instruction that leaves the heap alone -/
theorem J_pure {M : Mth} {d ip ip' : Nat} {ls ls' : LV} {st st' : List AV} {h h' : Hp} {v : Option AV}
    (H1 : ∀ (p : Program) (l : Launch) (e : Env) (R : Room) (s : State) (m : MethodId) (args : Array Value) (below : List Frame) (meth : Method) (c : Code) (U0 : State) (a0 : Array Value) (D : va_G) (pre : Nat → Nat), CX M d p l e R s m args below meth c U0 a0 D pre → ∀ (H : Heap) (locs : List Loc) (cells slots : Nat) (Qf : State → Prop) (LS : Array Slot), Rel U0 D pre h H → lvR (sg U0 pre) LS (mL M) ls → (∀ LS' : Array Slot, lvR (sg U0 pre) LS' (mL M) ls' → W p l e R s m args below meth c H locs cells slots Qf (F0 m (bp M ip') LS' (st'.map (cv (sg U0 pre))))) → W p l e R s m args below meth c H locs cells slots Qf (F0 m (bp M ip) LS (st.map (cv (sg U0 pre)))))
    (k : J M d ip' ls' st' h v h') : J M d ip ls st h v h' := by
  obtain ⟨a, b, k⟩ := k
  refine ⟨a, b, fun p l e R s m args below meth c U0 a0 D pre cx H locs n0 s0 Qf LS hR hlo hn hs hl hc1 hc2 hret => ?_⟩
  refine H1 p l e R s m args below meth c U0 a0 D pre cx H locs _ _ Qf LS hR hl (fun LS' hl' => ?_)
  exact k p l e R s m args below meth c U0 a0 D pre cx H locs n0 s0 Qf LS' hR hlo hn hs hl' hc1 hc2 hret
theorem WP_pure {M : Mth} {d ip ip' : Nat} {ls ls' : LV} {st st' : List AV} {h : Hp} {Q : Option AV → Hp → Prop}
    (H1 : ∀ (p : Program) (l : Launch) (e : Env) (R : Room) (s : State) (m : MethodId) (args : Array Value) (below : List Frame) (meth : Method) (c : Code) (U0 : State) (a0 : Array Value) (D : va_G) (pre : Nat → Nat), CX M d p l e R s m args below meth c U0 a0 D pre → ∀ (H : Heap) (locs : List Loc) (cells slots : Nat) (Qf : State → Prop) (LS : Array Slot), Rel U0 D pre h H → lvR (sg U0 pre) LS (mL M) ls → (∀ LS' : Array Slot, lvR (sg U0 pre) LS' (mL M) ls' → W p l e R s m args below meth c H locs cells slots Qf (F0 m (bp M ip') LS' (st'.map (cv (sg U0 pre))))) → W p l e R s m args below meth c H locs cells slots Qf (F0 m (bp M ip) LS (st.map (cv (sg U0 pre)))))
    (k : WP M d ip' ls' st' h Q) : WP M d ip ls st h Q := by
  obtain ⟨v, h', a, b⟩ := k
  exact ⟨v, h', J_pure H1 a, b⟩
theorem wd {U0 s : State} {a0 args : Array Value} (hg : ∀ w ∈ lw_tbl, w.before a0 U0 = true) (hW : U0.WarmedH s.vm) {i : Nat} {w : Cond} (hi : lw_tbl[i]? = some w) (hgood : goodWord w = true) : w.before args s = true := word_at hW (good_of_word hgood) (hg w (List.mem_of_getElem? hi))
end
section
/-! instructions that touch neither heap nor course -/
theorem o_add (a b : Int) : Int32.ofInt a + Int32.ofInt b = Int32.ofInt (a + b) := (Int32.ofInt_add a b).symm
theorem o_sub (a b : Int) : Int32.ofInt a - Int32.ofInt b = Int32.ofInt (a - b) := (Int32.ofInt_sub a b).symm
theorem o_mul (a b : Int) : Int32.ofInt a * Int32.ofInt b = Int32.ofInt (a * b) := (Int32.ofInt_mul a b).symm
theorem o_neg (a : Int) : -Int32.ofInt a = Int32.ofInt (-a) := (Int32.ofInt_neg a).symm
theorem o_and (a b : Int) : Int32.ofInt a &&& Int32.ofInt b = Int32.ofInt (iAnd a b) := (Int32.ofInt_toInt _).symm
theorem o_or (a b : Int) : Int32.ofInt a ||| Int32.ofInt b = Int32.ofInt (iOr a b) := (Int32.ofInt_toInt _).symm
theorem o_xor (a b : Int) : Int32.ofInt a ^^^ Int32.ofInt b = Int32.ofInt (iXor a b) := (Int32.ofInt_toInt _).symm
theorem o_shl (a b : Int) : Int32.ofInt a <<< (Int32.ofInt b &&& 31) = Int32.ofInt (iShl a b) := (Int32.ofInt_toInt _).symm
theorem o_shr (a b : Int) : Int32.ofInt a >>> (Int32.ofInt b &&& 31) = Int32.ofInt (iShr a b) := (Int32.ofInt_toInt _).symm
theorem o_ush (a b : Int) : ((Int32.ofInt a).toUInt32 >>> ((Int32.ofInt b).toUInt32 &&& Int32.toUInt32 31)).toInt32 = Int32.ofInt (iUsh a b) := (Int32.ofInt_toInt _).symm
theorem q_add (a b : Int) : Int64.ofInt a + Int64.ofInt b = Int64.ofInt (a + b) := (Int64.ofInt_add a b).symm
theorem q_sub (a b : Int) : Int64.ofInt a - Int64.ofInt b = Int64.ofInt (a - b) := (Int64.ofInt_sub a b).symm
theorem q_mul (a b : Int) : Int64.ofInt a * Int64.ofInt b = Int64.ofInt (a * b) := (Int64.ofInt_mul a b).symm

theorem S_iconst {M : Mth} {d ip : Nat} {p : Program} {l : Launch} {e : Env} {R : Room} {s : State} {m : MethodId} {args : Array Value} {below : List Frame} {meth : Method} {c : Code} {U0 : State} {a0 : Array Value} {D : va_G} {pre : Nat → Nat} (cx : CX M d p l e R s m args below meth c U0 a0 D pre) {en : Ent} (he : (mT M)[ip]? = some en) {ls : LV} {st : List AV} {H : Heap} {locs : List Loc} {cells slots : Nat} {Qf : State → Prop} {LS : Array Slot} (hl : lvR (sg U0 pre) LS (mL M) ls) {n : Int} (hi : eI en = .iconst n) (k : ∀ LS' : Array Slot, lvR (sg U0 pre) LS' (mL M) (ls) → W p l e R s m args below meth c H locs cells slots Qf (F0 m (bp M (eN en)) LS' ((vi n :: st).map (cv (sg U0 pre))))) : W p l e R s m args below meth c H locs cells slots Qf (F0 m (bp M ip) LS ((st).map (cv (sg U0 pre)))) := by
  obtain ⟨⟨hg, hK, hpre, hZ⟩, hx, hb, hml, hr, hlk, hnm, hown, hW, hfr, hlo, hok⟩ := cx
  obtain ⟨hbp, hd, hlen, hnx, hxx⟩ := hok.at he
  unfold okX at hxx
  rw [hi] at hd hlen hnx hxx
  have hlen := hlen rfl
  have hnx := hnx rfl
  rw [hlen] at hd hnx
  rw [hbp]
  rw [hnx] at k
  exact lv_iconst hx hb hd rfl (k LS hl)
theorem S_bipush {M : Mth} {d ip : Nat} {p : Program} {l : Launch} {e : Env} {R : Room} {s : State} {m : MethodId} {args : Array Value} {below : List Frame} {meth : Method} {c : Code} {U0 : State} {a0 : Array Value} {D : va_G} {pre : Nat → Nat} (cx : CX M d p l e R s m args below meth c U0 a0 D pre) {en : Ent} (he : (mT M)[ip]? = some en) {ls : LV} {st : List AV} {H : Heap} {locs : List Loc} {cells slots : Nat} {Qf : State → Prop} {LS : Array Slot} (hl : lvR (sg U0 pre) LS (mL M) ls) {n : Int} (hi : eI en = .bipush n) (k : ∀ LS' : Array Slot, lvR (sg U0 pre) LS' (mL M) (ls) → W p l e R s m args below meth c H locs cells slots Qf (F0 m (bp M (eN en)) LS' ((vi n :: st).map (cv (sg U0 pre))))) : W p l e R s m args below meth c H locs cells slots Qf (F0 m (bp M ip) LS ((st).map (cv (sg U0 pre)))) := by
  obtain ⟨⟨hg, hK, hpre, hZ⟩, hx, hb, hml, hr, hlk, hnm, hown, hW, hfr, hlo, hok⟩ := cx
  obtain ⟨hbp, hd, hlen, hnx, hxx⟩ := hok.at he
  unfold okX at hxx
  rw [hi] at hd hlen hnx hxx
  have hlen := hlen rfl
  have hnx := hnx rfl
  rw [hlen] at hd hnx
  rw [hbp]
  rw [hnx] at k
  exact lv_bipush hx hb hd (of_decide_eq_true hxx) (k LS hl)
theorem S_sipush {M : Mth} {d ip : Nat} {p : Program} {l : Launch} {e : Env} {R : Room} {s : State} {m : MethodId} {args : Array Value} {below : List Frame} {meth : Method} {c : Code} {U0 : State} {a0 : Array Value} {D : va_G} {pre : Nat → Nat} (cx : CX M d p l e R s m args below meth c U0 a0 D pre) {en : Ent} (he : (mT M)[ip]? = some en) {ls : LV} {st : List AV} {H : Heap} {locs : List Loc} {cells slots : Nat} {Qf : State → Prop} {LS : Array Slot} (hl : lvR (sg U0 pre) LS (mL M) ls) {n : Int} (hi : eI en = .sipush n) (k : ∀ LS' : Array Slot, lvR (sg U0 pre) LS' (mL M) (ls) → W p l e R s m args below meth c H locs cells slots Qf (F0 m (bp M (eN en)) LS' ((vi n :: st).map (cv (sg U0 pre))))) : W p l e R s m args below meth c H locs cells slots Qf (F0 m (bp M ip) LS ((st).map (cv (sg U0 pre)))) := by
  obtain ⟨⟨hg, hK, hpre, hZ⟩, hx, hb, hml, hr, hlk, hnm, hown, hW, hfr, hlo, hok⟩ := cx
  obtain ⟨hbp, hd, hlen, hnx, hxx⟩ := hok.at he
  unfold okX at hxx
  rw [hi] at hd hlen hnx hxx
  have hlen := hlen rfl
  have hnx := hnx rfl
  rw [hlen] at hd hnx
  rw [hbp]
  rw [hnx] at k
  exact lv_sipush hx hb hd (of_decide_eq_true hxx) (k LS hl)
theorem S_lconst {M : Mth} {d ip : Nat} {p : Program} {l : Launch} {e : Env} {R : Room} {s : State} {m : MethodId} {args : Array Value} {below : List Frame} {meth : Method} {c : Code} {U0 : State} {a0 : Array Value} {D : va_G} {pre : Nat → Nat} (cx : CX M d p l e R s m args below meth c U0 a0 D pre) {en : Ent} (he : (mT M)[ip]? = some en) {ls : LV} {st : List AV} {H : Heap} {locs : List Loc} {cells slots : Nat} {Qf : State → Prop} {LS : Array Slot} (hl : lvR (sg U0 pre) LS (mL M) ls) {n : Fin 2} (hi : eI en = .lconst n) (k : ∀ LS' : Array Slot, lvR (sg U0 pre) LS' (mL M) (ls) → W p l e R s m args below meth c H locs cells slots Qf (F0 m (bp M (eN en)) LS' ((vl (n.val : Int) :: st).map (cv (sg U0 pre))))) : W p l e R s m args below meth c H locs cells slots Qf (F0 m (bp M ip) LS ((st).map (cv (sg U0 pre)))) := by
  obtain ⟨⟨hg, hK, hpre, hZ⟩, hx, hb, hml, hr, hlk, hnm, hown, hW, hfr, hlo, hok⟩ := cx
  obtain ⟨hbp, hd, hlen, hnx, hxx⟩ := hok.at he
  unfold okX at hxx
  rw [hi] at hd hlen hnx hxx
  have hlen := hlen rfl
  have hnx := hnx rfl
  rw [hlen] at hd hnx
  rw [hbp]
  rw [hnx] at k
  exact lv_lconst hx hb hd Int64.ofInt_eq_ofNat.symm (k LS hl)
theorem S_iload {M : Mth} {d ip : Nat} {p : Program} {l : Launch} {e : Env} {R : Room} {s : State} {m : MethodId} {args : Array Value} {below : List Frame} {meth : Method} {c : Code} {U0 : State} {a0 : Array Value} {D : va_G} {pre : Nat → Nat} (cx : CX M d p l e R s m args below meth c U0 a0 D pre) {en : Ent} (he : (mT M)[ip]? = some en) {ls : LV} {st : List AV} {H : Heap} {locs : List Loc} {cells slots : Nat} {Qf : State → Prop} {LS : Array Slot} (hl : lvR (sg U0 pre) LS (mL M) ls) {k0 : Nat} {x : Int} (hv : ls[k0]? = some (some (vi x))) (hi : eI en = .iload k0) (k : ∀ LS' : Array Slot, lvR (sg U0 pre) LS' (mL M) (ls) → W p l e R s m args below meth c H locs cells slots Qf (F0 m (bp M (eN en)) LS' ((vi x :: st).map (cv (sg U0 pre))))) : W p l e R s m args below meth c H locs cells slots Qf (F0 m (bp M ip) LS ((st).map (cv (sg U0 pre)))) := by
  obtain ⟨⟨hg, hK, hpre, hZ⟩, hx, hb, hml, hr, hlk, hnm, hown, hW, hfr, hlo, hok⟩ := cx
  obtain ⟨hbp, hd, hlen, hnx, hxx⟩ := hok.at he
  unfold okX at hxx
  rw [hi] at hd hlen hnx hxx
  have hlen := hlen rfl
  have hnx := hnx rfl
  rw [hlen] at hd hnx
  rw [hbp]
  rw [hnx] at k
  exact lv_iload hx hb hd (hl.2.2 k0 _ hv) (k LS hl)
theorem S_iload_n {M : Mth} {d ip : Nat} {p : Program} {l : Launch} {e : Env} {R : Room} {s : State} {m : MethodId} {args : Array Value} {below : List Frame} {meth : Method} {c : Code} {U0 : State} {a0 : Array Value} {D : va_G} {pre : Nat → Nat} (cx : CX M d p l e R s m args below meth c U0 a0 D pre) {en : Ent} (he : (mT M)[ip]? = some en) {ls : LV} {st : List AV} {H : Heap} {locs : List Loc} {cells slots : Nat} {Qf : State → Prop} {LS : Array Slot} (hl : lvR (sg U0 pre) LS (mL M) ls) {k0 : Fin 4} {x : Int} (hv : ls[k0.val]? = some (some (vi x))) (hi : eI en = .iload_n k0) (k : ∀ LS' : Array Slot, lvR (sg U0 pre) LS' (mL M) (ls) → W p l e R s m args below meth c H locs cells slots Qf (F0 m (bp M (eN en)) LS' ((vi x :: st).map (cv (sg U0 pre))))) : W p l e R s m args below meth c H locs cells slots Qf (F0 m (bp M ip) LS ((st).map (cv (sg U0 pre)))) := by
  obtain ⟨⟨hg, hK, hpre, hZ⟩, hx, hb, hml, hr, hlk, hnm, hown, hW, hfr, hlo, hok⟩ := cx
  obtain ⟨hbp, hd, hlen, hnx, hxx⟩ := hok.at he
  unfold okX at hxx
  rw [hi] at hd hlen hnx hxx
  have hlen := hlen rfl
  have hnx := hnx rfl
  rw [hlen] at hd hnx
  rw [hbp]
  rw [hnx] at k
  exact lv_iload_n hx hb hd rfl (hl.2.2 k0.val _ hv) (k LS hl)
theorem S_istore {M : Mth} {d ip : Nat} {p : Program} {l : Launch} {e : Env} {R : Room} {s : State} {m : MethodId} {args : Array Value} {below : List Frame} {meth : Method} {c : Code} {U0 : State} {a0 : Array Value} {D : va_G} {pre : Nat → Nat} (cx : CX M d p l e R s m args below meth c U0 a0 D pre) {en : Ent} (he : (mT M)[ip]? = some en) {ls : LV} {st : List AV} {H : Heap} {locs : List Loc} {cells slots : Nat} {Qf : State → Prop} {LS : Array Slot} (hl : lvR (sg U0 pre) LS (mL M) ls) {k0 : Nat} {x : Int} (hi : eI en = .istore k0) (k : ∀ LS' : Array Slot, lvR (sg U0 pre) LS' (mL M) (lput ls k0 (some (vi x))) → W p l e R s m args below meth c H locs cells slots Qf (F0 m (bp M (eN en)) LS' ((st).map (cv (sg U0 pre))))) : W p l e R s m args below meth c H locs cells slots Qf (F0 m (bp M ip) LS ((vi x :: st).map (cv (sg U0 pre)))) := by
  obtain ⟨⟨hg, hK, hpre, hZ⟩, hx, hb, hml, hr, hlk, hnm, hown, hW, hfr, hlo, hok⟩ := cx
  obtain ⟨hbp, hd, hlen, hnx, hxx⟩ := hok.at he
  unfold okX at hxx
  rw [hi] at hd hlen hnx hxx
  have hlen := hlen rfl
  have hnx := hnx rfl
  rw [hlen] at hd hnx
  rw [hbp]
  rw [hnx] at k
  exact lv_istore hx hb hd hl.has (of_decide_eq_true hxx) rfl (fun LS' h9 => k LS' (lvR.put (w := vi x) h9))
theorem S_istore_n {M : Mth} {d ip : Nat} {p : Program} {l : Launch} {e : Env} {R : Room} {s : State} {m : MethodId} {args : Array Value} {below : List Frame} {meth : Method} {c : Code} {U0 : State} {a0 : Array Value} {D : va_G} {pre : Nat → Nat} (cx : CX M d p l e R s m args below meth c U0 a0 D pre) {en : Ent} (he : (mT M)[ip]? = some en) {ls : LV} {st : List AV} {H : Heap} {locs : List Loc} {cells slots : Nat} {Qf : State → Prop} {LS : Array Slot} (hl : lvR (sg U0 pre) LS (mL M) ls) {k0 : Fin 4} {x : Int} (hi : eI en = .istore_n k0) (k : ∀ LS' : Array Slot, lvR (sg U0 pre) LS' (mL M) (lput ls k0.val (some (vi x))) → W p l e R s m args below meth c H locs cells slots Qf (F0 m (bp M (eN en)) LS' ((st).map (cv (sg U0 pre))))) : W p l e R s m args below meth c H locs cells slots Qf (F0 m (bp M ip) LS ((vi x :: st).map (cv (sg U0 pre)))) := by
  obtain ⟨⟨hg, hK, hpre, hZ⟩, hx, hb, hml, hr, hlk, hnm, hown, hW, hfr, hlo, hok⟩ := cx
  obtain ⟨hbp, hd, hlen, hnx, hxx⟩ := hok.at he
  unfold okX at hxx
  rw [hi] at hd hlen hnx hxx
  have hlen := hlen rfl
  have hnx := hnx rfl
  rw [hlen] at hd hnx
  rw [hbp]
  rw [hnx] at k
  exact lv_istore_n hx hb hd rfl hl.has (of_decide_eq_true hxx) rfl (fun LS' h9 => k LS' (lvR.put (w := vi x) h9))
theorem S_lload {M : Mth} {d ip : Nat} {p : Program} {l : Launch} {e : Env} {R : Room} {s : State} {m : MethodId} {args : Array Value} {below : List Frame} {meth : Method} {c : Code} {U0 : State} {a0 : Array Value} {D : va_G} {pre : Nat → Nat} (cx : CX M d p l e R s m args below meth c U0 a0 D pre) {en : Ent} (he : (mT M)[ip]? = some en) {ls : LV} {st : List AV} {H : Heap} {locs : List Loc} {cells slots : Nat} {Qf : State → Prop} {LS : Array Slot} (hl : lvR (sg U0 pre) LS (mL M) ls) {k0 : Nat} {x : Int} (hv : ls[k0]? = some (some (vl x))) (hi : eI en = .lload k0) (k : ∀ LS' : Array Slot, lvR (sg U0 pre) LS' (mL M) (ls) → W p l e R s m args below meth c H locs cells slots Qf (F0 m (bp M (eN en)) LS' ((vl x :: st).map (cv (sg U0 pre))))) : W p l e R s m args below meth c H locs cells slots Qf (F0 m (bp M ip) LS ((st).map (cv (sg U0 pre)))) := by
  obtain ⟨⟨hg, hK, hpre, hZ⟩, hx, hb, hml, hr, hlk, hnm, hown, hW, hfr, hlo, hok⟩ := cx
  obtain ⟨hbp, hd, hlen, hnx, hxx⟩ := hok.at he
  unfold okX at hxx
  rw [hi] at hd hlen hnx hxx
  have hlen := hlen rfl
  have hnx := hnx rfl
  rw [hlen] at hd hnx
  rw [hbp]
  rw [hnx] at k
  exact lv_lload hx hb hd (hl.2.2 k0 _ hv) (k LS hl)
theorem S_lload_n {M : Mth} {d ip : Nat} {p : Program} {l : Launch} {e : Env} {R : Room} {s : State} {m : MethodId} {args : Array Value} {below : List Frame} {meth : Method} {c : Code} {U0 : State} {a0 : Array Value} {D : va_G} {pre : Nat → Nat} (cx : CX M d p l e R s m args below meth c U0 a0 D pre) {en : Ent} (he : (mT M)[ip]? = some en) {ls : LV} {st : List AV} {H : Heap} {locs : List Loc} {cells slots : Nat} {Qf : State → Prop} {LS : Array Slot} (hl : lvR (sg U0 pre) LS (mL M) ls) {k0 : Fin 4} {x : Int} (hv : ls[k0.val]? = some (some (vl x))) (hi : eI en = .lload_n k0) (k : ∀ LS' : Array Slot, lvR (sg U0 pre) LS' (mL M) (ls) → W p l e R s m args below meth c H locs cells slots Qf (F0 m (bp M (eN en)) LS' ((vl x :: st).map (cv (sg U0 pre))))) : W p l e R s m args below meth c H locs cells slots Qf (F0 m (bp M ip) LS ((st).map (cv (sg U0 pre)))) := by
  obtain ⟨⟨hg, hK, hpre, hZ⟩, hx, hb, hml, hr, hlk, hnm, hown, hW, hfr, hlo, hok⟩ := cx
  obtain ⟨hbp, hd, hlen, hnx, hxx⟩ := hok.at he
  unfold okX at hxx
  rw [hi] at hd hlen hnx hxx
  have hlen := hlen rfl
  have hnx := hnx rfl
  rw [hlen] at hd hnx
  rw [hbp]
  rw [hnx] at k
  exact lv_lload_n hx hb hd rfl (hl.2.2 k0.val _ hv) (k LS hl)
theorem S_lstore {M : Mth} {d ip : Nat} {p : Program} {l : Launch} {e : Env} {R : Room} {s : State} {m : MethodId} {args : Array Value} {below : List Frame} {meth : Method} {c : Code} {U0 : State} {a0 : Array Value} {D : va_G} {pre : Nat → Nat} (cx : CX M d p l e R s m args below meth c U0 a0 D pre) {en : Ent} (he : (mT M)[ip]? = some en) {ls : LV} {st : List AV} {H : Heap} {locs : List Loc} {cells slots : Nat} {Qf : State → Prop} {LS : Array Slot} (hl : lvR (sg U0 pre) LS (mL M) ls) {k0 : Nat} {x : Int} (hi : eI en = .lstore k0) (k : ∀ LS' : Array Slot, lvR (sg U0 pre) LS' (mL M) (lputL ls k0 (vl x)) → W p l e R s m args below meth c H locs cells slots Qf (F0 m (bp M (eN en)) LS' ((st).map (cv (sg U0 pre))))) : W p l e R s m args below meth c H locs cells slots Qf (F0 m (bp M ip) LS ((vl x :: st).map (cv (sg U0 pre)))) := by
  obtain ⟨⟨hg, hK, hpre, hZ⟩, hx, hb, hml, hr, hlk, hnm, hown, hW, hfr, hlo, hok⟩ := cx
  obtain ⟨hbp, hd, hlen, hnx, hxx⟩ := hok.at he
  unfold okX at hxx
  rw [hi] at hd hlen hnx hxx
  have hlen := hlen rfl
  have hnx := hnx rfl
  rw [hlen] at hd hnx
  rw [hbp]
  rw [hnx] at k
  exact lv_lstore hx hb hd hl.has (of_decide_eq_true hxx) rfl (fun LS' h9 => k LS' (lvR.putL (w := vl x) h9))
theorem S_lstore_n {M : Mth} {d ip : Nat} {p : Program} {l : Launch} {e : Env} {R : Room} {s : State} {m : MethodId} {args : Array Value} {below : List Frame} {meth : Method} {c : Code} {U0 : State} {a0 : Array Value} {D : va_G} {pre : Nat → Nat} (cx : CX M d p l e R s m args below meth c U0 a0 D pre) {en : Ent} (he : (mT M)[ip]? = some en) {ls : LV} {st : List AV} {H : Heap} {locs : List Loc} {cells slots : Nat} {Qf : State → Prop} {LS : Array Slot} (hl : lvR (sg U0 pre) LS (mL M) ls) {k0 : Fin 4} {x : Int} (hi : eI en = .lstore_n k0) (k : ∀ LS' : Array Slot, lvR (sg U0 pre) LS' (mL M) (lputL ls k0.val (vl x)) → W p l e R s m args below meth c H locs cells slots Qf (F0 m (bp M (eN en)) LS' ((st).map (cv (sg U0 pre))))) : W p l e R s m args below meth c H locs cells slots Qf (F0 m (bp M ip) LS ((vl x :: st).map (cv (sg U0 pre)))) := by
  obtain ⟨⟨hg, hK, hpre, hZ⟩, hx, hb, hml, hr, hlk, hnm, hown, hW, hfr, hlo, hok⟩ := cx
  obtain ⟨hbp, hd, hlen, hnx, hxx⟩ := hok.at he
  unfold okX at hxx
  rw [hi] at hd hlen hnx hxx
  have hlen := hlen rfl
  have hnx := hnx rfl
  rw [hlen] at hd hnx
  rw [hbp]
  rw [hnx] at k
  exact lv_lstore_n hx hb hd rfl hl.has (of_decide_eq_true hxx) rfl (fun LS' h9 => k LS' (lvR.putL (w := vl x) h9))
theorem S_aload {M : Mth} {d ip : Nat} {p : Program} {l : Launch} {e : Env} {R : Room} {s : State} {m : MethodId} {args : Array Value} {below : List Frame} {meth : Method} {c : Code} {U0 : State} {a0 : Array Value} {D : va_G} {pre : Nat → Nat} (cx : CX M d p l e R s m args below meth c U0 a0 D pre) {en : Ent} (he : (mT M)[ip]? = some en) {ls : LV} {st : List AV} {H : Heap} {locs : List Loc} {cells slots : Nat} {Qf : State → Prop} {LS : Array Slot} (hl : lvR (sg U0 pre) LS (mL M) ls) {k0 : Nat} {x : Nat} (hv : ls[k0]? = some (some (vr x))) (hi : eI en = .aload k0) (k : ∀ LS' : Array Slot, lvR (sg U0 pre) LS' (mL M) (ls) → W p l e R s m args below meth c H locs cells slots Qf (F0 m (bp M (eN en)) LS' ((vr x :: st).map (cv (sg U0 pre))))) : W p l e R s m args below meth c H locs cells slots Qf (F0 m (bp M ip) LS ((st).map (cv (sg U0 pre)))) := by
  obtain ⟨⟨hg, hK, hpre, hZ⟩, hx, hb, hml, hr, hlk, hnm, hown, hW, hfr, hlo, hok⟩ := cx
  obtain ⟨hbp, hd, hlen, hnx, hxx⟩ := hok.at he
  unfold okX at hxx
  rw [hi] at hd hlen hnx hxx
  have hlen := hlen rfl
  have hnx := hnx rfl
  rw [hlen] at hd hnx
  rw [hbp]
  rw [hnx] at k
  exact lv_aload hx hb hd (hl.2.2 k0 _ hv) (k LS hl)
theorem S_aload_n {M : Mth} {d ip : Nat} {p : Program} {l : Launch} {e : Env} {R : Room} {s : State} {m : MethodId} {args : Array Value} {below : List Frame} {meth : Method} {c : Code} {U0 : State} {a0 : Array Value} {D : va_G} {pre : Nat → Nat} (cx : CX M d p l e R s m args below meth c U0 a0 D pre) {en : Ent} (he : (mT M)[ip]? = some en) {ls : LV} {st : List AV} {H : Heap} {locs : List Loc} {cells slots : Nat} {Qf : State → Prop} {LS : Array Slot} (hl : lvR (sg U0 pre) LS (mL M) ls) {k0 : Fin 4} {x : Nat} (hv : ls[k0.val]? = some (some (vr x))) (hi : eI en = .aload_n k0) (k : ∀ LS' : Array Slot, lvR (sg U0 pre) LS' (mL M) (ls) → W p l e R s m args below meth c H locs cells slots Qf (F0 m (bp M (eN en)) LS' ((vr x :: st).map (cv (sg U0 pre))))) : W p l e R s m args below meth c H locs cells slots Qf (F0 m (bp M ip) LS ((st).map (cv (sg U0 pre)))) := by
  obtain ⟨⟨hg, hK, hpre, hZ⟩, hx, hb, hml, hr, hlk, hnm, hown, hW, hfr, hlo, hok⟩ := cx
  obtain ⟨hbp, hd, hlen, hnx, hxx⟩ := hok.at he
  unfold okX at hxx
  rw [hi] at hd hlen hnx hxx
  have hlen := hlen rfl
  have hnx := hnx rfl
  rw [hlen] at hd hnx
  rw [hbp]
  rw [hnx] at k
  exact lv_aload_n hx hb hd rfl (hl.2.2 k0.val _ hv) (k LS hl)
theorem S_astore {M : Mth} {d ip : Nat} {p : Program} {l : Launch} {e : Env} {R : Room} {s : State} {m : MethodId} {args : Array Value} {below : List Frame} {meth : Method} {c : Code} {U0 : State} {a0 : Array Value} {D : va_G} {pre : Nat → Nat} (cx : CX M d p l e R s m args below meth c U0 a0 D pre) {en : Ent} (he : (mT M)[ip]? = some en) {ls : LV} {st : List AV} {H : Heap} {locs : List Loc} {cells slots : Nat} {Qf : State → Prop} {LS : Array Slot} (hl : lvR (sg U0 pre) LS (mL M) ls) {k0 : Nat} {x : Nat} (hi : eI en = .astore k0) (k : ∀ LS' : Array Slot, lvR (sg U0 pre) LS' (mL M) (lput ls k0 (some (vr x))) → W p l e R s m args below meth c H locs cells slots Qf (F0 m (bp M (eN en)) LS' ((st).map (cv (sg U0 pre))))) : W p l e R s m args below meth c H locs cells slots Qf (F0 m (bp M ip) LS ((vr x :: st).map (cv (sg U0 pre)))) := by
  obtain ⟨⟨hg, hK, hpre, hZ⟩, hx, hb, hml, hr, hlk, hnm, hown, hW, hfr, hlo, hok⟩ := cx
  obtain ⟨hbp, hd, hlen, hnx, hxx⟩ := hok.at he
  unfold okX at hxx
  rw [hi] at hd hlen hnx hxx
  have hlen := hlen rfl
  have hnx := hnx rfl
  rw [hlen] at hd hnx
  rw [hbp]
  rw [hnx] at k
  exact lv_astore hx hb hd hl.has (of_decide_eq_true hxx) rfl (fun LS' h9 => k LS' (lvR.put (w := vr x) h9))
theorem S_astore_n {M : Mth} {d ip : Nat} {p : Program} {l : Launch} {e : Env} {R : Room} {s : State} {m : MethodId} {args : Array Value} {below : List Frame} {meth : Method} {c : Code} {U0 : State} {a0 : Array Value} {D : va_G} {pre : Nat → Nat} (cx : CX M d p l e R s m args below meth c U0 a0 D pre) {en : Ent} (he : (mT M)[ip]? = some en) {ls : LV} {st : List AV} {H : Heap} {locs : List Loc} {cells slots : Nat} {Qf : State → Prop} {LS : Array Slot} (hl : lvR (sg U0 pre) LS (mL M) ls) {k0 : Fin 4} {x : Nat} (hi : eI en = .astore_n k0) (k : ∀ LS' : Array Slot, lvR (sg U0 pre) LS' (mL M) (lput ls k0.val (some (vr x))) → W p l e R s m args below meth c H locs cells slots Qf (F0 m (bp M (eN en)) LS' ((st).map (cv (sg U0 pre))))) : W p l e R s m args below meth c H locs cells slots Qf (F0 m (bp M ip) LS ((vr x :: st).map (cv (sg U0 pre)))) := by
  obtain ⟨⟨hg, hK, hpre, hZ⟩, hx, hb, hml, hr, hlk, hnm, hown, hW, hfr, hlo, hok⟩ := cx
  obtain ⟨hbp, hd, hlen, hnx, hxx⟩ := hok.at he
  unfold okX at hxx
  rw [hi] at hd hlen hnx hxx
  have hlen := hlen rfl
  have hnx := hnx rfl
  rw [hlen] at hd hnx
  rw [hbp]
  rw [hnx] at k
  exact lv_astore_n hx hb hd rfl hl.has (of_decide_eq_true hxx) rfl (fun LS' h9 => k LS' (lvR.put (w := vr x) h9))
theorem S_iinc {M : Mth} {d ip : Nat} {p : Program} {l : Launch} {e : Env} {R : Room} {s : State} {m : MethodId} {args : Array Value} {below : List Frame} {meth : Method} {c : Code} {U0 : State} {a0 : Array Value} {D : va_G} {pre : Nat → Nat} (cx : CX M d p l e R s m args below meth c U0 a0 D pre) {en : Ent} (he : (mT M)[ip]? = some en) {ls : LV} {st : List AV} {H : Heap} {locs : List Loc} {cells slots : Nat} {Qf : State → Prop} {LS : Array Slot} (hl : lvR (sg U0 pre) LS (mL M) ls) {k0 : Nat} {n x : Int} (hv : ls[k0]? = some (some (vi x))) (hi : eI en = .iinc k0 n) (k : ∀ LS' : Array Slot, lvR (sg U0 pre) LS' (mL M) (lput ls k0 (some (vi (x + n)))) → W p l e R s m args below meth c H locs cells slots Qf (F0 m (bp M (eN en)) LS' ((st).map (cv (sg U0 pre))))) : W p l e R s m args below meth c H locs cells slots Qf (F0 m (bp M ip) LS ((st).map (cv (sg U0 pre)))) := by
  obtain ⟨⟨hg, hK, hpre, hZ⟩, hx, hb, hml, hr, hlk, hnm, hown, hW, hfr, hlo, hok⟩ := cx
  obtain ⟨hbp, hd, hlen, hnx, hxx⟩ := hok.at he
  unfold okX at hxx
  rw [hi] at hd hlen hnx hxx
  have hlen := hlen rfl
  have hnx := hnx rfl
  rw [hlen] at hd hnx
  rw [hbp]
  rw [hnx] at k
  obtain ⟨j, hj⟩ := List.getElem?_of_mem ((lvp_mem (f := sg U0 pre) ls 0 (k0, cv (sg U0 pre) (vi x))).mpr ⟨k0, vi x, hv, by simp⟩)
  exact lv_iinc hx hb hd hl.has (k := j) hj (v := Int32.ofInt (x + n)) (o_add x n) (of_decide_eq_true hxx) rfl (fun LS' h9 => k LS' (lvR.put (w := vi (x + n)) h9))
theorem S_iadd {M : Mth} {d ip : Nat} {p : Program} {l : Launch} {e : Env} {R : Room} {s : State} {m : MethodId} {args : Array Value} {below : List Frame} {meth : Method} {c : Code} {U0 : State} {a0 : Array Value} {D : va_G} {pre : Nat → Nat} (cx : CX M d p l e R s m args below meth c U0 a0 D pre) {en : Ent} (he : (mT M)[ip]? = some en) {ls : LV} {st : List AV} {H : Heap} {locs : List Loc} {cells slots : Nat} {Qf : State → Prop} {LS : Array Slot} (hl : lvR (sg U0 pre) LS (mL M) ls) {x y : Int} (hi : eI en = .iadd) (k : ∀ LS' : Array Slot, lvR (sg U0 pre) LS' (mL M) (ls) → W p l e R s m args below meth c H locs cells slots Qf (F0 m (bp M (eN en)) LS' ((vi (x + y) :: st).map (cv (sg U0 pre))))) : W p l e R s m args below meth c H locs cells slots Qf (F0 m (bp M ip) LS ((vi y :: vi x :: st).map (cv (sg U0 pre)))) := by
  obtain ⟨⟨hg, hK, hpre, hZ⟩, hx, hb, hml, hr, hlk, hnm, hown, hW, hfr, hlo, hok⟩ := cx
  obtain ⟨hbp, hd, hlen, hnx, hxx⟩ := hok.at he
  unfold okX at hxx
  rw [hi] at hd hlen hnx hxx
  have hlen := hlen rfl
  have hnx := hnx rfl
  rw [hlen] at hd hnx
  rw [hbp]
  rw [hnx] at k
  refine lv_iadd (x := Int32.ofInt x) (y := Int32.ofInt y) hx hb hd ?_
  rw [o_add x y]
  exact k LS hl
theorem S_isub {M : Mth} {d ip : Nat} {p : Program} {l : Launch} {e : Env} {R : Room} {s : State} {m : MethodId} {args : Array Value} {below : List Frame} {meth : Method} {c : Code} {U0 : State} {a0 : Array Value} {D : va_G} {pre : Nat → Nat} (cx : CX M d p l e R s m args below meth c U0 a0 D pre) {en : Ent} (he : (mT M)[ip]? = some en) {ls : LV} {st : List AV} {H : Heap} {locs : List Loc} {cells slots : Nat} {Qf : State → Prop} {LS : Array Slot} (hl : lvR (sg U0 pre) LS (mL M) ls) {x y : Int} (hi : eI en = .isub) (k : ∀ LS' : Array Slot, lvR (sg U0 pre) LS' (mL M) (ls) → W p l e R s m args below meth c H locs cells slots Qf (F0 m (bp M (eN en)) LS' ((vi (x - y) :: st).map (cv (sg U0 pre))))) : W p l e R s m args below meth c H locs cells slots Qf (F0 m (bp M ip) LS ((vi y :: vi x :: st).map (cv (sg U0 pre)))) := by
  obtain ⟨⟨hg, hK, hpre, hZ⟩, hx, hb, hml, hr, hlk, hnm, hown, hW, hfr, hlo, hok⟩ := cx
  obtain ⟨hbp, hd, hlen, hnx, hxx⟩ := hok.at he
  unfold okX at hxx
  rw [hi] at hd hlen hnx hxx
  have hlen := hlen rfl
  have hnx := hnx rfl
  rw [hlen] at hd hnx
  rw [hbp]
  rw [hnx] at k
  refine lv_isub (x := Int32.ofInt x) (y := Int32.ofInt y) hx hb hd ?_
  rw [o_sub x y]
  exact k LS hl
theorem S_imul {M : Mth} {d ip : Nat} {p : Program} {l : Launch} {e : Env} {R : Room} {s : State} {m : MethodId} {args : Array Value} {below : List Frame} {meth : Method} {c : Code} {U0 : State} {a0 : Array Value} {D : va_G} {pre : Nat → Nat} (cx : CX M d p l e R s m args below meth c U0 a0 D pre) {en : Ent} (he : (mT M)[ip]? = some en) {ls : LV} {st : List AV} {H : Heap} {locs : List Loc} {cells slots : Nat} {Qf : State → Prop} {LS : Array Slot} (hl : lvR (sg U0 pre) LS (mL M) ls) {x y : Int} (hi : eI en = .imul) (k : ∀ LS' : Array Slot, lvR (sg U0 pre) LS' (mL M) (ls) → W p l e R s m args below meth c H locs cells slots Qf (F0 m (bp M (eN en)) LS' ((vi (x * y) :: st).map (cv (sg U0 pre))))) : W p l e R s m args below meth c H locs cells slots Qf (F0 m (bp M ip) LS ((vi y :: vi x :: st).map (cv (sg U0 pre)))) := by
  obtain ⟨⟨hg, hK, hpre, hZ⟩, hx, hb, hml, hr, hlk, hnm, hown, hW, hfr, hlo, hok⟩ := cx
  obtain ⟨hbp, hd, hlen, hnx, hxx⟩ := hok.at he
  unfold okX at hxx
  rw [hi] at hd hlen hnx hxx
  have hlen := hlen rfl
  have hnx := hnx rfl
  rw [hlen] at hd hnx
  rw [hbp]
  rw [hnx] at k
  refine lv_imul (x := Int32.ofInt x) (y := Int32.ofInt y) hx hb hd ?_
  rw [o_mul x y]
  exact k LS hl
theorem S_iand {M : Mth} {d ip : Nat} {p : Program} {l : Launch} {e : Env} {R : Room} {s : State} {m : MethodId} {args : Array Value} {below : List Frame} {meth : Method} {c : Code} {U0 : State} {a0 : Array Value} {D : va_G} {pre : Nat → Nat} (cx : CX M d p l e R s m args below meth c U0 a0 D pre) {en : Ent} (he : (mT M)[ip]? = some en) {ls : LV} {st : List AV} {H : Heap} {locs : List Loc} {cells slots : Nat} {Qf : State → Prop} {LS : Array Slot} (hl : lvR (sg U0 pre) LS (mL M) ls) {x y : Int} (hi : eI en = .iand) (k : ∀ LS' : Array Slot, lvR (sg U0 pre) LS' (mL M) (ls) → W p l e R s m args below meth c H locs cells slots Qf (F0 m (bp M (eN en)) LS' ((vi (iAnd x y) :: st).map (cv (sg U0 pre))))) : W p l e R s m args below meth c H locs cells slots Qf (F0 m (bp M ip) LS ((vi y :: vi x :: st).map (cv (sg U0 pre)))) := by
  obtain ⟨⟨hg, hK, hpre, hZ⟩, hx, hb, hml, hr, hlk, hnm, hown, hW, hfr, hlo, hok⟩ := cx
  obtain ⟨hbp, hd, hlen, hnx, hxx⟩ := hok.at he
  unfold okX at hxx
  rw [hi] at hd hlen hnx hxx
  have hlen := hlen rfl
  have hnx := hnx rfl
  rw [hlen] at hd hnx
  rw [hbp]
  rw [hnx] at k
  refine lv_iand (x := Int32.ofInt x) (y := Int32.ofInt y) hx hb hd ?_
  rw [o_and x y]
  exact k LS hl
theorem S_ior {M : Mth} {d ip : Nat} {p : Program} {l : Launch} {e : Env} {R : Room} {s : State} {m : MethodId} {args : Array Value} {below : List Frame} {meth : Method} {c : Code} {U0 : State} {a0 : Array Value} {D : va_G} {pre : Nat → Nat} (cx : CX M d p l e R s m args below meth c U0 a0 D pre) {en : Ent} (he : (mT M)[ip]? = some en) {ls : LV} {st : List AV} {H : Heap} {locs : List Loc} {cells slots : Nat} {Qf : State → Prop} {LS : Array Slot} (hl : lvR (sg U0 pre) LS (mL M) ls) {x y : Int} (hi : eI en = .ior) (k : ∀ LS' : Array Slot, lvR (sg U0 pre) LS' (mL M) (ls) → W p l e R s m args below meth c H locs cells slots Qf (F0 m (bp M (eN en)) LS' ((vi (iOr x y) :: st).map (cv (sg U0 pre))))) : W p l e R s m args below meth c H locs cells slots Qf (F0 m (bp M ip) LS ((vi y :: vi x :: st).map (cv (sg U0 pre)))) := by
  obtain ⟨⟨hg, hK, hpre, hZ⟩, hx, hb, hml, hr, hlk, hnm, hown, hW, hfr, hlo, hok⟩ := cx
  obtain ⟨hbp, hd, hlen, hnx, hxx⟩ := hok.at he
  unfold okX at hxx
  rw [hi] at hd hlen hnx hxx
  have hlen := hlen rfl
  have hnx := hnx rfl
  rw [hlen] at hd hnx
  rw [hbp]
  rw [hnx] at k
  refine lv_ior (x := Int32.ofInt x) (y := Int32.ofInt y) hx hb hd ?_
  rw [o_or x y]
  exact k LS hl
theorem S_ixor {M : Mth} {d ip : Nat} {p : Program} {l : Launch} {e : Env} {R : Room} {s : State} {m : MethodId} {args : Array Value} {below : List Frame} {meth : Method} {c : Code} {U0 : State} {a0 : Array Value} {D : va_G} {pre : Nat → Nat} (cx : CX M d p l e R s m args below meth c U0 a0 D pre) {en : Ent} (he : (mT M)[ip]? = some en) {ls : LV} {st : List AV} {H : Heap} {locs : List Loc} {cells slots : Nat} {Qf : State → Prop} {LS : Array Slot} (hl : lvR (sg U0 pre) LS (mL M) ls) {x y : Int} (hi : eI en = .ixor) (k : ∀ LS' : Array Slot, lvR (sg U0 pre) LS' (mL M) (ls) → W p l e R s m args below meth c H locs cells slots Qf (F0 m (bp M (eN en)) LS' ((vi (iXor x y) :: st).map (cv (sg U0 pre))))) : W p l e R s m args below meth c H locs cells slots Qf (F0 m (bp M ip) LS ((vi y :: vi x :: st).map (cv (sg U0 pre)))) := by
  obtain ⟨⟨hg, hK, hpre, hZ⟩, hx, hb, hml, hr, hlk, hnm, hown, hW, hfr, hlo, hok⟩ := cx
  obtain ⟨hbp, hd, hlen, hnx, hxx⟩ := hok.at he
  unfold okX at hxx
  rw [hi] at hd hlen hnx hxx
  have hlen := hlen rfl
  have hnx := hnx rfl
  rw [hlen] at hd hnx
  rw [hbp]
  rw [hnx] at k
  refine lv_ixor (x := Int32.ofInt x) (y := Int32.ofInt y) hx hb hd ?_
  rw [o_xor x y]
  exact k LS hl
theorem S_ishl {M : Mth} {d ip : Nat} {p : Program} {l : Launch} {e : Env} {R : Room} {s : State} {m : MethodId} {args : Array Value} {below : List Frame} {meth : Method} {c : Code} {U0 : State} {a0 : Array Value} {D : va_G} {pre : Nat → Nat} (cx : CX M d p l e R s m args below meth c U0 a0 D pre) {en : Ent} (he : (mT M)[ip]? = some en) {ls : LV} {st : List AV} {H : Heap} {locs : List Loc} {cells slots : Nat} {Qf : State → Prop} {LS : Array Slot} (hl : lvR (sg U0 pre) LS (mL M) ls) {x y : Int} (hi : eI en = .ishl) (k : ∀ LS' : Array Slot, lvR (sg U0 pre) LS' (mL M) (ls) → W p l e R s m args below meth c H locs cells slots Qf (F0 m (bp M (eN en)) LS' ((vi (iShl x y) :: st).map (cv (sg U0 pre))))) : W p l e R s m args below meth c H locs cells slots Qf (F0 m (bp M ip) LS ((vi y :: vi x :: st).map (cv (sg U0 pre)))) := by
  obtain ⟨⟨hg, hK, hpre, hZ⟩, hx, hb, hml, hr, hlk, hnm, hown, hW, hfr, hlo, hok⟩ := cx
  obtain ⟨hbp, hd, hlen, hnx, hxx⟩ := hok.at he
  unfold okX at hxx
  rw [hi] at hd hlen hnx hxx
  have hlen := hlen rfl
  have hnx := hnx rfl
  rw [hlen] at hd hnx
  rw [hbp]
  rw [hnx] at k
  refine lv_ishl (x := Int32.ofInt x) (y := Int32.ofInt y) hx hb hd ?_
  rw [o_shl x y]
  exact k LS hl
theorem S_ishr {M : Mth} {d ip : Nat} {p : Program} {l : Launch} {e : Env} {R : Room} {s : State} {m : MethodId} {args : Array Value} {below : List Frame} {meth : Method} {c : Code} {U0 : State} {a0 : Array Value} {D : va_G} {pre : Nat → Nat} (cx : CX M d p l e R s m args below meth c U0 a0 D pre) {en : Ent} (he : (mT M)[ip]? = some en) {ls : LV} {st : List AV} {H : Heap} {locs : List Loc} {cells slots : Nat} {Qf : State → Prop} {LS : Array Slot} (hl : lvR (sg U0 pre) LS (mL M) ls) {x y : Int} (hi : eI en = .ishr) (k : ∀ LS' : Array Slot, lvR (sg U0 pre) LS' (mL M) (ls) → W p l e R s m args below meth c H locs cells slots Qf (F0 m (bp M (eN en)) LS' ((vi (iShr x y) :: st).map (cv (sg U0 pre))))) : W p l e R s m args below meth c H locs cells slots Qf (F0 m (bp M ip) LS ((vi y :: vi x :: st).map (cv (sg U0 pre)))) := by
  obtain ⟨⟨hg, hK, hpre, hZ⟩, hx, hb, hml, hr, hlk, hnm, hown, hW, hfr, hlo, hok⟩ := cx
  obtain ⟨hbp, hd, hlen, hnx, hxx⟩ := hok.at he
  unfold okX at hxx
  rw [hi] at hd hlen hnx hxx
  have hlen := hlen rfl
  have hnx := hnx rfl
  rw [hlen] at hd hnx
  rw [hbp]
  rw [hnx] at k
  refine lv_ishr (x := Int32.ofInt x) (y := Int32.ofInt y) hx hb hd ?_
  rw [o_shr x y]
  exact k LS hl
theorem S_iushr {M : Mth} {d ip : Nat} {p : Program} {l : Launch} {e : Env} {R : Room} {s : State} {m : MethodId} {args : Array Value} {below : List Frame} {meth : Method} {c : Code} {U0 : State} {a0 : Array Value} {D : va_G} {pre : Nat → Nat} (cx : CX M d p l e R s m args below meth c U0 a0 D pre) {en : Ent} (he : (mT M)[ip]? = some en) {ls : LV} {st : List AV} {H : Heap} {locs : List Loc} {cells slots : Nat} {Qf : State → Prop} {LS : Array Slot} (hl : lvR (sg U0 pre) LS (mL M) ls) {x y : Int} (hi : eI en = .iushr) (k : ∀ LS' : Array Slot, lvR (sg U0 pre) LS' (mL M) (ls) → W p l e R s m args below meth c H locs cells slots Qf (F0 m (bp M (eN en)) LS' ((vi (iUsh x y) :: st).map (cv (sg U0 pre))))) : W p l e R s m args below meth c H locs cells slots Qf (F0 m (bp M ip) LS ((vi y :: vi x :: st).map (cv (sg U0 pre)))) := by
  obtain ⟨⟨hg, hK, hpre, hZ⟩, hx, hb, hml, hr, hlk, hnm, hown, hW, hfr, hlo, hok⟩ := cx
  obtain ⟨hbp, hd, hlen, hnx, hxx⟩ := hok.at he
  unfold okX at hxx
  rw [hi] at hd hlen hnx hxx
  have hlen := hlen rfl
  have hnx := hnx rfl
  rw [hlen] at hd hnx
  rw [hbp]
  rw [hnx] at k
  exact lv_iushr (x := Int32.ofInt x) (y := Int32.ofInt y) hx hb hd (o_ush x y) (k LS hl)
theorem S_ladd {M : Mth} {d ip : Nat} {p : Program} {l : Launch} {e : Env} {R : Room} {s : State} {m : MethodId} {args : Array Value} {below : List Frame} {meth : Method} {c : Code} {U0 : State} {a0 : Array Value} {D : va_G} {pre : Nat → Nat} (cx : CX M d p l e R s m args below meth c U0 a0 D pre) {en : Ent} (he : (mT M)[ip]? = some en) {ls : LV} {st : List AV} {H : Heap} {locs : List Loc} {cells slots : Nat} {Qf : State → Prop} {LS : Array Slot} (hl : lvR (sg U0 pre) LS (mL M) ls) {x y : Int} (hi : eI en = .ladd) (k : ∀ LS' : Array Slot, lvR (sg U0 pre) LS' (mL M) (ls) → W p l e R s m args below meth c H locs cells slots Qf (F0 m (bp M (eN en)) LS' ((vl (x + y) :: st).map (cv (sg U0 pre))))) : W p l e R s m args below meth c H locs cells slots Qf (F0 m (bp M ip) LS ((vl y :: vl x :: st).map (cv (sg U0 pre)))) := by
  obtain ⟨⟨hg, hK, hpre, hZ⟩, hx, hb, hml, hr, hlk, hnm, hown, hW, hfr, hlo, hok⟩ := cx
  obtain ⟨hbp, hd, hlen, hnx, hxx⟩ := hok.at he
  unfold okX at hxx
  rw [hi] at hd hlen hnx hxx
  have hlen := hlen rfl
  have hnx := hnx rfl
  rw [hlen] at hd hnx
  rw [hbp]
  rw [hnx] at k
  refine lv_ladd (x := Int64.ofInt x) (y := Int64.ofInt y) hx hb hd ?_
  rw [q_add x y]
  exact k LS hl
theorem S_lsub {M : Mth} {d ip : Nat} {p : Program} {l : Launch} {e : Env} {R : Room} {s : State} {m : MethodId} {args : Array Value} {below : List Frame} {meth : Method} {c : Code} {U0 : State} {a0 : Array Value} {D : va_G} {pre : Nat → Nat} (cx : CX M d p l e R s m args below meth c U0 a0 D pre) {en : Ent} (he : (mT M)[ip]? = some en) {ls : LV} {st : List AV} {H : Heap} {locs : List Loc} {cells slots : Nat} {Qf : State → Prop} {LS : Array Slot} (hl : lvR (sg U0 pre) LS (mL M) ls) {x y : Int} (hi : eI en = .lsub) (k : ∀ LS' : Array Slot, lvR (sg U0 pre) LS' (mL M) (ls) → W p l e R s m args below meth c H locs cells slots Qf (F0 m (bp M (eN en)) LS' ((vl (x - y) :: st).map (cv (sg U0 pre))))) : W p l e R s m args below meth c H locs cells slots Qf (F0 m (bp M ip) LS ((vl y :: vl x :: st).map (cv (sg U0 pre)))) := by
  obtain ⟨⟨hg, hK, hpre, hZ⟩, hx, hb, hml, hr, hlk, hnm, hown, hW, hfr, hlo, hok⟩ := cx
  obtain ⟨hbp, hd, hlen, hnx, hxx⟩ := hok.at he
  unfold okX at hxx
  rw [hi] at hd hlen hnx hxx
  have hlen := hlen rfl
  have hnx := hnx rfl
  rw [hlen] at hd hnx
  rw [hbp]
  rw [hnx] at k
  refine lv_lsub (x := Int64.ofInt x) (y := Int64.ofInt y) hx hb hd ?_
  rw [q_sub x y]
  exact k LS hl
theorem S_lmul {M : Mth} {d ip : Nat} {p : Program} {l : Launch} {e : Env} {R : Room} {s : State} {m : MethodId} {args : Array Value} {below : List Frame} {meth : Method} {c : Code} {U0 : State} {a0 : Array Value} {D : va_G} {pre : Nat → Nat} (cx : CX M d p l e R s m args below meth c U0 a0 D pre) {en : Ent} (he : (mT M)[ip]? = some en) {ls : LV} {st : List AV} {H : Heap} {locs : List Loc} {cells slots : Nat} {Qf : State → Prop} {LS : Array Slot} (hl : lvR (sg U0 pre) LS (mL M) ls) {x y : Int} (hi : eI en = .lmul) (k : ∀ LS' : Array Slot, lvR (sg U0 pre) LS' (mL M) (ls) → W p l e R s m args below meth c H locs cells slots Qf (F0 m (bp M (eN en)) LS' ((vl (x * y) :: st).map (cv (sg U0 pre))))) : W p l e R s m args below meth c H locs cells slots Qf (F0 m (bp M ip) LS ((vl y :: vl x :: st).map (cv (sg U0 pre)))) := by
  obtain ⟨⟨hg, hK, hpre, hZ⟩, hx, hb, hml, hr, hlk, hnm, hown, hW, hfr, hlo, hok⟩ := cx
  obtain ⟨hbp, hd, hlen, hnx, hxx⟩ := hok.at he
  unfold okX at hxx
  rw [hi] at hd hlen hnx hxx
  have hlen := hlen rfl
  have hnx := hnx rfl
  rw [hlen] at hd hnx
  rw [hbp]
  rw [hnx] at k
  refine lv_lmul (x := Int64.ofInt x) (y := Int64.ofInt y) hx hb hd ?_
  rw [q_mul x y]
  exact k LS hl
theorem S_ineg {M : Mth} {d ip : Nat} {p : Program} {l : Launch} {e : Env} {R : Room} {s : State} {m : MethodId} {args : Array Value} {below : List Frame} {meth : Method} {c : Code} {U0 : State} {a0 : Array Value} {D : va_G} {pre : Nat → Nat} (cx : CX M d p l e R s m args below meth c U0 a0 D pre) {en : Ent} (he : (mT M)[ip]? = some en) {ls : LV} {st : List AV} {H : Heap} {locs : List Loc} {cells slots : Nat} {Qf : State → Prop} {LS : Array Slot} (hl : lvR (sg U0 pre) LS (mL M) ls) {x : Int} (hi : eI en = .ineg) (k : ∀ LS' : Array Slot, lvR (sg U0 pre) LS' (mL M) (ls) → W p l e R s m args below meth c H locs cells slots Qf (F0 m (bp M (eN en)) LS' ((vi (-x) :: st).map (cv (sg U0 pre))))) : W p l e R s m args below meth c H locs cells slots Qf (F0 m (bp M ip) LS ((vi x :: st).map (cv (sg U0 pre)))) := by
  obtain ⟨⟨hg, hK, hpre, hZ⟩, hx, hb, hml, hr, hlk, hnm, hown, hW, hfr, hlo, hok⟩ := cx
  obtain ⟨hbp, hd, hlen, hnx, hxx⟩ := hok.at he
  unfold okX at hxx
  rw [hi] at hd hlen hnx hxx
  have hlen := hlen rfl
  have hnx := hnx rfl
  rw [hlen] at hd hnx
  rw [hbp]
  rw [hnx] at k
  refine lv_ineg (x := Int32.ofInt x) hx hb hd ?_
  rw [o_neg x]
  exact k LS hl
theorem S_l2i {M : Mth} {d ip : Nat} {p : Program} {l : Launch} {e : Env} {R : Room} {s : State} {m : MethodId} {args : Array Value} {below : List Frame} {meth : Method} {c : Code} {U0 : State} {a0 : Array Value} {D : va_G} {pre : Nat → Nat} (cx : CX M d p l e R s m args below meth c U0 a0 D pre) {en : Ent} (he : (mT M)[ip]? = some en) {ls : LV} {st : List AV} {H : Heap} {locs : List Loc} {cells slots : Nat} {Qf : State → Prop} {LS : Array Slot} (hl : lvR (sg U0 pre) LS (mL M) ls) {x : Int} (hi : eI en = .l2i) (k : ∀ LS' : Array Slot, lvR (sg U0 pre) LS' (mL M) (ls) → W p l e R s m args below meth c H locs cells slots Qf (F0 m (bp M (eN en)) LS' ((vi x :: st).map (cv (sg U0 pre))))) : W p l e R s m args below meth c H locs cells slots Qf (F0 m (bp M ip) LS ((vl x :: st).map (cv (sg U0 pre)))) := by
  obtain ⟨⟨hg, hK, hpre, hZ⟩, hx, hb, hml, hr, hlk, hnm, hown, hW, hfr, hlo, hok⟩ := cx
  obtain ⟨hbp, hd, hlen, hnx, hxx⟩ := hok.at he
  unfold okX at hxx
  rw [hi] at hd hlen hnx hxx
  have hlen := hlen rfl
  have hnx := hnx rfl
  rw [hlen] at hd hnx
  rw [hbp]
  rw [hnx] at k
  exact lv_l2i (x := Int64.ofInt x) hx hb hd (by simp) (k LS hl)
theorem S_pop {M : Mth} {d ip : Nat} {p : Program} {l : Launch} {e : Env} {R : Room} {s : State} {m : MethodId} {args : Array Value} {below : List Frame} {meth : Method} {c : Code} {U0 : State} {a0 : Array Value} {D : va_G} {pre : Nat → Nat} (cx : CX M d p l e R s m args below meth c U0 a0 D pre) {en : Ent} (he : (mT M)[ip]? = some en) {ls : LV} {st : List AV} {H : Heap} {locs : List Loc} {cells slots : Nat} {Qf : State → Prop} {LS : Array Slot} (hl : lvR (sg U0 pre) LS (mL M) ls) {v : AV} (hv : ac v = 1) (hi : eI en = .pop) (k : ∀ LS' : Array Slot, lvR (sg U0 pre) LS' (mL M) (ls) → W p l e R s m args below meth c H locs cells slots Qf (F0 m (bp M (eN en)) LS' ((st).map (cv (sg U0 pre))))) : W p l e R s m args below meth c H locs cells slots Qf (F0 m (bp M ip) LS ((v :: st).map (cv (sg U0 pre)))) := by
  obtain ⟨⟨hg, hK, hpre, hZ⟩, hx, hb, hml, hr, hlk, hnm, hown, hW, hfr, hlo, hok⟩ := cx
  obtain ⟨hbp, hd, hlen, hnx, hxx⟩ := hok.at he
  unfold okX at hxx
  rw [hi] at hd hlen hnx hxx
  have hlen := hlen rfl
  have hnx := hnx rfl
  rw [hlen] at hd hnx
  rw [hbp]
  rw [hnx] at k
  exact lv_pop hx hb hd (by rw [cv_cat]; exact hv) (k LS hl)
theorem S_dup {M : Mth} {d ip : Nat} {p : Program} {l : Launch} {e : Env} {R : Room} {s : State} {m : MethodId} {args : Array Value} {below : List Frame} {meth : Method} {c : Code} {U0 : State} {a0 : Array Value} {D : va_G} {pre : Nat → Nat} (cx : CX M d p l e R s m args below meth c U0 a0 D pre) {en : Ent} (he : (mT M)[ip]? = some en) {ls : LV} {st : List AV} {H : Heap} {locs : List Loc} {cells slots : Nat} {Qf : State → Prop} {LS : Array Slot} (hl : lvR (sg U0 pre) LS (mL M) ls) {v : AV} (hv : ac v = 1) (hi : eI en = .dup) (k : ∀ LS' : Array Slot, lvR (sg U0 pre) LS' (mL M) (ls) → W p l e R s m args below meth c H locs cells slots Qf (F0 m (bp M (eN en)) LS' ((v :: v :: st).map (cv (sg U0 pre))))) : W p l e R s m args below meth c H locs cells slots Qf (F0 m (bp M ip) LS ((v :: st).map (cv (sg U0 pre)))) := by
  obtain ⟨⟨hg, hK, hpre, hZ⟩, hx, hb, hml, hr, hlk, hnm, hown, hW, hfr, hlo, hok⟩ := cx
  obtain ⟨hbp, hd, hlen, hnx, hxx⟩ := hok.at he
  unfold okX at hxx
  rw [hi] at hd hlen hnx hxx
  have hlen := hlen rfl
  have hnx := hnx rfl
  rw [hlen] at hd hnx
  rw [hbp]
  rw [hnx] at k
  exact lv_dup hx hb hd (by rw [cv_cat]; exact hv) (k LS hl)
theorem S_dup_x1 {M : Mth} {d ip : Nat} {p : Program} {l : Launch} {e : Env} {R : Room} {s : State} {m : MethodId} {args : Array Value} {below : List Frame} {meth : Method} {c : Code} {U0 : State} {a0 : Array Value} {D : va_G} {pre : Nat → Nat} (cx : CX M d p l e R s m args below meth c U0 a0 D pre) {en : Ent} (he : (mT M)[ip]? = some en) {ls : LV} {st : List AV} {H : Heap} {locs : List Loc} {cells slots : Nat} {Qf : State → Prop} {LS : Array Slot} (hl : lvR (sg U0 pre) LS (mL M) ls) {v u : AV} (hv : ac v = 1) (hu : ac u = 1) (hi : eI en = .dup_x1) (k : ∀ LS' : Array Slot, lvR (sg U0 pre) LS' (mL M) (ls) → W p l e R s m args below meth c H locs cells slots Qf (F0 m (bp M (eN en)) LS' ((v :: u :: v :: st).map (cv (sg U0 pre))))) : W p l e R s m args below meth c H locs cells slots Qf (F0 m (bp M ip) LS ((v :: u :: st).map (cv (sg U0 pre)))) := by
  obtain ⟨⟨hg, hK, hpre, hZ⟩, hx, hb, hml, hr, hlk, hnm, hown, hW, hfr, hlo, hok⟩ := cx
  obtain ⟨hbp, hd, hlen, hnx, hxx⟩ := hok.at he
  unfold okX at hxx
  rw [hi] at hd hlen hnx hxx
  have hlen := hlen rfl
  have hnx := hnx rfl
  rw [hlen] at hd hnx
  rw [hbp]
  rw [hnx] at k
  exact lv_dup_x1 hx hb hd (by rw [cv_cat]; exact hv) (by rw [cv_cat]; exact hu) (k LS hl)
theorem S_dup_x2 {M : Mth} {d ip : Nat} {p : Program} {l : Launch} {e : Env} {R : Room} {s : State} {m : MethodId} {args : Array Value} {below : List Frame} {meth : Method} {c : Code} {U0 : State} {a0 : Array Value} {D : va_G} {pre : Nat → Nat} (cx : CX M d p l e R s m args below meth c U0 a0 D pre) {en : Ent} (he : (mT M)[ip]? = some en) {ls : LV} {st : List AV} {H : Heap} {locs : List Loc} {cells slots : Nat} {Qf : State → Prop} {LS : Array Slot} (hl : lvR (sg U0 pre) LS (mL M) ls) {v u t : AV} (hv : ac v = 1) (hu : ac u = 1) (ht : ac t = 1) (hi : eI en = .dup_x2) (k : ∀ LS' : Array Slot, lvR (sg U0 pre) LS' (mL M) (ls) → W p l e R s m args below meth c H locs cells slots Qf (F0 m (bp M (eN en)) LS' ((v :: u :: t :: v :: st).map (cv (sg U0 pre))))) : W p l e R s m args below meth c H locs cells slots Qf (F0 m (bp M ip) LS ((v :: u :: t :: st).map (cv (sg U0 pre)))) := by
  obtain ⟨⟨hg, hK, hpre, hZ⟩, hx, hb, hml, hr, hlk, hnm, hown, hW, hfr, hlo, hok⟩ := cx
  obtain ⟨hbp, hd, hlen, hnx, hxx⟩ := hok.at he
  unfold okX at hxx
  rw [hi] at hd hlen hnx hxx
  have hlen := hlen rfl
  have hnx := hnx rfl
  rw [hlen] at hd hnx
  rw [hbp]
  rw [hnx] at k
  exact lv_dup_x2 hx hb hd (by rw [cv_cat]; exact hv) (by rw [cv_cat]; exact hu) (by rw [cv_cat]; exact ht) (k LS hl)
theorem S_dup2 {M : Mth} {d ip : Nat} {p : Program} {l : Launch} {e : Env} {R : Room} {s : State} {m : MethodId} {args : Array Value} {below : List Frame} {meth : Method} {c : Code} {U0 : State} {a0 : Array Value} {D : va_G} {pre : Nat → Nat} (cx : CX M d p l e R s m args below meth c U0 a0 D pre) {en : Ent} (he : (mT M)[ip]? = some en) {ls : LV} {st : List AV} {H : Heap} {locs : List Loc} {cells slots : Nat} {Qf : State → Prop} {LS : Array Slot} (hl : lvR (sg U0 pre) LS (mL M) ls) {v u : AV} (hv : ac v = 1) (hu : ac u = 1) (hi : eI en = .dup2) (k : ∀ LS' : Array Slot, lvR (sg U0 pre) LS' (mL M) (ls) → W p l e R s m args below meth c H locs cells slots Qf (F0 m (bp M (eN en)) LS' ((v :: u :: v :: u :: st).map (cv (sg U0 pre))))) : W p l e R s m args below meth c H locs cells slots Qf (F0 m (bp M ip) LS ((v :: u :: st).map (cv (sg U0 pre)))) := by
  obtain ⟨⟨hg, hK, hpre, hZ⟩, hx, hb, hml, hr, hlk, hnm, hown, hW, hfr, hlo, hok⟩ := cx
  obtain ⟨hbp, hd, hlen, hnx, hxx⟩ := hok.at he
  unfold okX at hxx
  rw [hi] at hd hlen hnx hxx
  have hlen := hlen rfl
  have hnx := hnx rfl
  rw [hlen] at hd hnx
  rw [hbp]
  rw [hnx] at k
  exact lv_dup2_11 hx hb hd (by rw [cv_cat]; exact hv) (by rw [cv_cat]; exact hu) (k LS hl)
theorem st1_W {M : Mth} {d ip : Nat} {p : Program} {l : Launch} {e : Env} {R : Room} {s : State} {m : MethodId} {args : Array Value} {below : List Frame} {meth : Method} {c : Code} {U0 : State} {a0 : Array Value} {D : va_G} {pre : Nat → Nat} (cx : CX M d p l e R s m args below meth c U0 a0 D pre) {en : Ent} (he : (mT M)[ip]? = some en) {ls : LV} {st : List AV} {H : Heap} {locs : List Loc} {cells slots : Nat} {Qf : State → Prop} {LS : Array Slot} (hl : lvR (sg U0 pre) LS (mL M) ls) {ls' : LV} {st' : List AV} (hs : st1 ls (eI en) st = some (ls', st')) (k : ∀ LS' : Array Slot, lvR (sg U0 pre) LS' (mL M) ls' → W p l e R s m args below meth c H locs cells slots Qf (F0 m (bp M (eN en)) LS' (st'.map (cv (sg U0 pre))))) : W p l e R s m args below meth c H locs cells slots Qf (F0 m (bp M ip) LS (st.map (cv (sg U0 pre)))) := by
  generalize hI : eI en = ins at hs
  unfold st1 at hs
  split at hs
  · cases hs
    exact S_iconst cx he hl hI k
  · cases hs
    exact S_bipush cx he hl hI k
  · cases hs
    exact S_sipush cx he hl hI k
  · cases hs
    exact S_lconst cx he hl hI k
  · split at hs
    · rename_i hv
      cases hs
      exact S_iload cx he hl hv hI k
    · cases hs
  · split at hs
    · rename_i hv
      cases hs
      exact S_iload_n cx he hl hv hI k
    · cases hs
  · split at hs
    · rename_i hv
      cases hs
      exact S_lload cx he hl hv hI k
    · cases hs
  · split at hs
    · rename_i hv
      cases hs
      exact S_lload_n cx he hl hv hI k
    · cases hs
  · split at hs
    · rename_i hv
      cases hs
      exact S_aload cx he hl hv hI k
    · cases hs
  · split at hs
    · rename_i hv
      cases hs
      exact S_aload_n cx he hl hv hI k
    · cases hs
  · cases hs
    exact S_istore cx he hl hI k
  · cases hs
    exact S_istore_n cx he hl hI k
  · cases hs
    exact S_lstore cx he hl hI k
  · cases hs
    exact S_lstore_n cx he hl hI k
  · cases hs
    exact S_astore cx he hl hI k
  · cases hs
    exact S_astore_n cx he hl hI k
  · split at hs
    · rename_i hv
      cases hs
      exact S_iinc cx he hl hv hI k
    · cases hs
  · cases hs
    exact S_iadd cx he hl hI k
  · cases hs
    exact S_isub cx he hl hI k
  · cases hs
    exact S_imul cx he hl hI k
  · cases hs
    exact S_ineg cx he hl hI k
  · cases hs
    exact S_iand cx he hl hI k
  · cases hs
    exact S_ior cx he hl hI k
  · cases hs
    exact S_ixor cx he hl hI k
  · cases hs
    exact S_ishl cx he hl hI k
  · cases hs
    exact S_ishr cx he hl hI k
  · cases hs
    exact S_iushr cx he hl hI k
  · cases hs
    exact S_ladd cx he hl hI k
  · cases hs
    exact S_lsub cx he hl hI k
  · cases hs
    exact S_lmul cx he hl hI k
  · cases hs
    exact S_l2i cx he hl hI k
  · split at hs
    · rename_i hv
      cases hs
      exact S_pop cx he hl hv hI k
    · cases hs
  · split at hs
    · rename_i hv
      cases hs
      exact S_dup cx he hl hv hI k
    · cases hs
  · split at hs
    · rename_i hv hu
      cases hs
      exact S_dup_x1 cx he hl hv hu hI k
    · cases hs
  · split at hs
    · rename_i hv hu ht
      cases hs
      exact S_dup_x2 cx he hl hv hu ht hI k
    · cases hs
  · split at hs
    · rename_i hv hu
      cases hs
      exact S_dup2 cx he hl hv hu hI k
    · cases hs
  · cases hs
theorem WP_s {M : Mth} {d ip : Nat} {ls ls' : LV} {st st' : List AV} {h : Hp} {Q : Option AV → Hp → Prop} {en : Ent} (he : (mT M)[ip]? = some en) (hs : st1 ls (eI en) st = some (ls', st')) (k : WP M d (eN en) ls' st' h Q) : WP M d ip ls st h Q :=
  WP_pure (fun p l e R s m args below meth c U0 a0 D pre cx H locs cells slots Qf LS _ hl k => st1_W cx he hl hs k) k
theorem WP_goto {M : Mth} {d ip : Nat} {ls : LV} {st : List AV} {h : Hp} {Q : Option AV → Hp → Prop} {en : Ent} {o : Int} (he : (mT M)[ip]? = some en) (hi : eI en = .goto o) (k : WP M d (eX en) ls st h Q) : WP M d ip ls st h Q := by
  refine WP_pure (fun p l e R s m args below meth c U0 a0 D pre cx H locs cells slots Qf LS _ hl k => ?_) k
  obtain ⟨⟨hg, hK, hpre, hZ⟩, hx, hb, hml, hr, hlk, hnm, hown, hW, hfr, hlo, hok⟩ := cx
  obtain ⟨hbp, hd, hlen, hnx, hxx⟩ := hok.at he
  unfold okX at hxx
  rw [hi] at hd hlen hnx hxx
  rw [hlen rfl] at hd
  rw [hbp]
  exact lv_goto hx hb hd (of_decide_eq_true hxx) (k LS hl)
/-- runs n instructions of these, and gotos -/
def ex (M : Mth) : Nat → Nat → LV → List AV → Option (Nat × LV × List AV)
  | 0, ip, ls, st => some (ip, ls, st)
  | n + 1, ip, ls, st => match (mT M)[ip]? with
    | none => none
    | some e => match eI e with
      | .goto _ => ex M n (eX e) ls st
      | i => match st1 ls i st with
        | some (ls', st') => ex M n (eN e) ls' st'
        | none => none
theorem WP_n {M : Mth} {d : Nat} {h : Hp} {Q : Option AV → Hp → Prop} : ∀ (n : Nat) {ip ip' : Nat} {ls ls' : LV} {st st' : List AV}, ex M n ip ls st = some (ip', ls', st') → WP M d ip' ls' st' h Q → WP M d ip ls st h Q
  | 0, ip, ip', ls, ls', st, st', he, k => by
    cases he
    exact k
  | n + 1, ip, ip', ls, ls', st, st', he, k => by
    unfold ex at he
    split at he
    · cases he
    · rename_i e h1
      split at he
      · rename_i o h2
        exact WP_goto h1 h2 (WP_n n he k)
      · split at he
        · rename_i ls1 st1 h3
          exact WP_s h1 h3 (WP_n n he k)
        · cases he
end
section
/-! numbers in range; branches, divisions, long numbers, constants, returns -/
theorem i32_toInt {x : Int} (h : inR x) : (Int32.ofInt x).toInt = x := Int32.toInt_ofInt_of_le (by have := h.1; omega) (by have := h.2; omega)
theorem i32_lt {x y : Int} (hx : inR x) (hy : inR y) : Int32.ofInt x < Int32.ofInt y ↔ x < y := by rw [Int32.lt_iff_toInt_lt, i32_toInt hx, i32_toInt hy]
theorem i32_le {x y : Int} (hx : inR x) (hy : inR y) : Int32.ofInt x ≤ Int32.ofInt y ↔ x ≤ y := by rw [Int32.le_iff_toInt_le, i32_toInt hx, i32_toInt hy]
theorem i32_eq {x y : Int} (hx : inR x) (hy : inR y) : Int32.ofInt x = Int32.ofInt y ↔ x = y := by rw [← Int32.toInt_inj, i32_toInt hx, i32_toInt hy]
theorem inR0 : inR 0 := ⟨by decide, by decide⟩
def inL (x : Int) : Prop := -9223372036854775808 ≤ x ∧ x ≤ 9223372036854775807
theorem i64_toInt {x : Int} (h : inL x) : (Int64.ofInt x).toInt = x := Int64.toInt_ofInt_of_le (by have := h.1; omega) (by have := h.2; omega)
theorem i32_nat {x : Int} (h0 : 0 ≤ x) (h : x ≤ 2147483647) : (Int32.ofInt x).toNatClampNeg = x.toNat := by
  show (Int32.ofInt x).toInt.toNat = x.toNat
  rw [i32_toInt ⟨by omega, h⟩]
theorem i32_nn {x : Int} (h0 : 0 ≤ x) (h : x ≤ 2147483647) : ¬ Int32.ofInt x < 0 := by
  have e : (0 : Int32) = Int32.ofInt 0 := rfl
  rw [e, i32_lt ⟨by omega, h⟩ inR0]
  omega
theorem i32_div {x y : Int} (h0 : 0 ≤ x) (h1 : x ≤ 2147483647) (h2 : 0 < y) (h3 : y ≤ 2147483647) : Int32.ofInt x / Int32.ofInt y = Int32.ofInt (x / y) := by
  have e : x / y = x.tdiv y := (Int.tdiv_eq_ediv_of_nonneg h0).symm
  have hb : 0 ≤ x / y ∧ x / y ≤ x := ⟨Int.ediv_nonneg h0 (by omega), Int.ediv_le_self y h0⟩
  apply Int32.toInt_inj.mp
  rw [Int32.toInt_div_of_ne_right, i32_toInt ⟨by omega, h1⟩, i32_toInt ⟨by omega, h3⟩, i32_toInt ⟨by omega, by omega⟩, e]
  intro q
  have e2 : (-1 : Int32) = Int32.ofInt (-1) := rfl
  rw [e2, i32_eq ⟨by omega, h3⟩ ⟨by decide, by decide⟩] at q
  omega
theorem i32_rem {x y : Int} (h0 : 0 ≤ x) (h1 : x ≤ 2147483647) (h2 : 0 < y) (h3 : y ≤ 2147483647) : Int32.ofInt x - Int32.ofInt x / Int32.ofInt y * Int32.ofInt y = Int32.ofInt (x % y) := by
  rw [i32_div h0 h1 h2 h3, o_mul, o_sub]
  congr 1
  rw [Int.emod_def, Int.mul_comm]
theorem i64_div {x y : Int} (h0 : 0 ≤ x) (h1 : x ≤ 9223372036854775807) (h2 : 0 < y) (h3 : y ≤ 9223372036854775807) : Int64.ofInt x / Int64.ofInt y = Int64.ofInt (x / y) := by
  have e : x / y = x.tdiv y := (Int.tdiv_eq_ediv_of_nonneg h0).symm
  have hb : 0 ≤ x / y ∧ x / y ≤ x := ⟨Int.ediv_nonneg h0 (by omega), Int.ediv_le_self y h0⟩
  apply Int64.toInt_inj.mp
  rw [Int64.toInt_div_of_ne_right, i64_toInt ⟨by omega, h1⟩, i64_toInt ⟨by omega, h3⟩, i64_toInt ⟨by omega, by omega⟩, e]
  intro q
  have e2 : (-1 : Int64) = Int64.ofInt (-1) := rfl
  rw [e2, ← Int64.toInt_inj, i64_toInt ⟨by omega, h3⟩, i64_toInt ⟨by decide, by decide⟩] at q
  omega
theorem i64_rem {x y : Int} (h0 : 0 ≤ x) (h1 : x ≤ 9223372036854775807) (h2 : 0 < y) (h3 : y ≤ 9223372036854775807) : Int64.ofInt x - Int64.ofInt x / Int64.ofInt y * Int64.ofInt y = Int64.ofInt (x % y) := by
  rw [i64_div h0 h1 h2 h3, q_mul, q_sub]
  congr 1
  rw [Int.emod_def, Int.mul_comm]
theorem i64_of {x : Int} (h : inR x) : (Int32.ofInt x).toInt64 = Int64.ofInt x := Int32.toInt64_ofInt (by have := h.1; show -2147483648 ≤ x; omega) (by have := h.2; show x ≤ 2147483647; omega)
def cmpI (x y : Int) : Int := if y < x then 1 else if x = y then 0 else -1
theorem i64_cmp {x y : Int} (hx : inL x) (hy : inL y) : lg_cmp (Int64.ofInt x) (Int64.ofInt y) = Int32.ofInt (cmpI x y) := by
  have h1 : (Int64.ofInt x > Int64.ofInt y) ↔ y < x := by show Int64.ofInt y < Int64.ofInt x ↔ _; rw [Int64.lt_iff_toInt_lt, i64_toInt hx, i64_toInt hy]
  have h2 : (Int64.ofInt x = Int64.ofInt y) ↔ x = y := by rw [← Int64.toInt_inj, i64_toInt hx, i64_toInt hy]
  unfold lg_cmp cmpI
  by_cases a : y < x
  · rw [if_pos (h1.mpr a), if_pos a]; rfl
  · rw [if_neg (fun q => a (h1.mp q)), if_neg a]
    by_cases b : x = y
    · rw [if_pos (h2.mpr b), if_pos b]; rfl
    · rw [if_neg (fun q => b (h2.mp q)), if_neg b]; rfl

theorem WP_br {M : Mth} {d ip i1 i2 : Nat} {ls : LV} {st st' : List AV} {h : Hp} {Q : Option AV → Hp → Prop} {cnd : Prop}
    (H1 : ∀ (p : Program) (l : Launch) (e : Env) (R : Room) (s : State) (m : MethodId) (args : Array Value) (below : List Frame) (meth : Method) (c : Code) (U0 : State) (a0 : Array Value) (D : va_G) (pre : Nat → Nat), CX M d p l e R s m args below meth c U0 a0 D pre → ∀ (H : Heap) (locs : List Loc) (cells slots : Nat) (Qf : State → Prop) (LS : Array Slot), lvR (sg U0 pre) LS (mL M) ls → (cnd → W p l e R s m args below meth c H locs cells slots Qf (F0 m (bp M i1) LS (st'.map (cv (sg U0 pre))))) → (¬ cnd → W p l e R s m args below meth c H locs cells slots Qf (F0 m (bp M i2) LS (st'.map (cv (sg U0 pre))))) → W p l e R s m args below meth c H locs cells slots Qf (F0 m (bp M ip) LS (st.map (cv (sg U0 pre)))))
    (kt : cnd → WP M d i1 ls st' h Q) (kf : ¬ cnd → WP M d i2 ls st' h Q) : WP M d ip ls st h Q := by
  by_cases hc : cnd
  · exact WP_pure (fun p l e R s m args below meth c U0 a0 D pre cx H locs cells slots Qf LS _ hl k => H1 p l e R s m args below meth c U0 a0 D pre cx H locs cells slots Qf LS hl (fun _ => k LS hl) (fun q => absurd hc q)) (kt hc)
  · exact WP_pure (fun p l e R s m args below meth c U0 a0 D pre cx H locs cells slots Qf LS _ hl k => H1 p l e R s m args below meth c U0 a0 D pre cx H locs cells slots Qf LS hl (fun q => absurd q hc) (fun _ => k LS hl)) (kf hc)
theorem WP_ifeq {M : Mth} {d ip : Nat} {ls : LV} {st : List AV} {h : Hp} {Q : Option AV → Hp → Prop} {en : Ent} (he : (mT M)[ip]? = some en) {o : Int} (hi : eI en = .ifCond .eq o) {x : Int} (h1 : inR x) (kt : x = 0 → WP M d (eX en) ls st h Q) (kf : ¬ (x = 0) → WP M d (eN en) ls st h Q) : WP M d ip ls (vi x :: st) h Q := by
  refine WP_br (fun p l e R s m args below meth c U0 a0 D pre cx H locs cells slots Qf LS hl kt kf => ?_) kt kf
  obtain ⟨⟨hg, hK, hpre, hZ⟩, hx, hb, hml, hr, hlk, hnm, hown, hW, hfr, hlo, hok⟩ := cx
  obtain ⟨hbp, hd, hlen, hnx, hxx⟩ := hok.at he
  unfold okX at hxx
  rw [hi] at hd hlen hnx hxx
  have hlen := hlen rfl
  have hnx := hnx rfl
  rw [hlen] at hd hnx
  rw [hbp]
  rw [hnx] at kf
  exact lv_if_eq (x := Int32.ofInt x) hx hb hd (of_decide_eq_true hxx) (fun q => kt ((i32_eq h1 inR0).mp q)) (fun q => kf (fun z => q ((i32_eq h1 inR0).mpr z)))
theorem WP_icmpeq {M : Mth} {d ip : Nat} {ls : LV} {st : List AV} {h : Hp} {Q : Option AV → Hp → Prop} {en : Ent} (he : (mT M)[ip]? = some en) {o : Int} (hi : eI en = .if_icmp .eq o) {x y : Int} (h1 : inR x) (h2 : inR y) (kt : x = y → WP M d (eX en) ls st h Q) (kf : ¬ (x = y) → WP M d (eN en) ls st h Q) : WP M d ip ls (vi y :: vi x :: st) h Q := by
  refine WP_br (fun p l e R s m args below meth c U0 a0 D pre cx H locs cells slots Qf LS hl kt kf => ?_) kt kf
  obtain ⟨⟨hg, hK, hpre, hZ⟩, hx, hb, hml, hr, hlk, hnm, hown, hW, hfr, hlo, hok⟩ := cx
  obtain ⟨hbp, hd, hlen, hnx, hxx⟩ := hok.at he
  unfold okX at hxx
  rw [hi] at hd hlen hnx hxx
  have hlen := hlen rfl
  have hnx := hnx rfl
  rw [hlen] at hd hnx
  rw [hbp]
  rw [hnx] at kf
  exact lv_icmp_eq (x := Int32.ofInt x) (y := Int32.ofInt y) hx hb hd (of_decide_eq_true hxx) (fun q => kt ((i32_eq h1 h2).mp q)) (fun q => kf (fun z => q ((i32_eq h1 h2).mpr z)))
theorem WP_ifne {M : Mth} {d ip : Nat} {ls : LV} {st : List AV} {h : Hp} {Q : Option AV → Hp → Prop} {en : Ent} (he : (mT M)[ip]? = some en) {o : Int} (hi : eI en = .ifCond .ne o) {x : Int} (h1 : inR x) (kt : x ≠ 0 → WP M d (eX en) ls st h Q) (kf : ¬ (x ≠ 0) → WP M d (eN en) ls st h Q) : WP M d ip ls (vi x :: st) h Q := by
  refine WP_br (fun p l e R s m args below meth c U0 a0 D pre cx H locs cells slots Qf LS hl kt kf => ?_) kt kf
  obtain ⟨⟨hg, hK, hpre, hZ⟩, hx, hb, hml, hr, hlk, hnm, hown, hW, hfr, hlo, hok⟩ := cx
  obtain ⟨hbp, hd, hlen, hnx, hxx⟩ := hok.at he
  unfold okX at hxx
  rw [hi] at hd hlen hnx hxx
  have hlen := hlen rfl
  have hnx := hnx rfl
  rw [hlen] at hd hnx
  rw [hbp]
  rw [hnx] at kf
  exact lv_if_ne (x := Int32.ofInt x) hx hb hd (of_decide_eq_true hxx) (fun q => kt (fun z => q ((i32_eq h1 inR0).mpr z))) (fun q => kf (fun z => z ((i32_eq h1 inR0).mp q)))
theorem WP_icmpne {M : Mth} {d ip : Nat} {ls : LV} {st : List AV} {h : Hp} {Q : Option AV → Hp → Prop} {en : Ent} (he : (mT M)[ip]? = some en) {o : Int} (hi : eI en = .if_icmp .ne o) {x y : Int} (h1 : inR x) (h2 : inR y) (kt : x ≠ y → WP M d (eX en) ls st h Q) (kf : ¬ (x ≠ y) → WP M d (eN en) ls st h Q) : WP M d ip ls (vi y :: vi x :: st) h Q := by
  refine WP_br (fun p l e R s m args below meth c U0 a0 D pre cx H locs cells slots Qf LS hl kt kf => ?_) kt kf
  obtain ⟨⟨hg, hK, hpre, hZ⟩, hx, hb, hml, hr, hlk, hnm, hown, hW, hfr, hlo, hok⟩ := cx
  obtain ⟨hbp, hd, hlen, hnx, hxx⟩ := hok.at he
  unfold okX at hxx
  rw [hi] at hd hlen hnx hxx
  have hlen := hlen rfl
  have hnx := hnx rfl
  rw [hlen] at hd hnx
  rw [hbp]
  rw [hnx] at kf
  exact lv_icmp_ne (x := Int32.ofInt x) (y := Int32.ofInt y) hx hb hd (of_decide_eq_true hxx) (fun q => kt (fun z => q ((i32_eq h1 h2).mpr z))) (fun q => kf (fun z => z ((i32_eq h1 h2).mp q)))
theorem WP_iflt {M : Mth} {d ip : Nat} {ls : LV} {st : List AV} {h : Hp} {Q : Option AV → Hp → Prop} {en : Ent} (he : (mT M)[ip]? = some en) {o : Int} (hi : eI en = .ifCond .lt o) {x : Int} (h1 : inR x) (kt : x < 0 → WP M d (eX en) ls st h Q) (kf : ¬ (x < 0) → WP M d (eN en) ls st h Q) : WP M d ip ls (vi x :: st) h Q := by
  refine WP_br (fun p l e R s m args below meth c U0 a0 D pre cx H locs cells slots Qf LS hl kt kf => ?_) kt kf
  obtain ⟨⟨hg, hK, hpre, hZ⟩, hx, hb, hml, hr, hlk, hnm, hown, hW, hfr, hlo, hok⟩ := cx
  obtain ⟨hbp, hd, hlen, hnx, hxx⟩ := hok.at he
  unfold okX at hxx
  rw [hi] at hd hlen hnx hxx
  have hlen := hlen rfl
  have hnx := hnx rfl
  rw [hlen] at hd hnx
  rw [hbp]
  rw [hnx] at kf
  exact lv_if_lt (x := Int32.ofInt x) hx hb hd (of_decide_eq_true hxx) (fun q => kt ((i32_lt h1 inR0).mp q)) (fun q => kf (fun z => q ((i32_lt h1 inR0).mpr z)))
theorem WP_icmplt {M : Mth} {d ip : Nat} {ls : LV} {st : List AV} {h : Hp} {Q : Option AV → Hp → Prop} {en : Ent} (he : (mT M)[ip]? = some en) {o : Int} (hi : eI en = .if_icmp .lt o) {x y : Int} (h1 : inR x) (h2 : inR y) (kt : x < y → WP M d (eX en) ls st h Q) (kf : ¬ (x < y) → WP M d (eN en) ls st h Q) : WP M d ip ls (vi y :: vi x :: st) h Q := by
  refine WP_br (fun p l e R s m args below meth c U0 a0 D pre cx H locs cells slots Qf LS hl kt kf => ?_) kt kf
  obtain ⟨⟨hg, hK, hpre, hZ⟩, hx, hb, hml, hr, hlk, hnm, hown, hW, hfr, hlo, hok⟩ := cx
  obtain ⟨hbp, hd, hlen, hnx, hxx⟩ := hok.at he
  unfold okX at hxx
  rw [hi] at hd hlen hnx hxx
  have hlen := hlen rfl
  have hnx := hnx rfl
  rw [hlen] at hd hnx
  rw [hbp]
  rw [hnx] at kf
  exact lv_icmp_lt (x := Int32.ofInt x) (y := Int32.ofInt y) hx hb hd (of_decide_eq_true hxx) (fun q => kt ((i32_lt h1 h2).mp q)) (fun q => kf (fun z => q ((i32_lt h1 h2).mpr z)))
theorem WP_ifge {M : Mth} {d ip : Nat} {ls : LV} {st : List AV} {h : Hp} {Q : Option AV → Hp → Prop} {en : Ent} (he : (mT M)[ip]? = some en) {o : Int} (hi : eI en = .ifCond .ge o) {x : Int} (h1 : inR x) (kt : 0 ≤ x → WP M d (eX en) ls st h Q) (kf : ¬ (0 ≤ x) → WP M d (eN en) ls st h Q) : WP M d ip ls (vi x :: st) h Q := by
  refine WP_br (fun p l e R s m args below meth c U0 a0 D pre cx H locs cells slots Qf LS hl kt kf => ?_) kt kf
  obtain ⟨⟨hg, hK, hpre, hZ⟩, hx, hb, hml, hr, hlk, hnm, hown, hW, hfr, hlo, hok⟩ := cx
  obtain ⟨hbp, hd, hlen, hnx, hxx⟩ := hok.at he
  unfold okX at hxx
  rw [hi] at hd hlen hnx hxx
  have hlen := hlen rfl
  have hnx := hnx rfl
  rw [hlen] at hd hnx
  rw [hbp]
  rw [hnx] at kf
  exact lv_if_ge (x := Int32.ofInt x) hx hb hd (of_decide_eq_true hxx) (fun q => kt ((i32_le inR0 h1).mp q)) (fun q => kf (fun z => q ((i32_le inR0 h1).mpr z)))
theorem WP_icmpge {M : Mth} {d ip : Nat} {ls : LV} {st : List AV} {h : Hp} {Q : Option AV → Hp → Prop} {en : Ent} (he : (mT M)[ip]? = some en) {o : Int} (hi : eI en = .if_icmp .ge o) {x y : Int} (h1 : inR x) (h2 : inR y) (kt : y ≤ x → WP M d (eX en) ls st h Q) (kf : ¬ (y ≤ x) → WP M d (eN en) ls st h Q) : WP M d ip ls (vi y :: vi x :: st) h Q := by
  refine WP_br (fun p l e R s m args below meth c U0 a0 D pre cx H locs cells slots Qf LS hl kt kf => ?_) kt kf
  obtain ⟨⟨hg, hK, hpre, hZ⟩, hx, hb, hml, hr, hlk, hnm, hown, hW, hfr, hlo, hok⟩ := cx
  obtain ⟨hbp, hd, hlen, hnx, hxx⟩ := hok.at he
  unfold okX at hxx
  rw [hi] at hd hlen hnx hxx
  have hlen := hlen rfl
  have hnx := hnx rfl
  rw [hlen] at hd hnx
  rw [hbp]
  rw [hnx] at kf
  exact lv_icmp_ge (x := Int32.ofInt x) (y := Int32.ofInt y) hx hb hd (of_decide_eq_true hxx) (fun q => kt ((i32_le h2 h1).mp q)) (fun q => kf (fun z => q ((i32_le h2 h1).mpr z)))
theorem WP_ifgt {M : Mth} {d ip : Nat} {ls : LV} {st : List AV} {h : Hp} {Q : Option AV → Hp → Prop} {en : Ent} (he : (mT M)[ip]? = some en) {o : Int} (hi : eI en = .ifCond .gt o) {x : Int} (h1 : inR x) (kt : 0 < x → WP M d (eX en) ls st h Q) (kf : ¬ (0 < x) → WP M d (eN en) ls st h Q) : WP M d ip ls (vi x :: st) h Q := by
  refine WP_br (fun p l e R s m args below meth c U0 a0 D pre cx H locs cells slots Qf LS hl kt kf => ?_) kt kf
  obtain ⟨⟨hg, hK, hpre, hZ⟩, hx, hb, hml, hr, hlk, hnm, hown, hW, hfr, hlo, hok⟩ := cx
  obtain ⟨hbp, hd, hlen, hnx, hxx⟩ := hok.at he
  unfold okX at hxx
  rw [hi] at hd hlen hnx hxx
  have hlen := hlen rfl
  have hnx := hnx rfl
  rw [hlen] at hd hnx
  rw [hbp]
  rw [hnx] at kf
  exact lv_if_gt (x := Int32.ofInt x) hx hb hd (of_decide_eq_true hxx) (fun q => kt ((i32_lt inR0 h1).mp q)) (fun q => kf (fun z => q ((i32_lt inR0 h1).mpr z)))
theorem WP_icmpgt {M : Mth} {d ip : Nat} {ls : LV} {st : List AV} {h : Hp} {Q : Option AV → Hp → Prop} {en : Ent} (he : (mT M)[ip]? = some en) {o : Int} (hi : eI en = .if_icmp .gt o) {x y : Int} (h1 : inR x) (h2 : inR y) (kt : y < x → WP M d (eX en) ls st h Q) (kf : ¬ (y < x) → WP M d (eN en) ls st h Q) : WP M d ip ls (vi y :: vi x :: st) h Q := by
  refine WP_br (fun p l e R s m args below meth c U0 a0 D pre cx H locs cells slots Qf LS hl kt kf => ?_) kt kf
  obtain ⟨⟨hg, hK, hpre, hZ⟩, hx, hb, hml, hr, hlk, hnm, hown, hW, hfr, hlo, hok⟩ := cx
  obtain ⟨hbp, hd, hlen, hnx, hxx⟩ := hok.at he
  unfold okX at hxx
  rw [hi] at hd hlen hnx hxx
  have hlen := hlen rfl
  have hnx := hnx rfl
  rw [hlen] at hd hnx
  rw [hbp]
  rw [hnx] at kf
  exact lv_icmp_gt (x := Int32.ofInt x) (y := Int32.ofInt y) hx hb hd (of_decide_eq_true hxx) (fun q => kt ((i32_lt h2 h1).mp q)) (fun q => kf (fun z => q ((i32_lt h2 h1).mpr z)))
theorem WP_ifle {M : Mth} {d ip : Nat} {ls : LV} {st : List AV} {h : Hp} {Q : Option AV → Hp → Prop} {en : Ent} (he : (mT M)[ip]? = some en) {o : Int} (hi : eI en = .ifCond .le o) {x : Int} (h1 : inR x) (kt : x ≤ 0 → WP M d (eX en) ls st h Q) (kf : ¬ (x ≤ 0) → WP M d (eN en) ls st h Q) : WP M d ip ls (vi x :: st) h Q := by
  refine WP_br (fun p l e R s m args below meth c U0 a0 D pre cx H locs cells slots Qf LS hl kt kf => ?_) kt kf
  obtain ⟨⟨hg, hK, hpre, hZ⟩, hx, hb, hml, hr, hlk, hnm, hown, hW, hfr, hlo, hok⟩ := cx
  obtain ⟨hbp, hd, hlen, hnx, hxx⟩ := hok.at he
  unfold okX at hxx
  rw [hi] at hd hlen hnx hxx
  have hlen := hlen rfl
  have hnx := hnx rfl
  rw [hlen] at hd hnx
  rw [hbp]
  rw [hnx] at kf
  exact lv_if_le (x := Int32.ofInt x) hx hb hd (of_decide_eq_true hxx) (fun q => kt ((i32_le h1 inR0).mp q)) (fun q => kf (fun z => q ((i32_le h1 inR0).mpr z)))
theorem WP_icmple {M : Mth} {d ip : Nat} {ls : LV} {st : List AV} {h : Hp} {Q : Option AV → Hp → Prop} {en : Ent} (he : (mT M)[ip]? = some en) {o : Int} (hi : eI en = .if_icmp .le o) {x y : Int} (h1 : inR x) (h2 : inR y) (kt : x ≤ y → WP M d (eX en) ls st h Q) (kf : ¬ (x ≤ y) → WP M d (eN en) ls st h Q) : WP M d ip ls (vi y :: vi x :: st) h Q := by
  refine WP_br (fun p l e R s m args below meth c U0 a0 D pre cx H locs cells slots Qf LS hl kt kf => ?_) kt kf
  obtain ⟨⟨hg, hK, hpre, hZ⟩, hx, hb, hml, hr, hlk, hnm, hown, hW, hfr, hlo, hok⟩ := cx
  obtain ⟨hbp, hd, hlen, hnx, hxx⟩ := hok.at he
  unfold okX at hxx
  rw [hi] at hd hlen hnx hxx
  have hlen := hlen rfl
  have hnx := hnx rfl
  rw [hlen] at hd hnx
  rw [hbp]
  rw [hnx] at kf
  exact lv_icmp_le (x := Int32.ofInt x) (y := Int32.ofInt y) hx hb hd (of_decide_eq_true hxx) (fun q => kt ((i32_le h1 h2).mp q)) (fun q => kf (fun z => q ((i32_le h1 h2).mpr z)))
theorem WP_idiv {M : Mth} {d ip : Nat} {ls : LV} {st : List AV} {h : Hp} {Q : Option AV → Hp → Prop} {en : Ent} (he : (mT M)[ip]? = some en) {x y : Int} (h0 : 0 ≤ x) (h1 : x ≤ 2147483647) (h2 : 0 < y) (h3 : y ≤ 2147483647) (hi : eI en = .idiv) (k : WP M d (eN en) ls (vi (x / y) :: st) h Q) : WP M d ip ls (vi y :: vi x :: st) h Q := by
  refine WP_pure (fun p l e R s m args below meth c U0 a0 D pre cx H locs cells slots Qf LS _ hl k => ?_) k
  obtain ⟨⟨hg, hK, hpre, hZ⟩, hx, hb, hml, hr, hlk, hnm, hown, hW, hfr, hlo, hok⟩ := cx
  obtain ⟨hbp, hd, hlen, hnx, hxx⟩ := hok.at he
  unfold okX at hxx
  rw [hi] at hd hlen hnx hxx
  have hlen := hlen rfl
  have hnx := hnx rfl
  rw [hlen] at hd hnx
  rw [hbp]
  rw [hnx] at k
  refine lv_idiv (x := Int32.ofInt x) (y := Int32.ofInt y) hx hb hd (fun q => by
    have e0 : (0 : Int32) = Int32.ofInt 0 := rfl
    rw [e0, i32_eq ⟨by omega, h3⟩ inR0] at q
    omega) ?_
  rw [i32_div h0 h1 h2 h3]
  exact k LS hl
theorem WP_irem {M : Mth} {d ip : Nat} {ls : LV} {st : List AV} {h : Hp} {Q : Option AV → Hp → Prop} {en : Ent} (he : (mT M)[ip]? = some en) {x y : Int} (h0 : 0 ≤ x) (h1 : x ≤ 2147483647) (h2 : 0 < y) (h3 : y ≤ 2147483647) (hi : eI en = .irem) (k : WP M d (eN en) ls (vi (x % y) :: st) h Q) : WP M d ip ls (vi y :: vi x :: st) h Q := by
  refine WP_pure (fun p l e R s m args below meth c U0 a0 D pre cx H locs cells slots Qf LS _ hl k => ?_) k
  obtain ⟨⟨hg, hK, hpre, hZ⟩, hx, hb, hml, hr, hlk, hnm, hown, hW, hfr, hlo, hok⟩ := cx
  obtain ⟨hbp, hd, hlen, hnx, hxx⟩ := hok.at he
  unfold okX at hxx
  rw [hi] at hd hlen hnx hxx
  have hlen := hlen rfl
  have hnx := hnx rfl
  rw [hlen] at hd hnx
  rw [hbp]
  rw [hnx] at k
  refine lv_irem (x := Int32.ofInt x) (y := Int32.ofInt y) hx hb hd (fun q => by
    have e0 : (0 : Int32) = Int32.ofInt 0 := rfl
    rw [e0, i32_eq ⟨by omega, h3⟩ inR0] at q
    omega) ?_
  rw [i32_rem h0 h1 h2 h3]
  exact k LS hl
theorem WP_ldiv {M : Mth} {d ip : Nat} {ls : LV} {st : List AV} {h : Hp} {Q : Option AV → Hp → Prop} {en : Ent} (he : (mT M)[ip]? = some en) {x y : Int} (h0 : 0 ≤ x) (h1 : x ≤ 9223372036854775807) (h2 : 0 < y) (h3 : y ≤ 9223372036854775807) (hi : eI en = .ldiv) (k : WP M d (eN en) ls (vl (x / y) :: st) h Q) : WP M d ip ls (vl y :: vl x :: st) h Q := by
  refine WP_pure (fun p l e R s m args below meth c U0 a0 D pre cx H locs cells slots Qf LS _ hl k => ?_) k
  obtain ⟨⟨hg, hK, hpre, hZ⟩, hx, hb, hml, hr, hlk, hnm, hown, hW, hfr, hlo, hok⟩ := cx
  obtain ⟨hbp, hd, hlen, hnx, hxx⟩ := hok.at he
  unfold okX at hxx
  rw [hi] at hd hlen hnx hxx
  have hlen := hlen rfl
  have hnx := hnx rfl
  rw [hlen] at hd hnx
  rw [hbp]
  rw [hnx] at k
  refine lv_ldiv (x := Int64.ofInt x) (y := Int64.ofInt y) hx hb hd (fun q => by
    have e0 : (0 : Int64) = Int64.ofInt 0 := rfl
    rw [e0, ← Int64.toInt_inj, i64_toInt ⟨by omega, h3⟩, i64_toInt ⟨by decide, by decide⟩] at q
    omega) ?_
  rw [i64_div h0 h1 h2 h3]
  exact k LS hl
theorem WP_lrem {M : Mth} {d ip : Nat} {ls : LV} {st : List AV} {h : Hp} {Q : Option AV → Hp → Prop} {en : Ent} (he : (mT M)[ip]? = some en) {x y : Int} (h0 : 0 ≤ x) (h1 : x ≤ 9223372036854775807) (h2 : 0 < y) (h3 : y ≤ 9223372036854775807) (hi : eI en = .lrem) (k : WP M d (eN en) ls (vl (x % y) :: st) h Q) : WP M d ip ls (vl y :: vl x :: st) h Q := by
  refine WP_pure (fun p l e R s m args below meth c U0 a0 D pre cx H locs cells slots Qf LS _ hl k => ?_) k
  obtain ⟨⟨hg, hK, hpre, hZ⟩, hx, hb, hml, hr, hlk, hnm, hown, hW, hfr, hlo, hok⟩ := cx
  obtain ⟨hbp, hd, hlen, hnx, hxx⟩ := hok.at he
  unfold okX at hxx
  rw [hi] at hd hlen hnx hxx
  have hlen := hlen rfl
  have hnx := hnx rfl
  rw [hlen] at hd hnx
  rw [hbp]
  rw [hnx] at k
  refine lv_lrem (x := Int64.ofInt x) (y := Int64.ofInt y) hx hb hd (fun q => by
    have e0 : (0 : Int64) = Int64.ofInt 0 := rfl
    rw [e0, ← Int64.toInt_inj, i64_toInt ⟨by omega, h3⟩, i64_toInt ⟨by decide, by decide⟩] at q
    omega) ?_
  rw [i64_rem h0 h1 h2 h3]
  exact k LS hl
theorem WP_i2l {M : Mth} {d ip : Nat} {ls : LV} {st : List AV} {h : Hp} {Q : Option AV → Hp → Prop} {en : Ent} (he : (mT M)[ip]? = some en) {x : Int} (h1 : inR x) (hi : eI en = .i2l) (k : WP M d (eN en) ls (vl x :: st) h Q) : WP M d ip ls (vi x :: st) h Q := by
  refine WP_pure (fun p l e R s m args below meth c U0 a0 D pre cx H locs cells slots Qf LS _ hl k => ?_) k
  obtain ⟨⟨hg, hK, hpre, hZ⟩, hx, hb, hml, hr, hlk, hnm, hown, hW, hfr, hlo, hok⟩ := cx
  obtain ⟨hbp, hd, hlen, hnx, hxx⟩ := hok.at he
  unfold okX at hxx
  rw [hi] at hd hlen hnx hxx
  have hlen := hlen rfl
  have hnx := hnx rfl
  rw [hlen] at hd hnx
  rw [hbp]
  rw [hnx] at k
  exact lv_i2l (x := Int32.ofInt x) hx hb hd (i64_of h1) (k LS hl)
theorem WP_lcmp {M : Mth} {d ip : Nat} {ls : LV} {st : List AV} {h : Hp} {Q : Option AV → Hp → Prop} {en : Ent} (he : (mT M)[ip]? = some en) {x y : Int} (h1 : inL x) (h2 : inL y) (hi : eI en = .lcmp) (k : WP M d (eN en) ls (vi (cmpI x y) :: st) h Q) : WP M d ip ls (vl y :: vl x :: st) h Q := by
  refine WP_pure (fun p l e R s m args below meth c U0 a0 D pre cx H locs cells slots Qf LS _ hl k => ?_) k
  obtain ⟨⟨hg, hK, hpre, hZ⟩, hx, hb, hml, hr, hlk, hnm, hown, hW, hfr, hlo, hok⟩ := cx
  obtain ⟨hbp, hd, hlen, hnx, hxx⟩ := hok.at he
  unfold okX at hxx
  rw [hi] at hd hlen hnx hxx
  have hlen := hlen rfl
  have hnx := hnx rfl
  rw [hlen] at hd hnx
  rw [hbp]
  rw [hnx] at k
  refine W.lcmp (x := Int64.ofInt x) (y := Int64.ofInt y) hx hb hd ?_
  rw [i64_cmp h1 h2]
  exact k LS hl
theorem WP_ldc_w {M : Mth} {d ip : Nat} {ls : LV} {st : List AV} {h : Hp} {Q : Option AV → Hp → Prop} {en : Ent} (he : (mT M)[ip]? = some en) {i : Nat} (hi : eI en = .ldc_w i) (k : WP M d (eN en) ls (vi (eX en : Int) :: st) h Q) : WP M d ip ls (st) h Q := by
  refine WP_pure (fun p l e R s m args below meth c U0 a0 D pre cx H locs cells slots Qf LS _ hl k => ?_) k
  obtain ⟨⟨hg, hK, hpre, hZ⟩, hx, hb, hml, hr, hlk, hnm, hown, hW, hfr, hlo, hok⟩ := cx
  obtain ⟨hbp, hd, hlen, hnx, hxx⟩ := hok.at he
  unfold okX at hxx
  rw [hi] at hd hlen hnx hxx
  have hlen := hlen rfl
  have hnx := hnx rfl
  rw [hlen] at hd hnx
  rw [hbp]
  rw [hnx] at k
  exact lv_ldcw hx hb hown (wd hg hW (of_decide_eq_true hxx) rfl) hd (k LS hl)
theorem WP_ldc2_w {M : Mth} {d ip : Nat} {ls : LV} {st : List AV} {h : Hp} {Q : Option AV → Hp → Prop} {en : Ent} (he : (mT M)[ip]? = some en) {i : Nat} (hi : eI en = .ldc2_w i) (k : WP M d (eN en) ls (vl (eX en : Int) :: st) h Q) : WP M d ip ls (st) h Q := by
  refine WP_pure (fun p l e R s m args below meth c U0 a0 D pre cx H locs cells slots Qf LS _ hl k => ?_) k
  obtain ⟨⟨hg, hK, hpre, hZ⟩, hx, hb, hml, hr, hlk, hnm, hown, hW, hfr, hlo, hok⟩ := cx
  obtain ⟨hbp, hd, hlen, hnx, hxx⟩ := hok.at he
  unfold okX at hxx
  rw [hi] at hd hlen hnx hxx
  have hlen := hlen rfl
  have hnx := hnx rfl
  rw [hlen] at hd hnx
  rw [hbp]
  rw [hnx] at k
  exact lv_ldc2 hx hb hown (wd hg hW (of_decide_eq_true hxx) rfl) hd (k LS hl)
theorem WP_tsIn {M : Mth} {d ip : Nat} {ls : LV} {st : List AV} {h : Hp} {Q : Option AV → Hp → Prop} {en : Ent} (he : (mT M)[ip]? = some en) {dflt lo hj : Int} {offs : Array Int} (hi : eI en = .tableswitch dflt lo hj offs) {x off : Int} {tgt : Nat} (hx : inR x) (h1 : lo ≤ x) (h2 : x ≤ hj) (ho : offs[(x - lo).toNat]? = some off) (ht : (ePc en : Int) + off = (bp M tgt : Int)) (k : WP M d tgt ls st h Q) : WP M d ip ls (vi x :: st) h Q := by
  refine WP_pure (fun p l e R s m args below meth c U0 a0 D pre cx H locs cells slots Qf LS _ hl k => ?_) k
  obtain ⟨⟨hg, hK, hpre, hZ⟩, hx9, hb, hml, hr, hlk, hnm, hown, hW, hfr, hlo, hok⟩ := cx
  obtain ⟨hbp, hd, hlen, hnx, hxx⟩ := hok.at he
  rw [hi] at hd
  rw [hbp]
  exact lv_tableIn (x := Int32.ofInt x) hx9 hb hd (by rw [i32_toInt hx]; omega) (by rw [i32_toInt hx]; omega) (by rw [i32_toInt hx]; exact ho) ht (k LS hl)
theorem WP_tsOut {M : Mth} {d ip : Nat} {ls : LV} {st : List AV} {h : Hp} {Q : Option AV → Hp → Prop} {en : Ent} (he : (mT M)[ip]? = some en) {dflt lo hj : Int} {offs : Array Int} (hi : eI en = .tableswitch dflt lo hj offs) {x : Int} {tgt : Nat} (hx : inR x) (h1 : x < lo ∨ hj < x) (ht : (ePc en : Int) + dflt = (bp M tgt : Int)) (k : WP M d tgt ls st h Q) : WP M d ip ls (vi x :: st) h Q := by
  refine WP_pure (fun p l e R s m args below meth c U0 a0 D pre cx H locs cells slots Qf LS _ hl k => ?_) k
  obtain ⟨⟨hg, hK, hpre, hZ⟩, hx9, hb, hml, hr, hlk, hnm, hown, hW, hfr, hlo, hok⟩ := cx
  obtain ⟨hbp, hd, hlen, hnx, hxx⟩ := hok.at he
  rw [hi] at hd
  rw [hbp]
  exact lv_tableOut (x := Int32.ofInt x) hx9 hb hd (by rw [i32_toInt hx]; exact h1) ht (k LS hl)
theorem WP_iret {M : Mth} {d ip : Nat} {ls : LV} {h : Hp} {Q : Option AV → Hp → Prop} {en : Ent} (he : (mT M)[ip]? = some en) (hi : eI en = .ireturn) {x : Int} (hm : mR M = some .int) (hq : Q (some (vi x)) h) : WP M d ip ls [vi x] h Q := by
  refine ⟨some (vi x), h, ⟨Nat.le_refl _, Nat.le_refl _, fun p l e R s m args below meth c U0 a0 D pre cx H locs n0 s0 Qf LS hR hlo hn hs hl hc1 hc2 hret => ?_⟩, hq⟩
  obtain ⟨hbp, hd, hlen, hnx, hxx⟩ := cx.2.2.2.2.2.2.2.2.2.2.2.at he
  rw [hi] at hd hlen
  rw [hlen rfl] at hd
  refine hret H locs (bp M ip) LS hR hlo ?_
  rw [hbp]
  exact ⟨hd, Or.inl hm⟩
theorem WP_zret {M : Mth} {d ip : Nat} {ls : LV} {h : Hp} {Q : Option AV → Hp → Prop} {en : Ent} (he : (mT M)[ip]? = some en) (hi : eI en = .ireturn) {x : Int} (hm : mR M = some .boolean) (hz : x = 0 ∨ x = 1) (hq : Q (some (vi x)) h) : WP M d ip ls [vi x] h Q := by
  refine ⟨some (vi x), h, ⟨Nat.le_refl _, Nat.le_refl _, fun p l e R s m args below meth c U0 a0 D pre cx H locs n0 s0 Qf LS hR hlo hn hs hl hc1 hc2 hret => ?_⟩, hq⟩
  obtain ⟨hbp, hd, hlen, hnx, hxx⟩ := cx.2.2.2.2.2.2.2.2.2.2.2.at he
  rw [hi] at hd hlen
  rw [hlen rfl] at hd
  refine hret H locs (bp M ip) LS hR hlo ?_
  rw [hbp]
  exact ⟨hd, Or.inr ⟨hm, hz⟩⟩
theorem WP_lret {M : Mth} {d ip : Nat} {ls : LV} {h : Hp} {Q : Option AV → Hp → Prop} {en : Ent} (he : (mT M)[ip]? = some en) (hi : eI en = .lreturn) {x : Int} (hm : mR M = some .long) (hq : Q (some (vl x)) h) : WP M d ip ls [vl x] h Q := by
  refine ⟨some (vl x), h, ⟨Nat.le_refl _, Nat.le_refl _, fun p l e R s m args below meth c U0 a0 D pre cx H locs n0 s0 Qf LS hR hlo hn hs hl hc1 hc2 hret => ?_⟩, hq⟩
  obtain ⟨hbp, hd, hlen, hnx, hxx⟩ := cx.2.2.2.2.2.2.2.2.2.2.2.at he
  rw [hi] at hd hlen
  rw [hlen rfl] at hd
  refine hret H locs (bp M ip) LS hR hlo ?_
  rw [hbp]
  exact ⟨hd, hm⟩
theorem WP_aret {M : Mth} {d ip : Nat} {ls : LV} {h : Hp} {Q : Option AV → Hp → Prop} {en : Ent} (he : (mT M)[ip]? = some en) (hi : eI en = .areturn) {x : Nat} {t : FieldType} (hm : mR M = some (.array t)) (hq : Q (some (vr x)) h) : WP M d ip ls [vr x] h Q := by
  refine ⟨some (vr x), h, ⟨Nat.le_refl _, Nat.le_refl _, fun p l e R s m args below meth c U0 a0 D pre cx H locs n0 s0 Qf LS hR hlo hn hs hl hc1 hc2 hret => ?_⟩, hq⟩
  obtain ⟨hbp, hd, hlen, hnx, hxx⟩ := cx.2.2.2.2.2.2.2.2.2.2.2.at he
  rw [hi] at hd hlen
  rw [hlen rfl] at hd
  refine hret H locs (bp M ip) LS hR hlo ?_
  rw [hbp]
  exact ⟨hd, t, hm⟩
theorem WP_vret {M : Mth} {d ip : Nat} {ls : LV} {h : Hp} {Q : Option AV → Hp → Prop} {en : Ent} (he : (mT M)[ip]? = some en) (hi : eI en = .return_) (hm : mR M = none) (hq : Q (none) h) : WP M d ip ls [] h Q := by
  refine ⟨none, h, ⟨Nat.le_refl _, Nat.le_refl _, fun p l e R s m args below meth c U0 a0 D pre cx H locs n0 s0 Qf LS hR hlo hn hs hl hc1 hc2 hret => ?_⟩, hq⟩
  obtain ⟨hbp, hd, hlen, hnx, hxx⟩ := cx.2.2.2.2.2.2.2.2.2.2.2.at he
  rw [hi] at hd hlen
  rw [hlen rfl] at hd
  refine hret H locs (bp M ip) LS hR hlo ?_
  rw [hbp]
  exact ⟨hd, hm⟩
end
section
/-! the heap: reads, writes, what is made -/
theorem lyX0 : (wsX00.all fun w => decide (w ∈ lw_tbl) && goodWord w) = true := by decide +kernel
theorem lyX1 : (wsX10.all fun w => decide (w ∈ lw_tbl) && goodWord w) = true := by decide +kernel
theorem lyX2 : (wsX20.all fun w => decide (w ∈ lw_tbl) && goodWord w) = true := by decide +kernel
theorem lyX3 : (wsX30.all fun w => decide (w ∈ lw_tbl) && goodWord w) = true := by decide +kernel
theorem lyX4 : (wsX40.all fun w => decide (w ∈ lw_tbl) && goodWord w) = true := by decide +kernel
theorem lyX5 : (wsX50.all fun w => decide (w ∈ lw_tbl) && goodWord w) = true := by decide +kernel
theorem lyX6 : (wsX60.all fun w => decide (w ∈ lw_tbl) && goodWord w) = true := by decide +kernel
def clT : Nat → Nat → FieldType
  | 0 => tyX0
  | 1 => tyX1
  | 2 => tyX2
  | 3 => tyX3
  | 4 => tyX4
  | 5 => tyX5
  | _ => tyX6
theorem ly_of {C : String} {T : u_T} {N : Nat} (h : ((u_ws C T N).all fun w => decide (w ∈ lw_tbl) && goodWord w) = true) : ∀ w ∈ u_ws C T N, w ∈ lw_tbl ∧ goodWord w = true := fun w hw => by
  have h1 := List.all_eq_true.mp h w hw
  simp only [Bool.and_eq_true, decide_eq_true_eq] at h1
  exact h1
theorem clOK (ci : Nat) (q : vw_C) (h : vwCl[ci]? = some q) : (∀ w ∈ u_ws q.1 q.2.1 q.2.2, w ∈ lw_tbl ∧ goodWord w = true) ∧ (∀ k, k < q.2.2 → parseFieldDescriptor (q.2.1 k).2.2.1 = some (clT ci k)) ∧ ∀ a, a < q.2.2 → ∀ b, b < q.2.2 → a ≠ b → (q.2.1 a).2.1 ≠ (q.2.1 b).2.1 := by
  match ci, h with
  | 0, h => cases h; exact ⟨ly_of lyX0, tyX0_ok, nmX0⟩
  | 1, h => cases h; exact ⟨ly_of lyX1, tyX1_ok, nmX1⟩
  | 2, h => cases h; exact ⟨ly_of lyX2, tyX2_ok, nmX2⟩
  | 3, h => cases h; exact ⟨ly_of lyX3, tyX3_ok, nmX3⟩
  | 4, h => cases h; exact ⟨ly_of lyX4, tyX4_ok, nmX4⟩
  | 5, h => cases h; exact ⟨ly_of lyX5, tyX5_ok, nmX5⟩
  | 6, h => cases h; exact ⟨ly_of lyX6, tyX6_ok, nmX6⟩
  | k + 7, h => simp [vwCl] at h
theorem cellAt.kept {U0 : State} {D : va_G} {f : Nat → Nat} {q : Nat} {H H1 : Heap} {c : AC} (h : cellAt U0 D f q H c) (hq : H1[q]? = H[q]?) : cellAt U0 D f q H1 c := by
  rcases c with ⟨ci, fs⟩ | ⟨ty, n, g⟩
  · obtain ⟨r, h1, h2, h3⟩ := h
    exact ⟨r, h1, h2, h3.kept hq⟩
  · obtain ⟨cell, h1, h2⟩ := h
    exact ⟨cell, hq.trans h1, h2⟩
theorem cellAt.lt {U0 : State} {D : va_G} {f : Nat → Nat} {q : Nat} {H : Heap} {c : AC} (h : cellAt U0 D f q H c) : q < H.size := by
  rcases c with ⟨ci, fs⟩ | ⟨ty, n, g⟩
  · obtain ⟨r, h1, h2, cell, h3, h4⟩ := h
    exact (Array.getElem?_eq_some_iff.mp h3).1
  · obtain ⟨cell, h1, h2⟩ := h
    exact (Array.getElem?_eq_some_iff.mp h1).1
def setC (h : Hp) (a : Nat) (c : AC) : Hp := (h.1, h.2.1, fun b => if b = a then c else h.2.2 b)
def addC (h : Hp) (n : Nat) (c : AC) : Hp := (h.1 + 1, h.2.1 + n, fun b => if b = h.1 then c else h.2.2 b)
theorem sg_ne {U0 : State} {pre : Nat → Nat} (hp : ∀ k, k < 5 → pre k < U0.heap.size) {a b : Nat} (ha : 5 ≤ a) (hab : b ≠ a) : sg U0 pre b ≠ sg U0 pre a := by
  unfold sg
  rw [if_neg (by omega : ¬ a < 5)]
  by_cases hb : b < 5
  · rw [if_pos hb]
    have := hp b hb
    omega
  · rw [if_neg hb]
    omega
theorem sg_own {U0 : State} {pre : Nat → Nat} {a : Nat} (ha : 5 ≤ a) : U0.heap.size ≤ sg U0 pre a := by
  unfold sg
  rw [if_neg (by omega : ¬ a < 5)]
  omega
theorem Rel.set {U0 : State} {D : va_G} {pre : Nat → Nat} {h : Hp} {H H1 : Heap} (hR : Rel U0 D pre h H) (hp : ∀ k, k < 5 → pre k < U0.heap.size) {a : Nat} (ha : 5 ≤ a) {c : AC} (h1 : cellAt U0 D (sg U0 pre) (sg U0 pre a) H1 c) (h2 : H1.size = H.size) (h3 : ∀ q, q ≠ sg U0 pre a → H1[q]? = H[q]?) : Rel U0 D pre (setC h a c) H1 := by
  obtain ⟨r1, r2, r3, r4⟩ := hR
  refine ⟨by rw [h2]; exact r1, r2, fun q hq => ?_, fun b hb => ?_⟩
  · rw [h3 q (by have := sg_own (U0 := U0) (pre := pre) ha; omega)]
    exact r3 q hq
  · show cellAt U0 D (sg U0 pre) (sg U0 pre b) H1 (if b = a then c else h.2.2 b)
    by_cases e : b = a
    · rw [if_pos e, e]; exact h1
    · rw [if_neg e]
      exact (r4 b hb).kept (h3 _ (sg_ne hp ha e))
theorem Rel.sgn {U0 : State} {D : va_G} {pre : Nat → Nat} {h : Hp} {H : Heap} (hR : Rel U0 D pre h H) : sg U0 pre h.1 = H.size := by
  obtain ⟨r1, r2, r3, r4⟩ := hR
  unfold sg
  rw [if_neg (by omega)]
  omega
theorem Rel.add {U0 : State} {D : va_G} {pre : Nat → Nat} {h : Hp} {H H1 : Heap} (hR : Rel U0 D pre h H) {c : AC} (n : Nat) (h1 : cellAt U0 D (sg U0 pre) (sg U0 pre h.1) H1 c) (h2 : H1.size = H.size + 1) (h3 : ∀ q, q < H.size → H1[q]? = H[q]?) : Rel U0 D pre (addC h n c) H1 := by
  have hs := hR.sgn
  obtain ⟨r1, r2, r3, r4⟩ := hR
  refine ⟨by rw [h2]; show H.size + 1 + 5 = U0.heap.size + (h.1 + 1); omega, by show 5 ≤ h.1 + 1; omega, fun q hq => ?_, fun b hb => ?_⟩
  · rw [h3 q (by omega)]
    exact r3 q hq
  · show cellAt U0 D (sg U0 pre) (sg U0 pre b) H1 (if b = h.1 then c else h.2.2 b)
    by_cases e : b = h.1
    · rw [if_pos e, e]; exact h1
    · rw [if_neg e]
      have hb' : b < h.1 := by have : b < h.1 + 1 := hb; omega
      exact (r4 b hb').kept (h3 _ (r4 b hb').lt)
/-- a write into one cell of the run's own -/
theorem WP_wr {M : Mth} {d ip ip' : Nat} {ls : LV} {st st' : List AV} {h : Hp} {Q : Option AV → Hp → Prop} {a : Nat} {c' : AC}
    (H1 : ∀ (p : Program) (l : Launch) (e : Env) (R : Room) (s : State) (m : MethodId) (args : Array Value) (below : List Frame) (meth : Method) (c : Code) (U0 : State) (a0 : Array Value) (D : va_G) (pre : Nat → Nat), CX M d p l e R s m args below meth c U0 a0 D pre → ∀ (H : Heap) (locs : List Loc) (cells slots : Nat) (Qf : State → Prop) (LS : Array Slot), Rel U0 D pre h H → lvR (sg U0 pre) LS (mL M) ls → (∀ (H' : Heap) (locs' : List Loc), cellAt U0 D (sg U0 pre) (sg U0 pre a) H' c' → H'.size = H.size → (∀ q, q ≠ sg U0 pre a → H'[q]? = H[q]?) → (∀ q ∈ locs', q ∈ locs ∨ q.base = sg U0 pre a) → W p l e R s m args below meth c H' locs' cells slots Qf (F0 m (bp M ip') LS (st'.map (cv (sg U0 pre))))) → W p l e R s m args below meth c H locs cells slots Qf (F0 m (bp M ip) LS (st.map (cv (sg U0 pre)))))
    (ha : 5 ≤ a) (k : WP M d ip' ls st' (setC h a c') Q) : WP M d ip ls st h Q := by
  obtain ⟨v, h', ⟨a1, b1, k⟩, hq⟩ := k
  refine ⟨v, h', ⟨a1, b1, fun p l e R s m args below meth c U0 a0 D pre cx H locs n0 s0 Qf LS hR hlo hn hs hl hc1 hc2 hret => ?_⟩, hq⟩
  refine H1 p l e R s m args below meth c U0 a0 D pre cx H locs _ _ Qf LS hR hl (fun H' locs' e1 e2 e3 e4 => ?_)
  refine k p l e R s m args below meth c U0 a0 D pre cx H' locs' n0 s0 Qf LS (hR.set cx.1.2.2.1 ha e1 e2 e3) (fun q hq => ?_) hn hs hl hc1 hc2 hret
  rcases e4 q hq with h | h
  · exact hlo q h
  · rw [h]; exact sg_own ha
/-- one cell more -/
theorem WP_ad {M : Mth} {d ip ip' : Nat} {ls : LV} {st st' : List AV} {h : Hp} {Q : Option AV → Hp → Prop} {c' : AC} (n : Nat)
    (H1 : ∀ (p : Program) (l : Launch) (e : Env) (R : Room) (s : State) (m : MethodId) (args : Array Value) (below : List Frame) (meth : Method) (c : Code) (U0 : State) (a0 : Array Value) (D : va_G) (pre : Nat → Nat), CX M d p l e R s m args below meth c U0 a0 D pre → ∀ (H : Heap) (locs : List Loc) (cells slots : Nat) (Qf : State → Prop) (LS : Array Slot), Rel U0 D pre h H → lvR (sg U0 pre) LS (mL M) ls → cells + 1 ≤ R.cells → slots + n ≤ R.slots → (∀ (H' : Heap), cellAt U0 D (sg U0 pre) (sg U0 pre h.1) H' c' → H'.size = H.size + 1 → (∀ q, q < H.size → H'[q]? = H[q]?) → W p l e R s m args below meth c H' locs (cells + 1) (slots + n) Qf (F0 m (bp M ip') LS (st'.map (cv (sg U0 pre))))) → W p l e R s m args below meth c H locs cells slots Qf (F0 m (bp M ip) LS (st.map (cv (sg U0 pre)))))
    (k : WP M d ip' ls st' (addC h n c') Q) : WP M d ip ls st h Q := by
  obtain ⟨v, h', ⟨a1, b1, k⟩, hq⟩ := k
  have a2 : h.1 + 1 ≤ h'.1 := a1
  have b2 : h.2.1 + n ≤ h'.2.1 := b1
  refine ⟨v, h', ⟨by omega, by omega, fun p l e R s m args below meth c U0 a0 D pre cx H locs n0 s0 Qf LS hR hlo hn hs hl hc1 hc2 hret => ?_⟩, hq⟩
  refine H1 p l e R s m args below meth c U0 a0 D pre cx H locs _ _ Qf LS hR hl (by omega) (by omega) (fun H' e1 e2 e3 => ?_)
  have e5 : h.1 - n0 + 1 = h.1 + 1 - n0 := by omega
  have e6 : h.2.1 - s0 + n = h.2.1 + n - s0 := by omega
  rw [e5, e6]
  exact k p l e R s m args below meth c U0 a0 D pre cx H' locs n0 s0 Qf LS (hR.add n e1 e2 e3) hlo (by show n0 ≤ h.1 + 1; omega) (by show s0 ≤ h.2.1 + n; omega) hl hc1 hc2 hret
theorem WP_getf {M : Mth} {d ip : Nat} {ls : LV} {st : List AV} {h : Hp} {Q : Option AV → Hp → Prop} {en : Ent} (he : (mT M)[ip]? = some en) {i a : Nat} {fs : List AV} {v : AV} (hi : eI en = .getfield i) (hc : h.2.2 a = .inl (eX en, fs)) (ha : a < h.1) (hv : fs[eY en]? = some v) (k : WP M d (eN en) ls (v :: st) h Q) : WP M d ip ls (vr a :: st) h Q := by
  refine WP_pure (fun p l e R s m args below meth c U0 a0 D pre cx H locs cells slots Qf LS hR hl k => ?_) k
  obtain ⟨⟨hg, hK, hpre, hZ⟩, hx, hb, hml, hr, hlk, hnm, hown, hW, hfr, hlo, hok⟩ := cx
  obtain ⟨hbp, hd, hlen, hnx, hxx⟩ := hok.at he
  unfold okX at hxx
  rw [hi] at hd hlen hnx hxx
  have hlen := hlen rfl
  have hnx := hnx rfl
  rw [hlen] at hd hnx
  rw [hbp]
  have hal := hW.alike
  rw [hnx] at k
  dsimp only at hxx
  split at hxx
  · rename_i q hq
    simp only [Bool.and_eq_true, decide_eq_true_eq] at hxx
    obtain ⟨⟨hy, hcl⟩, hlw⟩ := hxx
    have hca := hR.2.2.2 a ha
    rw [hc] at hca
    obtain ⟨r, hr1, hr2, cell, q1, q2, q3, q4⟩ := hca
    have er : r = q := Option.some.inj (hr1.symm.trans hq)
    subst er
    obtain ⟨c1, c2, c3⟩ := clOK _ _ hq
    have hts : ∀ w ∈ u_ws r.1 r.2.1 r.2.2, w.before args s = true := fun w hw => word_at hW (good_of_word (c1 w hw).2) (hg w (c1 w hw).1)
    have hKs := va_K.moved hal hK
    obtain ⟨hS, hfc, kC, hkC, hkind⟩ := hKs.1 _ _ hq
    obtain ⟨cf, kf, fi, f, hfi, hsl⟩ := hS _ hy
    have hlink := wd (args := args) hg hW hlw rfl
    have hfx : s.fieldFound? r.1 (r.2.1 (eY en)).2.1 (r.2.1 (eY en)).2.2.1 = some (cf, kf, fi, f) := by rw [← hcl]; exact hfi
    refine W.getf hx hb hown hlink hfx (u_facts hfc hkC (u_lays hts (fun _ z => z) hy) hfi).1 q1 (by rw [q3]; exact fun z => by cases z) (v := cv (sg U0 pre) v) ?_ rfl rfl hd (k LS hl)
    rw [hsl, q4 _ hy]
    simp [vp_V, hv]
  · cases hxx
def fok : FieldType → AV → Prop
  | .int, .inl _ => True
  | .boolean, .inl x => x = 0 ∨ x = 1
  | .object _, .inr (.inr (some _)) => True
  | .array _, .inr (.inr (some _)) => True
  | _, _ => False
theorem fok_n (f : Nat → Nat) {ty : FieldType} {v : AV} (h : fok ty v) : narrow ty (cv f v) = cv f v ∧ fits ty (cv f v) = true := by
  unfold fok at h
  split at h
  · exact ⟨rfl, rfl⟩
  · rcases h with rfl | rfl
    · exact ⟨by show narrow .boolean (.int (Int32.ofInt 0)) = .int (Int32.ofInt 0); decide, by show fits .boolean (.int (Int32.ofInt 0)) = true; decide⟩
    · exact ⟨by show narrow .boolean (.int (Int32.ofInt 1)) = .int (Int32.ofInt 1); decide, by show fits .boolean (.int (Int32.ofInt 1)) = true; decide⟩
  · exact ⟨rfl, rfl⟩
  · exact ⟨rfl, rfl⟩
  · exact h.elim
theorem WP_putf {M : Mth} {d ip : Nat} {ls : LV} {st : List AV} {h : Hp} {Q : Option AV → Hp → Prop} {en : Ent} (he : (mT M)[ip]? = some en) {i a : Nat} {fs : List AV} {v : AV} (hi : eI en = .putfield i) (hc : h.2.2 a = .inl (eX en, fs)) (ha : a < h.1) (ha5 : 5 ≤ a) (hfin : (((vwCl[eX en]?).getD ("", TX0, 0)).2.1 (eY en)).2.2.2 = false) (hv : fok (clT (eX en) (eY en)) v) (k : WP M d (eN en) ls st (setC h a (.inl (eX en, fs.set (eY en) v))) Q) : WP M d ip ls (v :: vr a :: st) h Q := by
  refine WP_wr (fun p l e R s m args below meth c U0 a0 D pre cx H locs cells slots Qf LS hR hl k => ?_) ha5 k
  obtain ⟨⟨hg, hK, hpre, hZ⟩, hx, hb, hml, hr, hlk, hnm, hown, hW, hfr, hlo, hok⟩ := cx
  obtain ⟨hbp, hd, hlen, hnx, hxx⟩ := hok.at he
  unfold okX at hxx
  rw [hi] at hd hlen hnx hxx
  have hlen := hlen rfl
  have hnx := hnx rfl
  rw [hlen] at hd hnx
  rw [hbp]
  have hal := hW.alike
  rw [hnx] at k
  dsimp only at hxx
  split at hxx
  · rename_i q hq
    simp only [Bool.and_eq_true, decide_eq_true_eq] at hxx
    obtain ⟨⟨hy, hcl⟩, hlw⟩ := hxx
    have hca := hR.2.2.2 a ha
    rw [hc] at hca
    obtain ⟨r, hr1, hr2, cell, q1, q2, q3, q4⟩ := hca
    have er : r = q := Option.some.inj (hr1.symm.trans hq)
    subst er
    obtain ⟨c1, c2, c3⟩ := clOK _ _ hq
    have hts : ∀ w ∈ u_ws r.1 r.2.1 r.2.2, w.before args s = true := fun w hw => word_at hW (good_of_word (c1 w hw).2) (hg w (c1 w hw).1)
    have hKs := va_K.moved hal hK
    obtain ⟨hS, hfc, kC, hkC, hkind⟩ := hKs.1 _ _ hq
    obtain ⟨cf, kf, fi, f, hfi, hsl⟩ := hS _ hy
    have hlink := wd (args := args) hg hW hlw rfl
    have hfx : s.fieldFound? r.1 (r.2.1 (eY en)).2.1 (r.2.1 (eY en)).2.2.1 = some (cf, kf, fi, f) := by rw [← hcl]; exact hfi
    have hap := va_apart (own := (mY M).cls) hts (fun _ z => z) (clT (eX en)) c2 c3 hKs hq
    have hlay := hts _ (u_in_lay (C := r.1) (T := r.2.1) hy)
    unfold u_lay at hlay
    have hfin : (r.2.1 (eY en)).2.2.2 = false := by
      rw [hq] at hfin
      exact hfin
    rw [if_neg (by rw [hfin]; decide)] at hlay
    have hst := (u_facts hfc hkC (u_lays hts (fun _ z => z) hy) hfi).1
    have h6 := u_store hfc hkC hkind hlay hfi (c2 _ hy) (fok_n (sg U0 pre) hv).1 (fok_n (sg U0 pre) hv).2
    refine W.putK hx hb (f := f) ⟨hown, hlink, ⟨_, _, _, hfx⟩, hst⟩ (by rw [q2]; exact h6) q1 q3 (by rw [hsl]; exact k2_hasslot (q4 _ hy)) rfl rfl hd fun H' e1 e2 e3 => ?_
    rw [hsl] at e1
    refine k H' _ ⟨r, hr1, by rw [List.length_set]; exact hr2, t_OB.to (V := updV (vp_V (fs.map (cv (sg U0 pre)))) (eY en) (cv (sg U0 pre) v)) ⟨_, e1, q2, q3, t_set q4 hap hy _⟩ (fun j _ => ?_)⟩ e2 e3 (fun q hq => ?_)
    · rw [vp_updV_set (by rw [List.length_map, hr2]; exact hy), List.map_set]
    · rcases List.mem_append.mp hq with z | z
      · exact Or.inl z
      · exact Or.inr (by rw [List.mem_singleton.mp z])
  · cases hxx
theorem WP_putF {M : Mth} {d ip : Nat} {ls : LV} {st : List AV} {h : Hp} {Q : Option AV → Hp → Prop} {en : Ent} (he : (mT M)[ip]? = some en) {i a : Nat} {fs : List AV} {v : AV} (hi : eI en = .putfield i) (hc : h.2.2 a = .inl (eX en, fs)) (ha : a < h.1) (ha5 : 5 ≤ a) (hfin : (((vwCl[eX en]?).getD ("", TX0, 0)).2.1 (eY en)).2.2.2 = true) (hin2 : (mY M).name = "<init>") (hdecl : (mY M).cls = ((vwCl[eX en]?).getD ("", TX0, 0)).1) (hv : fok (clT (eX en) (eY en)) v) (k : WP M d (eN en) ls st (setC h a (.inl (eX en, fs.set (eY en) v))) Q) : WP M d ip ls (v :: vr a :: st) h Q := by
  refine WP_wr (fun p l e R s m args below meth c U0 a0 D pre cx H locs cells slots Qf LS hR hl k => ?_) ha5 k
  obtain ⟨⟨hg, hK, hpre, hZ⟩, hx, hb, hml, hr, hlk, hnm, hown, hW, hfr, hlo, hok⟩ := cx
  obtain ⟨hbp, hd, hlen, hnx, hxx⟩ := hok.at he
  unfold okX at hxx
  rw [hi] at hd hlen hnx hxx
  have hlen := hlen rfl
  have hnx := hnx rfl
  rw [hlen] at hd hnx
  rw [hbp]
  have hal := hW.alike
  rw [hnx] at k
  dsimp only at hxx
  split at hxx
  · rename_i q hq
    simp only [Bool.and_eq_true, decide_eq_true_eq] at hxx
    obtain ⟨⟨hy, hcl⟩, hlw⟩ := hxx
    have hca := hR.2.2.2 a ha
    rw [hc] at hca
    obtain ⟨r, hr1, hr2, cell, q1, q2, q3, q4⟩ := hca
    have er : r = q := Option.some.inj (hr1.symm.trans hq)
    subst er
    obtain ⟨c1, c2, c3⟩ := clOK _ _ hq
    have hts : ∀ w ∈ u_ws r.1 r.2.1 r.2.2, w.before args s = true := fun w hw => word_at hW (good_of_word (c1 w hw).2) (hg w (c1 w hw).1)
    have hKs := va_K.moved hal hK
    obtain ⟨hS, hfc, kC, hkC, hkind⟩ := hKs.1 _ _ hq
    obtain ⟨cf, kf, fi, f, hfi, hsl⟩ := hS _ hy
    have hlink := wd (args := args) hg hW hlw rfl
    have hfx : s.fieldFound? r.1 (r.2.1 (eY en)).2.1 (r.2.1 (eY en)).2.2.1 = some (cf, kf, fi, f) := by rw [← hcl]; exact hfi
    have hap := va_apart (own := (mY M).cls) hts (fun _ z => z) (clT (eX en)) c2 c3 hKs hq
    have hlay := hts _ (u_in_lay (C := r.1) (T := r.2.1) hy)
    unfold u_lay at hlay
    have hfin : (r.2.1 (eY en)).2.2.2 = true := by
      rw [hq] at hfin
      exact hfin
    rw [if_pos hfin] at hlay
    have hst := (u_facts hfc hkC (u_lays hts (fun _ z => z) hy) hfi).1
    have hdecl : (r.2.1 (eY en)).1 = (mY M).cls := by
      rw [hq] at hdecl
      rw [hcl, hdecl]
      rfl
    have hcf : m.cls = cf := by
      obtain ⟨_, _, c', _, _, _, -, -, hf', -, -, -, hown2, -⟩ := Cond.laysFinal_spec hlay
      have e1 : c' = cf := by have := hfi.symm.trans hf'; simp at this; exact this.1.symm
      rw [hdecl] at hown2
      rw [← e1]; exact Option.some.inj (hown.symm.trans hown2)
    have h6 := u_fits hfc hkC hkind (Or.inr hlay) hfi (c2 _ hy) (fok_n (sg U0 pre) hv).1 (fok_n (sg U0 pre) hv).2
    refine W.putFinK hx hb hown hlink hfx hst hcf (hnm.trans hin2) (by rw [q2]; exact h6) q1 q3 (by rw [hsl]; exact k2_hasslot (q4 _ hy)) rfl rfl hd fun H' e1 e2 e3 => ?_
    rw [hsl] at e1
    refine k H' _ ⟨r, hr1, by rw [List.length_set]; exact hr2, t_OB.to (V := updV (vp_V (fs.map (cv (sg U0 pre)))) (eY en) (cv (sg U0 pre) v)) ⟨_, e1, q2, q3, t_set q4 hap hy _⟩ (fun j _ => ?_)⟩ e2 e3 (fun q hq => ?_)
    · rw [vp_updV_set (by rw [List.length_map, hr2]; exact hy), List.map_set]
    · rcases List.mem_append.mp hq with z | z
      · exact Or.inl z
      · exact Or.inr (by rw [List.mem_singleton.mp z])
  · cases hxx
theorem WP_iald {M : Mth} {d ip : Nat} {ls : LV} {st : List AV} {h : Hp} {Q : Option AV → Hp → Prop} {en : Ent} (he : (mT M)[ip]? = some en) {a n : Nat} {i : Int} {g : Nat → AV} (hi : eI en = .iaload) (hc : h.2.2 a = .inr (.int, n, g)) (ha : a < h.1) (h0 : 0 ≤ i) (h1 : i < n) (k : WP M d (eN en) ls (g i.toNat :: st) h Q) : WP M d ip ls (vi i :: vr a :: st) h Q := by
  refine WP_pure (fun p l e R s m args below meth c U0 a0 D pre cx H locs cells slots Qf LS hR hl k => ?_) k
  obtain ⟨⟨hg, hK, hpre, hZ⟩, hx, hb, hml, hr, hlk, hnm, hown, hW, hfr, hlo, hok⟩ := cx
  obtain ⟨hbp, hd, hlen, hnx, hxx⟩ := hok.at he
  unfold okX at hxx
  rw [hi] at hd hlen hnx hxx
  have hlen := hlen rfl
  have hnx := hnx rfl
  rw [hlen] at hd hnx
  rw [hbp]
  have hal := hW.alike
  rw [hnx] at k
  have hca := hR.2.2.2 a ha
  rw [hc] at hca
  obtain ⟨cell, q1, q2, q3, q4, q5, q6⟩ := hca
  have q2 := State.isArrayOf_alike hal q2
  have hj : (Int32.ofInt i).toNatClampNeg = i.toNat := i32_nat h0 (by omega)
  have hin : ¬ (Int32.ofInt i < 0 ∨ cell.slots.size ≤ (Int32.ofInt i).toNatClampNeg) := by
    rw [hj, q4]
    rintro (z | z)
    · exact i32_nn h0 (by omega) z
    · omega
  exact W.iald hx hb q1 q2 q3 hin (by rw [hj]; exact q6 i.toNat (by omega)) rfl rfl hd (k LS hl)
theorem WP_zald {M : Mth} {d ip : Nat} {ls : LV} {st : List AV} {h : Hp} {Q : Option AV → Hp → Prop} {en : Ent} (he : (mT M)[ip]? = some en) {a n : Nat} {i : Int} {g : Nat → AV} (hi : eI en = .baload) (hc : h.2.2 a = .inr (.boolean, n, g)) (ha : a < h.1) (h0 : 0 ≤ i) (h1 : i < n) (k : WP M d (eN en) ls (g i.toNat :: st) h Q) : WP M d ip ls (vi i :: vr a :: st) h Q := by
  refine WP_pure (fun p l e R s m args below meth c U0 a0 D pre cx H locs cells slots Qf LS hR hl k => ?_) k
  obtain ⟨⟨hg, hK, hpre, hZ⟩, hx, hb, hml, hr, hlk, hnm, hown, hW, hfr, hlo, hok⟩ := cx
  obtain ⟨hbp, hd, hlen, hnx, hxx⟩ := hok.at he
  unfold okX at hxx
  rw [hi] at hd hlen hnx hxx
  have hlen := hlen rfl
  have hnx := hnx rfl
  rw [hlen] at hd hnx
  rw [hbp]
  have hal := hW.alike
  rw [hnx] at k
  have hca := hR.2.2.2 a ha
  rw [hc] at hca
  obtain ⟨cell, q1, q2, q3, q4, q5, q6⟩ := hca
  have q2 := State.isArrayOf_alike hal q2
  have hj : (Int32.ofInt i).toNatClampNeg = i.toNat := i32_nat h0 (by omega)
  have hin : ¬ (Int32.ofInt i < 0 ∨ cell.slots.size ≤ (Int32.ofInt i).toNatClampNeg) := by
    rw [hj, q4]
    rintro (z | z)
    · exact i32_nn h0 (by omega) z
    · omega
  exact W.zald hx hb q1 q2 q3 hin (by rw [hj]; exact q6 i.toNat (by omega)) rfl rfl hd (k LS hl)
theorem WP_lald {M : Mth} {d ip : Nat} {ls : LV} {st : List AV} {h : Hp} {Q : Option AV → Hp → Prop} {en : Ent} (he : (mT M)[ip]? = some en) {a n : Nat} {i : Int} {g : Nat → AV} (hi : eI en = .laload) (hc : h.2.2 a = .inr (.long, n, g)) (ha : a < h.1) (h0 : 0 ≤ i) (h1 : i < n) (k : WP M d (eN en) ls (g i.toNat :: st) h Q) : WP M d ip ls (vi i :: vr a :: st) h Q := by
  refine WP_pure (fun p l e R s m args below meth c U0 a0 D pre cx H locs cells slots Qf LS hR hl k => ?_) k
  obtain ⟨⟨hg, hK, hpre, hZ⟩, hx, hb, hml, hr, hlk, hnm, hown, hW, hfr, hlo, hok⟩ := cx
  obtain ⟨hbp, hd, hlen, hnx, hxx⟩ := hok.at he
  unfold okX at hxx
  rw [hi] at hd hlen hnx hxx
  have hlen := hlen rfl
  have hnx := hnx rfl
  rw [hlen] at hd hnx
  rw [hbp]
  have hal := hW.alike
  rw [hnx] at k
  have hca := hR.2.2.2 a ha
  rw [hc] at hca
  obtain ⟨cell, q1, q2, q3, q4, q5, q6⟩ := hca
  have q2 := State.isArrayOf_alike hal q2
  have hj : (Int32.ofInt i).toNatClampNeg = i.toNat := i32_nat h0 (by omega)
  have hin : ¬ (Int32.ofInt i < 0 ∨ cell.slots.size ≤ (Int32.ofInt i).toNatClampNeg) := by
    rw [hj, q4]
    rintro (z | z)
    · exact i32_nn h0 (by omega) z
    · omega
  exact W.lald hx hb q1 q2 q3 hin (by rw [hj]; exact q6 i.toNat (by omega)) rfl rfl hd (k LS hl)
theorem WP_aald {M : Mth} {d ip : Nat} {ls : LV} {st : List AV} {h : Hp} {Q : Option AV → Hp → Prop} {en : Ent} (he : (mT M)[ip]? = some en) {a n : Nat} {i : Int} {g : Nat → AV} (hi : eI en = .aaload) (hc : h.2.2 a = .inr ((.array .int), n, g)) (ha : a < h.1) (h0 : 0 ≤ i) (h1 : i < n) (k : WP M d (eN en) ls (g i.toNat :: st) h Q) : WP M d ip ls (vi i :: vr a :: st) h Q := by
  refine WP_pure (fun p l e R s m args below meth c U0 a0 D pre cx H locs cells slots Qf LS hR hl k => ?_) k
  obtain ⟨⟨hg, hK, hpre, hZ⟩, hx, hb, hml, hr, hlk, hnm, hown, hW, hfr, hlo, hok⟩ := cx
  obtain ⟨hbp, hd, hlen, hnx, hxx⟩ := hok.at he
  unfold okX at hxx
  rw [hi] at hd hlen hnx hxx
  have hlen := hlen rfl
  have hnx := hnx rfl
  rw [hlen] at hd hnx
  rw [hbp]
  have hal := hW.alike
  rw [hnx] at k
  have hca := hR.2.2.2 a ha
  rw [hc] at hca
  obtain ⟨cell, q1, q2, q3, q4, q5, q6⟩ := hca
  have q2 := State.isArrayOf_alike hal q2
  have hj : (Int32.ofInt i).toNatClampNeg = i.toNat := i32_nat h0 (by omega)
  have hin : ¬ (Int32.ofInt i < 0 ∨ cell.slots.size ≤ (Int32.ofInt i).toNatClampNeg) := by
    rw [hj, q4]
    rintro (z | z)
    · exact i32_nn h0 (by omega) z
    · omega
  exact W.aald (ty := .array .int) hx hb q1 q2 rfl q3 hin (by rw [hj]; exact q6 i.toNat (by omega)) rfl rfl hd (k LS hl)
theorem WP_alen {M : Mth} {d ip : Nat} {ls : LV} {st : List AV} {h : Hp} {Q : Option AV → Hp → Prop} {en : Ent} (he : (mT M)[ip]? = some en) {a n : Nat} {ty : FieldType} {g : Nat → AV} (hi : eI en = .arraylength) (hc : h.2.2 a = .inr (ty, n, g)) (ha : a < h.1) (k : WP M d (eN en) ls (vi (n : Int) :: st) h Q) : WP M d ip ls (vr a :: st) h Q := by
  refine WP_pure (fun p l e R s m args below meth c U0 a0 D pre cx H locs cells slots Qf LS hR hl k => ?_) k
  obtain ⟨⟨hg, hK, hpre, hZ⟩, hx, hb, hml, hr, hlk, hnm, hown, hW, hfr, hlo, hok⟩ := cx
  obtain ⟨hbp, hd, hlen, hnx, hxx⟩ := hok.at he
  unfold okX at hxx
  rw [hi] at hd hlen hnx hxx
  have hlen := hlen rfl
  have hnx := hnx rfl
  rw [hlen] at hd hnx
  rw [hbp]
  have hal := hW.alike
  rw [hnx] at k
  have hca := hR.2.2.2 a ha
  rw [hc] at hca
  obtain ⟨cell, q1, q2, q3, q4, q5, q6⟩ := hca
  exact W.alen (n := Int32.ofInt (n : Int)) hx hb q1 (State.isArrayOf_alike hal q2) (by rw [q4]; exact Int32.ofInt_eq_ofNat.symm) rfl rfl hd (k LS hl)
theorem WP_iast {M : Mth} {d ip : Nat} {ls : LV} {st : List AV} {h : Hp} {Q : Option AV → Hp → Prop} {en : Ent} (he : (mT M)[ip]? = some en) {a n : Nat} {i x : Int} {g : Nat → AV} (hi : eI en = .iastore) (hc : h.2.2 a = .inr (.int, n, g)) (ha : a < h.1) (ha5 : 5 ≤ a) (h0 : 0 ≤ i) (h1 : i < n) (k : WP M d (eN en) ls st (setC h a (.inr (.int, n, fun j => if j = i.toNat then vi x else g j))) Q) : WP M d ip ls (vi x :: vi i :: vr a :: st) h Q := by
  refine WP_wr (fun p l e R s m args below meth c U0 a0 D pre cx H locs cells slots Qf LS hR hl k => ?_) ha5 k
  obtain ⟨⟨hg, hK, hpre, hZ⟩, hx, hb, hml, hr, hlk, hnm, hown, hW, hfr, hlo, hok⟩ := cx
  obtain ⟨hbp, hd, hlen, hnx, hxx⟩ := hok.at he
  unfold okX at hxx
  rw [hi] at hd hlen hnx hxx
  have hlen := hlen rfl
  have hnx := hnx rfl
  rw [hlen] at hd hnx
  rw [hbp]
  have hal := hW.alike
  rw [hnx] at k
  have hca := hR.2.2.2 a ha
  rw [hc] at hca
  obtain ⟨cell, q1, q2, q3, q4, q5, q6⟩ := hca
  have q2' := q2
  have q2 := State.isArrayOf_alike hal q2
  have hj : (Int32.ofInt i).toNatClampNeg = i.toNat := i32_nat h0 (by omega)
  have hin : ¬ (Int32.ofInt i < 0 ∨ cell.slots.size ≤ (Int32.ofInt i).toNatClampNeg) := by
    rw [hj, q4]
    rintro (z | z)
    · exact i32_nn h0 (by omega) z
    · omega
  refine W.iast (x := Int32.ofInt x) hx hb q1 q2 q3 hin rfl rfl hd fun H' e1 e2 e3 => ?_
  rw [hj] at e1
  refine k H' _ ⟨_, e1, q2', q3, by simpa [Cell.setSlot] using q4, q5, fun j hjn => ?_⟩ e2 e3 (fun q hq => ?_)
  · simp only [Cell.setSlot, Array.getElem?_setIfInBounds]
    by_cases e : j = i.toNat
    · subst e
      rw [if_pos rfl, if_pos rfl, if_pos (by rw [q4]; exact hjn)]
      rfl
    · rw [if_neg (fun z => e z.symm), if_neg e]
      exact q6 j hjn
  · rcases List.mem_append.mp hq with z | z
    · exact Or.inl z
    · exact Or.inr (by rw [List.mem_singleton.mp z])
theorem WP_zast {M : Mth} {d ip : Nat} {ls : LV} {st : List AV} {h : Hp} {Q : Option AV → Hp → Prop} {en : Ent} (he : (mT M)[ip]? = some en) {a n : Nat} {i x : Int} {g : Nat → AV} (hi : eI en = .bastore) (hc : h.2.2 a = .inr (.boolean, n, g)) (ha : a < h.1) (ha5 : 5 ≤ a) (h0 : 0 ≤ i) (h1 : i < n) (hz : x = 0 ∨ x = 1) (k : WP M d (eN en) ls st (setC h a (.inr (.boolean, n, fun j => if j = i.toNat then vi x else g j))) Q) : WP M d ip ls (vi x :: vi i :: vr a :: st) h Q := by
  refine WP_wr (fun p l e R s m args below meth c U0 a0 D pre cx H locs cells slots Qf LS hR hl k => ?_) ha5 k
  obtain ⟨⟨hg, hK, hpre, hZ⟩, hx, hb, hml, hr, hlk, hnm, hown, hW, hfr, hlo, hok⟩ := cx
  obtain ⟨hbp, hd, hlen, hnx, hxx⟩ := hok.at he
  unfold okX at hxx
  rw [hi] at hd hlen hnx hxx
  have hlen := hlen rfl
  have hnx := hnx rfl
  rw [hlen] at hd hnx
  rw [hbp]
  have hal := hW.alike
  rw [hnx] at k
  have hca := hR.2.2.2 a ha
  rw [hc] at hca
  obtain ⟨cell, q1, q2, q3, q4, q5, q6⟩ := hca
  have q2' := q2
  have q2 := State.isArrayOf_alike hal q2
  have hj : (Int32.ofInt i).toNatClampNeg = i.toNat := i32_nat h0 (by omega)
  have hin : ¬ (Int32.ofInt i < 0 ∨ cell.slots.size ≤ (Int32.ofInt i).toNatClampNeg) := by
    rw [hj, q4]
    rintro (z | z)
    · exact i32_nn h0 (by omega) z
    · omega
  refine W.zast (x := Int32.ofInt x) hx hb q1 q2 q3 hin rfl rfl hd fun H' e1 e2 e3 => ?_
  rw [hj] at e1
  refine k H' _ ⟨_, e1, q2', q3, by simpa [Cell.setSlot] using q4, q5, fun j hjn => ?_⟩ e2 e3 (fun q hq => ?_)
  · simp only [Cell.setSlot, Array.getElem?_setIfInBounds]
    by_cases e : j = i.toNat
    · subst e
      rw [if_pos rfl, if_pos rfl, if_pos (by rw [q4]; exact hjn)]
      rw [(fok_n (sg U0 pre) (ty := .boolean) (v := vi x) hz).1.symm]
      rfl
    · rw [if_neg (fun z => e z.symm), if_neg e]
      exact q6 j hjn
  · rcases List.mem_append.mp hq with z | z
    · exact Or.inl z
    · exact Or.inr (by rw [List.mem_singleton.mp z])
theorem WP_last {M : Mth} {d ip : Nat} {ls : LV} {st : List AV} {h : Hp} {Q : Option AV → Hp → Prop} {en : Ent} (he : (mT M)[ip]? = some en) {a n : Nat} {i x : Int} {g : Nat → AV} (hi : eI en = .lastore) (hc : h.2.2 a = .inr (.long, n, g)) (ha : a < h.1) (ha5 : 5 ≤ a) (h0 : 0 ≤ i) (h1 : i < n) (k : WP M d (eN en) ls st (setC h a (.inr (.long, n, fun j => if j = i.toNat then vl x else g j))) Q) : WP M d ip ls (vl x :: vi i :: vr a :: st) h Q := by
  refine WP_wr (fun p l e R s m args below meth c U0 a0 D pre cx H locs cells slots Qf LS hR hl k => ?_) ha5 k
  obtain ⟨⟨hg, hK, hpre, hZ⟩, hx, hb, hml, hr, hlk, hnm, hown, hW, hfr, hlo, hok⟩ := cx
  obtain ⟨hbp, hd, hlen, hnx, hxx⟩ := hok.at he
  unfold okX at hxx
  rw [hi] at hd hlen hnx hxx
  have hlen := hlen rfl
  have hnx := hnx rfl
  rw [hlen] at hd hnx
  rw [hbp]
  have hal := hW.alike
  rw [hnx] at k
  have hca := hR.2.2.2 a ha
  rw [hc] at hca
  obtain ⟨cell, q1, q2, q3, q4, q5, q6⟩ := hca
  have q2' := q2
  have q2 := State.isArrayOf_alike hal q2
  have hj : (Int32.ofInt i).toNatClampNeg = i.toNat := i32_nat h0 (by omega)
  have hin : ¬ (Int32.ofInt i < 0 ∨ cell.slots.size ≤ (Int32.ofInt i).toNatClampNeg) := by
    rw [hj, q4]
    rintro (z | z)
    · exact i32_nn h0 (by omega) z
    · omega
  refine W.last (x := Int64.ofInt x) hx hb q1 q2 q3 hin rfl rfl hd fun H' e1 e2 e3 => ?_
  rw [hj] at e1
  refine k H' _ ⟨_, e1, q2', q3, by simpa [Cell.setSlot] using q4, q5, fun j hjn => ?_⟩ e2 e3 (fun q hq => ?_)
  · simp only [Cell.setSlot, Array.getElem?_setIfInBounds]
    by_cases e : j = i.toNat
    · subst e
      rw [if_pos rfl, if_pos rfl, if_pos (by rw [q4]; exact hjn)]
      rfl
    · rw [if_neg (fun z => e z.symm), if_neg e]
      exact q6 j hjn
  · rcases List.mem_append.mp hq with z | z
    · exact Or.inl z
    · exact Or.inr (by rw [List.mem_singleton.mp z])
theorem WP_gets {M : Mth} {d ip : Nat} {ls : LV} {st : List AV} {h : Hp} {Q : Option AV → Hp → Prop} {en : Ent} (he : (mT M)[ip]? = some en) {i : Nat} (hi : eI en = .getstatic i) (k : WP M d (eN en) ls (vr (eX en) :: st) h Q) : WP M d ip ls st h Q := by
  refine WP_pure (fun p l e R s m args below meth c U0 a0 D pre cx H locs cells slots Qf LS hR hl k => ?_) k
  obtain ⟨⟨hg, hK, hpre, hZ⟩, hx, hb, hml, hr, hlk, hnm, hown, hW, hfr, hlo, hok⟩ := cx
  obtain ⟨hbp, hd, hlen, hnx, hxx⟩ := hok.at he
  unfold okX at hxx
  rw [hi] at hd hlen hnx hxx
  have hlen := hlen rfl
  have hnx := hnx rfl
  rw [hlen] at hd hnx
  rw [hbp]
  have hal := hW.alike
  rw [hnx] at k
  simp only [Bool.and_eq_true, Bool.or_eq_true, decide_eq_true_eq] at hxx
  obtain ⟨⟨x1, x2⟩, x3⟩ := hxx
  obtain ⟨cf, kf, fi, f, a, cell, z1, z2, z3, z4, z5, z6, z7, z8⟩ := va_Z.moved hal (hZ _ x1 x2)
  have hlt : a < U0.heap.size := (Array.getElem?_eq_some_iff.mp z5).1
  have hcl : H[a]? = some cell := by rw [hR.2.2.1 a hlt]; exact z5
  have ev : cv (sg U0 pre) (vr (eX en)) = .ref (pre (eX en)) := by
    show Value.ref (sg U0 pre (eX en)) = _
    unfold sg
    rw [if_pos x2]
  have k9 := k LS hl
  rw [List.map_cons, ev] at k9
  rcases x3 with x3 | x3
  · exact W.gets hx hb hown (wd hg hW x3 rfl) z1 z2 z3 z4 hcl (fun q => by rw [q] at z6; cases z6) z7 rfl hd k9
  · have hn : va_Nw (.fieldLinkNest (mY M).cls i (sN (eX en)).1 (sN (eX en)).2.1 (sN (eX en)).2.2 "FloorPlans") s := va_Nw.warmF hW (va_Nw.of rfl (hg _ (List.mem_of_getElem? x3)))
    exact va_WgetsN hx hb hown (va_Nw.use rfl hn) z1 z2 z3 z4 hcl (fun q => by rw [q] at z6; cases z6) z7 rfl hd k9
end
section
/-! what is made: objects, rows, grids; copies; the first constructor of all -/
def clN : Nat → Nat × Nat
  | 0 => (223, 49)
  | 1 => (63, 44)
  | 2 => (237, 50)
  | 3 => (175, 48)
  | 4 => (128, 47)
  | 5 => (55, 43)
  | _ => (669, 51)
theorem clNew (ci : Nat) (q : vw_C) (h : vwCl[ci]? = some q) : lw_tbl[(clN ci).1]? = some (.instantiable q.1 q.2.2) ∧ lw_tbl[(clN ci).2]? = some (.initialized q.1) := by
  match ci, h with
  | 0, h => cases h; exact ⟨by decide +kernel, by decide +kernel⟩
  | 1, h => cases h; exact ⟨by decide +kernel, by decide +kernel⟩
  | 2, h => cases h; exact ⟨by decide +kernel, by decide +kernel⟩
  | 3, h => cases h; exact ⟨by decide +kernel, by decide +kernel⟩
  | 4, h => cases h; exact ⟨by decide +kernel, by decide +kernel⟩
  | 5, h => cases h; exact ⟨by decide +kernel, by decide +kernel⟩
  | 6, h => cases h; exact ⟨by decide +kernel, by decide +kernel⟩
  | k + 7, h => simp [vwCl] at h
def dfl : FieldType → AV
  | .long => vl 0
  | .object _ => vn
  | .array _ => vn
  | _ => vi 0
def dfok : FieldType → Bool
  | .float => false
  | .double => false
  | _ => true
theorem dfl_cv (f : Nat → Nat) (ty : FieldType) (h : dfok ty = true) : cv f (dfl ty) = defaultValue ty := by cases ty <;> first | rfl | cases h
def nfs (ci n : Nat) : List AV := (List.range n).map fun j => dfl (clT ci j)
theorem clD (ci : Nat) (q : vw_C) (h : vwCl[ci]? = some q) : ∀ j, j < q.2.2 → dfok (clT ci j) = true := by
  match ci, h with
  | 0, h => cases h; decide +kernel
  | 1, h => cases h; decide +kernel
  | 2, h => cases h; decide +kernel
  | 3, h => cases h; decide +kernel
  | 4, h => cases h; decide +kernel
  | 5, h => cases h; decide +kernel
  | 6, h => cases h; decide +kernel
  | k + 7, h => simp [vwCl] at h
theorem WP_new {M : Mth} {d ip : Nat} {ls : LV} {st : List AV} {h : Hp} {Q : Option AV → Hp → Prop} {en : Ent} (he : (mT M)[ip]? = some en) {i n : Nat} (hi : eI en = .new i) (hw : (eW en == 99999) = false) (hn : ((vwCl[eX en]?).getD ("", TX0, 0)).2.2 = n) (k : WP M d (eN en) ls (vr h.1 :: st) (addC h n (.inl (eX en, nfs (eX en) n))) Q) : WP M d ip ls st h Q := by
  refine WP_ad n (fun p l e R s m args below meth c U0 a0 D pre cx H locs cells slots Qf LS hR hl hcells hslots k => ?_) k
  obtain ⟨⟨hg, hK, hpre, hZ⟩, hx, hb, hml, hr, hlk, hnm, hown, hW, hfr, hlo, hok⟩ := cx
  obtain ⟨hbp, hd, hlen, hnx, hxx⟩ := hok.at he
  unfold okX at hxx
  rw [hi] at hd hlen hnx hxx
  have hlen := hlen rfl
  have hnx := hnx rfl
  rw [hlen] at hd hnx
  rw [hbp]
  have hal := hW.alike
  rw [hnx] at k
  dsimp only at hxx
  rw [hw, Bool.false_or] at hxx
  split at hxx
  · rename_i q hq
    have hxx := of_decide_eq_true hxx
    rw [hq] at hn
    have hn : q.2.2 = n := hn
    subst hn
    obtain ⟨c1, c2, c3⟩ := clOK _ _ hq
    obtain ⟨n1, n2⟩ := clNew _ _ hq
    have hts : ∀ w ∈ u_ws q.1 q.2.1 q.2.2, w.before args s = true := fun w hw => word_at hW (good_of_word (c1 w hw).2) (hg w (c1 w hw).1)
    have hKs := va_K.moved hal hK
    have hKn := hKs.1 _ _ hq
    refine W.newcK hx hb hown (wd hg hW hxx rfl) (wd hg hW n1 rfl) (wd hg hW n2 rfl) rfl hd hcells hslots hKn.2.1 rfl fun H1 kC hkC e1 z1 o1 => ?_
    have k9 := k H1 (by
      rw [hR.sgn]
      refine ⟨q, hq, by simp [nfs], (u_born (clT (eX en)) hts (fun _ z => z) hKn hkC e1 c2).to (fun j hj => ?_)⟩
      rw [← dfl_cv (sg U0 pre) _ (clD _ _ hq j hj)]
      simp [vp_V, nfs, hj]) z1 o1
    have e9 : cv (sg U0 pre) (vr h.1) = .ref H.size := congrArg Value.ref hR.sgn
    rw [List.map_cons, e9] at k9
    exact k9
  · cases hxx
theorem WP_newa {M : Mth} {d ip : Nat} {ls : LV} {st : List AV} {h : Hp} {Q : Option AV → Hp → Prop} {en : Ent} (he : (mT M)[ip]? = some en) {t : ArrayType} {ty : FieldType} {i : Int} {n : Nat} (hi : eI en = .newarray t) (hty : newarray.typeOf t = ty) (hdo : dfok ty = true) (h0 : 0 ≤ i) (hn : i.toNat = n) (h1 : n ≤ 60000) (k : WP M d (eN en) ls (vr h.1 :: st) (addC h n (.inr (ty, n, fun _ => dfl ty))) Q) : WP M d ip ls (vi i :: st) h Q := by
  refine WP_ad n (fun p l e R s m args below meth c U0 a0 D pre cx H locs cells slots Qf LS hR hl hcells hslots k => ?_) k
  obtain ⟨⟨hg, hK, hpre, hZ⟩, hx, hb, hml, hr, hlk, hnm, hown, hW, hfr, hlo, hok⟩ := cx
  obtain ⟨hbp, hd, hlen, hnx, hxx⟩ := hok.at he
  unfold okX at hxx
  rw [hi] at hd hlen hnx hxx
  have hlen := hlen rfl
  have hnx := hnx rfl
  rw [hlen] at hd hnx
  rw [hbp]
  have hal := hW.alike
  rw [hnx] at k
  have hxx := of_decide_eq_true hxx
  have hj : (Int32.ofInt i).toNatClampNeg = n := by rw [i32_nat h0 (by omega)]; exact hn
  have hbytes : n * componentBytes (newarray.typeOf t) ≤ 536870912 := by
    have : componentBytes (newarray.typeOf t) ≤ 8 := by cases (newarray.typeOf t) <;> simp [componentBytes]
    have := Nat.mul_le_mul h1 this
    omega
  refine W.newaK (n := Int32.ofInt i) (N := n) hx hb (wd hg hW hxx rfl) rfl hd rfl (i32_nn h0 (by omega)) hj hbytes hcells hslots rfl fun H1 cA e1 z1 o1 hA => ?_
  have k9 := k H1 (by
    rw [hR.sgn]
    refine ⟨_, e1, by rw [← hty]; exact State.isArrayOf_alike hal.symm (hA _ _), (fun z => by cases z), arrV_size _ _ _, by omega, fun j hj => ?_⟩
    rw [arrV_read _ _ hj, hty, dfl_cv _ _ hdo]) z1 o1
  have e9 : cv (sg U0 pre) (vr h.1) = .ref H.size := congrArg Value.ref hR.sgn
  rw [List.map_cons, e9] at k9
  exact k9
theorem WP_oinit {M : Mth} {d ip : Nat} {ls : LV} {st : List AV} {h : Hp} {Q : Option AV → Hp → Prop} {en : Ent} (he : (mT M)[ip]? = some en) {i a : Nat} (hi : eI en = .invokespecial i) (hw : (eW en == 99999) = false) (hy : NM[eX en]? = some objectInit) (hs8 : (st.map ac).sum ≤ 8) (k : WP M (d + 1) (eN en) ls st h Q) : WP M (d + 1) ip ls (vr a :: st) h Q := by
  refine WP_pure (fun p l e R s m args below meth c U0 a0 D pre cx H locs cells slots Qf LS hR hl k => ?_) k
  obtain ⟨⟨hg, hK, hpre, hZ⟩, hx, hb, hml, hr, hlk, hnm, hown, hW, hfr, hlo, hok⟩ := cx
  obtain ⟨hbp, hd, hlen, hnx, hxx⟩ := hok.at he
  unfold okX at hxx
  rw [hi] at hd hlen hnx hxx
  have hlen := hlen rfl
  have hnx := hnx rfl
  rw [hlen] at hd hnx
  rw [hbp]
  have hal := hW.alike
  rw [hnx] at k
  dsimp only at hxx
  rw [hw, hy, Bool.false_or] at hxx
  have hxx := of_decide_eq_true hxx
  have ecat : ((st.map (cv (sg U0 pre))).map fun v => v.category).sum = (st.map ac).sum := by
    rw [List.map_map]
    congr 1
    apply List.map_congr_left
    intro v _
    exact cv_cat _ v
  refine W.objInit hx hb hown (wd hg hW hxx rfl) (wd hg hW (i := 60) (by decide +kernel) rfl) (wd hg hW (i := 61) (w := Cond.code objectInit ⟨#[0xb1]⟩ 1 none) (by decide +kernel) rfl) rfl (by rw [hml]; exact hl.1) rfl hd (by omega) ?_ (k LS hl)
  show 2 * 0 + ((st.map (cv (sg U0 pre))).map fun v => v.category).sum + 12 ≤ R.locals
  rw [ecat]
  omega
theorem nfw : nativeFrameWords "java/lang/System" "arraycopy" 5 + 11 ≤ 52 := by decide
theorem WP_copy {M : Mth} {d ip : Nat} {ls : LV} {st : List AV} {h : Hp} {Q : Option AV → Hp → Prop} {en : Ent} (he : (mT M)[ip]? = some en) {i a b n0 n1 : Nat} {sp dp n : Int} {f g : Nat → AV} (hi : eI en = .invokestatic i) (hw : (eW en == 99999) = false) (hny : (eY en == 1) = false) (hy : NM[eX en]? = some arraycopyName) (hs8 : (st.map ac).sum ≤ 8) (hca : h.2.2 a = .inr (.int, n0, f)) (haN : a < h.1) (hcb : h.2.2 b = .inr (.int, n1, g)) (hbN : b < h.1) (ha5 : 5 ≤ b) (h1 : 0 ≤ sp) (h2 : 0 ≤ dp) (h3 : 0 ≤ n) (h4 : sp + n ≤ n0) (h5 : dp + n ≤ n1) (hf : ∀ j, j < n0 → ∃ z, f j = vi z)
    (k : WP M (d + 1) (eN en) ls st (setC h b (.inr (.int, n1, fun j => if dp.toNat ≤ j ∧ j < dp.toNat + n.toNat then f (sp.toNat + (j - dp.toNat)) else g j))) Q) : WP M (d + 1) ip ls (vi n :: vi dp :: vr b :: vi sp :: vr a :: st) h Q := by
  refine WP_wr (fun p l e R s m args below meth c U0 a0 D pre cx H locs cells slots Qf LS hR hl k => ?_) ha5 k
  obtain ⟨⟨hg, hK, hpre, hZ⟩, hx, hb, hml, hr, hlk, hnm, hown, hW, hfr, hlo, hok⟩ := cx
  obtain ⟨hbp, hd, hlen, hnx, hxx⟩ := hok.at he
  unfold okX at hxx
  rw [hi] at hd hlen hnx hxx
  have hlen := hlen rfl
  have hnx := hnx rfl
  rw [hlen] at hd hnx
  rw [hbp]
  have hal := hW.alike
  rw [hnx] at k
  dsimp only at hxx
  rw [hw, hy, hny, Bool.false_or] at hxx
  have hxx := of_decide_eq_true hxx
  have hca := hca ▸ hR.2.2.2 a haN
  have hcb := hcb ▸ hR.2.2.2 b hbN
  obtain ⟨cs, q1, q2, q3, q4, q5, q6⟩ := hca
  obtain ⟨cd, r1, r2, r3, r4, r5, r6⟩ := hcb
  have hlk : (Cond.methodLink (mY M).cls i arraycopyName).before args s = true := wd hg hW hxx rfl
  obtain ⟨q7, ks, hks, scm, hsk⟩ := State.isArrayOf_alike hal q2
  obtain ⟨r7, kd, hkd, dcm, hdk⟩ := State.isArrayOf_alike hal r2
  have ecat : ((st.map (cv (sg U0 pre))).map fun v => v.category).sum = (st.map ac).sum := by
    rw [List.map_map]
    congr 1
    apply List.map_congr_left
    intro v _
    exact cv_cat _ v
  have j1 : (Int32.ofInt sp).toNatClampNeg = sp.toNat := i32_nat h1 (by omega)
  have j2 : (Int32.ofInt dp).toNatClampNeg = dp.toNat := i32_nat h2 (by omega)
  have j3 : (Int32.ofInt n).toNatClampNeg = n.toNat := i32_nat h3 (by omega)
  have t1 : (Int32.ofInt sp).toInt = sp := i32_toInt ⟨by omega, by omega⟩
  have t2 : (Int32.ofInt dp).toInt = dp := i32_toInt ⟨by omega, by omega⟩
  have t3 : (Int32.ofInt n).toInt = n := i32_toInt ⟨by omega, by omega⟩
  have hval : ∀ j, j < n.toNat → cs.slots.getD (sp.toNat + j) .null = cv (sg U0 pre) (f (sp.toNat + j)) := fun j hj => by
    rw [Array.getD_eq_getD_getElem?, q6 _ (by omega)]
    rfl
  intro T hT X
  obtain ⟨vm', X', step⟩ := X.arraycopy hx hown hlk (wd hg hW (i := 76) (by decide +kernel) rfl) (wd hg hW (i := 75) (by decide +kernel) rfl) (wd hg hW (i := 45) (by decide +kernel) rfl) (src := sg U0 pre a) (dst := sg U0 pre b) (cs := cs) (cd := cd) (srcPos := Int32.ofInt sp) (destPos := Int32.ofInt dp) (n := Int32.ofInt n) (by rw [hT]; exact q1) (by rw [hT]; exact r1)
    q7 r7 q3 r3 hks hkd hsk hdk rfl (i32_nn h1 (by omega)) (i32_nn h2 (by omega)) (i32_nn h3 (by omega))
    (by rw [t1, t3, q4]; omega) (by rw [t2, t3, r4]; omega)
    (fun vm₁ _ j hj => by
      rw [j3] at hj
      rw [j1, hval j hj]
      obtain ⟨z, ez⟩ := hf (sp.toNat + j) (by omega)
      rw [ez]
      exact ⟨rfl, trivial⟩)
    (g := F0 m (ePc en) LS ((vi n :: vi dp :: vr b :: vi sp :: vr a :: st).map (cv (sg U0 pre)))) rfl (by rw [hml]; exact hl.1) (rest := st.map (cv (sg U0 pre))) rfl (by rw [hb]; exact hd) (by omega) (by
      show 2 * 0 + ((st.map (cv (sg U0 pre))).map fun v => v.category).sum + _ ≤ R.locals
      rw [ecat]
      have := nfw
      omega)
  have hl9 : sg U0 pre b < H.size := (Array.getElem?_eq_some_iff.mp r1).1
  have hheap : ((T.setVm vm').setCell (sg U0 pre b) (copied cs cd (Int32.ofInt sp) (Int32.ofInt dp) (Int32.ofInt n))).heap = H.setIfInBounds (sg U0 pre b) (copied cs cd (Int32.ofInt sp) (Int32.ofInt dp) (Int32.ofInt n)) := by rw [← hT]; rfl
  have hst : ∀ j, j < n1 → (copied cs cd (Int32.ofInt sp) (Int32.ofInt dp) (Int32.ofInt n)).slots[j]? = some (cv (sg U0 pre) (if dp.toNat ≤ j ∧ j < dp.toNat + n.toNat then f (sp.toNat + (j - dp.toNat)) else g j)) := by
    intro j hj
    have elen : (cs.stretch (Int32.ofInt sp).toNatClampNeg (Int32.ofInt n).toNatClampNeg).length = n.toNat := by rw [j3]; simp [Cell.stretch]
    show (cd.storeRun (Int32.ofInt dp).toNatClampNeg (cs.stretch (Int32.ofInt sp).toNatClampNeg (Int32.ofInt n).toNatClampNeg)).slots[j]? = _
    rw [Cell.storeRun_get _ _ _ _ (by rw [elen, j2, r4]; omega), elen, j2]
    by_cases hj2 : dp.toNat ≤ j ∧ j < dp.toNat + n.toNat
    · rw [if_pos hj2, if_pos hj2]
      unfold Cell.stretch
      rw [j1, j3, List.getElem?_map, List.getElem?_range (by omega)]
      exact congrArg some (hval (j - dp.toNat) (by omega))
    · rw [if_neg hj2, if_neg hj2]
      exact r6 j hj
  have hcc : (copied cs cd (Int32.ofInt sp) (Int32.ofInt dp) (Int32.ofInt n)).cls = cd.cls ∧ (copied cs cd (Int32.ofInt sp) (Int32.ofInt dp) (Int32.ofInt n)).vm = cd.vm ∧ (copied cs cd (Int32.ofInt sp) (Int32.ofInt dp) (Int32.ofInt n)).slots.size = cd.slots.size := by
    obtain ⟨w1, w2, w3, -, -⟩ := cd.storeRun_facts (Int32.ofInt dp).toNatClampNeg (cs.stretch (Int32.ofInt sp).toNatClampNeg (Int32.ofInt n).toNatClampNeg)
    exact ⟨w1, w2, w3⟩
  obtain ⟨t, b1, b2⟩ := k (H.setIfInBounds (sg U0 pre b) (copied cs cd (Int32.ofInt sp) (Int32.ofInt dp) (Int32.ofInt n))) _ ⟨copied cs cd (Int32.ofInt sp) (Int32.ofInt dp) (Int32.ofInt n), by simp [Array.getElem?_setIfInBounds, hl9], ⟨by rw [hcc.2.1]; exact r2.1, by rw [hcc.1]; exact r2.2⟩, by rw [hcc.2.1]; exact r3, by rw [hcc.2.2]; exact r4, r5, hst⟩ (by simp) (fun q hq => by simp [Array.getElem?_setIfInBounds, Ne.symm hq]) (fun q hq => by
      rcases List.mem_append.mp hq with z | z
      · exact Or.inl z
      · obtain ⟨w, -, hw9⟩ := List.mem_map.mp z
        exact Or.inr (by rw [← hw9])) _ hheap X'
  exact ⟨t, step t b1, b2⟩
end
section
/-! new int[N][K]: an outer row of N rows -/
section GridLaws
def gO (c : ClassId) (N h0 i : Nat) : Cell := arrV c N (fun j => if j < i then .ref (h0 + 1 + j) else .null)
def gI (c : ClassId) (K : Nat) (z : Value) : Cell := arrV c K (fun _ => z)
def gF (s : State) (c comp : ClassId) (N K : Nat) (z : Value) : Nat → State
  | 0 => s.pushCell (gO c N s.heap.size 0)
  | i + 1 => ((gF s c comp N K z i).pushCell (gI comp K z)).setCell s.heap.size (gO c N s.heap.size (i + 1))
theorem gO_next (c : ClassId) (N h0 i : Nat) : (gO c N h0 i).setSlot i (.ref (h0 + 1 + i)) = gO c N h0 (i + 1) := by
  unfold gO
  rw [arrV_store]
  refine congrArg (arrV c N) (funext fun j => ?_)
  unfold updV
  by_cases e : j = i
  · subst e; simp
  · by_cases q : j < i
    · rw [if_neg e]
      dsimp only
      rw [if_pos q, if_pos (by omega)]
    · rw [if_neg e]
      dsimp only
      rw [if_neg q, if_neg (by omega)]
theorem gF_at (s : State) (c comp : ClassId) (N K : Nat) (z : Value) : ∀ i, (gF s c comp N K z i).heap.size = s.heap.size + 1 + i ∧ (gF s c comp N K z i).heap[s.heap.size]? = some (gO c N s.heap.size i) ∧ (gF s c comp N K z i).vm = s.vm ∧ (gF s c comp N K z i).slotsUsed = s.slotsUsed + N + i * K
  | 0 => ⟨by simp [gF], by simp [gF], rfl, by simp [gF, gO, arrV_size]⟩
  | i + 1 => by
    obtain ⟨a, b, d, u⟩ := gF_at s c comp N K z i
    have hlt : s.heap.size < (gF s c comp N K z i).heap.size := by omega
    have hb : ((gF s c comp N K z i).pushCell (gI comp K z)).heap[s.heap.size]? = some (gO c N s.heap.size i) := by rw [State.heap_pushCell_of_lt (h := hlt)]; exact b
    refine ⟨?_, State.heap_setCell_self hb, by simp [gF, d], ?_⟩
    · simp [gF, State.setCell, a]; omega
    · simp [gF, u, gI, arrV_size, Nat.succ_mul]; omega
theorem gF_old (s : State) (c comp : ClassId) (N K : Nat) (z : Value) {a : Addr} (ha : a < s.heap.size) : ∀ i, (gF s c comp N K z i).heap[a]? = s.heap[a]?
  | 0 => State.heap_pushCell_of_lt _ _ ha
  | i + 1 => by
    have f1 := (gF_at s c comp N K z i).1
    have hlt : a < (gF s c comp N K z i).heap.size := Nat.lt_of_lt_of_le ha (by rw [f1]; omega)
    show (((gF s c comp N K z i).pushCell (gI comp K z)).setCell s.heap.size _).heap[a]? = _
    rw [State.heap_setCell_other (Nat.ne_of_gt ha), State.heap_pushCell_of_lt (h := hlt)]
    exact gF_old s c comp N K z ha i
theorem gF_row (s : State) (c comp : ClassId) (N K : Nat) (z : Value) : ∀ i j, j < i → (gF s c comp N K z i).heap[s.heap.size + 1 + j]? = some (gI comp K z)
  | 0, _, h => absurd h (Nat.not_lt_zero _)
  | i + 1, j, h => by
    have f1 := (gF_at s c comp N K z i).1
    show (((gF s c comp N K z i).pushCell (gI comp K z)).setCell s.heap.size _).heap[s.heap.size + 1 + j]? = _
    rw [State.heap_setCell_other (show s.heap.size ≠ s.heap.size + 1 + j by omega)]
    rcases Nat.lt_or_ge j i with hj | hj
    · have hlt : s.heap.size + 1 + j < (gF s c comp N K z i).heap.size := by rw [f1]; omega
      rw [State.heap_pushCell_of_lt (h := hlt)]
      exact gF_row s c comp N K z i j hj
    · have e : j = i := by omega
      subst e
      rw [← f1]
      exact State.heap_pushCell_size _ _
theorem gF_setTop (s : State) (f : JFrame) (c comp : ClassId) (N K : Nat) (z : Value) : ∀ i, gF (s.setTop f) c comp N K z i = (gF s c comp N K z i).setTop f
  | 0 => rfl
  | i + 1 => by simp only [gF, gF_setTop s f c comp N K z i, State.heap_setTop, State.pushCell_setTop, State.setCell_setTop]
section
variable {E : CtlPost} {e : Env} {d : Bool} {acts : List Action} {s : State}
theorem g_newArray {c comp : ClassId} {k : Class} {type : FieldType} {len : Nat} {init : Value} (hk : s.vm.classes[c]? = some k) (hkind : k.kind = .array comp type)
    (hlimit : ¬ len > e.platform.arrayLengthLimit) (hheap : ¬ len * componentBytes type > e.platform.maxHeapBytes) (hfit : fits type init = true) (hdef : init.isDefault = true) {Q : Addr → Pre}
    (h1 : s.heap.size < e.platform.maxCells) (h2 : s.slotsUsed + len ≤ e.platform.maxSlots)
    (hq : Q s.heap.size d acts (s.pushCell (arrV c len (fun _ => init)))) :
    wp (Jvm.newArray c len init) Q E e d acts s := by
  have ec : ({ cls := c, slots := Array.replicate len init, vm := .none } : Cell) = arrV c len (fun _ => init) := arrV_new c len init
  rw [← ec] at hq
  have hfits : ∀ i v, (Array.replicate len init)[i]? = some v → s.fitsSlot c .none i v = true := by
    intro i v hv
    simp only [Array.getElem?_replicate] at hv
    split at hv
    · cases hv; simp [State.fitsSlot, State.slotType?, hk, hkind, hfit]
    · cases hv
  have hda : allocActs (Array.replicate len init) s.heap.size acts = acts := by
    have hall : ((Array.replicate len init).all (·.isDefault)) = true := by
      rw [Array.all_replicate]; split <;> simp [hdef]
    unfold allocActs; rw [if_pos hall]
  simp only [Jvm.newArray, Jvm.arrayFits, wp_bind', W.ask, W.ite, hlimit, if_false, wp_pure', W.theClass, hk, hkind, hheap, W.alloc, W.stop, Option.some.injEq, exists_eq_left', Array.size_replicate, hda]
  rw [if_neg (by omega)]
  exact ⟨h1, h2, hfits, hq⟩
theorem g_make1 {comp cc : ClassId} {kc : Class} {n : Int32} (hkc : s.vm.classes[comp]? = some kc) (hkindc : kc.kind = .array cc .int) (hn : ¬ n < 0)
    (hl2 : ¬ n.toNatClampNeg > e.platform.arrayLengthLimit) (hh2 : ¬ n.toNatClampNeg * componentBytes .int > e.platform.maxHeapBytes)
    (h1 : s.heap.size < e.platform.maxCells) (h2 : s.slotsUsed + n.toNatClampNeg ≤ e.platform.maxSlots)
    {Q : Addr → Pre} (hq : Q s.heap.size d acts (s.pushCell (gI comp n.toNatClampNeg (.int 0)))) :
    wp (multianewarray.make comp [n]) Q E e d acts s := by
  rw [multianewarray.make]
  simp only [wp_bind', W.ite, hn, if_false, wp_pure', W.theClass, hkc, hkindc, Option.some.injEq, exists_eq_left']
  exact g_newArray hkc hkindc hl2 hh2 rfl rfl h1 h2 hq
theorem g_make2 {c comp cc : ClassId} {k kc : Class} {n m : Int32} (hk : s.vm.classes[c]? = some k) (hkind : k.kind = .array comp (.array .int))
    (hkc : s.vm.classes[comp]? = some kc) (hkindc : kc.kind = .array cc .int) (hn : ¬ n < 0) (hm : ¬ m < 0)
    (hl1 : ¬ n.toNatClampNeg > e.platform.arrayLengthLimit) (hh1 : ¬ n.toNatClampNeg * componentBytes (.array .int) > e.platform.maxHeapBytes)
    (hl2 : ¬ m.toNatClampNeg > e.platform.arrayLengthLimit) (hh2 : ¬ m.toNatClampNeg * componentBytes .int > e.platform.maxHeapBytes)
    (hc : s.heap.size + 1 + n.toNatClampNeg ≤ e.platform.maxCells) (hs : s.slotsUsed + n.toNatClampNeg + n.toNatClampNeg * m.toNatClampNeg ≤ e.platform.maxSlots)
    {Q : Addr → Pre} (hq : ∀ d' acts', Q s.heap.size d' acts' (gF s c comp n.toNatClampNeg m.toNatClampNeg (.int 0) n.toNatClampNeg)) :
    wp (multianewarray.make c [n, m]) Q E e d acts s := by
  have hfind : ([m].find? (· < 0)) = none := by simp [hm]
  rw [multianewarray.make]
  simp only [wp_bind', W.ite, hn, if_false, wp_pure', W.theClass, hk, hkind, Option.some.injEq, exists_eq_left']
  refine g_newArray hk hkind hl1 hh1 rfl rfl (by omega) (by have := Nat.zero_le (n.toNatClampNeg * m.toNatClampNeg); omega) ?_
  simp only [hfind]
  rw [ite_self, wp_bind', Std.Legacy.Range.forIn_eq_forIn_range']
  have hsz : ([:n.toNatClampNeg] : Std.Legacy.Range).size = n.toNatClampNeg := by simp [Std.Legacy.Range.size]
  rw [hsz]
  show wp (forIn (List.range' 0 n.toNatClampNeg 1) PUnit.unit _) _ E e d acts _
  refine wp_forIn_inv (fun rest s' => ∃ i, i ≤ n.toNatClampNeg ∧ rest = List.range' i (n.toNatClampNeg - i) ∧ s' = gF s c comp n.toNatClampNeg m.toNatClampNeg (.int 0) i) _ _ ⟨0, Nat.zero_le _, rfl, ?_⟩ ?_ ?_
  · rfl
  · rintro x rest s' d' acts' Q' ⟨i, hi, hl, rfl⟩ hnext
    have hlt : i < n.toNatClampNeg := by
      rcases Nat.lt_or_ge i n.toNatClampNeg with h | h
      · exact h
      · rw [show n.toNatClampNeg - i = 0 from by omega] at hl; simp at hl
    obtain ⟨rfl, hrest⟩ : x = i ∧ rest = List.range' (i + 1) (n.toNatClampNeg - (i + 1)) := by
      rw [show n.toNatClampNeg - i = (n.toNatClampNeg - (i + 1)) + 1 from by omega, List.range'_succ] at hl
      exact ⟨(List.cons.inj hl).1, (List.cons.inj hl).2⟩
    obtain ⟨f1, f2, f3, f4⟩ := gF_at s c comp n.toNatClampNeg m.toNatClampNeg (.int 0) x
    have hmul : x * m.toNatClampNeg + m.toNatClampNeg ≤ n.toNatClampNeg * m.toNatClampNeg := by
      have := Nat.mul_le_mul_right m.toNatClampNeg (show x + 1 ≤ n.toNatClampNeg from hlt)
      rw [Nat.succ_mul] at this; exact this
    simp only [wp_bind']
    refine g_make1 (by rw [f3]; exact hkc) hkindc hm hl2 hh2 (by rw [f1]; omega) (by rw [f4]; omega) ?_
    have hlt0 : s.heap.size < (gF s c comp n.toNatClampNeg m.toNatClampNeg (.int 0) x).heap.size := by rw [f1]; omega
    simp only [wp_bind', W.writeLoc, wp_pure']
    refine ⟨gO c n.toNatClampNeg s.heap.size x, by rw [State.heap_pushCell_of_lt (h := hlt0)]; exact f2, (fun h => by cases h), by unfold gO; rw [arrV_size]; exact hlt, ?_, hnext _ _ _ ⟨x + 1, hlt, hrest, ?_⟩⟩
    · simp [State.fitsSlot, State.slotType?, f3, hk, hkind, gO, arrV, fits]
    · rw [f1, gO_next]; rfl
  · rintro s' d' acts' ⟨i, hi, hl, rfl⟩
    have hiN : i = n.toNatClampNeg := by
      rcases Nat.lt_or_ge i n.toNatClampNeg with h | h
      · rw [show n.toNatClampNeg - i = (n.toNatClampNeg - (i + 1)) + 1 from by omega, List.range'_succ] at hl; cases hl
      · omega
    subst hiN
    simp only [wp_pure']
    exact hq _ _
end
section
variable {p : Program} {l : Launch} {e : Env} {R : Room} {s : State} {m : MethodId} {args : Array Value} {below : List Frame} {meth : Method} {c : Code} {T : State} {locs : List Loc} {cells slots : Nat}
theorem gStand (X : Stand p l e R s m args below meth c T locs cells slots) (cA comp : ClassId) (N K : Nat) (z : Value) :
    ∀ i, Stand p l e R s m args below meth c (gF T cA comp N K z i) (locs ++ (List.range i).map fun j => ⟨T.heap.size, j⟩) (cells + 1 + i) (slots + N + i * K)
  | 0 => by
    have h := X.pushed (gO cA N T.heap.size 0)
    have e1 : (gO cA N T.heap.size 0).slots.size = N := by unfold gO; rw [arrV_size]
    rw [e1] at h
    simpa [gF] using h
  | i + 1 => by
    have Xi := gStand X cA comp N K z i
    obtain ⟨f1, f2, f3, f4⟩ := gF_at T cA comp N K z i
    have hlt0 : T.heap.size < (gF T cA comp N K z i).heap.size := by rw [f1]; omega
    have hcell : ((gF T cA comp N K z i).pushCell (gI comp K z)).heap[T.heap.size]? = some (gO cA N T.heap.size i) := by rw [State.heap_pushCell_of_lt (h := hlt0)]; exact f2
    have h := (Xi.pushed (gI comp K z)).stored hcell i (.ref (T.heap.size + 1 + i))
    have e1 : (gI comp K z).slots.size = K := by unfold gI; rw [arrV_size]
    rw [e1, gO_next] at h
    have e2 : (locs ++ (List.range (i + 1)).map fun j => (⟨T.heap.size, j⟩ : Loc)) = (locs ++ (List.range i).map fun j => (⟨T.heap.size, j⟩ : Loc)) ++ [⟨T.heap.size, i⟩] := by simp [List.range_succ, List.append_assoc]
    have e3 : slots + N + (i + 1) * K = slots + N + i * K + K := by rw [Nat.succ_mul]; omega
    rw [e2, e3]
    exact h
theorem gMake (X : Stand p l e R s m args below meth c T locs cells slots) (hexec : p.tables.exec = Jvm.exec) {own : String} {index : Nat}
    (hown : s.vm.findClass own = some m.cls) (hclink : (Cond.classLink own index "[[I").before args s = true) {cA comp cc : ClassId} {kA kC : Class}
    (hnA : s.vm.findClass "[[I" = some cA) (hkA : s.vm.classes[cA]? = some kA) (hkindA : kA.kind = .array comp (.array .int)) (hkC : s.vm.classes[comp]? = some kC) (hkindC : kC.kind = .array cc .int)
    {g : JFrame} (hg : g.method = m) (hdg : decode c.code g.pc = .ok (.multianewarray index 2, 4)) {n k : Int32} {rest : List Value} (hstack : g.stack = .int k :: .int n :: rest)
    (hn : ¬ n < 0) (hk : ¬ k < 0) (hb1 : n.toNatClampNeg ≤ 1000) (hb2 : k.toNatClampNeg ≤ 1000)
    (hcells : cells + (1 + n.toNatClampNeg) ≤ R.cells) (hslots : slots + (n.toNatClampNeg + n.toNatClampNeg * k.toNatClampNeg) ≤ R.slots) :
    ∃ (vm₁ : Vm), s.WarmedH vm₁ ∧
      Stand p l e R s m args below meth c (gF (T.setVm vm₁) cA comp n.toNatClampNeg k.toNatClampNeg (.int 0) n.toNatClampNeg) (locs ++ (List.range n.toNatClampNeg).map fun j => ⟨T.heap.size, j⟩) (cells + 1 + n.toNatClampNeg) (slots + n.toNatClampNeg + n.toNatClampNeg * k.toNatClampNeg) ∧
      ∀ target, Steps p.tables e below ((gF (T.setVm vm₁) cA comp n.toNatClampNeg k.toNatClampNeg (.int 0) n.toNatClampNeg).setTop { g with pc := g.pc + 4, stack := .ref T.heap.size :: rest }) target →
        Steps p.tables e below (T.setTop g) target := by
  subst hg
  have hpl : e.platform.magicAccessors = ({} : Platform).magicAccessors := by rw [X.admits.platform]
  obtain ⟨c0, hfc0, hcl⟩ := Cond.classLink_spec hown hclink e.platform hpl
  cases hnA.symm.trans hfc0
  obtain ⟨hg₁, hwarm₁, hready₁⟩ := State.classEntry (e := e) X.warmed hcl
  generalize T.vm.noted g.method.cls index (.cls cA) = vm₁ at hg₁ hwarm₁ hready₁
  have hal : s.vm.Alike vm₁ := hwarm₁.alike
  obtain ⟨kA₁, hkA₁, heA⟩ := hal.2.2 _ _ hkA
  obtain ⟨kC₁, hkC₁, heC⟩ := hal.2.2 _ _ hkC
  have hkindA₁ : kA₁.kind = .array comp (.array .int) := by rw [heA]; exact hkindA
  have hkindC₁ : kC₁.kind = .array cc .int := by rw [heC]; exact hkindC
  have X₁ := X.noted hwarm₁
  obtain ⟨hr1, hr2⟩ := X.roomAbove hcells hslots
  refine ⟨vm₁, hwarm₁, gStand X₁ cA comp _ _ _ _, fun target hrest => ?_⟩
  have hl1 : ¬ n.toNatClampNeg > e.platform.arrayLengthLimit := by rw [Launch.admits_arrayLengthLimit X.admits]; omega
  have hh1 : ¬ n.toNatClampNeg * componentBytes (.array .int) > e.platform.maxHeapBytes := by
    rw [Launch.admits_maxHeapBytes X.admits]; show ¬ n.toNatClampNeg * 4 > 536870912; omega
  have hl2 : ¬ k.toNatClampNeg > e.platform.arrayLengthLimit := by rw [Launch.admits_arrayLengthLimit X.admits]; omega
  have hh2 : ¬ k.toNatClampNeg * componentBytes .int > e.platform.maxHeapBytes := by
    rw [Launch.admits_maxHeapBytes X.admits]; show ¬ k.toNatClampNeg * 4 > 536870912; omega
  jvm_step X.here [hexec, hdg]
  simp only [multianewarray.sem, wp_bind', W.resolveClassAt_links (State.method?_setTop g X.here.top) hg₁]
  rw [W.popN, if_neg (by decide)]
  refine ⟨g, State.topJava?_setTop' (s := T.setVm vm₁) g X.here.top, [.int n, .int k], rest, rfl, hstack, ?_⟩
  simp only [List.mapM_cons, List.mapM_nil, wp_bind', wp_pure']
  refine g_make2 (k := kA₁) (kc := kC₁) (comp := comp) (cc := cc) hkA₁ hkindA₁ hkC₁ hkindC₁ hn hk hl1 hh1 hl2 hh2 (by show T.heap.size + 1 + _ ≤ _; omega) (by show T.slotsUsed + _ + _ ≤ _; omega) (fun d' acts' => ?_)
  have XF := gStand X₁ cA comp n.toNatClampNeg k.toNatClampNeg (.int 0) n.toNatClampNeg
  have eS : ((T.setTop g).setVm vm₁).setTop { g with stack := rest } = (T.setVm vm₁).setTop { g with stack := rest } := by
    show ((T.setVm vm₁).setTop g).setTop _ = _
    rw [State.setTop_setTop]
  rw [eS, gF_setTop]
  simp only [wp_bind', W.mark, W.pushRef, State.topJava?_setTop' _ XF.here.top, Option.some.injEq, exists_eq_left', State.setTop_setTop, State.heap_setTop]
  intro acts
  simp [jvm, XF.here.top]
  exact hrest
end
end GridLaws
end
section
/-! new int[N][K] as a rule -/
def addG (h : Hp) (N K : Nat) : Hp := (h.1 + 1 + N, h.2.1 + N + N * K, fun b => if b = h.1 then .inr (.array .int, N, fun j => vr (h.1 + 1 + j)) else if h.1 < b ∧ b < h.1 + 1 + N then .inr (.int, K, fun _ => vi 0) else h.2.2 b)
theorem WP_mna {M : Mth} {d ip : Nat} {ls : LV} {st : List AV} {h : Hp} {Q : Option AV → Hp → Prop} {en : Ent} (he : (mT M)[ip]? = some en) {i : Nat} {x y : Int} {N K : Nat} (hi : eI en = .multianewarray i 2) (hx0 : 0 ≤ x) (hy0 : 0 ≤ y) (hN : x.toNat = N) (hK9 : y.toNat = K) (h1 : N ≤ 1000) (h2 : K ≤ 1000) (k : WP M d (eN en) ls (vr h.1 :: st) (addG h N K) Q) : WP M d ip ls (vi y :: vi x :: st) h Q := by
  obtain ⟨v, h', ⟨a1, b1, k⟩, hq⟩ := k
  have a2 : h.1 + 1 + N ≤ h'.1 := a1
  have b2 : h.2.1 + N + N * K ≤ h'.2.1 := b1
  refine ⟨v, h', ⟨by omega, by omega, fun p l e R s m args below meth c U0 a0 D pre cx H locs n0 s0 Qf LS hR hlo9 hn hs hl hc1 hc2 hret => ?_⟩, hq⟩
  have cx0 := cx
  obtain ⟨⟨hg, hK, hpre, hZ⟩, hx, hb, hml, hr, hlk, hnm, hown, hW, hfr, hlo, hok⟩ := cx
  obtain ⟨hbp, hd, hlen, hnx, hxx⟩ := hok.at he
  unfold okX at hxx
  rw [hi] at hd hlen hnx hxx
  have hlen := hlen rfl
  have hnx := hnx rfl
  rw [hlen] at hd hnx
  rw [hbp]
  have hal := hW.alike
  simp only [Bool.and_eq_true, decide_eq_true_eq] at hxx
  obtain ⟨-, hxx⟩ := hxx
  have jN : (Int32.ofInt x).toNatClampNeg = N := by rw [i32_nat hx0 (by omega)]; exact hN
  have jK : (Int32.ofInt y).toNatClampNeg = K := by rw [i32_nat hy0 (by omega)]; exact hK9
  have hov : (Cond.arrayOver (.array .int)).before a0 U0 = true := hg _ (List.mem_of_getElem? (i := 71) (by decide +kernel))
  obtain ⟨comp, cA, kA, v1, -, v3, v4, v5⟩ := arrayOverA_spec hov
  have hac : (Cond.arrayClass .int).before a0 U0 = true := hg _ (List.mem_of_getElem? (i := 126) (by decide +kernel))
  obtain ⟨comp', kC, cc, w1, w2, w3⟩ := Cond.arrayClass_spec hac
  have ecomp : comp' = comp := Option.some.inj (w1.symm.trans v1)
  subst ecomp
  obtain ⟨kA1, hkA1, heA⟩ := hal.2.2 _ _ v3
  obtain ⟨kC1, hkC1, heC⟩ := hal.2.2 _ _ w2
  intro T hT X
  obtain ⟨vm1, hwm, X', step⟩ := gMake X hx hown (wd hg hW hxx rfl) (cA := cA) (comp := comp') (by rw [hal.findClass]; exact v5) hkA1 (by rw [heA]; exact v4) hkC1 (by rw [heC]; exact w3) (g := F0 m (ePc en) LS ((vi y :: vi x :: st).map (cv (sg U0 pre)))) rfl (by rw [hb]; exact hd) (n := Int32.ofInt x) (k := Int32.ofInt y) (rest := st.map (cv (sg U0 pre))) rfl (i32_nn hx0 (by omega)) (i32_nn hy0 (by omega)) (by rw [jN]; exact h1) (by rw [jK]; exact h2) (by rw [jN]; omega) (by rw [jN, jK]; omega)
  rw [jN, jK] at X' step
  have hT1 : (T.setVm vm1).heap = H := hT
  obtain ⟨f1, f2, -, -⟩ := gF_at (T.setVm vm1) cA comp' N K (.int 0) N
  have f3 := fun (a : Nat) (ha : a < (T.setVm vm1).heap.size) => gF_old (T.setVm vm1) cA comp' N K (.int 0) (a := a) ha N
  have f4 := gF_row (T.setVm vm1) cA comp' N K (.int 0) N
  generalize hF : gF (T.setVm vm1) cA comp' N K (.int 0) N = F at X' step f1 f2 f3 f4
  rw [hT1] at f1 f2 f3 f4
  have hsn := hR.sgn
  have hrel : Rel U0 D pre (addG h N K) F.heap := by
    obtain ⟨r1, r2, r3, r4⟩ := hR
    refine ⟨by rw [f1]; show H.size + 1 + N + 5 = U0.heap.size + (h.1 + 1 + N); omega, by show 5 ≤ h.1 + 1 + N; omega, fun q hq => ?_, fun b hb9 => ?_⟩
    · rw [f3 q (by omega)]
      exact r3 q hq
    · have hb9 : b < h.1 + 1 + N := hb9
      show cellAt U0 D (sg U0 pre) (sg U0 pre b) F.heap (if b = h.1 then .inr (.array .int, N, fun j => vr (h.1 + 1 + j)) else if h.1 < b ∧ b < h.1 + 1 + N then .inr (.int, K, fun _ => vi 0) else h.2.2 b)
      have esg : ∀ j : Nat, sg U0 pre (h.1 + j) = H.size + j := fun j => by
        unfold sg
        rw [if_neg (by omega)]
        omega
      by_cases e1 : b = h.1
      · rw [if_pos e1, e1, hsn]
        refine ⟨_, f2, ⟨(fun q hq9 => by cases hq9), kA, v3, comp', v4⟩, (fun q => by cases q), by unfold gO; rw [arrV_size], by omega, fun j hj => ?_⟩
        unfold gO
        rw [arrV_read _ _ hj, if_pos hj]
        show some (Value.ref _) = some (Value.ref (sg U0 pre (h.1 + 1 + j)))
        rw [show h.1 + 1 + j = h.1 + (1 + j) by omega, esg]
        exact congrArg (fun q => some (Value.ref q)) (Nat.add_assoc H.size 1 j)
      · rw [if_neg e1]
        by_cases e2 : h.1 < b ∧ b < h.1 + 1 + N
        · rw [if_pos e2]
          obtain ⟨j, rfl⟩ : ∃ j, b = h.1 + (1 + j) := ⟨b - h.1 - 1, by omega⟩
          rw [esg]
          refine ⟨_, by rw [show H.size + (1 + j) = H.size + 1 + j by omega]; exact f4 j (by omega), ⟨(fun q hq9 => by cases hq9), kC, w2, cc, w3⟩, (fun q => by cases q), by unfold gI; rw [arrV_size], by omega, fun j2 hj2 => ?_⟩
          unfold gI
          rw [arrV_read _ _ hj2]
          rfl
        · rw [if_neg e2]
          have hb8 : b < h.1 := by omega
          exact (r4 b hb8).kept (f3 _ (r4 b hb8).lt)
  have hlo8 : ∀ q ∈ locs ++ (List.range N).map (fun j => (⟨T.heap.size, j⟩ : Loc)), U0.heap.size ≤ q.base := fun q hq => by
    rcases List.mem_append.mp hq with z | z
    · exact hlo9 q z
    · obtain ⟨w, -, hw9⟩ := List.mem_map.mp z
      rw [← hw9]
      show U0.heap.size ≤ T.heap.size
      rw [hT]
      have := hR.1
      have := hR.2.1
      omega
  have k9 := k p l e R s m args below meth c U0 a0 D pre cx0 F.heap _ n0 s0 Qf LS hrel hlo8 (by show n0 ≤ h.1 + 1 + N; omega) (by show s0 ≤ h.2.1 + N + N * K; omega) hl hc1 hc2 hret
  have e5 : (addG h N K).1 - n0 = h.1 - n0 + 1 + N := by show h.1 + 1 + N - n0 = _; omega
  have e6 : (addG h N K).2.1 - s0 = h.2.1 - s0 + N + N * K := by show h.2.1 + N + N * K - s0 = _; omega
  rw [e5, e6, hnx] at k9
  obtain ⟨t, b1, b2⟩ := k9 F rfl X'
  refine ⟨t, step t ?_, b2⟩
  have e9 : cv (sg U0 pre) (vr h.1) = .ref H.size := congrArg Value.ref hsn
  rw [List.map_cons, e9] at b1
  rw [hT]
  exact b1
end
section
/-! calls: a method's run from its entry is a contract of the kit; a call is a run of the callee, then the rest -/
def argl : List AV → LV
  | [] => []
  | v :: r => match ac v with
    | 2 => some v :: none :: argl r
    | _ => some v :: argl r
def ent (M : Mth) (as : List AV) : LV := argl as ++ List.replicate (mL M - (argl as).length) none
theorem argl_at (f : Nat → Nat) : ∀ (as : List AV) (i0 k : Nat) (v : AV), (argl as)[k]? = some (some v) → (i0 + k, cv f v) ∈ lv_args i0 (as.map (cv f))
  | [], i0, k, v, h => by simp [argl] at h
  | w :: r, i0, k, v, h => by
    rw [List.map_cons]
    unfold lv_args
    rw [cv_cat]
    unfold argl at h
    split at h
    · rename_i e
      rw [if_pos e]
      match k, h with
      | 0, h => simp at h; subst h; exact List.mem_cons_self
      | 1, h => simp at h
      | k + 2, h =>
        have h1 : (argl r)[k]? = some (some v) := by simpa using h
        have := argl_at f r (i0 + 2) k v h1
        rw [show i0 + (k + 2) = i0 + 2 + k by omega]
        exact List.mem_cons_of_mem _ this
    · rename_i e
      have e2 : ¬ ac w = 2 := fun q => e q
      rw [if_neg e2]
      match k, h with
      | 0, h => simp at h; subst h; exact List.mem_cons_self
      | k + 1, h =>
        have h1 : (argl r)[k]? = some (some v) := by simpa using h
        have := argl_at f r (i0 + 1) k v h1
        rw [show i0 + (k + 1) = i0 + 1 + k by omega]
        exact List.mem_cons_of_mem _ this
theorem argl_len (f : Nat → Nat) : ∀ (as : List AV), (lg_sl (as.map (cv f))).length = (argl as).length
  | [] => rfl
  | w :: r => by
    have ih := argl_len f r
    have e1 : (lg_sl ((w :: r).map (cv f))).length = (if ac w = 2 then 2 else 1) + (lg_sl (r.map (cv f))).length := by
      unfold lg_sl
      rw [List.map_cons, List.flatMap_cons, List.length_append, cv_cat]
      split <;> rfl
    have e2 : (argl (w :: r)).length = (if ac w = 2 then 2 else 1) + (argl r).length := by
      show (match ac w with
        | 2 => some w :: none :: argl r
        | _ => some w :: argl r).length = _
      split
      · rename_i e
        rw [if_pos e]; simp; omega
      · rename_i e
        rw [if_neg (fun q => e q)]; simp; omega
    rw [e1, e2, ih]
theorem ent_lvR (f : Nat → Nat) (M : Mth) (as : List AV) (hlen : (argl as).length ≤ mL M) : lvR f ((lg_sl (as.map (cv f)) ++ List.replicate (mL M - (lg_sl (as.map (cv f))).length) Slot.unset).toArray) (mL M) (ent M as) := by
  have h := lv_entry (as.map (cv f)) (n := mL M) (by rw [argl_len]; exact hlen)
  refine ⟨h.1, h.2.1, fun k v hk => ?_⟩
  unfold ent at hk
  by_cases hk2 : k < (argl as).length
  · rw [List.getElem?_append_left hk2] at hk
    have := h.2.2 _ (argl_at f as 0 k v hk)
    simpa using this
  · rw [List.getElem?_append_right (by omega), List.getElem?_replicate] at hk
    split at hk <;> cases hk
def okC (M : Mth) : Bool := decide (lw_tbl[mK M 0]? = some (.code (mY M) (mC M) (mL M) (mR M))) && decide (lw_tbl[mK M 1]? = some (.initialized (mY M).cls)) && decide ((mY M).cls ≠ "java/lang/invoke/MethodHandle") && decide ((mY M).cls ≠ "java/lang/invoke/VarHandle") && plainName (mY M).cls && decide (mL M ≤ 41) && decide (bp M 0 = 0)
def okV (M : Mth) : Bool := decide (lw_tbl[mK M 2]? = some (.instanceMethod (mY M))) && decide (lw_tbl[mK M 3]? = some (.selects (mY M).cls (mY M) (mY M)))
def okS (M : Mth) : Bool := decide (lw_tbl[mK M 4]? = some (.static (mY M)))
def okI (M : Mth) : Bool := decide (lw_tbl[mK M 2]? = some (.instanceMethod (mY M))) && decide ((mY M).name = "<init>") && decide (mR M = none)
def nar (M : Mth) : Nat := match parseMethodDescriptor (mY M).desc with
  | some d => d.parameters.length
  | none => 0
def OKV (M : Mth) (n : Nat) : Prop := MOK M ∧ okC M = true ∧ okV M = true ∧ (parseMethodDescriptor (mY M).desc).map (fun d => d.parameters.length) = some n
def OKS (M : Mth) (n : Nat) : Prop := MOK M ∧ okC M = true ∧ okS M = true ∧ (parseMethodDescriptor (mY M).desc).map (fun d => d.parameters.length) = some n
def OKI (M : Mth) (n : Nat) : Prop := MOK M ∧ okC M = true ∧ okI M = true ∧ (parseMethodDescriptor (mY M).desc).map (fun d => d.parameters.length) = some n
def Pc9 (U0 : State) (D : va_G) (pre : Nat → Nat) (as : List AV) (h : Hp) : Array Value → State → Prop := fun vs U => vs = (as.map (cv (sg U0 pre))).toArray ∧ Rel U0 D pre h U.heap ∧ U0.WarmedH U.vm
def Qc9 (U0 : State) (D : va_G) (pre : Nat → Nat) (v : Option AV) (h' : Hp) : Array Value → State → Outcome → State → Prop := fun _ _ o t => o = .returned (v.map (cv (sg U0 pre))) ∧ Rel U0 D pre h' t.heap
theorem J_Met {M : Mth} (hM : MOK M) (hC : okC M = true) {d : Nat} {as : List AV} (hlen : (argl as).length ≤ mL M) {h h' : Hp} {v : Option AV} (k : J M d 0 (ent M as) [] h v h') (l : Launch) {U0 : State} {a0 : Array Value} {D : va_G} {pre : Nat → Nat} (hG : GF U0 a0 D pre) :
    Met l (mY M) [.code (mY M) (mC M) (mL M) (mR M)] { frames := d, cells := h'.1 - h.1, slots := h'.2.1 - h.2.1, locals := 60 * d } (Pc9 U0 D pre as h) (Qc9 U0 D pre v h') (h'.1 - h.1) (h'.2.1 - h.2.1) (fun q => U0.heap.size ≤ q) := by
  unfold okC at hC
  simp only [Bool.and_eq_true, decide_eq_true_eq] at hC
  obtain ⟨⟨⟨⟨⟨⟨c1, c2⟩, c3⟩, c4⟩, c5⟩, c6⟩, c7⟩ := hC
  refine Met.ofW (cc := mC M) (maxL := mL M) (ret := mR M) c5 rfl ?_
  intro p e s m args below meth c s₁ B hml hv
  obtain ⟨rfl, hR, hW⟩ := hv
  have cx : CX M d p l e (headSpec [.code (mY M) (mC M) (mL M) (mR M)] { frames := d, cells := h'.1 - h.1, slots := h'.2.1 - h.2.1, locals := 60 * d }).room s m ((as.map (cv (sg U0 pre))).toArray) below meth c U0 a0 D pre :=
    ⟨hG, B.exec, B.bytes, hml, B.returns, B.notSynchronized, (name_of_methodNamed B.named B.method).1, findClass_of_methodNamed B.named, hW, Nat.le_refl _, Nat.le_refl _, hM⟩
  rw [lg_entry_eq]
  have k9 := k.2.2 p l e _ s m _ below meth c U0 a0 D pre cx s.heap [] h.1 h.2.1 (MQ below (Qc9 U0 D pre v h') ((as.map (cv (sg U0 pre))).toArray) s (h'.1 - h.1) (h'.2.1 - h.2.1) (fun q => U0.heap.size ≤ q)) _ hR (fun q hq => by cases hq) (Nat.le_refl _) (Nat.le_refl _) (ent_lvR (sg U0 pre) M as hlen) (Nat.le_refl _) (Nat.le_refl _) (fun H1 locs1 pc1 LS1 hR1 hlo1 hrt => ?_)
  · rw [c7, Nat.sub_self, Nat.sub_self] at k9
    exact k9
  · have hx := B.exec
    have hb := B.bytes
    have hr := B.returns
    have hlocks := B.notSynchronized
    rcases v with - | (x | x | (- | x))
    · obtain ⟨r1, r2⟩ := hrt
      exact W.vret hx hb (hr.trans r2) (fun t ht _ => ⟨rfl, by rw [ht]; exact hR1⟩) hlo1 r1
    · obtain ⟨r1, r2 | ⟨r2, r3⟩⟩ := hrt
      · exact W.iret hx hb (hr.trans r2) (fun t ht _ => ⟨rfl, by rw [ht]; exact hR1⟩) hlo1 r1
      · exact W.zret (ty := .boolean) hx hb (hr.trans r2) (fok_n (sg U0 pre) (ty := .boolean) (v := vi x) r3).1 (fun t ht _ => ⟨rfl, by rw [ht]; exact hR1⟩) hlo1 r1
    · obtain ⟨r1, r2⟩ := hrt
      exact W.lret hx hb (hr.trans r2) (fun t ht _ => ⟨rfl, by rw [ht]; exact hR1⟩) hlo1 r1
    · exact hrt.elim
    · obtain ⟨r1, t9, r2⟩ := hrt
      exact W.aret hx hb (hr.trans r2) (Or.inr ⟨t9, rfl⟩) (Or.inr ⟨_, rfl⟩) (fun t ht _ => ⟨rfl, by rw [ht]; exact hR1⟩) hlo1 r1
theorem Pc9_blind (U0 : State) (D : va_G) (pre : Nat → Nat) (as : List AV) (h : Hp) : FrameBlind (Pc9 U0 D pre as h) := fun a U g mk q => ⟨q.1, q.2.1, q.2.2⟩
theorem W_run {p : Program} {l : Launch} {e : Env} {R : Room} {s : State} {m : MethodId} {args : Array Value} {below : List Frame} {meth : Method} {c : Code} {H : Heap} {locs : List Loc} {cells slots mc ms : Nat} {Q : State → Prop} {pc : Nat} {LS : Array Slot} {st0 rest : List Value} {U0 : State} {D : va_G} {pre : Nat → Nat} {v : Option AV} {h' : Hp} {ar : Array Value}
    (hr : va_Run p l e R s m args below meth c H locs cells slots mc ms (F0 m pc LS st0) rest (Qc9 U0 D pre v h' ar) (fun q => U0.heap.size ≤ q))
    (kk : ∀ (H1 : Heap) (L : List Loc), Rel U0 D pre h' H1 → (∀ q ∈ L, U0.heap.size ≤ q.base) → W p l e R s m args below meth c H1 (locs ++ L) (cells + mc) (slots + ms) Q (F0 m (pc + 3) LS ((v.map (cv (sg U0 pre))).toList ++ rest))) : W p l e R s m args below meth c H locs cells slots Q (F0 m pc LS st0) := by
  intro T hT X
  obtain ⟨v1, st₀, t, T', L, h0, X', hL, e1, e2, ⟨hv, hrel⟩, st⟩ := hr T hT X
  cases hv
  obtain ⟨t2, a1, b1⟩ := kk T'.heap L (by rw [e1]; exact hrel) hL T' rfl X'
  exact ⟨t2, st t2 a1, b1⟩
def pushR : Option AV → List AV → List AV
  | none, st => st
  | some v, st => v :: st
theorem pushR_map (f : Nat → Nat) (v : Option AV) (st : List AV) : (pushR v st).map (cv f) = (v.map (cv f)).toList ++ st.map (cv f) := by cases v <;> rfl
theorem acs (f : Nat → Nat) (st : List AV) : ((st.map (cv f)).map fun v => v.category).sum = (st.map ac).sum := by
  rw [List.map_map]
  congr 1
  apply List.map_congr_left
  intro v _
  exact cv_cat f v
theorem WP_callV {M M' : Mth} {d ip : Nat} {ls : LV} {stk st : List AV} {h : Hp} {Q : Option AV → Hp → Prop} {en : Ent} (n : Nat) (hok' : OKV M' n) (he : (mT M)[ip]? = some en) {i : Nat} (hi : eI en = .invokevirtual i) (hw : (eW en == 99999) = false) (hy : NM[eX en]? = some (mY M')) (hnl : (stk.take n).length = n) {a : Nat} (hst : stk = (stk.take n) ++ vr a :: st) (hs8 : (st.map ac).sum ≤ 8) (hlenA : (argl (vr a :: (stk.take n).reverse)).length ≤ mL M') {ci : Nat} {fs : List AV} (hc : h.2.2 a = .inl (ci, fs)) (ha : a < h.1) (hcl : ((vwCl[ci]?).getD ("", TX0, 0)).1 = (mY M').cls) (k : WP M' d 0 (ent M' (vr a :: (stk.take n).reverse)) [] h (fun v1 h1 => WP M (d + 1) (eN en) ls (pushR v1 st) h1 Q)) : WP M (d + 1) ip ls stk h Q := by
  obtain ⟨v1, h1, kJ, ⟨v, h', ⟨a2, b2, k⟩, hq⟩⟩ := k
  have a1 := kJ.1
  have b1 := kJ.2.1
  refine ⟨v, h', ⟨by omega, by omega, fun p l e R s m args below meth c U0 a0 D pre cx H locs n0 s0 Qf LS hR hlo9 hn hs hl hc1 hc2 hret => ?_⟩, hq⟩
  have cx0 := cx
  have hG := cx.1
  obtain ⟨⟨hg, hK, hpre, hZ⟩, hx, hb, hml, hr, hlk, hnm, hown, hW, hfr, hlo, hok⟩ := cx
  obtain ⟨hbp, hd, hlen, hnx, hxx⟩ := hok.at he
  unfold okX at hxx
  rw [hi] at hd hlen hnx hxx
  have hlen := hlen rfl
  have hnx := hnx rfl
  rw [hlen] at hd hnx
  rw [hbp]
  have hal := hW.alike
  dsimp only at hxx
  rw [hw, hy, Bool.false_or] at hxx
  have hxx := of_decide_eq_true hxx
  obtain ⟨hM', hC', hV', hn'⟩ := hok'
  have hMet := J_Met hM' hC' hlenA kJ l hG
  have hC2 := hC'
  unfold okC at hC2
  simp only [Bool.and_eq_true, decide_eq_true_eq] at hC2
  obtain ⟨⟨⟨⟨⟨⟨c1, c2⟩, c3⟩, c4⟩, c5⟩, c6⟩, c7⟩ := hC2
  unfold okV at hV'
  simp only [Bool.and_eq_true, decide_eq_true_eq] at hV'
  have hsig : ∀ sig, parseMethodDescriptor (mY M').desc = some sig → n = sig.parameters.length := fun sig hs9 => by
    rw [hs9] at hn'
    exact (Option.some.inj hn').symm
  have hws : ∀ w ∈ [Cond.code (mY M') (mC M') (mL M') (mR M')], ∀ (a' : Array Value) (U : State), s.WarmedH U.vm → w.before a' U = true := fun w hw9 a' U hWU => by
    rw [List.mem_singleton.mp hw9]
    exact wd hg (State.WarmedH.trans hW hWU) c1 rfl
  have hroom : ({ frames := d, cells := h1.1 - h.1, slots := h1.2.1 - h.2.1, locals := 60 * d } : Room).frames + 1 ≤ R.frames ∧ 8 + (mL M' + 11) + ({ frames := d, cells := h1.1 - h.1, slots := h1.2.1 - h.2.1, locals := 60 * d } : Room).locals ≤ R.locals := ⟨by show d + 1 ≤ R.frames; omega, by show 8 + (mL M' + 11) + 60 * d ≤ R.locals; omega⟩
  have estk : stk.map (cv (sg U0 pre)) = (((stk.take n).reverse).map (cv (sg U0 pre))).reverse ++ Value.ref (sg U0 pre a) :: st.map (cv (sg U0 pre)) := by
    rw [List.map_reverse, List.reverse_reverse]
    conv => lhs; rw [hst]
    rw [List.map_append]
    rfl
  rw [estk]
  have hca := hR.2.2.2 a ha
  rw [hc] at hca
  obtain ⟨r, hr1, hr2, cell, q1, q2, q3, q4⟩ := hca
  have hKs := va_K.moved hal hK
  obtain ⟨hS, hfc, kC, hkC, hkind⟩ := hKs.1 _ _ hr1
  rw [hr1] at hcl
  have hcl : r.1 = (mY M').cls := hcl
  refine W_run (va_runV (Ts := []) (As := ((stk.take n).reverse).map (cv (sg U0 pre))) (rest := st.map (cv (sg U0 pre))) (C := (mY M').cls) ⟨hx, hb, hml, hown, fun w hw9 => by cases hw9⟩ hMet ⟨⟨rfl, rfl, hroom.1, hroom.2, hws, List.mem_singleton.mpr rfl, wd hg hW c1 rfl, wd hg hW c2 rfl, ⟨c3, c4⟩, hsig, wd hg hW hxx rfl⟩, wd hg hW hV'.1 rfl, wd hg hW hV'.2 rfl⟩ ⟨Pc9_blind _ _ _ _ _, ⟨cell, q1, by rw [q3]; rfl, by rw [← hcl, q2]; exact hfc⟩, (fun U hU hWU => ⟨rfl, by rw [hU]; exact hR, State.WarmedH.trans hW hWU⟩)⟩ rfl (by rw [List.length_map, List.length_reverse]; exact hnl) hl.1 rfl (lv_room (by rw [acs]; exact hs8)) hd ⟨by omega, by omega⟩) (fun H1 L hR1 hL => ?_)
  have k9 := k p l e R s m args below meth c U0 a0 D pre cx0 H1 (locs ++ L) n0 s0 Qf LS hR1 (fun q hq => (List.mem_append.mp hq).elim (hlo9 q) (hL q)) (by omega) (by omega) hl hc1 hc2 hret
  rw [hnx, pushR_map] at k9
  have e5 : h1.1 - n0 = h.1 - n0 + (h1.1 - h.1) := by omega
  have e6 : h1.2.1 - s0 = h.2.1 - s0 + (h1.2.1 - h.2.1) := by omega
  rw [e5, e6] at k9
  exact k9
theorem WP_callI {M M' : Mth} {d ip : Nat} {ls : LV} {stk st : List AV} {h : Hp} {Q : Option AV → Hp → Prop} {en : Ent} (n : Nat) (hok' : OKI M' n) (he : (mT M)[ip]? = some en) {i : Nat} (hi : eI en = .invokespecial i) (hw : (eW en == 99999) = false) (hy : NM[eX en]? = some (mY M')) (hnl : (stk.take n).length = n) {a : Nat} (hst : stk = (stk.take n) ++ vr a :: st) (hs8 : (st.map ac).sum ≤ 8) (hlenA : (argl (vr a :: (stk.take n).reverse)).length ≤ mL M') (k : WP M' d 0 (ent M' (vr a :: (stk.take n).reverse)) [] h (fun v1 h1 => WP M (d + 1) (eN en) ls (pushR v1 st) h1 Q)) : WP M (d + 1) ip ls stk h Q := by
  obtain ⟨v1, h1, kJ, ⟨v, h', ⟨a2, b2, k⟩, hq⟩⟩ := k
  have a1 := kJ.1
  have b1 := kJ.2.1
  refine ⟨v, h', ⟨by omega, by omega, fun p l e R s m args below meth c U0 a0 D pre cx H locs n0 s0 Qf LS hR hlo9 hn hs hl hc1 hc2 hret => ?_⟩, hq⟩
  have cx0 := cx
  have hG := cx.1
  obtain ⟨⟨hg, hK, hpre, hZ⟩, hx, hb, hml, hr, hlk, hnm, hown, hW, hfr, hlo, hok⟩ := cx
  obtain ⟨hbp, hd, hlen, hnx, hxx⟩ := hok.at he
  unfold okX at hxx
  rw [hi] at hd hlen hnx hxx
  have hlen := hlen rfl
  have hnx := hnx rfl
  rw [hlen] at hd hnx
  rw [hbp]
  have hal := hW.alike
  dsimp only at hxx
  rw [hw, hy, Bool.false_or] at hxx
  have hxx := of_decide_eq_true hxx
  obtain ⟨hM', hC', hV', hn'⟩ := hok'
  have hMet := J_Met hM' hC' hlenA kJ l hG
  have hC2 := hC'
  unfold okC at hC2
  simp only [Bool.and_eq_true, decide_eq_true_eq] at hC2
  obtain ⟨⟨⟨⟨⟨⟨c1, c2⟩, c3⟩, c4⟩, c5⟩, c6⟩, c7⟩ := hC2
  unfold okI at hV'
  simp only [Bool.and_eq_true, decide_eq_true_eq] at hV'
  have hsig : ∀ sig, parseMethodDescriptor (mY M').desc = some sig → n = sig.parameters.length := fun sig hs9 => by
    rw [hs9] at hn'
    exact (Option.some.inj hn').symm
  have hws : ∀ w ∈ [Cond.code (mY M') (mC M') (mL M') (mR M')], ∀ (a' : Array Value) (U : State), s.WarmedH U.vm → w.before a' U = true := fun w hw9 a' U hWU => by
    rw [List.mem_singleton.mp hw9]
    exact wd hg (State.WarmedH.trans hW hWU) c1 rfl
  have hroom : ({ frames := d, cells := h1.1 - h.1, slots := h1.2.1 - h.2.1, locals := 60 * d } : Room).frames + 1 ≤ R.frames ∧ 8 + (mL M' + 11) + ({ frames := d, cells := h1.1 - h.1, slots := h1.2.1 - h.2.1, locals := 60 * d } : Room).locals ≤ R.locals := ⟨by show d + 1 ≤ R.frames; omega, by show 8 + (mL M' + 11) + 60 * d ≤ R.locals; omega⟩
  have estk : stk.map (cv (sg U0 pre)) = (((stk.take n).reverse).map (cv (sg U0 pre))).reverse ++ Value.ref (sg U0 pre a) :: st.map (cv (sg U0 pre)) := by
    rw [List.map_reverse, List.reverse_reverse]
    conv => lhs; rw [hst]
    rw [List.map_append]
    rfl
  rw [estk]
  have hmr : mR M' = none := hV'.2
  rw [hmr] at hMet hws c1
  refine W_run (va_runI (Ts := []) (b := sg U0 pre a) (As := ((stk.take n).reverse).map (cv (sg U0 pre))) (rest := st.map (cv (sg U0 pre))) ⟨hx, hb, hml, hown, fun w hw9 => by cases hw9⟩ hMet ⟨⟨rfl, rfl, hroom.1, hroom.2, hws, List.mem_singleton.mpr rfl, wd hg hW c1 rfl, wd hg hW c2 rfl, ⟨c3, c4⟩, hsig, wd hg hW hxx rfl⟩, hV'.1.2, wd hg hW hV'.1.1 rfl⟩ ⟨Pc9_blind _ _ _ _ _, (fun U hU hWU => ⟨rfl, by rw [hU]; exact hR, State.WarmedH.trans hW hWU⟩)⟩ rfl (by rw [List.length_map, List.length_reverse]; exact hnl) hl.1 rfl (lv_room (by rw [acs]; exact hs8)) hd ⟨by omega, by omega⟩) (fun H1 L hR1 hL => ?_)
  have k9 := k p l e R s m args below meth c U0 a0 D pre cx0 H1 (locs ++ L) n0 s0 Qf LS hR1 (fun q hq => (List.mem_append.mp hq).elim (hlo9 q) (hL q)) (by omega) (by omega) hl hc1 hc2 hret
  rw [hnx, pushR_map] at k9
  have e5 : h1.1 - n0 = h.1 - n0 + (h1.1 - h.1) := by omega
  have e6 : h1.2.1 - s0 = h.2.1 - s0 + (h1.2.1 - h.2.1) := by omega
  rw [e5, e6] at k9
  exact k9
theorem WP_callS {M M' : Mth} {d ip : Nat} {ls : LV} {stk st : List AV} {h : Hp} {Q : Option AV → Hp → Prop} {en : Ent} (n : Nat) (hok' : OKS M' n) (he : (mT M)[ip]? = some en) {i : Nat} (hi : eI en = .invokestatic i) (hw : (eW en == 99999) = false) (hny : (eY en == 1) = false) (hy : NM[eX en]? = some (mY M')) (hnl : (stk.take n).length = n) (hst : stk = (stk.take n) ++ st) (hs8 : (st.map ac).sum ≤ 8) (hlenA : (argl ((stk.take n).reverse)).length ≤ mL M') (k : WP M' d 0 (ent M' ((stk.take n).reverse)) [] h (fun v1 h1 => WP M (d + 1) (eN en) ls (pushR v1 st) h1 Q)) : WP M (d + 1) ip ls stk h Q := by
  obtain ⟨v1, h1, kJ, ⟨v, h', ⟨a2, b2, k⟩, hq⟩⟩ := k
  have a1 := kJ.1
  have b1 := kJ.2.1
  refine ⟨v, h', ⟨by omega, by omega, fun p l e R s m args below meth c U0 a0 D pre cx H locs n0 s0 Qf LS hR hlo9 hn hs hl hc1 hc2 hret => ?_⟩, hq⟩
  have cx0 := cx
  have hG := cx.1
  obtain ⟨⟨hg, hK, hpre, hZ⟩, hx, hb, hml, hr, hlk, hnm, hown, hW, hfr, hlo, hok⟩ := cx
  obtain ⟨hbp, hd, hlen, hnx, hxx⟩ := hok.at he
  unfold okX at hxx
  rw [hi] at hd hlen hnx hxx
  have hlen := hlen rfl
  have hnx := hnx rfl
  rw [hlen] at hd hnx
  rw [hbp]
  have hal := hW.alike
  dsimp only at hxx
  rw [hw, hy, hny, Bool.false_or] at hxx
  have hxx := of_decide_eq_true hxx
  obtain ⟨hM', hC', hV', hn'⟩ := hok'
  have hMet := J_Met hM' hC' hlenA kJ l hG
  have hC2 := hC'
  unfold okC at hC2
  simp only [Bool.and_eq_true, decide_eq_true_eq] at hC2
  obtain ⟨⟨⟨⟨⟨⟨c1, c2⟩, c3⟩, c4⟩, c5⟩, c6⟩, c7⟩ := hC2
  unfold okS at hV'
  simp only [Bool.and_eq_true, decide_eq_true_eq] at hV'
  have hsig : ∀ sig, parseMethodDescriptor (mY M').desc = some sig → n = sig.parameters.length := fun sig hs9 => by
    rw [hs9] at hn'
    exact (Option.some.inj hn').symm
  have hws : ∀ w ∈ [Cond.code (mY M') (mC M') (mL M') (mR M')], ∀ (a' : Array Value) (U : State), s.WarmedH U.vm → w.before a' U = true := fun w hw9 a' U hWU => by
    rw [List.mem_singleton.mp hw9]
    exact wd hg (State.WarmedH.trans hW hWU) c1 rfl
  have hroom : ({ frames := d, cells := h1.1 - h.1, slots := h1.2.1 - h.2.1, locals := 60 * d } : Room).frames + 1 ≤ R.frames ∧ 8 + (mL M' + 11) + ({ frames := d, cells := h1.1 - h.1, slots := h1.2.1 - h.2.1, locals := 60 * d } : Room).locals ≤ R.locals := ⟨by show d + 1 ≤ R.frames; omega, by show 8 + (mL M' + 11) + 60 * d ≤ R.locals; omega⟩
  have estk : stk.map (cv (sg U0 pre)) = (((stk.take n).reverse).map (cv (sg U0 pre))).reverse ++ st.map (cv (sg U0 pre)) := by
    rw [List.map_reverse, List.reverse_reverse]
    conv => lhs; rw [hst]
    rw [List.map_append]
  rw [estk]
  refine W_run (va_runS (Ts := []) (As := ((stk.take n).reverse).map (cv (sg U0 pre))) (rest := st.map (cv (sg U0 pre))) ⟨hx, hb, hml, hown, fun w hw9 => by cases hw9⟩ hMet ⟨⟨rfl, rfl, hroom.1, hroom.2, hws, List.mem_singleton.mpr rfl, wd hg hW c1 rfl, wd hg hW c2 rfl, ⟨c3, c4⟩, hsig, wd hg hW hxx rfl⟩, wd hg hW hV' rfl⟩ ⟨Pc9_blind _ _ _ _ _, (fun U hU hWU => ⟨rfl, by rw [hU]; exact hR, State.WarmedH.trans hW hWU⟩)⟩ rfl (by rw [List.length_map, List.length_reverse]; exact hnl) hl.1 rfl (lv_room (by rw [acs]; exact hs8)) hd ⟨by omega, by omega⟩) (fun H1 L hR1 hL => ?_)
  have k9 := k p l e R s m args below meth c U0 a0 D pre cx0 H1 (locs ++ L) n0 s0 Qf LS hR1 (fun q hq => (List.mem_append.mp hq).elim (hlo9 q) (hL q)) (by omega) (by omega) hl hc1 hc2 hret
  rw [hnx, pushR_map] at k9
  have e5 : h1.1 - n0 = h.1 - n0 + (h1.1 - h.1) := by omega
  have e6 : h1.2.1 - s0 = h.2.1 - s0 + (h1.2.1 - h.2.1) := by omega
  rw [e5, e6] at k9
  exact k9
theorem WP_callN {M M' : Mth} {d ip : Nat} {ls : LV} {stk st : List AV} {h : Hp} {Q : Option AV → Hp → Prop} {en : Ent} (n : Nat) (hok' : OKS M' n) (he : (mT M)[ip]? = some en) {i : Nat} (hi : eI en = .invokestatic i) (hw : (eW en == 99999) = false) (hny : (eY en == 1) = true) (hy : NM[eX en]? = some (mY M')) (hnl : (stk.take n).length = n) (hst : stk = (stk.take n) ++ st) (hs8 : (st.map ac).sum ≤ 8) (hlenA : (argl ((stk.take n).reverse)).length ≤ mL M') (k : WP M' d 0 (ent M' ((stk.take n).reverse)) [] h (fun v1 h1 => WP M (d + 1) (eN en) ls (pushR v1 st) h1 Q)) : WP M (d + 1) ip ls stk h Q := by
  obtain ⟨v1, h1, kJ, ⟨v, h', ⟨a2, b2, k⟩, hq⟩⟩ := k
  have a1 := kJ.1
  have b1 := kJ.2.1
  refine ⟨v, h', ⟨by omega, by omega, fun p l e R s m args below meth c U0 a0 D pre cx H locs n0 s0 Qf LS hR hlo9 hn hs hl hc1 hc2 hret => ?_⟩, hq⟩
  have cx0 := cx
  have hG := cx.1
  obtain ⟨⟨hg, hK, hpre, hZ⟩, hx, hb, hml, hr, hlk, hnm, hown, hW, hfr, hlo, hok⟩ := cx
  obtain ⟨hbp, hd, hlen, hnx, hxx⟩ := hok.at he
  unfold okX at hxx
  rw [hi] at hd hlen hnx hxx
  have hlen := hlen rfl
  have hnx := hnx rfl
  rw [hlen] at hd hnx
  rw [hbp]
  have hal := hW.alike
  dsimp only at hxx
  rw [hw, hy, hny, Bool.false_or] at hxx
  have hxx := of_decide_eq_true hxx
  obtain ⟨hM', hC', hV', hn'⟩ := hok'
  have hMet := J_Met hM' hC' hlenA kJ l hG
  have hC2 := hC'
  unfold okC at hC2
  simp only [Bool.and_eq_true, decide_eq_true_eq] at hC2
  obtain ⟨⟨⟨⟨⟨⟨c1, c2⟩, c3⟩, c4⟩, c5⟩, c6⟩, c7⟩ := hC2
  unfold okS at hV'
  simp only [Bool.and_eq_true, decide_eq_true_eq] at hV'
  have hsig : ∀ sig, parseMethodDescriptor (mY M').desc = some sig → n = sig.parameters.length := fun sig hs9 => by
    rw [hs9] at hn'
    exact (Option.some.inj hn').symm
  have hws : ∀ w ∈ [Cond.code (mY M') (mC M') (mL M') (mR M')], ∀ (a' : Array Value) (U : State), s.WarmedH U.vm → w.before a' U = true := fun w hw9 a' U hWU => by
    rw [List.mem_singleton.mp hw9]
    exact wd hg (State.WarmedH.trans hW hWU) c1 rfl
  have hroom : ({ frames := d, cells := h1.1 - h.1, slots := h1.2.1 - h.2.1, locals := 60 * d } : Room).frames + 1 ≤ R.frames ∧ 8 + (mL M' + 11) + ({ frames := d, cells := h1.1 - h.1, slots := h1.2.1 - h.2.1, locals := 60 * d } : Room).locals ≤ R.locals := ⟨by show d + 1 ≤ R.frames; omega, by show 8 + (mL M' + 11) + 60 * d ≤ R.locals; omega⟩
  have estk : stk.map (cv (sg U0 pre)) = (((stk.take n).reverse).map (cv (sg U0 pre))).reverse ++ st.map (cv (sg U0 pre)) := by
    rw [List.map_reverse, List.reverse_reverse]
    conv => lhs; rw [hst]
    rw [List.map_append]
  rw [estk]
  have hnw : va_Nw (.methodLinkNest (mY M).cls i (mY M') "FloorPlans") s := va_Nw.warmM hW (va_Nw.of rfl (hg _ (List.mem_of_getElem? hxx)))
  refine W_run (va_runSN (Ts := []) (As := ((stk.take n).reverse).map (cv (sg U0 pre))) (rest := st.map (cv (sg U0 pre))) (host := "FloorPlans") ⟨hx, hb, hml, hown, fun w hw9 => by cases hw9⟩ hMet ⟨⟨⟨rfl, rfl, hroom.1, hroom.2, hws, List.mem_singleton.mpr rfl⟩, wd hg hW c1 rfl, wd hg hW c2 rfl, ⟨c3, c4⟩, hsig, va_Nw.use rfl hnw⟩, wd hg hW hV' rfl, trivial⟩ ⟨Pc9_blind _ _ _ _ _, (fun U hU hWU => ⟨rfl, by rw [hU]; exact hR, State.WarmedH.trans hW hWU⟩)⟩ rfl (by rw [List.length_map, List.length_reverse]; exact hnl) hl.1 rfl (lv_room (by rw [acs]; exact hs8)) hd ⟨by omega, by omega⟩) (fun H1 L hR1 hL => ?_)
  have k9 := k p l e R s m args below meth c U0 a0 D pre cx0 H1 (locs ++ L) n0 s0 Qf LS hR1 (fun q hq => (List.mem_append.mp hq).elim (hlo9 q) (hL q)) (by omega) (by omega) hl hc1 hc2 hret
  rw [hnx, pushR_map] at k9
  have e5 : h1.1 - n0 = h.1 - n0 + (h1.1 - h.1) := by omega
  have e6 : h1.2.1 - s0 = h.2.1 - s0 + (h1.2.1 - h.2.1) := by omega
  rw [e5, e6] at k9
  exact k9
end
section
/-! Math.abs, Math.max -/
theorem WP_abs {M : Mth} {d ip : Nat} {ls : LV} {st : List AV} {h : Hp} {Q : Option AV → Hp → Prop} {en : Ent} (he : (mT M)[ip]? = some en) {i : Nat} {x : Int} (hi : eI en = .invokestatic i) (hw : (eW en == 99999) = false) (hny : (eY en == 1) = false) (hy : NM[eX en]? = some Lib.Math.abs.name) (hs8 : (st.map ac).sum ≤ 8) (h1 : -2147483648 < x) (h2 : x ≤ 2147483647) (k : WP M (d + 1) (eN en) ls (vi (if 0 ≤ x then x else -x) :: st) h Q) : WP M (d + 1) ip ls (vi x :: st) h Q := by
  obtain ⟨v, h', ⟨a1, b1, k⟩, hq⟩ := k
  refine ⟨v, h', ⟨a1, b1, fun p l e R s m args below meth c U0 a0 D pre cx H locs n0 s0 Qf LS hR hlo9 hn hs hl hc1 hc2 hret => ?_⟩, hq⟩
  have cx0 := cx
  obtain ⟨⟨hg, hK, hpre, hZ⟩, hx, hb, hml, hr, hlk, hnm, hown, hW, hfr, hlo, hok⟩ := cx
  obtain ⟨hbp, hd, hlen, hnx, hxx⟩ := hok.at he
  unfold okX at hxx
  rw [hi] at hd hlen hnx hxx
  have hlen := hlen rfl
  have hnx := hnx rfl
  rw [hlen] at hd hnx
  rw [hbp]
  have hal := hW.alike
  dsimp only at hxx
  rw [hw, hy, hny, Bool.false_or] at hxx
  have hxx := of_decide_eq_true hxx
  refine va_mabs (x := Int32.ofInt x) hx hb (by rw [hml]; exact hl.1.symm) hown (wd hg hW hxx rfl) (wd hg hW (i := 359) (by decide +kernel) rfl) (wd hg hW (i := 52) (by decide +kernel) rfl) (wd hg hW (i := 360) (w := Cond.code Lib.Math.abs.name Lib.Math.abs.code 1 (some .int)) (by decide +kernel) rfl) (by omega) (by rw [acs]; omega) (by omega) (by omega) hd ?_
  have ev : (if 0 ≤ Int32.ofInt x then Int32.ofInt x else 0 - Int32.ofInt x) = Int32.ofInt (if 0 ≤ x then x else -x) := by
    have e0 : (0 : Int32) = Int32.ofInt 0 := rfl
    have hiff := i32_le (x := 0) (y := x) inR0 ⟨by omega, h2⟩
    by_cases hx0 : 0 ≤ x
    · rw [e0, if_pos (hiff.mpr hx0), if_pos hx0]
    · rw [e0, if_neg (fun q => hx0 (hiff.mp q)), if_neg hx0, o_sub, Int.zero_sub]
  rw [ev]
  have k9 := k p l e R s m args below meth c U0 a0 D pre cx0 H locs n0 s0 Qf LS hR hlo9 hn hs hl hc1 hc2 hret
  rw [hnx] at k9
  exact k9
theorem WP_max {M : Mth} {d ip : Nat} {ls : LV} {st : List AV} {h : Hp} {Q : Option AV → Hp → Prop} {en : Ent} (he : (mT M)[ip]? = some en) {i : Nat} {x y : Int} (hi : eI en = .invokestatic i) (hw : (eW en == 99999) = false) (hny : (eY en == 1) = false) (hy : NM[eX en]? = some Lib.Math.max.name) (hs8 : (st.map ac).sum ≤ 8) (h1 : inR x) (h2 : inR y) (k : WP M (d + 1) (eN en) ls (vi (if x < y then y else x) :: st) h Q) : WP M (d + 1) ip ls (vi y :: vi x :: st) h Q := by
  obtain ⟨v, h', ⟨a1, b1, k⟩, hq⟩ := k
  refine ⟨v, h', ⟨a1, b1, fun p l e R s m args below meth c U0 a0 D pre cx H locs n0 s0 Qf LS hR hlo9 hn hs hl hc1 hc2 hret => ?_⟩, hq⟩
  have cx0 := cx
  obtain ⟨⟨hg, hK, hpre, hZ⟩, hx, hb, hml, hr, hlk, hnm, hown, hW, hfr, hlo, hok⟩ := cx
  obtain ⟨hbp, hd, hlen, hnx, hxx⟩ := hok.at he
  unfold okX at hxx
  rw [hi] at hd hlen hnx hxx
  have hlen := hlen rfl
  have hnx := hnx rfl
  rw [hlen] at hd hnx
  rw [hbp]
  have hal := hW.alike
  dsimp only at hxx
  rw [hw, hy, hny, Bool.false_or] at hxx
  have hxx := of_decide_eq_true hxx
  refine va_mmax (x := Int32.ofInt x) (y := Int32.ofInt y) hx hb (by rw [hml]; exact hl.1.symm) hown (wd hg hW hxx rfl) (wd hg hW (i := 538) (by decide +kernel) rfl) (wd hg hW (i := 52) (by decide +kernel) rfl) (wd hg hW (i := 539) (w := Cond.code Lib.Math.max.name Lib.Math.max.code 2 (some .int)) (by decide +kernel) rfl) (by omega) (by rw [acs]; omega) (by omega) (by omega) hd ?_
  have ev : (if Int32.ofInt x < Int32.ofInt y then Int32.ofInt y else Int32.ofInt x) = Int32.ofInt (if x < y then y else x) := by
    have hiff := i32_lt h1 h2
    by_cases hx0 : x < y
    · rw [if_pos (hiff.mpr hx0), if_pos hx0]
    · rw [if_neg (fun q => hx0 (hiff.mp q)), if_neg hx0]
  rw [ev]
  have k9 := k p l e R s m args below meth c U0 a0 D pre cx0 H locs n0 s0 Qf LS hR hlo9 hn hs hl hc1 hc2 hret
  rw [hnx] at k9
  exact k9
end
section
/-! methods' tables agree with their bytes and with the tables' words -/
theorem ok_M_F_init : OKI M_F_init 0 := ⟨by unfold MOK; decide +kernel, by decide +kernel, by decide +kernel, by decide +kernel⟩
theorem ok_M_H_init : OKI M_H_init 0 := ⟨by unfold MOK; decide +kernel, by decide +kernel, by decide +kernel, by decide +kernel⟩
theorem ok_J_fill : OKS J_fill 2 := ⟨by unfold MOK; decide +kernel, by decide +kernel, by decide +kernel, by decide +kernel⟩
theorem ok_M_S_init : OKI M_S_init 1 := ⟨by unfold MOK; decide +kernel, by decide +kernel, by decide +kernel, by decide +kernel⟩
theorem ok_M_V_init : OKI M_V_init 1 := ⟨by unfold MOK; decide +kernel, by decide +kernel, by decide +kernel, by decide +kernel⟩
theorem ok_M_C_init : OKI M_C_init 1 := ⟨by unfold MOK; decide +kernel, by decide +kernel, by decide +kernel, by decide +kernel⟩
theorem ok_M_L_init : OKI M_L_init 1 := ⟨by unfold MOK; decide +kernel, by decide +kernel, by decide +kernel, by decide +kernel⟩
theorem ok_M_F_floor : OKV M_F_floor 3 := ⟨by unfold MOK; decide +kernel, by decide +kernel, by decide +kernel, by decide +kernel⟩
theorem ok_M_F_noFloor : OKS M_F_noFloor 1 := ⟨by unfold MOK; decide +kernel, by decide +kernel, by decide +kernel, by decide +kernel⟩
theorem ok_M_F_refuse : OKV M_F_refuse 1 := ⟨by unfold MOK; decide +kernel, by decide +kernel, by decide +kernel, by decide +kernel⟩
theorem ok_M_F_exchange : OKS M_F_exchange 3 := ⟨by unfold MOK; decide +kernel, by decide +kernel, by decide +kernel, by decide +kernel⟩
theorem ok_M_F_team : OKV M_F_team 4 := ⟨by unfold MOK; decide +kernel, by decide +kernel, by decide +kernel, by decide +kernel⟩
theorem ok_M_F_size : OKV M_F_size 2 := ⟨by unfold MOK; decide +kernel, by decide +kernel, by decide +kernel, by decide +kernel⟩
theorem ok_M_F_noTeam : OKV M_F_noTeam 1 := ⟨by unfold MOK; decide +kernel, by decide +kernel, by decide +kernel, by decide +kernel⟩
theorem ok_M_F_sit : OKV M_F_sit 2 := ⟨by unfold MOK; decide +kernel, by decide +kernel, by decide +kernel, by decide +kernel⟩
theorem ok_M_F_fix : OKV M_F_fix 2 := ⟨by unfold MOK; decide +kernel, by decide +kernel, by decide +kernel, by decide +kernel⟩
theorem ok_M_F_two : OKV M_F_two 4 := ⟨by unfold MOK; decide +kernel, by decide +kernel, by decide +kernel, by decide +kernel⟩
theorem ok_M_H_tableOf : OKV M_H_tableOf 1 := ⟨by unfold MOK; decide +kernel, by decide +kernel, by decide +kernel, by decide +kernel⟩
theorem ok_M_F_fit : OKV M_F_fit 0 := ⟨by unfold MOK; decide +kernel, by decide +kernel, by decide +kernel, by decide +kernel⟩
theorem ok_M_H_isFit : OKV M_H_isFit 1 := ⟨by unfold MOK; decide +kernel, by decide +kernel, by decide +kernel, by decide +kernel⟩
theorem ok_M_H_freeSeats : OKV M_H_freeSeats 2 := ⟨by unfold MOK; decide +kernel, by decide +kernel, by decide +kernel, by decide +kernel⟩
theorem ok_M_F_holds : OKS M_F_holds 2 := ⟨by unfold MOK; decide +kernel, by decide +kernel, by decide +kernel, by decide +kernel⟩
theorem ok_M_H_stays : OKV M_H_stays 2 := ⟨by unfold MOK; decide +kernel, by decide +kernel, by decide +kernel, by decide +kernel⟩
theorem ok_M_H_suits : OKV M_H_suits 2 := ⟨by unfold MOK; decide +kernel, by decide +kernel, by decide +kernel, by decide +kernel⟩
theorem ok_M_H_agreesWithEarlier : OKV M_H_agreesWithEarlier 2 := ⟨by unfold MOK; decide +kernel, by decide +kernel, by decide +kernel, by decide +kernel⟩
theorem ok_M_H_agree : OKV M_H_agree 4 := ⟨by unfold MOK; decide +kernel, by decide +kernel, by decide +kernel, by decide +kernel⟩
theorem ok_M_F_lift : OKV M_F_lift 1 := ⟨by unfold MOK; decide +kernel, by decide +kernel, by decide +kernel, by decide +kernel⟩
theorem ok_M_F_walked : OKV M_F_walked 0 := ⟨by unfold MOK; decide +kernel, by decide +kernel, by decide +kernel, by decide +kernel⟩
theorem ok_M_H_walk : OKV M_H_walk 1 := ⟨by unfold MOK; decide +kernel, by decide +kernel, by decide +kernel, by decide +kernel⟩
theorem ok_M_H_walkBetween : OKV M_H_walkBetween 4 := ⟨by unfold MOK; decide +kernel, by decide +kernel, by decide +kernel, by decide +kernel⟩
theorem ok_M_F_best : OKV M_F_best 3 := ⟨by unfold MOK; decide +kernel, by decide +kernel, by decide +kernel, by decide +kernel⟩
theorem ok_M_F_whyNoSeating : OKV M_F_whyNoSeating 3 := ⟨by unfold MOK; decide +kernel, by decide +kernel, by decide +kernel, by decide +kernel⟩
theorem ok_M_H_fixedTeams : OKV M_H_fixedTeams 0 := ⟨by unfold MOK; decide +kernel, by decide +kernel, by decide +kernel, by decide +kernel⟩
theorem ok_J_bitCount : OKS J_bitCount 1 := ⟨by unfold MOK; decide +kernel, by decide +kernel, by decide +kernel, by decide +kernel⟩
theorem ok_M_S_search : OKV M_S_search 2 := ⟨by unfold MOK; decide +kernel, by decide +kernel, by decide +kernel, by decide +kernel⟩
theorem ok_M_F_list : OKS M_F_list 2 := ⟨by unfold MOK; decide +kernel, by decide +kernel, by decide +kernel, by decide +kernel⟩
theorem ok_M_S_walkAmongStaying : OKV M_S_walkAmongStaying 3 := ⟨by unfold MOK; decide +kernel, by decide +kernel, by decide +kernel, by decide +kernel⟩
theorem ok_M_S_placeFrom : OKV M_S_placeFrom 3 := ⟨by unfold MOK; decide +kernel, by decide +kernel, by decide +kernel, by decide +kernel⟩
theorem ok_M_S_isBetter : OKV M_S_isBetter 2 := ⟨by unfold MOK; decide +kernel, by decide +kernel, by decide +kernel, by decide +kernel⟩
theorem ok_M_S_walkAmongPlaced : OKV M_S_walkAmongPlaced 2 := ⟨by unfold MOK; decide +kernel, by decide +kernel, by decide +kernel, by decide +kernel⟩
theorem ok_M_F_bestOf : OKV M_F_bestOf 3 := ⟨by unfold MOK; decide +kernel, by decide +kernel, by decide +kernel, by decide +kernel⟩
theorem ok_M_S_bestFloorOf : OKV M_S_bestFloorOf 1 := ⟨by unfold MOK; decide +kernel, by decide +kernel, by decide +kernel, by decide +kernel⟩
theorem ok_M_F_seat : OKV M_F_seat 2 := ⟨by unfold MOK; decide +kernel, by decide +kernel, by decide +kernel, by decide +kernel⟩
theorem ok_M_S_takeBest : OKV M_S_takeBest 0 := ⟨by unfold MOK; decide +kernel, by decide +kernel, by decide +kernel, by decide +kernel⟩
theorem ok_M_F_target : OKV M_F_target 2 := ⟨by unfold MOK; decide +kernel, by decide +kernel, by decide +kernel, by decide +kernel⟩
theorem ok_M_F_weekends : OKV M_F_weekends 1 := ⟨by unfold MOK; decide +kernel, by decide +kernel, by decide +kernel, by decide +kernel⟩
theorem ok_M_F_whyNoMoving : OKV M_F_whyNoMoving 1 := ⟨by unfold MOK; decide +kernel, by decide +kernel, by decide +kernel, by decide +kernel⟩
theorem ok_M_H_targetedTeams : OKV M_H_targetedTeams 0 := ⟨by unfold MOK; decide +kernel, by decide +kernel, by decide +kernel, by decide +kernel⟩
theorem ok_M_H_standingTeams : OKV M_H_standingTeams 0 := ⟨by unfold MOK; decide +kernel, by decide +kernel, by decide +kernel, by decide +kernel⟩
theorem ok_M_H_floorsOfMovers : OKV M_H_floorsOfMovers 0 := ⟨by unfold MOK; decide +kernel, by decide +kernel, by decide +kernel, by decide +kernel⟩
end
section
/-! methods' tables agree with their bytes and with the tables' words -/
theorem ok_M_V_search : OKV M_V_search 1 := ⟨by unfold MOK; decide +kernel, by decide +kernel, by decide +kernel, by decide +kernel⟩
theorem ok_M_V_prepare : OKV M_V_prepare 1 := ⟨by unfold MOK; decide +kernel, by decide +kernel, by decide +kernel, by decide +kernel⟩
theorem ok_J_fillR : OKS J_fillR 4 := ⟨by unfold MOK; decide +kernel, by decide +kernel, by decide +kernel, by decide +kernel⟩
theorem ok_J_rangeCheck : OKS J_rangeCheck 3 := ⟨by unfold MOK; decide +kernel, by decide +kernel, by decide +kernel, by decide +kernel⟩
theorem ok_M_V_stateBy : OKV M_V_stateBy 1 := ⟨by unfold MOK; decide +kernel, by decide +kernel, by decide +kernel, by decide +kernel⟩
theorem ok_M_V_enqueue : OKV M_V_enqueue 2 := ⟨by unfold MOK; decide +kernel, by decide +kernel, by decide +kernel, by decide +kernel⟩
theorem ok_M_V_enqueueBefore : OKV M_V_enqueueBefore 1 := ⟨by unfold MOK; decide +kernel, by decide +kernel, by decide +kernel, by decide +kernel⟩
theorem ok_M_V_open : OKV M_V_open 1 := ⟨by unfold MOK; decide +kernel, by decide +kernel, by decide +kernel, by decide +kernel⟩
theorem ok_M_F_move : OKV M_F_move 3 := ⟨by unfold MOK; decide +kernel, by decide +kernel, by decide +kernel, by decide +kernel⟩
theorem ok_M_V_followTo : OKV M_V_followTo 1 := ⟨by unfold MOK; decide +kernel, by decide +kernel, by decide +kernel, by decide +kernel⟩
theorem ok_M_V_afterFirstMove : OKV M_V_afterFirstMove 1 := ⟨by unfold MOK; decide +kernel, by decide +kernel, by decide +kernel, by decide +kernel⟩
theorem ok_M_F_go : OKV M_F_go 1 := ⟨by unfold MOK; decide +kernel, by decide +kernel, by decide +kernel, by decide +kernel⟩
theorem ok_M_H_takeTargets : OKV M_H_takeTargets 0 := ⟨by unfold MOK; decide +kernel, by decide +kernel, by decide +kernel, by decide +kernel⟩
theorem ok_M_F_person : OKV M_F_person 3 := ⟨by unfold MOK; decide +kernel, by decide +kernel, by decide +kernel, by decide +kernel⟩
theorem ok_M_F_desks : OKV M_F_desks 1 := ⟨by unfold MOK; decide +kernel, by decide +kernel, by decide +kernel, by decide +kernel⟩
theorem ok_M_C_mostComing : OKV M_C_mostComing 1 := ⟨by unfold MOK; decide +kernel, by decide +kernel, by decide +kernel, by decide +kernel⟩
theorem ok_M_F_lack : OKV M_F_lack 3 := ⟨by unfold MOK; decide +kernel, by decide +kernel, by decide +kernel, by decide +kernel⟩
theorem ok_M_C_spread : OKV M_C_spread 2 := ⟨by unfold MOK; decide +kernel, by decide +kernel, by decide +kernel, by decide +kernel⟩
theorem ok_J_fillL : OKS J_fillL 2 := ⟨by unfold MOK; decide +kernel, by decide +kernel, by decide +kernel, by decide +kernel⟩
theorem ok_M_C_addPerson : OKV M_C_addPerson 1 := ⟨by unfold MOK; decide +kernel, by decide +kernel, by decide +kernel, by decide +kernel⟩
theorem ok_M_C_moreThan : OKV M_C_moreThan 1 := ⟨by unfold MOK; decide +kernel, by decide +kernel, by decide +kernel, by decide +kernel⟩
theorem ok_M_F_least : OKV M_F_least 2 := ⟨by unfold MOK; decide +kernel, by decide +kernel, by decide +kernel, by decide +kernel⟩
theorem ok_M_C_leastDesks : OKV M_C_leastDesks 2 := ⟨by unfold MOK; decide +kernel, by decide +kernel, by decide +kernel, by decide +kernel⟩
theorem ok_M_C_leastOfSpread : OKV M_C_leastOfSpread 1 := ⟨by unfold MOK; decide +kernel, by decide +kernel, by decide +kernel, by decide +kernel⟩
theorem ok_M_F_grow : OKV M_F_grow 3 := ⟨by unfold MOK; decide +kernel, by decide +kernel, by decide +kernel, by decide +kernel⟩
theorem ok_M_F_noQuarter : OKS M_F_noQuarter 1 := ⟨by unfold MOK; decide +kernel, by decide +kernel, by decide +kernel, by decide +kernel⟩
theorem ok_M_F_sizeIn : OKV M_F_sizeIn 2 := ⟨by unfold MOK; decide +kernel, by decide +kernel, by decide +kernel, by decide +kernel⟩
theorem ok_M_H_foretold : OKV M_H_foretold 2 := ⟨by unfold MOK; decide +kernel, by decide +kernel, by decide +kernel, by decide +kernel⟩
theorem ok_M_F_kept : OKV M_F_kept 2 := ⟨by unfold MOK; decide +kernel, by decide +kernel, by decide +kernel, by decide +kernel⟩
theorem ok_M_L_search : OKV M_L_search 1 := ⟨by unfold MOK; decide +kernel, by decide +kernel, by decide +kernel, by decide +kernel⟩
theorem ok_M_L_seatsNeeded : OKV M_L_seatsNeeded 1 := ⟨by unfold MOK; decide +kernel, by decide +kernel, by decide +kernel, by decide +kernel⟩
theorem ok_M_L_heldFloors : OKV M_L_heldFloors 1 := ⟨by unfold MOK; decide +kernel, by decide +kernel, by decide +kernel, by decide +kernel⟩
theorem ok_M_L_addFrom : OKV M_L_addFrom 4 := ⟨by unfold MOK; decide +kernel, by decide +kernel, by decide +kernel, by decide +kernel⟩
theorem ok_M_L_keepIfBetter : OKV M_L_keepIfBetter 2 := ⟨by unfold MOK; decide +kernel, by decide +kernel, by decide +kernel, by decide +kernel⟩
theorem ok_M_L_isSmaller : OKV M_L_isSmaller 1 := ⟨by unfold MOK; decide +kernel, by decide +kernel, by decide +kernel, by decide +kernel⟩
theorem ok_M_F_bill : OKV M_F_bill 1 := ⟨by unfold MOK; decide +kernel, by decide +kernel, by decide +kernel, by decide +kernel⟩
theorem ok_M_H_shareOf : OKV M_H_shareOf 1 := ⟨by unfold MOK; decide +kernel, by decide +kernel, by decide +kernel, by decide +kernel⟩
theorem ok_M_F_turn : OKV M_F_turn 1 := ⟨by unfold MOK; decide +kernel, by decide +kernel, by decide +kernel, by decide +kernel⟩
theorem ok_M_H_nextAtWindow : OKV M_H_nextAtWindow 1 := ⟨by unfold MOK; decide +kernel, by decide +kernel, by decide +kernel, by decide +kernel⟩
theorem ok_M_H_hadLess : OKV M_H_hadLess 2 := ⟨by unfold MOK; decide +kernel, by decide +kernel, by decide +kernel, by decide +kernel⟩
theorem ok_M_F_teamOf : OKV M_F_teamOf 2 := ⟨by unfold MOK; decide +kernel, by decide +kernel, by decide +kernel, by decide +kernel⟩
theorem ok_M_F_free : OKV M_F_free 1 := ⟨by unfold MOK; decide +kernel, by decide +kernel, by decide +kernel, by decide +kernel⟩
theorem ok_M_F_count : OKV M_F_count 1 := ⟨by unfold MOK; decide +kernel, by decide +kernel, by decide +kernel, by decide +kernel⟩
theorem ok_M_H_teamsWith : OKV M_H_teamsWith 2 := ⟨by unfold MOK; decide +kernel, by decide +kernel, by decide +kernel, by decide +kernel⟩
theorem ok_M_H_twosIn : OKV M_H_twosIn 1 := ⟨by unfold MOK; decide +kernel, by decide +kernel, by decide +kernel, by decide +kernel⟩
theorem ok_M_H_peopleTold : OKV M_H_peopleTold 0 := ⟨by unfold MOK; decide +kernel, by decide +kernel, by decide +kernel, by decide +kernel⟩
theorem ok_M_G_init : OKI M_G_init 0 := ⟨by unfold MOK; decide +kernel, by decide +kernel, by decide +kernel, by decide +kernel⟩
theorem ok_M_G_floor : OKV M_G_floor 3 := ⟨by unfold MOK; decide +kernel, by decide +kernel, by decide +kernel, by decide +kernel⟩
theorem ok_M_G_isFloor : OKS M_G_isFloor 1 := ⟨by unfold MOK; decide +kernel, by decide +kernel, by decide +kernel, by decide +kernel⟩
theorem ok_M_G_no : OKV M_G_no 1 := ⟨by unfold MOK; decide +kernel, by decide +kernel, by decide +kernel, by decide +kernel⟩
end
section
/-! methods' tables agree with their bytes and with the tables' words -/
theorem ok_M_G_team : OKV M_G_team 4 := ⟨by unfold MOK; decide +kernel, by decide +kernel, by decide +kernel, by decide +kernel⟩
theorem ok_M_G_size : OKV M_G_size 2 := ⟨by unfold MOK; decide +kernel, by decide +kernel, by decide +kernel, by decide +kernel⟩
theorem ok_M_G_isTeam : OKV M_G_isTeam 1 := ⟨by unfold MOK; decide +kernel, by decide +kernel, by decide +kernel, by decide +kernel⟩
theorem ok_M_G_sit : OKV M_G_sit 2 := ⟨by unfold MOK; decide +kernel, by decide +kernel, by decide +kernel, by decide +kernel⟩
theorem ok_M_G_fix : OKV M_G_fix 2 := ⟨by unfold MOK; decide +kernel, by decide +kernel, by decide +kernel, by decide +kernel⟩
theorem ok_M_G_two : OKV M_G_two 4 := ⟨by unfold MOK; decide +kernel, by decide +kernel, by decide +kernel, by decide +kernel⟩
theorem ok_M_G_fit : OKV M_G_fit 0 := ⟨by unfold MOK; decide +kernel, by decide +kernel, by decide +kernel, by decide +kernel⟩
theorem ok_M_G_isFit : OKV M_G_isFit 1 := ⟨by unfold MOK; decide +kernel, by decide +kernel, by decide +kernel, by decide +kernel⟩
theorem ok_M_G_apart : OKS M_G_apart 2 := ⟨by unfold MOK; decide +kernel, by decide +kernel, by decide +kernel, by decide +kernel⟩
theorem ok_M_G_lift : OKV M_G_lift 1 := ⟨by unfold MOK; decide +kernel, by decide +kernel, by decide +kernel, by decide +kernel⟩
theorem ok_M_G_walked : OKV M_G_walked 0 := ⟨by unfold MOK; decide +kernel, by decide +kernel, by decide +kernel, by decide +kernel⟩
theorem ok_M_G_walks : OKV M_G_walks 1 := ⟨by unfold MOK; decide +kernel, by decide +kernel, by decide +kernel, by decide +kernel⟩
theorem ok_M_G_best : OKV M_G_best 3 := ⟨by unfold MOK; decide +kernel, by decide +kernel, by decide +kernel, by decide +kernel⟩
theorem ok_M_G_refuses : OKV M_G_refuses 3 := ⟨by unfold MOK; decide +kernel, by decide +kernel, by decide +kernel, by decide +kernel⟩
theorem ok_M_G_bits : OKS M_G_bits 1 := ⟨by unfold MOK; decide +kernel, by decide +kernel, by decide +kernel, by decide +kernel⟩
theorem ok_M_G_seats : OKV M_G_seats 2 := ⟨by unfold MOK; decide +kernel, by decide +kernel, by decide +kernel, by decide +kernel⟩
theorem ok_M_G_bestOf : OKV M_G_bestOf 3 := ⟨by unfold MOK; decide +kernel, by decide +kernel, by decide +kernel, by decide +kernel⟩
theorem ok_M_G_seat : OKV M_G_seat 2 := ⟨by unfold MOK; decide +kernel, by decide +kernel, by decide +kernel, by decide +kernel⟩
theorem ok_M_G_target : OKV M_G_target 2 := ⟨by unfold MOK; decide +kernel, by decide +kernel, by decide +kernel, by decide +kernel⟩
theorem ok_M_G_weekends : OKV M_G_weekends 1 := ⟨by unfold MOK; decide +kernel, by decide +kernel, by decide +kernel, by decide +kernel⟩
theorem ok_M_G_refuses1 : OKV M_G_refuses1 1 := ⟨by unfold MOK; decide +kernel, by decide +kernel, by decide +kernel, by decide +kernel⟩
theorem ok_M_G_spot : OKV M_G_spot 1 := ⟨by unfold MOK; decide +kernel, by decide +kernel, by decide +kernel, by decide +kernel⟩
theorem ok_M_G_measures : OKV M_G_measures 0 := ⟨by unfold MOK; decide +kernel, by decide +kernel, by decide +kernel, by decide +kernel⟩
theorem ok_M_G_digit : OKV M_G_digit 2 := ⟨by unfold MOK; decide +kernel, by decide +kernel, by decide +kernel, by decide +kernel⟩
theorem ok_M_G_with : OKV M_G_with 3 := ⟨by unfold MOK; decide +kernel, by decide +kernel, by decide +kernel, by decide +kernel⟩
theorem ok_M_G_goes : OKV M_G_goes 3 := ⟨by unfold MOK; decide +kernel, by decide +kernel, by decide +kernel, by decide +kernel⟩
theorem ok_M_G_freeIn : OKV M_G_freeIn 2 := ⟨by unfold MOK; decide +kernel, by decide +kernel, by decide +kernel, by decide +kernel⟩
theorem ok_M_G_move : OKV M_G_move 3 := ⟨by unfold MOK; decide +kernel, by decide +kernel, by decide +kernel, by decide +kernel⟩
theorem ok_M_G_moves : OKV M_G_moves 1 := ⟨by unfold MOK; decide +kernel, by decide +kernel, by decide +kernel, by decide +kernel⟩
theorem ok_M_G_go : OKV M_G_go 1 := ⟨by unfold MOK; decide +kernel, by decide +kernel, by decide +kernel, by decide +kernel⟩
theorem ok_M_G_person : OKV M_G_person 3 := ⟨by unfold MOK; decide +kernel, by decide +kernel, by decide +kernel, by decide +kernel⟩
theorem ok_M_G_desks : OKV M_G_desks 1 := ⟨by unfold MOK; decide +kernel, by decide +kernel, by decide +kernel, by decide +kernel⟩
theorem ok_M_G_lack : OKV M_G_lack 3 := ⟨by unfold MOK; decide +kernel, by decide +kernel, by decide +kernel, by decide +kernel⟩
theorem ok_M_G_lacks : OKV M_G_lacks 3 := ⟨by unfold MOK; decide +kernel, by decide +kernel, by decide +kernel, by decide +kernel⟩
theorem ok_M_G_least : OKV M_G_least 2 := ⟨by unfold MOK; decide +kernel, by decide +kernel, by decide +kernel, by decide +kernel⟩
theorem ok_M_G_grow : OKV M_G_grow 3 := ⟨by unfold MOK; decide +kernel, by decide +kernel, by decide +kernel, by decide +kernel⟩
theorem ok_M_G_sizeIn : OKV M_G_sizeIn 2 := ⟨by unfold MOK; decide +kernel, by decide +kernel, by decide +kernel, by decide +kernel⟩
theorem ok_M_G_sizeAt : OKV M_G_sizeAt 2 := ⟨by unfold MOK; decide +kernel, by decide +kernel, by decide +kernel, by decide +kernel⟩
theorem ok_M_G_kept : OKV M_G_kept 2 := ⟨by unfold MOK; decide +kernel, by decide +kernel, by decide +kernel, by decide +kernel⟩
theorem ok_M_G_bill : OKV M_G_bill 1 := ⟨by unfold MOK; decide +kernel, by decide +kernel, by decide +kernel, by decide +kernel⟩
theorem ok_M_G_part : OKV M_G_part 3 := ⟨by unfold MOK; decide +kernel, by decide +kernel, by decide +kernel, by decide +kernel⟩
theorem ok_M_G_rest : OKV M_G_rest 3 := ⟨by unfold MOK; decide +kernel, by decide +kernel, by decide +kernel, by decide +kernel⟩
theorem ok_M_G_turn : OKV M_G_turn 1 := ⟨by unfold MOK; decide +kernel, by decide +kernel, by decide +kernel, by decide +kernel⟩
theorem ok_M_G_teamOf : OKV M_G_teamOf 2 := ⟨by unfold MOK; decide +kernel, by decide +kernel, by decide +kernel, by decide +kernel⟩
theorem ok_M_G_free : OKV M_G_free 1 := ⟨by unfold MOK; decide +kernel, by decide +kernel, by decide +kernel, by decide +kernel⟩
theorem ok_M_G_count : OKV M_G_count 1 := ⟨by unfold MOK; decide +kernel, by decide +kernel, by decide +kernel, by decide +kernel⟩
theorem ok_M_G_twos : OKV M_G_twos 1 := ⟨by unfold MOK; decide +kernel, by decide +kernel, by decide +kernel, by decide +kernel⟩
end
section
/-! the law's table, piece by piece -/
theorem all_chunks {p : Ent → Bool} : ∀ (n : Nat) (l : List Ent), l.length ≤ 40 * n → (∀ i, i < n → ((l.drop (40 * i)).take 40).all p = true) → l.all p = true
  | 0, l, hl, _ => by
    have : l = [] := List.eq_nil_of_length_eq_zero (by omega)
    rw [this]; rfl
  | n + 1, l, hl, h => by
    have h0 : (l.take 40).all p = true := by simpa using h 0 (by omega)
    have h1 : (l.drop 40).all p = true := all_chunks n (l.drop 40) (by rw [List.length_drop]; omega) (fun i hi => by
      have := h (i + 1) (by omega)
      rw [List.drop_drop, show 40 + 40 * i = 40 * (i + 1) by omega]
      exact this)
    rw [← List.take_append_drop 40 l, List.all_append, h0, h1]
    rfl
theorem ok_law_0 : (((mT M_law).drop (40 * 0)).take 40).all (okE M_law) = true := by decide +kernel
theorem ok_law_1 : (((mT M_law).drop (40 * 1)).take 40).all (okE M_law) = true := by decide +kernel
theorem ok_law_2 : (((mT M_law).drop (40 * 2)).take 40).all (okE M_law) = true := by decide +kernel
theorem ok_law_3 : (((mT M_law).drop (40 * 3)).take 40).all (okE M_law) = true := by decide +kernel
theorem ok_law_4 : (((mT M_law).drop (40 * 4)).take 40).all (okE M_law) = true := by decide +kernel
theorem ok_law_5 : (((mT M_law).drop (40 * 5)).take 40).all (okE M_law) = true := by decide +kernel
theorem ok_law_6 : (((mT M_law).drop (40 * 6)).take 40).all (okE M_law) = true := by decide +kernel
theorem ok_law_7 : (((mT M_law).drop (40 * 7)).take 40).all (okE M_law) = true := by decide +kernel
theorem ok_law_8 : (((mT M_law).drop (40 * 8)).take 40).all (okE M_law) = true := by decide +kernel
theorem ok_law_9 : (((mT M_law).drop (40 * 9)).take 40).all (okE M_law) = true := by decide +kernel
theorem ok_law_10 : (((mT M_law).drop (40 * 10)).take 40).all (okE M_law) = true := by decide +kernel
theorem ok_law_11 : (((mT M_law).drop (40 * 11)).take 40).all (okE M_law) = true := by decide +kernel
theorem ok_law_12 : (((mT M_law).drop (40 * 12)).take 40).all (okE M_law) = true := by decide +kernel
theorem ok_law_13 : (((mT M_law).drop (40 * 13)).take 40).all (okE M_law) = true := by decide +kernel
theorem ok_law_14 : (((mT M_law).drop (40 * 14)).take 40).all (okE M_law) = true := by decide +kernel
theorem ok_law_15 : (((mT M_law).drop (40 * 15)).take 40).all (okE M_law) = true := by decide +kernel
theorem ok_law_16 : (((mT M_law).drop (40 * 16)).take 40).all (okE M_law) = true := by decide +kernel
theorem ok_law_17 : (((mT M_law).drop (40 * 17)).take 40).all (okE M_law) = true := by decide +kernel
theorem ok_law_18 : (((mT M_law).drop (40 * 18)).take 40).all (okE M_law) = true := by decide +kernel
theorem ok_law_19 : (((mT M_law).drop (40 * 19)).take 40).all (okE M_law) = true := by decide +kernel
theorem ok_M_law : MOK M_law := by
  unfold MOK
  refine all_chunks 20 _ (by decide +kernel) (fun i hi => ?_)
  match i, hi with
  | 0, _ => exact ok_law_0
  | 1, _ => exact ok_law_1
  | 2, _ => exact ok_law_2
  | 3, _ => exact ok_law_3
  | 4, _ => exact ok_law_4
  | 5, _ => exact ok_law_5
  | 6, _ => exact ok_law_6
  | 7, _ => exact ok_law_7
  | 8, _ => exact ok_law_8
  | 9, _ => exact ok_law_9
  | 10, _ => exact ok_law_10
  | 11, _ => exact ok_law_11
  | 12, _ => exact ok_law_12
  | 13, _ => exact ok_law_13
  | 14, _ => exact ok_law_14
  | 15, _ => exact ok_law_15
  | 16, _ => exact ok_law_16
  | 17, _ => exact ok_law_17
  | 18, _ => exact ok_law_18
  | 19, _ => exact ok_law_19
  | k + 20, hi => exact absurd hi (by omega)
end
section
/-! THE SETTLED HEAP: every object and row that the two constructors make, at its number; what changes: numbers in fields (FI), in rows (A), in long rows (L), and the two rows of Moving that may be made anew (ml, qu; rows from 193 on, of lengths dl) -/
abbrev SX : Type := Nat × Nat × Nat × Nat × (Nat → Nat)
abbrev S2 : Type := (Nat → Nat → Int) × (Nat → Nat → Int) × (Nat → Nat → Int) × SX
abbrev PP : Type := Nat × (Nat → Int)
def up2 (A : Nat → Nat → Int) (a j : Nat) (x : Int) : Nat → Nat → Int := fun b k => if b = a ∧ k = j then x else A b k
def kd (a : Nat) : Nat := cond (a == 5 || a == 6 || a == 138 || a == 152 || a == 160 || a == 162 || a == 165) 1 (cond (a == 161 || a == 192) 2 (cond (a == 7 || a == 19 || a == 36 || a == 53 || a == 70 || a == 87 || a == 104 || a == 121 || a == 142) 3 (cond (a == 178) 4 0)))
def cOf (a : Nat) : Nat := cond (a == 5) 5 (cond (a == 6) 1 (cond (a == 138) 4 (cond (a == 152) 3 (cond (a == 160) 0 (cond (a == 162) 2 (cond (a == 165) 6 (0)))))))
def flds (FI : Nat → Nat → Int) (ml qu : Nat) (a : Nat) : List AV := cond (a == 5) [vr 6, vr 138, vr 152, vr 160, vr 162, vr 164] (
  cond (a == 6) [vr 7, vr 19, vr 36, vr 53, vr 70, vr 87, vr 104, vr 121, vi (FI 6 8), vi (FI 6 9)] (
  cond (a == 138) [vr 6, vr 139, vr 140, vr 141, vr 142, vr 150, vr 151, vi (FI 138 7), vi (FI 138 8), vi (FI 138 9), vi (FI 138 10), vi (FI 138 11)] (
  cond (a == 152) [vr 6, vr 153, vr 154, vr 155, vr 156, vr 157, vr ml, vr qu, vi (FI 152 8), vi (FI 152 9), vi (FI 152 10), vi (FI 152 11), vi (FI 152 12)] (
  cond (a == 160) [vr 6, vr 161] (
  cond (a == 162) [vr 6, vr 163, vi (FI 162 2), vi (FI 162 3), vi (FI 162 4), vi (FI 162 5)] (
  cond (a == 165) [vi (FI 165 0), vi (FI 165 1), vr 166, vr 167, vr 168, vr 169, vr 170, vr 171, vr 172, vr 173, vr 174, vr 175, vr 176, vr 177, vr 178, vr 179, vr 180, vr 181, vr 182, vr 183, vr 184, vr 185, vr 186, vr 187, vr 188, vr 189, vr 190, vr 191, vr 192, vi (FI 165 29), vi (FI 165 30), vi (FI 165 31), vi (FI 165 32), vi (FI 165 33), vi (FI 165 34), vi (FI 165 35), vi (FI 165 36)] (
  [])))))))
def tl (n : Nat) (a : Nat) : Nat := cond (Nat.blt a 5) (cond (a == 0) n (cond (a == 4) 7 (cond (a == 3) 3 4))) (cond (Nat.blt a 19) 4 (cond (Nat.blt a 36) 9 (cond (Nat.blt a 87) 16 (cond (Nat.blt a 138) 20 (cond (Nat.blt a 152) (cond (Nat.blt a 140) 7 (cond (Nat.blt a 150) 4 7)) (cond (Nat.blt a 165) (cond (Nat.blt a 154) 6 (cond (Nat.blt a 156) 5 (cond (Nat.blt a 157) 6 (cond (Nat.blt a 158) 5 (cond (Nat.blt a 160) 1 (cond (Nat.blt a 164) 12 7)))))) (cond (Nat.blt a 170) 11 (cond (Nat.blt a 179) 16 (cond (Nat.blt a 182) 256 (cond (Nat.blt a 185) 320 (cond (Nat.blt a 186) 7 (cond (Nat.blt a 189) 16 (cond (Nat.blt a 190) 11 15625)))))))))))))
def iL (n : Nat) (dl : Nat → Nat) (a : Nat) : Nat := cond (Nat.blt a 193) (tl n a) (dl a)
def rL (a : Nat) : Nat := cond (a == 7) 11 (cond (a == 142) 7 16)
def lL (a : Nat) : Nat := cond (a == 161) 21 22
def FFt (j : Nat) : Int := [40, 0, 10, 19].getD j 0
def FMt (j : Nat) : Int := [300, 7, 999, 19].getD j 0
def TMt (j : Nat) : Int := [99, 1, 1].getD j 0
def PWt (j : Nat) : Int := [1, 5, 25, 125, 625, 3125, 15625].getD j 0
def st5 (P : PP) (a j : Nat) : Int := cond (a == 0) (P.2 j) (cond (a == 1) (FFt j) (cond (a == 2) (FMt j) (cond (a == 3) (TMt j) (PWt j))))
def cont (P : PP) (A : Nat → Nat → Int) (a j : Nat) : Int := cond (Nat.blt a 5) (st5 P a j) (A a j)
def cc2 (P : PP) (FI A L : Nat → Nat → Int) (X : SX) (a : Nat) : AC := match kd a with
  | 1 => .inl (cOf a, flds FI X.2.2.1 X.2.2.2.1 a)
  | 2 => .inr (.long, lL a, fun j => vl (L a j))
  | 3 => .inr (.array .int, rL a, fun j => vr (a + 1 + j))
  | 4 => .inr (.boolean, 16, fun j => vi (A a j))
  | _ => .inr (.int, iL P.1 X.2.2.2.2 a, fun j => vi (cont P A a j))
def H2 (P : PP) (S : S2) : Hp := (193 + S.2.2.2.1, S.2.2.2.2.1, cc2 P S.1 S.2.1 S.2.2.1 S.2.2.2)
def WP2 (P : PP) (M : Mth) (d ip : Nat) (ls : LV) (st : List AV) (S : S2) (Q : Option AV → S2 → Prop) : Prop := WP M d ip ls st (H2 P S) (fun v h' => ∃ S', h' = H2 P S' ∧ Q v S')
theorem WP2.mono {P : PP} {M : Mth} {d ip : Nat} {ls : LV} {st : List AV} {S : S2} {Q Q' : Option AV → S2 → Prop} (k : WP2 P M d ip ls st S Q) (hq : ∀ v S', Q v S' → Q' v S') : WP2 P M d ip ls st S Q' := WP.mono k (fun v h' ⟨S', e, q⟩ => ⟨S', e, hq v S' q⟩)
def isIA (P : PP) (X : SX) (a n : Nat) : Prop := kd a = 0 ∧ iL P.1 X.2.2.2.2 a = n ∧ a < 193 + X.1
theorem cc2_obj {P : PP} {FI A L : Nat → Nat → Int} {X : SX} {a : Nat} (h : kd a = 1) : cc2 P FI A L X a = .inl (cOf a, flds FI X.2.2.1 X.2.2.2.1 a) := by unfold cc2; rw [h]; rfl
theorem cc2_int {P : PP} {FI A L : Nat → Nat → Int} {X : SX} {a n : Nat} (h : isIA P X a n) : cc2 P FI A L X a = .inr (.int, n, fun j => vi (cont P A a j)) := by unfold cc2; rw [h.1, ← h.2.1]; rfl
theorem cc2_lng {P : PP} {FI A L : Nat → Nat → Int} {X : SX} {a : Nat} (h : kd a = 2) : cc2 P FI A L X a = .inr (.long, lL a, fun j => vl (L a j)) := by unfold cc2; rw [h]; rfl
theorem cc2_ref {P : PP} {FI A L : Nat → Nat → Int} {X : SX} {a : Nat} (h : kd a = 3) : cc2 P FI A L X a = .inr (.array .int, rL a, fun j => vr (a + 1 + j)) := by unfold cc2; rw [h]; rfl
theorem cc2_bol {P : PP} {FI A L : Nat → Nat → Int} {X : SX} {a : Nat} (h : kd a = 4) : cc2 P FI A L X a = .inr (.boolean, 16, fun j => vi (A a j)) := by unfold cc2; rw [h]; rfl
theorem cont_own {P : PP} {A : Nat → Nat → Int} {a j : Nat} (h : 5 ≤ a) : cont P A a j = A a j := by
  unfold cont
  have : Nat.blt a 5 = false := Bool.eq_false_iff.mpr (by rw [ne_eq, Nat.blt_eq]; omega)
  rw [this]; rfl
theorem kd_lt {a : Nat} (h : kd a ≠ 0) : 5 ≤ a ∧ a < 193 := by
  unfold kd at h
  simp only [cond_eq_ite, Bool.or_eq_true, beq_iff_eq] at h
  split at h
  · omega
  · split at h
    · omega
    · split at h
      · omega
      · split at h
        · omega
        · exact absurd rfl h
theorem WP2_getf {P : PP} {M : Mth} {d ip : Nat} {ls : LV} {st : List AV} {FI A L : Nat → Nat → Int} {X : SX} {Q : Option AV → S2 → Prop} {en : Ent} (he : (mT M)[ip]? = some en) {i a : Nat} {v : AV} (hi : eI en = .getfield i) (hk : kd a = 1) (hx : cOf a = eX en) (hv : (flds FI X.2.2.1 X.2.2.2.1 a)[eY en]? = some v) (k : WP2 P M d (eN en) ls (v :: st) (FI, A, L, X) Q) : WP2 P M d ip ls (vr a :: st) (FI, A, L, X) Q :=
  WP_getf he hi (by rw [← hx]; exact cc2_obj hk) (by have := kd_lt (a := a) (by omega); show a < 193 + X.1; omega) hv k
theorem WP2_iald {P : PP} {M : Mth} {d ip : Nat} {ls : LV} {st : List AV} {FI A L : Nat → Nat → Int} {X : SX} {Q : Option AV → S2 → Prop} {en : Ent} (he : (mT M)[ip]? = some en) {a n j : Nat} {i : Int} (hi : eI en = .iaload) (hA : isIA P X a n) (ha5 : 5 ≤ a) (hj : i = (j : Int)) (h1 : j < n) (k : WP2 P M d (eN en) ls (vi (A a j) :: st) (FI, A, L, X) Q) : WP2 P M d ip ls (vi i :: vr a :: st) (FI, A, L, X) Q := by
  subst hj
  refine WP_iald he hi (cc2_int hA) hA.2.2 (by omega) (by omega) ?_
  rw [cont_own ha5]
  exact k
theorem WP2_ialds {P : PP} {M : Mth} {d ip : Nat} {ls : LV} {st : List AV} {FI A L : Nat → Nat → Int} {X : SX} {Q : Option AV → S2 → Prop} {en : Ent} (he : (mT M)[ip]? = some en) {a n j : Nat} {i : Int} (hi : eI en = .iaload) (hA : isIA P X a n) (ha5 : a < 5) (hj : i = (j : Int)) (h1 : j < n) (k : WP2 P M d (eN en) ls (vi (st5 P a j) :: st) (FI, A, L, X) Q) : WP2 P M d ip ls (vi i :: vr a :: st) (FI, A, L, X) Q := by
  subst hj
  refine WP_iald he hi (cc2_int hA) hA.2.2 (by omega) (by omega) ?_
  have e : cont P A a j = st5 P a j := by
    unfold cont
    have : Nat.blt a 5 = true := by rw [Nat.blt_eq]; exact ha5
    rw [this]; rfl
  show WP2 P M d (eN en) ls (vi (cont P A a j) :: st) (FI, A, L, X) Q
  rw [e]
  exact k
theorem WP2_alen {P : PP} {M : Mth} {d ip : Nat} {ls : LV} {st : List AV} {FI A L : Nat → Nat → Int} {X : SX} {Q : Option AV → S2 → Prop} {en : Ent} (he : (mT M)[ip]? = some en) {a n : Nat} (hi : eI en = .arraylength) (hA : isIA P X a n) (k : WP2 P M d (eN en) ls (vi (n : Int) :: st) (FI, A, L, X) Q) : WP2 P M d ip ls (vr a :: st) (FI, A, L, X) Q := WP_alen he hi (cc2_int hA) hA.2.2 k
theorem WP2_alenl {P : PP} {M : Mth} {d ip : Nat} {ls : LV} {st : List AV} {FI A L : Nat → Nat → Int} {X : SX} {Q : Option AV → S2 → Prop} {en : Ent} (he : (mT M)[ip]? = some en) {a : Nat} (hi : eI en = .arraylength) (hk : kd a = 2) (k : WP2 P M d (eN en) ls (vi (lL a : Int) :: st) (FI, A, L, X) Q) : WP2 P M d ip ls (vr a :: st) (FI, A, L, X) Q := WP_alen he hi (cc2_lng hk) (by have := kd_lt (a := a) (by omega); show a < 193 + X.1; omega) k
theorem WP2_zald {P : PP} {M : Mth} {d ip : Nat} {ls : LV} {st : List AV} {FI A L : Nat → Nat → Int} {X : SX} {Q : Option AV → S2 → Prop} {en : Ent} (he : (mT M)[ip]? = some en) {a j : Nat} {i : Int} (hi : eI en = .baload) (hk : kd a = 4) (hj : i = (j : Int)) (h1 : j < 16) (k : WP2 P M d (eN en) ls (vi (A a j) :: st) (FI, A, L, X) Q) : WP2 P M d ip ls (vi i :: vr a :: st) (FI, A, L, X) Q := by
  subst hj
  exact WP_zald he hi (cc2_bol hk) (by have := kd_lt (a := a) (by omega); show a < 193 + X.1; omega) (by omega) (by omega) k
theorem WP2_lald {P : PP} {M : Mth} {d ip : Nat} {ls : LV} {st : List AV} {FI A L : Nat → Nat → Int} {X : SX} {Q : Option AV → S2 → Prop} {en : Ent} (he : (mT M)[ip]? = some en) {a j n : Nat} {i : Int} (hi : eI en = .laload) (hk : kd a = 2) (hn : lL a = n) (hj : i = (j : Int)) (h1 : j < n) (k : WP2 P M d (eN en) ls (vl (L a j) :: st) (FI, A, L, X) Q) : WP2 P M d ip ls (vi i :: vr a :: st) (FI, A, L, X) Q := by
  subst hj
  exact WP_lald he hi (cc2_lng hk) (by have := kd_lt (a := a) (by omega); show a < 193 + X.1; omega) (by omega) (by omega) k
theorem WP2_aald {P : PP} {M : Mth} {d ip : Nat} {ls : LV} {st : List AV} {FI A L : Nat → Nat → Int} {X : SX} {Q : Option AV → S2 → Prop} {en : Ent} (he : (mT M)[ip]? = some en) {a b j n : Nat} {i : Int} (hi : eI en = .aaload) (hk : kd a = 3) (hb : a + 1 = b) (hn : rL a = n) (hj : i = (j : Int)) (h1 : j < n) (k : WP2 P M d (eN en) ls (vr (b + j) :: st) (FI, A, L, X) Q) : WP2 P M d ip ls (vi i :: vr a :: st) (FI, A, L, X) Q := by
  subst hj
  subst hb
  exact WP_aald he hi (cc2_ref hk) (by have := kd_lt (a := a) (by omega); show a < 193 + X.1; omega) (by omega) (by omega) k
theorem cc2_upA {P : PP} {FI A L : Nat → Nat → Int} {X : SX} {a n j : Nat} {x : Int} (hA : isIA P X a n) (ha5 : 5 ≤ a) : setC (H2 P (FI, A, L, X)) a (.inr (.int, n, fun k => if k = j then vi x else vi (cont P A a k))) = H2 P (FI, up2 A a j x, L, X) := by
  unfold setC H2
  refine congrArg (fun f => (193 + X.1, X.2.1, f)) (funext fun b => ?_)
  by_cases e : b = a
  · subst e
    show (if b = b then _ else _) = cc2 P FI (up2 A b j x) L X b
    rw [if_pos rfl, cc2_int hA]
    refine congrArg (fun f => Sum.inr (FieldType.int, n, f)) (funext fun k => ?_)
    rw [cont_own ha5, cont_own ha5]
    unfold up2
    by_cases ek : k = j
    · rw [if_pos ek, if_pos ⟨rfl, ek⟩]
    · rw [if_neg ek, if_neg (fun q => ek q.2)]
  · show (if b = a then _ else cc2 P FI A L X b) = cc2 P FI (up2 A a j x) L X b
    rw [if_neg e]
    have eu : ∀ k, up2 A a j x b k = A b k := fun k => by unfold up2; rw [if_neg (fun q => e q.1)]
    unfold cc2 cont
    simp only [eu]
theorem WP2_iast {P : PP} {M : Mth} {d ip : Nat} {ls : LV} {st : List AV} {FI A L : Nat → Nat → Int} {X : SX} {Q : Option AV → S2 → Prop} {en : Ent} (he : (mT M)[ip]? = some en) {a n j : Nat} {i x : Int} (hi : eI en = .iastore) (hA : isIA P X a n) (ha5 : 5 ≤ a) (hj : i = (j : Int)) (h1 : j < n) (k : WP2 P M d (eN en) ls st (FI, up2 A a j x, L, X) Q) : WP2 P M d ip ls (vi x :: vi i :: vr a :: st) (FI, A, L, X) Q := by
  subst hj
  refine WP_iast he hi (cc2_int hA) hA.2.2 ha5 (by omega) (by omega) ?_
  have e := cc2_upA (FI := FI) (A := A) (L := L) (j := j) (x := x) hA ha5
  unfold WP2 at k
  rw [← e] at k
  exact k
theorem WP2_zast {P : PP} {M : Mth} {d ip : Nat} {ls : LV} {st : List AV} {FI A L : Nat → Nat → Int} {X : SX} {Q : Option AV → S2 → Prop} {en : Ent} (he : (mT M)[ip]? = some en) {j : Nat} {i x : Int} (hi : eI en = .bastore) (hj : i = (j : Int)) (h1 : j < 16) (hz : x = 0 ∨ x = 1) (k : WP2 P M d (eN en) ls st (FI, up2 A 178 j x, L, X) Q) : WP2 P M d ip ls (vi x :: vi i :: vr 178 :: st) (FI, A, L, X) Q := by
  subst hj
  refine WP_zast he hi (cc2_bol (P := P) (FI := FI) (A := A) (L := L) (X := X) (a := 178) (by rfl)) (by show 178 < 193 + X.1; omega) (by omega) (by omega) (by omega) hz ?_
  have e : setC (H2 P (FI, A, L, X)) 178 (.inr (.boolean, 16, fun k => if k = j then vi x else vi (A 178 k))) = H2 P (FI, up2 A 178 j x, L, X) := by
    unfold setC H2
    refine congrArg (fun f => (193 + X.1, X.2.1, f)) (funext fun b => ?_)
    by_cases e : b = 178
    · subst e
      show (if 178 = 178 then _ else _) = cc2 P FI (up2 A 178 j x) L X 178
      rw [if_pos rfl, cc2_bol rfl]
      refine congrArg (fun f => Sum.inr (FieldType.boolean, 16, f)) (funext fun k => ?_)
      unfold up2
      by_cases ek : k = j
      · rw [if_pos ek, if_pos ⟨rfl, ek⟩]
      · rw [if_neg ek, if_neg (fun q => ek q.2)]
    · show (if b = 178 then _ else cc2 P FI A L X b) = cc2 P FI (up2 A 178 j x) L X b
      rw [if_neg e]
      have eu : ∀ k, up2 A 178 j x b k = A b k := fun k => by unfold up2; rw [if_neg (fun q => e q.1)]
      unfold cc2 cont
      simp only [eu]
  unfold WP2 at k
  rw [← e] at k
  exact k
theorem WP2_last {P : PP} {M : Mth} {d ip : Nat} {ls : LV} {st : List AV} {FI A L : Nat → Nat → Int} {X : SX} {Q : Option AV → S2 → Prop} {en : Ent} (he : (mT M)[ip]? = some en) {a j n : Nat} {i x : Int} (hi : eI en = .lastore) (hk : kd a = 2) (hn : lL a = n) (hj : i = (j : Int)) (h1 : j < n) (k : WP2 P M d (eN en) ls st (FI, A, up2 L a j x, X) Q) : WP2 P M d ip ls (vl x :: vi i :: vr a :: st) (FI, A, L, X) Q := by
  subst hj
  have hlt := kd_lt (a := a) (by omega)
  refine WP_last he hi (cc2_lng hk) (by show a < 193 + X.1; omega) hlt.1 (by omega) (by omega) ?_
  have e : setC (H2 P (FI, A, L, X)) a (.inr (.long, lL a, fun k => if k = j then vl x else vl (L a k))) = H2 P (FI, A, up2 L a j x, X) := by
    unfold setC H2
    refine congrArg (fun f => (193 + X.1, X.2.1, f)) (funext fun b => ?_)
    by_cases e : b = a
    · subst e
      show (if b = b then _ else _) = cc2 P FI A (up2 L b j x) X b
      rw [if_pos rfl, cc2_lng hk]
      refine congrArg (fun f => Sum.inr (FieldType.long, lL b, f)) (funext fun k => ?_)
      unfold up2
      by_cases ek : k = j
      · rw [if_pos ek, if_pos ⟨rfl, ek⟩]
      · rw [if_neg ek, if_neg (fun q => ek q.2)]
    · show (if b = a then _ else cc2 P FI A L X b) = cc2 P FI A (up2 L a j x) X b
      rw [if_neg e]
      have eu : ∀ k, up2 L a j x b k = L b k := fun k => by unfold up2; rw [if_neg (fun q => e q.1)]
      unfold cc2
      simp only [eu]
  unfold WP2 at k
  rw [← e] at k
  exact k
def isI (a k : Nat) : Bool := (a == 6 && (k == 8 || k == 9)) || (a == 138 && (k == 7 || k == 8 || k == 9 || k == 10 || k == 11)) || (a == 152 && (k == 8 || k == 9 || k == 10 || k == 11 || k == 12)) || (a == 162 && (k == 2 || k == 3 || k == 4 || k == 5)) || (a == 165 && (k == 0 || k == 1 || k == 29 || k == 30 || k == 31 || k == 32 || k == 33 || k == 34 || k == 35 || k == 36))
theorem flds_up {FI : Nat → Nat → Int} {ml qu a k : Nat} {x : Int} (h : isI a k = true) : (flds FI ml qu a).set k (vi x) = flds (up2 FI a k x) ml qu a := by
  unfold isI at h
  simp only [Bool.or_eq_true, Bool.and_eq_true, beq_iff_eq, or_assoc] at h
  rcases h with ⟨rfl, rfl | rfl⟩ | ⟨rfl, rfl | rfl | rfl | rfl | rfl⟩ | ⟨rfl, rfl | rfl | rfl | rfl | rfl⟩ | ⟨rfl, rfl | rfl | rfl | rfl⟩ | ⟨rfl, rfl | rfl | rfl | rfl | rfl | rfl | rfl | rfl | rfl | rfl⟩ <;> simp [flds, up2]
theorem flds_ne {FI : Nat → Nat → Int} {ml qu a b k : Nat} {x : Int} (h : b ≠ a) : flds (up2 FI a k x) ml qu b = flds FI ml qu b := by
  have e : ∀ j, up2 FI a k x b j = FI b j := fun j => by unfold up2; rw [if_neg (fun q => h q.1)]
  unfold flds
  simp only [cond_eq_ite, beq_iff_eq]
  repeat (split; · rename_i hb; subst hb; simp only [e])
  rfl
theorem fldsF {FI : Nat → Nat → Int} {ml qu a k : Nat} (h : isI a k = true) : kd a = 1 := by
  unfold isI at h
  simp only [Bool.or_eq_true, Bool.and_eq_true, beq_iff_eq, or_assoc] at h
  rcases h with ⟨rfl, -⟩ | ⟨rfl, -⟩ | ⟨rfl, -⟩ | ⟨rfl, -⟩ | ⟨rfl, -⟩ <;> rfl
theorem WP2_putf {P : PP} {M : Mth} {d ip : Nat} {ls : LV} {st : List AV} {FI A L : Nat → Nat → Int} {X : SX} {Q : Option AV → S2 → Prop} {en : Ent} (he : (mT M)[ip]? = some en) {i a : Nat} {x : Int} (hi : eI en = .putfield i) (hf : isI a (eY en) = true) (hx : cOf a = eX en) (hfin : (((vwCl[eX en]?).getD ("", TX0, 0)).2.1 (eY en)).2.2.2 = false) (hv : fok (clT (eX en) (eY en)) (vi x)) (k : WP2 P M d (eN en) ls st (up2 FI a (eY en) x, A, L, X) Q) : WP2 P M d ip ls (vi x :: vr a :: st) (FI, A, L, X) Q := by
  have hk := fldsF (FI := FI) (ml := 0) (qu := 0) hf
  have hlt := kd_lt (a := a) (by omega)
  refine WP_putf he hi (by rw [← hx]; exact cc2_obj hk) (by show a < 193 + X.1; omega) hlt.1 hfin hv ?_
  have e : setC (H2 P (FI, A, L, X)) a (.inl (eX en, (flds FI X.2.2.1 X.2.2.2.1 a).set (eY en) (vi x))) = H2 P (up2 FI a (eY en) x, A, L, X) := by
    unfold setC H2
    refine congrArg (fun f => (193 + X.1, X.2.1, f)) (funext fun b => ?_)
    by_cases e : b = a
    · subst e
      show (if b = b then _ else _) = cc2 P (up2 FI b (eY en) x) A L X b
      rw [if_pos rfl, cc2_obj hk, flds_up hf, hx]
    · show (if b = a then _ else cc2 P FI A L X b) = cc2 P (up2 FI a (eY en) x) A L X b
      rw [if_neg e]
      unfold cc2
      simp only [flds_ne e]
  unfold WP2 at k
  rw [← e] at k
  exact k
theorem WP2_callV {P : PP} {M M' : Mth} {d ip : Nat} {ls : LV} {stk st : List AV} {S : S2} {Q : Option AV → S2 → Prop} {en : Ent} (n : Nat) (hok' : OKV M' n) (he : (mT M)[ip]? = some en) {i : Nat} (hi : eI en = .invokevirtual i) (hw : (eW en == 99999) = false) (hy : NM[eX en]? = some (mY M')) (hnl : (stk.take n).length = n) {a : Nat} (hst : stk = (stk.take n) ++ vr a :: st) (hs8 : (st.map ac).sum ≤ 8) (hlenA : (argl (vr a :: (stk.take n).reverse)).length ≤ mL M') (hk : kd a = 1) (hcl : ((vwCl[cOf a]?).getD ("", TX0, 0)).1 = (mY M').cls) (k : WP2 P M' d 0 (ent M' (vr a :: (stk.take n).reverse)) [] S (fun v1 S1 => WP2 P M (d + 1) (eN en) ls (pushR v1 st) S1 Q)) : WP2 P M (d + 1) ip ls stk S Q :=
  WP_callV n hok' he hi hw hy hnl hst hs8 hlenA (cc2_obj hk) (by have := kd_lt (a := a) (by omega); show a < 193 + S.2.2.2.1; omega) hcl (WP.mono k (fun v1 h1 ⟨S1, e1, q1⟩ => by rw [e1]; exact q1))
theorem WP2_callS {P : PP} {M M' : Mth} {d ip : Nat} {ls : LV} {stk st : List AV} {S : S2} {Q : Option AV → S2 → Prop} {en : Ent} (n : Nat) (hok' : OKS M' n) (he : (mT M)[ip]? = some en) {i : Nat} (hi : eI en = .invokestatic i) (hw : (eW en == 99999) = false) (hny : (eY en == 1) = false) (hy : NM[eX en]? = some (mY M')) (hnl : (stk.take n).length = n) (hst : stk = (stk.take n) ++ st) (hs8 : (st.map ac).sum ≤ 8) (hlenA : (argl ((stk.take n).reverse)).length ≤ mL M') (k : WP2 P M' d 0 (ent M' ((stk.take n).reverse)) [] S (fun v1 S1 => WP2 P M (d + 1) (eN en) ls (pushR v1 st) S1 Q)) : WP2 P M (d + 1) ip ls stk S Q :=
  WP_callS n hok' he hi hw hny hy hnl hst hs8 hlenA (WP.mono k (fun v1 h1 ⟨S1, e1, q1⟩ => by rw [e1]; exact q1))
theorem WP2_callN {P : PP} {M M' : Mth} {d ip : Nat} {ls : LV} {stk st : List AV} {S : S2} {Q : Option AV → S2 → Prop} {en : Ent} (n : Nat) (hok' : OKS M' n) (he : (mT M)[ip]? = some en) {i : Nat} (hi : eI en = .invokestatic i) (hw : (eW en == 99999) = false) (hny : (eY en == 1) = true) (hy : NM[eX en]? = some (mY M')) (hnl : (stk.take n).length = n) (hst : stk = (stk.take n) ++ st) (hs8 : (st.map ac).sum ≤ 8) (hlenA : (argl ((stk.take n).reverse)).length ≤ mL M') (k : WP2 P M' d 0 (ent M' ((stk.take n).reverse)) [] S (fun v1 S1 => WP2 P M (d + 1) (eN en) ls (pushR v1 st) S1 Q)) : WP2 P M (d + 1) ip ls stk S Q :=
  WP_callN n hok' he hi hw hny hy hnl hst hs8 hlenA (WP.mono k (fun v1 h1 ⟨S1, e1, q1⟩ => by rw [e1]; exact q1))
theorem ia_lit {P : PP} {X : SX} {a n : Nat} (h1 : kd a = 0) (h2 : iL P.1 X.2.2.2.2 a = n) (h3 : a < 193 + X.1) : isIA P X a n := ⟨h1, h2, h3⟩
theorem ia_fl {P : PP} {X : SX} {t : Nat} (h : t < 11) : isIA P X (8 + t) 4 := by
  refine ⟨?_, ?_, by omega⟩
  · unfold kd
    simp only [cond_eq_ite, Bool.or_eq_true, beq_iff_eq]
    repeat (first | rw [if_neg (by omega)] | rfl)
  · unfold iL tl
    simp only [cond_eq_ite, Nat.blt_eq, beq_iff_eq]
    repeat (first | rw [if_neg (by omega)] | rw [if_pos (by omega)])
theorem ia_tm {P : PP} {X : SX} {t : Nat} (h : t < 16) : isIA P X (20 + t) 9 := by
  refine ⟨?_, ?_, by omega⟩
  · unfold kd
    simp only [cond_eq_ite, Bool.or_eq_true, beq_iff_eq]
    repeat (first | rw [if_neg (by omega)] | rfl)
  · unfold iL tl
    simp only [cond_eq_ite, Nat.blt_eq, beq_iff_eq]
    repeat (first | rw [if_neg (by omega)] | rw [if_pos (by omega)])
theorem ia_vs {P : PP} {X : SX} {t : Nat} (h : t < 16) : isIA P X (37 + t) 16 := by
  refine ⟨?_, ?_, by omega⟩
  · unfold kd
    simp only [cond_eq_ite, Bool.or_eq_true, beq_iff_eq]
    repeat (first | rw [if_neg (by omega)] | rfl)
  · unfold iL tl
    simp only [cond_eq_ite, Nat.blt_eq, beq_iff_eq]
    repeat (first | rw [if_neg (by omega)] | rw [if_pos (by omega)])
theorem ia_br {P : PP} {X : SX} {t : Nat} (h : t < 16) : isIA P X (54 + t) 16 := by
  refine ⟨?_, ?_, by omega⟩
  · unfold kd
    simp only [cond_eq_ite, Bool.or_eq_true, beq_iff_eq]
    repeat (first | rw [if_neg (by omega)] | rfl)
  · unfold iL tl
    simp only [cond_eq_ite, Nat.blt_eq, beq_iff_eq]
    repeat (first | rw [if_neg (by omega)] | rw [if_pos (by omega)])
theorem ia_nr {P : PP} {X : SX} {t : Nat} (h : t < 16) : isIA P X (71 + t) 16 := by
  refine ⟨?_, ?_, by omega⟩
  · unfold kd
    simp only [cond_eq_ite, Bool.or_eq_true, beq_iff_eq]
    repeat (first | rw [if_neg (by omega)] | rfl)
  · unfold iL tl
    simp only [cond_eq_ite, Nat.blt_eq, beq_iff_eq]
    repeat (first | rw [if_neg (by omega)] | rw [if_pos (by omega)])
theorem ia_hm {P : PP} {X : SX} {t : Nat} (h : t < 16) : isIA P X (88 + t) 20 := by
  refine ⟨?_, ?_, by omega⟩
  · unfold kd
    simp only [cond_eq_ite, Bool.or_eq_true, beq_iff_eq]
    repeat (first | rw [if_neg (by omega)] | rfl)
  · unfold iL tl
    simp only [cond_eq_ite, Nat.blt_eq, beq_iff_eq]
    repeat (first | rw [if_neg (by omega)] | rw [if_pos (by omega)])
theorem ia_su {P : PP} {X : SX} {t : Nat} (h : t < 16) : isIA P X (105 + t) 20 := by
  refine ⟨?_, ?_, by omega⟩
  · unfold kd
    simp only [cond_eq_ite, Bool.or_eq_true, beq_iff_eq]
    repeat (first | rw [if_neg (by omega)] | rfl)
  · unfold iL tl
    simp only [cond_eq_ite, Nat.blt_eq, beq_iff_eq]
    repeat (first | rw [if_neg (by omega)] | rw [if_pos (by omega)])
theorem ia_gw {P : PP} {X : SX} {t : Nat} (h : t < 16) : isIA P X (122 + t) 20 := by
  refine ⟨?_, ?_, by omega⟩
  · unfold kd
    simp only [cond_eq_ite, Bool.or_eq_true, beq_iff_eq]
    repeat (first | rw [if_neg (by omega)] | rfl)
  · unfold iL tl
    simp only [cond_eq_ite, Nat.blt_eq, beq_iff_eq]
    repeat (first | rw [if_neg (by omega)] | rw [if_pos (by omega)])
theorem ia_ws {P : PP} {X : SX} {t : Nat} (h : t < 7) : isIA P X (143 + t) 4 := by
  refine ⟨?_, ?_, by omega⟩
  · unfold kd
    simp only [cond_eq_ite, Bool.or_eq_true, beq_iff_eq]
    repeat (first | rw [if_neg (by omega)] | rfl)
  · unfold iL tl
    simp only [cond_eq_ite, Nat.blt_eq, beq_iff_eq]
    repeat (first | rw [if_neg (by omega)] | rw [if_pos (by omega)])
end
section
/-! bits of small naturals -/
theorem b_and (a b : Nat) : Int32.ofNat a &&& Int32.ofNat b = Int32.ofNat (a &&& b) := by
  apply Int32.toBitVec.inj
  simp only [Int32.toBitVec_and, Int32.toBitVec_ofNat']
  exact (BitVec.ofNat_and ..).symm
theorem b_or (a b : Nat) : Int32.ofNat a ||| Int32.ofNat b = Int32.ofNat (a ||| b) := by
  apply Int32.toBitVec.inj
  simp only [Int32.toBitVec_or, Int32.toBitVec_ofNat']
  exact (BitVec.ofNat_or ..).symm
theorem b_sl : ∀ n, n < 32 → ((Int32.ofNat n &&& 31).toBitVec.smod 32).toNat = n := by decide +kernel
theorem b_ul : ∀ n, n < 32 → (((Int32.ofNat n).toUInt32 &&& Int32.toUInt32 31).toBitVec % 32).toNat = n := by decide +kernel
theorem b_toInt {n : Nat} (h : n < 2147483648) : (Int32.ofNat n).toInt = (n : Int) := Int32.toInt_ofNat_of_lt (by omega)
theorem iAnd_n {a b : Nat} (ha : a < 2147483648) : iAnd (a : Int) (b : Int) = ((a &&& b : Nat) : Int) := by
  unfold iAnd
  rw [Int32.ofInt_eq_ofNat, Int32.ofInt_eq_ofNat, b_and, b_toInt]
  exact Nat.lt_of_le_of_lt Nat.and_le_left ha
theorem iOr_n {a b : Nat} (ha : a < 2 ^ 31) (hb : b < 2 ^ 31) : iOr (a : Int) (b : Int) = ((a ||| b : Nat) : Int) := by
  unfold iOr
  rw [Int32.ofInt_eq_ofNat, Int32.ofInt_eq_ofNat, b_or, b_toInt]
  have := Nat.or_lt_two_pow ha hb
  omega
theorem iShl_n {a k : Nat} (hk : k < 31) (h : a * 2 ^ k < 2147483648) : iShl (a : Int) (k : Int) = ((a * 2 ^ k : Nat) : Int) := by
  unfold iShl
  rw [Int32.ofInt_eq_ofNat, Int32.ofInt_eq_ofNat]
  have e := pk_shlN (n := a) (Int32.ofNat k &&& 31) k (b_sl k (by omega)) (by omega)
  unfold nI at e
  rw [e, b_toInt h]
theorem iShr_n {a k : Nat} (hk : k < 32) (h : a < 2147483648) : iShr (a : Int) (k : Int) = ((a / 2 ^ k : Nat) : Int) := by
  unfold iShr
  rw [Int32.ofInt_eq_ofNat, Int32.ofInt_eq_ofNat]
  have e := pk_shrN (n := a) (by omega) (Int32.ofNat k &&& 31) k (b_sl k hk)
  unfold nI at e
  rw [e, b_toInt]
  exact Nat.lt_of_le_of_lt (Nat.div_le_self a _) h
theorem iUsh_n {a k : Nat} (hk : k < 32) (h : a < 2147483648) : iUsh (a : Int) (k : Int) = ((a / 2 ^ k : Nat) : Int) := by
  unfold iUsh
  rw [Int32.ofInt_eq_ofNat, Int32.ofInt_eq_ofNat]
  have e := pk_ushrN (n := a) (by omega) (Int32.ofNat k) k (b_ul k hk)
  unfold nI at e
  rw [e, b_toInt]
  exact Nat.lt_of_le_of_lt (Nat.div_le_self a _) h
def bitN (s k : Nat) : Nat := s / 2 ^ k % 2
theorem bitN_tb (s k : Nat) : bitN s k = if s.testBit k then 1 else 0 := by
  unfold bitN
  rw [Nat.testBit_eq_decide_div_mod_eq]
  have : s / 2 ^ k % 2 = 0 ∨ s / 2 ^ k % 2 = 1 := by omega
  rcases this with h | h <;> rw [h] <;> rfl
theorem bitN_le (s k : Nat) : bitN s k ≤ 1 := by unfold bitN; omega
theorem iBit {s k : Nat} (hk : k < 32) (h : s < 2147483648) : iAnd (iShr (s : Int) (k : Int)) 1 = (bitN s k : Int) := by
  rw [iShr_n hk h]
  have := iAnd_n (a := s / 2 ^ k) (b := 1) (Nat.lt_of_le_of_lt (Nat.div_le_self s _) h)
  rw [show ((1 : Nat) : Int) = 1 from rfl] at this
  rw [this, Nat.and_one_is_mod]
  rfl
theorem b_mask : ∀ n, n < 17 → ∀ i, i < 32 → (Int32.ofInt (-(2 ^ n : Nat))).toBitVec.getLsbD i = decide (n ≤ i) := by decide +kernel
theorem b_maskx : ∀ n, n < 17 → (Int32.ofInt ((2 ^ n : Nat) - 1 : Int) ^^^ Int32.ofInt (-1)) = Int32.ofInt (-(2 ^ n : Nat)) := by decide +kernel
theorem b_nat (x : Int) (hx : inR x) : (Int32.ofInt x).toBitVec.toNat = if 0 ≤ x then x.toNat else (x + 4294967296).toNat := by
  have h := i32_toInt hx
  have h2 : (Int32.ofInt x).toBitVec.toInt = x := h
  rw [BitVec.toInt_eq_toNat_cond] at h2
  obtain ⟨h3, h4⟩ := hx
  have h5 := (Int32.ofInt x).toBitVec.isLt
  split at h2 <;> split <;> omega
theorem iMask {n : Nat} (hn : n < 17) {x : Int} (hx : inR x) : iAnd x (-(2 ^ n : Nat)) = 0 ↔ 0 ≤ x ∧ x < (2 ^ n : Nat) := by
  have hp : 2 ^ n ≤ 65536 := by
    have := Nat.pow_le_pow_right (n := 2) (by omega) (show n ≤ 16 by omega)
    omega
  have key : iAnd x (-(2 ^ n : Nat)) = 0 ↔ (Int32.ofInt x).toBitVec.toNat < 2 ^ n := by
    unfold iAnd
    have e0 : (0 : Int) = (0 : Int32).toInt := rfl
    rw [e0, Int32.toInt_inj, ← Int32.toBitVec_inj]
    rw [Int32.toBitVec_and]
    constructor
    · intro h
      apply Nat.lt_pow_two_of_testBit
      intro i hi
      by_cases h32 : i < 32
      · have h1 := congrArg (fun v => v.getLsbD i) h
        simp only [BitVec.getLsbD_and, b_mask n hn i h32] at h1
        have h2 : (0 : Int32).toBitVec.getLsbD i = false := by simp
        rw [h2, decide_eq_true (by omega : n ≤ i), Bool.and_true] at h1
        exact h1
      · exact BitVec.getLsbD_of_ge _ _ (by omega)
    · intro h
      apply BitVec.eq_of_getLsbD_eq
      intro i hi
      rw [BitVec.getLsbD_and, b_mask n hn i hi]
      have h2 : (0 : Int32).toBitVec.getLsbD i = false := by simp
      rw [h2]
      by_cases hni : n ≤ i
      · have : (Int32.ofInt x).toBitVec.getLsbD i = false := by
          apply Nat.testBit_lt_two_pow
          exact Nat.lt_of_lt_of_le h (Nat.pow_le_pow_right (by omega) hni)
        rw [this]; rfl
      · rw [decide_eq_false hni, Bool.and_false]
  rw [key, b_nat x hx]
  obtain ⟨h3, h4⟩ := hx
  split <;> omega
theorem iMaskX {n : Nat} (hn : n < 17) {x : Int} (hx : inR x) : iAnd x (iXor ((2 ^ n : Nat) - 1 : Int) (-1)) = 0 ↔ 0 ≤ x ∧ x < (2 ^ n : Nat) := by
  have e : iXor ((2 ^ n : Nat) - 1 : Int) (-1) = -(2 ^ n : Nat) := by
    unfold iXor
    rw [b_maskx n hn, i32_toInt]
    have h1 := Nat.pow_le_pow_right (n := 2) (by omega) (show n ≤ 16 by omega)
    have h2 := Nat.two_pow_pos n
    generalize 2 ^ n = N at h1 h2
    exact ⟨by omega, by omega⟩
  rw [e, iMask hn hx]
theorem iAnd_inR (x y : Int) : inR (iAnd x y) := by
  unfold iAnd
  exact ⟨by have := (Int32.ofInt x &&& Int32.ofInt y).le_toInt; omega, by have := (Int32.ofInt x &&& Int32.ofInt y).toInt_lt; omega⟩
/-! loops that count up -/
theorem up_to {P : Nat → Prop} (N : Nat) (hN : P N) (hs : ∀ t, t < N → P (t + 1) → P t) : ∀ t, t ≤ N → P t := by
  intro t ht
  obtain ⟨k, rfl⟩ : ∃ k, N = t + k := ⟨N - t, by omega⟩
  induction k generalizing t with
  | zero => exact hN
  | succ k ih =>
    refine hs t (by omega) (ih (t + 1) ?_ ?_ (by omega))
    · rw [show t + 1 + k = t + (k + 1) by omega]; exact hN
    · intro u hu hp
      exact hs u (by omega) hp
def sumN (f : Nat → Int) : Nat → Int
  | 0 => 0
  | n + 1 => sumN f n + f n
theorem sumN_congr {f g : Nat → Int} : ∀ n, (∀ k, k < n → f k = g k) → sumN f n = sumN g n
  | 0, _ => rfl
  | n + 1, h => by
    show sumN f n + f n = sumN g n + g n
    rw [sumN_congr n (fun k hk => h k (by omega)), h n (by omega)]
theorem sumN_bd {f : Nat → Int} {lo hi : Int} : ∀ n, (∀ k, k < n → lo ≤ f k ∧ f k ≤ hi) → n * lo ≤ sumN f n ∧ sumN f n ≤ n * hi
  | 0, _ => by simp [sumN]
  | n + 1, h => by
    have h1 := sumN_bd n (fun k hk => h k (by omega))
    have h2 := h n (by omega)
    show (↑(n + 1)) * lo ≤ sumN f n + f n ∧ sumN f n + f n ≤ (↑(n + 1)) * hi
    have e1 : ((n + 1 : Nat) : Int) * lo = n * lo + lo := by rw [Int.natCast_add, Int.add_mul]; simp
    have e2 : ((n + 1 : Nat) : Int) * hi = n * hi + hi := by rw [Int.natCast_add, Int.add_mul]; simp
    rw [e1, e2]
    omega
end
section
/-! small methods of the class and of the reference -/
theorem WP2_putk {P : PP} {M : Mth} {d ip : Nat} {ls : LV} {st : List AV} {FI A L : Nat → Nat → Int} {X : SX} {Q : Option AV → S2 → Prop} {en : Ent} (he : (mT M)[ip]? = some en) {i a k : Nat} {x : Int} (hi : eI en = .putfield i) (hk : eY en = k) (hf : isI a k = true) (hx : cOf a = eX en) (hfin : (((vwCl[eX en]?).getD ("", TX0, 0)).2.1 (eY en)).2.2.2 = false) (hv : fok (clT (eX en) (eY en)) (vi x)) (kk : WP2 P M d (eN en) ls st (up2 FI a k x, A, L, X) Q) : WP2 P M d ip ls (vi x :: vr a :: st) (FI, A, L, X) Q := by
  subst hk
  exact WP2_putf he hi hf hx hfin hv kk
theorem WP2_gets {P : PP} {M : Mth} {d ip : Nat} {ls : LV} {st : List AV} {S : S2} {Q : Option AV → S2 → Prop} {en : Ent} (he : (mT M)[ip]? = some en) {i x : Nat} (hi : eI en = .getstatic i) (hx : eX en = x) (k : WP2 P M d (eN en) ls (vr x :: st) S Q) : WP2 P M d ip ls st S Q := by
  subst hx
  exact WP_gets he hi k
theorem WP2_ldcw {P : PP} {M : Mth} {d ip : Nat} {ls : LV} {st : List AV} {S : S2} {Q : Option AV → S2 → Prop} {en : Ent} (he : (mT M)[ip]? = some en) {i : Nat} {x : Int} (hi : eI en = .ldc_w i) (hx : (eX en : Int) = x) (k : WP2 P M d (eN en) ls (vi x :: st) S Q) : WP2 P M d ip ls st S Q := by
  subst hx
  exact WP_ldc_w he hi k
theorem WP2_ldc2w {P : PP} {M : Mth} {d ip : Nat} {ls : LV} {st : List AV} {S : S2} {Q : Option AV → S2 → Prop} {en : Ent} (he : (mT M)[ip]? = some en) {i : Nat} {x : Int} (hi : eI en = .ldc2_w i) (hx : (eX en : Int) = x) (k : WP2 P M d (eN en) ls (vl x :: st) S Q) : WP2 P M d ip ls st S Q := by
  subst hx
  exact WP_ldc2_w he hi k
theorem sp_noFloor {P : PP} {d : Nat} {FI A L : Nat → Nat → Int} {X : SX} {Q : Option AV → S2 → Prop} {f : Int} (hf : inR f) (h1 : (f < 0 ∨ 11 ≤ f) → Q (some (vi 1)) (FI, A, L, X)) (h0 : 0 ≤ f → f < 11 → Q (some (vi 0)) (FI, A, L, X)) : WP2 P M_F_noFloor d 0 [some (vi f)] [] (FI, A, L, X) Q := by
  refine WP_n 1 rfl ?_
  refine WP_iflt rfl rfl hf (fun h9 => ?_) (fun h9 => ?_)
  · refine WP_n 2 rfl ?_
    exact WP_zret rfl rfl rfl (Or.inr rfl) ⟨_, rfl, h1 (Or.inl h9)⟩
  · refine WP_n 2 rfl ?_
    refine WP_icmplt rfl rfl hf ⟨by omega, by omega⟩ (fun h4 => ?_) (fun h4 => ?_)
    · refine WP_n 1 rfl ?_
      exact WP_zret rfl rfl rfl (Or.inl rfl) ⟨_, rfl, h0 (by omega) (by omega)⟩
    · refine WP_n 2 rfl ?_
      exact WP_zret rfl rfl rfl (Or.inr rfl) ⟨_, rfl, h1 (Or.inr (by omega))⟩
theorem sp_noQuarter {P : PP} {d : Nat} {FI A L : Nat → Nat → Int} {X : SX} {Q : Option AV → S2 → Prop} {f : Int} (hf : inR f) (h1 : (f < 0 ∨ 20 ≤ f) → Q (some (vi 1)) (FI, A, L, X)) (h0 : 0 ≤ f → f < 20 → Q (some (vi 0)) (FI, A, L, X)) : WP2 P M_F_noQuarter d 0 [some (vi f)] [] (FI, A, L, X) Q := by
  refine WP_n 1 rfl ?_
  refine WP_iflt rfl rfl hf (fun h9 => ?_) (fun h9 => ?_)
  · refine WP_n 2 rfl ?_
    exact WP_zret rfl rfl rfl (Or.inr rfl) ⟨_, rfl, h1 (Or.inl h9)⟩
  · refine WP_n 2 rfl ?_
    refine WP_icmplt rfl rfl hf ⟨by omega, by omega⟩ (fun h4 => ?_) (fun h4 => ?_)
    · refine WP_n 1 rfl ?_
      exact WP_zret rfl rfl rfl (Or.inl rfl) ⟨_, rfl, h0 (by omega) (by omega)⟩
    · refine WP_n 2 rfl ?_
      exact WP_zret rfl rfl rfl (Or.inr rfl) ⟨_, rfl, h1 (Or.inr (by omega))⟩
theorem sp_noTeam {P : PP} {d : Nat} {FI A L : Nat → Nat → Int} {X : SX} {Q : Option AV → S2 → Prop} {f : Int} (hf : inR f) (hc : inR (FI 6 8)) (h1 : (f < 0 ∨ FI 6 8 ≤ f) → Q (some (vi 1)) (FI, A, L, X)) (h0 : 0 ≤ f → f < FI 6 8 → Q (some (vi 0)) (FI, A, L, X)) : WP2 P M_F_noTeam d 0 [some (vr 5), some (vi f)] [] (FI, A, L, X) Q := by
  refine WP_n 1 rfl ?_
  refine WP_iflt rfl rfl hf (fun h9 => ?_) (fun h9 => ?_)
  · refine WP_n 2 rfl ?_
    exact WP_zret rfl rfl rfl (Or.inr rfl) ⟨_, rfl, h1 (Or.inl h9)⟩
  · refine WP_n 2 rfl ?_
    refine WP2_getf rfl rfl rfl rfl rfl ?_
    refine WP2_getf rfl rfl rfl rfl rfl ?_
    refine WP_icmplt rfl rfl hf hc (fun h6 => ?_) (fun h6 => ?_)
    · refine WP_n 1 rfl ?_
      exact WP_zret rfl rfl rfl (Or.inl rfl) ⟨_, rfl, h0 (by omega) (by omega)⟩
    · refine WP_n 2 rfl ?_
      exact WP_zret rfl rfl rfl (Or.inr rfl) ⟨_, rfl, h1 (Or.inr (by omega))⟩
theorem sp_isFloor {P : PP} {d : Nat} {FI A L : Nat → Nat → Int} {X : SX} {Q : Option AV → S2 → Prop} {f : Int} (hf : inR f) (h0 : (f < 0 ∨ 11 ≤ f) → Q (some (vi 0)) (FI, A, L, X)) (h1 : 0 ≤ f → f < 11 → Q (some (vi 1)) (FI, A, L, X)) : WP2 P M_G_isFloor d 0 [some (vi f)] [] (FI, A, L, X) Q := by
  refine WP_n 1 rfl ?_
  refine WP_iflt rfl rfl hf (fun h9 => ?_) (fun h9 => ?_)
  · refine WP_n 1 rfl ?_
    exact WP_zret rfl rfl rfl (Or.inl rfl) ⟨_, rfl, h0 (Or.inl h9)⟩
  · refine WP_n 2 rfl ?_
    refine WP_icmpge rfl rfl hf ⟨by omega, by omega⟩ (fun h4 => ?_) (fun h4 => ?_)
    · refine WP_n 1 rfl ?_
      exact WP_zret rfl rfl rfl (Or.inl rfl) ⟨_, rfl, h0 (Or.inr (by omega))⟩
    · refine WP_n 2 rfl ?_
      exact WP_zret rfl rfl rfl (Or.inr rfl) ⟨_, rfl, h1 (by omega) (by omega)⟩
theorem sp_isTeam {P : PP} {d : Nat} {FI A L : Nat → Nat → Int} {X : SX} {Q : Option AV → S2 → Prop} {f : Int} (hf : inR f) (hc : inR (FI 165 0)) (h0 : (f < 0 ∨ FI 165 0 ≤ f) → Q (some (vi 0)) (FI, A, L, X)) (h1 : 0 ≤ f → f < FI 165 0 → Q (some (vi 1)) (FI, A, L, X)) : WP2 P M_G_isTeam d 0 [some (vr 165), some (vi f)] [] (FI, A, L, X) Q := by
  refine WP_n 1 rfl ?_
  refine WP_iflt rfl rfl hf (fun h9 => ?_) (fun h9 => ?_)
  · refine WP_n 1 rfl ?_
    exact WP_zret rfl rfl rfl (Or.inl rfl) ⟨_, rfl, h0 (Or.inl h9)⟩
  · refine WP_n 2 rfl ?_
    refine WP2_getf rfl rfl rfl rfl rfl ?_
    refine WP_icmpge rfl rfl hf hc (fun h5 => ?_) (fun h5 => ?_)
    · refine WP_n 1 rfl ?_
      exact WP_zret rfl rfl rfl (Or.inl rfl) ⟨_, rfl, h0 (Or.inr (by omega))⟩
    · refine WP_n 2 rfl ?_
      exact WP_zret rfl rfl rfl (Or.inr rfl) ⟨_, rfl, h1 (by omega) (by omega)⟩
theorem sp_refuse {P : PP} {d : Nat} {FI A L : Nat → Nat → Int} {X : SX} {Q : Option AV → S2 → Prop} {k : Nat} {z : Int} (hz : z = -(k : Int)) (hk : 1 ≤ k ∧ k ≤ 6) (hq : Q (some (vi z)) (FI, up2 A 164 k (A 164 k + 1), L, X)) : WP2 P M_F_refuse d 0 [some (vr 5), some (vi z)] [] (FI, A, L, X) Q := by
  subst hz
  refine WP_n 1 rfl ?_
  refine WP_ifge rfl rfl ⟨by omega, by omega⟩ (fun h1 => absurd h1 (by omega)) (fun h1 => ?_)
  refine WP_n 3 rfl ?_
  refine WP_icmpgt rfl rfl ⟨by omega, by omega⟩ ⟨by omega, by omega⟩ (fun h5 => absurd h5 (by omega)) (fun h5 => ?_)
  refine WP_n 1 rfl ?_
  refine WP2_getf rfl rfl rfl rfl rfl ?_
  refine WP_n 3 rfl ?_
  refine WP2_iald (j := k) rfl rfl (ia_lit (n := 7) rfl rfl (by omega)) (by omega) (by omega) (by omega) ?_
  refine WP_n 2 rfl ?_
  refine WP2_iast (j := k) rfl rfl (ia_lit (n := 7) rfl rfl (by omega)) (by omega) (by omega) (by omega) ?_
  refine WP_n 1 rfl ?_
  exact WP_iret rfl rfl rfl ⟨_, rfl, hq⟩
theorem sp_no {P : PP} {d : Nat} {FI A L : Nat → Nat → Int} {X : SX} {Q : Option AV → S2 → Prop} {k : Nat} {z : Int} (hz : z = -(k : Int)) (hk : 1 ≤ k ∧ k ≤ 6) (hq : Q (some (vi z)) (FI, up2 A 185 k (A 185 k + 1), L, X)) : WP2 P M_G_no d 0 [some (vr 165), some (vi z)] [] (FI, A, L, X) Q := by
  subst hz
  refine WP_n 1 rfl ?_
  refine WP2_getf rfl rfl rfl rfl rfl ?_
  refine WP_n 3 rfl ?_
  refine WP2_iald (j := k) rfl rfl (ia_lit (n := 7) rfl rfl (by omega)) (by omega) (by omega) (by omega) ?_
  refine WP_n 2 rfl ?_
  refine WP2_iast (j := k) rfl rfl (ia_lit (n := 7) rfl rfl (by omega)) (by omega) (by omega) (by omega) ?_
  refine WP_n 1 rfl ?_
  exact WP_iret rfl rfl rfl ⟨_, rfl, hq⟩
theorem sp_exchange {P : PP} {d : Nat} {FI A L : Nat → Nat → Int} {X : SX} {Q : Option AV → S2 → Prop} {a n j : Nat} {i v : Int} (hA : isIA P X a n) (ha5 : 5 ≤ a) (hj : i = (j : Int)) (hjn : j < n) (hn : n ≤ 1000) (hq : Q (some (vi (A a j))) (FI, up2 A a j v, L, X)) : WP2 P M_F_exchange d 0 [some (vr a), some (vi i), some (vi v), none] [] (FI, A, L, X) Q := by
  subst hj
  refine WP_n 1 rfl ?_
  refine WP_iflt rfl rfl ⟨by omega, by omega⟩ (fun h1 => absurd h1 (by omega)) (fun h1 => ?_)
  refine WP_n 2 rfl ?_
  refine WP2_alen rfl rfl (hA) ?_
  refine WP_icmplt rfl rfl ⟨by omega, by omega⟩ ⟨by omega, by omega⟩ (fun h5 => ?_) (fun h5 => absurd h5 (by omega))
  refine WP_n 2 rfl ?_
  refine WP2_iald (j := j) rfl rfl (hA) (by omega) (by omega) (by omega) ?_
  refine WP_n 4 rfl ?_
  refine WP2_iast (j := j) rfl rfl (hA) (by omega) (by omega) (by omega) ?_
  refine WP_n 1 rfl ?_
  exact WP_iret rfl rfl rfl ⟨_, rfl, hq⟩
theorem sp_holds {P : PP} {d : Nat} {FI A L : Nat → Nat → Int} {X : SX} {Q : Option AV → S2 → Prop} {s k : Nat} (hs : s < 2147483648) (hk : k < 32) (h1 : s.testBit k = true → Q (some (vi 1)) (FI, A, L, X)) (h0 : s.testBit k = false → Q (some (vi 0)) (FI, A, L, X)) : WP2 P M_F_holds d 0 [some (vi (s : Int)), some (vi (k : Int))] [] (FI, A, L, X) Q := by
  refine WP_n 6 rfl ?_
  rw [iBit hk hs, bitN_tb]
  cases hb : s.testBit k
  · refine WP_icmpne rfl rfl ⟨by decide, by decide⟩ ⟨by decide, by decide⟩ (fun h => ?_) (fun h => absurd (by decide) h)
    refine WP_n 1 rfl ?_
    exact WP_zret rfl rfl rfl (Or.inl rfl) ⟨_, rfl, h0 hb⟩
  · refine WP_icmpne rfl rfl ⟨by decide, by decide⟩ ⟨by decide, by decide⟩ (fun h => absurd (by decide) h) (fun h => ?_)
    refine WP_n 2 rfl ?_
    exact WP_zret rfl rfl rfl (Or.inr rfl) ⟨_, rfl, h1 hb⟩
theorem sp_apart {P : PP} {d : Nat} {FI A L : Nat → Nat → Int} {X : SX} {Q : Option AV → S2 → Prop} {x y : Int} (hx : inR x) (hy : inR y) (hq : Q (some (vi (if 0 ≤ x - y then x - y else -(x - y)))) (FI, A, L, X)) : WP2 P M_G_apart d 0 [some (vi x), some (vi y)] [] (FI, A, L, X) Q := by
  refine WP_n 2 rfl ?_
  refine WP_icmpge rfl rfl hx hy (fun h2 => ?_) (fun h2 => ?_)
  · refine WP_n 3 rfl ?_
    refine WP_iret rfl rfl rfl ⟨_, rfl, ?_⟩
    rw [if_pos (by omega)] at hq
    exact hq
  · refine WP_n 4 rfl ?_
    refine WP_iret rfl rfl rfl ⟨_, rfl, ?_⟩
    rw [if_neg (by omega), show -(x - y) = y - x by omega] at hq
    exact hq
theorem sp_bits {P : PP} {d : Nat} {FI A L : Nat → Nat → Int} {X : SX} {Q : Option AV → S2 → Prop} {s : Nat} (hs : s < 2147483648) (hq : Q (some (vi (sumN (fun k => (bitN s k : Int)) 16))) (FI, A, L, X)) : WP2 P M_G_bits d 0 [some (vi (s : Int)), none, none] [] (FI, A, L, X) Q := by
  refine WP_n 4 rfl ?_
  refine up_to (P := fun t => WP2 P M_G_bits d 4 [some (vi (s : Int)), some (vi (sumN (fun k => (bitN s k : Int)) t)), some (vi (t : Int))] [] (FI, A, L, X) Q) 16 ?_ ?_ 0 (by omega)
  · refine WP_n 2 rfl ?_
    refine WP_icmpge rfl rfl ⟨by omega, by omega⟩ ⟨by omega, by omega⟩ (fun h6 => ?_) (fun h6 => absurd h6 (by omega))
    refine WP_n 1 rfl ?_
    exact WP_iret rfl rfl rfl ⟨_, rfl, hq⟩
  · intro t ht ih
    have hb := sumN_bd (f := fun k => (bitN s k : Int)) (lo := 0) (hi := 1) t (fun k _ => ⟨by omega, by have := bitN_le s k; omega⟩)
    refine WP_n 2 rfl ?_
    refine WP_icmpge rfl rfl ⟨by omega, by omega⟩ ⟨by omega, by omega⟩ (fun h => absurd h (by omega)) (fun h => ?_)
    refine WP_n 6 rfl ?_
    rw [iBit (by omega) hs]
    refine WP_n 4 rfl ?_
    exact ih
end
section
/-! what holds between two calls: the class's numbers in their ranges, the reference's equal to them -/
def cFl (A : Nat → Nat → Int) (f : Nat) : Prop := (0 ≤ A (8 + f) 0 ∧ A (8 + f) 0 ≤ 300) ∧ (0 ≤ A (8 + f) 1 ∧ A (8 + f) 1 ≤ 7) ∧ (0 ≤ A (8 + f) 2 ∧ A (8 + f) 2 ≤ 999) ∧ (0 ≤ A (8 + f) 3 ∧ A (8 + f) 3 ≤ 19)
def cTm (n : Nat) (c : Int) (A : Nat → Nat → Int) (t : Nat) : Prop := (0 ≤ A (20 + t) 0 ∧ A (20 + t) 0 ≤ 60) ∧ ((t : Int) < c → 1 ≤ A (20 + t) 0) ∧ (0 ≤ A (20 + t) 1 ∧ A (20 + t) 1 ≤ 7) ∧ (0 ≤ A (20 + t) 2 ∧ A (20 + t) 2 ≤ 9) ∧ (0 ≤ A (20 + t) 3 ∧ A (20 + t) 3 ≤ 9) ∧ (A (20 + t) 4 = -9 ∨ (0 ≤ A (20 + t) 4 ∧ A (20 + t) 4 < 11)) ∧ (A (20 + t) 5 = 0 ∨ A (20 + t) 5 = 1) ∧ (A (20 + t) 6 = -9 ∨ (0 ≤ A (20 + t) 6 ∧ A (20 + t) 6 < 11)) ∧ (0 ≤ A (20 + t) 7 ∧ A (20 + t) 7 ≤ 20) ∧ (0 ≤ A (20 + t) 8 ∧ A (20 + t) 8 ≤ n) ∧ (c ≤ (t : Int) → A (20 + t) 4 = -9 ∧ A (20 + t) 5 = 0 ∧ A (20 + t) 6 = -9 ∧ A (20 + t) 7 = 0 ∧ A (20 + t) 8 = 0)
def cTw (A : Nat → Nat → Int) (a b : Nat) : Prop := (0 ≤ A (37 + a) b ∧ A (37 + a) b ≤ 99 ∧ A (37 + a) b = A (37 + b) a) ∧ ((A (54 + a) b = 0 ∨ A (54 + a) b = 1) ∧ A (54 + a) b = A (54 + b) a) ∧ ((A (71 + a) b = 0 ∨ A (71 + a) b = 1) ∧ A (71 + a) b = A (71 + b) a)
def cPp (A : Nat → Nat → Int) (t p : Nat) : Prop := (0 ≤ A (88 + t) p ∧ A (88 + t) p ≤ 31) ∧ (0 ≤ A (105 + t) p ∧ A (105 + t) p ≤ 64) ∧ (-1 ≤ A (122 + t) p ∧ A (122 + t) p ≤ 200)
def cI (n : Nat) (FI A : Nat → Nat → Int) : Prop := (0 ≤ FI 6 8 ∧ FI 6 8 ≤ 16) ∧ (1 ≤ FI 6 9 ∧ FI 6 9 ≤ 9) ∧ (∀ f, f < 11 → cFl A f) ∧ (∀ t, t < 16 → cTm n (FI 6 8) A t) ∧ (∀ a b, a < 16 → b < 16 → cTw A a b) ∧ (∀ t p, t < 16 → p < 20 → cPp A t p) ∧ ∀ k, k < 7 → 0 ≤ A 164 k ∧ A 164 k ≤ n
def gFl (A : Nat → Nat → Int) (f : Nat) : Prop := A 166 f = A (8 + f) 0 ∧ A 167 f = A (8 + f) 1 ∧ A 168 f = A (8 + f) 2 ∧ A 169 f = A (8 + f) 3
def gTm (c : Int) (A : Nat → Nat → Int) (t : Nat) : Prop := ((t : Int) < c → A 170 t = A (20 + t) 0 ∧ A 171 t = A (20 + t) 1 ∧ A 172 t = A (20 + t) 2 ∧ A 173 t = A (20 + t) 3 ∧ A 174 t = A (20 + t) 4 ∧ A 175 t = A (20 + t) 6) ∧ A 176 t = A (20 + t) 7 ∧ A 177 t = A (20 + t) 8 ∧ A 178 t = A (20 + t) 5
def gTw (A : Nat → Nat → Int) (a b : Nat) : Prop := A 179 (16 * a + b) = A (37 + a) b ∧ A 180 (16 * a + b) = A (54 + a) b ∧ A 181 (16 * a + b) = A (71 + a) b
def gPp (A : Nat → Nat → Int) (t p : Nat) : Prop := A 182 (20 * t + p) = A (88 + t) p ∧ A 183 (20 * t + p) = A (105 + t) p ∧ A 184 (20 * t + p) = A (122 + t) p
def gI9 (FI A : Nat → Nat → Int) : Prop := FI 165 0 = FI 6 8 ∧ FI 165 1 = FI 6 9 ∧ (∀ f, f < 11 → gFl A f) ∧ (∀ t, t < 16 → gTm (FI 6 8) A t) ∧ (∀ a b, a < 16 → b < 16 → gTw A a b) ∧ (∀ t p, t < 16 → p < 20 → gPp A t p) ∧ ∀ k, k < 7 → A 185 k = A 164 k
def xI (P : PP) (X : SX) : Prop := ∃ k len : Nat, k ≤ 6 ∧ len = 5 ^ k ∧ isIA P X X.2.2.1 len ∧ isIA P X X.2.2.2.1 len ∧ (X.2.2.1 = 158 ∨ 193 ≤ X.2.2.1) ∧ (X.2.2.2.1 = 159 ∨ 193 ≤ X.2.2.2.1) ∧ X.2.2.1 ≠ X.2.2.2.1 ∧ X.1 ≤ 2 * k ∧ X.2.1 ≤ 100000 + 4 * 5 ^ k
def INV (P : PP) (n : Nat) (FI A : Nat → Nat → Int) (X : SX) : Prop := n ≤ 512 ∧ cI n FI A ∧ gI9 FI A ∧ xI P X
def INVS (P : PP) (n : Nat) (S : S2) : Prop := INV P n S.1 S.2.1 S.2.2.2
theorem up2_ne {A : Nat → Nat → Int} {a j b k : Nat} {x : Int} (h : b ≠ a ∨ k ≠ j) : up2 A a j x b k = A b k := by
  unfold up2
  rw [if_neg (fun q => by omega)]
theorem up2_eq {A : Nat → Nat → Int} {a j b k : Nat} {x : Int} (h : b = a ∧ k = j) : up2 A a j x b k = x := by
  unfold up2
  rw [if_pos h]
theorem up2_same {A : Nat → Nat → Int} {a j : Nat} {x : Int} : up2 A a j x a j = x := up2_eq ⟨rfl, rfl⟩
theorem cTm_mono {n n' : Nat} (h : n ≤ n') {c : Int} {A : Nat → Nat → Int} {t : Nat} (k : cTm n c A t) : cTm n' c A t := by
  unfold cTm at *
  omega
theorem cI_mono {n n' : Nat} (h : n ≤ n') {FI A : Nat → Nat → Int} (k : cI n FI A) : cI n' FI A := by
  obtain ⟨k1, k2, k3, k4, k5, k6, k7⟩ := k
  exact ⟨k1, k2, k3, fun t ht => cTm_mono h (k4 t ht), k5, k6, fun q hq => by have := k7 q hq; omega⟩
theorem INV.next {P : PP} {n : Nat} {FI A : Nat → Nat → Int} {X : SX} (h : INV P n FI A X) (hn : n < 512) : INV P (n + 1) FI A X := ⟨hn, cI_mono (by omega) h.2.1, h.2.2⟩
abbrev rfC (A : Nat → Nat → Int) (k : Nat) : Nat → Nat → Int := up2 A 164 k (A 164 k + 1)
abbrev rfG (A : Nat → Nat → Int) (k : Nat) : Nat → Nat → Int := up2 A 185 k (A 185 k + 1)
theorem INV_ref {P : PP} {n : Nat} {FI A : Nat → Nat → Int} {X : SX} (h : INV P n FI A X) (hn : n < 512) {k : Nat} (hk : k < 7) : INV P (n + 1) FI (rfG (rfC A k) k) X := by
  obtain ⟨h0, ⟨k1, k2, k3, k4, k5, k6, k7⟩, ⟨g1, g2, g3, g4, g5, g6, g7⟩, hx⟩ := h
  refine ⟨hn, ⟨k1, k2, fun f hf => ?_, fun t ht => cTm_mono (Nat.le_succ n) ?_, fun a b ha hb => ?_, fun t p ht hp => ?_, fun j hj => ?_⟩, ⟨g1, g2, fun f hf => ?_, fun t ht => ?_, fun a b ha hb => ?_, fun t p ht hp => ?_, fun j hj => ?_⟩, hx⟩
  · have := k3 f hf
    unfold cFl at *
    simp (disch := omega) only [up2_ne]
    exact this
  · have := k4 t ht
    unfold cTm at *
    simp (disch := omega) only [up2_ne]
    exact this
  · have := k5 a b ha hb
    unfold cTw at *
    simp (disch := omega) only [up2_ne]
    exact this
  · have := k6 t p ht hp
    unfold cPp at *
    simp (disch := omega) only [up2_ne]
    exact this
  · have h1 := k7 j hj
    have h2 := k7 k hk
    simp (disch := omega) only [up2_ne]
    by_cases e : j = k
    · subst e
      simp only [rfC, up2_same]
      omega
    · simp (disch := omega) only [up2_ne]
      omega
  · have := g3 f hf
    unfold gFl at *
    simp (disch := omega) only [up2_ne]
    exact this
  · have := g4 t ht
    unfold gTm at *
    simp (disch := omega) only [up2_ne]
    exact this
  · have := g5 a b ha hb
    unfold gTw at *
    simp (disch := omega) only [up2_ne]
    exact this
  · have := g6 t p ht hp
    unfold gPp at *
    simp (disch := omega) only [up2_ne]
    exact this
  · have h1 := g7 j hj
    have h2 := g7 k hk
    by_cases e : j = k
    · subst e
      simp (disch := omega) only [up2_same, up2_ne]
      omega
    · simp (disch := omega) only [up2_ne]
      exact h1
def PAIR (P : PP) (n : Nat) (S : S2) (Mc : Mth) (lc : LV) (Mg : Mth) (lg : LV) : Prop := ∀ d : Nat, WP2 P Mc (d + 30) 0 lc [] S (fun v S1 => ∃ r : Int, v = some (vi r) ∧ WP2 P Mg (d + 30) 0 lg [] S1 (fun v2 S2 => v2 = some (vi r) ∧ INVS P (n + 1) S2))
theorem FMt_R : ∀ W, W < 4 → inR (FMt W) := by
  intro W hW
  match W, hW with
  | 0, _ => exact ⟨by decide, by decide⟩
  | 1, _ => exact ⟨by decide, by decide⟩
  | 2, _ => exact ⟨by decide, by decide⟩
  | 3, _ => exact ⟨by decide, by decide⟩
theorem TMt_R : ∀ W, W < 3 → inR (TMt W) := by
  intro W hW
  match W, hW with
  | 0, _ => exact ⟨by decide, by decide⟩
  | 1, _ => exact ⟨by decide, by decide⟩
  | 2, _ => exact ⟨by decide, by decide⟩
end
section
/-! INV under each paired change -/
theorem INV_size {P : PP} {n : Nat} {FI A : Nat → Nat → Int} {X : SX} (h : INV P n FI A X) (hn : n < 512) {T : Nat} {v : Int} (hT : T < 16) (hc : (T : Int) < FI 6 8) (hv : 1 ≤ v ∧ v ≤ 60) : INV P (n + 1) FI (up2 (up2 A (20 + T) 0 v) 170 T v) X := by
  obtain ⟨h0, ⟨k1, k2, k3, k4, k5, k6, k7⟩, ⟨g1, g2, g3, g4, g5, g6, g7⟩, hx⟩ := h
  refine ⟨hn, ⟨k1, k2, fun f hf => ?_, fun t ht => ?_, fun a b ha hb => ?_, fun t p ht hp => ?_, fun j hj => ?_⟩, ⟨g1, g2, fun f hf => ?_, fun t ht => ?_, fun a b ha hb => ?_, fun t p ht hp => ?_, fun j hj => ?_⟩, hx⟩
  · have q := k3 f hf
    unfold cFl at *
    simp (disch := omega) only [up2_ne]
    omega
  · have q := k4 t ht
    unfold cTm at *
    by_cases e : t = T
    · subst e
      simp (disch := omega) only [up2_ne, up2_eq, true_and, and_true, implies_true]
      omega
    · simp (disch := omega) only [up2_ne]
      omega
  · have q := k5 a b ha hb
    unfold cTw at *
    simp (disch := omega) only [up2_ne]
    omega
  · have q := k6 t p ht hp
    unfold cPp at *
    simp (disch := omega) only [up2_ne]
    omega
  · have q := k7 j hj
    simp (disch := omega) only [up2_ne]
    omega
  · have q := g3 f hf
    unfold gFl at *
    simp (disch := omega) only [up2_ne]
    omega
  · have q := g4 t ht
    unfold gTm at *
    by_cases e : t = T
    · subst e
      simp (disch := omega) only [up2_ne, up2_eq, true_and, and_true, implies_true]
      omega
    · simp (disch := omega) only [up2_ne]
      omega
  · have q := g5 a b ha hb
    unfold gTw at *
    simp (disch := omega) only [up2_ne]
    omega
  · have q := g6 t p ht hp
    unfold gPp at *
    simp (disch := omega) only [up2_ne]
    omega
  · have q := g7 j hj
    simp (disch := omega) only [up2_ne]
    omega

theorem INV_sit {P : PP} {n : Nat} {FI A : Nat → Nat → Int} {X : SX} (h : INV P n FI A X) (hn : n < 512) {T : Nat} {v : Int} (hT : T < 16) (hc : (T : Int) < FI 6 8) (hv : v = -9 ∨ (0 ≤ v ∧ v < 11)) : INV P (n + 1) FI (up2 (up2 A (20 + T) 4 v) 174 T v) X := by
  obtain ⟨h0, ⟨k1, k2, k3, k4, k5, k6, k7⟩, ⟨g1, g2, g3, g4, g5, g6, g7⟩, hx⟩ := h
  refine ⟨hn, ⟨k1, k2, fun f hf => ?_, fun t ht => ?_, fun a b ha hb => ?_, fun t p ht hp => ?_, fun j hj => ?_⟩, ⟨g1, g2, fun f hf => ?_, fun t ht => ?_, fun a b ha hb => ?_, fun t p ht hp => ?_, fun j hj => ?_⟩, hx⟩
  · have q := k3 f hf
    unfold cFl at *
    simp (disch := omega) only [up2_ne]
    omega
  · have q := k4 t ht
    unfold cTm at *
    by_cases e : t = T
    · subst e
      simp (disch := omega) only [up2_ne, up2_eq, true_and, and_true, implies_true]
      omega
    · simp (disch := omega) only [up2_ne]
      omega
  · have q := k5 a b ha hb
    unfold cTw at *
    simp (disch := omega) only [up2_ne]
    omega
  · have q := k6 t p ht hp
    unfold cPp at *
    simp (disch := omega) only [up2_ne]
    omega
  · have q := k7 j hj
    simp (disch := omega) only [up2_ne]
    omega
  · have q := g3 f hf
    unfold gFl at *
    simp (disch := omega) only [up2_ne]
    omega
  · have q := g4 t ht
    unfold gTm at *
    by_cases e : t = T
    · subst e
      simp (disch := omega) only [up2_ne, up2_eq, true_and, and_true, implies_true]
      omega
    · simp (disch := omega) only [up2_ne]
      omega
  · have q := g5 a b ha hb
    unfold gTw at *
    simp (disch := omega) only [up2_ne]
    omega
  · have q := g6 t p ht hp
    unfold gPp at *
    simp (disch := omega) only [up2_ne]
    omega
  · have q := g7 j hj
    simp (disch := omega) only [up2_ne]
    omega

theorem INV_fix {P : PP} {n : Nat} {FI A : Nat → Nat → Int} {X : SX} (h : INV P n FI A X) (hn : n < 512) {T : Nat} {v : Int} (hT : T < 16) (hc : (T : Int) < FI 6 8) (hv : v = 0 ∨ v = 1) : INV P (n + 1) FI (up2 (up2 A (20 + T) 5 v) 178 T v) X := by
  obtain ⟨h0, ⟨k1, k2, k3, k4, k5, k6, k7⟩, ⟨g1, g2, g3, g4, g5, g6, g7⟩, hx⟩ := h
  refine ⟨hn, ⟨k1, k2, fun f hf => ?_, fun t ht => ?_, fun a b ha hb => ?_, fun t p ht hp => ?_, fun j hj => ?_⟩, ⟨g1, g2, fun f hf => ?_, fun t ht => ?_, fun a b ha hb => ?_, fun t p ht hp => ?_, fun j hj => ?_⟩, hx⟩
  · have q := k3 f hf
    unfold cFl at *
    simp (disch := omega) only [up2_ne]
    omega
  · have q := k4 t ht
    unfold cTm at *
    by_cases e : t = T
    · subst e
      simp (disch := omega) only [up2_ne, up2_eq, true_and, and_true, implies_true]
      omega
    · simp (disch := omega) only [up2_ne]
      omega
  · have q := k5 a b ha hb
    unfold cTw at *
    simp (disch := omega) only [up2_ne]
    omega
  · have q := k6 t p ht hp
    unfold cPp at *
    simp (disch := omega) only [up2_ne]
    omega
  · have q := k7 j hj
    simp (disch := omega) only [up2_ne]
    omega
  · have q := g3 f hf
    unfold gFl at *
    simp (disch := omega) only [up2_ne]
    omega
  · have q := g4 t ht
    unfold gTm at *
    by_cases e : t = T
    · subst e
      simp (disch := omega) only [up2_ne, up2_eq, true_and, and_true, implies_true]
      omega
    · simp (disch := omega) only [up2_ne]
      omega
  · have q := g5 a b ha hb
    unfold gTw at *
    simp (disch := omega) only [up2_ne]
    omega
  · have q := g6 t p ht hp
    unfold gPp at *
    simp (disch := omega) only [up2_ne]
    omega
  · have q := g7 j hj
    simp (disch := omega) only [up2_ne]
    omega

theorem INV_target {P : PP} {n : Nat} {FI A : Nat → Nat → Int} {X : SX} (h : INV P n FI A X) (hn : n < 512) {T : Nat} {v : Int} (hT : T < 16) (hc : (T : Int) < FI 6 8) (hv : v = -9 ∨ (0 ≤ v ∧ v < 11)) : INV P (n + 1) FI (up2 (up2 A (20 + T) 6 v) 175 T v) X := by
  obtain ⟨h0, ⟨k1, k2, k3, k4, k5, k6, k7⟩, ⟨g1, g2, g3, g4, g5, g6, g7⟩, hx⟩ := h
  refine ⟨hn, ⟨k1, k2, fun f hf => ?_, fun t ht => ?_, fun a b ha hb => ?_, fun t p ht hp => ?_, fun j hj => ?_⟩, ⟨g1, g2, fun f hf => ?_, fun t ht => ?_, fun a b ha hb => ?_, fun t p ht hp => ?_, fun j hj => ?_⟩, hx⟩
  · have q := k3 f hf
    unfold cFl at *
    simp (disch := omega) only [up2_ne]
    omega
  · have q := k4 t ht
    unfold cTm at *
    by_cases e : t = T
    · subst e
      simp (disch := omega) only [up2_ne, up2_eq, true_and, and_true, implies_true]
      omega
    · simp (disch := omega) only [up2_ne]
      omega
  · have q := k5 a b ha hb
    unfold cTw at *
    simp (disch := omega) only [up2_ne]
    omega
  · have q := k6 t p ht hp
    unfold cPp at *
    simp (disch := omega) only [up2_ne]
    omega
  · have q := k7 j hj
    simp (disch := omega) only [up2_ne]
    omega
  · have q := g3 f hf
    unfold gFl at *
    simp (disch := omega) only [up2_ne]
    omega
  · have q := g4 t ht
    unfold gTm at *
    by_cases e : t = T
    · subst e
      simp (disch := omega) only [up2_ne, up2_eq, true_and, and_true, implies_true]
      omega
    · simp (disch := omega) only [up2_ne]
      omega
  · have q := g5 a b ha hb
    unfold gTw at *
    simp (disch := omega) only [up2_ne]
    omega
  · have q := g6 t p ht hp
    unfold gPp at *
    simp (disch := omega) only [up2_ne]
    omega
  · have q := g7 j hj
    simp (disch := omega) only [up2_ne]
    omega

theorem INV_turn {P : PP} {n : Nat} {FI A : Nat → Nat → Int} {X : SX} (h : INV P n FI A X) (hn : n < 512) {T : Nat} {v : Int} (hT : T < 16) (hc : (T : Int) < FI 6 8) (hv : 0 ≤ v ∧ v ≤ n + 1) : INV P (n + 1) FI (up2 (up2 A (20 + T) 8 v) 177 T v) X := by
  obtain ⟨h0, ⟨k1, k2, k3, k4, k5, k6, k7⟩, ⟨g1, g2, g3, g4, g5, g6, g7⟩, hx⟩ := h
  refine ⟨hn, ⟨k1, k2, fun f hf => ?_, fun t ht => ?_, fun a b ha hb => ?_, fun t p ht hp => ?_, fun j hj => ?_⟩, ⟨g1, g2, fun f hf => ?_, fun t ht => ?_, fun a b ha hb => ?_, fun t p ht hp => ?_, fun j hj => ?_⟩, hx⟩
  · have q := k3 f hf
    unfold cFl at *
    simp (disch := omega) only [up2_ne]
    omega
  · have q := k4 t ht
    unfold cTm at *
    by_cases e : t = T
    · subst e
      simp (disch := omega) only [up2_ne, up2_eq, true_and, and_true, implies_true]
      omega
    · simp (disch := omega) only [up2_ne]
      omega
  · have q := k5 a b ha hb
    unfold cTw at *
    simp (disch := omega) only [up2_ne]
    omega
  · have q := k6 t p ht hp
    unfold cPp at *
    simp (disch := omega) only [up2_ne]
    omega
  · have q := k7 j hj
    simp (disch := omega) only [up2_ne]
    omega
  · have q := g3 f hf
    unfold gFl at *
    simp (disch := omega) only [up2_ne]
    omega
  · have q := g4 t ht
    unfold gTm at *
    by_cases e : t = T
    · subst e
      simp (disch := omega) only [up2_ne, up2_eq, true_and, and_true, implies_true]
      omega
    · simp (disch := omega) only [up2_ne]
      omega
  · have q := g5 a b ha hb
    unfold gTw at *
    simp (disch := omega) only [up2_ne]
    omega
  · have q := g6 t p ht hp
    unfold gPp at *
    simp (disch := omega) only [up2_ne]
    omega
  · have q := g7 j hj
    simp (disch := omega) only [up2_ne]
    omega

theorem INV_floor {P : PP} {n : Nat} {FI A : Nat → Nat → Int} {X : SX} (h : INV P n FI A X) (hn : n < 512) {F W : Nat} {v : Int} (hF : F < 11) (hW : W < 4) (hv : 0 ≤ v) (hv2 : v ≤ FMt W) : INV P (n + 1) FI (up2 (up2 A (8 + F) W v) (166 + W) F v) X := by
  obtain ⟨h0, ⟨k1, k2, k3, k4, k5, k6, k7⟩, ⟨g1, g2, g3, g4, g5, g6, g7⟩, hx⟩ := h
  refine ⟨hn, ⟨k1, k2, fun f hf => ?_, fun t ht => ?_, fun a b ha hb => ?_, fun t p ht hp => ?_, fun j hj => ?_⟩, ⟨g1, g2, fun f hf => ?_, fun t ht => ?_, fun a b ha hb => ?_, fun t p ht hp => ?_, fun j hj => ?_⟩, hx⟩
  · have q := k3 f hf
    unfold cFl at *
    rcases (show W = 0 ∨ W = 1 ∨ W = 2 ∨ W = 3 by omega) with rfl | rfl | rfl | rfl
    · by_cases e : f = F
      · subst e
        simp (disch := omega) only [up2_ne, up2_eq, true_and, and_true, implies_true]
        simp only [FMt, List.getD_cons_zero, List.getD_cons_succ] at hv2
        omega
      · simp (disch := omega) only [up2_ne]
        omega
    · by_cases e : f = F
      · subst e
        simp (disch := omega) only [up2_ne, up2_eq, true_and, and_true, implies_true]
        simp only [FMt, List.getD_cons_zero, List.getD_cons_succ] at hv2
        omega
      · simp (disch := omega) only [up2_ne]
        omega
    · by_cases e : f = F
      · subst e
        simp (disch := omega) only [up2_ne, up2_eq, true_and, and_true, implies_true]
        simp only [FMt, List.getD_cons_zero, List.getD_cons_succ] at hv2
        omega
      · simp (disch := omega) only [up2_ne]
        omega
    · by_cases e : f = F
      · subst e
        simp (disch := omega) only [up2_ne, up2_eq, true_and, and_true, implies_true]
        simp only [FMt, List.getD_cons_zero, List.getD_cons_succ] at hv2
        omega
      · simp (disch := omega) only [up2_ne]
        omega
  · have q := k4 t ht
    unfold cTm at *
    simp (disch := omega) only [up2_ne]
    omega
  · have q := k5 a b ha hb
    unfold cTw at *
    simp (disch := omega) only [up2_ne]
    omega
  · have q := k6 t p ht hp
    unfold cPp at *
    simp (disch := omega) only [up2_ne]
    omega
  · have q := k7 j hj
    simp (disch := omega) only [up2_ne]
    omega
  · have q := g3 f hf
    unfold gFl at *
    rcases (show W = 0 ∨ W = 1 ∨ W = 2 ∨ W = 3 by omega) with rfl | rfl | rfl | rfl
    · by_cases e : f = F
      · subst e
        simp (disch := omega) only [up2_ne, up2_eq, true_and, and_true, implies_true]
        simp only [FMt, List.getD_cons_zero, List.getD_cons_succ] at hv2
        omega
      · simp (disch := omega) only [up2_ne]
        omega
    · by_cases e : f = F
      · subst e
        simp (disch := omega) only [up2_ne, up2_eq, true_and, and_true, implies_true]
        simp only [FMt, List.getD_cons_zero, List.getD_cons_succ] at hv2
        omega
      · simp (disch := omega) only [up2_ne]
        omega
    · by_cases e : f = F
      · subst e
        simp (disch := omega) only [up2_ne, up2_eq, true_and, and_true, implies_true]
        simp only [FMt, List.getD_cons_zero, List.getD_cons_succ] at hv2
        omega
      · simp (disch := omega) only [up2_ne]
        omega
    · by_cases e : f = F
      · subst e
        simp (disch := omega) only [up2_ne, up2_eq, true_and, and_true, implies_true]
        simp only [FMt, List.getD_cons_zero, List.getD_cons_succ] at hv2
        omega
      · simp (disch := omega) only [up2_ne]
        omega
  · have q := g4 t ht
    unfold gTm at *
    simp (disch := omega) only [up2_ne]
    omega
  · have q := g5 a b ha hb
    unfold gTw at *
    simp (disch := omega) only [up2_ne]
    omega
  · have q := g6 t p ht hp
    unfold gPp at *
    simp (disch := omega) only [up2_ne]
    omega
  · have q := g7 j hj
    simp (disch := omega) only [up2_ne]
    omega

theorem INV_lift {P : PP} {n : Nat} {FI A : Nat → Nat → Int} {X : SX} (h : INV P n FI A X) (hn : n < 512) {v : Int} (hv : 1 ≤ v ∧ v ≤ 9) : INV P (n + 1) (up2 (up2 FI 6 9 v) 165 1 v) A X := by
  have h := h.next hn
  obtain ⟨h0, ⟨k1, k2, k3, k4, k5, k6, k7⟩, ⟨g1, g2, g3, g4, g5, g6, g7⟩, hx⟩ := h
  have e8 : up2 (up2 FI 6 9 v) 165 1 v 6 8 = FI 6 8 := by simp (disch := omega) only [up2_ne]
  have e9 : up2 (up2 FI 6 9 v) 165 1 v 6 9 = v := by simp (disch := omega) only [up2_ne, up2_eq, true_and, and_true, implies_true]
  have e0 : up2 (up2 FI 6 9 v) 165 1 v 165 0 = FI 165 0 := by simp (disch := omega) only [up2_ne]
  have e1 : up2 (up2 FI 6 9 v) 165 1 v 165 1 = v := up2_same
  refine ⟨h0, ⟨by rw [e8]; exact k1, by rw [e9]; exact hv, k3, by rw [e8]; exact k4, k5, k6, k7⟩, ⟨by rw [e0, e8]; exact g1, by rw [e1, e9], g3, by rw [e8]; exact g4, g5, g6, g7⟩, hx⟩
theorem INV_grow {P : PP} {n : Nat} {FI A : Nat → Nat → Int} {X : SX} (h : INV P n FI A X) (hn : n < 512) {T q9 : Nat} {v : Int} (hT : T < 16) (hq9 : q9 < 20) (hv : -1 ≤ v ∧ v ≤ 200) : INV P (n + 1) FI (up2 (up2 A (122 + T) q9 v) 184 (20 * T + q9) v) X := by
  obtain ⟨h0, ⟨k1, k2, k3, k4, k5, k6, k7⟩, ⟨g1, g2, g3, g4, g5, g6, g7⟩, hx⟩ := h
  refine ⟨hn, ⟨k1, k2, fun f hf => ?_, fun t ht => ?_, fun a b ha hb => ?_, fun t p ht hp => ?_, fun j hj => ?_⟩, ⟨g1, g2, fun f hf => ?_, fun t ht => ?_, fun a b ha hb => ?_, fun t p ht hp => ?_, fun j hj => ?_⟩, hx⟩
  · have q := k3 f hf
    unfold cFl at *
    simp (disch := omega) only [up2_ne]
    omega
  · have q := k4 t ht
    unfold cTm at *
    simp (disch := omega) only [up2_ne]
    omega
  · have q := k5 a b ha hb
    unfold cTw at *
    simp (disch := omega) only [up2_ne]
    omega
  · have q := k6 t p ht hp
    unfold cPp at *
    by_cases e : t = T ∧ p = q9
    · obtain ⟨rfl, rfl⟩ := e
      simp (disch := omega) only [up2_ne, up2_eq, true_and, and_true, implies_true]
      omega
    · simp (disch := omega) only [up2_ne]
      omega
  · have q := k7 j hj
    simp (disch := omega) only [up2_ne]
    omega
  · have q := g3 f hf
    unfold gFl at *
    simp (disch := omega) only [up2_ne]
    omega
  · have q := g4 t ht
    unfold gTm at *
    simp (disch := omega) only [up2_ne]
    omega
  · have q := g5 a b ha hb
    unfold gTw at *
    simp (disch := omega) only [up2_ne]
    omega
  · have q := g6 t p ht hp
    unfold gPp at *
    by_cases e : t = T ∧ p = q9
    · obtain ⟨rfl, rfl⟩ := e
      simp (disch := omega) only [up2_ne, up2_eq, true_and, and_true, implies_true]
      omega
    · simp (disch := omega) only [up2_ne]
      omega
  · have q := g7 j hj
    simp (disch := omega) only [up2_ne]
    omega

theorem INV_person {P : PP} {n : Nat} {FI A : Nat → Nat → Int} {X : SX} (h : INV P n FI A X) (hn : n < 512) {T q9 : Nat} {v w : Int} (hT : T < 16) (hc : (T : Int) < FI 6 8) (hq9 : q9 < 20) (hq8 : A (20 + T) 7 = q9) (hv : 0 ≤ v ∧ v ≤ 31) (hw : 0 ≤ w ∧ w ≤ 64) : INV P (n + 1) FI (up2 (up2 (up2 (up2 (up2 (up2 A (88 + T) q9 v) (105 + T) q9 w) (20 + T) 7 (q9 + 1)) 182 (20 * T + q9) v) 183 (20 * T + q9) w) 176 T (q9 + 1)) X := by
  obtain ⟨h0, ⟨k1, k2, k3, k4, k5, k6, k7⟩, ⟨g1, g2, g3, g4, g5, g6, g7⟩, hx⟩ := h
  refine ⟨hn, ⟨k1, k2, fun f hf => ?_, fun t ht => ?_, fun a b ha hb => ?_, fun t p ht hp => ?_, fun j hj => ?_⟩, ⟨g1, g2, fun f hf => ?_, fun t ht => ?_, fun a b ha hb => ?_, fun t p ht hp => ?_, fun j hj => ?_⟩, hx⟩
  · have q := k3 f hf
    unfold cFl at *
    simp (disch := omega) only [up2_ne]
    omega
  · have q := k4 t ht
    unfold cTm at *
    by_cases e : t = T
    · subst e
      simp (disch := omega) only [up2_ne, up2_eq, true_and, and_true, implies_true]
      omega
    · simp (disch := omega) only [up2_ne]
      omega
  · have q := k5 a b ha hb
    unfold cTw at *
    simp (disch := omega) only [up2_ne]
    omega
  · have q := k6 t p ht hp
    unfold cPp at *
    by_cases e : t = T ∧ p = q9
    · obtain ⟨rfl, rfl⟩ := e
      simp (disch := omega) only [up2_ne, up2_eq, true_and, and_true, implies_true]
      omega
    · simp (disch := omega) only [up2_ne]
      omega
  · have q := k7 j hj
    simp (disch := omega) only [up2_ne]
    omega
  · have q := g3 f hf
    unfold gFl at *
    simp (disch := omega) only [up2_ne]
    omega
  · have q := g4 t ht
    unfold gTm at *
    by_cases e : t = T
    · subst e
      simp (disch := omega) only [up2_ne, up2_eq, true_and, and_true, implies_true]
      omega
    · simp (disch := omega) only [up2_ne]
      omega
  · have q := g5 a b ha hb
    unfold gTw at *
    simp (disch := omega) only [up2_ne]
    omega
  · have q := g6 t p ht hp
    unfold gPp at *
    by_cases e : t = T ∧ p = q9
    · obtain ⟨rfl, rfl⟩ := e
      simp (disch := omega) only [up2_ne, up2_eq, true_and, and_true, implies_true]
      omega
    · simp (disch := omega) only [up2_ne]
      omega
  · have q := g7 j hj
    simp (disch := omega) only [up2_ne]
    omega

theorem INV_two0 {P : PP} {n : Nat} {FI A : Nat → Nat → Int} {X : SX} (h : INV P n FI A X) (hn : n < 512) {a9 b9 : Nat} {v : Int} (ha9 : a9 < 16) (hb9 : b9 < 16) (hab : a9 ≠ b9) (hv : 0 ≤ v ∧ v ≤ 99) : INV P (n + 1) FI (up2 (up2 (up2 (up2 A (37 + a9) b9 v) (37 + b9) a9 v) 179 (16 * a9 + b9) v) 179 (16 * b9 + a9) v) X := by
  obtain ⟨h0, ⟨k1, k2, k3, k4, k5, k6, k7⟩, ⟨g1, g2, g3, g4, g5, g6, g7⟩, hx⟩ := h
  refine ⟨hn, ⟨k1, k2, fun f hf => ?_, fun t ht => ?_, fun a b ha hb => ?_, fun t p ht hp => ?_, fun j hj => ?_⟩, ⟨g1, g2, fun f hf => ?_, fun t ht => ?_, fun a b ha hb => ?_, fun t p ht hp => ?_, fun j hj => ?_⟩, hx⟩
  · have q := k3 f hf
    unfold cFl at *
    simp (disch := omega) only [up2_ne]
    omega
  · have q := k4 t ht
    unfold cTm at *
    simp (disch := omega) only [up2_ne]
    omega
  · have q := k5 a b ha hb
    unfold cTw at *
    by_cases e : (a = a9 ∧ b = b9) ∨ (a = b9 ∧ b = a9)
    · rcases e with ⟨rfl, rfl⟩ | ⟨rfl, rfl⟩ <;> simp (disch := omega) only [up2_ne, up2_eq, true_and, and_true, implies_true] <;> omega
    · simp (disch := omega) only [up2_ne]
      omega
  · have q := k6 t p ht hp
    unfold cPp at *
    simp (disch := omega) only [up2_ne]
    omega
  · have q := k7 j hj
    simp (disch := omega) only [up2_ne]
    omega
  · have q := g3 f hf
    unfold gFl at *
    simp (disch := omega) only [up2_ne]
    omega
  · have q := g4 t ht
    unfold gTm at *
    simp (disch := omega) only [up2_ne]
    omega
  · have q := g5 a b ha hb
    unfold gTw at *
    by_cases e : (a = a9 ∧ b = b9) ∨ (a = b9 ∧ b = a9)
    · rcases e with ⟨rfl, rfl⟩ | ⟨rfl, rfl⟩ <;> simp (disch := omega) only [up2_ne, up2_eq, true_and, and_true, implies_true] <;> omega
    · simp (disch := omega) only [up2_ne]
      omega
  · have q := g6 t p ht hp
    unfold gPp at *
    simp (disch := omega) only [up2_ne]
    omega
  · have q := g7 j hj
    simp (disch := omega) only [up2_ne]
    omega

theorem INV_two1 {P : PP} {n : Nat} {FI A : Nat → Nat → Int} {X : SX} (h : INV P n FI A X) (hn : n < 512) {a9 b9 : Nat} {v : Int} (ha9 : a9 < 16) (hb9 : b9 < 16) (hab : a9 ≠ b9) (hv : v = 0 ∨ v = 1) : INV P (n + 1) FI (up2 (up2 (up2 (up2 A (54 + a9) b9 v) (54 + b9) a9 v) 180 (16 * a9 + b9) v) 180 (16 * b9 + a9) v) X := by
  obtain ⟨h0, ⟨k1, k2, k3, k4, k5, k6, k7⟩, ⟨g1, g2, g3, g4, g5, g6, g7⟩, hx⟩ := h
  refine ⟨hn, ⟨k1, k2, fun f hf => ?_, fun t ht => ?_, fun a b ha hb => ?_, fun t p ht hp => ?_, fun j hj => ?_⟩, ⟨g1, g2, fun f hf => ?_, fun t ht => ?_, fun a b ha hb => ?_, fun t p ht hp => ?_, fun j hj => ?_⟩, hx⟩
  · have q := k3 f hf
    unfold cFl at *
    simp (disch := omega) only [up2_ne]
    omega
  · have q := k4 t ht
    unfold cTm at *
    simp (disch := omega) only [up2_ne]
    omega
  · have q := k5 a b ha hb
    unfold cTw at *
    by_cases e : (a = a9 ∧ b = b9) ∨ (a = b9 ∧ b = a9)
    · rcases e with ⟨rfl, rfl⟩ | ⟨rfl, rfl⟩ <;> simp (disch := omega) only [up2_ne, up2_eq, true_and, and_true, implies_true] <;> omega
    · simp (disch := omega) only [up2_ne]
      omega
  · have q := k6 t p ht hp
    unfold cPp at *
    simp (disch := omega) only [up2_ne]
    omega
  · have q := k7 j hj
    simp (disch := omega) only [up2_ne]
    omega
  · have q := g3 f hf
    unfold gFl at *
    simp (disch := omega) only [up2_ne]
    omega
  · have q := g4 t ht
    unfold gTm at *
    simp (disch := omega) only [up2_ne]
    omega
  · have q := g5 a b ha hb
    unfold gTw at *
    by_cases e : (a = a9 ∧ b = b9) ∨ (a = b9 ∧ b = a9)
    · rcases e with ⟨rfl, rfl⟩ | ⟨rfl, rfl⟩ <;> simp (disch := omega) only [up2_ne, up2_eq, true_and, and_true, implies_true] <;> omega
    · simp (disch := omega) only [up2_ne]
      omega
  · have q := g6 t p ht hp
    unfold gPp at *
    simp (disch := omega) only [up2_ne]
    omega
  · have q := g7 j hj
    simp (disch := omega) only [up2_ne]
    omega

theorem INV_two2 {P : PP} {n : Nat} {FI A : Nat → Nat → Int} {X : SX} (h : INV P n FI A X) (hn : n < 512) {a9 b9 : Nat} {v : Int} (ha9 : a9 < 16) (hb9 : b9 < 16) (hab : a9 ≠ b9) (hv : v = 0 ∨ v = 1) : INV P (n + 1) FI (up2 (up2 (up2 (up2 A (71 + a9) b9 v) (71 + b9) a9 v) 181 (16 * a9 + b9) v) 181 (16 * b9 + a9) v) X := by
  obtain ⟨h0, ⟨k1, k2, k3, k4, k5, k6, k7⟩, ⟨g1, g2, g3, g4, g5, g6, g7⟩, hx⟩ := h
  refine ⟨hn, ⟨k1, k2, fun f hf => ?_, fun t ht => ?_, fun a b ha hb => ?_, fun t p ht hp => ?_, fun j hj => ?_⟩, ⟨g1, g2, fun f hf => ?_, fun t ht => ?_, fun a b ha hb => ?_, fun t p ht hp => ?_, fun j hj => ?_⟩, hx⟩
  · have q := k3 f hf
    unfold cFl at *
    simp (disch := omega) only [up2_ne]
    omega
  · have q := k4 t ht
    unfold cTm at *
    simp (disch := omega) only [up2_ne]
    omega
  · have q := k5 a b ha hb
    unfold cTw at *
    by_cases e : (a = a9 ∧ b = b9) ∨ (a = b9 ∧ b = a9)
    · rcases e with ⟨rfl, rfl⟩ | ⟨rfl, rfl⟩ <;> simp (disch := omega) only [up2_ne, up2_eq, true_and, and_true, implies_true] <;> omega
    · simp (disch := omega) only [up2_ne]
      omega
  · have q := k6 t p ht hp
    unfold cPp at *
    simp (disch := omega) only [up2_ne]
    omega
  · have q := k7 j hj
    simp (disch := omega) only [up2_ne]
    omega
  · have q := g3 f hf
    unfold gFl at *
    simp (disch := omega) only [up2_ne]
    omega
  · have q := g4 t ht
    unfold gTm at *
    simp (disch := omega) only [up2_ne]
    omega
  · have q := g5 a b ha hb
    unfold gTw at *
    by_cases e : (a = a9 ∧ b = b9) ∨ (a = b9 ∧ b = a9)
    · rcases e with ⟨rfl, rfl⟩ | ⟨rfl, rfl⟩ <;> simp (disch := omega) only [up2_ne, up2_eq, true_and, and_true, implies_true] <;> omega
    · simp (disch := omega) only [up2_ne]
      omega
  · have q := g6 t p ht hp
    unfold gPp at *
    simp (disch := omega) only [up2_ne]
    omega
  · have q := g7 j hj
    simp (disch := omega) only [up2_ne]
    omega

theorem INV_team {P : PP} {n : Nat} {FI A : Nat → Nat → Int} {X : SX} (h : INV P n FI A X) (hn : n < 512) {T : Nat} {s9 e9 l9 b9 : Int} (hT : T < 16) (hc : FI 6 8 = T) (hs : 1 ≤ s9 ∧ s9 ≤ 60) (he : 0 ≤ e9 ∧ e9 ≤ 7) (hl : 0 ≤ l9 ∧ l9 ≤ 9) (hb9 : 0 ≤ b9 ∧ b9 ≤ 9) : INV P (n + 1) (up2 (up2 FI 6 8 (T + 1)) 165 0 (T + 1)) (up2 (up2 (up2 (up2 (up2 (up2 (up2 (up2 (up2 (up2 A (20 + T) 0 s9) (20 + T) 1 e9) (20 + T) 2 l9) (20 + T) 3 b9) 170 T s9) 171 T e9) 172 T l9) 173 T b9) 174 T (-9)) 175 T (-9)) X := by
  obtain ⟨h0, ⟨k1, k2, k3, k4, k5, k6, k7⟩, ⟨g1, g2, g3, g4, g5, g6, g7⟩, hx⟩ := h
  refine ⟨hn, ⟨(by simp (disch := omega) only [up2_ne, up2_eq, true_and, and_true, implies_true]; omega), (by simp (disch := omega) only [up2_ne]; exact k2), fun f hf => ?_, fun t ht => ?_, fun a b ha hb => ?_, fun t p ht hp => ?_, fun j hj => ?_⟩, ⟨(by simp (disch := omega) only [up2_ne, up2_eq, true_and, and_true, implies_true]), (by simp (disch := omega) only [up2_ne]; exact g2), fun f hf => ?_, fun t ht => ?_, fun a b ha hb => ?_, fun t p ht hp => ?_, fun j hj => ?_⟩, hx⟩
  · have q := k3 f hf
    unfold cFl at *
    simp (disch := omega) only [up2_ne]
    omega
  · have q := k4 t ht
    unfold cTm at *
    have e8 : up2 (up2 FI 6 8 (T + 1)) 165 0 (T + 1) 6 8 = T + 1 := by simp (disch := omega) only [up2_ne, up2_eq, true_and, and_true, implies_true]
    rw [e8]
    by_cases e : t = T
    · subst e
      simp (disch := omega) only [up2_ne, up2_eq, true_and, and_true, implies_true]
      omega
    · simp (disch := omega) only [up2_ne, up2_eq, true_and, and_true, implies_true]
      omega
  · have q := k5 a b ha hb
    unfold cTw at *
    simp (disch := omega) only [up2_ne]
    omega
  · have q := k6 t p ht hp
    unfold cPp at *
    simp (disch := omega) only [up2_ne]
    omega
  · have q := k7 j hj
    simp (disch := omega) only [up2_ne]
    omega
  · have q := g3 f hf
    unfold gFl at *
    simp (disch := omega) only [up2_ne]
    omega
  · have q := g4 t ht
    unfold gTm at *
    have e8 : up2 (up2 FI 6 8 (T + 1)) 165 0 (T + 1) 6 8 = T + 1 := by simp (disch := omega) only [up2_ne, up2_eq, true_and, and_true, implies_true]
    have q4 := k4 t ht
    unfold cTm at q4
    rw [e8]
    by_cases e : t = T
    · subst e
      simp (disch := omega) only [up2_ne, up2_eq, true_and, and_true, implies_true]
      omega
    · simp (disch := omega) only [up2_ne, up2_eq, true_and, and_true, implies_true]
      omega
  · have q := g5 a b ha hb
    unfold gTw at *
    simp (disch := omega) only [up2_ne]
    omega
  · have q := g6 t p ht hp
    unfold gPp at *
    simp (disch := omega) only [up2_ne]
    omega
  · have q := g7 j hj
    simp (disch := omega) only [up2_ne]
    omega
end
section
/-! the ranges of the reference's own rows -/
def mTm (n : Nat) (c : Int) (A : Nat → Nat → Int) (t : Nat) : Prop := ((t : Int) < c → (1 ≤ A 170 t ∧ A 170 t ≤ 60) ∧ (0 ≤ A 171 t ∧ A 171 t ≤ 7) ∧ (0 ≤ A 172 t ∧ A 172 t ≤ 9) ∧ (0 ≤ A 173 t ∧ A 173 t ≤ 9) ∧ (A 174 t = -9 ∨ (0 ≤ A 174 t ∧ A 174 t < 11)) ∧ (A 175 t = -9 ∨ (0 ≤ A 175 t ∧ A 175 t < 11))) ∧ (0 ≤ A 176 t ∧ A 176 t ≤ 20) ∧ (0 ≤ A 177 t ∧ A 177 t ≤ n) ∧ (A 178 t = 0 ∨ A 178 t = 1)
def mFl (A : Nat → Nat → Int) (f : Nat) : Prop := (0 ≤ A 166 f ∧ A 166 f ≤ 300) ∧ (0 ≤ A 167 f ∧ A 167 f ≤ 7) ∧ (0 ≤ A 168 f ∧ A 168 f ≤ 999) ∧ (0 ≤ A 169 f ∧ A 169 f ≤ 19)
def mTw (A : Nat → Nat → Int) (j : Nat) : Prop := (0 ≤ A 179 j ∧ A 179 j ≤ 99) ∧ (A 180 j = 0 ∨ A 180 j = 1) ∧ (A 181 j = 0 ∨ A 181 j = 1)
def mPp (A : Nat → Nat → Int) (j : Nat) : Prop := (0 ≤ A 182 j ∧ A 182 j ≤ 31) ∧ (0 ≤ A 183 j ∧ A 183 j ≤ 64) ∧ (-1 ≤ A 184 j ∧ A 184 j ≤ 200)
def mI (n : Nat) (FI A : Nat → Nat → Int) : Prop := n ≤ 512 ∧ (0 ≤ FI 165 0 ∧ FI 165 0 ≤ 16) ∧ (1 ≤ FI 165 1 ∧ FI 165 1 ≤ 9) ∧ (∀ f, f < 11 → mFl A f) ∧ (∀ t, t < 16 → mTm n (FI 165 0) A t) ∧ (∀ j, j < 256 → mTw A j) ∧ (∀ j, j < 320 → mPp A j) ∧ ∀ k, k < 7 → 0 ≤ A 185 k ∧ A 185 k ≤ n
theorem INV.mI {P : PP} {n : Nat} {FI A : Nat → Nat → Int} {X : SX} (h : INV P n FI A X) : mI n FI A := by
  obtain ⟨h0, ⟨k1, k2, k3, k4, k5, k6, k7⟩, ⟨g1, g2, g3, g4, g5, g6, g7⟩, hx⟩ := h
  refine ⟨h0, by rw [g1]; exact k1, by rw [g2]; exact k2, fun f hf => ?_, fun t ht => ?_, fun j hj => ?_, fun j hj => ?_, fun k hk => ?_⟩
  · have q := k3 f hf
    have r := g3 f hf
    unfold cFl at q
    unfold gFl at r
    unfold mFl
    omega
  · have q := k4 t ht
    have r := g4 t ht
    unfold cTm at q
    unfold gTm at r
    unfold mTm
    rw [g1]
    omega
  · have q := k5 (j / 16) (j % 16) (by omega) (by omega)
    have r := g5 (j / 16) (j % 16) (by omega) (by omega)
    unfold cTw at q
    unfold gTw at r
    unfold mTw
    rw [show 16 * (j / 16) + j % 16 = j by omega] at r
    omega
  · have q := k6 (j / 20) (j % 20) (by omega) (by omega)
    have r := g6 (j / 20) (j % 20) (by omega) (by omega)
    unfold cPp at q
    unfold gPp at r
    unfold mPp
    rw [show 20 * (j / 20) + j % 20 = j by omega] at r
    omega
  · have q := k7 k hk
    have r := g7 k hk
    omega
theorem mI.off {n : Nat} {FI A FI' A' : Nat → Nat → Int} (h : mI n FI A) (hf : ∀ k, FI' 165 k = FI 165 k) (ha : ∀ a j, 165 ≤ a → A' a j = A a j) : mI n FI' A' := by
  obtain ⟨h0, h1, h2, h3, h4, h5, h6, h7⟩ := h
  refine ⟨h0, by rw [hf]; exact h1, by rw [hf]; exact h2, fun f hf9 => ?_, fun t ht => ?_, fun j hj => ?_, fun j hj => ?_, fun k hk => ?_⟩
  · have q := h3 f hf9
    unfold mFl at *
    simp (disch := omega) only [ha]
    exact q
  · have q := h4 t ht
    unfold mTm at *
    simp (disch := omega) only [ha, hf]
    exact q
  · have q := h5 j hj
    unfold mTw at *
    simp (disch := omega) only [ha]
    exact q
  · have q := h6 j hj
    unfold mPp at *
    simp (disch := omega) only [ha]
    exact q
  · rw [ha 185 k (by omega)]
    exact h7 k hk
theorem mI.up {n : Nat} {FI A : Nat → Nat → Int} (h : mI n FI A) {a j : Nat} {x : Int} (ha : a < 165) : mI n FI (up2 A a j x) := h.off (fun _ => rfl) (fun b k hb => up2_ne (by omega))
theorem mI.upF {n : Nat} {FI A : Nat → Nat → Int} (h : mI n FI A) {a j : Nat} {x : Int} (ha : a ≠ 165) : mI n (up2 FI a j x) A := h.off (fun k => up2_ne (by omega)) (fun _ _ _ => rfl)
end
section
/-! the plain methods: what the class answers, what the reference answers, by cases -/
theorem sp_F_size {P : PP} {d n : Nat} {FI A L : Nat → Nat → Int} {X : SX} {Q : Option AV → S2 → Prop} {t v : Int} (ht : inR t) (hv : inR v) (hI : cI n FI A) (hn5 : n ≤ 512) (r1 : ((t < 0 ∨ FI 6 8 ≤ t)) → Q (some (vi (-1))) (FI, rfC A 1, L, X)) (r4 : (0 ≤ t ∧ t < FI 6 8 ∧ v < 1) → Q (some (vi (-4))) (FI, rfC A 4, L, X)) (r6 : (0 ≤ t ∧ t < FI 6 8 ∧ 60 < v) → Q (some (vi (-6))) (FI, rfC A 6, L, X)) (ok : ∀ T : Nat, (t = (T : Int) ∧ (T : Int) < FI 6 8 ∧ 1 ≤ v ∧ v ≤ 60) → Q (some (vi (A (20 + T) 0))) (FI, up2 A (20 + T) 0 v, L, X)) : WP2 P M_F_size (d + 2) 0 [some (vr 5), some (vi t), some (vi v)] [] (FI, A, L, X) Q := by
  obtain ⟨lt, ut⟩ := id ht
  obtain ⟨lv, uv⟩ := id hv
  have hcc := hI.1
  refine WP_n 2 rfl ?_
  refine WP2_callV 1 ok_M_F_noTeam rfl rfl rfl rfl rfl rfl (Nat.le_of_ble_eq_true rfl) (Nat.le_of_ble_eq_true rfl) rfl rfl ?_
  refine sp_noTeam ht ⟨by omega, by omega⟩ (fun hTt => ?_) (fun hTt hTtb => ?_)
  · refine WP_ifeq rfl rfl ⟨by decide, by decide⟩  (fun h3 => absurd h3 (by decide)) (fun h3 => ?_)
    refine WP_n 2 rfl ?_
    refine WP2_callV 1 ok_M_F_refuse rfl rfl rfl rfl rfl rfl (Nat.le_of_ble_eq_true rfl) (Nat.le_of_ble_eq_true rfl) rfl rfl ?_
    refine sp_refuse (k := 1) rfl (by omega) ?_
    exact WP_iret rfl rfl rfl ⟨_, rfl, r1 (by omega)⟩
  · refine WP_ifeq rfl rfl ⟨by decide, by decide⟩  (fun h3 => ?_) (fun h3 => absurd (by decide) h3)
    refine WP_n 2 rfl ?_
    refine WP_icmpge rfl rfl ⟨by omega, by omega⟩ ⟨by omega, by omega⟩ (fun h10 => ?_) (fun h10 => ?_)
    · refine WP_n 2 rfl ?_
      refine WP_icmple rfl rfl ⟨by omega, by omega⟩ ⟨by omega, by omega⟩ (fun h17 => ?_) (fun h17 => ?_)
      · obtain ⟨T, rfl⟩ : ∃ T : Nat, t = (T : Int) := ⟨t.toNat, by omega⟩
        refine WP_n 1 rfl ?_
        refine WP2_getf rfl rfl rfl rfl rfl ?_
        refine WP2_getf rfl rfl rfl rfl rfl ?_
        refine WP_n 1 rfl ?_
        refine WP2_aald (b := 20) (j := T) (n := 16) rfl rfl rfl rfl rfl (by omega) (by omega) ?_
        refine WP_n 2 rfl ?_
        refine WP2_callS 3 ok_M_F_exchange rfl rfl rfl rfl rfl rfl rfl (Nat.le_of_ble_eq_true rfl) (Nat.le_of_ble_eq_true rfl) ?_
        refine sp_exchange (j := 0) (ia_tm (by omega)) (by omega) rfl (by omega) (by omega) ?_
        exact WP_iret rfl rfl rfl ⟨_, rfl, ok T (by omega)⟩
      · refine WP_n 2 rfl ?_
        refine WP2_callV 1 ok_M_F_refuse rfl rfl rfl rfl rfl rfl (Nat.le_of_ble_eq_true rfl) (Nat.le_of_ble_eq_true rfl) rfl rfl ?_
        refine sp_refuse (k := 6) rfl (by omega) ?_
        exact WP_iret rfl rfl rfl ⟨_, rfl, r6 (by omega)⟩
    · refine WP_n 2 rfl ?_
      refine WP2_callV 1 ok_M_F_refuse rfl rfl rfl rfl rfl rfl (Nat.le_of_ble_eq_true rfl) (Nat.le_of_ble_eq_true rfl) rfl rfl ?_
      refine sp_refuse (k := 4) rfl (by omega) ?_
      exact WP_iret rfl rfl rfl ⟨_, rfl, r4 (by omega)⟩
theorem sp_G_size {P : PP} {d n : Nat} {FI A L : Nat → Nat → Int} {X : SX} {Q : Option AV → S2 → Prop} {t v : Int} (ht : inR t) (hv : inR v) (hI : mI n FI A) (r1 : ((t < 0 ∨ FI 165 0 ≤ t)) → Q (some (vi (-1))) (FI, rfG A 1, L, X)) (r4 : (0 ≤ t ∧ t < FI 165 0 ∧ v < 1) → Q (some (vi (-4))) (FI, rfG A 4, L, X)) (r6 : (0 ≤ t ∧ t < FI 165 0 ∧ 60 < v) → Q (some (vi (-6))) (FI, rfG A 6, L, X)) (ok : ∀ T : Nat, (t = (T : Int) ∧ (T : Int) < FI 165 0 ∧ 1 ≤ v ∧ v ≤ 60) → Q (some (vi (A 170 T))) (FI, up2 A 170 T v, L, X)) : WP2 P M_G_size (d + 2) 0 [some (vr 165), some (vi t), some (vi v), none] [] (FI, A, L, X) Q := by
  obtain ⟨lt, ut⟩ := id ht
  obtain ⟨lv, uv⟩ := id hv
  have hcc := hI.2.1
  refine WP_n 2 rfl ?_
  refine WP2_callV 1 ok_M_G_isTeam rfl rfl rfl rfl rfl rfl (Nat.le_of_ble_eq_true rfl) (Nat.le_of_ble_eq_true rfl) rfl rfl ?_
  refine sp_isTeam ht ⟨by omega, by omega⟩ (fun hTt => ?_) (fun hTt hTtb => ?_)
  · refine WP_ifne rfl rfl ⟨by decide, by decide⟩  (fun h3 => absurd h3 (by decide)) (fun h3 => ?_)
    refine WP_n 2 rfl ?_
    refine WP2_callV 1 ok_M_G_no rfl rfl rfl rfl rfl rfl (Nat.le_of_ble_eq_true rfl) (Nat.le_of_ble_eq_true rfl) rfl rfl ?_
    refine sp_no (k := 1) rfl (by omega) ?_
    exact WP_iret rfl rfl rfl ⟨_, rfl, r1 (by omega)⟩
  · refine WP_ifne rfl rfl ⟨by decide, by decide⟩  (fun h3 => ?_) (fun h3 => absurd (by decide) h3)
    refine WP_n 2 rfl ?_
    refine WP_icmpge rfl rfl ⟨by omega, by omega⟩ ⟨by omega, by omega⟩ (fun h10 => ?_) (fun h10 => ?_)
    · refine WP_n 2 rfl ?_
      refine WP_icmple rfl rfl ⟨by omega, by omega⟩ ⟨by omega, by omega⟩ (fun h17 => ?_) (fun h17 => ?_)
      · obtain ⟨T, rfl⟩ : ∃ T : Nat, t = (T : Int) := ⟨t.toNat, by omega⟩
        refine WP_n 1 rfl ?_
        refine WP2_getf rfl rfl rfl rfl rfl ?_
        refine WP_n 1 rfl ?_
        refine WP2_iald (j := T) rfl rfl (ia_lit (n := 16) rfl rfl (by omega)) (by omega) (by omega) (by omega) ?_
        refine WP_n 2 rfl ?_
        refine WP2_getf rfl rfl rfl rfl rfl ?_
        refine WP_n 2 rfl ?_
        refine WP2_iast (j := T) rfl rfl (ia_lit (n := 16) rfl rfl (by omega)) (by omega) (by omega) (by omega) ?_
        refine WP_n 1 rfl ?_
        exact WP_iret rfl rfl rfl ⟨_, rfl, ok T (by omega)⟩
      · refine WP_n 2 rfl ?_
        refine WP2_callV 1 ok_M_G_no rfl rfl rfl rfl rfl rfl (Nat.le_of_ble_eq_true rfl) (Nat.le_of_ble_eq_true rfl) rfl rfl ?_
        refine sp_no (k := 6) rfl (by omega) ?_
        exact WP_iret rfl rfl rfl ⟨_, rfl, r6 (by omega)⟩
    · refine WP_n 2 rfl ?_
      refine WP2_callV 1 ok_M_G_no rfl rfl rfl rfl rfl rfl (Nat.le_of_ble_eq_true rfl) (Nat.le_of_ble_eq_true rfl) rfl rfl ?_
      refine sp_no (k := 4) rfl (by omega) ?_
      exact WP_iret rfl rfl rfl ⟨_, rfl, r4 (by omega)⟩
theorem pr_size {P : PP} {n : Nat} {FI A L : Nat → Nat → Int} {X : SX} (h : INV P n FI A X) (hn : n < 512) {t v : Int} (ht : inR t) (hv : inR v) : PAIR P n (FI, A, L, X) M_F_size [some (vr 5), some (vi t), some (vi v)] M_G_size [some (vr 165), some (vi t), some (vi v), none] := by
  intro d
  have hm := h.mI
  have hn5 := h.1
  have hcI := h.2.1
  have hk1 := hcI.1
  have g1 := h.2.2.1.1
  obtain ⟨lt, ut⟩ := id ht
  obtain ⟨lv, uv⟩ := id hv
  refine sp_F_size ht hv hcI hn5 (fun c1 => ?_) (fun c1 => ?_) (fun c1 => ?_) (fun T c1 => ?_)
  · refine ⟨_, rfl, ?_⟩
    refine sp_G_size ht hv (hm.up (by omega)) (fun c2 => ?_) (fun c2 => ?_) (fun c2 => ?_) (fun T' c2 => ?_)
    · exact ⟨rfl, INV_ref h hn (by omega)⟩
    · exfalso; omega
    · exfalso; omega
    · exfalso; omega
  · refine ⟨_, rfl, ?_⟩
    refine sp_G_size ht hv (hm.up (by omega)) (fun c2 => ?_) (fun c2 => ?_) (fun c2 => ?_) (fun T' c2 => ?_)
    · exfalso; omega
    · exact ⟨rfl, INV_ref h hn (by omega)⟩
    · exfalso; omega
    · exfalso; omega
  · refine ⟨_, rfl, ?_⟩
    refine sp_G_size ht hv (hm.up (by omega)) (fun c2 => ?_) (fun c2 => ?_) (fun c2 => ?_) (fun T' c2 => ?_)
    · exfalso; omega
    · exfalso; omega
    · exact ⟨rfl, INV_ref h hn (by omega)⟩
    · exfalso; omega
  · refine ⟨_, rfl, ?_⟩
    refine sp_G_size ht hv (hm.up (by omega)) (fun c2 => ?_) (fun c2 => ?_) (fun c2 => ?_) (fun T' c2 => ?_)
    · exfalso; omega
    · exfalso; omega
    · exfalso; omega
    · obtain rfl : T = T' := by omega
      refine ⟨?_, INV_size h hn (by omega) (by omega) (by omega)⟩
      simp (disch := omega) only [up2_ne]
      rw [(((h.2.2.1.2.2.2.1 T (by omega)).1 (by omega)).1)]
theorem sp_F_sit {P : PP} {d n : Nat} {FI A L : Nat → Nat → Int} {X : SX} {Q : Option AV → S2 → Prop} {t f : Int} (ht : inR t) (hf : inR f) (hI : cI n FI A) (hn5 : n ≤ 512) (r1 : ((t < 0 ∨ FI 6 8 ≤ t) ∨ (f ≠ -9 ∧ (f < 0 ∨ 11 ≤ f))) → Q (some (vi (-1))) (FI, rfC A 1, L, X)) (r3 : (∃ T : Nat, t = (T : Int) ∧ (T : Int) < FI 6 8 ∧ (f = -9 ∨ (0 ≤ f ∧ f < 11)) ∧ A (20 + T) 5 = 1) → Q (some (vi (-3))) (FI, rfC A 3, L, X)) (ok : ∀ T : Nat, (t = (T : Int) ∧ (T : Int) < FI 6 8 ∧ (f = -9 ∨ (0 ≤ f ∧ f < 11)) ∧ A (20 + T) 5 = 0) → Q (some (vi (A (20 + T) 4))) (FI, up2 A (20 + T) 4 f, L, X)) : WP2 P M_F_sit (d + 2) 0 [some (vr 5), some (vi t), some (vi f)] [] (FI, A, L, X) Q := by
  obtain ⟨lt, ut⟩ := id ht
  obtain ⟨lf, uf⟩ := id hf
  have hcc := hI.1
  refine WP_n 2 rfl ?_
  refine WP2_callV 1 ok_M_F_noTeam rfl rfl rfl rfl rfl rfl (Nat.le_of_ble_eq_true rfl) (Nat.le_of_ble_eq_true rfl) rfl rfl ?_
  refine sp_noTeam ht ⟨by omega, by omega⟩ (fun hTt => ?_) (fun hTt hTtb => ?_)
  · refine WP_ifne rfl rfl ⟨by decide, by decide⟩  (fun h3 => ?_) (fun h3 => absurd (by decide) h3)
    refine WP_n 2 rfl ?_
    refine WP2_callV 1 ok_M_F_refuse rfl rfl rfl rfl rfl rfl (Nat.le_of_ble_eq_true rfl) (Nat.le_of_ble_eq_true rfl) rfl rfl ?_
    refine sp_refuse (k := 1) rfl (by omega) ?_
    exact WP_iret rfl rfl rfl ⟨_, rfl, r1 (by omega)⟩
  · refine WP_ifne rfl rfl ⟨by decide, by decide⟩  (fun h3 => absurd h3 (by decide)) (fun h3 => ?_)
    refine WP_n 2 rfl ?_
    refine WP_icmpeq rfl rfl ⟨by omega, by omega⟩ ⟨by omega, by omega⟩ (fun h6 => ?_) (fun h6 => ?_)
    · obtain ⟨T, rfl⟩ : ∃ T : Nat, t = (T : Int) := ⟨t.toNat, by omega⟩
      have hq := hI.2.2.2.1 T (by omega)
      unfold cTm at hq
      refine WP_n 1 rfl ?_
      refine WP2_getf rfl rfl rfl rfl rfl ?_
      refine WP2_getf rfl rfl rfl rfl rfl ?_
      refine WP_n 1 rfl ?_
      refine WP2_aald (b := 20) (j := T) (n := 16) rfl rfl rfl rfl rfl (by omega) (by omega) ?_
      refine WP_n 1 rfl ?_
      refine WP2_iald (j := 5) rfl rfl (ia_tm (by omega)) (by omega) (by omega) (by omega) ?_
      refine WP_n 1 rfl ?_
      refine WP_icmpne rfl rfl ⟨by omega, by omega⟩ ⟨by omega, by omega⟩ (fun h22 => ?_) (fun h22 => ?_)
      · refine WP_n 1 rfl ?_
        refine WP2_getf rfl rfl rfl rfl rfl ?_
        refine WP2_getf rfl rfl rfl rfl rfl ?_
        refine WP_n 1 rfl ?_
        refine WP2_aald (b := 20) (j := T) (n := 16) rfl rfl rfl rfl rfl (by omega) (by omega) ?_
        refine WP_n 2 rfl ?_
        refine WP2_callS 3 ok_M_F_exchange rfl rfl rfl rfl rfl rfl rfl (Nat.le_of_ble_eq_true rfl) (Nat.le_of_ble_eq_true rfl) ?_
        refine sp_exchange (j := 4) (ia_tm (by omega)) (by omega) rfl (by omega) (by omega) ?_
        exact WP_iret rfl rfl rfl ⟨_, rfl, ok T (by omega)⟩
      · refine WP_n 2 rfl ?_
        refine WP2_callV 1 ok_M_F_refuse rfl rfl rfl rfl rfl rfl (Nat.le_of_ble_eq_true rfl) (Nat.le_of_ble_eq_true rfl) rfl rfl ?_
        refine sp_refuse (k := 3) rfl (by omega) ?_
        exact WP_iret rfl rfl rfl ⟨_, rfl, r3 ⟨T, by omega⟩⟩
    · refine WP_n 1 rfl ?_
      refine WP2_callS 1 ok_M_F_noFloor rfl rfl rfl rfl rfl rfl rfl (Nat.le_of_ble_eq_true rfl) (Nat.le_of_ble_eq_true rfl) ?_
      refine sp_noFloor hf (fun hF => ?_) (fun hF hFb => ?_)
      · refine WP_ifeq rfl rfl ⟨by decide, by decide⟩  (fun h9 => absurd h9 (by decide)) (fun h9 => ?_)
        refine WP_n 2 rfl ?_
        refine WP2_callV 1 ok_M_F_refuse rfl rfl rfl rfl rfl rfl (Nat.le_of_ble_eq_true rfl) (Nat.le_of_ble_eq_true rfl) rfl rfl ?_
        refine sp_refuse (k := 1) rfl (by omega) ?_
        exact WP_iret rfl rfl rfl ⟨_, rfl, r1 (by omega)⟩
      · refine WP_ifeq rfl rfl ⟨by decide, by decide⟩  (fun h9 => ?_) (fun h9 => absurd (by decide) h9)
        obtain ⟨T, rfl⟩ : ∃ T : Nat, t = (T : Int) := ⟨t.toNat, by omega⟩
        have hq := hI.2.2.2.1 T (by omega)
        unfold cTm at hq
        refine WP_n 1 rfl ?_
        refine WP2_getf rfl rfl rfl rfl rfl ?_
        refine WP2_getf rfl rfl rfl rfl rfl ?_
        refine WP_n 1 rfl ?_
        refine WP2_aald (b := 20) (j := T) (n := 16) rfl rfl rfl rfl rfl (by omega) (by omega) ?_
        refine WP_n 1 rfl ?_
        refine WP2_iald (j := 5) rfl rfl (ia_tm (by omega)) (by omega) (by omega) (by omega) ?_
        refine WP_n 1 rfl ?_
        refine WP_icmpne rfl rfl ⟨by omega, by omega⟩ ⟨by omega, by omega⟩ (fun h22 => ?_) (fun h22 => ?_)
        · refine WP_n 1 rfl ?_
          refine WP2_getf rfl rfl rfl rfl rfl ?_
          refine WP2_getf rfl rfl rfl rfl rfl ?_
          refine WP_n 1 rfl ?_
          refine WP2_aald (b := 20) (j := T) (n := 16) rfl rfl rfl rfl rfl (by omega) (by omega) ?_
          refine WP_n 2 rfl ?_
          refine WP2_callS 3 ok_M_F_exchange rfl rfl rfl rfl rfl rfl rfl (Nat.le_of_ble_eq_true rfl) (Nat.le_of_ble_eq_true rfl) ?_
          refine sp_exchange (j := 4) (ia_tm (by omega)) (by omega) rfl (by omega) (by omega) ?_
          exact WP_iret rfl rfl rfl ⟨_, rfl, ok T (by omega)⟩
        · refine WP_n 2 rfl ?_
          refine WP2_callV 1 ok_M_F_refuse rfl rfl rfl rfl rfl rfl (Nat.le_of_ble_eq_true rfl) (Nat.le_of_ble_eq_true rfl) rfl rfl ?_
          refine sp_refuse (k := 3) rfl (by omega) ?_
          exact WP_iret rfl rfl rfl ⟨_, rfl, r3 ⟨T, by omega⟩⟩
theorem sp_G_sit {P : PP} {d n : Nat} {FI A L : Nat → Nat → Int} {X : SX} {Q : Option AV → S2 → Prop} {t f : Int} (ht : inR t) (hf : inR f) (hI : mI n FI A) (r1 : ((t < 0 ∨ FI 165 0 ≤ t) ∨ (f ≠ -9 ∧ (f < 0 ∨ 11 ≤ f))) → Q (some (vi (-1))) (FI, rfG A 1, L, X)) (r3 : (∃ T : Nat, t = (T : Int) ∧ (T : Int) < FI 165 0 ∧ (f = -9 ∨ (0 ≤ f ∧ f < 11)) ∧ A 178 T = 1) → Q (some (vi (-3))) (FI, rfG A 3, L, X)) (ok : ∀ T : Nat, (t = (T : Int) ∧ (T : Int) < FI 165 0 ∧ (f = -9 ∨ (0 ≤ f ∧ f < 11)) ∧ A 178 T = 0) → Q (some (vi (A 174 T))) (FI, up2 A 174 T f, L, X)) : WP2 P M_G_sit (d + 2) 0 [some (vr 165), some (vi t), some (vi f), none] [] (FI, A, L, X) Q := by
  obtain ⟨lt, ut⟩ := id ht
  obtain ⟨lf, uf⟩ := id hf
  have hcc := hI.2.1
  refine WP_n 2 rfl ?_
  refine WP2_callV 1 ok_M_G_isTeam rfl rfl rfl rfl rfl rfl (Nat.le_of_ble_eq_true rfl) (Nat.le_of_ble_eq_true rfl) rfl rfl ?_
  refine sp_isTeam ht ⟨by omega, by omega⟩ (fun hTt => ?_) (fun hTt hTtb => ?_)
  · refine WP_ifeq rfl rfl ⟨by decide, by decide⟩  (fun h3 => ?_) (fun h3 => absurd (by decide) h3)
    refine WP_n 2 rfl ?_
    refine WP2_callV 1 ok_M_G_no rfl rfl rfl rfl rfl rfl (Nat.le_of_ble_eq_true rfl) (Nat.le_of_ble_eq_true rfl) rfl rfl ?_
    refine sp_no (k := 1) rfl (by omega) ?_
    exact WP_iret rfl rfl rfl ⟨_, rfl, r1 (by omega)⟩
  · refine WP_ifeq rfl rfl ⟨by decide, by decide⟩  (fun h3 => absurd h3 (by decide)) (fun h3 => ?_)
    refine WP_n 2 rfl ?_
    refine WP_icmpeq rfl rfl ⟨by omega, by omega⟩ ⟨by omega, by omega⟩ (fun h6 => ?_) (fun h6 => ?_)
    · obtain ⟨T, rfl⟩ : ∃ T : Nat, t = (T : Int) := ⟨t.toNat, by omega⟩
      have hq := hI.2.2.2.2.1 T (by omega)
      unfold mTm at hq
      refine WP_n 1 rfl ?_
      refine WP2_getf rfl rfl rfl rfl rfl ?_
      refine WP_n 1 rfl ?_
      refine WP2_zald (j := T) rfl rfl rfl (by omega) (by omega) ?_
      refine WP_ifeq rfl rfl ⟨by omega, by omega⟩ (fun h18 => ?_) (fun h18 => ?_)
      · refine WP_n 1 rfl ?_
        refine WP2_getf rfl rfl rfl rfl rfl ?_
        refine WP_n 1 rfl ?_
        refine WP2_iald (j := T) rfl rfl (ia_lit (n := 16) rfl rfl (by omega)) (by omega) (by omega) (by omega) ?_
        refine WP_n 2 rfl ?_
        refine WP2_getf rfl rfl rfl rfl rfl ?_
        refine WP_n 2 rfl ?_
        refine WP2_iast (j := T) rfl rfl (ia_lit (n := 16) rfl rfl (by omega)) (by omega) (by omega) (by omega) ?_
        refine WP_n 1 rfl ?_
        exact WP_iret rfl rfl rfl ⟨_, rfl, ok T (by omega)⟩
      · refine WP_n 2 rfl ?_
        refine WP2_callV 1 ok_M_G_no rfl rfl rfl rfl rfl rfl (Nat.le_of_ble_eq_true rfl) (Nat.le_of_ble_eq_true rfl) rfl rfl ?_
        refine sp_no (k := 3) rfl (by omega) ?_
        exact WP_iret rfl rfl rfl ⟨_, rfl, r3 ⟨T, by omega⟩⟩
    · refine WP_n 1 rfl ?_
      refine WP2_callS 1 ok_M_G_isFloor rfl rfl rfl rfl rfl rfl rfl (Nat.le_of_ble_eq_true rfl) (Nat.le_of_ble_eq_true rfl) ?_
      refine sp_isFloor hf (fun hF => ?_) (fun hF hFb => ?_)
      · refine WP_ifne rfl rfl ⟨by decide, by decide⟩  (fun h9 => absurd h9 (by decide)) (fun h9 => ?_)
        refine WP_n 2 rfl ?_
        refine WP2_callV 1 ok_M_G_no rfl rfl rfl rfl rfl rfl (Nat.le_of_ble_eq_true rfl) (Nat.le_of_ble_eq_true rfl) rfl rfl ?_
        refine sp_no (k := 1) rfl (by omega) ?_
        exact WP_iret rfl rfl rfl ⟨_, rfl, r1 (by omega)⟩
      · refine WP_ifne rfl rfl ⟨by decide, by decide⟩  (fun h9 => ?_) (fun h9 => absurd (by decide) h9)
        obtain ⟨T, rfl⟩ : ∃ T : Nat, t = (T : Int) := ⟨t.toNat, by omega⟩
        have hq := hI.2.2.2.2.1 T (by omega)
        unfold mTm at hq
        refine WP_n 1 rfl ?_
        refine WP2_getf rfl rfl rfl rfl rfl ?_
        refine WP_n 1 rfl ?_
        refine WP2_zald (j := T) rfl rfl rfl (by omega) (by omega) ?_
        refine WP_ifeq rfl rfl ⟨by omega, by omega⟩ (fun h18 => ?_) (fun h18 => ?_)
        · refine WP_n 1 rfl ?_
          refine WP2_getf rfl rfl rfl rfl rfl ?_
          refine WP_n 1 rfl ?_
          refine WP2_iald (j := T) rfl rfl (ia_lit (n := 16) rfl rfl (by omega)) (by omega) (by omega) (by omega) ?_
          refine WP_n 2 rfl ?_
          refine WP2_getf rfl rfl rfl rfl rfl ?_
          refine WP_n 2 rfl ?_
          refine WP2_iast (j := T) rfl rfl (ia_lit (n := 16) rfl rfl (by omega)) (by omega) (by omega) (by omega) ?_
          refine WP_n 1 rfl ?_
          exact WP_iret rfl rfl rfl ⟨_, rfl, ok T (by omega)⟩
        · refine WP_n 2 rfl ?_
          refine WP2_callV 1 ok_M_G_no rfl rfl rfl rfl rfl rfl (Nat.le_of_ble_eq_true rfl) (Nat.le_of_ble_eq_true rfl) rfl rfl ?_
          refine sp_no (k := 3) rfl (by omega) ?_
          exact WP_iret rfl rfl rfl ⟨_, rfl, r3 ⟨T, by omega⟩⟩
theorem pr_sit {P : PP} {n : Nat} {FI A L : Nat → Nat → Int} {X : SX} (h : INV P n FI A X) (hn : n < 512) {t f : Int} (ht : inR t) (hf : inR f) : PAIR P n (FI, A, L, X) M_F_sit [some (vr 5), some (vi t), some (vi f)] M_G_sit [some (vr 165), some (vi t), some (vi f), none] := by
  intro d
  have hm := h.mI
  have hn5 := h.1
  have hcI := h.2.1
  have g1 := h.2.2.1.1
  have gf : ∀ T, T < 16 → A 178 T = A (20 + T) 5 := fun T hT => (h.2.2.1.2.2.2.1 T hT).2.2.2
  obtain ⟨lt, ut⟩ := id ht
  obtain ⟨lf, uf⟩ := id hf
  have hk1 := hcI.1
  refine sp_F_sit ht hf hcI hn5 (fun c1 => ?_) (fun c1 => ?_) (fun T c1 => ?_)
  · refine ⟨_, rfl, ?_⟩
    refine sp_G_sit ht hf (hm.up (by omega)) (fun c2 => ?_) (fun c2 => ?_) (fun T' c2 => ?_)
    · exact ⟨rfl, INV_ref h hn (by omega)⟩
    · obtain ⟨T, c2⟩ := c2
      exfalso; omega
    · exfalso; omega
  · obtain ⟨T, c1⟩ := c1
    refine ⟨_, rfl, ?_⟩
    have e := gf T (by omega)
    refine sp_G_sit ht hf (hm.up (by omega)) (fun c2 => ?_) (fun c2 => ?_) (fun T' c2 => ?_)
    · exfalso; omega
    · exact ⟨rfl, INV_ref h hn (by omega)⟩
    · obtain rfl : T = T' := by omega
      simp (disch := omega) only [up2_ne] at c2
      exfalso; omega
  · have e := gf T (by omega)
    refine ⟨_, rfl, ?_⟩
    refine sp_G_sit ht hf (hm.up (by omega)) (fun c2 => ?_) (fun c2 => ?_) (fun T' c2 => ?_)
    · exfalso; omega
    · obtain ⟨T', c2⟩ := c2
      obtain rfl : T = T' := by omega
      simp (disch := omega) only [up2_ne] at c2
      exfalso; omega
    · obtain rfl : T = T' := by omega
      refine ⟨?_, INV_sit h hn (by omega) (by omega) (by omega)⟩
      simp (disch := omega) only [up2_ne]
      rw [(((h.2.2.1.2.2.2.1 T (by omega)).1 (by omega)).2.2.2.2.1)]
theorem sp_F_target {P : PP} {d n : Nat} {FI A L : Nat → Nat → Int} {X : SX} {Q : Option AV → S2 → Prop} {t f : Int} (ht : inR t) (hf : inR f) (hI : cI n FI A) (hn5 : n ≤ 512) (r1 : ((t < 0 ∨ FI 6 8 ≤ t) ∨ (f ≠ -9 ∧ (f < 0 ∨ 11 ≤ f))) → Q (some (vi (-1))) (FI, rfC A 1, L, X)) (ok : ∀ T : Nat, (t = (T : Int) ∧ (T : Int) < FI 6 8 ∧ (f = -9 ∨ (0 ≤ f ∧ f < 11))) → Q (some (vi (A (20 + T) 6))) (FI, up2 A (20 + T) 6 f, L, X)) : WP2 P M_F_target (d + 2) 0 [some (vr 5), some (vi t), some (vi f)] [] (FI, A, L, X) Q := by
  obtain ⟨lt, ut⟩ := id ht
  obtain ⟨lf, uf⟩ := id hf
  have hcc := hI.1
  refine WP_n 2 rfl ?_
  refine WP2_callV 1 ok_M_F_noTeam rfl rfl rfl rfl rfl rfl (Nat.le_of_ble_eq_true rfl) (Nat.le_of_ble_eq_true rfl) rfl rfl ?_
  refine sp_noTeam ht ⟨by omega, by omega⟩ (fun hTt => ?_) (fun hTt hTtb => ?_)
  · refine WP_ifne rfl rfl ⟨by decide, by decide⟩  (fun h3 => ?_) (fun h3 => absurd (by decide) h3)
    refine WP_n 2 rfl ?_
    refine WP2_callV 1 ok_M_F_refuse rfl rfl rfl rfl rfl rfl (Nat.le_of_ble_eq_true rfl) (Nat.le_of_ble_eq_true rfl) rfl rfl ?_
    refine sp_refuse (k := 1) rfl (by omega) ?_
    exact WP_iret rfl rfl rfl ⟨_, rfl, r1 (by omega)⟩
  · refine WP_ifne rfl rfl ⟨by decide, by decide⟩  (fun h3 => absurd h3 (by decide)) (fun h3 => ?_)
    refine WP_n 2 rfl ?_
    refine WP_icmpeq rfl rfl ⟨by omega, by omega⟩ ⟨by omega, by omega⟩ (fun h6 => ?_) (fun h6 => ?_)
    · obtain ⟨T, rfl⟩ : ∃ T : Nat, t = (T : Int) := ⟨t.toNat, by omega⟩
      refine WP_n 1 rfl ?_
      refine WP2_getf rfl rfl rfl rfl rfl ?_
      refine WP2_getf rfl rfl rfl rfl rfl ?_
      refine WP_n 1 rfl ?_
      refine WP2_aald (b := 20) (j := T) (n := 16) rfl rfl rfl rfl rfl (by omega) (by omega) ?_
      refine WP_n 2 rfl ?_
      refine WP2_callS 3 ok_M_F_exchange rfl rfl rfl rfl rfl rfl rfl (Nat.le_of_ble_eq_true rfl) (Nat.le_of_ble_eq_true rfl) ?_
      refine sp_exchange (j := 6) (ia_tm (by omega)) (by omega) rfl (by omega) (by omega) ?_
      exact WP_iret rfl rfl rfl ⟨_, rfl, ok T (by omega)⟩
    · refine WP_n 1 rfl ?_
      refine WP2_callS 1 ok_M_F_noFloor rfl rfl rfl rfl rfl rfl rfl (Nat.le_of_ble_eq_true rfl) (Nat.le_of_ble_eq_true rfl) ?_
      refine sp_noFloor hf (fun hF => ?_) (fun hF hFb => ?_)
      · refine WP_ifeq rfl rfl ⟨by decide, by decide⟩  (fun h9 => absurd h9 (by decide)) (fun h9 => ?_)
        refine WP_n 2 rfl ?_
        refine WP2_callV 1 ok_M_F_refuse rfl rfl rfl rfl rfl rfl (Nat.le_of_ble_eq_true rfl) (Nat.le_of_ble_eq_true rfl) rfl rfl ?_
        refine sp_refuse (k := 1) rfl (by omega) ?_
        exact WP_iret rfl rfl rfl ⟨_, rfl, r1 (by omega)⟩
      · refine WP_ifeq rfl rfl ⟨by decide, by decide⟩  (fun h9 => ?_) (fun h9 => absurd (by decide) h9)
        obtain ⟨T, rfl⟩ : ∃ T : Nat, t = (T : Int) := ⟨t.toNat, by omega⟩
        refine WP_n 1 rfl ?_
        refine WP2_getf rfl rfl rfl rfl rfl ?_
        refine WP2_getf rfl rfl rfl rfl rfl ?_
        refine WP_n 1 rfl ?_
        refine WP2_aald (b := 20) (j := T) (n := 16) rfl rfl rfl rfl rfl (by omega) (by omega) ?_
        refine WP_n 2 rfl ?_
        refine WP2_callS 3 ok_M_F_exchange rfl rfl rfl rfl rfl rfl rfl (Nat.le_of_ble_eq_true rfl) (Nat.le_of_ble_eq_true rfl) ?_
        refine sp_exchange (j := 6) (ia_tm (by omega)) (by omega) rfl (by omega) (by omega) ?_
        exact WP_iret rfl rfl rfl ⟨_, rfl, ok T (by omega)⟩
theorem sp_G_target {P : PP} {d n : Nat} {FI A L : Nat → Nat → Int} {X : SX} {Q : Option AV → S2 → Prop} {t f : Int} (ht : inR t) (hf : inR f) (hI : mI n FI A) (r1 : ((t < 0 ∨ FI 165 0 ≤ t) ∨ (f ≠ -9 ∧ (f < 0 ∨ 11 ≤ f))) → Q (some (vi (-1))) (FI, rfG A 1, L, X)) (ok : ∀ T : Nat, (t = (T : Int) ∧ (T : Int) < FI 165 0 ∧ (f = -9 ∨ (0 ≤ f ∧ f < 11))) → Q (some (vi (A 175 T))) (FI, up2 A 175 T f, L, X)) : WP2 P M_G_target (d + 2) 0 [some (vr 165), some (vi t), some (vi f), none] [] (FI, A, L, X) Q := by
  obtain ⟨lt, ut⟩ := id ht
  obtain ⟨lf, uf⟩ := id hf
  have hcc := hI.2.1
  refine WP_n 2 rfl ?_
  refine WP2_callV 1 ok_M_G_isTeam rfl rfl rfl rfl rfl rfl (Nat.le_of_ble_eq_true rfl) (Nat.le_of_ble_eq_true rfl) rfl rfl ?_
  refine sp_isTeam ht ⟨by omega, by omega⟩ (fun hTt => ?_) (fun hTt hTtb => ?_)
  · refine WP_ifeq rfl rfl ⟨by decide, by decide⟩  (fun h3 => ?_) (fun h3 => absurd (by decide) h3)
    refine WP_n 2 rfl ?_
    refine WP2_callV 1 ok_M_G_no rfl rfl rfl rfl rfl rfl (Nat.le_of_ble_eq_true rfl) (Nat.le_of_ble_eq_true rfl) rfl rfl ?_
    refine sp_no (k := 1) rfl (by omega) ?_
    exact WP_iret rfl rfl rfl ⟨_, rfl, r1 (by omega)⟩
  · refine WP_ifeq rfl rfl ⟨by decide, by decide⟩  (fun h3 => absurd h3 (by decide)) (fun h3 => ?_)
    refine WP_n 2 rfl ?_
    refine WP_icmpeq rfl rfl ⟨by omega, by omega⟩ ⟨by omega, by omega⟩ (fun h6 => ?_) (fun h6 => ?_)
    · obtain ⟨T, rfl⟩ : ∃ T : Nat, t = (T : Int) := ⟨t.toNat, by omega⟩
      refine WP_n 1 rfl ?_
      refine WP2_getf rfl rfl rfl rfl rfl ?_
      refine WP_n 1 rfl ?_
      refine WP2_iald (j := T) rfl rfl (ia_lit (n := 16) rfl rfl (by omega)) (by omega) (by omega) (by omega) ?_
      refine WP_n 2 rfl ?_
      refine WP2_getf rfl rfl rfl rfl rfl ?_
      refine WP_n 2 rfl ?_
      refine WP2_iast (j := T) rfl rfl (ia_lit (n := 16) rfl rfl (by omega)) (by omega) (by omega) (by omega) ?_
      refine WP_n 1 rfl ?_
      exact WP_iret rfl rfl rfl ⟨_, rfl, ok T (by omega)⟩
    · refine WP_n 1 rfl ?_
      refine WP2_callS 1 ok_M_G_isFloor rfl rfl rfl rfl rfl rfl rfl (Nat.le_of_ble_eq_true rfl) (Nat.le_of_ble_eq_true rfl) ?_
      refine sp_isFloor hf (fun hF => ?_) (fun hF hFb => ?_)
      · refine WP_ifne rfl rfl ⟨by decide, by decide⟩  (fun h9 => absurd h9 (by decide)) (fun h9 => ?_)
        refine WP_n 2 rfl ?_
        refine WP2_callV 1 ok_M_G_no rfl rfl rfl rfl rfl rfl (Nat.le_of_ble_eq_true rfl) (Nat.le_of_ble_eq_true rfl) rfl rfl ?_
        refine sp_no (k := 1) rfl (by omega) ?_
        exact WP_iret rfl rfl rfl ⟨_, rfl, r1 (by omega)⟩
      · refine WP_ifne rfl rfl ⟨by decide, by decide⟩  (fun h9 => ?_) (fun h9 => absurd (by decide) h9)
        obtain ⟨T, rfl⟩ : ∃ T : Nat, t = (T : Int) := ⟨t.toNat, by omega⟩
        refine WP_n 1 rfl ?_
        refine WP2_getf rfl rfl rfl rfl rfl ?_
        refine WP_n 1 rfl ?_
        refine WP2_iald (j := T) rfl rfl (ia_lit (n := 16) rfl rfl (by omega)) (by omega) (by omega) (by omega) ?_
        refine WP_n 2 rfl ?_
        refine WP2_getf rfl rfl rfl rfl rfl ?_
        refine WP_n 2 rfl ?_
        refine WP2_iast (j := T) rfl rfl (ia_lit (n := 16) rfl rfl (by omega)) (by omega) (by omega) (by omega) ?_
        refine WP_n 1 rfl ?_
        exact WP_iret rfl rfl rfl ⟨_, rfl, ok T (by omega)⟩
theorem pr_target {P : PP} {n : Nat} {FI A L : Nat → Nat → Int} {X : SX} (h : INV P n FI A X) (hn : n < 512) {t f : Int} (ht : inR t) (hf : inR f) : PAIR P n (FI, A, L, X) M_F_target [some (vr 5), some (vi t), some (vi f)] M_G_target [some (vr 165), some (vi t), some (vi f), none] := by
  intro d
  have hm := h.mI
  have hn5 := h.1
  have hcI := h.2.1
  have hk1 := hcI.1
  have g1 := h.2.2.1.1
  obtain ⟨lt, ut⟩ := id ht
  obtain ⟨lf, uf⟩ := id hf
  refine sp_F_target ht hf hcI hn5 (fun c1 => ?_) (fun T c1 => ?_)
  · refine ⟨_, rfl, ?_⟩
    refine sp_G_target ht hf (hm.up (by omega)) (fun c2 => ?_) (fun T' c2 => ?_)
    · exact ⟨rfl, INV_ref h hn (by omega)⟩
    · exfalso; omega
  · refine ⟨_, rfl, ?_⟩
    refine sp_G_target ht hf (hm.up (by omega)) (fun c2 => ?_) (fun T' c2 => ?_)
    · exfalso; omega
    · obtain rfl : T = T' := by omega
      refine ⟨?_, INV_target h hn (by omega) (by omega) (by omega)⟩
      simp (disch := omega) only [up2_ne]
      rw [(((h.2.2.1.2.2.2.1 T (by omega)).1 (by omega)).2.2.2.2.2)]
theorem sp_F_lift {P : PP} {d n : Nat} {FI A L : Nat → Nat → Int} {X : SX} {Q : Option AV → S2 → Prop} {v : Int} (hv : inR v) (hI : cI n FI A) (hn5 : n ≤ 512) (r4 : (v < 1) → Q (some (vi (-4))) (FI, rfC A 4, L, X)) (r6 : (9 < v) → Q (some (vi (-6))) (FI, rfC A 6, L, X)) (ok : (1 ≤ v ∧ v ≤ 9) → Q (some (vi (FI 6 9))) (up2 FI 6 9 v, A, L, X)) : WP2 P M_F_lift (d + 2) 0 [some (vr 5), some (vi v), none] [] (FI, A, L, X) Q := by
  obtain ⟨lv, uv⟩ := id hv
  have hcc := hI.1
  refine WP_n 2 rfl ?_
  refine WP_icmpge rfl rfl ⟨by omega, by omega⟩ ⟨by omega, by omega⟩ (fun h2 => ?_) (fun h2 => ?_)
  · refine WP_n 2 rfl ?_
    refine WP_icmple rfl rfl ⟨by omega, by omega⟩ ⟨by omega, by omega⟩ (fun h9 => ?_) (fun h9 => ?_)
    · refine WP_n 1 rfl ?_
      refine WP2_getf rfl rfl rfl rfl rfl ?_
      refine WP2_getf rfl rfl rfl rfl rfl ?_
      refine WP_n 2 rfl ?_
      refine WP2_getf rfl rfl rfl rfl rfl ?_
      refine WP_n 1 rfl ?_
      refine WP2_putk (k := 9) rfl rfl rfl rfl rfl rfl (by exact trivial) ?_
      refine WP_n 1 rfl ?_
      exact WP_iret rfl rfl rfl ⟨_, rfl, ok (by omega)⟩
    · refine WP_n 2 rfl ?_
      refine WP2_callV 1 ok_M_F_refuse rfl rfl rfl rfl rfl rfl (Nat.le_of_ble_eq_true rfl) (Nat.le_of_ble_eq_true rfl) rfl rfl ?_
      refine sp_refuse (k := 6) rfl (by omega) ?_
      exact WP_iret rfl rfl rfl ⟨_, rfl, r6 (by omega)⟩
  · refine WP_n 2 rfl ?_
    refine WP2_callV 1 ok_M_F_refuse rfl rfl rfl rfl rfl rfl (Nat.le_of_ble_eq_true rfl) (Nat.le_of_ble_eq_true rfl) rfl rfl ?_
    refine sp_refuse (k := 4) rfl (by omega) ?_
    exact WP_iret rfl rfl rfl ⟨_, rfl, r4 (by omega)⟩
theorem sp_G_lift {P : PP} {d n : Nat} {FI A L : Nat → Nat → Int} {X : SX} {Q : Option AV → S2 → Prop} {v : Int} (hv : inR v) (hI : mI n FI A) (r4 : (v < 1) → Q (some (vi (-4))) (FI, rfG A 4, L, X)) (r6 : (9 < v) → Q (some (vi (-6))) (FI, rfG A 6, L, X)) (ok : (1 ≤ v ∧ v ≤ 9) → Q (some (vi (FI 165 1))) (up2 FI 165 1 v, A, L, X)) : WP2 P M_G_lift (d + 2) 0 [some (vr 165), some (vi v), none] [] (FI, A, L, X) Q := by
  obtain ⟨lv, uv⟩ := id hv
  have hcc := hI.2.1
  refine WP_n 2 rfl ?_
  refine WP_icmpge rfl rfl ⟨by omega, by omega⟩ ⟨by omega, by omega⟩ (fun h2 => ?_) (fun h2 => ?_)
  · refine WP_n 2 rfl ?_
    refine WP_icmple rfl rfl ⟨by omega, by omega⟩ ⟨by omega, by omega⟩ (fun h9 => ?_) (fun h9 => ?_)
    · refine WP_n 1 rfl ?_
      refine WP2_getf rfl rfl rfl rfl rfl ?_
      refine WP_n 3 rfl ?_
      refine WP2_putk (k := 1) rfl rfl rfl rfl rfl rfl (by exact trivial) ?_
      refine WP_n 1 rfl ?_
      exact WP_iret rfl rfl rfl ⟨_, rfl, ok (by omega)⟩
    · refine WP_n 2 rfl ?_
      refine WP2_callV 1 ok_M_G_no rfl rfl rfl rfl rfl rfl (Nat.le_of_ble_eq_true rfl) (Nat.le_of_ble_eq_true rfl) rfl rfl ?_
      refine sp_no (k := 6) rfl (by omega) ?_
      exact WP_iret rfl rfl rfl ⟨_, rfl, r6 (by omega)⟩
  · refine WP_n 2 rfl ?_
    refine WP2_callV 1 ok_M_G_no rfl rfl rfl rfl rfl rfl (Nat.le_of_ble_eq_true rfl) (Nat.le_of_ble_eq_true rfl) rfl rfl ?_
    refine sp_no (k := 4) rfl (by omega) ?_
    exact WP_iret rfl rfl rfl ⟨_, rfl, r4 (by omega)⟩
theorem pr_lift {P : PP} {n : Nat} {FI A L : Nat → Nat → Int} {X : SX} (h : INV P n FI A X) (hn : n < 512) {v : Int} (hv : inR v) : PAIR P n (FI, A, L, X) M_F_lift [some (vr 5), some (vi v), none] M_G_lift [some (vr 165), some (vi v), none] := by
  intro d
  have hm := h.mI
  have hn5 := h.1
  have hcI := h.2.1
  have hk1 := hcI.1
  have g1 := h.2.2.1.1
  obtain ⟨lv, uv⟩ := id hv
  refine sp_F_lift hv hcI hn5 (fun c1 => ?_) (fun c1 => ?_) (fun c1 => ?_)
  · refine ⟨_, rfl, ?_⟩
    refine sp_G_lift hv (hm.up (by omega)) (fun c2 => ?_) (fun c2 => ?_) (fun c2 => ?_)
    · exact ⟨rfl, INV_ref h hn (by omega)⟩
    · exfalso; omega
    · exfalso; omega
  · refine ⟨_, rfl, ?_⟩
    refine sp_G_lift hv (hm.up (by omega)) (fun c2 => ?_) (fun c2 => ?_) (fun c2 => ?_)
    · exfalso; omega
    · exact ⟨rfl, INV_ref h hn (by omega)⟩
    · exfalso; omega
  · refine ⟨_, rfl, ?_⟩
    refine sp_G_lift hv (hm.upF (by omega)) (fun c2 => ?_) (fun c2 => ?_) (fun c2 => ?_)
    · exfalso; omega
    · exfalso; omega
    · refine ⟨?_, INV_lift h hn c1⟩
      simp (disch := omega) only [up2_ne]
      rw [h.2.2.1.2.1]
theorem sp_F_grow {P : PP} {d n : Nat} {FI A L : Nat → Nat → Int} {X : SX} {Q : Option AV → S2 → Prop} {t q v : Int} (ht : inR t) (hq : inR q) (hv : inR v) (hI : cI n FI A) (hn5 : n ≤ 512) (r1 : ((t < 0 ∨ FI 6 8 ≤ t) ∨ (q < 0 ∨ 20 ≤ q)) → Q (some (vi (-1))) (FI, rfC A 1, L, X)) (r4 : (0 ≤ t ∧ t < FI 6 8 ∧ 0 ≤ q ∧ q < 20 ∧ v < -1) → Q (some (vi (-4))) (FI, rfC A 4, L, X)) (r6 : (0 ≤ t ∧ t < FI 6 8 ∧ 0 ≤ q ∧ q < 20 ∧ 200 < v) → Q (some (vi (-6))) (FI, rfC A 6, L, X)) (ok : ∀ T q9 : Nat, (t = (T : Int) ∧ (T : Int) < FI 6 8 ∧ q = (q9 : Int) ∧ q9 < 20 ∧ -1 ≤ v ∧ v ≤ 200) → Q (some (vi (1))) (FI, up2 A (122 + T) q9 v, L, X)) : WP2 P M_F_grow (d + 2) 0 [some (vr 5), some (vi t), some (vi q), some (vi v)] [] (FI, A, L, X) Q := by
  obtain ⟨lt, ut⟩ := id ht
  obtain ⟨lq, uq⟩ := id hq
  obtain ⟨lv, uv⟩ := id hv
  have hcc := hI.1
  refine WP_n 2 rfl ?_
  refine WP2_callV 1 ok_M_F_noTeam rfl rfl rfl rfl rfl rfl (Nat.le_of_ble_eq_true rfl) (Nat.le_of_ble_eq_true rfl) rfl rfl ?_
  refine sp_noTeam ht ⟨by omega, by omega⟩ (fun hTt => ?_) (fun hTt hTtb => ?_)
  · refine WP_ifne rfl rfl ⟨by decide, by decide⟩  (fun h3 => ?_) (fun h3 => absurd (by decide) h3)
    refine WP_n 2 rfl ?_
    refine WP2_callV 1 ok_M_F_refuse rfl rfl rfl rfl rfl rfl (Nat.le_of_ble_eq_true rfl) (Nat.le_of_ble_eq_true rfl) rfl rfl ?_
    refine sp_refuse (k := 1) rfl (by omega) ?_
    exact WP_iret rfl rfl rfl ⟨_, rfl, r1 (by omega)⟩
  · refine WP_ifne rfl rfl ⟨by decide, by decide⟩  (fun h3 => absurd h3 (by decide)) (fun h3 => ?_)
    refine WP_n 1 rfl ?_
    refine WP2_callS 1 ok_M_F_noQuarter rfl rfl rfl rfl rfl rfl rfl (Nat.le_of_ble_eq_true rfl) (Nat.le_of_ble_eq_true rfl) ?_
    refine sp_noQuarter hq (fun hQ => ?_) (fun hQ hQb => ?_)
    · refine WP_ifeq rfl rfl ⟨by decide, by decide⟩  (fun h6 => absurd h6 (by decide)) (fun h6 => ?_)
      refine WP_n 2 rfl ?_
      refine WP2_callV 1 ok_M_F_refuse rfl rfl rfl rfl rfl rfl (Nat.le_of_ble_eq_true rfl) (Nat.le_of_ble_eq_true rfl) rfl rfl ?_
      refine sp_refuse (k := 1) rfl (by omega) ?_
      exact WP_iret rfl rfl rfl ⟨_, rfl, r1 (by omega)⟩
    · refine WP_ifeq rfl rfl ⟨by decide, by decide⟩  (fun h6 => ?_) (fun h6 => absurd (by decide) h6)
      refine WP_n 2 rfl ?_
      refine WP_icmpge rfl rfl ⟨by omega, by omega⟩ ⟨by omega, by omega⟩ (fun h13 => ?_) (fun h13 => ?_)
      · refine WP_n 2 rfl ?_
        refine WP_icmple rfl rfl ⟨by omega, by omega⟩ ⟨by omega, by omega⟩ (fun h20 => ?_) (fun h20 => ?_)
        · obtain ⟨T, rfl⟩ : ∃ T : Nat, t = (T : Int) := ⟨t.toNat, by omega⟩
          obtain ⟨q9, rfl⟩ : ∃ q9 : Nat, q = (q9 : Int) := ⟨q.toNat, by omega⟩
          refine WP_n 1 rfl ?_
          refine WP2_getf rfl rfl rfl rfl rfl ?_
          refine WP2_getf rfl rfl rfl rfl rfl ?_
          refine WP_n 1 rfl ?_
          refine WP2_aald (b := 122) (j := T) (n := 16) rfl rfl rfl rfl rfl (by omega) (by omega) ?_
          refine WP_n 2 rfl ?_
          refine WP2_iast (j := q9) rfl rfl (ia_gw (by omega)) (by omega) (by omega) (by omega) ?_
          refine WP_n 1 rfl ?_
          exact WP_iret rfl rfl rfl ⟨_, rfl, ok T q9 (by omega)⟩
        · refine WP_n 2 rfl ?_
          refine WP2_callV 1 ok_M_F_refuse rfl rfl rfl rfl rfl rfl (Nat.le_of_ble_eq_true rfl) (Nat.le_of_ble_eq_true rfl) rfl rfl ?_
          refine sp_refuse (k := 6) rfl (by omega) ?_
          exact WP_iret rfl rfl rfl ⟨_, rfl, r6 (by omega)⟩
      · refine WP_n 2 rfl ?_
        refine WP2_callV 1 ok_M_F_refuse rfl rfl rfl rfl rfl rfl (Nat.le_of_ble_eq_true rfl) (Nat.le_of_ble_eq_true rfl) rfl rfl ?_
        refine sp_refuse (k := 4) rfl (by omega) ?_
        exact WP_iret rfl rfl rfl ⟨_, rfl, r4 (by omega)⟩
theorem sp_G_grow {P : PP} {d n : Nat} {FI A L : Nat → Nat → Int} {X : SX} {Q : Option AV → S2 → Prop} {t q v : Int} (ht : inR t) (hq : inR q) (hv : inR v) (hI : mI n FI A) (r1 : ((t < 0 ∨ FI 165 0 ≤ t) ∨ (q < 0 ∨ 20 ≤ q)) → Q (some (vi (-1))) (FI, rfG A 1, L, X)) (r4 : (0 ≤ t ∧ t < FI 165 0 ∧ 0 ≤ q ∧ q < 20 ∧ v < -1) → Q (some (vi (-4))) (FI, rfG A 4, L, X)) (r6 : (0 ≤ t ∧ t < FI 165 0 ∧ 0 ≤ q ∧ q < 20 ∧ 200 < v) → Q (some (vi (-6))) (FI, rfG A 6, L, X)) (ok : ∀ T q9 : Nat, (t = (T : Int) ∧ (T : Int) < FI 165 0 ∧ q = (q9 : Int) ∧ q9 < 20 ∧ -1 ≤ v ∧ v ≤ 200) → Q (some (vi (1))) (FI, up2 A 184 (20 * T + q9) v, L, X)) : WP2 P M_G_grow (d + 2) 0 [some (vr 165), some (vi t), some (vi q), some (vi v)] [] (FI, A, L, X) Q := by
  obtain ⟨lt, ut⟩ := id ht
  obtain ⟨lq, uq⟩ := id hq
  obtain ⟨lv, uv⟩ := id hv
  have hcc := hI.2.1
  refine WP_n 2 rfl ?_
  refine WP2_callV 1 ok_M_G_isTeam rfl rfl rfl rfl rfl rfl (Nat.le_of_ble_eq_true rfl) (Nat.le_of_ble_eq_true rfl) rfl rfl ?_
  refine sp_isTeam ht ⟨by omega, by omega⟩ (fun hTt => ?_) (fun hTt hTtb => ?_)
  · refine WP_ifeq rfl rfl ⟨by decide, by decide⟩  (fun h3 => ?_) (fun h3 => absurd (by decide) h3)
    refine WP_n 2 rfl ?_
    refine WP2_callV 1 ok_M_G_no rfl rfl rfl rfl rfl rfl (Nat.le_of_ble_eq_true rfl) (Nat.le_of_ble_eq_true rfl) rfl rfl ?_
    refine sp_no (k := 1) rfl (by omega) ?_
    exact WP_iret rfl rfl rfl ⟨_, rfl, r1 (by omega)⟩
  · refine WP_ifeq rfl rfl ⟨by decide, by decide⟩  (fun h3 => absurd h3 (by decide)) (fun h3 => ?_)
    refine WP_n 1 rfl ?_
    refine WP_iflt rfl rfl ⟨by omega, by omega⟩ (fun h5 => ?_) (fun h5 => ?_)
    · refine WP_n 2 rfl ?_
      refine WP2_callV 1 ok_M_G_no rfl rfl rfl rfl rfl rfl (Nat.le_of_ble_eq_true rfl) (Nat.le_of_ble_eq_true rfl) rfl rfl ?_
      refine sp_no (k := 1) rfl (by omega) ?_
      exact WP_iret rfl rfl rfl ⟨_, rfl, r1 (by omega)⟩
    · refine WP_n 2 rfl ?_
      refine WP_icmple rfl rfl ⟨by omega, by omega⟩ ⟨by omega, by omega⟩ (fun h8 => ?_) (fun h8 => ?_)
      · refine WP_n 2 rfl ?_
        refine WP_icmpge rfl rfl ⟨by omega, by omega⟩ ⟨by omega, by omega⟩ (fun h15 => ?_) (fun h15 => ?_)
        · refine WP_n 2 rfl ?_
          refine WP_icmple rfl rfl ⟨by omega, by omega⟩ ⟨by omega, by omega⟩ (fun h22 => ?_) (fun h22 => ?_)
          · obtain ⟨T, rfl⟩ : ∃ T : Nat, t = (T : Int) := ⟨t.toNat, by omega⟩
            obtain ⟨q9, rfl⟩ : ∃ q9 : Nat, q = (q9 : Int) := ⟨q.toNat, by omega⟩
            refine WP_n 1 rfl ?_
            refine WP2_getf rfl rfl rfl rfl rfl ?_
            refine WP_n 6 rfl ?_
            refine WP2_iast (j := ((20 * T) + q9)) rfl rfl (ia_lit (n := 320) rfl rfl (by omega)) (by omega) (by omega) (by omega) ?_
            refine WP_n 1 rfl ?_
            exact WP_iret rfl rfl rfl ⟨_, rfl, ok T q9 (by omega)⟩
          · refine WP_n 2 rfl ?_
            refine WP2_callV 1 ok_M_G_no rfl rfl rfl rfl rfl rfl (Nat.le_of_ble_eq_true rfl) (Nat.le_of_ble_eq_true rfl) rfl rfl ?_
            refine sp_no (k := 6) rfl (by omega) ?_
            exact WP_iret rfl rfl rfl ⟨_, rfl, r6 (by omega)⟩
        · refine WP_n 2 rfl ?_
          refine WP2_callV 1 ok_M_G_no rfl rfl rfl rfl rfl rfl (Nat.le_of_ble_eq_true rfl) (Nat.le_of_ble_eq_true rfl) rfl rfl ?_
          refine sp_no (k := 4) rfl (by omega) ?_
          exact WP_iret rfl rfl rfl ⟨_, rfl, r4 (by omega)⟩
      · refine WP_n 2 rfl ?_
        refine WP2_callV 1 ok_M_G_no rfl rfl rfl rfl rfl rfl (Nat.le_of_ble_eq_true rfl) (Nat.le_of_ble_eq_true rfl) rfl rfl ?_
        refine sp_no (k := 1) rfl (by omega) ?_
        exact WP_iret rfl rfl rfl ⟨_, rfl, r1 (by omega)⟩
theorem pr_grow {P : PP} {n : Nat} {FI A L : Nat → Nat → Int} {X : SX} (h : INV P n FI A X) (hn : n < 512) {t q v : Int} (ht : inR t) (hq : inR q) (hv : inR v) : PAIR P n (FI, A, L, X) M_F_grow [some (vr 5), some (vi t), some (vi q), some (vi v)] M_G_grow [some (vr 165), some (vi t), some (vi q), some (vi v)] := by
  intro d
  have hm := h.mI
  have hn5 := h.1
  have hcI := h.2.1
  have hk1 := hcI.1
  have g1 := h.2.2.1.1
  obtain ⟨lt, ut⟩ := id ht
  obtain ⟨lq, uq⟩ := id hq
  obtain ⟨lv, uv⟩ := id hv
  refine sp_F_grow ht hq hv hcI hn5 (fun c1 => ?_) (fun c1 => ?_) (fun c1 => ?_) (fun T q9 c1 => ?_)
  · refine ⟨_, rfl, ?_⟩
    refine sp_G_grow ht hq hv (hm.up (by omega)) (fun c2 => ?_) (fun c2 => ?_) (fun c2 => ?_) (fun T' q9' c2 => ?_)
    · exact ⟨rfl, INV_ref h hn (by omega)⟩
    · exfalso; omega
    · exfalso; omega
    · exfalso; omega
  · refine ⟨_, rfl, ?_⟩
    refine sp_G_grow ht hq hv (hm.up (by omega)) (fun c2 => ?_) (fun c2 => ?_) (fun c2 => ?_) (fun T' q9' c2 => ?_)
    · exfalso; omega
    · exact ⟨rfl, INV_ref h hn (by omega)⟩
    · exfalso; omega
    · exfalso; omega
  · refine ⟨_, rfl, ?_⟩
    refine sp_G_grow ht hq hv (hm.up (by omega)) (fun c2 => ?_) (fun c2 => ?_) (fun c2 => ?_) (fun T' q9' c2 => ?_)
    · exfalso; omega
    · exfalso; omega
    · exact ⟨rfl, INV_ref h hn (by omega)⟩
    · exfalso; omega
  · refine ⟨_, rfl, ?_⟩
    refine sp_G_grow ht hq hv (hm.up (by omega)) (fun c2 => ?_) (fun c2 => ?_) (fun c2 => ?_) (fun T' q9' c2 => ?_)
    · exfalso; omega
    · exfalso; omega
    · exfalso; omega
    · obtain rfl : T = T' := by omega
      obtain rfl : q9 = q9' := by omega
      exact ⟨rfl, INV_grow h hn (by omega) (by omega) (by omega)⟩
end
section
/-! floor, team, fix, two, person, teamOf -/
theorem sp_F_floor {P : PP} {d n : Nat} {FI A L : Nat → Nat → Int} {X : SX} {Q : Option AV → S2 → Prop} {f w v : Int} (hf : inR f) (hw : inR w) (hv : inR v) (hI : cI n FI A) (hn5 : n ≤ 512) (r1 : (f < 0 ∨ 11 ≤ f) → Q (some (vi (-1))) (FI, rfC A 1, L, X)) (r2 : (0 ≤ f ∧ f < 11 ∧ (w < 0 ∨ 4 ≤ w)) → Q (some (vi (-2))) (FI, rfC A 2, L, X)) (r4 : (0 ≤ f ∧ f < 11 ∧ 0 ≤ w ∧ w < 4 ∧ v < 0) → Q (some (vi (-4))) (FI, rfC A 4, L, X)) (r6 : (0 ≤ f ∧ f < 11 ∧ ∃ W : Nat, w = (W : Int) ∧ W < 4 ∧ 0 ≤ v ∧ FMt W < v) → Q (some (vi (-6))) (FI, rfC A 6, L, X)) (ok : ∀ F W : Nat, (f = (F : Int) ∧ F < 11 ∧ w = (W : Int) ∧ W < 4 ∧ 0 ≤ v ∧ v ≤ FMt W) → Q (some (vi (A (8 + F) W))) (FI, up2 A (8 + F) W v, L, X)) : WP2 P M_F_floor (d + 2) 0 [some (vr 5), some (vi f), some (vi w), some (vi v)] [] (FI, A, L, X) Q := by
  obtain ⟨lf, uf⟩ := id hf
  obtain ⟨lw, uw⟩ := id hw
  obtain ⟨lv, uv⟩ := id hv
  have hcc := hI.1
  refine WP_n 1 rfl ?_
  refine WP2_callS 1 ok_M_F_noFloor rfl rfl rfl rfl rfl rfl rfl (Nat.le_of_ble_eq_true rfl) (Nat.le_of_ble_eq_true rfl) ?_
  refine sp_noFloor hf (fun hF => ?_) (fun hF hFb => ?_)
  · refine WP_ifeq rfl rfl ⟨by decide, by decide⟩  (fun h2 => absurd h2 (by decide)) (fun h2 => ?_)
    refine WP_n 2 rfl ?_
    refine WP2_callV 1 ok_M_F_refuse rfl rfl rfl rfl rfl rfl (Nat.le_of_ble_eq_true rfl) (Nat.le_of_ble_eq_true rfl) rfl rfl ?_
    refine sp_refuse (k := 1) rfl (by omega) ?_
    exact WP_iret rfl rfl rfl ⟨_, rfl, r1 (by omega)⟩
  · refine WP_ifeq rfl rfl ⟨by decide, by decide⟩  (fun h2 => ?_) (fun h2 => absurd (by decide) h2)
    refine WP_n 1 rfl ?_
    refine WP_iflt rfl rfl ⟨by omega, by omega⟩ (fun h8 => ?_) (fun h8 => ?_)
    · refine WP_n 2 rfl ?_
      refine WP2_callV 1 ok_M_F_refuse rfl rfl rfl rfl rfl rfl (Nat.le_of_ble_eq_true rfl) (Nat.le_of_ble_eq_true rfl) rfl rfl ?_
      refine sp_refuse (k := 2) rfl (by omega) ?_
      exact WP_iret rfl rfl rfl ⟨_, rfl, r2 (by omega)⟩
    · refine WP_n 1 rfl ?_
      refine WP2_gets (x := 2) rfl rfl rfl ?_
      refine WP2_alen rfl rfl (ia_lit (n := 4) rfl rfl (by omega)) ?_
      refine WP_icmplt rfl rfl ⟨by omega, by omega⟩ ⟨by omega, by omega⟩ (fun h12 => ?_) (fun h12 => ?_)
      · obtain ⟨W, rfl⟩ : ∃ W : Nat, w = (W : Int) := ⟨w.toNat, by omega⟩
        refine WP_n 1 rfl ?_
        refine WP_ifge rfl rfl ⟨by omega, by omega⟩ (fun h18 => ?_) (fun h18 => ?_)
        · refine WP_n 1 rfl ?_
          refine WP2_gets (x := 2) rfl rfl rfl ?_
          refine WP_n 1 rfl ?_
          refine WP2_ialds (j := W) rfl rfl (ia_lit (n := 4) rfl rfl (by omega)) (by omega) (by omega) (by omega) ?_
          refine WP_icmple rfl rfl ⟨by omega, by omega⟩ (FMt_R W (by omega)) (fun h27 => ?_) (fun h27 => ?_)
          · obtain ⟨F, rfl⟩ : ∃ F : Nat, f = (F : Int) := ⟨f.toNat, by omega⟩
            refine WP_n 1 rfl ?_
            refine WP2_getf rfl rfl rfl rfl rfl ?_
            refine WP2_getf rfl rfl rfl rfl rfl ?_
            refine WP_n 1 rfl ?_
            refine WP2_aald (b := 8) (j := F) (n := 11) rfl rfl rfl rfl rfl (by omega) (by omega) ?_
            refine WP_n 2 rfl ?_
            refine WP2_callS 3 ok_M_F_exchange rfl rfl rfl rfl rfl rfl rfl (Nat.le_of_ble_eq_true rfl) (Nat.le_of_ble_eq_true rfl) ?_
            refine sp_exchange (ia_fl (by omega)) (by omega) rfl (by omega) (by omega) ?_
            exact WP_iret rfl rfl rfl ⟨_, rfl, ok F W ⟨rfl, by omega, rfl, by omega, by omega, h27⟩⟩
          · refine WP_n 2 rfl ?_
            refine WP2_callV 1 ok_M_F_refuse rfl rfl rfl rfl rfl rfl (Nat.le_of_ble_eq_true rfl) (Nat.le_of_ble_eq_true rfl) rfl rfl ?_
            refine sp_refuse (k := 6) rfl (by omega) ?_
            exact WP_iret rfl rfl rfl ⟨_, rfl, r6 ⟨by omega, by omega, W, rfl, by omega, by omega, Int.not_le.mp h27⟩⟩
        · refine WP_n 2 rfl ?_
          refine WP2_callV 1 ok_M_F_refuse rfl rfl rfl rfl rfl rfl (Nat.le_of_ble_eq_true rfl) (Nat.le_of_ble_eq_true rfl) rfl rfl ?_
          refine sp_refuse (k := 4) rfl (by omega) ?_
          exact WP_iret rfl rfl rfl ⟨_, rfl, r4 (by omega)⟩
      · refine WP_n 2 rfl ?_
        refine WP2_callV 1 ok_M_F_refuse rfl rfl rfl rfl rfl rfl (Nat.le_of_ble_eq_true rfl) (Nat.le_of_ble_eq_true rfl) rfl rfl ?_
        refine sp_refuse (k := 2) rfl (by omega) ?_
        exact WP_iret rfl rfl rfl ⟨_, rfl, r2 (by omega)⟩
theorem sp_G_floor {P : PP} {d n : Nat} {FI A L : Nat → Nat → Int} {X : SX} {Q : Option AV → S2 → Prop} {f w v : Int} (hf : inR f) (hw : inR w) (hv : inR v) (hI : mI n FI A) (r1 : (f < 0 ∨ 11 ≤ f) → Q (some (vi (-1))) (FI, rfG A 1, L, X)) (r2 : (0 ≤ f ∧ f < 11 ∧ (w < 0 ∨ 4 ≤ w)) → Q (some (vi (-2))) (FI, rfG A 2, L, X)) (r4 : (0 ≤ f ∧ f < 11 ∧ 0 ≤ w ∧ w < 4 ∧ v < 0) → Q (some (vi (-4))) (FI, rfG A 4, L, X)) (r6 : (0 ≤ f ∧ f < 11 ∧ ∃ W : Nat, w = (W : Int) ∧ W < 4 ∧ 0 ≤ v ∧ FMt W < v) → Q (some (vi (-6))) (FI, rfG A 6, L, X)) (ok : ∀ F W : Nat, (f = (F : Int) ∧ F < 11 ∧ w = (W : Int) ∧ W < 4 ∧ 0 ≤ v ∧ v ≤ FMt W) → Q (some (vi (A (166 + W) F))) (FI, up2 A (166 + W) F v, L, X)) : WP2 P M_G_floor (d + 2) 0 [some (vr 165), some (vi f), some (vi w), some (vi v), none] [] (FI, A, L, X) Q := by
  obtain ⟨lf, uf⟩ := id hf
  obtain ⟨lw, uw⟩ := id hw
  obtain ⟨lv, uv⟩ := id hv
  have hcc := hI.2.1
  refine WP_n 1 rfl ?_
  refine WP2_callS 1 ok_M_G_isFloor rfl rfl rfl rfl rfl rfl rfl (Nat.le_of_ble_eq_true rfl) (Nat.le_of_ble_eq_true rfl) ?_
  refine sp_isFloor hf (fun hF => ?_) (fun hF hF2 => ?_)
  · refine WP_ifne rfl rfl ⟨by decide, by decide⟩  (fun h2 => absurd h2 (by decide)) (fun h2 => ?_)
    refine WP_n 2 rfl ?_
    refine WP2_callV 1 ok_M_G_no rfl rfl rfl rfl rfl rfl (Nat.le_of_ble_eq_true rfl) (Nat.le_of_ble_eq_true rfl) rfl rfl ?_
    refine sp_no (k := 1) rfl (by omega) ?_
    exact WP_iret rfl rfl rfl ⟨_, rfl, r1 (by omega)⟩
  · obtain ⟨F, rfl⟩ : ∃ F : Nat, f = (F : Int) := ⟨f.toNat, by omega⟩
    refine WP_ifne rfl rfl ⟨by decide, by decide⟩  (fun h2 => ?_) (fun h2 => absurd (by decide) h2)
    refine WP_n 1 rfl ?_
    refine WP_iflt rfl rfl ⟨by omega, by omega⟩ (fun h8 => ?_) (fun h8 => ?_)
    · refine WP_n 2 rfl ?_
      refine WP2_callV 1 ok_M_G_no rfl rfl rfl rfl rfl rfl (Nat.le_of_ble_eq_true rfl) (Nat.le_of_ble_eq_true rfl) rfl rfl ?_
      refine sp_no (k := 2) rfl (by omega) ?_
      exact WP_iret rfl rfl rfl ⟨_, rfl, r2 (by omega)⟩
    · refine WP_n 2 rfl ?_
      refine WP_icmple rfl rfl ⟨by omega, by omega⟩ ⟨by omega, by omega⟩ (fun h11 => ?_) (fun h11 => ?_)
      · refine WP_n 1 rfl ?_
        refine WP_ifge rfl rfl ⟨by omega, by omega⟩ (fun h17 => ?_) (fun h17 => ?_)
        · obtain ⟨W, rfl⟩ : ∃ W : Nat, w = (W : Int) := ⟨w.toNat, by omega⟩
          rcases (show W = 0 ∨ W = 1 ∨ W = 2 ∨ W = 3 by omega) with rfl | rfl | rfl | rfl
          · refine WP_n 2 rfl ?_
            refine WP_ifne rfl rfl ⟨by decide, by decide⟩  (fun h24 => absurd h24 (by decide)) (fun h24 => ?_)
            refine WP_n 2 rfl ?_
            refine WP_icmple rfl rfl ⟨by omega, by omega⟩ ⟨by omega, by omega⟩ (fun h38 => ?_) (fun h38 => ?_)
            · refine WP_n 1 rfl ?_
              refine WP_ifne rfl rfl ⟨by decide, by decide⟩  (fun h44 => absurd h44 (by decide)) (fun h44 => ?_)
              refine WP_n 1 rfl ?_
              refine WP2_getf rfl rfl rfl rfl rfl ?_
              refine WP_n 1 rfl ?_
              refine WP2_iald (j := F) rfl rfl (ia_lit (n := 11) rfl rfl (by omega)) (by omega) (by omega) (by omega) ?_
              refine WP_n 3 rfl ?_
              refine WP_ifne rfl rfl ⟨by decide, by decide⟩  (fun h72 => absurd h72 (by decide)) (fun h72 => ?_)
              refine WP_n 1 rfl ?_
              refine WP2_getf rfl rfl rfl rfl rfl ?_
              refine WP_n 2 rfl ?_
              refine WP2_iast (j := F) rfl rfl (ia_lit (n := 11) rfl rfl (by omega)) (by omega) (by omega) (by omega) ?_
              refine WP_n 2 rfl ?_
              exact WP_iret rfl rfl rfl ⟨_, rfl, ok F 0 ⟨rfl, by omega, rfl, by omega, by omega, by simp [FMt]; omega⟩⟩
            · refine WP_n 2 rfl ?_
              refine WP2_callV 1 ok_M_G_no rfl rfl rfl rfl rfl rfl (Nat.le_of_ble_eq_true rfl) (Nat.le_of_ble_eq_true rfl) rfl rfl ?_
              refine sp_no (k := 6) rfl (by omega) ?_
              exact WP_iret rfl rfl rfl ⟨_, rfl, r6 ⟨by omega, by omega, 0, rfl, by omega, by omega, by simp [FMt]; omega⟩⟩
          · refine WP_n 2 rfl ?_
            refine WP_ifne rfl rfl ⟨by decide, by decide⟩  (fun h24 => ?_) (fun h24 => absurd (by decide) h24)
            refine WP_n 2 rfl ?_
            refine WP_icmpne rfl rfl ⟨by decide, by decide⟩ ⟨by decide, by decide⟩  (fun h29 => absurd h29 (by decide)) (fun h29 => ?_)
            refine WP_n 2 rfl ?_
            refine WP_icmple rfl rfl ⟨by omega, by omega⟩ ⟨by omega, by omega⟩ (fun h38 => ?_) (fun h38 => ?_)
            · refine WP_n 1 rfl ?_
              refine WP_ifne rfl rfl ⟨by decide, by decide⟩  (fun h44 => ?_) (fun h44 => absurd (by decide) h44)
              refine WP_n 2 rfl ?_
              refine WP_icmpne rfl rfl ⟨by decide, by decide⟩ ⟨by decide, by decide⟩  (fun h52 => absurd h52 (by decide)) (fun h52 => ?_)
              refine WP_n 1 rfl ?_
              refine WP2_getf rfl rfl rfl rfl rfl ?_
              refine WP_n 1 rfl ?_
              refine WP2_iald (j := F) rfl rfl (ia_lit (n := 11) rfl rfl (by omega)) (by omega) (by omega) (by omega) ?_
              refine WP_n 3 rfl ?_
              refine WP_ifne rfl rfl ⟨by decide, by decide⟩  (fun h72 => ?_) (fun h72 => absurd (by decide) h72)
              refine WP_n 2 rfl ?_
              refine WP_icmpne rfl rfl ⟨by decide, by decide⟩ ⟨by decide, by decide⟩  (fun h81 => absurd h81 (by decide)) (fun h81 => ?_)
              refine WP_n 1 rfl ?_
              refine WP2_getf rfl rfl rfl rfl rfl ?_
              refine WP_n 2 rfl ?_
              refine WP2_iast (j := F) rfl rfl (ia_lit (n := 11) rfl rfl (by omega)) (by omega) (by omega) (by omega) ?_
              refine WP_n 2 rfl ?_
              exact WP_iret rfl rfl rfl ⟨_, rfl, ok F 1 ⟨rfl, by omega, rfl, by omega, by omega, by simp [FMt]; omega⟩⟩
            · refine WP_n 2 rfl ?_
              refine WP2_callV 1 ok_M_G_no rfl rfl rfl rfl rfl rfl (Nat.le_of_ble_eq_true rfl) (Nat.le_of_ble_eq_true rfl) rfl rfl ?_
              refine sp_no (k := 6) rfl (by omega) ?_
              exact WP_iret rfl rfl rfl ⟨_, rfl, r6 ⟨by omega, by omega, 1, rfl, by omega, by omega, by simp [FMt]; omega⟩⟩
          · refine WP_n 2 rfl ?_
            refine WP_ifne rfl rfl ⟨by decide, by decide⟩  (fun h24 => ?_) (fun h24 => absurd (by decide) h24)
            refine WP_n 2 rfl ?_
            refine WP_icmpne rfl rfl ⟨by decide, by decide⟩ ⟨by decide, by decide⟩  (fun h29 => ?_) (fun h29 => absurd (by decide) h29)
            refine WP_n 2 rfl ?_
            refine WP_icmpne rfl rfl ⟨by decide, by decide⟩ ⟨by decide, by decide⟩  (fun h34 => absurd h34 (by decide)) (fun h34 => ?_)
            refine WP_n 2 rfl ?_
            refine WP_icmple rfl rfl ⟨by omega, by omega⟩ ⟨by omega, by omega⟩ (fun h38 => ?_) (fun h38 => ?_)
            · refine WP_n 1 rfl ?_
              refine WP_ifne rfl rfl ⟨by decide, by decide⟩  (fun h44 => ?_) (fun h44 => absurd (by decide) h44)
              refine WP_n 2 rfl ?_
              refine WP_icmpne rfl rfl ⟨by decide, by decide⟩ ⟨by decide, by decide⟩  (fun h52 => ?_) (fun h52 => absurd (by decide) h52)
              refine WP_n 2 rfl ?_
              refine WP_icmpne rfl rfl ⟨by decide, by decide⟩ ⟨by decide, by decide⟩  (fun h60 => absurd h60 (by decide)) (fun h60 => ?_)
              refine WP_n 1 rfl ?_
              refine WP2_getf rfl rfl rfl rfl rfl ?_
              refine WP_n 1 rfl ?_
              refine WP2_iald (j := F) rfl rfl (ia_lit (n := 11) rfl rfl (by omega)) (by omega) (by omega) (by omega) ?_
              refine WP_n 3 rfl ?_
              refine WP_ifne rfl rfl ⟨by decide, by decide⟩  (fun h72 => ?_) (fun h72 => absurd (by decide) h72)
              refine WP_n 2 rfl ?_
              refine WP_icmpne rfl rfl ⟨by decide, by decide⟩ ⟨by decide, by decide⟩  (fun h81 => ?_) (fun h81 => absurd (by decide) h81)
              refine WP_n 2 rfl ?_
              refine WP_icmpne rfl rfl ⟨by decide, by decide⟩ ⟨by decide, by decide⟩  (fun h90 => absurd h90 (by decide)) (fun h90 => ?_)
              refine WP_n 1 rfl ?_
              refine WP2_getf rfl rfl rfl rfl rfl ?_
              refine WP_n 2 rfl ?_
              refine WP2_iast (j := F) rfl rfl (ia_lit (n := 11) rfl rfl (by omega)) (by omega) (by omega) (by omega) ?_
              refine WP_n 2 rfl ?_
              exact WP_iret rfl rfl rfl ⟨_, rfl, ok F 2 ⟨rfl, by omega, rfl, by omega, by omega, by simp [FMt]; omega⟩⟩
            · refine WP_n 2 rfl ?_
              refine WP2_callV 1 ok_M_G_no rfl rfl rfl rfl rfl rfl (Nat.le_of_ble_eq_true rfl) (Nat.le_of_ble_eq_true rfl) rfl rfl ?_
              refine sp_no (k := 6) rfl (by omega) ?_
              exact WP_iret rfl rfl rfl ⟨_, rfl, r6 ⟨by omega, by omega, 2, rfl, by omega, by omega, by simp [FMt]; omega⟩⟩
          · refine WP_n 2 rfl ?_
            refine WP_ifne rfl rfl ⟨by decide, by decide⟩  (fun h24 => ?_) (fun h24 => absurd (by decide) h24)
            refine WP_n 2 rfl ?_
            refine WP_icmpne rfl rfl ⟨by decide, by decide⟩ ⟨by decide, by decide⟩  (fun h29 => ?_) (fun h29 => absurd (by decide) h29)
            refine WP_n 2 rfl ?_
            refine WP_icmpne rfl rfl ⟨by decide, by decide⟩ ⟨by decide, by decide⟩  (fun h34 => ?_) (fun h34 => absurd (by decide) h34)
            refine WP_n 1 rfl ?_
            refine WP_icmple rfl rfl ⟨by omega, by omega⟩ ⟨by omega, by omega⟩ (fun h38 => ?_) (fun h38 => ?_)
            · refine WP_n 1 rfl ?_
              refine WP_ifne rfl rfl ⟨by decide, by decide⟩  (fun h44 => ?_) (fun h44 => absurd (by decide) h44)
              refine WP_n 2 rfl ?_
              refine WP_icmpne rfl rfl ⟨by decide, by decide⟩ ⟨by decide, by decide⟩  (fun h52 => ?_) (fun h52 => absurd (by decide) h52)
              refine WP_n 2 rfl ?_
              refine WP_icmpne rfl rfl ⟨by decide, by decide⟩ ⟨by decide, by decide⟩  (fun h60 => ?_) (fun h60 => absurd (by decide) h60)
              refine WP_n 1 rfl ?_
              refine WP2_getf rfl rfl rfl rfl rfl ?_
              refine WP_n 1 rfl ?_
              refine WP2_iald (j := F) rfl rfl (ia_lit (n := 11) rfl rfl (by omega)) (by omega) (by omega) (by omega) ?_
              refine WP_n 2 rfl ?_
              refine WP_ifne rfl rfl ⟨by decide, by decide⟩  (fun h72 => ?_) (fun h72 => absurd (by decide) h72)
              refine WP_n 2 rfl ?_
              refine WP_icmpne rfl rfl ⟨by decide, by decide⟩ ⟨by decide, by decide⟩  (fun h81 => ?_) (fun h81 => absurd (by decide) h81)
              refine WP_n 2 rfl ?_
              refine WP_icmpne rfl rfl ⟨by decide, by decide⟩ ⟨by decide, by decide⟩  (fun h90 => ?_) (fun h90 => absurd (by decide) h90)
              refine WP_n 1 rfl ?_
              refine WP2_getf rfl rfl rfl rfl rfl ?_
              refine WP_n 2 rfl ?_
              refine WP2_iast (j := F) rfl rfl (ia_lit (n := 11) rfl rfl (by omega)) (by omega) (by omega) (by omega) ?_
              refine WP_n 1 rfl ?_
              exact WP_iret rfl rfl rfl ⟨_, rfl, ok F 3 ⟨rfl, by omega, rfl, by omega, by omega, by simp [FMt]; omega⟩⟩
            · refine WP_n 2 rfl ?_
              refine WP2_callV 1 ok_M_G_no rfl rfl rfl rfl rfl rfl (Nat.le_of_ble_eq_true rfl) (Nat.le_of_ble_eq_true rfl) rfl rfl ?_
              refine sp_no (k := 6) rfl (by omega) ?_
              exact WP_iret rfl rfl rfl ⟨_, rfl, r6 ⟨by omega, by omega, 3, rfl, by omega, by omega, by simp [FMt]; omega⟩⟩
        · refine WP_n 2 rfl ?_
          refine WP2_callV 1 ok_M_G_no rfl rfl rfl rfl rfl rfl (Nat.le_of_ble_eq_true rfl) (Nat.le_of_ble_eq_true rfl) rfl rfl ?_
          refine sp_no (k := 4) rfl (by omega) ?_
          exact WP_iret rfl rfl rfl ⟨_, rfl, r4 (by omega)⟩
      · refine WP_n 2 rfl ?_
        refine WP2_callV 1 ok_M_G_no rfl rfl rfl rfl rfl rfl (Nat.le_of_ble_eq_true rfl) (Nat.le_of_ble_eq_true rfl) rfl rfl ?_
        refine sp_no (k := 2) rfl (by omega) ?_
        exact WP_iret rfl rfl rfl ⟨_, rfl, r2 (by omega)⟩
theorem pr_floor {P : PP} {n : Nat} {FI A L : Nat → Nat → Int} {X : SX} (h : INV P n FI A X) (hn : n < 512) {f w v : Int} (hf : inR f) (hw : inR w) (hv : inR v) : PAIR P n (FI, A, L, X) M_F_floor [some (vr 5), some (vi f), some (vi w), some (vi v)] M_G_floor [some (vr 165), some (vi f), some (vi w), some (vi v), none] := by
  intro d
  have hm := h.mI
  have hn5 := h.1
  have hcI := h.2.1
  refine sp_F_floor hf hw hv hcI hn5 (fun c1 => ?_) (fun c1 => ?_) (fun c1 => ?_) (fun c1 => ?_) (fun F W c1 => ?_)
  · refine ⟨_, rfl, ?_⟩
    refine sp_G_floor hf hw hv (hm.up (by omega)) (fun c2 => ?_) (fun c2 => ?_) (fun c2 => ?_) (fun c2 => ?_) (fun F' W' c2 => ?_)
    · exact ⟨rfl, INV_ref h hn (by omega)⟩
    all_goals (exfalso; omega)
  · refine ⟨_, rfl, ?_⟩
    refine sp_G_floor hf hw hv (hm.up (by omega)) (fun c2 => ?_) (fun c2 => ?_) (fun c2 => ?_) (fun c2 => ?_) (fun F' W' c2 => ?_)
    · exfalso; omega
    · exact ⟨rfl, INV_ref h hn (by omega)⟩
    · exfalso; omega
    · obtain ⟨-, -, W', e, q, -⟩ := c2
      exfalso; omega
    · exfalso; omega
  · refine ⟨_, rfl, ?_⟩
    refine sp_G_floor hf hw hv (hm.up (by omega)) (fun c2 => ?_) (fun c2 => ?_) (fun c2 => ?_) (fun c2 => ?_) (fun F' W' c2 => ?_)
    · exfalso; omega
    · exfalso; omega
    · exact ⟨rfl, INV_ref h hn (by omega)⟩
    · obtain ⟨-, -, W', e, q, q2, -⟩ := c2
      exfalso; omega
    · exfalso; omega
  · obtain ⟨q1, q2, W, rfl, q3, q4, q5⟩ := c1
    refine ⟨_, rfl, ?_⟩
    refine sp_G_floor hf hw hv (hm.up (by omega)) (fun c2 => ?_) (fun c2 => ?_) (fun c2 => ?_) (fun c2 => ?_) (fun F' W' c2 => ?_)
    · exfalso; omega
    · exfalso; omega
    · exfalso; omega
    · exact ⟨rfl, INV_ref h hn (by omega)⟩
    · obtain rfl : W = W' := by omega
      exfalso; omega
  · refine ⟨_, rfl, ?_⟩
    refine sp_G_floor hf hw hv (hm.up (by omega)) (fun c2 => ?_) (fun c2 => ?_) (fun c2 => ?_) (fun c2 => ?_) (fun F' W' c2 => ?_)
    · exfalso; omega
    · exfalso; omega
    · exfalso; omega
    · obtain ⟨-, -, W', e, q, q2, q3⟩ := c2
      obtain rfl : W = W' := by omega
      exfalso; omega
    · obtain rfl : W = W' := by omega
      obtain rfl : F = F' := by omega
      refine ⟨?_, INV_floor h hn (by omega) (by omega) (by omega) (by omega)⟩
      have g := h.2.2.1.2.2.1 F (by omega)
      unfold gFl at g
      rw [up2_ne (by omega)]
      rcases (show W = 0 ∨ W = 1 ∨ W = 2 ∨ W = 3 by omega) with rfl | rfl | rfl | rfl
      · rw [g.1]
      · rw [g.2.1]
      · rw [g.2.2.1]
      · rw [g.2.2.2]
theorem sp_F_fix {P : PP} {d n : Nat} {FI A L : Nat → Nat → Int} {X : SX} {Q : Option AV → S2 → Prop} {t b : Int} (ht : inR t) (hb : b = 0 ∨ b = 1) (hI : cI n FI A) (hn5 : n ≤ 512) (r1 : ((t < 0 ∨ FI 6 8 ≤ t)) → Q (some (vi (-1))) (FI, rfC A 1, L, X)) (ok : ∀ T : Nat, (t = (T : Int) ∧ (T : Int) < FI 6 8 ∧ (b = 0 ∨ b = 1)) → Q (some (vi (if A (20 + T) 5 = b then 0 else 1))) (FI, up2 A (20 + T) 5 b, L, X)) : WP2 P M_F_fix (d + 2) 0 [some (vr 5), some (vi t), some (vi b), none] [] (FI, A, L, X) Q := by
  obtain ⟨lt, ut⟩ := id ht
  have hcc := hI.1
  refine WP_n 2 rfl ?_
  refine WP2_callV 1 ok_M_F_noTeam rfl rfl rfl rfl rfl rfl (Nat.le_of_ble_eq_true rfl) (Nat.le_of_ble_eq_true rfl) rfl rfl ?_
  refine sp_noTeam ht ⟨by omega, by omega⟩ (fun hTt => ?_) (fun hTt hTtb => ?_)
  · refine WP_ifeq rfl rfl ⟨by decide, by decide⟩  (fun h3 => absurd h3 (by decide)) (fun h3 => ?_)
    refine WP_n 2 rfl ?_
    refine WP2_callV 1 ok_M_F_refuse rfl rfl rfl rfl rfl rfl (Nat.le_of_ble_eq_true rfl) (Nat.le_of_ble_eq_true rfl) rfl rfl ?_
    refine sp_refuse (k := 1) rfl (by omega) ?_
    exact WP_iret rfl rfl rfl ⟨_, rfl, r1 (by omega)⟩
  · refine WP_ifeq rfl rfl ⟨by decide, by decide⟩  (fun h3 => ?_) (fun h3 => absurd (by decide) h3)
    obtain ⟨T, rfl⟩ : ∃ T : Nat, t = (T : Int) := ⟨t.toNat, by omega⟩
    have hq := hI.2.2.2.1 T (by omega)
    unfold cTm at hq
    have ok := ok T (by omega)
    refine WP_n 1 rfl ?_
    refine WP_ifeq rfl rfl ⟨by omega, by omega⟩ (fun h9 => ?_) (fun h9 => ?_)
    · obtain rfl : b = 0 := by omega
      refine WP_n 3 rfl ?_
      refine WP2_getf rfl rfl rfl rfl rfl ?_
      refine WP2_getf rfl rfl rfl rfl rfl ?_
      refine WP_n 1 rfl ?_
      refine WP2_aald (b := 20) (j := T) (n := 16) rfl rfl rfl rfl rfl (by omega) (by omega) ?_
      refine WP_n 2 rfl ?_
      refine WP2_callS 3 ok_M_F_exchange rfl rfl rfl rfl rfl rfl rfl (Nat.le_of_ble_eq_true rfl) (Nat.le_of_ble_eq_true rfl) ?_
      refine sp_exchange (j := 5) (ia_tm (by omega)) (by omega) rfl (by omega) (by omega) ?_
      refine WP_n 1 rfl ?_
      refine WP_icmpne rfl rfl ⟨by omega, by omega⟩ ⟨by omega, by omega⟩ (fun h23 => ?_) (fun h23 => ?_)
      · refine WP_n 1 rfl ?_
        refine WP_iret rfl rfl rfl ⟨_, rfl, ?_⟩
        rw [if_neg (by omega)] at ok
        exact ok
      · refine WP_n 2 rfl ?_
        refine WP_iret rfl rfl rfl ⟨_, rfl, ?_⟩
        rw [if_pos (by omega)] at ok
        exact ok
    · obtain rfl : b = 1 := by omega
      refine WP_n 4 rfl ?_
      refine WP2_getf rfl rfl rfl rfl rfl ?_
      refine WP2_getf rfl rfl rfl rfl rfl ?_
      refine WP_n 1 rfl ?_
      refine WP2_aald (b := 20) (j := T) (n := 16) rfl rfl rfl rfl rfl (by omega) (by omega) ?_
      refine WP_n 2 rfl ?_
      refine WP2_callS 3 ok_M_F_exchange rfl rfl rfl rfl rfl rfl rfl (Nat.le_of_ble_eq_true rfl) (Nat.le_of_ble_eq_true rfl) ?_
      refine sp_exchange (j := 5) (ia_tm (by omega)) (by omega) rfl (by omega) (by omega) ?_
      refine WP_n 1 rfl ?_
      refine WP_icmpne rfl rfl ⟨by omega, by omega⟩ ⟨by omega, by omega⟩ (fun h23 => ?_) (fun h23 => ?_)
      · refine WP_n 1 rfl ?_
        refine WP_iret rfl rfl rfl ⟨_, rfl, ?_⟩
        rw [if_neg (by omega)] at ok
        exact ok
      · refine WP_n 2 rfl ?_
        refine WP_iret rfl rfl rfl ⟨_, rfl, ?_⟩
        rw [if_pos (by omega)] at ok
        exact ok
theorem sp_G_fix {P : PP} {d n : Nat} {FI A L : Nat → Nat → Int} {X : SX} {Q : Option AV → S2 → Prop} {t b : Int} (ht : inR t) (hb : b = 0 ∨ b = 1) (hI : mI n FI A) (r1 : ((t < 0 ∨ FI 165 0 ≤ t)) → Q (some (vi (-1))) (FI, rfG A 1, L, X)) (ok : ∀ T : Nat, (t = (T : Int) ∧ (T : Int) < FI 165 0 ∧ (b = 0 ∨ b = 1)) → Q (some (vi (if A 178 T = b then 0 else 1))) (FI, (if A 178 T = b then A else up2 A 178 T b), L, X)) : WP2 P M_G_fix (d + 2) 0 [some (vr 165), some (vi t), some (vi b)] [] (FI, A, L, X) Q := by
  obtain ⟨lt, ut⟩ := id ht
  have hcc := hI.2.1
  refine WP_n 2 rfl ?_
  refine WP2_callV 1 ok_M_G_isTeam rfl rfl rfl rfl rfl rfl (Nat.le_of_ble_eq_true rfl) (Nat.le_of_ble_eq_true rfl) rfl rfl ?_
  refine sp_isTeam ht ⟨by omega, by omega⟩ (fun hTt => ?_) (fun hTt hTtb => ?_)
  · refine WP_ifne rfl rfl ⟨by decide, by decide⟩  (fun h3 => absurd h3 (by decide)) (fun h3 => ?_)
    refine WP_n 2 rfl ?_
    refine WP2_callV 1 ok_M_G_no rfl rfl rfl rfl rfl rfl (Nat.le_of_ble_eq_true rfl) (Nat.le_of_ble_eq_true rfl) rfl rfl ?_
    refine sp_no (k := 1) rfl (by omega) ?_
    exact WP_iret rfl rfl rfl ⟨_, rfl, r1 (by omega)⟩
  · refine WP_ifne rfl rfl ⟨by decide, by decide⟩  (fun h3 => ?_) (fun h3 => absurd (by decide) h3)
    obtain ⟨T, rfl⟩ : ∃ T : Nat, t = (T : Int) := ⟨t.toNat, by omega⟩
    have hq := hI.2.2.2.2.1 T (by omega)
    unfold mTm at hq
    have ok := ok T (by omega)
    refine WP_n 1 rfl ?_
    refine WP2_getf rfl rfl rfl rfl rfl ?_
    refine WP_n 1 rfl ?_
    refine WP2_zald (j := T) rfl rfl rfl (by omega) (by omega) ?_
    refine WP_n 1 rfl ?_
    refine WP_icmpne rfl rfl ⟨by omega, by omega⟩ ⟨by omega, by omega⟩ (fun h13 => ?_) (fun h13 => ?_)
    · refine WP_n 1 rfl ?_
      refine WP2_getf rfl rfl rfl rfl rfl ?_
      refine WP_n 2 rfl ?_
      refine WP2_zast (j := T) rfl rfl (by omega) (by omega) (by omega) ?_
      refine WP_n 1 rfl ?_
      refine WP_iret rfl rfl rfl ⟨_, rfl, ?_⟩
      rw [if_neg (by omega), if_neg (by omega)] at ok
      exact ok
    · refine WP_n 1 rfl ?_
      refine WP_iret rfl rfl rfl ⟨_, rfl, ?_⟩
      rw [if_pos (by omega), if_pos (by omega)] at ok
      exact ok
theorem pr_fix {P : PP} {n : Nat} {FI A L : Nat → Nat → Int} {X : SX} (h : INV P n FI A X) (hn : n < 512) {t b : Int} (ht : inR t) (hb : b = 0 ∨ b = 1) : PAIR P n (FI, A, L, X) M_F_fix [some (vr 5), some (vi t), some (vi b), none] M_G_fix [some (vr 165), some (vi t), some (vi b)] := by
  intro d
  have hm := h.mI
  have hn5 := h.1
  have hcI := h.2.1
  have hk1 := hcI.1
  have g1 := h.2.2.1.1
  obtain ⟨lt, ut⟩ := id ht
  refine sp_F_fix ht hb hcI hn5 (fun c1 => ?_) (fun T c1 => ?_)
  · refine ⟨_, rfl, ?_⟩
    refine sp_G_fix ht hb (hm.up (by omega)) (fun c2 => ?_) (fun T' c2 => ?_)
    · exact ⟨rfl, INV_ref h hn (by omega)⟩
    · exfalso; omega
  · refine ⟨_, rfl, ?_⟩
    refine sp_G_fix ht hb (hm.up (by omega)) (fun c2 => ?_) (fun T' c2 => ?_)
    · exfalso; omega
    · obtain rfl : T = T' := by omega
      have gf : A 178 T = A (20 + T) 5 := (h.2.2.1.2.2.2.1 T (by omega)).2.2.2
      rw [up2_ne (by omega), gf]
      refine ⟨rfl, ?_⟩
      have hI := INV_fix h hn (T := T) (v := b) (by omega) (by omega) (by omega)
      by_cases e : A (20 + T) 5 = b
      · rw [if_pos e]
        have e2 : up2 (up2 A (20 + T) 5 b) 178 T b = up2 A (20 + T) 5 b := by
          funext a j
          by_cases q : a = 178 ∧ j = T
          · obtain ⟨rfl, rfl⟩ := q
            rw [up2_same, up2_ne (by omega), gf, e]
          · exact up2_ne (by omega)
        rw [e2] at hI
        exact hI
      · rw [if_neg e]
        exact hI
theorem sp_F_team {P : PP} {d n : Nat} {FI A L : Nat → Nat → Int} {X : SX} {Q : Option AV → S2 → Prop} {s9 e9 l9 b9 : Int} (hs9 : inR s9) (he9 : inR e9) (hl9 : inR l9) (hb9 : inR b9) (hI : cI n FI A) (hn5 : n ≤ 512) (r4 : (s9 < 1 ∨ e9 < 0 ∨ l9 < 0 ∨ b9 < 0) → Q (some (vi (-4))) (FI, rfC A 4, L, X)) (r6 : (¬ (s9 < 1 ∨ e9 < 0 ∨ l9 < 0 ∨ b9 < 0) ∧ (60 < s9 ∨ 7 < e9 ∨ 9 < l9 ∨ 9 < b9 ∨ FI 6 8 = 16)) → Q (some (vi (-6))) (FI, rfC A 6, L, X)) (ok : ∀ T : Nat, (1 ≤ s9 ∧ s9 ≤ 60 ∧ 0 ≤ e9 ∧ e9 ≤ 7 ∧ 0 ≤ l9 ∧ l9 ≤ 9 ∧ 0 ≤ b9 ∧ b9 ≤ 9 ∧ FI 6 8 = (T : Int) ∧ T < 16) → Q (some (vi ((T : Int)))) (up2 FI 6 8 ((T : Int) + 1), up2 (up2 (up2 (up2 A (20 + T) 0 s9) (20 + T) 1 e9) (20 + T) 2 l9) (20 + T) 3 b9, L, X)) : WP2 P M_F_team (d + 2) 0 [some (vr 5), some (vi s9), some (vi e9), some (vi l9), some (vi b9), none, none] [] (FI, A, L, X) Q := by
  obtain ⟨ls9, us9⟩ := id hs9
  obtain ⟨le9, ue9⟩ := id he9
  obtain ⟨ll9, ul9⟩ := id hl9
  obtain ⟨lb9, ub9⟩ := id hb9
  have hcc := hI.1
  refine WP_n 2 rfl ?_
  refine WP_icmplt rfl rfl ⟨by omega, by omega⟩ ⟨by omega, by omega⟩ (fun h2 => ?_) (fun h2 => ?_)
  · refine WP_n 2 rfl ?_
    refine WP2_callV 1 ok_M_F_refuse rfl rfl rfl rfl rfl rfl (Nat.le_of_ble_eq_true rfl) (Nat.le_of_ble_eq_true rfl) rfl rfl ?_
    refine sp_refuse (k := 4) rfl (by omega) ?_
    exact WP_iret rfl rfl rfl ⟨_, rfl, r4 (by omega)⟩
  · refine WP_n 1 rfl ?_
    refine WP_iflt rfl rfl ⟨by omega, by omega⟩ (fun h4 => ?_) (fun h4 => ?_)
    · refine WP_n 2 rfl ?_
      refine WP2_callV 1 ok_M_F_refuse rfl rfl rfl rfl rfl rfl (Nat.le_of_ble_eq_true rfl) (Nat.le_of_ble_eq_true rfl) rfl rfl ?_
      refine sp_refuse (k := 4) rfl (by omega) ?_
      exact WP_iret rfl rfl rfl ⟨_, rfl, r4 (by omega)⟩
    · refine WP_n 1 rfl ?_
      refine WP_iflt rfl rfl ⟨by omega, by omega⟩ (fun h6 => ?_) (fun h6 => ?_)
      · refine WP_n 2 rfl ?_
        refine WP2_callV 1 ok_M_F_refuse rfl rfl rfl rfl rfl rfl (Nat.le_of_ble_eq_true rfl) (Nat.le_of_ble_eq_true rfl) rfl rfl ?_
        refine sp_refuse (k := 4) rfl (by omega) ?_
        exact WP_iret rfl rfl rfl ⟨_, rfl, r4 (by omega)⟩
      · refine WP_n 1 rfl ?_
        refine WP_ifge rfl rfl ⟨by omega, by omega⟩ (fun h8 => ?_) (fun h8 => ?_)
        · refine WP_n 2 rfl ?_
          refine WP_icmpgt rfl rfl ⟨by omega, by omega⟩ ⟨by omega, by omega⟩ (fun h15 => ?_) (fun h15 => ?_)
          · refine WP_n 2 rfl ?_
            refine WP2_callV 1 ok_M_F_refuse rfl rfl rfl rfl rfl rfl (Nat.le_of_ble_eq_true rfl) (Nat.le_of_ble_eq_true rfl) rfl rfl ?_
            refine sp_refuse (k := 6) rfl (by omega) ?_
            exact WP_iret rfl rfl rfl ⟨_, rfl, r6 (by omega)⟩
          · refine WP_n 2 rfl ?_
            refine WP_icmpgt rfl rfl ⟨by omega, by omega⟩ ⟨by omega, by omega⟩ (fun h18 => ?_) (fun h18 => ?_)
            · refine WP_n 2 rfl ?_
              refine WP2_callV 1 ok_M_F_refuse rfl rfl rfl rfl rfl rfl (Nat.le_of_ble_eq_true rfl) (Nat.le_of_ble_eq_true rfl) rfl rfl ?_
              refine sp_refuse (k := 6) rfl (by omega) ?_
              exact WP_iret rfl rfl rfl ⟨_, rfl, r6 (by omega)⟩
            · refine WP_n 2 rfl ?_
              refine WP_icmpgt rfl rfl ⟨by omega, by omega⟩ ⟨by omega, by omega⟩ (fun h21 => ?_) (fun h21 => ?_)
              · refine WP_n 2 rfl ?_
                refine WP2_callV 1 ok_M_F_refuse rfl rfl rfl rfl rfl rfl (Nat.le_of_ble_eq_true rfl) (Nat.le_of_ble_eq_true rfl) rfl rfl ?_
                refine sp_refuse (k := 6) rfl (by omega) ?_
                exact WP_iret rfl rfl rfl ⟨_, rfl, r6 (by omega)⟩
              · refine WP_n 2 rfl ?_
                refine WP_icmple rfl rfl ⟨by omega, by omega⟩ ⟨by omega, by omega⟩ (fun h24 => ?_) (fun h24 => ?_)
                · refine WP_n 1 rfl ?_
                  refine WP2_getf rfl rfl rfl rfl rfl ?_
                  refine WP2_getf rfl rfl rfl rfl rfl ?_
                  refine WP_n 1 rfl ?_
                  refine WP_icmplt rfl rfl ⟨by omega, by omega⟩ ⟨by omega, by omega⟩ (fun h33 => ?_) (fun h33 => ?_)
                  · obtain ⟨T, hT⟩ : ∃ T : Nat, FI 6 8 = (T : Int) := ⟨(FI 6 8).toNat, by omega⟩
                    refine WP_n 1 rfl ?_
                    refine WP2_getf rfl rfl rfl rfl rfl ?_
                    refine WP2_getf rfl rfl rfl rfl rfl ?_
                    rw [hT]
                    refine WP_n 2 rfl ?_
                    refine WP2_getf rfl rfl rfl rfl rfl ?_
                    refine WP_n 1 rfl ?_
                    refine WP2_getf rfl rfl rfl rfl rfl ?_
                    rw [hT]
                    refine WP_n 2 rfl ?_
                    refine WP2_putk (k := 8) rfl rfl rfl rfl rfl rfl (by exact trivial) ?_
                    refine WP_n 1 rfl ?_
                    refine WP2_getf rfl rfl rfl rfl rfl ?_
                    refine WP2_getf rfl rfl rfl rfl rfl ?_
                    refine WP_n 1 rfl ?_
                    refine WP2_aald (b := 20) (j := T) (n := 16) rfl rfl rfl rfl rfl (by omega) (by omega) ?_
                    refine WP_n 4 rfl ?_
                    refine WP2_iast (j := 0) rfl rfl (ia_tm (by omega)) (by omega) (by omega) (by omega) ?_
                    refine WP_n 3 rfl ?_
                    refine WP2_iast (j := 1) rfl rfl (ia_tm (by omega)) (by omega) (by omega) (by omega) ?_
                    refine WP_n 3 rfl ?_
                    refine WP2_iast (j := 2) rfl rfl (ia_tm (by omega)) (by omega) (by omega) (by omega) ?_
                    refine WP_n 3 rfl ?_
                    refine WP2_iast (j := 3) rfl rfl (ia_tm (by omega)) (by omega) (by omega) (by omega) ?_
                    refine WP_n 1 rfl ?_
                    exact WP_iret rfl rfl rfl ⟨_, rfl, ok T (by omega)⟩
                  · refine WP_n 2 rfl ?_
                    refine WP2_callV 1 ok_M_F_refuse rfl rfl rfl rfl rfl rfl (Nat.le_of_ble_eq_true rfl) (Nat.le_of_ble_eq_true rfl) rfl rfl ?_
                    refine sp_refuse (k := 6) rfl (by omega) ?_
                    exact WP_iret rfl rfl rfl ⟨_, rfl, r6 (by omega)⟩
                · refine WP_n 2 rfl ?_
                  refine WP2_callV 1 ok_M_F_refuse rfl rfl rfl rfl rfl rfl (Nat.le_of_ble_eq_true rfl) (Nat.le_of_ble_eq_true rfl) rfl rfl ?_
                  refine sp_refuse (k := 6) rfl (by omega) ?_
                  exact WP_iret rfl rfl rfl ⟨_, rfl, r6 (by omega)⟩
        · refine WP_n 2 rfl ?_
          refine WP2_callV 1 ok_M_F_refuse rfl rfl rfl rfl rfl rfl (Nat.le_of_ble_eq_true rfl) (Nat.le_of_ble_eq_true rfl) rfl rfl ?_
          refine sp_refuse (k := 4) rfl (by omega) ?_
          exact WP_iret rfl rfl rfl ⟨_, rfl, r4 (by omega)⟩
theorem sp_G_team {P : PP} {d n : Nat} {FI A L : Nat → Nat → Int} {X : SX} {Q : Option AV → S2 → Prop} {s9 e9 l9 b9 : Int} (hs9 : inR s9) (he9 : inR e9) (hl9 : inR l9) (hb9 : inR b9) (hI : mI n FI A) (r4 : (s9 < 1 ∨ e9 < 0 ∨ l9 < 0 ∨ b9 < 0) → Q (some (vi (-4))) (FI, rfG A 4, L, X)) (r6 : (¬ (s9 < 1 ∨ e9 < 0 ∨ l9 < 0 ∨ b9 < 0) ∧ (60 < s9 ∨ 7 < e9 ∨ 9 < l9 ∨ 9 < b9 ∨ FI 165 0 = 16)) → Q (some (vi (-6))) (FI, rfG A 6, L, X)) (ok : ∀ T : Nat, (1 ≤ s9 ∧ s9 ≤ 60 ∧ 0 ≤ e9 ∧ e9 ≤ 7 ∧ 0 ≤ l9 ∧ l9 ≤ 9 ∧ 0 ≤ b9 ∧ b9 ≤ 9 ∧ FI 165 0 = (T : Int) ∧ T < 16) → Q (some (vi ((T : Int)))) (up2 FI 165 0 ((T : Int) + 1), up2 (up2 (up2 (up2 (up2 (up2 A 170 T s9) 171 T e9) 172 T l9) 173 T b9) 174 T (-9)) 175 T (-9), L, X)) : WP2 P M_G_team (d + 2) 0 [some (vr 165), some (vi s9), some (vi e9), some (vi l9), some (vi b9)] [] (FI, A, L, X) Q := by
  obtain ⟨ls9, us9⟩ := id hs9
  obtain ⟨le9, ue9⟩ := id he9
  obtain ⟨ll9, ul9⟩ := id hl9
  obtain ⟨lb9, ub9⟩ := id hb9
  have hcc := hI.2.1
  refine WP_n 2 rfl ?_
  refine WP_icmplt rfl rfl ⟨by omega, by omega⟩ ⟨by omega, by omega⟩ (fun h2 => ?_) (fun h2 => ?_)
  · refine WP_n 2 rfl ?_
    refine WP2_callV 1 ok_M_G_no rfl rfl rfl rfl rfl rfl (Nat.le_of_ble_eq_true rfl) (Nat.le_of_ble_eq_true rfl) rfl rfl ?_
    refine sp_no (k := 4) rfl (by omega) ?_
    exact WP_iret rfl rfl rfl ⟨_, rfl, r4 (by omega)⟩
  · refine WP_n 1 rfl ?_
    refine WP_iflt rfl rfl ⟨by omega, by omega⟩ (fun h4 => ?_) (fun h4 => ?_)
    · refine WP_n 2 rfl ?_
      refine WP2_callV 1 ok_M_G_no rfl rfl rfl rfl rfl rfl (Nat.le_of_ble_eq_true rfl) (Nat.le_of_ble_eq_true rfl) rfl rfl ?_
      refine sp_no (k := 4) rfl (by omega) ?_
      exact WP_iret rfl rfl rfl ⟨_, rfl, r4 (by omega)⟩
    · refine WP_n 1 rfl ?_
      refine WP_iflt rfl rfl ⟨by omega, by omega⟩ (fun h6 => ?_) (fun h6 => ?_)
      · refine WP_n 2 rfl ?_
        refine WP2_callV 1 ok_M_G_no rfl rfl rfl rfl rfl rfl (Nat.le_of_ble_eq_true rfl) (Nat.le_of_ble_eq_true rfl) rfl rfl ?_
        refine sp_no (k := 4) rfl (by omega) ?_
        exact WP_iret rfl rfl rfl ⟨_, rfl, r4 (by omega)⟩
      · refine WP_n 1 rfl ?_
        refine WP_ifge rfl rfl ⟨by omega, by omega⟩ (fun h8 => ?_) (fun h8 => ?_)
        · refine WP_n 2 rfl ?_
          refine WP_icmpgt rfl rfl ⟨by omega, by omega⟩ ⟨by omega, by omega⟩ (fun h15 => ?_) (fun h15 => ?_)
          · refine WP_n 2 rfl ?_
            refine WP2_callV 1 ok_M_G_no rfl rfl rfl rfl rfl rfl (Nat.le_of_ble_eq_true rfl) (Nat.le_of_ble_eq_true rfl) rfl rfl ?_
            refine sp_no (k := 6) rfl (by omega) ?_
            exact WP_iret rfl rfl rfl ⟨_, rfl, r6 (by omega)⟩
          · refine WP_n 2 rfl ?_
            refine WP_icmpgt rfl rfl ⟨by omega, by omega⟩ ⟨by omega, by omega⟩ (fun h18 => ?_) (fun h18 => ?_)
            · refine WP_n 2 rfl ?_
              refine WP2_callV 1 ok_M_G_no rfl rfl rfl rfl rfl rfl (Nat.le_of_ble_eq_true rfl) (Nat.le_of_ble_eq_true rfl) rfl rfl ?_
              refine sp_no (k := 6) rfl (by omega) ?_
              exact WP_iret rfl rfl rfl ⟨_, rfl, r6 (by omega)⟩
            · refine WP_n 2 rfl ?_
              refine WP_icmpgt rfl rfl ⟨by omega, by omega⟩ ⟨by omega, by omega⟩ (fun h21 => ?_) (fun h21 => ?_)
              · refine WP_n 2 rfl ?_
                refine WP2_callV 1 ok_M_G_no rfl rfl rfl rfl rfl rfl (Nat.le_of_ble_eq_true rfl) (Nat.le_of_ble_eq_true rfl) rfl rfl ?_
                refine sp_no (k := 6) rfl (by omega) ?_
                exact WP_iret rfl rfl rfl ⟨_, rfl, r6 (by omega)⟩
              · refine WP_n 2 rfl ?_
                refine WP_icmpgt rfl rfl ⟨by omega, by omega⟩ ⟨by omega, by omega⟩ (fun h24 => ?_) (fun h24 => ?_)
                · refine WP_n 2 rfl ?_
                  refine WP2_callV 1 ok_M_G_no rfl rfl rfl rfl rfl rfl (Nat.le_of_ble_eq_true rfl) (Nat.le_of_ble_eq_true rfl) rfl rfl ?_
                  refine sp_no (k := 6) rfl (by omega) ?_
                  exact WP_iret rfl rfl rfl ⟨_, rfl, r6 (by omega)⟩
                · refine WP_n 1 rfl ?_
                  refine WP2_getf rfl rfl rfl rfl rfl ?_
                  refine WP_n 1 rfl ?_
                  refine WP_icmpne rfl rfl ⟨by omega, by omega⟩ ⟨by omega, by omega⟩ (fun h28 => ?_) (fun h28 => ?_)
                  · obtain ⟨T, hT⟩ : ∃ T : Nat, FI 165 0 = (T : Int) := ⟨(FI 165 0).toNat, by omega⟩
                    refine WP_n 1 rfl ?_
                    refine WP2_getf rfl rfl rfl rfl rfl ?_
                    refine WP_n 1 rfl ?_
                    refine WP2_getf rfl rfl rfl rfl rfl ?_
                    rw [hT]
                    refine WP_n 1 rfl ?_
                    refine WP2_iast (j := T) rfl rfl (ia_lit (n := 16) rfl rfl (by omega)) (by omega) (by omega) (by omega) ?_
                    refine WP_n 1 rfl ?_
                    refine WP2_getf rfl rfl rfl rfl rfl ?_
                    refine WP_n 1 rfl ?_
                    refine WP2_getf rfl rfl rfl rfl rfl ?_
                    rw [hT]
                    refine WP_n 1 rfl ?_
                    refine WP2_iast (j := T) rfl rfl (ia_lit (n := 16) rfl rfl (by omega)) (by omega) (by omega) (by omega) ?_
                    refine WP_n 1 rfl ?_
                    refine WP2_getf rfl rfl rfl rfl rfl ?_
                    refine WP_n 1 rfl ?_
                    refine WP2_getf rfl rfl rfl rfl rfl ?_
                    rw [hT]
                    refine WP_n 1 rfl ?_
                    refine WP2_iast (j := T) rfl rfl (ia_lit (n := 16) rfl rfl (by omega)) (by omega) (by omega) (by omega) ?_
                    refine WP_n 1 rfl ?_
                    refine WP2_getf rfl rfl rfl rfl rfl ?_
                    refine WP_n 1 rfl ?_
                    refine WP2_getf rfl rfl rfl rfl rfl ?_
                    rw [hT]
                    refine WP_n 1 rfl ?_
                    refine WP2_iast (j := T) rfl rfl (ia_lit (n := 16) rfl rfl (by omega)) (by omega) (by omega) (by omega) ?_
                    refine WP_n 1 rfl ?_
                    refine WP2_getf rfl rfl rfl rfl rfl ?_
                    refine WP_n 1 rfl ?_
                    refine WP2_getf rfl rfl rfl rfl rfl ?_
                    rw [hT]
                    refine WP_n 1 rfl ?_
                    refine WP2_iast (j := T) rfl rfl (ia_lit (n := 16) rfl rfl (by omega)) (by omega) (by omega) (by omega) ?_
                    refine WP_n 1 rfl ?_
                    refine WP2_getf rfl rfl rfl rfl rfl ?_
                    refine WP_n 1 rfl ?_
                    refine WP2_getf rfl rfl rfl rfl rfl ?_
                    rw [hT]
                    refine WP_n 1 rfl ?_
                    refine WP2_iast (j := T) rfl rfl (ia_lit (n := 16) rfl rfl (by omega)) (by omega) (by omega) (by omega) ?_
                    refine WP_n 2 rfl ?_
                    refine WP2_getf rfl rfl rfl rfl rfl ?_
                    rw [hT]
                    refine WP_n 3 rfl ?_
                    refine WP2_putk (k := 0) rfl rfl rfl rfl rfl rfl (by exact trivial) ?_
                    exact WP_iret rfl rfl rfl ⟨_, rfl, ok T (by omega)⟩
                  · refine WP_n 2 rfl ?_
                    refine WP2_callV 1 ok_M_G_no rfl rfl rfl rfl rfl rfl (Nat.le_of_ble_eq_true rfl) (Nat.le_of_ble_eq_true rfl) rfl rfl ?_
                    refine sp_no (k := 6) rfl (by omega) ?_
                    exact WP_iret rfl rfl rfl ⟨_, rfl, r6 (by omega)⟩
        · refine WP_n 2 rfl ?_
          refine WP2_callV 1 ok_M_G_no rfl rfl rfl rfl rfl rfl (Nat.le_of_ble_eq_true rfl) (Nat.le_of_ble_eq_true rfl) rfl rfl ?_
          refine sp_no (k := 4) rfl (by omega) ?_
          exact WP_iret rfl rfl rfl ⟨_, rfl, r4 (by omega)⟩
theorem pr_team {P : PP} {n : Nat} {FI A L : Nat → Nat → Int} {X : SX} (h : INV P n FI A X) (hn : n < 512) {s9 e9 l9 b9 : Int} (hs9 : inR s9) (he9 : inR e9) (hl9 : inR l9) (hb9 : inR b9) : PAIR P n (FI, A, L, X) M_F_team [some (vr 5), some (vi s9), some (vi e9), some (vi l9), some (vi b9), none, none] M_G_team [some (vr 165), some (vi s9), some (vi e9), some (vi l9), some (vi b9)] := by
  intro d
  have hm := h.mI
  have hn5 := h.1
  have hcI := h.2.1
  have hk1 := hcI.1
  have g1 := h.2.2.1.1
  obtain ⟨ls9, us9⟩ := id hs9
  obtain ⟨le9, ue9⟩ := id he9
  obtain ⟨ll9, ul9⟩ := id hl9
  obtain ⟨lb9, ub9⟩ := id hb9
  refine sp_F_team hs9 he9 hl9 hb9 hcI hn5 (fun c1 => ?_) (fun c1 => ?_) (fun T c1 => ?_)
  · refine ⟨_, rfl, ?_⟩
    refine sp_G_team hs9 he9 hl9 hb9 (hm.up (by omega)) (fun c2 => ?_) (fun c2 => ?_) (fun T' c2 => ?_)
    · exact ⟨rfl, INV_ref h hn (by omega)⟩
    · exfalso; omega
    · exfalso; omega
  · refine ⟨_, rfl, ?_⟩
    refine sp_G_team hs9 he9 hl9 hb9 (hm.up (by omega)) (fun c2 => ?_) (fun c2 => ?_) (fun T' c2 => ?_)
    · exfalso; omega
    · exact ⟨rfl, INV_ref h hn (by omega)⟩
    · exfalso; omega
  · refine ⟨_, rfl, ?_⟩
    have eF : up2 FI 6 8 ((T : Int) + 1) 165 0 = FI 165 0 := up2_ne (by omega)
    refine sp_G_team hs9 he9 hl9 hb9 ((((((hm.upF (by omega)).up (by omega)).up (by omega)).up (by omega)).up (by omega))) (fun c2 => ?_) (fun c2 => ?_) (fun T' c2 => ?_)
    · exfalso; omega
    · exfalso; omega
    · obtain rfl : T = T' := by omega
      exact ⟨rfl, INV_team h hn (by omega) (by omega) (by omega) (by omega) (by omega) (by omega)⟩
theorem sp_F_person {P : PP} {d n : Nat} {FI A L : Nat → Nat → Int} {X : SX} {Q : Option AV → S2 → Prop} {t o s9 : Int} (ht : inR t) (ho : inR o) (hs9 : inR s9) (hI : cI n FI A) (hn5 : n ≤ 512) (r1 : ((t < 0 ∨ FI 6 8 ≤ t)) → Q (some (vi (-1))) (FI, rfC A 1, L, X)) (r4 : (0 ≤ t ∧ t < FI 6 8 ∧ (o < 0 ∨ s9 < 0)) → Q (some (vi (-4))) (FI, rfC A 4, L, X)) (r6 : (∃ T : Nat, t = (T : Int) ∧ (T : Int) < FI 6 8 ∧ 0 ≤ o ∧ 0 ≤ s9 ∧ (31 < o ∨ 64 < s9 ∨ A (20 + T) 7 = 20)) → Q (some (vi (-6))) (FI, rfC A 6, L, X)) (ok : ∀ T q9 : Nat, (t = (T : Int) ∧ (T : Int) < FI 6 8 ∧ 0 ≤ o ∧ o ≤ 31 ∧ 0 ≤ s9 ∧ s9 ≤ 64 ∧ q9 < 20 ∧ A (20 + T) 7 = (q9 : Int)) → Q (some (vi ((q9 : Int)))) (FI, up2 (up2 (up2 A (88 + T) q9 o) (105 + T) q9 s9) (20 + T) 7 ((q9 : Int) + 1), L, X)) : WP2 P M_F_person (d + 2) 0 [some (vr 5), some (vi t), some (vi o), some (vi s9), none] [] (FI, A, L, X) Q := by
  obtain ⟨lt, ut⟩ := id ht
  obtain ⟨lo, uo⟩ := id ho
  obtain ⟨ls9, us9⟩ := id hs9
  have hcc := hI.1
  refine WP_n 2 rfl ?_
  refine WP2_callV 1 ok_M_F_noTeam rfl rfl rfl rfl rfl rfl (Nat.le_of_ble_eq_true rfl) (Nat.le_of_ble_eq_true rfl) rfl rfl ?_
  refine sp_noTeam ht ⟨by omega, by omega⟩ (fun hTt => ?_) (fun hTt hTtb => ?_)
  · refine WP_ifeq rfl rfl ⟨by decide, by decide⟩  (fun h3 => absurd h3 (by decide)) (fun h3 => ?_)
    refine WP_n 2 rfl ?_
    refine WP2_callV 1 ok_M_F_refuse rfl rfl rfl rfl rfl rfl (Nat.le_of_ble_eq_true rfl) (Nat.le_of_ble_eq_true rfl) rfl rfl ?_
    refine sp_refuse (k := 1) rfl (by omega) ?_
    exact WP_iret rfl rfl rfl ⟨_, rfl, r1 (by omega)⟩
  · refine WP_ifeq rfl rfl ⟨by decide, by decide⟩  (fun h3 => ?_) (fun h3 => absurd (by decide) h3)
    refine WP_n 1 rfl ?_
    refine WP_iflt rfl rfl ⟨by omega, by omega⟩ (fun h9 => ?_) (fun h9 => ?_)
    · refine WP_n 2 rfl ?_
      refine WP2_callV 1 ok_M_F_refuse rfl rfl rfl rfl rfl rfl (Nat.le_of_ble_eq_true rfl) (Nat.le_of_ble_eq_true rfl) rfl rfl ?_
      refine sp_refuse (k := 4) rfl (by omega) ?_
      exact WP_iret rfl rfl rfl ⟨_, rfl, r4 (by omega)⟩
    · refine WP_n 1 rfl ?_
      refine WP_ifge rfl rfl ⟨by omega, by omega⟩ (fun h11 => ?_) (fun h11 => ?_)
      · obtain ⟨T, rfl⟩ : ∃ T : Nat, t = (T : Int) := ⟨t.toNat, by omega⟩
        have hq := hI.2.2.2.1 T (by omega)
        unfold cTm at hq
        obtain ⟨q9, hq9⟩ : ∃ q : Nat, A (20 + T) 7 = (q : Int) := ⟨(A (20 + T) 7).toNat, by omega⟩
        refine WP_n 1 rfl ?_
        refine WP2_getf rfl rfl rfl rfl rfl ?_
        refine WP2_getf rfl rfl rfl rfl rfl ?_
        refine WP_n 1 rfl ?_
        refine WP2_aald (b := 20) (j := T) (n := 16) rfl rfl rfl rfl rfl (by omega) (by omega) ?_
        refine WP_n 1 rfl ?_
        refine WP2_iald (j := 7) rfl rfl (ia_tm (by omega)) (by omega) (by omega) (by omega) ?_
        rw [hq9]
        refine WP_n 3 rfl ?_
        refine WP_icmpgt rfl rfl ⟨by omega, by omega⟩ ⟨by omega, by omega⟩ (fun h26 => ?_) (fun h26 => ?_)
        · refine WP_n 2 rfl ?_
          refine WP2_callV 1 ok_M_F_refuse rfl rfl rfl rfl rfl rfl (Nat.le_of_ble_eq_true rfl) (Nat.le_of_ble_eq_true rfl) rfl rfl ?_
          refine sp_refuse (k := 6) rfl (by omega) ?_
          exact WP_iret rfl rfl rfl ⟨_, rfl, r6 ⟨T, by omega⟩⟩
        · refine WP_n 2 rfl ?_
          refine WP_icmpgt rfl rfl ⟨by omega, by omega⟩ ⟨by omega, by omega⟩ (fun h29 => ?_) (fun h29 => ?_)
          · refine WP_n 2 rfl ?_
            refine WP2_callV 1 ok_M_F_refuse rfl rfl rfl rfl rfl rfl (Nat.le_of_ble_eq_true rfl) (Nat.le_of_ble_eq_true rfl) rfl rfl ?_
            refine sp_refuse (k := 6) rfl (by omega) ?_
            exact WP_iret rfl rfl rfl ⟨_, rfl, r6 ⟨T, by omega⟩⟩
          · refine WP_n 2 rfl ?_
            refine WP_icmplt rfl rfl ⟨by omega, by omega⟩ ⟨by omega, by omega⟩ (fun h32 => ?_) (fun h32 => ?_)
            · refine WP_n 1 rfl ?_
              refine WP2_getf rfl rfl rfl rfl rfl ?_
              refine WP2_getf rfl rfl rfl rfl rfl ?_
              refine WP_n 1 rfl ?_
              refine WP2_aald (b := 88) (j := T) (n := 16) rfl rfl rfl rfl rfl (by omega) (by omega) ?_
              refine WP_n 2 rfl ?_
              refine WP2_iast (j := q9) rfl rfl (ia_hm (by omega)) (by omega) (by omega) (by omega) ?_
              refine WP_n 1 rfl ?_
              refine WP2_getf rfl rfl rfl rfl rfl ?_
              refine WP2_getf rfl rfl rfl rfl rfl ?_
              refine WP_n 1 rfl ?_
              refine WP2_aald (b := 105) (j := T) (n := 16) rfl rfl rfl rfl rfl (by omega) (by omega) ?_
              refine WP_n 2 rfl ?_
              refine WP2_iast (j := q9) rfl rfl (ia_su (by omega)) (by omega) (by omega) (by omega) ?_
              refine WP_n 1 rfl ?_
              refine WP2_getf rfl rfl rfl rfl rfl ?_
              refine WP2_getf rfl rfl rfl rfl rfl ?_
              refine WP_n 1 rfl ?_
              refine WP2_aald (b := 20) (j := T) (n := 16) rfl rfl rfl rfl rfl (by omega) (by omega) ?_
              refine WP_n 4 rfl ?_
              refine WP2_iast (j := 7) rfl rfl (ia_tm (by omega)) (by omega) (by omega) (by omega) ?_
              refine WP_n 1 rfl ?_
              exact WP_iret rfl rfl rfl ⟨_, rfl, ok T q9 (by omega)⟩
            · refine WP_n 2 rfl ?_
              refine WP2_callV 1 ok_M_F_refuse rfl rfl rfl rfl rfl rfl (Nat.le_of_ble_eq_true rfl) (Nat.le_of_ble_eq_true rfl) rfl rfl ?_
              refine sp_refuse (k := 6) rfl (by omega) ?_
              exact WP_iret rfl rfl rfl ⟨_, rfl, r6 ⟨T, by omega⟩⟩
      · refine WP_n 2 rfl ?_
        refine WP2_callV 1 ok_M_F_refuse rfl rfl rfl rfl rfl rfl (Nat.le_of_ble_eq_true rfl) (Nat.le_of_ble_eq_true rfl) rfl rfl ?_
        refine sp_refuse (k := 4) rfl (by omega) ?_
        exact WP_iret rfl rfl rfl ⟨_, rfl, r4 (by omega)⟩
theorem sp_G_person {P : PP} {d n : Nat} {FI A L : Nat → Nat → Int} {X : SX} {Q : Option AV → S2 → Prop} {t o s9 : Int} (ht : inR t) (ho : inR o) (hs9 : inR s9) (hI : mI n FI A) (r1 : ((t < 0 ∨ FI 165 0 ≤ t)) → Q (some (vi (-1))) (FI, rfG A 1, L, X)) (r4 : (0 ≤ t ∧ t < FI 165 0 ∧ (o < 0 ∨ s9 < 0)) → Q (some (vi (-4))) (FI, rfG A 4, L, X)) (r6 : (∃ T : Nat, t = (T : Int) ∧ (T : Int) < FI 165 0 ∧ 0 ≤ o ∧ 0 ≤ s9 ∧ (31 < o ∨ 64 < s9 ∨ A 176 T = 20)) → Q (some (vi (-6))) (FI, rfG A 6, L, X)) (ok : ∀ T q9 : Nat, (t = (T : Int) ∧ (T : Int) < FI 165 0 ∧ 0 ≤ o ∧ o ≤ 31 ∧ 0 ≤ s9 ∧ s9 ≤ 64 ∧ q9 < 20 ∧ A 176 T = (q9 : Int)) → Q (some (vi ((q9 : Int)))) (FI, up2 (up2 (up2 A 182 (20 * T + q9) o) 183 (20 * T + q9) s9) 176 T ((q9 : Int) + 1), L, X)) : WP2 P M_G_person (d + 2) 0 [some (vr 165), some (vi t), some (vi o), some (vi s9)] [] (FI, A, L, X) Q := by
  obtain ⟨lt, ut⟩ := id ht
  obtain ⟨lo, uo⟩ := id ho
  obtain ⟨ls9, us9⟩ := id hs9
  have hcc := hI.2.1
  refine WP_n 2 rfl ?_
  refine WP2_callV 1 ok_M_G_isTeam rfl rfl rfl rfl rfl rfl (Nat.le_of_ble_eq_true rfl) (Nat.le_of_ble_eq_true rfl) rfl rfl ?_
  refine sp_isTeam ht ⟨by omega, by omega⟩ (fun hTt => ?_) (fun hTt hTtb => ?_)
  · refine WP_ifne rfl rfl ⟨by decide, by decide⟩  (fun h3 => absurd h3 (by decide)) (fun h3 => ?_)
    refine WP_n 2 rfl ?_
    refine WP2_callV 1 ok_M_G_no rfl rfl rfl rfl rfl rfl (Nat.le_of_ble_eq_true rfl) (Nat.le_of_ble_eq_true rfl) rfl rfl ?_
    refine sp_no (k := 1) rfl (by omega) ?_
    exact WP_iret rfl rfl rfl ⟨_, rfl, r1 (by omega)⟩
  · refine WP_ifne rfl rfl ⟨by decide, by decide⟩  (fun h3 => ?_) (fun h3 => absurd (by decide) h3)
    refine WP_n 1 rfl ?_
    refine WP_iflt rfl rfl ⟨by omega, by omega⟩ (fun h9 => ?_) (fun h9 => ?_)
    · refine WP_n 2 rfl ?_
      refine WP2_callV 1 ok_M_G_no rfl rfl rfl rfl rfl rfl (Nat.le_of_ble_eq_true rfl) (Nat.le_of_ble_eq_true rfl) rfl rfl ?_
      refine sp_no (k := 4) rfl (by omega) ?_
      exact WP_iret rfl rfl rfl ⟨_, rfl, r4 (by omega)⟩
    · refine WP_n 1 rfl ?_
      refine WP_ifge rfl rfl ⟨by omega, by omega⟩ (fun h11 => ?_) (fun h11 => ?_)
      · obtain ⟨T, rfl⟩ : ∃ T : Nat, t = (T : Int) := ⟨t.toNat, by omega⟩
        have hq := hI.2.2.2.2.1 T (by omega)
        unfold mTm at hq
        obtain ⟨q9, hq9⟩ : ∃ q : Nat, A 176 T = (q : Int) := ⟨(A 176 T).toNat, by omega⟩
        refine WP_n 2 rfl ?_
        refine WP_icmpgt rfl rfl ⟨by omega, by omega⟩ ⟨by omega, by omega⟩ (fun h18 => ?_) (fun h18 => ?_)
        · refine WP_n 2 rfl ?_
          refine WP2_callV 1 ok_M_G_no rfl rfl rfl rfl rfl rfl (Nat.le_of_ble_eq_true rfl) (Nat.le_of_ble_eq_true rfl) rfl rfl ?_
          refine sp_no (k := 6) rfl (by omega) ?_
          exact WP_iret rfl rfl rfl ⟨_, rfl, r6 ⟨T, by omega⟩⟩
        · refine WP_n 2 rfl ?_
          refine WP_icmpgt rfl rfl ⟨by omega, by omega⟩ ⟨by omega, by omega⟩ (fun h21 => ?_) (fun h21 => ?_)
          · refine WP_n 2 rfl ?_
            refine WP2_callV 1 ok_M_G_no rfl rfl rfl rfl rfl rfl (Nat.le_of_ble_eq_true rfl) (Nat.le_of_ble_eq_true rfl) rfl rfl ?_
            refine sp_no (k := 6) rfl (by omega) ?_
            exact WP_iret rfl rfl rfl ⟨_, rfl, r6 ⟨T, by omega⟩⟩
          · refine WP_n 1 rfl ?_
            refine WP2_getf rfl rfl rfl rfl rfl ?_
            refine WP_n 1 rfl ?_
            refine WP2_iald (j := T) rfl rfl (ia_lit (n := 16) rfl rfl (by omega)) (by omega) (by omega) (by omega) ?_
            refine WP_n 1 rfl ?_
            refine WP_icmpne rfl rfl ⟨by omega, by omega⟩ ⟨by omega, by omega⟩ (fun h27 => ?_) (fun h27 => ?_)
            · refine WP_n 1 rfl ?_
              refine WP2_getf rfl rfl rfl rfl rfl ?_
              refine WP_n 4 rfl ?_
              refine WP2_getf rfl rfl rfl rfl rfl ?_
              refine WP_n 1 rfl ?_
              refine WP2_iald (j := T) rfl rfl (ia_lit (n := 16) rfl rfl (by omega)) (by omega) (by omega) (by omega) ?_
              rw [hq9]
              refine WP_n 2 rfl ?_
              refine WP2_iast (j := (20 * T + q9)) rfl rfl (ia_lit (n := 320) rfl rfl (by omega)) (by omega) (by omega) (by omega) ?_
              refine WP_n 1 rfl ?_
              refine WP2_getf rfl rfl rfl rfl rfl ?_
              refine WP_n 4 rfl ?_
              refine WP2_getf rfl rfl rfl rfl rfl ?_
              refine WP_n 1 rfl ?_
              refine WP2_iald (j := T) rfl rfl (ia_lit (n := 16) rfl rfl (by omega)) (by omega) (by omega) (by omega) ?_
              rw [up2_ne (by omega), hq9]
              refine WP_n 2 rfl ?_
              refine WP2_iast (j := (20 * T + q9)) rfl rfl (ia_lit (n := 320) rfl rfl (by omega)) (by omega) (by omega) (by omega) ?_
              refine WP_n 1 rfl ?_
              refine WP2_getf rfl rfl rfl rfl rfl ?_
              refine WP_n 2 rfl ?_
              refine WP2_iald (j := T) rfl rfl (ia_lit (n := 16) rfl rfl (by omega)) (by omega) (by omega) (by omega) ?_
              rw [up2_ne (by omega), up2_ne (by omega), hq9]
              refine WP_n 3 rfl ?_
              refine WP2_iast (j := T) rfl rfl (ia_lit (n := 16) rfl rfl (by omega)) (by omega) (by omega) (by omega) ?_
              exact WP_iret rfl rfl rfl ⟨_, rfl, ok T q9 (by omega)⟩
            · refine WP_n 2 rfl ?_
              refine WP2_callV 1 ok_M_G_no rfl rfl rfl rfl rfl rfl (Nat.le_of_ble_eq_true rfl) (Nat.le_of_ble_eq_true rfl) rfl rfl ?_
              refine sp_no (k := 6) rfl (by omega) ?_
              exact WP_iret rfl rfl rfl ⟨_, rfl, r6 ⟨T, by omega⟩⟩
      · refine WP_n 2 rfl ?_
        refine WP2_callV 1 ok_M_G_no rfl rfl rfl rfl rfl rfl (Nat.le_of_ble_eq_true rfl) (Nat.le_of_ble_eq_true rfl) rfl rfl ?_
        refine sp_no (k := 4) rfl (by omega) ?_
        exact WP_iret rfl rfl rfl ⟨_, rfl, r4 (by omega)⟩
theorem pr_person {P : PP} {n : Nat} {FI A L : Nat → Nat → Int} {X : SX} (h : INV P n FI A X) (hn : n < 512) {t o s9 : Int} (ht : inR t) (ho : inR o) (hs9 : inR s9) : PAIR P n (FI, A, L, X) M_F_person [some (vr 5), some (vi t), some (vi o), some (vi s9), none] M_G_person [some (vr 165), some (vi t), some (vi o), some (vi s9)] := by
  intro d
  have hm := h.mI
  have hn5 := h.1
  have hcI := h.2.1
  have hk1 := hcI.1
  have g1 := h.2.2.1.1
  have gp : ∀ T, T < 16 → A 176 T = A (20 + T) 7 := fun T hT => (h.2.2.1.2.2.2.1 T hT).2.1
  refine sp_F_person ht ho hs9 hcI hn5 (fun c1 => ?_) (fun c1 => ?_) (fun c1 => ?_) (fun T q9 c1 => ?_)
  · refine ⟨_, rfl, ?_⟩
    refine sp_G_person ht ho hs9 (hm.up (by omega)) (fun c2 => ?_) (fun c2 => ?_) (fun c2 => ?_) (fun T' q9' c2 => ?_)
    · exact ⟨rfl, INV_ref h hn (by omega)⟩
    · exfalso; omega
    · obtain ⟨T', c2⟩ := c2
      exfalso; omega
    · exfalso; omega
  · refine ⟨_, rfl, ?_⟩
    refine sp_G_person ht ho hs9 (hm.up (by omega)) (fun c2 => ?_) (fun c2 => ?_) (fun c2 => ?_) (fun T' q9' c2 => ?_)
    · exfalso; omega
    · exact ⟨rfl, INV_ref h hn (by omega)⟩
    · obtain ⟨T', c2⟩ := c2
      exfalso; omega
    · exfalso; omega
  · obtain ⟨T, c1⟩ := c1
    have e := gp T (by omega)
    refine ⟨_, rfl, ?_⟩
    refine sp_G_person ht ho hs9 (hm.up (by omega)) (fun c2 => ?_) (fun c2 => ?_) (fun c2 => ?_) (fun T' q9' c2 => ?_)
    · exfalso; omega
    · exfalso; omega
    · exact ⟨rfl, INV_ref h hn (by omega)⟩
    · obtain rfl : T = T' := by omega
      simp (disch := omega) only [up2_ne] at c2
      exfalso; omega
  · have e := gp T (by omega)
    have hq := hcI.2.2.2.1 T (by omega)
    unfold cTm at hq
    refine ⟨_, rfl, ?_⟩
    refine sp_G_person ht ho hs9 (((hm.up (by omega)).up (by omega)).up (by omega)) (fun c2 => ?_) (fun c2 => ?_) (fun c2 => ?_) (fun T' q9' c2 => ?_)
    · exfalso; omega
    · exfalso; omega
    · obtain ⟨T', c2⟩ := c2
      obtain rfl : T = T' := by omega
      simp (disch := omega) only [up2_ne] at c2
      exfalso; omega
    · obtain rfl : T = T' := by omega
      simp (disch := omega) only [up2_ne] at c2
      obtain rfl : q9 = q9' := by omega
      exact ⟨rfl, INV_person h hn (by omega) (by omega) (by omega) (by omega) (by omega) (by omega)⟩
def tbO (W : Nat) : Nat := cond (W == 0) 36 (cond (W == 1) 53 70)
theorem sp_tableOf {P : PP} {d : Nat} {S : S2} {Q : Option AV → S2 → Prop} {W : Nat} (hW : W < 3) (hq : Q (some (vr (tbO W))) S) : WP2 P M_H_tableOf d 0 [some (vr 6), some (vi (W : Int))] [] S Q := by
  obtain ⟨FI, A, L, X⟩ := S
  rcases (show W = 0 ∨ W = 1 ∨ W = 2 by omega) with rfl | rfl | rfl
  · refine WP_n 1 rfl ?_
    refine WP_ifne rfl rfl ⟨by decide, by decide⟩  (fun h1 => absurd h1 (by decide)) (fun h1 => ?_)
    refine WP_n 1 rfl ?_
    refine WP2_getf rfl rfl rfl rfl rfl ?_
    exact WP_aret rfl rfl rfl ⟨_, rfl, hq⟩
  · refine WP_n 1 rfl ?_
    refine WP_ifne rfl rfl ⟨by decide, by decide⟩  (fun h1 => ?_) (fun h1 => absurd (by decide) h1)
    refine WP_n 2 rfl ?_
    refine WP_icmpne rfl rfl ⟨by decide, by decide⟩ ⟨by decide, by decide⟩  (fun h7 => absurd h7 (by decide)) (fun h7 => ?_)
    refine WP_n 1 rfl ?_
    refine WP2_getf rfl rfl rfl rfl rfl ?_
    refine WP_n 1 rfl ?_
    exact WP_aret rfl rfl rfl ⟨_, rfl, hq⟩
  · refine WP_n 1 rfl ?_
    refine WP_ifne rfl rfl ⟨by decide, by decide⟩  (fun h1 => ?_) (fun h1 => absurd (by decide) h1)
    refine WP_n 2 rfl ?_
    refine WP_icmpne rfl rfl ⟨by decide, by decide⟩ ⟨by decide, by decide⟩  (fun h7 => ?_) (fun h7 => absurd (by decide) h7)
    refine WP_n 1 rfl ?_
    refine WP2_getf rfl rfl rfl rfl rfl ?_
    exact WP_aret rfl rfl rfl ⟨_, rfl, hq⟩
theorem sp_F_two {P : PP} {d n : Nat} {FI A L : Nat → Nat → Int} {X : SX} {Q : Option AV → S2 → Prop} {a b w v : Int} (ha : inR a) (hb : inR b) (hw : inR w) (hv : inR v) (hI : cI n FI A) (hn5 : n ≤ 512) (r1 : ((a < 0 ∨ FI 6 8 ≤ a) ∨ (b < 0 ∨ FI 6 8 ≤ b) ∨ a = b) → Q (some (vi (-1))) (FI, rfC A 1, L, X)) (r2 : (0 ≤ a ∧ a < FI 6 8 ∧ 0 ≤ b ∧ b < FI 6 8 ∧ a ≠ b ∧ (w < 0 ∨ 3 ≤ w)) → Q (some (vi (-2))) (FI, rfC A 2, L, X)) (r4 : (0 ≤ a ∧ a < FI 6 8 ∧ 0 ≤ b ∧ b < FI 6 8 ∧ a ≠ b ∧ 0 ≤ w ∧ w < 3 ∧ v < 0) → Q (some (vi (-4))) (FI, rfC A 4, L, X)) (r6 : ((0 ≤ a ∧ a < FI 6 8 ∧ 0 ≤ b ∧ b < FI 6 8 ∧ a ≠ b) ∧ ∃ W : Nat, w = (W : Int) ∧ W < 3 ∧ 0 ≤ v ∧ TMt W < v) → Q (some (vi (-6))) (FI, rfC A 6, L, X)) (ok : ∀ a9 b9 W : Nat, (a = (a9 : Int) ∧ b = (b9 : Int) ∧ (a9 : Int) < FI 6 8 ∧ (b9 : Int) < FI 6 8 ∧ a9 ≠ b9 ∧ w = (W : Int) ∧ W < 3 ∧ 0 ≤ v ∧ v ≤ TMt W) → Q (some (vi (up2 A (tbO W + 1 + a9) b9 v (tbO W + 1 + b9) a9))) (FI, up2 (up2 A (tbO W + 1 + a9) b9 v) (tbO W + 1 + b9) a9 v, L, X)) : WP2 P M_F_two (d + 2) 0 [some (vr 5), some (vi a), some (vi b), some (vi w), some (vi v), none] [] (FI, A, L, X) Q := by
  obtain ⟨la, ua⟩ := id ha
  obtain ⟨lb, ub⟩ := id hb
  obtain ⟨lw, uw⟩ := id hw
  obtain ⟨lv, uv⟩ := id hv
  have hcc := hI.1
  refine WP_n 2 rfl ?_
  refine WP2_callV 1 ok_M_F_noTeam rfl rfl rfl rfl rfl rfl (Nat.le_of_ble_eq_true rfl) (Nat.le_of_ble_eq_true rfl) rfl rfl ?_
  refine sp_noTeam ha ⟨by omega, by omega⟩ (fun hTa => ?_) (fun hTa hTab => ?_)
  · refine WP_ifne rfl rfl ⟨by decide, by decide⟩  (fun h3 => ?_) (fun h3 => absurd (by decide) h3)
    refine WP_n 2 rfl ?_
    refine WP2_callV 1 ok_M_F_refuse rfl rfl rfl rfl rfl rfl (Nat.le_of_ble_eq_true rfl) (Nat.le_of_ble_eq_true rfl) rfl rfl ?_
    refine sp_refuse (k := 1) rfl (by omega) ?_
    exact WP_iret rfl rfl rfl ⟨_, rfl, r1 (by omega)⟩
  · refine WP_ifne rfl rfl ⟨by decide, by decide⟩  (fun h3 => absurd h3 (by decide)) (fun h3 => ?_)
    refine WP_n 2 rfl ?_
    refine WP2_callV 1 ok_M_F_noTeam rfl rfl rfl rfl rfl rfl (Nat.le_of_ble_eq_true rfl) (Nat.le_of_ble_eq_true rfl) rfl rfl ?_
    refine sp_noTeam hb ⟨by omega, by omega⟩ (fun hTb => ?_) (fun hTb hTbb => ?_)
    · refine WP_ifne rfl rfl ⟨by decide, by decide⟩  (fun h7 => ?_) (fun h7 => absurd (by decide) h7)
      refine WP_n 2 rfl ?_
      refine WP2_callV 1 ok_M_F_refuse rfl rfl rfl rfl rfl rfl (Nat.le_of_ble_eq_true rfl) (Nat.le_of_ble_eq_true rfl) rfl rfl ?_
      refine sp_refuse (k := 1) rfl (by omega) ?_
      exact WP_iret rfl rfl rfl ⟨_, rfl, r1 (by omega)⟩
    · refine WP_ifne rfl rfl ⟨by decide, by decide⟩  (fun h7 => absurd h7 (by decide)) (fun h7 => ?_)
      refine WP_n 2 rfl ?_
      refine WP_icmpne rfl rfl ⟨by omega, by omega⟩ ⟨by omega, by omega⟩ (fun h10 => ?_) (fun h10 => ?_)
      · obtain ⟨a9, rfl⟩ : ∃ a9 : Nat, a = (a9 : Int) := ⟨a.toNat, by omega⟩
        obtain ⟨b9, rfl⟩ : ∃ b9 : Nat, b = (b9 : Int) := ⟨b.toNat, by omega⟩
        refine WP_n 1 rfl ?_
        refine WP_iflt rfl rfl ⟨by omega, by omega⟩ (fun h16 => ?_) (fun h16 => ?_)
        · refine WP_n 2 rfl ?_
          refine WP2_callV 1 ok_M_F_refuse rfl rfl rfl rfl rfl rfl (Nat.le_of_ble_eq_true rfl) (Nat.le_of_ble_eq_true rfl) rfl rfl ?_
          refine sp_refuse (k := 2) rfl (by omega) ?_
          exact WP_iret rfl rfl rfl ⟨_, rfl, r2 (by omega)⟩
        · refine WP_n 1 rfl ?_
          refine WP2_gets (x := 3) rfl rfl rfl ?_
          refine WP2_alen rfl rfl (ia_lit (n := 3) rfl rfl (by omega)) ?_
          refine WP_icmplt rfl rfl ⟨by omega, by omega⟩ ⟨by omega, by omega⟩ (fun h20 => ?_) (fun h20 => ?_)
          · obtain ⟨W, rfl⟩ : ∃ W : Nat, w = (W : Int) := ⟨w.toNat, by omega⟩
            refine WP_n 1 rfl ?_
            refine WP_ifge rfl rfl ⟨by omega, by omega⟩ (fun h26 => ?_) (fun h26 => ?_)
            · refine WP_n 1 rfl ?_
              refine WP2_gets (x := 3) rfl rfl rfl ?_
              refine WP_n 1 rfl ?_
              refine WP2_ialds (j := W) rfl rfl (ia_lit (n := 3) rfl rfl (by omega)) (by omega) (by omega) (by omega) ?_
              refine WP_icmple rfl rfl ⟨by omega, by omega⟩ (TMt_R W (by omega)) (fun h35 => ?_) (fun h35 => ?_)
              · rcases (show W = 0 ∨ W = 1 ∨ W = 2 by omega) with rfl | rfl | rfl
                · refine WP_n 1 rfl ?_
                  refine WP2_getf rfl rfl rfl rfl rfl ?_
                  refine WP_n 1 rfl ?_
                  refine WP2_callV 1 ok_M_H_tableOf rfl rfl rfl rfl rfl rfl (Nat.le_of_ble_eq_true rfl) (Nat.le_of_ble_eq_true rfl) rfl rfl ?_
                  refine sp_tableOf (W := 0) (by omega) ?_
                  refine WP_n 3 rfl ?_
                  refine WP2_aald (b := 37) (j := a9) (n := 16) rfl rfl rfl rfl rfl (by omega) (by omega) ?_
                  refine WP_n 2 rfl ?_
                  refine WP2_callS 3 ok_M_F_exchange rfl rfl rfl rfl rfl rfl rfl (Nat.le_of_ble_eq_true rfl) (Nat.le_of_ble_eq_true rfl) ?_
                  refine sp_exchange (ia_vs (by omega)) (by omega) rfl (by omega) (by omega) ?_
                  refine WP_n 3 rfl ?_
                  refine WP2_aald (b := 37) (j := b9) (n := 16) rfl rfl rfl rfl rfl (by omega) (by omega) ?_
                  refine WP_n 2 rfl ?_
                  refine WP2_callS 3 ok_M_F_exchange rfl rfl rfl rfl rfl rfl rfl (Nat.le_of_ble_eq_true rfl) (Nat.le_of_ble_eq_true rfl) ?_
                  refine sp_exchange (ia_vs (by omega)) (by omega) rfl (by omega) (by omega) ?_
                  exact WP_iret rfl rfl rfl ⟨_, rfl, ok a9 b9 0 ⟨rfl, rfl, by omega, by omega, by omega, rfl, by omega, by omega, h35⟩⟩
                · refine WP_n 1 rfl ?_
                  refine WP2_getf rfl rfl rfl rfl rfl ?_
                  refine WP_n 1 rfl ?_
                  refine WP2_callV 1 ok_M_H_tableOf rfl rfl rfl rfl rfl rfl (Nat.le_of_ble_eq_true rfl) (Nat.le_of_ble_eq_true rfl) rfl rfl ?_
                  refine sp_tableOf (W := 1) (by omega) ?_
                  refine WP_n 3 rfl ?_
                  refine WP2_aald (b := 54) (j := a9) (n := 16) rfl rfl rfl rfl rfl (by omega) (by omega) ?_
                  refine WP_n 2 rfl ?_
                  refine WP2_callS 3 ok_M_F_exchange rfl rfl rfl rfl rfl rfl rfl (Nat.le_of_ble_eq_true rfl) (Nat.le_of_ble_eq_true rfl) ?_
                  refine sp_exchange (ia_br (by omega)) (by omega) rfl (by omega) (by omega) ?_
                  refine WP_n 3 rfl ?_
                  refine WP2_aald (b := 54) (j := b9) (n := 16) rfl rfl rfl rfl rfl (by omega) (by omega) ?_
                  refine WP_n 2 rfl ?_
                  refine WP2_callS 3 ok_M_F_exchange rfl rfl rfl rfl rfl rfl rfl (Nat.le_of_ble_eq_true rfl) (Nat.le_of_ble_eq_true rfl) ?_
                  refine sp_exchange (ia_br (by omega)) (by omega) rfl (by omega) (by omega) ?_
                  exact WP_iret rfl rfl rfl ⟨_, rfl, ok a9 b9 1 ⟨rfl, rfl, by omega, by omega, by omega, rfl, by omega, by omega, h35⟩⟩
                · refine WP_n 1 rfl ?_
                  refine WP2_getf rfl rfl rfl rfl rfl ?_
                  refine WP_n 1 rfl ?_
                  refine WP2_callV 1 ok_M_H_tableOf rfl rfl rfl rfl rfl rfl (Nat.le_of_ble_eq_true rfl) (Nat.le_of_ble_eq_true rfl) rfl rfl ?_
                  refine sp_tableOf (W := 2) (by omega) ?_
                  refine WP_n 3 rfl ?_
                  refine WP2_aald (b := 71) (j := a9) (n := 16) rfl rfl rfl rfl rfl (by omega) (by omega) ?_
                  refine WP_n 2 rfl ?_
                  refine WP2_callS 3 ok_M_F_exchange rfl rfl rfl rfl rfl rfl rfl (Nat.le_of_ble_eq_true rfl) (Nat.le_of_ble_eq_true rfl) ?_
                  refine sp_exchange (ia_nr (by omega)) (by omega) rfl (by omega) (by omega) ?_
                  refine WP_n 3 rfl ?_
                  refine WP2_aald (b := 71) (j := b9) (n := 16) rfl rfl rfl rfl rfl (by omega) (by omega) ?_
                  refine WP_n 2 rfl ?_
                  refine WP2_callS 3 ok_M_F_exchange rfl rfl rfl rfl rfl rfl rfl (Nat.le_of_ble_eq_true rfl) (Nat.le_of_ble_eq_true rfl) ?_
                  refine sp_exchange (ia_nr (by omega)) (by omega) rfl (by omega) (by omega) ?_
                  exact WP_iret rfl rfl rfl ⟨_, rfl, ok a9 b9 2 ⟨rfl, rfl, by omega, by omega, by omega, rfl, by omega, by omega, h35⟩⟩
              · refine WP_n 2 rfl ?_
                refine WP2_callV 1 ok_M_F_refuse rfl rfl rfl rfl rfl rfl (Nat.le_of_ble_eq_true rfl) (Nat.le_of_ble_eq_true rfl) rfl rfl ?_
                refine sp_refuse (k := 6) rfl (by omega) ?_
                exact WP_iret rfl rfl rfl ⟨_, rfl, r6 ⟨by omega, W, by omega, by omega, by omega, Int.not_le.mp h35⟩⟩
            · refine WP_n 2 rfl ?_
              refine WP2_callV 1 ok_M_F_refuse rfl rfl rfl rfl rfl rfl (Nat.le_of_ble_eq_true rfl) (Nat.le_of_ble_eq_true rfl) rfl rfl ?_
              refine sp_refuse (k := 4) rfl (by omega) ?_
              exact WP_iret rfl rfl rfl ⟨_, rfl, r4 (by omega)⟩
          · refine WP_n 2 rfl ?_
            refine WP2_callV 1 ok_M_F_refuse rfl rfl rfl rfl rfl rfl (Nat.le_of_ble_eq_true rfl) (Nat.le_of_ble_eq_true rfl) rfl rfl ?_
            refine sp_refuse (k := 2) rfl (by omega) ?_
            exact WP_iret rfl rfl rfl ⟨_, rfl, r2 (by omega)⟩
      · refine WP_n 2 rfl ?_
        refine WP2_callV 1 ok_M_F_refuse rfl rfl rfl rfl rfl rfl (Nat.le_of_ble_eq_true rfl) (Nat.le_of_ble_eq_true rfl) rfl rfl ?_
        refine sp_refuse (k := 1) rfl (by omega) ?_
        exact WP_iret rfl rfl rfl ⟨_, rfl, r1 (by omega)⟩
theorem sp_G_two {P : PP} {d n : Nat} {FI A L : Nat → Nat → Int} {X : SX} {Q : Option AV → S2 → Prop} {a b w v : Int} (ha : inR a) (hb : inR b) (hw : inR w) (hv : inR v) (hI : mI n FI A) (r1 : ((a < 0 ∨ FI 165 0 ≤ a) ∨ (b < 0 ∨ FI 165 0 ≤ b) ∨ a = b) → Q (some (vi (-1))) (FI, rfG A 1, L, X)) (r2 : (0 ≤ a ∧ a < FI 165 0 ∧ 0 ≤ b ∧ b < FI 165 0 ∧ a ≠ b ∧ (w < 0 ∨ 3 ≤ w)) → Q (some (vi (-2))) (FI, rfG A 2, L, X)) (r4 : (0 ≤ a ∧ a < FI 165 0 ∧ 0 ≤ b ∧ b < FI 165 0 ∧ a ≠ b ∧ 0 ≤ w ∧ w < 3 ∧ v < 0) → Q (some (vi (-4))) (FI, rfG A 4, L, X)) (r6 : ((0 ≤ a ∧ a < FI 165 0 ∧ 0 ≤ b ∧ b < FI 165 0 ∧ a ≠ b) ∧ ∃ W : Nat, w = (W : Int) ∧ W < 3 ∧ 0 ≤ v ∧ TMt W < v) → Q (some (vi (-6))) (FI, rfG A 6, L, X)) (ok : ∀ a9 b9 W : Nat, (a = (a9 : Int) ∧ b = (b9 : Int) ∧ (a9 : Int) < FI 165 0 ∧ (b9 : Int) < FI 165 0 ∧ a9 ≠ b9 ∧ w = (W : Int) ∧ W < 3 ∧ 0 ≤ v ∧ v ≤ TMt W) → Q (some (vi (A (179 + W) (16 * a9 + b9)))) (FI, up2 (up2 A (179 + W) (16 * a9 + b9) v) (179 + W) (16 * b9 + a9) v, L, X)) : WP2 P M_G_two (d + 2) 0 [some (vr 165), some (vi a), some (vi b), some (vi w), some (vi v), none, none] [] (FI, A, L, X) Q := by
  obtain ⟨la, ua⟩ := id ha
  obtain ⟨lb, ub⟩ := id hb
  obtain ⟨lw, uw⟩ := id hw
  obtain ⟨lv, uv⟩ := id hv
  have hcc := hI.2.1
  refine WP_n 2 rfl ?_
  refine WP2_callV 1 ok_M_G_isTeam rfl rfl rfl rfl rfl rfl (Nat.le_of_ble_eq_true rfl) (Nat.le_of_ble_eq_true rfl) rfl rfl ?_
  refine sp_isTeam ha ⟨by omega, by omega⟩ (fun hTa => ?_) (fun hTa hTab => ?_)
  · refine WP_ifeq rfl rfl ⟨by decide, by decide⟩  (fun h3 => ?_) (fun h3 => absurd (by decide) h3)
    refine WP_n 2 rfl ?_
    refine WP2_callV 1 ok_M_G_no rfl rfl rfl rfl rfl rfl (Nat.le_of_ble_eq_true rfl) (Nat.le_of_ble_eq_true rfl) rfl rfl ?_
    refine sp_no (k := 1) rfl (by omega) ?_
    exact WP_iret rfl rfl rfl ⟨_, rfl, r1 (by omega)⟩
  · refine WP_ifeq rfl rfl ⟨by decide, by decide⟩  (fun h3 => absurd h3 (by decide)) (fun h3 => ?_)
    refine WP_n 2 rfl ?_
    refine WP2_callV 1 ok_M_G_isTeam rfl rfl rfl rfl rfl rfl (Nat.le_of_ble_eq_true rfl) (Nat.le_of_ble_eq_true rfl) rfl rfl ?_
    refine sp_isTeam hb ⟨by omega, by omega⟩ (fun hTb => ?_) (fun hTb hTbb => ?_)
    · refine WP_ifeq rfl rfl ⟨by decide, by decide⟩  (fun h7 => ?_) (fun h7 => absurd (by decide) h7)
      refine WP_n 2 rfl ?_
      refine WP2_callV 1 ok_M_G_no rfl rfl rfl rfl rfl rfl (Nat.le_of_ble_eq_true rfl) (Nat.le_of_ble_eq_true rfl) rfl rfl ?_
      refine sp_no (k := 1) rfl (by omega) ?_
      exact WP_iret rfl rfl rfl ⟨_, rfl, r1 (by omega)⟩
    · refine WP_ifeq rfl rfl ⟨by decide, by decide⟩  (fun h7 => absurd h7 (by decide)) (fun h7 => ?_)
      refine WP_n 2 rfl ?_
      refine WP_icmpne rfl rfl ⟨by omega, by omega⟩ ⟨by omega, by omega⟩ (fun h10 => ?_) (fun h10 => ?_)
      · obtain ⟨a9, rfl⟩ : ∃ a9 : Nat, a = (a9 : Int) := ⟨a.toNat, by omega⟩
        obtain ⟨b9, rfl⟩ : ∃ b9 : Nat, b = (b9 : Int) := ⟨b.toNat, by omega⟩
        refine WP_n 1 rfl ?_
        refine WP_iflt rfl rfl ⟨by omega, by omega⟩ (fun h16 => ?_) (fun h16 => ?_)
        · refine WP_n 2 rfl ?_
          refine WP2_callV 1 ok_M_G_no rfl rfl rfl rfl rfl rfl (Nat.le_of_ble_eq_true rfl) (Nat.le_of_ble_eq_true rfl) rfl rfl ?_
          refine sp_no (k := 2) rfl (by omega) ?_
          exact WP_iret rfl rfl rfl ⟨_, rfl, r2 (by omega)⟩
        · refine WP_n 2 rfl ?_
          refine WP_icmple rfl rfl ⟨by omega, by omega⟩ ⟨by omega, by omega⟩ (fun h19 => ?_) (fun h19 => ?_)
          · refine WP_n 1 rfl ?_
            refine WP_ifge rfl rfl ⟨by omega, by omega⟩ (fun h25 => ?_) (fun h25 => ?_)
            · obtain ⟨W, rfl⟩ : ∃ W : Nat, w = (W : Int) := ⟨w.toNat, by omega⟩
              rcases (show W = 0 ∨ W = 1 ∨ W = 2 by omega) with rfl | rfl | rfl
              · refine WP_n 2 rfl ?_
                refine WP_ifne rfl rfl ⟨by decide, by decide⟩  (fun h32 => absurd h32 (by decide)) (fun h32 => ?_)
                refine WP_n 2 rfl ?_
                refine WP_icmple rfl rfl ⟨by omega, by omega⟩ ⟨by omega, by omega⟩ (fun h36 => ?_) (fun h36 => ?_)
                · refine WP_n 1 rfl ?_
                  refine WP_ifne rfl rfl ⟨by decide, by decide⟩  (fun h42 => absurd h42 (by decide)) (fun h42 => ?_)
                  refine WP_n 1 rfl ?_
                  refine WP2_getf rfl rfl rfl rfl rfl ?_
                  refine WP_n 8 rfl ?_
                  refine WP2_iald (j := ((16 * a9) + b9)) rfl rfl (ia_lit (n := 256) rfl rfl (by omega)) (by omega) (by omega) (by omega) ?_
                  refine WP_n 8 rfl ?_
                  refine WP2_iast (j := ((16 * a9) + b9)) rfl rfl (ia_lit (n := 256) rfl rfl (by omega)) (by omega) (by omega) (by omega) ?_
                  refine WP_n 7 rfl ?_
                  refine WP2_iast (j := ((16 * b9) + a9)) rfl rfl (ia_lit (n := 256) rfl rfl (by omega)) (by omega) (by omega) (by omega) ?_
                  refine WP_n 1 rfl ?_
                  exact WP_iret rfl rfl rfl ⟨_, rfl, ok a9 b9 0 ⟨rfl, rfl, by omega, by omega, by omega, rfl, by omega, by omega, by simp [TMt]; omega⟩⟩
                · refine WP_n 2 rfl ?_
                  refine WP2_callV 1 ok_M_G_no rfl rfl rfl rfl rfl rfl (Nat.le_of_ble_eq_true rfl) (Nat.le_of_ble_eq_true rfl) rfl rfl ?_
                  refine sp_no (k := 6) rfl (by omega) ?_
                  exact WP_iret rfl rfl rfl ⟨_, rfl, r6 ⟨by omega, 0, rfl, by omega, by omega, by simp [TMt]; omega⟩⟩
              · refine WP_n 2 rfl ?_
                refine WP_ifne rfl rfl ⟨by decide, by decide⟩  (fun h32 => ?_) (fun h32 => absurd (by decide) h32)
                refine WP_n 1 rfl ?_
                refine WP_icmple rfl rfl ⟨by omega, by omega⟩ ⟨by omega, by omega⟩ (fun h36 => ?_) (fun h36 => ?_)
                · refine WP_n 1 rfl ?_
                  refine WP_ifne rfl rfl ⟨by decide, by decide⟩  (fun h42 => ?_) (fun h42 => absurd (by decide) h42)
                  refine WP_n 2 rfl ?_
                  refine WP_icmpne rfl rfl ⟨by decide, by decide⟩ ⟨by decide, by decide⟩  (fun h48 => absurd h48 (by decide)) (fun h48 => ?_)
                  refine WP_n 1 rfl ?_
                  refine WP2_getf rfl rfl rfl rfl rfl ?_
                  refine WP_n 8 rfl ?_
                  refine WP2_iald (j := ((16 * a9) + b9)) rfl rfl (ia_lit (n := 256) rfl rfl (by omega)) (by omega) (by omega) (by omega) ?_
                  refine WP_n 8 rfl ?_
                  refine WP2_iast (j := ((16 * a9) + b9)) rfl rfl (ia_lit (n := 256) rfl rfl (by omega)) (by omega) (by omega) (by omega) ?_
                  refine WP_n 7 rfl ?_
                  refine WP2_iast (j := ((16 * b9) + a9)) rfl rfl (ia_lit (n := 256) rfl rfl (by omega)) (by omega) (by omega) (by omega) ?_
                  refine WP_n 1 rfl ?_
                  exact WP_iret rfl rfl rfl ⟨_, rfl, ok a9 b9 1 ⟨rfl, rfl, by omega, by omega, by omega, rfl, by omega, by omega, by simp [TMt]; omega⟩⟩
                · refine WP_n 2 rfl ?_
                  refine WP2_callV 1 ok_M_G_no rfl rfl rfl rfl rfl rfl (Nat.le_of_ble_eq_true rfl) (Nat.le_of_ble_eq_true rfl) rfl rfl ?_
                  refine sp_no (k := 6) rfl (by omega) ?_
                  exact WP_iret rfl rfl rfl ⟨_, rfl, r6 ⟨by omega, 1, rfl, by omega, by omega, by simp [TMt]; omega⟩⟩
              · refine WP_n 2 rfl ?_
                refine WP_ifne rfl rfl ⟨by decide, by decide⟩  (fun h32 => ?_) (fun h32 => absurd (by decide) h32)
                refine WP_n 1 rfl ?_
                refine WP_icmple rfl rfl ⟨by omega, by omega⟩ ⟨by omega, by omega⟩ (fun h36 => ?_) (fun h36 => ?_)
                · refine WP_n 1 rfl ?_
                  refine WP_ifne rfl rfl ⟨by decide, by decide⟩  (fun h42 => ?_) (fun h42 => absurd (by decide) h42)
                  refine WP_n 2 rfl ?_
                  refine WP_icmpne rfl rfl ⟨by decide, by decide⟩ ⟨by decide, by decide⟩  (fun h48 => ?_) (fun h48 => absurd (by decide) h48)
                  refine WP_n 1 rfl ?_
                  refine WP2_getf rfl rfl rfl rfl rfl ?_
                  refine WP_n 7 rfl ?_
                  refine WP2_iald (j := ((16 * a9) + b9)) rfl rfl (ia_lit (n := 256) rfl rfl (by omega)) (by omega) (by omega) (by omega) ?_
                  refine WP_n 8 rfl ?_
                  refine WP2_iast (j := ((16 * a9) + b9)) rfl rfl (ia_lit (n := 256) rfl rfl (by omega)) (by omega) (by omega) (by omega) ?_
                  refine WP_n 7 rfl ?_
                  refine WP2_iast (j := ((16 * b9) + a9)) rfl rfl (ia_lit (n := 256) rfl rfl (by omega)) (by omega) (by omega) (by omega) ?_
                  refine WP_n 1 rfl ?_
                  exact WP_iret rfl rfl rfl ⟨_, rfl, ok a9 b9 2 ⟨rfl, rfl, by omega, by omega, by omega, rfl, by omega, by omega, by simp [TMt]; omega⟩⟩
                · refine WP_n 2 rfl ?_
                  refine WP2_callV 1 ok_M_G_no rfl rfl rfl rfl rfl rfl (Nat.le_of_ble_eq_true rfl) (Nat.le_of_ble_eq_true rfl) rfl rfl ?_
                  refine sp_no (k := 6) rfl (by omega) ?_
                  exact WP_iret rfl rfl rfl ⟨_, rfl, r6 ⟨by omega, 2, rfl, by omega, by omega, by simp [TMt]; omega⟩⟩
            · refine WP_n 2 rfl ?_
              refine WP2_callV 1 ok_M_G_no rfl rfl rfl rfl rfl rfl (Nat.le_of_ble_eq_true rfl) (Nat.le_of_ble_eq_true rfl) rfl rfl ?_
              refine sp_no (k := 4) rfl (by omega) ?_
              exact WP_iret rfl rfl rfl ⟨_, rfl, r4 (by omega)⟩
          · refine WP_n 2 rfl ?_
            refine WP2_callV 1 ok_M_G_no rfl rfl rfl rfl rfl rfl (Nat.le_of_ble_eq_true rfl) (Nat.le_of_ble_eq_true rfl) rfl rfl ?_
            refine sp_no (k := 2) rfl (by omega) ?_
            exact WP_iret rfl rfl rfl ⟨_, rfl, r2 (by omega)⟩
      · refine WP_n 2 rfl ?_
        refine WP2_callV 1 ok_M_G_no rfl rfl rfl rfl rfl rfl (Nat.le_of_ble_eq_true rfl) (Nat.le_of_ble_eq_true rfl) rfl rfl ?_
        refine sp_no (k := 1) rfl (by omega) ?_
        exact WP_iret rfl rfl rfl ⟨_, rfl, r1 (by omega)⟩
end
section
/-! two and teamOf, both sides -/
theorem pr_two {P : PP} {n : Nat} {FI A L : Nat → Nat → Int} {X : SX} (h : INV P n FI A X) (hn : n < 512) {a b w v : Int} (ha : inR a) (hb : inR b) (hw : inR w) (hv : inR v) : PAIR P n (FI, A, L, X) M_F_two [some (vr 5), some (vi a), some (vi b), some (vi w), some (vi v), none] M_G_two [some (vr 165), some (vi a), some (vi b), some (vi w), some (vi v), none, none] := by
  intro d
  have hm := h.mI
  have hn5 := h.1
  have hcI := h.2.1
  have hk1 := hcI.1
  have g1 := h.2.2.1.1
  refine sp_F_two ha hb hw hv hcI hn5 (fun c1 => ?_) (fun c1 => ?_) (fun c1 => ?_) (fun c1 => ?_) (fun a9 b9 W c1 => ?_)
  · refine ⟨_, rfl, ?_⟩
    refine sp_G_two ha hb hw hv (hm.up (by omega)) (fun c2 => ?_) (fun c2 => ?_) (fun c2 => ?_) (fun c2 => ?_) (fun a9' b9' W' c2 => ?_)
    · exact ⟨rfl, INV_ref h hn (by omega)⟩
    · exfalso; omega
    · exfalso; omega
    · obtain ⟨c20, W', c21, c22, c23, c24⟩ := c2
      exfalso; omega
    · exfalso; omega
  · refine ⟨_, rfl, ?_⟩
    refine sp_G_two ha hb hw hv (hm.up (by omega)) (fun c2 => ?_) (fun c2 => ?_) (fun c2 => ?_) (fun c2 => ?_) (fun a9' b9' W' c2 => ?_)
    · exfalso; omega
    · exact ⟨rfl, INV_ref h hn (by omega)⟩
    · exfalso; omega
    · obtain ⟨c20, W', c21, c22, c23, c24⟩ := c2
      exfalso; omega
    · exfalso; omega
  · refine ⟨_, rfl, ?_⟩
    refine sp_G_two ha hb hw hv (hm.up (by omega)) (fun c2 => ?_) (fun c2 => ?_) (fun c2 => ?_) (fun c2 => ?_) (fun a9' b9' W' c2 => ?_)
    · exfalso; omega
    · exfalso; omega
    · exact ⟨rfl, INV_ref h hn (by omega)⟩
    · obtain ⟨c20, W', c21, c22, c23, c24⟩ := c2
      exfalso; omega
    · exfalso; omega
  · obtain ⟨q0, W, q1, q2, q3, q4⟩ := c1
    refine ⟨_, rfl, ?_⟩
    refine sp_G_two ha hb hw hv (hm.up (by omega)) (fun c2 => ?_) (fun c2 => ?_) (fun c2 => ?_) (fun c2 => ?_) (fun a9' b9' W' c2 => ?_)
    · exfalso; omega
    · exfalso; omega
    · exfalso; omega
    · exact ⟨rfl, INV_ref h hn (by omega)⟩
    · obtain rfl : W = W' := by omega
      exfalso; omega
  · obtain ⟨q1, q2, q3, q4, q5, q6, q7, q8, q9⟩ := c1
    refine ⟨_, rfl, ?_⟩
    have hu : tbO W < 100 := by rcases (show W = 0 ∨ W = 1 ∨ W = 2 by omega) with rfl | rfl | rfl <;> decide
    refine sp_G_two ha hb hw hv ((hm.up (by omega)).up (by omega)) (fun c2 => ?_) (fun c2 => ?_) (fun c2 => ?_) (fun c2 => ?_) (fun a9' b9' W' c2 => ?_)
    · exfalso; omega
    · exfalso; omega
    · exfalso; omega
    · obtain ⟨c20, W', c21, c22, c23, c24⟩ := c2
      obtain rfl : W = W' := by omega
      exfalso; omega
    · obtain ⟨z1, z2, z3, z4, z5, z6, z7, z8, z9⟩ := c2
      obtain rfl : a9 = a9' := by omega
      obtain rfl : b9 = b9' := by omega
      obtain rfl : W = W' := by omega
      have k5 := hcI.2.2.2.2.1 a9 b9 (by omega) (by omega)
      have g5 := h.2.2.1.2.2.2.2.1 a9 b9 (by omega) (by omega)
      unfold cTw at k5
      unfold gTw at g5
      rcases (show W = 0 ∨ W = 1 ∨ W = 2 by omega) with rfl | rfl | rfl
      · have e : tbO 0 + 1 = 37 := rfl
        rw [e]
        simp only [TMt, List.getD_cons_zero, List.getD_cons_succ] at q9
        refine ⟨?_, INV_two0 h hn (by omega) (by omega) (by omega) (by omega)⟩
        simp (disch := omega) only [up2_ne]
        have : A (179 + 0) (16 * a9 + b9) = A (37 + b9) a9 := by
          show A 179 (16 * a9 + b9) = _
          omega
        rw [this]
      · have e : tbO 1 + 1 = 54 := rfl
        rw [e]
        simp only [TMt, List.getD_cons_zero, List.getD_cons_succ] at q9
        refine ⟨?_, INV_two1 h hn (by omega) (by omega) (by omega) (by omega)⟩
        simp (disch := omega) only [up2_ne]
        have : A (179 + 1) (16 * a9 + b9) = A (54 + b9) a9 := by
          show A 180 (16 * a9 + b9) = _
          omega
        rw [this]
      · have e : tbO 2 + 1 = 71 := rfl
        rw [e]
        simp only [TMt, List.getD_cons_zero, List.getD_cons_succ] at q9
        refine ⟨?_, INV_two2 h hn (by omega) (by omega) (by omega) (by omega)⟩
        simp (disch := omega) only [up2_ne]
        have : A (179 + 2) (16 * a9 + b9) = A (71 + b9) a9 := by
          show A 181 (16 * a9 + b9) = _
          omega
        rw [this]
def mfa (W : Nat) : Nat := [170, 171, 172, 173, 174, 178, 175, 176, 177].getD W 0
theorem sp_F_teamOf {P : PP} {d n : Nat} {FI A L : Nat → Nat → Int} {X : SX} {Q : Option AV → S2 → Prop} {t w : Int} (ht : inR t) (hw : inR w) (hI : cI n FI A) (hn5 : n ≤ 512) (r1 : ((t < 0 ∨ FI 6 8 ≤ t)) → Q (some (vi (-1))) (FI, rfC A 1, L, X)) (r2 : (0 ≤ t ∧ t < FI 6 8 ∧ (w < 0 ∨ 9 ≤ w)) → Q (some (vi (-2))) (FI, rfC A 2, L, X)) (ok : ∀ T W : Nat, (t = (T : Int) ∧ (T : Int) < FI 6 8 ∧ w = (W : Int) ∧ W < 9) → Q (some (vi (A (20 + T) W))) (FI, A, L, X)) : WP2 P M_F_teamOf (d + 2) 0 [some (vr 5), some (vi t), some (vi w)] [] (FI, A, L, X) Q := by
  obtain ⟨lt, ut⟩ := id ht
  obtain ⟨lw, uw⟩ := id hw
  have hcc := hI.1
  refine WP_n 2 rfl ?_
  refine WP2_callV 1 ok_M_F_noTeam rfl rfl rfl rfl rfl rfl (Nat.le_of_ble_eq_true rfl) (Nat.le_of_ble_eq_true rfl) rfl rfl ?_
  refine sp_noTeam ht ⟨by omega, by omega⟩ (fun hTt => ?_) (fun hTt hTtb => ?_)
  · refine WP_ifeq rfl rfl ⟨by decide, by decide⟩  (fun h3 => absurd h3 (by decide)) (fun h3 => ?_)
    refine WP_n 2 rfl ?_
    refine WP2_callV 1 ok_M_F_refuse rfl rfl rfl rfl rfl rfl (Nat.le_of_ble_eq_true rfl) (Nat.le_of_ble_eq_true rfl) rfl rfl ?_
    refine sp_refuse (k := 1) rfl (by omega) ?_
    exact WP_iret rfl rfl rfl ⟨_, rfl, r1 (by omega)⟩
  · refine WP_ifeq rfl rfl ⟨by decide, by decide⟩  (fun h3 => ?_) (fun h3 => absurd (by decide) h3)
    refine WP_n 1 rfl ?_
    refine WP_iflt rfl rfl ⟨by omega, by omega⟩ (fun h9 => ?_) (fun h9 => ?_)
    · refine WP_n 2 rfl ?_
      refine WP2_callV 1 ok_M_F_refuse rfl rfl rfl rfl rfl rfl (Nat.le_of_ble_eq_true rfl) (Nat.le_of_ble_eq_true rfl) rfl rfl ?_
      refine sp_refuse (k := 2) rfl (by omega) ?_
      exact WP_iret rfl rfl rfl ⟨_, rfl, r2 (by omega)⟩
    · refine WP_n 2 rfl ?_
      refine WP_icmplt rfl rfl ⟨by omega, by omega⟩ ⟨by omega, by omega⟩ (fun h12 => ?_) (fun h12 => ?_)
      · obtain ⟨T, rfl⟩ : ∃ T : Nat, t = (T : Int) := ⟨t.toNat, by omega⟩
        obtain ⟨W, rfl⟩ : ∃ W : Nat, w = (W : Int) := ⟨w.toNat, by omega⟩
        refine WP_n 1 rfl ?_
        refine WP2_getf rfl rfl rfl rfl rfl ?_
        refine WP2_getf rfl rfl rfl rfl rfl ?_
        refine WP_n 1 rfl ?_
        refine WP2_aald (b := 20) (j := T) (n := 16) rfl rfl rfl rfl rfl (by omega) (by omega) ?_
        refine WP_n 1 rfl ?_
        refine WP2_iald (j := W) rfl rfl (ia_tm (by omega)) (by omega) (by omega) (by omega) ?_
        exact WP_iret rfl rfl rfl ⟨_, rfl, ok T W (by omega)⟩
      · refine WP_n 2 rfl ?_
        refine WP2_callV 1 ok_M_F_refuse rfl rfl rfl rfl rfl rfl (Nat.le_of_ble_eq_true rfl) (Nat.le_of_ble_eq_true rfl) rfl rfl ?_
        refine sp_refuse (k := 2) rfl (by omega) ?_
        exact WP_iret rfl rfl rfl ⟨_, rfl, r2 (by omega)⟩
theorem sp_G_teamOf {P : PP} {d n : Nat} {FI A L : Nat → Nat → Int} {X : SX} {Q : Option AV → S2 → Prop} {t w : Int} (ht : inR t) (hw : inR w) (hI : mI n FI A) (r1 : ((t < 0 ∨ FI 165 0 ≤ t)) → Q (some (vi (-1))) (FI, rfG A 1, L, X)) (r2 : (0 ≤ t ∧ t < FI 165 0 ∧ (w < 0 ∨ 9 ≤ w)) → Q (some (vi (-2))) (FI, rfG A 2, L, X)) (ok : ∀ T W : Nat, (t = (T : Int) ∧ (T : Int) < FI 165 0 ∧ w = (W : Int) ∧ W < 9) → Q (some (vi (A (mfa W) T))) (FI, A, L, X)) : WP2 P M_G_teamOf (d + 2) 0 [some (vr 165), some (vi t), some (vi w)] [] (FI, A, L, X) Q := by
  obtain ⟨lt, ut⟩ := id ht
  obtain ⟨lw, uw⟩ := id hw
  have hcc := hI.2.1
  refine WP_n 2 rfl ?_
  refine WP2_callV 1 ok_M_G_isTeam rfl rfl rfl rfl rfl rfl (Nat.le_of_ble_eq_true rfl) (Nat.le_of_ble_eq_true rfl) rfl rfl ?_
  refine sp_isTeam ht ⟨by omega, by omega⟩ (fun hTt => ?_) (fun hTt hTtb => ?_)
  · refine WP_ifne rfl rfl ⟨by decide, by decide⟩  (fun h3 => absurd h3 (by decide)) (fun h3 => ?_)
    refine WP_n 2 rfl ?_
    refine WP2_callV 1 ok_M_G_no rfl rfl rfl rfl rfl rfl (Nat.le_of_ble_eq_true rfl) (Nat.le_of_ble_eq_true rfl) rfl rfl ?_
    refine sp_no (k := 1) rfl (by omega) ?_
    exact WP_iret rfl rfl rfl ⟨_, rfl, r1 (by omega)⟩
  · refine WP_ifne rfl rfl ⟨by decide, by decide⟩  (fun h3 => ?_) (fun h3 => absurd (by decide) h3)
    obtain ⟨T, rfl⟩ : ∃ T : Nat, t = (T : Int) := ⟨t.toNat, by omega⟩
    have hq := hI.2.2.2.2.1 T (by omega)
    unfold mTm at hq
    by_cases hw9 : w < 0 ∨ 9 ≤ w
    · refine WP_n 1 rfl ?_
      refine WP_tsOut (tgt := 59) rfl rfl ⟨by omega, by omega⟩ (by omega) rfl ?_
      refine WP_n 2 rfl ?_
      refine WP2_callV 1 ok_M_G_no rfl rfl rfl rfl rfl rfl (Nat.le_of_ble_eq_true rfl) (Nat.le_of_ble_eq_true rfl) rfl rfl ?_
      refine sp_no (k := 2) rfl (by omega) ?_
      exact WP_iret rfl rfl rfl ⟨_, rfl, r2 (by omega)⟩
    · obtain ⟨W, rfl⟩ : ∃ W : Nat, w = (W : Int) := ⟨w.toNat, by omega⟩
      rcases (show W = 0 ∨ W = 1 ∨ W = 2 ∨ W = 3 ∨ W = 4 ∨ W = 5 ∨ W = 6 ∨ W = 7 ∨ W = 8 by omega) with rfl | rfl | rfl | rfl | rfl | rfl | rfl | rfl | rfl
      · refine WP_n 1 rfl ?_
        refine WP_tsIn (tgt := 10) rfl rfl ⟨by decide, by decide⟩ (by decide) (by decide) rfl rfl ?_
        refine WP_n 1 rfl ?_
        refine WP2_getf rfl rfl rfl rfl rfl ?_
        refine WP_n 1 rfl ?_
        refine WP2_iald (j := T) rfl rfl (ia_lit (n := 16) rfl rfl (by omega)) (by omega) (by omega) (by omega) ?_
        exact WP_iret rfl rfl rfl ⟨_, rfl, ok T 0 (by omega)⟩
      · refine WP_n 1 rfl ?_
        refine WP_tsIn (tgt := 15) rfl rfl ⟨by decide, by decide⟩ (by decide) (by decide) rfl rfl ?_
        refine WP_n 1 rfl ?_
        refine WP2_getf rfl rfl rfl rfl rfl ?_
        refine WP_n 1 rfl ?_
        refine WP2_iald (j := T) rfl rfl (ia_lit (n := 16) rfl rfl (by omega)) (by omega) (by omega) (by omega) ?_
        exact WP_iret rfl rfl rfl ⟨_, rfl, ok T 1 (by omega)⟩
      · refine WP_n 1 rfl ?_
        refine WP_tsIn (tgt := 20) rfl rfl ⟨by decide, by decide⟩ (by decide) (by decide) rfl rfl ?_
        refine WP_n 1 rfl ?_
        refine WP2_getf rfl rfl rfl rfl rfl ?_
        refine WP_n 1 rfl ?_
        refine WP2_iald (j := T) rfl rfl (ia_lit (n := 16) rfl rfl (by omega)) (by omega) (by omega) (by omega) ?_
        exact WP_iret rfl rfl rfl ⟨_, rfl, ok T 2 (by omega)⟩
      · refine WP_n 1 rfl ?_
        refine WP_tsIn (tgt := 25) rfl rfl ⟨by decide, by decide⟩ (by decide) (by decide) rfl rfl ?_
        refine WP_n 1 rfl ?_
        refine WP2_getf rfl rfl rfl rfl rfl ?_
        refine WP_n 1 rfl ?_
        refine WP2_iald (j := T) rfl rfl (ia_lit (n := 16) rfl rfl (by omega)) (by omega) (by omega) (by omega) ?_
        exact WP_iret rfl rfl rfl ⟨_, rfl, ok T 3 (by omega)⟩
      · refine WP_n 1 rfl ?_
        refine WP_tsIn (tgt := 30) rfl rfl ⟨by decide, by decide⟩ (by decide) (by decide) rfl rfl ?_
        refine WP_n 1 rfl ?_
        refine WP2_getf rfl rfl rfl rfl rfl ?_
        refine WP_n 1 rfl ?_
        refine WP2_iald (j := T) rfl rfl (ia_lit (n := 16) rfl rfl (by omega)) (by omega) (by omega) (by omega) ?_
        exact WP_iret rfl rfl rfl ⟨_, rfl, ok T 4 (by omega)⟩
      · refine WP_n 1 rfl ?_
        refine WP_tsIn (tgt := 35) rfl rfl ⟨by decide, by decide⟩ (by decide) (by decide) rfl rfl ?_
        refine WP_n 1 rfl ?_
        refine WP2_getf rfl rfl rfl rfl rfl ?_
        refine WP_n 1 rfl ?_
        refine WP2_zald (j := T) rfl rfl rfl (by omega) (by omega) ?_
        refine WP_ifeq rfl rfl ⟨by omega, by omega⟩ (fun h39 => ?_) (fun h39 => ?_)
        · refine WP_n 1 rfl ?_
          refine WP_iret rfl rfl rfl ⟨_, rfl, ?_⟩
          have ok := ok T 5 (by omega)
          have e : A 178 T = 0 := by omega
          have e2 : A (mfa 5) T = 0 := e
          rw [e2] at ok
          exact ok
        · refine WP_n 2 rfl ?_
          refine WP_iret rfl rfl rfl ⟨_, rfl, ?_⟩
          have ok := ok T 5 (by omega)
          have e : A 178 T = 1 := by omega
          have e2 : A (mfa 5) T = 1 := e
          rw [e2] at ok
          exact ok
      · refine WP_n 1 rfl ?_
        refine WP_tsIn (tgt := 44) rfl rfl ⟨by decide, by decide⟩ (by decide) (by decide) rfl rfl ?_
        refine WP_n 1 rfl ?_
        refine WP2_getf rfl rfl rfl rfl rfl ?_
        refine WP_n 1 rfl ?_
        refine WP2_iald (j := T) rfl rfl (ia_lit (n := 16) rfl rfl (by omega)) (by omega) (by omega) (by omega) ?_
        exact WP_iret rfl rfl rfl ⟨_, rfl, ok T 6 (by omega)⟩
      · refine WP_n 1 rfl ?_
        refine WP_tsIn (tgt := 49) rfl rfl ⟨by decide, by decide⟩ (by decide) (by decide) rfl rfl ?_
        refine WP_n 1 rfl ?_
        refine WP2_getf rfl rfl rfl rfl rfl ?_
        refine WP_n 1 rfl ?_
        refine WP2_iald (j := T) rfl rfl (ia_lit (n := 16) rfl rfl (by omega)) (by omega) (by omega) (by omega) ?_
        exact WP_iret rfl rfl rfl ⟨_, rfl, ok T 7 (by omega)⟩
      · refine WP_n 1 rfl ?_
        refine WP_tsIn (tgt := 54) rfl rfl ⟨by decide, by decide⟩ (by decide) (by decide) rfl rfl ?_
        refine WP_n 1 rfl ?_
        refine WP2_getf rfl rfl rfl rfl rfl ?_
        refine WP_n 1 rfl ?_
        refine WP2_iald (j := T) rfl rfl (ia_lit (n := 16) rfl rfl (by omega)) (by omega) (by omega) (by omega) ?_
        exact WP_iret rfl rfl rfl ⟨_, rfl, ok T 8 (by omega)⟩
theorem pr_teamOf {P : PP} {n : Nat} {FI A L : Nat → Nat → Int} {X : SX} (h : INV P n FI A X) (hn : n < 512) {t w : Int} (ht : inR t) (hw : inR w) : PAIR P n (FI, A, L, X) M_F_teamOf [some (vr 5), some (vi t), some (vi w)] M_G_teamOf [some (vr 165), some (vi t), some (vi w)] := by
  intro d
  have hm := h.mI
  have hn5 := h.1
  have hcI := h.2.1
  have hk1 := hcI.1
  have g1 := h.2.2.1.1
  obtain ⟨lt, ut⟩ := id ht
  obtain ⟨lw, uw⟩ := id hw
  refine sp_F_teamOf ht hw hcI hn5 (fun c1 => ?_) (fun c1 => ?_) (fun T W c1 => ?_)
  · refine ⟨_, rfl, ?_⟩
    refine sp_G_teamOf ht hw (hm.up (by omega)) (fun c2 => ?_) (fun c2 => ?_) (fun T' W' c2 => ?_)
    · exact ⟨rfl, INV_ref h hn (by omega)⟩
    · exfalso; omega
    · exfalso; omega
  · refine ⟨_, rfl, ?_⟩
    refine sp_G_teamOf ht hw (hm.up (by omega)) (fun c2 => ?_) (fun c2 => ?_) (fun T' W' c2 => ?_)
    · exfalso; omega
    · exact ⟨rfl, INV_ref h hn (by omega)⟩
    · exfalso; omega
  · refine ⟨_, rfl, ?_⟩
    refine sp_G_teamOf ht hw hm (fun c2 => ?_) (fun c2 => ?_) (fun T' W' c2 => ?_)
    · exfalso; omega
    · exfalso; omega
    · obtain rfl : T = T' := by omega
      obtain rfl : W = W' := by omega
      refine ⟨?_, h.next hn⟩
      have g := h.2.2.1.2.2.2.1 T (by omega)
      unfold gTm at g
      rcases (show W = 0 ∨ W = 1 ∨ W = 2 ∨ W = 3 ∨ W = 4 ∨ W = 5 ∨ W = 6 ∨ W = 7 ∨ W = 8 by omega) with rfl | rfl | rfl | rfl | rfl | rfl | rfl | rfl | rfl
      · show some (vi (A 170 T)) = some (vi (A (20 + T) 0))
        rw [show A 170 T = A (20 + T) 0 by omega]
      · show some (vi (A 171 T)) = some (vi (A (20 + T) 1))
        rw [show A 171 T = A (20 + T) 1 by omega]
      · show some (vi (A 172 T)) = some (vi (A (20 + T) 2))
        rw [show A 172 T = A (20 + T) 2 by omega]
      · show some (vi (A 173 T)) = some (vi (A (20 + T) 3))
        rw [show A 173 T = A (20 + T) 3 by omega]
      · show some (vi (A 174 T)) = some (vi (A (20 + T) 4))
        rw [show A 174 T = A (20 + T) 4 by omega]
      · show some (vi (A 178 T)) = some (vi (A (20 + T) 5))
        rw [show A 178 T = A (20 + T) 5 by omega]
      · show some (vi (A 175 T)) = some (vi (A (20 + T) 6))
        rw [show A 175 T = A (20 + T) 6 by omega]
      · show some (vi (A 176 T)) = some (vi (A (20 + T) 7))
        rw [show A 176 T = A (20 + T) 7 by omega]
      · show some (vi (A 177 T)) = some (vi (A (20 + T) 8))
        rw [show A 177 T = A (20 + T) 8 by omega]
end
section
/-! a local that is no longer looked at -/
theorem lvR.kill {f : Nat → Nat} {LS : Array Slot} {n : Nat} {ls : LV} (k : Nat) (h : lvR f LS n ls) : lvR f LS n (ls.set k none) := by
  refine ⟨h.1, h.2.1, fun j v hj => ?_⟩
  rw [List.getElem?_set] at hj
  split at hj
  · split at hj <;> simp at hj
  · exact h.2.2 j v hj
theorem WP_kill {M : Mth} {d ip : Nat} {ls : LV} {st : List AV} {h : Hp} {Q : Option AV → Hp → Prop} (k : Nat) (w : WP M d ip (ls.set k none) st h Q) : WP M d ip ls st h Q := by
  obtain ⟨v, h', ⟨a, b, j⟩, hq⟩ := w
  refine ⟨v, h', ⟨a, b, fun p l e R s m args below meth c U0 a0 D pre cx H locs n0 s0 Qf LS hR hlo hn hs hl hc1 hc2 hret => ?_⟩, hq⟩
  exact j p l e R s m args below meth c U0 a0 D pre cx H locs n0 s0 Qf LS hR hlo hn hs (hl.kill k) hc1 hc2 hret
theorem WP2_kill {P : PP} {M : Mth} {d ip : Nat} {ls : LV} {st : List AV} {S : S2} {Q : Option AV → S2 → Prop} (k : Nat) (w : WP2 P M d ip (ls.set k none) st S Q) : WP2 P M d ip ls st S Q := WP_kill k w
theorem WP_deep {M : Mth} {d d' ip : Nat} {ls : LV} {st : List AV} {h : Hp} {Q : Option AV → Hp → Prop} (hd : d ≤ d') (w : WP M d ip ls st h Q) : WP M d' ip ls st h Q := by
  obtain ⟨v, h', ⟨a, b, j⟩, hq⟩ := w
  refine ⟨v, h', ⟨a, b, fun p l e R s m args below meth c U0 a0 D pre cx H locs n0 s0 Qf LS hR hlo hn hs hl hc1 hc2 hret => ?_⟩, hq⟩
  obtain ⟨hG, hx, hb, hml, hr, hlk, hnm, hown, hW, hfr, hlo9, hok⟩ := cx
  exact j p l e R s m args below meth c U0 a0 D pre ⟨hG, hx, hb, hml, hr, hlk, hnm, hown, hW, by omega, by omega, hok⟩ H locs n0 s0 Qf LS hR hlo hn hs hl hc1 hc2 hret
theorem WP2_deep {P : PP} {M : Mth} {d d' ip : Nat} {ls : LV} {st : List AV} {S : S2} {Q : Option AV → S2 → Prop} (hd : d ≤ d') (w : WP2 P M d ip ls st S Q) : WP2 P M d' ip ls st S Q := WP_deep hd w
end
section
/-! sums over the teams; count, free -/
theorem sp_teamsWith {P : PP} {d n c : Nat} {FI A L : Nat → Nat → Int} {X : SX} {Q : Option AV → S2 → Prop} (hI : cI n FI A) (hc : FI 6 8 = (c : Int)) {K : Nat} {v : Int} (hK : K < 9) (hv : inR v) (hR : ∀ t, t < 16 → inR (A (20 + t) K)) (hq : Q (some (vi (sumN (fun t => if A (20 + t) K = v then (1 : Int) else 0) c))) (FI, A, L, X)) : WP2 P M_H_teamsWith (d) 0 [some (vr 6), some (vi (K : Int)), some (vi v), none, none] [] (FI, A, L, X) Q := by
  have hcc := hI.1
  refine WP_n 4 rfl ?_
  refine up_to (P := fun t => WP2 P M_H_teamsWith d 4 [some (vr 6), some (vi (K : Int)), some (vi v), some (vi (sumN (fun t => if A (20 + t) K = v then (1 : Int) else 0) t)), some (vi (t : Int))] [] (FI, A, L, X) Q) c ?_ ?_ 0 (by omega)
  · refine WP_n 2 rfl ?_
    refine WP2_getf rfl rfl rfl rfl rfl ?_
    refine WP_icmpge rfl rfl ⟨by omega, by omega⟩ ⟨by omega, by omega⟩ (fun h7 => ?_) (fun h7 => absurd h7 (by omega))
    refine WP_n 1 rfl ?_
    exact WP_iret rfl rfl rfl ⟨_, rfl, hq⟩
  · intro t ht ih
    have hr := hR t (by omega)
    refine WP_n 2 rfl ?_
    refine WP2_getf rfl rfl rfl rfl rfl ?_
    refine WP_icmpge rfl rfl ⟨by omega, by omega⟩ ⟨by omega, by omega⟩ (fun h7 => absurd h7 (by omega)) (fun h7 => ?_)
    refine WP_n 1 rfl ?_
    refine WP2_getf rfl rfl rfl rfl rfl ?_
    refine WP_n 1 rfl ?_
    refine WP2_aald (b := 20) (j := t) (n := 16) rfl rfl rfl rfl rfl (by omega) (by omega) ?_
    refine WP_n 1 rfl ?_
    refine WP2_iald (j := K) rfl rfl (ia_tm (by omega)) (by omega) (by omega) (by omega) ?_
    refine WP_n 1 rfl ?_
    refine WP_icmpne rfl rfl hr hv (fun h15 => ?_) (fun h15 => ?_)
    · refine WP_n 2 rfl ?_
      have e : sumN (fun t => if A (20 + t) K = v then (1 : Int) else 0) (t + 1) = sumN (fun t => if A (20 + t) K = v then (1 : Int) else 0) t := by
        show sumN (fun t => if A (20 + t) K = v then (1 : Int) else 0) t + (if _ then _ else _) = _
        rw [if_neg h15]
        omega
      rw [e] at ih
      exact ih
    · refine WP_n 3 rfl ?_
      have e : sumN (fun t => if A (20 + t) K = v then (1 : Int) else 0) (t + 1) = sumN (fun t => if A (20 + t) K = v then (1 : Int) else 0) t + 1 := by
        show sumN (fun t => if A (20 + t) K = v then (1 : Int) else 0) t + (if _ then _ else _) = _
        rw [if_pos (by omega)]
      rw [e] at ih
      exact ih
theorem sp_twosIn {P : PP} {d n c : Nat} {FI A L : Nat → Nat → Int} {X : SX} {Q : Option AV → S2 → Prop} (hI : cI n FI A) (hc : FI 6 8 = (c : Int)) {W : Nat} (hW : W < 3) (hq : Q (some (vi (sumN (fun a => sumN (fun b => A (tbO W + 1 + a) b) a) c))) (FI, A, L, X)) : WP2 P M_H_twosIn (d + 1) 0 [some (vr 6), some (vi (W : Int)), none, none, none, none] [] (FI, A, L, X) Q := by
  have hcc := hI.1
  refine WP_n 2 rfl ?_
  refine WP2_callV 1 ok_M_H_tableOf rfl rfl rfl rfl rfl rfl (Nat.le_of_ble_eq_true rfl) (Nat.le_of_ble_eq_true rfl) rfl rfl ?_
  refine sp_tableOf hW ?_
  refine WP_n 5 rfl ?_
  have hbo : kd (tbO W) = 3 ∧ rL (tbO W) = 16 := by rcases (show W = 0 ∨ W = 1 ∨ W = 2 by omega) with rfl | rfl | rfl <;> exact ⟨rfl, rfl⟩
  have hia : ∀ a, a < 16 → isIA P X (tbO W + 1 + a) 16 := by
    intro a ha
    rcases (show W = 0 ∨ W = 1 ∨ W = 2 by omega) with rfl | rfl | rfl
    · exact ia_vs ha
    · exact ia_br ha
    · exact ia_nr ha
  have hbd : ∀ a b, a < 16 → b < 16 → 0 ≤ A (tbO W + 1 + a) b ∧ A (tbO W + 1 + a) b ≤ 99 := by
    intro a b ha hb
    have hq := hI.2.2.2.2.1 a b ha hb
    unfold cTw at hq
    rcases (show W = 0 ∨ W = 1 ∨ W = 2 by omega) with rfl | rfl | rfl
    · show 0 ≤ A (37 + a) b ∧ A (37 + a) b ≤ 99
      omega
    · show 0 ≤ A (54 + a) b ∧ A (54 + a) b ≤ 99
      omega
    · show 0 ≤ A (71 + a) b ∧ A (71 + a) b ≤ 99
      omega
  generalize tbO W = B at *
  have hB5 := kd_lt (a := B) (by rw [hbo.1]; decide)
  have hbi : ∀ a, a < 16 → ∀ k, k ≤ a → 0 ≤ sumN (fun b => A (B + 1 + a) b) k ∧ sumN (fun b => A (B + 1 + a) b) k ≤ 1600 := fun a ha k hk => by
    have := sumN_bd (f := fun b => A (B + 1 + a) b) (lo := 0) (hi := 99) k (fun b hb => hbd a b ha (by omega))
    omega
  have hbo2 : ∀ k, k ≤ 16 → 0 ≤ sumN (fun a => sumN (fun b => A (B + 1 + a) b) a) k ∧ sumN (fun a => sumN (fun b => A (B + 1 + a) b) a) k ≤ 25600 := fun k hk => by
    have := sumN_bd (f := (fun a => sumN (fun b => A (B + 1 + a) b) a)) (lo := 0) (hi := 1600) k (fun a ha => hbi a (by omega) a (by omega))
    omega
  refine up_to (P := fun a => WP2 P M_H_twosIn (d + 1) 8 [some (vr 6), some (vi (W : Int)), some (vr B), some (vi (sumN (fun a => sumN (fun b => A (B + 1 + a) b) a) a)), some (vi (a : Int)), none] [] (FI, A, L, X) Q) c ?_ ?_ 0 (by omega)
  · have hz := hbo2 c (by omega)
    refine WP_n 2 rfl ?_
    refine WP2_getf rfl rfl rfl rfl rfl ?_
    refine WP_icmpge rfl rfl ⟨by omega, by omega⟩ ⟨by omega, by omega⟩ (fun h11 => ?_) (fun h11 => absurd h11 (by omega))
    refine WP_n 1 rfl ?_
    exact WP_iret rfl rfl rfl ⟨_, rfl, hq⟩
  · intro a ha ih
    have hz := hbo2 a (by omega)
    have hz0 := hbo2 (a + 1) (by omega)
    refine WP_n 2 rfl ?_
    refine WP2_getf rfl rfl rfl rfl rfl ?_
    refine WP_icmpge rfl rfl ⟨by omega, by omega⟩ ⟨by omega, by omega⟩ (fun h11 => absurd h11 (by omega)) (fun h11 => ?_)
    refine WP_n 2 rfl ?_
    rw [show sumN (fun a => sumN (fun b => A (B + 1 + a) b) a) a = sumN (fun a => sumN (fun b => A (B + 1 + a) b) a) a + sumN (fun b => A (B + 1 + a) b) 0 from (Int.add_zero _).symm]
    refine up_to (P := fun b => WP2 P M_H_twosIn (d + 1) 14 [some (vr 6), some (vi (W : Int)), some (vr B), some (vi (sumN (fun a => sumN (fun b => A (B + 1 + a) b) a) a + sumN (fun b => A (B + 1 + a) b) b)), some (vi (a : Int)), some (vi (b : Int))] [] (FI, A, L, X) Q) a ?_ ?_ 0 (by omega)
    · refine WP_n 2 rfl ?_
      refine WP_icmpge rfl rfl ⟨by omega, by omega⟩ ⟨by omega, by omega⟩ (fun h16 => ?_) (fun h16 => absurd h16 (by omega))
      refine WP_n 2 rfl ?_
      exact WP2_kill 5 ih
    · intro b hb ihb
      have hz1 := hbi a (by omega) b (by omega)
      have hz2 := hbi a (by omega) (b + 1) (by omega)
      have hz3 := hbd a b (by omega) (by omega)
      have ez : sumN (fun a => sumN (fun b => A (B + 1 + a) b) a) a + sumN (fun b => A (B + 1 + a) b) b + A (B + 1 + a) b = sumN (fun a => sumN (fun b => A (B + 1 + a) b) a) a + sumN (fun b => A (B + 1 + a) b) (b + 1) := Int.add_assoc _ _ _
      refine WP_n 2 rfl ?_
      refine WP_icmpge rfl rfl ⟨by omega, by omega⟩ ⟨by omega, by omega⟩ (fun h16 => absurd h16 (by omega)) (fun h16 => ?_)
      refine WP_n 3 rfl ?_
      refine WP2_aald (b := B + 1) (j := a) (n := 16) rfl rfl hbo.1 rfl hbo.2 (by omega) (by omega) ?_
      refine WP_n 1 rfl ?_
      refine WP2_iald (j := b) rfl rfl (hia a (by omega)) (by omega) (by omega) (by omega) ?_
      refine WP_n 4 rfl ?_
      rw [ez]
      exact ihb
theorem sp_G_twos {P : PP} {d n c : Nat} {FI A L : Nat → Nat → Int} {X : SX} {Q : Option AV → S2 → Prop} (hI : mI n FI A) (hc : FI 165 0 = (c : Int)) {B : Nat} (hb5 : 5 ≤ B) (hia : isIA P X B 256) (hbd0 : ∀ j, j < 256 → 0 ≤ A B j ∧ A B j ≤ 99) (hq : Q (some (vi (sumN (fun a => sumN (fun b => A B (16 * a + b)) a) c))) (FI, A, L, X)) : WP2 P M_G_twos (d) 0 [some (vr 165), some (vr B), none, none, none] [] (FI, A, L, X) Q := by
  have hcc := hI.2.1
  have hbd : ∀ a b, a < 16 → b < 16 → 0 ≤ A B (16 * a + b) ∧ A B (16 * a + b) ≤ 99 := fun a b ha hb => hbd0 _ (by omega)
  refine WP_n 4 rfl ?_
  have hbi : ∀ a, a < 16 → ∀ k, k ≤ a → 0 ≤ sumN (fun b => A B (16 * a + b)) k ∧ sumN (fun b => A B (16 * a + b)) k ≤ 1600 := fun a ha k hk => by
    have := sumN_bd (f := fun b => A B (16 * a + b)) (lo := 0) (hi := 99) k (fun b hb => hbd a b ha (by omega))
    omega
  have hbo2 : ∀ k, k ≤ 16 → 0 ≤ sumN (fun a => sumN (fun b => A B (16 * a + b)) a) k ∧ sumN (fun a => sumN (fun b => A B (16 * a + b)) a) k ≤ 25600 := fun k hk => by
    have := sumN_bd (f := (fun a => sumN (fun b => A B (16 * a + b)) a)) (lo := 0) (hi := 1600) k (fun a ha => hbi a (by omega) a (by omega))
    omega
  refine up_to (P := fun a => WP2 P M_G_twos (d) 4 [some (vr 165), some (vr B), some (vi (sumN (fun a => sumN (fun b => A B (16 * a + b)) a) a)), some (vi (a : Int)), none] [] (FI, A, L, X) Q) c ?_ ?_ 0 (by omega)
  · have hz := hbo2 c (by omega)
    refine WP_n 2 rfl ?_
    refine WP2_getf rfl rfl rfl rfl rfl ?_
    refine WP_icmpge rfl rfl ⟨by omega, by omega⟩ ⟨by omega, by omega⟩ (fun h7 => ?_) (fun h7 => absurd h7 (by omega))
    refine WP_n 1 rfl ?_
    exact WP_iret rfl rfl rfl ⟨_, rfl, hq⟩
  · intro a ha ih
    have hz := hbo2 a (by omega)
    have hz0 := hbo2 (a + 1) (by omega)
    refine WP_n 2 rfl ?_
    refine WP2_getf rfl rfl rfl rfl rfl ?_
    refine WP_icmpge rfl rfl ⟨by omega, by omega⟩ ⟨by omega, by omega⟩ (fun h7 => absurd h7 (by omega)) (fun h7 => ?_)
    refine WP_n 2 rfl ?_
    rw [show sumN (fun a => sumN (fun b => A B (16 * a + b)) a) a = sumN (fun a => sumN (fun b => A B (16 * a + b)) a) a + sumN (fun b => A B (16 * a + b)) 0 from (Int.add_zero _).symm]
    refine up_to (P := fun b => WP2 P M_G_twos (d) 10 [some (vr 165), some (vr B), some (vi (sumN (fun a => sumN (fun b => A B (16 * a + b)) a) a + sumN (fun b => A B (16 * a + b)) b)), some (vi (a : Int)), some (vi (b : Int))] [] (FI, A, L, X) Q) a ?_ ?_ 0 (by omega)
    · refine WP_n 2 rfl ?_
      refine WP_icmpge rfl rfl ⟨by omega, by omega⟩ ⟨by omega, by omega⟩ (fun h12 => ?_) (fun h12 => absurd h12 (by omega))
      refine WP_n 2 rfl ?_
      exact WP2_kill 4 ih
    · intro b hb ihb
      have hz1 := hbi a (by omega) b (by omega)
      have hz2 := hbi a (by omega) (b + 1) (by omega)
      have hz3 := hbd a b (by omega) (by omega)
      have ez : sumN (fun a => sumN (fun b => A B (16 * a + b)) a) a + sumN (fun b => A B (16 * a + b)) b + A B (16 * a + b) = sumN (fun a => sumN (fun b => A B (16 * a + b)) a) a + sumN (fun b => A B (16 * a + b)) (b + 1) := Int.add_assoc _ _ _
      refine WP_n 2 rfl ?_
      refine WP_icmpge rfl rfl ⟨by omega, by omega⟩ ⟨by omega, by omega⟩ (fun h16 => absurd h16 (by omega)) (fun h16 => ?_)
      refine WP_n 7 rfl ?_
      refine WP2_iald (j := 16 * a + b) rfl rfl hia hb5 (by omega) (by omega) ?_
      refine WP_n 4 rfl ?_
      rw [ez]
      exact ihb
theorem sp_peopleTold {P : PP} {d n c : Nat} {FI A L : Nat → Nat → Int} {X : SX} {Q : Option AV → S2 → Prop} (hI : cI n FI A) (hc : FI 6 8 = (c : Int)) (hq : Q (some (vi (sumN (fun t => A (20 + t) 7) c))) (FI, A, L, X)) : WP2 P M_H_peopleTold (d) 0 [some (vr 6), none, none] [] (FI, A, L, X) Q := by
  have hcc := hI.1
  refine WP_n 4 rfl ?_
  refine up_to (P := fun t => WP2 P M_H_peopleTold d 4 [some (vr 6), some (vi (sumN (fun t => A (20 + t) 7) t)), some (vi (t : Int))] [] (FI, A, L, X) Q) c ?_ ?_ 0 (by omega)
  · refine WP_n 2 rfl ?_
    refine WP2_getf rfl rfl rfl rfl rfl ?_
    refine WP_icmpge rfl rfl ⟨by omega, by omega⟩ ⟨by omega, by omega⟩ (fun h7 => ?_) (fun h7 => absurd h7 (by omega))
    refine WP_n 1 rfl ?_
    exact WP_iret rfl rfl rfl ⟨_, rfl, hq⟩
  · intro t ht ih
    refine WP_n 2 rfl ?_
    refine WP2_getf rfl rfl rfl rfl rfl ?_
    refine WP_icmpge rfl rfl ⟨by omega, by omega⟩ ⟨by omega, by omega⟩ (fun h7 => absurd h7 (by omega)) (fun h7 => ?_)
    refine WP_n 2 rfl ?_
    refine WP2_getf rfl rfl rfl rfl rfl ?_
    refine WP_n 1 rfl ?_
    refine WP2_aald (b := 20) (j := t) (n := 16) rfl rfl rfl rfl rfl (by omega) (by omega) ?_
    refine WP_n 1 rfl ?_
    refine WP2_iald (j := 7) rfl rfl (ia_tm (by omega)) (by omega) (by omega) (by omega) ?_
    refine WP_n 4 rfl ?_
    exact ih
theorem sp_F_count {P : PP} {d n c : Nat} {FI A L : Nat → Nat → Int} {X : SX} {Q : Option AV → S2 → Prop} (hI : cI n FI A) (hc : FI 6 8 = (c : Int)) {w : Int} (hw : inR w) (q0 : w = 0 → Q (some (vi (FI 6 8))) (FI, A, L, X)) (q1 : w = 1 → Q (some (vi (FI 6 8 - sumN (fun t => if A (20 + t) 4 = -9 then (1 : Int) else 0) c))) (FI, A, L, X)) (q2 : w = 2 → Q (some (vi (sumN (fun t => if A (20 + t) 5 = 1 then (1 : Int) else 0) c))) (FI, A, L, X)) (q3 : w = 3 → Q (some (vi (sumN (fun a => sumN (fun b => A (54 + a) b) a) c))) (FI, A, L, X)) (q4 : w = 4 → Q (some (vi (sumN (fun a => sumN (fun b => A (71 + a) b) a) c))) (FI, A, L, X)) (q5 : w = 5 → Q (some (vi (FI 6 8 - sumN (fun t => if A (20 + t) 6 = -9 then (1 : Int) else 0) c))) (FI, A, L, X)) (q6 : w = 6 → Q (some (vi (sumN (fun t => A (20 + t) 7) c))) (FI, A, L, X)) (qr : ∀ k : Nat, w = (k : Int) + 10 ∧ 1 ≤ k ∧ k < 7 → Q (some (vi (A 164 k))) (FI, A, L, X)) (qn : (w < 0 ∨ 6 < w) ∧ ¬ (10 < w ∧ w ≤ 16) → Q (some (vi (-9))) (FI, A, L, X)) : WP2 P M_F_count (d + 2) 0 [some (vr 5), some (vi w)] [] (FI, A, L, X) Q := by
  have hcc := hI.1
  obtain ⟨lw, uw⟩ := id hw
  by_cases hr : 10 < w ∧ w ≤ 16
  · obtain ⟨k, hk⟩ : ∃ k : Nat, w = (k : Int) + 10 := ⟨(w - 10).toNat, by omega⟩
    refine WP_n 2 rfl ?_
    refine WP_icmple rfl rfl ⟨by omega, by omega⟩ ⟨by omega, by omega⟩ (fun h2 => absurd h2 (by omega)) (fun h2 => ?_)
    refine WP_n 2 rfl ?_
    refine WP_icmpgt rfl rfl ⟨by omega, by omega⟩ ⟨by omega, by omega⟩ (fun h5 => absurd h5 (by omega)) (fun h5 => ?_)
    refine WP_n 1 rfl ?_
    refine WP2_getf rfl rfl rfl rfl rfl ?_
    refine WP_n 3 rfl ?_
    refine WP2_iald (j := k) rfl rfl (ia_lit (n := 7) rfl rfl (by omega)) (by omega) (by omega) (by omega) ?_
    exact WP_iret rfl rfl rfl ⟨_, rfl, qr k (by omega)⟩
  · by_cases hs : 0 ≤ w ∧ w ≤ 6
    · rcases (show w = 0 ∨ w = 1 ∨ w = 2 ∨ w = 3 ∨ w = 4 ∨ w = 5 ∨ w = 6 by omega) with rfl | rfl | rfl | rfl | rfl | rfl | rfl
      · refine WP_n 2 rfl ?_
        refine WP_icmple rfl rfl ⟨by decide, by decide⟩ ⟨by decide, by decide⟩  (fun h2 => ?_) (fun h2 => absurd (by decide) h2)
        refine WP_n 1 rfl ?_
        refine WP_tsIn (tgt := 15) rfl rfl ⟨by decide, by decide⟩ (by decide) (by decide) rfl rfl ?_
        refine WP_n 1 rfl ?_
        refine WP2_getf rfl rfl rfl rfl rfl ?_
        refine WP2_getf rfl rfl rfl rfl rfl ?_
        exact WP_iret rfl rfl rfl ⟨_, rfl, q0 rfl⟩
      · refine WP_n 2 rfl ?_
        refine WP_icmple rfl rfl ⟨by decide, by decide⟩ ⟨by decide, by decide⟩  (fun h2 => ?_) (fun h2 => absurd (by decide) h2)
        refine WP_n 1 rfl ?_
        refine WP_tsIn (tgt := 19) rfl rfl ⟨by decide, by decide⟩ (by decide) (by decide) rfl rfl ?_
        refine WP_n 1 rfl ?_
        refine WP2_getf rfl rfl rfl rfl rfl ?_
        refine WP2_getf rfl rfl rfl rfl rfl ?_
        refine WP_n 1 rfl ?_
        refine WP2_getf rfl rfl rfl rfl rfl ?_
        refine WP_n 2 rfl ?_
        refine WP2_callV 2 ok_M_H_teamsWith rfl rfl rfl rfl rfl rfl (Nat.le_of_ble_eq_true rfl) (Nat.le_of_ble_eq_true rfl) rfl rfl ?_
        refine sp_teamsWith hI hc (K := 4) (by omega) ⟨by omega, by omega⟩ (fun t ht => by have hq := hI.2.2.2.1 t ht; unfold cTm at hq; exact ⟨by omega, by omega⟩) ?_
        refine WP_n 1 rfl ?_
        exact WP_iret rfl rfl rfl ⟨_, rfl, q1 rfl⟩
      · refine WP_n 2 rfl ?_
        refine WP_icmple rfl rfl ⟨by decide, by decide⟩ ⟨by decide, by decide⟩  (fun h2 => ?_) (fun h2 => absurd (by decide) h2)
        refine WP_n 1 rfl ?_
        refine WP_tsIn (tgt := 29) rfl rfl ⟨by decide, by decide⟩ (by decide) (by decide) rfl rfl ?_
        refine WP_n 1 rfl ?_
        refine WP2_getf rfl rfl rfl rfl rfl ?_
        refine WP_n 2 rfl ?_
        refine WP2_callV 2 ok_M_H_teamsWith rfl rfl rfl rfl rfl rfl (Nat.le_of_ble_eq_true rfl) (Nat.le_of_ble_eq_true rfl) rfl rfl ?_
        refine sp_teamsWith hI hc (K := 5) (by omega) ⟨by omega, by omega⟩ (fun t ht => by have hq := hI.2.2.2.1 t ht; unfold cTm at hq; exact ⟨by omega, by omega⟩) ?_
        exact WP_iret rfl rfl rfl ⟨_, rfl, q2 rfl⟩
      · refine WP_n 2 rfl ?_
        refine WP_icmple rfl rfl ⟨by decide, by decide⟩ ⟨by decide, by decide⟩  (fun h2 => ?_) (fun h2 => absurd (by decide) h2)
        refine WP_n 1 rfl ?_
        refine WP_tsIn (tgt := 35) rfl rfl ⟨by decide, by decide⟩ (by decide) (by decide) rfl rfl ?_
        refine WP_n 1 rfl ?_
        refine WP2_getf rfl rfl rfl rfl rfl ?_
        refine WP_n 1 rfl ?_
        refine WP2_callV 1 ok_M_H_twosIn rfl rfl rfl rfl rfl rfl (Nat.le_of_ble_eq_true rfl) (Nat.le_of_ble_eq_true rfl) rfl rfl ?_
        refine sp_twosIn hI hc (W := 1) (by omega) ?_
        exact WP_iret rfl rfl rfl ⟨_, rfl, q3 rfl⟩
      · refine WP_n 2 rfl ?_
        refine WP_icmple rfl rfl ⟨by decide, by decide⟩ ⟨by decide, by decide⟩  (fun h2 => ?_) (fun h2 => absurd (by decide) h2)
        refine WP_n 1 rfl ?_
        refine WP_tsIn (tgt := 40) rfl rfl ⟨by decide, by decide⟩ (by decide) (by decide) rfl rfl ?_
        refine WP_n 1 rfl ?_
        refine WP2_getf rfl rfl rfl rfl rfl ?_
        refine WP_n 1 rfl ?_
        refine WP2_callV 1 ok_M_H_twosIn rfl rfl rfl rfl rfl rfl (Nat.le_of_ble_eq_true rfl) (Nat.le_of_ble_eq_true rfl) rfl rfl ?_
        refine sp_twosIn hI hc (W := 2) (by omega) ?_
        exact WP_iret rfl rfl rfl ⟨_, rfl, q4 rfl⟩
      · refine WP_n 2 rfl ?_
        refine WP_icmple rfl rfl ⟨by decide, by decide⟩ ⟨by decide, by decide⟩  (fun h2 => ?_) (fun h2 => absurd (by decide) h2)
        refine WP_n 1 rfl ?_
        refine WP_tsIn (tgt := 45) rfl rfl ⟨by decide, by decide⟩ (by decide) (by decide) rfl rfl ?_
        refine WP_n 1 rfl ?_
        refine WP2_getf rfl rfl rfl rfl rfl ?_
        refine WP2_getf rfl rfl rfl rfl rfl ?_
        refine WP_n 1 rfl ?_
        refine WP2_getf rfl rfl rfl rfl rfl ?_
        refine WP_n 2 rfl ?_
        refine WP2_callV 2 ok_M_H_teamsWith rfl rfl rfl rfl rfl rfl (Nat.le_of_ble_eq_true rfl) (Nat.le_of_ble_eq_true rfl) rfl rfl ?_
        refine sp_teamsWith hI hc (K := 6) (by omega) ⟨by omega, by omega⟩ (fun t ht => by have hq := hI.2.2.2.1 t ht; unfold cTm at hq; exact ⟨by omega, by omega⟩) ?_
        refine WP_n 1 rfl ?_
        exact WP_iret rfl rfl rfl ⟨_, rfl, q5 rfl⟩
      · refine WP_n 2 rfl ?_
        refine WP_icmple rfl rfl ⟨by decide, by decide⟩ ⟨by decide, by decide⟩  (fun h2 => ?_) (fun h2 => absurd (by decide) h2)
        refine WP_n 1 rfl ?_
        refine WP_tsIn (tgt := 55) rfl rfl ⟨by decide, by decide⟩ (by decide) (by decide) rfl rfl ?_
        refine WP_n 1 rfl ?_
        refine WP2_getf rfl rfl rfl rfl rfl ?_
        refine WP2_callV 0 ok_M_H_peopleTold rfl rfl rfl rfl rfl rfl (Nat.le_of_ble_eq_true rfl) (Nat.le_of_ble_eq_true rfl) rfl rfl ?_
        refine sp_peopleTold hI hc ?_
        exact WP_iret rfl rfl rfl ⟨_, rfl, q6 rfl⟩
    · refine WP_n 2 rfl ?_
      refine WP_icmple rfl rfl ⟨by omega, by omega⟩ ⟨by omega, by omega⟩ (fun h2 => ?_) (fun h2 => ?_)
      · refine WP_n 1 rfl ?_
        refine WP_tsOut (tgt := 59) rfl rfl ⟨by omega, by omega⟩ (by omega) rfl ?_
        refine WP_n 1 rfl ?_
        exact WP_iret rfl rfl rfl ⟨_, rfl, qn (by omega)⟩
      · refine WP_n 2 rfl ?_
        refine WP_icmpgt rfl rfl ⟨by omega, by omega⟩ ⟨by omega, by omega⟩ (fun h5 => ?_) (fun h5 => absurd h5 (by omega))
        refine WP_n 1 rfl ?_
        refine WP_tsOut (tgt := 59) rfl rfl ⟨by omega, by omega⟩ (by omega) rfl ?_
        refine WP_n 1 rfl ?_
        exact WP_iret rfl rfl rfl ⟨_, rfl, qn (by omega)⟩
end
section
/-! count and free, both sides -/
theorem sumN_split (p : Nat → Prop) [DecidablePred p] : ∀ n, sumN (fun t => if p t then (1 : Int) else 0) n + sumN (fun t => if p t then (0 : Int) else 1) n = n
  | 0 => rfl
  | n + 1 => by
    have ih := sumN_split p n
    show sumN _ n + _ + (sumN _ n + _) = _
    dsimp only
    by_cases h : p n
    · rw [if_pos h, if_pos h]; omega
    · rw [if_neg h, if_neg h]; omega
theorem sp_G_count {P : PP} {d n c : Nat} {FI A L : Nat → Nat → Int} {X : SX} {Q : Option AV → S2 → Prop} (hI : mI n FI A) (hc : FI 165 0 = (c : Int)) {w : Int} (hw : inR w) (q0 : w = 0 → Q (some (vi (FI 165 0))) (FI, A, L, X)) (q1 : w = 1 → Q (some (vi (sumN (fun t => if A 174 t = -9 then (0 : Int) else 1) c))) (FI, A, L, X)) (q2 : w = 2 → Q (some (vi (sumN (fun t => if A 178 t = 0 then (0 : Int) else 1) c))) (FI, A, L, X)) (q3 : w = 3 → Q (some (vi (sumN (fun a => sumN (fun b => A 180 (16 * a + b)) a) c))) (FI, A, L, X)) (q4 : w = 4 → Q (some (vi (sumN (fun a => sumN (fun b => A 181 (16 * a + b)) a) c))) (FI, A, L, X)) (q5 : w = 5 → Q (some (vi (sumN (fun t => if A 175 t = -9 then (0 : Int) else 1) c))) (FI, A, L, X)) (q6 : w = 6 → Q (some (vi (sumN (fun t => A 176 t) c))) (FI, A, L, X)) (qr : ∀ k : Nat, w = (k : Int) + 10 ∧ 1 ≤ k ∧ k < 7 → Q (some (vi (A 185 k))) (FI, A, L, X)) (qn : (w < 0 ∨ 6 < w) ∧ ¬ (10 < w ∧ w ≤ 16) → Q (some (vi (-9))) (FI, A, L, X)) : WP2 P M_G_count (d + 1) 0 [some (vr 165), some (vi w), none, none] [] (FI, A, L, X) Q := by
  have hcc := hI.2.1
  obtain ⟨lw, uw⟩ := id hw
  by_cases hr : 10 < w ∧ w ≤ 16
  · obtain ⟨k, hk⟩ : ∃ k : Nat, w = (k : Int) + 10 := ⟨(w - 10).toNat, by omega⟩
    refine WP_n 2 rfl ?_
    refine WP_icmple rfl rfl ⟨by omega, by omega⟩ ⟨by omega, by omega⟩ (fun h2 => absurd h2 (by omega)) (fun h2 => ?_)
    refine WP_n 2 rfl ?_
    refine WP_icmpge rfl rfl ⟨by omega, by omega⟩ ⟨by omega, by omega⟩ (fun h5 => absurd h5 (by omega)) (fun h5 => ?_)
    refine WP_n 1 rfl ?_
    refine WP2_getf rfl rfl rfl rfl rfl ?_
    refine WP_n 3 rfl ?_
    refine WP2_iald (j := k) rfl rfl (ia_lit (n := 7) rfl rfl (by omega)) (by omega) (by omega) (by omega) ?_
    exact WP_iret rfl rfl rfl ⟨_, rfl, qr k (by omega)⟩
  · by_cases hs : 0 ≤ w ∧ w ≤ 6
    · rcases (show w = 0 ∨ w = 1 ∨ w = 2 ∨ w = 3 ∨ w = 4 ∨ w = 5 ∨ w = 6 by omega) with rfl | rfl | rfl | rfl | rfl | rfl | rfl
      · refine WP_n 2 rfl ?_
        refine WP_icmple rfl rfl ⟨by decide, by decide⟩ ⟨by decide, by decide⟩  (fun h2 => ?_) (fun h2 => absurd (by decide) h2)
        refine WP_n 3 rfl ?_
        refine WP_tsIn (tgt := 17) rfl rfl ⟨by decide, by decide⟩ (by decide) (by decide) rfl rfl ?_
        refine WP_n 1 rfl ?_
        refine WP2_getf rfl rfl rfl rfl rfl ?_
        exact WP_iret rfl rfl rfl ⟨_, rfl, q0 rfl⟩
      · refine WP_n 2 rfl ?_
        refine WP_icmple rfl rfl ⟨by decide, by decide⟩ ⟨by decide, by decide⟩  (fun h2 => ?_) (fun h2 => absurd (by decide) h2)
        refine WP_n 3 rfl ?_
        refine WP_tsIn (tgt := 20) rfl rfl ⟨by decide, by decide⟩ (by decide) (by decide) rfl rfl ?_
        refine WP_n 2 rfl ?_
        refine up_to (P := fun t => WP2 P M_G_count (d + 1) 22 [some (vr 165), some (vi 1), some (vi (sumN (fun t => if A 174 t = -9 then (0 : Int) else 1) t)), some (vi (t : Int))] [] (FI, A, L, X) Q) c ?_ ?_ 0 (by omega)
        · refine WP_n 2 rfl ?_
          refine WP2_getf rfl rfl rfl rfl rfl ?_
          refine WP_icmpge rfl rfl ⟨by omega, by omega⟩ ⟨by omega, by omega⟩ (fun h25 => ?_) (fun h25 => absurd h25 (by omega))
          refine WP_n 1 rfl ?_
          exact WP_iret rfl rfl rfl ⟨_, rfl, q1 rfl⟩
        · intro t ht ih
          have hq := hI.2.2.2.2.1 t (by omega)
          unfold mTm at hq
          have hb := sumN_bd (f := (fun t => if A 174 t = -9 then (0 : Int) else 1)) (lo := 0) (hi := 1) t (fun k hk => by split <;> omega)
          refine WP_n 2 rfl ?_
          refine WP2_getf rfl rfl rfl rfl rfl ?_
          refine WP_icmpge rfl rfl ⟨by omega, by omega⟩ ⟨by omega, by omega⟩ (fun h25 => absurd h25 (by omega)) (fun h25 => ?_)
          refine WP_n 1 rfl ?_
          refine WP2_getf rfl rfl rfl rfl rfl ?_
          refine WP_n 1 rfl ?_
          refine WP2_iald (j := t) rfl rfl (ia_lit (n := 16) rfl rfl (by omega)) (by omega) (by omega) (by omega) ?_
          refine WP_n 1 rfl ?_
          refine WP_icmpeq rfl rfl ⟨by omega, by omega⟩ ⟨by omega, by omega⟩ (fun h31 => ?_) (fun h31 => ?_)
          · refine WP_n 2 rfl ?_
            have e : sumN (fun t => if A 174 t = -9 then (0 : Int) else 1) (t + 1) = sumN (fun t => if A 174 t = -9 then (0 : Int) else 1) t := by
              show sumN (fun t => if A 174 t = -9 then (0 : Int) else 1) t + (if _ then _ else _) = _
              rw [if_pos h31]
              omega
            rw [e] at ih
            exact ih
          · refine WP_n 3 rfl ?_
            have e : sumN (fun t => if A 174 t = -9 then (0 : Int) else 1) (t + 1) = sumN (fun t => if A 174 t = -9 then (0 : Int) else 1) t + 1 := by
              show sumN (fun t => if A 174 t = -9 then (0 : Int) else 1) t + (if _ then _ else _) = _
              rw [if_neg h31]
            rw [e] at ih
            exact ih
      · refine WP_n 2 rfl ?_
        refine WP_icmple rfl rfl ⟨by decide, by decide⟩ ⟨by decide, by decide⟩  (fun h2 => ?_) (fun h2 => absurd (by decide) h2)
        refine WP_n 3 rfl ?_
        refine WP_tsIn (tgt := 37) rfl rfl ⟨by decide, by decide⟩ (by decide) (by decide) rfl rfl ?_
        refine WP_n 2 rfl ?_
        refine up_to (P := fun t => WP2 P M_G_count (d + 1) 39 [some (vr 165), some (vi 2), some (vi (sumN (fun t => if A 178 t = 0 then (0 : Int) else 1) t)), some (vi (t : Int))] [] (FI, A, L, X) Q) c ?_ ?_ 0 (by omega)
        · refine WP_n 2 rfl ?_
          refine WP2_getf rfl rfl rfl rfl rfl ?_
          refine WP_icmpge rfl rfl ⟨by omega, by omega⟩ ⟨by omega, by omega⟩ (fun h42 => ?_) (fun h42 => absurd h42 (by omega))
          refine WP_n 1 rfl ?_
          exact WP_iret rfl rfl rfl ⟨_, rfl, q2 rfl⟩
        · intro t ht ih
          have hq := hI.2.2.2.2.1 t (by omega)
          unfold mTm at hq
          have hb := sumN_bd (f := (fun t => if A 178 t = 0 then (0 : Int) else 1)) (lo := 0) (hi := 1) t (fun k hk => by split <;> omega)
          refine WP_n 2 rfl ?_
          refine WP2_getf rfl rfl rfl rfl rfl ?_
          refine WP_icmpge rfl rfl ⟨by omega, by omega⟩ ⟨by omega, by omega⟩ (fun h42 => absurd h42 (by omega)) (fun h42 => ?_)
          refine WP_n 1 rfl ?_
          refine WP2_getf rfl rfl rfl rfl rfl ?_
          refine WP_n 1 rfl ?_
          refine WP2_zald (j := t) rfl rfl rfl (by omega) (by omega) ?_
          refine WP_ifeq rfl rfl ⟨by omega, by omega⟩ (fun h47 => ?_) (fun h47 => ?_)
          · refine WP_n 2 rfl ?_
            have e : sumN (fun t => if A 178 t = 0 then (0 : Int) else 1) (t + 1) = sumN (fun t => if A 178 t = 0 then (0 : Int) else 1) t := by
              show sumN (fun t => if A 178 t = 0 then (0 : Int) else 1) t + (if _ then _ else _) = _
              rw [if_pos h47]
              omega
            rw [e] at ih
            exact ih
          · refine WP_n 3 rfl ?_
            have e : sumN (fun t => if A 178 t = 0 then (0 : Int) else 1) (t + 1) = sumN (fun t => if A 178 t = 0 then (0 : Int) else 1) t + 1 := by
              show sumN (fun t => if A 178 t = 0 then (0 : Int) else 1) t + (if _ then _ else _) = _
              rw [if_neg h47]
            rw [e] at ih
            exact ih
      · refine WP_n 2 rfl ?_
        refine WP_icmple rfl rfl ⟨by decide, by decide⟩ ⟨by decide, by decide⟩  (fun h2 => ?_) (fun h2 => absurd (by decide) h2)
        refine WP_n 3 rfl ?_
        refine WP_tsIn (tgt := 53) rfl rfl ⟨by decide, by decide⟩ (by decide) (by decide) rfl rfl ?_
        refine WP_n 2 rfl ?_
        refine WP2_getf rfl rfl rfl rfl rfl ?_
        refine WP2_callV 1 ok_M_G_twos rfl rfl rfl rfl rfl rfl (Nat.le_of_ble_eq_true rfl) (Nat.le_of_ble_eq_true rfl) rfl rfl ?_
        refine sp_G_twos hI hc (B := 180) (by omega) (ia_lit (n := 256) rfl rfl (by omega)) (fun j hj => by have hq := hI.2.2.2.2.2.1 j hj; unfold mTw at hq; omega) ?_
        exact WP_iret rfl rfl rfl ⟨_, rfl, q3 rfl⟩
      · refine WP_n 2 rfl ?_
        refine WP_icmple rfl rfl ⟨by decide, by decide⟩ ⟨by decide, by decide⟩  (fun h2 => ?_) (fun h2 => absurd (by decide) h2)
        refine WP_n 3 rfl ?_
        refine WP_tsIn (tgt := 58) rfl rfl ⟨by decide, by decide⟩ (by decide) (by decide) rfl rfl ?_
        refine WP_n 2 rfl ?_
        refine WP2_getf rfl rfl rfl rfl rfl ?_
        refine WP2_callV 1 ok_M_G_twos rfl rfl rfl rfl rfl rfl (Nat.le_of_ble_eq_true rfl) (Nat.le_of_ble_eq_true rfl) rfl rfl ?_
        refine sp_G_twos hI hc (B := 181) (by omega) (ia_lit (n := 256) rfl rfl (by omega)) (fun j hj => by have hq := hI.2.2.2.2.2.1 j hj; unfold mTw at hq; omega) ?_
        exact WP_iret rfl rfl rfl ⟨_, rfl, q4 rfl⟩
      · refine WP_n 2 rfl ?_
        refine WP_icmple rfl rfl ⟨by decide, by decide⟩ ⟨by decide, by decide⟩  (fun h2 => ?_) (fun h2 => absurd (by decide) h2)
        refine WP_n 3 rfl ?_
        refine WP_tsIn (tgt := 63) rfl rfl ⟨by decide, by decide⟩ (by decide) (by decide) rfl rfl ?_
        refine WP_n 2 rfl ?_
        refine up_to (P := fun t => WP2 P M_G_count (d + 1) 65 [some (vr 165), some (vi 5), some (vi (sumN (fun t => if A 175 t = -9 then (0 : Int) else 1) t)), some (vi (t : Int))] [] (FI, A, L, X) Q) c ?_ ?_ 0 (by omega)
        · refine WP_n 2 rfl ?_
          refine WP2_getf rfl rfl rfl rfl rfl ?_
          refine WP_icmpge rfl rfl ⟨by omega, by omega⟩ ⟨by omega, by omega⟩ (fun h68 => ?_) (fun h68 => absurd h68 (by omega))
          refine WP_n 1 rfl ?_
          exact WP_iret rfl rfl rfl ⟨_, rfl, q5 rfl⟩
        · intro t ht ih
          have hq := hI.2.2.2.2.1 t (by omega)
          unfold mTm at hq
          have hb := sumN_bd (f := (fun t => if A 175 t = -9 then (0 : Int) else 1)) (lo := 0) (hi := 1) t (fun k hk => by split <;> omega)
          refine WP_n 2 rfl ?_
          refine WP2_getf rfl rfl rfl rfl rfl ?_
          refine WP_icmpge rfl rfl ⟨by omega, by omega⟩ ⟨by omega, by omega⟩ (fun h68 => absurd h68 (by omega)) (fun h68 => ?_)
          refine WP_n 1 rfl ?_
          refine WP2_getf rfl rfl rfl rfl rfl ?_
          refine WP_n 1 rfl ?_
          refine WP2_iald (j := t) rfl rfl (ia_lit (n := 16) rfl rfl (by omega)) (by omega) (by omega) (by omega) ?_
          refine WP_n 1 rfl ?_
          refine WP_icmpeq rfl rfl ⟨by omega, by omega⟩ ⟨by omega, by omega⟩ (fun h74 => ?_) (fun h74 => ?_)
          · refine WP_n 2 rfl ?_
            have e : sumN (fun t => if A 175 t = -9 then (0 : Int) else 1) (t + 1) = sumN (fun t => if A 175 t = -9 then (0 : Int) else 1) t := by
              show sumN (fun t => if A 175 t = -9 then (0 : Int) else 1) t + (if _ then _ else _) = _
              rw [if_pos h74]
              omega
            rw [e] at ih
            exact ih
          · refine WP_n 3 rfl ?_
            have e : sumN (fun t => if A 175 t = -9 then (0 : Int) else 1) (t + 1) = sumN (fun t => if A 175 t = -9 then (0 : Int) else 1) t + 1 := by
              show sumN (fun t => if A 175 t = -9 then (0 : Int) else 1) t + (if _ then _ else _) = _
              rw [if_neg h74]
            rw [e] at ih
            exact ih
      · refine WP_n 2 rfl ?_
        refine WP_icmple rfl rfl ⟨by decide, by decide⟩ ⟨by decide, by decide⟩  (fun h2 => ?_) (fun h2 => absurd (by decide) h2)
        refine WP_n 3 rfl ?_
        refine WP_tsIn (tgt := 80) rfl rfl ⟨by decide, by decide⟩ (by decide) (by decide) rfl rfl ?_
        refine WP_n 2 rfl ?_
        refine up_to (P := fun t => WP2 P M_G_count (d + 1) 82 [some (vr 165), some (vi 6), some (vi (sumN (fun t => A 176 t) t)), some (vi (t : Int))] [] (FI, A, L, X) Q) c ?_ ?_ 0 (by omega)
        · refine WP_n 2 rfl ?_
          refine WP2_getf rfl rfl rfl rfl rfl ?_
          refine WP_icmpge rfl rfl ⟨by omega, by omega⟩ ⟨by omega, by omega⟩ (fun h85 => ?_) (fun h85 => absurd h85 (by omega))
          refine WP_n 1 rfl ?_
          exact WP_iret rfl rfl rfl ⟨_, rfl, q6 rfl⟩
        · intro t ht ih
          refine WP_n 2 rfl ?_
          refine WP2_getf rfl rfl rfl rfl rfl ?_
          refine WP_icmpge rfl rfl ⟨by omega, by omega⟩ ⟨by omega, by omega⟩ (fun h85 => absurd h85 (by omega)) (fun h85 => ?_)
          refine WP_n 2 rfl ?_
          refine WP2_getf rfl rfl rfl rfl rfl ?_
          refine WP_n 1 rfl ?_
          refine WP2_iald (j := t) rfl rfl (ia_lit (n := 16) rfl rfl (by omega)) (by omega) (by omega) (by omega) ?_
          refine WP_n 4 rfl ?_
          exact ih
    · refine WP_n 2 rfl ?_
      refine WP_icmple rfl rfl ⟨by omega, by omega⟩ ⟨by omega, by omega⟩ (fun h2 => ?_) (fun h2 => ?_)
      · refine WP_n 3 rfl ?_
        refine WP_tsOut (tgt := 97) rfl rfl ⟨by omega, by omega⟩ (by omega) rfl ?_
        refine WP_n 1 rfl ?_
        exact WP_iret rfl rfl rfl ⟨_, rfl, qn (by omega)⟩
      · refine WP_n 2 rfl ?_
        refine WP_icmpge rfl rfl ⟨by omega, by omega⟩ ⟨by omega, by omega⟩ (fun h5 => ?_) (fun h5 => absurd h5 (by omega))
        refine WP_n 3 rfl ?_
        refine WP_tsOut (tgt := 97) rfl rfl ⟨by omega, by omega⟩ (by omega) rfl ?_
        refine WP_n 1 rfl ?_
        exact WP_iret rfl rfl rfl ⟨_, rfl, qn (by omega)⟩
theorem pr_count {P : PP} {n : Nat} {FI A L : Nat → Nat → Int} {X : SX} (h : INV P n FI A X) (hn : n < 512) {w : Int} (hw : inR w) : PAIR P n (FI, A, L, X) M_F_count [some (vr 5), some (vi w)] M_G_count [some (vr 165), some (vi w), none, none] := by
  intro d
  have hm := h.mI
  have hcI := h.2.1
  have hk1 := hcI.1
  have g1 := h.2.2.1.1
  obtain ⟨c, hc⟩ : ∃ c : Nat, FI 6 8 = (c : Int) := ⟨(FI 6 8).toNat, by omega⟩
  have hc2 : FI 165 0 = (c : Int) := by rw [g1]; exact hc
  have gt := fun t (ht : t < c) => h.2.2.1.2.2.2.1 t (by omega)
  have ct := fun t (ht : t < c) => hcI.2.2.2.1 t (by omega)
  refine sp_F_count hcI hc hw (fun c1 => ?_) (fun c1 => ?_) (fun c1 => ?_) (fun c1 => ?_) (fun c1 => ?_) (fun c1 => ?_) (fun c1 => ?_) (fun k c1 => ?_) (fun c1 => ?_)
  · refine ⟨_, rfl, ?_⟩
    refine sp_G_count hm hc2 hw (fun c2 => ?_) (fun c2 => ?_) (fun c2 => ?_) (fun c2 => ?_) (fun c2 => ?_) (fun c2 => ?_) (fun c2 => ?_) (fun k' c2 => ?_) (fun c2 => ?_)
    · exact ⟨by rw [g1], h.next hn⟩
    · exfalso; omega
    · exfalso; omega
    · exfalso; omega
    · exfalso; omega
    · exfalso; omega
    · exfalso; omega
    · exfalso; omega
    · exfalso; omega
  · refine ⟨_, rfl, ?_⟩
    refine sp_G_count hm hc2 hw (fun c2 => ?_) (fun c2 => ?_) (fun c2 => ?_) (fun c2 => ?_) (fun c2 => ?_) (fun c2 => ?_) (fun c2 => ?_) (fun k' c2 => ?_) (fun c2 => ?_)
    · exfalso; omega
    · have e := sumN_split (fun t => A (20 + t) 4 = -9) c
      have e2 : sumN (fun t => if A 174 t = -9 then (0 : Int) else 1) c = sumN (fun t => if A (20 + t) 4 = -9 then (0 : Int) else 1) c := sumN_congr c (fun t ht => by have q := gt t ht; unfold gTm at q; rw [show A 174 t = A (20 + t) 4 by omega])
      refine ⟨congrArg (fun z => some (vi z)) ?_, h.next hn⟩
      omega
    · exfalso; omega
    · exfalso; omega
    · exfalso; omega
    · exfalso; omega
    · exfalso; omega
    · exfalso; omega
    · exfalso; omega
  · refine ⟨_, rfl, ?_⟩
    refine sp_G_count hm hc2 hw (fun c2 => ?_) (fun c2 => ?_) (fun c2 => ?_) (fun c2 => ?_) (fun c2 => ?_) (fun c2 => ?_) (fun c2 => ?_) (fun k' c2 => ?_) (fun c2 => ?_)
    · exfalso; omega
    · exfalso; omega
    · have e2 : sumN (fun t => if A 178 t = 0 then (0 : Int) else 1) c = sumN (fun t => if A (20 + t) 5 = 1 then (1 : Int) else 0) c := sumN_congr c (fun t ht => by have q := gt t ht; have r := ct t ht; unfold gTm at q; unfold cTm at r; split <;> split <;> omega)
      exact ⟨by rw [e2], h.next hn⟩
    · exfalso; omega
    · exfalso; omega
    · exfalso; omega
    · exfalso; omega
    · exfalso; omega
    · exfalso; omega
  · refine ⟨_, rfl, ?_⟩
    refine sp_G_count hm hc2 hw (fun c2 => ?_) (fun c2 => ?_) (fun c2 => ?_) (fun c2 => ?_) (fun c2 => ?_) (fun c2 => ?_) (fun c2 => ?_) (fun k' c2 => ?_) (fun c2 => ?_)
    · exfalso; omega
    · exfalso; omega
    · exfalso; omega
    · have e2 : sumN (fun a => sumN (fun b => A 180 (16 * a + b)) a) c = sumN (fun a => sumN (fun b => A (54 + a) b) a) c := sumN_congr c (fun a ha => sumN_congr a (fun b hb => (h.2.2.1.2.2.2.2.1 a b (by omega) (by omega)).2.1))
      exact ⟨by rw [e2], h.next hn⟩
    · exfalso; omega
    · exfalso; omega
    · exfalso; omega
    · exfalso; omega
    · exfalso; omega
  · refine ⟨_, rfl, ?_⟩
    refine sp_G_count hm hc2 hw (fun c2 => ?_) (fun c2 => ?_) (fun c2 => ?_) (fun c2 => ?_) (fun c2 => ?_) (fun c2 => ?_) (fun c2 => ?_) (fun k' c2 => ?_) (fun c2 => ?_)
    · exfalso; omega
    · exfalso; omega
    · exfalso; omega
    · exfalso; omega
    · have e2 : sumN (fun a => sumN (fun b => A 181 (16 * a + b)) a) c = sumN (fun a => sumN (fun b => A (71 + a) b) a) c := sumN_congr c (fun a ha => sumN_congr a (fun b hb => (h.2.2.1.2.2.2.2.1 a b (by omega) (by omega)).2.2))
      exact ⟨by rw [e2], h.next hn⟩
    · exfalso; omega
    · exfalso; omega
    · exfalso; omega
    · exfalso; omega
  · refine ⟨_, rfl, ?_⟩
    refine sp_G_count hm hc2 hw (fun c2 => ?_) (fun c2 => ?_) (fun c2 => ?_) (fun c2 => ?_) (fun c2 => ?_) (fun c2 => ?_) (fun c2 => ?_) (fun k' c2 => ?_) (fun c2 => ?_)
    · exfalso; omega
    · exfalso; omega
    · exfalso; omega
    · exfalso; omega
    · exfalso; omega
    · have e := sumN_split (fun t => A (20 + t) 6 = -9) c
      have e2 : sumN (fun t => if A 175 t = -9 then (0 : Int) else 1) c = sumN (fun t => if A (20 + t) 6 = -9 then (0 : Int) else 1) c := sumN_congr c (fun t ht => by have q := gt t ht; unfold gTm at q; rw [show A 175 t = A (20 + t) 6 by omega])
      refine ⟨congrArg (fun z => some (vi z)) ?_, h.next hn⟩
      omega
    · exfalso; omega
    · exfalso; omega
    · exfalso; omega
  · refine ⟨_, rfl, ?_⟩
    refine sp_G_count hm hc2 hw (fun c2 => ?_) (fun c2 => ?_) (fun c2 => ?_) (fun c2 => ?_) (fun c2 => ?_) (fun c2 => ?_) (fun c2 => ?_) (fun k' c2 => ?_) (fun c2 => ?_)
    · exfalso; omega
    · exfalso; omega
    · exfalso; omega
    · exfalso; omega
    · exfalso; omega
    · exfalso; omega
    · have e2 : sumN (fun t => A 176 t) c = sumN (fun t => A (20 + t) 7) c := sumN_congr c (fun t ht => (gt t ht).2.1)
      exact ⟨by rw [e2], h.next hn⟩
    · exfalso; omega
    · exfalso; omega
  · refine ⟨_, rfl, ?_⟩
    refine sp_G_count hm hc2 hw (fun c2 => ?_) (fun c2 => ?_) (fun c2 => ?_) (fun c2 => ?_) (fun c2 => ?_) (fun c2 => ?_) (fun c2 => ?_) (fun k' c2 => ?_) (fun c2 => ?_)
    · exfalso; omega
    · exfalso; omega
    · exfalso; omega
    · exfalso; omega
    · exfalso; omega
    · exfalso; omega
    · exfalso; omega
    · obtain rfl : k = k' := by omega
      exact ⟨by rw [h.2.2.1.2.2.2.2.2.2 k (by omega)], h.next hn⟩
    · exfalso; omega
  · refine ⟨_, rfl, ?_⟩
    refine sp_G_count hm hc2 hw (fun c2 => ?_) (fun c2 => ?_) (fun c2 => ?_) (fun c2 => ?_) (fun c2 => ?_) (fun c2 => ?_) (fun c2 => ?_) (fun k' c2 => ?_) (fun c2 => ?_)
    · exfalso; omega
    · exfalso; omega
    · exfalso; omega
    · exfalso; omega
    · exfalso; omega
    · exfalso; omega
    · exfalso; omega
    · exfalso; omega
    · exact ⟨rfl, h.next hn⟩
theorem sp_freeSeats {P : PP} {d n c : Nat} {FI A L : Nat → Nat → Int} {X : SX} {Q : Option AV → S2 → Prop} (hI : cI n FI A) (hc : FI 6 8 = (c : Int)) {F s : Nat} (hF : F < 11) (hs : s < 2147483648) (hq : Q (some (vi (A (8 + F) 0 - sumN (fun t => if A (20 + t) 4 = (F : Int) ∧ s.testBit t = false then A (20 + t) 0 else 0) c))) (FI, A, L, X)) : WP2 P M_H_freeSeats (d + 1) 0 [some (vr 6), some (vi (F : Int)), some (vi (s : Int)), none, none] [] (FI, A, L, X) Q := by
  have hcc := hI.1
  have hfl := hI.2.2.1 F hF
  unfold cFl at hfl
  refine WP_n 1 rfl ?_
  refine WP2_getf rfl rfl rfl rfl rfl ?_
  refine WP_n 1 rfl ?_
  refine WP2_aald (b := 8) (j := F) (n := 11) rfl rfl rfl rfl rfl (by omega) (by omega) ?_
  refine WP_n 1 rfl ?_
  refine WP2_iald (j := 0) rfl rfl (ia_fl (by omega)) (by omega) (by omega) (by omega) ?_
  refine WP_n 3 rfl ?_
  rw [show A (8 + F) 0 = A (8 + F) 0 - sumN (fun t => if A (20 + t) 4 = (F : Int) ∧ s.testBit t = false then A (20 + t) 0 else 0) 0 from (Int.sub_zero _).symm]
  refine up_to (P := fun t => WP2 P M_H_freeSeats (d + 1) 9 [some (vr 6), some (vi (F : Int)), some (vi (s : Int)), some (vi (A (8 + F) 0 - sumN (fun t => if A (20 + t) 4 = (F : Int) ∧ s.testBit t = false then A (20 + t) 0 else 0) t)), some (vi (t : Int))] [] (FI, A, L, X) Q) c ?_ ?_ 0 (by omega)
  · refine WP_n 2 rfl ?_
    refine WP2_getf rfl rfl rfl rfl rfl ?_
    refine WP_icmpge rfl rfl ⟨by omega, by omega⟩ ⟨by omega, by omega⟩ (fun h12 => ?_) (fun h12 => absurd h12 (by omega))
    refine WP_n 1 rfl ?_
    exact WP_iret rfl rfl rfl ⟨_, rfl, hq⟩
  · intro t ht ih
    have hq := hI.2.2.2.1 t (by omega)
    unfold cTm at hq
    refine WP_n 2 rfl ?_
    refine WP2_getf rfl rfl rfl rfl rfl ?_
    refine WP_icmpge rfl rfl ⟨by omega, by omega⟩ ⟨by omega, by omega⟩ (fun h12 => absurd h12 (by omega)) (fun h12 => ?_)
    refine WP_n 1 rfl ?_
    refine WP2_getf rfl rfl rfl rfl rfl ?_
    refine WP_n 1 rfl ?_
    refine WP2_aald (b := 20) (j := t) (n := 16) rfl rfl rfl rfl rfl (by omega) (by omega) ?_
    refine WP_n 1 rfl ?_
    refine WP2_iald (j := 4) rfl rfl (ia_tm (by omega)) (by omega) (by omega) (by omega) ?_
    refine WP_n 1 rfl ?_
    refine WP_icmpne rfl rfl ⟨by omega, by omega⟩ ⟨by omega, by omega⟩ (fun h20 => ?_) (fun h20 => ?_)
    · refine WP_n 2 rfl ?_
      have e : sumN (fun t => if A (20 + t) 4 = (F : Int) ∧ s.testBit t = false then A (20 + t) 0 else 0) (t + 1) = sumN (fun t => if A (20 + t) 4 = (F : Int) ∧ s.testBit t = false then A (20 + t) 0 else 0) t := by
        show sumN (fun t => if A (20 + t) 4 = (F : Int) ∧ s.testBit t = false then A (20 + t) 0 else 0) t + (if _ then _ else _) = _
        rw [if_neg (fun q => h20 q.1)]
        omega
      rw [e] at ih
      exact ih
    · refine WP_n 2 rfl ?_
      refine WP2_callN 2 ok_M_F_holds rfl rfl rfl rfl rfl rfl rfl (Nat.le_of_ble_eq_true rfl) (Nat.le_of_ble_eq_true rfl) ?_
      refine sp_holds hs (by omega) (fun hB => ?_) (fun hB => ?_)
      · refine WP_ifne rfl rfl ⟨by decide, by decide⟩  (fun h24 => ?_) (fun h24 => absurd (by decide) h24)
        refine WP_n 2 rfl ?_
        have e : sumN (fun t => if A (20 + t) 4 = (F : Int) ∧ s.testBit t = false then A (20 + t) 0 else 0) (t + 1) = sumN (fun t => if A (20 + t) 4 = (F : Int) ∧ s.testBit t = false then A (20 + t) 0 else 0) t := by
          show sumN (fun t => if A (20 + t) 4 = (F : Int) ∧ s.testBit t = false then A (20 + t) 0 else 0) t + (if _ then _ else _) = _
          rw [if_neg (fun q => by rw [hB] at q; exact absurd q.2 (by decide))]
          omega
        rw [e] at ih
        exact ih
      · refine WP_ifne rfl rfl ⟨by decide, by decide⟩  (fun h24 => absurd h24 (by decide)) (fun h24 => ?_)
        refine WP_n 2 rfl ?_
        refine WP2_getf rfl rfl rfl rfl rfl ?_
        refine WP_n 1 rfl ?_
        refine WP2_aald (b := 20) (j := t) (n := 16) rfl rfl rfl rfl rfl (by omega) (by omega) ?_
        refine WP_n 1 rfl ?_
        refine WP2_iald (j := 0) rfl rfl (ia_tm (by omega)) (by omega) (by omega) (by omega) ?_
        refine WP_n 4 rfl ?_
        have e : A (8 + F) 0 - sumN (fun t => if A (20 + t) 4 = (F : Int) ∧ s.testBit t = false then A (20 + t) 0 else 0) (t + 1) = A (8 + F) 0 - sumN (fun t => if A (20 + t) 4 = (F : Int) ∧ s.testBit t = false then A (20 + t) 0 else 0) t - A (20 + t) 0 := by
          show _ - (sumN (fun t => if A (20 + t) 4 = (F : Int) ∧ s.testBit t = false then A (20 + t) 0 else 0) t + (if _ then _ else _)) = _
          rw [if_pos ⟨by omega, hB⟩]
          omega
        rw [e] at ih
        exact ih
theorem sp_F_free {P : PP} {d n c : Nat} {FI A L : Nat → Nat → Int} {X : SX} {Q : Option AV → S2 → Prop} (hI : cI n FI A) (hc : FI 6 8 = (c : Int)) {f : Int} (hf : inR f) (r1 : (f < 0 ∨ 11 ≤ f) → Q (some (vi (-1))) (FI, rfC A 1, L, X)) (ok : ∀ F : Nat, f = (F : Int) ∧ F < 11 → Q (some (vi (A (8 + F) 0 - sumN (fun t => if A (20 + t) 4 = (F : Int) ∧ (0 : Nat).testBit t = false then A (20 + t) 0 else 0) c + 10000))) (FI, A, L, X)) : WP2 P M_F_free (d + 2) 0 [some (vr 5), some (vi f)] [] (FI, A, L, X) Q := by
  refine WP_n 1 rfl ?_
  refine WP2_callS 1 ok_M_F_noFloor rfl rfl rfl rfl rfl rfl rfl (Nat.le_of_ble_eq_true rfl) (Nat.le_of_ble_eq_true rfl) ?_
  refine sp_noFloor hf (fun hF => ?_) (fun hF hFb => ?_)
  · refine WP_ifeq rfl rfl ⟨by decide, by decide⟩  (fun h2 => absurd h2 (by decide)) (fun h2 => ?_)
    refine WP_n 2 rfl ?_
    refine WP2_callV 1 ok_M_F_refuse rfl rfl rfl rfl rfl rfl (Nat.le_of_ble_eq_true rfl) (Nat.le_of_ble_eq_true rfl) rfl rfl ?_
    refine sp_refuse (k := 1) rfl (by omega) ?_
    exact WP_iret rfl rfl rfl ⟨_, rfl, r1 (by omega)⟩
  · refine WP_ifeq rfl rfl ⟨by decide, by decide⟩  (fun h2 => ?_) (fun h2 => absurd (by decide) h2)
    obtain ⟨F, rfl⟩ : ∃ F : Nat, f = (F : Int) := ⟨f.toNat, by omega⟩
    refine WP_n 1 rfl ?_
    refine WP2_getf rfl rfl rfl rfl rfl ?_
    refine WP_n 2 rfl ?_
    refine WP2_callV 2 ok_M_H_freeSeats rfl rfl rfl rfl rfl rfl (Nat.le_of_ble_eq_true rfl) (Nat.le_of_ble_eq_true rfl) rfl rfl ?_
    refine sp_freeSeats hI hc (s := 0) (by omega) (by omega) ?_
    refine WP_n 2 rfl ?_
    exact WP_iret rfl rfl rfl ⟨_, rfl, ok F (by omega)⟩
theorem sp_G_free {P : PP} {d n c : Nat} {FI A L : Nat → Nat → Int} {X : SX} {Q : Option AV → S2 → Prop} (hI : mI n FI A) (hc : FI 165 0 = (c : Int)) {f : Int} (hf : inR f) (r1 : (f < 0 ∨ 11 ≤ f) → Q (some (vi (-1))) (FI, rfG A 1, L, X)) (ok : ∀ F : Nat, f = (F : Int) ∧ F < 11 → Q (some (vi (10000 + A 166 F - sumN (fun t => if A 174 t = (F : Int) then A 170 t else 0) c))) (FI, A, L, X)) : WP2 P M_G_free (d + 2) 0 [some (vr 165), some (vi f), none, none] [] (FI, A, L, X) Q := by
  have hcc := hI.2.1
  refine WP_n 1 rfl ?_
  refine WP2_callS 1 ok_M_G_isFloor rfl rfl rfl rfl rfl rfl rfl (Nat.le_of_ble_eq_true rfl) (Nat.le_of_ble_eq_true rfl) ?_
  refine sp_isFloor hf (fun hF => ?_) (fun hF hFb => ?_)
  · refine WP_ifne rfl rfl ⟨by decide, by decide⟩  (fun h2 => absurd h2 (by decide)) (fun h2 => ?_)
    refine WP_n 2 rfl ?_
    refine WP2_callV 1 ok_M_G_no rfl rfl rfl rfl rfl rfl (Nat.le_of_ble_eq_true rfl) (Nat.le_of_ble_eq_true rfl) rfl rfl ?_
    refine sp_no (k := 1) rfl (by omega) ?_
    exact WP_iret rfl rfl rfl ⟨_, rfl, r1 (by omega)⟩
  · refine WP_ifne rfl rfl ⟨by decide, by decide⟩  (fun h2 => ?_) (fun h2 => absurd (by decide) h2)
    obtain ⟨F, rfl⟩ : ∃ F : Nat, f = (F : Int) := ⟨f.toNat, by omega⟩
    have hfl := hI.2.2.2.1 F (by omega)
    unfold mFl at hfl
    refine WP_n 2 rfl ?_
    refine WP2_getf rfl rfl rfl rfl rfl ?_
    refine WP_n 1 rfl ?_
    refine WP2_iald (j := F) rfl rfl (ia_lit (n := 11) rfl rfl (by omega)) (by omega) (by omega) (by omega) ?_
    refine WP_n 4 rfl ?_
    rw [show 10000 + A 166 F = 10000 + A 166 F - sumN (fun t => if A 174 t = (F : Int) then A 170 t else 0) 0 from (Int.sub_zero _).symm]
    refine up_to (P := fun t => WP2 P M_G_free (d + 2) 16 [some (vr 165), some (vi (F : Int)), some (vi (10000 + A 166 F - sumN (fun t => if A 174 t = (F : Int) then A 170 t else 0) t)), some (vi (t : Int))] [] (FI, A, L, X) Q) c ?_ ?_ 0 (by omega)
    · refine WP_n 2 rfl ?_
      refine WP2_getf rfl rfl rfl rfl rfl ?_
      refine WP_icmpge rfl rfl ⟨by omega, by omega⟩ ⟨by omega, by omega⟩ (fun h19 => ?_) (fun h19 => absurd h19 (by omega))
      refine WP_n 1 rfl ?_
      exact WP_iret rfl rfl rfl ⟨_, rfl, ok F (by omega)⟩
    · intro t ht ih
      have hq := hI.2.2.2.2.1 t (by omega)
      unfold mTm at hq
      refine WP_n 2 rfl ?_
      refine WP2_getf rfl rfl rfl rfl rfl ?_
      refine WP_icmpge rfl rfl ⟨by omega, by omega⟩ ⟨by omega, by omega⟩ (fun h19 => absurd h19 (by omega)) (fun h19 => ?_)
      refine WP_n 1 rfl ?_
      refine WP2_getf rfl rfl rfl rfl rfl ?_
      refine WP_n 1 rfl ?_
      refine WP2_iald (j := t) rfl rfl (ia_lit (n := 16) rfl rfl (by omega)) (by omega) (by omega) (by omega) ?_
      refine WP_n 1 rfl ?_
      refine WP_icmpne rfl rfl ⟨by omega, by omega⟩ ⟨by omega, by omega⟩ (fun h25 => ?_) (fun h25 => ?_)
      · refine WP_n 2 rfl ?_
        have e : sumN (fun t => if A 174 t = (F : Int) then A 170 t else 0) (t + 1) = sumN (fun t => if A 174 t = (F : Int) then A 170 t else 0) t := by
          show sumN (fun t => if A 174 t = (F : Int) then A 170 t else 0) t + (if _ then _ else _) = _
          rw [if_neg h25]
          omega
        rw [e] at ih
        exact ih
      · refine WP_n 2 rfl ?_
        refine WP2_getf rfl rfl rfl rfl rfl ?_
        refine WP_n 1 rfl ?_
        refine WP2_iald (j := t) rfl rfl (ia_lit (n := 16) rfl rfl (by omega)) (by omega) (by omega) (by omega) ?_
        refine WP_n 4 rfl ?_
        have e : 10000 + A 166 F - sumN (fun t => if A 174 t = (F : Int) then A 170 t else 0) (t + 1) = 10000 + A 166 F - sumN (fun t => if A 174 t = (F : Int) then A 170 t else 0) t - A 170 t := by
          show _ - (sumN (fun t => if A 174 t = (F : Int) then A 170 t else 0) t + (if _ then _ else _)) = _
          rw [if_pos (by omega)]
          omega
        rw [e] at ih
        exact ih
theorem pr_free {P : PP} {n : Nat} {FI A L : Nat → Nat → Int} {X : SX} (h : INV P n FI A X) (hn : n < 512) {f : Int} (hf : inR f) : PAIR P n (FI, A, L, X) M_F_free [some (vr 5), some (vi f)] M_G_free [some (vr 165), some (vi f), none, none] := by
  intro d
  have hm := h.mI
  have hcI := h.2.1
  have hk1 := hcI.1
  have g1 := h.2.2.1.1
  obtain ⟨c, hc⟩ : ∃ c : Nat, FI 6 8 = (c : Int) := ⟨(FI 6 8).toNat, by omega⟩
  have hc2 : FI 165 0 = (c : Int) := by rw [g1]; exact hc
  refine sp_F_free hcI hc hf (fun c1 => ?_) (fun F c1 => ?_)
  · refine ⟨_, rfl, ?_⟩
    refine sp_G_free (hm.up (by omega)) hc2 hf (fun c2 => ?_) (fun F' c2 => ?_)
    · exact ⟨rfl, INV_ref h hn (by omega)⟩
    · exfalso; omega
  · refine ⟨_, rfl, ?_⟩
    refine sp_G_free hm hc2 hf (fun c2 => ?_) (fun F' c2 => ?_)
    · exfalso; omega
    · obtain rfl : F = F' := by omega
      have gf := h.2.2.1.2.2.1 F (by omega)
      unfold gFl at gf
      have e2 : sumN (fun t => if A 174 t = (F : Int) then A 170 t else 0) c = sumN (fun t => if A (20 + t) 4 = (F : Int) ∧ (0 : Nat).testBit t = false then A (20 + t) 0 else 0) c := sumN_congr c (fun t ht => by
        have q := h.2.2.1.2.2.2.1 t (by omega)
        unfold gTm at q
        skip
        rw [show A 174 t = A (20 + t) 4 by omega, show A 170 t = A (20 + t) 0 by omega]
        by_cases e : A (20 + t) 4 = (F : Int)
        · rw [if_pos e, if_pos ⟨e, by simp⟩]
        · rw [if_neg e, if_neg (fun q => e q.1)])
      refine ⟨congrArg (fun z => some (vi z)) ?_, h.next hn⟩
      rw [e2, gf.1]
      omega
end
section
/-! fit and walked: the words, and the class -/
def absd (x y : Int) : Int := if 0 ≤ x - y then x - y else -(x - y)
def pw (A : Nat → Nat → Int) (s : Nat) (t : Nat) : Int := if s.testBit t then -9 else A (20 + t) 4
def occ (A : Nat → Nat → Int) (pl : Nat → Int) (f : Nat) (n : Nat) : Int := sumN (fun t => if pl t = (f : Int) then A (20 + t) 0 else 0) n
def suitsP (A : Nat → Nat → Int) (F t : Nat) : Prop := iAnd (A (8 + F) 1) (A (20 + t) 1) = A (20 + t) 1
def agrP (A : Nat → Nat → Int) (a : Nat) (x : Int) (b : Nat) (y : Int) : Prop := ¬ (A (71 + a) b = 1 ∧ 1 < absd x y) ∧ (x = y → A (54 + a) b = 0 ∧ A (20 + a) 2 ≤ A (20 + b) 3 ∧ A (20 + b) 2 ≤ A (20 + a) 3)
def fitT (A : Nat → Nat → Int) (pl : Nat → Int) (a : Nat) : Prop := pl a ≠ -9 → suitsP A (pl a).toNat a ∧ ∀ b, b < a → pl b ≠ -9 → agrP A a (pl a) b (pl b)
def FIT (A : Nat → Nat → Int) (c : Nat) (pl : Nat → Int) : Prop := (∀ f, f < 11 → occ A pl f c ≤ A (8 + f) 0) ∧ ∀ a, a < c → fitT A pl a
def wk2 (A : Nat → Nat → Int) (pl : Nat → Int) (a b : Nat) : Int := if pl a ≠ -9 ∧ pl b ≠ -9 then A (37 + a) b * absd (pl a) (pl b) else 0
def walkP (A : Nat → Nat → Int) (pl : Nat → Int) (c : Nat) : Int := sumN (fun a => sumN (fun b => wk2 A pl a b) a) c
theorem absd_bd {x y : Int} (hx : 0 ≤ x ∧ x < 11) (hy : 0 ≤ y ∧ y < 11) : 0 ≤ absd x y ∧ absd x y ≤ 10 := by
  unfold absd
  split <;> omega
theorem suits7 : ∀ x, x < 8 → ∀ y, y < 8 → (iAnd ((x : Nat) : Int) (iXor ((y : Nat) : Int) (-1)) = 0 ↔ iAnd ((y : Nat) : Int) ((x : Nat) : Int) = ((x : Nat) : Int)) := by decide +kernel
theorem pw_ne {A : Nat → Nat → Int} {s t : Nat} (h : pw A s t ≠ -9) : pw A s t = A (20 + t) 4 ∧ s.testBit t = false ∧ A (20 + t) 4 ≠ -9 := by
  unfold pw at *
  cases hb : s.testBit t
  · rw [hb] at h
    exact ⟨rfl, rfl, h⟩
  · rw [hb] at h
    exact absurd rfl h
theorem pw_eq {A : Nat → Nat → Int} {s t : Nat} (h : s.testBit t = false) : pw A s t = A (20 + t) 4 := by unfold pw; rw [h]; rfl
theorem pw_in {A : Nat → Nat → Int} {s t : Nat} (h : s.testBit t = true) : pw A s t = -9 := by unfold pw; rw [h]; rfl
theorem wk2_bd {A : Nat → Nat → Int} {pl : Nat → Int} {a b : Nat} (hv : 0 ≤ A (37 + a) b ∧ A (37 + a) b ≤ 99) (ha : pl a = -9 ∨ (0 ≤ pl a ∧ pl a < 11)) (hb : pl b = -9 ∨ (0 ≤ pl b ∧ pl b < 11)) : 0 ≤ wk2 A pl a b ∧ wk2 A pl a b ≤ 990 := by
  unfold wk2
  split
  · rename_i h
    have h1 := absd_bd (x := pl a) (y := pl b) (by omega) (by omega)
    exact ⟨Int.mul_nonneg hv.1 h1.1, Int.le_trans (Int.mul_le_mul hv.2 h1.2 h1.1 (by omega)) (by omega)⟩
  · omega
theorem sp_stays {P : PP} {d n c : Nat} {FI A L : Nat → Nat → Int} {X : SX} {Q : Option AV → S2 → Prop} (hI : cI n FI A) (hc : FI 6 8 = (c : Int)) {T s : Nat} (hT : T < 16) (hs : s < 2147483648) (h1 : pw A s T ≠ -9 → Q (some (vi 1)) (FI, A, L, X)) (h0 : pw A s T = -9 → Q (some (vi 0)) (FI, A, L, X)) : WP2 P M_H_stays (d + 1) 0 [some (vr 6), some (vi (T : Int)), some (vi (s : Int))] [] (FI, A, L, X) Q := by
  have hq := hI.2.2.2.1 T hT
  unfold cTm at hq
  refine WP_n 1 rfl ?_
  refine WP2_getf rfl rfl rfl rfl rfl ?_
  refine WP_n 1 rfl ?_
  refine WP2_aald (b := 20) (j := T) (n := 16) rfl rfl rfl rfl rfl (by omega) (by omega) ?_
  refine WP_n 1 rfl ?_
  refine WP2_iald (j := 4) rfl rfl (ia_tm (by omega)) (by omega) (by omega) (by omega) ?_
  refine WP_n 1 rfl ?_
  refine WP_icmpeq rfl rfl ⟨by omega, by omega⟩ ⟨by omega, by omega⟩ (fun h7 => ?_) (fun h7 => ?_)
  · refine WP_n 1 rfl ?_
    exact WP_zret rfl rfl rfl (Or.inl rfl) ⟨_, rfl, h0 (by unfold pw; split <;> omega)⟩
  · refine WP_n 2 rfl ?_
    refine WP2_callN 2 ok_M_F_holds rfl rfl rfl rfl rfl rfl rfl (Nat.le_of_ble_eq_true rfl) (Nat.le_of_ble_eq_true rfl) ?_
    refine sp_holds hs (by omega) (fun hB => ?_) (fun hB => ?_)
    · refine WP_ifne rfl rfl ⟨by decide, by decide⟩  (fun h11 => ?_) (fun h11 => absurd (by decide) h11)
      refine WP_n 1 rfl ?_
      exact WP_zret rfl rfl rfl (Or.inl rfl) ⟨_, rfl, h0 (pw_in hB)⟩
    · refine WP_ifne rfl rfl ⟨by decide, by decide⟩  (fun h11 => absurd h11 (by decide)) (fun h11 => ?_)
      refine WP_n 2 rfl ?_
      exact WP_zret rfl rfl rfl (Or.inr rfl) ⟨_, rfl, h1 (by rw [pw_eq hB]; exact h7)⟩
theorem sp_suits {P : PP} {d n c : Nat} {FI A L : Nat → Nat → Int} {X : SX} {Q : Option AV → S2 → Prop} (hI : cI n FI A) (hc : FI 6 8 = (c : Int)) {F T : Nat} (hF : F < 11) (hT : T < 16) (h1 : suitsP A F T → Q (some (vi 1)) (FI, A, L, X)) (h0 : ¬ suitsP A F T → Q (some (vi 0)) (FI, A, L, X)) : WP2 P M_H_suits (d) 0 [some (vr 6), some (vi (F : Int)), some (vi (T : Int))] [] (FI, A, L, X) Q := by
  have hq := hI.2.2.2.1 T hT
  unfold cTm at hq
  have hf := hI.2.2.1 F hF
  unfold cFl at hf
  obtain ⟨x, hx⟩ : ∃ x : Nat, A (20 + T) 1 = (x : Int) := ⟨(A (20 + T) 1).toNat, by omega⟩
  obtain ⟨y, hy⟩ : ∃ y : Nat, A (8 + F) 1 = (y : Int) := ⟨(A (8 + F) 1).toNat, by omega⟩
  have key := suits7 x (by omega) y (by omega)
  unfold suitsP at h1 h0
  rw [hx, hy] at h1 h0
  refine WP_n 1 rfl ?_
  refine WP2_getf rfl rfl rfl rfl rfl ?_
  refine WP_n 1 rfl ?_
  refine WP2_aald (b := 20) (j := T) (n := 16) rfl rfl rfl rfl rfl (by omega) (by omega) ?_
  refine WP_n 1 rfl ?_
  refine WP2_iald (j := 1) rfl rfl (ia_tm (by omega)) (by omega) (by omega) (by omega) ?_
  refine WP_n 1 rfl ?_
  refine WP2_getf rfl rfl rfl rfl rfl ?_
  refine WP_n 1 rfl ?_
  refine WP2_aald (b := 8) (j := F) (n := 11) rfl rfl rfl rfl rfl (by omega) (by omega) ?_
  refine WP_n 1 rfl ?_
  refine WP2_iald (j := 1) rfl rfl (ia_fl (by omega)) (by omega) (by omega) (by omega) ?_
  rw [hx, hy]
  refine WP_n 3 rfl ?_
  refine WP_ifne rfl rfl (iAnd_inR _ _) (fun h15 => ?_) (fun h15 => ?_)
  · refine WP_n 1 rfl ?_
    exact WP_zret rfl rfl rfl (Or.inl rfl) ⟨_, rfl, h0 (fun q => h15 (key.mpr q))⟩
  · refine WP_n 2 rfl ?_
    exact WP_zret rfl rfl rfl (Or.inr rfl) ⟨_, rfl, h1 (key.mp (by omega))⟩
theorem sp_walkBetween {P : PP} {d n c : Nat} {FI A L : Nat → Nat → Int} {X : SX} {Q : Option AV → S2 → Prop} (hI : cI n FI A) (hc : FI 6 8 = (c : Int)) {a b : Nat} {x y : Int} (ha : a < 16) (hb : b < 16) (hx : 0 ≤ x ∧ x < 11) (hy : 0 ≤ y ∧ y < 11) (hq : Q (some (vi (A (37 + a) b * absd x y))) (FI, A, L, X)) : WP2 P M_H_walkBetween (d + 1) 0 [some (vr 6), some (vi (a : Int)), some (vi x), some (vi (b : Int)), some (vi y)] [] (FI, A, L, X) Q := by
  refine WP_n 1 rfl ?_
  refine WP2_getf rfl rfl rfl rfl rfl ?_
  refine WP_n 1 rfl ?_
  refine WP2_aald (b := 37) (j := a) (n := 16) rfl rfl rfl rfl rfl (by omega) (by omega) ?_
  refine WP_n 1 rfl ?_
  refine WP2_iald (j := b) rfl rfl (ia_vs (by omega)) (by omega) (by omega) (by omega) ?_
  refine WP_n 3 rfl ?_
  refine WP_abs rfl rfl rfl rfl rfl (Nat.le_of_ble_eq_true rfl) (by omega) (by omega) ?_
  refine WP_n 1 rfl ?_
  exact WP_iret rfl rfl rfl ⟨_, rfl, hq⟩
theorem sp_agree {P : PP} {d n c : Nat} {FI A L : Nat → Nat → Int} {X : SX} {Q : Option AV → S2 → Prop} (hI : cI n FI A) (hc : FI 6 8 = (c : Int)) {a b : Nat} {x y : Int} (ha : a < 16) (hb : b < 16) (hx : 0 ≤ x ∧ x < 11) (hy : 0 ≤ y ∧ y < 11) (h1 : agrP A a x b y → Q (some (vi 1)) (FI, A, L, X)) (h0 : ¬ agrP A a x b y → Q (some (vi 0)) (FI, A, L, X)) : WP2 P M_H_agree (d + 1) 0 [some (vr 6), some (vi (a : Int)), some (vi x), some (vi (b : Int)), some (vi y)] [] (FI, A, L, X) Q := by
  have hqa := hI.2.2.2.1 a ha
  have hqb := hI.2.2.2.1 b hb
  have hqw := hI.2.2.2.2.1 a b ha hb
  unfold cTm at hqa hqb
  unfold cTw at hqw
  have hab := absd_bd hx hy
  have ead : (if 0 ≤ x - y then x - y else -(x - y)) = absd x y := rfl
  refine WP_n 1 rfl ?_
  refine WP2_getf rfl rfl rfl rfl rfl ?_
  refine WP_n 1 rfl ?_
  refine WP2_aald (b := 71) (j := a) (n := 16) rfl rfl rfl rfl rfl (by omega) (by omega) ?_
  refine WP_n 1 rfl ?_
  refine WP2_iald (j := b) rfl rfl (ia_nr (by omega)) (by omega) (by omega) (by omega) ?_
  refine WP_n 1 rfl ?_
  refine WP_icmpne rfl rfl ⟨by omega, by omega⟩ ⟨by omega, by omega⟩ (fun h7 => ?_) (fun h7 => ?_)
  · refine WP_n 2 rfl ?_
    refine WP_icmpeq rfl rfl ⟨by omega, by omega⟩ ⟨by omega, by omega⟩ (fun h18 => ?_) (fun h18 => ?_)
    · refine WP_n 1 rfl ?_
      refine WP2_getf rfl rfl rfl rfl rfl ?_
      refine WP_n 1 rfl ?_
      refine WP2_aald (b := 54) (j := a) (n := 16) rfl rfl rfl rfl rfl (by omega) (by omega) ?_
      refine WP_n 1 rfl ?_
      refine WP2_iald (j := b) rfl rfl (ia_br (by omega)) (by omega) (by omega) (by omega) ?_
      refine WP_ifne rfl rfl ⟨by omega, by omega⟩ (fun h27 => ?_) (fun h27 => ?_)
      · refine WP_n 1 rfl ?_
        exact WP_zret rfl rfl rfl (Or.inl rfl) ⟨_, rfl, h0 (fun q => h27 (q.2 h18).1)⟩
      · refine WP_n 1 rfl ?_
        refine WP2_getf rfl rfl rfl rfl rfl ?_
        refine WP_n 1 rfl ?_
        refine WP2_aald (b := 20) (j := a) (n := 16) rfl rfl rfl rfl rfl (by omega) (by omega) ?_
        refine WP_n 1 rfl ?_
        refine WP2_iald (j := 2) rfl rfl (ia_tm (by omega)) (by omega) (by omega) (by omega) ?_
        refine WP_n 1 rfl ?_
        refine WP2_getf rfl rfl rfl rfl rfl ?_
        refine WP_n 1 rfl ?_
        refine WP2_aald (b := 20) (j := b) (n := 16) rfl rfl rfl rfl rfl (by omega) (by omega) ?_
        refine WP_n 1 rfl ?_
        refine WP2_iald (j := 3) rfl rfl (ia_tm (by omega)) (by omega) (by omega) (by omega) ?_
        refine WP_icmpgt rfl rfl ⟨by omega, by omega⟩ ⟨by omega, by omega⟩ (fun h40 => ?_) (fun h40 => ?_)
        · refine WP_n 1 rfl ?_
          exact WP_zret rfl rfl rfl (Or.inl rfl) ⟨_, rfl, h0 (fun q => by have := (q.2 h18).2.1; omega)⟩
        · refine WP_n 1 rfl ?_
          refine WP2_getf rfl rfl rfl rfl rfl ?_
          refine WP_n 1 rfl ?_
          refine WP2_aald (b := 20) (j := b) (n := 16) rfl rfl rfl rfl rfl (by omega) (by omega) ?_
          refine WP_n 1 rfl ?_
          refine WP2_iald (j := 2) rfl rfl (ia_tm (by omega)) (by omega) (by omega) (by omega) ?_
          refine WP_n 1 rfl ?_
          refine WP2_getf rfl rfl rfl rfl rfl ?_
          refine WP_n 1 rfl ?_
          refine WP2_aald (b := 20) (j := a) (n := 16) rfl rfl rfl rfl rfl (by omega) (by omega) ?_
          refine WP_n 1 rfl ?_
          refine WP2_iald (j := 3) rfl rfl (ia_tm (by omega)) (by omega) (by omega) (by omega) ?_
          refine WP_icmpgt rfl rfl ⟨by omega, by omega⟩ ⟨by omega, by omega⟩ (fun h53 => ?_) (fun h53 => ?_)
          · refine WP_n 1 rfl ?_
            exact WP_zret rfl rfl rfl (Or.inl rfl) ⟨_, rfl, h0 (fun q => by have := (q.2 h18).2.2; omega)⟩
          · refine WP_n 2 rfl ?_
            exact WP_zret rfl rfl rfl (Or.inr rfl) ⟨_, rfl, h1 ⟨fun q => h7 q.1, fun e => ⟨by omega, by omega, by omega⟩⟩⟩
    · refine WP_n 1 rfl ?_
      exact WP_zret rfl rfl rfl (Or.inr rfl) ⟨_, rfl, h1 ⟨fun q => h7 q.1, fun e => absurd e h18⟩⟩
  · refine WP_n 3 rfl ?_
    refine WP_abs rfl rfl rfl rfl rfl (Nat.le_of_ble_eq_true rfl) (by omega) (by omega) ?_
    rw [ead]
    refine WP_n 1 rfl ?_
    refine WP_icmple rfl rfl ⟨by omega, by omega⟩ ⟨by omega, by omega⟩ (fun h13 => ?_) (fun h13 => ?_)
    · refine WP_n 2 rfl ?_
      refine WP_icmpeq rfl rfl ⟨by omega, by omega⟩ ⟨by omega, by omega⟩ (fun h18 => ?_) (fun h18 => ?_)
      · refine WP_n 1 rfl ?_
        refine WP2_getf rfl rfl rfl rfl rfl ?_
        refine WP_n 1 rfl ?_
        refine WP2_aald (b := 54) (j := a) (n := 16) rfl rfl rfl rfl rfl (by omega) (by omega) ?_
        refine WP_n 1 rfl ?_
        refine WP2_iald (j := b) rfl rfl (ia_br (by omega)) (by omega) (by omega) (by omega) ?_
        refine WP_ifne rfl rfl ⟨by omega, by omega⟩ (fun h27 => ?_) (fun h27 => ?_)
        · refine WP_n 1 rfl ?_
          exact WP_zret rfl rfl rfl (Or.inl rfl) ⟨_, rfl, h0 (fun q => h27 (q.2 h18).1)⟩
        · refine WP_n 1 rfl ?_
          refine WP2_getf rfl rfl rfl rfl rfl ?_
          refine WP_n 1 rfl ?_
          refine WP2_aald (b := 20) (j := a) (n := 16) rfl rfl rfl rfl rfl (by omega) (by omega) ?_
          refine WP_n 1 rfl ?_
          refine WP2_iald (j := 2) rfl rfl (ia_tm (by omega)) (by omega) (by omega) (by omega) ?_
          refine WP_n 1 rfl ?_
          refine WP2_getf rfl rfl rfl rfl rfl ?_
          refine WP_n 1 rfl ?_
          refine WP2_aald (b := 20) (j := b) (n := 16) rfl rfl rfl rfl rfl (by omega) (by omega) ?_
          refine WP_n 1 rfl ?_
          refine WP2_iald (j := 3) rfl rfl (ia_tm (by omega)) (by omega) (by omega) (by omega) ?_
          refine WP_icmpgt rfl rfl ⟨by omega, by omega⟩ ⟨by omega, by omega⟩ (fun h40 => ?_) (fun h40 => ?_)
          · refine WP_n 1 rfl ?_
            exact WP_zret rfl rfl rfl (Or.inl rfl) ⟨_, rfl, h0 (fun q => by have := (q.2 h18).2.1; omega)⟩
          · refine WP_n 1 rfl ?_
            refine WP2_getf rfl rfl rfl rfl rfl ?_
            refine WP_n 1 rfl ?_
            refine WP2_aald (b := 20) (j := b) (n := 16) rfl rfl rfl rfl rfl (by omega) (by omega) ?_
            refine WP_n 1 rfl ?_
            refine WP2_iald (j := 2) rfl rfl (ia_tm (by omega)) (by omega) (by omega) (by omega) ?_
            refine WP_n 1 rfl ?_
            refine WP2_getf rfl rfl rfl rfl rfl ?_
            refine WP_n 1 rfl ?_
            refine WP2_aald (b := 20) (j := a) (n := 16) rfl rfl rfl rfl rfl (by omega) (by omega) ?_
            refine WP_n 1 rfl ?_
            refine WP2_iald (j := 3) rfl rfl (ia_tm (by omega)) (by omega) (by omega) (by omega) ?_
            refine WP_icmpgt rfl rfl ⟨by omega, by omega⟩ ⟨by omega, by omega⟩ (fun h53 => ?_) (fun h53 => ?_)
            · refine WP_n 1 rfl ?_
              exact WP_zret rfl rfl rfl (Or.inl rfl) ⟨_, rfl, h0 (fun q => by have := (q.2 h18).2.2; omega)⟩
            · refine WP_n 2 rfl ?_
              exact WP_zret rfl rfl rfl (Or.inr rfl) ⟨_, rfl, h1 ⟨fun q => by omega, fun e => ⟨by omega, by omega, by omega⟩⟩⟩
      · refine WP_n 1 rfl ?_
        exact WP_zret rfl rfl rfl (Or.inr rfl) ⟨_, rfl, h1 ⟨fun q => by omega, fun e => absurd e h18⟩⟩
    · refine WP_n 1 rfl ?_
      exact WP_zret rfl rfl rfl (Or.inl rfl) ⟨_, rfl, h0 (fun q => q.1 ⟨by omega, by omega⟩)⟩
theorem sp_agreesE {P : PP} {d n c : Nat} {FI A L : Nat → Nat → Int} {X : SX} {Q : Option AV → S2 → Prop} (hI : cI n FI A) (hc : FI 6 8 = (c : Int)) {a s : Nat} (ha : a < c) (hs : s < 2147483648) (hpa : pw A s a ≠ -9) (h1 : (∀ b, b < a → pw A s b ≠ -9 → agrP A a (pw A s a) b (pw A s b)) → Q (some (vi 1)) (FI, A, L, X)) (h0 : ¬ (∀ b, b < a → pw A s b ≠ -9 → agrP A a (pw A s a) b (pw A s b)) → Q (some (vi 0)) (FI, A, L, X)) : WP2 P M_H_agreesWithEarlier (d + 2) 0 [some (vr 6), some (vi (a : Int)), some (vi (s : Int)), none] [] (FI, A, L, X) Q := by
  have hcc := hI.1
  have hqa := hI.2.2.2.1 a (by omega)
  unfold cTm at hqa
  have hpa2 := pw_ne hpa
  refine WP_n 2 rfl ?_
  suffices hh : ∀ t, t ≤ a → (∀ b, b < t → pw A s b ≠ -9 → agrP A a (pw A s a) b (pw A s b)) → WP2 P M_H_agreesWithEarlier (d + 2) 2 [some (vr 6), some (vi (a : Int)), some (vi (s : Int)), some (vi (t : Int))] [] (FI, A, L, X) Q from hh 0 (by omega) (fun b hb => absurd hb (by omega))
  refine up_to (P := fun t => (∀ b, b < t → pw A s b ≠ -9 → agrP A a (pw A s a) b (pw A s b)) → WP2 P M_H_agreesWithEarlier (d + 2) 2 [some (vr 6), some (vi (a : Int)), some (vi (s : Int)), some (vi (t : Int))] [] (FI, A, L, X) Q) a ?_ ?_
  · intro hall
    refine WP_n 2 rfl ?_
    refine WP_icmpge rfl rfl ⟨by omega, by omega⟩ ⟨by omega, by omega⟩ (fun h4 => ?_) (fun h4 => absurd h4 (by omega))
    refine WP_n 1 rfl ?_
    exact WP_zret rfl rfl rfl (Or.inr rfl) ⟨_, rfl, h1 hall⟩
  · intro t ht ih hall
    have hqt := hI.2.2.2.1 t (by omega)
    unfold cTm at hqt
    refine WP_n 2 rfl ?_
    refine WP_icmpge rfl rfl ⟨by omega, by omega⟩ ⟨by omega, by omega⟩ (fun h4 => absurd h4 (by omega)) (fun h4 => ?_)
    refine WP_n 3 rfl ?_
    refine WP2_callV 2 ok_M_H_stays rfl rfl rfl rfl rfl rfl (Nat.le_of_ble_eq_true rfl) (Nat.le_of_ble_eq_true rfl) rfl rfl ?_
    refine sp_stays hI hc (by omega) hs (fun hS => ?_) (fun hS => ?_)
    · have hS2 := pw_ne hS
      refine WP_ifeq rfl rfl ⟨by decide, by decide⟩  (fun h9 => absurd h9 (by decide)) (fun h9 => ?_)
      refine WP_n 3 rfl ?_
      refine WP2_getf rfl rfl rfl rfl rfl ?_
      refine WP_n 1 rfl ?_
      refine WP2_aald (b := 20) (j := a) (n := 16) rfl rfl rfl rfl rfl (by omega) (by omega) ?_
      refine WP_n 1 rfl ?_
      refine WP2_iald (j := 4) rfl rfl (ia_tm (by omega)) (by omega) (by omega) (by omega) ?_
      refine WP_n 2 rfl ?_
      refine WP2_getf rfl rfl rfl rfl rfl ?_
      refine WP_n 1 rfl ?_
      refine WP2_aald (b := 20) (j := t) (n := 16) rfl rfl rfl rfl rfl (by omega) (by omega) ?_
      refine WP_n 1 rfl ?_
      refine WP2_iald (j := 4) rfl rfl (ia_tm (by omega)) (by omega) (by omega) (by omega) ?_
      refine WP2_callV 4 ok_M_H_agree rfl rfl rfl rfl rfl rfl (Nat.le_of_ble_eq_true rfl) (Nat.le_of_ble_eq_true rfl) rfl rfl ?_
      refine sp_agree hI hc (by omega) (by omega) (by omega) (by omega) (fun hA => ?_) (fun hA => ?_)
      · refine WP_ifne rfl rfl ⟨by decide, by decide⟩  (fun h26 => ?_) (fun h26 => absurd (by decide) h26)
        refine WP_n 2 rfl ?_
        exact ih (lt_s hall (fun _ => by rw [hpa2.1, hS2.1]; exact hA))
      · refine WP_ifne rfl rfl ⟨by decide, by decide⟩  (fun h26 => absurd h26 (by decide)) (fun h26 => ?_)
        refine WP_n 1 rfl ?_
        exact WP_zret rfl rfl rfl (Or.inl rfl) ⟨_, rfl, h0 (fun q => hA (by have := q t ht hS; rw [hpa2.1, hS2.1] at this; exact this))⟩
    · refine WP_ifeq rfl rfl ⟨by decide, by decide⟩  (fun h9 => ?_) (fun h9 => absurd (by decide) h9)
      refine WP_n 2 rfl ?_
      exact ih (lt_s hall (fun q => absurd hS q))
theorem occ_pw (A : Nat → Nat → Int) (s F c : Nat) : sumN (fun t => if A (20 + t) 4 = (F : Int) ∧ s.testBit t = false then A (20 + t) 0 else 0) c = occ A (pw A s) F c := by
  unfold occ
  refine sumN_congr c (fun t ht => ?_)
  unfold pw
  cases hb : s.testBit t
  · simp
  · simp
theorem sp_isFit {P : PP} {d n c : Nat} {FI A L : Nat → Nat → Int} {X : SX} {Q : Option AV → S2 → Prop} (hI : cI n FI A) (hc : FI 6 8 = (c : Int)) {s : Nat} (hs : s < 2147483648) (h1 : FIT A c (pw A s) → Q (some (vi 1)) (FI, A, L, X)) (h0 : ¬ FIT A c (pw A s) → Q (some (vi 0)) (FI, A, L, X)) : WP2 P M_H_isFit (d + 3) 0 [some (vr 6), some (vi (s : Int)), none] [] (FI, A, L, X) Q := by
  have hcc := hI.1
  have hocc : ∀ F, F < 11 → 0 ≤ occ A (pw A s) F c ∧ occ A (pw A s) F c ≤ 960 := by
    intro F hF
    have := sumN_bd (f := fun t => if pw A s t = (F : Int) then A (20 + t) 0 else 0) (lo := 0) (hi := 60) c (fun t ht => by
      have hq := hI.2.2.2.1 t (by omega)
      unfold cTm at hq
      split <;> omega)
    unfold occ
    omega
  refine WP_n 2 rfl ?_
  suffices hh : ∀ F, F ≤ 11 → (∀ f, f < F → occ A (pw A s) f c ≤ A (8 + f) 0) → WP2 P M_H_isFit (d + 3) 2 [some (vr 6), some (vi (s : Int)), some (vi (F : Int))] [] (FI, A, L, X) Q from hh 0 (by omega) (fun b hb => absurd hb (by omega))
  refine up_to (P := fun F => (∀ f, f < F → occ A (pw A s) f c ≤ A (8 + f) 0) → WP2 P M_H_isFit (d + 3) 2 [some (vr 6), some (vi (s : Int)), some (vi (F : Int))] [] (FI, A, L, X) Q) 11 ?_ ?_
  · intro hall
    refine WP_n 2 rfl ?_
    refine WP_icmpge rfl rfl ⟨by omega, by omega⟩ ⟨by omega, by omega⟩ (fun h4 => ?_) (fun h4 => absurd h4 (by omega))
    refine WP_n 2 rfl ?_
    suffices hh : ∀ t, t ≤ c → (∀ a, a < t → fitT A (pw A s) a) → WP2 P M_H_isFit (d + 3) 16 [some (vr 6), some (vi (s : Int)), some (vi (t : Int))] [] (FI, A, L, X) Q from hh 0 (by omega) (fun b hb => absurd hb (by omega))
    refine up_to (P := fun t => (∀ a, a < t → fitT A (pw A s) a) → WP2 P M_H_isFit (d + 3) 16 [some (vr 6), some (vi (s : Int)), some (vi (t : Int))] [] (FI, A, L, X) Q) c ?_ ?_
    · intro hall2
      refine WP_n 2 rfl ?_
      refine WP2_getf rfl rfl rfl rfl rfl ?_
      refine WP_icmpge rfl rfl ⟨by omega, by omega⟩ ⟨by omega, by omega⟩ (fun h19 => ?_) (fun h19 => absurd h19 (by omega))
      refine WP_n 1 rfl ?_
      exact WP_zret rfl rfl rfl (Or.inr rfl) ⟨_, rfl, h1 ⟨hall, hall2⟩⟩
    · intro t ht ih hall2
      have hqt := hI.2.2.2.1 t (by omega)
      unfold cTm at hqt
      refine WP_n 2 rfl ?_
      refine WP2_getf rfl rfl rfl rfl rfl ?_
      refine WP_icmpge rfl rfl ⟨by omega, by omega⟩ ⟨by omega, by omega⟩ (fun h19 => absurd h19 (by omega)) (fun h19 => ?_)
      refine WP_n 3 rfl ?_
      refine WP2_callV 2 ok_M_H_stays rfl rfl rfl rfl rfl rfl (Nat.le_of_ble_eq_true rfl) (Nat.le_of_ble_eq_true rfl) rfl rfl ?_
      refine sp_stays hI hc (by omega) hs (fun hS => ?_) (fun hS => ?_)
      · have hS2 := pw_ne hS
        obtain ⟨F, hF⟩ : ∃ F : Nat, A (20 + t) 4 = (F : Int) := ⟨(A (20 + t) 4).toNat, by omega⟩
        have hFn : (pw A s t).toNat = F := by rw [hS2.1, hF]; rfl
        refine WP_ifeq rfl rfl ⟨by decide, by decide⟩  (fun h24 => absurd h24 (by decide)) (fun h24 => ?_)
        refine WP_n 2 rfl ?_
        refine WP2_getf rfl rfl rfl rfl rfl ?_
        refine WP_n 1 rfl ?_
        refine WP2_aald (b := 20) (j := t) (n := 16) rfl rfl rfl rfl rfl (by omega) (by omega) ?_
        refine WP_n 1 rfl ?_
        refine WP2_iald (j := 4) rfl rfl (ia_tm (by omega)) (by omega) (by omega) (by omega) ?_
        refine WP_n 1 rfl ?_
        refine WP2_callV 2 ok_M_H_suits rfl rfl rfl rfl rfl rfl (Nat.le_of_ble_eq_true rfl) (Nat.le_of_ble_eq_true rfl) rfl rfl ?_
        rw [hF]
        refine sp_suits hI hc (by omega) (by omega) (fun hU => ?_) (fun hU => ?_)
        · refine WP_ifeq rfl rfl ⟨by decide, by decide⟩  (fun h34 => absurd h34 (by decide)) (fun h34 => ?_)
          refine WP_n 3 rfl ?_
          refine WP2_callV 2 ok_M_H_agreesWithEarlier rfl rfl rfl rfl rfl rfl (Nat.le_of_ble_eq_true rfl) (Nat.le_of_ble_eq_true rfl) rfl rfl ?_
          refine sp_agreesE hI hc ht hs hS (fun hA => ?_) (fun hA => ?_)
          · refine WP_ifne rfl rfl ⟨by decide, by decide⟩  (fun h39 => ?_) (fun h39 => absurd (by decide) h39)
            refine WP_n 2 rfl ?_
            exact ih (lt_s hall2 (fun _ => ⟨by rw [hFn]; exact hU, hA⟩))
          · refine WP_ifne rfl rfl ⟨by decide, by decide⟩  (fun h39 => absurd h39 (by decide)) (fun h39 => ?_)
            refine WP_n 1 rfl ?_
            exact WP_zret rfl rfl rfl (Or.inl rfl) ⟨_, rfl, h0 (fun q => hA (q.2 t ht hS).2)⟩
        · refine WP_ifeq rfl rfl ⟨by decide, by decide⟩  (fun h34 => ?_) (fun h34 => absurd (by decide) h34)
          refine WP_n 1 rfl ?_
          exact WP_zret rfl rfl rfl (Or.inl rfl) ⟨_, rfl, h0 (fun q => hU (by have := (q.2 t ht hS).1; rw [hFn] at this; exact this))⟩
      · refine WP_ifeq rfl rfl ⟨by decide, by decide⟩  (fun h24 => ?_) (fun h24 => absurd (by decide) h24)
        refine WP_n 2 rfl ?_
        exact ih (lt_s hall2 (fun q => absurd hS q))
  · intro F hF ih hall
    have hfl := hI.2.2.1 F hF
    unfold cFl at hfl
    have ho := hocc F hF
    refine WP_n 2 rfl ?_
    refine WP_icmpge rfl rfl ⟨by omega, by omega⟩ ⟨by omega, by omega⟩ (fun h4 => absurd h4 (by omega)) (fun h4 => ?_)
    refine WP_n 3 rfl ?_
    refine WP2_callV 2 ok_M_H_freeSeats rfl rfl rfl rfl rfl rfl (Nat.le_of_ble_eq_true rfl) (Nat.le_of_ble_eq_true rfl) rfl rfl ?_
    refine sp_freeSeats hI hc (by omega) hs ?_
    rw [occ_pw]
    refine WP_ifge rfl rfl ⟨by omega, by omega⟩ (fun h9 => ?_) (fun h9 => ?_)
    · refine WP_n 2 rfl ?_
      exact ih (lt_s hall (by omega))
    · refine WP_n 1 rfl ?_
      exact WP_zret rfl rfl rfl (Or.inl rfl) ⟨_, rfl, h0 (fun q => by have := q.1 F hF; omega)⟩
end
section
/-! walked, and fit and walked of the reference -/
theorem sp_walk {P : PP} {d n c : Nat} {FI A L : Nat → Nat → Int} {X : SX} {Q : Option AV → S2 → Prop} (hI : cI n FI A) (hc : FI 6 8 = (c : Int)) {s : Nat} (hs : s < 2147483648) (hq : Q (some (vi (walkP A (pw A s) c))) (FI, A, L, X)) : WP2 P M_H_walk (d + 2) 0 [some (vr 6), some (vi (s : Int)), none, none, none] [] (FI, A, L, X) Q := by
  have hcc := hI.1
  have hpl : ∀ t, t < c → pw A s t = -9 ∨ (0 ≤ pw A s t ∧ pw A s t < 11) := fun t ht => by
    have hq := hI.2.2.2.1 t (by omega)
    unfold cTm at hq
    unfold pw
    split <;> omega
  have hbi : ∀ a, a < c → ∀ k, k ≤ a → 0 ≤ sumN (fun b => wk2 A (pw A s) a b) k ∧ sumN (fun b => wk2 A (pw A s) a b) k ≤ 16000 := fun a ha k hk => by
    have := sumN_bd (f := fun b => wk2 A (pw A s) a b) (lo := 0) (hi := 990) k (fun b hb => by
      have hw := hI.2.2.2.2.1 a b (by omega) (by omega)
      unfold cTw at hw
      exact wk2_bd (by omega) (hpl a (by omega)) (hpl b (by omega)))
    omega
  have hbo : ∀ k, k ≤ c → 0 ≤ sumN (fun a => sumN (fun b => wk2 A (pw A s) a b) a) k ∧ sumN (fun a => sumN (fun b => wk2 A (pw A s) a b) a) k ≤ 256000 := fun k hk => by
    have := sumN_bd (f := (fun a => sumN (fun b => wk2 A (pw A s) a b) a)) (lo := 0) (hi := 16000) k (fun a ha => hbi a (by omega) a (by omega))
    omega
  refine WP_n 4 rfl ?_
  refine up_to (P := fun a => WP2 P M_H_walk (d + 2) 4 [some (vr 6), some (vi (s : Int)), some (vi (sumN (fun a => sumN (fun b => wk2 A (pw A s) a b) a) a)), some (vi (a : Int)), none] [] (FI, A, L, X) Q) c ?_ ?_ 0 (by omega)
  · have hz := hbo c (by omega)
    refine WP_n 2 rfl ?_
    refine WP2_getf rfl rfl rfl rfl rfl ?_
    refine WP_icmpge rfl rfl ⟨by omega, by omega⟩ ⟨by omega, by omega⟩ (fun h7 => ?_) (fun h7 => absurd h7 (by omega))
    refine WP_n 1 rfl ?_
    exact WP_iret rfl rfl rfl ⟨_, rfl, hq⟩
  · intro a ha ih
    have hz := hbo a (by omega)
    have hz0 := hbo (a + 1) (by omega)
    have hqa := hI.2.2.2.1 a (by omega)
    unfold cTm at hqa
    refine WP_n 2 rfl ?_
    refine WP2_getf rfl rfl rfl rfl rfl ?_
    refine WP_icmpge rfl rfl ⟨by omega, by omega⟩ ⟨by omega, by omega⟩ (fun h7 => absurd h7 (by omega)) (fun h7 => ?_)
    refine WP_n 2 rfl ?_
    by_cases hS0 : pw A s a = -9
    · have e0 : sumN (fun a => sumN (fun b => wk2 A (pw A s) a b) a) (a + 1) = sumN (fun a => sumN (fun b => wk2 A (pw A s) a b) a) a := by
        show sumN (fun a => sumN (fun b => wk2 A (pw A s) a b) a) a + sumN (fun b => wk2 A (pw A s) a b) a = _
        rw [show sumN (fun b => wk2 A (pw A s) a b) a = sumN (fun _ => 0) a from sumN_congr a (fun b hb => by unfold wk2; rw [if_neg (fun q => q.1 hS0)])]
        have := sumN_bd (f := fun _ => 0) (lo := 0) (hi := 0) a (fun _ _ => ⟨Int.le_refl _, Int.le_refl _⟩)
        omega
      rw [e0] at ih
      by_cases ha0 : a = 0
      · subst ha0
        refine WP_n 2 rfl ?_
        refine WP_icmpge rfl rfl ⟨by omega, by omega⟩ ⟨by omega, by omega⟩ (fun h12 => ?_) (fun h12 => absurd h12 (by omega))
        refine WP_n 2 rfl ?_
        exact WP2_kill 4 ih
      · refine WP_n 2 rfl ?_
        refine WP_icmpge rfl rfl ⟨by omega, by omega⟩ ⟨by omega, by omega⟩ (fun h12 => absurd h12 (by omega)) (fun h12 => ?_)
        refine WP_n 3 rfl ?_
        refine WP2_callV 2 ok_M_H_stays rfl rfl rfl rfl rfl rfl (Nat.le_of_ble_eq_true rfl) (Nat.le_of_ble_eq_true rfl) rfl rfl ?_
        refine sp_stays hI hc (by omega) hs (fun hS => absurd hS0 hS) (fun hS => ?_)
        refine WP_ifeq rfl rfl ⟨by decide, by decide⟩  (fun h17 => ?_) (fun h17 => absurd (by decide) h17)
        refine WP_n 2 rfl ?_
        exact WP2_kill 4 ih
    · have hS2 := pw_ne hS0
      rw [show sumN (fun a => sumN (fun b => wk2 A (pw A s) a b) a) a = sumN (fun a => sumN (fun b => wk2 A (pw A s) a b) a) a + sumN (fun b => wk2 A (pw A s) a b) 0 from (Int.add_zero _).symm]
      refine up_to (P := fun b => WP2 P M_H_walk (d + 2) 10 [some (vr 6), some (vi (s : Int)), some (vi (sumN (fun a => sumN (fun b => wk2 A (pw A s) a b) a) a + sumN (fun b => wk2 A (pw A s) a b) b)), some (vi (a : Int)), some (vi (b : Int))] [] (FI, A, L, X) Q) a ?_ ?_ 0 (by omega)
      · refine WP_n 2 rfl ?_
        refine WP_icmpge rfl rfl ⟨by omega, by omega⟩ ⟨by omega, by omega⟩ (fun h12 => ?_) (fun h12 => absurd h12 (by omega))
        refine WP_n 2 rfl ?_
        exact WP2_kill 4 ih
      · intro b hb ihb
        have hz1 := hbi a (by omega) b (by omega)
        have hz2 := hbi a (by omega) (b + 1) (by omega)
        have hqb := hI.2.2.2.1 b (by omega)
        unfold cTm at hqb
        have hqw := hI.2.2.2.2.1 a b (by omega) (by omega)
        unfold cTw at hqw
        refine WP_n 2 rfl ?_
        refine WP_icmpge rfl rfl ⟨by omega, by omega⟩ ⟨by omega, by omega⟩ (fun h12 => absurd h12 (by omega)) (fun h12 => ?_)
        refine WP_n 3 rfl ?_
        refine WP2_callV 2 ok_M_H_stays rfl rfl rfl rfl rfl rfl (Nat.le_of_ble_eq_true rfl) (Nat.le_of_ble_eq_true rfl) rfl rfl ?_
        refine sp_stays hI hc (by omega) hs (fun hS => ?_) (fun hS => absurd hS hS0)
        refine WP_ifeq rfl rfl ⟨by decide, by decide⟩  (fun h17 => absurd h17 (by decide)) (fun h17 => ?_)
        refine WP_n 3 rfl ?_
        refine WP2_callV 2 ok_M_H_stays rfl rfl rfl rfl rfl rfl (Nat.le_of_ble_eq_true rfl) (Nat.le_of_ble_eq_true rfl) rfl rfl ?_
        refine sp_stays hI hc (by omega) hs (fun hT => ?_) (fun hT => ?_)
        · have hT2 := pw_ne hT
          refine WP_ifeq rfl rfl ⟨by decide, by decide⟩  (fun h22 => absurd h22 (by decide)) (fun h22 => ?_)
          refine WP_n 4 rfl ?_
          refine WP2_getf rfl rfl rfl rfl rfl ?_
          refine WP_n 1 rfl ?_
          refine WP2_aald (b := 20) (j := a) (n := 16) rfl rfl rfl rfl rfl (by omega) (by omega) ?_
          refine WP_n 1 rfl ?_
          refine WP2_iald (j := 4) rfl rfl (ia_tm (by omega)) (by omega) (by omega) (by omega) ?_
          refine WP_n 2 rfl ?_
          refine WP2_getf rfl rfl rfl rfl rfl ?_
          refine WP_n 1 rfl ?_
          refine WP2_aald (b := 20) (j := b) (n := 16) rfl rfl rfl rfl rfl (by omega) (by omega) ?_
          refine WP_n 1 rfl ?_
          refine WP2_iald (j := 4) rfl rfl (ia_tm (by omega)) (by omega) (by omega) (by omega) ?_
          refine WP2_callV 4 ok_M_H_walkBetween rfl rfl rfl rfl rfl rfl (Nat.le_of_ble_eq_true rfl) (Nat.le_of_ble_eq_true rfl) rfl rfl ?_
          refine sp_walkBetween hI hc (by omega) (by omega) (by omega) (by omega) ?_
          refine WP_n 4 rfl ?_
          have ez : sumN (fun a => sumN (fun b => wk2 A (pw A s) a b) a) a + sumN (fun b => wk2 A (pw A s) a b) (b + 1) = sumN (fun a => sumN (fun b => wk2 A (pw A s) a b) a) a + sumN (fun b => wk2 A (pw A s) a b) b + A (37 + a) b * absd (A (20 + a) 4) (A (20 + b) 4) := by
            show _ + (sumN (fun b => wk2 A (pw A s) a b) b + wk2 A (pw A s) a b) = _
            rw [show wk2 A (pw A s) a b = A (37 + a) b * absd (A (20 + a) 4) (A (20 + b) 4) from by unfold wk2; rw [if_pos ⟨hS0, hT⟩, hS2.1, hT2.1]]
            omega
          rw [ez] at ihb
          exact ihb
        · refine WP_ifeq rfl rfl ⟨by decide, by decide⟩  (fun h22 => ?_) (fun h22 => absurd (by decide) h22)
          refine WP_n 2 rfl ?_
          have ez : sumN (fun b => wk2 A (pw A s) a b) (b + 1) = sumN (fun b => wk2 A (pw A s) a b) b := by
            show sumN (fun b => wk2 A (pw A s) a b) b + wk2 A (pw A s) a b = _
            rw [show wk2 A (pw A s) a b = 0 from by unfold wk2; rw [if_neg (fun q => q.2 hT)]]
            omega
          rw [ez] at ihb
          exact ihb
theorem sp_F_fit {P : PP} {d n c : Nat} {FI A L : Nat → Nat → Int} {X : SX} {Q : Option AV → S2 → Prop} (hI : cI n FI A) (hc : FI 6 8 = (c : Int)) (h1 : FIT A c (pw A 0) → Q (some (vi 1)) (FI, A, L, X)) (h0 : ¬ FIT A c (pw A 0) → Q (some (vi 0)) (FI, A, L, X)) : WP2 P M_F_fit (d + 4) 0 [some (vr 5)] [] (FI, A, L, X) Q := by
  refine WP_n 1 rfl ?_
  refine WP2_getf rfl rfl rfl rfl rfl ?_
  refine WP_n 1 rfl ?_
  refine WP2_callV 1 ok_M_H_isFit rfl rfl rfl rfl rfl rfl (Nat.le_of_ble_eq_true rfl) (Nat.le_of_ble_eq_true rfl) rfl rfl ?_
  refine sp_isFit hI hc (s := 0) (by omega) (fun hB => ?_) (fun hB => ?_)
  · refine WP_ifeq rfl rfl ⟨by decide, by decide⟩  (fun h4 => absurd h4 (by decide)) (fun h4 => ?_)
    refine WP_n 2 rfl ?_
    exact WP_iret rfl rfl rfl ⟨_, rfl, h1 hB⟩
  · refine WP_ifeq rfl rfl ⟨by decide, by decide⟩  (fun h4 => ?_) (fun h4 => absurd (by decide) h4)
    refine WP_n 1 rfl ?_
    exact WP_iret rfl rfl rfl ⟨_, rfl, h0 hB⟩
theorem sp_F_walked {P : PP} {d n c : Nat} {FI A L : Nat → Nat → Int} {X : SX} {Q : Option AV → S2 → Prop} (hI : cI n FI A) (hc : FI 6 8 = (c : Int)) (hq : Q (some (vi (walkP A (pw A 0) c * FI 6 9))) (FI, A, L, X)) : WP2 P M_F_walked (d + 3) 0 [some (vr 5)] [] (FI, A, L, X) Q := by
  refine WP_n 1 rfl ?_
  refine WP2_getf rfl rfl rfl rfl rfl ?_
  refine WP_n 1 rfl ?_
  refine WP2_callV 1 ok_M_H_walk rfl rfl rfl rfl rfl rfl (Nat.le_of_ble_eq_true rfl) (Nat.le_of_ble_eq_true rfl) rfl rfl ?_
  refine sp_walk hI hc (s := 0) (by omega) ?_
  refine WP_n 1 rfl ?_
  refine WP2_getf rfl rfl rfl rfl rfl ?_
  refine WP2_getf rfl rfl rfl rfl rfl ?_
  refine WP_n 1 rfl ?_
  exact WP_iret rfl rfl rfl ⟨_, rfl, hq⟩
theorem sp_G_walks {P : PP} {d n c : Nat} {FI A L : Nat → Nat → Int} {X : SX} {Q : Option AV → S2 → Prop} (hI : cI n FI A) (hG : gI9 FI A) (hc : FI 6 8 = (c : Int)) {B : Nat} (hB5 : 5 ≤ B) (hBA : isIA P X B 16) (hpl : ∀ t, t < c → A B t = -9 ∨ (0 ≤ A B t ∧ A B t < 11)) (hq : Q (some (vi (walkP A (A B) c * FI 6 9))) (FI, A, L, X)) : WP2 P M_G_walks (d + 1) 0 [some (vr 165), some (vr B), none, none, none] [] (FI, A, L, X) Q := by
  have hcc := hI.1
  have g1 := hG.1
  have hbi : ∀ a, a < c → ∀ k, k ≤ a → 0 ≤ sumN (fun b => wk2 A (A B) a b) k ∧ sumN (fun b => wk2 A (A B) a b) k ≤ 16000 := fun a ha k hk => by
    have := sumN_bd (f := fun b => wk2 A (A B) a b) (lo := 0) (hi := 990) k (fun b hb => by
      have hw := hI.2.2.2.2.1 a b (by omega) (by omega)
      unfold cTw at hw
      exact wk2_bd (by omega) (hpl a (by omega)) (hpl b (by omega)))
    omega
  have hbo : ∀ k, k ≤ c → 0 ≤ sumN (fun a => sumN (fun b => wk2 A (A B) a b) a) k ∧ sumN (fun a => sumN (fun b => wk2 A (A B) a b) a) k ≤ 256000 := fun k hk => by
    have := sumN_bd (f := (fun a => sumN (fun b => wk2 A (A B) a b) a)) (lo := 0) (hi := 16000) k (fun a ha => hbi a (by omega) a (by omega))
    omega
  have g2 := hG.2.1
  refine WP_n 4 rfl ?_
  refine up_to (P := fun a => WP2 P M_G_walks (d + 1) 4 [some (vr 165), some (vr B), some (vi (sumN (fun a => sumN (fun b => wk2 A (A B) a b) a) a)), some (vi (a : Int)), none] [] (FI, A, L, X) Q) c ?_ ?_ 0 (by omega)
  · have hz := hbo c (by omega)
    have hq : Q (some (vi (sumN (fun a => sumN (fun b => wk2 A (A B) a b) a) c * FI 165 1))) (FI, A, L, X) := by rw [g2]; exact hq
    refine WP_n 2 rfl ?_
    refine WP2_getf rfl rfl rfl rfl rfl ?_
    refine WP_icmpge rfl rfl ⟨by omega, by omega⟩ ⟨by omega, by omega⟩ (fun h7 => ?_) (fun h7 => absurd h7 (by omega))
    refine WP_n 2 rfl ?_
    refine WP2_getf rfl rfl rfl rfl rfl ?_
    refine WP_n 1 rfl ?_
    exact WP_iret rfl rfl rfl ⟨_, rfl, hq⟩
  · intro a ha ih
    have hz := hbo a (by omega)
    have hz0 := hbo (a + 1) (by omega)
    have hpa := hpl a ha
    refine WP_n 2 rfl ?_
    refine WP2_getf rfl rfl rfl rfl rfl ?_
    refine WP_icmpge rfl rfl ⟨by omega, by omega⟩ ⟨by omega, by omega⟩ (fun h7 => absurd h7 (by omega)) (fun h7 => ?_)
    refine WP_n 2 rfl ?_
    rw [show sumN (fun a => sumN (fun b => wk2 A (A B) a b) a) a = sumN (fun a => sumN (fun b => wk2 A (A B) a b) a) a + sumN (fun b => wk2 A (A B) a b) 0 from (Int.add_zero _).symm]
    refine up_to (P := fun b => WP2 P M_G_walks (d + 1) 10 [some (vr 165), some (vr B), some (vi (sumN (fun a => sumN (fun b => wk2 A (A B) a b) a) a + sumN (fun b => wk2 A (A B) a b) b)), some (vi (a : Int)), some (vi (b : Int))] [] (FI, A, L, X) Q) a ?_ ?_ 0 (by omega)
    · refine WP_n 2 rfl ?_
      refine WP_icmpge rfl rfl ⟨by omega, by omega⟩ ⟨by omega, by omega⟩ (fun h12 => ?_) (fun h12 => absurd h12 (by omega))
      refine WP_n 2 rfl ?_
      exact WP2_kill 4 ih
    · intro b hb ihb
      have hz1 := hbi a (by omega) b (by omega)
      have hz2 := hbi a (by omega) (b + 1) (by omega)
      have hpb := hpl b (by omega)
      have hqw := hI.2.2.2.2.1 a b (by omega) (by omega)
      unfold cTw at hqw
      have gw := (hG.2.2.2.2.1 a b (by omega) (by omega)).1
      have eZ : (A B a = -9 ∨ A B b = -9) → sumN (fun b => wk2 A (A B) a b) (b + 1) = sumN (fun b => wk2 A (A B) a b) b := fun h9 => by
        show sumN (fun b => wk2 A (A B) a b) b + wk2 A (A B) a b = _
        rw [show wk2 A (A B) a b = 0 from by unfold wk2; rw [if_neg (fun q => by omega)]]
        omega
      refine WP_n 2 rfl ?_
      refine WP_icmpge rfl rfl ⟨by omega, by omega⟩ ⟨by omega, by omega⟩ (fun h12 => absurd h12 (by omega)) (fun h12 => ?_)
      refine WP_n 2 rfl ?_
      refine WP2_iald (j := a) rfl rfl (hBA) (by omega) (by omega) (by omega) ?_
      refine WP_n 1 rfl ?_
      refine WP_icmpeq rfl rfl ⟨by omega, by omega⟩ ⟨by omega, by omega⟩ (fun h17 => ?_) (fun h17 => ?_)
      · refine WP_n 2 rfl ?_
        rw [eZ (Or.inl h17)] at ihb
        exact ihb
      · refine WP_n 2 rfl ?_
        refine WP2_iald (j := b) rfl rfl (hBA) (by omega) (by omega) (by omega) ?_
        refine WP_n 1 rfl ?_
        refine WP_icmpeq rfl rfl ⟨by omega, by omega⟩ ⟨by omega, by omega⟩ (fun h22 => ?_) (fun h22 => ?_)
        · refine WP_n 2 rfl ?_
          rw [eZ (Or.inr h22)] at ihb
          exact ihb
        · refine WP_n 2 rfl ?_
          refine WP2_getf rfl rfl rfl rfl rfl ?_
          refine WP_n 5 rfl ?_
          refine WP2_iald (j := ((16 * a) + b)) rfl rfl (ia_lit (n := 256) rfl rfl (by omega)) (by omega) (by omega) (by omega) ?_
          refine WP_n 2 rfl ?_
          refine WP2_iald (j := a) rfl rfl (hBA) (by omega) (by omega) (by omega) ?_
          refine WP_n 2 rfl ?_
          refine WP2_iald (j := b) rfl rfl (hBA) (by omega) (by omega) (by omega) ?_
          refine WP2_callS 2 ok_M_G_apart rfl rfl rfl rfl rfl rfl rfl (Nat.le_of_ble_eq_true rfl) (Nat.le_of_ble_eq_true rfl) ?_
          refine sp_apart ⟨by omega, by omega⟩ ⟨by omega, by omega⟩ ?_
          refine WP_n 5 rfl ?_
          have ez : sumN (fun a => sumN (fun b => wk2 A (A B) a b) a) a + sumN (fun b => wk2 A (A B) a b) (b + 1) = sumN (fun a => sumN (fun b => wk2 A (A B) a b) a) a + sumN (fun b => wk2 A (A B) a b) b + A 179 (16 * a + b) * absd (A B a) (A B b) := by
            show _ + (sumN (fun b => wk2 A (A B) a b) b + wk2 A (A B) a b) = _
            rw [show wk2 A (A B) a b = A 179 (16 * a + b) * absd (A B a) (A B b) from by unfold wk2; rw [if_pos ⟨h17, h22⟩, gw]]
            omega
          rw [ez] at ihb
          exact ihb
end
section
/-! fit of the reference; fit and walked, both sides -/
def gPP (A : Nat → Nat → Int) (pl : Nat → Int) (a b : Nat) : Prop := ¬ (A (71 + a) b = 1 ∧ 1 < absd (pl a) (pl b)) ∧ (pl a = pl b → A (54 + a) b ≠ 1 ∧ A (20 + b) 2 ≤ A (20 + a) 3)
def mfT (A : Nat → Nat → Int) (pl : Nat → Int) (c a : Nat) : Prop := pl a ≠ -9 → suitsP A (pl a).toNat a ∧ ∀ b, b < c → b ≠ a → pl b ≠ -9 → gPP A pl a b
theorem absd_sym (x y : Int) : absd x y = absd y x := by
  unfold absd
  split <;> split <;> omega
theorem FIT_iff {n : Nat} {FI A : Nat → Nat → Int} {c : Nat} (hI : cI n FI A) (hc : FI 6 8 = (c : Int)) (pl : Nat → Int) : FIT A c pl ↔ (∀ f, f < 11 → occ A pl f c ≤ A (8 + f) 0) ∧ ∀ a, a < c → mfT A pl c a := by
  have hcc := hI.1
  constructor
  · rintro ⟨h1, h2⟩
    refine ⟨h1, fun a ha hpa => ⟨(h2 a ha hpa).1, fun b hb hba hpb => ?_⟩⟩
    have hw := hI.2.2.2.2.1 a b (by omega) (by omega)
    unfold cTw at hw
    rcases Nat.lt_or_ge b a with q | q
    · have z := (h2 a ha hpa).2 b q hpb
      unfold agrP at z
      refine ⟨z.1, fun e => ?_⟩
      have := z.2 e
      omega
    · have z := (h2 b hb hpb).2 a (by omega) hpa
      unfold agrP at z
      refine ⟨fun e => z.1 ⟨by omega, by rw [absd_sym]; exact e.2⟩, fun e => ?_⟩
      have := z.2 e.symm
      omega
  · rintro ⟨h1, h2⟩
    refine ⟨h1, fun a ha hpa => ⟨(h2 a ha hpa).1, fun b hb hpb => ?_⟩⟩
    have hw := hI.2.2.2.2.1 a b (by omega) (by omega)
    unfold cTw at hw
    have z1 := (h2 a ha hpa).2 b (by omega) (by omega) hpb
    have z2 := (h2 b (by omega) hpb).2 a ha (by omega) hpa
    unfold gPP at z1 z2
    refine ⟨z1.1, fun e => ?_⟩
    have e1 := z1.2 e
    have e2 := z2.2 e.symm
    omega
theorem sp_G_isFit {P : PP} {d n c : Nat} {FI A L : Nat → Nat → Int} {X : SX} {Q : Option AV → S2 → Prop} (hI : cI n FI A) (hG : gI9 FI A) (hc : FI 6 8 = (c : Int)) {B : Nat} (hB5 : 5 ≤ B) (hBA : isIA P X B 16) (hpl : ∀ t, t < c → A B t = -9 ∨ (0 ≤ A B t ∧ A B t < 11)) (h1 : FIT A c (A B) → Q (some (vi 1)) (FI, A, L, X)) (h0 : ¬ FIT A c (A B) → Q (some (vi 0)) (FI, A, L, X)) : WP2 P M_G_isFit (d + 1) 0 [some (vr 165), some (vr B), none, none, none] [] (FI, A, L, X) Q := by
  have hcc := hI.1
  have g1 := hG.1
  have hocc : ∀ F : Nat, ∀ k, k ≤ c → 0 ≤ sumN (fun t => if A B t = (F : Int) then A (20 + t) 0 else 0) k ∧ sumN (fun t => if A B t = (F : Int) then A (20 + t) 0 else 0) k ≤ 960 := by
    intro F k hk
    have := sumN_bd (f := fun t => if A B t = (F : Int) then A (20 + t) 0 else 0) (lo := 0) (hi := 60) k (fun t ht => by
      have hq := hI.2.2.2.1 t (by omega)
      unfold cTm at hq
      split <;> omega)
    omega
  rw [FIT_iff hI hc] at h1 h0
  refine WP_n 2 rfl ?_
  suffices hh : ∀ F, F ≤ 11 → (∀ f, f < F → occ A (A B) f c ≤ A (8 + f) 0) → WP2 P M_G_isFit (d + 1) 2 [some (vr 165), some (vr B), some (vi (F : Int)), none, none] [] (FI, A, L, X) Q from hh 0 (by omega) (fun b hb => absurd hb (by omega))
  refine up_to (P := fun F => (∀ f, f < F → occ A (A B) f c ≤ A (8 + f) 0) → WP2 P M_G_isFit (d + 1) 2 [some (vr 165), some (vr B), some (vi (F : Int)), none, none] [] (FI, A, L, X) Q) 11 ?_ ?_
  · intro hall
    refine WP_n 2 rfl ?_
    refine WP_icmpge rfl rfl ⟨by omega, by omega⟩ ⟨by omega, by omega⟩ (fun h4 => ?_) (fun h4 => absurd h4 (by omega))
    refine WP_n 2 rfl ?_
    suffices hh : ∀ t, t ≤ c → (∀ a, a < t → mfT A (A B) c a) → WP2 P M_G_isFit (d + 1) 39 [some (vr 165), some (vr B), some (vi (t : Int)), none, none] [] (FI, A, L, X) Q from hh 0 (by omega) (fun b hb => absurd hb (by omega))
    refine up_to (P := fun t => (∀ a, a < t → mfT A (A B) c a) → WP2 P M_G_isFit (d + 1) 39 [some (vr 165), some (vr B), some (vi (t : Int)), none, none] [] (FI, A, L, X) Q) c ?_ ?_
    · intro hall2
      refine WP_n 2 rfl ?_
      refine WP2_getf rfl rfl rfl rfl rfl ?_
      refine WP_icmpge rfl rfl ⟨by omega, by omega⟩ ⟨by omega, by omega⟩ (fun h42 => ?_) (fun h42 => absurd h42 (by omega))
      refine WP_n 1 rfl ?_
      exact WP_zret rfl rfl rfl (Or.inr rfl) ⟨_, rfl, h1 ⟨hall, hall2⟩⟩
    · intro a ha ih hall2
      have hqa := hI.2.2.2.1 a (by omega)
      unfold cTm at hqa
      have hga := hG.2.2.2.1 a (by omega)
      unfold gTm at hga
      have hpa := hpl a ha
      refine WP_n 2 rfl ?_
      refine WP2_getf rfl rfl rfl rfl rfl ?_
      refine WP_icmpge rfl rfl ⟨by omega, by omega⟩ ⟨by omega, by omega⟩ (fun h42 => absurd h42 (by omega)) (fun h42 => ?_)
      refine WP_n 2 rfl ?_
      refine WP2_iald (j := a) rfl rfl (hBA) (by omega) (by omega) (by omega) ?_
      refine WP_n 1 rfl ?_
      refine WP_icmpne rfl rfl ⟨by omega, by omega⟩ ⟨by omega, by omega⟩ (fun h47 => ?_) (fun h47 => ?_)
      · obtain ⟨F, hF⟩ : ∃ F : Nat, A B a = (F : Int) := ⟨(A B a).toNat, by omega⟩
        have hFn : (A B a).toNat = F := by rw [hF]; rfl
        have hfl := hI.2.2.1 F (by omega)
        unfold cFl at hfl
        have hgf := (hG.2.2.1 F (by omega)).2.1
        have hsu : suitsP A (A B a).toNat a ↔ iAnd (A 167 F) (A 171 a) = A 171 a := by
          unfold suitsP
          rw [hFn, hgf, show A 171 a = A (20 + a) 1 by omega]
        refine WP_n 1 rfl ?_
        refine WP2_getf rfl rfl rfl rfl rfl ?_
        refine WP_n 2 rfl ?_
        refine WP2_iald (j := a) rfl rfl (hBA) (by omega) (by omega) (by omega) ?_
        rw [hF]
        refine WP2_iald (j := F) rfl rfl (ia_lit (n := 11) rfl rfl (by omega)) (by omega) (by omega) (by omega) ?_
        refine WP_n 1 rfl ?_
        refine WP2_getf rfl rfl rfl rfl rfl ?_
        refine WP_n 1 rfl ?_
        refine WP2_iald (j := a) rfl rfl (ia_lit (n := 16) rfl rfl (by omega)) (by omega) (by omega) (by omega) ?_
        refine WP_n 2 rfl ?_
        refine WP2_getf rfl rfl rfl rfl rfl ?_
        refine WP_n 1 rfl ?_
        refine WP2_iald (j := a) rfl rfl (ia_lit (n := 16) rfl rfl (by omega)) (by omega) (by omega) (by omega) ?_
        refine WP_icmpeq rfl rfl (iAnd_inR _ _) ⟨by omega, by omega⟩ (fun h64 => ?_) (fun h64 => ?_)
        · refine WP_n 2 rfl ?_
          have hsu2 := hsu.mpr h64
          suffices hh : ∀ t, t ≤ c → (∀ b, b < t → b ≠ a → A B b ≠ -9 → gPP A (A B) a b) → WP2 P M_G_isFit (d + 1) 69 [some (vr 165), some (vr B), some (vi (a : Int)), some (vi (t : Int)), none] [] (FI, A, L, X) Q from hh 0 (by omega) (fun b hb => absurd hb (by omega))
          refine up_to (P := fun t => (∀ b, b < t → b ≠ a → A B b ≠ -9 → gPP A (A B) a b) → WP2 P M_G_isFit (d + 1) 69 [some (vr 165), some (vr B), some (vi (a : Int)), some (vi (t : Int)), none] [] (FI, A, L, X) Q) c ?_ ?_
          · intro hall3
            refine WP_n 2 rfl ?_
            refine WP2_getf rfl rfl rfl rfl rfl ?_
            refine WP_icmpge rfl rfl ⟨by omega, by omega⟩ ⟨by omega, by omega⟩ (fun h72 => ?_) (fun h72 => absurd h72 (by omega))
            refine WP_n 2 rfl ?_
            exact WP2_kill 3 (ih (lt_s hall2 (fun _ => ⟨hsu2, hall3⟩)))
          · intro b hb ihb hall3
            have hqb := hI.2.2.2.1 b (by omega)
            unfold cTm at hqb
            have hgb := hG.2.2.2.1 b (by omega)
            unfold gTm at hgb
            have hpb := hpl b hb
            have hw := hI.2.2.2.2.1 a b (by omega) (by omega)
            unfold cTw at hw
            have hgw := hG.2.2.2.2.1 a b (by omega) (by omega)
            unfold gTw at hgw
            have ead : (if 0 ≤ A B a - A B b then A B a - A B b else -(A B a - A B b)) = absd (A B a) (A B b) := rfl
            refine WP_n 2 rfl ?_
            refine WP2_getf rfl rfl rfl rfl rfl ?_
            refine WP_icmpge rfl rfl ⟨by omega, by omega⟩ ⟨by omega, by omega⟩ (fun h72 => absurd h72 (by omega)) (fun h72 => ?_)
            refine WP_n 2 rfl ?_
            refine WP_icmpeq rfl rfl ⟨by omega, by omega⟩ ⟨by omega, by omega⟩ (fun h75 => ?_) (fun h75 => ?_)
            · refine WP_n 2 rfl ?_
              exact ihb (lt_s hall3 (fun q1 q2 => ⟨fun q => by omega, fun e => ⟨by omega, by omega⟩⟩))
            · refine WP_n 2 rfl ?_
              refine WP2_iald (j := b) rfl rfl (hBA) (by omega) (by omega) (by omega) ?_
              refine WP_n 1 rfl ?_
              refine WP_icmpne rfl rfl ⟨by omega, by omega⟩ ⟨by omega, by omega⟩ (fun h80 => ?_) (fun h80 => ?_)
              · refine WP_n 1 rfl ?_
                refine WP2_getf rfl rfl rfl rfl rfl ?_
                refine WP_n 5 rfl ?_
                refine WP2_iald (j := ((16 * a) + b)) rfl rfl (ia_lit (n := 256) rfl rfl (by omega)) (by omega) (by omega) (by omega) ?_
                refine WP_n 1 rfl ?_
                refine WP_icmpne rfl rfl ⟨by omega, by omega⟩ ⟨by omega, by omega⟩ (fun h91 => ?_) (fun h91 => ?_)
                · refine WP_n 2 rfl ?_
                  refine WP2_iald (j := a) rfl rfl (hBA) (by omega) (by omega) (by omega) ?_
                  refine WP_n 2 rfl ?_
                  refine WP2_iald (j := b) rfl rfl (hBA) (by omega) (by omega) (by omega) ?_
                  refine WP_icmpne rfl rfl ⟨by omega, by omega⟩ ⟨by omega, by omega⟩ (fun h109 => ?_) (fun h109 => ?_)
                  · refine WP_n 2 rfl ?_
                    exact ihb (lt_s hall3 (fun q1 q2 => ⟨fun q => by omega, fun e => ⟨by omega, by omega⟩⟩))
                  · refine WP_n 1 rfl ?_
                    refine WP2_getf rfl rfl rfl rfl rfl ?_
                    refine WP_n 5 rfl ?_
                    refine WP2_iald (j := ((16 * a) + b)) rfl rfl (ia_lit (n := 256) rfl rfl (by omega)) (by omega) (by omega) (by omega) ?_
                    refine WP_n 1 rfl ?_
                    refine WP_icmpeq rfl rfl ⟨by omega, by omega⟩ ⟨by omega, by omega⟩ (fun h119 => ?_) (fun h119 => ?_)
                    · refine WP_n 1 rfl ?_
                      exact WP_zret rfl rfl rfl (Or.inl rfl) ⟨_, rfl, h0 (fun q => by have z := ((q.2 a ha (by omega)).2 b hb (by omega) (by omega)).2 (by omega); omega)⟩
                    · refine WP_n 1 rfl ?_
                      refine WP2_getf rfl rfl rfl rfl rfl ?_
                      refine WP_n 1 rfl ?_
                      refine WP2_iald (j := b) rfl rfl (ia_lit (n := 16) rfl rfl (by omega)) (by omega) (by omega) (by omega) ?_
                      refine WP_n 1 rfl ?_
                      refine WP2_getf rfl rfl rfl rfl rfl ?_
                      refine WP_n 1 rfl ?_
                      refine WP2_iald (j := a) rfl rfl (ia_lit (n := 16) rfl rfl (by omega)) (by omega) (by omega) (by omega) ?_
                      refine WP_icmple rfl rfl ⟨by omega, by omega⟩ ⟨by omega, by omega⟩ (fun h128 => ?_) (fun h128 => ?_)
                      · refine WP_n 2 rfl ?_
                        exact ihb (lt_s hall3 (fun q1 q2 => ⟨fun q => by omega, fun e => ⟨by omega, by omega⟩⟩))
                      · refine WP_n 1 rfl ?_
                        exact WP_zret rfl rfl rfl (Or.inl rfl) ⟨_, rfl, h0 (fun q => by have z := ((q.2 a ha (by omega)).2 b hb (by omega) (by omega)).2 (by omega); omega)⟩
                · refine WP_n 2 rfl ?_
                  refine WP2_iald (j := a) rfl rfl (hBA) (by omega) (by omega) (by omega) ?_
                  refine WP_n 2 rfl ?_
                  refine WP2_iald (j := b) rfl rfl (hBA) (by omega) (by omega) (by omega) ?_
                  refine WP2_callS 2 ok_M_G_apart rfl rfl rfl rfl rfl rfl rfl (Nat.le_of_ble_eq_true rfl) (Nat.le_of_ble_eq_true rfl) ?_
                  refine sp_apart ⟨by omega, by omega⟩ ⟨by omega, by omega⟩ ?_
                  rw [ead]
                  have habs := absd_bd (x := A B a) (y := A B b) (by omega) (by omega)
                  refine WP_n 1 rfl ?_
                  refine WP_icmple rfl rfl ⟨by omega, by omega⟩ ⟨by omega, by omega⟩ (fun h100 => ?_) (fun h100 => ?_)
                  · refine WP_n 2 rfl ?_
                    refine WP2_iald (j := a) rfl rfl (hBA) (by omega) (by omega) (by omega) ?_
                    refine WP_n 2 rfl ?_
                    refine WP2_iald (j := b) rfl rfl (hBA) (by omega) (by omega) (by omega) ?_
                    refine WP_icmpne rfl rfl ⟨by omega, by omega⟩ ⟨by omega, by omega⟩ (fun h109 => ?_) (fun h109 => ?_)
                    · refine WP_n 2 rfl ?_
                      exact ihb (lt_s hall3 (fun q1 q2 => ⟨fun q => by omega, fun e => ⟨by omega, by omega⟩⟩))
                    · refine WP_n 1 rfl ?_
                      refine WP2_getf rfl rfl rfl rfl rfl ?_
                      refine WP_n 5 rfl ?_
                      refine WP2_iald (j := ((16 * a) + b)) rfl rfl (ia_lit (n := 256) rfl rfl (by omega)) (by omega) (by omega) (by omega) ?_
                      refine WP_n 1 rfl ?_
                      refine WP_icmpeq rfl rfl ⟨by omega, by omega⟩ ⟨by omega, by omega⟩ (fun h119 => ?_) (fun h119 => ?_)
                      · refine WP_n 1 rfl ?_
                        exact WP_zret rfl rfl rfl (Or.inl rfl) ⟨_, rfl, h0 (fun q => by have z := ((q.2 a ha (by omega)).2 b hb (by omega) (by omega)).2 (by omega); omega)⟩
                      · refine WP_n 1 rfl ?_
                        refine WP2_getf rfl rfl rfl rfl rfl ?_
                        refine WP_n 1 rfl ?_
                        refine WP2_iald (j := b) rfl rfl (ia_lit (n := 16) rfl rfl (by omega)) (by omega) (by omega) (by omega) ?_
                        refine WP_n 1 rfl ?_
                        refine WP2_getf rfl rfl rfl rfl rfl ?_
                        refine WP_n 1 rfl ?_
                        refine WP2_iald (j := a) rfl rfl (ia_lit (n := 16) rfl rfl (by omega)) (by omega) (by omega) (by omega) ?_
                        refine WP_icmple rfl rfl ⟨by omega, by omega⟩ ⟨by omega, by omega⟩ (fun h128 => ?_) (fun h128 => ?_)
                        · refine WP_n 2 rfl ?_
                          exact ihb (lt_s hall3 (fun q1 q2 => ⟨fun q => by omega, fun e => ⟨by omega, by omega⟩⟩))
                        · refine WP_n 1 rfl ?_
                          exact WP_zret rfl rfl rfl (Or.inl rfl) ⟨_, rfl, h0 (fun q => by have z := ((q.2 a ha (by omega)).2 b hb (by omega) (by omega)).2 (by omega); omega)⟩
                  · refine WP_n 1 rfl ?_
                    exact WP_zret rfl rfl rfl (Or.inl rfl) ⟨_, rfl, h0 (fun q => ((q.2 a ha (by omega)).2 b hb (by omega) (by omega)).1 ⟨by omega, by omega⟩)⟩
              · refine WP_n 3 rfl ?_
                exact ihb (lt_s hall3 (fun q1 q2 => ⟨fun q => by omega, fun e => ⟨by omega, by omega⟩⟩))
        · refine WP_n 1 rfl ?_
          exact WP_zret rfl rfl rfl (Or.inl rfl) ⟨_, rfl, h0 (fun q => h64 (hsu.mp (q.2 a ha (by omega)).1))⟩
      · refine WP_n 3 rfl ?_
        exact WP2_kill 3 (ih (lt_s hall2 (fun q => absurd (by omega) q)))
  · intro F hF ih hall
    have hfl := hI.2.2.1 F hF
    unfold cFl at hfl
    have hgf := (hG.2.2.1 F hF).1
    refine WP_n 2 rfl ?_
    refine WP_icmpge rfl rfl ⟨by omega, by omega⟩ ⟨by omega, by omega⟩ (fun h4 => absurd h4 (by omega)) (fun h4 => ?_)
    refine WP_n 4 rfl ?_
    refine up_to (P := fun t => WP2 P M_G_isFit (d + 1) 9 [some (vr 165), some (vr B), some (vi (F : Int)), some (vi (sumN (fun t => if A B t = (F : Int) then A (20 + t) 0 else 0) t)), some (vi (t : Int))] [] (FI, A, L, X) Q) c ?_ ?_ 0 (by omega)
    · have hz := hocc F c (by omega)
      refine WP_n 2 rfl ?_
      refine WP2_getf rfl rfl rfl rfl rfl ?_
      refine WP_icmpge rfl rfl ⟨by omega, by omega⟩ ⟨by omega, by omega⟩ (fun h12 => ?_) (fun h12 => absurd h12 (by omega))
      refine WP_n 2 rfl ?_
      refine WP2_getf rfl rfl rfl rfl rfl ?_
      refine WP_n 1 rfl ?_
      refine WP2_iald (j := F) rfl rfl (ia_lit (n := 11) rfl rfl (by omega)) (by omega) (by omega) (by omega) ?_
      refine WP_icmple rfl rfl ⟨by omega, by omega⟩ ⟨by omega, by omega⟩ (fun h32 => ?_) (fun h32 => ?_)
      · refine WP_n 2 rfl ?_
        exact WP2_kill 3 (WP2_kill 4 (ih (lt_s hall (by show sumN _ c ≤ _; omega))))
      · refine WP_n 1 rfl ?_
        exact WP_zret rfl rfl rfl (Or.inl rfl) ⟨_, rfl, h0 (fun q => absurd (q.1 F hF) (by show ¬ (sumN _ c ≤ _); omega))⟩
    · intro t ht iht
      have hqt := hI.2.2.2.1 t (by omega)
      unfold cTm at hqt
      have hgt := hG.2.2.2.1 t (by omega)
      unfold gTm at hgt
      have hpt := hpl t ht
      have hz := hocc F t (by omega)
      refine WP_n 2 rfl ?_
      refine WP2_getf rfl rfl rfl rfl rfl ?_
      refine WP_icmpge rfl rfl ⟨by omega, by omega⟩ ⟨by omega, by omega⟩ (fun h12 => absurd h12 (by omega)) (fun h12 => ?_)
      refine WP_n 2 rfl ?_
      refine WP2_iald (j := t) rfl rfl (hBA) (by omega) (by omega) (by omega) ?_
      refine WP_n 1 rfl ?_
      refine WP_icmpne rfl rfl ⟨by omega, by omega⟩ ⟨by omega, by omega⟩ (fun h17 => ?_) (fun h17 => ?_)
      · refine WP_n 2 rfl ?_
        have e : sumN (fun t => if A B t = (F : Int) then A (20 + t) 0 else 0) (t + 1) = sumN (fun t => if A B t = (F : Int) then A (20 + t) 0 else 0) t := by
          show sumN (fun t => if A B t = (F : Int) then A (20 + t) 0 else 0) t + (if _ then _ else _) = _
          rw [if_neg h17]
          omega
        rw [e] at iht
        exact iht
      · refine WP_n 2 rfl ?_
        refine WP2_getf rfl rfl rfl rfl rfl ?_
        refine WP_n 1 rfl ?_
        refine WP2_iald (j := t) rfl rfl (ia_lit (n := 16) rfl rfl (by omega)) (by omega) (by omega) (by omega) ?_
        refine WP_n 4 rfl ?_
        have e : sumN (fun t => if A B t = (F : Int) then A (20 + t) 0 else 0) (t + 1) = sumN (fun t => if A B t = (F : Int) then A (20 + t) 0 else 0) t + A 170 t := by
          show sumN (fun t => if A B t = (F : Int) then A (20 + t) 0 else 0) t + (if _ then _ else _) = _
          rw [if_pos (by omega)]
          omega
        rw [e] at iht
        exact iht
theorem FIT_congr {A : Nat → Nat → Int} {c : Nat} {p q : Nat → Int} (h : ∀ t, t < c → p t = q t) : FIT A c p ↔ FIT A c q := by
  have key : ∀ {p q : Nat → Int}, (∀ t, t < c → p t = q t) → FIT A c p → FIT A c q := by
    intro p q h ⟨h1, h2⟩
    refine ⟨fun f hf => ?_, fun a ha hpa => ?_⟩
    · have e : occ A q f c = occ A p f c := sumN_congr c (fun t ht => by rw [h t ht])
      rw [e]
      exact h1 f hf
    · rw [← h a ha] at hpa ⊢
      refine ⟨(h2 a ha hpa).1, fun b hb hpb => ?_⟩
      rw [← h b (by omega)] at hpb ⊢
      exact (h2 a ha hpa).2 b hb hpb
  exact ⟨key h, key (fun t ht => (h t ht).symm)⟩
theorem walkP_congr {A : Nat → Nat → Int} {c : Nat} {p q : Nat → Int} (h : ∀ t, t < c → p t = q t) : walkP A p c = walkP A q c := by
  refine sumN_congr c (fun a ha => sumN_congr a (fun b hb => ?_))
  unfold wk2
  rw [h a ha, h b (by omega)]
theorem sp_G_fit {P : PP} {d n c : Nat} {FI A L : Nat → Nat → Int} {X : SX} {Q : Option AV → S2 → Prop} (hI : cI n FI A) (hG : gI9 FI A) (hc : FI 6 8 = (c : Int)) (hpl : ∀ t, t < c → A 174 t = -9 ∨ (0 ≤ A 174 t ∧ A 174 t < 11)) (h1 : FIT A c (A 174) → Q (some (vi 1)) (FI, A, L, X)) (h0 : ¬ FIT A c (A 174) → Q (some (vi 0)) (FI, A, L, X)) : WP2 P M_G_fit (d + 2) 0 [some (vr 165)] [] (FI, A, L, X) Q := by
  refine WP_n 2 rfl ?_
  refine WP2_getf rfl rfl rfl rfl rfl ?_
  refine WP2_callV 1 ok_M_G_isFit rfl rfl rfl rfl rfl rfl (Nat.le_of_ble_eq_true rfl) (Nat.le_of_ble_eq_true rfl) rfl rfl ?_
  refine sp_G_isFit hI hG hc (B := 174) (by omega) (ia_lit (n := 16) rfl rfl (by omega)) hpl (fun hB => ?_) (fun hB => ?_)
  · refine WP_ifeq rfl rfl ⟨by decide, by decide⟩  (fun h4 => absurd h4 (by decide)) (fun h4 => ?_)
    refine WP_n 2 rfl ?_
    exact WP_iret rfl rfl rfl ⟨_, rfl, h1 hB⟩
  · refine WP_ifeq rfl rfl ⟨by decide, by decide⟩  (fun h4 => ?_) (fun h4 => absurd (by decide) h4)
    refine WP_n 1 rfl ?_
    exact WP_iret rfl rfl rfl ⟨_, rfl, h0 hB⟩
theorem sp_G_walked {P : PP} {d n c : Nat} {FI A L : Nat → Nat → Int} {X : SX} {Q : Option AV → S2 → Prop} (hI : cI n FI A) (hG : gI9 FI A) (hc : FI 6 8 = (c : Int)) (hpl : ∀ t, t < c → A 174 t = -9 ∨ (0 ≤ A 174 t ∧ A 174 t < 11)) (hq : Q (some (vi (walkP A (A 174) c * FI 6 9))) (FI, A, L, X)) : WP2 P M_G_walked (d + 2) 0 [some (vr 165)] [] (FI, A, L, X) Q := by
  refine WP_n 2 rfl ?_
  refine WP2_getf rfl rfl rfl rfl rfl ?_
  refine WP2_callV 1 ok_M_G_walks rfl rfl rfl rfl rfl rfl (Nat.le_of_ble_eq_true rfl) (Nat.le_of_ble_eq_true rfl) rfl rfl ?_
  refine sp_G_walks hI hG hc (B := 174) (by omega) (ia_lit (n := 16) rfl rfl (by omega)) hpl ?_
  exact WP_iret rfl rfl rfl ⟨_, rfl, hq⟩
theorem pr_fit {P : PP} {n : Nat} {FI A L : Nat → Nat → Int} {X : SX} (h : INV P n FI A X) (hn : n < 512) : PAIR P n (FI, A, L, X) M_F_fit [some (vr 5)] M_G_fit [some (vr 165)] := by
  intro d
  have hcI := h.2.1
  have hG := h.2.2.1
  have hk1 := hcI.1
  have g1 := hG.1
  obtain ⟨c, hc⟩ : ∃ c : Nat, FI 6 8 = (c : Int) := ⟨(FI 6 8).toNat, by omega⟩
  have hpl : ∀ t, t < c → A 174 t = -9 ∨ (0 ≤ A 174 t ∧ A 174 t < 11) := fun t ht => by
    have q := hcI.2.2.2.1 t (by omega)
    have r := hG.2.2.2.1 t (by omega)
    unfold cTm at q
    unfold gTm at r
    omega
  have epl : ∀ t, t < c → A 174 t = pw A 0 t := fun t ht => by
    have r := hG.2.2.2.1 t (by omega)
    unfold gTm at r
    rw [pw_eq (by simp)]
    omega
  refine sp_F_fit hcI hc (fun c1 => ?_) (fun c1 => ?_)
  · refine ⟨_, rfl, ?_⟩
    refine sp_G_fit hcI hG hc hpl (fun c2 => ?_) (fun c2 => ?_)
    · exact ⟨rfl, h.next hn⟩
    · exact absurd ((FIT_congr epl).mpr c1) c2
  · refine ⟨_, rfl, ?_⟩
    refine sp_G_fit hcI hG hc hpl (fun c2 => ?_) (fun c2 => ?_)
    · exact absurd ((FIT_congr epl).mp c2) c1
    · exact ⟨rfl, h.next hn⟩
theorem pr_walked {P : PP} {n : Nat} {FI A L : Nat → Nat → Int} {X : SX} (h : INV P n FI A X) (hn : n < 512) : PAIR P n (FI, A, L, X) M_F_walked [some (vr 5)] M_G_walked [some (vr 165)] := by
  intro d
  have hcI := h.2.1
  have hG := h.2.2.1
  have hk1 := hcI.1
  have g1 := hG.1
  obtain ⟨c, hc⟩ : ∃ c : Nat, FI 6 8 = (c : Int) := ⟨(FI 6 8).toNat, by omega⟩
  have hpl : ∀ t, t < c → A 174 t = -9 ∨ (0 ≤ A 174 t ∧ A 174 t < 11) := fun t ht => by
    have q := hcI.2.2.2.1 t (by omega)
    have r := hG.2.2.2.1 t (by omega)
    unfold cTm at q
    unfold gTm at r
    omega
  have epl : ∀ t, t < c → A 174 t = pw A 0 t := fun t ht => by
    have r := hG.2.2.2.1 t (by omega)
    unfold gTm at r
    rw [pw_eq (by simp)]
    omega
  refine sp_F_walked hcI hc ?_
  refine ⟨_, rfl, ?_⟩
  refine sp_G_walked hcI hG hc hpl ?_
  exact ⟨by rw [walkP_congr epl], h.next hn⟩
end
section
/-! sizeIn and turn, both sides -/
def fore (g : Nat → Int) (s : Int) : Nat → Int
  | 0 => s
  | k + 1 => if g k = -1 then fore g s k else g k
theorem fore_congr {g g' : Nat → Int} {s s' : Int} (hs : s = s') : ∀ k, (∀ j, j < k → g j = g' j) → fore g s k = fore g' s' k
  | 0, _ => hs
  | k + 1, h => by
    show (if _ then _ else _) = (if _ then _ else _)
    rw [h k (by omega), fore_congr hs k (fun j hj => h j (by omega))]
theorem fore_bd {g : Nat → Int} {s : Int} (hs : 0 ≤ s ∧ s ≤ 200) : ∀ k, (∀ j, j < k → -1 ≤ g j ∧ g j ≤ 200) → 0 ≤ fore g s k ∧ fore g s k ≤ 200
  | 0, _ => hs
  | k + 1, h => by
    have h1 := h k (by omega)
    have h2 := fore_bd hs k (fun j hj => h j (by omega))
    by_cases e : g k = -1
    · rw [show fore g s (k + 1) = fore g s k from if_pos e]
      exact h2
    · rw [show fore g s (k + 1) = g k from if_neg e]
      omega
theorem mulB {x y a b : Int} (h0 : 0 ≤ x) (h1 : x ≤ a) (h2 : 0 ≤ y) (h3 : y ≤ b) : 0 ≤ x * y ∧ x * y ≤ a * b :=
  ⟨Int.mul_nonneg h0 h2, Int.mul_le_mul h1 h3 h2 (by omega)⟩
theorem down_to {P : Nat → Prop} (h0 : P 0) (hs : ∀ t, P t → P (t + 1)) : ∀ t, P t
  | 0 => h0
  | t + 1 => hs t (down_to h0 hs t)
theorem sp_foretold {P : PP} {d n : Nat} {FI A L : Nat → Nat → Int} {X : SX} {Q : Option AV → S2 → Prop} (hI : cI n FI A) {T q9 : Nat} (hT : T < 16) (hq9 : q9 < 20) (hq : Q (some (vi (fore (A (122 + T)) (A (20 + T) 0) (q9 + 1)))) (FI, A, L, X)) : WP2 P M_H_foretold (d) 0 [some (vr 6), some (vi (T : Int)), some (vi (q9 : Int)), none] [] (FI, A, L, X) Q := by
  suffices hh : ∀ k : Nat, k ≤ q9 + 1 → Q (some (vi (fore (A (122 + T)) (A (20 + T) 0) k))) (FI, A, L, X) → WP2 P M_H_foretold d 2 [some (vr 6), some (vi (T : Int)), some (vi (q9 : Int)), some (vi ((k : Int) - 1))] [] (FI, A, L, X) Q by
    have := hh (q9 + 1) (by omega) hq
    rw [show ((q9 + 1 : Nat) : Int) - 1 = (q9 : Int) by omega] at this
    exact WP_n 2 rfl this
  intro k
  induction k with
  | zero =>
    intro _ hq
    refine WP_n 1 rfl ?_
    refine WP_iflt rfl rfl ⟨by omega, by omega⟩ (fun h3 => ?_) (fun h3 => absurd h3 (by omega))
    refine WP_n 1 rfl ?_
    refine WP2_getf rfl rfl rfl rfl rfl ?_
    refine WP_n 1 rfl ?_
    refine WP2_aald (b := 20) (j := T) (n := 16) rfl rfl rfl rfl rfl (by omega) (by omega) ?_
    refine WP_n 1 rfl ?_
    refine WP2_iald (j := 0) rfl rfl (ia_tm (by omega)) (by omega) (by omega) (by omega) ?_
    exact WP_iret rfl rfl rfl ⟨_, rfl, hq⟩
  | succ k ih =>
    intro hk hq
    have hp := hI.2.2.2.2.2.1 T k hT (by omega)
    unfold cPp at hp
    rw [show ((k + 1 : Nat) : Int) - 1 = (k : Int) by omega]
    refine WP_n 1 rfl ?_
    refine WP_iflt rfl rfl ⟨by omega, by omega⟩ (fun h3 => absurd h3 (by omega)) (fun h3 => ?_)
    refine WP_n 1 rfl ?_
    refine WP2_getf rfl rfl rfl rfl rfl ?_
    refine WP_n 1 rfl ?_
    refine WP2_aald (b := 122) (j := T) (n := 16) rfl rfl rfl rfl rfl (by omega) (by omega) ?_
    refine WP_n 1 rfl ?_
    refine WP2_iald (j := k) rfl rfl (ia_gw (by omega)) (by omega) (by omega) (by omega) ?_
    refine WP_n 1 rfl ?_
    refine WP_icmpeq rfl rfl ⟨by omega, by omega⟩ ⟨by omega, by omega⟩ (fun h11 => ?_) (fun h11 => ?_)
    · refine WP_n 2 rfl ?_
      exact ih (by omega) (by
        have e : fore (A (122 + T)) (A (20 + T) 0) (k + 1) = fore (A (122 + T)) (A (20 + T) 0) k := if_pos (show A (122 + T) k = -1 by omega)
        rw [e] at hq
        exact hq)
    · refine WP_n 1 rfl ?_
      refine WP2_getf rfl rfl rfl rfl rfl ?_
      refine WP_n 1 rfl ?_
      refine WP2_aald (b := 122) (j := T) (n := 16) rfl rfl rfl rfl rfl (by omega) (by omega) ?_
      refine WP_n 1 rfl ?_
      refine WP2_iald (j := k) rfl rfl (ia_gw (by omega)) (by omega) (by omega) (by omega) ?_
      exact WP_iret rfl rfl rfl ⟨_, rfl, (by
        have e : fore (A (122 + T)) (A (20 + T) 0) (k + 1) = A (122 + T) k := if_neg (show ¬ A (122 + T) k = -1 by omega)
        rw [e] at hq
        exact hq)⟩
theorem sp_sizeAt {P : PP} {d n : Nat} {FI A L : Nat → Nat → Int} {X : SX} {Q : Option AV → S2 → Prop} (hI : mI n FI A) {T q9 : Nat} (hT : T < 16) (hq9 : q9 < 20) (hq : Q (some (vi (fore (fun j => A 184 (20 * T + j)) (A 170 T) (q9 + 1)))) (FI, A, L, X)) : WP2 P M_G_sizeAt (d) 0 [some (vr 165), some (vi (T : Int)), some (vi (q9 : Int)), none] [] (FI, A, L, X) Q := by
  suffices hh : ∀ k : Nat, k ≤ q9 + 1 → Q (some (vi (fore (fun j => A 184 (20 * T + j)) (A 170 T) k))) (FI, A, L, X) → WP2 P M_G_sizeAt d 2 [some (vr 165), some (vi (T : Int)), some (vi (q9 : Int)), some (vi ((k : Int) - 1))] [] (FI, A, L, X) Q by
    have := hh (q9 + 1) (by omega) hq
    rw [show ((q9 + 1 : Nat) : Int) - 1 = (q9 : Int) by omega] at this
    exact WP_n 2 rfl this
  intro k
  induction k with
  | zero =>
    intro _ hq
    refine WP_n 1 rfl ?_
    refine WP_iflt rfl rfl ⟨by omega, by omega⟩ (fun h3 => ?_) (fun h3 => absurd h3 (by omega))
    refine WP_n 1 rfl ?_
    refine WP2_getf rfl rfl rfl rfl rfl ?_
    refine WP_n 1 rfl ?_
    refine WP2_iald (j := T) rfl rfl (ia_lit (n := 16) rfl rfl (by omega)) (by omega) (by omega) (by omega) ?_
    exact WP_iret rfl rfl rfl ⟨_, rfl, hq⟩
  | succ k ih =>
    intro hk hq
    have hp := hI.2.2.2.2.2.2.1 (20 * T + k) (by omega)
    unfold mPp at hp
    rw [show ((k + 1 : Nat) : Int) - 1 = (k : Int) by omega]
    refine WP_n 1 rfl ?_
    refine WP_iflt rfl rfl ⟨by omega, by omega⟩ (fun h3 => absurd h3 (by omega)) (fun h3 => ?_)
    refine WP_n 1 rfl ?_
    refine WP2_getf rfl rfl rfl rfl rfl ?_
    refine WP_n 5 rfl ?_
    refine WP2_iald (j := ((20 * T) + k)) rfl rfl (ia_lit (n := 320) rfl rfl (by omega)) (by omega) (by omega) (by omega) ?_
    refine WP_iflt rfl rfl ⟨by omega, by omega⟩ (fun h12 => ?_) (fun h12 => ?_)
    · refine WP_n 2 rfl ?_
      exact ih (by omega) (by
        have e : fore (fun j => A 184 (20 * T + j)) (A 170 T) (k + 1) = fore (fun j => A 184 (20 * T + j)) (A 170 T) k := if_pos (show A 184 (20 * T + k) = -1 by omega)
        rw [e] at hq
        exact hq)
    · refine WP_n 1 rfl ?_
      refine WP2_getf rfl rfl rfl rfl rfl ?_
      refine WP_n 5 rfl ?_
      refine WP2_iald (j := ((20 * T) + k)) rfl rfl (ia_lit (n := 320) rfl rfl (by omega)) (by omega) (by omega) (by omega) ?_
      exact WP_iret rfl rfl rfl ⟨_, rfl, (by
        have e : fore (fun j => A 184 (20 * T + j)) (A 170 T) (k + 1) = A 184 (20 * T + k) := if_neg (show ¬ A 184 (20 * T + k) = -1 by omega)
        rw [e] at hq
        exact hq)⟩
theorem sp_F_sizeIn {P : PP} {d n : Nat} {FI A L : Nat → Nat → Int} {X : SX} {Q : Option AV → S2 → Prop} {t q : Int} (ht : inR t) (hq : inR q) (hI : cI n FI A) (hn5 : n ≤ 512) (r1 : ((t < 0 ∨ FI 6 8 ≤ t) ∨ (q < 0 ∨ 20 ≤ q)) → Q (some (vi (-1))) (FI, rfC A 1, L, X)) (ok : ∀ T q9 : Nat, (t = (T : Int) ∧ (T : Int) < FI 6 8 ∧ q = (q9 : Int) ∧ q9 < 20) → Q (some (vi (fore (A (122 + T)) (A (20 + T) 0) (q9 + 1)))) (FI, A, L, X)) : WP2 P M_F_sizeIn (d + 2) 0 [some (vr 5), some (vi t), some (vi q)] [] (FI, A, L, X) Q := by
  obtain ⟨lt, ut⟩ := id ht
  obtain ⟨lq, uq⟩ := id hq
  have hcc := hI.1
  refine WP_n 2 rfl ?_
  refine WP2_callV 1 ok_M_F_noTeam rfl rfl rfl rfl rfl rfl (Nat.le_of_ble_eq_true rfl) (Nat.le_of_ble_eq_true rfl) rfl rfl ?_
  refine sp_noTeam ht ⟨by omega, by omega⟩ (fun hTt => ?_) (fun hTt hTtb => ?_)
  · refine WP_ifne rfl rfl ⟨by decide, by decide⟩  (fun h3 => ?_) (fun h3 => absurd (by decide) h3)
    refine WP_n 2 rfl ?_
    refine WP2_callV 1 ok_M_F_refuse rfl rfl rfl rfl rfl rfl (Nat.le_of_ble_eq_true rfl) (Nat.le_of_ble_eq_true rfl) rfl rfl ?_
    refine sp_refuse (k := 1) rfl (by omega) ?_
    exact WP_iret rfl rfl rfl ⟨_, rfl, r1 (by omega)⟩
  · refine WP_ifne rfl rfl ⟨by decide, by decide⟩  (fun h3 => absurd h3 (by decide)) (fun h3 => ?_)
    refine WP_n 1 rfl ?_
    refine WP2_callS 1 ok_M_F_noQuarter rfl rfl rfl rfl rfl rfl rfl (Nat.le_of_ble_eq_true rfl) (Nat.le_of_ble_eq_true rfl) ?_
    refine sp_noQuarter hq (fun hQ => ?_) (fun hQ hQb => ?_)
    · refine WP_ifeq rfl rfl ⟨by decide, by decide⟩  (fun h6 => absurd h6 (by decide)) (fun h6 => ?_)
      refine WP_n 2 rfl ?_
      refine WP2_callV 1 ok_M_F_refuse rfl rfl rfl rfl rfl rfl (Nat.le_of_ble_eq_true rfl) (Nat.le_of_ble_eq_true rfl) rfl rfl ?_
      refine sp_refuse (k := 1) rfl (by omega) ?_
      exact WP_iret rfl rfl rfl ⟨_, rfl, r1 (by omega)⟩
    · refine WP_ifeq rfl rfl ⟨by decide, by decide⟩  (fun h6 => ?_) (fun h6 => absurd (by decide) h6)
      obtain ⟨T, rfl⟩ : ∃ T : Nat, t = (T : Int) := ⟨t.toNat, by omega⟩
      obtain ⟨q9, rfl⟩ : ∃ q9 : Nat, q = (q9 : Int) := ⟨q.toNat, by omega⟩
      refine WP_n 1 rfl ?_
      refine WP2_getf rfl rfl rfl rfl rfl ?_
      refine WP_n 2 rfl ?_
      refine WP2_callV 2 ok_M_H_foretold rfl rfl rfl rfl rfl rfl (Nat.le_of_ble_eq_true rfl) (Nat.le_of_ble_eq_true rfl) rfl rfl ?_
      refine sp_foretold hI (by omega) (by omega) ?_
      exact WP_iret rfl rfl rfl ⟨_, rfl, ok T q9 (by omega)⟩
theorem sp_G_sizeIn {P : PP} {d n : Nat} {FI A L : Nat → Nat → Int} {X : SX} {Q : Option AV → S2 → Prop} {t q : Int} (ht : inR t) (hq : inR q) (hI : mI n FI A) (r1 : ((t < 0 ∨ FI 165 0 ≤ t) ∨ (q < 0 ∨ 20 ≤ q)) → Q (some (vi (-1))) (FI, rfG A 1, L, X)) (ok : ∀ T q9 : Nat, (t = (T : Int) ∧ (T : Int) < FI 165 0 ∧ q = (q9 : Int) ∧ q9 < 20) → Q (some (vi (fore (fun j => A 184 (20 * T + j)) (A 170 T) (q9 + 1)))) (FI, A, L, X)) : WP2 P M_G_sizeIn (d + 2) 0 [some (vr 165), some (vi t), some (vi q)] [] (FI, A, L, X) Q := by
  obtain ⟨lt, ut⟩ := id ht
  obtain ⟨lq, uq⟩ := id hq
  have hcc := hI.2.1
  refine WP_n 2 rfl ?_
  refine WP2_callV 1 ok_M_G_isTeam rfl rfl rfl rfl rfl rfl (Nat.le_of_ble_eq_true rfl) (Nat.le_of_ble_eq_true rfl) rfl rfl ?_
  refine sp_isTeam ht ⟨by omega, by omega⟩ (fun hTt => ?_) (fun hTt hTtb => ?_)
  · refine WP_ifeq rfl rfl ⟨by decide, by decide⟩  (fun h3 => ?_) (fun h3 => absurd (by decide) h3)
    refine WP_n 2 rfl ?_
    refine WP2_callV 1 ok_M_G_no rfl rfl rfl rfl rfl rfl (Nat.le_of_ble_eq_true rfl) (Nat.le_of_ble_eq_true rfl) rfl rfl ?_
    refine sp_no (k := 1) rfl (by omega) ?_
    exact WP_iret rfl rfl rfl ⟨_, rfl, r1 (by omega)⟩
  · refine WP_ifeq rfl rfl ⟨by decide, by decide⟩  (fun h3 => absurd h3 (by decide)) (fun h3 => ?_)
    refine WP_n 1 rfl ?_
    refine WP_iflt rfl rfl ⟨by omega, by omega⟩ (fun h5 => ?_) (fun h5 => ?_)
    · refine WP_n 2 rfl ?_
      refine WP2_callV 1 ok_M_G_no rfl rfl rfl rfl rfl rfl (Nat.le_of_ble_eq_true rfl) (Nat.le_of_ble_eq_true rfl) rfl rfl ?_
      refine sp_no (k := 1) rfl (by omega) ?_
      exact WP_iret rfl rfl rfl ⟨_, rfl, r1 (by omega)⟩
    · refine WP_n 2 rfl ?_
      refine WP_icmpge rfl rfl ⟨by omega, by omega⟩ ⟨by omega, by omega⟩ (fun h8 => ?_) (fun h8 => ?_)
      · refine WP_n 2 rfl ?_
        refine WP2_callV 1 ok_M_G_no rfl rfl rfl rfl rfl rfl (Nat.le_of_ble_eq_true rfl) (Nat.le_of_ble_eq_true rfl) rfl rfl ?_
        refine sp_no (k := 1) rfl (by omega) ?_
        exact WP_iret rfl rfl rfl ⟨_, rfl, r1 (by omega)⟩
      · obtain ⟨T, rfl⟩ : ∃ T : Nat, t = (T : Int) := ⟨t.toNat, by omega⟩
        obtain ⟨q9, rfl⟩ : ∃ q9 : Nat, q = (q9 : Int) := ⟨q.toNat, by omega⟩
        refine WP_n 3 rfl ?_
        refine WP2_callV 2 ok_M_G_sizeAt rfl rfl rfl rfl rfl rfl (Nat.le_of_ble_eq_true rfl) (Nat.le_of_ble_eq_true rfl) rfl rfl ?_
        refine sp_sizeAt hI (by omega) (by omega) ?_
        refine WP_n 1 rfl ?_
        exact WP_iret rfl rfl rfl ⟨_, rfl, ok T q9 (by omega)⟩
theorem pr_sizeIn {P : PP} {n : Nat} {FI A L : Nat → Nat → Int} {X : SX} (h : INV P n FI A X) (hn : n < 512) {t q : Int} (ht : inR t) (hq : inR q) : PAIR P n (FI, A, L, X) M_F_sizeIn [some (vr 5), some (vi t), some (vi q)] M_G_sizeIn [some (vr 165), some (vi t), some (vi q)] := by
  intro d
  have hm := h.mI
  have hn5 := h.1
  have hcI := h.2.1
  have hk1 := hcI.1
  have g1 := h.2.2.1.1
  obtain ⟨lt, ut⟩ := id ht
  obtain ⟨lq, uq⟩ := id hq
  refine sp_F_sizeIn ht hq hcI hn5 (fun c1 => ?_) (fun T q9 c1 => ?_)
  · refine ⟨_, rfl, ?_⟩
    refine sp_G_sizeIn ht hq (hm.up (by omega)) (fun c2 => ?_) (fun T' q9' c2 => ?_)
    · exact ⟨rfl, INV_ref h hn (by omega)⟩
    · exfalso; omega
  · refine ⟨_, rfl, ?_⟩
    refine sp_G_sizeIn ht hq hm (fun c2 => ?_) (fun T' q9' c2 => ?_)
    · exfalso; omega
    · obtain rfl : T = T' := by omega
      obtain rfl : q9 = q9' := by omega
      refine ⟨congrArg (fun z => some (vi z)) (fore_congr ?_ _ (fun j hj => ?_)), h.next hn⟩
      · have g := h.2.2.1.2.2.2.1 T (by omega)
        unfold gTm at g
        omega
      · exact (h.2.2.1.2.2.2.2.2.1 T j (by omega) (by omega)).2.2
def nxW (pl tu sz : Nat → Int) (F : Int) : Nat → Int
  | 0 => -9
  | t + 1 => if pl t = F ∧ (nxW pl tu sz F t = -9 ∨ tu t * sz (nxW pl tu sz F t).toNat < tu (nxW pl tu sz F t).toNat * sz t) then (t : Int) else nxW pl tu sz F t
theorem nxW_T {pl tu sz : Nat → Int} {F : Int} {t : Nat} (h : pl t = F ∧ (nxW pl tu sz F t = -9 ∨ tu t * sz (nxW pl tu sz F t).toNat < tu (nxW pl tu sz F t).toNat * sz t)) : nxW pl tu sz F (t + 1) = (t : Int) := if_pos h
theorem nxW_F {pl tu sz : Nat → Int} {F : Int} {t : Nat} (h : ¬ (pl t = F ∧ (nxW pl tu sz F t = -9 ∨ tu t * sz (nxW pl tu sz F t).toNat < tu (nxW pl tu sz F t).toNat * sz t))) : nxW pl tu sz F (t + 1) = nxW pl tu sz F t := if_neg h
theorem nxW_bd (pl tu sz : Nat → Int) (F : Int) : ∀ t, nxW pl tu sz F t = -9 ∨ (0 ≤ nxW pl tu sz F t ∧ nxW pl tu sz F t < t)
  | 0 => Or.inl rfl
  | t + 1 => by
    have h := nxW_bd pl tu sz F t
    by_cases e : pl t = F ∧ (nxW pl tu sz F t = -9 ∨ tu t * sz (nxW pl tu sz F t).toNat < tu (nxW pl tu sz F t).toNat * sz t)
    · rw [nxW_T e]
      omega
    · rw [nxW_F e]
      omega
theorem nxW_congr {pl tu sz pl' tu' sz' : Nat → Int} {F : Int} : ∀ c, (∀ t, t < c → pl t = pl' t ∧ tu t = tu' t ∧ sz t = sz' t) → nxW pl tu sz F c = nxW pl' tu' sz' F c
  | 0, _ => rfl
  | c + 1, h => by
    have e := nxW_congr (F := F) c (fun t ht => h t (by omega))
    show (if _ then _ else _) = (if _ then _ else _)
    have b := nxW_bd pl' tu' sz' F c
    rw [e, (h c (by omega)).1, (h c (by omega)).2.1, (h c (by omega)).2.2]
    rcases b with b | b
    · simp only [b, true_or]
    · rw [(h (nxW pl' tu' sz' F c).toNat (by omega)).2.1, (h (nxW pl' tu' sz' F c).toNat (by omega)).2.2]
theorem sp_hadLess {P : PP} {d n : Nat} {FI A L : Nat → Nat → Int} {X : SX} {Q : Option AV → S2 → Prop} (hI : cI n FI A) (hn : n ≤ 512) {a b : Nat} (ha : a < 16) (hb : b < 16) (h1 : A (20 + a) 8 * A (20 + b) 0 < A (20 + b) 8 * A (20 + a) 0 → Q (some (vi 1)) (FI, A, L, X)) (h0 : ¬ A (20 + a) 8 * A (20 + b) 0 < A (20 + b) 8 * A (20 + a) 0 → Q (some (vi 0)) (FI, A, L, X)) : WP2 P M_H_hadLess (d) 0 [some (vr 6), some (vi (a : Int)), some (vi (b : Int))] [] (FI, A, L, X) Q := by
  have hqa := hI.2.2.2.1 a ha
  have hqb := hI.2.2.2.1 b hb
  unfold cTm at hqa hqb
  have m1 := mulB (x := A (20 + a) 8) (y := A (20 + b) 0) (a := 512) (b := 60) (by omega) (by omega) (by omega) (by omega)
  have m2 := mulB (x := A (20 + b) 8) (y := A (20 + a) 0) (a := 512) (b := 60) (by omega) (by omega) (by omega) (by omega)
  refine WP_n 1 rfl ?_
  refine WP2_getf rfl rfl rfl rfl rfl ?_
  refine WP_n 1 rfl ?_
  refine WP2_aald (b := 20) (j := a) (n := 16) rfl rfl rfl rfl rfl (by omega) (by omega) ?_
  refine WP_n 1 rfl ?_
  refine WP2_iald (j := 8) rfl rfl (ia_tm (by omega)) (by omega) (by omega) (by omega) ?_
  refine WP_n 1 rfl ?_
  refine WP2_getf rfl rfl rfl rfl rfl ?_
  refine WP_n 1 rfl ?_
  refine WP2_aald (b := 20) (j := b) (n := 16) rfl rfl rfl rfl rfl (by omega) (by omega) ?_
  refine WP_n 1 rfl ?_
  refine WP2_iald (j := 0) rfl rfl (ia_tm (by omega)) (by omega) (by omega) (by omega) ?_
  refine WP_n 2 rfl ?_
  refine WP2_getf rfl rfl rfl rfl rfl ?_
  refine WP_n 1 rfl ?_
  refine WP2_aald (b := 20) (j := b) (n := 16) rfl rfl rfl rfl rfl (by omega) (by omega) ?_
  refine WP_n 1 rfl ?_
  refine WP2_iald (j := 8) rfl rfl (ia_tm (by omega)) (by omega) (by omega) (by omega) ?_
  refine WP_n 1 rfl ?_
  refine WP2_getf rfl rfl rfl rfl rfl ?_
  refine WP_n 1 rfl ?_
  refine WP2_aald (b := 20) (j := a) (n := 16) rfl rfl rfl rfl rfl (by omega) (by omega) ?_
  refine WP_n 1 rfl ?_
  refine WP2_iald (j := 0) rfl rfl (ia_tm (by omega)) (by omega) (by omega) (by omega) ?_
  refine WP_n 1 rfl ?_
  refine WP_icmpge rfl rfl ⟨by omega, by omega⟩ ⟨by omega, by omega⟩ (fun h26 => ?_) (fun h26 => ?_)
  · refine WP_n 1 rfl ?_
    exact WP_zret rfl rfl rfl (Or.inl rfl) ⟨_, rfl, h0 (by omega)⟩
  · refine WP_n 2 rfl ?_
    exact WP_zret rfl rfl rfl (Or.inr rfl) ⟨_, rfl, h1 (by omega)⟩
theorem sp_nextAtWindow {P : PP} {d n c : Nat} {FI A L : Nat → Nat → Int} {X : SX} {Q : Option AV → S2 → Prop} (hI : cI n FI A) (hc : FI 6 8 = (c : Int)) (hn : n ≤ 512) {F : Nat} (hF : F < 11) (hq : Q (some (vi (nxW (fun t => A (20 + t) 4) (fun t => A (20 + t) 8) (fun t => A (20 + t) 0) (F : Int) c))) (FI, A, L, X)) : WP2 P M_H_nextAtWindow (d + 1) 0 [some (vr 6), some (vi (F : Int)), none, none] [] (FI, A, L, X) Q := by
  have hcc := hI.1
  refine WP_n 4 rfl ?_
  suffices hh : ∀ t, t ≤ c → ∀ z, z = nxW (fun t => A (20 + t) 4) (fun t => A (20 + t) 8) (fun t => A (20 + t) 0) (F : Int) t → WP2 P M_H_nextAtWindow (d + 1) 4 [some (vr 6), some (vi (F : Int)), some (vi z), some (vi (t : Int))] [] (FI, A, L, X) Q from hh 0 (by omega) (-9) rfl
  refine up_to (P := fun t => ∀ z, z = nxW (fun t => A (20 + t) 4) (fun t => A (20 + t) 8) (fun t => A (20 + t) 0) (F : Int) t → WP2 P M_H_nextAtWindow (d + 1) 4 [some (vr 6), some (vi (F : Int)), some (vi z), some (vi (t : Int))] [] (FI, A, L, X) Q) c ?_ ?_
  · rintro z rfl
    have hbd := nxW_bd (fun t => A (20 + t) 4) (fun t => A (20 + t) 8) (fun t => A (20 + t) 0) (F : Int) c
    refine WP_n 2 rfl ?_
    refine WP2_getf rfl rfl rfl rfl rfl ?_
    refine WP_icmpge rfl rfl ⟨by omega, by omega⟩ ⟨by omega, by omega⟩ (fun h7 => ?_) (fun h7 => absurd h7 (by omega))
    refine WP_n 1 rfl ?_
    exact WP_iret rfl rfl rfl ⟨_, rfl, hq⟩
  · rintro t ht ih z rfl
    have hbd := nxW_bd (fun t => A (20 + t) 4) (fun t => A (20 + t) 8) (fun t => A (20 + t) 0) (F : Int) t
    have hq := hI.2.2.2.1 t (by omega)
    unfold cTm at hq
    by_cases hz : nxW (fun t => A (20 + t) 4) (fun t => A (20 + t) 8) (fun t => A (20 + t) 0) (F : Int) t = -9
    · rw [hz]
      refine WP_n 2 rfl ?_
      refine WP2_getf rfl rfl rfl rfl rfl ?_
      refine WP_icmpge rfl rfl ⟨by omega, by omega⟩ ⟨by omega, by omega⟩ (fun h7 => absurd h7 (by omega)) (fun h7 => ?_)
      refine WP_n 1 rfl ?_
      refine WP2_getf rfl rfl rfl rfl rfl ?_
      refine WP_n 1 rfl ?_
      refine WP2_aald (b := 20) (j := t) (n := 16) rfl rfl rfl rfl rfl (by omega) (by omega) ?_
      refine WP_n 1 rfl ?_
      refine WP2_iald (j := 4) rfl rfl (ia_tm (by omega)) (by omega) (by omega) (by omega) ?_
      refine WP_n 1 rfl ?_
      refine WP_icmpne rfl rfl ⟨by omega, by omega⟩ ⟨by omega, by omega⟩ (fun h15 => ?_) (fun h15 => ?_)
      · refine WP_n 2 rfl ?_
        exact ih _ (by rw [nxW_F (fun q => by omega), hz])
      · refine WP_n 2 rfl ?_
        refine WP_icmpeq rfl rfl ⟨by decide, by decide⟩ ⟨by decide, by decide⟩  (fun h18 => ?_) (fun h18 => absurd (by decide) h18)
        refine WP_n 4 rfl ?_
        exact ih _ (by rw [nxW_T ⟨by omega, Or.inl hz⟩])
    · obtain ⟨b, hb⟩ : ∃ b : Nat, nxW (fun t => A (20 + t) 4) (fun t => A (20 + t) 8) (fun t => A (20 + t) 0) (F : Int) t = (b : Int) := ⟨(nxW (fun t => A (20 + t) 4) (fun t => A (20 + t) 8) (fun t => A (20 + t) 0) (F : Int) t).toNat, by omega⟩
      have hbn : (nxW (fun t => A (20 + t) 4) (fun t => A (20 + t) 8) (fun t => A (20 + t) 0) (F : Int) t).toNat = b := by omega
      have hqb := hI.2.2.2.1 b (by omega)
      unfold cTm at hqb
      rw [hb]
      refine WP_n 2 rfl ?_
      refine WP2_getf rfl rfl rfl rfl rfl ?_
      refine WP_icmpge rfl rfl ⟨by omega, by omega⟩ ⟨by omega, by omega⟩ (fun h7 => absurd h7 (by omega)) (fun h7 => ?_)
      refine WP_n 1 rfl ?_
      refine WP2_getf rfl rfl rfl rfl rfl ?_
      refine WP_n 1 rfl ?_
      refine WP2_aald (b := 20) (j := t) (n := 16) rfl rfl rfl rfl rfl (by omega) (by omega) ?_
      refine WP_n 1 rfl ?_
      refine WP2_iald (j := 4) rfl rfl (ia_tm (by omega)) (by omega) (by omega) (by omega) ?_
      refine WP_n 1 rfl ?_
      refine WP_icmpne rfl rfl ⟨by omega, by omega⟩ ⟨by omega, by omega⟩ (fun h15 => ?_) (fun h15 => ?_)
      · refine WP_n 2 rfl ?_
        exact ih _ (by rw [nxW_F (pl := fun t => A (20 + t) 4) (fun q => h15 q.1), hb])
      · refine WP_n 2 rfl ?_
        refine WP_icmpeq rfl rfl ⟨by omega, by omega⟩ ⟨by omega, by omega⟩ (fun h18 => absurd h18 (by omega)) (fun h18 => ?_)
        refine WP_n 3 rfl ?_
        refine WP2_callV 2 ok_M_H_hadLess rfl rfl rfl rfl rfl rfl (Nat.le_of_ble_eq_true rfl) (Nat.le_of_ble_eq_true rfl) rfl rfl ?_
        refine sp_hadLess hI hn (by omega) (by omega) (fun hL => ?_) (fun hL => ?_)
        · refine WP_ifeq rfl rfl ⟨by decide, by decide⟩  (fun h23 => absurd h23 (by decide)) (fun h23 => ?_)
          refine WP_n 4 rfl ?_
          exact ih _ (by rw [nxW_T ⟨by omega, Or.inr (by rw [hbn]; exact hL)⟩])
        · refine WP_ifeq rfl rfl ⟨by decide, by decide⟩  (fun h23 => ?_) (fun h23 => absurd (by decide) h23)
          refine WP_n 2 rfl ?_
          exact ih _ (by rw [nxW_F (fun q => by rw [hbn] at q; rcases q.2 with q | q; exact hz q; exact hL q), hb])
theorem sp_F_turn {P : PP} {d n c : Nat} {FI A L : Nat → Nat → Int} {X : SX} {Q : Option AV → S2 → Prop} (hI : cI n FI A) (hc : FI 6 8 = (c : Int)) (hn : n ≤ 512) {f : Int} (hf : inR f) (r1 : (f < 0 ∨ 11 ≤ f) → Q (some (vi (-1))) (FI, rfC A 1, L, X)) (r3 : ∀ F : Nat, f = (F : Int) ∧ F < 11 → (iAnd (A (8 + F) 1) 2 = 0 ∨ nxW (fun t => A (20 + t) 4) (fun t => A (20 + t) 8) (fun t => A (20 + t) 0) (F : Int) c = -9) → Q (some (vi (-3))) (FI, rfC A 3, L, X)) (ok : ∀ F T : Nat, f = (F : Int) ∧ F < 11 ∧ T < c → ¬ iAnd (A (8 + F) 1) 2 = 0 → nxW (fun t => A (20 + t) 4) (fun t => A (20 + t) 8) (fun t => A (20 + t) 0) (F : Int) c = (T : Int) → Q (some (vi (T : Int))) (FI, up2 A (20 + T) 8 (A (20 + T) 8 + 1), L, X)) : WP2 P M_F_turn (d + 2) 0 [some (vr 5), some (vi f), none] [] (FI, A, L, X) Q := by
  have hcc := hI.1
  refine WP_n 1 rfl ?_
  refine WP2_callS 1 ok_M_F_noFloor rfl rfl rfl rfl rfl rfl rfl (Nat.le_of_ble_eq_true rfl) (Nat.le_of_ble_eq_true rfl) ?_
  refine sp_noFloor hf (fun hF => ?_) (fun hF hFb => ?_)
  · refine WP_ifeq rfl rfl ⟨by decide, by decide⟩  (fun h2 => absurd h2 (by decide)) (fun h2 => ?_)
    refine WP_n 2 rfl ?_
    refine WP2_callV 1 ok_M_F_refuse rfl rfl rfl rfl rfl rfl (Nat.le_of_ble_eq_true rfl) (Nat.le_of_ble_eq_true rfl) rfl rfl ?_
    refine sp_refuse (k := 1) rfl (by omega) ?_
    exact WP_iret rfl rfl rfl ⟨_, rfl, r1 (by omega)⟩
  · refine WP_ifeq rfl rfl ⟨by decide, by decide⟩  (fun h2 => ?_) (fun h2 => absurd (by decide) h2)
    obtain ⟨F, rfl⟩ : ∃ F : Nat, f = (F : Int) := ⟨f.toNat, by omega⟩
    have hfl := hI.2.2.1 F (by omega)
    unfold cFl at hfl
    refine WP_n 1 rfl ?_
    refine WP2_getf rfl rfl rfl rfl rfl ?_
    refine WP2_getf rfl rfl rfl rfl rfl ?_
    refine WP_n 1 rfl ?_
    refine WP2_aald (b := 8) (j := F) (n := 11) rfl rfl rfl rfl rfl (by omega) (by omega) ?_
    refine WP_n 1 rfl ?_
    refine WP2_iald (j := 1) rfl rfl (ia_fl (by omega)) (by omega) (by omega) (by omega) ?_
    refine WP_n 2 rfl ?_
    refine WP_ifne rfl rfl (iAnd_inR _ _) (fun h16 => ?_) (fun h16 => ?_)
    · refine WP_n 1 rfl ?_
      refine WP2_getf rfl rfl rfl rfl rfl ?_
      refine WP_n 1 rfl ?_
      refine WP2_callV 1 ok_M_H_nextAtWindow rfl rfl rfl rfl rfl rfl (Nat.le_of_ble_eq_true rfl) (Nat.le_of_ble_eq_true rfl) rfl rfl ?_
      refine sp_nextAtWindow hI hc hn (F := F) (by omega) ?_
      have hbd := nxW_bd (fun t => A (20 + t) 4) (fun t => A (20 + t) 8) (fun t => A (20 + t) 0) (F : Int) c
      by_cases hz : nxW (fun t => A (20 + t) 4) (fun t => A (20 + t) 8) (fun t => A (20 + t) 0) (F : Int) c = -9
      · rw [hz]
        refine WP_n 3 rfl ?_
        refine WP_icmpne rfl rfl ⟨by decide, by decide⟩ ⟨by decide, by decide⟩  (fun h28 => absurd h28 (by decide)) (fun h28 => ?_)
        refine WP_n 2 rfl ?_
        refine WP2_callV 1 ok_M_F_refuse rfl rfl rfl rfl rfl rfl (Nat.le_of_ble_eq_true rfl) (Nat.le_of_ble_eq_true rfl) rfl rfl ?_
        refine sp_refuse (k := 3) rfl (by omega) ?_
        exact WP_iret rfl rfl rfl ⟨_, rfl, r3 F (by omega) (Or.inr hz)⟩
      · obtain ⟨T, hT⟩ : ∃ T : Nat, nxW (fun t => A (20 + t) 4) (fun t => A (20 + t) 8) (fun t => A (20 + t) 0) (F : Int) c = (T : Int) := ⟨(nxW (fun t => A (20 + t) 4) (fun t => A (20 + t) 8) (fun t => A (20 + t) 0) (F : Int) c).toNat, by omega⟩
        have hqT := hI.2.2.2.1 T (by omega)
        unfold cTm at hqT
        rw [hT]
        refine WP_n 3 rfl ?_
        refine WP_icmpne rfl rfl ⟨by omega, by omega⟩ ⟨by omega, by omega⟩ (fun h28 => ?_) (fun h28 => absurd h28 (by omega))
        refine WP_n 1 rfl ?_
        refine WP2_getf rfl rfl rfl rfl rfl ?_
        refine WP2_getf rfl rfl rfl rfl rfl ?_
        refine WP_n 1 rfl ?_
        refine WP2_aald (b := 20) (j := T) (n := 16) rfl rfl rfl rfl rfl (by omega) (by omega) ?_
        refine WP_n 2 rfl ?_
        refine WP2_iald (j := 8) rfl rfl (ia_tm (by omega)) (by omega) (by omega) (by omega) ?_
        refine WP_n 2 rfl ?_
        refine WP2_iast (j := 8) rfl rfl (ia_tm (by omega)) (by omega) (by omega) (by omega) ?_
        refine WP_n 1 rfl ?_
        exact WP_iret rfl rfl rfl ⟨_, rfl, ok F T (by omega) h16 hT⟩
    · refine WP_n 2 rfl ?_
      refine WP2_callV 1 ok_M_F_refuse rfl rfl rfl rfl rfl rfl (Nat.le_of_ble_eq_true rfl) (Nat.le_of_ble_eq_true rfl) rfl rfl ?_
      refine sp_refuse (k := 3) rfl (by omega) ?_
      exact WP_iret rfl rfl rfl ⟨_, rfl, r3 F (by omega) (Or.inl (by omega))⟩
theorem sp_G_turn {P : PP} {d n c : Nat} {FI A L : Nat → Nat → Int} {X : SX} {Q : Option AV → S2 → Prop} (hI : mI n FI A) (hc : FI 165 0 = (c : Int)) {f : Int} (hf : inR f) (r1 : (f < 0 ∨ 11 ≤ f) → Q (some (vi (-1))) (FI, rfG A 1, L, X)) (r3 : ∀ F : Nat, f = (F : Int) ∧ F < 11 → (iAnd (A 167 F) 2 = 0 ∨ nxW (A 174) (A 177) (A 170) (F : Int) c = -9) → Q (some (vi (-3))) (FI, rfG A 3, L, X)) (ok : ∀ F T : Nat, f = (F : Int) ∧ F < 11 ∧ T < c → ¬ iAnd (A 167 F) 2 = 0 → nxW (A 174) (A 177) (A 170) (F : Int) c = (T : Int) → Q (some (vi (T : Int))) (FI, up2 A 177 T (A 177 T + 1), L, X)) : WP2 P M_G_turn (d + 2) 0 [some (vr 165), some (vi f), none, none] [] (FI, A, L, X) Q := by
  have hcc := hI.2.1
  refine WP_n 1 rfl ?_
  refine WP2_callS 1 ok_M_G_isFloor rfl rfl rfl rfl rfl rfl rfl (Nat.le_of_ble_eq_true rfl) (Nat.le_of_ble_eq_true rfl) ?_
  refine sp_isFloor hf (fun hF => ?_) (fun hF hFb => ?_)
  · refine WP_ifne rfl rfl ⟨by decide, by decide⟩  (fun h2 => absurd h2 (by decide)) (fun h2 => ?_)
    refine WP_n 2 rfl ?_
    refine WP2_callV 1 ok_M_G_no rfl rfl rfl rfl rfl rfl (Nat.le_of_ble_eq_true rfl) (Nat.le_of_ble_eq_true rfl) rfl rfl ?_
    refine sp_no (k := 1) rfl (by omega) ?_
    exact WP_iret rfl rfl rfl ⟨_, rfl, r1 (by omega)⟩
  · refine WP_ifne rfl rfl ⟨by decide, by decide⟩  (fun h2 => ?_) (fun h2 => absurd (by decide) h2)
    obtain ⟨F, rfl⟩ : ∃ F : Nat, f = (F : Int) := ⟨f.toNat, by omega⟩
    have hfl := hI.2.2.2.1 F (by omega)
    unfold mFl at hfl
    refine WP_n 4 rfl ?_
    suffices hh : ∀ t, t ≤ c → ∀ z, z = nxW (A 174) (A 177) (A 170) (F : Int) t → WP2 P M_G_turn (d + 2) 11 [some (vr 165), some (vi (F : Int)), some (vi z), some (vi (t : Int))] [] (FI, A, L, X) Q from hh 0 (by omega) (-9) rfl
    refine up_to (P := fun t => ∀ z, z = nxW (A 174) (A 177) (A 170) (F : Int) t → WP2 P M_G_turn (d + 2) 11 [some (vr 165), some (vi (F : Int)), some (vi z), some (vi (t : Int))] [] (FI, A, L, X) Q) c ?_ ?_
    · rintro z rfl
      have hbd := nxW_bd (A 174) (A 177) (A 170) (F : Int) c
      refine WP_n 2 rfl ?_
      refine WP2_getf rfl rfl rfl rfl rfl ?_
      refine WP_icmpge rfl rfl ⟨by omega, by omega⟩ ⟨by omega, by omega⟩ (fun h14 => ?_) (fun h14 => absurd h14 (by omega))
      refine WP_n 1 rfl ?_
      refine WP2_getf rfl rfl rfl rfl rfl ?_
      refine WP_n 1 rfl ?_
      refine WP2_iald (j := F) rfl rfl (ia_lit (n := 11) rfl rfl (by omega)) (by omega) (by omega) (by omega) ?_
      refine WP_n 2 rfl ?_
      refine WP_ifeq rfl rfl (iAnd_inR _ _) (fun h53 => ?_) (fun h53 => ?_)
      · refine WP_n 2 rfl ?_
        refine WP2_callV 1 ok_M_G_no rfl rfl rfl rfl rfl rfl (Nat.le_of_ble_eq_true rfl) (Nat.le_of_ble_eq_true rfl) rfl rfl ?_
        refine sp_no (k := 3) rfl (by omega) ?_
        exact WP_iret rfl rfl rfl ⟨_, rfl, r3 F (by omega) (Or.inl h53)⟩
      · by_cases hz : nxW (A 174) (A 177) (A 170) (F : Int) c = -9
        · rw [hz]
          refine WP_n 2 rfl ?_
          refine WP_icmpne rfl rfl ⟨by decide, by decide⟩ ⟨by decide, by decide⟩  (fun h56 => absurd h56 (by decide)) (fun h56 => ?_)
          refine WP_n 2 rfl ?_
          refine WP2_callV 1 ok_M_G_no rfl rfl rfl rfl rfl rfl (Nat.le_of_ble_eq_true rfl) (Nat.le_of_ble_eq_true rfl) rfl rfl ?_
          refine sp_no (k := 3) rfl (by omega) ?_
          exact WP_iret rfl rfl rfl ⟨_, rfl, r3 F (by omega) (Or.inr hz)⟩
        · obtain ⟨T, hT⟩ : ∃ T : Nat, nxW (A 174) (A 177) (A 170) (F : Int) c = (T : Int) := ⟨(nxW (A 174) (A 177) (A 170) (F : Int) c).toNat, by omega⟩
          have hqT := hI.2.2.2.2.1 T (by omega)
          unfold mTm at hqT
          rw [hT]
          refine WP_n 2 rfl ?_
          refine WP_icmpne rfl rfl ⟨by omega, by omega⟩ ⟨by omega, by omega⟩ (fun h56 => ?_) (fun h56 => absurd h56 (by omega))
          refine WP_n 1 rfl ?_
          refine WP2_getf rfl rfl rfl rfl rfl ?_
          refine WP_n 2 rfl ?_
          refine WP2_iald (j := T) rfl rfl (ia_lit (n := 16) rfl rfl (by omega)) (by omega) (by omega) (by omega) ?_
          refine WP_n 2 rfl ?_
          refine WP2_iast (j := T) rfl rfl (ia_lit (n := 16) rfl rfl (by omega)) (by omega) (by omega) (by omega) ?_
          refine WP_n 1 rfl ?_
          exact WP_iret rfl rfl rfl ⟨_, rfl, ok F T (by omega) h53 hT⟩
    · rintro t ht ih z rfl
      have hbd := nxW_bd (A 174) (A 177) (A 170) (F : Int) t
      have hq := hI.2.2.2.2.1 t (by omega)
      unfold mTm at hq
      by_cases hz : nxW (A 174) (A 177) (A 170) (F : Int) t = -9
      · rw [hz]
        refine WP_n 2 rfl ?_
        refine WP2_getf rfl rfl rfl rfl rfl ?_
        refine WP_icmpge rfl rfl ⟨by omega, by omega⟩ ⟨by omega, by omega⟩ (fun h14 => absurd h14 (by omega)) (fun h14 => ?_)
        refine WP_n 1 rfl ?_
        refine WP2_getf rfl rfl rfl rfl rfl ?_
        refine WP_n 1 rfl ?_
        refine WP2_iald (j := t) rfl rfl (ia_lit (n := 16) rfl rfl (by omega)) (by omega) (by omega) (by omega) ?_
        refine WP_n 1 rfl ?_
        refine WP_icmpne rfl rfl ⟨by omega, by omega⟩ ⟨by omega, by omega⟩ (fun h20 => ?_) (fun h20 => ?_)
        · refine WP_n 2 rfl ?_
          exact ih _ (by rw [nxW_F (fun q => by omega), hz])
        · refine WP_n 2 rfl ?_
          refine WP_icmpeq rfl rfl ⟨by decide, by decide⟩ ⟨by decide, by decide⟩  (fun h23 => ?_) (fun h23 => absurd (by decide) h23)
          refine WP_n 4 rfl ?_
          exact ih _ (by rw [nxW_T ⟨by omega, Or.inl hz⟩])
      · obtain ⟨b, hb⟩ : ∃ b : Nat, nxW (A 174) (A 177) (A 170) (F : Int) t = (b : Int) := ⟨(nxW (A 174) (A 177) (A 170) (F : Int) t).toNat, by omega⟩
        have hbn : (nxW (A 174) (A 177) (A 170) (F : Int) t).toNat = b := by omega
        have hqb := hI.2.2.2.2.1 b (by omega)
        unfold mTm at hqb
        rw [hb]
        refine WP_n 2 rfl ?_
        refine WP2_getf rfl rfl rfl rfl rfl ?_
        refine WP_icmpge rfl rfl ⟨by omega, by omega⟩ ⟨by omega, by omega⟩ (fun h14 => absurd h14 (by omega)) (fun h14 => ?_)
        refine WP_n 1 rfl ?_
        refine WP2_getf rfl rfl rfl rfl rfl ?_
        refine WP_n 1 rfl ?_
        refine WP2_iald (j := t) rfl rfl (ia_lit (n := 16) rfl rfl (by omega)) (by omega) (by omega) (by omega) ?_
        refine WP_n 1 rfl ?_
        refine WP_icmpne rfl rfl ⟨by omega, by omega⟩ ⟨by omega, by omega⟩ (fun h20 => ?_) (fun h20 => ?_)
        · refine WP_n 2 rfl ?_
          exact ih _ (by rw [nxW_F (fun q => h20 q.1), hb])
        · refine WP_n 2 rfl ?_
          refine WP_icmpeq rfl rfl ⟨by omega, by omega⟩ ⟨by omega, by omega⟩ (fun h23 => absurd h23 (by omega)) (fun h23 => ?_)
          refine WP_n 1 rfl ?_
          refine WP2_getf rfl rfl rfl rfl rfl ?_
          refine WP_n 1 rfl ?_
          refine WP2_iald (j := t) rfl rfl (ia_lit (n := 16) rfl rfl (by omega)) (by omega) (by omega) (by omega) ?_
          refine WP_n 1 rfl ?_
          refine WP2_getf rfl rfl rfl rfl rfl ?_
          refine WP_n 1 rfl ?_
          refine WP2_iald (j := b) rfl rfl (ia_lit (n := 16) rfl rfl (by omega)) (by omega) (by omega) (by omega) ?_
          refine WP_n 2 rfl ?_
          refine WP2_getf rfl rfl rfl rfl rfl ?_
          refine WP_n 1 rfl ?_
          refine WP2_iald (j := b) rfl rfl (ia_lit (n := 16) rfl rfl (by omega)) (by omega) (by omega) (by omega) ?_
          refine WP_n 1 rfl ?_
          refine WP2_getf rfl rfl rfl rfl rfl ?_
          refine WP_n 1 rfl ?_
          refine WP2_iald (j := t) rfl rfl (ia_lit (n := 16) rfl rfl (by omega)) (by omega) (by omega) (by omega) ?_
          refine WP_n 1 rfl ?_
          have hnn := hI.1
          have m1 := mulB (x := A 177 t) (y := A 170 b) (a := 512) (b := 60) (by omega) (by omega) (by omega) (by omega)
          have m2 := mulB (x := A 177 b) (y := A 170 t) (a := 512) (b := 60) (by omega) (by omega) (by omega) (by omega)
          refine WP_icmpge rfl rfl ⟨by omega, by omega⟩ ⟨by omega, by omega⟩ (fun h42 => ?_) (fun h42 => ?_)
          · refine WP_n 2 rfl ?_
            exact ih _ (by rw [nxW_F (fun q => by rw [hbn] at q; rcases q.2 with q | q; exact hz q; omega), hb])
          · refine WP_n 4 rfl ?_
            exact ih _ (by rw [nxW_T ⟨by omega, Or.inr (by rw [hbn]; omega)⟩])
theorem pr_turn {P : PP} {n : Nat} {FI A L : Nat → Nat → Int} {X : SX} (h : INV P n FI A X) (hn : n < 512) {f : Int} (hf : inR f) : PAIR P n (FI, A, L, X) M_F_turn [some (vr 5), some (vi f), none] M_G_turn [some (vr 165), some (vi f), none, none] := by
  intro d
  have hm := h.mI
  have hn5 := h.1
  have hcI := h.2.1
  have hk1 := hcI.1
  have g1 := h.2.2.1.1
  obtain ⟨c, hc⟩ : ∃ c : Nat, FI 6 8 = (c : Int) := ⟨(FI 6 8).toNat, by omega⟩
  have hc2 : FI 165 0 = (c : Int) := by rw [g1]; exact hc
  have ek : ∀ F, F < 11 → A 167 F = A (8 + F) 1 := fun F hF => (h.2.2.1.2.2.1 F hF).2.1
  have et : ∀ t, t < 16 → A 177 t = A (20 + t) 8 := fun t ht => (h.2.2.1.2.2.2.1 t ht).2.2.1
  have en : ∀ F : Nat, nxW (A 174) (A 177) (A 170) (F : Int) c = nxW (fun t => A (20 + t) 4) (fun t => A (20 + t) 8) (fun t => A (20 + t) 0) (F : Int) c := fun F => nxW_congr c (fun t ht => by
    have g := h.2.2.1.2.2.2.1 t (by omega)
    unfold gTm at g
    omega)
  refine sp_F_turn hcI hc hn5 hf (fun c1 => ?_) (fun F c1 c1' => ?_) (fun F T c1 c1' c1'' => ?_)
  · refine ⟨_, rfl, ?_⟩
    refine sp_G_turn (hm.up (by omega)) hc2 hf (fun c2 => ?_) (fun F' c2 c2' => ?_) (fun F' T' c2 c2' c2'' => ?_)
    · exact ⟨rfl, INV_ref h hn (by omega)⟩
    · exfalso; omega
    · exfalso; omega
  · refine ⟨_, rfl, ?_⟩
    refine sp_G_turn (hm.up (by omega)) hc2 hf (fun c2 => ?_) (fun F' c2 c2' => ?_) (fun F' T' c2 c2' c2'' => ?_)
    · exfalso; omega
    · exact ⟨rfl, INV_ref h hn (by omega)⟩
    · obtain rfl : F = F' := by omega
      have e := en F
      rw [nxW_congr (pl' := A 174) (tu' := A 177) (sz' := A 170) c (fun t ht => ⟨up2_ne (by omega), up2_ne (by omega), up2_ne (by omega)⟩)] at c2''
      rw [up2_ne (by omega), ek F (by omega)] at c2'
      rcases c1' with q | q
      · exact absurd q c2'
      · exfalso; omega
  · refine ⟨_, rfl, ?_⟩
    have e := en F
    refine sp_G_turn (hm.up (by omega)) hc2 hf (fun c2 => ?_) (fun F' c2 c2' => ?_) (fun F' T' c2 c2' c2'' => ?_)
    · exfalso; omega
    · obtain rfl : F = F' := by omega
      rw [nxW_congr (pl' := A 174) (tu' := A 177) (sz' := A 170) c (fun t ht => ⟨up2_ne (by omega), up2_ne (by omega), up2_ne (by omega)⟩)] at c2'
      rw [up2_ne (by omega), ek F (by omega)] at c2'
      rcases c2' with q | q
      · exact absurd q c1'
      · exfalso; omega
    · obtain rfl : F = F' := by omega
      rw [nxW_congr (pl' := A 174) (tu' := A 177) (sz' := A 170) c (fun t ht => ⟨up2_ne (by omega), up2_ne (by omega), up2_ne (by omega)⟩)] at c2''
      obtain rfl : T = T' := by omega
      refine ⟨rfl, ?_⟩
      show INV P (n + 1) FI (up2 _ 177 T (up2 A (20 + T) 8 _ 177 T + 1)) X
      rw [up2_ne (a := 20 + T) (by omega), et T (by omega)]
      have q := hcI.2.2.2.1 T (by omega)
      unfold cTm at q
      exact INV_turn h hn (by omega) (by omega) (by omega)
end
section
/-! desks, both sides -/
theorem bitN_1 {s k : Nat} (h : s.testBit k = true) : bitN s k = 1 := by rw [bitN_tb, h]; rfl
theorem bitN_0 {s k : Nat} (h : s.testBit k = false) : bitN s k = 0 := by rw [bitN_tb, h]; rfl
def come (g : Nat → Int) (d : Nat) (p : Nat) : Int := sumN (fun p => 1 - (bitN (g p).toNat d : Int)) p
theorem come_s {g : Nat → Int} {d p s : Nat} (h : g p = (s : Int)) : come g d (p + 1) = come g d p + (1 - (bitN s d : Int)) := by
  show come g d p + (1 - (bitN (g p).toNat d : Int)) = _
  rw [h]
  rfl
theorem come_bd {g : Nat → Int} {d : Nat} (p : Nat) : 0 ≤ come g d p ∧ come g d p ≤ p := by
  have := sumN_bd (f := fun p => 1 - (bitN (g p).toNat d : Int)) (lo := 0) (hi := 1) p (fun k _ => by
    have := bitN_le (g k).toNat d
    omega)
  unfold come
  omega
def maxN (f : Nat → Int) : Nat → Int
  | 0 => 0
  | n + 1 => if maxN f n < f n then f n else maxN f n
theorem maxN_bd {f : Nat → Int} {hi : Int} (h0 : 0 ≤ hi) : ∀ n, (∀ k, k < n → f k ≤ hi) → 0 ≤ maxN f n ∧ maxN f n ≤ hi
  | 0, _ => ⟨Int.le_refl 0, h0⟩
  | n + 1, h => by
    have h1 := maxN_bd h0 n (fun k hk => h k (by omega))
    have h2 := h n (by omega)
    by_cases e : maxN f n < f n
    · rw [show maxN f (n + 1) = f n from if_pos e]
      omega
    · rw [show maxN f (n + 1) = maxN f n from if_neg e]
      omega
theorem maxN_congr {f g : Nat → Int} : ∀ n, (∀ k, k < n → f k = g k) → maxN f n = maxN g n
  | 0, _ => rfl
  | n + 1, h => by
    show (if _ then _ else _) = (if _ then _ else _)
    rw [maxN_congr n (fun k hk => h k (by omega)), h n (by omega)]
theorem sp_mostComing {P : PP} {d n : Nat} {FI A L : Nat → Nat → Int} {X : SX} {Q : Option AV → S2 → Prop} (hI : cI n FI A) {T told : Nat} (hT : T < 16) (htold : A (20 + T) 7 = (told : Int)) (hq : Q (some (vi (maxN (fun d => come (A (88 + T)) d told) 5))) (FI, A, L, X)) : WP2 P M_C_mostComing (d + 1) 0 [some (vr 160), some (vi (T : Int)), none, none, none, none] [] (FI, A, L, X) Q := by
  have htm := hI.2.2.2.1 T hT
  unfold cTm at htm
  refine WP_n 4 rfl ?_
  refine up_to (P := fun d9 => WP2 P M_C_mostComing (d + 1) 4 [some (vr 160), some (vi (T : Int)), some (vi (maxN (fun d => come (A (88 + T)) d told) d9)), some (vi (d9 : Int)), none, none] [] (FI, A, L, X) Q) 5 ?_ ?_ 0 (by omega)
  · have hmb := maxN_bd (f := fun d => come (A (88 + T)) d told) (hi := 20) (by omega) 5 (fun k _ => by have := come_bd (g := (A (88 + T))) (d := k) told; show come (A (88 + T)) k told ≤ 20; omega)
    refine WP_n 2 rfl ?_
    refine WP_icmpge rfl rfl ⟨by omega, by omega⟩ ⟨by omega, by omega⟩ (fun h6 => ?_) (fun h6 => absurd h6 (by omega))
    refine WP_n 1 rfl ?_
    exact WP_iret rfl rfl rfl ⟨_, rfl, hq⟩
  · intro d9 hd ih
    refine WP_n 2 rfl ?_
    refine WP_icmpge rfl rfl ⟨by omega, by omega⟩ ⟨by omega, by omega⟩ (fun h6 => absurd h6 (by omega)) (fun h6 => ?_)
    refine WP_n 4 rfl ?_
    have hmb := maxN_bd (f := fun d => come (A (88 + T)) d told) (hi := 20) (by omega) d9 (fun k _ => by have := come_bd (g := (A (88 + T))) (d := k) told; show come (A (88 + T)) k told ≤ 20; omega)
    refine up_to (P := fun p => WP2 P M_C_mostComing (d + 1) 11 [some (vr 160), some (vi (T : Int)), some (vi (maxN (fun d => come (A (88 + T)) d told) d9)), some (vi (d9 : Int)), some (vi (come (A (88 + T)) d9 p)), some (vi (p : Int))] [] (FI, A, L, X) Q) told ?_ ?_ 0 (by omega)
    · have hcb := come_bd (g := (A (88 + T))) (d := d9) told
      refine WP_n 2 rfl ?_
      refine WP2_getf rfl rfl rfl rfl rfl ?_
      refine WP2_getf rfl rfl rfl rfl rfl ?_
      refine WP_n 1 rfl ?_
      refine WP2_aald (b := 20) (j := T) (n := 16) rfl rfl rfl rfl rfl (by omega) (by omega) ?_
      refine WP_n 1 rfl ?_
      refine WP2_iald (j := 7) rfl rfl (ia_tm (by omega)) (by omega) (by omega) (by omega) ?_
      refine WP_icmpge rfl rfl ⟨by omega, by omega⟩ ⟨by omega, by omega⟩ (fun h19 => ?_) (fun h19 => absurd h19 (by omega))
      refine WP_n 2 rfl ?_
      refine WP_max rfl rfl rfl rfl rfl (Nat.le_of_ble_eq_true rfl) ⟨by omega, by omega⟩ ⟨by omega, by omega⟩ ?_
      refine WP_n 3 rfl ?_
      exact WP2_kill 4 (WP2_kill 5 ih)
    · intro p hp ihp
      have hcb := come_bd (g := (A (88 + T))) (d := d9) p
      have hpp := hI.2.2.2.2.2.1 T p hT (by omega)
      unfold cPp at hpp
      obtain ⟨s, hs⟩ : ∃ s : Nat, A (88 + T) p = (s : Int) := ⟨(A (88 + T) p).toNat, by omega⟩
      rw [come_s (g := (A (88 + T))) (s := s) hs] at ihp
      refine WP_n 2 rfl ?_
      refine WP2_getf rfl rfl rfl rfl rfl ?_
      refine WP2_getf rfl rfl rfl rfl rfl ?_
      refine WP_n 1 rfl ?_
      refine WP2_aald (b := 20) (j := T) (n := 16) rfl rfl rfl rfl rfl (by omega) (by omega) ?_
      refine WP_n 1 rfl ?_
      refine WP2_iald (j := 7) rfl rfl (ia_tm (by omega)) (by omega) (by omega) (by omega) ?_
      refine WP_icmpge rfl rfl ⟨by omega, by omega⟩ ⟨by omega, by omega⟩ (fun h19 => absurd h19 (by omega)) (fun h19 => ?_)
      refine WP_n 2 rfl ?_
      refine WP2_getf rfl rfl rfl rfl rfl ?_
      refine WP2_getf rfl rfl rfl rfl rfl ?_
      refine WP_n 1 rfl ?_
      refine WP2_aald (b := 88) (j := T) (n := 16) rfl rfl rfl rfl rfl (by omega) (by omega) ?_
      refine WP_n 1 rfl ?_
      refine WP2_iald (j := p) rfl rfl (ia_hm (by omega)) (by omega) (by omega) (by omega) ?_
      refine WP_n 1 rfl ?_
      refine WP2_callN 2 ok_M_F_holds rfl rfl rfl rfl rfl rfl rfl (Nat.le_of_ble_eq_true rfl) (Nat.le_of_ble_eq_true rfl) ?_
      rw [hs]
      refine sp_holds (by omega) (by omega) (fun hB => ?_) (fun hB => ?_)
      · refine WP_ifeq rfl rfl ⟨by decide, by decide⟩  (fun h30 => absurd h30 (by decide)) (fun h30 => ?_)
        refine WP_n 6 rfl ?_
        rw [bitN_1 hB] at ihp
        exact ihp
      · refine WP_ifeq rfl rfl ⟨by decide, by decide⟩  (fun h30 => ?_) (fun h30 => absurd (by decide) h30)
        refine WP_n 5 rfl ?_
        rw [bitN_0 hB] at ihp
        exact ihp
theorem sp_F_desks {P : PP} {d n : Nat} {FI A L : Nat → Nat → Int} {X : SX} {Q : Option AV → S2 → Prop} {t : Int} (ht : inR t) (hI : cI n FI A) (hn5 : n ≤ 512) (r1 : ((t < 0 ∨ FI 6 8 ≤ t)) → Q (some (vi (-1))) (FI, rfC A 1, L, X)) (ok : ∀ T told : Nat, (t = (T : Int) ∧ (T : Int) < FI 6 8 ∧ A (20 + T) 7 = (told : Int)) → Q (some (vi (maxN (fun d => come (A (88 + T)) d told) 5))) (FI, A, L, X)) : WP2 P M_F_desks (d + 2) 0 [some (vr 5), some (vi t)] [] (FI, A, L, X) Q := by
  obtain ⟨lt, ut⟩ := id ht
  have hcc := hI.1
  refine WP_n 2 rfl ?_
  refine WP2_callV 1 ok_M_F_noTeam rfl rfl rfl rfl rfl rfl (Nat.le_of_ble_eq_true rfl) (Nat.le_of_ble_eq_true rfl) rfl rfl ?_
  refine sp_noTeam ht ⟨by omega, by omega⟩ (fun hTt => ?_) (fun hTt hTtb => ?_)
  · refine WP_ifeq rfl rfl ⟨by decide, by decide⟩  (fun h3 => absurd h3 (by decide)) (fun h3 => ?_)
    refine WP_n 2 rfl ?_
    refine WP2_callV 1 ok_M_F_refuse rfl rfl rfl rfl rfl rfl (Nat.le_of_ble_eq_true rfl) (Nat.le_of_ble_eq_true rfl) rfl rfl ?_
    refine sp_refuse (k := 1) rfl (by omega) ?_
    exact WP_iret rfl rfl rfl ⟨_, rfl, r1 (by omega)⟩
  · refine WP_ifeq rfl rfl ⟨by decide, by decide⟩  (fun h3 => ?_) (fun h3 => absurd (by decide) h3)
    obtain ⟨T, rfl⟩ : ∃ T : Nat, t = (T : Int) := ⟨t.toNat, by omega⟩
    have htm := hI.2.2.2.1 T (by omega)
    unfold cTm at htm
    obtain ⟨told, htold⟩ : ∃ told : Nat, A (20 + T) 7 = (told : Int) := ⟨(A (20 + T) 7).toNat, by omega⟩
    refine WP_n 1 rfl ?_
    refine WP2_getf rfl rfl rfl rfl rfl ?_
    refine WP_n 1 rfl ?_
    refine WP2_callV 1 ok_M_C_mostComing rfl rfl rfl rfl rfl rfl (Nat.le_of_ble_eq_true rfl) (Nat.le_of_ble_eq_true rfl) rfl rfl ?_
    refine sp_mostComing hI (by omega) htold ?_
    exact WP_iret rfl rfl rfl ⟨_, rfl, ok T told (by omega)⟩
theorem sp_G_desks {P : PP} {d n : Nat} {FI A L : Nat → Nat → Int} {X : SX} {Q : Option AV → S2 → Prop} {t : Int} (ht : inR t) (hI : mI n FI A) (r1 : ((t < 0 ∨ FI 165 0 ≤ t)) → Q (some (vi (-1))) (FI, rfG A 1, L, X)) (ok : ∀ T told : Nat, (t = (T : Int) ∧ (T : Int) < FI 165 0 ∧ A 176 T = (told : Int)) → Q (some (vi (maxN (fun d => come (fun p => A 182 (20 * T + p)) d told) 5))) (FI, A, L, X)) : WP2 P M_G_desks (d + 2) 0 [some (vr 165), some (vi t), none, none, none, none] [] (FI, A, L, X) Q := by
  obtain ⟨lt, ut⟩ := id ht
  have hcc := hI.2.1
  refine WP_n 2 rfl ?_
  refine WP2_callV 1 ok_M_G_isTeam rfl rfl rfl rfl rfl rfl (Nat.le_of_ble_eq_true rfl) (Nat.le_of_ble_eq_true rfl) rfl rfl ?_
  refine sp_isTeam ht ⟨by omega, by omega⟩ (fun hTt => ?_) (fun hTt hTtb => ?_)
  · refine WP_ifne rfl rfl ⟨by decide, by decide⟩  (fun h3 => absurd h3 (by decide)) (fun h3 => ?_)
    refine WP_n 2 rfl ?_
    refine WP2_callV 1 ok_M_G_no rfl rfl rfl rfl rfl rfl (Nat.le_of_ble_eq_true rfl) (Nat.le_of_ble_eq_true rfl) rfl rfl ?_
    refine sp_no (k := 1) rfl (by omega) ?_
    exact WP_iret rfl rfl rfl ⟨_, rfl, r1 (by omega)⟩
  · refine WP_ifne rfl rfl ⟨by decide, by decide⟩  (fun h3 => ?_) (fun h3 => absurd (by decide) h3)
    obtain ⟨T, rfl⟩ : ∃ T : Nat, t = (T : Int) := ⟨t.toNat, by omega⟩
    have hT : T < 16 := by omega
    have htm := hI.2.2.2.2.1 T hT
    unfold mTm at htm
    obtain ⟨told, htold⟩ : ∃ told : Nat, A 176 T = (told : Int) := ⟨(A 176 T).toNat, by omega⟩
    have ok := fun T' q => ok T' told q
    refine WP_n 4 rfl ?_
    refine up_to (P := fun d9 => WP2 P M_G_desks (d + 2) 12 [some (vr 165), some (vi (T : Int)), some (vi (maxN (fun d => come (fun p => A 182 (20 * T + p)) d told) d9)), some (vi (d9 : Int)), none, none] [] (FI, A, L, X) Q) 5 ?_ ?_ 0 (by omega)
    · have hmb := maxN_bd (f := fun d => come (fun p => A 182 (20 * T + p)) d told) (hi := 20) (by omega) 5 (fun k _ => by have := come_bd (g := (fun p => A 182 (20 * T + p))) (d := k) told; show come (fun p => A 182 (20 * T + p)) k told ≤ 20; omega)
      refine WP_n 2 rfl ?_
      refine WP_icmpge rfl rfl ⟨by omega, by omega⟩ ⟨by omega, by omega⟩ (fun h14 => ?_) (fun h14 => absurd h14 (by omega))
      refine WP_n 1 rfl ?_
      exact WP_iret rfl rfl rfl ⟨_, rfl, ok T (by omega)⟩
    · intro d9 hd ih
      refine WP_n 2 rfl ?_
      refine WP_icmpge rfl rfl ⟨by omega, by omega⟩ ⟨by omega, by omega⟩ (fun h14 => absurd h14 (by omega)) (fun h14 => ?_)
      refine WP_n 4 rfl ?_
      have hmb := maxN_bd (f := fun d => come (fun p => A 182 (20 * T + p)) d told) (hi := 20) (by omega) d9 (fun k _ => by have := come_bd (g := (fun p => A 182 (20 * T + p))) (d := k) told; show come (fun p => A 182 (20 * T + p)) k told ≤ 20; omega)
      refine up_to (P := fun p => WP2 P M_G_desks (d + 2) 19 [some (vr 165), some (vi (T : Int)), some (vi (maxN (fun d => come (fun p => A 182 (20 * T + p)) d told) d9)), some (vi (d9 : Int)), some (vi (come (fun p => A 182 (20 * T + p)) d9 p)), some (vi (p : Int))] [] (FI, A, L, X) Q) told ?_ ?_ 0 (by omega)
      · have hcb := come_bd (g := (fun p => A 182 (20 * T + p))) (d := d9) told
        refine WP_n 2 rfl ?_
        refine WP2_getf rfl rfl rfl rfl rfl ?_
        refine WP_n 1 rfl ?_
        refine WP2_iald (j := T) rfl rfl (ia_lit (n := 16) rfl rfl (by omega)) (by omega) (by omega) (by omega) ?_
        refine WP_icmpge rfl rfl ⟨by omega, by omega⟩ ⟨by omega, by omega⟩ (fun h24 => ?_) (fun h24 => absurd h24 (by omega))
        refine WP_n 2 rfl ?_
        refine WP_icmple rfl rfl ⟨by omega, by omega⟩ ⟨by omega, by omega⟩ (fun h43 => ?_) (fun h43 => ?_)
        · refine WP_n 2 rfl ?_
          exact WP2_kill 4 (WP2_kill 5 (by rw [show maxN (fun d => come (fun p => A 182 (20 * T + p)) d told) (d9 + 1) = maxN (fun d => come (fun p => A 182 (20 * T + p)) d told) d9 from if_neg (show ¬ maxN (fun d => come (fun p => A 182 (20 * T + p)) d told) d9 < come (fun p => A 182 (20 * T + p)) d9 told by omega)] at ih; exact ih))
        · refine WP_n 4 rfl ?_
          exact WP2_kill 4 (WP2_kill 5 (by rw [show maxN (fun d => come (fun p => A 182 (20 * T + p)) d told) (d9 + 1) = come (fun p => A 182 (20 * T + p)) d9 told from if_pos (show maxN (fun d => come (fun p => A 182 (20 * T + p)) d told) d9 < come (fun p => A 182 (20 * T + p)) d9 told by omega)] at ih; exact ih))
      · intro p hp ihp
        have hcb := come_bd (g := (fun p => A 182 (20 * T + p))) (d := d9) p
        have hpp := hI.2.2.2.2.2.2.1 (20 * T + p) (by omega)
        unfold mPp at hpp
        obtain ⟨s, hs⟩ : ∃ s : Nat, A 182 (20 * T + p) = (s : Int) := ⟨(A 182 (20 * T + p)).toNat, by omega⟩
        rw [come_s (g := (fun p => A 182 (20 * T + p))) (s := s) hs] at ihp
        refine WP_n 2 rfl ?_
        refine WP2_getf rfl rfl rfl rfl rfl ?_
        refine WP_n 1 rfl ?_
        refine WP2_iald (j := T) rfl rfl (ia_lit (n := 16) rfl rfl (by omega)) (by omega) (by omega) (by omega) ?_
        refine WP_icmpge rfl rfl ⟨by omega, by omega⟩ ⟨by omega, by omega⟩ (fun h24 => absurd h24 (by omega)) (fun h24 => ?_)
        refine WP_n 1 rfl ?_
        refine WP2_getf rfl rfl rfl rfl rfl ?_
        refine WP_n 5 rfl ?_
        refine WP2_iald (j := ((20 * T) + p)) rfl rfl (ia_lit (n := 320) rfl rfl (by omega)) (by omega) (by omega) (by omega) ?_
        refine WP_n 4 rfl ?_
        rw [hs, iBit (by omega) (by omega)]
        have hbl := bitN_le s d9
        refine WP_ifne rfl rfl ⟨by omega, by omega⟩ (fun h37 => ?_) (fun h37 => ?_)
        · refine WP_n 2 rfl ?_
          rw [show (bitN s d9 : Int) = 1 by omega] at ihp
          rw [show come (fun p => A 182 (20 * T + p)) d9 p + (1 - 1) = come (fun p => A 182 (20 * T + p)) d9 p by omega] at ihp
          exact ihp
        · refine WP_n 3 rfl ?_
          rw [show (bitN s d9 : Int) = 0 by omega] at ihp
          exact ihp
theorem pr_desks {P : PP} {n : Nat} {FI A L : Nat → Nat → Int} {X : SX} (h : INV P n FI A X) (hn : n < 512) {t : Int} (ht : inR t) : PAIR P n (FI, A, L, X) M_F_desks [some (vr 5), some (vi t)] M_G_desks [some (vr 165), some (vi t), none, none, none, none] := by
  intro d
  have hm := h.mI
  have hn5 := h.1
  have hcI := h.2.1
  have hk1 := hcI.1
  have g1 := h.2.2.1.1
  obtain ⟨lt, ut⟩ := id ht
  refine sp_F_desks ht hcI hn5 (fun c1 => ?_) (fun T told c1 => ?_)
  · refine ⟨_, rfl, ?_⟩
    refine sp_G_desks ht (hm.up (by omega)) (fun c2 => ?_) (fun T' told' c2 => ?_)
    · exact ⟨rfl, INV_ref h hn (by omega)⟩
    · exfalso; omega
  · refine ⟨_, rfl, ?_⟩
    refine sp_G_desks ht hm (fun c2 => ?_) (fun T' told' c2 => ?_)
    · exfalso; omega
    · obtain rfl : T = T' := by omega
      have hp := (h.2.2.1.2.2.2.1 T (by omega)).2.1
      obtain rfl : told = told' := by omega
      have htm := hcI.2.2.2.1 T (by omega)
      unfold cTm at htm
      refine ⟨congrArg (fun z => some (vi z)) (maxN_congr 5 (fun d9 _ => sumN_congr told (fun p hp => ?_))), h.next hn⟩
      show 1 - (bitN (A 182 (20 * T + p)).toNat d9 : Int) = 1 - (bitN (A (88 + T) p).toNat d9 : Int)
      rw [(h.2.2.1.2.2.2.2.2.1 T p (by omega) (by omega)).1]
end
section
/-! bill, both sides -/
theorem cmpI_R (x y : Int) : inR (cmpI x y) := by
  unfold cmpI inR
  split
  · omega
  · split <;> omega
theorem cmpI_gt {x y : Int} : cmpI x y > 0 ↔ y < x := by
  unfold cmpI
  split
  · omega
  · split <;> omega
theorem cmpI_eq {x y : Int} : cmpI x y = 0 ↔ x = y := by
  unfold cmpI
  split
  · omega
  · split <;> omega
theorem sumN_ge {f : Nat → Int} {T : Nat} : ∀ c, (∀ t, t < c → 0 ≤ f t) → T < c → f T ≤ sumN f c
  | 0, _, h => absurd h (by omega)
  | c + 1, h0, h => by
    show f T ≤ sumN f c + f c
    have hc := h0 c (by omega)
    by_cases e : T = c
    · subst e
      have := sumN_bd (f := f) (lo := 0) (hi := sumN f T) 0 (fun k hk => absurd hk (by omega))
      have hs : 0 ≤ sumN f T := by
        have z : ∀ n, (∀ t, t < n → 0 ≤ f t) → 0 ≤ sumN f n := by
          intro n
          induction n with
          | zero => intro _; exact Int.le_refl 0
          | succ n ih => intro hz; have := ih (fun t ht => hz t (by omega)); have := hz n (by omega); show 0 ≤ sumN f n + f n; omega
        exact z T (fun t ht => h0 t (by omega))
      omega
    · have := sumN_ge (f := f) (T := T) c (fun t ht => h0 t (by omega)) (by omega)
      omega
def bAll (pl sz : Nat → Int) (F : Int) (c : Nat) : Int := sumN (fun t => if pl t = F then sz t else 0) c
def bCo (pl sz : Nat → Int) (F pr al : Int) (k : Nat) : Int := sumN (fun u => if pl u = F then pr * sz u / al else 0) k
def bAh (pl sz : Nat → Int) (F pr al : Int) (T k : Nat) : Int := sumN (fun u => if pl u = F ∧ (pr * sz T % al < pr * sz u % al ∨ (pr * sz u % al = pr * sz T % al ∧ u < T)) then 1 else 0) k
def BLv (pl sz : Nat → Int) (F pr al : Int) (c T : Nat) : Int := pr * sz T / al + (if bAh pl sz F pr al T c < pr - bCo pl sz F pr al c then 1 else 0)
theorem bAll_bd {pl sz : Nat → Int} {F : Int} {c T : Nat} (hz : ∀ t, t < c → 1 ≤ sz t ∧ sz t ≤ 60) (hT : T < c) (hF : pl T = F) (hc : c ≤ 16) : 1 ≤ bAll pl sz F c ∧ bAll pl sz F c ≤ 960 := by
  unfold bAll
  have h1 := sumN_ge (f := fun t => if pl t = F then sz t else 0) (T := T) c (fun t ht => by have := hz t ht; split <;> omega) hT
  have h2 := sumN_bd (f := fun t => if pl t = F then sz t else 0) (lo := 0) (hi := 60) c (fun t ht => by have := hz t ht; split <;> omega)
  rw [if_pos hF] at h1
  have := hz T hT
  omega
theorem bq_bd {pr s al : Int} (h1 : 0 ≤ pr) (h2 : pr ≤ 299700) (h3 : 0 ≤ s) (h4 : s ≤ 60) (h5 : 1 ≤ al) : (0 ≤ pr * s ∧ pr * s ≤ 17982000) ∧ (0 ≤ pr * s / al ∧ pr * s / al ≤ 17982000) ∧ (0 ≤ pr * s % al ∧ pr * s % al < al) := by
  have m := mulB h1 h2 h3 h4
  have a1 := Int.ediv_nonneg m.1 (by omega : 0 ≤ al)
  have a2 := Int.ediv_le_self al m.1
  have a3 := Int.emod_nonneg (pr * s) (by omega : al ≠ 0)
  have a4 := Int.emod_lt_of_pos (pr * s) (by omega : 0 < al)
  omega
theorem bCo_bd {pl sz : Nat → Int} {F pr al : Int} (h1 : 0 ≤ pr) (h2 : pr ≤ 299700) (h5 : 1 ≤ al) (k : Nat) (hk : k ≤ 16) (hz : ∀ t, t < k → 1 ≤ sz t ∧ sz t ≤ 60) : 0 ≤ bCo pl sz F pr al k ∧ bCo pl sz F pr al k ≤ 287712000 := by
  unfold bCo
  have h := sumN_bd (f := fun u => if pl u = F then pr * sz u / al else 0) (lo := 0) (hi := 17982000) k (fun t ht => by
    have := hz t ht
    have := bq_bd h1 h2 (by omega : 0 ≤ sz t) (by omega) h5
    split <;> omega)
  omega
theorem bAh_bd {pl sz : Nat → Int} {F pr al : Int} {T : Nat} (k : Nat) (hk : k ≤ 16) : 0 ≤ bAh pl sz F pr al T k ∧ bAh pl sz F pr al T k ≤ 16 := by
  unfold bAh
  have h := sumN_bd (f := fun u => if pl u = F ∧ (pr * sz T % al < pr * sz u % al ∨ (pr * sz u % al = pr * sz T % al ∧ u < T)) then (1 : Int) else 0) (lo := 0) (hi := 1) k (fun t ht => by split <;> omega)
  omega
theorem bCo_T {pl sz : Nat → Int} {F pr al : Int} {u : Nat} (h : pl u = F) : bCo pl sz F pr al (u + 1) = bCo pl sz F pr al u + pr * sz u / al := by
  show bCo pl sz F pr al u + (if _ then _ else _) = _
  rw [if_pos h]
theorem bCo_F {pl sz : Nat → Int} {F pr al : Int} {u : Nat} (h : ¬ pl u = F) : bCo pl sz F pr al (u + 1) = bCo pl sz F pr al u := by
  show bCo pl sz F pr al u + (if _ then _ else _) = _
  rw [if_neg h]
  omega
theorem bAh_T {pl sz : Nat → Int} {F pr al : Int} {T u : Nat} (h : pl u = F ∧ (pr * sz T % al < pr * sz u % al ∨ (pr * sz u % al = pr * sz T % al ∧ u < T))) : bAh pl sz F pr al T (u + 1) = bAh pl sz F pr al T u + 1 := by
  show bAh pl sz F pr al T u + (if _ then _ else _) = _
  rw [if_pos h]
theorem bAh_F {pl sz : Nat → Int} {F pr al : Int} {T u : Nat} (h : ¬ (pl u = F ∧ (pr * sz T % al < pr * sz u % al ∨ (pr * sz u % al = pr * sz T % al ∧ u < T)))) : bAh pl sz F pr al T (u + 1) = bAh pl sz F pr al T u := by
  show bAh pl sz F pr al T u + (if _ then _ else _) = _
  rw [if_neg h]
  omega
theorem BLv_congr {pl sz pl' sz' : Nat → Int} {F pr al : Int} {c T : Nat} (hT : T < c) (h : ∀ t, t < c → pl t = pl' t ∧ sz t = sz' t) : BLv pl sz F pr al c T = BLv pl' sz' F pr al c T := by
  unfold BLv
  have e1 : bCo pl sz F pr al c = bCo pl' sz' F pr al c := sumN_congr c (fun t ht => by rw [(h t ht).1, (h t ht).2])
  have e2 : bAh pl sz F pr al T c = bAh pl' sz' F pr al T c := sumN_congr c (fun t ht => by rw [(h t ht).1, (h t ht).2, (h T hT).2])
  rw [e1, e2, (h T hT).2]
theorem sp_shareOf {P : PP} {d n c : Nat} {FI A L : Nat → Nat → Int} {X : SX} {Q : Option AV → S2 → Prop} (hI : cI n FI A) (hc : FI 6 8 = (c : Int)) {T F : Nat} (hT : T < c) (hF : F < 11) (hpl : A (20 + T) 4 = (F : Int)) (hq : Q (some (vi (BLv (fun t => A (20 + t) 4) (fun t => A (20 + t) 0) (F : Int) (A (8 + F) 0 * A (8 + F) 2) (bAll (fun t => A (20 + t) 4) (fun t => A (20 + t) 0) (F : Int) c) c T))) (FI, A, L, X)) : WP2 P M_H_shareOf (d + 2) 0 [some (vr 6), some (vi (T : Int)), none, none, none, none, none, none, none, none] [] (FI, A, L, X) Q := by
  have hcc := hI.1
  have hsz : ∀ t, t < c → 1 ≤ (fun t => A (20 + t) 0) t ∧ (fun t => A (20 + t) 0) t ≤ 60 := fun t ht => by
    have q := hI.2.2.2.1 t (by omega)
    unfold cTm at q
    show 1 ≤ A (20 + t) 0 ∧ A (20 + t) 0 ≤ 60
    omega
  have hal1 := bAll_bd (pl := (fun t => A (20 + t) 4)) (sz := (fun t => A (20 + t) 0)) (F := (F : Int)) hsz hT hpl (by omega)
  have hfl := hI.2.2.1 F hF
  unfold cFl at hfl
  have hpr := mulB (x := A (8 + F) 0) (y := A (8 + F) 2) (a := 300) (b := 999) (by omega) (by omega) (by omega) (by omega)
  have hqT := hI.2.2.2.1 T (by omega)
  unfold cTm at hqT
  refine WP_n 1 rfl ?_
  refine WP2_getf rfl rfl rfl rfl rfl ?_
  refine WP_n 1 rfl ?_
  refine WP2_aald (b := 20) (j := T) (n := 16) rfl rfl rfl rfl rfl (by omega) (by omega) ?_
  refine WP_n 1 rfl ?_
  refine WP2_iald (j := 4) rfl rfl (ia_tm (by omega)) (by omega) (by omega) (by omega) ?_
  rw [hpl]
  refine WP_n 1 rfl ?_
  refine WP_n 1 rfl ?_
  refine WP2_getf rfl rfl rfl rfl rfl ?_
  refine WP_n 1 rfl ?_
  refine WP2_aald (b := 8) (j := F) (n := 11) rfl rfl rfl rfl rfl (by omega) (by omega) ?_
  refine WP_n 1 rfl ?_
  refine WP2_iald (j := 0) rfl rfl (ia_fl (by omega)) (by omega) (by omega) (by omega) ?_
  refine WP_n 1 rfl ?_
  refine WP2_getf rfl rfl rfl rfl rfl ?_
  refine WP_n 1 rfl ?_
  refine WP2_aald (b := 8) (j := F) (n := 11) rfl rfl rfl rfl rfl (by omega) (by omega) ?_
  refine WP_n 1 rfl ?_
  refine WP2_iald (j := 2) rfl rfl (ia_fl (by omega)) (by omega) (by omega) (by omega) ?_
  refine WP_n 3 rfl ?_
  refine WP2_getf rfl rfl rfl rfl rfl ?_
  refine WP_n 1 rfl ?_
  refine WP2_aald (b := 8) (j := F) (n := 11) rfl rfl rfl rfl rfl (by omega) (by omega) ?_
  refine WP_n 1 rfl ?_
  refine WP2_iald (j := 0) rfl rfl (ia_fl (by omega)) (by omega) (by omega) (by omega) ?_
  refine WP_n 3 rfl ?_
  refine WP2_callV 2 ok_M_H_freeSeats rfl rfl rfl rfl rfl rfl (Nat.le_of_ble_eq_true rfl) (Nat.le_of_ble_eq_true rfl) rfl rfl ?_
  refine sp_freeSeats hI hc (F := F) (s := 0) (by omega) (by omega) ?_
  have hal : A (8 + F) 0 - (A (8 + F) 0 - sumN (fun t => if A (20 + t) 4 = (F : Int) ∧ (0 : Nat).testBit t = false then A (20 + t) 0 else 0) c) = bAll (fun t => A (20 + t) 4) (fun t => A (20 + t) 0) (F : Int) c := by
    rw [show sumN (fun t => if A (20 + t) 4 = (F : Int) ∧ (0 : Nat).testBit t = false then A (20 + t) 0 else 0) c = bAll (fun t => A (20 + t) 4) (fun t => A (20 + t) 0) (F : Int) c from sumN_congr c (fun t ht => by
      by_cases e : A (20 + t) 4 = (F : Int)
      · rw [if_pos e, if_pos ⟨e, by simp⟩]
      · rw [if_neg e, if_neg (fun q => e q.1)])]
    omega
  refine WP_n 1 rfl ?_
  rw [hal]
  clear hal
  generalize bAll (fun t => A (20 + t) 4) (fun t => A (20 + t) 0) (F : Int) c = al at hal1 hq ⊢
  generalize (A (8 + F) 0 * A (8 + F) 2) = pr at hpr hq ⊢
  have hbT := bq_bd (pr := pr) (s := A (20 + T) 0) (al := al) (by omega) (by omega) (by omega) (by omega) (by omega)
  refine WP_n 3 rfl ?_
  refine WP_icmpge rfl rfl ⟨by omega, by omega⟩ ⟨by omega, by omega⟩ (fun h35 => ?_) (fun h35 => absurd h35 (by omega))
  refine WP_n 2 rfl ?_
  refine WP2_getf rfl rfl rfl rfl rfl ?_
  refine WP_n 1 rfl ?_
  refine WP2_aald (b := 20) (j := T) (n := 16) rfl rfl rfl rfl rfl (by omega) (by omega) ?_
  refine WP_n 1 rfl ?_
  refine WP2_iald (j := 0) rfl rfl (ia_tm (by omega)) (by omega) (by omega) (by omega) ?_
  refine WP_n 2 rfl ?_
  refine WP_irem rfl (by omega) (by omega) (by omega) (by omega) rfl ?_
  refine WP_n 7 rfl ?_
  have key : WP2 P M_H_shareOf (d + 2) 55 [some (vr 6), some (vi (T : Int)), some (vi (F : Int)), some (vi pr), some (vi al), some (vi (pr * A (20 + T) 0 % al)), some (vi (pr - bCo (fun t => A (20 + t) 4) (fun t => A (20 + t) 0) (F : Int) pr al 0)), some (vi (bAh (fun t => A (20 + t) 4) (fun t => A (20 + t) 0) (F : Int) pr al T 0)), some (vi ((0 : Nat) : Int)), none] [] (FI, A, L, X) Q := by
    refine up_to (P := fun u => WP2 P M_H_shareOf (d + 2) 55 [some (vr 6), some (vi (T : Int)), some (vi (F : Int)), some (vi pr), some (vi al), some (vi (pr * A (20 + T) 0 % al)), some (vi (pr - bCo (fun t => A (20 + t) 4) (fun t => A (20 + t) 0) (F : Int) pr al u)), some (vi (bAh (fun t => A (20 + t) 4) (fun t => A (20 + t) 0) (F : Int) pr al T u)), some (vi (u : Int)), none] [] (FI, A, L, X) Q) c ?_ ?_ 0 (by omega)
    · have hcu := bCo_bd (pl := (fun t => A (20 + t) 4)) (sz := (fun t => A (20 + t) 0)) (F := (F : Int)) (pr := pr) (al := al) (by omega) (by omega) (by omega) c (by omega) (fun t ht => hsz t (by omega))
      have hau := bAh_bd (pl := (fun t => A (20 + t) 4)) (sz := (fun t => A (20 + t) 0)) (F := (F : Int)) (pr := pr) (al := al) (T := T) c (by omega)
      refine WP_n 2 rfl ?_
      refine WP2_getf rfl rfl rfl rfl rfl ?_
      refine WP_icmpge rfl rfl ⟨by omega, by omega⟩ ⟨by omega, by omega⟩ (fun h58 => ?_) (fun h58 => absurd h58 (by omega))
      refine WP_n 2 rfl ?_
      refine WP2_getf rfl rfl rfl rfl rfl ?_
      refine WP_n 1 rfl ?_
      refine WP2_aald (b := 20) (j := T) (n := 16) rfl rfl rfl rfl rfl (by omega) (by omega) ?_
      refine WP_n 1 rfl ?_
      refine WP2_iald (j := 0) rfl rfl (ia_tm (by omega)) (by omega) (by omega) (by omega) ?_
      refine WP_n 2 rfl ?_
      refine WP_idiv rfl (by omega) (by omega) (by omega) (by omega) rfl ?_
      refine WP_n 2 rfl ?_
      refine WP_icmpge rfl rfl ⟨by omega, by omega⟩ ⟨by omega, by omega⟩ (fun h120 => ?_) (fun h120 => ?_)
      · refine WP_n 2 rfl ?_
        exact WP_iret rfl rfl rfl ⟨_, rfl, (by
          unfold BLv at hq
          rw [if_neg (by omega)] at hq
          exact hq)⟩
      · refine WP_n 3 rfl ?_
        exact WP_iret rfl rfl rfl ⟨_, rfl, (by
          unfold BLv at hq
          rw [if_pos (by omega)] at hq
          exact hq)⟩
    · intro u hu ih
      have hqu := hI.2.2.2.1 u (by omega)
      unfold cTm at hqu
      have hbu := bq_bd (pr := pr) (s := A (20 + u) 0) (al := al) (by omega) (by omega) (by omega) (by omega) (by omega)
      have hcu := bCo_bd (pl := (fun t => A (20 + t) 4)) (sz := (fun t => A (20 + t) 0)) (F := (F : Int)) (pr := pr) (al := al) (by omega) (by omega) (by omega) u (by omega) (fun t ht => hsz t (by omega))
      have hau := bAh_bd (pl := (fun t => A (20 + t) 4)) (sz := (fun t => A (20 + t) 0)) (F := (F : Int)) (pr := pr) (al := al) (T := T) u (by omega)
      refine WP_n 2 rfl ?_
      refine WP2_getf rfl rfl rfl rfl rfl ?_
      refine WP_icmpge rfl rfl ⟨by omega, by omega⟩ ⟨by omega, by omega⟩ (fun h58 => absurd h58 (by omega)) (fun h58 => ?_)
      refine WP_n 1 rfl ?_
      refine WP2_getf rfl rfl rfl rfl rfl ?_
      refine WP_n 1 rfl ?_
      refine WP2_aald (b := 20) (j := u) (n := 16) rfl rfl rfl rfl rfl (by omega) (by omega) ?_
      refine WP_n 1 rfl ?_
      refine WP2_iald (j := 4) rfl rfl (ia_tm (by omega)) (by omega) (by omega) (by omega) ?_
      refine WP_n 1 rfl ?_
      refine WP_icmpne rfl rfl ⟨by omega, by omega⟩ ⟨by omega, by omega⟩ (fun h66 => ?_) (fun h66 => ?_)
      · refine WP_n 2 rfl ?_
        rw [bCo_F (pl := (fun t => A (20 + t) 4)) h66, bAh_F (pl := (fun t => A (20 + t) 4)) (fun q => h66 q.1)] at ih
        exact WP2_kill 9 ih
      · refine WP_n 3 rfl ?_
        refine WP2_getf rfl rfl rfl rfl rfl ?_
        refine WP_n 1 rfl ?_
        refine WP2_aald (b := 20) (j := u) (n := 16) rfl rfl rfl rfl rfl (by omega) (by omega) ?_
        refine WP_n 1 rfl ?_
        refine WP2_iald (j := 0) rfl rfl (ia_tm (by omega)) (by omega) (by omega) (by omega) ?_
        refine WP_n 2 rfl ?_
        refine WP_idiv rfl (by omega) (by omega) (by omega) (by omega) rfl ?_
        refine WP_n 4 rfl ?_
        refine WP2_getf rfl rfl rfl rfl rfl ?_
        refine WP_n 1 rfl ?_
        refine WP2_aald (b := 20) (j := u) (n := 16) rfl rfl rfl rfl rfl (by omega) (by omega) ?_
        refine WP_n 1 rfl ?_
        refine WP2_iald (j := 0) rfl rfl (ia_tm (by omega)) (by omega) (by omega) (by omega) ?_
        refine WP_n 2 rfl ?_
        refine WP_irem rfl (by omega) (by omega) (by omega) (by omega) rfl ?_
        refine WP_n 4 rfl ?_
        refine WP_icmpgt rfl rfl ⟨by omega, by omega⟩ ⟨by omega, by omega⟩ (fun h94 => ?_) (fun h94 => ?_)
        · refine WP_n 6 rfl ?_
          rw [bCo_T (pl := (fun t => A (20 + t) 4)) (show A (20 + u) 4 = (F : Int) by omega), bAh_T (pl := (fun t => A (20 + t) 4)) (sz := (fun t => A (20 + t) 0)) ⟨show A (20 + u) 4 = (F : Int) by omega, Or.inl (show pr * A (20 + T) 0 % al < pr * A (20 + u) 0 % al by omega)⟩, ← Int.sub_sub] at ih
          exact WP2_kill 9 ih
        · refine WP_n 2 rfl ?_
          refine WP_icmpne rfl rfl ⟨by omega, by omega⟩ ⟨by omega, by omega⟩ (fun h97 => ?_) (fun h97 => ?_)
          · refine WP_n 5 rfl ?_
            rw [bCo_T (pl := (fun t => A (20 + t) 4)) (show A (20 + u) 4 = (F : Int) by omega), bAh_F (pl := (fun t => A (20 + t) 4)) (sz := (fun t => A (20 + t) 0)) (fun q => by have q2 : pr * A (20 + T) 0 % al < pr * A (20 + u) 0 % al ∨ (pr * A (20 + u) 0 % al = pr * A (20 + T) 0 % al ∧ u < T) := q.2; omega), ← Int.sub_sub] at ih
            rw [show bAh (fun t => A (20 + t) 4) (fun t => A (20 + t) 0) (F : Int) pr al T u = bAh (fun t => A (20 + t) 4) (fun t => A (20 + t) 0) (F : Int) pr al T u + 0 by omega] at ih
            exact WP2_kill 9 ih
          · refine WP_n 2 rfl ?_
            refine WP_icmpge rfl rfl ⟨by omega, by omega⟩ ⟨by omega, by omega⟩ (fun h100 => ?_) (fun h100 => ?_)
            · refine WP_n 5 rfl ?_
              rw [bCo_T (pl := (fun t => A (20 + t) 4)) (show A (20 + u) 4 = (F : Int) by omega), bAh_F (pl := (fun t => A (20 + t) 4)) (sz := (fun t => A (20 + t) 0)) (fun q => by have q2 : pr * A (20 + T) 0 % al < pr * A (20 + u) 0 % al ∨ (pr * A (20 + u) 0 % al = pr * A (20 + T) 0 % al ∧ u < T) := q.2; omega), ← Int.sub_sub] at ih
              rw [show bAh (fun t => A (20 + t) 4) (fun t => A (20 + t) 0) (F : Int) pr al T u = bAh (fun t => A (20 + t) 4) (fun t => A (20 + t) 0) (F : Int) pr al T u + 0 by omega] at ih
              exact WP2_kill 9 ih
            · refine WP_n 6 rfl ?_
              rw [bCo_T (pl := (fun t => A (20 + t) 4)) (show A (20 + u) 4 = (F : Int) by omega), bAh_T (pl := (fun t => A (20 + t) 4)) (sz := (fun t => A (20 + t) 0)) ⟨show A (20 + u) 4 = (F : Int) by omega, Or.inr (show pr * A (20 + u) 0 % al = pr * A (20 + T) 0 % al ∧ u < T by omega)⟩, ← Int.sub_sub] at ih
              exact WP2_kill 9 ih
  rw [show pr - bCo (fun t => A (20 + t) 4) (fun t => A (20 + t) 0) (F : Int) pr al 0 = pr from Int.sub_zero pr] at key
  exact key
theorem sp_F_bill {P : PP} {d n c : Nat} {FI A L : Nat → Nat → Int} {X : SX} {Q : Option AV → S2 → Prop} (hI : cI n FI A) (hc : FI 6 8 = (c : Int)) {t : Int} (ht : inR t) (r1 : (t < 0 ∨ (c : Int) ≤ t) → Q (some (vi (-1))) (FI, rfC A 1, L, X)) (r0 : ∀ T : Nat, t = (T : Int) ∧ T < c ∧ A (20 + T) 4 = -9 → Q (some (vi 0)) (FI, A, L, X)) (ok : ∀ T F : Nat, t = (T : Int) ∧ T < c ∧ A (20 + T) 4 = (F : Int) ∧ F < 11 → Q (some (vi (BLv (fun t => A (20 + t) 4) (fun t => A (20 + t) 0) (F : Int) (A (8 + F) 0 * A (8 + F) 2) (bAll (fun t => A (20 + t) 4) (fun t => A (20 + t) 0) (F : Int) c) c T))) (FI, A, L, X)) : WP2 P M_F_bill (d + 3) 0 [some (vr 5), some (vi t)] [] (FI, A, L, X) Q := by
  have hcc := hI.1
  refine WP_n 2 rfl ?_
  refine WP2_callV 1 ok_M_F_noTeam rfl rfl rfl rfl rfl rfl (Nat.le_of_ble_eq_true rfl) (Nat.le_of_ble_eq_true rfl) rfl rfl ?_
  refine sp_noTeam ht ⟨by omega, by omega⟩ (fun hTt => ?_) (fun hTt hTtb => ?_)
  · refine WP_ifeq rfl rfl ⟨by decide, by decide⟩  (fun h3 => absurd h3 (by decide)) (fun h3 => ?_)
    refine WP_n 2 rfl ?_
    refine WP2_callV 1 ok_M_F_refuse rfl rfl rfl rfl rfl rfl (Nat.le_of_ble_eq_true rfl) (Nat.le_of_ble_eq_true rfl) rfl rfl ?_
    refine sp_refuse (k := 1) rfl (by omega) ?_
    exact WP_iret rfl rfl rfl ⟨_, rfl, r1 (by omega)⟩
  · refine WP_ifeq rfl rfl ⟨by decide, by decide⟩  (fun h3 => ?_) (fun h3 => absurd (by decide) h3)
    obtain ⟨T, rfl⟩ : ∃ T : Nat, t = (T : Int) := ⟨t.toNat, by omega⟩
    have hqT := hI.2.2.2.1 T (by omega)
    unfold cTm at hqT
    refine WP_n 1 rfl ?_
    refine WP2_getf rfl rfl rfl rfl rfl ?_
    refine WP2_getf rfl rfl rfl rfl rfl ?_
    refine WP_n 1 rfl ?_
    refine WP2_aald (b := 20) (j := T) (n := 16) rfl rfl rfl rfl rfl (by omega) (by omega) ?_
    refine WP_n 1 rfl ?_
    refine WP2_iald (j := 4) rfl rfl (ia_tm (by omega)) (by omega) (by omega) (by omega) ?_
    refine WP_n 1 rfl ?_
    refine WP_icmpne rfl rfl ⟨by omega, by omega⟩ ⟨by omega, by omega⟩ (fun h16 => ?_) (fun h16 => ?_)
    · obtain ⟨F, hF⟩ : ∃ F : Nat, A (20 + T) 4 = (F : Int) := ⟨(A (20 + T) 4).toNat, by omega⟩
      refine WP_n 1 rfl ?_
      refine WP2_getf rfl rfl rfl rfl rfl ?_
      refine WP_n 1 rfl ?_
      refine WP2_callV 1 ok_M_H_shareOf rfl rfl rfl rfl rfl rfl (Nat.le_of_ble_eq_true rfl) (Nat.le_of_ble_eq_true rfl) rfl rfl ?_
      refine sp_shareOf hI hc (T := T) (F := F) (by omega) (by omega) hF ?_
      exact WP_iret rfl rfl rfl ⟨_, rfl, ok T F (by omega)⟩
    · refine WP_n 2 rfl ?_
      exact WP_iret rfl rfl rfl ⟨_, rfl, r0 T (by omega)⟩
theorem sp_part {P : PP} {d : Nat} {FI A L : Nat → Nat → Int} {X : SX} {Q : Option AV → S2 → Prop} {pr al : Int} {K : Nat} (hK : K < 16) (h1 : 0 ≤ pr ∧ pr ≤ 299700) (h2 : 0 ≤ A 170 K ∧ A 170 K ≤ 60) (h3 : 1 ≤ al ∧ al ≤ 960) (hq : Q (some (vi (pr * A 170 K / al))) (FI, A, L, X)) : WP2 P M_G_part (d) 0 [some (vr 165), some (vi pr), some (vi (K : Int)), some (vi al)] [] (FI, A, L, X) Q := by
  have hb := bq_bd (pr := pr) (s := A 170 K) (al := al) (by omega) (by omega) (by omega) (by omega) (by omega)
  refine WP_n 1 rfl ?_
  refine WP_i2l rfl ⟨by omega, by omega⟩ rfl ?_
  refine WP_n 1 rfl ?_
  refine WP2_getf rfl rfl rfl rfl rfl ?_
  refine WP_n 1 rfl ?_
  refine WP2_iald (j := K) rfl rfl (ia_lit (n := 16) rfl rfl (by omega)) (by omega) (by omega) (by omega) ?_
  refine WP_i2l rfl ⟨by omega, by omega⟩ rfl ?_
  refine WP_n 2 rfl ?_
  refine WP_i2l rfl ⟨by omega, by omega⟩ rfl ?_
  refine WP_ldiv rfl (by omega) (by omega) (by omega) (by omega) rfl ?_
  refine WP_n 1 rfl ?_
  exact WP_iret rfl rfl rfl ⟨_, rfl, hq⟩
theorem sp_rest {P : PP} {d : Nat} {FI A L : Nat → Nat → Int} {X : SX} {Q : Option AV → S2 → Prop} {pr al : Int} {K : Nat} (hK : K < 16) (h1 : 0 ≤ pr ∧ pr ≤ 299700) (h2 : 0 ≤ A 170 K ∧ A 170 K ≤ 60) (h3 : 1 ≤ al ∧ al ≤ 960) (hq : Q (some (vl (pr * A 170 K % al))) (FI, A, L, X)) : WP2 P M_G_rest (d) 0 [some (vr 165), some (vi pr), some (vi (K : Int)), some (vi al)] [] (FI, A, L, X) Q := by
  have hb := bq_bd (pr := pr) (s := A 170 K) (al := al) (by omega) (by omega) (by omega) (by omega) (by omega)
  refine WP_n 1 rfl ?_
  refine WP_i2l rfl ⟨by omega, by omega⟩ rfl ?_
  refine WP_n 1 rfl ?_
  refine WP2_getf rfl rfl rfl rfl rfl ?_
  refine WP_n 1 rfl ?_
  refine WP2_iald (j := K) rfl rfl (ia_lit (n := 16) rfl rfl (by omega)) (by omega) (by omega) (by omega) ?_
  refine WP_i2l rfl ⟨by omega, by omega⟩ rfl ?_
  refine WP_n 2 rfl ?_
  refine WP_i2l rfl ⟨by omega, by omega⟩ rfl ?_
  refine WP_lrem rfl (by omega) (by omega) (by omega) (by omega) rfl ?_
  exact WP_lret rfl rfl rfl ⟨_, rfl, hq⟩
theorem sp_G_bill {P : PP} {d n c : Nat} {FI A L : Nat → Nat → Int} {X : SX} {Q : Option AV → S2 → Prop} (hI : mI n FI A) (hc : FI 165 0 = (c : Int)) {t : Int} (ht : inR t) (r1 : (t < 0 ∨ (c : Int) ≤ t) → Q (some (vi (-1))) (FI, rfG A 1, L, X)) (r0 : ∀ T : Nat, t = (T : Int) ∧ T < c ∧ A 174 T = -9 → Q (some (vi 0)) (FI, A, L, X)) (ok : ∀ T F : Nat, t = (T : Int) ∧ T < c ∧ A 174 T = (F : Int) ∧ F < 11 → Q (some (vi (BLv (A 174) (A 170) (F : Int) (A 166 F * A 168 F) (bAll (A 174) (A 170) (F : Int) c) c T))) (FI, A, L, X)) : WP2 P M_G_bill (d + 2) 0 [some (vr 165), some (vi t), none, none, none, none, none, none, none, none, none, none] [] (FI, A, L, X) Q := by
  have hcc := hI.2.1
  refine WP_n 2 rfl ?_
  refine WP2_callV 1 ok_M_G_isTeam rfl rfl rfl rfl rfl rfl (Nat.le_of_ble_eq_true rfl) (Nat.le_of_ble_eq_true rfl) rfl rfl ?_
  refine sp_isTeam ht ⟨by omega, by omega⟩ (fun hTt => ?_) (fun hTt hTtb => ?_)
  · refine WP_ifne rfl rfl ⟨by decide, by decide⟩  (fun h3 => absurd h3 (by decide)) (fun h3 => ?_)
    refine WP_n 2 rfl ?_
    refine WP2_callV 1 ok_M_G_no rfl rfl rfl rfl rfl rfl (Nat.le_of_ble_eq_true rfl) (Nat.le_of_ble_eq_true rfl) rfl rfl ?_
    refine sp_no (k := 1) rfl (by omega) ?_
    exact WP_iret rfl rfl rfl ⟨_, rfl, r1 (by omega)⟩
  · refine WP_ifne rfl rfl ⟨by decide, by decide⟩  (fun h3 => ?_) (fun h3 => absurd (by decide) h3)
    obtain ⟨T, rfl⟩ : ∃ T : Nat, t = (T : Int) := ⟨t.toNat, by omega⟩
    have hqT0 := hI.2.2.2.2.1 T (by omega)
    unfold mTm at hqT0
    refine WP_n 1 rfl ?_
    refine WP2_getf rfl rfl rfl rfl rfl ?_
    refine WP_n 1 rfl ?_
    refine WP2_iald (j := T) rfl rfl (ia_lit (n := 16) rfl rfl (by omega)) (by omega) (by omega) (by omega) ?_
    refine WP_n 3 rfl ?_
    refine WP_icmpne rfl rfl ⟨by omega, by omega⟩ ⟨by omega, by omega⟩ (fun h15 => ?_) (fun h15 => ?_)
    · obtain ⟨F, hF⟩ : ∃ F : Nat, A 174 T = (F : Int) := ⟨(A 174 T).toNat, by omega⟩
      rw [hF]
      have hsz : ∀ t, t < c → 1 ≤ (A 170) t ∧ (A 170) t ≤ 60 := fun t ht => by
        have q := hI.2.2.2.2.1 t (by omega)
        unfold mTm at q
        show 1 ≤ A 170 t ∧ A 170 t ≤ 60
        omega
      have hal1 := bAll_bd (pl := (A 174)) (sz := (A 170)) (F := (F : Int)) hsz (T := T) (by omega) hF (by omega)
      have hfl := hI.2.2.2.1 F (by omega)
      unfold mFl at hfl
      have hpr := mulB (x := A 166 F) (y := A 168 F) (a := 300) (b := 999) (by omega) (by omega) (by omega) (by omega)
      have hqT := hI.2.2.2.2.1 T (by omega)
      unfold mTm at hqT
      refine WP_n 4 rfl ?_
      have hbs : ∀ k, k ≤ c → 0 ≤ bAll (A 174) (A 170) (F : Int) k ∧ bAll (A 174) (A 170) (F : Int) k ≤ 960 := fun k hk => by
        have := sumN_bd (f := fun t => if A 174 t = (F : Int) then A 170 t else 0) (lo := 0) (hi := 60) k (fun t ht => by have := hsz t (by omega); split <;> omega)
        unfold bAll
        omega
      refine up_to (P := fun u => WP2 P M_G_bill (d + 2) 22 [some (vr 165), some (vi (T : Int)), some (vi (F : Int)), some (vi (bAll (A 174) (A 170) (F : Int) u)), some (vi (u : Int)), none, none, none, none, none, none, none] [] (FI, A, L, X) Q) c ?_ ?_ 0 (by omega)
      · refine WP_n 2 rfl ?_
        refine WP2_getf rfl rfl rfl rfl rfl ?_
        refine WP_icmpge rfl rfl ⟨by omega, by omega⟩ ⟨by omega, by omega⟩ (fun h25 => ?_) (fun h25 => absurd h25 (by omega))
        refine WP_n 1 rfl ?_
        refine WP2_getf rfl rfl rfl rfl rfl ?_
        refine WP_n 1 rfl ?_
        refine WP2_iald (j := F) rfl rfl (ia_lit (n := 11) rfl rfl (by omega)) (by omega) (by omega) (by omega) ?_
        refine WP_n 1 rfl ?_
        refine WP2_getf rfl rfl rfl rfl rfl ?_
        refine WP_n 1 rfl ?_
        refine WP2_iald (j := F) rfl rfl (ia_lit (n := 11) rfl rfl (by omega)) (by omega) (by omega) (by omega) ?_
        refine WP_n 1 rfl ?_
        have ok := ok T F (by omega)
        generalize bAll (A 174) (A 170) (F : Int) c = al at hal1 ok ⊢
        generalize (A 166 F * A 168 F) = pr at hpr ok ⊢
        have hbT := bq_bd (pr := pr) (s := A 170 T) (al := al) (by omega) (by omega) (by omega) (by omega) (by omega)
        refine WP_n 7 rfl ?_
        have key : WP2 P M_G_bill (d + 2) 57 [some (vr 165), some (vi (T : Int)), some (vi (F : Int)), some (vi al), some (vi pr), some (vi (pr - bCo (A 174) (A 170) (F : Int) pr al 0)), some (vi (bAh (A 174) (A 170) (F : Int) pr al T 0)), some (vi ((0 : Nat) : Int)), none, none, none, none] [] (FI, A, L, X) Q := by
          refine up_to (P := fun u => WP2 P M_G_bill (d + 2) 57 [some (vr 165), some (vi (T : Int)), some (vi (F : Int)), some (vi al), some (vi pr), some (vi (pr - bCo (A 174) (A 170) (F : Int) pr al u)), some (vi (bAh (A 174) (A 170) (F : Int) pr al T u)), some (vi (u : Int)), none, none, none, none] [] (FI, A, L, X) Q) c ?_ ?_ 0 (by omega)
          · have hcu := bCo_bd (pl := A 174) (sz := A 170) (F := (F : Int)) (pr := pr) (al := al) (by omega) (by omega) (by omega) c (by omega) (fun t ht => hsz t (by omega))
            have hau := bAh_bd (pl := A 174) (sz := A 170) (F := (F : Int)) (pr := pr) (al := al) (T := T) c (by omega)
            refine WP_n 2 rfl ?_
            refine WP2_getf rfl rfl rfl rfl rfl ?_
            refine WP_icmpge rfl rfl ⟨by omega, by omega⟩ ⟨by omega, by omega⟩ (fun h60 => ?_) (fun h60 => absurd h60 (by omega))
            refine WP_n 4 rfl ?_
            refine WP2_callV 3 ok_M_G_part rfl rfl rfl rfl rfl rfl (Nat.le_of_ble_eq_true rfl) (Nat.le_of_ble_eq_true rfl) rfl rfl ?_
            refine sp_part (by omega) (by omega) (by omega) (by omega) ?_
            refine WP_n 2 rfl ?_
            refine WP_icmpge rfl rfl ⟨by omega, by omega⟩ ⟨by omega, by omega⟩ (fun h109 => ?_) (fun h109 => ?_)
            · refine WP_n 2 rfl ?_
              exact WP_iret rfl rfl rfl ⟨_, rfl, (by
                unfold BLv at ok
                rw [if_neg (by omega)] at ok
                exact ok)⟩
            · refine WP_n 3 rfl ?_
              exact WP_iret rfl rfl rfl ⟨_, rfl, (by
                unfold BLv at ok
                rw [if_pos (by omega)] at ok
                exact ok)⟩
          · intro u hu ih
            have hqu := hI.2.2.2.2.1 u (by omega)
            unfold mTm at hqu
            have hbu := bq_bd (pr := pr) (s := A 170 u) (al := al) (by omega) (by omega) (by omega) (by omega) (by omega)
            have hcu := bCo_bd (pl := (A 174)) (sz := (A 170)) (F := (F : Int)) (pr := pr) (al := al) (by omega) (by omega) (by omega) u (by omega) (fun t ht => hsz t (by omega))
            have hau := bAh_bd (pl := (A 174)) (sz := (A 170)) (F := (F : Int)) (pr := pr) (al := al) (T := T) u (by omega)
            refine WP_n 2 rfl ?_
            refine WP2_getf rfl rfl rfl rfl rfl ?_
            refine WP_icmpge rfl rfl ⟨by omega, by omega⟩ ⟨by omega, by omega⟩ (fun h60 => absurd h60 (by omega)) (fun h60 => ?_)
            refine WP_n 1 rfl ?_
            refine WP2_getf rfl rfl rfl rfl rfl ?_
            refine WP_n 1 rfl ?_
            refine WP2_iald (j := u) rfl rfl (ia_lit (n := 16) rfl rfl (by omega)) (by omega) (by omega) (by omega) ?_
            refine WP_n 1 rfl ?_
            refine WP_icmpeq rfl rfl ⟨by omega, by omega⟩ ⟨by omega, by omega⟩ (fun h66 => ?_) (fun h66 => ?_)
            · refine WP_n 5 rfl ?_
              refine WP2_callV 3 ok_M_G_part rfl rfl rfl rfl rfl rfl (Nat.le_of_ble_eq_true rfl) (Nat.le_of_ble_eq_true rfl) rfl rfl ?_
              refine sp_part (by omega) (by omega) (by omega) (by omega) ?_
              refine WP_n 6 rfl ?_
              refine WP2_callV 3 ok_M_G_rest rfl rfl rfl rfl rfl rfl (Nat.le_of_ble_eq_true rfl) (Nat.le_of_ble_eq_true rfl) rfl rfl ?_
              refine sp_rest (by omega) (by omega) (by omega) (by omega) ?_
              refine WP_n 5 rfl ?_
              refine WP2_callV 3 ok_M_G_rest rfl rfl rfl rfl rfl rfl (Nat.le_of_ble_eq_true rfl) (Nat.le_of_ble_eq_true rfl) rfl rfl ?_
              refine sp_rest (by omega) (by omega) (by omega) (by omega) ?_
              refine WP_n 3 rfl ?_
              refine WP_lcmp rfl ⟨by omega, by omega⟩ ⟨by omega, by omega⟩ rfl ?_
              refine WP_ifgt rfl rfl (cmpI_R _ _) (fun h91 => ?_) (fun h91 => ?_)
              · refine WP_n 3 rfl ?_
                have q91 := cmpI_gt.mp h91
                rw [bCo_T (pl := A 174) (by omega), bAh_T (pl := A 174) (sz := A 170) ⟨by omega, Or.inl (by omega)⟩, ← Int.sub_sub] at ih
                exact WP2_kill 8 (WP2_kill 10 ih)
              · refine WP_n 2 rfl ?_
                refine WP_lcmp rfl ⟨by omega, by omega⟩ ⟨by omega, by omega⟩ rfl ?_
                refine WP_ifne rfl rfl (cmpI_R _ _) (fun h95 => ?_) (fun h95 => ?_)
                · refine WP_n 2 rfl ?_
                  have q91 : ¬ (pr * A 170 T % al < pr * A 170 u % al) := fun q => h91 (cmpI_gt.mpr q)
                  have q95 : ¬ (pr * A 170 u % al = pr * A 170 T % al) := fun q => h95 (cmpI_eq.mpr q)
                  rw [bCo_T (pl := A 174) (by omega), bAh_F (pl := A 174) (sz := A 170) (fun q => by have q2 := q.2; omega), ← Int.sub_sub] at ih
                  exact WP2_kill 8 (WP2_kill 10 ih)
                · refine WP_n 2 rfl ?_
                  refine WP_icmpge rfl rfl ⟨by omega, by omega⟩ ⟨by omega, by omega⟩ (fun h98 => ?_) (fun h98 => ?_)
                  · refine WP_n 2 rfl ?_
                    have q91 : ¬ (pr * A 170 T % al < pr * A 170 u % al) := fun q => h91 (cmpI_gt.mpr q)
                    have q95 := cmpI_eq.mp (by omega : cmpI (pr * A 170 u % al) (pr * A 170 T % al) = 0)
                    rw [bCo_T (pl := A 174) (by omega), bAh_F (pl := A 174) (sz := A 170) (fun q => by have q2 := q.2; omega), ← Int.sub_sub] at ih
                    exact WP2_kill 8 (WP2_kill 10 ih)
                  · refine WP_n 3 rfl ?_
                    have q91 : ¬ (pr * A 170 T % al < pr * A 170 u % al) := fun q => h91 (cmpI_gt.mpr q)
                    have q95 := cmpI_eq.mp (by omega : cmpI (pr * A 170 u % al) (pr * A 170 T % al) = 0)
                    rw [bCo_T (pl := A 174) (by omega), bAh_T (pl := A 174) (sz := A 170) ⟨by omega, Or.inr (by omega)⟩, ← Int.sub_sub] at ih
                    exact WP2_kill 8 (WP2_kill 10 ih)
            · refine WP_n 3 rfl ?_
              rw [bCo_F (pl := A 174) (by omega), bAh_F (pl := A 174) (fun q => absurd q.1 (by omega))] at ih
              exact ih
        rw [show pr - bCo (A 174) (A 170) (F : Int) pr al 0 = pr from Int.sub_zero pr] at key
        exact key
      · intro u hu ih
        have hqu := hI.2.2.2.2.1 u (by omega)
        unfold mTm at hqu
        have hb := hbs u (by omega)
        refine WP_n 2 rfl ?_
        refine WP2_getf rfl rfl rfl rfl rfl ?_
        refine WP_icmpge rfl rfl ⟨by omega, by omega⟩ ⟨by omega, by omega⟩ (fun h25 => absurd h25 (by omega)) (fun h25 => ?_)
        refine WP_n 1 rfl ?_
        refine WP2_getf rfl rfl rfl rfl rfl ?_
        refine WP_n 1 rfl ?_
        refine WP2_iald (j := u) rfl rfl (ia_lit (n := 16) rfl rfl (by omega)) (by omega) (by omega) (by omega) ?_
        refine WP_n 1 rfl ?_
        refine WP_icmpne rfl rfl ⟨by omega, by omega⟩ ⟨by omega, by omega⟩ (fun h31 => ?_) (fun h31 => ?_)
        · refine WP_n 2 rfl ?_
          have e : bAll (A 174) (A 170) (F : Int) (u + 1) = bAll (A 174) (A 170) (F : Int) u := by
            show bAll (A 174) (A 170) (F : Int) u + (if _ then _ else _) = _
            rw [if_neg h31]
            omega
          rw [e] at ih
          exact ih
        · refine WP_n 2 rfl ?_
          refine WP2_getf rfl rfl rfl rfl rfl ?_
          refine WP_n 1 rfl ?_
          refine WP2_iald (j := u) rfl rfl (ia_lit (n := 16) rfl rfl (by omega)) (by omega) (by omega) (by omega) ?_
          refine WP_n 4 rfl ?_
          have e : bAll (A 174) (A 170) (F : Int) (u + 1) = bAll (A 174) (A 170) (F : Int) u + A 170 u := by
            show bAll (A 174) (A 170) (F : Int) u + (if _ then _ else _) = _
            rw [if_pos (by omega)]
          rw [e] at ih
          exact ih
    · refine WP_n 1 rfl ?_
      exact WP_iret rfl rfl rfl ⟨_, rfl, r0 T (by omega)⟩
theorem pr_bill {P : PP} {n : Nat} {FI A L : Nat → Nat → Int} {X : SX} (h : INV P n FI A X) (hn : n < 512) {t : Int} (ht : inR t) : PAIR P n (FI, A, L, X) M_F_bill [some (vr 5), some (vi t)] M_G_bill [some (vr 165), some (vi t), none, none, none, none, none, none, none, none, none, none] := by
  intro d
  have hm := h.mI
  have hn5 := h.1
  have hcI := h.2.1
  have hG := h.2.2.1
  have hk1 := hcI.1
  have g1 := hG.1
  obtain ⟨c, hc⟩ : ∃ c : Nat, FI 6 8 = (c : Int) := ⟨(FI 6 8).toNat, by omega⟩
  have hc2 : FI 165 0 = (c : Int) := by rw [g1]; exact hc
  refine sp_F_bill hcI hc ht (fun c1 => ?_) (fun T c1 => ?_) (fun T F c1 => ?_)
  · refine ⟨_, rfl, ?_⟩
    refine sp_G_bill (hm.up (by omega)) hc2 ht (fun c2 => ?_) (fun T' c2 => ?_) (fun T' F' c2 => ?_)
    · exact ⟨rfl, INV_ref h hn (by omega)⟩
    · exfalso; omega
    · exfalso; omega
  · refine ⟨_, rfl, ?_⟩
    have q := hG.2.2.2.1 T (by omega)
    unfold gTm at q
    refine sp_G_bill hm hc2 ht (fun c2 => ?_) (fun T' c2 => ?_) (fun T' F' c2 => ?_)
    · exfalso; omega
    · exact ⟨rfl, h.next hn⟩
    · obtain rfl : T = T' := by omega
      exfalso; omega
  · refine ⟨_, rfl, ?_⟩
    have q := hG.2.2.2.1 T (by omega)
    unfold gTm at q
    refine sp_G_bill hm hc2 ht (fun c2 => ?_) (fun T' c2 => ?_) (fun T' F' c2 => ?_)
    · exfalso; omega
    · obtain rfl : T = T' := by omega
      exfalso; omega
    · obtain rfl : T = T' := by omega
      obtain rfl : F = F' := by omega
      have ht9 : ∀ t, t < c → A 174 t = A (20 + t) 4 ∧ A 170 t = A (20 + t) 0 := fun t ht => by
        have r := hG.2.2.2.1 t (by omega)
        unfold gTm at r
        omega
      have gf := hG.2.2.1 F (by omega)
      unfold gFl at gf
      have ea : bAll (A 174) (A 170) (F : Int) c = bAll (fun t => A (20 + t) 4) (fun t => A (20 + t) 0) (F : Int) c := sumN_congr c (fun t ht => by rw [(ht9 t ht).1, (ht9 t ht).2])
      refine ⟨congrArg (fun z => some (vi z)) ?_, h.next hn⟩
      rw [ea, gf.1, gf.2.2.1]
      exact BLv_congr (by omega) ht9
end
